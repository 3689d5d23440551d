theorem dX12_nextRow_0 : decode cX12_nextRow 0 = .ok (.aload_n 0, 1) := by decide +kernel
theorem dX12_nextRow_1 : decode cX12_nextRow 1 = .ok (.getfield 33, 3) := by decide +kernel
theorem dX12_nextRow_4 : decode cX12_nextRow 4 = .ok (.iconst 2, 1) := by decide +kernel
theorem dX12_nextRow_5 : decode cX12_nextRow 5 = .ok (.iaload, 1) := by decide +kernel
theorem dX12_nextRow_6 : decode cX12_nextRow 6 = .ok (.iconst 1, 1) := by decide +kernel
theorem dX12_nextRow_7 : decode cX12_nextRow 7 = .ok (.isub, 1) := by decide +kernel
theorem dX12_nextRow_8 : decode cX12_nextRow 8 = .ok (.istore_n 1, 1) := by decide +kernel
theorem dX12_nextRow_9 : decode cX12_nextRow 9 = .ok (.iload_n 1, 1) := by decide +kernel
theorem dX12_nextRow_10 : decode cX12_nextRow 10 = .ok (.ifCond .lt 43, 3) := by decide +kernel
theorem dX12_nextRow_13 : decode cX12_nextRow 13 = .ok (.aload_n 0, 1) := by decide +kernel
theorem dX12_nextRow_14 : decode cX12_nextRow 14 = .ok (.getfield 62, 3) := by decide +kernel
theorem dX12_nextRow_17 : decode cX12_nextRow 17 = .ok (.iload_n 1, 1) := by decide +kernel
theorem dX12_nextRow_18 : decode cX12_nextRow 18 = .ok (.dup2, 1) := by decide +kernel
theorem dX12_nextRow_19 : decode cX12_nextRow 19 = .ok (.iaload, 1) := by decide +kernel
theorem dX12_nextRow_20 : decode cX12_nextRow 20 = .ok (.iconst 1, 1) := by decide +kernel
theorem dX12_nextRow_21 : decode cX12_nextRow 21 = .ok (.iadd, 1) := by decide +kernel
theorem dX12_nextRow_22 : decode cX12_nextRow 22 = .ok (.iastore, 1) := by decide +kernel
theorem dX12_nextRow_23 : decode cX12_nextRow 23 = .ok (.aload_n 0, 1) := by decide +kernel
theorem dX12_nextRow_24 : decode cX12_nextRow 24 = .ok (.getfield 62, 3) := by decide +kernel
theorem dX12_nextRow_27 : decode cX12_nextRow 27 = .ok (.iload_n 1, 1) := by decide +kernel
theorem dX12_nextRow_28 : decode cX12_nextRow 28 = .ok (.iaload, 1) := by decide +kernel
theorem dX12_nextRow_29 : decode cX12_nextRow 29 = .ok (.aload_n 0, 1) := by decide +kernel
theorem dX12_nextRow_30 : decode cX12_nextRow 30 = .ok (.getfield 33, 3) := by decide +kernel
theorem dX12_nextRow_33 : decode cX12_nextRow 33 = .ok (.iconst 0, 1) := by decide +kernel
theorem dX12_nextRow_34 : decode cX12_nextRow 34 = .ok (.iaload, 1) := by decide +kernel
theorem dX12_nextRow_35 : decode cX12_nextRow 35 = .ok (.if_icmp .gt 5, 3) := by decide +kernel
theorem dX12_nextRow_38 : decode cX12_nextRow 38 = .ok (.iconst 1, 1) := by decide +kernel
theorem dX12_nextRow_39 : decode cX12_nextRow 39 = .ok (.ireturn, 1) := by decide +kernel
theorem dX12_nextRow_40 : decode cX12_nextRow 40 = .ok (.aload_n 0, 1) := by decide +kernel
theorem dX12_nextRow_41 : decode cX12_nextRow 41 = .ok (.getfield 62, 3) := by decide +kernel
theorem dX12_nextRow_44 : decode cX12_nextRow 44 = .ok (.iload_n 1, 1) := by decide +kernel
theorem dX12_nextRow_45 : decode cX12_nextRow 45 = .ok (.iconst 0, 1) := by decide +kernel
theorem dX12_nextRow_46 : decode cX12_nextRow 46 = .ok (.iastore, 1) := by decide +kernel
theorem dX12_nextRow_47 : decode cX12_nextRow 47 = .ok (.iinc 1 (-1), 3) := by decide +kernel
theorem dX12_nextRow_50 : decode cX12_nextRow 50 = .ok (.goto (-41), 3) := by decide +kernel
theorem dX12_nextRow_53 : decode cX12_nextRow 53 = .ok (.iconst 0, 1) := by decide +kernel
theorem dX12_nextRow_54 : decode cX12_nextRow 54 = .ok (.ireturn, 1) := by decide +kernel
set_option maxHeartbeats 4000000 in
theorem w_l_M_nextRow_0 {ad wad : Nat → Nat} {Γ : Ctx} (F : Nat) {n : Nat} (hn : 1 ≤ n) (hG : Cx SHm ad wad cX12_nextRow 2 RX12 (some .boolean) (n) Γ) {q : Int32 × HS} {g : Nat} {x1 : Int32} {h : HS} (hd : l_M_nextRow_0 F g x1 h = some q) : AW SHm ad 2 (some (.int q.1), q.2) Γ 9 [(0, .ref (ad 0)), (1, .int x1)] [] h := by
  induction g generalizing x1 h with
  | zero => unfold l_M_nextRow_0 at hd; cases hd
  | succ g ih =>
    unfold l_M_nextRow_0 at hd
    refine a_iload_n (pc := 9) hG 1 rfl dX12_nextRow_9 rfl ?_
    refine a_if_lt (pc := 10) hG (tgt := 53) hd dX12_nextRow_10 (by decide) (fun hd => ?_) (fun hd => ?_)
    · refine a_iconst (pc := 53) hG dX12_nextRow_53 (v := (nI 0)) rfl ?_
      exact a_zret (pc := 54) hG hd dX12_nextRow_54
    refine a_aload_n (pc := 13) hG 0 rfl dX12_nextRow_13 rfl ?_
    refine a_getR (pc := 14) hG sm_0 cl_X12 ok_X12 26 (by decide) rfl t_1635 dX12_nextRow_14 ?_
    refine a_iload_n (pc := 17) hG 1 rfl dX12_nextRow_17 rfl ?_
    refine a_dup2 (pc := 18) hG dX12_nextRow_18 rfl rfl ?_
    refine a_iald (pc := 19) hG sm_11 hd dX12_nextRow_19 (fun hd => ?_)
    refine a_iconst (pc := 20) hG dX12_nextRow_20 (v := (nI 1)) rfl ?_
    refine a_iadd (pc := 21) hG dX12_nextRow_21 ?_
    refine a_iast (pc := 22) hG sm_11 hd dX12_nextRow_22 (fun h2 hd => ?_)
    refine a_aload_n (pc := 23) hG 0 rfl dX12_nextRow_23 rfl ?_
    refine a_getR (pc := 24) hG sm_0 cl_X12 ok_X12 26 (by decide) rfl t_1635 dX12_nextRow_24 ?_
    refine a_iload_n (pc := 27) hG 1 rfl dX12_nextRow_27 rfl ?_
    refine a_iald (pc := 28) hG sm_11 hd dX12_nextRow_28 (fun hd => ?_)
    refine a_aload_n (pc := 29) hG 0 rfl dX12_nextRow_29 rfl ?_
    refine a_getR (pc := 30) hG sm_0 cl_X12 ok_X12 6 (by decide) rfl t_1615 dX12_nextRow_30 ?_
    refine a_iconst (pc := 33) hG dX12_nextRow_33 (v := (nI 0)) rfl ?_
    refine a_iald (pc := 34) hG sm_2 hd dX12_nextRow_34 (fun hd => ?_)
    refine a_ic_gt (pc := 35) hG (tgt := 40) hd dX12_nextRow_35 (by decide) (fun hd => ?_) (fun hd => ?_)
    · refine a_aload_n (pc := 40) hG 0 rfl dX12_nextRow_40 rfl ?_
      refine a_getR (pc := 41) hG sm_0 cl_X12 ok_X12 26 (by decide) rfl t_1635 dX12_nextRow_41 ?_
      refine a_iload_n (pc := 44) hG 1 rfl dX12_nextRow_44 rfl ?_
      refine a_iconst (pc := 45) hG dX12_nextRow_45 (v := (nI 0)) rfl ?_
      refine a_iast (pc := 46) hG sm_11 hd dX12_nextRow_46 (fun h3 hd => ?_)
      refine a_iincN (pc := 47) hG (c0 := (-1 : Int32)) 1 rfl hd dX12_nextRow_47 rfl (by decide) (lf := fun x => [(1, .int x), (0, .ref (ad 0))]) (fun _ => rfl) (fun v4 hd => ?_)
      refine a_goto (pc := 50) hG (tgt := 9) dX12_nextRow_50 (by decide) ?_
      exact AW.sub [1, 0] rfl (ih hd)
    refine a_iconst (pc := 38) hG dX12_nextRow_38 (v := (nI 1)) rfl ?_
    exact a_zret (pc := 39) hG hd dX12_nextRow_39
set_option maxHeartbeats 4000000 in
theorem c_M_nextRow {ad wad : Nat → Nat} (F : Nat)  (h : HS)  (q : Int32 × HS) (hd : f_M_nextRow F  h = some q) : Ctr SHm ad wad yX12_nextRow cX12_nextRow 2 (some .boolean) 1 [.ref (ad 0)] h (some (.int q.1), q.2) := by
  refine enter (own := RX12) (lv := [(0, .ref (ad 0))]) (by decide +kernel) rfl (Nat.le_of_ble_eq_true rfl) rfl (fun Γ hG => ?_)
  unfold f_M_nextRow at hd
  refine a_aload_n (pc := 0) hG 0 rfl dX12_nextRow_0 rfl ?_
  refine a_getR (pc := 1) hG sm_0 cl_X12 ok_X12 6 (by decide) rfl t_1615 dX12_nextRow_1 ?_
  refine a_iconst (pc := 4) hG dX12_nextRow_4 (v := (nI 2)) rfl ?_
  refine a_iald (pc := 5) hG sm_2 hd dX12_nextRow_5 (fun hd => ?_)
  refine a_iconst (pc := 6) hG dX12_nextRow_6 (v := (nI 1)) rfl ?_
  refine a_isub (pc := 7) hG dX12_nextRow_7 ?_
  refine a_istore_nN (pc := 8) hG hd dX12_nextRow_8 rfl (by decide) (lf := fun x => [(1, .int x), (0, .ref (ad 0))]) (fun _ => rfl) (fun v1 hd => ?_)
  refine AW.sub [1, 0] rfl ?_
  exact w_l_M_nextRow_0 F (by omega) hG hd
theorem dX12_match_0 : decode cX12_match 0 = .ok (.aload_n 0, 1) := by decide +kernel
theorem dX12_match_1 : decode cX12_match 1 = .ok (.iconst 0, 1) := by decide +kernel
theorem dX12_match_2 : decode cX12_match 2 = .ok (.putfield 1, 3) := by decide +kernel
theorem dX12_match_5 : decode cX12_match 5 = .ok (.iconst 0, 1) := by decide +kernel
theorem dX12_match_6 : decode cX12_match 6 = .ok (.istore_n 1, 1) := by decide +kernel
theorem dX12_match_7 : decode cX12_match 7 = .ok (.iload_n 1, 1) := by decide +kernel
theorem dX12_match_8 : decode cX12_match 8 = .ok (.aload_n 0, 1) := by decide +kernel
theorem dX12_match_9 : decode cX12_match 9 = .ok (.getfield 33, 3) := by decide +kernel
theorem dX12_match_12 : decode cX12_match 12 = .ok (.iconst 2, 1) := by decide +kernel
theorem dX12_match_13 : decode cX12_match 13 = .ok (.iaload, 1) := by decide +kernel
theorem dX12_match_14 : decode cX12_match 14 = .ok (.if_icmp .ge 51, 3) := by decide +kernel
theorem dX12_match_17 : decode cX12_match 17 = .ok (.aload_n 0, 1) := by decide +kernel
theorem dX12_match_18 : decode cX12_match 18 = .ok (.getfield 62, 3) := by decide +kernel
theorem dX12_match_21 : decode cX12_match 21 = .ok (.iload_n 1, 1) := by decide +kernel
theorem dX12_match_22 : decode cX12_match 22 = .ok (.iconst 0, 1) := by decide +kernel
theorem dX12_match_23 : decode cX12_match 23 = .ok (.iastore, 1) := by decide +kernel
theorem dX12_match_24 : decode cX12_match 24 = .ok (.iconst 0, 1) := by decide +kernel
theorem dX12_match_25 : decode cX12_match 25 = .ok (.istore_n 2, 1) := by decide +kernel
theorem dX12_match_26 : decode cX12_match 26 = .ok (.iload_n 2, 1) := by decide +kernel
theorem dX12_match_27 : decode cX12_match 27 = .ok (.aload_n 0, 1) := by decide +kernel
theorem dX12_match_28 : decode cX12_match 28 = .ok (.getfield 33, 3) := by decide +kernel
theorem dX12_match_31 : decode cX12_match 31 = .ok (.iconst 0, 1) := by decide +kernel
theorem dX12_match_32 : decode cX12_match 32 = .ok (.iaload, 1) := by decide +kernel
theorem dX12_match_33 : decode cX12_match 33 = .ok (.if_icmp .ge 26, 3) := by decide +kernel
theorem dX12_match_36 : decode cX12_match 36 = .ok (.aload_n 0, 1) := by decide +kernel
theorem dX12_match_37 : decode cX12_match 37 = .ok (.getfield 59, 3) := by decide +kernel
theorem dX12_match_40 : decode cX12_match 40 = .ok (.bipush 6, 2) := by decide +kernel
theorem dX12_match_42 : decode cX12_match 42 = .ok (.iload_n 1, 1) := by decide +kernel
theorem dX12_match_43 : decode cX12_match 43 = .ok (.imul, 1) := by decide +kernel
theorem dX12_match_44 : decode cX12_match 44 = .ok (.iload_n 2, 1) := by decide +kernel
theorem dX12_match_45 : decode cX12_match 45 = .ok (.iadd, 1) := by decide +kernel
theorem dX12_match_46 : decode cX12_match 46 = .ok (.aload_n 0, 1) := by decide +kernel
theorem dX12_match_47 : decode cX12_match 47 = .ok (.iload_n 1, 1) := by decide +kernel
theorem dX12_match_48 : decode cX12_match 48 = .ok (.iload_n 2, 1) := by decide +kernel
theorem dX12_match_49 : decode cX12_match 49 = .ok (.invokevirtual 325, 3) := by decide +kernel
theorem dX12_match_52 : decode cX12_match 52 = .ok (.iastore, 1) := by decide +kernel
theorem dX12_match_53 : decode cX12_match 53 = .ok (.iinc 2 1, 3) := by decide +kernel
theorem dX12_match_56 : decode cX12_match 56 = .ok (.goto (-30), 3) := by decide +kernel
theorem dX12_match_59 : decode cX12_match 59 = .ok (.iinc 1 1, 3) := by decide +kernel
theorem dX12_match_62 : decode cX12_match 62 = .ok (.goto (-55), 3) := by decide +kernel
theorem dX12_match_65 : decode cX12_match 65 = .ok (.iconst (-1), 1) := by decide +kernel
theorem dX12_match_66 : decode cX12_match 66 = .ok (.istore_n 1, 1) := by decide +kernel
theorem dX12_match_67 : decode cX12_match 67 = .ok (.iconst 1, 1) := by decide +kernel
theorem dX12_match_68 : decode cX12_match 68 = .ok (.istore_n 2, 1) := by decide +kernel
theorem dX12_match_69 : decode cX12_match 69 = .ok (.iload_n 2, 1) := by decide +kernel
theorem dX12_match_70 : decode cX12_match 70 = .ok (.ifCond .eq 59, 3) := by decide +kernel
theorem dX12_match_73 : decode cX12_match 73 = .ok (.aload_n 0, 1) := by decide +kernel
theorem dX12_match_74 : decode cX12_match 74 = .ok (.invokevirtual 329, 3) := by decide +kernel
theorem dX12_match_77 : decode cX12_match 77 = .ok (.istore_n 3, 1) := by decide +kernel
theorem dX12_match_78 : decode cX12_match 78 = .ok (.iload_n 3, 1) := by decide +kernel
theorem dX12_match_79 : decode cX12_match 79 = .ok (.iload_n 1, 1) := by decide +kernel
theorem dX12_match_80 : decode cX12_match 80 = .ok (.if_icmp .le 41, 3) := by decide +kernel
theorem dX12_match_83 : decode cX12_match 83 = .ok (.iload_n 3, 1) := by decide +kernel
theorem dX12_match_84 : decode cX12_match 84 = .ok (.istore_n 1, 1) := by decide +kernel
theorem dX12_match_85 : decode cX12_match 85 = .ok (.iconst 0, 1) := by decide +kernel
theorem dX12_match_86 : decode cX12_match 86 = .ok (.istore 4, 2) := by decide +kernel
theorem dX12_match_88 : decode cX12_match 88 = .ok (.iload 4, 2) := by decide +kernel
theorem dX12_match_90 : decode cX12_match 90 = .ok (.aload_n 0, 1) := by decide +kernel
theorem dX12_match_91 : decode cX12_match 91 = .ok (.getfield 33, 3) := by decide +kernel
theorem dX12_match_94 : decode cX12_match 94 = .ok (.iconst 2, 1) := by decide +kernel
theorem dX12_match_95 : decode cX12_match 95 = .ok (.iaload, 1) := by decide +kernel
theorem dX12_match_96 : decode cX12_match 96 = .ok (.if_icmp .ge 25, 3) := by decide +kernel
theorem dX12_match_99 : decode cX12_match 99 = .ok (.aload_n 0, 1) := by decide +kernel
theorem dX12_match_100 : decode cX12_match 100 = .ok (.getfield 65, 3) := by decide +kernel
theorem dX12_match_103 : decode cX12_match 103 = .ok (.iload 4, 2) := by decide +kernel
theorem dX12_match_105 : decode cX12_match 105 = .ok (.aload_n 0, 1) := by decide +kernel
theorem dX12_match_106 : decode cX12_match 106 = .ok (.getfield 62, 3) := by decide +kernel
theorem dX12_match_109 : decode cX12_match 109 = .ok (.iload 4, 2) := by decide +kernel
theorem dX12_match_111 : decode cX12_match 111 = .ok (.iaload, 1) := by decide +kernel
theorem dX12_match_112 : decode cX12_match 112 = .ok (.iconst 1, 1) := by decide +kernel
theorem dX12_match_113 : decode cX12_match 113 = .ok (.isub, 1) := by decide +kernel
theorem dX12_match_114 : decode cX12_match 114 = .ok (.iastore, 1) := by decide +kernel
theorem dX12_match_115 : decode cX12_match 115 = .ok (.iinc 4 1, 3) := by decide +kernel
theorem dX12_match_118 : decode cX12_match 118 = .ok (.goto (-30), 3) := by decide +kernel
theorem dX12_match_121 : decode cX12_match 121 = .ok (.aload_n 0, 1) := by decide +kernel
theorem dX12_match_122 : decode cX12_match 122 = .ok (.invokevirtual 332, 3) := by decide +kernel
theorem dX12_match_125 : decode cX12_match 125 = .ok (.istore_n 2, 1) := by decide +kernel
theorem dX12_match_126 : decode cX12_match 126 = .ok (.goto (-57), 3) := by decide +kernel
theorem dX12_match_129 : decode cX12_match 129 = .ok (.aload_n 0, 1) := by decide +kernel
theorem dX12_match_130 : decode cX12_match 130 = .ok (.aload_n 0, 1) := by decide +kernel
theorem dX12_match_131 : decode cX12_match 131 = .ok (.getfield 33, 3) := by decide +kernel
theorem dX12_match_134 : decode cX12_match 134 = .ok (.iconst 2, 1) := by decide +kernel
theorem dX12_match_135 : decode cX12_match 135 = .ok (.iaload, 1) := by decide +kernel
theorem dX12_match_136 : decode cX12_match 136 = .ok (.putfield 68, 3) := by decide +kernel
theorem dX12_match_139 : decode cX12_match 139 = .ok (.iload_n 1, 1) := by decide +kernel
theorem dX12_match_140 : decode cX12_match 140 = .ok (.ireturn, 1) := by decide +kernel
set_option maxHeartbeats 4000000 in
theorem w_l_M_match_1 {ad wad : Nat → Nat} {Γ : Ctx} (F : Nat) {n : Nat} (hn : 9 ≤ n) (hG : Cx SHm ad wad cX12_match 5 RX12 (some .int) (n) Γ) {q : Int32 × HS} {x1 : Int32} {K0 : HS → Option (Int32 × HS)} {g : Nat} {x2 : Int32} {h : HS} (hd : l_M_match_1 F x1 K0 g x2 h = some q) (hK0 : ∀ (z : HS), K0 z = some q → AW SHm ad 5 (some (.int q.1), q.2) Γ 59 [(0, .ref (ad 0)), (1, .int x1)] [] z) : AW SHm ad 5 (some (.int q.1), q.2) Γ 26 [(0, .ref (ad 0)), (1, .int x1), (2, .int x2)] [] h := by
  induction g generalizing x2 h with
  | zero => unfold l_M_match_1 at hd; cases hd
  | succ g ih =>
    unfold l_M_match_1 at hd
    refine a_iload_n (pc := 26) hG 2 rfl dX12_match_26 rfl ?_
    refine a_aload_n (pc := 27) hG 0 rfl dX12_match_27 rfl ?_
    refine a_getR (pc := 28) hG sm_0 cl_X12 ok_X12 6 (by decide) rfl t_1615 dX12_match_28 ?_
    refine a_iconst (pc := 31) hG dX12_match_31 (v := (nI 0)) rfl ?_
    refine a_iald (pc := 32) hG sm_2 hd dX12_match_32 (fun hd => ?_)
    refine a_ic_ge (pc := 33) hG (tgt := 59) hd dX12_match_33 (by decide) (fun hd => ?_) (fun hd => ?_)
    · exact AW.sub [0, 1] rfl (hK0  _ hd)
    refine a_aload_n (pc := 36) hG 0 rfl dX12_match_36 rfl ?_
    refine a_getR (pc := 37) hG sm_0 cl_X12 ok_X12 25 (by decide) rfl t_1634 dX12_match_37 ?_
    refine a_bipush (pc := 40) hG dX12_match_40 (v := (nI 6)) rfl ?_
    refine a_iload_n (pc := 42) hG 1 rfl dX12_match_42 rfl ?_
    refine a_imul (pc := 43) hG dX12_match_43 ?_
    refine a_iload_n (pc := 44) hG 2 rfl dX12_match_44 rfl ?_
    refine a_iadd (pc := 45) hG dX12_match_45 ?_
    refine a_aload_n (pc := 46) hG 0 rfl dX12_match_46 rfl ?_
    refine a_iload_n (pc := 47) hG 1 rfl dX12_match_47 rfl ?_
    refine a_iload_n (pc := 48) hG 2 rfl dX12_match_48 rfl ?_
    refine a_cvI (pc := 49) hG (As := [.int x1, .int x2]) (st := [.int (((nI 6) * x1) + x2), .ref (ad 10)]) sm_0 cl_X12 mk_X12_valueOf t_1991 (by omega) (fun z hz => c_M_valueOf F x1 x2 _  z hz) rfl (Nat.le_of_ble_eq_true rfl) hd dX12_match_49 (fun r6 h5 hd => ?_)
    refine a_iast (pc := 52) hG sm_10 hd dX12_match_52 (fun h7 hd => ?_)
    refine a_iincN (pc := 53) hG (c0 := (nI 1)) 2 rfl hd dX12_match_53 rfl (by decide) (lf := fun x => [(2, .int x), (0, .ref (ad 0)), (1, .int x1)]) (fun _ => rfl) (fun v8 hd => ?_)
    refine a_goto (pc := 56) hG (tgt := 26) dX12_match_56 (by decide) ?_
    exact AW.sub [1, 2, 0] rfl (ih hd)
set_option maxHeartbeats 4000000 in
theorem w_l_M_match_0 {ad wad : Nat → Nat} {Γ : Ctx} (F : Nat) {n : Nat} (hn : 9 ≤ n) (hG : Cx SHm ad wad cX12_match 5 RX12 (some .int) (n) Γ) {q : Int32 × HS} {K0 : HS → Option (Int32 × HS)} {g : Nat} {x1 : Int32} {h : HS} (hd : l_M_match_0 F K0 g x1 h = some q) (hK0 : ∀ (z : HS), K0 z = some q → AW SHm ad 5 (some (.int q.1), q.2) Γ 65 [(0, .ref (ad 0))] [] z) : AW SHm ad 5 (some (.int q.1), q.2) Γ 7 [(0, .ref (ad 0)), (1, .int x1)] [] h := by
  induction g generalizing x1 h with
  | zero => unfold l_M_match_0 at hd; cases hd
  | succ g ih =>
    unfold l_M_match_0 at hd
    refine a_iload_n (pc := 7) hG 1 rfl dX12_match_7 rfl ?_
    refine a_aload_n (pc := 8) hG 0 rfl dX12_match_8 rfl ?_
    refine a_getR (pc := 9) hG sm_0 cl_X12 ok_X12 6 (by decide) rfl t_1615 dX12_match_9 ?_
    refine a_iconst (pc := 12) hG dX12_match_12 (v := (nI 2)) rfl ?_
    refine a_iald (pc := 13) hG sm_2 hd dX12_match_13 (fun hd => ?_)
    refine a_ic_ge (pc := 14) hG (tgt := 65) hd dX12_match_14 (by decide) (fun hd => ?_) (fun hd => ?_)
    · exact AW.sub [0] rfl (hK0  _ hd)
    refine a_aload_n (pc := 17) hG 0 rfl dX12_match_17 rfl ?_
    refine a_getR (pc := 18) hG sm_0 cl_X12 ok_X12 26 (by decide) rfl t_1635 dX12_match_18 ?_
    refine a_iload_n (pc := 21) hG 1 rfl dX12_match_21 rfl ?_
    refine a_iconst (pc := 22) hG dX12_match_22 (v := (nI 0)) rfl ?_
    refine a_iast (pc := 23) hG sm_11 hd dX12_match_23 (fun h3 hd => ?_)
    refine a_iconst (pc := 24) hG dX12_match_24 (v := (nI 0)) rfl ?_
    refine a_istore_nN (pc := 25) hG hd dX12_match_25 rfl (by decide) (lf := fun x => [(2, .int x), (0, .ref (ad 0)), (1, .int x1)]) (fun _ => rfl) (fun v4 hd => ?_)
    refine AW.sub [1, 2, 0] rfl ?_
    refine w_l_M_match_1 F (by omega) hG hd (fun h9 hd => ?_)
    refine a_iincN (pc := 59) hG (c0 := (nI 1)) 1 rfl hd dX12_match_59 rfl (by decide) (lf := fun x => [(1, .int x), (0, .ref (ad 0))]) (fun _ => rfl) (fun v10 hd => ?_)
    refine a_goto (pc := 62) hG (tgt := 7) dX12_match_62 (by decide) ?_
    exact AW.sub [1, 0] rfl (ih hd)
set_option maxHeartbeats 4000000 in
theorem w_l_M_match_3 {ad wad : Nat → Nat} {Γ : Ctx} (F : Nat) {n : Nat} (hn : 9 ≤ n) (hG : Cx SHm ad wad cX12_match 5 RX12 (some .int) (n) Γ) {q : Int32 × HS} {x1 : Int32} {K0 : HS → Option (Int32 × HS)} {g : Nat} {x4 : Int32} {h : HS} (hd : l_M_match_3 F x1 K0 g x4 h = some q) (hK0 : ∀ (z : HS), K0 z = some q → AW SHm ad 5 (some (.int q.1), q.2) Γ 121 [(0, .ref (ad 0)), (1, .int x1)] [] z) : AW SHm ad 5 (some (.int q.1), q.2) Γ 88 [(0, .ref (ad 0)), (1, .int x1), (4, .int x4)] [] h := by
  induction g generalizing x4 h with
  | zero => unfold l_M_match_3 at hd; cases hd
  | succ g ih =>
    unfold l_M_match_3 at hd
    refine a_iload (pc := 88) hG 2 rfl dX12_match_88 ?_
    refine a_aload_n (pc := 90) hG 0 rfl dX12_match_90 rfl ?_
    refine a_getR (pc := 91) hG sm_0 cl_X12 ok_X12 6 (by decide) rfl t_1615 dX12_match_91 ?_
    refine a_iconst (pc := 94) hG dX12_match_94 (v := (nI 2)) rfl ?_
    refine a_iald (pc := 95) hG sm_2 hd dX12_match_95 (fun hd => ?_)
    refine a_ic_ge (pc := 96) hG (tgt := 121) hd dX12_match_96 (by decide) (fun hd => ?_) (fun hd => ?_)
    · exact AW.sub [0, 1] rfl (hK0  _ hd)
    refine a_aload_n (pc := 99) hG 0 rfl dX12_match_99 rfl ?_
    refine a_getR (pc := 100) hG sm_0 cl_X12 ok_X12 27 (by decide) rfl t_1636 dX12_match_100 ?_
    refine a_iload (pc := 103) hG 2 rfl dX12_match_103 ?_
    refine a_aload_n (pc := 105) hG 0 rfl dX12_match_105 rfl ?_
    refine a_getR (pc := 106) hG sm_0 cl_X12 ok_X12 26 (by decide) rfl t_1635 dX12_match_106 ?_
    refine a_iload (pc := 109) hG 2 rfl dX12_match_109 ?_
    refine a_iald (pc := 111) hG sm_11 hd dX12_match_111 (fun hd => ?_)
    refine a_iconst (pc := 112) hG dX12_match_112 (v := (nI 1)) rfl ?_
    refine a_isub (pc := 113) hG dX12_match_113 ?_
    refine a_iast (pc := 114) hG sm_12 hd dX12_match_114 (fun h25 hd => ?_)
    refine a_iincN (pc := 115) hG (c0 := (nI 1)) 2 rfl hd dX12_match_115 rfl (by decide) (lf := fun x => [(4, .int x), (0, .ref (ad 0)), (1, .int x1)]) (fun _ => rfl) (fun v26 hd => ?_)
    refine a_goto (pc := 118) hG (tgt := 88) dX12_match_118 (by decide) ?_
    exact AW.sub [1, 2, 0] rfl (ih hd)
set_option maxHeartbeats 4000000 in
theorem w_l_M_match_2 {ad wad : Nat → Nat} {Γ : Ctx} (F : Nat) {n : Nat} (hn : 9 ≤ n) (hG : Cx SHm ad wad cX12_match 5 RX12 (some .int) (n) Γ) {q : Int32 × HS} {K0 : Int32 → HS → Option (Int32 × HS)} {g : Nat} {x1 : Int32} {x2 : Int32} {h : HS} (hd : l_M_match_2 F K0 g x1 x2 h = some q) (hK0 : ∀ (y1 : Int32) (z : HS), K0 y1 z = some q → AW SHm ad 5 (some (.int q.1), q.2) Γ 129 [(0, .ref (ad 0)), (1, .int y1)] [] z) : AW SHm ad 5 (some (.int q.1), q.2) Γ 69 [(0, .ref (ad 0)), (1, .int x1), (2, .int x2)] [] h := by
  induction g generalizing x1 x2 h with
  | zero => unfold l_M_match_2 at hd; cases hd
  | succ g ih =>
    unfold l_M_match_2 at hd
    refine a_iload_n (pc := 69) hG 2 rfl dX12_match_69 rfl ?_
    refine a_if_eq (pc := 70) hG (tgt := 129) hd dX12_match_70 (by decide) (fun hd => ?_) (fun hd => ?_)
    · exact AW.sub [0, 1] rfl (hK0 _ _ hd)
    refine a_aload_n (pc := 73) hG 0 rfl dX12_match_73 rfl ?_
    refine a_cvI (pc := 74) hG (As := []) (st := []) sm_0 cl_X12 mk_X12_rowValue t_1999 (by omega) (fun z hz => c_M_rowValue F  _  z hz) rfl (Nat.le_of_ble_eq_true rfl) hd dX12_match_74 (fun r15 h14 hd => ?_)
    refine a_istore_nN (pc := 77) hG hd dX12_match_77 rfl (by decide) (lf := fun x => [(3, .int x), (0, .ref (ad 0)), (1, .int x1), (2, .int x2)]) (fun _ => rfl) (fun v16 hd => ?_)
    refine a_iload_n (pc := 78) hG 0 rfl dX12_match_78 rfl ?_
    refine a_iload_n (pc := 79) hG 2 rfl dX12_match_79 rfl ?_
    refine a_join hd (Q := fun J : Int32 → HS → Option (Int32 × HS) => ∀ (v18 : Int32) (h19 : HS), J v18 h19 = some q → AW SHm ad 5 (some (.int q.1), q.2) Γ 121 [(0, .ref (ad 0)), (1, .int v18)] [] h19) (fun v18 h19 hd => ?_) (fun J17 hJ17 hd => ?_)
    · refine a_aload_n (pc := 121) hG 0 rfl dX12_match_121 rfl ?_
      refine a_cvI (pc := 122) hG (As := []) (st := []) sm_0 cl_X12 mk_X12_nextRow t_2004 (by omega) (fun z hz => c_M_nextRow F  _  z hz) rfl (Nat.le_of_ble_eq_true rfl) hd dX12_match_122 (fun r21 h20 hd => ?_)
      refine a_istore_nN (pc := 125) hG hd dX12_match_125 rfl (by decide) (lf := fun x => [(2, .int x), (0, .ref (ad 0)), (1, .int v18)]) (fun _ => rfl) (fun v22 hd => ?_)
      refine a_goto (pc := 126) hG (tgt := 69) dX12_match_126 (by decide) ?_
      exact AW.sub [1, 2, 0] rfl (ih hd)
    refine a_ic_le (pc := 80) hG (tgt := 121) hd dX12_match_80 (by decide) (fun hd => ?_) (fun hd => ?_)
    · exact AW.sub [1, 2] rfl (hJ17 _ _ hd)
    refine a_iload_n (pc := 83) hG 0 rfl dX12_match_83 rfl ?_
    refine a_istore_nN (pc := 84) hG hd dX12_match_84 rfl (by decide) (lf := fun x => [(1, .int x), (3, .int v16), (0, .ref (ad 0)), (2, .int x2)]) (fun _ => rfl) (fun v23 hd => ?_)
    refine a_iconst (pc := 85) hG dX12_match_85 (v := (nI 0)) rfl ?_
    refine a_istoreN (pc := 86) hG hd dX12_match_86 (by decide) (lf := fun x => [(4, .int x), (1, .int v23), (3, .int v16), (0, .ref (ad 0)), (2, .int x2)]) (fun _ => rfl) (fun v24 hd => ?_)
    refine AW.sub [3, 1, 0] rfl ?_
    refine w_l_M_match_3 F (by omega) hG hd (fun h27 hd => ?_)
    exact AW.sub [0, 1] rfl (hJ17 _ _ hd)
set_option maxHeartbeats 4000000 in
theorem c_M_match {ad wad : Nat → Nat} (F : Nat)  (h : HS)  (q : Int32 × HS) (hd : f_M_match F  h = some q) : Ctr SHm ad wad yX12_match cX12_match 5 (some .int) 9 [.ref (ad 0)] h (some (.int q.1), q.2) := by
  refine enter (own := RX12) (lv := [(0, .ref (ad 0))]) (by decide +kernel) rfl (Nat.le_of_ble_eq_true rfl) rfl (fun Γ hG => ?_)
  unfold f_M_match at hd
  refine a_aload_n (pc := 0) hG 0 rfl dX12_match_0 rfl ?_
  refine a_iconst (pc := 1) hG dX12_match_1 (v := (nI 0)) rfl ?_
  refine a_putI (pc := 2) hG sm_0 cl_X12 ok_X12 0 (by decide) rfl t_1609 rfl (ty := .int) rfl rfl rfl hd dX12_match_2 (fun h1 hd => ?_)
  refine a_iconst (pc := 5) hG dX12_match_5 (v := (nI 0)) rfl ?_
  refine a_istore_nN (pc := 6) hG hd dX12_match_6 rfl (by decide) (lf := fun x => [(1, .int x), (0, .ref (ad 0))]) (fun _ => rfl) (fun v2 hd => ?_)
  refine AW.sub [1, 0] rfl ?_
  refine w_l_M_match_0 F (by omega) hG hd (fun h11 hd => ?_)
  refine a_iconst (pc := 65) hG dX12_match_65 (v := (-1 : Int32)) rfl ?_
  refine a_istore_nN (pc := 66) hG hd dX12_match_66 rfl (by decide) (lf := fun x => [(1, .int x), (0, .ref (ad 0))]) (fun _ => rfl) (fun v12 hd => ?_)
  refine a_iconst (pc := 67) hG dX12_match_67 (v := (nI 1)) rfl ?_
  refine a_istore_nN (pc := 68) hG hd dX12_match_68 rfl (by decide) (lf := fun x => [(2, .int x), (1, .int v12), (0, .ref (ad 0))]) (fun _ => rfl) (fun v13 hd => ?_)
  refine AW.sub [2, 1, 0] rfl ?_
  refine w_l_M_match_2 F (by omega) hG hd (fun v28 h29 hd => ?_)
  refine a_aload_n (pc := 129) hG 0 rfl dX12_match_129 rfl ?_
  refine a_aload_n (pc := 130) hG 0 rfl dX12_match_130 rfl ?_
  refine a_getR (pc := 131) hG sm_0 cl_X12 ok_X12 6 (by decide) rfl t_1615 dX12_match_131 ?_
  refine a_iconst (pc := 134) hG dX12_match_134 (v := (nI 2)) rfl ?_
  refine a_iald (pc := 135) hG sm_2 hd dX12_match_135 (fun hd => ?_)
  refine a_putI (pc := 136) hG sm_0 cl_X12 ok_X12 28 (by decide) rfl t_1637 rfl (ty := .int) rfl rfl rfl hd dX12_match_136 (fun h30 hd => ?_)
  refine a_iload_n (pc := 139) hG 1 rfl dX12_match_139 rfl ?_
  exact a_iret (pc := 140) hG hd dX12_match_140
theorem dX12_matched_0 : decode cX12_matched 0 = .ok (.aload_n 0, 1) := by decide +kernel
theorem dX12_matched_1 : decode cX12_matched 1 = .ok (.iconst 0, 1) := by decide +kernel
theorem dX12_matched_2 : decode cX12_matched 2 = .ok (.putfield 1, 3) := by decide +kernel
theorem dX12_matched_5 : decode cX12_matched 5 = .ok (.iload_n 1, 1) := by decide +kernel
theorem dX12_matched_6 : decode cX12_matched 6 = .ok (.iconst 0, 1) := by decide +kernel
theorem dX12_matched_7 : decode cX12_matched 7 = .ok (.aload_n 0, 1) := by decide +kernel
theorem dX12_matched_8 : decode cX12_matched 8 = .ok (.getfield 68, 3) := by decide +kernel
theorem dX12_matched_11 : decode cX12_matched 11 = .ok (.iconst 1, 1) := by decide +kernel
theorem dX12_matched_12 : decode cX12_matched 12 = .ok (.isub, 1) := by decide +kernel
theorem dX12_matched_13 : decode cX12_matched 13 = .ok (.invokestatic 184, 3) := by decide +kernel
theorem dX12_matched_16 : decode cX12_matched 16 = .ok (.ifCond .eq 12, 3) := by decide +kernel
theorem dX12_matched_19 : decode cX12_matched 19 = .ok (.aload_n 0, 1) := by decide +kernel
theorem dX12_matched_20 : decode cX12_matched 20 = .ok (.getfield 65, 3) := by decide +kernel
theorem dX12_matched_23 : decode cX12_matched 23 = .ok (.iload_n 1, 1) := by decide +kernel
theorem dX12_matched_24 : decode cX12_matched 24 = .ok (.iaload, 1) := by decide +kernel
theorem dX12_matched_25 : decode cX12_matched 25 = .ok (.goto 4, 3) := by decide +kernel
theorem dX12_matched_28 : decode cX12_matched 28 = .ok (.iconst (-1), 1) := by decide +kernel
theorem dX12_matched_29 : decode cX12_matched 29 = .ok (.ireturn, 1) := by decide +kernel
set_option maxHeartbeats 4000000 in
theorem c_M_matched {ad wad : Nat → Nat} (a0 : Int32) (h : HS)  (q : Int32 × HS) (hd : f_M_matched a0 h = some q) : Ctr SHm ad wad yX12_matched cX12_matched 2 (some .int) 2 [.ref (ad 0), .int a0] h (some (.int q.1), q.2) := by
  refine enter (own := RX12) (lv := [(0, .ref (ad 0)), (1, .int a0)]) (by decide +kernel) rfl (Nat.le_of_ble_eq_true rfl) rfl (fun Γ hG => ?_)
  unfold f_M_matched at hd
  refine a_aload_n (pc := 0) hG 0 rfl dX12_matched_0 rfl ?_
  refine a_iconst (pc := 1) hG dX12_matched_1 (v := (nI 0)) rfl ?_
  refine a_putI (pc := 2) hG sm_0 cl_X12 ok_X12 0 (by decide) rfl t_1609 rfl (ty := .int) rfl rfl rfl hd dX12_matched_2 (fun h1 hd => ?_)
  refine a_iload_n (pc := 5) hG 1 rfl dX12_matched_5 rfl ?_
  refine a_iconst (pc := 6) hG dX12_matched_6 (v := (nI 0)) rfl ?_
  refine a_aload_n (pc := 7) hG 0 rfl dX12_matched_7 rfl ?_
  refine a_getI (pc := 8) hG sm_0 cl_X12 ok_X12 28 (by decide) rfl t_1637 dX12_matched_8 ?_
  refine a_iconst (pc := 11) hG dX12_matched_11 (v := (nI 1)) rfl ?_
  refine a_isub (pc := 12) hG dX12_matched_12 ?_
  refine a_csI (pc := 13) hG (As := [.int a0, .int (nI 0), .int ((h1.1 0 28) - (nI 1))]) (st := []) mk_X12_isIn t_1795 (by omega) (fun z hz => c_M_isIn a0 (nI 0) ((h1.1 0 28) - (nI 1)) _  z hz) rfl (Nat.le_of_ble_eq_true rfl) hd dX12_matched_13 (fun r3 h2 hd => ?_)
  refine a_if_eq (pc := 16) hG (tgt := 28) hd dX12_matched_16 (by decide) (fun hd => ?_) (fun hd => ?_)
  · refine a_iconst (pc := 28) hG dX12_matched_28 (v := (-1 : Int32)) rfl ?_
    exact a_iret (pc := 29) hG hd dX12_matched_29
  refine a_aload_n (pc := 19) hG 0 rfl dX12_matched_19 rfl ?_
  refine a_getR (pc := 20) hG sm_0 cl_X12 ok_X12 27 (by decide) rfl t_1636 dX12_matched_20 ?_
  refine a_iload_n (pc := 23) hG 1 rfl dX12_matched_23 rfl ?_
  refine a_iald (pc := 24) hG sm_12 hd dX12_matched_24 (fun hd => ?_)
  refine a_goto (pc := 25) hG (tgt := 29) dX12_matched_25 (by decide) ?_
  exact a_iret (pc := 29) hG hd dX12_matched_29
theorem dX12_canRival_0 : decode cX12_canRival 0 = .ok (.aload_n 0, 1) := by decide +kernel
theorem dX12_canRival_1 : decode cX12_canRival 1 = .ok (.getfield 33, 3) := by decide +kernel
theorem dX12_canRival_4 : decode cX12_canRival 4 = .ok (.bipush 96, 2) := by decide +kernel
theorem dX12_canRival_6 : decode cX12_canRival 6 = .ok (.iload_n 1, 1) := by decide +kernel
theorem dX12_canRival_7 : decode cX12_canRival 7 = .ok (.iadd, 1) := by decide +kernel
theorem dX12_canRival_8 : decode cX12_canRival 8 = .ok (.iaload, 1) := by decide +kernel
theorem dX12_canRival_9 : decode cX12_canRival 9 = .ok (.ifCond .ne 16, 3) := by decide +kernel
theorem dX12_canRival_12 : decode cX12_canRival 12 = .ok (.aload_n 0, 1) := by decide +kernel
theorem dX12_canRival_13 : decode cX12_canRival 13 = .ok (.iload_n 1, 1) := by decide +kernel
theorem dX12_canRival_14 : decode cX12_canRival 14 = .ok (.iconst 0, 1) := by decide +kernel
theorem dX12_canRival_15 : decode cX12_canRival 15 = .ok (.invokevirtual 272, 3) := by decide +kernel
theorem dX12_canRival_18 : decode cX12_canRival 18 = .ok (.ifCond .eq 7, 3) := by decide +kernel
theorem dX12_canRival_21 : decode cX12_canRival 21 = .ok (.iconst 1, 1) := by decide +kernel
theorem dX12_canRival_22 : decode cX12_canRival 22 = .ok (.goto 4, 3) := by decide +kernel
theorem dX12_canRival_25 : decode cX12_canRival 25 = .ok (.iconst 0, 1) := by decide +kernel
theorem dX12_canRival_26 : decode cX12_canRival 26 = .ok (.ireturn, 1) := by decide +kernel
set_option maxHeartbeats 4000000 in
theorem c_M_canRival {ad wad : Nat → Nat} (F : Nat) (a0 : Int32) (h : HS)  (q : Int32 × HS) (hd : f_M_canRival F a0 h = some q) : Ctr SHm ad wad yX12_canRival cX12_canRival 2 (some .boolean) 6 [.ref (ad 0), .int a0] h (some (.int q.1), q.2) := by
  refine enter (own := RX12) (lv := [(0, .ref (ad 0)), (1, .int a0)]) (by decide +kernel) rfl (Nat.le_of_ble_eq_true rfl) rfl (fun Γ hG => ?_)
  unfold f_M_canRival at hd
  refine a_aload_n (pc := 0) hG 0 rfl dX12_canRival_0 rfl ?_
  refine a_getR (pc := 1) hG sm_0 cl_X12 ok_X12 6 (by decide) rfl t_1615 dX12_canRival_1 ?_
  refine a_bipush (pc := 4) hG dX12_canRival_4 (v := (nI 96)) rfl ?_
  refine a_iload_n (pc := 6) hG 1 rfl dX12_canRival_6 rfl ?_
  refine a_iadd (pc := 7) hG dX12_canRival_7 ?_
  refine a_iald (pc := 8) hG sm_2 hd dX12_canRival_8 (fun hd => ?_)
  refine a_if_ne (pc := 9) hG (tgt := 25) hd dX12_canRival_9 (by decide) (fun hd => ?_) (fun hd => ?_)
  · refine a_iconst (pc := 25) hG dX12_canRival_25 (v := (nI 0)) rfl ?_
    exact a_zret (pc := 26) hG hd dX12_canRival_26
  refine a_aload_n (pc := 12) hG 0 rfl dX12_canRival_12 rfl ?_
  refine a_iload_n (pc := 13) hG 1 rfl dX12_canRival_13 rfl ?_
  refine a_iconst (pc := 14) hG dX12_canRival_14 (v := (nI 0)) rfl ?_
  refine a_cvI (pc := 15) hG (As := [.int a0, .int (nI 0)]) (st := []) sm_0 cl_X12 mk_X12_isSafe t_1889 (by omega) (fun z hz => c_M_isSafe F a0 (nI 0) _  z hz) rfl (Nat.le_of_ble_eq_true rfl) hd dX12_canRival_15 (fun r2 h1 hd => ?_)
  refine a_if_eq (pc := 18) hG (tgt := 25) hd dX12_canRival_18 (by decide) (fun hd => ?_) (fun hd => ?_)
  · refine a_iconst (pc := 25) hG dX12_canRival_25 (v := (nI 0)) rfl ?_
    exact a_zret (pc := 26) hG hd dX12_canRival_26
  refine a_iconst (pc := 21) hG dX12_canRival_21 (v := (nI 1)) rfl ?_
  refine a_goto (pc := 22) hG (tgt := 26) dX12_canRival_22 (by decide) ?_
  exact a_zret (pc := 26) hG hd dX12_canRival_26
theorem dX12_shared_0 : decode cX12_shared 0 = .ok (.iload_n 1, 1) := by decide +kernel
theorem dX12_shared_1 : decode cX12_shared 1 = .ok (.iload_n 2, 1) := by decide +kernel
theorem dX12_shared_2 : decode cX12_shared 2 = .ok (.if_icmp .ne 14, 3) := by decide +kernel
theorem dX12_shared_5 : decode cX12_shared 5 = .ok (.aload_n 0, 1) := by decide +kernel
theorem dX12_shared_6 : decode cX12_shared 6 = .ok (.getfield 59, 3) := by decide +kernel
theorem dX12_shared_9 : decode cX12_shared 9 = .ok (.iload_n 1, 1) := by decide +kernel
theorem dX12_shared_10 : decode cX12_shared 10 = .ok (.iaload, 1) := by decide +kernel
theorem dX12_shared_11 : decode cX12_shared 11 = .ok (.iconst 2, 1) := by decide +kernel
theorem dX12_shared_12 : decode cX12_shared 12 = .ok (.idiv, 1) := by decide +kernel
theorem dX12_shared_13 : decode cX12_shared 13 = .ok (.goto 9, 3) := by decide +kernel
theorem dX12_shared_16 : decode cX12_shared 16 = .ok (.aload_n 0, 1) := by decide +kernel
theorem dX12_shared_17 : decode cX12_shared 17 = .ok (.getfield 59, 3) := by decide +kernel
theorem dX12_shared_20 : decode cX12_shared 20 = .ok (.iload_n 1, 1) := by decide +kernel
theorem dX12_shared_21 : decode cX12_shared 21 = .ok (.iaload, 1) := by decide +kernel
theorem dX12_shared_22 : decode cX12_shared 22 = .ok (.ireturn, 1) := by decide +kernel
set_option maxHeartbeats 4000000 in
theorem c_M_shared {ad wad : Nat → Nat} (a0 : Int32) (a1 : Int32) (h : HS)  (q : Int32 × HS) (hd : f_M_shared a0 a1 h = some q) : Ctr SHm ad wad yX12_shared cX12_shared 3 (some .int) 1 [.ref (ad 0), .int a0, .int a1] h (some (.int q.1), q.2) := by
  refine enter (own := RX12) (lv := [(0, .ref (ad 0)), (1, .int a0), (2, .int a1)]) (by decide +kernel) rfl (Nat.le_of_ble_eq_true rfl) rfl (fun Γ hG => ?_)
  unfold f_M_shared at hd
  refine a_iload_n (pc := 0) hG 1 rfl dX12_shared_0 rfl ?_
  refine a_iload_n (pc := 1) hG 2 rfl dX12_shared_1 rfl ?_
  refine a_ic_ne (pc := 2) hG (tgt := 16) hd dX12_shared_2 (by decide) (fun hd => ?_) (fun hd => ?_)
  · refine a_aload_n (pc := 16) hG 0 rfl dX12_shared_16 rfl ?_
    refine a_getR (pc := 17) hG sm_0 cl_X12 ok_X12 25 (by decide) rfl t_1634 dX12_shared_17 ?_
    refine a_iload_n (pc := 20) hG 1 rfl dX12_shared_20 rfl ?_
    refine a_iald (pc := 21) hG sm_10 hd dX12_shared_21 (fun hd => ?_)
    exact a_iret (pc := 22) hG hd dX12_shared_22
  refine a_aload_n (pc := 5) hG 0 rfl dX12_shared_5 rfl ?_
  refine a_getR (pc := 6) hG sm_0 cl_X12 ok_X12 25 (by decide) rfl t_1634 dX12_shared_6 ?_
  refine a_iload_n (pc := 9) hG 1 rfl dX12_shared_9 rfl ?_
  refine a_iald (pc := 10) hG sm_10 hd dX12_shared_10 (fun hd => ?_)
  refine a_iconst (pc := 11) hG dX12_shared_11 (v := (nI 2)) rfl ?_
  refine a_idiv (pc := 12) hG hd dX12_shared_12 (fun hd => ?_)
  refine a_goto (pc := 13) hG (tgt := 22) dX12_shared_13 (by decide) ?_
  exact a_iret (pc := 22) hG hd dX12_shared_22
theorem dX12_isBestAgainst_0 : decode cX12_isBestAgainst 0 = .ok (.iconst 0, 1) := by decide +kernel
theorem dX12_isBestAgainst_1 : decode cX12_isBestAgainst 1 = .ok (.istore_n 3, 1) := by decide +kernel
theorem dX12_isBestAgainst_2 : decode cX12_isBestAgainst 2 = .ok (.iload_n 3, 1) := by decide +kernel
theorem dX12_isBestAgainst_3 : decode cX12_isBestAgainst 3 = .ok (.aload_n 0, 1) := by decide +kernel
theorem dX12_isBestAgainst_4 : decode cX12_isBestAgainst 4 = .ok (.getfield 33, 3) := by decide +kernel
theorem dX12_isBestAgainst_7 : decode cX12_isBestAgainst 7 = .ok (.iconst 0, 1) := by decide +kernel
theorem dX12_isBestAgainst_8 : decode cX12_isBestAgainst 8 = .ok (.iaload, 1) := by decide +kernel
theorem dX12_isBestAgainst_9 : decode cX12_isBestAgainst 9 = .ok (.if_icmp .ge 34, 3) := by decide +kernel
theorem dX12_isBestAgainst_12 : decode cX12_isBestAgainst 12 = .ok (.aload_n 0, 1) := by decide +kernel
theorem dX12_isBestAgainst_13 : decode cX12_isBestAgainst 13 = .ok (.iload_n 3, 1) := by decide +kernel
theorem dX12_isBestAgainst_14 : decode cX12_isBestAgainst 14 = .ok (.invokevirtual 335, 3) := by decide +kernel
theorem dX12_isBestAgainst_17 : decode cX12_isBestAgainst 17 = .ok (.ifCond .eq 20, 3) := by decide +kernel
theorem dX12_isBestAgainst_20 : decode cX12_isBestAgainst 20 = .ok (.aload_n 0, 1) := by decide +kernel
theorem dX12_isBestAgainst_21 : decode cX12_isBestAgainst 21 = .ok (.iload_n 3, 1) := by decide +kernel
theorem dX12_isBestAgainst_22 : decode cX12_isBestAgainst 22 = .ok (.iload_n 2, 1) := by decide +kernel
theorem dX12_isBestAgainst_23 : decode cX12_isBestAgainst 23 = .ok (.invokevirtual 338, 3) := by decide +kernel
theorem dX12_isBestAgainst_26 : decode cX12_isBestAgainst 26 = .ok (.aload_n 0, 1) := by decide +kernel
theorem dX12_isBestAgainst_27 : decode cX12_isBestAgainst 27 = .ok (.iload_n 1, 1) := by decide +kernel
theorem dX12_isBestAgainst_28 : decode cX12_isBestAgainst 28 = .ok (.iload_n 2, 1) := by decide +kernel
theorem dX12_isBestAgainst_29 : decode cX12_isBestAgainst 29 = .ok (.invokevirtual 338, 3) := by decide +kernel
theorem dX12_isBestAgainst_32 : decode cX12_isBestAgainst 32 = .ok (.if_icmp .le 5, 3) := by decide +kernel
theorem dX12_isBestAgainst_35 : decode cX12_isBestAgainst 35 = .ok (.iconst 0, 1) := by decide +kernel
theorem dX12_isBestAgainst_36 : decode cX12_isBestAgainst 36 = .ok (.ireturn, 1) := by decide +kernel
theorem dX12_isBestAgainst_37 : decode cX12_isBestAgainst 37 = .ok (.iinc 3 1, 3) := by decide +kernel
theorem dX12_isBestAgainst_40 : decode cX12_isBestAgainst 40 = .ok (.goto (-38), 3) := by decide +kernel
theorem dX12_isBestAgainst_43 : decode cX12_isBestAgainst 43 = .ok (.iconst 1, 1) := by decide +kernel
theorem dX12_isBestAgainst_44 : decode cX12_isBestAgainst 44 = .ok (.ireturn, 1) := by decide +kernel
set_option maxHeartbeats 4000000 in
theorem w_l_M_isBestAgainst_0 {ad wad : Nat → Nat} {Γ : Ctx} (F : Nat) {n : Nat} (hn : 7 ≤ n) (hG : Cx SHm ad wad cX12_isBestAgainst 4 RX12 (some .boolean) (n) Γ) {q : Int32 × HS} {x1 : Int32} {x2 : Int32} {g : Nat} {x3 : Int32} {h : HS} (hd : l_M_isBestAgainst_0 F x1 x2 g x3 h = some q) : AW SHm ad 4 (some (.int q.1), q.2) Γ 2 [(0, .ref (ad 0)), (1, .int x1), (2, .int x2), (3, .int x3)] [] h := by
  induction g generalizing x3 h with
  | zero => unfold l_M_isBestAgainst_0 at hd; cases hd
  | succ g ih =>
    unfold l_M_isBestAgainst_0 at hd
    refine a_iload_n (pc := 2) hG 3 rfl dX12_isBestAgainst_2 rfl ?_
    refine a_aload_n (pc := 3) hG 0 rfl dX12_isBestAgainst_3 rfl ?_
    refine a_getR (pc := 4) hG sm_0 cl_X12 ok_X12 6 (by decide) rfl t_1615 dX12_isBestAgainst_4 ?_
    refine a_iconst (pc := 7) hG dX12_isBestAgainst_7 (v := (nI 0)) rfl ?_
    refine a_iald (pc := 8) hG sm_2 hd dX12_isBestAgainst_8 (fun hd => ?_)
    refine a_ic_ge (pc := 9) hG (tgt := 43) hd dX12_isBestAgainst_9 (by decide) (fun hd => ?_) (fun hd => ?_)
    · refine a_iconst (pc := 43) hG dX12_isBestAgainst_43 (v := (nI 1)) rfl ?_
      exact a_zret (pc := 44) hG hd dX12_isBestAgainst_44
    refine a_aload_n (pc := 12) hG 0 rfl dX12_isBestAgainst_12 rfl ?_
    refine a_iload_n (pc := 13) hG 3 rfl dX12_isBestAgainst_13 rfl ?_
    refine a_cvI (pc := 14) hG (As := [.int x3]) (st := []) sm_0 cl_X12 mk_X12_canRival t_2016 (by omega) (fun z hz => c_M_canRival F x3 _  z hz) rfl (Nat.le_of_ble_eq_true rfl) hd dX12_isBestAgainst_14 (fun r3 h2 hd => ?_)
    refine a_join hd (Q := fun J : HS → Option (Int32 × HS) => ∀  (h5 : HS), J  h5 = some q → AW SHm ad 4 (some (.int q.1), q.2) Γ 37 [(0, .ref (ad 0)), (1, .int x1), (2, .int x2), (3, .int x3)] [] h5) (fun  h5 hd => ?_) (fun J4 hJ4 hd => ?_)
    · refine a_iincN (pc := 37) hG (c0 := (nI 1)) 3 rfl hd dX12_isBestAgainst_37 rfl (by decide) (lf := fun x => [(3, .int x), (0, .ref (ad 0)), (1, .int x1), (2, .int x2)]) (fun _ => rfl) (fun v6 hd => ?_)
      refine a_goto (pc := 40) hG (tgt := 2) dX12_isBestAgainst_40 (by decide) ?_
      exact AW.sub [1, 2, 3, 0] rfl (ih hd)
    refine a_if_eq (pc := 17) hG (tgt := 37) hd dX12_isBestAgainst_17 (by decide) (fun hd => ?_) (fun hd => ?_)
    · exact AW.sub [0, 1, 2, 3] rfl (hJ4  _ hd)
    refine a_aload_n (pc := 20) hG 0 rfl dX12_isBestAgainst_20 rfl ?_
    refine a_iload_n (pc := 21) hG 3 rfl dX12_isBestAgainst_21 rfl ?_
    refine a_iload_n (pc := 22) hG 2 rfl dX12_isBestAgainst_22 rfl ?_
    refine a_cvI (pc := 23) hG (As := [.int x3, .int x2]) (st := []) sm_0 cl_X12 mk_X12_shared t_2024 (by omega) (fun z hz => c_M_shared x3 x2 _  z hz) rfl (Nat.le_of_ble_eq_true rfl) hd dX12_isBestAgainst_23 (fun r8 h7 hd => ?_)
    refine a_aload_n (pc := 26) hG 0 rfl dX12_isBestAgainst_26 rfl ?_
    refine a_iload_n (pc := 27) hG 1 rfl dX12_isBestAgainst_27 rfl ?_
    refine a_iload_n (pc := 28) hG 2 rfl dX12_isBestAgainst_28 rfl ?_
    refine a_cvI (pc := 29) hG (As := [.int x1, .int x2]) (st := [.int r8]) sm_0 cl_X12 mk_X12_shared t_2024 (by omega) (fun z hz => c_M_shared x1 x2 _  z hz) rfl (Nat.le_of_ble_eq_true rfl) hd dX12_isBestAgainst_29 (fun r10 h9 hd => ?_)
    refine a_ic_le (pc := 32) hG (tgt := 37) hd dX12_isBestAgainst_32 (by decide) (fun hd => ?_) (fun hd => ?_)
    · exact AW.sub [0, 1, 2, 3] rfl (hJ4  _ hd)
    refine a_iconst (pc := 35) hG dX12_isBestAgainst_35 (v := (nI 0)) rfl ?_
    exact a_zret (pc := 36) hG hd dX12_isBestAgainst_36
set_option maxHeartbeats 4000000 in
theorem c_M_isBestAgainst {ad wad : Nat → Nat} (F : Nat) (a0 : Int32) (a1 : Int32) (h : HS)  (q : Int32 × HS) (hd : f_M_isBestAgainst F a0 a1 h = some q) : Ctr SHm ad wad yX12_isBestAgainst cX12_isBestAgainst 4 (some .boolean) 7 [.ref (ad 0), .int a0, .int a1] h (some (.int q.1), q.2) := by
  refine enter (own := RX12) (lv := [(0, .ref (ad 0)), (1, .int a0), (2, .int a1)]) (by decide +kernel) rfl (Nat.le_of_ble_eq_true rfl) rfl (fun Γ hG => ?_)
  unfold f_M_isBestAgainst at hd
  refine a_iconst (pc := 0) hG dX12_isBestAgainst_0 (v := (nI 0)) rfl ?_
  refine a_istore_nN (pc := 1) hG hd dX12_isBestAgainst_1 rfl (by decide) (lf := fun x => [(3, .int x), (0, .ref (ad 0)), (1, .int a0), (2, .int a1)]) (fun _ => rfl) (fun v1 hd => ?_)
  refine AW.sub [1, 2, 3, 0] rfl ?_
  exact w_l_M_isBestAgainst_0 F (by omega) hG hd
theorem dX12_rests_0 : decode cX12_rests 0 = .ok (.aload_n 0, 1) := by decide +kernel
theorem dX12_rests_1 : decode cX12_rests 1 = .ok (.iconst 0, 1) := by decide +kernel
theorem dX12_rests_2 : decode cX12_rests 2 = .ok (.putfield 1, 3) := by decide +kernel
theorem dX12_rests_5 : decode cX12_rests 5 = .ok (.aload_n 0, 1) := by decide +kernel
theorem dX12_rests_6 : decode cX12_rests 6 = .ok (.getfield 33, 3) := by decide +kernel
theorem dX12_rests_9 : decode cX12_rests 9 = .ok (.iconst 2, 1) := by decide +kernel
theorem dX12_rests_10 : decode cX12_rests 10 = .ok (.iaload, 1) := by decide +kernel
theorem dX12_rests_11 : decode cX12_rests 11 = .ok (.ifCond .eq 8, 3) := by decide +kernel
theorem dX12_rests_14 : decode cX12_rests 14 = .ok (.iload_n 1, 1) := by decide +kernel
theorem dX12_rests_15 : decode cX12_rests 15 = .ok (.iconst (-1), 1) := by decide +kernel
theorem dX12_rests_16 : decode cX12_rests 16 = .ok (.if_icmp .ge 5, 3) := by decide +kernel
theorem dX12_rests_19 : decode cX12_rests 19 = .ok (.iconst (-1), 1) := by decide +kernel
theorem dX12_rests_20 : decode cX12_rests 20 = .ok (.ireturn, 1) := by decide +kernel
theorem dX12_rests_21 : decode cX12_rests 21 = .ok (.iconst 0, 1) := by decide +kernel
theorem dX12_rests_22 : decode cX12_rests 22 = .ok (.istore_n 2, 1) := by decide +kernel
theorem dX12_rests_23 : decode cX12_rests 23 = .ok (.iload_n 2, 1) := by decide +kernel
theorem dX12_rests_24 : decode cX12_rests 24 = .ok (.aload_n 0, 1) := by decide +kernel
theorem dX12_rests_25 : decode cX12_rests 25 = .ok (.getfield 33, 3) := by decide +kernel
theorem dX12_rests_28 : decode cX12_rests 28 = .ok (.iconst 0, 1) := by decide +kernel
theorem dX12_rests_29 : decode cX12_rests 29 = .ok (.iaload, 1) := by decide +kernel
theorem dX12_rests_30 : decode cX12_rests 30 = .ok (.if_icmp .ge 21, 3) := by decide +kernel
theorem dX12_rests_33 : decode cX12_rests 33 = .ok (.aload_n 0, 1) := by decide +kernel
theorem dX12_rests_34 : decode cX12_rests 34 = .ok (.getfield 59, 3) := by decide +kernel
theorem dX12_rests_37 : decode cX12_rests 37 = .ok (.iload_n 2, 1) := by decide +kernel
theorem dX12_rests_38 : decode cX12_rests 38 = .ok (.aload_n 0, 1) := by decide +kernel
theorem dX12_rests_39 : decode cX12_rests 39 = .ok (.iconst 0, 1) := by decide +kernel
theorem dX12_rests_40 : decode cX12_rests 40 = .ok (.iload_n 2, 1) := by decide +kernel
theorem dX12_rests_41 : decode cX12_rests 41 = .ok (.invokevirtual 325, 3) := by decide +kernel
theorem dX12_rests_44 : decode cX12_rests 44 = .ok (.iastore, 1) := by decide +kernel
theorem dX12_rests_45 : decode cX12_rests 45 = .ok (.iinc 2 1, 3) := by decide +kernel
theorem dX12_rests_48 : decode cX12_rests 48 = .ok (.goto (-25), 3) := by decide +kernel
theorem dX12_rests_51 : decode cX12_rests 51 = .ok (.iconst 0, 1) := by decide +kernel
theorem dX12_rests_52 : decode cX12_rests 52 = .ok (.istore_n 2, 1) := by decide +kernel
theorem dX12_rests_53 : decode cX12_rests 53 = .ok (.iconst 0, 1) := by decide +kernel
theorem dX12_rests_54 : decode cX12_rests 54 = .ok (.istore_n 3, 1) := by decide +kernel
theorem dX12_rests_55 : decode cX12_rests 55 = .ok (.iload_n 3, 1) := by decide +kernel
theorem dX12_rests_56 : decode cX12_rests 56 = .ok (.aload_n 0, 1) := by decide +kernel
theorem dX12_rests_57 : decode cX12_rests 57 = .ok (.getfield 33, 3) := by decide +kernel
theorem dX12_rests_60 : decode cX12_rests 60 = .ok (.iconst 0, 1) := by decide +kernel
theorem dX12_rests_61 : decode cX12_rests 61 = .ok (.iaload, 1) := by decide +kernel
theorem dX12_rests_62 : decode cX12_rests 62 = .ok (.if_icmp .ge 85, 3) := by decide +kernel
theorem dX12_rests_65 : decode cX12_rests 65 = .ok (.iconst 0, 1) := by decide +kernel
theorem dX12_rests_66 : decode cX12_rests 66 = .ok (.istore 4, 2) := by decide +kernel
theorem dX12_rests_68 : decode cX12_rests 68 = .ok (.iload 4, 2) := by decide +kernel
theorem dX12_rests_70 : decode cX12_rests 70 = .ok (.aload_n 0, 1) := by decide +kernel
theorem dX12_rests_71 : decode cX12_rests 71 = .ok (.getfield 33, 3) := by decide +kernel
theorem dX12_rests_74 : decode cX12_rests 74 = .ok (.iconst 0, 1) := by decide +kernel
theorem dX12_rests_75 : decode cX12_rests 75 = .ok (.iaload, 1) := by decide +kernel
theorem dX12_rests_76 : decode cX12_rests 76 = .ok (.if_icmp .ge 65, 3) := by decide +kernel
theorem dX12_rests_79 : decode cX12_rests 79 = .ok (.aload_n 0, 1) := by decide +kernel
theorem dX12_rests_80 : decode cX12_rests 80 = .ok (.iload_n 3, 1) := by decide +kernel
theorem dX12_rests_81 : decode cX12_rests 81 = .ok (.invokevirtual 335, 3) := by decide +kernel
theorem dX12_rests_84 : decode cX12_rests 84 = .ok (.ifCond .eq 51, 3) := by decide +kernel
theorem dX12_rests_87 : decode cX12_rests 87 = .ok (.aload_n 0, 1) := by decide +kernel
theorem dX12_rests_88 : decode cX12_rests 88 = .ok (.iload 4, 2) := by decide +kernel
theorem dX12_rests_90 : decode cX12_rests 90 = .ok (.invokevirtual 335, 3) := by decide +kernel
theorem dX12_rests_93 : decode cX12_rests 93 = .ok (.ifCond .eq 42, 3) := by decide +kernel
theorem dX12_rests_96 : decode cX12_rests 96 = .ok (.aload_n 0, 1) := by decide +kernel
theorem dX12_rests_97 : decode cX12_rests 97 = .ok (.iload_n 3, 1) := by decide +kernel
theorem dX12_rests_98 : decode cX12_rests 98 = .ok (.iload 4, 2) := by decide +kernel
theorem dX12_rests_100 : decode cX12_rests 100 = .ok (.invokevirtual 341, 3) := by decide +kernel
theorem dX12_rests_103 : decode cX12_rests 103 = .ok (.ifCond .eq 32, 3) := by decide +kernel
theorem dX12_rests_106 : decode cX12_rests 106 = .ok (.aload_n 0, 1) := by decide +kernel
theorem dX12_rests_107 : decode cX12_rests 107 = .ok (.iload 4, 2) := by decide +kernel
theorem dX12_rests_109 : decode cX12_rests 109 = .ok (.iload_n 3, 1) := by decide +kernel
theorem dX12_rests_110 : decode cX12_rests 110 = .ok (.invokevirtual 341, 3) := by decide +kernel
theorem dX12_rests_113 : decode cX12_rests 113 = .ok (.ifCond .ne 6, 3) := by decide +kernel
theorem dX12_rests_116 : decode cX12_rests 116 = .ok (.goto 19, 3) := by decide +kernel
theorem dX12_rests_119 : decode cX12_rests 119 = .ok (.iload_n 2, 1) := by decide +kernel
theorem dX12_rests_120 : decode cX12_rests 120 = .ok (.iload_n 1, 1) := by decide +kernel
theorem dX12_rests_121 : decode cX12_rests 121 = .ok (.if_icmp .ne 11, 3) := by decide +kernel
theorem dX12_rests_124 : decode cX12_rests 124 = .ok (.bipush 10, 2) := by decide +kernel
theorem dX12_rests_126 : decode cX12_rests 126 = .ok (.iload_n 3, 1) := by decide +kernel
theorem dX12_rests_127 : decode cX12_rests 127 = .ok (.imul, 1) := by decide +kernel
theorem dX12_rests_128 : decode cX12_rests 128 = .ok (.iload 4, 2) := by decide +kernel
theorem dX12_rests_130 : decode cX12_rests 130 = .ok (.iadd, 1) := by decide +kernel
theorem dX12_rests_131 : decode cX12_rests 131 = .ok (.ireturn, 1) := by decide +kernel
theorem dX12_rests_132 : decode cX12_rests 132 = .ok (.iinc 2 1, 3) := by decide +kernel
theorem dX12_rests_135 : decode cX12_rests 135 = .ok (.iinc 4 1, 3) := by decide +kernel
theorem dX12_rests_138 : decode cX12_rests 138 = .ok (.goto (-70), 3) := by decide +kernel
theorem dX12_rests_141 : decode cX12_rests 141 = .ok (.iinc 3 1, 3) := by decide +kernel
theorem dX12_rests_144 : decode cX12_rests 144 = .ok (.goto (-89), 3) := by decide +kernel
theorem dX12_rests_147 : decode cX12_rests 147 = .ok (.iload_n 1, 1) := by decide +kernel
theorem dX12_rests_148 : decode cX12_rests 148 = .ok (.iconst (-1), 1) := by decide +kernel
theorem dX12_rests_149 : decode cX12_rests 149 = .ok (.if_icmp .ne 7, 3) := by decide +kernel
theorem dX12_rests_152 : decode cX12_rests 152 = .ok (.iload_n 2, 1) := by decide +kernel
theorem dX12_rests_153 : decode cX12_rests 153 = .ok (.goto 4, 3) := by decide +kernel
theorem dX12_rests_156 : decode cX12_rests 156 = .ok (.iconst (-1), 1) := by decide +kernel
theorem dX12_rests_157 : decode cX12_rests 157 = .ok (.ireturn, 1) := by decide +kernel
set_option maxHeartbeats 4000000 in
theorem w_l_M_rests_0 {ad wad : Nat → Nat} {Γ : Ctx} (F : Nat) {n : Nat} (hn : 9 ≤ n) (hG : Cx SHm ad wad cX12_rests 5 RX12 (some .int) (n) Γ) {q : Int32 × HS} {x1 : Int32} {K0 : HS → Option (Int32 × HS)} {g : Nat} {x2 : Int32} {h : HS} (hd : l_M_rests_0 F x1 K0 g x2 h = some q) (hK0 : ∀ (z : HS), K0 z = some q → AW SHm ad 5 (some (.int q.1), q.2) Γ 51 [(0, .ref (ad 0)), (1, .int x1)] [] z) : AW SHm ad 5 (some (.int q.1), q.2) Γ 23 [(0, .ref (ad 0)), (1, .int x1), (2, .int x2)] [] h := by
  induction g generalizing x2 h with
  | zero => unfold l_M_rests_0 at hd; cases hd
  | succ g ih =>
    unfold l_M_rests_0 at hd
    refine a_iload_n (pc := 23) hG 2 rfl dX12_rests_23 rfl ?_
    refine a_aload_n (pc := 24) hG 0 rfl dX12_rests_24 rfl ?_
    refine a_getR (pc := 25) hG sm_0 cl_X12 ok_X12 6 (by decide) rfl t_1615 dX12_rests_25 ?_
    refine a_iconst (pc := 28) hG dX12_rests_28 (v := (nI 0)) rfl ?_
    refine a_iald (pc := 29) hG sm_2 hd dX12_rests_29 (fun hd => ?_)
    refine a_ic_ge (pc := 30) hG (tgt := 51) hd dX12_rests_30 (by decide) (fun hd => ?_) (fun hd => ?_)
    · exact AW.sub [0, 1] rfl (hK0  _ hd)
    refine a_aload_n (pc := 33) hG 0 rfl dX12_rests_33 rfl ?_
    refine a_getR (pc := 34) hG sm_0 cl_X12 ok_X12 25 (by decide) rfl t_1634 dX12_rests_34 ?_
    refine a_iload_n (pc := 37) hG 2 rfl dX12_rests_37 rfl ?_
    refine a_aload_n (pc := 38) hG 0 rfl dX12_rests_38 rfl ?_
    refine a_iconst (pc := 39) hG dX12_rests_39 (v := (nI 0)) rfl ?_
    refine a_iload_n (pc := 40) hG 2 rfl dX12_rests_40 rfl ?_
    refine a_cvI (pc := 41) hG (As := [.int (nI 0), .int x2]) (st := [.int x2, .ref (ad 10)]) sm_0 cl_X12 mk_X12_valueOf t_1991 (by omega) (fun z hz => c_M_valueOf F (nI 0) x2 _  z hz) rfl (Nat.le_of_ble_eq_true rfl) hd dX12_rests_41 (fun r4 h3 hd => ?_)
    refine a_iast (pc := 44) hG sm_10 hd dX12_rests_44 (fun h5 hd => ?_)
    refine a_iincN (pc := 45) hG (c0 := (nI 1)) 2 rfl hd dX12_rests_45 rfl (by decide) (lf := fun x => [(2, .int x), (0, .ref (ad 0)), (1, .int x1)]) (fun _ => rfl) (fun v6 hd => ?_)
    refine a_goto (pc := 48) hG (tgt := 23) dX12_rests_48 (by decide) ?_
    exact AW.sub [1, 2, 0] rfl (ih hd)
set_option maxHeartbeats 4000000 in
theorem w_l_M_rests_2 {ad wad : Nat → Nat} {Γ : Ctx} (F : Nat) {n : Nat} (hn : 9 ≤ n) (hG : Cx SHm ad wad cX12_rests 5 RX12 (some .int) (n) Γ) {q : Int32 × HS} {x1 : Int32} {x3 : Int32} {K0 : Int32 → HS → Option (Int32 × HS)} {K1 : Int32 → HS → Option (Int32 × HS)} {g : Nat} {x2 : Int32} {x4 : Int32} {h : HS} (hd : l_M_rests_2 F x1 x3 K0 K1 g x2 x4 h = some q) (hK0 : ∀ (y2 : Int32) (z : HS), K0 y2 z = some q → AW SHm ad 5 (some (.int q.1), q.2) Γ 141 [(0, .ref (ad 0)), (1, .int x1), (2, .int y2), (3, .int x3)] [] z) (hK1 : ∀ (y4 : Int32) (z : HS), K1 y4 z = some q → AW SHm ad 5 (some (.int q.1), q.2) Γ 124 [(3, .int x3), (4, .int y4)] [] z) : AW SHm ad 5 (some (.int q.1), q.2) Γ 68 [(0, .ref (ad 0)), (1, .int x1), (2, .int x2), (3, .int x3), (4, .int x4)] [] h := by
  induction g generalizing x2 x4 h with
  | zero => unfold l_M_rests_2 at hd; cases hd
  | succ g ih =>
    unfold l_M_rests_2 at hd
    refine a_iload (pc := 68) hG 4 rfl dX12_rests_68 ?_
    refine a_aload_n (pc := 70) hG 0 rfl dX12_rests_70 rfl ?_
    refine a_getR (pc := 71) hG sm_0 cl_X12 ok_X12 6 (by decide) rfl t_1615 dX12_rests_71 ?_
    refine a_iconst (pc := 74) hG dX12_rests_74 (v := (nI 0)) rfl ?_
    refine a_iald (pc := 75) hG sm_2 hd dX12_rests_75 (fun hd => ?_)
    refine a_ic_ge (pc := 76) hG (tgt := 141) hd dX12_rests_76 (by decide) (fun hd => ?_) (fun hd => ?_)
    · exact AW.sub [0, 1, 2, 3] rfl (hK0 _ _ hd)
    refine a_aload_n (pc := 79) hG 0 rfl dX12_rests_79 rfl ?_
    refine a_iload_n (pc := 80) hG 3 rfl dX12_rests_80 rfl ?_
    refine a_cvI (pc := 81) hG (As := [.int x3]) (st := []) sm_0 cl_X12 mk_X12_canRival t_2016 (by omega) (fun z hz => c_M_canRival F x3 _  z hz) rfl (Nat.le_of_ble_eq_true rfl) hd dX12_rests_81 (fun r12 h11 hd => ?_)
    refine a_join hd (Q := fun J : Int32 → HS → Option (Int32 × HS) => ∀ (v14 : Int32) (h15 : HS), J v14 h15 = some q → AW SHm ad 5 (some (.int q.1), q.2) Γ 135 [(0, .ref (ad 0)), (1, .int x1), (2, .int v14), (3, .int x3), (4, .int x4)] [] h15) (fun v14 h15 hd => ?_) (fun J13 hJ13 hd => ?_)
    · refine a_iincN (pc := 135) hG (c0 := (nI 1)) 4 rfl hd dX12_rests_135 rfl (by decide) (lf := fun x => [(4, .int x), (0, .ref (ad 0)), (1, .int x1), (2, .int v14), (3, .int x3)]) (fun _ => rfl) (fun v16 hd => ?_)
      refine a_goto (pc := 138) hG (tgt := 68) dX12_rests_138 (by decide) ?_
      exact AW.sub [1, 2, 3, 4, 0] rfl (ih hd)
    refine a_if_eq (pc := 84) hG (tgt := 135) hd dX12_rests_84 (by decide) (fun hd => ?_) (fun hd => ?_)
    · exact AW.sub [0, 1, 2, 3, 4] rfl (hJ13 _ _ hd)
    refine a_aload_n (pc := 87) hG 0 rfl dX12_rests_87 rfl ?_
    refine a_iload (pc := 88) hG 4 rfl dX12_rests_88 ?_
    refine a_cvI (pc := 90) hG (As := [.int x4]) (st := []) sm_0 cl_X12 mk_X12_canRival t_2016 (by omega) (fun z hz => c_M_canRival F x4 _  z hz) rfl (Nat.le_of_ble_eq_true rfl) hd dX12_rests_90 (fun r18 h17 hd => ?_)
    refine a_if_eq (pc := 93) hG (tgt := 135) hd dX12_rests_93 (by decide) (fun hd => ?_) (fun hd => ?_)
    · exact AW.sub [0, 1, 2, 3, 4] rfl (hJ13 _ _ hd)
    refine a_aload_n (pc := 96) hG 0 rfl dX12_rests_96 rfl ?_
    refine a_iload_n (pc := 97) hG 3 rfl dX12_rests_97 rfl ?_
    refine a_iload (pc := 98) hG 4 rfl dX12_rests_98 ?_
    refine a_cvI (pc := 100) hG (As := [.int x3, .int x4]) (st := []) sm_0 cl_X12 mk_X12_isBestAgainst t_2020 (by omega) (fun z hz => c_M_isBestAgainst F x3 x4 _  z hz) rfl (Nat.le_of_ble_eq_true rfl) hd dX12_rests_100 (fun r20 h19 hd => ?_)
    refine a_if_eq (pc := 103) hG (tgt := 135) hd dX12_rests_103 (by decide) (fun hd => ?_) (fun hd => ?_)
    · exact AW.sub [0, 1, 2, 3, 4] rfl (hJ13 _ _ hd)
    refine a_aload_n (pc := 106) hG 0 rfl dX12_rests_106 rfl ?_
    refine a_iload (pc := 107) hG 4 rfl dX12_rests_107 ?_
    refine a_iload_n (pc := 109) hG 3 rfl dX12_rests_109 rfl ?_
    refine a_cvI (pc := 110) hG (As := [.int x4, .int x3]) (st := []) sm_0 cl_X12 mk_X12_isBestAgainst t_2020 (by omega) (fun z hz => c_M_isBestAgainst F x4 x3 _  z hz) rfl (Nat.le_of_ble_eq_true rfl) hd dX12_rests_110 (fun r22 h21 hd => ?_)
    refine a_if_ne (pc := 113) hG (tgt := 119) hd dX12_rests_113 (by decide) (fun hd => ?_) (fun hd => ?_)
    · refine a_iload_n (pc := 119) hG 2 rfl dX12_rests_119 rfl ?_
      refine a_iload_n (pc := 120) hG 1 rfl dX12_rests_120 rfl ?_
      refine a_ic_ne (pc := 121) hG (tgt := 132) hd dX12_rests_121 (by decide) (fun hd => ?_) (fun hd => ?_)
      · refine a_iincN (pc := 132) hG (c0 := (nI 1)) 2 rfl hd dX12_rests_132 rfl (by decide) (lf := fun x => [(2, .int x), (0, .ref (ad 0)), (1, .int x1), (3, .int x3), (4, .int x4)]) (fun _ => rfl) (fun v23 hd => ?_)
        exact AW.sub [1, 2, 0, 3, 4] rfl (hJ13 _ _ hd)
      exact AW.sub [3, 4] rfl (hK1 _ _ hd)
    refine a_goto (pc := 116) hG (tgt := 135) dX12_rests_116 (by decide) ?_
    exact AW.sub [0, 1, 2, 3, 4] rfl (hJ13 _ _ hd)
set_option maxHeartbeats 4000000 in
theorem w_l_M_rests_1 {ad wad : Nat → Nat} {Γ : Ctx} (F : Nat) {n : Nat} (hn : 9 ≤ n) (hG : Cx SHm ad wad cX12_rests 5 RX12 (some .int) (n) Γ) {q : Int32 × HS} {x1 : Int32} {K0 : Int32 → HS → Option (Int32 × HS)} {K1 : Int32 → Int32 → HS → Option (Int32 × HS)} {g : Nat} {x2 : Int32} {x3 : Int32} {h : HS} (hd : l_M_rests_1 F x1 K0 K1 g x2 x3 h = some q) (hK0 : ∀ (y2 : Int32) (z : HS), K0 y2 z = some q → AW SHm ad 5 (some (.int q.1), q.2) Γ 147 [(1, .int x1), (2, .int y2)] [] z) (hK1 : ∀ (y3 : Int32) (y4 : Int32) (z : HS), K1 y3 y4 z = some q → AW SHm ad 5 (some (.int q.1), q.2) Γ 124 [(3, .int y3), (4, .int y4)] [] z) : AW SHm ad 5 (some (.int q.1), q.2) Γ 55 [(0, .ref (ad 0)), (1, .int x1), (2, .int x2), (3, .int x3)] [] h := by
  induction g generalizing x2 x3 h with
  | zero => unfold l_M_rests_1 at hd; cases hd
  | succ g ih =>
    unfold l_M_rests_1 at hd
    refine a_iload_n (pc := 55) hG 3 rfl dX12_rests_55 rfl ?_
    refine a_aload_n (pc := 56) hG 0 rfl dX12_rests_56 rfl ?_
    refine a_getR (pc := 57) hG sm_0 cl_X12 ok_X12 6 (by decide) rfl t_1615 dX12_rests_57 ?_
    refine a_iconst (pc := 60) hG dX12_rests_60 (v := (nI 0)) rfl ?_
    refine a_iald (pc := 61) hG sm_2 hd dX12_rests_61 (fun hd => ?_)
    refine a_ic_ge (pc := 62) hG (tgt := 147) hd dX12_rests_62 (by decide) (fun hd => ?_) (fun hd => ?_)
    · exact AW.sub [1, 2] rfl (hK0 _ _ hd)
    refine a_iconst (pc := 65) hG dX12_rests_65 (v := (nI 0)) rfl ?_
    refine a_istoreN (pc := 66) hG hd dX12_rests_66 (by decide) (lf := fun x => [(4, .int x), (0, .ref (ad 0)), (1, .int x1), (2, .int x2), (3, .int x3)]) (fun _ => rfl) (fun v10 hd => ?_)
    refine AW.sub [1, 2, 3, 4, 0] rfl ?_
    refine w_l_M_rests_2 F (by omega) hG hd (fun v24 h25 hd => ?_) (fun v27 h28 hd => ?_)
    · refine a_iincN (pc := 141) hG (c0 := (nI 1)) 3 rfl hd dX12_rests_141 rfl (by decide) (lf := fun x => [(3, .int x), (0, .ref (ad 0)), (1, .int x1), (2, .int v24)]) (fun _ => rfl) (fun v26 hd => ?_)
      refine a_goto (pc := 144) hG (tgt := 55) dX12_rests_144 (by decide) ?_
      exact AW.sub [1, 2, 3, 0] rfl (ih hd)
    · exact AW.sub [0, 1] rfl (hK1 _ _ _ hd)
set_option maxHeartbeats 4000000 in
theorem c_M_rests {ad wad : Nat → Nat} (F : Nat) (a0 : Int32) (h : HS)  (q : Int32 × HS) (hd : f_M_rests F a0 h = some q) : Ctr SHm ad wad yX12_rests cX12_rests 5 (some .int) 9 [.ref (ad 0), .int a0] h (some (.int q.1), q.2) := by
  refine enter (own := RX12) (lv := [(0, .ref (ad 0)), (1, .int a0)]) (by decide +kernel) rfl (Nat.le_of_ble_eq_true rfl) rfl (fun Γ hG => ?_)
  unfold f_M_rests at hd
  refine a_aload_n (pc := 0) hG 0 rfl dX12_rests_0 rfl ?_
  refine a_iconst (pc := 1) hG dX12_rests_1 (v := (nI 0)) rfl ?_
  refine a_putI (pc := 2) hG sm_0 cl_X12 ok_X12 0 (by decide) rfl t_1609 rfl (ty := .int) rfl rfl rfl hd dX12_rests_2 (fun h1 hd => ?_)
  refine a_aload_n (pc := 5) hG 0 rfl dX12_rests_5 rfl ?_
  refine a_getR (pc := 6) hG sm_0 cl_X12 ok_X12 6 (by decide) rfl t_1615 dX12_rests_6 ?_
  refine a_iconst (pc := 9) hG dX12_rests_9 (v := (nI 2)) rfl ?_
  refine a_iald (pc := 10) hG sm_2 hd dX12_rests_10 (fun hd => ?_)
  refine a_if_eq (pc := 11) hG (tgt := 19) hd dX12_rests_11 (by decide) (fun hd => ?_) (fun hd => ?_)
  · refine a_iconst (pc := 19) hG dX12_rests_19 (v := (-1 : Int32)) rfl ?_
    exact a_iret (pc := 20) hG hd dX12_rests_20
  refine a_iload_n (pc := 14) hG 1 rfl dX12_rests_14 rfl ?_
  refine a_iconst (pc := 15) hG dX12_rests_15 (v := (-1 : Int32)) rfl ?_
  refine a_ic_ge (pc := 16) hG (tgt := 21) hd dX12_rests_16 (by decide) (fun hd => ?_) (fun hd => ?_)
  · refine a_iconst (pc := 21) hG dX12_rests_21 (v := (nI 0)) rfl ?_
    refine a_istore_nN (pc := 22) hG hd dX12_rests_22 rfl (by decide) (lf := fun x => [(2, .int x), (0, .ref (ad 0)), (1, .int a0)]) (fun _ => rfl) (fun v2 hd => ?_)
    refine AW.sub [1, 2, 0] rfl ?_
    refine w_l_M_rests_0 F (by omega) hG hd (fun h7 hd => ?_)
    refine a_iconst (pc := 51) hG dX12_rests_51 (v := (nI 0)) rfl ?_
    refine a_istore_nN (pc := 52) hG hd dX12_rests_52 rfl (by decide) (lf := fun x => [(2, .int x), (0, .ref (ad 0)), (1, .int a0)]) (fun _ => rfl) (fun v8 hd => ?_)
    refine a_iconst (pc := 53) hG dX12_rests_53 (v := (nI 0)) rfl ?_
    refine a_istore_nN (pc := 54) hG hd dX12_rests_54 rfl (by decide) (lf := fun x => [(3, .int x), (2, .int v8), (0, .ref (ad 0)), (1, .int a0)]) (fun _ => rfl) (fun v9 hd => ?_)
    refine AW.sub [2, 3, 1, 0] rfl ?_
    refine w_l_M_rests_1 F (by omega) hG hd (fun v29 h30 hd => ?_) (fun v31 v32 h33 hd => ?_)
    · refine a_iload_n (pc := 147) hG 0 rfl dX12_rests_147 rfl ?_
      refine a_iconst (pc := 148) hG dX12_rests_148 (v := (-1 : Int32)) rfl ?_
      refine a_ic_ne (pc := 149) hG (tgt := 156) hd dX12_rests_149 (by decide) (fun hd => ?_) (fun hd => ?_)
      · refine a_iconst (pc := 156) hG dX12_rests_156 (v := (-1 : Int32)) rfl ?_
        exact a_iret (pc := 157) hG hd dX12_rests_157
      refine a_iload_n (pc := 152) hG 1 rfl dX12_rests_152 rfl ?_
      refine a_goto (pc := 153) hG (tgt := 157) dX12_rests_153 (by decide) ?_
      exact a_iret (pc := 157) hG hd dX12_rests_157
    · refine a_bipush (pc := 124) hG dX12_rests_124 (v := (nI 10)) rfl ?_
      refine a_iload_n (pc := 126) hG 0 rfl dX12_rests_126 rfl ?_
      refine a_imul (pc := 127) hG dX12_rests_127 ?_
      refine a_iload (pc := 128) hG 1 rfl dX12_rests_128 ?_
      refine a_iadd (pc := 130) hG dX12_rests_130 ?_
      exact a_iret (pc := 131) hG hd dX12_rests_131
  refine a_iconst (pc := 19) hG dX12_rests_19 (v := (-1 : Int32)) rfl ?_
  exact a_iret (pc := 20) hG hd dX12_rests_20
theorem dX12_isSafeByRumour_0 : decode cX12_isSafeByRumour 0 = .ok (.aload_n 0, 1) := by decide +kernel
theorem dX12_isSafeByRumour_1 : decode cX12_isSafeByRumour 1 = .ok (.getfield 33, 3) := by decide +kernel
theorem dX12_isSafeByRumour_4 : decode cX12_isSafeByRumour 4 = .ok (.bipush 31, 2) := by decide +kernel
theorem dX12_isSafeByRumour_6 : decode cX12_isSafeByRumour 6 = .ok (.iload_n 1, 1) := by decide +kernel
theorem dX12_isSafeByRumour_7 : decode cX12_isSafeByRumour 7 = .ok (.iadd, 1) := by decide +kernel
theorem dX12_isSafeByRumour_8 : decode cX12_isSafeByRumour 8 = .ok (.iaload, 1) := by decide +kernel
theorem dX12_isSafeByRumour_9 : decode cX12_isSafeByRumour 9 = .ok (.aload_n 0, 1) := by decide +kernel
theorem dX12_isSafeByRumour_10 : decode cX12_isSafeByRumour 10 = .ok (.bipush 49, 2) := by decide +kernel
theorem dX12_isSafeByRumour_12 : decode cX12_isSafeByRumour 12 = .ok (.iload_n 2, 1) := by decide +kernel
theorem dX12_isSafeByRumour_13 : decode cX12_isSafeByRumour 13 = .ok (.aload_n 0, 1) := by decide +kernel
theorem dX12_isSafeByRumour_14 : decode cX12_isSafeByRumour 14 = .ok (.getfield 33, 3) := by decide +kernel
theorem dX12_isSafeByRumour_17 : decode cX12_isSafeByRumour 17 = .ok (.bipush 108, 2) := by decide +kernel
theorem dX12_isSafeByRumour_19 : decode cX12_isSafeByRumour 19 = .ok (.iload_n 1, 1) := by decide +kernel
theorem dX12_isSafeByRumour_20 : decode cX12_isSafeByRumour 20 = .ok (.iadd, 1) := by decide +kernel
theorem dX12_isSafeByRumour_21 : decode cX12_isSafeByRumour 21 = .ok (.iaload, 1) := by decide +kernel
theorem dX12_isSafeByRumour_22 : decode cX12_isSafeByRumour 22 = .ok (.ior, 1) := by decide +kernel
theorem dX12_isSafeByRumour_23 : decode cX12_isSafeByRumour 23 = .ok (.invokevirtual 240, 3) := by decide +kernel
theorem dX12_isSafeByRumour_26 : decode cX12_isSafeByRumour 26 = .ok (.iadd, 1) := by decide +kernel
theorem dX12_isSafeByRumour_27 : decode cX12_isSafeByRumour 27 = .ok (.istore_n 3, 1) := by decide +kernel
theorem dX12_isSafeByRumour_28 : decode cX12_isSafeByRumour 28 = .ok (.aload_n 0, 1) := by decide +kernel
theorem dX12_isSafeByRumour_29 : decode cX12_isSafeByRumour 29 = .ok (.iload_n 3, 1) := by decide +kernel
theorem dX12_isSafeByRumour_30 : decode cX12_isSafeByRumour 30 = .ok (.iload_n 3, 1) := by decide +kernel
theorem dX12_isSafeByRumour_31 : decode cX12_isSafeByRumour 31 = .ok (.aload_n 0, 1) := by decide +kernel
theorem dX12_isSafeByRumour_32 : decode cX12_isSafeByRumour 32 = .ok (.getfield 33, 3) := by decide +kernel
theorem dX12_isSafeByRumour_35 : decode cX12_isSafeByRumour 35 = .ok (.bipush 37, 2) := by decide +kernel
theorem dX12_isSafeByRumour_37 : decode cX12_isSafeByRumour 37 = .ok (.iload_n 1, 1) := by decide +kernel
theorem dX12_isSafeByRumour_38 : decode cX12_isSafeByRumour 38 = .ok (.iadd, 1) := by decide +kernel
theorem dX12_isSafeByRumour_39 : decode cX12_isSafeByRumour 39 = .ok (.iaload, 1) := by decide +kernel
theorem dX12_isSafeByRumour_40 : decode cX12_isSafeByRumour 40 = .ok (.iadd, 1) := by decide +kernel
theorem dX12_isSafeByRumour_41 : decode cX12_isSafeByRumour 41 = .ok (.aload_n 0, 1) := by decide +kernel
theorem dX12_isSafeByRumour_42 : decode cX12_isSafeByRumour 42 = .ok (.bipush 55, 2) := by decide +kernel
theorem dX12_isSafeByRumour_44 : decode cX12_isSafeByRumour 44 = .ok (.iload_n 2, 1) := by decide +kernel
theorem dX12_isSafeByRumour_45 : decode cX12_isSafeByRumour 45 = .ok (.aload_n 0, 1) := by decide +kernel
theorem dX12_isSafeByRumour_46 : decode cX12_isSafeByRumour 46 = .ok (.getfield 33, 3) := by decide +kernel
theorem dX12_isSafeByRumour_49 : decode cX12_isSafeByRumour 49 = .ok (.bipush 108, 2) := by decide +kernel
theorem dX12_isSafeByRumour_51 : decode cX12_isSafeByRumour 51 = .ok (.iload_n 1, 1) := by decide +kernel
theorem dX12_isSafeByRumour_52 : decode cX12_isSafeByRumour 52 = .ok (.iadd, 1) := by decide +kernel
theorem dX12_isSafeByRumour_53 : decode cX12_isSafeByRumour 53 = .ok (.iaload, 1) := by decide +kernel
theorem dX12_isSafeByRumour_54 : decode cX12_isSafeByRumour 54 = .ok (.ior, 1) := by decide +kernel
theorem dX12_isSafeByRumour_55 : decode cX12_isSafeByRumour 55 = .ok (.invokevirtual 240, 3) := by decide +kernel
theorem dX12_isSafeByRumour_58 : decode cX12_isSafeByRumour 58 = .ok (.iadd, 1) := by decide +kernel
theorem dX12_isSafeByRumour_59 : decode cX12_isSafeByRumour 59 = .ok (.invokevirtual 249, 3) := by decide +kernel
theorem dX12_isSafeByRumour_62 : decode cX12_isSafeByRumour 62 = .ok (.ireturn, 1) := by decide +kernel
set_option maxHeartbeats 4000000 in
theorem c_M_isSafeByRumour {ad wad : Nat → Nat} (F : Nat) (a0 : Int32) (a1 : Int32) (h : HS)  (q : Int32 × HS) (hd : f_M_isSafeByRumour F a0 a1 h = some q) : Ctr SHm ad wad yX12_isSafeByRumour cX12_isSafeByRumour 4 (some .boolean) 3 [.ref (ad 0), .int a0, .int a1] h (some (.int q.1), q.2) := by
  refine enter (own := RX12) (lv := [(0, .ref (ad 0)), (1, .int a0), (2, .int a1)]) (by decide +kernel) rfl (Nat.le_of_ble_eq_true rfl) rfl (fun Γ hG => ?_)
  unfold f_M_isSafeByRumour at hd
  refine a_aload_n (pc := 0) hG 0 rfl dX12_isSafeByRumour_0 rfl ?_
  refine a_getR (pc := 1) hG sm_0 cl_X12 ok_X12 6 (by decide) rfl t_1615 dX12_isSafeByRumour_1 ?_
  refine a_bipush (pc := 4) hG dX12_isSafeByRumour_4 (v := (nI 31)) rfl ?_
  refine a_iload_n (pc := 6) hG 1 rfl dX12_isSafeByRumour_6 rfl ?_
  refine a_iadd (pc := 7) hG dX12_isSafeByRumour_7 ?_
  refine a_iald (pc := 8) hG sm_2 hd dX12_isSafeByRumour_8 (fun hd => ?_)
  refine a_aload_n (pc := 9) hG 0 rfl dX12_isSafeByRumour_9 rfl ?_
  refine a_bipush (pc := 10) hG dX12_isSafeByRumour_10 (v := (nI 49)) rfl ?_
  refine a_iload_n (pc := 12) hG 2 rfl dX12_isSafeByRumour_12 rfl ?_
  refine a_aload_n (pc := 13) hG 0 rfl dX12_isSafeByRumour_13 rfl ?_
  refine a_getR (pc := 14) hG sm_0 cl_X12 ok_X12 6 (by decide) rfl t_1615 dX12_isSafeByRumour_14 ?_
  refine a_bipush (pc := 17) hG dX12_isSafeByRumour_17 (v := (nI 108)) rfl ?_
  refine a_iload_n (pc := 19) hG 1 rfl dX12_isSafeByRumour_19 rfl ?_
  refine a_iadd (pc := 20) hG dX12_isSafeByRumour_20 ?_
  refine a_iald (pc := 21) hG sm_2 hd dX12_isSafeByRumour_21 (fun hd => ?_)
  refine a_ior (pc := 22) hG dX12_isSafeByRumour_22 ?_
  refine a_cvI (pc := 23) hG (As := [.int (nI 49), .int (a1 ||| (h.1 2 ((nI 108) + a0).toNatClampNeg))]) (st := [.int (h.1 2 ((nI 31) + a0).toNatClampNeg)]) sm_0 cl_X12 mk_X12_sum t_1846 (by omega) (fun z hz => c_M_sum F (nI 49) (a1 ||| (h.1 2 ((nI 108) + a0).toNatClampNeg)) _  z hz) rfl (Nat.le_of_ble_eq_true rfl) hd dX12_isSafeByRumour_23 (fun r2 h1 hd => ?_)
  refine a_iadd (pc := 26) hG dX12_isSafeByRumour_26 ?_
  refine a_istore_nN (pc := 27) hG hd dX12_isSafeByRumour_27 rfl (by decide) (lf := fun x => [(3, .int x), (0, .ref (ad 0)), (1, .int a0), (2, .int a1)]) (fun _ => rfl) (fun v3 hd => ?_)
  refine a_aload_n (pc := 28) hG 1 rfl dX12_isSafeByRumour_28 rfl ?_
  refine a_iload_n (pc := 29) hG 0 rfl dX12_isSafeByRumour_29 rfl ?_
  refine a_iload_n (pc := 30) hG 0 rfl dX12_isSafeByRumour_30 rfl ?_
  refine a_aload_n (pc := 31) hG 1 rfl dX12_isSafeByRumour_31 rfl ?_
  refine a_getR (pc := 32) hG sm_0 cl_X12 ok_X12 6 (by decide) rfl t_1615 dX12_isSafeByRumour_32 ?_
  refine a_bipush (pc := 35) hG dX12_isSafeByRumour_35 (v := (nI 37)) rfl ?_
  refine a_iload_n (pc := 37) hG 2 rfl dX12_isSafeByRumour_37 rfl ?_
  refine a_iadd (pc := 38) hG dX12_isSafeByRumour_38 ?_
  refine a_iald (pc := 39) hG sm_2 hd dX12_isSafeByRumour_39 (fun hd => ?_)
  refine a_iadd (pc := 40) hG dX12_isSafeByRumour_40 ?_
  refine a_aload_n (pc := 41) hG 1 rfl dX12_isSafeByRumour_41 rfl ?_
  refine a_bipush (pc := 42) hG dX12_isSafeByRumour_42 (v := (nI 55)) rfl ?_
  refine a_iload_n (pc := 44) hG 3 rfl dX12_isSafeByRumour_44 rfl ?_
  refine a_aload_n (pc := 45) hG 1 rfl dX12_isSafeByRumour_45 rfl ?_
  refine a_getR (pc := 46) hG sm_0 cl_X12 ok_X12 6 (by decide) rfl t_1615 dX12_isSafeByRumour_46 ?_
  refine a_bipush (pc := 49) hG dX12_isSafeByRumour_49 (v := (nI 108)) rfl ?_
  refine a_iload_n (pc := 51) hG 2 rfl dX12_isSafeByRumour_51 rfl ?_
  refine a_iadd (pc := 52) hG dX12_isSafeByRumour_52 ?_
  refine a_iald (pc := 53) hG sm_2 hd dX12_isSafeByRumour_53 (fun hd => ?_)
  refine a_ior (pc := 54) hG dX12_isSafeByRumour_54 ?_
  refine a_cvI (pc := 55) hG (As := [.int (nI 55), .int (a1 ||| (h1.1 2 ((nI 108) + a0).toNatClampNeg))]) (st := [.int (v3 + (h1.1 2 ((nI 37) + a0).toNatClampNeg)), .int v3, .ref (ad 0)]) sm_0 cl_X12 mk_X12_sum t_1846 (by omega) (fun z hz => c_M_sum F (nI 55) (a1 ||| (h1.1 2 ((nI 108) + a0).toNatClampNeg)) _  z hz) rfl (Nat.le_of_ble_eq_true rfl) hd dX12_isSafeByRumour_55 (fun r5 h4 hd => ?_)
  refine a_iadd (pc := 58) hG dX12_isSafeByRumour_58 ?_
  refine a_cvI (pc := 59) hG (As := [.int v3, .int ((v3 + (h1.1 2 ((nI 37) + a0).toNatClampNeg)) + r5)]) (st := []) sm_0 cl_X12 mk_X12_isBelow t_1893 (by omega) (fun z hz => c_M_isBelow v3 ((v3 + (h1.1 2 ((nI 37) + a0).toNatClampNeg)) + r5) _  z hz) rfl (Nat.le_of_ble_eq_true rfl) hd dX12_isSafeByRumour_59 (fun r7 h6 hd => ?_)
  exact a_zret (pc := 62) hG hd dX12_isSafeByRumour_62
theorem dX12_parts_0 : decode cX12_parts 0 = .ok (.aload_n 0, 1) := by decide +kernel
theorem dX12_parts_1 : decode cX12_parts 1 = .ok (.iconst 0, 1) := by decide +kernel
theorem dX12_parts_2 : decode cX12_parts 2 = .ok (.putfield 1, 3) := by decide +kernel
theorem dX12_parts_5 : decode cX12_parts 5 = .ok (.aload_n 0, 1) := by decide +kernel
theorem dX12_parts_6 : decode cX12_parts 6 = .ok (.iload_n 1, 1) := by decide +kernel
theorem dX12_parts_7 : decode cX12_parts 7 = .ok (.invokevirtual 255, 3) := by decide +kernel
theorem dX12_parts_10 : decode cX12_parts 10 = .ok (.ifCond .eq 15, 3) := by decide +kernel
theorem dX12_parts_13 : decode cX12_parts 13 = .ok (.aload_n 0, 1) := by decide +kernel
theorem dX12_parts_14 : decode cX12_parts 14 = .ok (.getfield 33, 3) := by decide +kernel
theorem dX12_parts_17 : decode cX12_parts 17 = .ok (.bipush 43, 2) := by decide +kernel
theorem dX12_parts_19 : decode cX12_parts 19 = .ok (.iload_n 1, 1) := by decide +kernel
theorem dX12_parts_20 : decode cX12_parts 20 = .ok (.iadd, 1) := by decide +kernel
theorem dX12_parts_21 : decode cX12_parts 21 = .ok (.iaload, 1) := by decide +kernel
theorem dX12_parts_22 : decode cX12_parts 22 = .ok (.ifCond .ne 5, 3) := by decide +kernel
theorem dX12_parts_25 : decode cX12_parts 25 = .ok (.iconst (-1), 1) := by decide +kernel
theorem dX12_parts_26 : decode cX12_parts 26 = .ok (.ireturn, 1) := by decide +kernel
theorem dX12_parts_27 : decode cX12_parts 27 = .ok (.iconst (-1), 1) := by decide +kernel
theorem dX12_parts_28 : decode cX12_parts 28 = .ok (.istore_n 2, 1) := by decide +kernel
theorem dX12_parts_29 : decode cX12_parts 29 = .ok (.iconst 0, 1) := by decide +kernel
theorem dX12_parts_30 : decode cX12_parts 30 = .ok (.istore_n 3, 1) := by decide +kernel
theorem dX12_parts_31 : decode cX12_parts 31 = .ok (.iload_n 3, 1) := by decide +kernel
theorem dX12_parts_32 : decode cX12_parts 32 = .ok (.bipush 64, 2) := by decide +kernel
theorem dX12_parts_34 : decode cX12_parts 34 = .ok (.if_icmp .ge 53, 3) := by decide +kernel
theorem dX12_parts_37 : decode cX12_parts 37 = .ok (.iload_n 3, 1) := by decide +kernel
theorem dX12_parts_38 : decode cX12_parts 38 = .ok (.aload_n 0, 1) := by decide +kernel
theorem dX12_parts_39 : decode cX12_parts 39 = .ok (.iload_n 1, 1) := by decide +kernel
theorem dX12_parts_40 : decode cX12_parts 40 = .ok (.invokevirtual 310, 3) := by decide +kernel
theorem dX12_parts_43 : decode cX12_parts 43 = .ok (.iconst (-1), 1) := by decide +kernel
theorem dX12_parts_44 : decode cX12_parts 44 = .ok (.ixor, 1) := by decide +kernel
theorem dX12_parts_45 : decode cX12_parts 45 = .ok (.iand, 1) := by decide +kernel
theorem dX12_parts_46 : decode cX12_parts 46 = .ok (.ifCond .ne 35, 3) := by decide +kernel
theorem dX12_parts_49 : decode cX12_parts 49 = .ok (.aload_n 0, 1) := by decide +kernel
theorem dX12_parts_50 : decode cX12_parts 50 = .ok (.iload_n 1, 1) := by decide +kernel
theorem dX12_parts_51 : decode cX12_parts 51 = .ok (.iload_n 3, 1) := by decide +kernel
theorem dX12_parts_52 : decode cX12_parts 52 = .ok (.invokevirtual 272, 3) := by decide +kernel
theorem dX12_parts_55 : decode cX12_parts 55 = .ok (.aload_n 0, 1) := by decide +kernel
theorem dX12_parts_56 : decode cX12_parts 56 = .ok (.iload_n 1, 1) := by decide +kernel
theorem dX12_parts_57 : decode cX12_parts 57 = .ok (.iload_n 3, 1) := by decide +kernel
theorem dX12_parts_58 : decode cX12_parts 58 = .ok (.invokevirtual 344, 3) := by decide +kernel
theorem dX12_parts_61 : decode cX12_parts 61 = .ok (.if_icmp .eq 20, 3) := by decide +kernel
theorem dX12_parts_64 : decode cX12_parts 64 = .ok (.iload_n 2, 1) := by decide +kernel
theorem dX12_parts_65 : decode cX12_parts 65 = .ok (.ifCond .lt 14, 3) := by decide +kernel
theorem dX12_parts_68 : decode cX12_parts 68 = .ok (.iload_n 3, 1) := by decide +kernel
theorem dX12_parts_69 : decode cX12_parts 69 = .ok (.invokestatic 316, 3) := by decide +kernel
theorem dX12_parts_72 : decode cX12_parts 72 = .ok (.iload_n 2, 1) := by decide +kernel
theorem dX12_parts_73 : decode cX12_parts 73 = .ok (.invokestatic 316, 3) := by decide +kernel
theorem dX12_parts_76 : decode cX12_parts 76 = .ok (.if_icmp .ge 5, 3) := by decide +kernel
theorem dX12_parts_79 : decode cX12_parts 79 = .ok (.iload_n 3, 1) := by decide +kernel
theorem dX12_parts_80 : decode cX12_parts 80 = .ok (.istore_n 2, 1) := by decide +kernel
theorem dX12_parts_81 : decode cX12_parts 81 = .ok (.iinc 3 1, 3) := by decide +kernel
theorem dX12_parts_84 : decode cX12_parts 84 = .ok (.goto (-53), 3) := by decide +kernel
theorem dX12_parts_87 : decode cX12_parts 87 = .ok (.iload_n 2, 1) := by decide +kernel
theorem dX12_parts_88 : decode cX12_parts 88 = .ok (.ireturn, 1) := by decide +kernel
set_option maxHeartbeats 4000000 in
theorem w_l_M_parts_0 {ad wad : Nat → Nat} {Γ : Ctx} (F : Nat) {n : Nat} (hn : 6 ≤ n) (hG : Cx SHm ad wad cX12_parts 4 RX12 (some .int) (n) Γ) {q : Int32 × HS} {x1 : Int32} {g : Nat} {x2 : Int32} {x3 : Int32} {h : HS} (hd : l_M_parts_0 F x1 g x2 x3 h = some q) : AW SHm ad 4 (some (.int q.1), q.2) Γ 31 [(0, .ref (ad 0)), (1, .int x1), (2, .int x2), (3, .int x3)] [] h := by
  induction g generalizing x2 x3 h with
  | zero => unfold l_M_parts_0 at hd; cases hd
  | succ g ih =>
    unfold l_M_parts_0 at hd
    refine a_iload_n (pc := 31) hG 3 rfl dX12_parts_31 rfl ?_
    refine a_bipush (pc := 32) hG dX12_parts_32 (v := (nI 64)) rfl ?_
    refine a_ic_ge (pc := 34) hG (tgt := 87) hd dX12_parts_34 (by decide) (fun hd => ?_) (fun hd => ?_)
    · refine a_iload_n (pc := 87) hG 2 rfl dX12_parts_87 rfl ?_
      exact a_iret (pc := 88) hG hd dX12_parts_88
    refine a_iload_n (pc := 37) hG 3 rfl dX12_parts_37 rfl ?_
    refine a_aload_n (pc := 38) hG 0 rfl dX12_parts_38 rfl ?_
    refine a_iload_n (pc := 39) hG 1 rfl dX12_parts_39 rfl ?_
    refine a_cvI (pc := 40) hG (As := [.int x1]) (st := [.int x3]) sm_0 cl_X12 mk_X12_free t_1964 (by omega) (fun z hz => c_M_free x1 _  z hz) rfl (Nat.le_of_ble_eq_true rfl) hd dX12_parts_40 (fun r7 h6 hd => ?_)
    refine a_iconst (pc := 43) hG dX12_parts_43 (v := (-1 : Int32)) rfl ?_
    refine a_ixor (pc := 44) hG dX12_parts_44 ?_
    refine a_iand (pc := 45) hG dX12_parts_45 ?_
    refine a_join hd (Q := fun J : Int32 → HS → Option (Int32 × HS) => ∀ (v9 : Int32) (h10 : HS), J v9 h10 = some q → AW SHm ad 4 (some (.int q.1), q.2) Γ 81 [(0, .ref (ad 0)), (1, .int x1), (2, .int v9), (3, .int x3)] [] h10) (fun v9 h10 hd => ?_) (fun J8 hJ8 hd => ?_)
    · refine a_iincN (pc := 81) hG (c0 := (nI 1)) 3 rfl hd dX12_parts_81 rfl (by decide) (lf := fun x => [(3, .int x), (0, .ref (ad 0)), (1, .int x1), (2, .int v9)]) (fun _ => rfl) (fun v11 hd => ?_)
      refine a_goto (pc := 84) hG (tgt := 31) dX12_parts_84 (by decide) ?_
      exact AW.sub [1, 2, 3, 0] rfl (ih hd)
    refine a_if_ne (pc := 46) hG (tgt := 81) hd dX12_parts_46 (by decide) (fun hd => ?_) (fun hd => ?_)
    · exact AW.sub [0, 1, 2, 3] rfl (hJ8 _ _ hd)
    refine a_aload_n (pc := 49) hG 0 rfl dX12_parts_49 rfl ?_
    refine a_iload_n (pc := 50) hG 1 rfl dX12_parts_50 rfl ?_
    refine a_iload_n (pc := 51) hG 3 rfl dX12_parts_51 rfl ?_
    refine a_cvI (pc := 52) hG (As := [.int x1, .int x3]) (st := []) sm_0 cl_X12 mk_X12_isSafe t_1889 (by omega) (fun z hz => c_M_isSafe F x1 x3 _  z hz) rfl (Nat.le_of_ble_eq_true rfl) hd dX12_parts_52 (fun r13 h12 hd => ?_)
    refine a_aload_n (pc := 55) hG 0 rfl dX12_parts_55 rfl ?_
    refine a_iload_n (pc := 56) hG 1 rfl dX12_parts_56 rfl ?_
    refine a_iload_n (pc := 57) hG 3 rfl dX12_parts_57 rfl ?_
    refine a_cvI (pc := 58) hG (As := [.int x1, .int x3]) (st := [.int r13]) sm_0 cl_X12 mk_X12_isSafeByRumour t_2032 (by omega) (fun z hz => c_M_isSafeByRumour F x1 x3 _  z hz) rfl (Nat.le_of_ble_eq_true rfl) hd dX12_parts_58 (fun r15 h14 hd => ?_)
    refine a_ic_eq (pc := 61) hG (tgt := 81) hd dX12_parts_61 (by decide) (fun hd => ?_) (fun hd => ?_)
    · exact AW.sub [0, 1, 2, 3] rfl (hJ8 _ _ hd)
    refine a_iload_n (pc := 64) hG 2 rfl dX12_parts_64 rfl ?_
    refine a_join hd (Q := fun J : HS → Option (Int32 × HS) => ∀  (h17 : HS), J  h17 = some q → AW SHm ad 4 (some (.int q.1), q.2) Γ 79 [(0, .ref (ad 0)), (1, .int x1), (3, .int x3)] [] h17) (fun  h17 hd => ?_) (fun J16 hJ16 hd => ?_)
    · refine a_iload_n (pc := 79) hG 2 rfl dX12_parts_79 rfl ?_
      refine a_istore_nN (pc := 80) hG hd dX12_parts_80 rfl (by decide) (lf := fun x => [(2, .int x), (0, .ref (ad 0)), (1, .int x1), (3, .int x3)]) (fun _ => rfl) (fun v18 hd => ?_)
      exact AW.sub [1, 2, 0, 3] rfl (hJ8 _ _ hd)
    refine a_if_lt (pc := 65) hG (tgt := 79) hd dX12_parts_65 (by decide) (fun hd => ?_) (fun hd => ?_)
    · exact AW.sub [0, 1, 3] rfl (hJ16  _ hd)
    refine a_iload_n (pc := 68) hG 3 rfl dX12_parts_68 rfl ?_
    refine a_csI (pc := 69) hG (As := [.int x3]) (st := []) mk_X12_bits t_1968 (by omega) (fun z hz => c_M_bits F x3 _  z hz) rfl (Nat.le_of_ble_eq_true rfl) hd dX12_parts_69 (fun r20 h19 hd => ?_)
    refine a_iload_n (pc := 72) hG 2 rfl dX12_parts_72 rfl ?_
    refine a_csI (pc := 73) hG (As := [.int x2]) (st := [.int r20]) mk_X12_bits t_1968 (by omega) (fun z hz => c_M_bits F x2 _  z hz) rfl (Nat.le_of_ble_eq_true rfl) hd dX12_parts_73 (fun r22 h21 hd => ?_)
    refine a_ic_ge (pc := 76) hG (tgt := 81) hd dX12_parts_76 (by decide) (fun hd => ?_) (fun hd => ?_)
    · exact AW.sub [0, 1, 2, 3] rfl (hJ8 _ _ hd)
    exact AW.sub [0, 1, 3] rfl (hJ16  _ hd)
set_option maxHeartbeats 4000000 in
theorem c_M_parts {ad wad : Nat → Nat} (F : Nat) (a0 : Int32) (h : HS)  (q : Int32 × HS) (hd : f_M_parts F a0 h = some q) : Ctr SHm ad wad yX12_parts cX12_parts 4 (some .int) 6 [.ref (ad 0), .int a0] h (some (.int q.1), q.2) := by
  refine enter (own := RX12) (lv := [(0, .ref (ad 0)), (1, .int a0)]) (by decide +kernel) rfl (Nat.le_of_ble_eq_true rfl) rfl (fun Γ hG => ?_)
  unfold f_M_parts at hd
  refine a_aload_n (pc := 0) hG 0 rfl dX12_parts_0 rfl ?_
  refine a_iconst (pc := 1) hG dX12_parts_1 (v := (nI 0)) rfl ?_
  refine a_putI (pc := 2) hG sm_0 cl_X12 ok_X12 0 (by decide) rfl t_1609 rfl (ty := .int) rfl rfl rfl hd dX12_parts_2 (fun h1 hd => ?_)
  refine a_aload_n (pc := 5) hG 0 rfl dX12_parts_5 rfl ?_
  refine a_iload_n (pc := 6) hG 1 rfl dX12_parts_6 rfl ?_
  refine a_cvI (pc := 7) hG (As := [.int a0]) (st := []) sm_0 cl_X12 mk_X12_isCause t_1830 (by omega) (fun z hz => c_M_isCause a0 _  z hz) rfl (Nat.le_of_ble_eq_true rfl) hd dX12_parts_7 (fun r3 h2 hd => ?_)
  refine a_if_eq (pc := 10) hG (tgt := 25) hd dX12_parts_10 (by decide) (fun hd => ?_) (fun hd => ?_)
  · refine a_iconst (pc := 25) hG dX12_parts_25 (v := (-1 : Int32)) rfl ?_
    exact a_iret (pc := 26) hG hd dX12_parts_26
  refine a_aload_n (pc := 13) hG 0 rfl dX12_parts_13 rfl ?_
  refine a_getR (pc := 14) hG sm_0 cl_X12 ok_X12 6 (by decide) rfl t_1615 dX12_parts_14 ?_
  refine a_bipush (pc := 17) hG dX12_parts_17 (v := (nI 43)) rfl ?_
  refine a_iload_n (pc := 19) hG 1 rfl dX12_parts_19 rfl ?_
  refine a_iadd (pc := 20) hG dX12_parts_20 ?_
  refine a_iald (pc := 21) hG sm_2 hd dX12_parts_21 (fun hd => ?_)
  refine a_if_ne (pc := 22) hG (tgt := 27) hd dX12_parts_22 (by decide) (fun hd => ?_) (fun hd => ?_)
  · refine a_iconst (pc := 27) hG dX12_parts_27 (v := (-1 : Int32)) rfl ?_
    refine a_istore_nN (pc := 28) hG hd dX12_parts_28 rfl (by decide) (lf := fun x => [(2, .int x), (0, .ref (ad 0)), (1, .int a0)]) (fun _ => rfl) (fun v4 hd => ?_)
    refine a_iconst (pc := 29) hG dX12_parts_29 (v := (nI 0)) rfl ?_
    refine a_istore_nN (pc := 30) hG hd dX12_parts_30 rfl (by decide) (lf := fun x => [(3, .int x), (2, .int v4), (0, .ref (ad 0)), (1, .int a0)]) (fun _ => rfl) (fun v5 hd => ?_)
    refine AW.sub [2, 3, 1, 0] rfl ?_
    exact w_l_M_parts_0 F (by omega) hG hd
  refine a_iconst (pc := 25) hG dX12_parts_25 (v := (-1 : Int32)) rfl ?_
  exact a_iret (pc := 26) hG hd dX12_parts_26
theorem dX12_plot_0 : decode cX12_plot 0 = .ok (.aload_n 0, 1) := by decide +kernel
theorem dX12_plot_1 : decode cX12_plot 1 = .ok (.iconst 0, 1) := by decide +kernel
theorem dX12_plot_2 : decode cX12_plot 2 = .ok (.putfield 1, 3) := by decide +kernel
theorem dX12_plot_5 : decode cX12_plot 5 = .ok (.aload_n 0, 1) := by decide +kernel
theorem dX12_plot_6 : decode cX12_plot 6 = .ok (.iload_n 1, 1) := by decide +kernel
theorem dX12_plot_7 : decode cX12_plot 7 = .ok (.invokevirtual 255, 3) := by decide +kernel
theorem dX12_plot_10 : decode cX12_plot 10 = .ok (.ifCond .ne 5, 3) := by decide +kernel
theorem dX12_plot_13 : decode cX12_plot 13 = .ok (.iconst (-1), 1) := by decide +kernel
theorem dX12_plot_14 : decode cX12_plot 14 = .ok (.ireturn, 1) := by decide +kernel
theorem dX12_plot_15 : decode cX12_plot 15 = .ok (.iconst (-1), 1) := by decide +kernel
theorem dX12_plot_16 : decode cX12_plot 16 = .ok (.istore_n 2, 1) := by decide +kernel
theorem dX12_plot_17 : decode cX12_plot 17 = .ok (.iconst 0, 1) := by decide +kernel
theorem dX12_plot_18 : decode cX12_plot 18 = .ok (.istore_n 3, 1) := by decide +kernel
theorem dX12_plot_19 : decode cX12_plot 19 = .ok (.iload_n 3, 1) := by decide +kernel
theorem dX12_plot_20 : decode cX12_plot 20 = .ok (.bipush 64, 2) := by decide +kernel
theorem dX12_plot_22 : decode cX12_plot 22 = .ok (.if_icmp .ge 81, 3) := by decide +kernel
theorem dX12_plot_25 : decode cX12_plot 25 = .ok (.iload_n 3, 1) := by decide +kernel
theorem dX12_plot_26 : decode cX12_plot 26 = .ok (.aload_n 0, 1) := by decide +kernel
theorem dX12_plot_27 : decode cX12_plot 27 = .ok (.iload_n 1, 1) := by decide +kernel
theorem dX12_plot_28 : decode cX12_plot 28 = .ok (.invokevirtual 310, 3) := by decide +kernel
theorem dX12_plot_31 : decode cX12_plot 31 = .ok (.iconst (-1), 1) := by decide +kernel
theorem dX12_plot_32 : decode cX12_plot 32 = .ok (.ixor, 1) := by decide +kernel
theorem dX12_plot_33 : decode cX12_plot 33 = .ok (.iand, 1) := by decide +kernel
theorem dX12_plot_34 : decode cX12_plot 34 = .ok (.ifCond .ne 63, 3) := by decide +kernel
theorem dX12_plot_37 : decode cX12_plot 37 = .ok (.aload_n 0, 1) := by decide +kernel
theorem dX12_plot_38 : decode cX12_plot 38 = .ok (.iload_n 1, 1) := by decide +kernel
theorem dX12_plot_39 : decode cX12_plot 39 = .ok (.iload_n 3, 1) := by decide +kernel
theorem dX12_plot_40 : decode cX12_plot 40 = .ok (.invokevirtual 272, 3) := by decide +kernel
theorem dX12_plot_43 : decode cX12_plot 43 = .ok (.ifCond .eq 6, 3) := by decide +kernel
theorem dX12_plot_46 : decode cX12_plot 46 = .ok (.goto 51, 3) := by decide +kernel
theorem dX12_plot_49 : decode cX12_plot 49 = .ok (.iload_n 2, 1) := by decide +kernel
theorem dX12_plot_50 : decode cX12_plot 50 = .ok (.ifCond .ge 7, 3) := by decide +kernel
theorem dX12_plot_53 : decode cX12_plot 53 = .ok (.iconst 1, 1) := by decide +kernel
theorem dX12_plot_54 : decode cX12_plot 54 = .ok (.goto 12, 3) := by decide +kernel
theorem dX12_plot_57 : decode cX12_plot 57 = .ok (.iload_n 2, 1) := by decide +kernel
theorem dX12_plot_58 : decode cX12_plot 58 = .ok (.invokestatic 316, 3) := by decide +kernel
theorem dX12_plot_61 : decode cX12_plot 61 = .ok (.iload_n 3, 1) := by decide +kernel
theorem dX12_plot_62 : decode cX12_plot 62 = .ok (.invokestatic 316, 3) := by decide +kernel
theorem dX12_plot_65 : decode cX12_plot 65 = .ok (.isub, 1) := by decide +kernel
theorem dX12_plot_66 : decode cX12_plot 66 = .ok (.istore 4, 2) := by decide +kernel
theorem dX12_plot_68 : decode cX12_plot 68 = .ok (.iload 4, 2) := by decide +kernel
theorem dX12_plot_70 : decode cX12_plot 70 = .ok (.ifCond .gt 25, 3) := by decide +kernel
theorem dX12_plot_73 : decode cX12_plot 73 = .ok (.iload 4, 2) := by decide +kernel
theorem dX12_plot_75 : decode cX12_plot 75 = .ok (.ifCond .ne 22, 3) := by decide +kernel
theorem dX12_plot_78 : decode cX12_plot 78 = .ok (.aload_n 0, 1) := by decide +kernel
theorem dX12_plot_79 : decode cX12_plot 79 = .ok (.bipush 61, 2) := by decide +kernel
theorem dX12_plot_81 : decode cX12_plot 81 = .ok (.iload_n 3, 1) := by decide +kernel
theorem dX12_plot_82 : decode cX12_plot 82 = .ok (.invokevirtual 240, 3) := by decide +kernel
theorem dX12_plot_85 : decode cX12_plot 85 = .ok (.aload_n 0, 1) := by decide +kernel
theorem dX12_plot_86 : decode cX12_plot 86 = .ok (.bipush 61, 2) := by decide +kernel
theorem dX12_plot_88 : decode cX12_plot 88 = .ok (.iload_n 2, 1) := by decide +kernel
theorem dX12_plot_89 : decode cX12_plot 89 = .ok (.invokevirtual 240, 3) := by decide +kernel
theorem dX12_plot_92 : decode cX12_plot 92 = .ok (.if_icmp .ge 5, 3) := by decide +kernel
theorem dX12_plot_95 : decode cX12_plot 95 = .ok (.iload_n 3, 1) := by decide +kernel
theorem dX12_plot_96 : decode cX12_plot 96 = .ok (.istore_n 2, 1) := by decide +kernel
theorem dX12_plot_97 : decode cX12_plot 97 = .ok (.iinc 3 1, 3) := by decide +kernel
theorem dX12_plot_100 : decode cX12_plot 100 = .ok (.goto (-81), 3) := by decide +kernel
theorem dX12_plot_103 : decode cX12_plot 103 = .ok (.iload_n 2, 1) := by decide +kernel
theorem dX12_plot_104 : decode cX12_plot 104 = .ok (.ireturn, 1) := by decide +kernel
set_option maxHeartbeats 4000000 in
theorem w_l_M_plot_0 {ad wad : Nat → Nat} {Γ : Ctx} (F : Nat) {n : Nat} (hn : 6 ≤ n) (hG : Cx SHm ad wad cX12_plot 5 RX12 (some .int) (n) Γ) {q : Int32 × HS} {x1 : Int32} {g : Nat} {x2 : Int32} {x3 : Int32} {h : HS} (hd : l_M_plot_0 F x1 g x2 x3 h = some q) : AW SHm ad 5 (some (.int q.1), q.2) Γ 19 [(0, .ref (ad 0)), (1, .int x1), (2, .int x2), (3, .int x3)] [] h := by
  induction g generalizing x2 x3 h with
  | zero => unfold l_M_plot_0 at hd; cases hd
  | succ g ih =>
    unfold l_M_plot_0 at hd
    refine a_iload_n (pc := 19) hG 3 rfl dX12_plot_19 rfl ?_
    refine a_bipush (pc := 20) hG dX12_plot_20 (v := (nI 64)) rfl ?_
    refine a_ic_ge (pc := 22) hG (tgt := 103) hd dX12_plot_22 (by decide) (fun hd => ?_) (fun hd => ?_)
    · refine a_iload_n (pc := 103) hG 2 rfl dX12_plot_103 rfl ?_
      exact a_iret (pc := 104) hG hd dX12_plot_104
    refine a_iload_n (pc := 25) hG 3 rfl dX12_plot_25 rfl ?_
    refine a_aload_n (pc := 26) hG 0 rfl dX12_plot_26 rfl ?_
    refine a_iload_n (pc := 27) hG 1 rfl dX12_plot_27 rfl ?_
    refine a_cvI (pc := 28) hG (As := [.int x1]) (st := [.int x3]) sm_0 cl_X12 mk_X12_free t_1964 (by omega) (fun z hz => c_M_free x1 _  z hz) rfl (Nat.le_of_ble_eq_true rfl) hd dX12_plot_28 (fun r7 h6 hd => ?_)
    refine a_iconst (pc := 31) hG dX12_plot_31 (v := (-1 : Int32)) rfl ?_
    refine a_ixor (pc := 32) hG dX12_plot_32 ?_
    refine a_iand (pc := 33) hG dX12_plot_33 ?_
    refine a_join hd (Q := fun J : Int32 → HS → Option (Int32 × HS) => ∀ (v9 : Int32) (h10 : HS), J v9 h10 = some q → AW SHm ad 5 (some (.int q.1), q.2) Γ 97 [(0, .ref (ad 0)), (1, .int x1), (2, .int v9), (3, .int x3)] [] h10) (fun v9 h10 hd => ?_) (fun J8 hJ8 hd => ?_)
    · refine a_iincN (pc := 97) hG (c0 := (nI 1)) 3 rfl hd dX12_plot_97 rfl (by decide) (lf := fun x => [(3, .int x), (0, .ref (ad 0)), (1, .int x1), (2, .int v9)]) (fun _ => rfl) (fun v11 hd => ?_)
      refine a_goto (pc := 100) hG (tgt := 19) dX12_plot_100 (by decide) ?_
      exact AW.sub [1, 2, 3, 0] rfl (ih hd)
    refine a_if_ne (pc := 34) hG (tgt := 97) hd dX12_plot_34 (by decide) (fun hd => ?_) (fun hd => ?_)
    · exact AW.sub [0, 1, 2, 3] rfl (hJ8 _ _ hd)
    refine a_aload_n (pc := 37) hG 0 rfl dX12_plot_37 rfl ?_
    refine a_iload_n (pc := 38) hG 1 rfl dX12_plot_38 rfl ?_
    refine a_iload_n (pc := 39) hG 3 rfl dX12_plot_39 rfl ?_
    refine a_cvI (pc := 40) hG (As := [.int x1, .int x3]) (st := []) sm_0 cl_X12 mk_X12_isSafe t_1889 (by omega) (fun z hz => c_M_isSafe F x1 x3 _  z hz) rfl (Nat.le_of_ble_eq_true rfl) hd dX12_plot_40 (fun r13 h12 hd => ?_)
    refine a_if_eq (pc := 43) hG (tgt := 49) hd dX12_plot_43 (by decide) (fun hd => ?_) (fun hd => ?_)
    · refine a_iload_n (pc := 49) hG 2 rfl dX12_plot_49 rfl ?_
      refine a_join hd (Q := fun J : Int32 → HS → Option (Int32 × HS) => ∀ (v15 : Int32) (h16 : HS), J v15 h16 = some q → AW SHm ad 5 (some (.int q.1), q.2) Γ 66 [(0, .ref (ad 0)), (1, .int x1), (2, .int x2), (3, .int x3)] [.int v15] h16) (fun v15 h16 hd => ?_) (fun J14 hJ14 hd => ?_)
      · refine a_istoreN (pc := 66) hG hd dX12_plot_66 (by decide) (lf := fun x => [(4, .int x), (0, .ref (ad 0)), (1, .int x1), (2, .int x2), (3, .int x3)]) (fun _ => rfl) (fun v17 hd => ?_)
        refine a_iload (pc := 68) hG 0 rfl dX12_plot_68 ?_
        refine a_join hd (Q := fun J : HS → Option (Int32 × HS) => ∀  (h19 : HS), J  h19 = some q → AW SHm ad 5 (some (.int q.1), q.2) Γ 95 [(0, .ref (ad 0)), (1, .int x1), (3, .int x3)] [] h19) (fun  h19 hd => ?_) (fun J18 hJ18 hd => ?_)
        · refine a_iload_n (pc := 95) hG 2 rfl dX12_plot_95 rfl ?_
          refine a_istore_nN (pc := 96) hG hd dX12_plot_96 rfl (by decide) (lf := fun x => [(2, .int x), (0, .ref (ad 0)), (1, .int x1), (3, .int x3)]) (fun _ => rfl) (fun v20 hd => ?_)
          exact AW.sub [1, 2, 0, 3] rfl (hJ8 _ _ hd)
        refine a_if_gt (pc := 70) hG (tgt := 95) hd dX12_plot_70 (by decide) (fun hd => ?_) (fun hd => ?_)
        · exact AW.sub [1, 2, 4] rfl (hJ18  _ hd)
        refine a_iload (pc := 73) hG 0 rfl dX12_plot_73 ?_
        refine a_if_ne (pc := 75) hG (tgt := 97) hd dX12_plot_75 (by decide) (fun hd => ?_) (fun hd => ?_)
        · exact AW.sub [1, 2, 3, 4] rfl (hJ8 _ _ hd)
        refine a_aload_n (pc := 78) hG 1 rfl dX12_plot_78 rfl ?_
        refine a_bipush (pc := 79) hG dX12_plot_79 (v := (nI 61)) rfl ?_
        refine a_iload_n (pc := 81) hG 4 rfl dX12_plot_81 rfl ?_
        refine a_cvI (pc := 82) hG (As := [.int (nI 61), .int x3]) (st := []) sm_0 cl_X12 mk_X12_sum t_1846 (by omega) (fun z hz => c_M_sum F (nI 61) x3 _  z hz) rfl (Nat.le_of_ble_eq_true rfl) hd dX12_plot_82 (fun r22 h21 hd => ?_)
        refine a_aload_n (pc := 85) hG 1 rfl dX12_plot_85 rfl ?_
        refine a_bipush (pc := 86) hG dX12_plot_86 (v := (nI 61)) rfl ?_
        refine a_iload_n (pc := 88) hG 3 rfl dX12_plot_88 rfl ?_
        refine a_cvI (pc := 89) hG (As := [.int (nI 61), .int x2]) (st := [.int r22]) sm_0 cl_X12 mk_X12_sum t_1846 (by omega) (fun z hz => c_M_sum F (nI 61) x2 _  z hz) rfl (Nat.le_of_ble_eq_true rfl) hd dX12_plot_89 (fun r24 h23 hd => ?_)
        refine a_ic_ge (pc := 92) hG (tgt := 97) hd dX12_plot_92 (by decide) (fun hd => ?_) (fun hd => ?_)
        · exact AW.sub [1, 2, 3, 4] rfl (hJ8 _ _ hd)
        exact AW.sub [1, 2, 4] rfl (hJ18  _ hd)
      refine a_if_ge (pc := 50) hG (tgt := 57) hd dX12_plot_50 (by decide) (fun hd => ?_) (fun hd => ?_)
      · refine a_iload_n (pc := 57) hG 2 rfl dX12_plot_57 rfl ?_
        refine a_csI (pc := 58) hG (As := [.int x2]) (st := []) mk_X12_bits t_1968 (by omega) (fun z hz => c_M_bits F x2 _  z hz) rfl (Nat.le_of_ble_eq_true rfl) hd dX12_plot_58 (fun r26 h25 hd => ?_)
        refine a_iload_n (pc := 61) hG 3 rfl dX12_plot_61 rfl ?_
        refine a_csI (pc := 62) hG (As := [.int x3]) (st := [.int r26]) mk_X12_bits t_1968 (by omega) (fun z hz => c_M_bits F x3 _  z hz) rfl (Nat.le_of_ble_eq_true rfl) hd dX12_plot_62 (fun r28 h27 hd => ?_)
        refine a_isub (pc := 65) hG dX12_plot_65 ?_
        exact AW.sub [0, 1, 2, 3] rfl (hJ14 _ _ hd)
      refine a_iconst (pc := 53) hG dX12_plot_53 (v := (nI 1)) rfl ?_
      refine a_goto (pc := 54) hG (tgt := 66) dX12_plot_54 (by decide) ?_
      exact AW.sub [0, 1, 2, 3] rfl (hJ14 _ _ hd)
    refine a_goto (pc := 46) hG (tgt := 97) dX12_plot_46 (by decide) ?_
    exact AW.sub [0, 1, 2, 3] rfl (hJ8 _ _ hd)
set_option maxHeartbeats 4000000 in
theorem c_M_plot {ad wad : Nat → Nat} (F : Nat) (a0 : Int32) (h : HS)  (q : Int32 × HS) (hd : f_M_plot F a0 h = some q) : Ctr SHm ad wad yX12_plot cX12_plot 5 (some .int) 6 [.ref (ad 0), .int a0] h (some (.int q.1), q.2) := by
  refine enter (own := RX12) (lv := [(0, .ref (ad 0)), (1, .int a0)]) (by decide +kernel) rfl (Nat.le_of_ble_eq_true rfl) rfl (fun Γ hG => ?_)
  unfold f_M_plot at hd
  refine a_aload_n (pc := 0) hG 0 rfl dX12_plot_0 rfl ?_
  refine a_iconst (pc := 1) hG dX12_plot_1 (v := (nI 0)) rfl ?_
  refine a_putI (pc := 2) hG sm_0 cl_X12 ok_X12 0 (by decide) rfl t_1609 rfl (ty := .int) rfl rfl rfl hd dX12_plot_2 (fun h1 hd => ?_)
  refine a_aload_n (pc := 5) hG 0 rfl dX12_plot_5 rfl ?_
  refine a_iload_n (pc := 6) hG 1 rfl dX12_plot_6 rfl ?_
  refine a_cvI (pc := 7) hG (As := [.int a0]) (st := []) sm_0 cl_X12 mk_X12_isCause t_1830 (by omega) (fun z hz => c_M_isCause a0 _  z hz) rfl (Nat.le_of_ble_eq_true rfl) hd dX12_plot_7 (fun r3 h2 hd => ?_)
  refine a_if_ne (pc := 10) hG (tgt := 15) hd dX12_plot_10 (by decide) (fun hd => ?_) (fun hd => ?_)
  · refine a_iconst (pc := 15) hG dX12_plot_15 (v := (-1 : Int32)) rfl ?_
    refine a_istore_nN (pc := 16) hG hd dX12_plot_16 rfl (by decide) (lf := fun x => [(2, .int x), (0, .ref (ad 0)), (1, .int a0)]) (fun _ => rfl) (fun v4 hd => ?_)
    refine a_iconst (pc := 17) hG dX12_plot_17 (v := (nI 0)) rfl ?_
    refine a_istore_nN (pc := 18) hG hd dX12_plot_18 rfl (by decide) (lf := fun x => [(3, .int x), (2, .int v4), (0, .ref (ad 0)), (1, .int a0)]) (fun _ => rfl) (fun v5 hd => ?_)
    refine AW.sub [2, 3, 1, 0] rfl ?_
    exact w_l_M_plot_0 F (by omega) hG hd
  refine a_iconst (pc := 13) hG dX12_plot_13 (v := (-1 : Int32)) rfl ?_
  exact a_iret (pc := 14) hG hd dX12_plot_14
theorem dX12_fair_0 : decode cX12_fair 0 = .ok (.aload_n 0, 1) := by decide +kernel
theorem dX12_fair_1 : decode cX12_fair 1 = .ok (.aload_n 0, 1) := by decide +kernel
theorem dX12_fair_2 : decode cX12_fair 2 = .ok (.iload_n 1, 1) := by decide +kernel
theorem dX12_fair_3 : decode cX12_fair 3 = .ok (.invokevirtual 255, 3) := by decide +kernel
theorem dX12_fair_6 : decode cX12_fair 6 = .ok (.ifCond .eq 24, 3) := by decide +kernel
theorem dX12_fair_9 : decode cX12_fair 9 = .ok (.iload_n 2, 1) := by decide +kernel
theorem dX12_fair_10 : decode cX12_fair 10 = .ok (.iconst 0, 1) := by decide +kernel
theorem dX12_fair_11 : decode cX12_fair 11 = .ok (.iconst 1, 1) := by decide +kernel
theorem dX12_fair_12 : decode cX12_fair 12 = .ok (.invokestatic 184, 3) := by decide +kernel
theorem dX12_fair_15 : decode cX12_fair 15 = .ok (.ifCond .eq 15, 3) := by decide +kernel
theorem dX12_fair_18 : decode cX12_fair 18 = .ok (.aload_n 0, 1) := by decide +kernel
theorem dX12_fair_19 : decode cX12_fair 19 = .ok (.getfield 33, 3) := by decide +kernel
theorem dX12_fair_22 : decode cX12_fair 22 = .ok (.bipush 78, 2) := by decide +kernel
theorem dX12_fair_24 : decode cX12_fair 24 = .ok (.iload_n 1, 1) := by decide +kernel
theorem dX12_fair_25 : decode cX12_fair 25 = .ok (.iadd, 1) := by decide +kernel
theorem dX12_fair_26 : decode cX12_fair 26 = .ok (.iaload, 1) := by decide +kernel
theorem dX12_fair_27 : decode cX12_fair 27 = .ok (.ifCond .ne 7, 3) := by decide +kernel
theorem dX12_fair_30 : decode cX12_fair 30 = .ok (.iconst 1, 1) := by decide +kernel
theorem dX12_fair_31 : decode cX12_fair 31 = .ok (.goto 4, 3) := by decide +kernel
theorem dX12_fair_34 : decode cX12_fair 34 = .ok (.iconst 0, 1) := by decide +kernel
theorem dX12_fair_35 : decode cX12_fair 35 = .ok (.invokevirtual 258, 3) := by decide +kernel
theorem dX12_fair_38 : decode cX12_fair 38 = .ok (.ifCond .eq 7, 3) := by decide +kernel
theorem dX12_fair_41 : decode cX12_fair 41 = .ok (.iconst 0, 1) := by decide +kernel
theorem dX12_fair_42 : decode cX12_fair 42 = .ok (.goto 25, 3) := by decide +kernel
theorem dX12_fair_45 : decode cX12_fair 45 = .ok (.aload_n 0, 1) := by decide +kernel
theorem dX12_fair_46 : decode cX12_fair 46 = .ok (.getfield 33, 3) := by decide +kernel
theorem dX12_fair_49 : decode cX12_fair 49 = .ok (.bipush 84, 2) := by decide +kernel
theorem dX12_fair_51 : decode cX12_fair 51 = .ok (.iload_n 1, 1) := by decide +kernel
theorem dX12_fair_52 : decode cX12_fair 52 = .ok (.iadd, 1) := by decide +kernel
theorem dX12_fair_53 : decode cX12_fair 53 = .ok (.iaload, 1) := by decide +kernel
theorem dX12_fair_54 : decode cX12_fair 54 = .ok (.aload_n 0, 1) := by decide +kernel
theorem dX12_fair_55 : decode cX12_fair 55 = .ok (.getfield 33, 3) := by decide +kernel
theorem dX12_fair_58 : decode cX12_fair 58 = .ok (.bipush 78, 2) := by decide +kernel
theorem dX12_fair_60 : decode cX12_fair 60 = .ok (.iload_n 1, 1) := by decide +kernel
theorem dX12_fair_61 : decode cX12_fair 61 = .ok (.iadd, 1) := by decide +kernel
theorem dX12_fair_62 : decode cX12_fair 62 = .ok (.iaload, 1) := by decide +kernel
theorem dX12_fair_63 : decode cX12_fair 63 = .ok (.iload_n 2, 1) := by decide +kernel
theorem dX12_fair_64 : decode cX12_fair 64 = .ok (.invokestatic 262, 3) := by decide +kernel
theorem dX12_fair_67 : decode cX12_fair 67 = .ok (.ireturn, 1) := by decide +kernel
set_option maxHeartbeats 4000000 in
theorem c_M_fair {ad wad : Nat → Nat} (F : Nat) (a0 : Int32) (a1 : Int32) (h : HS)  (q : Int32 × HS) (hd : f_M_fair F a0 a1 h = some q) : Ctr SHm ad wad yX12_fair cX12_fair 3 (some .int) 3 [.ref (ad 0), .int a0, .int a1] h (some (.int q.1), q.2) := by
  refine enter (own := RX12) (lv := [(0, .ref (ad 0)), (1, .int a0), (2, .int a1)]) (by decide +kernel) rfl (Nat.le_of_ble_eq_true rfl) rfl (fun Γ hG => ?_)
  unfold f_M_fair at hd
  refine a_aload_n (pc := 0) hG 0 rfl dX12_fair_0 rfl ?_
  refine a_aload_n (pc := 1) hG 0 rfl dX12_fair_1 rfl ?_
  refine a_iload_n (pc := 2) hG 1 rfl dX12_fair_2 rfl ?_
  refine a_cvI (pc := 3) hG (As := [.int a0]) (st := [.ref (ad 0)]) sm_0 cl_X12 mk_X12_isCause t_1830 (by omega) (fun z hz => c_M_isCause a0 _  z hz) rfl (Nat.le_of_ble_eq_true rfl) hd dX12_fair_3 (fun r2 h1 hd => ?_)
  refine a_join hd (Q := fun J : Int32 → HS → Option (Int32 × HS) => ∀ (v4 : Int32) (h5 : HS), J v4 h5 = some q → AW SHm ad 3 (some (.int q.1), q.2) Γ 35 [(0, .ref (ad 0)), (1, .int a0), (2, .int a1)] [.int v4, .ref (ad 0)] h5) (fun v4 h5 hd => ?_) (fun J3 hJ3 hd => ?_)
  · refine a_cvI (pc := 35) hG (As := [.int v4]) (st := []) sm_0 cl_X12 mk_X12_throwsIf t_1834 (by omega) (fun z hz => c_M_throwsIf v4 _  z hz) rfl (Nat.le_of_ble_eq_true rfl) hd dX12_fair_35 (fun r7 h6 hd => ?_)
    refine a_if_eq (pc := 38) hG (tgt := 45) hd dX12_fair_38 (by decide) (fun hd => ?_) (fun hd => ?_)
    · refine a_aload_n (pc := 45) hG 0 rfl dX12_fair_45 rfl ?_
      refine a_getR (pc := 46) hG sm_0 cl_X12 ok_X12 6 (by decide) rfl t_1615 dX12_fair_46 ?_
      refine a_bipush (pc := 49) hG dX12_fair_49 (v := (nI 84)) rfl ?_
      refine a_iload_n (pc := 51) hG 1 rfl dX12_fair_51 rfl ?_
      refine a_iadd (pc := 52) hG dX12_fair_52 ?_
      refine a_iald (pc := 53) hG sm_2 hd dX12_fair_53 (fun hd => ?_)
      refine a_aload_n (pc := 54) hG 0 rfl dX12_fair_54 rfl ?_
      refine a_getR (pc := 55) hG sm_0 cl_X12 ok_X12 6 (by decide) rfl t_1615 dX12_fair_55 ?_
      refine a_bipush (pc := 58) hG dX12_fair_58 (v := (nI 78)) rfl ?_
      refine a_iload_n (pc := 60) hG 1 rfl dX12_fair_60 rfl ?_
      refine a_iadd (pc := 61) hG dX12_fair_61 ?_
      refine a_iald (pc := 62) hG sm_2 hd dX12_fair_62 (fun hd => ?_)
      refine a_iload_n (pc := 63) hG 2 rfl dX12_fair_63 rfl ?_
      refine a_csI (pc := 64) hG (As := [.int (h6.1 2 ((nI 84) + a0).toNatClampNeg), .int (h6.1 2 ((nI 78) + a0).toNatClampNeg), .int a1]) (st := []) mk_X12_part t_1858 (by omega) (fun z hz => c_M_part F (h6.1 2 ((nI 84) + a0).toNatClampNeg) (h6.1 2 ((nI 78) + a0).toNatClampNeg) a1 _  z hz) rfl (Nat.le_of_ble_eq_true rfl) hd dX12_fair_64 (fun r9 h8 hd => ?_)
      exact a_iret (pc := 67) hG hd dX12_fair_67
    refine a_iconst (pc := 41) hG dX12_fair_41 (v := (nI 0)) rfl ?_
    refine a_goto (pc := 42) hG (tgt := 67) dX12_fair_42 (by decide) ?_
    exact a_iret (pc := 67) hG hd dX12_fair_67
  refine a_join hd (Q := fun J : HS → Option (Int32 × HS) => ∀  (h11 : HS), J  h11 = some q → AW SHm ad 3 (some (.int q.1), q.2) Γ 30 [(0, .ref (ad 0)), (1, .int a0), (2, .int a1)] [.ref (ad 0)] h11) (fun  h11 hd => ?_) (fun J10 hJ10 hd => ?_)
  · refine a_iconst (pc := 30) hG dX12_fair_30 (v := (nI 1)) rfl ?_
    refine a_goto (pc := 31) hG (tgt := 35) dX12_fair_31 (by decide) ?_
    exact AW.sub [0, 1, 2] rfl (hJ3 _ _ hd)
  refine a_if_eq (pc := 6) hG (tgt := 30) hd dX12_fair_6 (by decide) (fun hd => ?_) (fun hd => ?_)
  · exact AW.sub [0, 1, 2] rfl (hJ10  _ hd)
  refine a_iload_n (pc := 9) hG 2 rfl dX12_fair_9 rfl ?_
  refine a_iconst (pc := 10) hG dX12_fair_10 (v := (nI 0)) rfl ?_
  refine a_iconst (pc := 11) hG dX12_fair_11 (v := (nI 1)) rfl ?_
  refine a_csI (pc := 12) hG (As := [.int a1, .int (nI 0), .int (nI 1)]) (st := [.ref (ad 0)]) mk_X12_isIn t_1795 (by omega) (fun z hz => c_M_isIn a1 (nI 0) (nI 1) _  z hz) rfl (Nat.le_of_ble_eq_true rfl) hd dX12_fair_12 (fun r13 h12 hd => ?_)
  refine a_if_eq (pc := 15) hG (tgt := 30) hd dX12_fair_15 (by decide) (fun hd => ?_) (fun hd => ?_)
  · exact AW.sub [0, 1, 2] rfl (hJ10  _ hd)
  refine a_aload_n (pc := 18) hG 0 rfl dX12_fair_18 rfl ?_
  refine a_getR (pc := 19) hG sm_0 cl_X12 ok_X12 6 (by decide) rfl t_1615 dX12_fair_19 ?_
  refine a_bipush (pc := 22) hG dX12_fair_22 (v := (nI 78)) rfl ?_
  refine a_iload_n (pc := 24) hG 1 rfl dX12_fair_24 rfl ?_
  refine a_iadd (pc := 25) hG dX12_fair_25 ?_
  refine a_iald (pc := 26) hG sm_2 hd dX12_fair_26 (fun hd => ?_)
  refine a_if_ne (pc := 27) hG (tgt := 34) hd dX12_fair_27 (by decide) (fun hd => ?_) (fun hd => ?_)
  · refine a_iconst (pc := 34) hG dX12_fair_34 (v := (nI 0)) rfl ?_
    exact AW.sub [0, 1, 2] rfl (hJ3 _ _ hd)
  exact AW.sub [0, 1, 2] rfl (hJ10  _ hd)
theorem dX12_tries_0 : decode cX12_tries 0 = .ok (.iconst 0, 1) := by decide +kernel
theorem dX12_tries_1 : decode cX12_tries 1 = .ok (.istore_n 1, 1) := by decide +kernel
theorem dX12_tries_2 : decode cX12_tries 2 = .ok (.iload_n 1, 1) := by decide +kernel
theorem dX12_tries_3 : decode cX12_tries 3 = .ok (.bipush 79, 2) := by decide +kernel
theorem dX12_tries_5 : decode cX12_tries 5 = .ok (.if_icmp .ge 24, 3) := by decide +kernel
theorem dX12_tries_8 : decode cX12_tries 8 = .ok (.aload_n 0, 1) := by decide +kernel
theorem dX12_tries_9 : decode cX12_tries 9 = .ok (.getfield 53, 3) := by decide +kernel
theorem dX12_tries_12 : decode cX12_tries 12 = .ok (.iload_n 1, 1) := by decide +kernel
theorem dX12_tries_13 : decode cX12_tries 13 = .ok (.aload_n 0, 1) := by decide +kernel
theorem dX12_tries_14 : decode cX12_tries 14 = .ok (.getfield 33, 3) := by decide +kernel
theorem dX12_tries_17 : decode cX12_tries 17 = .ok (.bipush 72, 2) := by decide +kernel
theorem dX12_tries_19 : decode cX12_tries 19 = .ok (.iload_n 1, 1) := by decide +kernel
theorem dX12_tries_20 : decode cX12_tries 20 = .ok (.iadd, 1) := by decide +kernel
theorem dX12_tries_21 : decode cX12_tries 21 = .ok (.iaload, 1) := by decide +kernel
theorem dX12_tries_22 : decode cX12_tries 22 = .ok (.iastore, 1) := by decide +kernel
theorem dX12_tries_23 : decode cX12_tries 23 = .ok (.iinc 1 1, 3) := by decide +kernel
theorem dX12_tries_26 : decode cX12_tries 26 = .ok (.goto (-24), 3) := by decide +kernel
theorem dX12_tries_29 : decode cX12_tries 29 = .ok (.return_, 1) := by decide +kernel
set_option maxHeartbeats 4000000 in
theorem w_l_M_tries_0 {ad wad : Nat → Nat} {Γ : Ctx} (F : Nat) {n : Nat} (hn : 1 ≤ n) (hG : Cx SHm ad wad cX12_tries 2 RX12 none (n) Γ) {q : Unit × HS} {g : Nat} {x1 : Int32} {h : HS} (hd : l_M_tries_0 F g x1 h = some q) : AW SHm ad 2 (none, q.2) Γ 2 [(0, .ref (ad 0)), (1, .int x1)] [] h := by
  induction g generalizing x1 h with
  | zero => unfold l_M_tries_0 at hd; cases hd
  | succ g ih =>
    unfold l_M_tries_0 at hd
    refine a_iload_n (pc := 2) hG 1 rfl dX12_tries_2 rfl ?_
    refine a_bipush (pc := 3) hG dX12_tries_3 (v := (nI 79)) rfl ?_
    refine a_ic_ge (pc := 5) hG (tgt := 29) hd dX12_tries_5 (by decide) (fun hd => ?_) (fun hd => ?_)
    · exact a_vret (pc := 29) hG hd dX12_tries_29
    refine a_aload_n (pc := 8) hG 0 rfl dX12_tries_8 rfl ?_
    refine a_getR (pc := 9) hG sm_0 cl_X12 ok_X12 22 (by decide) rfl t_1631 dX12_tries_9 ?_
    refine a_iload_n (pc := 12) hG 1 rfl dX12_tries_12 rfl ?_
    refine a_aload_n (pc := 13) hG 0 rfl dX12_tries_13 rfl ?_
    refine a_getR (pc := 14) hG sm_0 cl_X12 ok_X12 6 (by decide) rfl t_1615 dX12_tries_14 ?_
    refine a_bipush (pc := 17) hG dX12_tries_17 (v := (nI 72)) rfl ?_
    refine a_iload_n (pc := 19) hG 1 rfl dX12_tries_19 rfl ?_
    refine a_iadd (pc := 20) hG dX12_tries_20 ?_
    refine a_iald (pc := 21) hG sm_2 hd dX12_tries_21 (fun hd => ?_)
    refine a_iast (pc := 22) hG sm_8 hd dX12_tries_22 (fun h2 hd => ?_)
    refine a_iincN (pc := 23) hG (c0 := (nI 1)) 1 rfl hd dX12_tries_23 rfl (by decide) (lf := fun x => [(1, .int x), (0, .ref (ad 0))]) (fun _ => rfl) (fun v3 hd => ?_)
    refine a_goto (pc := 26) hG (tgt := 2) dX12_tries_26 (by decide) ?_
    exact AW.sub [1, 0] rfl (ih hd)
set_option maxHeartbeats 4000000 in
theorem c_M_tries {ad wad : Nat → Nat} (F : Nat)  (h : HS)  (q : Unit × HS) (hd : f_M_tries F  h = some q) : Ctr SHm ad wad yX12_tries cX12_tries 2 none 1 [.ref (ad 0)] h (none, q.2) := by
  refine enter (own := RX12) (lv := [(0, .ref (ad 0))]) (by decide +kernel) rfl (Nat.le_of_ble_eq_true rfl) rfl (fun Γ hG => ?_)
  unfold f_M_tries at hd
  refine a_iconst (pc := 0) hG dX12_tries_0 (v := (nI 0)) rfl ?_
  refine a_istore_nN (pc := 1) hG hd dX12_tries_1 rfl (by decide) (lf := fun x => [(1, .int x), (0, .ref (ad 0))]) (fun _ => rfl) (fun v1 hd => ?_)
  refine AW.sub [1, 0] rfl ?_
  exact w_l_M_tries_0 F (by omega) hG hd
theorem dX12_works_0 : decode cX12_works 0 = .ok (.aload_n 0, 1) := by decide +kernel
theorem dX12_works_1 : decode cX12_works 1 = .ok (.getfield 33, 3) := by decide +kernel
theorem dX12_works_4 : decode cX12_works 4 = .ok (.sipush 131, 3) := by decide +kernel
theorem dX12_works_7 : decode cX12_works 7 = .ok (.iload_n 1, 1) := by decide +kernel
theorem dX12_works_8 : decode cX12_works 8 = .ok (.iadd, 1) := by decide +kernel
theorem dX12_works_9 : decode cX12_works 9 = .ok (.iaload, 1) := by decide +kernel
theorem dX12_works_10 : decode cX12_works 10 = .ok (.ifCond .ne 47, 3) := by decide +kernel
theorem dX12_works_13 : decode cX12_works 13 = .ok (.iconst 0, 1) := by decide +kernel
theorem dX12_works_14 : decode cX12_works 14 = .ok (.istore_n 3, 1) := by decide +kernel
theorem dX12_works_15 : decode cX12_works 15 = .ok (.iload_n 3, 1) := by decide +kernel
theorem dX12_works_16 : decode cX12_works 16 = .ok (.aload_n 0, 1) := by decide +kernel
theorem dX12_works_17 : decode cX12_works 17 = .ok (.getfield 33, 3) := by decide +kernel
theorem dX12_works_20 : decode cX12_works 20 = .ok (.iconst 0, 1) := by decide +kernel
theorem dX12_works_21 : decode cX12_works 21 = .ok (.iaload, 1) := by decide +kernel
theorem dX12_works_22 : decode cX12_works 22 = .ok (.if_icmp .ge 18, 3) := by decide +kernel
theorem dX12_works_25 : decode cX12_works 25 = .ok (.aload_n 0, 1) := by decide +kernel
theorem dX12_works_26 : decode cX12_works 26 = .ok (.iload_n 1, 1) := by decide +kernel
theorem dX12_works_27 : decode cX12_works 27 = .ok (.iload_n 3, 1) := by decide +kernel
theorem dX12_works_28 : decode cX12_works 28 = .ok (.invokevirtual 278, 3) := by decide +kernel
theorem dX12_works_31 : decode cX12_works 31 = .ok (.ifCond .le 9, 3) := by decide +kernel
theorem dX12_works_34 : decode cX12_works 34 = .ok (.iinc 3 1, 3) := by decide +kernel
theorem dX12_works_37 : decode cX12_works 37 = .ok (.goto (-22), 3) := by decide +kernel
theorem dX12_works_40 : decode cX12_works 40 = .ok (.iload_n 3, 1) := by decide +kernel
theorem dX12_works_41 : decode cX12_works 41 = .ok (.aload_n 0, 1) := by decide +kernel
theorem dX12_works_42 : decode cX12_works 42 = .ok (.getfield 33, 3) := by decide +kernel
theorem dX12_works_45 : decode cX12_works 45 = .ok (.iconst 0, 1) := by decide +kernel
theorem dX12_works_46 : decode cX12_works 46 = .ok (.iaload, 1) := by decide +kernel
theorem dX12_works_47 : decode cX12_works 47 = .ok (.if_icmp .ne 4, 3) := by decide +kernel
theorem dX12_works_50 : decode cX12_works 50 = .ok (.return_, 1) := by decide +kernel
theorem dX12_works_51 : decode cX12_works 51 = .ok (.aload_n 0, 1) := by decide +kernel
theorem dX12_works_52 : decode cX12_works 52 = .ok (.iload_n 1, 1) := by decide +kernel
theorem dX12_works_53 : decode cX12_works 53 = .ok (.iload_n 3, 1) := by decide +kernel
theorem dX12_works_54 : decode cX12_works 54 = .ok (.invokevirtual 284, 3) := by decide +kernel
theorem dX12_works_57 : decode cX12_works 57 = .ok (.iconst (-1), 1) := by decide +kernel
theorem dX12_works_58 : decode cX12_works 58 = .ok (.istore_n 3, 1) := by decide +kernel
theorem dX12_works_59 : decode cX12_works 59 = .ok (.iconst 0, 1) := by decide +kernel
theorem dX12_works_60 : decode cX12_works 60 = .ok (.istore 4, 2) := by decide +kernel
theorem dX12_works_62 : decode cX12_works 62 = .ok (.iload_n 2, 1) := by decide +kernel
theorem dX12_works_63 : decode cX12_works 63 = .ok (.iconst 1, 1) := by decide +kernel
theorem dX12_works_64 : decode cX12_works 64 = .ok (.if_icmp .ne 82, 3) := by decide +kernel
theorem dX12_works_67 : decode cX12_works 67 = .ok (.aload_n 0, 1) := by decide +kernel
theorem dX12_works_68 : decode cX12_works 68 = .ok (.aload_n 0, 1) := by decide +kernel
theorem dX12_works_69 : decode cX12_works 69 = .ok (.getfield 33, 3) := by decide +kernel
theorem dX12_works_72 : decode cX12_works 72 = .ok (.sipush 131, 3) := by decide +kernel
theorem dX12_works_75 : decode cX12_works 75 = .ok (.iload_n 1, 1) := by decide +kernel
theorem dX12_works_76 : decode cX12_works 76 = .ok (.iadd, 1) := by decide +kernel
theorem dX12_works_77 : decode cX12_works 77 = .ok (.iaload, 1) := by decide +kernel
theorem dX12_works_78 : decode cX12_works 78 = .ok (.iconst 1, 1) := by decide +kernel
theorem dX12_works_79 : decode cX12_works 79 = .ok (.isub, 1) := by decide +kernel
theorem dX12_works_80 : decode cX12_works 80 = .ok (.aload_n 0, 1) := by decide +kernel
theorem dX12_works_81 : decode cX12_works 81 = .ok (.getfield 33, 3) := by decide +kernel
theorem dX12_works_84 : decode cX12_works 84 = .ok (.bipush 126, 2) := by decide +kernel
theorem dX12_works_86 : decode cX12_works 86 = .ok (.iload_n 1, 1) := by decide +kernel
theorem dX12_works_87 : decode cX12_works 87 = .ok (.iadd, 1) := by decide +kernel
theorem dX12_works_88 : decode cX12_works 88 = .ok (.iaload, 1) := by decide +kernel
theorem dX12_works_89 : decode cX12_works 89 = .ok (.invokevirtual 319, 3) := by decide +kernel
theorem dX12_works_92 : decode cX12_works 92 = .ok (.istore 5, 2) := by decide +kernel
theorem dX12_works_94 : decode cX12_works 94 = .ok (.iconst 5, 1) := by decide +kernel
theorem dX12_works_95 : decode cX12_works 95 = .ok (.istore 6, 2) := by decide +kernel
theorem dX12_works_97 : decode cX12_works 97 = .ok (.iload 6, 2) := by decide +kernel
theorem dX12_works_99 : decode cX12_works 99 = .ok (.ifCond .lt 27, 3) := by decide +kernel
theorem dX12_works_102 : decode cX12_works 102 = .ok (.iload 5, 2) := by decide +kernel
theorem dX12_works_104 : decode cX12_works 104 = .ok (.ifCond .le 16, 3) := by decide +kernel
theorem dX12_works_107 : decode cX12_works 107 = .ok (.iload 5, 2) := by decide +kernel
theorem dX12_works_109 : decode cX12_works 109 = .ok (.iload 6, 2) := by decide +kernel
theorem dX12_works_111 : decode cX12_works 111 = .ok (.invokestatic 206, 3) := by decide +kernel
theorem dX12_works_114 : decode cX12_works 114 = .ok (.ifCond .eq 6, 3) := by decide +kernel
theorem dX12_works_117 : decode cX12_works 117 = .ok (.iload 6, 2) := by decide +kernel
theorem dX12_works_119 : decode cX12_works 119 = .ok (.istore_n 3, 1) := by decide +kernel
theorem dX12_works_120 : decode cX12_works 120 = .ok (.iinc 6 (-1), 3) := by decide +kernel
theorem dX12_works_123 : decode cX12_works 123 = .ok (.goto (-26), 3) := by decide +kernel
theorem dX12_works_126 : decode cX12_works 126 = .ok (.iload_n 3, 1) := by decide +kernel
theorem dX12_works_127 : decode cX12_works 127 = .ok (.ifCond .lt 16, 3) := by decide +kernel
theorem dX12_works_130 : decode cX12_works 130 = .ok (.aload_n 0, 1) := by decide +kernel
theorem dX12_works_131 : decode cX12_works 131 = .ok (.iload_n 1, 1) := by decide +kernel
theorem dX12_works_132 : decode cX12_works 132 = .ok (.iload_n 3, 1) := by decide +kernel
theorem dX12_works_133 : decode cX12_works 133 = .ok (.invokevirtual 288, 3) := by decide +kernel
theorem dX12_works_136 : decode cX12_works 136 = .ok (.ifCond .le 7, 3) := by decide +kernel
theorem dX12_works_139 : decode cX12_works 139 = .ok (.iconst 1, 1) := by decide +kernel
theorem dX12_works_140 : decode cX12_works 140 = .ok (.goto 4, 3) := by decide +kernel
theorem dX12_works_143 : decode cX12_works 143 = .ok (.iconst 0, 1) := by decide +kernel
theorem dX12_works_144 : decode cX12_works 144 = .ok (.istore 4, 2) := by decide +kernel
theorem dX12_works_146 : decode cX12_works 146 = .ok (.iconst 5, 1) := by decide +kernel
theorem dX12_works_147 : decode cX12_works 147 = .ok (.istore 5, 2) := by decide +kernel
theorem dX12_works_149 : decode cX12_works 149 = .ok (.iload 5, 2) := by decide +kernel
theorem dX12_works_151 : decode cX12_works 151 = .ok (.ifCond .lt 36, 3) := by decide +kernel
theorem dX12_works_154 : decode cX12_works 154 = .ok (.iload_n 2, 1) := by decide +kernel
theorem dX12_works_155 : decode cX12_works 155 = .ok (.iconst 2, 1) := by decide +kernel
theorem dX12_works_156 : decode cX12_works 156 = .ok (.if_icmp .ne 31, 3) := by decide +kernel
theorem dX12_works_159 : decode cX12_works 159 = .ok (.aload_n 0, 1) := by decide +kernel
theorem dX12_works_160 : decode cX12_works 160 = .ok (.iload 5, 2) := by decide +kernel
theorem dX12_works_162 : decode cX12_works 162 = .ok (.invokevirtual 266, 3) := by decide +kernel
theorem dX12_works_165 : decode cX12_works 165 = .ok (.ifCond .eq 16, 3) := by decide +kernel
theorem dX12_works_168 : decode cX12_works 168 = .ok (.aload_n 0, 1) := by decide +kernel
theorem dX12_works_169 : decode cX12_works 169 = .ok (.iload_n 1, 1) := by decide +kernel
theorem dX12_works_170 : decode cX12_works 170 = .ok (.iload 5, 2) := by decide +kernel
theorem dX12_works_172 : decode cX12_works 172 = .ok (.invokevirtual 288, 3) := by decide +kernel
theorem dX12_works_175 : decode cX12_works 175 = .ok (.ifCond .ne 6, 3) := by decide +kernel
theorem dX12_works_178 : decode cX12_works 178 = .ok (.iload 5, 2) := by decide +kernel
theorem dX12_works_180 : decode cX12_works 180 = .ok (.istore_n 3, 1) := by decide +kernel
theorem dX12_works_181 : decode cX12_works 181 = .ok (.iinc 5 (-1), 3) := by decide +kernel
theorem dX12_works_184 : decode cX12_works 184 = .ok (.goto (-35), 3) := by decide +kernel
theorem dX12_works_187 : decode cX12_works 187 = .ok (.iload 4, 2) := by decide +kernel
theorem dX12_works_189 : decode cX12_works 189 = .ok (.ifCond .eq 4, 3) := by decide +kernel
theorem dX12_works_192 : decode cX12_works 192 = .ok (.return_, 1) := by decide +kernel
theorem dX12_works_193 : decode cX12_works 193 = .ok (.iload_n 3, 1) := by decide +kernel
theorem dX12_works_194 : decode cX12_works 194 = .ok (.ifCond .lt 12, 3) := by decide +kernel
theorem dX12_works_197 : decode cX12_works 197 = .ok (.aload_n 0, 1) := by decide +kernel
theorem dX12_works_198 : decode cX12_works 198 = .ok (.iload_n 1, 1) := by decide +kernel
theorem dX12_works_199 : decode cX12_works 199 = .ok (.iload_n 3, 1) := by decide +kernel
theorem dX12_works_200 : decode cX12_works 200 = .ok (.invokevirtual 291, 3) := by decide +kernel
theorem dX12_works_203 : decode cX12_works 203 = .ok (.goto 16, 3) := by decide +kernel
theorem dX12_works_206 : decode cX12_works 206 = .ok (.aload_n 0, 1) := by decide +kernel
theorem dX12_works_207 : decode cX12_works 207 = .ok (.iload_n 1, 1) := by decide +kernel
theorem dX12_works_208 : decode cX12_works 208 = .ok (.invokevirtual 294, 3) := by decide +kernel
theorem dX12_works_211 : decode cX12_works 211 = .ok (.ifCond .ne 8, 3) := by decide +kernel
theorem dX12_works_214 : decode cX12_works 214 = .ok (.aload_n 0, 1) := by decide +kernel
theorem dX12_works_215 : decode cX12_works 215 = .ok (.iload_n 1, 1) := by decide +kernel
theorem dX12_works_216 : decode cX12_works 216 = .ok (.invokevirtual 298, 3) := by decide +kernel
theorem dX12_works_219 : decode cX12_works 219 = .ok (.return_, 1) := by decide +kernel
set_option maxHeartbeats 4000000 in
theorem w_l_M_works_0 {ad wad : Nat → Nat} {Γ : Ctx} (F : Nat) {n : Nat} (hn : 8 ≤ n) (hG : Cx SHm ad wad cX12_works 7 RX12 none (n) Γ) {q : Unit × HS} {x1 : Int32} {x2 : Int32} {x4 : Int32} {K0 : Int32 → HS → Option (Unit × HS)} {g : Nat} {x3 : Int32} {x5 : Int32} {h : HS} (hd : l_M_works_0 F x1 x2 x4 K0 g x3 x5 h = some q) (hK0 : ∀ (y3 : Int32) (z : HS), K0 y3 z = some q → AW SHm ad 7 (none, q.2) Γ 187 [(0, .ref (ad 0)), (1, .int x1), (3, .int y3), (4, .int x4)] [] z) : AW SHm ad 7 (none, q.2) Γ 149 [(0, .ref (ad 0)), (1, .int x1), (2, .int x2), (3, .int x3), (4, .int x4), (5, .int x5)] [] h := by
  induction g generalizing x3 x5 h with
  | zero => unfold l_M_works_0 at hd; cases hd
  | succ g ih =>
    unfold l_M_works_0 at hd
    refine a_iload (pc := 149) hG 5 rfl dX12_works_149 ?_
    refine a_if_lt (pc := 151) hG (tgt := 187) hd dX12_works_151 (by decide) (fun hd => ?_) (fun hd => ?_)
    · exact AW.sub [0, 1, 3, 4] rfl (hK0 _ _ hd)
    refine a_iload_n (pc := 154) hG 2 rfl dX12_works_154 rfl ?_
    refine a_iconst (pc := 155) hG dX12_works_155 (v := (nI 2)) rfl ?_
    refine a_ic_ne (pc := 156) hG (tgt := 187) hd dX12_works_156 (by decide) (fun hd => ?_) (fun hd => ?_)
    · exact AW.sub [0, 1, 3, 4] rfl (hK0 _ _ hd)
    refine a_aload_n (pc := 159) hG 0 rfl dX12_works_159 rfl ?_
    refine a_iload (pc := 160) hG 5 rfl dX12_works_160 ?_
    refine a_cvI (pc := 162) hG (As := [.int x5]) (st := []) sm_0 cl_X12 mk_X12_isDeed t_1865 (by omega) (fun z hz => c_M_isDeed x5 _  z hz) rfl (Nat.le_of_ble_eq_true rfl) hd dX12_works_162 (fun r11 h10 hd => ?_)
    refine a_join hd (Q := fun J : Int32 → HS → Option (Unit × HS) => ∀ (v13 : Int32) (h14 : HS), J v13 h14 = some q → AW SHm ad 7 (none, q.2) Γ 181 [(0, .ref (ad 0)), (1, .int x1), (2, .int x2), (3, .int v13), (4, .int x4), (5, .int x5)] [] h14) (fun v13 h14 hd => ?_) (fun J12 hJ12 hd => ?_)
    · refine a_iincN (pc := 181) hG (c0 := (-1 : Int32)) 5 rfl hd dX12_works_181 rfl (by decide) (lf := fun x => [(5, .int x), (0, .ref (ad 0)), (1, .int x1), (2, .int x2), (3, .int v13), (4, .int x4)]) (fun _ => rfl) (fun v15 hd => ?_)
      refine a_goto (pc := 184) hG (tgt := 149) dX12_works_184 (by decide) ?_
      exact AW.sub [1, 2, 3, 4, 5, 0] rfl (ih hd)
    refine a_if_eq (pc := 165) hG (tgt := 181) hd dX12_works_165 (by decide) (fun hd => ?_) (fun hd => ?_)
    · exact AW.sub [0, 1, 2, 3, 4, 5] rfl (hJ12 _ _ hd)
    refine a_aload_n (pc := 168) hG 0 rfl dX12_works_168 rfl ?_
    refine a_iload_n (pc := 169) hG 1 rfl dX12_works_169 rfl ?_
    refine a_iload (pc := 170) hG 5 rfl dX12_works_170 ?_
    refine a_cvI (pc := 172) hG (As := [.int x1, .int x5]) (st := []) sm_0 cl_X12 mk_X12_whyAct t_1909 (by omega) (fun z hz => c_M_whyAct x1 x5 _  z hz) rfl (Nat.le_of_ble_eq_true rfl) hd dX12_works_172 (fun r17 h16 hd => ?_)
    refine a_if_ne (pc := 175) hG (tgt := 181) hd dX12_works_175 (by decide) (fun hd => ?_) (fun hd => ?_)
    · exact AW.sub [0, 1, 2, 3, 4, 5] rfl (hJ12 _ _ hd)
    refine a_iload (pc := 178) hG 5 rfl dX12_works_178 ?_
    refine a_istore_nN (pc := 180) hG hd dX12_works_180 rfl (by decide) (lf := fun x => [(3, .int x), (0, .ref (ad 0)), (1, .int x1), (2, .int x2), (4, .int x4), (5, .int x5)]) (fun _ => rfl) (fun v18 hd => ?_)
    exact AW.sub [1, 2, 3, 0, 4, 5] rfl (hJ12 _ _ hd)
set_option maxHeartbeats 4000000 in
theorem w_l_M_works_1 {ad wad : Nat → Nat} {Γ : Ctx} (F : Nat) {n : Nat} (hn : 8 ≤ n) (hG : Cx SHm ad wad cX12_works 7 RX12 none (n) Γ) {q : Unit × HS} {x1 : Int32} {x2 : Int32} {x5 : Int32} {K0 : Int32 → HS → Option (Unit × HS)} {g : Nat} {x3 : Int32} {x6 : Int32} {h : HS} (hd : l_M_works_1 F x1 x2 x5 K0 g x3 x6 h = some q) (hK0 : ∀ (y3 : Int32) (z : HS), K0 y3 z = some q → AW SHm ad 7 (none, q.2) Γ 126 [(0, .ref (ad 0)), (1, .int x1), (2, .int x2), (3, .int y3)] [] z) : AW SHm ad 7 (none, q.2) Γ 97 [(0, .ref (ad 0)), (1, .int x1), (2, .int x2), (3, .int x3), (5, .int x5), (6, .int x6)] [] h := by
  induction g generalizing x3 x6 h with
  | zero => unfold l_M_works_1 at hd; cases hd
  | succ g ih =>
    unfold l_M_works_1 at hd
    refine a_iload (pc := 97) hG 5 rfl dX12_works_97 ?_
    refine a_if_lt (pc := 99) hG (tgt := 126) hd dX12_works_99 (by decide) (fun hd => ?_) (fun hd => ?_)
    · exact AW.sub [0, 1, 2, 3] rfl (hK0 _ _ hd)
    refine a_iload (pc := 102) hG 4 rfl dX12_works_102 ?_
    refine a_join hd (Q := fun J : Int32 → HS → Option (Unit × HS) => ∀ (v30 : Int32) (h31 : HS), J v30 h31 = some q → AW SHm ad 7 (none, q.2) Γ 120 [(0, .ref (ad 0)), (1, .int x1), (2, .int x2), (3, .int v30), (5, .int x5), (6, .int x6)] [] h31) (fun v30 h31 hd => ?_) (fun J29 hJ29 hd => ?_)
    · refine a_iincN (pc := 120) hG (c0 := (-1 : Int32)) 5 rfl hd dX12_works_120 rfl (by decide) (lf := fun x => [(6, .int x), (0, .ref (ad 0)), (1, .int x1), (2, .int x2), (3, .int v30), (5, .int x5)]) (fun _ => rfl) (fun v32 hd => ?_)
      refine a_goto (pc := 123) hG (tgt := 97) dX12_works_123 (by decide) ?_
      exact AW.sub [1, 2, 3, 4, 5, 0] rfl (ih hd)
    refine a_if_le (pc := 104) hG (tgt := 120) hd dX12_works_104 (by decide) (fun hd => ?_) (fun hd => ?_)
    · exact AW.sub [0, 1, 2, 3, 4, 5] rfl (hJ29 _ _ hd)
    refine a_iload (pc := 107) hG 4 rfl dX12_works_107 ?_
    refine a_iload (pc := 109) hG 5 rfl dX12_works_109 ?_
    refine a_csI (pc := 111) hG (As := [.int x5, .int x6]) (st := []) mk_X12_bitOf t_1780 (by omega) (fun z hz => c_M_bitOf x5 x6 _  z hz) rfl (Nat.le_of_ble_eq_true rfl) hd dX12_works_111 (fun r34 h33 hd => ?_)
    refine a_if_eq (pc := 114) hG (tgt := 120) hd dX12_works_114 (by decide) (fun hd => ?_) (fun hd => ?_)
    · exact AW.sub [0, 1, 2, 3, 4, 5] rfl (hJ29 _ _ hd)
    refine a_iload (pc := 117) hG 5 rfl dX12_works_117 ?_
    refine a_istore_nN (pc := 119) hG hd dX12_works_119 rfl (by decide) (lf := fun x => [(3, .int x), (0, .ref (ad 0)), (1, .int x1), (2, .int x2), (5, .int x5), (6, .int x6)]) (fun _ => rfl) (fun v35 hd => ?_)
    exact AW.sub [1, 2, 3, 0, 4, 5] rfl (hJ29 _ _ hd)
set_option maxHeartbeats 4000000 in
theorem w_l_M_works_2 {ad wad : Nat → Nat} {Γ : Ctx} (F : Nat) {n : Nat} (hn : 8 ≤ n) (hG : Cx SHm ad wad cX12_works 7 RX12 none (n) Γ) {q : Unit × HS} {x1 : Int32} {x2 : Int32} {K0 : Int32 → HS → Option (Unit × HS)} {g : Nat} {x3 : Int32} {h : HS} (hd : l_M_works_2 F x1 x2 K0 g x3 h = some q) (hK0 : ∀ (y3 : Int32) (z : HS), K0 y3 z = some q → AW SHm ad 7 (none, q.2) Γ 40 [(0, .ref (ad 0)), (1, .int x1), (2, .int x2), (3, .int y3)] [] z) : AW SHm ad 7 (none, q.2) Γ 15 [(0, .ref (ad 0)), (1, .int x1), (2, .int x2), (3, .int x3)] [] h := by
  induction g generalizing x3 h with
  | zero => unfold l_M_works_2 at hd; cases hd
  | succ g ih =>
    unfold l_M_works_2 at hd
    refine a_iload_n (pc := 15) hG 3 rfl dX12_works_15 rfl ?_
    refine a_aload_n (pc := 16) hG 0 rfl dX12_works_16 rfl ?_
    refine a_getR (pc := 17) hG sm_0 cl_X12 ok_X12 6 (by decide) rfl t_1615 dX12_works_17 ?_
    refine a_iconst (pc := 20) hG dX12_works_20 (v := (nI 0)) rfl ?_
    refine a_iald (pc := 21) hG sm_2 hd dX12_works_21 (fun hd => ?_)
    refine a_ic_ge (pc := 22) hG (tgt := 40) hd dX12_works_22 (by decide) (fun hd => ?_) (fun hd => ?_)
    · exact AW.sub [0, 1, 2, 3] rfl (hK0 _ _ hd)
    refine a_aload_n (pc := 25) hG 0 rfl dX12_works_25 rfl ?_
    refine a_iload_n (pc := 26) hG 1 rfl dX12_works_26 rfl ?_
    refine a_iload_n (pc := 27) hG 3 rfl dX12_works_27 rfl ?_
    refine a_cvI (pc := 28) hG (As := [.int x1, .int x3]) (st := []) sm_0 cl_X12 mk_X12_whyTake t_1885 (by omega) (fun z hz => c_M_whyTake F x1 x3 _  z hz) rfl (Nat.le_of_ble_eq_true rfl) hd dX12_works_28 (fun r48 h47 hd => ?_)
    refine a_if_le (pc := 31) hG (tgt := 40) hd dX12_works_31 (by decide) (fun hd => ?_) (fun hd => ?_)
    · exact AW.sub [0, 1, 2, 3] rfl (hK0 _ _ hd)
    refine a_iincN (pc := 34) hG (c0 := (nI 1)) 3 rfl hd dX12_works_34 rfl (by decide) (lf := fun x => [(3, .int x), (0, .ref (ad 0)), (1, .int x1), (2, .int x2)]) (fun _ => rfl) (fun v49 hd => ?_)
    refine a_goto (pc := 37) hG (tgt := 15) dX12_works_37 (by decide) ?_
    exact AW.sub [1, 2, 3, 0] rfl (ih hd)
set_option maxHeartbeats 4000000 in
theorem c_M_works {ad wad : Nat → Nat} (F : Nat) (a0 : Int32) (a1 : Int32) (h : HS)  (q : Unit × HS) (hd : f_M_works F a0 a1 h = some q) : Ctr SHm ad wad yX12_works cX12_works 7 none 8 [.ref (ad 0), .int a0, .int a1] h (none, q.2) := by
  refine enter (own := RX12) (lv := [(0, .ref (ad 0)), (1, .int a0), (2, .int a1)]) (by decide +kernel) rfl (Nat.le_of_ble_eq_true rfl) rfl (fun Γ hG => ?_)
  unfold f_M_works at hd
  refine a_aload_n (pc := 0) hG 0 rfl dX12_works_0 rfl ?_
  refine a_getR (pc := 1) hG sm_0 cl_X12 ok_X12 6 (by decide) rfl t_1615 dX12_works_1 ?_
  refine a_sipush (pc := 4) hG dX12_works_4 (v := (nI 131)) rfl ?_
  refine a_iload_n (pc := 7) hG 1 rfl dX12_works_7 rfl ?_
  refine a_iadd (pc := 8) hG dX12_works_8 ?_
  refine a_iald (pc := 9) hG sm_2 hd dX12_works_9 (fun hd => ?_)
  refine a_join hd (Q := fun J : HS → Option (Unit × HS) => ∀  (h2 : HS), J  h2 = some q → AW SHm ad 7 (none, q.2) Γ 57 [(0, .ref (ad 0)), (1, .int a0), (2, .int a1)] [] h2) (fun  h2 hd => ?_) (fun J1 hJ1 hd => ?_)
  · refine a_iconst (pc := 57) hG dX12_works_57 (v := (-1 : Int32)) rfl ?_
    refine a_istore_nN (pc := 58) hG hd dX12_works_58 rfl (by decide) (lf := fun x => [(3, .int x), (0, .ref (ad 0)), (1, .int a0), (2, .int a1)]) (fun _ => rfl) (fun v3 hd => ?_)
    refine a_iconst (pc := 59) hG dX12_works_59 (v := (nI 0)) rfl ?_
    refine a_istoreN (pc := 60) hG hd dX12_works_60 (by decide) (lf := fun x => [(4, .int x), (3, .int v3), (0, .ref (ad 0)), (1, .int a0), (2, .int a1)]) (fun _ => rfl) (fun v4 hd => ?_)
    refine a_iload_n (pc := 62) hG 4 rfl dX12_works_62 rfl ?_
    refine a_iconst (pc := 63) hG dX12_works_63 (v := (nI 1)) rfl ?_
    refine a_join hd (Q := fun J : Int32 → Int32 → HS → Option (Unit × HS) => ∀ (v6 : Int32) (v7 : Int32) (h8 : HS), J v6 v7 h8 = some q → AW SHm ad 7 (none, q.2) Γ 146 [(0, .ref (ad 0)), (1, .int a0), (2, .int a1), (3, .int v6), (4, .int v7)] [] h8) (fun v6 v7 h8 hd => ?_) (fun J5 hJ5 hd => ?_)
    · refine a_iconst (pc := 146) hG dX12_works_146 (v := (nI 5)) rfl ?_
      refine a_istoreN (pc := 147) hG hd dX12_works_147 (by decide) (lf := fun x => [(5, .int x), (0, .ref (ad 0)), (1, .int a0), (2, .int a1), (3, .int v6), (4, .int v7)]) (fun _ => rfl) (fun v9 hd => ?_)
      refine AW.sub [1, 2, 3, 4, 5, 0] rfl ?_
      refine w_l_M_works_0 F (by omega) hG hd (fun v19 h20 hd => ?_)
      refine a_iload (pc := 187) hG 3 rfl dX12_works_187 ?_
      refine a_if_eq (pc := 189) hG (tgt := 193) hd dX12_works_189 (by decide) (fun hd => ?_) (fun hd => ?_)
      · refine a_iload_n (pc := 193) hG 2 rfl dX12_works_193 rfl ?_
        refine a_if_lt (pc := 194) hG (tgt := 206) hd dX12_works_194 (by decide) (fun hd => ?_) (fun hd => ?_)
        · refine a_aload_n (pc := 206) hG 0 rfl dX12_works_206 rfl ?_
          refine a_iload_n (pc := 207) hG 1 rfl dX12_works_207 rfl ?_
          refine a_cvI (pc := 208) hG (As := [.int a0]) (st := []) sm_0 cl_X12 mk_X12_whyDrop t_1921 (by omega) (fun z hz => c_M_whyDrop a0 _  z hz) rfl (Nat.le_of_ble_eq_true rfl) hd dX12_works_208 (fun r22 h21 hd => ?_)
          refine a_if_ne (pc := 211) hG (tgt := 219) hd dX12_works_211 (by decide) (fun hd => ?_) (fun hd => ?_)
          · exact a_vret (pc := 219) hG hd dX12_works_219
          refine a_aload_n (pc := 214) hG 0 rfl dX12_works_214 rfl ?_
          refine a_iload_n (pc := 215) hG 1 rfl dX12_works_215 rfl ?_
          refine a_cvN (pc := 216) hG (As := [.int a0]) (st := []) sm_0 cl_X12 mk_X12_dropping t_1925 (by omega) (fun z hz => c_M_dropping F a0 _  z hz) rfl (Nat.le_of_ble_eq_true rfl) hd dX12_works_216 (fun _ h23 hd => ?_)
          exact a_vret (pc := 219) hG hd dX12_works_219
        refine a_aload_n (pc := 197) hG 0 rfl dX12_works_197 rfl ?_
        refine a_iload_n (pc := 198) hG 1 rfl dX12_works_198 rfl ?_
        refine a_iload_n (pc := 199) hG 2 rfl dX12_works_199 rfl ?_
        refine a_cvN (pc := 200) hG (As := [.int a0, .int v19]) (st := []) sm_0 cl_X12 mk_X12_acting t_1913 (by omega) (fun z hz => c_M_acting a0 v19 _  z hz) rfl (Nat.le_of_ble_eq_true rfl) hd dX12_works_200 (fun _ h24 hd => ?_)
        refine a_goto (pc := 203) hG (tgt := 219) dX12_works_203 (by decide) ?_
        exact a_vret (pc := 219) hG hd dX12_works_219
      exact a_vret (pc := 192) hG hd dX12_works_192
    refine a_ic_ne (pc := 64) hG (tgt := 146) hd dX12_works_64 (by decide) (fun hd => ?_) (fun hd => ?_)
    · exact AW.sub [2, 3, 4, 1, 0] rfl (hJ5 _ _ _ hd)
    refine a_aload_n (pc := 67) hG 2 rfl dX12_works_67 rfl ?_
    refine a_aload_n (pc := 68) hG 2 rfl dX12_works_68 rfl ?_
    refine a_getR (pc := 69) hG sm_0 cl_X12 ok_X12 6 (by decide) rfl t_1615 dX12_works_69 ?_
    refine a_sipush (pc := 72) hG dX12_works_72 (v := (nI 131)) rfl ?_
    refine a_iload_n (pc := 75) hG 3 rfl dX12_works_75 rfl ?_
    refine a_iadd (pc := 76) hG dX12_works_76 ?_
    refine a_iald (pc := 77) hG sm_2 hd dX12_works_77 (fun hd => ?_)
    refine a_iconst (pc := 78) hG dX12_works_78 (v := (nI 1)) rfl ?_
    refine a_isub (pc := 79) hG dX12_works_79 ?_
    refine a_aload_n (pc := 80) hG 2 rfl dX12_works_80 rfl ?_
    refine a_getR (pc := 81) hG sm_0 cl_X12 ok_X12 6 (by decide) rfl t_1615 dX12_works_81 ?_
    refine a_bipush (pc := 84) hG dX12_works_84 (v := (nI 126)) rfl ?_
    refine a_iload_n (pc := 86) hG 3 rfl dX12_works_86 rfl ?_
    refine a_iadd (pc := 87) hG dX12_works_87 ?_
    refine a_iald (pc := 88) hG sm_2 hd dX12_works_88 (fun hd => ?_)
    refine a_cvI (pc := 89) hG (As := [.int ((h2.1 2 ((nI 131) + a0).toNatClampNeg) - (nI 1)), .int (h2.1 2 ((nI 126) + a0).toNatClampNeg)]) (st := []) sm_0 cl_X12 mk_X12_nearestOf t_1956 (by omega) (fun z hz => c_M_nearestOf F ((h2.1 2 ((nI 131) + a0).toNatClampNeg) - (nI 1)) (h2.1 2 ((nI 126) + a0).toNatClampNeg) _  z hz) rfl (Nat.le_of_ble_eq_true rfl) hd dX12_works_89 (fun r26 h25 hd => ?_)
    refine a_istoreN (pc := 92) hG hd dX12_works_92 (by decide) (lf := fun x => [(5, .int x), (4, .int v4), (3, .int v3), (0, .ref (ad 0)), (1, .int a0), (2, .int a1)]) (fun _ => rfl) (fun v27 hd => ?_)
    refine a_iconst (pc := 94) hG dX12_works_94 (v := (nI 5)) rfl ?_
    refine a_istoreN (pc := 95) hG hd dX12_works_95 (by decide) (lf := fun x => [(6, .int x), (5, .int v27), (4, .int v4), (3, .int v3), (0, .ref (ad 0)), (1, .int a0), (2, .int a1)]) (fun _ => rfl) (fun v28 hd => ?_)
    refine AW.sub [4, 5, 6, 3, 1, 0] rfl ?_
    refine w_l_M_works_1 F (by omega) hG hd (fun v36 h37 hd => ?_)
    refine a_iload_n (pc := 126) hG 3 rfl dX12_works_126 rfl ?_
    refine a_join hd (Q := fun J : Int32 → HS → Option (Unit × HS) => ∀ (v39 : Int32) (h40 : HS), J v39 h40 = some q → AW SHm ad 7 (none, q.2) Γ 144 [(0, .ref (ad 0)), (1, .int a0), (2, .int a1), (3, .int v36)] [.int v39] h40) (fun v39 h40 hd => ?_) (fun J38 hJ38 hd => ?_)
    · refine a_istoreN (pc := 144) hG hd dX12_works_144 (by decide) (lf := fun x => [(4, .int x), (0, .ref (ad 0)), (1, .int a0), (2, .int a1), (3, .int v36)]) (fun _ => rfl) (fun v41 hd => ?_)
      exact AW.sub [1, 2, 3, 4, 0] rfl (hJ5 _ _ _ hd)
    refine a_join hd (Q := fun J : HS → Option (Unit × HS) => ∀  (h43 : HS), J  h43 = some q → AW SHm ad 7 (none, q.2) Γ 143 [(0, .ref (ad 0)), (1, .int a0), (2, .int a1), (3, .int v36)] [] h43) (fun  h43 hd => ?_) (fun J42 hJ42 hd => ?_)
    · refine a_iconst (pc := 143) hG dX12_works_143 (v := (nI 0)) rfl ?_
      exact AW.sub [0, 1, 2, 3] rfl (hJ38 _ _ hd)
    refine a_if_lt (pc := 127) hG (tgt := 143) hd dX12_works_127 (by decide) (fun hd => ?_) (fun hd => ?_)
    · exact AW.sub [0, 1, 2, 3] rfl (hJ42  _ hd)
    refine a_aload_n (pc := 130) hG 0 rfl dX12_works_130 rfl ?_
    refine a_iload_n (pc := 131) hG 1 rfl dX12_works_131 rfl ?_
    refine a_iload_n (pc := 132) hG 3 rfl dX12_works_132 rfl ?_
    refine a_cvI (pc := 133) hG (As := [.int a0, .int v36]) (st := []) sm_0 cl_X12 mk_X12_whyAct t_1909 (by omega) (fun z hz => c_M_whyAct a0 v36 _  z hz) rfl (Nat.le_of_ble_eq_true rfl) hd dX12_works_133 (fun r45 h44 hd => ?_)
    refine a_if_le (pc := 136) hG (tgt := 143) hd dX12_works_136 (by decide) (fun hd => ?_) (fun hd => ?_)
    · exact AW.sub [0, 1, 2, 3] rfl (hJ42  _ hd)
    refine a_iconst (pc := 139) hG dX12_works_139 (v := (nI 1)) rfl ?_
    refine a_goto (pc := 140) hG (tgt := 144) dX12_works_140 (by decide) ?_
    exact AW.sub [0, 1, 2, 3] rfl (hJ38 _ _ hd)
  refine a_if_ne (pc := 10) hG (tgt := 57) hd dX12_works_10 (by decide) (fun hd => ?_) (fun hd => ?_)
  · exact AW.sub [0, 1, 2] rfl (hJ1  _ hd)
  refine a_iconst (pc := 13) hG dX12_works_13 (v := (nI 0)) rfl ?_
  refine a_istore_nN (pc := 14) hG hd dX12_works_14 rfl (by decide) (lf := fun x => [(3, .int x), (0, .ref (ad 0)), (1, .int a0), (2, .int a1)]) (fun _ => rfl) (fun v46 hd => ?_)
  refine AW.sub [1, 2, 3, 0] rfl ?_
  refine w_l_M_works_2 F (by omega) hG hd (fun v50 h51 hd => ?_)
  refine a_iload_n (pc := 40) hG 3 rfl dX12_works_40 rfl ?_
  refine a_aload_n (pc := 41) hG 0 rfl dX12_works_41 rfl ?_
  refine a_getR (pc := 42) hG sm_0 cl_X12 ok_X12 6 (by decide) rfl t_1615 dX12_works_42 ?_
  refine a_iconst (pc := 45) hG dX12_works_45 (v := (nI 0)) rfl ?_
  refine a_iald (pc := 46) hG sm_2 hd dX12_works_46 (fun hd => ?_)
  refine a_ic_ne (pc := 47) hG (tgt := 51) hd dX12_works_47 (by decide) (fun hd => ?_) (fun hd => ?_)
  · refine a_aload_n (pc := 51) hG 0 rfl dX12_works_51 rfl ?_
    refine a_iload_n (pc := 52) hG 1 rfl dX12_works_52 rfl ?_
    refine a_iload_n (pc := 53) hG 3 rfl dX12_works_53 rfl ?_
    refine a_cvN (pc := 54) hG (As := [.int a0, .int v50]) (st := []) sm_0 cl_X12 mk_X12_taking t_1901 (by omega) (fun z hz => c_M_taking a0 v50 _  z hz) rfl (Nat.le_of_ble_eq_true rfl) hd dX12_works_54 (fun _ h52 hd => ?_)
    exact AW.sub [0, 1, 2] rfl (hJ1  _ hd)
  exact a_vret (pc := 50) hG hd dX12_works_50
theorem dX12_back_0 : decode cX12_back 0 = .ok (.iconst 0, 1) := by decide +kernel
theorem dX12_back_1 : decode cX12_back 1 = .ok (.istore_n 1, 1) := by decide +kernel
theorem dX12_back_2 : decode cX12_back 2 = .ok (.iload_n 1, 1) := by decide +kernel
theorem dX12_back_3 : decode cX12_back 3 = .ok (.bipush 79, 2) := by decide +kernel
theorem dX12_back_5 : decode cX12_back 5 = .ok (.if_icmp .ge 24, 3) := by decide +kernel
theorem dX12_back_8 : decode cX12_back 8 = .ok (.aload_n 0, 1) := by decide +kernel
theorem dX12_back_9 : decode cX12_back 9 = .ok (.getfield 33, 3) := by decide +kernel
theorem dX12_back_12 : decode cX12_back 12 = .ok (.bipush 72, 2) := by decide +kernel
theorem dX12_back_14 : decode cX12_back 14 = .ok (.iload_n 1, 1) := by decide +kernel
theorem dX12_back_15 : decode cX12_back 15 = .ok (.iadd, 1) := by decide +kernel
theorem dX12_back_16 : decode cX12_back 16 = .ok (.aload_n 0, 1) := by decide +kernel
theorem dX12_back_17 : decode cX12_back 17 = .ok (.getfield 53, 3) := by decide +kernel
theorem dX12_back_20 : decode cX12_back 20 = .ok (.iload_n 1, 1) := by decide +kernel
theorem dX12_back_21 : decode cX12_back 21 = .ok (.iaload, 1) := by decide +kernel
theorem dX12_back_22 : decode cX12_back 22 = .ok (.iastore, 1) := by decide +kernel
theorem dX12_back_23 : decode cX12_back 23 = .ok (.iinc 1 1, 3) := by decide +kernel
theorem dX12_back_26 : decode cX12_back 26 = .ok (.goto (-24), 3) := by decide +kernel
theorem dX12_back_29 : decode cX12_back 29 = .ok (.return_, 1) := by decide +kernel
set_option maxHeartbeats 4000000 in
theorem w_l_M_back_0 {ad wad : Nat → Nat} {Γ : Ctx} (F : Nat) {n : Nat} (hn : 1 ≤ n) (hG : Cx SHm ad wad cX12_back 2 RX12 none (n) Γ) {q : Unit × HS} {g : Nat} {x1 : Int32} {h : HS} (hd : l_M_back_0 F g x1 h = some q) : AW SHm ad 2 (none, q.2) Γ 2 [(0, .ref (ad 0)), (1, .int x1)] [] h := by
  induction g generalizing x1 h with
  | zero => unfold l_M_back_0 at hd; cases hd
  | succ g ih =>
    unfold l_M_back_0 at hd
    refine a_iload_n (pc := 2) hG 1 rfl dX12_back_2 rfl ?_
    refine a_bipush (pc := 3) hG dX12_back_3 (v := (nI 79)) rfl ?_
    refine a_ic_ge (pc := 5) hG (tgt := 29) hd dX12_back_5 (by decide) (fun hd => ?_) (fun hd => ?_)
    · exact a_vret (pc := 29) hG hd dX12_back_29
    refine a_aload_n (pc := 8) hG 0 rfl dX12_back_8 rfl ?_
    refine a_getR (pc := 9) hG sm_0 cl_X12 ok_X12 6 (by decide) rfl t_1615 dX12_back_9 ?_
    refine a_bipush (pc := 12) hG dX12_back_12 (v := (nI 72)) rfl ?_
    refine a_iload_n (pc := 14) hG 1 rfl dX12_back_14 rfl ?_
    refine a_iadd (pc := 15) hG dX12_back_15 ?_
    refine a_aload_n (pc := 16) hG 0 rfl dX12_back_16 rfl ?_
    refine a_getR (pc := 17) hG sm_0 cl_X12 ok_X12 22 (by decide) rfl t_1631 dX12_back_17 ?_
    refine a_iload_n (pc := 20) hG 1 rfl dX12_back_20 rfl ?_
    refine a_iald (pc := 21) hG sm_8 hd dX12_back_21 (fun hd => ?_)
    refine a_iast (pc := 22) hG sm_2 hd dX12_back_22 (fun h2 hd => ?_)
    refine a_iincN (pc := 23) hG (c0 := (nI 1)) 1 rfl hd dX12_back_23 rfl (by decide) (lf := fun x => [(1, .int x), (0, .ref (ad 0))]) (fun _ => rfl) (fun v3 hd => ?_)
    refine a_goto (pc := 26) hG (tgt := 2) dX12_back_26 (by decide) ?_
    exact AW.sub [1, 0] rfl (ih hd)
set_option maxHeartbeats 4000000 in
theorem c_M_back {ad wad : Nat → Nat} (F : Nat)  (h : HS)  (q : Unit × HS) (hd : f_M_back F  h = some q) : Ctr SHm ad wad yX12_back cX12_back 2 none 1 [.ref (ad 0)] h (none, q.2) := by
  refine enter (own := RX12) (lv := [(0, .ref (ad 0))]) (by decide +kernel) rfl (Nat.le_of_ble_eq_true rfl) rfl (fun Γ hG => ?_)
  unfold f_M_back at hd
  refine a_iconst (pc := 0) hG dX12_back_0 (v := (nI 0)) rfl ?_
  refine a_istore_nN (pc := 1) hG hd dX12_back_1 rfl (by decide) (lf := fun x => [(1, .int x), (0, .ref (ad 0))]) (fun _ => rfl) (fun v1 hd => ?_)
  refine AW.sub [1, 0] rfl ?_
  exact w_l_M_back_0 F (by omega) hG hd
theorem dX12_schoolOf_0 : decode cX12_schoolOf 0 = .ok (.aload_n 0, 1) := by decide +kernel
theorem dX12_schoolOf_1 : decode cX12_schoolOf 1 = .ok (.invokevirtual 347, 3) := by decide +kernel
theorem dX12_schoolOf_4 : decode cX12_schoolOf 4 = .ok (.iconst 0, 1) := by decide +kernel
theorem dX12_schoolOf_5 : decode cX12_schoolOf 5 = .ok (.istore_n 3, 1) := by decide +kernel
theorem dX12_schoolOf_6 : decode cX12_schoolOf 6 = .ok (.iload_n 3, 1) := by decide +kernel
theorem dX12_schoolOf_7 : decode cX12_schoolOf 7 = .ok (.iload_n 2, 1) := by decide +kernel
theorem dX12_schoolOf_8 : decode cX12_schoolOf 8 = .ok (.if_icmp .ge 53, 3) := by decide +kernel
theorem dX12_schoolOf_11 : decode cX12_schoolOf 11 = .ok (.aload_n 0, 1) := by decide +kernel
theorem dX12_schoolOf_12 : decode cX12_schoolOf 12 = .ok (.getfield 33, 3) := by decide +kernel
theorem dX12_schoolOf_15 : decode cX12_schoolOf 15 = .ok (.bipush 72, 2) := by decide +kernel
theorem dX12_schoolOf_17 : decode cX12_schoolOf 17 = .ok (.iaload, 1) := by decide +kernel
theorem dX12_schoolOf_18 : decode cX12_schoolOf 18 = .ok (.sipush 200, 3) := by decide +kernel
theorem dX12_schoolOf_21 : decode cX12_schoolOf 21 = .ok (.if_icmp .ge 40, 3) := by decide +kernel
theorem dX12_schoolOf_24 : decode cX12_schoolOf 24 = .ok (.iconst 0, 1) := by decide +kernel
theorem dX12_schoolOf_25 : decode cX12_schoolOf 25 = .ok (.istore 4, 2) := by decide +kernel
theorem dX12_schoolOf_27 : decode cX12_schoolOf 27 = .ok (.iload 4, 2) := by decide +kernel
theorem dX12_schoolOf_29 : decode cX12_schoolOf 29 = .ok (.aload_n 0, 1) := by decide +kernel
theorem dX12_schoolOf_30 : decode cX12_schoolOf 30 = .ok (.getfield 33, 3) := by decide +kernel
theorem dX12_schoolOf_33 : decode cX12_schoolOf 33 = .ok (.iconst 2, 1) := by decide +kernel
theorem dX12_schoolOf_34 : decode cX12_schoolOf 34 = .ok (.iaload, 1) := by decide +kernel
theorem dX12_schoolOf_35 : decode cX12_schoolOf 35 = .ok (.if_icmp .ge 16, 3) := by decide +kernel
theorem dX12_schoolOf_38 : decode cX12_schoolOf 38 = .ok (.aload_n 0, 1) := by decide +kernel
theorem dX12_schoolOf_39 : decode cX12_schoolOf 39 = .ok (.iload 4, 2) := by decide +kernel
theorem dX12_schoolOf_41 : decode cX12_schoolOf 41 = .ok (.iload_n 1, 1) := by decide +kernel
theorem dX12_schoolOf_42 : decode cX12_schoolOf 42 = .ok (.invokevirtual 350, 3) := by decide +kernel
theorem dX12_schoolOf_45 : decode cX12_schoolOf 45 = .ok (.iinc 4 1, 3) := by decide +kernel
theorem dX12_schoolOf_48 : decode cX12_schoolOf 48 = .ok (.goto (-21), 3) := by decide +kernel
theorem dX12_schoolOf_51 : decode cX12_schoolOf 51 = .ok (.aload_n 0, 1) := by decide +kernel
theorem dX12_schoolOf_52 : decode cX12_schoolOf 52 = .ok (.invokevirtual 307, 3) := by decide +kernel
theorem dX12_schoolOf_55 : decode cX12_schoolOf 55 = .ok (.iinc 3 1, 3) := by decide +kernel
theorem dX12_schoolOf_58 : decode cX12_schoolOf 58 = .ok (.goto (-52), 3) := by decide +kernel
theorem dX12_schoolOf_61 : decode cX12_schoolOf 61 = .ok (.aload_n 0, 1) := by decide +kernel
theorem dX12_schoolOf_62 : decode cX12_schoolOf 62 = .ok (.getfield 33, 3) := by decide +kernel
theorem dX12_schoolOf_65 : decode cX12_schoolOf 65 = .ok (.bipush 73, 2) := by decide +kernel
theorem dX12_schoolOf_67 : decode cX12_schoolOf 67 = .ok (.iaload, 1) := by decide +kernel
theorem dX12_schoolOf_68 : decode cX12_schoolOf 68 = .ok (.istore_n 3, 1) := by decide +kernel
theorem dX12_schoolOf_69 : decode cX12_schoolOf 69 = .ok (.aload_n 0, 1) := by decide +kernel
theorem dX12_schoolOf_70 : decode cX12_schoolOf 70 = .ok (.invokevirtual 353, 3) := by decide +kernel
theorem dX12_schoolOf_73 : decode cX12_schoolOf 73 = .ok (.iload_n 3, 1) := by decide +kernel
theorem dX12_schoolOf_74 : decode cX12_schoolOf 74 = .ok (.ireturn, 1) := by decide +kernel
set_option maxHeartbeats 4000000 in
theorem w_l_M_schoolOf_1 {ad wad : Nat → Nat} {Γ : Ctx} (F : Nat) {n : Nat} (hn : 9 ≤ n) (hG : Cx SHm ad wad cX12_schoolOf 5 RX12 (some .int) (n) Γ) {q : Int32 × HS} {x1 : Int32} {x2 : Int32} {x3 : Int32} {K0 : HS → Option (Int32 × HS)} {g : Nat} {x4 : Int32} {h : HS} (hd : l_M_schoolOf_1 F x1 x2 x3 K0 g x4 h = some q) (hK0 : ∀ (z : HS), K0 z = some q → AW SHm ad 5 (some (.int q.1), q.2) Γ 51 [(0, .ref (ad 0)), (1, .int x1), (2, .int x2), (3, .int x3)] [] z) : AW SHm ad 5 (some (.int q.1), q.2) Γ 27 [(0, .ref (ad 0)), (1, .int x1), (2, .int x2), (3, .int x3), (4, .int x4)] [] h := by
  induction g generalizing x4 h with
  | zero => unfold l_M_schoolOf_1 at hd; cases hd
  | succ g ih =>
    unfold l_M_schoolOf_1 at hd
    refine a_iload (pc := 27) hG 4 rfl dX12_schoolOf_27 ?_
    refine a_aload_n (pc := 29) hG 0 rfl dX12_schoolOf_29 rfl ?_
    refine a_getR (pc := 30) hG sm_0 cl_X12 ok_X12 6 (by decide) rfl t_1615 dX12_schoolOf_30 ?_
    refine a_iconst (pc := 33) hG dX12_schoolOf_33 (v := (nI 2)) rfl ?_
    refine a_iald (pc := 34) hG sm_2 hd dX12_schoolOf_34 (fun hd => ?_)
    refine a_ic_ge (pc := 35) hG (tgt := 51) hd dX12_schoolOf_35 (by decide) (fun hd => ?_) (fun hd => ?_)
    · exact AW.sub [0, 1, 2, 3] rfl (hK0  _ hd)
    refine a_aload_n (pc := 38) hG 0 rfl dX12_schoolOf_38 rfl ?_
    refine a_iload (pc := 39) hG 4 rfl dX12_schoolOf_39 ?_
    refine a_iload_n (pc := 41) hG 1 rfl dX12_schoolOf_41 rfl ?_
    refine a_cvN (pc := 42) hG (As := [.int x4, .int x1]) (st := []) sm_0 cl_X12 mk_X12_works t_2056 (by omega) (fun z hz => c_M_works F x4 x1 _  z hz) rfl (Nat.le_of_ble_eq_true rfl) hd dX12_schoolOf_42 (fun _ h4 hd => ?_)
    refine a_iincN (pc := 45) hG (c0 := (nI 1)) 4 rfl hd dX12_schoolOf_45 rfl (by decide) (lf := fun x => [(4, .int x), (0, .ref (ad 0)), (1, .int x1), (2, .int x2), (3, .int x3)]) (fun _ => rfl) (fun v5 hd => ?_)
    refine a_goto (pc := 48) hG (tgt := 27) dX12_schoolOf_48 (by decide) ?_
    exact AW.sub [1, 2, 3, 4, 0] rfl (ih hd)
set_option maxHeartbeats 4000000 in
theorem w_l_M_schoolOf_0 {ad wad : Nat → Nat} {Γ : Ctx} (F : Nat) {n : Nat} (hn : 9 ≤ n) (hG : Cx SHm ad wad cX12_schoolOf 5 RX12 (some .int) (n) Γ) {q : Int32 × HS} {x1 : Int32} {x2 : Int32} {K0 : HS → Option (Int32 × HS)} {g : Nat} {x3 : Int32} {h : HS} (hd : l_M_schoolOf_0 F x1 x2 K0 g x3 h = some q) (hK0 : ∀ (z : HS), K0 z = some q → AW SHm ad 5 (some (.int q.1), q.2) Γ 61 [(0, .ref (ad 0))] [] z) : AW SHm ad 5 (some (.int q.1), q.2) Γ 6 [(0, .ref (ad 0)), (1, .int x1), (2, .int x2), (3, .int x3)] [] h := by
  induction g generalizing x3 h with
  | zero => unfold l_M_schoolOf_0 at hd; cases hd
  | succ g ih =>
    unfold l_M_schoolOf_0 at hd
    refine a_iload_n (pc := 6) hG 3 rfl dX12_schoolOf_6 rfl ?_
    refine a_iload_n (pc := 7) hG 2 rfl dX12_schoolOf_7 rfl ?_
    refine a_ic_ge (pc := 8) hG (tgt := 61) hd dX12_schoolOf_8 (by decide) (fun hd => ?_) (fun hd => ?_)
    · exact AW.sub [0] rfl (hK0  _ hd)
    refine a_aload_n (pc := 11) hG 0 rfl dX12_schoolOf_11 rfl ?_
    refine a_getR (pc := 12) hG sm_0 cl_X12 ok_X12 6 (by decide) rfl t_1615 dX12_schoolOf_12 ?_
    refine a_bipush (pc := 15) hG dX12_schoolOf_15 (v := (nI 72)) rfl ?_
    refine a_iald (pc := 17) hG sm_2 hd dX12_schoolOf_17 (fun hd => ?_)
    refine a_sipush (pc := 18) hG dX12_schoolOf_18 (v := (nI 200)) rfl ?_
    refine a_ic_ge (pc := 21) hG (tgt := 61) hd dX12_schoolOf_21 (by decide) (fun hd => ?_) (fun hd => ?_)
    · exact AW.sub [0] rfl (hK0  _ hd)
    refine a_iconst (pc := 24) hG dX12_schoolOf_24 (v := (nI 0)) rfl ?_
    refine a_istoreN (pc := 25) hG hd dX12_schoolOf_25 (by decide) (lf := fun x => [(4, .int x), (0, .ref (ad 0)), (1, .int x1), (2, .int x2), (3, .int x3)]) (fun _ => rfl) (fun v3 hd => ?_)
    refine AW.sub [1, 2, 3, 4, 0] rfl ?_
    refine w_l_M_schoolOf_1 F (by omega) hG hd (fun h6 hd => ?_)
    refine a_aload_n (pc := 51) hG 0 rfl dX12_schoolOf_51 rfl ?_
    refine a_cvN (pc := 52) hG (As := []) (st := []) sm_0 cl_X12 mk_X12_week t_1940 (by omega) (fun z hz => c_M_week F  _  z hz) rfl (Nat.le_of_ble_eq_true rfl) hd dX12_schoolOf_52 (fun _ h7 hd => ?_)
    refine a_iincN (pc := 55) hG (c0 := (nI 1)) 3 rfl hd dX12_schoolOf_55 rfl (by decide) (lf := fun x => [(3, .int x), (0, .ref (ad 0)), (1, .int x1), (2, .int x2)]) (fun _ => rfl) (fun v8 hd => ?_)
    refine a_goto (pc := 58) hG (tgt := 6) dX12_schoolOf_58 (by decide) ?_
    exact AW.sub [1, 2, 3, 0] rfl (ih hd)
set_option maxHeartbeats 4000000 in
theorem c_M_schoolOf {ad wad : Nat → Nat} (F : Nat) (a0 : Int32) (a1 : Int32) (h : HS)  (q : Int32 × HS) (hd : f_M_schoolOf F a0 a1 h = some q) : Ctr SHm ad wad yX12_schoolOf cX12_schoolOf 5 (some .int) 9 [.ref (ad 0), .int a0, .int a1] h (some (.int q.1), q.2) := by
  refine enter (own := RX12) (lv := [(0, .ref (ad 0)), (1, .int a0), (2, .int a1)]) (by decide +kernel) rfl (Nat.le_of_ble_eq_true rfl) rfl (fun Γ hG => ?_)
  unfold f_M_schoolOf at hd
  refine a_aload_n (pc := 0) hG 0 rfl dX12_schoolOf_0 rfl ?_
  refine a_cvN (pc := 1) hG (As := []) (st := []) sm_0 cl_X12 mk_X12_tries t_2052 (by omega) (fun z hz => c_M_tries F  _  z hz) rfl (Nat.le_of_ble_eq_true rfl) hd dX12_schoolOf_1 (fun _ h1 hd => ?_)
  refine a_iconst (pc := 4) hG dX12_schoolOf_4 (v := (nI 0)) rfl ?_
  refine a_istore_nN (pc := 5) hG hd dX12_schoolOf_5 rfl (by decide) (lf := fun x => [(3, .int x), (0, .ref (ad 0)), (1, .int a0), (2, .int a1)]) (fun _ => rfl) (fun v2 hd => ?_)
  refine AW.sub [1, 2, 3, 0] rfl ?_
  refine w_l_M_schoolOf_0 F (by omega) hG hd (fun h9 hd => ?_)
  refine a_aload_n (pc := 61) hG 0 rfl dX12_schoolOf_61 rfl ?_
  refine a_getR (pc := 62) hG sm_0 cl_X12 ok_X12 6 (by decide) rfl t_1615 dX12_schoolOf_62 ?_
  refine a_bipush (pc := 65) hG dX12_schoolOf_65 (v := (nI 73)) rfl ?_
  refine a_iald (pc := 67) hG sm_2 hd dX12_schoolOf_67 (fun hd => ?_)
  refine a_istore_nN (pc := 68) hG hd dX12_schoolOf_68 rfl (by decide) (lf := fun x => [(3, .int x), (0, .ref (ad 0))]) (fun _ => rfl) (fun v10 hd => ?_)
  refine a_aload_n (pc := 69) hG 1 rfl dX12_schoolOf_69 rfl ?_
  refine a_cvN (pc := 70) hG (As := []) (st := []) sm_0 cl_X12 mk_X12_back t_2060 (by omega) (fun z hz => c_M_back F  _  z hz) rfl (Nat.le_of_ble_eq_true rfl) hd dX12_schoolOf_70 (fun _ h11 hd => ?_)
  refine a_iload_n (pc := 73) hG 0 rfl dX12_schoolOf_73 rfl ?_
  exact a_iret (pc := 74) hG hd dX12_schoolOf_74
theorem dX12_school_0 : decode cX12_school 0 = .ok (.aload_n 0, 1) := by decide +kernel
theorem dX12_school_1 : decode cX12_school 1 = .ok (.iconst 0, 1) := by decide +kernel
theorem dX12_school_2 : decode cX12_school 2 = .ok (.putfield 1, 3) := by decide +kernel
theorem dX12_school_5 : decode cX12_school 5 = .ok (.iload_n 1, 1) := by decide +kernel
theorem dX12_school_6 : decode cX12_school 6 = .ok (.iconst 0, 1) := by decide +kernel
theorem dX12_school_7 : decode cX12_school 7 = .ok (.iconst 2, 1) := by decide +kernel
theorem dX12_school_8 : decode cX12_school 8 = .ok (.invokestatic 184, 3) := by decide +kernel
theorem dX12_school_11 : decode cX12_school 11 = .ok (.ifCond .eq 22, 3) := by decide +kernel
theorem dX12_school_14 : decode cX12_school 14 = .ok (.iload_n 2, 1) := by decide +kernel
theorem dX12_school_15 : decode cX12_school 15 = .ok (.iconst 1, 1) := by decide +kernel
theorem dX12_school_16 : decode cX12_school 16 = .ok (.bipush 50, 2) := by decide +kernel
theorem dX12_school_18 : decode cX12_school 18 = .ok (.invokestatic 184, 3) := by decide +kernel
theorem dX12_school_21 : decode cX12_school 21 = .ok (.ifCond .eq 12, 3) := by decide +kernel
theorem dX12_school_24 : decode cX12_school 24 = .ok (.aload_n 0, 1) := by decide +kernel
theorem dX12_school_25 : decode cX12_school 25 = .ok (.iload_n 1, 1) := by decide +kernel
theorem dX12_school_26 : decode cX12_school 26 = .ok (.iload_n 2, 1) := by decide +kernel
theorem dX12_school_27 : decode cX12_school 27 = .ok (.invokevirtual 356, 3) := by decide +kernel
theorem dX12_school_30 : decode cX12_school 30 = .ok (.goto 4, 3) := by decide +kernel
theorem dX12_school_33 : decode cX12_school 33 = .ok (.iconst (-1), 1) := by decide +kernel
theorem dX12_school_34 : decode cX12_school 34 = .ok (.ireturn, 1) := by decide +kernel
set_option maxHeartbeats 4000000 in
theorem c_M_school {ad wad : Nat → Nat} (F : Nat) (a0 : Int32) (a1 : Int32) (h : HS)  (q : Int32 × HS) (hd : f_M_school F a0 a1 h = some q) : Ctr SHm ad wad yX12_school cX12_school 3 (some .int) 10 [.ref (ad 0), .int a0, .int a1] h (some (.int q.1), q.2) := by
  refine enter (own := RX12) (lv := [(0, .ref (ad 0)), (1, .int a0), (2, .int a1)]) (by decide +kernel) rfl (Nat.le_of_ble_eq_true rfl) rfl (fun Γ hG => ?_)
  unfold f_M_school at hd
  refine a_aload_n (pc := 0) hG 0 rfl dX12_school_0 rfl ?_
  refine a_iconst (pc := 1) hG dX12_school_1 (v := (nI 0)) rfl ?_
  refine a_putI (pc := 2) hG sm_0 cl_X12 ok_X12 0 (by decide) rfl t_1609 rfl (ty := .int) rfl rfl rfl hd dX12_school_2 (fun h1 hd => ?_)
  refine a_iload_n (pc := 5) hG 1 rfl dX12_school_5 rfl ?_
  refine a_iconst (pc := 6) hG dX12_school_6 (v := (nI 0)) rfl ?_
  refine a_iconst (pc := 7) hG dX12_school_7 (v := (nI 2)) rfl ?_
  refine a_csI (pc := 8) hG (As := [.int a0, .int (nI 0), .int (nI 2)]) (st := []) mk_X12_isIn t_1795 (by omega) (fun z hz => c_M_isIn a0 (nI 0) (nI 2) _  z hz) rfl (Nat.le_of_ble_eq_true rfl) hd dX12_school_8 (fun r3 h2 hd => ?_)
  refine a_if_eq (pc := 11) hG (tgt := 33) hd dX12_school_11 (by decide) (fun hd => ?_) (fun hd => ?_)
  · refine a_iconst (pc := 33) hG dX12_school_33 (v := (-1 : Int32)) rfl ?_
    exact a_iret (pc := 34) hG hd dX12_school_34
  refine a_iload_n (pc := 14) hG 2 rfl dX12_school_14 rfl ?_
  refine a_iconst (pc := 15) hG dX12_school_15 (v := (nI 1)) rfl ?_
  refine a_bipush (pc := 16) hG dX12_school_16 (v := (nI 50)) rfl ?_
  refine a_csI (pc := 18) hG (As := [.int a1, .int (nI 1), .int (nI 50)]) (st := []) mk_X12_isIn t_1795 (by omega) (fun z hz => c_M_isIn a1 (nI 1) (nI 50) _  z hz) rfl (Nat.le_of_ble_eq_true rfl) hd dX12_school_18 (fun r5 h4 hd => ?_)
  refine a_if_eq (pc := 21) hG (tgt := 33) hd dX12_school_21 (by decide) (fun hd => ?_) (fun hd => ?_)
  · refine a_iconst (pc := 33) hG dX12_school_33 (v := (-1 : Int32)) rfl ?_
    exact a_iret (pc := 34) hG hd dX12_school_34
  refine a_aload_n (pc := 24) hG 0 rfl dX12_school_24 rfl ?_
  refine a_iload_n (pc := 25) hG 1 rfl dX12_school_25 rfl ?_
  refine a_iload_n (pc := 26) hG 2 rfl dX12_school_26 rfl ?_
  refine a_cvI (pc := 27) hG (As := [.int a0, .int a1]) (st := []) sm_0 cl_X12 mk_X12_schoolOf t_2048 (by omega) (fun z hz => c_M_schoolOf F a0 a1 _  z hz) rfl (Nat.le_of_ble_eq_true rfl) hd dX12_school_27 (fun r7 h6 hd => ?_)
  refine a_goto (pc := 30) hG (tgt := 34) dX12_school_30 (by decide) ?_
  exact a_iret (pc := 34) hG hd dX12_school_34
theorem dX12_best_0 : decode cX12_best 0 = .ok (.aload_n 0, 1) := by decide +kernel
theorem dX12_best_1 : decode cX12_best 1 = .ok (.iconst 0, 1) := by decide +kernel
theorem dX12_best_2 : decode cX12_best 2 = .ok (.putfield 1, 3) := by decide +kernel
theorem dX12_best_5 : decode cX12_best 5 = .ok (.iload_n 1, 1) := by decide +kernel
theorem dX12_best_6 : decode cX12_best 6 = .ok (.iconst 1, 1) := by decide +kernel
theorem dX12_best_7 : decode cX12_best 7 = .ok (.bipush 50, 2) := by decide +kernel
theorem dX12_best_9 : decode cX12_best 9 = .ok (.invokestatic 184, 3) := by decide +kernel
theorem dX12_best_12 : decode cX12_best 12 = .ok (.ifCond .ne 5, 3) := by decide +kernel
theorem dX12_best_15 : decode cX12_best 15 = .ok (.iconst (-1), 1) := by decide +kernel
theorem dX12_best_16 : decode cX12_best 16 = .ok (.ireturn, 1) := by decide +kernel
theorem dX12_best_17 : decode cX12_best 17 = .ok (.iconst 0, 1) := by decide +kernel
theorem dX12_best_18 : decode cX12_best 18 = .ok (.istore_n 2, 1) := by decide +kernel
theorem dX12_best_19 : decode cX12_best 19 = .ok (.iconst 1, 1) := by decide +kernel
theorem dX12_best_20 : decode cX12_best 20 = .ok (.istore_n 3, 1) := by decide +kernel
theorem dX12_best_21 : decode cX12_best 21 = .ok (.iload_n 3, 1) := by decide +kernel
theorem dX12_best_22 : decode cX12_best 22 = .ok (.iconst 3, 1) := by decide +kernel
theorem dX12_best_23 : decode cX12_best 23 = .ok (.if_icmp .ge 26, 3) := by decide +kernel
theorem dX12_best_26 : decode cX12_best 26 = .ok (.aload_n 0, 1) := by decide +kernel
theorem dX12_best_27 : decode cX12_best 27 = .ok (.iload_n 3, 1) := by decide +kernel
theorem dX12_best_28 : decode cX12_best 28 = .ok (.iload_n 1, 1) := by decide +kernel
theorem dX12_best_29 : decode cX12_best 29 = .ok (.invokevirtual 356, 3) := by decide +kernel
theorem dX12_best_32 : decode cX12_best 32 = .ok (.aload_n 0, 1) := by decide +kernel
theorem dX12_best_33 : decode cX12_best 33 = .ok (.iload_n 2, 1) := by decide +kernel
theorem dX12_best_34 : decode cX12_best 34 = .ok (.iload_n 1, 1) := by decide +kernel
theorem dX12_best_35 : decode cX12_best 35 = .ok (.invokevirtual 356, 3) := by decide +kernel
theorem dX12_best_38 : decode cX12_best 38 = .ok (.if_icmp .le 5, 3) := by decide +kernel
theorem dX12_best_41 : decode cX12_best 41 = .ok (.iload_n 3, 1) := by decide +kernel
theorem dX12_best_42 : decode cX12_best 42 = .ok (.istore_n 2, 1) := by decide +kernel
theorem dX12_best_43 : decode cX12_best 43 = .ok (.iinc 3 1, 3) := by decide +kernel
theorem dX12_best_46 : decode cX12_best 46 = .ok (.goto (-25), 3) := by decide +kernel
theorem dX12_best_49 : decode cX12_best 49 = .ok (.iload_n 2, 1) := by decide +kernel
theorem dX12_best_50 : decode cX12_best 50 = .ok (.ireturn, 1) := by decide +kernel
set_option maxHeartbeats 4000000 in
theorem w_l_M_best_0 {ad wad : Nat → Nat} {Γ : Ctx} (F : Nat) {n : Nat} (hn : 10 ≤ n) (hG : Cx SHm ad wad cX12_best 4 RX12 (some .int) (n) Γ) {q : Int32 × HS} {x1 : Int32} {g : Nat} {x2 : Int32} {x3 : Int32} {h : HS} (hd : l_M_best_0 F x1 g x2 x3 h = some q) : AW SHm ad 4 (some (.int q.1), q.2) Γ 21 [(0, .ref (ad 0)), (1, .int x1), (2, .int x2), (3, .int x3)] [] h := by
  induction g generalizing x2 x3 h with
  | zero => unfold l_M_best_0 at hd; cases hd
  | succ g ih =>
    unfold l_M_best_0 at hd
    refine a_iload_n (pc := 21) hG 3 rfl dX12_best_21 rfl ?_
    refine a_iconst (pc := 22) hG dX12_best_22 (v := (nI 3)) rfl ?_
    refine a_ic_ge (pc := 23) hG (tgt := 49) hd dX12_best_23 (by decide) (fun hd => ?_) (fun hd => ?_)
    · refine a_iload_n (pc := 49) hG 2 rfl dX12_best_49 rfl ?_
      exact a_iret (pc := 50) hG hd dX12_best_50
    refine a_aload_n (pc := 26) hG 0 rfl dX12_best_26 rfl ?_
    refine a_iload_n (pc := 27) hG 3 rfl dX12_best_27 rfl ?_
    refine a_iload_n (pc := 28) hG 1 rfl dX12_best_28 rfl ?_
    refine a_cvI (pc := 29) hG (As := [.int x3, .int x1]) (st := []) sm_0 cl_X12 mk_X12_schoolOf t_2048 (by omega) (fun z hz => c_M_schoolOf F x3 x1 _  z hz) rfl (Nat.le_of_ble_eq_true rfl) hd dX12_best_29 (fun r7 h6 hd => ?_)
    refine a_aload_n (pc := 32) hG 0 rfl dX12_best_32 rfl ?_
    refine a_iload_n (pc := 33) hG 2 rfl dX12_best_33 rfl ?_
    refine a_iload_n (pc := 34) hG 1 rfl dX12_best_34 rfl ?_
    refine a_cvI (pc := 35) hG (As := [.int x2, .int x1]) (st := [.int r7]) sm_0 cl_X12 mk_X12_schoolOf t_2048 (by omega) (fun z hz => c_M_schoolOf F x2 x1 _  z hz) rfl (Nat.le_of_ble_eq_true rfl) hd dX12_best_35 (fun r9 h8 hd => ?_)
    refine a_join hd (Q := fun J : Int32 → HS → Option (Int32 × HS) => ∀ (v11 : Int32) (h12 : HS), J v11 h12 = some q → AW SHm ad 4 (some (.int q.1), q.2) Γ 43 [(0, .ref (ad 0)), (1, .int x1), (2, .int v11), (3, .int x3)] [] h12) (fun v11 h12 hd => ?_) (fun J10 hJ10 hd => ?_)
    · refine a_iincN (pc := 43) hG (c0 := (nI 1)) 3 rfl hd dX12_best_43 rfl (by decide) (lf := fun x => [(3, .int x), (0, .ref (ad 0)), (1, .int x1), (2, .int v11)]) (fun _ => rfl) (fun v13 hd => ?_)
      refine a_goto (pc := 46) hG (tgt := 21) dX12_best_46 (by decide) ?_
      exact AW.sub [1, 2, 3, 0] rfl (ih hd)
    refine a_ic_le (pc := 38) hG (tgt := 43) hd dX12_best_38 (by decide) (fun hd => ?_) (fun hd => ?_)
    · exact AW.sub [0, 1, 2, 3] rfl (hJ10 _ _ hd)
    refine a_iload_n (pc := 41) hG 3 rfl dX12_best_41 rfl ?_
    refine a_istore_nN (pc := 42) hG hd dX12_best_42 rfl (by decide) (lf := fun x => [(2, .int x), (0, .ref (ad 0)), (1, .int x1), (3, .int x3)]) (fun _ => rfl) (fun v14 hd => ?_)
    exact AW.sub [1, 2, 0, 3] rfl (hJ10 _ _ hd)
set_option maxHeartbeats 4000000 in
theorem c_M_best {ad wad : Nat → Nat} (F : Nat) (a0 : Int32) (h : HS)  (q : Int32 × HS) (hd : f_M_best F a0 h = some q) : Ctr SHm ad wad yX12_best cX12_best 4 (some .int) 10 [.ref (ad 0), .int a0] h (some (.int q.1), q.2) := by
  refine enter (own := RX12) (lv := [(0, .ref (ad 0)), (1, .int a0)]) (by decide +kernel) rfl (Nat.le_of_ble_eq_true rfl) rfl (fun Γ hG => ?_)
  unfold f_M_best at hd
  refine a_aload_n (pc := 0) hG 0 rfl dX12_best_0 rfl ?_
  refine a_iconst (pc := 1) hG dX12_best_1 (v := (nI 0)) rfl ?_
  refine a_putI (pc := 2) hG sm_0 cl_X12 ok_X12 0 (by decide) rfl t_1609 rfl (ty := .int) rfl rfl rfl hd dX12_best_2 (fun h1 hd => ?_)
  refine a_iload_n (pc := 5) hG 1 rfl dX12_best_5 rfl ?_
  refine a_iconst (pc := 6) hG dX12_best_6 (v := (nI 1)) rfl ?_
  refine a_bipush (pc := 7) hG dX12_best_7 (v := (nI 50)) rfl ?_
  refine a_csI (pc := 9) hG (As := [.int a0, .int (nI 1), .int (nI 50)]) (st := []) mk_X12_isIn t_1795 (by omega) (fun z hz => c_M_isIn a0 (nI 1) (nI 50) _  z hz) rfl (Nat.le_of_ble_eq_true rfl) hd dX12_best_9 (fun r3 h2 hd => ?_)
  refine a_if_ne (pc := 12) hG (tgt := 17) hd dX12_best_12 (by decide) (fun hd => ?_) (fun hd => ?_)
  · refine a_iconst (pc := 17) hG dX12_best_17 (v := (nI 0)) rfl ?_
    refine a_istore_nN (pc := 18) hG hd dX12_best_18 rfl (by decide) (lf := fun x => [(2, .int x), (0, .ref (ad 0)), (1, .int a0)]) (fun _ => rfl) (fun v4 hd => ?_)
    refine a_iconst (pc := 19) hG dX12_best_19 (v := (nI 1)) rfl ?_
    refine a_istore_nN (pc := 20) hG hd dX12_best_20 rfl (by decide) (lf := fun x => [(3, .int x), (2, .int v4), (0, .ref (ad 0)), (1, .int a0)]) (fun _ => rfl) (fun v5 hd => ?_)
    refine AW.sub [2, 3, 1, 0] rfl ?_
    exact w_l_M_best_0 F (by omega) hG hd
  refine a_iconst (pc := 15) hG dX12_best_15 (v := (-1 : Int32)) rfl ?_
  exact a_iret (pc := 16) hG hd dX12_best_16
theorem dX12_octet_0 : decode cX12_octet 0 = .ok (.aload_n 0, 1) := by decide +kernel
theorem dX12_octet_1 : decode cX12_octet 1 = .ok (.getfield 14, 3) := by decide +kernel
theorem dX12_octet_4 : decode cX12_octet 4 = .ok (.iload_n 1, 1) := by decide +kernel
theorem dX12_octet_5 : decode cX12_octet 5 = .ok (.baload, 1) := by decide +kernel
theorem dX12_octet_6 : decode cX12_octet 6 = .ok (.sipush 255, 3) := by decide +kernel
theorem dX12_octet_9 : decode cX12_octet 9 = .ok (.iand, 1) := by decide +kernel
theorem dX12_octet_10 : decode cX12_octet 10 = .ok (.ireturn, 1) := by decide +kernel
set_option maxHeartbeats 4000000 in
theorem c_M_octet {ad wad : Nat → Nat} (a0 : Int32) (h : HS)  (q : Int32 × HS) (hd : f_M_octet a0 h = some q) : Ctr SHm ad wad yX12_octet cX12_octet 2 (some .int) 1 [.ref (ad 0), .int a0] h (some (.int q.1), q.2) := by
  refine enter (own := RX12) (lv := [(0, .ref (ad 0)), (1, .int a0)]) (by decide +kernel) rfl (Nat.le_of_ble_eq_true rfl) rfl (fun Γ hG => ?_)
  unfold f_M_octet at hd
  refine a_aload_n (pc := 0) hG 0 rfl dX12_octet_0 rfl ?_
  refine a_getR (pc := 1) hG sm_0 cl_X12 ok_X12 1 (by decide) rfl t_1610 dX12_octet_1 ?_
  refine a_iload_n (pc := 4) hG 1 rfl dX12_octet_4 rfl ?_
  refine a_bald (pc := 5) hG sm_1 hd dX12_octet_5 (fun hd => ?_)
  refine a_sipush (pc := 6) hG dX12_octet_6 (v := (nI 255)) rfl ?_
  refine a_iand (pc := 9) hG dX12_octet_9 ?_
  exact a_iret (pc := 10) hG hd dX12_octet_10
theorem dX12_flags_0 : decode cX12_flags 0 = .ok (.aload_n 0, 1) := by decide +kernel
theorem dX12_flags_1 : decode cX12_flags 1 = .ok (.iconst 0, 1) := by decide +kernel
theorem dX12_flags_2 : decode cX12_flags 2 = .ok (.putfield 1, 3) := by decide +kernel
theorem dX12_flags_5 : decode cX12_flags 5 = .ok (.aload_n 0, 1) := by decide +kernel
theorem dX12_flags_6 : decode cX12_flags 6 = .ok (.sipush 940, 3) := by decide +kernel
theorem dX12_flags_9 : decode cX12_flags 9 = .ok (.invokevirtual 225, 3) := by decide +kernel
theorem dX12_flags_12 : decode cX12_flags 12 = .ok (.aload_n 0, 1) := by decide +kernel
theorem dX12_flags_13 : decode cX12_flags 13 = .ok (.iload_n 1, 1) := by decide +kernel
theorem dX12_flags_14 : decode cX12_flags 14 = .ok (.invokevirtual 255, 3) := by decide +kernel
theorem dX12_flags_17 : decode cX12_flags 17 = .ok (.ifCond .eq 11, 3) := by decide +kernel
theorem dX12_flags_20 : decode cX12_flags 20 = .ok (.aload_n 0, 1) := by decide +kernel
theorem dX12_flags_21 : decode cX12_flags 21 = .ok (.getfield 18, 3) := by decide +kernel
theorem dX12_flags_24 : decode cX12_flags 24 = .ok (.iconst 2, 1) := by decide +kernel
theorem dX12_flags_25 : decode cX12_flags 25 = .ok (.if_icmp .eq 5, 3) := by decide +kernel
theorem dX12_flags_28 : decode cX12_flags 28 = .ok (.iconst (-1), 1) := by decide +kernel
theorem dX12_flags_29 : decode cX12_flags 29 = .ok (.ireturn, 1) := by decide +kernel
theorem dX12_flags_30 : decode cX12_flags 30 = .ok (.iconst 0, 1) := by decide +kernel
theorem dX12_flags_31 : decode cX12_flags 31 = .ok (.istore_n 2, 1) := by decide +kernel
theorem dX12_flags_32 : decode cX12_flags 32 = .ok (.bipush 63, 2) := by decide +kernel
theorem dX12_flags_34 : decode cX12_flags 34 = .ok (.istore_n 3, 1) := by decide +kernel
theorem dX12_flags_35 : decode cX12_flags 35 = .ok (.iconst 0, 1) := by decide +kernel
theorem dX12_flags_36 : decode cX12_flags 36 = .ok (.istore 4, 2) := by decide +kernel
theorem dX12_flags_38 : decode cX12_flags 38 = .ok (.iload 4, 2) := by decide +kernel
theorem dX12_flags_40 : decode cX12_flags 40 = .ok (.iconst 1, 1) := by decide +kernel
theorem dX12_flags_41 : decode cX12_flags 41 = .ok (.aload_n 0, 1) := by decide +kernel
theorem dX12_flags_42 : decode cX12_flags 42 = .ok (.getfield 33, 3) := by decide +kernel
theorem dX12_flags_45 : decode cX12_flags 45 = .ok (.iconst 1, 1) := by decide +kernel
theorem dX12_flags_46 : decode cX12_flags 46 = .ok (.iaload, 1) := by decide +kernel
theorem dX12_flags_47 : decode cX12_flags 47 = .ok (.ishl, 1) := by decide +kernel
theorem dX12_flags_48 : decode cX12_flags 48 = .ok (.if_icmp .ge 72, 3) := by decide +kernel
theorem dX12_flags_51 : decode cX12_flags 51 = .ok (.aload_n 0, 1) := by decide +kernel
theorem dX12_flags_52 : decode cX12_flags 52 = .ok (.getfield 33, 3) := by decide +kernel
theorem dX12_flags_55 : decode cX12_flags 55 = .ok (.bipush 7, 2) := by decide +kernel
theorem dX12_flags_57 : decode cX12_flags 57 = .ok (.iload_n 1, 1) := by decide +kernel
theorem dX12_flags_58 : decode cX12_flags 58 = .ok (.iadd, 1) := by decide +kernel
theorem dX12_flags_59 : decode cX12_flags 59 = .ok (.iaload, 1) := by decide +kernel
theorem dX12_flags_60 : decode cX12_flags 60 = .ok (.aload_n 0, 1) := by decide +kernel
theorem dX12_flags_61 : decode cX12_flags 61 = .ok (.bipush 49, 2) := by decide +kernel
theorem dX12_flags_63 : decode cX12_flags 63 = .ok (.iload 4, 2) := by decide +kernel
theorem dX12_flags_65 : decode cX12_flags 65 = .ok (.invokevirtual 240, 3) := by decide +kernel
theorem dX12_flags_68 : decode cX12_flags 68 = .ok (.iadd, 1) := by decide +kernel
theorem dX12_flags_69 : decode cX12_flags 69 = .ok (.aload_n 0, 1) := by decide +kernel
theorem dX12_flags_70 : decode cX12_flags 70 = .ok (.iconst 0, 1) := by decide +kernel
theorem dX12_flags_71 : decode cX12_flags 71 = .ok (.invokevirtual 359, 3) := by decide +kernel
theorem dX12_flags_74 : decode cX12_flags 74 = .ok (.if_icmp .ne 40, 3) := by decide +kernel
theorem dX12_flags_77 : decode cX12_flags 77 = .ok (.aload_n 0, 1) := by decide +kernel
theorem dX12_flags_78 : decode cX12_flags 78 = .ok (.getfield 33, 3) := by decide +kernel
theorem dX12_flags_81 : decode cX12_flags 81 = .ok (.bipush 13, 2) := by decide +kernel
theorem dX12_flags_83 : decode cX12_flags 83 = .ok (.iload_n 1, 1) := by decide +kernel
theorem dX12_flags_84 : decode cX12_flags 84 = .ok (.iadd, 1) := by decide +kernel
theorem dX12_flags_85 : decode cX12_flags 85 = .ok (.iaload, 1) := by decide +kernel
theorem dX12_flags_86 : decode cX12_flags 86 = .ok (.aload_n 0, 1) := by decide +kernel
theorem dX12_flags_87 : decode cX12_flags 87 = .ok (.bipush 55, 2) := by decide +kernel
theorem dX12_flags_89 : decode cX12_flags 89 = .ok (.iload 4, 2) := by decide +kernel
theorem dX12_flags_91 : decode cX12_flags 91 = .ok (.invokevirtual 240, 3) := by decide +kernel
theorem dX12_flags_94 : decode cX12_flags 94 = .ok (.iadd, 1) := by decide +kernel
theorem dX12_flags_95 : decode cX12_flags 95 = .ok (.aload_n 0, 1) := by decide +kernel
theorem dX12_flags_96 : decode cX12_flags 96 = .ok (.iconst 1, 1) := by decide +kernel
theorem dX12_flags_97 : decode cX12_flags 97 = .ok (.invokevirtual 359, 3) := by decide +kernel
theorem dX12_flags_100 : decode cX12_flags 100 = .ok (.if_icmp .eq 6, 3) := by decide +kernel
theorem dX12_flags_103 : decode cX12_flags 103 = .ok (.goto 11, 3) := by decide +kernel
theorem dX12_flags_106 : decode cX12_flags 106 = .ok (.iinc 2 1, 3) := by decide +kernel
theorem dX12_flags_109 : decode cX12_flags 109 = .ok (.iload_n 3, 1) := by decide +kernel
theorem dX12_flags_110 : decode cX12_flags 110 = .ok (.iload 4, 2) := by decide +kernel
theorem dX12_flags_112 : decode cX12_flags 112 = .ok (.iand, 1) := by decide +kernel
theorem dX12_flags_113 : decode cX12_flags 113 = .ok (.istore_n 3, 1) := by decide +kernel
theorem dX12_flags_114 : decode cX12_flags 114 = .ok (.iinc 4 1, 3) := by decide +kernel
theorem dX12_flags_117 : decode cX12_flags 117 = .ok (.goto (-79), 3) := by decide +kernel
theorem dX12_flags_120 : decode cX12_flags 120 = .ok (.iload_n 2, 1) := by decide +kernel
theorem dX12_flags_121 : decode cX12_flags 121 = .ok (.ifCond .le 13, 3) := by decide +kernel
theorem dX12_flags_124 : decode cX12_flags 124 = .ok (.aload_n 0, 1) := by decide +kernel
theorem dX12_flags_125 : decode cX12_flags 125 = .ok (.iconst 1, 1) := by decide +kernel
theorem dX12_flags_126 : decode cX12_flags 126 = .ok (.putfield 362, 3) := by decide +kernel
theorem dX12_flags_129 : decode cX12_flags 129 = .ok (.aload_n 0, 1) := by decide +kernel
theorem dX12_flags_130 : decode cX12_flags 130 = .ok (.iload_n 3, 1) := by decide +kernel
theorem dX12_flags_131 : decode cX12_flags 131 = .ok (.putfield 366, 3) := by decide +kernel
theorem dX12_flags_134 : decode cX12_flags 134 = .ok (.iload_n 2, 1) := by decide +kernel
theorem dX12_flags_135 : decode cX12_flags 135 = .ok (.ireturn, 1) := by decide +kernel
set_option maxHeartbeats 4000000 in
theorem w_l_M_flags_0 {ad wad : Nat → Nat} {Γ : Ctx} (F : Nat) {n : Nat} (hn : 3 ≤ n) (hG : Cx SHm ad wad cX12_flags 5 RX12 (some .int) (n) Γ) {q : Int32 × HS} {x1 : Int32} {K0 : Int32 → Int32 → HS → Option (Int32 × HS)} {g : Nat} {x2 : Int32} {x3 : Int32} {x4 : Int32} {h : HS} (hd : l_M_flags_0 F x1 K0 g x2 x3 x4 h = some q) (hK0 : ∀ (y2 : Int32) (y3 : Int32) (z : HS), K0 y2 y3 z = some q → AW SHm ad 5 (some (.int q.1), q.2) Γ 120 [(0, .ref (ad 0)), (2, .int y2), (3, .int y3)] [] z) : AW SHm ad 5 (some (.int q.1), q.2) Γ 38 [(0, .ref (ad 0)), (1, .int x1), (2, .int x2), (3, .int x3), (4, .int x4)] [] h := by
  induction g generalizing x2 x3 x4 h with
  | zero => unfold l_M_flags_0 at hd; cases hd
  | succ g ih =>
    unfold l_M_flags_0 at hd
    refine a_iload (pc := 38) hG 4 rfl dX12_flags_38 ?_
    refine a_iconst (pc := 40) hG dX12_flags_40 (v := (nI 1)) rfl ?_
    refine a_aload_n (pc := 41) hG 0 rfl dX12_flags_41 rfl ?_
    refine a_getR (pc := 42) hG sm_0 cl_X12 ok_X12 6 (by decide) rfl t_1615 dX12_flags_42 ?_
    refine a_iconst (pc := 45) hG dX12_flags_45 (v := (nI 1)) rfl ?_
    refine a_iald (pc := 46) hG sm_2 hd dX12_flags_46 (fun hd => ?_)
    refine a_ishl (pc := 47) hG dX12_flags_47 ?_
    refine a_ic_ge (pc := 48) hG (tgt := 120) hd dX12_flags_48 (by decide) (fun hd => ?_) (fun hd => ?_)
    · exact AW.sub [0, 2, 3] rfl (hK0 _ _ _ hd)
    refine a_aload_n (pc := 51) hG 0 rfl dX12_flags_51 rfl ?_
    refine a_getR (pc := 52) hG sm_0 cl_X12 ok_X12 6 (by decide) rfl t_1615 dX12_flags_52 ?_
    refine a_bipush (pc := 55) hG dX12_flags_55 (v := (nI 7)) rfl ?_
    refine a_iload_n (pc := 57) hG 1 rfl dX12_flags_57 rfl ?_
    refine a_iadd (pc := 58) hG dX12_flags_58 ?_
    refine a_iald (pc := 59) hG sm_2 hd dX12_flags_59 (fun hd => ?_)
    refine a_aload_n (pc := 60) hG 0 rfl dX12_flags_60 rfl ?_
    refine a_bipush (pc := 61) hG dX12_flags_61 (v := (nI 49)) rfl ?_
    refine a_iload (pc := 63) hG 4 rfl dX12_flags_63 ?_
    refine a_cvI (pc := 65) hG (As := [.int (nI 49), .int x4]) (st := [.int (h.1 2 ((nI 7) + x1).toNatClampNeg)]) sm_0 cl_X12 mk_X12_sum t_1846 (by omega) (fun z hz => c_M_sum F (nI 49) x4 _  z hz) rfl (Nat.le_of_ble_eq_true rfl) hd dX12_flags_65 (fun r9 h8 hd => ?_)
    refine a_iadd (pc := 68) hG dX12_flags_68 ?_
    refine a_aload_n (pc := 69) hG 0 rfl dX12_flags_69 rfl ?_
    refine a_iconst (pc := 70) hG dX12_flags_70 (v := (nI 0)) rfl ?_
    refine a_cvI (pc := 71) hG (As := [.int (nI 0)]) (st := [.int ((h.1 2 ((nI 7) + x1).toNatClampNeg) + r9)]) sm_0 cl_X12 mk_X12_octet t_2072 (by omega) (fun z hz => c_M_octet (nI 0) _  z hz) rfl (Nat.le_of_ble_eq_true rfl) hd dX12_flags_71 (fun r11 h10 hd => ?_)
    refine a_join hd (Q := fun J : Int32 → Int32 → HS → Option (Int32 × HS) => ∀ (v13 : Int32) (v14 : Int32) (h15 : HS), J v13 v14 h15 = some q → AW SHm ad 5 (some (.int q.1), q.2) Γ 114 [(0, .ref (ad 0)), (1, .int x1), (2, .int v13), (3, .int v14), (4, .int x4)] [] h15) (fun v13 v14 h15 hd => ?_) (fun J12 hJ12 hd => ?_)
    · refine a_iincN (pc := 114) hG (c0 := (nI 1)) 4 rfl hd dX12_flags_114 rfl (by decide) (lf := fun x => [(4, .int x), (0, .ref (ad 0)), (1, .int x1), (2, .int v13), (3, .int v14)]) (fun _ => rfl) (fun v16 hd => ?_)
      refine a_goto (pc := 117) hG (tgt := 38) dX12_flags_117 (by decide) ?_
      exact AW.sub [1, 2, 3, 4, 0] rfl (ih hd)
    refine a_ic_ne (pc := 74) hG (tgt := 114) hd dX12_flags_74 (by decide) (fun hd => ?_) (fun hd => ?_)
    · exact AW.sub [0, 1, 2, 3, 4] rfl (hJ12 _ _ _ hd)
    refine a_aload_n (pc := 77) hG 0 rfl dX12_flags_77 rfl ?_
    refine a_getR (pc := 78) hG sm_0 cl_X12 ok_X12 6 (by decide) rfl t_1615 dX12_flags_78 ?_
    refine a_bipush (pc := 81) hG dX12_flags_81 (v := (nI 13)) rfl ?_
    refine a_iload_n (pc := 83) hG 1 rfl dX12_flags_83 rfl ?_
    refine a_iadd (pc := 84) hG dX12_flags_84 ?_
    refine a_iald (pc := 85) hG sm_2 hd dX12_flags_85 (fun hd => ?_)
    refine a_aload_n (pc := 86) hG 0 rfl dX12_flags_86 rfl ?_
    refine a_bipush (pc := 87) hG dX12_flags_87 (v := (nI 55)) rfl ?_
    refine a_iload (pc := 89) hG 4 rfl dX12_flags_89 ?_
    refine a_cvI (pc := 91) hG (As := [.int (nI 55), .int x4]) (st := [.int (h10.1 2 ((nI 13) + x1).toNatClampNeg)]) sm_0 cl_X12 mk_X12_sum t_1846 (by omega) (fun z hz => c_M_sum F (nI 55) x4 _  z hz) rfl (Nat.le_of_ble_eq_true rfl) hd dX12_flags_91 (fun r18 h17 hd => ?_)
    refine a_iadd (pc := 94) hG dX12_flags_94 ?_
    refine a_aload_n (pc := 95) hG 0 rfl dX12_flags_95 rfl ?_
    refine a_iconst (pc := 96) hG dX12_flags_96 (v := (nI 1)) rfl ?_
    refine a_cvI (pc := 97) hG (As := [.int (nI 1)]) (st := [.int ((h10.1 2 ((nI 13) + x1).toNatClampNeg) + r18)]) sm_0 cl_X12 mk_X12_octet t_2072 (by omega) (fun z hz => c_M_octet (nI 1) _  z hz) rfl (Nat.le_of_ble_eq_true rfl) hd dX12_flags_97 (fun r20 h19 hd => ?_)
    refine a_ic_eq (pc := 100) hG (tgt := 106) hd dX12_flags_100 (by decide) (fun hd => ?_) (fun hd => ?_)
    · refine a_iincN (pc := 106) hG (c0 := (nI 1)) 2 rfl hd dX12_flags_106 rfl (by decide) (lf := fun x => [(2, .int x), (0, .ref (ad 0)), (1, .int x1), (3, .int x3), (4, .int x4)]) (fun _ => rfl) (fun v21 hd => ?_)
      refine a_iload_n (pc := 109) hG 3 rfl dX12_flags_109 rfl ?_
      refine a_iload (pc := 110) hG 4 rfl dX12_flags_110 ?_
      refine a_iand (pc := 112) hG dX12_flags_112 ?_
      refine a_istore_nN (pc := 113) hG hd dX12_flags_113 rfl (by decide) (lf := fun x => [(3, .int x), (2, .int v21), (0, .ref (ad 0)), (1, .int x1), (4, .int x4)]) (fun _ => rfl) (fun v22 hd => ?_)
      exact AW.sub [2, 3, 1, 0, 4] rfl (hJ12 _ _ _ hd)
    refine a_goto (pc := 103) hG (tgt := 114) dX12_flags_103 (by decide) ?_
    exact AW.sub [0, 1, 2, 3, 4] rfl (hJ12 _ _ _ hd)
set_option maxHeartbeats 4000000 in
theorem c_M_flags {ad wad : Nat → Nat} (F : Nat) (a0 : Int32) (h : HS)  (q : Int32 × HS) (hd : f_M_flags F a0 h = some q) : Ctr SHm ad wad yX12_flags cX12_flags 5 (some .int) 3 [.ref (ad 0), .int a0] h (some (.int q.1), q.2) := by
  refine enter (own := RX12) (lv := [(0, .ref (ad 0)), (1, .int a0)]) (by decide +kernel) rfl (Nat.le_of_ble_eq_true rfl) rfl (fun Γ hG => ?_)
  unfold f_M_flags at hd
  refine a_aload_n (pc := 0) hG 0 rfl dX12_flags_0 rfl ?_
  refine a_iconst (pc := 1) hG dX12_flags_1 (v := (nI 0)) rfl ?_
  refine a_putI (pc := 2) hG sm_0 cl_X12 ok_X12 0 (by decide) rfl t_1609 rfl (ty := .int) rfl rfl rfl hd dX12_flags_2 (fun h1 hd => ?_)
  refine a_aload_n (pc := 5) hG 0 rfl dX12_flags_5 rfl ?_
  refine a_sipush (pc := 6) hG dX12_flags_6 (v := (nI 940)) rfl ?_
  refine a_cvN (pc := 9) hG (As := [.int (nI 940)]) (st := []) sm_0 cl_X12 mk_X12_taken t_1750 (by omega) (fun z hz => c_M_taken (nI 940) _  z hz) rfl (Nat.le_of_ble_eq_true rfl) hd dX12_flags_9 (fun _ h2 hd => ?_)
  refine a_aload_n (pc := 12) hG 0 rfl dX12_flags_12 rfl ?_
  refine a_iload_n (pc := 13) hG 1 rfl dX12_flags_13 rfl ?_
  refine a_cvI (pc := 14) hG (As := [.int a0]) (st := []) sm_0 cl_X12 mk_X12_isCause t_1830 (by omega) (fun z hz => c_M_isCause a0 _  z hz) rfl (Nat.le_of_ble_eq_true rfl) hd dX12_flags_14 (fun r4 h3 hd => ?_)
  refine a_if_eq (pc := 17) hG (tgt := 28) hd dX12_flags_17 (by decide) (fun hd => ?_) (fun hd => ?_)
  · refine a_iconst (pc := 28) hG dX12_flags_28 (v := (-1 : Int32)) rfl ?_
    exact a_iret (pc := 29) hG hd dX12_flags_29
  refine a_aload_n (pc := 20) hG 0 rfl dX12_flags_20 rfl ?_
  refine a_getI (pc := 21) hG sm_0 cl_X12 ok_X12 3 (by decide) rfl t_1612 dX12_flags_21 ?_
  refine a_iconst (pc := 24) hG dX12_flags_24 (v := (nI 2)) rfl ?_
  refine a_ic_eq (pc := 25) hG (tgt := 30) hd dX12_flags_25 (by decide) (fun hd => ?_) (fun hd => ?_)
  · refine a_iconst (pc := 30) hG dX12_flags_30 (v := (nI 0)) rfl ?_
    refine a_istore_nN (pc := 31) hG hd dX12_flags_31 rfl (by decide) (lf := fun x => [(2, .int x), (0, .ref (ad 0)), (1, .int a0)]) (fun _ => rfl) (fun v5 hd => ?_)
    refine a_bipush (pc := 32) hG dX12_flags_32 (v := (nI 63)) rfl ?_
    refine a_istore_nN (pc := 34) hG hd dX12_flags_34 rfl (by decide) (lf := fun x => [(3, .int x), (2, .int v5), (0, .ref (ad 0)), (1, .int a0)]) (fun _ => rfl) (fun v6 hd => ?_)
    refine a_iconst (pc := 35) hG dX12_flags_35 (v := (nI 0)) rfl ?_
    refine a_istoreN (pc := 36) hG hd dX12_flags_36 (by decide) (lf := fun x => [(4, .int x), (3, .int v6), (2, .int v5), (0, .ref (ad 0)), (1, .int a0)]) (fun _ => rfl) (fun v7 hd => ?_)
    refine AW.sub [3, 4, 2, 1, 0] rfl ?_
    refine w_l_M_flags_0 F (by omega) hG hd (fun v23 v24 h25 hd => ?_)
    refine a_iload_n (pc := 120) hG 1 rfl dX12_flags_120 rfl ?_
    refine a_if_le (pc := 121) hG (tgt := 134) hd dX12_flags_121 (by decide) (fun hd => ?_) (fun hd => ?_)
    · refine a_iload_n (pc := 134) hG 1 rfl dX12_flags_134 rfl ?_
      exact a_iret (pc := 135) hG hd dX12_flags_135
    refine a_aload_n (pc := 124) hG 0 rfl dX12_flags_124 rfl ?_
    refine a_iconst (pc := 125) hG dX12_flags_125 (v := (nI 1)) rfl ?_
    refine a_putI (pc := 126) hG sm_0 cl_X12 ok_X12 30 (by decide) rfl t_1639 rfl (ty := .boolean) rfl rfl rfl hd dX12_flags_126 (fun h26 hd => ?_)
    refine a_aload_n (pc := 129) hG 0 rfl dX12_flags_129 rfl ?_
    refine a_iload_n (pc := 130) hG 2 rfl dX12_flags_130 rfl ?_
    refine a_putI (pc := 131) hG sm_0 cl_X12 ok_X12 29 (by decide) rfl t_1638 rfl (ty := .int) rfl rfl rfl hd dX12_flags_131 (fun h27 hd => ?_)
    refine a_iload_n (pc := 134) hG 1 rfl dX12_flags_134 rfl ?_
    exact a_iret (pc := 135) hG hd dX12_flags_135
  refine a_iconst (pc := 28) hG dX12_flags_28 (v := (-1 : Int32)) rfl ?_
  exact a_iret (pc := 29) hG hd dX12_flags_29
