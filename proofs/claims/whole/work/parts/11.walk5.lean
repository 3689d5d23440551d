theorem dX12_nots_0 : decode cX12_nots 0 = .ok (.aload_n 0, 1) := by decide +kernel
theorem dX12_nots_1 : decode cX12_nots 1 = .ok (.getfield 394, 3) := by decide +kernel
theorem dX12_nots_4 : decode cX12_nots 4 = .ok (.ifCond .le 50, 3) := by decide +kernel
theorem dX12_nots_7 : decode cX12_nots 7 = .ok (.aload_n 0, 1) := by decide +kernel
theorem dX12_nots_8 : decode cX12_nots 8 = .ok (.getfield 74, 3) := by decide +kernel
theorem dX12_nots_11 : decode cX12_nots 11 = .ok (.aload_n 0, 1) := by decide +kernel
theorem dX12_nots_12 : decode cX12_nots 12 = .ok (.getfield 394, 3) := by decide +kernel
theorem dX12_nots_15 : decode cX12_nots 15 = .ok (.iconst 1, 1) := by decide +kernel
theorem dX12_nots_16 : decode cX12_nots 16 = .ok (.isub, 1) := by decide +kernel
theorem dX12_nots_17 : decode cX12_nots 17 = .ok (.iaload, 1) := by decide +kernel
theorem dX12_nots_18 : decode cX12_nots 18 = .ok (.bipush 20, 2) := by decide +kernel
theorem dX12_nots_20 : decode cX12_nots 20 = .ok (.if_icmp .ne 34, 3) := by decide +kernel
theorem dX12_nots_23 : decode cX12_nots 23 = .ok (.aload_n 0, 1) := by decide +kernel
theorem dX12_nots_24 : decode cX12_nots 24 = .ok (.dup, 1) := by decide +kernel
theorem dX12_nots_25 : decode cX12_nots 25 = .ok (.getfield 394, 3) := by decide +kernel
theorem dX12_nots_28 : decode cX12_nots 28 = .ok (.iconst 1, 1) := by decide +kernel
theorem dX12_nots_29 : decode cX12_nots 29 = .ok (.isub, 1) := by decide +kernel
theorem dX12_nots_30 : decode cX12_nots 30 = .ok (.putfield 394, 3) := by decide +kernel
theorem dX12_nots_33 : decode cX12_nots 33 = .ok (.aload_n 0, 1) := by decide +kernel
theorem dX12_nots_34 : decode cX12_nots 34 = .ok (.dup, 1) := by decide +kernel
theorem dX12_nots_35 : decode cX12_nots 35 = .ok (.getfield 401, 3) := by decide +kernel
theorem dX12_nots_38 : decode cX12_nots 38 = .ok (.iconst 1, 1) := by decide +kernel
theorem dX12_nots_39 : decode cX12_nots 39 = .ok (.isub, 1) := by decide +kernel
theorem dX12_nots_40 : decode cX12_nots 40 = .ok (.putfield 401, 3) := by decide +kernel
theorem dX12_nots_43 : decode cX12_nots 43 = .ok (.aload_n 0, 1) := by decide +kernel
theorem dX12_nots_44 : decode cX12_nots 44 = .ok (.bipush 20, 2) := by decide +kernel
theorem dX12_nots_46 : decode cX12_nots 46 = .ok (.iconst 0, 1) := by decide +kernel
theorem dX12_nots_47 : decode cX12_nots 47 = .ok (.iconst 0, 1) := by decide +kernel
theorem dX12_nots_48 : decode cX12_nots 48 = .ok (.invokevirtual 397, 3) := by decide +kernel
theorem dX12_nots_51 : decode cX12_nots 51 = .ok (.goto (-51), 3) := by decide +kernel
theorem dX12_nots_54 : decode cX12_nots 54 = .ok (.return_, 1) := by decide +kernel
set_option maxHeartbeats 4000000 in
theorem w_l_M_nots_0 {ad wad : Nat → Nat} {Γ : Ctx} (F : Nat) {n : Nat} (hn : 2 ≤ n) (hG : Cx SHm ad wad cX12_nots 1 RX12 none (n) Γ) {q : Unit × HS} {g : Nat}  {h : HS} (hd : l_M_nots_0 F g  h = some q) : AW SHm ad 1 (none, q.2) Γ 0 [(0, .ref (ad 0))] [] h := by
  induction g generalizing h with
  | zero => unfold l_M_nots_0 at hd; cases hd
  | succ g ih =>
    unfold l_M_nots_0 at hd
    refine a_aload_n (pc := 0) hG 0 rfl dX12_nots_0 rfl ?_
    refine a_getI (pc := 1) hG sm_0 cl_X12 ok_X12 38 (by decide) rfl t_1647 dX12_nots_1 ?_
    refine a_if_le (pc := 4) hG (tgt := 54) hd dX12_nots_4 (by decide) (fun hd => ?_) (fun hd => ?_)
    · exact a_vret (pc := 54) hG hd dX12_nots_54
    refine a_aload_n (pc := 7) hG 0 rfl dX12_nots_7 rfl ?_
    refine a_getR (pc := 8) hG sm_0 cl_X12 ok_X12 35 (by decide) rfl t_1644 dX12_nots_8 ?_
    refine a_aload_n (pc := 11) hG 0 rfl dX12_nots_11 rfl ?_
    refine a_getI (pc := 12) hG sm_0 cl_X12 ok_X12 38 (by decide) rfl t_1647 dX12_nots_12 ?_
    refine a_iconst (pc := 15) hG dX12_nots_15 (v := (nI 1)) rfl ?_
    refine a_isub (pc := 16) hG dX12_nots_16 ?_
    refine a_iald (pc := 17) hG sm_14 hd dX12_nots_17 (fun hd => ?_)
    refine a_bipush (pc := 18) hG dX12_nots_18 (v := (nI 20)) rfl ?_
    refine a_ic_ne (pc := 20) hG (tgt := 54) hd dX12_nots_20 (by decide) (fun hd => ?_) (fun hd => ?_)
    · exact a_vret (pc := 54) hG hd dX12_nots_54
    refine a_aload_n (pc := 23) hG 0 rfl dX12_nots_23 rfl ?_
    refine a_dup (pc := 24) hG dX12_nots_24 rfl ?_
    refine a_getI (pc := 25) hG sm_0 cl_X12 ok_X12 38 (by decide) rfl t_1647 dX12_nots_25 ?_
    refine a_iconst (pc := 28) hG dX12_nots_28 (v := (nI 1)) rfl ?_
    refine a_isub (pc := 29) hG dX12_nots_29 ?_
    refine a_putI (pc := 30) hG sm_0 cl_X12 ok_X12 38 (by decide) rfl t_1647 rfl (ty := .int) rfl rfl rfl hd dX12_nots_30 (fun h1 hd => ?_)
    refine a_aload_n (pc := 33) hG 0 rfl dX12_nots_33 rfl ?_
    refine a_dup (pc := 34) hG dX12_nots_34 rfl ?_
    refine a_getI (pc := 35) hG sm_0 cl_X12 ok_X12 39 (by decide) rfl t_1648 dX12_nots_35 ?_
    refine a_iconst (pc := 38) hG dX12_nots_38 (v := (nI 1)) rfl ?_
    refine a_isub (pc := 39) hG dX12_nots_39 ?_
    refine a_putI (pc := 40) hG sm_0 cl_X12 ok_X12 39 (by decide) rfl t_1648 rfl (ty := .int) rfl rfl rfl hd dX12_nots_40 (fun h2 hd => ?_)
    refine a_aload_n (pc := 43) hG 0 rfl dX12_nots_43 rfl ?_
    refine a_bipush (pc := 44) hG dX12_nots_44 (v := (nI 20)) rfl ?_
    refine a_iconst (pc := 46) hG dX12_nots_46 (v := (nI 0)) rfl ?_
    refine a_iconst (pc := 47) hG dX12_nots_47 (v := (nI 0)) rfl ?_
    refine a_cvN (pc := 48) hG (As := [.int (nI 20), .int (nI 0), .int (nI 0)]) (st := []) sm_0 cl_X12 mk_X12_code t_2133 (by omega) (fun z hz => c_M_code (nI 20) (nI 0) (nI 0) _  z hz) rfl (Nat.le_of_ble_eq_true rfl) hd dX12_nots_48 (fun _ h3 hd => ?_)
    refine a_goto (pc := 51) hG (tgt := 0) dX12_nots_51 (by decide) ?_
    exact AW.sub [0] rfl (ih hd)
set_option maxHeartbeats 4000000 in
theorem c_M_nots {ad wad : Nat → Nat} (F : Nat)  (h : HS)  (q : Unit × HS) (hd : f_M_nots F  h = some q) : Ctr SHm ad wad yX12_nots cX12_nots 1 none 2 [.ref (ad 0)] h (none, q.2) := by
  refine enter (own := RX12) (lv := [(0, .ref (ad 0))]) (by decide +kernel) rfl (Nat.le_of_ble_eq_true rfl) rfl (fun Γ hG => ?_)
  unfold f_M_nots at hd
  refine AW.sub [0] rfl ?_
  exact w_l_M_nots_0 F (by omega) hG hd
theorem dX12_joins_0 : decode cX12_joins 0 = .ok (.aload_n 0, 1) := by decide +kernel
theorem dX12_joins_1 : decode cX12_joins 1 = .ok (.getfield 394, 3) := by decide +kernel
theorem dX12_joins_4 : decode cX12_joins 4 = .ok (.ifCond .le 69, 3) := by decide +kernel
theorem dX12_joins_7 : decode cX12_joins 7 = .ok (.aload_n 0, 1) := by decide +kernel
theorem dX12_joins_8 : decode cX12_joins 8 = .ok (.getfield 74, 3) := by decide +kernel
theorem dX12_joins_11 : decode cX12_joins 11 = .ok (.aload_n 0, 1) := by decide +kernel
theorem dX12_joins_12 : decode cX12_joins 12 = .ok (.getfield 394, 3) := by decide +kernel
theorem dX12_joins_15 : decode cX12_joins 15 = .ok (.iconst 1, 1) := by decide +kernel
theorem dX12_joins_16 : decode cX12_joins 16 = .ok (.isub, 1) := by decide +kernel
theorem dX12_joins_17 : decode cX12_joins 17 = .ok (.iaload, 1) := by decide +kernel
theorem dX12_joins_18 : decode cX12_joins 18 = .ok (.bipush 21, 2) := by decide +kernel
theorem dX12_joins_20 : decode cX12_joins 20 = .ok (.if_icmp .eq 25, 3) := by decide +kernel
theorem dX12_joins_23 : decode cX12_joins 23 = .ok (.aload_n 0, 1) := by decide +kernel
theorem dX12_joins_24 : decode cX12_joins 24 = .ok (.getfield 74, 3) := by decide +kernel
theorem dX12_joins_27 : decode cX12_joins 27 = .ok (.aload_n 0, 1) := by decide +kernel
theorem dX12_joins_28 : decode cX12_joins 28 = .ok (.getfield 394, 3) := by decide +kernel
theorem dX12_joins_31 : decode cX12_joins 31 = .ok (.iconst 1, 1) := by decide +kernel
theorem dX12_joins_32 : decode cX12_joins 32 = .ok (.isub, 1) := by decide +kernel
theorem dX12_joins_33 : decode cX12_joins 33 = .ok (.iaload, 1) := by decide +kernel
theorem dX12_joins_34 : decode cX12_joins 34 = .ok (.bipush 22, 2) := by decide +kernel
theorem dX12_joins_36 : decode cX12_joins 36 = .ok (.if_icmp .ne 37, 3) := by decide +kernel
theorem dX12_joins_39 : decode cX12_joins 39 = .ok (.iload_n 1, 1) := by decide +kernel
theorem dX12_joins_40 : decode cX12_joins 40 = .ok (.bipush 22, 2) := by decide +kernel
theorem dX12_joins_42 : decode cX12_joins 42 = .ok (.if_icmp .ne 31, 3) := by decide +kernel
theorem dX12_joins_45 : decode cX12_joins 45 = .ok (.aload_n 0, 1) := by decide +kernel
theorem dX12_joins_46 : decode cX12_joins 46 = .ok (.dup, 1) := by decide +kernel
theorem dX12_joins_47 : decode cX12_joins 47 = .ok (.getfield 394, 3) := by decide +kernel
theorem dX12_joins_50 : decode cX12_joins 50 = .ok (.iconst 1, 1) := by decide +kernel
theorem dX12_joins_51 : decode cX12_joins 51 = .ok (.isub, 1) := by decide +kernel
theorem dX12_joins_52 : decode cX12_joins 52 = .ok (.putfield 394, 3) := by decide +kernel
theorem dX12_joins_55 : decode cX12_joins 55 = .ok (.aload_n 0, 1) := by decide +kernel
theorem dX12_joins_56 : decode cX12_joins 56 = .ok (.aload_n 0, 1) := by decide +kernel
theorem dX12_joins_57 : decode cX12_joins 57 = .ok (.getfield 74, 3) := by decide +kernel
theorem dX12_joins_60 : decode cX12_joins 60 = .ok (.aload_n 0, 1) := by decide +kernel
theorem dX12_joins_61 : decode cX12_joins 61 = .ok (.getfield 394, 3) := by decide +kernel
theorem dX12_joins_64 : decode cX12_joins 64 = .ok (.iaload, 1) := by decide +kernel
theorem dX12_joins_65 : decode cX12_joins 65 = .ok (.iconst 0, 1) := by decide +kernel
theorem dX12_joins_66 : decode cX12_joins 66 = .ok (.iconst 0, 1) := by decide +kernel
theorem dX12_joins_67 : decode cX12_joins 67 = .ok (.invokevirtual 397, 3) := by decide +kernel
theorem dX12_joins_70 : decode cX12_joins 70 = .ok (.goto (-70), 3) := by decide +kernel
theorem dX12_joins_73 : decode cX12_joins 73 = .ok (.return_, 1) := by decide +kernel
set_option maxHeartbeats 4000000 in
theorem w_l_M_joins_0 {ad wad : Nat → Nat} {Γ : Ctx} (F : Nat) {n : Nat} (hn : 2 ≤ n) (hG : Cx SHm ad wad cX12_joins 2 RX12 none (n) Γ) {q : Unit × HS} {x1 : Int32} {g : Nat}  {h : HS} (hd : l_M_joins_0 F x1 g  h = some q) : AW SHm ad 2 (none, q.2) Γ 0 [(0, .ref (ad 0)), (1, .int x1)] [] h := by
  induction g generalizing h with
  | zero => unfold l_M_joins_0 at hd; cases hd
  | succ g ih =>
    unfold l_M_joins_0 at hd
    refine a_aload_n (pc := 0) hG 0 rfl dX12_joins_0 rfl ?_
    refine a_getI (pc := 1) hG sm_0 cl_X12 ok_X12 38 (by decide) rfl t_1647 dX12_joins_1 ?_
    refine a_if_le (pc := 4) hG (tgt := 73) hd dX12_joins_4 (by decide) (fun hd => ?_) (fun hd => ?_)
    · exact a_vret (pc := 73) hG hd dX12_joins_73
    refine a_aload_n (pc := 7) hG 0 rfl dX12_joins_7 rfl ?_
    refine a_getR (pc := 8) hG sm_0 cl_X12 ok_X12 35 (by decide) rfl t_1644 dX12_joins_8 ?_
    refine a_aload_n (pc := 11) hG 0 rfl dX12_joins_11 rfl ?_
    refine a_getI (pc := 12) hG sm_0 cl_X12 ok_X12 38 (by decide) rfl t_1647 dX12_joins_12 ?_
    refine a_iconst (pc := 15) hG dX12_joins_15 (v := (nI 1)) rfl ?_
    refine a_isub (pc := 16) hG dX12_joins_16 ?_
    refine a_iald (pc := 17) hG sm_14 hd dX12_joins_17 (fun hd => ?_)
    refine a_bipush (pc := 18) hG dX12_joins_18 (v := (nI 21)) rfl ?_
    refine a_join hd (Q := fun J : HS → Option (Unit × HS) => ∀  (h2 : HS), J  h2 = some q → AW SHm ad 2 (none, q.2) Γ 45 [(0, .ref (ad 0)), (1, .int x1)] [] h2) (fun  h2 hd => ?_) (fun J1 hJ1 hd => ?_)
    · refine a_aload_n (pc := 45) hG 0 rfl dX12_joins_45 rfl ?_
      refine a_dup (pc := 46) hG dX12_joins_46 rfl ?_
      refine a_getI (pc := 47) hG sm_0 cl_X12 ok_X12 38 (by decide) rfl t_1647 dX12_joins_47 ?_
      refine a_iconst (pc := 50) hG dX12_joins_50 (v := (nI 1)) rfl ?_
      refine a_isub (pc := 51) hG dX12_joins_51 ?_
      refine a_putI (pc := 52) hG sm_0 cl_X12 ok_X12 38 (by decide) rfl t_1647 rfl (ty := .int) rfl rfl rfl hd dX12_joins_52 (fun h3 hd => ?_)
      refine a_aload_n (pc := 55) hG 0 rfl dX12_joins_55 rfl ?_
      refine a_aload_n (pc := 56) hG 0 rfl dX12_joins_56 rfl ?_
      refine a_getR (pc := 57) hG sm_0 cl_X12 ok_X12 35 (by decide) rfl t_1644 dX12_joins_57 ?_
      refine a_aload_n (pc := 60) hG 0 rfl dX12_joins_60 rfl ?_
      refine a_getI (pc := 61) hG sm_0 cl_X12 ok_X12 38 (by decide) rfl t_1647 dX12_joins_61 ?_
      refine a_iald (pc := 64) hG sm_14 hd dX12_joins_64 (fun hd => ?_)
      refine a_iconst (pc := 65) hG dX12_joins_65 (v := (nI 0)) rfl ?_
      refine a_iconst (pc := 66) hG dX12_joins_66 (v := (nI 0)) rfl ?_
      refine a_cvN (pc := 67) hG (As := [.int (h3.1 14 (h3.1 0 38).toNatClampNeg), .int (nI 0), .int (nI 0)]) (st := []) sm_0 cl_X12 mk_X12_code t_2133 (by omega) (fun z hz => c_M_code (h3.1 14 (h3.1 0 38).toNatClampNeg) (nI 0) (nI 0) _  z hz) rfl (Nat.le_of_ble_eq_true rfl) hd dX12_joins_67 (fun _ h4 hd => ?_)
      refine a_goto (pc := 70) hG (tgt := 0) dX12_joins_70 (by decide) ?_
      exact AW.sub [0, 1] rfl (ih hd)
    refine a_ic_eq (pc := 20) hG (tgt := 45) hd dX12_joins_20 (by decide) (fun hd => ?_) (fun hd => ?_)
    · exact AW.sub [0, 1] rfl (hJ1  _ hd)
    refine a_aload_n (pc := 23) hG 0 rfl dX12_joins_23 rfl ?_
    refine a_getR (pc := 24) hG sm_0 cl_X12 ok_X12 35 (by decide) rfl t_1644 dX12_joins_24 ?_
    refine a_aload_n (pc := 27) hG 0 rfl dX12_joins_27 rfl ?_
    refine a_getI (pc := 28) hG sm_0 cl_X12 ok_X12 38 (by decide) rfl t_1647 dX12_joins_28 ?_
    refine a_iconst (pc := 31) hG dX12_joins_31 (v := (nI 1)) rfl ?_
    refine a_isub (pc := 32) hG dX12_joins_32 ?_
    refine a_iald (pc := 33) hG sm_14 hd dX12_joins_33 (fun hd => ?_)
    refine a_bipush (pc := 34) hG dX12_joins_34 (v := (nI 22)) rfl ?_
    refine a_ic_ne (pc := 36) hG (tgt := 73) hd dX12_joins_36 (by decide) (fun hd => ?_) (fun hd => ?_)
    · exact a_vret (pc := 73) hG hd dX12_joins_73
    refine a_iload_n (pc := 39) hG 1 rfl dX12_joins_39 rfl ?_
    refine a_bipush (pc := 40) hG dX12_joins_40 (v := (nI 22)) rfl ?_
    refine a_ic_ne (pc := 42) hG (tgt := 73) hd dX12_joins_42 (by decide) (fun hd => ?_) (fun hd => ?_)
    · exact a_vret (pc := 73) hG hd dX12_joins_73
    exact AW.sub [0, 1] rfl (hJ1  _ hd)
set_option maxHeartbeats 4000000 in
theorem c_M_joins {ad wad : Nat → Nat} (F : Nat) (a0 : Int32) (h : HS)  (q : Unit × HS) (hd : f_M_joins F a0 h = some q) : Ctr SHm ad wad yX12_joins cX12_joins 2 none 2 [.ref (ad 0), .int a0] h (none, q.2) := by
  refine enter (own := RX12) (lv := [(0, .ref (ad 0)), (1, .int a0)]) (by decide +kernel) rfl (Nat.le_of_ble_eq_true rfl) rfl (fun Γ hG => ?_)
  unfold f_M_joins at hd
  refine AW.sub [0, 1] rfl ?_
  exact w_l_M_joins_0 F (by omega) hG hd
theorem dX12_behind_0 : decode cX12_behind 0 = .ok (.aload_n 0, 1) := by decide +kernel
theorem dX12_behind_1 : decode cX12_behind 1 = .ok (.invokevirtual 413, 3) := by decide +kernel
theorem dX12_behind_4 : decode cX12_behind 4 = .ok (.aload_n 0, 1) := by decide +kernel
theorem dX12_behind_5 : decode cX12_behind 5 = .ok (.ldc2_w 112, 3) := by decide +kernel
theorem dX12_behind_8 : decode cX12_behind 8 = .ok (.invokevirtual 209, 3) := by decide +kernel
theorem dX12_behind_11 : decode cX12_behind 11 = .ok (.ifCond .ne 13, 3) := by decide +kernel
theorem dX12_behind_14 : decode cX12_behind 14 = .ok (.aload_n 0, 1) := by decide +kernel
theorem dX12_behind_15 : decode cX12_behind 15 = .ok (.ldc2_w 110, 3) := by decide +kernel
theorem dX12_behind_18 : decode cX12_behind 18 = .ok (.invokevirtual 209, 3) := by decide +kernel
theorem dX12_behind_21 : decode cX12_behind 21 = .ok (.ifCond .eq 71, 3) := by decide +kernel
theorem dX12_behind_24 : decode cX12_behind 24 = .ok (.aload_n 0, 1) := by decide +kernel
theorem dX12_behind_25 : decode cX12_behind 25 = .ok (.aload_n 0, 1) := by decide +kernel
theorem dX12_behind_26 : decode cX12_behind 26 = .ok (.ldc2_w 112, 3) := by decide +kernel
theorem dX12_behind_29 : decode cX12_behind 29 = .ok (.invokevirtual 209, 3) := by decide +kernel
theorem dX12_behind_32 : decode cX12_behind 32 = .ok (.ifCond .eq 8, 3) := by decide +kernel
theorem dX12_behind_35 : decode cX12_behind 35 = .ok (.bipush 21, 2) := by decide +kernel
theorem dX12_behind_37 : decode cX12_behind 37 = .ok (.goto 5, 3) := by decide +kernel
theorem dX12_behind_40 : decode cX12_behind 40 = .ok (.bipush 22, 2) := by decide +kernel
theorem dX12_behind_42 : decode cX12_behind 42 = .ok (.invokevirtual 416, 3) := by decide +kernel
theorem dX12_behind_45 : decode cX12_behind 45 = .ok (.aload_n 0, 1) := by decide +kernel
theorem dX12_behind_46 : decode cX12_behind 46 = .ok (.getfield 74, 3) := by decide +kernel
theorem dX12_behind_49 : decode cX12_behind 49 = .ok (.aload_n 0, 1) := by decide +kernel
theorem dX12_behind_50 : decode cX12_behind 50 = .ok (.getfield 394, 3) := by decide +kernel
theorem dX12_behind_53 : decode cX12_behind 53 = .ok (.aload_n 0, 1) := by decide +kernel
theorem dX12_behind_54 : decode cX12_behind 54 = .ok (.ldc2_w 112, 3) := by decide +kernel
theorem dX12_behind_57 : decode cX12_behind 57 = .ok (.invokevirtual 209, 3) := by decide +kernel
theorem dX12_behind_60 : decode cX12_behind 60 = .ok (.ifCond .eq 8, 3) := by decide +kernel
theorem dX12_behind_63 : decode cX12_behind 63 = .ok (.bipush 21, 2) := by decide +kernel
theorem dX12_behind_65 : decode cX12_behind 65 = .ok (.goto 5, 3) := by decide +kernel
theorem dX12_behind_68 : decode cX12_behind 68 = .ok (.bipush 22, 2) := by decide +kernel
theorem dX12_behind_70 : decode cX12_behind 70 = .ok (.iastore, 1) := by decide +kernel
theorem dX12_behind_71 : decode cX12_behind 71 = .ok (.aload_n 0, 1) := by decide +kernel
theorem dX12_behind_72 : decode cX12_behind 72 = .ok (.dup, 1) := by decide +kernel
theorem dX12_behind_73 : decode cX12_behind 73 = .ok (.getfield 394, 3) := by decide +kernel
theorem dX12_behind_76 : decode cX12_behind 76 = .ok (.iconst 1, 1) := by decide +kernel
theorem dX12_behind_77 : decode cX12_behind 77 = .ok (.iadd, 1) := by decide +kernel
theorem dX12_behind_78 : decode cX12_behind 78 = .ok (.putfield 394, 3) := by decide +kernel
theorem dX12_behind_81 : decode cX12_behind 81 = .ok (.aload_n 0, 1) := by decide +kernel
theorem dX12_behind_82 : decode cX12_behind 82 = .ok (.iconst 0, 1) := by decide +kernel
theorem dX12_behind_83 : decode cX12_behind 83 = .ok (.putfield 410, 3) := by decide +kernel
theorem dX12_behind_86 : decode cX12_behind 86 = .ok (.aload_n 0, 1) := by decide +kernel
theorem dX12_behind_87 : decode cX12_behind 87 = .ok (.invokevirtual 181, 3) := by decide +kernel
theorem dX12_behind_90 : decode cX12_behind 90 = .ok (.iconst 1, 1) := by decide +kernel
theorem dX12_behind_91 : decode cX12_behind 91 = .ok (.ireturn, 1) := by decide +kernel
theorem dX12_behind_92 : decode cX12_behind 92 = .ok (.aload_n 0, 1) := by decide +kernel
theorem dX12_behind_93 : decode cX12_behind 93 = .ok (.bipush 22, 2) := by decide +kernel
theorem dX12_behind_95 : decode cX12_behind 95 = .ok (.invokevirtual 416, 3) := by decide +kernel
theorem dX12_behind_98 : decode cX12_behind 98 = .ok (.aload_n 0, 1) := by decide +kernel
theorem dX12_behind_99 : decode cX12_behind 99 = .ok (.bipush 41, 2) := by decide +kernel
theorem dX12_behind_101 : decode cX12_behind 101 = .ok (.invokevirtual 175, 3) := by decide +kernel
theorem dX12_behind_104 : decode cX12_behind 104 = .ok (.ifCond .eq 10, 3) := by decide +kernel
theorem dX12_behind_107 : decode cX12_behind 107 = .ok (.aload_n 0, 1) := by decide +kernel
theorem dX12_behind_108 : decode cX12_behind 108 = .ok (.getfield 394, 3) := by decide +kernel
theorem dX12_behind_111 : decode cX12_behind 111 = .ok (.ifCond .ne 9, 3) := by decide +kernel
theorem dX12_behind_114 : decode cX12_behind 114 = .ok (.aload_n 0, 1) := by decide +kernel
theorem dX12_behind_115 : decode cX12_behind 115 = .ok (.iconst 1, 1) := by decide +kernel
theorem dX12_behind_116 : decode cX12_behind 116 = .ok (.invokevirtual 178, 3) := by decide +kernel
theorem dX12_behind_119 : decode cX12_behind 119 = .ok (.ireturn, 1) := by decide +kernel
theorem dX12_behind_120 : decode cX12_behind 120 = .ok (.aload_n 0, 1) := by decide +kernel
theorem dX12_behind_121 : decode cX12_behind 121 = .ok (.dup, 1) := by decide +kernel
theorem dX12_behind_122 : decode cX12_behind 122 = .ok (.getfield 394, 3) := by decide +kernel
theorem dX12_behind_125 : decode cX12_behind 125 = .ok (.iconst 1, 1) := by decide +kernel
theorem dX12_behind_126 : decode cX12_behind 126 = .ok (.isub, 1) := by decide +kernel
theorem dX12_behind_127 : decode cX12_behind 127 = .ok (.putfield 394, 3) := by decide +kernel
theorem dX12_behind_130 : decode cX12_behind 130 = .ok (.aload_n 0, 1) := by decide +kernel
theorem dX12_behind_131 : decode cX12_behind 131 = .ok (.dup, 1) := by decide +kernel
theorem dX12_behind_132 : decode cX12_behind 132 = .ok (.getfield 401, 3) := by decide +kernel
theorem dX12_behind_135 : decode cX12_behind 135 = .ok (.iconst 1, 1) := by decide +kernel
theorem dX12_behind_136 : decode cX12_behind 136 = .ok (.isub, 1) := by decide +kernel
theorem dX12_behind_137 : decode cX12_behind 137 = .ok (.putfield 401, 3) := by decide +kernel
theorem dX12_behind_140 : decode cX12_behind 140 = .ok (.aload_n 0, 1) := by decide +kernel
theorem dX12_behind_141 : decode cX12_behind 141 = .ok (.invokevirtual 181, 3) := by decide +kernel
theorem dX12_behind_144 : decode cX12_behind 144 = .ok (.iconst 1, 1) := by decide +kernel
theorem dX12_behind_145 : decode cX12_behind 145 = .ok (.ireturn, 1) := by decide +kernel
set_option maxHeartbeats 4000000 in
theorem c_M_behind {ad wad : Nat → Nat} (F : Nat)  (h : HS)  (q : Int32 × HS) (hd : f_M_behind F  h = some q) : Ctr SHm ad wad yX12_behind cX12_behind 1 (some .boolean) 3 [.ref (ad 0)] h (some (.int q.1), q.2) := by
  refine enter (own := RX12) (lv := [(0, .ref (ad 0))]) (by decide +kernel) rfl (Nat.le_of_ble_eq_true rfl) rfl (fun Γ hG => ?_)
  unfold f_M_behind at hd
  refine a_aload_n (pc := 0) hG 0 rfl dX12_behind_0 rfl ?_
  refine a_cvN (pc := 1) hG (As := []) (st := []) sm_0 cl_X12 mk_X12_nots t_2129 (by omega) (fun z hz => c_M_nots F  _  z hz) rfl (Nat.le_of_ble_eq_true rfl) hd dX12_behind_1 (fun _ h1 hd => ?_)
  refine a_aload_n (pc := 4) hG 0 rfl dX12_behind_4 rfl ?_
  refine a_ldc2_w (pc := 5) hG t_1589 dX12_behind_5 ?_
  refine a_cvI (pc := 8) hG (As := [.long (6385252 : Int64)]) (st := []) sm_0 cl_X12 mk_X12_isWord t_1772 (by omega) (fun z hz => c_M_isWord (6385252 : Int64) _  z hz) rfl (Nat.le_of_ble_eq_true rfl) hd dX12_behind_8 (fun r3 h2 hd => ?_)
  refine a_join hd (Q := fun J : HS → Option (Int32 × HS) => ∀  (h5 : HS), J  h5 = some q → AW SHm ad 1 (some (.int q.1), q.2) Γ 24 [(0, .ref (ad 0))] [] h5) (fun  h5 hd => ?_) (fun J4 hJ4 hd => ?_)
  · refine a_aload_n (pc := 24) hG 0 rfl dX12_behind_24 rfl ?_
    refine a_aload_n (pc := 25) hG 0 rfl dX12_behind_25 rfl ?_
    refine a_ldc2_w (pc := 26) hG t_1589 dX12_behind_26 ?_
    refine a_cvI (pc := 29) hG (As := [.long (6385252 : Int64)]) (st := [.ref (ad 0)]) sm_0 cl_X12 mk_X12_isWord t_1772 (by omega) (fun z hz => c_M_isWord (6385252 : Int64) _  z hz) rfl (Nat.le_of_ble_eq_true rfl) hd dX12_behind_29 (fun r7 h6 hd => ?_)
    refine a_join hd (Q := fun J : Int32 → HS → Option (Int32 × HS) => ∀ (v9 : Int32) (h10 : HS), J v9 h10 = some q → AW SHm ad 1 (some (.int q.1), q.2) Γ 42 [(0, .ref (ad 0))] [.int v9, .ref (ad 0)] h10) (fun v9 h10 hd => ?_) (fun J8 hJ8 hd => ?_)
    · refine a_cvN (pc := 42) hG (As := [.int v9]) (st := []) sm_0 cl_X12 mk_X12_joins t_2137 (by omega) (fun z hz => c_M_joins F v9 _  z hz) rfl (Nat.le_of_ble_eq_true rfl) hd dX12_behind_42 (fun _ h11 hd => ?_)
      refine a_aload_n (pc := 45) hG 0 rfl dX12_behind_45 rfl ?_
      refine a_getR (pc := 46) hG sm_0 cl_X12 ok_X12 35 (by decide) rfl t_1644 dX12_behind_46 ?_
      refine a_aload_n (pc := 49) hG 0 rfl dX12_behind_49 rfl ?_
      refine a_getI (pc := 50) hG sm_0 cl_X12 ok_X12 38 (by decide) rfl t_1647 dX12_behind_50 ?_
      refine a_aload_n (pc := 53) hG 0 rfl dX12_behind_53 rfl ?_
      refine a_ldc2_w (pc := 54) hG t_1589 dX12_behind_54 ?_
      refine a_cvI (pc := 57) hG (As := [.long (6385252 : Int64)]) (st := [.int (h11.1 0 38), .ref (ad 14)]) sm_0 cl_X12 mk_X12_isWord t_1772 (by omega) (fun z hz => c_M_isWord (6385252 : Int64) _  z hz) rfl (Nat.le_of_ble_eq_true rfl) hd dX12_behind_57 (fun r13 h12 hd => ?_)
      refine a_join hd (Q := fun J : Int32 → HS → Option (Int32 × HS) => ∀ (v15 : Int32) (h16 : HS), J v15 h16 = some q → AW SHm ad 1 (some (.int q.1), q.2) Γ 70 [(0, .ref (ad 0))] [.int v15, .int (h11.1 0 38), .ref (ad 14)] h16) (fun v15 h16 hd => ?_) (fun J14 hJ14 hd => ?_)
      · refine a_iast (pc := 70) hG sm_14 hd dX12_behind_70 (fun h17 hd => ?_)
        refine a_aload_n (pc := 71) hG 0 rfl dX12_behind_71 rfl ?_
        refine a_dup (pc := 72) hG dX12_behind_72 rfl ?_
        refine a_getI (pc := 73) hG sm_0 cl_X12 ok_X12 38 (by decide) rfl t_1647 dX12_behind_73 ?_
        refine a_iconst (pc := 76) hG dX12_behind_76 (v := (nI 1)) rfl ?_
        refine a_iadd (pc := 77) hG dX12_behind_77 ?_
        refine a_putI (pc := 78) hG sm_0 cl_X12 ok_X12 38 (by decide) rfl t_1647 rfl (ty := .int) rfl rfl rfl hd dX12_behind_78 (fun h18 hd => ?_)
        refine a_aload_n (pc := 81) hG 0 rfl dX12_behind_81 rfl ?_
        refine a_iconst (pc := 82) hG dX12_behind_82 (v := (nI 0)) rfl ?_
        refine a_putI (pc := 83) hG sm_0 cl_X12 ok_X12 40 (by decide) rfl t_1649 rfl (ty := .boolean) rfl rfl rfl hd dX12_behind_83 (fun h19 hd => ?_)
        refine a_aload_n (pc := 86) hG 0 rfl dX12_behind_86 rfl ?_
        refine a_cvN (pc := 87) hG (As := []) (st := []) sm_0 cl_X12 mk_X12_next t_1754 (by omega) (fun z hz => c_M_next F  _  z hz) rfl (Nat.le_of_ble_eq_true rfl) hd dX12_behind_87 (fun _ h20 hd => ?_)
        refine a_iconst (pc := 90) hG dX12_behind_90 (v := (nI 1)) rfl ?_
        exact a_zret (pc := 91) hG hd dX12_behind_91
      refine a_if_eq (pc := 60) hG (tgt := 68) hd dX12_behind_60 (by decide) (fun hd => ?_) (fun hd => ?_)
      · refine a_bipush (pc := 68) hG dX12_behind_68 (v := (nI 22)) rfl ?_
        exact AW.sub [0] rfl (hJ14 _ _ hd)
      refine a_bipush (pc := 63) hG dX12_behind_63 (v := (nI 21)) rfl ?_
      refine a_goto (pc := 65) hG (tgt := 70) dX12_behind_65 (by decide) ?_
      exact AW.sub [0] rfl (hJ14 _ _ hd)
    refine a_if_eq (pc := 32) hG (tgt := 40) hd dX12_behind_32 (by decide) (fun hd => ?_) (fun hd => ?_)
    · refine a_bipush (pc := 40) hG dX12_behind_40 (v := (nI 22)) rfl ?_
      exact AW.sub [0] rfl (hJ8 _ _ hd)
    refine a_bipush (pc := 35) hG dX12_behind_35 (v := (nI 21)) rfl ?_
    refine a_goto (pc := 37) hG (tgt := 42) dX12_behind_37 (by decide) ?_
    exact AW.sub [0] rfl (hJ8 _ _ hd)
  refine a_if_ne (pc := 11) hG (tgt := 24) hd dX12_behind_11 (by decide) (fun hd => ?_) (fun hd => ?_)
  · exact AW.sub [0] rfl (hJ4  _ hd)
  refine a_aload_n (pc := 14) hG 0 rfl dX12_behind_14 rfl ?_
  refine a_ldc2_w (pc := 15) hG t_1588 dX12_behind_15 ?_
  refine a_cvI (pc := 18) hG (As := [.long (28530 : Int64)]) (st := []) sm_0 cl_X12 mk_X12_isWord t_1772 (by omega) (fun z hz => c_M_isWord (28530 : Int64) _  z hz) rfl (Nat.le_of_ble_eq_true rfl) hd dX12_behind_18 (fun r22 h21 hd => ?_)
  refine a_if_eq (pc := 21) hG (tgt := 92) hd dX12_behind_21 (by decide) (fun hd => ?_) (fun hd => ?_)
  · refine a_aload_n (pc := 92) hG 0 rfl dX12_behind_92 rfl ?_
    refine a_bipush (pc := 93) hG dX12_behind_93 (v := (nI 22)) rfl ?_
    refine a_cvN (pc := 95) hG (As := [.int (nI 22)]) (st := []) sm_0 cl_X12 mk_X12_joins t_2137 (by omega) (fun z hz => c_M_joins F (nI 22) _  z hz) rfl (Nat.le_of_ble_eq_true rfl) hd dX12_behind_95 (fun _ h23 hd => ?_)
    refine a_aload_n (pc := 98) hG 0 rfl dX12_behind_98 rfl ?_
    refine a_bipush (pc := 99) hG dX12_behind_99 (v := (nI 41)) rfl ?_
    refine a_cvI (pc := 101) hG (As := [.int (nI 41)]) (st := []) sm_0 cl_X12 mk_X12_isSign t_1818 (by omega) (fun z hz => c_M_isSign (nI 41) _  z hz) rfl (Nat.le_of_ble_eq_true rfl) hd dX12_behind_101 (fun r25 h24 hd => ?_)
    refine a_join hd (Q := fun J : HS → Option (Int32 × HS) => ∀  (h27 : HS), J  h27 = some q → AW SHm ad 1 (some (.int q.1), q.2) Γ 114 [(0, .ref (ad 0))] [] h27) (fun  h27 hd => ?_) (fun J26 hJ26 hd => ?_)
    · refine a_aload_n (pc := 114) hG 0 rfl dX12_behind_114 rfl ?_
      refine a_iconst (pc := 115) hG dX12_behind_115 (v := (nI 1)) rfl ?_
      refine a_cvI (pc := 116) hG (As := [.int (nI 1)]) (st := []) sm_0 cl_X12 mk_X12_bad t_1783 (by omega) (fun z hz => c_M_bad (nI 1) _  z hz) rfl (Nat.le_of_ble_eq_true rfl) hd dX12_behind_116 (fun r29 h28 hd => ?_)
      exact a_zret (pc := 119) hG hd dX12_behind_119
    refine a_if_eq (pc := 104) hG (tgt := 114) hd dX12_behind_104 (by decide) (fun hd => ?_) (fun hd => ?_)
    · exact AW.sub [0] rfl (hJ26  _ hd)
    refine a_aload_n (pc := 107) hG 0 rfl dX12_behind_107 rfl ?_
    refine a_getI (pc := 108) hG sm_0 cl_X12 ok_X12 38 (by decide) rfl t_1647 dX12_behind_108 ?_
    refine a_if_ne (pc := 111) hG (tgt := 120) hd dX12_behind_111 (by decide) (fun hd => ?_) (fun hd => ?_)
    · refine a_aload_n (pc := 120) hG 0 rfl dX12_behind_120 rfl ?_
      refine a_dup (pc := 121) hG dX12_behind_121 rfl ?_
      refine a_getI (pc := 122) hG sm_0 cl_X12 ok_X12 38 (by decide) rfl t_1647 dX12_behind_122 ?_
      refine a_iconst (pc := 125) hG dX12_behind_125 (v := (nI 1)) rfl ?_
      refine a_isub (pc := 126) hG dX12_behind_126 ?_
      refine a_putI (pc := 127) hG sm_0 cl_X12 ok_X12 38 (by decide) rfl t_1647 rfl (ty := .int) rfl rfl rfl hd dX12_behind_127 (fun h30 hd => ?_)
      refine a_aload_n (pc := 130) hG 0 rfl dX12_behind_130 rfl ?_
      refine a_dup (pc := 131) hG dX12_behind_131 rfl ?_
      refine a_getI (pc := 132) hG sm_0 cl_X12 ok_X12 39 (by decide) rfl t_1648 dX12_behind_132 ?_
      refine a_iconst (pc := 135) hG dX12_behind_135 (v := (nI 1)) rfl ?_
      refine a_isub (pc := 136) hG dX12_behind_136 ?_
      refine a_putI (pc := 137) hG sm_0 cl_X12 ok_X12 39 (by decide) rfl t_1648 rfl (ty := .int) rfl rfl rfl hd dX12_behind_137 (fun h31 hd => ?_)
      refine a_aload_n (pc := 140) hG 0 rfl dX12_behind_140 rfl ?_
      refine a_cvN (pc := 141) hG (As := []) (st := []) sm_0 cl_X12 mk_X12_next t_1754 (by omega) (fun z hz => c_M_next F  _  z hz) rfl (Nat.le_of_ble_eq_true rfl) hd dX12_behind_141 (fun _ h32 hd => ?_)
      refine a_iconst (pc := 144) hG dX12_behind_144 (v := (nI 1)) rfl ?_
      exact a_zret (pc := 145) hG hd dX12_behind_145
    exact AW.sub [0] rfl (hJ26  _ hd)
  exact AW.sub [0] rfl (hJ4  _ hd)
theorem dX12_sentence_0 : decode cX12_sentence 0 = .ok (.aload_n 0, 1) := by decide +kernel
theorem dX12_sentence_1 : decode cX12_sentence 1 = .ok (.iconst 0, 1) := by decide +kernel
theorem dX12_sentence_2 : decode cX12_sentence 2 = .ok (.putfield 1, 3) := by decide +kernel
theorem dX12_sentence_5 : decode cX12_sentence 5 = .ok (.aload_n 0, 1) := by decide +kernel
theorem dX12_sentence_6 : decode cX12_sentence 6 = .ok (.sipush 200, 3) := by decide +kernel
theorem dX12_sentence_9 : decode cX12_sentence 9 = .ok (.invokevirtual 225, 3) := by decide +kernel
theorem dX12_sentence_12 : decode cX12_sentence 12 = .ok (.aload_n 0, 1) := by decide +kernel
theorem dX12_sentence_13 : decode cX12_sentence 13 = .ok (.iconst 0, 1) := by decide +kernel
theorem dX12_sentence_14 : decode cX12_sentence 14 = .ok (.putfield 169, 3) := by decide +kernel
theorem dX12_sentence_17 : decode cX12_sentence 17 = .ok (.aload_n 0, 1) := by decide +kernel
theorem dX12_sentence_18 : decode cX12_sentence 18 = .ok (.iconst 0, 1) := by decide +kernel
theorem dX12_sentence_19 : decode cX12_sentence 19 = .ok (.putfield 391, 3) := by decide +kernel
theorem dX12_sentence_22 : decode cX12_sentence 22 = .ok (.aload_n 0, 1) := by decide +kernel
theorem dX12_sentence_23 : decode cX12_sentence 23 = .ok (.iconst 0, 1) := by decide +kernel
theorem dX12_sentence_24 : decode cX12_sentence 24 = .ok (.putfield 407, 3) := by decide +kernel
theorem dX12_sentence_27 : decode cX12_sentence 27 = .ok (.aload_n 0, 1) := by decide +kernel
theorem dX12_sentence_28 : decode cX12_sentence 28 = .ok (.iconst 0, 1) := by decide +kernel
theorem dX12_sentence_29 : decode cX12_sentence 29 = .ok (.putfield 394, 3) := by decide +kernel
theorem dX12_sentence_32 : decode cX12_sentence 32 = .ok (.aload_n 0, 1) := by decide +kernel
theorem dX12_sentence_33 : decode cX12_sentence 33 = .ok (.iconst 1, 1) := by decide +kernel
theorem dX12_sentence_34 : decode cX12_sentence 34 = .ok (.putfield 401, 3) := by decide +kernel
theorem dX12_sentence_37 : decode cX12_sentence 37 = .ok (.aload_n 0, 1) := by decide +kernel
theorem dX12_sentence_38 : decode cX12_sentence 38 = .ok (.iconst 0, 1) := by decide +kernel
theorem dX12_sentence_39 : decode cX12_sentence 39 = .ok (.putfield 410, 3) := by decide +kernel
theorem dX12_sentence_42 : decode cX12_sentence 42 = .ok (.aload_n 0, 1) := by decide +kernel
theorem dX12_sentence_43 : decode cX12_sentence 43 = .ok (.invokevirtual 181, 3) := by decide +kernel
theorem dX12_sentence_46 : decode cX12_sentence 46 = .ok (.iconst 1, 1) := by decide +kernel
theorem dX12_sentence_47 : decode cX12_sentence 47 = .ok (.istore_n 1, 1) := by decide +kernel
theorem dX12_sentence_48 : decode cX12_sentence 48 = .ok (.iload_n 1, 1) := by decide +kernel
theorem dX12_sentence_49 : decode cX12_sentence 49 = .ok (.ifCond .eq 83, 3) := by decide +kernel
theorem dX12_sentence_52 : decode cX12_sentence 52 = .ok (.aload_n 0, 1) := by decide +kernel
theorem dX12_sentence_53 : decode cX12_sentence 53 = .ok (.getfield 410, 3) := by decide +kernel
theorem dX12_sentence_56 : decode cX12_sentence 56 = .ok (.ifCond .eq 45, 3) := by decide +kernel
theorem dX12_sentence_59 : decode cX12_sentence 59 = .ok (.aload_n 0, 1) := by decide +kernel
theorem dX12_sentence_60 : decode cX12_sentence 60 = .ok (.getfield 152, 3) := by decide +kernel
theorem dX12_sentence_63 : decode cX12_sentence 63 = .ok (.ifCond .ne 38, 3) := by decide +kernel
theorem dX12_sentence_66 : decode cX12_sentence 66 = .ok (.aload_n 0, 1) := by decide +kernel
theorem dX12_sentence_67 : decode cX12_sentence 67 = .ok (.invokevirtual 413, 3) := by decide +kernel
theorem dX12_sentence_70 : decode cX12_sentence 70 = .ok (.aload_n 0, 1) := by decide +kernel
theorem dX12_sentence_71 : decode cX12_sentence 71 = .ok (.bipush 22, 2) := by decide +kernel
theorem dX12_sentence_73 : decode cX12_sentence 73 = .ok (.invokevirtual 416, 3) := by decide +kernel
theorem dX12_sentence_76 : decode cX12_sentence 76 = .ok (.aload_n 0, 1) := by decide +kernel
theorem dX12_sentence_77 : decode cX12_sentence 77 = .ok (.getfield 394, 3) := by decide +kernel
theorem dX12_sentence_80 : decode cX12_sentence 80 = .ok (.ifCond .le 16, 3) := by decide +kernel
theorem dX12_sentence_83 : decode cX12_sentence 83 = .ok (.aload_n 0, 1) := by decide +kernel
theorem dX12_sentence_84 : decode cX12_sentence 84 = .ok (.iconst 1, 1) := by decide +kernel
theorem dX12_sentence_85 : decode cX12_sentence 85 = .ok (.invokevirtual 178, 3) := by decide +kernel
theorem dX12_sentence_88 : decode cX12_sentence 88 = .ok (.pop, 1) := by decide +kernel
theorem dX12_sentence_89 : decode cX12_sentence 89 = .ok (.iconst (-1), 1) := by decide +kernel
theorem dX12_sentence_90 : decode cX12_sentence 90 = .ok (.aload_n 0, 1) := by decide +kernel
theorem dX12_sentence_91 : decode cX12_sentence 91 = .ok (.getfield 172, 3) := by decide +kernel
theorem dX12_sentence_94 : decode cX12_sentence 94 = .ok (.isub, 1) := by decide +kernel
theorem dX12_sentence_95 : decode cX12_sentence 95 = .ok (.ireturn, 1) := by decide +kernel
theorem dX12_sentence_96 : decode cX12_sentence 96 = .ok (.iconst 0, 1) := by decide +kernel
theorem dX12_sentence_97 : decode cX12_sentence 97 = .ok (.istore_n 1, 1) := by decide +kernel
theorem dX12_sentence_98 : decode cX12_sentence 98 = .ok (.goto (-50), 3) := by decide +kernel
theorem dX12_sentence_101 : decode cX12_sentence 101 = .ok (.aload_n 0, 1) := by decide +kernel
theorem dX12_sentence_102 : decode cX12_sentence 102 = .ok (.getfield 410, 3) := by decide +kernel
theorem dX12_sentence_105 : decode cX12_sentence 105 = .ok (.ifCond .eq 13, 3) := by decide +kernel
theorem dX12_sentence_108 : decode cX12_sentence 108 = .ok (.aload_n 0, 1) := by decide +kernel
theorem dX12_sentence_109 : decode cX12_sentence 109 = .ok (.invokevirtual 419, 3) := by decide +kernel
theorem dX12_sentence_112 : decode cX12_sentence 112 = .ok (.ifCond .ne (-64), 3) := by decide +kernel
theorem dX12_sentence_115 : decode cX12_sentence 115 = .ok (.goto 10, 3) := by decide +kernel
theorem dX12_sentence_118 : decode cX12_sentence 118 = .ok (.aload_n 0, 1) := by decide +kernel
theorem dX12_sentence_119 : decode cX12_sentence 119 = .ok (.invokevirtual 422, 3) := by decide +kernel
theorem dX12_sentence_122 : decode cX12_sentence 122 = .ok (.ifCond .ne (-74), 3) := by decide +kernel
theorem dX12_sentence_125 : decode cX12_sentence 125 = .ok (.iconst (-1), 1) := by decide +kernel
theorem dX12_sentence_126 : decode cX12_sentence 126 = .ok (.aload_n 0, 1) := by decide +kernel
theorem dX12_sentence_127 : decode cX12_sentence 127 = .ok (.getfield 172, 3) := by decide +kernel
theorem dX12_sentence_130 : decode cX12_sentence 130 = .ok (.isub, 1) := by decide +kernel
theorem dX12_sentence_131 : decode cX12_sentence 131 = .ok (.ireturn, 1) := by decide +kernel
theorem dX12_sentence_132 : decode cX12_sentence 132 = .ok (.aload_n 0, 1) := by decide +kernel
theorem dX12_sentence_133 : decode cX12_sentence 133 = .ok (.getfield 33, 3) := by decide +kernel
theorem dX12_sentence_136 : decode cX12_sentence 136 = .ok (.sipush 151, 3) := by decide +kernel
theorem dX12_sentence_139 : decode cX12_sentence 139 = .ok (.aload_n 0, 1) := by decide +kernel
theorem dX12_sentence_140 : decode cX12_sentence 140 = .ok (.getfield 391, 3) := by decide +kernel
theorem dX12_sentence_143 : decode cX12_sentence 143 = .ok (.iastore, 1) := by decide +kernel
theorem dX12_sentence_144 : decode cX12_sentence 144 = .ok (.iconst 0, 1) := by decide +kernel
theorem dX12_sentence_145 : decode cX12_sentence 145 = .ok (.istore_n 2, 1) := by decide +kernel
theorem dX12_sentence_146 : decode cX12_sentence 146 = .ok (.iload_n 2, 1) := by decide +kernel
theorem dX12_sentence_147 : decode cX12_sentence 147 = .ok (.iconst 3, 1) := by decide +kernel
theorem dX12_sentence_148 : decode cX12_sentence 148 = .ok (.aload_n 0, 1) := by decide +kernel
theorem dX12_sentence_149 : decode cX12_sentence 149 = .ok (.getfield 391, 3) := by decide +kernel
theorem dX12_sentence_152 : decode cX12_sentence 152 = .ok (.imul, 1) := by decide +kernel
theorem dX12_sentence_153 : decode cX12_sentence 153 = .ok (.if_icmp .ge 25, 3) := by decide +kernel
theorem dX12_sentence_156 : decode cX12_sentence 156 = .ok (.aload_n 0, 1) := by decide +kernel
theorem dX12_sentence_157 : decode cX12_sentence 157 = .ok (.getfield 33, 3) := by decide +kernel
theorem dX12_sentence_160 : decode cX12_sentence 160 = .ok (.sipush 152, 3) := by decide +kernel
theorem dX12_sentence_163 : decode cX12_sentence 163 = .ok (.iload_n 2, 1) := by decide +kernel
theorem dX12_sentence_164 : decode cX12_sentence 164 = .ok (.iadd, 1) := by decide +kernel
theorem dX12_sentence_165 : decode cX12_sentence 165 = .ok (.aload_n 0, 1) := by decide +kernel
theorem dX12_sentence_166 : decode cX12_sentence 166 = .ok (.getfield 40, 3) := by decide +kernel
theorem dX12_sentence_169 : decode cX12_sentence 169 = .ok (.iload_n 2, 1) := by decide +kernel
theorem dX12_sentence_170 : decode cX12_sentence 170 = .ok (.iaload, 1) := by decide +kernel
theorem dX12_sentence_171 : decode cX12_sentence 171 = .ok (.iastore, 1) := by decide +kernel
theorem dX12_sentence_172 : decode cX12_sentence 172 = .ok (.iinc 2 1, 3) := by decide +kernel
theorem dX12_sentence_175 : decode cX12_sentence 175 = .ok (.goto (-29), 3) := by decide +kernel
theorem dX12_sentence_178 : decode cX12_sentence 178 = .ok (.aload_n 0, 1) := by decide +kernel
theorem dX12_sentence_179 : decode cX12_sentence 179 = .ok (.getfield 407, 3) := by decide +kernel
theorem dX12_sentence_182 : decode cX12_sentence 182 = .ok (.ireturn, 1) := by decide +kernel
set_option maxHeartbeats 4000000 in
theorem w_l_M_sentence_0 {ad wad : Nat → Nat} {Γ : Ctx} (F : Nat) {n : Nat} (hn : 4 ≤ n) (hG : Cx SHm ad wad cX12_sentence 3 RX12 (some .int) (n) Γ) {q : Int32 × HS} {K0 : HS → Option (Int32 × HS)} {K1 : HS → Option (Int32 × HS)} {K2 : HS → Option (Int32 × HS)} {g : Nat} {x1 : Int32} {h : HS} (hd : l_M_sentence_0 F K0 K1 K2 g x1 h = some q) (hK0 : ∀ (z : HS), K0 z = some q → AW SHm ad 3 (some (.int q.1), q.2) Γ 132 [(0, .ref (ad 0))] [] z) (hK1 : ∀ (z : HS), K1 z = some q → AW SHm ad 3 (some (.int q.1), q.2) Γ 115 [(0, .ref (ad 0))] [] z) (hK2 : ∀ (z : HS), K2 z = some q → AW SHm ad 3 (some (.int q.1), q.2) Γ 83 [(0, .ref (ad 0))] [] z) : AW SHm ad 3 (some (.int q.1), q.2) Γ 48 [(0, .ref (ad 0)), (1, .int x1)] [] h := by
  induction g generalizing x1 h with
  | zero => unfold l_M_sentence_0 at hd; cases hd
  | succ g ih =>
    unfold l_M_sentence_0 at hd
    refine a_iload_n (pc := 48) hG 1 rfl dX12_sentence_48 rfl ?_
    refine a_if_eq (pc := 49) hG (tgt := 132) hd dX12_sentence_49 (by decide) (fun hd => ?_) (fun hd => ?_)
    · exact AW.sub [0] rfl (hK0  _ hd)
    refine a_aload_n (pc := 52) hG 0 rfl dX12_sentence_52 rfl ?_
    refine a_getI (pc := 53) hG sm_0 cl_X12 ok_X12 40 (by decide) rfl t_1649 dX12_sentence_53 ?_
    refine a_join hd (Q := fun J : HS → Option (Int32 × HS) => ∀  (h12 : HS), J  h12 = some q → AW SHm ad 3 (some (.int q.1), q.2) Γ 101 [(0, .ref (ad 0)), (1, .int x1)] [] h12) (fun  h12 hd => ?_) (fun J11 hJ11 hd => ?_)
    · refine a_aload_n (pc := 101) hG 0 rfl dX12_sentence_101 rfl ?_
      refine a_getI (pc := 102) hG sm_0 cl_X12 ok_X12 40 (by decide) rfl t_1649 dX12_sentence_102 ?_
      refine a_if_eq (pc := 105) hG (tgt := 118) hd dX12_sentence_105 (by decide) (fun hd => ?_) (fun hd => ?_)
      · refine a_aload_n (pc := 118) hG 0 rfl dX12_sentence_118 rfl ?_
        refine a_cvI (pc := 119) hG (As := []) (st := []) sm_0 cl_X12 mk_X12_operand t_2145 (by omega) (fun z hz => c_M_operand F  _  z hz) rfl (Nat.le_of_ble_eq_true rfl) hd dX12_sentence_119 (fun r14 h13 hd => ?_)
        refine a_if_ne (pc := 122) hG (tgt := 48) hd dX12_sentence_122 (by decide) (fun hd => ?_) (fun hd => ?_)
        · exact AW.sub [0, 1] rfl (ih hd)
        refine a_iconst (pc := 125) hG dX12_sentence_125 (v := (-1 : Int32)) rfl ?_
        refine a_aload_n (pc := 126) hG 0 rfl dX12_sentence_126 rfl ?_
        refine a_getI (pc := 127) hG sm_0 cl_X12 ok_X12 16 (by decide) rfl t_1625 dX12_sentence_127 ?_
        refine a_isub (pc := 130) hG dX12_sentence_130 ?_
        exact a_iret (pc := 131) hG hd dX12_sentence_131
      refine a_aload_n (pc := 108) hG 0 rfl dX12_sentence_108 rfl ?_
      refine a_cvI (pc := 109) hG (As := []) (st := []) sm_0 cl_X12 mk_X12_behind t_2141 (by omega) (fun z hz => c_M_behind F  _  z hz) rfl (Nat.le_of_ble_eq_true rfl) hd dX12_sentence_109 (fun r16 h15 hd => ?_)
      refine a_if_ne (pc := 112) hG (tgt := 48) hd dX12_sentence_112 (by decide) (fun hd => ?_) (fun hd => ?_)
      · exact AW.sub [0, 1] rfl (ih hd)
      exact AW.sub [0] rfl (hK1  _ hd)
    refine a_if_eq (pc := 56) hG (tgt := 101) hd dX12_sentence_56 (by decide) (fun hd => ?_) (fun hd => ?_)
    · exact AW.sub [0, 1] rfl (hJ11  _ hd)
    refine a_aload_n (pc := 59) hG 0 rfl dX12_sentence_59 rfl ?_
    refine a_getI (pc := 60) hG sm_0 cl_X12 ok_X12 11 (by decide) rfl t_1620 dX12_sentence_60 ?_
    refine a_if_ne (pc := 63) hG (tgt := 101) hd dX12_sentence_63 (by decide) (fun hd => ?_) (fun hd => ?_)
    · exact AW.sub [0, 1] rfl (hJ11  _ hd)
    refine a_aload_n (pc := 66) hG 0 rfl dX12_sentence_66 rfl ?_
    refine a_cvN (pc := 67) hG (As := []) (st := []) sm_0 cl_X12 mk_X12_nots t_2129 (by omega) (fun z hz => c_M_nots F  _  z hz) rfl (Nat.le_of_ble_eq_true rfl) hd dX12_sentence_67 (fun _ h17 hd => ?_)
    refine a_aload_n (pc := 70) hG 0 rfl dX12_sentence_70 rfl ?_
    refine a_bipush (pc := 71) hG dX12_sentence_71 (v := (nI 22)) rfl ?_
    refine a_cvN (pc := 73) hG (As := [.int (nI 22)]) (st := []) sm_0 cl_X12 mk_X12_joins t_2137 (by omega) (fun z hz => c_M_joins F (nI 22) _  z hz) rfl (Nat.le_of_ble_eq_true rfl) hd dX12_sentence_73 (fun _ h18 hd => ?_)
    refine a_aload_n (pc := 76) hG 0 rfl dX12_sentence_76 rfl ?_
    refine a_getI (pc := 77) hG sm_0 cl_X12 ok_X12 38 (by decide) rfl t_1647 dX12_sentence_77 ?_
    refine a_if_le (pc := 80) hG (tgt := 96) hd dX12_sentence_80 (by decide) (fun hd => ?_) (fun hd => ?_)
    · refine a_iconst (pc := 96) hG dX12_sentence_96 (v := (nI 0)) rfl ?_
      refine a_istore_nN (pc := 97) hG hd dX12_sentence_97 rfl (by decide) (lf := fun x => [(1, .int x), (0, .ref (ad 0))]) (fun _ => rfl) (fun v19 hd => ?_)
      refine a_goto (pc := 98) hG (tgt := 48) dX12_sentence_98 (by decide) ?_
      exact AW.sub [1, 0] rfl (ih hd)
    exact AW.sub [0] rfl (hK2  _ hd)
set_option maxHeartbeats 4000000 in
theorem w_l_M_sentence_1 {ad wad : Nat → Nat} {Γ : Ctx} (F : Nat) {n : Nat} (hn : 4 ≤ n) (hG : Cx SHm ad wad cX12_sentence 3 RX12 (some .int) (n) Γ) {q : Int32 × HS} {g : Nat} {x2 : Int32} {h : HS} (hd : l_M_sentence_1 F g x2 h = some q) : AW SHm ad 3 (some (.int q.1), q.2) Γ 146 [(0, .ref (ad 0)), (2, .int x2)] [] h := by
  induction g generalizing x2 h with
  | zero => unfold l_M_sentence_1 at hd; cases hd
  | succ g ih =>
    unfold l_M_sentence_1 at hd
    refine a_iload_n (pc := 146) hG 1 rfl dX12_sentence_146 rfl ?_
    refine a_iconst (pc := 147) hG dX12_sentence_147 (v := (nI 3)) rfl ?_
    refine a_aload_n (pc := 148) hG 0 rfl dX12_sentence_148 rfl ?_
    refine a_getI (pc := 149) hG sm_0 cl_X12 ok_X12 36 (by decide) rfl t_1645 dX12_sentence_149 ?_
    refine a_imul (pc := 152) hG dX12_sentence_152 ?_
    refine a_ic_ge (pc := 153) hG (tgt := 178) hd dX12_sentence_153 (by decide) (fun hd => ?_) (fun hd => ?_)
    · refine a_aload_n (pc := 178) hG 0 rfl dX12_sentence_178 rfl ?_
      refine a_getI (pc := 179) hG sm_0 cl_X12 ok_X12 37 (by decide) rfl t_1646 dX12_sentence_179 ?_
      exact a_iret (pc := 182) hG hd dX12_sentence_182
    refine a_aload_n (pc := 156) hG 0 rfl dX12_sentence_156 rfl ?_
    refine a_getR (pc := 157) hG sm_0 cl_X12 ok_X12 6 (by decide) rfl t_1615 dX12_sentence_157 ?_
    refine a_sipush (pc := 160) hG dX12_sentence_160 (v := (nI 152)) rfl ?_
    refine a_iload_n (pc := 163) hG 1 rfl dX12_sentence_163 rfl ?_
    refine a_iadd (pc := 164) hG dX12_sentence_164 ?_
    refine a_aload_n (pc := 165) hG 0 rfl dX12_sentence_165 rfl ?_
    refine a_getR (pc := 166) hG sm_0 cl_X12 ok_X12 8 (by decide) rfl t_1617 dX12_sentence_166 ?_
    refine a_iload_n (pc := 169) hG 1 rfl dX12_sentence_169 rfl ?_
    refine a_iald (pc := 170) hG sm_4 hd dX12_sentence_170 (fun hd => ?_)
    refine a_iast (pc := 171) hG sm_2 hd dX12_sentence_171 (fun h23 hd => ?_)
    refine a_iincN (pc := 172) hG (c0 := (nI 1)) 1 rfl hd dX12_sentence_172 rfl (by decide) (lf := fun x => [(2, .int x), (0, .ref (ad 0))]) (fun _ => rfl) (fun v24 hd => ?_)
    refine a_goto (pc := 175) hG (tgt := 146) dX12_sentence_175 (by decide) ?_
    exact AW.sub [1, 0] rfl (ih hd)
set_option maxHeartbeats 4000000 in
theorem c_M_sentence {ad wad : Nat → Nat} (F : Nat)  (h : HS)  (q : Int32 × HS) (hd : f_M_sentence F  h = some q) : Ctr SHm ad wad yX12_sentence cX12_sentence 3 (some .int) 4 [.ref (ad 0)] h (some (.int q.1), q.2) := by
  refine enter (own := RX12) (lv := [(0, .ref (ad 0))]) (by decide +kernel) rfl (Nat.le_of_ble_eq_true rfl) rfl (fun Γ hG => ?_)
  unfold f_M_sentence at hd
  refine a_aload_n (pc := 0) hG 0 rfl dX12_sentence_0 rfl ?_
  refine a_iconst (pc := 1) hG dX12_sentence_1 (v := (nI 0)) rfl ?_
  refine a_putI (pc := 2) hG sm_0 cl_X12 ok_X12 0 (by decide) rfl t_1609 rfl (ty := .int) rfl rfl rfl hd dX12_sentence_2 (fun h1 hd => ?_)
  refine a_aload_n (pc := 5) hG 0 rfl dX12_sentence_5 rfl ?_
  refine a_sipush (pc := 6) hG dX12_sentence_6 (v := (nI 200)) rfl ?_
  refine a_cvN (pc := 9) hG (As := [.int (nI 200)]) (st := []) sm_0 cl_X12 mk_X12_taken t_1750 (by omega) (fun z hz => c_M_taken (nI 200) _  z hz) rfl (Nat.le_of_ble_eq_true rfl) hd dX12_sentence_9 (fun _ h2 hd => ?_)
  refine a_aload_n (pc := 12) hG 0 rfl dX12_sentence_12 rfl ?_
  refine a_iconst (pc := 13) hG dX12_sentence_13 (v := (nI 0)) rfl ?_
  refine a_putI (pc := 14) hG sm_0 cl_X12 ok_X12 15 (by decide) rfl t_1624 rfl (ty := .int) rfl rfl rfl hd dX12_sentence_14 (fun h3 hd => ?_)
  refine a_aload_n (pc := 17) hG 0 rfl dX12_sentence_17 rfl ?_
  refine a_iconst (pc := 18) hG dX12_sentence_18 (v := (nI 0)) rfl ?_
  refine a_putI (pc := 19) hG sm_0 cl_X12 ok_X12 36 (by decide) rfl t_1645 rfl (ty := .int) rfl rfl rfl hd dX12_sentence_19 (fun h4 hd => ?_)
  refine a_aload_n (pc := 22) hG 0 rfl dX12_sentence_22 rfl ?_
  refine a_iconst (pc := 23) hG dX12_sentence_23 (v := (nI 0)) rfl ?_
  refine a_putI (pc := 24) hG sm_0 cl_X12 ok_X12 37 (by decide) rfl t_1646 rfl (ty := .int) rfl rfl rfl hd dX12_sentence_24 (fun h5 hd => ?_)
  refine a_aload_n (pc := 27) hG 0 rfl dX12_sentence_27 rfl ?_
  refine a_iconst (pc := 28) hG dX12_sentence_28 (v := (nI 0)) rfl ?_
  refine a_putI (pc := 29) hG sm_0 cl_X12 ok_X12 38 (by decide) rfl t_1647 rfl (ty := .int) rfl rfl rfl hd dX12_sentence_29 (fun h6 hd => ?_)
  refine a_aload_n (pc := 32) hG 0 rfl dX12_sentence_32 rfl ?_
  refine a_iconst (pc := 33) hG dX12_sentence_33 (v := (nI 1)) rfl ?_
  refine a_putI (pc := 34) hG sm_0 cl_X12 ok_X12 39 (by decide) rfl t_1648 rfl (ty := .int) rfl rfl rfl hd dX12_sentence_34 (fun h7 hd => ?_)
  refine a_aload_n (pc := 37) hG 0 rfl dX12_sentence_37 rfl ?_
  refine a_iconst (pc := 38) hG dX12_sentence_38 (v := (nI 0)) rfl ?_
  refine a_putI (pc := 39) hG sm_0 cl_X12 ok_X12 40 (by decide) rfl t_1649 rfl (ty := .boolean) rfl rfl rfl hd dX12_sentence_39 (fun h8 hd => ?_)
  refine a_aload_n (pc := 42) hG 0 rfl dX12_sentence_42 rfl ?_
  refine a_cvN (pc := 43) hG (As := []) (st := []) sm_0 cl_X12 mk_X12_next t_1754 (by omega) (fun z hz => c_M_next F  _  z hz) rfl (Nat.le_of_ble_eq_true rfl) hd dX12_sentence_43 (fun _ h9 hd => ?_)
  refine a_iconst (pc := 46) hG dX12_sentence_46 (v := (nI 1)) rfl ?_
  refine a_istore_nN (pc := 47) hG hd dX12_sentence_47 rfl (by decide) (lf := fun x => [(1, .int x), (0, .ref (ad 0))]) (fun _ => rfl) (fun v10 hd => ?_)
  refine AW.sub [1, 0] rfl ?_
  refine w_l_M_sentence_0 F (by omega) hG hd (fun h20 hd => ?_) (fun h25 hd => ?_) (fun h26 hd => ?_)
  · refine a_aload_n (pc := 132) hG 0 rfl dX12_sentence_132 rfl ?_
    refine a_getR (pc := 133) hG sm_0 cl_X12 ok_X12 6 (by decide) rfl t_1615 dX12_sentence_133 ?_
    refine a_sipush (pc := 136) hG dX12_sentence_136 (v := (nI 151)) rfl ?_
    refine a_aload_n (pc := 139) hG 0 rfl dX12_sentence_139 rfl ?_
    refine a_getI (pc := 140) hG sm_0 cl_X12 ok_X12 36 (by decide) rfl t_1645 dX12_sentence_140 ?_
    refine a_iast (pc := 143) hG sm_2 hd dX12_sentence_143 (fun h21 hd => ?_)
    refine a_iconst (pc := 144) hG dX12_sentence_144 (v := (nI 0)) rfl ?_
    refine a_istore_nN (pc := 145) hG hd dX12_sentence_145 rfl (by decide) (lf := fun x => [(2, .int x), (0, .ref (ad 0))]) (fun _ => rfl) (fun v22 hd => ?_)
    refine AW.sub [1, 0] rfl ?_
    exact w_l_M_sentence_1 F (by omega) hG hd
  · refine a_goto (pc := 115) hG (tgt := 125) dX12_sentence_115 (by decide) ?_
    refine a_iconst (pc := 125) hG dX12_sentence_125 (v := (-1 : Int32)) rfl ?_
    refine a_aload_n (pc := 126) hG 0 rfl dX12_sentence_126 rfl ?_
    refine a_getI (pc := 127) hG sm_0 cl_X12 ok_X12 16 (by decide) rfl t_1625 dX12_sentence_127 ?_
    refine a_isub (pc := 130) hG dX12_sentence_130 ?_
    exact a_iret (pc := 131) hG hd dX12_sentence_131
  · refine a_aload_n (pc := 83) hG 0 rfl dX12_sentence_83 rfl ?_
    refine a_iconst (pc := 84) hG dX12_sentence_84 (v := (nI 1)) rfl ?_
    refine a_cvI (pc := 85) hG (As := [.int (nI 1)]) (st := []) sm_0 cl_X12 mk_X12_bad t_1783 (by omega) (fun z hz => c_M_bad (nI 1) _  z hz) rfl (Nat.le_of_ble_eq_true rfl) hd dX12_sentence_85 (fun r28 h27 hd => ?_)
    refine a_pop (pc := 88) hG dX12_sentence_88 rfl ?_
    refine a_iconst (pc := 89) hG dX12_sentence_89 (v := (-1 : Int32)) rfl ?_
    refine a_aload_n (pc := 90) hG 0 rfl dX12_sentence_90 rfl ?_
    refine a_getI (pc := 91) hG sm_0 cl_X12 ok_X12 16 (by decide) rfl t_1625 dX12_sentence_91 ?_
    refine a_isub (pc := 94) hG dX12_sentence_94 ?_
    exact a_iret (pc := 95) hG hd dX12_sentence_95
theorem dX12_isLeaf_0 : decode cX12_isLeaf 0 = .ok (.iload_n 2, 1) := by decide +kernel
theorem dX12_isLeaf_1 : decode cX12_isLeaf 1 = .ok (.iconst 5, 1) := by decide +kernel
theorem dX12_isLeaf_2 : decode cX12_isLeaf 2 = .ok (.if_icmp .ge 22, 3) := by decide +kernel
theorem dX12_isLeaf_5 : decode cX12_isLeaf 5 = .ok (.aload_n 0, 1) := by decide +kernel
theorem dX12_isLeaf_6 : decode cX12_isLeaf 6 = .ok (.getfield 33, 3) := by decide +kernel
theorem dX12_isLeaf_9 : decode cX12_isLeaf 9 = .ok (.bipush 96, 2) := by decide +kernel
theorem dX12_isLeaf_11 : decode cX12_isLeaf 11 = .ok (.iload_n 1, 1) := by decide +kernel
theorem dX12_isLeaf_12 : decode cX12_isLeaf 12 = .ok (.iadd, 1) := by decide +kernel
theorem dX12_isLeaf_13 : decode cX12_isLeaf 13 = .ok (.iaload, 1) := by decide +kernel
theorem dX12_isLeaf_14 : decode cX12_isLeaf 14 = .ok (.iload_n 2, 1) := by decide +kernel
theorem dX12_isLeaf_15 : decode cX12_isLeaf 15 = .ok (.if_icmp .ne 7, 3) := by decide +kernel
theorem dX12_isLeaf_18 : decode cX12_isLeaf 18 = .ok (.iconst 1, 1) := by decide +kernel
theorem dX12_isLeaf_19 : decode cX12_isLeaf 19 = .ok (.goto 4, 3) := by decide +kernel
theorem dX12_isLeaf_22 : decode cX12_isLeaf 22 = .ok (.iconst 0, 1) := by decide +kernel
theorem dX12_isLeaf_23 : decode cX12_isLeaf 23 = .ok (.ireturn, 1) := by decide +kernel
theorem dX12_isLeaf_24 : decode cX12_isLeaf 24 = .ok (.iload_n 2, 1) := by decide +kernel
theorem dX12_isLeaf_25 : decode cX12_isLeaf 25 = .ok (.iconst 5, 1) := by decide +kernel
theorem dX12_isLeaf_26 : decode cX12_isLeaf 26 = .ok (.if_icmp .ne 18, 3) := by decide +kernel
theorem dX12_isLeaf_29 : decode cX12_isLeaf 29 = .ok (.aload_n 0, 1) := by decide +kernel
theorem dX12_isLeaf_30 : decode cX12_isLeaf 30 = .ok (.getfield 33, 3) := by decide +kernel
theorem dX12_isLeaf_33 : decode cX12_isLeaf 33 = .ok (.bipush 108, 2) := by decide +kernel
theorem dX12_isLeaf_35 : decode cX12_isLeaf 35 = .ok (.iload_n 1, 1) := by decide +kernel
theorem dX12_isLeaf_36 : decode cX12_isLeaf 36 = .ok (.iadd, 1) := by decide +kernel
theorem dX12_isLeaf_37 : decode cX12_isLeaf 37 = .ok (.iaload, 1) := by decide +kernel
theorem dX12_isLeaf_38 : decode cX12_isLeaf 38 = .ok (.iload 4, 2) := by decide +kernel
theorem dX12_isLeaf_40 : decode cX12_isLeaf 40 = .ok (.invokestatic 206, 3) := by decide +kernel
theorem dX12_isLeaf_43 : decode cX12_isLeaf 43 = .ok (.ireturn, 1) := by decide +kernel
theorem dX12_isLeaf_44 : decode cX12_isLeaf 44 = .ok (.iload_n 2, 1) := by decide +kernel
theorem dX12_isLeaf_45 : decode cX12_isLeaf 45 = .ok (.bipush 6, 2) := by decide +kernel
theorem dX12_isLeaf_47 : decode cX12_isLeaf 47 = .ok (.if_icmp .ne 12, 3) := by decide +kernel
theorem dX12_isLeaf_50 : decode cX12_isLeaf 50 = .ok (.aload_n 0, 1) := by decide +kernel
theorem dX12_isLeaf_51 : decode cX12_isLeaf 51 = .ok (.iload_n 1, 1) := by decide +kernel
theorem dX12_isLeaf_52 : decode cX12_isLeaf 52 = .ok (.iconst 0, 1) := by decide +kernel
theorem dX12_isLeaf_53 : decode cX12_isLeaf 53 = .ok (.invokevirtual 252, 3) := by decide +kernel
theorem dX12_isLeaf_56 : decode cX12_isLeaf 56 = .ok (.goto 40, 3) := by decide +kernel
theorem dX12_isLeaf_59 : decode cX12_isLeaf 59 = .ok (.iload_n 2, 1) := by decide +kernel
theorem dX12_isLeaf_60 : decode cX12_isLeaf 60 = .ok (.bipush 7, 2) := by decide +kernel
theorem dX12_isLeaf_62 : decode cX12_isLeaf 62 = .ok (.if_icmp .ne 15, 3) := by decide +kernel
theorem dX12_isLeaf_65 : decode cX12_isLeaf 65 = .ok (.aload_n 0, 1) := by decide +kernel
theorem dX12_isLeaf_66 : decode cX12_isLeaf 66 = .ok (.getfield 33, 3) := by decide +kernel
theorem dX12_isLeaf_69 : decode cX12_isLeaf 69 = .ok (.bipush 19, 2) := by decide +kernel
theorem dX12_isLeaf_71 : decode cX12_isLeaf 71 = .ok (.iload_n 1, 1) := by decide +kernel
theorem dX12_isLeaf_72 : decode cX12_isLeaf 72 = .ok (.iadd, 1) := by decide +kernel
theorem dX12_isLeaf_73 : decode cX12_isLeaf 73 = .ok (.iaload, 1) := by decide +kernel
theorem dX12_isLeaf_74 : decode cX12_isLeaf 74 = .ok (.goto 22, 3) := by decide +kernel
theorem dX12_isLeaf_77 : decode cX12_isLeaf 77 = .ok (.iload_n 2, 1) := by decide +kernel
theorem dX12_isLeaf_78 : decode cX12_isLeaf 78 = .ok (.bipush 8, 2) := by decide +kernel
theorem dX12_isLeaf_80 : decode cX12_isLeaf 80 = .ok (.if_icmp .ne 15, 3) := by decide +kernel
theorem dX12_isLeaf_83 : decode cX12_isLeaf 83 = .ok (.aload_n 0, 1) := by decide +kernel
theorem dX12_isLeaf_84 : decode cX12_isLeaf 84 = .ok (.getfield 33, 3) := by decide +kernel
theorem dX12_isLeaf_87 : decode cX12_isLeaf 87 = .ok (.bipush 90, 2) := by decide +kernel
theorem dX12_isLeaf_89 : decode cX12_isLeaf 89 = .ok (.iload_n 1, 1) := by decide +kernel
theorem dX12_isLeaf_90 : decode cX12_isLeaf 90 = .ok (.iadd, 1) := by decide +kernel
theorem dX12_isLeaf_91 : decode cX12_isLeaf 91 = .ok (.iaload, 1) := by decide +kernel
theorem dX12_isLeaf_92 : decode cX12_isLeaf 92 = .ok (.goto 4, 3) := by decide +kernel
theorem dX12_isLeaf_95 : decode cX12_isLeaf 95 = .ok (.iload_n 1, 1) := by decide +kernel
theorem dX12_isLeaf_96 : decode cX12_isLeaf 96 = .ok (.istore 5, 2) := by decide +kernel
theorem dX12_isLeaf_98 : decode cX12_isLeaf 98 = .ok (.iload_n 3, 1) := by decide +kernel
theorem dX12_isLeaf_99 : decode cX12_isLeaf 99 = .ok (.bipush 60, 2) := by decide +kernel
theorem dX12_isLeaf_101 : decode cX12_isLeaf 101 = .ok (.if_icmp .ne 18, 3) := by decide +kernel
theorem dX12_isLeaf_104 : decode cX12_isLeaf 104 = .ok (.iload 5, 2) := by decide +kernel
theorem dX12_isLeaf_106 : decode cX12_isLeaf 106 = .ok (.iload 4, 2) := by decide +kernel
theorem dX12_isLeaf_108 : decode cX12_isLeaf 108 = .ok (.if_icmp .ge 7, 3) := by decide +kernel
theorem dX12_isLeaf_111 : decode cX12_isLeaf 111 = .ok (.iconst 1, 1) := by decide +kernel
theorem dX12_isLeaf_112 : decode cX12_isLeaf 112 = .ok (.goto 40, 3) := by decide +kernel
theorem dX12_isLeaf_115 : decode cX12_isLeaf 115 = .ok (.iconst 0, 1) := by decide +kernel
theorem dX12_isLeaf_116 : decode cX12_isLeaf 116 = .ok (.goto 36, 3) := by decide +kernel
theorem dX12_isLeaf_119 : decode cX12_isLeaf 119 = .ok (.iload_n 3, 1) := by decide +kernel
theorem dX12_isLeaf_120 : decode cX12_isLeaf 120 = .ok (.bipush 61, 2) := by decide +kernel
theorem dX12_isLeaf_122 : decode cX12_isLeaf 122 = .ok (.if_icmp .ne 18, 3) := by decide +kernel
theorem dX12_isLeaf_125 : decode cX12_isLeaf 125 = .ok (.iload 5, 2) := by decide +kernel
theorem dX12_isLeaf_127 : decode cX12_isLeaf 127 = .ok (.iload 4, 2) := by decide +kernel
theorem dX12_isLeaf_129 : decode cX12_isLeaf 129 = .ok (.if_icmp .ne 7, 3) := by decide +kernel
theorem dX12_isLeaf_132 : decode cX12_isLeaf 132 = .ok (.iconst 1, 1) := by decide +kernel
theorem dX12_isLeaf_133 : decode cX12_isLeaf 133 = .ok (.goto 19, 3) := by decide +kernel
theorem dX12_isLeaf_136 : decode cX12_isLeaf 136 = .ok (.iconst 0, 1) := by decide +kernel
theorem dX12_isLeaf_137 : decode cX12_isLeaf 137 = .ok (.goto 15, 3) := by decide +kernel
theorem dX12_isLeaf_140 : decode cX12_isLeaf 140 = .ok (.iload 5, 2) := by decide +kernel
theorem dX12_isLeaf_142 : decode cX12_isLeaf 142 = .ok (.iload 4, 2) := by decide +kernel
theorem dX12_isLeaf_144 : decode cX12_isLeaf 144 = .ok (.if_icmp .le 7, 3) := by decide +kernel
theorem dX12_isLeaf_147 : decode cX12_isLeaf 147 = .ok (.iconst 1, 1) := by decide +kernel
theorem dX12_isLeaf_148 : decode cX12_isLeaf 148 = .ok (.goto 4, 3) := by decide +kernel
theorem dX12_isLeaf_151 : decode cX12_isLeaf 151 = .ok (.iconst 0, 1) := by decide +kernel
theorem dX12_isLeaf_152 : decode cX12_isLeaf 152 = .ok (.ireturn, 1) := by decide +kernel
set_option maxHeartbeats 4000000 in
theorem c_M_isLeaf {ad wad : Nat → Nat} (F : Nat) (a0 : Int32) (a1 : Int32) (a2 : Int32) (a3 : Int32) (h : HS)  (q : Int32 × HS) (hd : f_M_isLeaf F a0 a1 a2 a3 h = some q) : Ctr SHm ad wad yX12_isLeaf cX12_isLeaf 6 (some .boolean) 6 [.ref (ad 0), .int a0, .int a1, .int a2, .int a3] h (some (.int q.1), q.2) := by
  refine enter (own := RX12) (lv := [(0, .ref (ad 0)), (1, .int a0), (2, .int a1), (3, .int a2), (4, .int a3)]) (by decide +kernel) rfl (Nat.le_of_ble_eq_true rfl) rfl (fun Γ hG => ?_)
  unfold f_M_isLeaf at hd
  refine a_iload_n (pc := 0) hG 2 rfl dX12_isLeaf_0 rfl ?_
  refine a_iconst (pc := 1) hG dX12_isLeaf_1 (v := (nI 5)) rfl ?_
  refine a_ic_ge (pc := 2) hG (tgt := 24) hd dX12_isLeaf_2 (by decide) (fun hd => ?_) (fun hd => ?_)
  · refine a_iload_n (pc := 24) hG 2 rfl dX12_isLeaf_24 rfl ?_
    refine a_iconst (pc := 25) hG dX12_isLeaf_25 (v := (nI 5)) rfl ?_
    refine a_ic_ne (pc := 26) hG (tgt := 44) hd dX12_isLeaf_26 (by decide) (fun hd => ?_) (fun hd => ?_)
    · refine a_iload_n (pc := 44) hG 2 rfl dX12_isLeaf_44 rfl ?_
      refine a_bipush (pc := 45) hG dX12_isLeaf_45 (v := (nI 6)) rfl ?_
      refine a_join hd (Q := fun J : Int32 → HS → Option (Int32 × HS) => ∀ (v2 : Int32) (h3 : HS), J v2 h3 = some q → AW SHm ad 6 (some (.int q.1), q.2) Γ 96 [(3, .int a2), (4, .int a3)] [.int v2] h3) (fun v2 h3 hd => ?_) (fun J1 hJ1 hd => ?_)
      · refine a_istoreN (pc := 96) hG hd dX12_isLeaf_96 (by decide) (lf := fun x => [(5, .int x), (3, .int a2), (4, .int a3)]) (fun _ => rfl) (fun v4 hd => ?_)
        refine a_iload_n (pc := 98) hG 1 rfl dX12_isLeaf_98 rfl ?_
        refine a_bipush (pc := 99) hG dX12_isLeaf_99 (v := (nI 60)) rfl ?_
        refine a_ic_ne (pc := 101) hG (tgt := 119) hd dX12_isLeaf_101 (by decide) (fun hd => ?_) (fun hd => ?_)
        · refine a_iload_n (pc := 119) hG 1 rfl dX12_isLeaf_119 rfl ?_
          refine a_bipush (pc := 120) hG dX12_isLeaf_120 (v := (nI 61)) rfl ?_
          refine a_ic_ne (pc := 122) hG (tgt := 140) hd dX12_isLeaf_122 (by decide) (fun hd => ?_) (fun hd => ?_)
          · refine a_iload (pc := 140) hG 0 rfl dX12_isLeaf_140 ?_
            refine a_iload (pc := 142) hG 2 rfl dX12_isLeaf_142 ?_
            refine a_ic_le (pc := 144) hG (tgt := 151) hd dX12_isLeaf_144 (by decide) (fun hd => ?_) (fun hd => ?_)
            · refine a_iconst (pc := 151) hG dX12_isLeaf_151 (v := (nI 0)) rfl ?_
              exact a_zret (pc := 152) hG hd dX12_isLeaf_152
            refine a_iconst (pc := 147) hG dX12_isLeaf_147 (v := (nI 1)) rfl ?_
            refine a_goto (pc := 148) hG (tgt := 152) dX12_isLeaf_148 (by decide) ?_
            exact a_zret (pc := 152) hG hd dX12_isLeaf_152
          refine a_iload (pc := 125) hG 0 rfl dX12_isLeaf_125 ?_
          refine a_iload (pc := 127) hG 2 rfl dX12_isLeaf_127 ?_
          refine a_ic_ne (pc := 129) hG (tgt := 136) hd dX12_isLeaf_129 (by decide) (fun hd => ?_) (fun hd => ?_)
          · refine a_iconst (pc := 136) hG dX12_isLeaf_136 (v := (nI 0)) rfl ?_
            refine a_goto (pc := 137) hG (tgt := 152) dX12_isLeaf_137 (by decide) ?_
            exact a_zret (pc := 152) hG hd dX12_isLeaf_152
          refine a_iconst (pc := 132) hG dX12_isLeaf_132 (v := (nI 1)) rfl ?_
          refine a_goto (pc := 133) hG (tgt := 152) dX12_isLeaf_133 (by decide) ?_
          exact a_zret (pc := 152) hG hd dX12_isLeaf_152
        refine a_iload (pc := 104) hG 0 rfl dX12_isLeaf_104 ?_
        refine a_iload (pc := 106) hG 2 rfl dX12_isLeaf_106 ?_
        refine a_ic_ge (pc := 108) hG (tgt := 115) hd dX12_isLeaf_108 (by decide) (fun hd => ?_) (fun hd => ?_)
        · refine a_iconst (pc := 115) hG dX12_isLeaf_115 (v := (nI 0)) rfl ?_
          refine a_goto (pc := 116) hG (tgt := 152) dX12_isLeaf_116 (by decide) ?_
          exact a_zret (pc := 152) hG hd dX12_isLeaf_152
        refine a_iconst (pc := 111) hG dX12_isLeaf_111 (v := (nI 1)) rfl ?_
        refine a_goto (pc := 112) hG (tgt := 152) dX12_isLeaf_112 (by decide) ?_
        exact a_zret (pc := 152) hG hd dX12_isLeaf_152
      refine a_ic_ne (pc := 47) hG (tgt := 59) hd dX12_isLeaf_47 (by decide) (fun hd => ?_) (fun hd => ?_)
      · refine a_iload_n (pc := 59) hG 2 rfl dX12_isLeaf_59 rfl ?_
        refine a_bipush (pc := 60) hG dX12_isLeaf_60 (v := (nI 7)) rfl ?_
        refine a_ic_ne (pc := 62) hG (tgt := 77) hd dX12_isLeaf_62 (by decide) (fun hd => ?_) (fun hd => ?_)
        · refine a_iload_n (pc := 77) hG 2 rfl dX12_isLeaf_77 rfl ?_
          refine a_bipush (pc := 78) hG dX12_isLeaf_78 (v := (nI 8)) rfl ?_
          refine a_ic_ne (pc := 80) hG (tgt := 95) hd dX12_isLeaf_80 (by decide) (fun hd => ?_) (fun hd => ?_)
          · refine a_iload_n (pc := 95) hG 1 rfl dX12_isLeaf_95 rfl ?_
            exact AW.sub [3, 4] rfl (hJ1 _ _ hd)
          refine a_aload_n (pc := 83) hG 0 rfl dX12_isLeaf_83 rfl ?_
          refine a_getR (pc := 84) hG sm_0 cl_X12 ok_X12 6 (by decide) rfl t_1615 dX12_isLeaf_84 ?_
          refine a_bipush (pc := 87) hG dX12_isLeaf_87 (v := (nI 90)) rfl ?_
          refine a_iload_n (pc := 89) hG 1 rfl dX12_isLeaf_89 rfl ?_
          refine a_iadd (pc := 90) hG dX12_isLeaf_90 ?_
          refine a_iald (pc := 91) hG sm_2 hd dX12_isLeaf_91 (fun hd => ?_)
          refine a_goto (pc := 92) hG (tgt := 96) dX12_isLeaf_92 (by decide) ?_
          exact AW.sub [3, 4] rfl (hJ1 _ _ hd)
        refine a_aload_n (pc := 65) hG 0 rfl dX12_isLeaf_65 rfl ?_
        refine a_getR (pc := 66) hG sm_0 cl_X12 ok_X12 6 (by decide) rfl t_1615 dX12_isLeaf_66 ?_
        refine a_bipush (pc := 69) hG dX12_isLeaf_69 (v := (nI 19)) rfl ?_
        refine a_iload_n (pc := 71) hG 1 rfl dX12_isLeaf_71 rfl ?_
        refine a_iadd (pc := 72) hG dX12_isLeaf_72 ?_
        refine a_iald (pc := 73) hG sm_2 hd dX12_isLeaf_73 (fun hd => ?_)
        refine a_goto (pc := 74) hG (tgt := 96) dX12_isLeaf_74 (by decide) ?_
        exact AW.sub [3, 4] rfl (hJ1 _ _ hd)
      refine a_aload_n (pc := 50) hG 0 rfl dX12_isLeaf_50 rfl ?_
      refine a_iload_n (pc := 51) hG 1 rfl dX12_isLeaf_51 rfl ?_
      refine a_iconst (pc := 52) hG dX12_isLeaf_52 (v := (nI 0)) rfl ?_
      refine a_cvI (pc := 53) hG (As := [.int a0, .int (nI 0)]) (st := []) sm_0 cl_X12 mk_X12_nearOf t_1838 (by omega) (fun z hz => c_M_nearOf F a0 (nI 0) _  z hz) rfl (Nat.le_of_ble_eq_true rfl) hd dX12_isLeaf_53 (fun r6 h5 hd => ?_)
      refine a_goto (pc := 56) hG (tgt := 96) dX12_isLeaf_56 (by decide) ?_
      exact AW.sub [3, 4] rfl (hJ1 _ _ hd)
    refine a_aload_n (pc := 29) hG 0 rfl dX12_isLeaf_29 rfl ?_
    refine a_getR (pc := 30) hG sm_0 cl_X12 ok_X12 6 (by decide) rfl t_1615 dX12_isLeaf_30 ?_
    refine a_bipush (pc := 33) hG dX12_isLeaf_33 (v := (nI 108)) rfl ?_
    refine a_iload_n (pc := 35) hG 1 rfl dX12_isLeaf_35 rfl ?_
    refine a_iadd (pc := 36) hG dX12_isLeaf_36 ?_
    refine a_iald (pc := 37) hG sm_2 hd dX12_isLeaf_37 (fun hd => ?_)
    refine a_iload (pc := 38) hG 4 rfl dX12_isLeaf_38 ?_
    refine a_csI (pc := 40) hG (As := [.int (h.1 2 ((nI 108) + a0).toNatClampNeg), .int a3]) (st := []) mk_X12_bitOf t_1780 (by omega) (fun z hz => c_M_bitOf (h.1 2 ((nI 108) + a0).toNatClampNeg) a3 _  z hz) rfl (Nat.le_of_ble_eq_true rfl) hd dX12_isLeaf_40 (fun r8 h7 hd => ?_)
    exact a_zret (pc := 43) hG hd dX12_isLeaf_43
  refine a_aload_n (pc := 5) hG 0 rfl dX12_isLeaf_5 rfl ?_
  refine a_getR (pc := 6) hG sm_0 cl_X12 ok_X12 6 (by decide) rfl t_1615 dX12_isLeaf_6 ?_
  refine a_bipush (pc := 9) hG dX12_isLeaf_9 (v := (nI 96)) rfl ?_
  refine a_iload_n (pc := 11) hG 1 rfl dX12_isLeaf_11 rfl ?_
  refine a_iadd (pc := 12) hG dX12_isLeaf_12 ?_
  refine a_iald (pc := 13) hG sm_2 hd dX12_isLeaf_13 (fun hd => ?_)
  refine a_iload_n (pc := 14) hG 2 rfl dX12_isLeaf_14 rfl ?_
  refine a_ic_ne (pc := 15) hG (tgt := 22) hd dX12_isLeaf_15 (by decide) (fun hd => ?_) (fun hd => ?_)
  · refine a_iconst (pc := 22) hG dX12_isLeaf_22 (v := (nI 0)) rfl ?_
    exact a_zret (pc := 23) hG hd dX12_isLeaf_23
  refine a_iconst (pc := 18) hG dX12_isLeaf_18 (v := (nI 1)) rfl ?_
  refine a_goto (pc := 19) hG (tgt := 23) dX12_isLeaf_19 (by decide) ?_
  exact a_zret (pc := 23) hG hd dX12_isLeaf_23
theorem dX12_isSaid_0 : decode cX12_isSaid 0 = .ok (.iconst 0, 1) := by decide +kernel
theorem dX12_isSaid_1 : decode cX12_isSaid 1 = .ok (.istore_n 2, 1) := by decide +kernel
theorem dX12_isSaid_2 : decode cX12_isSaid 2 = .ok (.iconst 0, 1) := by decide +kernel
theorem dX12_isSaid_3 : decode cX12_isSaid 3 = .ok (.istore_n 3, 1) := by decide +kernel
theorem dX12_isSaid_4 : decode cX12_isSaid 4 = .ok (.iload_n 3, 1) := by decide +kernel
theorem dX12_isSaid_5 : decode cX12_isSaid 5 = .ok (.aload_n 0, 1) := by decide +kernel
theorem dX12_isSaid_6 : decode cX12_isSaid 6 = .ok (.getfield 33, 3) := by decide +kernel
theorem dX12_isSaid_9 : decode cX12_isSaid 9 = .ok (.sipush 151, 3) := by decide +kernel
theorem dX12_isSaid_12 : decode cX12_isSaid 12 = .ok (.iaload, 1) := by decide +kernel
theorem dX12_isSaid_13 : decode cX12_isSaid 13 = .ok (.if_icmp .ge 199, 3) := by decide +kernel
theorem dX12_isSaid_16 : decode cX12_isSaid 16 = .ok (.sipush 152, 3) := by decide +kernel
theorem dX12_isSaid_19 : decode cX12_isSaid 19 = .ok (.iconst 3, 1) := by decide +kernel
theorem dX12_isSaid_20 : decode cX12_isSaid 20 = .ok (.iload_n 3, 1) := by decide +kernel
theorem dX12_isSaid_21 : decode cX12_isSaid 21 = .ok (.imul, 1) := by decide +kernel
theorem dX12_isSaid_22 : decode cX12_isSaid 22 = .ok (.iadd, 1) := by decide +kernel
theorem dX12_isSaid_23 : decode cX12_isSaid 23 = .ok (.istore 4, 2) := by decide +kernel
theorem dX12_isSaid_25 : decode cX12_isSaid 25 = .ok (.aload_n 0, 1) := by decide +kernel
theorem dX12_isSaid_26 : decode cX12_isSaid 26 = .ok (.getfield 33, 3) := by decide +kernel
theorem dX12_isSaid_29 : decode cX12_isSaid 29 = .ok (.iload 4, 2) := by decide +kernel
theorem dX12_isSaid_31 : decode cX12_isSaid 31 = .ok (.iaload, 1) := by decide +kernel
theorem dX12_isSaid_32 : decode cX12_isSaid 32 = .ok (.bipush 20, 2) := by decide +kernel
theorem dX12_isSaid_34 : decode cX12_isSaid 34 = .ok (.if_icmp .ne 30, 3) := by decide +kernel
theorem dX12_isSaid_37 : decode cX12_isSaid 37 = .ok (.aload_n 0, 1) := by decide +kernel
theorem dX12_isSaid_38 : decode cX12_isSaid 38 = .ok (.getfield 77, 3) := by decide +kernel
theorem dX12_isSaid_41 : decode cX12_isSaid 41 = .ok (.iload_n 2, 1) := by decide +kernel
theorem dX12_isSaid_42 : decode cX12_isSaid 42 = .ok (.iconst 1, 1) := by decide +kernel
theorem dX12_isSaid_43 : decode cX12_isSaid 43 = .ok (.isub, 1) := by decide +kernel
theorem dX12_isSaid_44 : decode cX12_isSaid 44 = .ok (.aload_n 0, 1) := by decide +kernel
theorem dX12_isSaid_45 : decode cX12_isSaid 45 = .ok (.getfield 77, 3) := by decide +kernel
theorem dX12_isSaid_48 : decode cX12_isSaid 48 = .ok (.iload_n 2, 1) := by decide +kernel
theorem dX12_isSaid_49 : decode cX12_isSaid 49 = .ok (.iconst 1, 1) := by decide +kernel
theorem dX12_isSaid_50 : decode cX12_isSaid 50 = .ok (.isub, 1) := by decide +kernel
theorem dX12_isSaid_51 : decode cX12_isSaid 51 = .ok (.baload, 1) := by decide +kernel
theorem dX12_isSaid_52 : decode cX12_isSaid 52 = .ok (.ifCond .ne 7, 3) := by decide +kernel
theorem dX12_isSaid_55 : decode cX12_isSaid 55 = .ok (.iconst 1, 1) := by decide +kernel
theorem dX12_isSaid_56 : decode cX12_isSaid 56 = .ok (.goto 4, 3) := by decide +kernel
theorem dX12_isSaid_59 : decode cX12_isSaid 59 = .ok (.iconst 0, 1) := by decide +kernel
theorem dX12_isSaid_60 : decode cX12_isSaid 60 = .ok (.bastore, 1) := by decide +kernel
theorem dX12_isSaid_61 : decode cX12_isSaid 61 = .ok (.goto 145, 3) := by decide +kernel
theorem dX12_isSaid_64 : decode cX12_isSaid 64 = .ok (.aload_n 0, 1) := by decide +kernel
theorem dX12_isSaid_65 : decode cX12_isSaid 65 = .ok (.getfield 33, 3) := by decide +kernel
theorem dX12_isSaid_68 : decode cX12_isSaid 68 = .ok (.iload 4, 2) := by decide +kernel
theorem dX12_isSaid_70 : decode cX12_isSaid 70 = .ok (.iaload, 1) := by decide +kernel
theorem dX12_isSaid_71 : decode cX12_isSaid 71 = .ok (.bipush 21, 2) := by decide +kernel
theorem dX12_isSaid_73 : decode cX12_isSaid 73 = .ok (.if_icmp .eq 15, 3) := by decide +kernel
theorem dX12_isSaid_76 : decode cX12_isSaid 76 = .ok (.aload_n 0, 1) := by decide +kernel
theorem dX12_isSaid_77 : decode cX12_isSaid 77 = .ok (.getfield 33, 3) := by decide +kernel
theorem dX12_isSaid_80 : decode cX12_isSaid 80 = .ok (.iload 4, 2) := by decide +kernel
theorem dX12_isSaid_82 : decode cX12_isSaid 82 = .ok (.iaload, 1) := by decide +kernel
theorem dX12_isSaid_83 : decode cX12_isSaid 83 = .ok (.bipush 22, 2) := by decide +kernel
theorem dX12_isSaid_85 : decode cX12_isSaid 85 = .ok (.if_icmp .ne 82, 3) := by decide +kernel
theorem dX12_isSaid_88 : decode cX12_isSaid 88 = .ok (.iinc 2 (-1), 3) := by decide +kernel
theorem dX12_isSaid_91 : decode cX12_isSaid 91 = .ok (.aload_n 0, 1) := by decide +kernel
theorem dX12_isSaid_92 : decode cX12_isSaid 92 = .ok (.getfield 77, 3) := by decide +kernel
theorem dX12_isSaid_95 : decode cX12_isSaid 95 = .ok (.iload_n 2, 1) := by decide +kernel
theorem dX12_isSaid_96 : decode cX12_isSaid 96 = .ok (.iconst 1, 1) := by decide +kernel
theorem dX12_isSaid_97 : decode cX12_isSaid 97 = .ok (.isub, 1) := by decide +kernel
theorem dX12_isSaid_98 : decode cX12_isSaid 98 = .ok (.aload_n 0, 1) := by decide +kernel
theorem dX12_isSaid_99 : decode cX12_isSaid 99 = .ok (.getfield 33, 3) := by decide +kernel
theorem dX12_isSaid_102 : decode cX12_isSaid 102 = .ok (.iload 4, 2) := by decide +kernel
theorem dX12_isSaid_104 : decode cX12_isSaid 104 = .ok (.iaload, 1) := by decide +kernel
theorem dX12_isSaid_105 : decode cX12_isSaid 105 = .ok (.bipush 21, 2) := by decide +kernel
theorem dX12_isSaid_107 : decode cX12_isSaid 107 = .ok (.if_icmp .ne 31, 3) := by decide +kernel
theorem dX12_isSaid_110 : decode cX12_isSaid 110 = .ok (.aload_n 0, 1) := by decide +kernel
theorem dX12_isSaid_111 : decode cX12_isSaid 111 = .ok (.getfield 77, 3) := by decide +kernel
theorem dX12_isSaid_114 : decode cX12_isSaid 114 = .ok (.iload_n 2, 1) := by decide +kernel
theorem dX12_isSaid_115 : decode cX12_isSaid 115 = .ok (.iconst 1, 1) := by decide +kernel
theorem dX12_isSaid_116 : decode cX12_isSaid 116 = .ok (.isub, 1) := by decide +kernel
theorem dX12_isSaid_117 : decode cX12_isSaid 117 = .ok (.baload, 1) := by decide +kernel
theorem dX12_isSaid_118 : decode cX12_isSaid 118 = .ok (.ifCond .eq 16, 3) := by decide +kernel
theorem dX12_isSaid_121 : decode cX12_isSaid 121 = .ok (.aload_n 0, 1) := by decide +kernel
theorem dX12_isSaid_122 : decode cX12_isSaid 122 = .ok (.getfield 77, 3) := by decide +kernel
theorem dX12_isSaid_125 : decode cX12_isSaid 125 = .ok (.iload_n 2, 1) := by decide +kernel
theorem dX12_isSaid_126 : decode cX12_isSaid 126 = .ok (.baload, 1) := by decide +kernel
theorem dX12_isSaid_127 : decode cX12_isSaid 127 = .ok (.ifCond .eq 7, 3) := by decide +kernel
theorem dX12_isSaid_130 : decode cX12_isSaid 130 = .ok (.iconst 1, 1) := by decide +kernel
theorem dX12_isSaid_131 : decode cX12_isSaid 131 = .ok (.goto 32, 3) := by decide +kernel
theorem dX12_isSaid_134 : decode cX12_isSaid 134 = .ok (.iconst 0, 1) := by decide +kernel
theorem dX12_isSaid_135 : decode cX12_isSaid 135 = .ok (.goto 28, 3) := by decide +kernel
theorem dX12_isSaid_138 : decode cX12_isSaid 138 = .ok (.aload_n 0, 1) := by decide +kernel
theorem dX12_isSaid_139 : decode cX12_isSaid 139 = .ok (.getfield 77, 3) := by decide +kernel
theorem dX12_isSaid_142 : decode cX12_isSaid 142 = .ok (.iload_n 2, 1) := by decide +kernel
theorem dX12_isSaid_143 : decode cX12_isSaid 143 = .ok (.iconst 1, 1) := by decide +kernel
theorem dX12_isSaid_144 : decode cX12_isSaid 144 = .ok (.isub, 1) := by decide +kernel
theorem dX12_isSaid_145 : decode cX12_isSaid 145 = .ok (.baload, 1) := by decide +kernel
theorem dX12_isSaid_146 : decode cX12_isSaid 146 = .ok (.ifCond .ne 12, 3) := by decide +kernel
theorem dX12_isSaid_149 : decode cX12_isSaid 149 = .ok (.aload_n 0, 1) := by decide +kernel
theorem dX12_isSaid_150 : decode cX12_isSaid 150 = .ok (.getfield 77, 3) := by decide +kernel
theorem dX12_isSaid_153 : decode cX12_isSaid 153 = .ok (.iload_n 2, 1) := by decide +kernel
theorem dX12_isSaid_154 : decode cX12_isSaid 154 = .ok (.baload, 1) := by decide +kernel
theorem dX12_isSaid_155 : decode cX12_isSaid 155 = .ok (.ifCond .eq 7, 3) := by decide +kernel
theorem dX12_isSaid_158 : decode cX12_isSaid 158 = .ok (.iconst 1, 1) := by decide +kernel
theorem dX12_isSaid_159 : decode cX12_isSaid 159 = .ok (.goto 4, 3) := by decide +kernel
theorem dX12_isSaid_162 : decode cX12_isSaid 162 = .ok (.iconst 0, 1) := by decide +kernel
theorem dX12_isSaid_163 : decode cX12_isSaid 163 = .ok (.bastore, 1) := by decide +kernel
theorem dX12_isSaid_164 : decode cX12_isSaid 164 = .ok (.goto 42, 3) := by decide +kernel
theorem dX12_isSaid_167 : decode cX12_isSaid 167 = .ok (.aload_n 0, 1) := by decide +kernel
theorem dX12_isSaid_168 : decode cX12_isSaid 168 = .ok (.getfield 77, 3) := by decide +kernel
theorem dX12_isSaid_171 : decode cX12_isSaid 171 = .ok (.iload_n 2, 1) := by decide +kernel
theorem dX12_isSaid_172 : decode cX12_isSaid 172 = .ok (.aload_n 0, 1) := by decide +kernel
theorem dX12_isSaid_173 : decode cX12_isSaid 173 = .ok (.iload_n 1, 1) := by decide +kernel
theorem dX12_isSaid_174 : decode cX12_isSaid 174 = .ok (.aload_n 0, 1) := by decide +kernel
theorem dX12_isSaid_175 : decode cX12_isSaid 175 = .ok (.getfield 33, 3) := by decide +kernel
theorem dX12_isSaid_178 : decode cX12_isSaid 178 = .ok (.iload 4, 2) := by decide +kernel
theorem dX12_isSaid_180 : decode cX12_isSaid 180 = .ok (.iaload, 1) := by decide +kernel
theorem dX12_isSaid_181 : decode cX12_isSaid 181 = .ok (.aload_n 0, 1) := by decide +kernel
theorem dX12_isSaid_182 : decode cX12_isSaid 182 = .ok (.getfield 33, 3) := by decide +kernel
theorem dX12_isSaid_185 : decode cX12_isSaid 185 = .ok (.iload 4, 2) := by decide +kernel
theorem dX12_isSaid_187 : decode cX12_isSaid 187 = .ok (.iconst 1, 1) := by decide +kernel
theorem dX12_isSaid_188 : decode cX12_isSaid 188 = .ok (.iadd, 1) := by decide +kernel
theorem dX12_isSaid_189 : decode cX12_isSaid 189 = .ok (.iaload, 1) := by decide +kernel
theorem dX12_isSaid_190 : decode cX12_isSaid 190 = .ok (.aload_n 0, 1) := by decide +kernel
theorem dX12_isSaid_191 : decode cX12_isSaid 191 = .ok (.getfield 33, 3) := by decide +kernel
theorem dX12_isSaid_194 : decode cX12_isSaid 194 = .ok (.iload 4, 2) := by decide +kernel
theorem dX12_isSaid_196 : decode cX12_isSaid 196 = .ok (.iconst 2, 1) := by decide +kernel
theorem dX12_isSaid_197 : decode cX12_isSaid 197 = .ok (.iadd, 1) := by decide +kernel
theorem dX12_isSaid_198 : decode cX12_isSaid 198 = .ok (.iaload, 1) := by decide +kernel
theorem dX12_isSaid_199 : decode cX12_isSaid 199 = .ok (.invokevirtual 425, 3) := by decide +kernel
theorem dX12_isSaid_202 : decode cX12_isSaid 202 = .ok (.bastore, 1) := by decide +kernel
theorem dX12_isSaid_203 : decode cX12_isSaid 203 = .ok (.iinc 2 1, 3) := by decide +kernel
theorem dX12_isSaid_206 : decode cX12_isSaid 206 = .ok (.iinc 3 1, 3) := by decide +kernel
theorem dX12_isSaid_209 : decode cX12_isSaid 209 = .ok (.goto (-205), 3) := by decide +kernel
theorem dX12_isSaid_212 : decode cX12_isSaid 212 = .ok (.aload_n 0, 1) := by decide +kernel
theorem dX12_isSaid_213 : decode cX12_isSaid 213 = .ok (.getfield 77, 3) := by decide +kernel
theorem dX12_isSaid_216 : decode cX12_isSaid 216 = .ok (.iconst 0, 1) := by decide +kernel
theorem dX12_isSaid_217 : decode cX12_isSaid 217 = .ok (.baload, 1) := by decide +kernel
theorem dX12_isSaid_218 : decode cX12_isSaid 218 = .ok (.ireturn, 1) := by decide +kernel
set_option maxHeartbeats 4000000 in
theorem w_l_M_isSaid_0 {ad wad : Nat → Nat} {Γ : Ctx} (F : Nat) {n : Nat} (hn : 7 ≤ n) (hG : Cx SHm ad wad cX12_isSaid 5 RX12 (some .boolean) (n) Γ) {q : Int32 × HS} {x1 : Int32} {g : Nat} {x2 : Int32} {x3 : Int32} {h : HS} (hd : l_M_isSaid_0 F x1 g x2 x3 h = some q) : AW SHm ad 5 (some (.int q.1), q.2) Γ 4 [(0, .ref (ad 0)), (1, .int x1), (2, .int x2), (3, .int x3)] [] h := by
  induction g generalizing x2 x3 h with
  | zero => unfold l_M_isSaid_0 at hd; cases hd
  | succ g ih =>
    unfold l_M_isSaid_0 at hd
    refine a_iload_n (pc := 4) hG 3 rfl dX12_isSaid_4 rfl ?_
    refine a_aload_n (pc := 5) hG 0 rfl dX12_isSaid_5 rfl ?_
    refine a_getR (pc := 6) hG sm_0 cl_X12 ok_X12 6 (by decide) rfl t_1615 dX12_isSaid_6 ?_
    refine a_sipush (pc := 9) hG dX12_isSaid_9 (v := (nI 151)) rfl ?_
    refine a_iald (pc := 12) hG sm_2 hd dX12_isSaid_12 (fun hd => ?_)
    refine a_ic_ge (pc := 13) hG (tgt := 212) hd dX12_isSaid_13 (by decide) (fun hd => ?_) (fun hd => ?_)
    · refine a_aload_n (pc := 212) hG 0 rfl dX12_isSaid_212 rfl ?_
      refine a_getR (pc := 213) hG sm_0 cl_X12 ok_X12 41 (by decide) rfl t_1650 dX12_isSaid_213 ?_
      refine a_iconst (pc := 216) hG dX12_isSaid_216 (v := (nI 0)) rfl ?_
      refine a_zald (pc := 217) hG sm_15 hd dX12_isSaid_217 (fun hd => ?_)
      exact a_zret (pc := 218) hG hd dX12_isSaid_218
    refine a_sipush (pc := 16) hG dX12_isSaid_16 (v := (nI 152)) rfl ?_
    refine a_iconst (pc := 19) hG dX12_isSaid_19 (v := (nI 3)) rfl ?_
    refine a_iload_n (pc := 20) hG 3 rfl dX12_isSaid_20 rfl ?_
    refine a_imul (pc := 21) hG dX12_isSaid_21 ?_
    refine a_iadd (pc := 22) hG dX12_isSaid_22 ?_
    refine a_istoreN (pc := 23) hG hd dX12_isSaid_23 (by decide) (lf := fun x => [(4, .int x), (0, .ref (ad 0)), (1, .int x1), (2, .int x2), (3, .int x3)]) (fun _ => rfl) (fun v3 hd => ?_)
    refine a_aload_n (pc := 25) hG 1 rfl dX12_isSaid_25 rfl ?_
    refine a_getR (pc := 26) hG sm_0 cl_X12 ok_X12 6 (by decide) rfl t_1615 dX12_isSaid_26 ?_
    refine a_iload (pc := 29) hG 0 rfl dX12_isSaid_29 ?_
    refine a_iald (pc := 31) hG sm_2 hd dX12_isSaid_31 (fun hd => ?_)
    refine a_bipush (pc := 32) hG dX12_isSaid_32 (v := (nI 20)) rfl ?_
    refine a_join hd (Q := fun J : Int32 → HS → Option (Int32 × HS) => ∀ (v5 : Int32) (h6 : HS), J v5 h6 = some q → AW SHm ad 5 (some (.int q.1), q.2) Γ 206 [(0, .ref (ad 0)), (1, .int x1), (2, .int v5), (3, .int x3)] [] h6) (fun v5 h6 hd => ?_) (fun J4 hJ4 hd => ?_)
    · refine a_iincN (pc := 206) hG (c0 := (nI 1)) 3 rfl hd dX12_isSaid_206 rfl (by decide) (lf := fun x => [(3, .int x), (0, .ref (ad 0)), (1, .int x1), (2, .int v5)]) (fun _ => rfl) (fun v7 hd => ?_)
      refine a_goto (pc := 209) hG (tgt := 4) dX12_isSaid_209 (by decide) ?_
      exact AW.sub [1, 2, 3, 0] rfl (ih hd)
    refine a_ic_ne (pc := 34) hG (tgt := 64) hd dX12_isSaid_34 (by decide) (fun hd => ?_) (fun hd => ?_)
    · refine a_aload_n (pc := 64) hG 1 rfl dX12_isSaid_64 rfl ?_
      refine a_getR (pc := 65) hG sm_0 cl_X12 ok_X12 6 (by decide) rfl t_1615 dX12_isSaid_65 ?_
      refine a_iload (pc := 68) hG 0 rfl dX12_isSaid_68 ?_
      refine a_iald (pc := 70) hG sm_2 hd dX12_isSaid_70 (fun hd => ?_)
      refine a_bipush (pc := 71) hG dX12_isSaid_71 (v := (nI 21)) rfl ?_
      refine a_join hd (Q := fun J : HS → Option (Int32 × HS) => ∀  (h9 : HS), J  h9 = some q → AW SHm ad 5 (some (.int q.1), q.2) Γ 88 [(0, .ref (ad 0)), (1, .int x1), (2, .int x2), (3, .int x3), (4, .int v3)] [] h9) (fun  h9 hd => ?_) (fun J8 hJ8 hd => ?_)
      · refine a_iincN (pc := 88) hG (c0 := (-1 : Int32)) 2 rfl hd dX12_isSaid_88 rfl (by decide) (lf := fun x => [(2, .int x), (0, .ref (ad 0)), (1, .int x1), (3, .int x3), (4, .int v3)]) (fun _ => rfl) (fun v10 hd => ?_)
        refine a_aload_n (pc := 91) hG 1 rfl dX12_isSaid_91 rfl ?_
        refine a_getR (pc := 92) hG sm_0 cl_X12 ok_X12 41 (by decide) rfl t_1650 dX12_isSaid_92 ?_
        refine a_iload_n (pc := 95) hG 0 rfl dX12_isSaid_95 rfl ?_
        refine a_iconst (pc := 96) hG dX12_isSaid_96 (v := (nI 1)) rfl ?_
        refine a_isub (pc := 97) hG dX12_isSaid_97 ?_
        refine a_aload_n (pc := 98) hG 1 rfl dX12_isSaid_98 rfl ?_
        refine a_getR (pc := 99) hG sm_0 cl_X12 ok_X12 6 (by decide) rfl t_1615 dX12_isSaid_99 ?_
        refine a_iload (pc := 102) hG 4 rfl dX12_isSaid_102 ?_
        refine a_iald (pc := 104) hG sm_2 hd dX12_isSaid_104 (fun hd => ?_)
        refine a_bipush (pc := 105) hG dX12_isSaid_105 (v := (nI 21)) rfl ?_
        refine a_join hd (Q := fun J : Int32 → HS → Option (Int32 × HS) => ∀ (v12 : Int32) (h13 : HS), J v12 h13 = some q → AW SHm ad 5 (some (.int q.1), q.2) Γ 163 [(0, .ref (ad 0)), (1, .int x1), (2, .int v10), (3, .int x3)] [.int v12, .int (v10 - (nI 1)), .ref (ad 15)] h13) (fun v12 h13 hd => ?_) (fun J11 hJ11 hd => ?_)
        · refine a_zast (pc := 163) hG sm_15 hd dX12_isSaid_163 (fun h14 hd => ?_)
          refine a_goto (pc := 164) hG (tgt := 206) dX12_isSaid_164 (by decide) ?_
          exact AW.sub [0, 1, 2, 3] rfl (hJ4 _ _ hd)
        refine a_ic_ne (pc := 107) hG (tgt := 138) hd dX12_isSaid_107 (by decide) (fun hd => ?_) (fun hd => ?_)
        · refine a_aload_n (pc := 138) hG 1 rfl dX12_isSaid_138 rfl ?_
          refine a_getR (pc := 139) hG sm_0 cl_X12 ok_X12 41 (by decide) rfl t_1650 dX12_isSaid_139 ?_
          refine a_iload_n (pc := 142) hG 0 rfl dX12_isSaid_142 rfl ?_
          refine a_iconst (pc := 143) hG dX12_isSaid_143 (v := (nI 1)) rfl ?_
          refine a_isub (pc := 144) hG dX12_isSaid_144 ?_
          refine a_zald (pc := 145) hG sm_15 hd dX12_isSaid_145 (fun hd => ?_)
          refine a_join hd (Q := fun J : HS → Option (Int32 × HS) => ∀  (h16 : HS), J  h16 = some q → AW SHm ad 5 (some (.int q.1), q.2) Γ 158 [(0, .ref (ad 0)), (1, .int x1), (2, .int v10), (3, .int x3)] [.int (v10 - (nI 1)), .ref (ad 15)] h16) (fun  h16 hd => ?_) (fun J15 hJ15 hd => ?_)
          · refine a_iconst (pc := 158) hG dX12_isSaid_158 (v := (nI 1)) rfl ?_
            refine a_goto (pc := 159) hG (tgt := 163) dX12_isSaid_159 (by decide) ?_
            exact AW.sub [0, 1, 2, 3] rfl (hJ11 _ _ hd)
          refine a_if_ne (pc := 146) hG (tgt := 158) hd dX12_isSaid_146 (by decide) (fun hd => ?_) (fun hd => ?_)
          · exact AW.sub [1, 2, 0, 3] rfl (hJ15  _ hd)
          refine a_aload_n (pc := 149) hG 1 rfl dX12_isSaid_149 rfl ?_
          refine a_getR (pc := 150) hG sm_0 cl_X12 ok_X12 41 (by decide) rfl t_1650 dX12_isSaid_150 ?_
          refine a_iload_n (pc := 153) hG 0 rfl dX12_isSaid_153 rfl ?_
          refine a_zald (pc := 154) hG sm_15 hd dX12_isSaid_154 (fun hd => ?_)
          refine a_if_eq (pc := 155) hG (tgt := 162) hd dX12_isSaid_155 (by decide) (fun hd => ?_) (fun hd => ?_)
          · refine a_iconst (pc := 162) hG dX12_isSaid_162 (v := (nI 0)) rfl ?_
            exact AW.sub [1, 2, 0, 3] rfl (hJ11 _ _ hd)
          exact AW.sub [1, 2, 0, 3] rfl (hJ15  _ hd)
        refine a_aload_n (pc := 110) hG 1 rfl dX12_isSaid_110 rfl ?_
        refine a_getR (pc := 111) hG sm_0 cl_X12 ok_X12 41 (by decide) rfl t_1650 dX12_isSaid_111 ?_
        refine a_iload_n (pc := 114) hG 0 rfl dX12_isSaid_114 rfl ?_
        refine a_iconst (pc := 115) hG dX12_isSaid_115 (v := (nI 1)) rfl ?_
        refine a_isub (pc := 116) hG dX12_isSaid_116 ?_
        refine a_zald (pc := 117) hG sm_15 hd dX12_isSaid_117 (fun hd => ?_)
        refine a_join hd (Q := fun J : HS → Option (Int32 × HS) => ∀  (h18 : HS), J  h18 = some q → AW SHm ad 5 (some (.int q.1), q.2) Γ 134 [(0, .ref (ad 0)), (1, .int x1), (2, .int v10), (3, .int x3)] [.int (v10 - (nI 1)), .ref (ad 15)] h18) (fun  h18 hd => ?_) (fun J17 hJ17 hd => ?_)
        · refine a_iconst (pc := 134) hG dX12_isSaid_134 (v := (nI 0)) rfl ?_
          refine a_goto (pc := 135) hG (tgt := 163) dX12_isSaid_135 (by decide) ?_
          exact AW.sub [0, 1, 2, 3] rfl (hJ11 _ _ hd)
        refine a_if_eq (pc := 118) hG (tgt := 134) hd dX12_isSaid_118 (by decide) (fun hd => ?_) (fun hd => ?_)
        · exact AW.sub [1, 2, 0, 3] rfl (hJ17  _ hd)
        refine a_aload_n (pc := 121) hG 1 rfl dX12_isSaid_121 rfl ?_
        refine a_getR (pc := 122) hG sm_0 cl_X12 ok_X12 41 (by decide) rfl t_1650 dX12_isSaid_122 ?_
        refine a_iload_n (pc := 125) hG 0 rfl dX12_isSaid_125 rfl ?_
        refine a_zald (pc := 126) hG sm_15 hd dX12_isSaid_126 (fun hd => ?_)
        refine a_if_eq (pc := 127) hG (tgt := 134) hd dX12_isSaid_127 (by decide) (fun hd => ?_) (fun hd => ?_)
        · exact AW.sub [1, 2, 0, 3] rfl (hJ17  _ hd)
        refine a_iconst (pc := 130) hG dX12_isSaid_130 (v := (nI 1)) rfl ?_
        refine a_goto (pc := 131) hG (tgt := 163) dX12_isSaid_131 (by decide) ?_
        exact AW.sub [1, 2, 0, 3] rfl (hJ11 _ _ hd)
      refine a_ic_eq (pc := 73) hG (tgt := 88) hd dX12_isSaid_73 (by decide) (fun hd => ?_) (fun hd => ?_)
      · exact AW.sub [1, 2, 3, 4, 0] rfl (hJ8  _ hd)
      refine a_aload_n (pc := 76) hG 1 rfl dX12_isSaid_76 rfl ?_
      refine a_getR (pc := 77) hG sm_0 cl_X12 ok_X12 6 (by decide) rfl t_1615 dX12_isSaid_77 ?_
      refine a_iload (pc := 80) hG 0 rfl dX12_isSaid_80 ?_
      refine a_iald (pc := 82) hG sm_2 hd dX12_isSaid_82 (fun hd => ?_)
      refine a_bipush (pc := 83) hG dX12_isSaid_83 (v := (nI 22)) rfl ?_
      refine a_ic_ne (pc := 85) hG (tgt := 167) hd dX12_isSaid_85 (by decide) (fun hd => ?_) (fun hd => ?_)
      · refine a_aload_n (pc := 167) hG 1 rfl dX12_isSaid_167 rfl ?_
        refine a_getR (pc := 168) hG sm_0 cl_X12 ok_X12 41 (by decide) rfl t_1650 dX12_isSaid_168 ?_
        refine a_iload_n (pc := 171) hG 3 rfl dX12_isSaid_171 rfl ?_
        refine a_aload_n (pc := 172) hG 1 rfl dX12_isSaid_172 rfl ?_
        refine a_iload_n (pc := 173) hG 2 rfl dX12_isSaid_173 rfl ?_
        refine a_aload_n (pc := 174) hG 1 rfl dX12_isSaid_174 rfl ?_
        refine a_getR (pc := 175) hG sm_0 cl_X12 ok_X12 6 (by decide) rfl t_1615 dX12_isSaid_175 ?_
        refine a_iload (pc := 178) hG 0 rfl dX12_isSaid_178 ?_
        refine a_iald (pc := 180) hG sm_2 hd dX12_isSaid_180 (fun hd => ?_)
        refine a_aload_n (pc := 181) hG 1 rfl dX12_isSaid_181 rfl ?_
        refine a_getR (pc := 182) hG sm_0 cl_X12 ok_X12 6 (by decide) rfl t_1615 dX12_isSaid_182 ?_
        refine a_iload (pc := 185) hG 0 rfl dX12_isSaid_185 ?_
        refine a_iconst (pc := 187) hG dX12_isSaid_187 (v := (nI 1)) rfl ?_
        refine a_iadd (pc := 188) hG dX12_isSaid_188 ?_
        refine a_iald (pc := 189) hG sm_2 hd dX12_isSaid_189 (fun hd => ?_)
        refine a_aload_n (pc := 190) hG 1 rfl dX12_isSaid_190 rfl ?_
        refine a_getR (pc := 191) hG sm_0 cl_X12 ok_X12 6 (by decide) rfl t_1615 dX12_isSaid_191 ?_
        refine a_iload (pc := 194) hG 0 rfl dX12_isSaid_194 ?_
        refine a_iconst (pc := 196) hG dX12_isSaid_196 (v := (nI 2)) rfl ?_
        refine a_iadd (pc := 197) hG dX12_isSaid_197 ?_
        refine a_iald (pc := 198) hG sm_2 hd dX12_isSaid_198 (fun hd => ?_)
        refine a_cvI (pc := 199) hG (As := [.int x1, .int (h.1 2 v3.toNatClampNeg), .int (h.1 2 (v3 + (nI 1)).toNatClampNeg), .int (h.1 2 (v3 + (nI 2)).toNatClampNeg)]) (st := [.int x2, .ref (ad 15)]) sm_0 cl_X12 mk_X12_isLeaf t_2161 (by omega) (fun z hz => c_M_isLeaf F x1 (h.1 2 v3.toNatClampNeg) (h.1 2 (v3 + (nI 1)).toNatClampNeg) (h.1 2 (v3 + (nI 2)).toNatClampNeg) _  z hz) rfl (Nat.le_of_ble_eq_true rfl) hd dX12_isSaid_199 (fun r20 h19 hd => ?_)
        refine a_zast (pc := 202) hG sm_15 hd dX12_isSaid_202 (fun h21 hd => ?_)
        refine a_iincN (pc := 203) hG (c0 := (nI 1)) 3 rfl hd dX12_isSaid_203 rfl (by decide) (lf := fun x => [(2, .int x), (4, .int v3), (0, .ref (ad 0)), (1, .int x1), (3, .int x3)]) (fun _ => rfl) (fun v22 hd => ?_)
        exact AW.sub [2, 3, 0, 4] rfl (hJ4 _ _ hd)
      exact AW.sub [1, 2, 3, 4, 0] rfl (hJ8  _ hd)
    refine a_aload_n (pc := 37) hG 1 rfl dX12_isSaid_37 rfl ?_
    refine a_getR (pc := 38) hG sm_0 cl_X12 ok_X12 41 (by decide) rfl t_1650 dX12_isSaid_38 ?_
    refine a_iload_n (pc := 41) hG 3 rfl dX12_isSaid_41 rfl ?_
    refine a_iconst (pc := 42) hG dX12_isSaid_42 (v := (nI 1)) rfl ?_
    refine a_isub (pc := 43) hG dX12_isSaid_43 ?_
    refine a_aload_n (pc := 44) hG 1 rfl dX12_isSaid_44 rfl ?_
    refine a_getR (pc := 45) hG sm_0 cl_X12 ok_X12 41 (by decide) rfl t_1650 dX12_isSaid_45 ?_
    refine a_iload_n (pc := 48) hG 3 rfl dX12_isSaid_48 rfl ?_
    refine a_iconst (pc := 49) hG dX12_isSaid_49 (v := (nI 1)) rfl ?_
    refine a_isub (pc := 50) hG dX12_isSaid_50 ?_
    refine a_zald (pc := 51) hG sm_15 hd dX12_isSaid_51 (fun hd => ?_)
    refine a_join hd (Q := fun J : Int32 → HS → Option (Int32 × HS) => ∀ (v24 : Int32) (h25 : HS), J v24 h25 = some q → AW SHm ad 5 (some (.int q.1), q.2) Γ 60 [(0, .ref (ad 0)), (1, .int x1), (2, .int x2), (3, .int x3)] [.int v24, .int (x2 - (nI 1)), .ref (ad 15)] h25) (fun v24 h25 hd => ?_) (fun J23 hJ23 hd => ?_)
    · refine a_zast (pc := 60) hG sm_15 hd dX12_isSaid_60 (fun h26 hd => ?_)
      refine a_goto (pc := 61) hG (tgt := 206) dX12_isSaid_61 (by decide) ?_
      exact AW.sub [0, 1, 2, 3] rfl (hJ4 _ _ hd)
    refine a_if_ne (pc := 52) hG (tgt := 59) hd dX12_isSaid_52 (by decide) (fun hd => ?_) (fun hd => ?_)
    · refine a_iconst (pc := 59) hG dX12_isSaid_59 (v := (nI 0)) rfl ?_
      exact AW.sub [1, 2, 3, 4] rfl (hJ23 _ _ hd)
    refine a_iconst (pc := 55) hG dX12_isSaid_55 (v := (nI 1)) rfl ?_
    refine a_goto (pc := 56) hG (tgt := 60) dX12_isSaid_56 (by decide) ?_
    exact AW.sub [1, 2, 3, 4] rfl (hJ23 _ _ hd)
set_option maxHeartbeats 4000000 in
theorem c_M_isSaid {ad wad : Nat → Nat} (F : Nat) (a0 : Int32) (h : HS)  (q : Int32 × HS) (hd : f_M_isSaid F a0 h = some q) : Ctr SHm ad wad yX12_isSaid cX12_isSaid 5 (some .boolean) 7 [.ref (ad 0), .int a0] h (some (.int q.1), q.2) := by
  refine enter (own := RX12) (lv := [(0, .ref (ad 0)), (1, .int a0)]) (by decide +kernel) rfl (Nat.le_of_ble_eq_true rfl) rfl (fun Γ hG => ?_)
  unfold f_M_isSaid at hd
  refine a_iconst (pc := 0) hG dX12_isSaid_0 (v := (nI 0)) rfl ?_
  refine a_istore_nN (pc := 1) hG hd dX12_isSaid_1 rfl (by decide) (lf := fun x => [(2, .int x), (0, .ref (ad 0)), (1, .int a0)]) (fun _ => rfl) (fun v1 hd => ?_)
  refine a_iconst (pc := 2) hG dX12_isSaid_2 (v := (nI 0)) rfl ?_
  refine a_istore_nN (pc := 3) hG hd dX12_isSaid_3 rfl (by decide) (lf := fun x => [(3, .int x), (2, .int v1), (0, .ref (ad 0)), (1, .int a0)]) (fun _ => rfl) (fun v2 hd => ?_)
  refine AW.sub [2, 3, 1, 0] rfl ?_
  exact w_l_M_isSaid_0 F (by omega) hG hd
theorem dX12_said_0 : decode cX12_said 0 = .ok (.aload_n 0, 1) := by decide +kernel
theorem dX12_said_1 : decode cX12_said 1 = .ok (.iconst 0, 1) := by decide +kernel
theorem dX12_said_2 : decode cX12_said 2 = .ok (.putfield 1, 3) := by decide +kernel
theorem dX12_said_5 : decode cX12_said 5 = .ok (.aload_n 0, 1) := by decide +kernel
theorem dX12_said_6 : decode cX12_said 6 = .ok (.getfield 33, 3) := by decide +kernel
theorem dX12_said_9 : decode cX12_said 9 = .ok (.sipush 151, 3) := by decide +kernel
theorem dX12_said_12 : decode cX12_said 12 = .ok (.iaload, 1) := by decide +kernel
theorem dX12_said_13 : decode cX12_said 13 = .ok (.ifCond .eq 8, 3) := by decide +kernel
theorem dX12_said_16 : decode cX12_said 16 = .ok (.iload_n 1, 1) := by decide +kernel
theorem dX12_said_17 : decode cX12_said 17 = .ok (.iconst (-1), 1) := by decide +kernel
theorem dX12_said_18 : decode cX12_said 18 = .ok (.if_icmp .ge 5, 3) := by decide +kernel
theorem dX12_said_21 : decode cX12_said 21 = .ok (.iconst (-1), 1) := by decide +kernel
theorem dX12_said_22 : decode cX12_said 22 = .ok (.ireturn, 1) := by decide +kernel
theorem dX12_said_23 : decode cX12_said 23 = .ok (.iconst 0, 1) := by decide +kernel
theorem dX12_said_24 : decode cX12_said 24 = .ok (.istore_n 2, 1) := by decide +kernel
theorem dX12_said_25 : decode cX12_said 25 = .ok (.iconst 0, 1) := by decide +kernel
theorem dX12_said_26 : decode cX12_said 26 = .ok (.istore_n 3, 1) := by decide +kernel
theorem dX12_said_27 : decode cX12_said 27 = .ok (.iload_n 3, 1) := by decide +kernel
theorem dX12_said_28 : decode cX12_said 28 = .ok (.aload_n 0, 1) := by decide +kernel
theorem dX12_said_29 : decode cX12_said 29 = .ok (.getfield 33, 3) := by decide +kernel
theorem dX12_said_32 : decode cX12_said 32 = .ok (.iconst 0, 1) := by decide +kernel
theorem dX12_said_33 : decode cX12_said 33 = .ok (.iaload, 1) := by decide +kernel
theorem dX12_said_34 : decode cX12_said 34 = .ok (.if_icmp .ge 30, 3) := by decide +kernel
theorem dX12_said_37 : decode cX12_said 37 = .ok (.aload_n 0, 1) := by decide +kernel
theorem dX12_said_38 : decode cX12_said 38 = .ok (.iload_n 3, 1) := by decide +kernel
theorem dX12_said_39 : decode cX12_said 39 = .ok (.invokevirtual 429, 3) := by decide +kernel
theorem dX12_said_42 : decode cX12_said 42 = .ok (.ifCond .ne 6, 3) := by decide +kernel
theorem dX12_said_45 : decode cX12_said 45 = .ok (.goto 13, 3) := by decide +kernel
theorem dX12_said_48 : decode cX12_said 48 = .ok (.iload_n 2, 1) := by decide +kernel
theorem dX12_said_49 : decode cX12_said 49 = .ok (.iload_n 1, 1) := by decide +kernel
theorem dX12_said_50 : decode cX12_said 50 = .ok (.if_icmp .ne 5, 3) := by decide +kernel
theorem dX12_said_53 : decode cX12_said 53 = .ok (.iload_n 3, 1) := by decide +kernel
theorem dX12_said_54 : decode cX12_said 54 = .ok (.ireturn, 1) := by decide +kernel
theorem dX12_said_55 : decode cX12_said 55 = .ok (.iinc 2 1, 3) := by decide +kernel
theorem dX12_said_58 : decode cX12_said 58 = .ok (.iinc 3 1, 3) := by decide +kernel
theorem dX12_said_61 : decode cX12_said 61 = .ok (.goto (-34), 3) := by decide +kernel
theorem dX12_said_64 : decode cX12_said 64 = .ok (.iload_n 1, 1) := by decide +kernel
theorem dX12_said_65 : decode cX12_said 65 = .ok (.iconst (-1), 1) := by decide +kernel
theorem dX12_said_66 : decode cX12_said 66 = .ok (.if_icmp .ne 7, 3) := by decide +kernel
theorem dX12_said_69 : decode cX12_said 69 = .ok (.iload_n 2, 1) := by decide +kernel
theorem dX12_said_70 : decode cX12_said 70 = .ok (.goto 4, 3) := by decide +kernel
theorem dX12_said_73 : decode cX12_said 73 = .ok (.iconst (-1), 1) := by decide +kernel
theorem dX12_said_74 : decode cX12_said 74 = .ok (.ireturn, 1) := by decide +kernel
set_option maxHeartbeats 4000000 in
theorem w_l_M_said_0 {ad wad : Nat → Nat} {Γ : Ctx} (F : Nat) {n : Nat} (hn : 8 ≤ n) (hG : Cx SHm ad wad cX12_said 4 RX12 (some .int) (n) Γ) {q : Int32 × HS} {x1 : Int32} {K0 : Int32 → HS → Option (Int32 × HS)} {g : Nat} {x2 : Int32} {x3 : Int32} {h : HS} (hd : l_M_said_0 F x1 K0 g x2 x3 h = some q) (hK0 : ∀ (y2 : Int32) (z : HS), K0 y2 z = some q → AW SHm ad 4 (some (.int q.1), q.2) Γ 64 [(1, .int x1), (2, .int y2)] [] z) : AW SHm ad 4 (some (.int q.1), q.2) Γ 27 [(0, .ref (ad 0)), (1, .int x1), (2, .int x2), (3, .int x3)] [] h := by
  induction g generalizing x2 x3 h with
  | zero => unfold l_M_said_0 at hd; cases hd
  | succ g ih =>
    unfold l_M_said_0 at hd
    refine a_iload_n (pc := 27) hG 3 rfl dX12_said_27 rfl ?_
    refine a_aload_n (pc := 28) hG 0 rfl dX12_said_28 rfl ?_
    refine a_getR (pc := 29) hG sm_0 cl_X12 ok_X12 6 (by decide) rfl t_1615 dX12_said_29 ?_
    refine a_iconst (pc := 32) hG dX12_said_32 (v := (nI 0)) rfl ?_
    refine a_iald (pc := 33) hG sm_2 hd dX12_said_33 (fun hd => ?_)
    refine a_ic_ge (pc := 34) hG (tgt := 64) hd dX12_said_34 (by decide) (fun hd => ?_) (fun hd => ?_)
    · exact AW.sub [1, 2] rfl (hK0 _ _ hd)
    refine a_aload_n (pc := 37) hG 0 rfl dX12_said_37 rfl ?_
    refine a_iload_n (pc := 38) hG 3 rfl dX12_said_38 rfl ?_
    refine a_cvI (pc := 39) hG (As := [.int x3]) (st := []) sm_0 cl_X12 mk_X12_isSaid t_2157 (by omega) (fun z hz => c_M_isSaid F x3 _  z hz) rfl (Nat.le_of_ble_eq_true rfl) hd dX12_said_39 (fun r5 h4 hd => ?_)
    refine a_join hd (Q := fun J : Int32 → HS → Option (Int32 × HS) => ∀ (v7 : Int32) (h8 : HS), J v7 h8 = some q → AW SHm ad 4 (some (.int q.1), q.2) Γ 58 [(0, .ref (ad 0)), (1, .int x1), (2, .int v7), (3, .int x3)] [] h8) (fun v7 h8 hd => ?_) (fun J6 hJ6 hd => ?_)
    · refine a_iincN (pc := 58) hG (c0 := (nI 1)) 3 rfl hd dX12_said_58 rfl (by decide) (lf := fun x => [(3, .int x), (0, .ref (ad 0)), (1, .int x1), (2, .int v7)]) (fun _ => rfl) (fun v9 hd => ?_)
      refine a_goto (pc := 61) hG (tgt := 27) dX12_said_61 (by decide) ?_
      exact AW.sub [1, 2, 3, 0] rfl (ih hd)
    refine a_if_ne (pc := 42) hG (tgt := 48) hd dX12_said_42 (by decide) (fun hd => ?_) (fun hd => ?_)
    · refine a_iload_n (pc := 48) hG 2 rfl dX12_said_48 rfl ?_
      refine a_iload_n (pc := 49) hG 1 rfl dX12_said_49 rfl ?_
      refine a_ic_ne (pc := 50) hG (tgt := 55) hd dX12_said_50 (by decide) (fun hd => ?_) (fun hd => ?_)
      · refine a_iincN (pc := 55) hG (c0 := (nI 1)) 2 rfl hd dX12_said_55 rfl (by decide) (lf := fun x => [(2, .int x), (0, .ref (ad 0)), (1, .int x1), (3, .int x3)]) (fun _ => rfl) (fun v10 hd => ?_)
        exact AW.sub [1, 2, 0, 3] rfl (hJ6 _ _ hd)
      refine a_iload_n (pc := 53) hG 3 rfl dX12_said_53 rfl ?_
      exact a_iret (pc := 54) hG hd dX12_said_54
    refine a_goto (pc := 45) hG (tgt := 58) dX12_said_45 (by decide) ?_
    exact AW.sub [0, 1, 2, 3] rfl (hJ6 _ _ hd)
set_option maxHeartbeats 4000000 in
theorem c_M_said {ad wad : Nat → Nat} (F : Nat) (a0 : Int32) (h : HS)  (q : Int32 × HS) (hd : f_M_said F a0 h = some q) : Ctr SHm ad wad yX12_said cX12_said 4 (some .int) 8 [.ref (ad 0), .int a0] h (some (.int q.1), q.2) := by
  refine enter (own := RX12) (lv := [(0, .ref (ad 0)), (1, .int a0)]) (by decide +kernel) rfl (Nat.le_of_ble_eq_true rfl) rfl (fun Γ hG => ?_)
  unfold f_M_said at hd
  refine a_aload_n (pc := 0) hG 0 rfl dX12_said_0 rfl ?_
  refine a_iconst (pc := 1) hG dX12_said_1 (v := (nI 0)) rfl ?_
  refine a_putI (pc := 2) hG sm_0 cl_X12 ok_X12 0 (by decide) rfl t_1609 rfl (ty := .int) rfl rfl rfl hd dX12_said_2 (fun h1 hd => ?_)
  refine a_aload_n (pc := 5) hG 0 rfl dX12_said_5 rfl ?_
  refine a_getR (pc := 6) hG sm_0 cl_X12 ok_X12 6 (by decide) rfl t_1615 dX12_said_6 ?_
  refine a_sipush (pc := 9) hG dX12_said_9 (v := (nI 151)) rfl ?_
  refine a_iald (pc := 12) hG sm_2 hd dX12_said_12 (fun hd => ?_)
  refine a_if_eq (pc := 13) hG (tgt := 21) hd dX12_said_13 (by decide) (fun hd => ?_) (fun hd => ?_)
  · refine a_iconst (pc := 21) hG dX12_said_21 (v := (-1 : Int32)) rfl ?_
    exact a_iret (pc := 22) hG hd dX12_said_22
  refine a_iload_n (pc := 16) hG 1 rfl dX12_said_16 rfl ?_
  refine a_iconst (pc := 17) hG dX12_said_17 (v := (-1 : Int32)) rfl ?_
  refine a_ic_ge (pc := 18) hG (tgt := 23) hd dX12_said_18 (by decide) (fun hd => ?_) (fun hd => ?_)
  · refine a_iconst (pc := 23) hG dX12_said_23 (v := (nI 0)) rfl ?_
    refine a_istore_nN (pc := 24) hG hd dX12_said_24 rfl (by decide) (lf := fun x => [(2, .int x), (0, .ref (ad 0)), (1, .int a0)]) (fun _ => rfl) (fun v2 hd => ?_)
    refine a_iconst (pc := 25) hG dX12_said_25 (v := (nI 0)) rfl ?_
    refine a_istore_nN (pc := 26) hG hd dX12_said_26 rfl (by decide) (lf := fun x => [(3, .int x), (2, .int v2), (0, .ref (ad 0)), (1, .int a0)]) (fun _ => rfl) (fun v3 hd => ?_)
    refine AW.sub [2, 3, 1, 0] rfl ?_
    refine w_l_M_said_0 F (by omega) hG hd (fun v11 h12 hd => ?_)
    refine a_iload_n (pc := 64) hG 0 rfl dX12_said_64 rfl ?_
    refine a_iconst (pc := 65) hG dX12_said_65 (v := (-1 : Int32)) rfl ?_
    refine a_ic_ne (pc := 66) hG (tgt := 73) hd dX12_said_66 (by decide) (fun hd => ?_) (fun hd => ?_)
    · refine a_iconst (pc := 73) hG dX12_said_73 (v := (-1 : Int32)) rfl ?_
      exact a_iret (pc := 74) hG hd dX12_said_74
    refine a_iload_n (pc := 69) hG 1 rfl dX12_said_69 rfl ?_
    refine a_goto (pc := 70) hG (tgt := 74) dX12_said_70 (by decide) ?_
    exact a_iret (pc := 74) hG hd dX12_said_74
  refine a_iconst (pc := 21) hG dX12_said_21 (v := (-1 : Int32)) rfl ?_
  exact a_iret (pc := 22) hG hd dX12_said_22
theorem dX12_image_0 : decode cX12_image 0 = .ok (.aload_n 0, 1) := by decide +kernel
theorem dX12_image_1 : decode cX12_image 1 = .ok (.iconst 0, 1) := by decide +kernel
theorem dX12_image_2 : decode cX12_image 2 = .ok (.putfield 1, 3) := by decide +kernel
theorem dX12_image_5 : decode cX12_image 5 = .ok (.iload_n 1, 1) := by decide +kernel
theorem dX12_image_6 : decode cX12_image 6 = .ok (.iconst 0, 1) := by decide +kernel
theorem dX12_image_7 : decode cX12_image 7 = .ok (.iconst 1, 1) := by decide +kernel
theorem dX12_image_8 : decode cX12_image 8 = .ok (.invokestatic 184, 3) := by decide +kernel
theorem dX12_image_11 : decode cX12_image 11 = .ok (.ifCond .ne 5, 3) := by decide +kernel
theorem dX12_image_14 : decode cX12_image 14 = .ok (.iconst 0, 1) := by decide +kernel
theorem dX12_image_15 : decode cX12_image 15 = .ok (.ireturn, 1) := by decide +kernel
theorem dX12_image_16 : decode cX12_image 16 = .ok (.iconst 0, 1) := by decide +kernel
theorem dX12_image_17 : decode cX12_image 17 = .ok (.istore_n 2, 1) := by decide +kernel
theorem dX12_image_18 : decode cX12_image 18 = .ok (.iload_n 2, 1) := by decide +kernel
theorem dX12_image_19 : decode cX12_image 19 = .ok (.sipush 332, 3) := by decide +kernel
theorem dX12_image_22 : decode cX12_image 22 = .ok (.if_icmp .ge 27, 3) := by decide +kernel
theorem dX12_image_25 : decode cX12_image 25 = .ok (.aload_n 0, 1) := by decide +kernel
theorem dX12_image_26 : decode cX12_image 26 = .ok (.getfield 81, 3) := by decide +kernel
theorem dX12_image_29 : decode cX12_image 29 = .ok (.sipush 332, 3) := by decide +kernel
theorem dX12_image_32 : decode cX12_image 32 = .ok (.iload_n 1, 1) := by decide +kernel
theorem dX12_image_33 : decode cX12_image 33 = .ok (.imul, 1) := by decide +kernel
theorem dX12_image_34 : decode cX12_image 34 = .ok (.iload_n 2, 1) := by decide +kernel
theorem dX12_image_35 : decode cX12_image 35 = .ok (.iadd, 1) := by decide +kernel
theorem dX12_image_36 : decode cX12_image 36 = .ok (.aload_n 0, 1) := by decide +kernel
theorem dX12_image_37 : decode cX12_image 37 = .ok (.getfield 33, 3) := by decide +kernel
theorem dX12_image_40 : decode cX12_image 40 = .ok (.iload_n 2, 1) := by decide +kernel
theorem dX12_image_41 : decode cX12_image 41 = .ok (.iaload, 1) := by decide +kernel
theorem dX12_image_42 : decode cX12_image 42 = .ok (.iastore, 1) := by decide +kernel
theorem dX12_image_43 : decode cX12_image 43 = .ok (.iinc 2 1, 3) := by decide +kernel
theorem dX12_image_46 : decode cX12_image 46 = .ok (.goto (-28), 3) := by decide +kernel
theorem dX12_image_49 : decode cX12_image 49 = .ok (.iconst 0, 1) := by decide +kernel
theorem dX12_image_50 : decode cX12_image 50 = .ok (.istore_n 2, 1) := by decide +kernel
theorem dX12_image_51 : decode cX12_image 51 = .ok (.iload_n 2, 1) := by decide +kernel
theorem dX12_image_52 : decode cX12_image 52 = .ok (.bipush 17, 2) := by decide +kernel
theorem dX12_image_54 : decode cX12_image 54 = .ok (.if_icmp .ge 26, 3) := by decide +kernel
theorem dX12_image_57 : decode cX12_image 57 = .ok (.aload_n 0, 1) := by decide +kernel
theorem dX12_image_58 : decode cX12_image 58 = .ok (.getfield 84, 3) := by decide +kernel
theorem dX12_image_61 : decode cX12_image 61 = .ok (.bipush 17, 2) := by decide +kernel
theorem dX12_image_63 : decode cX12_image 63 = .ok (.iload_n 1, 1) := by decide +kernel
theorem dX12_image_64 : decode cX12_image 64 = .ok (.imul, 1) := by decide +kernel
theorem dX12_image_65 : decode cX12_image 65 = .ok (.iload_n 2, 1) := by decide +kernel
theorem dX12_image_66 : decode cX12_image 66 = .ok (.iadd, 1) := by decide +kernel
theorem dX12_image_67 : decode cX12_image 67 = .ok (.aload_n 0, 1) := by decide +kernel
theorem dX12_image_68 : decode cX12_image 68 = .ok (.getfield 43, 3) := by decide +kernel
theorem dX12_image_71 : decode cX12_image 71 = .ok (.iload_n 2, 1) := by decide +kernel
theorem dX12_image_72 : decode cX12_image 72 = .ok (.laload, 1) := by decide +kernel
theorem dX12_image_73 : decode cX12_image 73 = .ok (.lastore, 1) := by decide +kernel
theorem dX12_image_74 : decode cX12_image 74 = .ok (.iinc 2 1, 3) := by decide +kernel
theorem dX12_image_77 : decode cX12_image 77 = .ok (.goto (-26), 3) := by decide +kernel
theorem dX12_image_80 : decode cX12_image 80 = .ok (.aload_n 0, 1) := by decide +kernel
theorem dX12_image_81 : decode cX12_image 81 = .ok (.getfield 87, 3) := by decide +kernel
theorem dX12_image_84 : decode cX12_image 84 = .ok (.iload_n 1, 1) := by decide +kernel
theorem dX12_image_85 : decode cX12_image 85 = .ok (.iconst 1, 1) := by decide +kernel
theorem dX12_image_86 : decode cX12_image 86 = .ok (.bastore, 1) := by decide +kernel
theorem dX12_image_87 : decode cX12_image 87 = .ok (.iconst 1, 1) := by decide +kernel
theorem dX12_image_88 : decode cX12_image 88 = .ok (.ireturn, 1) := by decide +kernel
set_option maxHeartbeats 4000000 in
theorem w_l_M_image_0 {ad wad : Nat → Nat} {Γ : Ctx} (F : Nat) {n : Nat} (hn : 2 ≤ n) (hG : Cx SHm ad wad cX12_image 3 RX12 (some .boolean) (n) Γ) {q : Int32 × HS} {x1 : Int32} {K0 : HS → Option (Int32 × HS)} {g : Nat} {x2 : Int32} {h : HS} (hd : l_M_image_0 F x1 K0 g x2 h = some q) (hK0 : ∀ (z : HS), K0 z = some q → AW SHm ad 3 (some (.int q.1), q.2) Γ 49 [(0, .ref (ad 0)), (1, .int x1)] [] z) : AW SHm ad 3 (some (.int q.1), q.2) Γ 18 [(0, .ref (ad 0)), (1, .int x1), (2, .int x2)] [] h := by
  induction g generalizing x2 h with
  | zero => unfold l_M_image_0 at hd; cases hd
  | succ g ih =>
    unfold l_M_image_0 at hd
    refine a_iload_n (pc := 18) hG 2 rfl dX12_image_18 rfl ?_
    refine a_sipush (pc := 19) hG dX12_image_19 (v := (nI 332)) rfl ?_
    refine a_ic_ge (pc := 22) hG (tgt := 49) hd dX12_image_22 (by decide) (fun hd => ?_) (fun hd => ?_)
    · exact AW.sub [0, 1] rfl (hK0  _ hd)
    refine a_aload_n (pc := 25) hG 0 rfl dX12_image_25 rfl ?_
    refine a_getR (pc := 26) hG sm_0 cl_X12 ok_X12 42 (by decide) rfl t_1651 dX12_image_26 ?_
    refine a_sipush (pc := 29) hG dX12_image_29 (v := (nI 332)) rfl ?_
    refine a_iload_n (pc := 32) hG 1 rfl dX12_image_32 rfl ?_
    refine a_imul (pc := 33) hG dX12_image_33 ?_
    refine a_iload_n (pc := 34) hG 2 rfl dX12_image_34 rfl ?_
    refine a_iadd (pc := 35) hG dX12_image_35 ?_
    refine a_aload_n (pc := 36) hG 0 rfl dX12_image_36 rfl ?_
    refine a_getR (pc := 37) hG sm_0 cl_X12 ok_X12 6 (by decide) rfl t_1615 dX12_image_37 ?_
    refine a_iload_n (pc := 40) hG 2 rfl dX12_image_40 rfl ?_
    refine a_iald (pc := 41) hG sm_2 hd dX12_image_41 (fun hd => ?_)
    refine a_iast (pc := 42) hG sm_16 hd dX12_image_42 (fun h5 hd => ?_)
    refine a_iincN (pc := 43) hG (c0 := (nI 1)) 2 rfl hd dX12_image_43 rfl (by decide) (lf := fun x => [(2, .int x), (0, .ref (ad 0)), (1, .int x1)]) (fun _ => rfl) (fun v6 hd => ?_)
    refine a_goto (pc := 46) hG (tgt := 18) dX12_image_46 (by decide) ?_
    exact AW.sub [1, 2, 0] rfl (ih hd)
set_option maxHeartbeats 4000000 in
theorem w_l_M_image_1 {ad wad : Nat → Nat} {Γ : Ctx} (F : Nat) {n : Nat} (hn : 2 ≤ n) (hG : Cx SHm ad wad cX12_image 3 RX12 (some .boolean) (n) Γ) {q : Int32 × HS} {x1 : Int32} {K0 : HS → Option (Int32 × HS)} {g : Nat} {x2 : Int32} {h : HS} (hd : l_M_image_1 F x1 K0 g x2 h = some q) (hK0 : ∀ (z : HS), K0 z = some q → AW SHm ad 3 (some (.int q.1), q.2) Γ 80 [(0, .ref (ad 0)), (1, .int x1)] [] z) : AW SHm ad 3 (some (.int q.1), q.2) Γ 51 [(0, .ref (ad 0)), (1, .int x1), (2, .int x2)] [] h := by
  induction g generalizing x2 h with
  | zero => unfold l_M_image_1 at hd; cases hd
  | succ g ih =>
    unfold l_M_image_1 at hd
    refine a_iload_n (pc := 51) hG 2 rfl dX12_image_51 rfl ?_
    refine a_bipush (pc := 52) hG dX12_image_52 (v := (nI 17)) rfl ?_
    refine a_ic_ge (pc := 54) hG (tgt := 80) hd dX12_image_54 (by decide) (fun hd => ?_) (fun hd => ?_)
    · exact AW.sub [0, 1] rfl (hK0  _ hd)
    refine a_aload_n (pc := 57) hG 0 rfl dX12_image_57 rfl ?_
    refine a_getR (pc := 58) hG sm_0 cl_X12 ok_X12 43 (by decide) rfl t_1652 dX12_image_58 ?_
    refine a_bipush (pc := 61) hG dX12_image_61 (v := (nI 17)) rfl ?_
    refine a_iload_n (pc := 63) hG 1 rfl dX12_image_63 rfl ?_
    refine a_imul (pc := 64) hG dX12_image_64 ?_
    refine a_iload_n (pc := 65) hG 2 rfl dX12_image_65 rfl ?_
    refine a_iadd (pc := 66) hG dX12_image_66 ?_
    refine a_aload_n (pc := 67) hG 0 rfl dX12_image_67 rfl ?_
    refine a_getR (pc := 68) hG sm_0 cl_X12 ok_X12 9 (by decide) rfl t_1618 dX12_image_68 ?_
    refine a_iload_n (pc := 71) hG 2 rfl dX12_image_71 rfl ?_
    refine a_lald (pc := 72) hG sm_5 hd dX12_image_72 (fun hd => ?_)
    refine a_last (pc := 73) hG sm_17 hd dX12_image_73 (fun h9 hd => ?_)
    refine a_iincN (pc := 74) hG (c0 := (nI 1)) 2 rfl hd dX12_image_74 rfl (by decide) (lf := fun x => [(2, .int x), (0, .ref (ad 0)), (1, .int x1)]) (fun _ => rfl) (fun v10 hd => ?_)
    refine a_goto (pc := 77) hG (tgt := 51) dX12_image_77 (by decide) ?_
    exact AW.sub [1, 2, 0] rfl (ih hd)
set_option maxHeartbeats 4000000 in
theorem c_M_image {ad wad : Nat → Nat} (F : Nat) (a0 : Int32) (h : HS)  (q : Int32 × HS) (hd : f_M_image F a0 h = some q) : Ctr SHm ad wad yX12_image cX12_image 3 (some .boolean) 2 [.ref (ad 0), .int a0] h (some (.int q.1), q.2) := by
  refine enter (own := RX12) (lv := [(0, .ref (ad 0)), (1, .int a0)]) (by decide +kernel) rfl (Nat.le_of_ble_eq_true rfl) rfl (fun Γ hG => ?_)
  unfold f_M_image at hd
  refine a_aload_n (pc := 0) hG 0 rfl dX12_image_0 rfl ?_
  refine a_iconst (pc := 1) hG dX12_image_1 (v := (nI 0)) rfl ?_
  refine a_putI (pc := 2) hG sm_0 cl_X12 ok_X12 0 (by decide) rfl t_1609 rfl (ty := .int) rfl rfl rfl hd dX12_image_2 (fun h1 hd => ?_)
  refine a_iload_n (pc := 5) hG 1 rfl dX12_image_5 rfl ?_
  refine a_iconst (pc := 6) hG dX12_image_6 (v := (nI 0)) rfl ?_
  refine a_iconst (pc := 7) hG dX12_image_7 (v := (nI 1)) rfl ?_
  refine a_csI (pc := 8) hG (As := [.int a0, .int (nI 0), .int (nI 1)]) (st := []) mk_X12_isIn t_1795 (by omega) (fun z hz => c_M_isIn a0 (nI 0) (nI 1) _  z hz) rfl (Nat.le_of_ble_eq_true rfl) hd dX12_image_8 (fun r3 h2 hd => ?_)
  refine a_if_ne (pc := 11) hG (tgt := 16) hd dX12_image_11 (by decide) (fun hd => ?_) (fun hd => ?_)
  · refine a_iconst (pc := 16) hG dX12_image_16 (v := (nI 0)) rfl ?_
    refine a_istore_nN (pc := 17) hG hd dX12_image_17 rfl (by decide) (lf := fun x => [(2, .int x), (0, .ref (ad 0)), (1, .int a0)]) (fun _ => rfl) (fun v4 hd => ?_)
    refine AW.sub [1, 2, 0] rfl ?_
    refine w_l_M_image_0 F (by omega) hG hd (fun h7 hd => ?_)
    refine a_iconst (pc := 49) hG dX12_image_49 (v := (nI 0)) rfl ?_
    refine a_istore_nN (pc := 50) hG hd dX12_image_50 rfl (by decide) (lf := fun x => [(2, .int x), (0, .ref (ad 0)), (1, .int a0)]) (fun _ => rfl) (fun v8 hd => ?_)
    refine AW.sub [1, 2, 0] rfl ?_
    refine w_l_M_image_1 F (by omega) hG hd (fun h11 hd => ?_)
    refine a_aload_n (pc := 80) hG 0 rfl dX12_image_80 rfl ?_
    refine a_getR (pc := 81) hG sm_0 cl_X12 ok_X12 44 (by decide) rfl t_1653 dX12_image_81 ?_
    refine a_iload_n (pc := 84) hG 1 rfl dX12_image_84 rfl ?_
    refine a_iconst (pc := 85) hG dX12_image_85 (v := (nI 1)) rfl ?_
    refine a_zast (pc := 86) hG sm_18 hd dX12_image_86 (fun h12 hd => ?_)
    refine a_iconst (pc := 87) hG dX12_image_87 (v := (nI 1)) rfl ?_
    exact a_zret (pc := 88) hG hd dX12_image_88
  refine a_iconst (pc := 14) hG dX12_image_14 (v := (nI 0)) rfl ?_
  exact a_zret (pc := 15) hG hd dX12_image_15
theorem dX12_restore_0 : decode cX12_restore 0 = .ok (.aload_n 0, 1) := by decide +kernel
theorem dX12_restore_1 : decode cX12_restore 1 = .ok (.iconst 0, 1) := by decide +kernel
theorem dX12_restore_2 : decode cX12_restore 2 = .ok (.putfield 1, 3) := by decide +kernel
theorem dX12_restore_5 : decode cX12_restore 5 = .ok (.iload_n 1, 1) := by decide +kernel
theorem dX12_restore_6 : decode cX12_restore 6 = .ok (.iconst 0, 1) := by decide +kernel
theorem dX12_restore_7 : decode cX12_restore 7 = .ok (.iconst 1, 1) := by decide +kernel
theorem dX12_restore_8 : decode cX12_restore 8 = .ok (.invokestatic 184, 3) := by decide +kernel
theorem dX12_restore_11 : decode cX12_restore 11 = .ok (.ifCond .eq 12, 3) := by decide +kernel
theorem dX12_restore_14 : decode cX12_restore 14 = .ok (.aload_n 0, 1) := by decide +kernel
theorem dX12_restore_15 : decode cX12_restore 15 = .ok (.getfield 87, 3) := by decide +kernel
theorem dX12_restore_18 : decode cX12_restore 18 = .ok (.iload_n 1, 1) := by decide +kernel
theorem dX12_restore_19 : decode cX12_restore 19 = .ok (.baload, 1) := by decide +kernel
theorem dX12_restore_20 : decode cX12_restore 20 = .ok (.ifCond .ne 5, 3) := by decide +kernel
theorem dX12_restore_23 : decode cX12_restore 23 = .ok (.iconst 0, 1) := by decide +kernel
theorem dX12_restore_24 : decode cX12_restore 24 = .ok (.ireturn, 1) := by decide +kernel
theorem dX12_restore_25 : decode cX12_restore 25 = .ok (.iconst 0, 1) := by decide +kernel
theorem dX12_restore_26 : decode cX12_restore 26 = .ok (.istore_n 2, 1) := by decide +kernel
theorem dX12_restore_27 : decode cX12_restore 27 = .ok (.iload_n 2, 1) := by decide +kernel
theorem dX12_restore_28 : decode cX12_restore 28 = .ok (.sipush 332, 3) := by decide +kernel
theorem dX12_restore_31 : decode cX12_restore 31 = .ok (.if_icmp .ge 27, 3) := by decide +kernel
theorem dX12_restore_34 : decode cX12_restore 34 = .ok (.aload_n 0, 1) := by decide +kernel
theorem dX12_restore_35 : decode cX12_restore 35 = .ok (.getfield 33, 3) := by decide +kernel
theorem dX12_restore_38 : decode cX12_restore 38 = .ok (.iload_n 2, 1) := by decide +kernel
theorem dX12_restore_39 : decode cX12_restore 39 = .ok (.aload_n 0, 1) := by decide +kernel
theorem dX12_restore_40 : decode cX12_restore 40 = .ok (.getfield 81, 3) := by decide +kernel
theorem dX12_restore_43 : decode cX12_restore 43 = .ok (.sipush 332, 3) := by decide +kernel
theorem dX12_restore_46 : decode cX12_restore 46 = .ok (.iload_n 1, 1) := by decide +kernel
theorem dX12_restore_47 : decode cX12_restore 47 = .ok (.imul, 1) := by decide +kernel
theorem dX12_restore_48 : decode cX12_restore 48 = .ok (.iload_n 2, 1) := by decide +kernel
theorem dX12_restore_49 : decode cX12_restore 49 = .ok (.iadd, 1) := by decide +kernel
theorem dX12_restore_50 : decode cX12_restore 50 = .ok (.iaload, 1) := by decide +kernel
theorem dX12_restore_51 : decode cX12_restore 51 = .ok (.iastore, 1) := by decide +kernel
theorem dX12_restore_52 : decode cX12_restore 52 = .ok (.iinc 2 1, 3) := by decide +kernel
theorem dX12_restore_55 : decode cX12_restore 55 = .ok (.goto (-28), 3) := by decide +kernel
theorem dX12_restore_58 : decode cX12_restore 58 = .ok (.iconst 0, 1) := by decide +kernel
theorem dX12_restore_59 : decode cX12_restore 59 = .ok (.istore_n 2, 1) := by decide +kernel
theorem dX12_restore_60 : decode cX12_restore 60 = .ok (.iload_n 2, 1) := by decide +kernel
theorem dX12_restore_61 : decode cX12_restore 61 = .ok (.bipush 17, 2) := by decide +kernel
theorem dX12_restore_63 : decode cX12_restore 63 = .ok (.if_icmp .ge 26, 3) := by decide +kernel
theorem dX12_restore_66 : decode cX12_restore 66 = .ok (.aload_n 0, 1) := by decide +kernel
theorem dX12_restore_67 : decode cX12_restore 67 = .ok (.getfield 43, 3) := by decide +kernel
theorem dX12_restore_70 : decode cX12_restore 70 = .ok (.iload_n 2, 1) := by decide +kernel
theorem dX12_restore_71 : decode cX12_restore 71 = .ok (.aload_n 0, 1) := by decide +kernel
theorem dX12_restore_72 : decode cX12_restore 72 = .ok (.getfield 84, 3) := by decide +kernel
theorem dX12_restore_75 : decode cX12_restore 75 = .ok (.bipush 17, 2) := by decide +kernel
theorem dX12_restore_77 : decode cX12_restore 77 = .ok (.iload_n 1, 1) := by decide +kernel
theorem dX12_restore_78 : decode cX12_restore 78 = .ok (.imul, 1) := by decide +kernel
theorem dX12_restore_79 : decode cX12_restore 79 = .ok (.iload_n 2, 1) := by decide +kernel
theorem dX12_restore_80 : decode cX12_restore 80 = .ok (.iadd, 1) := by decide +kernel
theorem dX12_restore_81 : decode cX12_restore 81 = .ok (.laload, 1) := by decide +kernel
theorem dX12_restore_82 : decode cX12_restore 82 = .ok (.lastore, 1) := by decide +kernel
theorem dX12_restore_83 : decode cX12_restore 83 = .ok (.iinc 2 1, 3) := by decide +kernel
theorem dX12_restore_86 : decode cX12_restore 86 = .ok (.goto (-26), 3) := by decide +kernel
theorem dX12_restore_89 : decode cX12_restore 89 = .ok (.aload_n 0, 1) := by decide +kernel
theorem dX12_restore_90 : decode cX12_restore 90 = .ok (.iconst 0, 1) := by decide +kernel
theorem dX12_restore_91 : decode cX12_restore 91 = .ok (.putfield 237, 3) := by decide +kernel
theorem dX12_restore_94 : decode cX12_restore 94 = .ok (.iconst 1, 1) := by decide +kernel
theorem dX12_restore_95 : decode cX12_restore 95 = .ok (.ireturn, 1) := by decide +kernel
set_option maxHeartbeats 4000000 in
theorem w_l_M_restore_0 {ad wad : Nat → Nat} {Γ : Ctx} (F : Nat) {n : Nat} (hn : 2 ≤ n) (hG : Cx SHm ad wad cX12_restore 3 RX12 (some .boolean) (n) Γ) {q : Int32 × HS} {x1 : Int32} {K0 : HS → Option (Int32 × HS)} {g : Nat} {x2 : Int32} {h : HS} (hd : l_M_restore_0 F x1 K0 g x2 h = some q) (hK0 : ∀ (z : HS), K0 z = some q → AW SHm ad 3 (some (.int q.1), q.2) Γ 58 [(0, .ref (ad 0)), (1, .int x1)] [] z) : AW SHm ad 3 (some (.int q.1), q.2) Γ 27 [(0, .ref (ad 0)), (1, .int x1), (2, .int x2)] [] h := by
  induction g generalizing x2 h with
  | zero => unfold l_M_restore_0 at hd; cases hd
  | succ g ih =>
    unfold l_M_restore_0 at hd
    refine a_iload_n (pc := 27) hG 2 rfl dX12_restore_27 rfl ?_
    refine a_sipush (pc := 28) hG dX12_restore_28 (v := (nI 332)) rfl ?_
    refine a_ic_ge (pc := 31) hG (tgt := 58) hd dX12_restore_31 (by decide) (fun hd => ?_) (fun hd => ?_)
    · exact AW.sub [0, 1] rfl (hK0  _ hd)
    refine a_aload_n (pc := 34) hG 0 rfl dX12_restore_34 rfl ?_
    refine a_getR (pc := 35) hG sm_0 cl_X12 ok_X12 6 (by decide) rfl t_1615 dX12_restore_35 ?_
    refine a_iload_n (pc := 38) hG 2 rfl dX12_restore_38 rfl ?_
    refine a_aload_n (pc := 39) hG 0 rfl dX12_restore_39 rfl ?_
    refine a_getR (pc := 40) hG sm_0 cl_X12 ok_X12 42 (by decide) rfl t_1651 dX12_restore_40 ?_
    refine a_sipush (pc := 43) hG dX12_restore_43 (v := (nI 332)) rfl ?_
    refine a_iload_n (pc := 46) hG 1 rfl dX12_restore_46 rfl ?_
    refine a_imul (pc := 47) hG dX12_restore_47 ?_
    refine a_iload_n (pc := 48) hG 2 rfl dX12_restore_48 rfl ?_
    refine a_iadd (pc := 49) hG dX12_restore_49 ?_
    refine a_iald (pc := 50) hG sm_16 hd dX12_restore_50 (fun hd => ?_)
    refine a_iast (pc := 51) hG sm_2 hd dX12_restore_51 (fun h5 hd => ?_)
    refine a_iincN (pc := 52) hG (c0 := (nI 1)) 2 rfl hd dX12_restore_52 rfl (by decide) (lf := fun x => [(2, .int x), (0, .ref (ad 0)), (1, .int x1)]) (fun _ => rfl) (fun v6 hd => ?_)
    refine a_goto (pc := 55) hG (tgt := 27) dX12_restore_55 (by decide) ?_
    exact AW.sub [1, 2, 0] rfl (ih hd)
set_option maxHeartbeats 4000000 in
theorem w_l_M_restore_1 {ad wad : Nat → Nat} {Γ : Ctx} (F : Nat) {n : Nat} (hn : 2 ≤ n) (hG : Cx SHm ad wad cX12_restore 3 RX12 (some .boolean) (n) Γ) {q : Int32 × HS} {x1 : Int32} {K0 : HS → Option (Int32 × HS)} {g : Nat} {x2 : Int32} {h : HS} (hd : l_M_restore_1 F x1 K0 g x2 h = some q) (hK0 : ∀ (z : HS), K0 z = some q → AW SHm ad 3 (some (.int q.1), q.2) Γ 89 [(0, .ref (ad 0))] [] z) : AW SHm ad 3 (some (.int q.1), q.2) Γ 60 [(0, .ref (ad 0)), (1, .int x1), (2, .int x2)] [] h := by
  induction g generalizing x2 h with
  | zero => unfold l_M_restore_1 at hd; cases hd
  | succ g ih =>
    unfold l_M_restore_1 at hd
    refine a_iload_n (pc := 60) hG 2 rfl dX12_restore_60 rfl ?_
    refine a_bipush (pc := 61) hG dX12_restore_61 (v := (nI 17)) rfl ?_
    refine a_ic_ge (pc := 63) hG (tgt := 89) hd dX12_restore_63 (by decide) (fun hd => ?_) (fun hd => ?_)
    · exact AW.sub [0] rfl (hK0  _ hd)
    refine a_aload_n (pc := 66) hG 0 rfl dX12_restore_66 rfl ?_
    refine a_getR (pc := 67) hG sm_0 cl_X12 ok_X12 9 (by decide) rfl t_1618 dX12_restore_67 ?_
    refine a_iload_n (pc := 70) hG 2 rfl dX12_restore_70 rfl ?_
    refine a_aload_n (pc := 71) hG 0 rfl dX12_restore_71 rfl ?_
    refine a_getR (pc := 72) hG sm_0 cl_X12 ok_X12 43 (by decide) rfl t_1652 dX12_restore_72 ?_
    refine a_bipush (pc := 75) hG dX12_restore_75 (v := (nI 17)) rfl ?_
    refine a_iload_n (pc := 77) hG 1 rfl dX12_restore_77 rfl ?_
    refine a_imul (pc := 78) hG dX12_restore_78 ?_
    refine a_iload_n (pc := 79) hG 2 rfl dX12_restore_79 rfl ?_
    refine a_iadd (pc := 80) hG dX12_restore_80 ?_
    refine a_lald (pc := 81) hG sm_17 hd dX12_restore_81 (fun hd => ?_)
    refine a_last (pc := 82) hG sm_5 hd dX12_restore_82 (fun h9 hd => ?_)
    refine a_iincN (pc := 83) hG (c0 := (nI 1)) 2 rfl hd dX12_restore_83 rfl (by decide) (lf := fun x => [(2, .int x), (0, .ref (ad 0)), (1, .int x1)]) (fun _ => rfl) (fun v10 hd => ?_)
    refine a_goto (pc := 86) hG (tgt := 60) dX12_restore_86 (by decide) ?_
    exact AW.sub [1, 2, 0] rfl (ih hd)
set_option maxHeartbeats 4000000 in
theorem c_M_restore {ad wad : Nat → Nat} (F : Nat) (a0 : Int32) (h : HS)  (q : Int32 × HS) (hd : f_M_restore F a0 h = some q) : Ctr SHm ad wad yX12_restore cX12_restore 3 (some .boolean) 2 [.ref (ad 0), .int a0] h (some (.int q.1), q.2) := by
  refine enter (own := RX12) (lv := [(0, .ref (ad 0)), (1, .int a0)]) (by decide +kernel) rfl (Nat.le_of_ble_eq_true rfl) rfl (fun Γ hG => ?_)
  unfold f_M_restore at hd
  refine a_aload_n (pc := 0) hG 0 rfl dX12_restore_0 rfl ?_
  refine a_iconst (pc := 1) hG dX12_restore_1 (v := (nI 0)) rfl ?_
  refine a_putI (pc := 2) hG sm_0 cl_X12 ok_X12 0 (by decide) rfl t_1609 rfl (ty := .int) rfl rfl rfl hd dX12_restore_2 (fun h1 hd => ?_)
  refine a_iload_n (pc := 5) hG 1 rfl dX12_restore_5 rfl ?_
  refine a_iconst (pc := 6) hG dX12_restore_6 (v := (nI 0)) rfl ?_
  refine a_iconst (pc := 7) hG dX12_restore_7 (v := (nI 1)) rfl ?_
  refine a_csI (pc := 8) hG (As := [.int a0, .int (nI 0), .int (nI 1)]) (st := []) mk_X12_isIn t_1795 (by omega) (fun z hz => c_M_isIn a0 (nI 0) (nI 1) _  z hz) rfl (Nat.le_of_ble_eq_true rfl) hd dX12_restore_8 (fun r3 h2 hd => ?_)
  refine a_if_eq (pc := 11) hG (tgt := 23) hd dX12_restore_11 (by decide) (fun hd => ?_) (fun hd => ?_)
  · refine a_iconst (pc := 23) hG dX12_restore_23 (v := (nI 0)) rfl ?_
    exact a_zret (pc := 24) hG hd dX12_restore_24
  refine a_aload_n (pc := 14) hG 0 rfl dX12_restore_14 rfl ?_
  refine a_getR (pc := 15) hG sm_0 cl_X12 ok_X12 44 (by decide) rfl t_1653 dX12_restore_15 ?_
  refine a_iload_n (pc := 18) hG 1 rfl dX12_restore_18 rfl ?_
  refine a_zald (pc := 19) hG sm_18 hd dX12_restore_19 (fun hd => ?_)
  refine a_if_ne (pc := 20) hG (tgt := 25) hd dX12_restore_20 (by decide) (fun hd => ?_) (fun hd => ?_)
  · refine a_iconst (pc := 25) hG dX12_restore_25 (v := (nI 0)) rfl ?_
    refine a_istore_nN (pc := 26) hG hd dX12_restore_26 rfl (by decide) (lf := fun x => [(2, .int x), (0, .ref (ad 0)), (1, .int a0)]) (fun _ => rfl) (fun v4 hd => ?_)
    refine AW.sub [1, 2, 0] rfl ?_
    refine w_l_M_restore_0 F (by omega) hG hd (fun h7 hd => ?_)
    refine a_iconst (pc := 58) hG dX12_restore_58 (v := (nI 0)) rfl ?_
    refine a_istore_nN (pc := 59) hG hd dX12_restore_59 rfl (by decide) (lf := fun x => [(2, .int x), (0, .ref (ad 0)), (1, .int a0)]) (fun _ => rfl) (fun v8 hd => ?_)
    refine AW.sub [1, 2, 0] rfl ?_
    refine w_l_M_restore_1 F (by omega) hG hd (fun h11 hd => ?_)
    refine a_aload_n (pc := 89) hG 0 rfl dX12_restore_89 rfl ?_
    refine a_iconst (pc := 90) hG dX12_restore_90 (v := (nI 0)) rfl ?_
    refine a_putI (pc := 91) hG sm_0 cl_X12 ok_X12 23 (by decide) rfl t_1632 rfl (ty := .int) rfl rfl rfl hd dX12_restore_91 (fun h12 hd => ?_)
    refine a_iconst (pc := 94) hG dX12_restore_94 (v := (nI 1)) rfl ?_
    exact a_zret (pc := 95) hG hd dX12_restore_95
  refine a_iconst (pc := 23) hG dX12_restore_23 (v := (nI 0)) rfl ?_
  exact a_zret (pc := 24) hG hd dX12_restore_24
theorem dX12_count_0 : decode cX12_count 0 = .ok (.aload_n 0, 1) := by decide +kernel
theorem dX12_count_1 : decode cX12_count 1 = .ok (.iconst 0, 1) := by decide +kernel
theorem dX12_count_2 : decode cX12_count 2 = .ok (.putfield 1, 3) := by decide +kernel
theorem dX12_count_5 : decode cX12_count 5 = .ok (.iload_n 1, 1) := by decide +kernel
theorem dX12_count_6 : decode cX12_count 6 = .ok (.bipush 6, 2) := by decide +kernel
theorem dX12_count_8 : decode cX12_count 8 = .ok (.if_icmp .ne 10, 3) := by decide +kernel
theorem dX12_count_11 : decode cX12_count 11 = .ok (.aload_n 0, 1) := by decide +kernel
theorem dX12_count_12 : decode cX12_count 12 = .ok (.getfield 7, 3) := by decide +kernel
theorem dX12_count_15 : decode cX12_count 15 = .ok (.goto 22, 3) := by decide +kernel
theorem dX12_count_18 : decode cX12_count 18 = .ok (.iload_n 1, 1) := by decide +kernel
theorem dX12_count_19 : decode cX12_count 19 = .ok (.iconst 0, 1) := by decide +kernel
theorem dX12_count_20 : decode cX12_count 20 = .ok (.iconst 5, 1) := by decide +kernel
theorem dX12_count_21 : decode cX12_count 21 = .ok (.invokestatic 184, 3) := by decide +kernel
theorem dX12_count_24 : decode cX12_count 24 = .ok (.ifCond .eq 12, 3) := by decide +kernel
theorem dX12_count_27 : decode cX12_count 27 = .ok (.aload_n 0, 1) := by decide +kernel
theorem dX12_count_28 : decode cX12_count 28 = .ok (.getfield 33, 3) := by decide +kernel
theorem dX12_count_31 : decode cX12_count 31 = .ok (.iload_n 1, 1) := by decide +kernel
theorem dX12_count_32 : decode cX12_count 32 = .ok (.iaload, 1) := by decide +kernel
theorem dX12_count_33 : decode cX12_count 33 = .ok (.goto 4, 3) := by decide +kernel
theorem dX12_count_36 : decode cX12_count 36 = .ok (.iconst (-1), 1) := by decide +kernel
theorem dX12_count_37 : decode cX12_count 37 = .ok (.ireturn, 1) := by decide +kernel
set_option maxHeartbeats 4000000 in
theorem c_M_count {ad wad : Nat → Nat} (a0 : Int32) (h : HS)  (q : Int32 × HS) (hd : f_M_count a0 h = some q) : Ctr SHm ad wad yX12_count cX12_count 2 (some .int) 2 [.ref (ad 0), .int a0] h (some (.int q.1), q.2) := by
  refine enter (own := RX12) (lv := [(0, .ref (ad 0)), (1, .int a0)]) (by decide +kernel) rfl (Nat.le_of_ble_eq_true rfl) rfl (fun Γ hG => ?_)
  unfold f_M_count at hd
  refine a_aload_n (pc := 0) hG 0 rfl dX12_count_0 rfl ?_
  refine a_iconst (pc := 1) hG dX12_count_1 (v := (nI 0)) rfl ?_
  refine a_putI (pc := 2) hG sm_0 cl_X12 ok_X12 0 (by decide) rfl t_1609 rfl (ty := .int) rfl rfl rfl hd dX12_count_2 (fun h1 hd => ?_)
  refine a_iload_n (pc := 5) hG 1 rfl dX12_count_5 rfl ?_
  refine a_bipush (pc := 6) hG dX12_count_6 (v := (nI 6)) rfl ?_
  refine a_ic_ne (pc := 8) hG (tgt := 18) hd dX12_count_8 (by decide) (fun hd => ?_) (fun hd => ?_)
  · refine a_iload_n (pc := 18) hG 1 rfl dX12_count_18 rfl ?_
    refine a_iconst (pc := 19) hG dX12_count_19 (v := (nI 0)) rfl ?_
    refine a_iconst (pc := 20) hG dX12_count_20 (v := (nI 5)) rfl ?_
    refine a_csI (pc := 21) hG (As := [.int a0, .int (nI 0), .int (nI 5)]) (st := []) mk_X12_isIn t_1795 (by omega) (fun z hz => c_M_isIn a0 (nI 0) (nI 5) _  z hz) rfl (Nat.le_of_ble_eq_true rfl) hd dX12_count_21 (fun r3 h2 hd => ?_)
    refine a_if_eq (pc := 24) hG (tgt := 36) hd dX12_count_24 (by decide) (fun hd => ?_) (fun hd => ?_)
    · refine a_iconst (pc := 36) hG dX12_count_36 (v := (-1 : Int32)) rfl ?_
      exact a_iret (pc := 37) hG hd dX12_count_37
    refine a_aload_n (pc := 27) hG 0 rfl dX12_count_27 rfl ?_
    refine a_getR (pc := 28) hG sm_0 cl_X12 ok_X12 6 (by decide) rfl t_1615 dX12_count_28 ?_
    refine a_iload_n (pc := 31) hG 1 rfl dX12_count_31 rfl ?_
    refine a_iald (pc := 32) hG sm_2 hd dX12_count_32 (fun hd => ?_)
    refine a_goto (pc := 33) hG (tgt := 37) dX12_count_33 (by decide) ?_
    exact a_iret (pc := 37) hG hd dX12_count_37
  refine a_aload_n (pc := 11) hG 0 rfl dX12_count_11 rfl ?_
  refine a_getI (pc := 12) hG sm_0 cl_X12 ok_X12 2 (by decide) rfl t_1611 dX12_count_12 ?_
  refine a_goto (pc := 15) hG (tgt := 37) dX12_count_15 (by decide) ?_
  exact a_iret (pc := 37) hG hd dX12_count_37
theorem dX8_length_0 : decode cX8_length 0 = .ok (.aload_n 0, 1) := by decide +kernel
theorem dX8_length_1 : decode cX8_length 1 = .ok (.getfield 15, 3) := by decide +kernel
theorem dX8_length_4 : decode cX8_length 4 = .ok (.ireturn, 1) := by decide +kernel
set_option maxHeartbeats 4000000 in
theorem c_Tape_length {ad wad : Nat → Nat}  (h : HS)  (q : Int32 × HS) (hd : f_Tape_length  h = some q) : Ctr SHc ad wad yX8_length cX8_length 1 (some .int) 1 [.ref (ad 1)] h (some (.int q.1), q.2) := by
  refine enter (own := RX8) (lv := [(0, .ref (ad 1))]) (by decide +kernel) rfl (Nat.le_of_ble_eq_true rfl) rfl (fun Γ hG => ?_)
  unfold f_Tape_length at hd
  refine a_aload_n (pc := 0) hG 0 rfl dX8_length_0 rfl ?_
  refine a_getI (pc := 1) hG sc_1 cl_X8 ok_X8 1 (by decide) rfl t_157 dX8_length_1 ?_
  exact a_iret (pc := 4) hG hd dX8_length_4
theorem dX8_addByte_0 : decode cX8_addByte 0 = .ok (.aload_n 0, 1) := by decide +kernel
theorem dX8_addByte_1 : decode cX8_addByte 1 = .ok (.getfield 15, 3) := by decide +kernel
theorem dX8_addByte_4 : decode cX8_addByte 4 = .ok (.aload_n 0, 1) := by decide +kernel
theorem dX8_addByte_5 : decode cX8_addByte 5 = .ok (.getfield 9, 3) := by decide +kernel
theorem dX8_addByte_8 : decode cX8_addByte 8 = .ok (.arraylength, 1) := by decide +kernel
theorem dX8_addByte_9 : decode cX8_addByte 9 = .ok (.if_icmp .ge 24, 3) := by decide +kernel
theorem dX8_addByte_12 : decode cX8_addByte 12 = .ok (.aload_n 0, 1) := by decide +kernel
theorem dX8_addByte_13 : decode cX8_addByte 13 = .ok (.getfield 9, 3) := by decide +kernel
theorem dX8_addByte_16 : decode cX8_addByte 16 = .ok (.aload_n 0, 1) := by decide +kernel
theorem dX8_addByte_17 : decode cX8_addByte 17 = .ok (.getfield 15, 3) := by decide +kernel
theorem dX8_addByte_20 : decode cX8_addByte 20 = .ok (.iload_n 1, 1) := by decide +kernel
theorem dX8_addByte_21 : decode cX8_addByte 21 = .ok (.i2b, 1) := by decide +kernel
theorem dX8_addByte_22 : decode cX8_addByte 22 = .ok (.bastore, 1) := by decide +kernel
theorem dX8_addByte_23 : decode cX8_addByte 23 = .ok (.aload_n 0, 1) := by decide +kernel
theorem dX8_addByte_24 : decode cX8_addByte 24 = .ok (.dup, 1) := by decide +kernel
theorem dX8_addByte_25 : decode cX8_addByte 25 = .ok (.getfield 15, 3) := by decide +kernel
theorem dX8_addByte_28 : decode cX8_addByte 28 = .ok (.iconst 1, 1) := by decide +kernel
theorem dX8_addByte_29 : decode cX8_addByte 29 = .ok (.iadd, 1) := by decide +kernel
theorem dX8_addByte_30 : decode cX8_addByte 30 = .ok (.putfield 15, 3) := by decide +kernel
theorem dX8_addByte_33 : decode cX8_addByte 33 = .ok (.return_, 1) := by decide +kernel
set_option maxHeartbeats 4000000 in
theorem c_Tape_addByte {ad wad : Nat → Nat} (a0 : Int32) (h : HS)  (q : Unit × HS) (hd : f_Tape_addByte a0 h = some q) : Ctr SHc ad wad yX8_addByte cX8_addByte 2 none 1 [.ref (ad 1), .int a0] h (none, q.2) := by
  refine enter (own := RX8) (lv := [(0, .ref (ad 1)), (1, .int a0)]) (by decide +kernel) rfl (Nat.le_of_ble_eq_true rfl) rfl (fun Γ hG => ?_)
  unfold f_Tape_addByte at hd
  refine a_aload_n (pc := 0) hG 0 rfl dX8_addByte_0 rfl ?_
  refine a_getI (pc := 1) hG sc_1 cl_X8 ok_X8 1 (by decide) rfl t_157 dX8_addByte_1 ?_
  refine a_aload_n (pc := 4) hG 0 rfl dX8_addByte_4 rfl ?_
  refine a_getR (pc := 5) hG sc_1 cl_X8 ok_X8 0 (by decide) rfl t_156 dX8_addByte_5 ?_
  refine a_alenI (pc := 8) hG sc_2 (fun _ => rfl) (v := nI 940) rfl dX8_addByte_8 ?_
  refine a_ic_ge (pc := 9) hG (tgt := 33) hd dX8_addByte_9 (by decide) (fun hd => ?_) (fun hd => ?_)
  · exact a_vret (pc := 33) hG hd dX8_addByte_33
  refine a_aload_n (pc := 12) hG 0 rfl dX8_addByte_12 rfl ?_
  refine a_getR (pc := 13) hG sc_1 cl_X8 ok_X8 0 (by decide) rfl t_156 dX8_addByte_13 ?_
  refine a_aload_n (pc := 16) hG 0 rfl dX8_addByte_16 rfl ?_
  refine a_getI (pc := 17) hG sc_1 cl_X8 ok_X8 1 (by decide) rfl t_157 dX8_addByte_17 ?_
  refine a_iload_n (pc := 20) hG 1 rfl dX8_addByte_20 rfl ?_
  refine a_i2b (pc := 21) hG dX8_addByte_21 ?_
  refine a_bast (pc := 22) hG sc_2 hd dX8_addByte_22 (fun h1 hd => ?_)
  refine a_aload_n (pc := 23) hG 0 rfl dX8_addByte_23 rfl ?_
  refine a_dup (pc := 24) hG dX8_addByte_24 rfl ?_
  refine a_getI (pc := 25) hG sc_1 cl_X8 ok_X8 1 (by decide) rfl t_157 dX8_addByte_25 ?_
  refine a_iconst (pc := 28) hG dX8_addByte_28 (v := (nI 1)) rfl ?_
  refine a_iadd (pc := 29) hG dX8_addByte_29 ?_
  refine a_putI (pc := 30) hG sc_1 cl_X8 ok_X8 1 (by decide) rfl t_157 rfl (ty := .int) rfl rfl rfl hd dX8_addByte_30 (fun h2 hd => ?_)
  exact a_vret (pc := 33) hG hd dX8_addByte_33
theorem dX8_addNumber_0 : decode cX8_addNumber 0 = .ok (.aload_n 0, 1) := by decide +kernel
theorem dX8_addNumber_1 : decode cX8_addNumber 1 = .ok (.iload_n 1, 1) := by decide +kernel
theorem dX8_addNumber_2 : decode cX8_addNumber 2 = .ok (.bipush 24, 2) := by decide +kernel
theorem dX8_addNumber_4 : decode cX8_addNumber 4 = .ok (.iushr, 1) := by decide +kernel
theorem dX8_addNumber_5 : decode cX8_addNumber 5 = .ok (.invokevirtual 47, 3) := by decide +kernel
theorem dX8_addNumber_8 : decode cX8_addNumber 8 = .ok (.aload_n 0, 1) := by decide +kernel
theorem dX8_addNumber_9 : decode cX8_addNumber 9 = .ok (.iload_n 1, 1) := by decide +kernel
theorem dX8_addNumber_10 : decode cX8_addNumber 10 = .ok (.bipush 16, 2) := by decide +kernel
theorem dX8_addNumber_12 : decode cX8_addNumber 12 = .ok (.iushr, 1) := by decide +kernel
theorem dX8_addNumber_13 : decode cX8_addNumber 13 = .ok (.invokevirtual 47, 3) := by decide +kernel
theorem dX8_addNumber_16 : decode cX8_addNumber 16 = .ok (.aload_n 0, 1) := by decide +kernel
theorem dX8_addNumber_17 : decode cX8_addNumber 17 = .ok (.iload_n 1, 1) := by decide +kernel
theorem dX8_addNumber_18 : decode cX8_addNumber 18 = .ok (.bipush 8, 2) := by decide +kernel
theorem dX8_addNumber_20 : decode cX8_addNumber 20 = .ok (.iushr, 1) := by decide +kernel
theorem dX8_addNumber_21 : decode cX8_addNumber 21 = .ok (.invokevirtual 47, 3) := by decide +kernel
theorem dX8_addNumber_24 : decode cX8_addNumber 24 = .ok (.aload_n 0, 1) := by decide +kernel
theorem dX8_addNumber_25 : decode cX8_addNumber 25 = .ok (.iload_n 1, 1) := by decide +kernel
theorem dX8_addNumber_26 : decode cX8_addNumber 26 = .ok (.invokevirtual 47, 3) := by decide +kernel
theorem dX8_addNumber_29 : decode cX8_addNumber 29 = .ok (.return_, 1) := by decide +kernel
set_option maxHeartbeats 4000000 in
theorem c_Tape_addNumber {ad wad : Nat → Nat} (a0 : Int32) (h : HS)  (q : Unit × HS) (hd : f_Tape_addNumber a0 h = some q) : Ctr SHc ad wad yX8_addNumber cX8_addNumber 2 none 2 [.ref (ad 1), .int a0] h (none, q.2) := by
  refine enter (own := RX8) (lv := [(0, .ref (ad 1)), (1, .int a0)]) (by decide +kernel) rfl (Nat.le_of_ble_eq_true rfl) rfl (fun Γ hG => ?_)
  unfold f_Tape_addNumber at hd
  refine a_aload_n (pc := 0) hG 0 rfl dX8_addNumber_0 rfl ?_
  refine a_iload_n (pc := 1) hG 1 rfl dX8_addNumber_1 rfl ?_
  refine a_bipush (pc := 2) hG dX8_addNumber_2 (v := (nI 24)) rfl ?_
  refine a_iushr (pc := 4) hG dX8_addNumber_4 ?_
  refine a_cvN (pc := 5) hG (As := [.int ((Int32.toUInt32 a0 >>> (Int32.toUInt32 (nI 24) &&& Int32.toUInt32 31)).toInt32)]) (st := []) sc_1 cl_X8 mk_X8_addByte t_545 (by omega) (fun z hz => c_Tape_addByte ((Int32.toUInt32 a0 >>> (Int32.toUInt32 (nI 24) &&& Int32.toUInt32 31)).toInt32) _  z hz) rfl (Nat.le_of_ble_eq_true rfl) hd dX8_addNumber_5 (fun _ h1 hd => ?_)
  refine a_aload_n (pc := 8) hG 0 rfl dX8_addNumber_8 rfl ?_
  refine a_iload_n (pc := 9) hG 1 rfl dX8_addNumber_9 rfl ?_
  refine a_bipush (pc := 10) hG dX8_addNumber_10 (v := (nI 16)) rfl ?_
  refine a_iushr (pc := 12) hG dX8_addNumber_12 ?_
  refine a_cvN (pc := 13) hG (As := [.int ((Int32.toUInt32 a0 >>> (Int32.toUInt32 (nI 16) &&& Int32.toUInt32 31)).toInt32)]) (st := []) sc_1 cl_X8 mk_X8_addByte t_545 (by omega) (fun z hz => c_Tape_addByte ((Int32.toUInt32 a0 >>> (Int32.toUInt32 (nI 16) &&& Int32.toUInt32 31)).toInt32) _  z hz) rfl (Nat.le_of_ble_eq_true rfl) hd dX8_addNumber_13 (fun _ h2 hd => ?_)
  refine a_aload_n (pc := 16) hG 0 rfl dX8_addNumber_16 rfl ?_
  refine a_iload_n (pc := 17) hG 1 rfl dX8_addNumber_17 rfl ?_
  refine a_bipush (pc := 18) hG dX8_addNumber_18 (v := (nI 8)) rfl ?_
  refine a_iushr (pc := 20) hG dX8_addNumber_20 ?_
  refine a_cvN (pc := 21) hG (As := [.int ((Int32.toUInt32 a0 >>> (Int32.toUInt32 (nI 8) &&& Int32.toUInt32 31)).toInt32)]) (st := []) sc_1 cl_X8 mk_X8_addByte t_545 (by omega) (fun z hz => c_Tape_addByte ((Int32.toUInt32 a0 >>> (Int32.toUInt32 (nI 8) &&& Int32.toUInt32 31)).toInt32) _  z hz) rfl (Nat.le_of_ble_eq_true rfl) hd dX8_addNumber_21 (fun _ h3 hd => ?_)
  refine a_aload_n (pc := 24) hG 0 rfl dX8_addNumber_24 rfl ?_
  refine a_iload_n (pc := 25) hG 1 rfl dX8_addNumber_25 rfl ?_
  refine a_cvN (pc := 26) hG (As := [.int a0]) (st := []) sc_1 cl_X8 mk_X8_addByte t_545 (by omega) (fun z hz => c_Tape_addByte a0 _  z hz) rfl (Nat.le_of_ble_eq_true rfl) hd dX8_addNumber_26 (fun _ h4 hd => ?_)
  exact a_vret (pc := 29) hG hd dX8_addNumber_29
theorem dX11_feed_0 : decode cX11_feed 0 = .ok (.aload_n 0, 1) := by decide +kernel
theorem dX11_feed_1 : decode cX11_feed 1 = .ok (.getfield 12, 3) := by decide +kernel
theorem dX11_feed_4 : decode cX11_feed 4 = .ok (.invokevirtual 116, 3) := by decide +kernel
theorem dX11_feed_7 : decode cX11_feed 7 = .ok (.bipush 20, 2) := by decide +kernel
theorem dX11_feed_9 : decode cX11_feed 9 = .ok (.iadd, 1) := by decide +kernel
theorem dX11_feed_10 : decode cX11_feed 10 = .ok (.sipush 940, 3) := by decide +kernel
theorem dX11_feed_13 : decode cX11_feed 13 = .ok (.if_icmp .le 5, 3) := by decide +kernel
theorem dX11_feed_16 : decode cX11_feed 16 = .ok (.iconst (-1), 1) := by decide +kernel
theorem dX11_feed_17 : decode cX11_feed 17 = .ok (.ireturn, 1) := by decide +kernel
theorem dX11_feed_18 : decode cX11_feed 18 = .ok (.aload_n 0, 1) := by decide +kernel
theorem dX11_feed_19 : decode cX11_feed 19 = .ok (.getfield 12, 3) := by decide +kernel
theorem dX11_feed_22 : decode cX11_feed 22 = .ok (.iload_n 1, 1) := by decide +kernel
theorem dX11_feed_23 : decode cX11_feed 23 = .ok (.invokevirtual 120, 3) := by decide +kernel
theorem dX11_feed_26 : decode cX11_feed 26 = .ok (.aload_n 0, 1) := by decide +kernel
theorem dX11_feed_27 : decode cX11_feed 27 = .ok (.getfield 12, 3) := by decide +kernel
theorem dX11_feed_30 : decode cX11_feed 30 = .ok (.iload_n 2, 1) := by decide +kernel
theorem dX11_feed_31 : decode cX11_feed 31 = .ok (.invokevirtual 120, 3) := by decide +kernel
theorem dX11_feed_34 : decode cX11_feed 34 = .ok (.aload_n 0, 1) := by decide +kernel
theorem dX11_feed_35 : decode cX11_feed 35 = .ok (.getfield 12, 3) := by decide +kernel
theorem dX11_feed_38 : decode cX11_feed 38 = .ok (.iload_n 3, 1) := by decide +kernel
theorem dX11_feed_39 : decode cX11_feed 39 = .ok (.invokevirtual 120, 3) := by decide +kernel
theorem dX11_feed_42 : decode cX11_feed 42 = .ok (.aload_n 0, 1) := by decide +kernel
theorem dX11_feed_43 : decode cX11_feed 43 = .ok (.getfield 12, 3) := by decide +kernel
theorem dX11_feed_46 : decode cX11_feed 46 = .ok (.iload 4, 2) := by decide +kernel
theorem dX11_feed_48 : decode cX11_feed 48 = .ok (.invokevirtual 120, 3) := by decide +kernel
theorem dX11_feed_51 : decode cX11_feed 51 = .ok (.aload_n 0, 1) := by decide +kernel
theorem dX11_feed_52 : decode cX11_feed 52 = .ok (.getfield 12, 3) := by decide +kernel
theorem dX11_feed_55 : decode cX11_feed 55 = .ok (.iload 5, 2) := by decide +kernel
theorem dX11_feed_57 : decode cX11_feed 57 = .ok (.invokevirtual 120, 3) := by decide +kernel
theorem dX11_feed_60 : decode cX11_feed 60 = .ok (.aload_n 0, 1) := by decide +kernel
theorem dX11_feed_61 : decode cX11_feed 61 = .ok (.getfield 12, 3) := by decide +kernel
theorem dX11_feed_64 : decode cX11_feed 64 = .ok (.invokevirtual 116, 3) := by decide +kernel
theorem dX11_feed_67 : decode cX11_feed 67 = .ok (.ireturn, 1) := by decide +kernel
set_option maxHeartbeats 4000000 in
theorem c_LC_feed {ad wad : Nat → Nat} (a0 : Int32) (a1 : Int32) (a2 : Int32) (a3 : Int32) (a4 : Int32) (h : HS)  (q : Int32 × HS) (hd : f_LC_feed a0 a1 a2 a3 a4 h = some q) : Ctr SHc ad wad yX11_feed cX11_feed 6 (some .int) 3 [.ref (ad 0), .int a0, .int a1, .int a2, .int a3, .int a4] h (some (.int q.1), q.2) := by
  refine enter (own := RX11) (lv := [(0, .ref (ad 0)), (1, .int a0), (2, .int a1), (3, .int a2), (4, .int a3), (5, .int a4)]) (by decide +kernel) rfl (Nat.le_of_ble_eq_true rfl) rfl (fun Γ hG => ?_)
  unfold f_LC_feed at hd
  refine a_aload_n (pc := 0) hG 0 rfl dX11_feed_0 rfl ?_
  refine a_getR (pc := 1) hG sc_0 cl_X11 ok_X11 0 (by decide) rfl t_481 dX11_feed_1 ?_
  refine a_cvI (pc := 4) hG (As := []) (st := []) sc_1 cl_X8 mk_X8_length t_537 (by omega) (fun z hz => c_Tape_length  _  z hz) rfl (Nat.le_of_ble_eq_true rfl) hd dX11_feed_4 (fun r2 h1 hd => ?_)
  refine a_bipush (pc := 7) hG dX11_feed_7 (v := (nI 20)) rfl ?_
  refine a_iadd (pc := 9) hG dX11_feed_9 ?_
  refine a_sipush (pc := 10) hG dX11_feed_10 (v := (nI 940)) rfl ?_
  refine a_ic_le (pc := 13) hG (tgt := 18) hd dX11_feed_13 (by decide) (fun hd => ?_) (fun hd => ?_)
  · refine a_aload_n (pc := 18) hG 0 rfl dX11_feed_18 rfl ?_
    refine a_getR (pc := 19) hG sc_0 cl_X11 ok_X11 0 (by decide) rfl t_481 dX11_feed_19 ?_
    refine a_iload_n (pc := 22) hG 1 rfl dX11_feed_22 rfl ?_
    refine a_cvN (pc := 23) hG (As := [.int a0]) (st := []) sc_1 cl_X8 mk_X8_addNumber t_541 (by omega) (fun z hz => c_Tape_addNumber a0 _  z hz) rfl (Nat.le_of_ble_eq_true rfl) hd dX11_feed_23 (fun _ h3 hd => ?_)
    refine a_aload_n (pc := 26) hG 0 rfl dX11_feed_26 rfl ?_
    refine a_getR (pc := 27) hG sc_0 cl_X11 ok_X11 0 (by decide) rfl t_481 dX11_feed_27 ?_
    refine a_iload_n (pc := 30) hG 2 rfl dX11_feed_30 rfl ?_
    refine a_cvN (pc := 31) hG (As := [.int a1]) (st := []) sc_1 cl_X8 mk_X8_addNumber t_541 (by omega) (fun z hz => c_Tape_addNumber a1 _  z hz) rfl (Nat.le_of_ble_eq_true rfl) hd dX11_feed_31 (fun _ h4 hd => ?_)
    refine a_aload_n (pc := 34) hG 0 rfl dX11_feed_34 rfl ?_
    refine a_getR (pc := 35) hG sc_0 cl_X11 ok_X11 0 (by decide) rfl t_481 dX11_feed_35 ?_
    refine a_iload_n (pc := 38) hG 3 rfl dX11_feed_38 rfl ?_
    refine a_cvN (pc := 39) hG (As := [.int a2]) (st := []) sc_1 cl_X8 mk_X8_addNumber t_541 (by omega) (fun z hz => c_Tape_addNumber a2 _  z hz) rfl (Nat.le_of_ble_eq_true rfl) hd dX11_feed_39 (fun _ h5 hd => ?_)
    refine a_aload_n (pc := 42) hG 0 rfl dX11_feed_42 rfl ?_
    refine a_getR (pc := 43) hG sc_0 cl_X11 ok_X11 0 (by decide) rfl t_481 dX11_feed_43 ?_
    refine a_iload (pc := 46) hG 4 rfl dX11_feed_46 ?_
    refine a_cvN (pc := 48) hG (As := [.int a3]) (st := []) sc_1 cl_X8 mk_X8_addNumber t_541 (by omega) (fun z hz => c_Tape_addNumber a3 _  z hz) rfl (Nat.le_of_ble_eq_true rfl) hd dX11_feed_48 (fun _ h6 hd => ?_)
    refine a_aload_n (pc := 51) hG 0 rfl dX11_feed_51 rfl ?_
    refine a_getR (pc := 52) hG sc_0 cl_X11 ok_X11 0 (by decide) rfl t_481 dX11_feed_52 ?_
    refine a_iload (pc := 55) hG 5 rfl dX11_feed_55 ?_
    refine a_cvN (pc := 57) hG (As := [.int a4]) (st := []) sc_1 cl_X8 mk_X8_addNumber t_541 (by omega) (fun z hz => c_Tape_addNumber a4 _  z hz) rfl (Nat.le_of_ble_eq_true rfl) hd dX11_feed_57 (fun _ h7 hd => ?_)
    refine a_aload_n (pc := 60) hG 0 rfl dX11_feed_60 rfl ?_
    refine a_getR (pc := 61) hG sc_0 cl_X11 ok_X11 0 (by decide) rfl t_481 dX11_feed_61 ?_
    refine a_cvI (pc := 64) hG (As := []) (st := []) sc_1 cl_X8 mk_X8_length t_537 (by omega) (fun z hz => c_Tape_length  _  z hz) rfl (Nat.le_of_ble_eq_true rfl) hd dX11_feed_64 (fun r9 h8 hd => ?_)
    exact a_iret (pc := 67) hG hd dX11_feed_67
  refine a_iconst (pc := 16) hG dX11_feed_16 (v := (-1 : Int32)) rfl ?_
  exact a_iret (pc := 17) hG hd dX11_feed_17
theorem dX8_cutTo_0 : decode cX8_cutTo 0 = .ok (.iload_n 1, 1) := by decide +kernel
theorem dX8_cutTo_1 : decode cX8_cutTo 1 = .ok (.ifCond .lt 11, 3) := by decide +kernel
theorem dX8_cutTo_4 : decode cX8_cutTo 4 = .ok (.iload_n 1, 1) := by decide +kernel
theorem dX8_cutTo_5 : decode cX8_cutTo 5 = .ok (.aload_n 0, 1) := by decide +kernel
theorem dX8_cutTo_6 : decode cX8_cutTo 6 = .ok (.getfield 15, 3) := by decide +kernel
theorem dX8_cutTo_9 : decode cX8_cutTo 9 = .ok (.if_icmp .le 5, 3) := by decide +kernel
theorem dX8_cutTo_12 : decode cX8_cutTo 12 = .ok (.iconst 0, 1) := by decide +kernel
theorem dX8_cutTo_13 : decode cX8_cutTo 13 = .ok (.ireturn, 1) := by decide +kernel
theorem dX8_cutTo_14 : decode cX8_cutTo 14 = .ok (.aload_n 0, 1) := by decide +kernel
theorem dX8_cutTo_15 : decode cX8_cutTo 15 = .ok (.iload_n 1, 1) := by decide +kernel
theorem dX8_cutTo_16 : decode cX8_cutTo 16 = .ok (.putfield 15, 3) := by decide +kernel
theorem dX8_cutTo_19 : decode cX8_cutTo 19 = .ok (.iconst 1, 1) := by decide +kernel
theorem dX8_cutTo_20 : decode cX8_cutTo 20 = .ok (.ireturn, 1) := by decide +kernel
set_option maxHeartbeats 4000000 in
theorem c_Tape_cutTo {ad wad : Nat → Nat} (a0 : Int32) (h : HS)  (q : Int32 × HS) (hd : f_Tape_cutTo a0 h = some q) : Ctr SHc ad wad yX8_cutTo cX8_cutTo 2 (some .boolean) 1 [.ref (ad 1), .int a0] h (some (.int q.1), q.2) := by
  refine enter (own := RX8) (lv := [(0, .ref (ad 1)), (1, .int a0)]) (by decide +kernel) rfl (Nat.le_of_ble_eq_true rfl) rfl (fun Γ hG => ?_)
  unfold f_Tape_cutTo at hd
  refine a_iload_n (pc := 0) hG 1 rfl dX8_cutTo_0 rfl ?_
  refine a_if_lt (pc := 1) hG (tgt := 12) hd dX8_cutTo_1 (by decide) (fun hd => ?_) (fun hd => ?_)
  · refine a_iconst (pc := 12) hG dX8_cutTo_12 (v := (nI 0)) rfl ?_
    exact a_zret (pc := 13) hG hd dX8_cutTo_13
  refine a_iload_n (pc := 4) hG 1 rfl dX8_cutTo_4 rfl ?_
  refine a_aload_n (pc := 5) hG 0 rfl dX8_cutTo_5 rfl ?_
  refine a_getI (pc := 6) hG sc_1 cl_X8 ok_X8 1 (by decide) rfl t_157 dX8_cutTo_6 ?_
  refine a_ic_le (pc := 9) hG (tgt := 14) hd dX8_cutTo_9 (by decide) (fun hd => ?_) (fun hd => ?_)
  · refine a_aload_n (pc := 14) hG 0 rfl dX8_cutTo_14 rfl ?_
    refine a_iload_n (pc := 15) hG 1 rfl dX8_cutTo_15 rfl ?_
    refine a_putI (pc := 16) hG sc_1 cl_X8 ok_X8 1 (by decide) rfl t_157 rfl (ty := .int) rfl rfl rfl hd dX8_cutTo_16 (fun h1 hd => ?_)
    refine a_iconst (pc := 19) hG dX8_cutTo_19 (v := (nI 1)) rfl ?_
    exact a_zret (pc := 20) hG hd dX8_cutTo_20
  refine a_iconst (pc := 12) hG dX8_cutTo_12 (v := (nI 0)) rfl ?_
  exact a_zret (pc := 13) hG hd dX8_cutTo_13
theorem dX11_end_0 : decode cX11_end 0 = .ok (.aload_n 0, 1) := by decide +kernel
theorem dX11_end_1 : decode cX11_end 1 = .ok (.getfield 12, 3) := by decide +kernel
theorem dX11_end_4 : decode cX11_end 4 = .ok (.iload_n 1, 1) := by decide +kernel
theorem dX11_end_5 : decode cX11_end 5 = .ok (.invokevirtual 124, 3) := by decide +kernel
theorem dX11_end_8 : decode cX11_end 8 = .ok (.ireturn, 1) := by decide +kernel
set_option maxHeartbeats 4000000 in
theorem c_LC_end {ad wad : Nat → Nat} (a0 : Int32) (h : HS)  (q : Int32 × HS) (hd : f_LC_end a0 h = some q) : Ctr SHc ad wad yX11_end cX11_end 2 (some .boolean) 2 [.ref (ad 0), .int a0] h (some (.int q.1), q.2) := by
  refine enter (own := RX11) (lv := [(0, .ref (ad 0)), (1, .int a0)]) (by decide +kernel) rfl (Nat.le_of_ble_eq_true rfl) rfl (fun Γ hG => ?_)
  unfold f_LC_end at hd
  refine a_aload_n (pc := 0) hG 0 rfl dX11_end_0 rfl ?_
  refine a_getR (pc := 1) hG sc_0 cl_X11 ok_X11 0 (by decide) rfl t_481 dX11_end_1 ?_
  refine a_iload_n (pc := 4) hG 1 rfl dX11_end_4 rfl ?_
  refine a_cvI (pc := 5) hG (As := [.int a0]) (st := []) sc_1 cl_X8 mk_X8_cutTo t_553 (by omega) (fun z hz => c_Tape_cutTo a0 _  z hz) rfl (Nat.le_of_ble_eq_true rfl) hd dX11_end_5 (fun r2 h1 hd => ?_)
  exact a_zret (pc := 8) hG hd dX11_end_8
theorem dX5_empty_0 : decode cX5_empty 0 = .ok (.aload_n 0, 1) := by decide +kernel
theorem dX5_empty_1 : decode cX5_empty 1 = .ok (.iconst 1, 1) := by decide +kernel
theorem dX5_empty_2 : decode cX5_empty 2 = .ok (.putfield 9, 3) := by decide +kernel
theorem dX5_empty_5 : decode cX5_empty 5 = .ok (.aload_n 0, 1) := by decide +kernel
theorem dX5_empty_6 : decode cX5_empty 6 = .ok (.bipush 9, 2) := by decide +kernel
theorem dX5_empty_8 : decode cX5_empty 8 = .ok (.putfield 15, 3) := by decide +kernel
theorem dX5_empty_11 : decode cX5_empty 11 = .ok (.aload_n 0, 1) := by decide +kernel
theorem dX5_empty_12 : decode cX5_empty 12 = .ok (.bipush 50, 2) := by decide +kernel
theorem dX5_empty_14 : decode cX5_empty 14 = .ok (.putfield 18, 3) := by decide +kernel
theorem dX5_empty_17 : decode cX5_empty 17 = .ok (.aload_n 0, 1) := by decide +kernel
theorem dX5_empty_18 : decode cX5_empty 18 = .ok (.iconst 0, 1) := by decide +kernel
theorem dX5_empty_19 : decode cX5_empty 19 = .ok (.putfield 21, 3) := by decide +kernel
theorem dX5_empty_22 : decode cX5_empty 22 = .ok (.aload_n 0, 1) := by decide +kernel
theorem dX5_empty_23 : decode cX5_empty 23 = .ok (.iconst 0, 1) := by decide +kernel
theorem dX5_empty_24 : decode cX5_empty 24 = .ok (.putfield 24, 3) := by decide +kernel
theorem dX5_empty_27 : decode cX5_empty 27 = .ok (.aload_n 0, 1) := by decide +kernel
theorem dX5_empty_28 : decode cX5_empty 28 = .ok (.iconst 0, 1) := by decide +kernel
theorem dX5_empty_29 : decode cX5_empty 29 = .ok (.putfield 27, 3) := by decide +kernel
theorem dX5_empty_32 : decode cX5_empty 32 = .ok (.iconst 0, 1) := by decide +kernel
theorem dX5_empty_33 : decode cX5_empty 33 = .ok (.istore_n 1, 1) := by decide +kernel
theorem dX5_empty_34 : decode cX5_empty 34 = .ok (.iload_n 1, 1) := by decide +kernel
theorem dX5_empty_35 : decode cX5_empty 35 = .ok (.aload_n 0, 1) := by decide +kernel
theorem dX5_empty_36 : decode cX5_empty 36 = .ok (.getfield 44, 3) := by decide +kernel
theorem dX5_empty_39 : decode cX5_empty 39 = .ok (.arraylength, 1) := by decide +kernel
theorem dX5_empty_40 : decode cX5_empty 40 = .ok (.if_icmp .ge 16, 3) := by decide +kernel
theorem dX5_empty_43 : decode cX5_empty 43 = .ok (.aload_n 0, 1) := by decide +kernel
theorem dX5_empty_44 : decode cX5_empty 44 = .ok (.getfield 44, 3) := by decide +kernel
theorem dX5_empty_47 : decode cX5_empty 47 = .ok (.iload_n 1, 1) := by decide +kernel
theorem dX5_empty_48 : decode cX5_empty 48 = .ok (.iconst 0, 1) := by decide +kernel
theorem dX5_empty_49 : decode cX5_empty 49 = .ok (.iastore, 1) := by decide +kernel
theorem dX5_empty_50 : decode cX5_empty 50 = .ok (.iinc 1 1, 3) := by decide +kernel
theorem dX5_empty_53 : decode cX5_empty 53 = .ok (.goto (-19), 3) := by decide +kernel
theorem dX5_empty_56 : decode cX5_empty 56 = .ok (.return_, 1) := by decide +kernel
set_option maxHeartbeats 4000000 in
theorem w_l_Plan_empty_11_0 {ad wad : Nat → Nat} {Γ : Ctx} (F : Nat) {n : Nat} (hn : 1 ≤ n) (hG : Cx SHc ad wad cX5_empty 2 RX5 none (n) Γ) {q : Unit × HS} {g : Nat} {x1 : Int32} {h : HS} (hd : l_Plan_empty_11_0 F g x1 h = some q) : AW SHc ad 2 (none, q.2) Γ 34 [(0, .ref (ad 11)), (1, .int x1)] [] h := by
  induction g generalizing x1 h with
  | zero => unfold l_Plan_empty_11_0 at hd; cases hd
  | succ g ih =>
    unfold l_Plan_empty_11_0 at hd
    refine a_iload_n (pc := 34) hG 1 rfl dX5_empty_34 rfl ?_
    refine a_aload_n (pc := 35) hG 0 rfl dX5_empty_35 rfl ?_
    refine a_getR (pc := 36) hG sc_11 cl_X5 ok_X5 10 (by decide) rfl t_207 dX5_empty_36 ?_
    refine a_alenI (pc := 39) hG sc_16 (fun _ => rfl) (v := nI 12) rfl dX5_empty_39 ?_
    refine a_ic_ge (pc := 40) hG (tgt := 56) hd dX5_empty_40 (by decide) (fun hd => ?_) (fun hd => ?_)
    · exact a_vret (pc := 56) hG hd dX5_empty_56
    refine a_aload_n (pc := 43) hG 0 rfl dX5_empty_43 rfl ?_
    refine a_getR (pc := 44) hG sc_11 cl_X5 ok_X5 10 (by decide) rfl t_207 dX5_empty_44 ?_
    refine a_iload_n (pc := 47) hG 1 rfl dX5_empty_47 rfl ?_
    refine a_iconst (pc := 48) hG dX5_empty_48 (v := (nI 0)) rfl ?_
    refine a_iast (pc := 49) hG sc_16 hd dX5_empty_49 (fun h8 hd => ?_)
    refine a_iincN (pc := 50) hG (c0 := (nI 1)) 1 rfl hd dX5_empty_50 rfl (by decide) (lf := fun x => [(1, .int x), (0, .ref (ad 11))]) (fun _ => rfl) (fun v9 hd => ?_)
    refine a_goto (pc := 53) hG (tgt := 34) dX5_empty_53 (by decide) ?_
    exact AW.sub [1, 0] rfl (ih hd)
set_option maxHeartbeats 4000000 in
theorem c_Plan_empty_11 {ad wad : Nat → Nat} (F : Nat)  (h : HS)  (q : Unit × HS) (hd : f_Plan_empty_11 F  h = some q) : Ctr SHc ad wad yX5_empty cX5_empty 2 none 1 [.ref (ad 11)] h (none, q.2) := by
  refine enter (own := RX5) (lv := [(0, .ref (ad 11))]) (by decide +kernel) rfl (Nat.le_of_ble_eq_true rfl) rfl (fun Γ hG => ?_)
  unfold f_Plan_empty_11 at hd
  refine a_aload_n (pc := 0) hG 0 rfl dX5_empty_0 rfl ?_
  refine a_iconst (pc := 1) hG dX5_empty_1 (v := (nI 1)) rfl ?_
  refine a_putI (pc := 2) hG sc_11 cl_X5 ok_X5 0 (by decide) rfl t_197 rfl (ty := .int) rfl rfl rfl hd dX5_empty_2 (fun h1 hd => ?_)
  refine a_aload_n (pc := 5) hG 0 rfl dX5_empty_5 rfl ?_
  refine a_bipush (pc := 6) hG dX5_empty_6 (v := (nI 9)) rfl ?_
  refine a_putI (pc := 8) hG sc_11 cl_X5 ok_X5 1 (by decide) rfl t_198 rfl (ty := .int) rfl rfl rfl hd dX5_empty_8 (fun h2 hd => ?_)
  refine a_aload_n (pc := 11) hG 0 rfl dX5_empty_11 rfl ?_
  refine a_bipush (pc := 12) hG dX5_empty_12 (v := (nI 50)) rfl ?_
  refine a_putI (pc := 14) hG sc_11 cl_X5 ok_X5 2 (by decide) rfl t_199 rfl (ty := .int) rfl rfl rfl hd dX5_empty_14 (fun h3 hd => ?_)
  refine a_aload_n (pc := 17) hG 0 rfl dX5_empty_17 rfl ?_
  refine a_iconst (pc := 18) hG dX5_empty_18 (v := (nI 0)) rfl ?_
  refine a_putI (pc := 19) hG sc_11 cl_X5 ok_X5 3 (by decide) rfl t_200 rfl (ty := .int) rfl rfl rfl hd dX5_empty_19 (fun h4 hd => ?_)
  refine a_aload_n (pc := 22) hG 0 rfl dX5_empty_22 rfl ?_
  refine a_iconst (pc := 23) hG dX5_empty_23 (v := (nI 0)) rfl ?_
  refine a_putI (pc := 24) hG sc_11 cl_X5 ok_X5 4 (by decide) rfl t_201 rfl (ty := .int) rfl rfl rfl hd dX5_empty_24 (fun h5 hd => ?_)
  refine a_aload_n (pc := 27) hG 0 rfl dX5_empty_27 rfl ?_
  refine a_iconst (pc := 28) hG dX5_empty_28 (v := (nI 0)) rfl ?_
  refine a_putI (pc := 29) hG sc_11 cl_X5 ok_X5 5 (by decide) rfl t_202 rfl (ty := .int) rfl rfl rfl hd dX5_empty_29 (fun h6 hd => ?_)
  refine a_iconst (pc := 32) hG dX5_empty_32 (v := (nI 0)) rfl ?_
  refine a_istore_nN (pc := 33) hG hd dX5_empty_33 rfl (by decide) (lf := fun x => [(1, .int x), (0, .ref (ad 11))]) (fun _ => rfl) (fun v7 hd => ?_)
  refine AW.sub [1, 0] rfl ?_
  exact w_l_Plan_empty_11_0 F (by omega) hG hd
theorem dX8_at_0 : decode cX8_at 0 = .ok (.iload_n 1, 1) := by decide +kernel
theorem dX8_at_1 : decode cX8_at 1 = .ok (.ifCond .lt 24, 3) := by decide +kernel
theorem dX8_at_4 : decode cX8_at 4 = .ok (.iload_n 1, 1) := by decide +kernel
theorem dX8_at_5 : decode cX8_at 5 = .ok (.aload_n 0, 1) := by decide +kernel
theorem dX8_at_6 : decode cX8_at 6 = .ok (.getfield 15, 3) := by decide +kernel
theorem dX8_at_9 : decode cX8_at 9 = .ok (.if_icmp .ge 16, 3) := by decide +kernel
theorem dX8_at_12 : decode cX8_at 12 = .ok (.aload_n 0, 1) := by decide +kernel
theorem dX8_at_13 : decode cX8_at 13 = .ok (.getfield 9, 3) := by decide +kernel
theorem dX8_at_16 : decode cX8_at 16 = .ok (.iload_n 1, 1) := by decide +kernel
theorem dX8_at_17 : decode cX8_at 17 = .ok (.baload, 1) := by decide +kernel
theorem dX8_at_18 : decode cX8_at 18 = .ok (.sipush 255, 3) := by decide +kernel
theorem dX8_at_21 : decode cX8_at 21 = .ok (.iand, 1) := by decide +kernel
theorem dX8_at_22 : decode cX8_at 22 = .ok (.goto 4, 3) := by decide +kernel
theorem dX8_at_25 : decode cX8_at 25 = .ok (.iconst 0, 1) := by decide +kernel
theorem dX8_at_26 : decode cX8_at 26 = .ok (.ireturn, 1) := by decide +kernel
set_option maxHeartbeats 4000000 in
theorem c_Tape_at {ad wad : Nat → Nat} (a0 : Int32) (h : HS)  (q : Int32 × HS) (hd : f_Tape_at a0 h = some q) : Ctr SHc ad wad yX8_at cX8_at 2 (some .int) 1 [.ref (ad 1), .int a0] h (some (.int q.1), q.2) := by
  refine enter (own := RX8) (lv := [(0, .ref (ad 1)), (1, .int a0)]) (by decide +kernel) rfl (Nat.le_of_ble_eq_true rfl) rfl (fun Γ hG => ?_)
  unfold f_Tape_at at hd
  refine a_iload_n (pc := 0) hG 1 rfl dX8_at_0 rfl ?_
  refine a_if_lt (pc := 1) hG (tgt := 25) hd dX8_at_1 (by decide) (fun hd => ?_) (fun hd => ?_)
  · refine a_iconst (pc := 25) hG dX8_at_25 (v := (nI 0)) rfl ?_
    exact a_iret (pc := 26) hG hd dX8_at_26
  refine a_iload_n (pc := 4) hG 1 rfl dX8_at_4 rfl ?_
  refine a_aload_n (pc := 5) hG 0 rfl dX8_at_5 rfl ?_
  refine a_getI (pc := 6) hG sc_1 cl_X8 ok_X8 1 (by decide) rfl t_157 dX8_at_6 ?_
  refine a_ic_ge (pc := 9) hG (tgt := 25) hd dX8_at_9 (by decide) (fun hd => ?_) (fun hd => ?_)
  · refine a_iconst (pc := 25) hG dX8_at_25 (v := (nI 0)) rfl ?_
    exact a_iret (pc := 26) hG hd dX8_at_26
  refine a_aload_n (pc := 12) hG 0 rfl dX8_at_12 rfl ?_
  refine a_getR (pc := 13) hG sc_1 cl_X8 ok_X8 0 (by decide) rfl t_156 dX8_at_13 ?_
  refine a_iload_n (pc := 16) hG 1 rfl dX8_at_16 rfl ?_
  refine a_bald (pc := 17) hG sc_2 hd dX8_at_17 (fun hd => ?_)
  refine a_sipush (pc := 18) hG dX8_at_18 (v := (nI 255)) rfl ?_
  refine a_iand (pc := 21) hG dX8_at_21 ?_
  refine a_goto (pc := 22) hG (tgt := 26) dX8_at_22 (by decide) ?_
  exact a_iret (pc := 26) hG hd dX8_at_26
theorem dX8_readRun_0 : decode cX8_readRun 0 = .ok (.iconst 0, 1) := by decide +kernel
theorem dX8_readRun_1 : decode cX8_readRun 1 = .ok (.istore_n 1, 1) := by decide +kernel
theorem dX8_readRun_2 : decode cX8_readRun 2 = .ok (.iconst 0, 1) := by decide +kernel
theorem dX8_readRun_3 : decode cX8_readRun 3 = .ok (.istore_n 2, 1) := by decide +kernel
theorem dX8_readRun_4 : decode cX8_readRun 4 = .ok (.aload_n 0, 1) := by decide +kernel
theorem dX8_readRun_5 : decode cX8_readRun 5 = .ok (.lconst 0, 1) := by decide +kernel
theorem dX8_readRun_6 : decode cX8_readRun 6 = .ok (.putfield 31, 3) := by decide +kernel
theorem dX8_readRun_9 : decode cX8_readRun 9 = .ok (.aload_n 0, 1) := by decide +kernel
theorem dX8_readRun_10 : decode cX8_readRun 10 = .ok (.iconst 0, 1) := by decide +kernel
theorem dX8_readRun_11 : decode cX8_readRun 11 = .ok (.putfield 35, 3) := by decide +kernel
theorem dX8_readRun_14 : decode cX8_readRun 14 = .ok (.aload_n 0, 1) := by decide +kernel
theorem dX8_readRun_15 : decode cX8_readRun 15 = .ok (.getfield 22, 3) := by decide +kernel
theorem dX8_readRun_18 : decode cX8_readRun 18 = .ok (.aload_n 0, 1) := by decide +kernel
theorem dX8_readRun_19 : decode cX8_readRun 19 = .ok (.getfield 15, 3) := by decide +kernel
theorem dX8_readRun_22 : decode cX8_readRun 22 = .ok (.if_icmp .ge 107, 3) := by decide +kernel
theorem dX8_readRun_25 : decode cX8_readRun 25 = .ok (.aload_n 0, 1) := by decide +kernel
theorem dX8_readRun_26 : decode cX8_readRun 26 = .ok (.getfield 22, 3) := by decide +kernel
theorem dX8_readRun_29 : decode cX8_readRun 29 = .ok (.aload_n 0, 1) := by decide +kernel
theorem dX8_readRun_30 : decode cX8_readRun 30 = .ok (.getfield 9, 3) := by decide +kernel
theorem dX8_readRun_33 : decode cX8_readRun 33 = .ok (.arraylength, 1) := by decide +kernel
theorem dX8_readRun_34 : decode cX8_readRun 34 = .ok (.if_icmp .ge 95, 3) := by decide +kernel
theorem dX8_readRun_37 : decode cX8_readRun 37 = .ok (.aload_n 0, 1) := by decide +kernel
theorem dX8_readRun_38 : decode cX8_readRun 38 = .ok (.getfield 9, 3) := by decide +kernel
theorem dX8_readRun_41 : decode cX8_readRun 41 = .ok (.aload_n 0, 1) := by decide +kernel
theorem dX8_readRun_42 : decode cX8_readRun 42 = .ok (.getfield 22, 3) := by decide +kernel
theorem dX8_readRun_45 : decode cX8_readRun 45 = .ok (.baload, 1) := by decide +kernel
theorem dX8_readRun_46 : decode cX8_readRun 46 = .ok (.istore_n 3, 1) := by decide +kernel
theorem dX8_readRun_47 : decode cX8_readRun 47 = .ok (.iload_n 3, 1) := by decide +kernel
theorem dX8_readRun_48 : decode cX8_readRun 48 = .ok (.bipush 97, 2) := by decide +kernel
theorem dX8_readRun_50 : decode cX8_readRun 50 = .ok (.if_icmp .lt 35, 3) := by decide +kernel
theorem dX8_readRun_53 : decode cX8_readRun 53 = .ok (.iload_n 3, 1) := by decide +kernel
theorem dX8_readRun_54 : decode cX8_readRun 54 = .ok (.bipush 122, 2) := by decide +kernel
theorem dX8_readRun_56 : decode cX8_readRun 56 = .ok (.if_icmp .gt 29, 3) := by decide +kernel
theorem dX8_readRun_59 : decode cX8_readRun 59 = .ok (.iinc 1 1, 3) := by decide +kernel
theorem dX8_readRun_62 : decode cX8_readRun 62 = .ok (.aload_n 0, 1) := by decide +kernel
theorem dX8_readRun_63 : decode cX8_readRun 63 = .ok (.aload_n 0, 1) := by decide +kernel
theorem dX8_readRun_64 : decode cX8_readRun 64 = .ok (.getfield 31, 3) := by decide +kernel
theorem dX8_readRun_67 : decode cX8_readRun 67 = .ok (.ldc2_w 87, 3) := by decide +kernel
theorem dX8_readRun_70 : decode cX8_readRun 70 = .ok (.lmul, 1) := by decide +kernel
theorem dX8_readRun_71 : decode cX8_readRun 71 = .ok (.iload_n 3, 1) := by decide +kernel
theorem dX8_readRun_72 : decode cX8_readRun 72 = .ok (.bipush 97, 2) := by decide +kernel
theorem dX8_readRun_74 : decode cX8_readRun 74 = .ok (.isub, 1) := by decide +kernel
theorem dX8_readRun_75 : decode cX8_readRun 75 = .ok (.iconst 1, 1) := by decide +kernel
theorem dX8_readRun_76 : decode cX8_readRun 76 = .ok (.iadd, 1) := by decide +kernel
theorem dX8_readRun_77 : decode cX8_readRun 77 = .ok (.i2l, 1) := by decide +kernel
theorem dX8_readRun_78 : decode cX8_readRun 78 = .ok (.ladd, 1) := by decide +kernel
theorem dX8_readRun_79 : decode cX8_readRun 79 = .ok (.putfield 31, 3) := by decide +kernel
theorem dX8_readRun_82 : decode cX8_readRun 82 = .ok (.goto 34, 3) := by decide +kernel
theorem dX8_readRun_85 : decode cX8_readRun 85 = .ok (.iload_n 3, 1) := by decide +kernel
theorem dX8_readRun_86 : decode cX8_readRun 86 = .ok (.bipush 48, 2) := by decide +kernel
theorem dX8_readRun_88 : decode cX8_readRun 88 = .ok (.if_icmp .lt 41, 3) := by decide +kernel
theorem dX8_readRun_91 : decode cX8_readRun 91 = .ok (.iload_n 3, 1) := by decide +kernel
theorem dX8_readRun_92 : decode cX8_readRun 92 = .ok (.bipush 57, 2) := by decide +kernel
theorem dX8_readRun_94 : decode cX8_readRun 94 = .ok (.if_icmp .gt 35, 3) := by decide +kernel
theorem dX8_readRun_97 : decode cX8_readRun 97 = .ok (.iinc 2 1, 3) := by decide +kernel
theorem dX8_readRun_100 : decode cX8_readRun 100 = .ok (.aload_n 0, 1) := by decide +kernel
theorem dX8_readRun_101 : decode cX8_readRun 101 = .ok (.aload_n 0, 1) := by decide +kernel
theorem dX8_readRun_102 : decode cX8_readRun 102 = .ok (.getfield 35, 3) := by decide +kernel
theorem dX8_readRun_105 : decode cX8_readRun 105 = .ok (.bipush 10, 2) := by decide +kernel
theorem dX8_readRun_107 : decode cX8_readRun 107 = .ok (.imul, 1) := by decide +kernel
theorem dX8_readRun_108 : decode cX8_readRun 108 = .ok (.iload_n 3, 1) := by decide +kernel
theorem dX8_readRun_109 : decode cX8_readRun 109 = .ok (.bipush 48, 2) := by decide +kernel
theorem dX8_readRun_111 : decode cX8_readRun 111 = .ok (.isub, 1) := by decide +kernel
theorem dX8_readRun_112 : decode cX8_readRun 112 = .ok (.iadd, 1) := by decide +kernel
theorem dX8_readRun_113 : decode cX8_readRun 113 = .ok (.putfield 35, 3) := by decide +kernel
theorem dX8_readRun_116 : decode cX8_readRun 116 = .ok (.aload_n 0, 1) := by decide +kernel
theorem dX8_readRun_117 : decode cX8_readRun 117 = .ok (.dup, 1) := by decide +kernel
theorem dX8_readRun_118 : decode cX8_readRun 118 = .ok (.getfield 22, 3) := by decide +kernel
theorem dX8_readRun_121 : decode cX8_readRun 121 = .ok (.iconst 1, 1) := by decide +kernel
theorem dX8_readRun_122 : decode cX8_readRun 122 = .ok (.iadd, 1) := by decide +kernel
theorem dX8_readRun_123 : decode cX8_readRun 123 = .ok (.putfield 22, 3) := by decide +kernel
theorem dX8_readRun_126 : decode cX8_readRun 126 = .ok (.goto (-112), 3) := by decide +kernel
theorem dX8_readRun_129 : decode cX8_readRun 129 = .ok (.iload_n 2, 1) := by decide +kernel
theorem dX8_readRun_130 : decode cX8_readRun 130 = .ok (.ifCond .ne 21, 3) := by decide +kernel
theorem dX8_readRun_133 : decode cX8_readRun 133 = .ok (.aload_n 0, 1) := by decide +kernel
theorem dX8_readRun_134 : decode cX8_readRun 134 = .ok (.iload_n 1, 1) := by decide +kernel
theorem dX8_readRun_135 : decode cX8_readRun 135 = .ok (.bipush 7, 2) := by decide +kernel
theorem dX8_readRun_137 : decode cX8_readRun 137 = .ok (.if_icmp .gt 7, 3) := by decide +kernel
theorem dX8_readRun_140 : decode cX8_readRun 140 = .ok (.iconst 1, 1) := by decide +kernel
theorem dX8_readRun_141 : decode cX8_readRun 141 = .ok (.goto 4, 3) := by decide +kernel
theorem dX8_readRun_144 : decode cX8_readRun 144 = .ok (.iconst 3, 1) := by decide +kernel
theorem dX8_readRun_145 : decode cX8_readRun 145 = .ok (.putfield 28, 3) := by decide +kernel
theorem dX8_readRun_148 : decode cX8_readRun 148 = .ok (.goto 21, 3) := by decide +kernel
theorem dX8_readRun_151 : decode cX8_readRun 151 = .ok (.aload_n 0, 1) := by decide +kernel
theorem dX8_readRun_152 : decode cX8_readRun 152 = .ok (.iload_n 1, 1) := by decide +kernel
theorem dX8_readRun_153 : decode cX8_readRun 153 = .ok (.ifCond .ne 12, 3) := by decide +kernel
theorem dX8_readRun_156 : decode cX8_readRun 156 = .ok (.iload_n 2, 1) := by decide +kernel
theorem dX8_readRun_157 : decode cX8_readRun 157 = .ok (.iconst 3, 1) := by decide +kernel
theorem dX8_readRun_158 : decode cX8_readRun 158 = .ok (.if_icmp .gt 7, 3) := by decide +kernel
theorem dX8_readRun_161 : decode cX8_readRun 161 = .ok (.iconst 2, 1) := by decide +kernel
theorem dX8_readRun_162 : decode cX8_readRun 162 = .ok (.goto 4, 3) := by decide +kernel
theorem dX8_readRun_165 : decode cX8_readRun 165 = .ok (.iconst 3, 1) := by decide +kernel
theorem dX8_readRun_166 : decode cX8_readRun 166 = .ok (.putfield 28, 3) := by decide +kernel
theorem dX8_readRun_169 : decode cX8_readRun 169 = .ok (.return_, 1) := by decide +kernel
set_option maxHeartbeats 4000000 in
theorem w_l_Tape_readRun_0 {ad wad : Nat → Nat} {Γ : Ctx} (F : Nat) {n : Nat} (hn : 1 ≤ n) (hG : Cx SHc ad wad cX8_readRun 4 RX8 none (n) Γ) {q : Unit × HS} {K0 : Int32 → Int32 → HS → Option (Unit × HS)} {g : Nat} {x1 : Int32} {x2 : Int32} {h : HS} (hd : l_Tape_readRun_0 F K0 g x1 x2 h = some q) (hK0 : ∀ (y1 : Int32) (y2 : Int32) (z : HS), K0 y1 y2 z = some q → AW SHc ad 4 (none, q.2) Γ 129 [(0, .ref (ad 1)), (1, .int y1), (2, .int y2)] [] z) : AW SHc ad 4 (none, q.2) Γ 14 [(0, .ref (ad 1)), (1, .int x1), (2, .int x2)] [] h := by
  induction g generalizing x1 x2 h with
  | zero => unfold l_Tape_readRun_0 at hd; cases hd
  | succ g ih =>
    unfold l_Tape_readRun_0 at hd
    refine a_aload_n (pc := 14) hG 0 rfl dX8_readRun_14 rfl ?_
    refine a_getI (pc := 15) hG sc_1 cl_X8 ok_X8 3 (by decide) rfl t_159 dX8_readRun_15 ?_
    refine a_aload_n (pc := 18) hG 0 rfl dX8_readRun_18 rfl ?_
    refine a_getI (pc := 19) hG sc_1 cl_X8 ok_X8 1 (by decide) rfl t_157 dX8_readRun_19 ?_
    refine a_ic_ge (pc := 22) hG (tgt := 129) hd dX8_readRun_22 (by decide) (fun hd => ?_) (fun hd => ?_)
    · exact AW.sub [0, 1, 2] rfl (hK0 _ _ _ hd)
    refine a_aload_n (pc := 25) hG 0 rfl dX8_readRun_25 rfl ?_
    refine a_getI (pc := 26) hG sc_1 cl_X8 ok_X8 3 (by decide) rfl t_159 dX8_readRun_26 ?_
    refine a_aload_n (pc := 29) hG 0 rfl dX8_readRun_29 rfl ?_
    refine a_getR (pc := 30) hG sc_1 cl_X8 ok_X8 0 (by decide) rfl t_156 dX8_readRun_30 ?_
    refine a_alenI (pc := 33) hG sc_2 (fun _ => rfl) (v := nI 940) rfl dX8_readRun_33 ?_
    refine a_ic_ge (pc := 34) hG (tgt := 129) hd dX8_readRun_34 (by decide) (fun hd => ?_) (fun hd => ?_)
    · exact AW.sub [0, 1, 2] rfl (hK0 _ _ _ hd)
    refine a_aload_n (pc := 37) hG 0 rfl dX8_readRun_37 rfl ?_
    refine a_getR (pc := 38) hG sc_1 cl_X8 ok_X8 0 (by decide) rfl t_156 dX8_readRun_38 ?_
    refine a_aload_n (pc := 41) hG 0 rfl dX8_readRun_41 rfl ?_
    refine a_getI (pc := 42) hG sc_1 cl_X8 ok_X8 3 (by decide) rfl t_159 dX8_readRun_42 ?_
    refine a_bald (pc := 45) hG sc_2 hd dX8_readRun_45 (fun hd => ?_)
    refine a_istore_nN (pc := 46) hG hd dX8_readRun_46 rfl (by decide) (lf := fun x => [(3, .int x), (0, .ref (ad 1)), (1, .int x1), (2, .int x2)]) (fun _ => rfl) (fun v5 hd => ?_)
    refine a_iload_n (pc := 47) hG 0 rfl dX8_readRun_47 rfl ?_
    refine a_bipush (pc := 48) hG dX8_readRun_48 (v := (nI 97)) rfl ?_
    refine a_join hd (Q := fun J : Int32 → Int32 → HS → Option (Unit × HS) => ∀ (v7 : Int32) (v8 : Int32) (h9 : HS), J v7 v8 h9 = some q → AW SHc ad 4 (none, q.2) Γ 116 [(0, .ref (ad 1)), (1, .int v7), (2, .int v8)] [] h9) (fun v7 v8 h9 hd => ?_) (fun J6 hJ6 hd => ?_)
    · refine a_aload_n (pc := 116) hG 0 rfl dX8_readRun_116 rfl ?_
      refine a_dup (pc := 117) hG dX8_readRun_117 rfl ?_
      refine a_getI (pc := 118) hG sc_1 cl_X8 ok_X8 3 (by decide) rfl t_159 dX8_readRun_118 ?_
      refine a_iconst (pc := 121) hG dX8_readRun_121 (v := (nI 1)) rfl ?_
      refine a_iadd (pc := 122) hG dX8_readRun_122 ?_
      refine a_putI (pc := 123) hG sc_1 cl_X8 ok_X8 3 (by decide) rfl t_159 rfl (ty := .int) rfl rfl rfl hd dX8_readRun_123 (fun h10 hd => ?_)
      refine a_goto (pc := 126) hG (tgt := 14) dX8_readRun_126 (by decide) ?_
      exact AW.sub [0, 1, 2] rfl (ih hd)
    refine a_join hd (Q := fun J : HS → Option (Unit × HS) => ∀  (h12 : HS), J  h12 = some q → AW SHc ad 4 (none, q.2) Γ 85 [(0, .ref (ad 1)), (1, .int x1), (2, .int x2), (3, .int v5)] [] h12) (fun  h12 hd => ?_) (fun J11 hJ11 hd => ?_)
    · refine a_iload_n (pc := 85) hG 3 rfl dX8_readRun_85 rfl ?_
      refine a_bipush (pc := 86) hG dX8_readRun_86 (v := (nI 48)) rfl ?_
      refine a_ic_lt (pc := 88) hG (tgt := 129) hd dX8_readRun_88 (by decide) (fun hd => ?_) (fun hd => ?_)
      · exact AW.sub [0, 1, 2] rfl (hK0 _ _ _ hd)
      refine a_iload_n (pc := 91) hG 3 rfl dX8_readRun_91 rfl ?_
      refine a_bipush (pc := 92) hG dX8_readRun_92 (v := (nI 57)) rfl ?_
      refine a_ic_gt (pc := 94) hG (tgt := 129) hd dX8_readRun_94 (by decide) (fun hd => ?_) (fun hd => ?_)
      · exact AW.sub [0, 1, 2] rfl (hK0 _ _ _ hd)
      refine a_iincN (pc := 97) hG (c0 := (nI 1)) 2 rfl hd dX8_readRun_97 rfl (by decide) (lf := fun x => [(2, .int x), (0, .ref (ad 1)), (1, .int x1), (3, .int v5)]) (fun _ => rfl) (fun v13 hd => ?_)
      refine a_aload_n (pc := 100) hG 1 rfl dX8_readRun_100 rfl ?_
      refine a_aload_n (pc := 101) hG 1 rfl dX8_readRun_101 rfl ?_
      refine a_getI (pc := 102) hG sc_1 cl_X8 ok_X8 7 (by decide) rfl t_163 dX8_readRun_102 ?_
      refine a_bipush (pc := 105) hG dX8_readRun_105 (v := (nI 10)) rfl ?_
      refine a_imul (pc := 107) hG dX8_readRun_107 ?_
      refine a_iload_n (pc := 108) hG 3 rfl dX8_readRun_108 rfl ?_
      refine a_bipush (pc := 109) hG dX8_readRun_109 (v := (nI 48)) rfl ?_
      refine a_isub (pc := 111) hG dX8_readRun_111 ?_
      refine a_iadd (pc := 112) hG dX8_readRun_112 ?_
      refine a_putI (pc := 113) hG sc_1 cl_X8 ok_X8 7 (by decide) rfl t_163 rfl (ty := .int) rfl rfl rfl hd dX8_readRun_113 (fun h14 hd => ?_)
      exact AW.sub [1, 2, 0] rfl (hJ6 _ _ _ hd)
    refine a_ic_lt (pc := 50) hG (tgt := 85) hd dX8_readRun_50 (by decide) (fun hd => ?_) (fun hd => ?_)
    · exact AW.sub [1, 2, 3, 0] rfl (hJ11  _ hd)
    refine a_iload_n (pc := 53) hG 0 rfl dX8_readRun_53 rfl ?_
    refine a_bipush (pc := 54) hG dX8_readRun_54 (v := (nI 122)) rfl ?_
    refine a_ic_gt (pc := 56) hG (tgt := 85) hd dX8_readRun_56 (by decide) (fun hd => ?_) (fun hd => ?_)
    · exact AW.sub [1, 2, 3, 0] rfl (hJ11  _ hd)
    refine a_iincN (pc := 59) hG (c0 := (nI 1)) 2 rfl hd dX8_readRun_59 rfl (by decide) (lf := fun x => [(1, .int x), (3, .int v5), (0, .ref (ad 1)), (2, .int x2)]) (fun _ => rfl) (fun v15 hd => ?_)
    refine a_aload_n (pc := 62) hG 2 rfl dX8_readRun_62 rfl ?_
    refine a_aload_n (pc := 63) hG 2 rfl dX8_readRun_63 rfl ?_
    refine a_getL (pc := 64) hG sc_1 cl_X8 ok_X8 6 (by decide) rfl t_162 dX8_readRun_64 ?_
    refine a_ldc2_w (pc := 67) hG t_588 dX8_readRun_67 ?_
    refine a_lmul (pc := 70) hG dX8_readRun_70 ?_
    refine a_iload_n (pc := 71) hG 1 rfl dX8_readRun_71 rfl ?_
    refine a_bipush (pc := 72) hG dX8_readRun_72 (v := (nI 97)) rfl ?_
    refine a_isub (pc := 74) hG dX8_readRun_74 ?_
    refine a_iconst (pc := 75) hG dX8_readRun_75 (v := (nI 1)) rfl ?_
    refine a_iadd (pc := 76) hG dX8_readRun_76 ?_
    refine a_i2l (pc := 77) hG dX8_readRun_77 ?_
    refine a_ladd (pc := 78) hG dX8_readRun_78 ?_
    refine a_putL (pc := 79) hG sc_1 cl_X8 ok_X8 6 (by decide) rfl t_162 rfl (ty := .long) rfl rfl rfl hd dX8_readRun_79 (fun h16 hd => ?_)
    refine a_goto (pc := 82) hG (tgt := 116) dX8_readRun_82 (by decide) ?_
    exact AW.sub [2, 0, 3] rfl (hJ6 _ _ _ hd)
set_option maxHeartbeats 4000000 in
theorem c_Tape_readRun {ad wad : Nat → Nat} (F : Nat)  (h : HS)  (q : Unit × HS) (hd : f_Tape_readRun F  h = some q) : Ctr SHc ad wad yX8_readRun cX8_readRun 4 none 1 [.ref (ad 1)] h (none, q.2) := by
  refine enter (own := RX8) (lv := [(0, .ref (ad 1))]) (by decide +kernel) rfl (Nat.le_of_ble_eq_true rfl) rfl (fun Γ hG => ?_)
  unfold f_Tape_readRun at hd
  refine a_iconst (pc := 0) hG dX8_readRun_0 (v := (nI 0)) rfl ?_
  refine a_istore_nN (pc := 1) hG hd dX8_readRun_1 rfl (by decide) (lf := fun x => [(1, .int x), (0, .ref (ad 1))]) (fun _ => rfl) (fun v1 hd => ?_)
  refine a_iconst (pc := 2) hG dX8_readRun_2 (v := (nI 0)) rfl ?_
  refine a_istore_nN (pc := 3) hG hd dX8_readRun_3 rfl (by decide) (lf := fun x => [(2, .int x), (1, .int v1), (0, .ref (ad 1))]) (fun _ => rfl) (fun v2 hd => ?_)
  refine a_aload_n (pc := 4) hG 2 rfl dX8_readRun_4 rfl ?_
  refine a_lconst (pc := 5) hG dX8_readRun_5 (v := 0) rfl ?_
  refine a_putL (pc := 6) hG sc_1 cl_X8 ok_X8 6 (by decide) rfl t_162 rfl (ty := .long) rfl rfl rfl hd dX8_readRun_6 (fun h3 hd => ?_)
  refine a_aload_n (pc := 9) hG 2 rfl dX8_readRun_9 rfl ?_
  refine a_iconst (pc := 10) hG dX8_readRun_10 (v := (nI 0)) rfl ?_
  refine a_putI (pc := 11) hG sc_1 cl_X8 ok_X8 7 (by decide) rfl t_163 rfl (ty := .int) rfl rfl rfl hd dX8_readRun_11 (fun h4 hd => ?_)
  refine AW.sub [2, 1, 0] rfl ?_
  refine w_l_Tape_readRun_0 F (by omega) hG hd (fun v17 v18 h19 hd => ?_)
  refine a_iload_n (pc := 129) hG 2 rfl dX8_readRun_129 rfl ?_
  refine a_if_ne (pc := 130) hG (tgt := 151) hd dX8_readRun_130 (by decide) (fun hd => ?_) (fun hd => ?_)
  · refine a_aload_n (pc := 151) hG 0 rfl dX8_readRun_151 rfl ?_
    refine a_iload_n (pc := 152) hG 1 rfl dX8_readRun_152 rfl ?_
    refine a_join hd (Q := fun J : Int32 → HS → Option (Unit × HS) => ∀ (v21 : Int32) (h22 : HS), J v21 h22 = some q → AW SHc ad 4 (none, q.2) Γ 166 [] [.int v21, .ref (ad 1)] h22) (fun v21 h22 hd => ?_) (fun J20 hJ20 hd => ?_)
    · refine a_putI (pc := 166) hG sc_1 cl_X8 ok_X8 5 (by decide) rfl t_161 rfl (ty := .int) rfl rfl rfl hd dX8_readRun_166 (fun h23 hd => ?_)
      exact a_vret (pc := 169) hG hd dX8_readRun_169
    refine a_join hd (Q := fun J : HS → Option (Unit × HS) => ∀  (h25 : HS), J  h25 = some q → AW SHc ad 4 (none, q.2) Γ 165 [] [.ref (ad 1)] h25) (fun  h25 hd => ?_) (fun J24 hJ24 hd => ?_)
    · refine a_iconst (pc := 165) hG dX8_readRun_165 (v := (nI 3)) rfl ?_
      exact AW.sub [] rfl (hJ20 _ _ hd)
    refine a_if_ne (pc := 153) hG (tgt := 165) hd dX8_readRun_153 (by decide) (fun hd => ?_) (fun hd => ?_)
    · exact AW.sub [] rfl (hJ24  _ hd)
    refine a_iload_n (pc := 156) hG 2 rfl dX8_readRun_156 rfl ?_
    refine a_iconst (pc := 157) hG dX8_readRun_157 (v := (nI 3)) rfl ?_
    refine a_ic_gt (pc := 158) hG (tgt := 165) hd dX8_readRun_158 (by decide) (fun hd => ?_) (fun hd => ?_)
    · exact AW.sub [] rfl (hJ24  _ hd)
    refine a_iconst (pc := 161) hG dX8_readRun_161 (v := (nI 2)) rfl ?_
    refine a_goto (pc := 162) hG (tgt := 166) dX8_readRun_162 (by decide) ?_
    exact AW.sub [] rfl (hJ20 _ _ hd)
  refine a_aload_n (pc := 133) hG 0 rfl dX8_readRun_133 rfl ?_
  refine a_iload_n (pc := 134) hG 1 rfl dX8_readRun_134 rfl ?_
  refine a_bipush (pc := 135) hG dX8_readRun_135 (v := (nI 7)) rfl ?_
  refine a_join hd (Q := fun J : Int32 → HS → Option (Unit × HS) => ∀ (v27 : Int32) (h28 : HS), J v27 h28 = some q → AW SHc ad 4 (none, q.2) Γ 145 [] [.int v27, .ref (ad 1)] h28) (fun v27 h28 hd => ?_) (fun J26 hJ26 hd => ?_)
  · refine a_putI (pc := 145) hG sc_1 cl_X8 ok_X8 5 (by decide) rfl t_161 rfl (ty := .int) rfl rfl rfl hd dX8_readRun_145 (fun h29 hd => ?_)
    refine a_goto (pc := 148) hG (tgt := 169) dX8_readRun_148 (by decide) ?_
    exact a_vret (pc := 169) hG hd dX8_readRun_169
  refine a_ic_gt (pc := 137) hG (tgt := 144) hd dX8_readRun_137 (by decide) (fun hd => ?_) (fun hd => ?_)
  · refine a_iconst (pc := 144) hG dX8_readRun_144 (v := (nI 3)) rfl ?_
    exact AW.sub [] rfl (hJ26 _ _ hd)
  refine a_iconst (pc := 140) hG dX8_readRun_140 (v := (nI 1)) rfl ?_
  refine a_goto (pc := 141) hG (tgt := 145) dX8_readRun_141 (by decide) ?_
  exact AW.sub [] rfl (hJ26 _ _ hd)
