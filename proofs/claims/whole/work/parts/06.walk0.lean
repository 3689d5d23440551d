theorem dX12_four_0 : decode cX12_four 0 = .ok (.bipush 24, 2) := by decide +kernel
theorem dX12_four_2 : decode cX12_four 2 = .ok (.istore_n 2, 1) := by decide +kernel
theorem dX12_four_3 : decode cX12_four 3 = .ok (.iload_n 2, 1) := by decide +kernel
theorem dX12_four_4 : decode cX12_four 4 = .ok (.ifCond .lt 32, 3) := by decide +kernel
theorem dX12_four_7 : decode cX12_four 7 = .ok (.aload_n 0, 1) := by decide +kernel
theorem dX12_four_8 : decode cX12_four 8 = .ok (.getfield 14, 3) := by decide +kernel
theorem dX12_four_11 : decode cX12_four 11 = .ok (.aload_n 0, 1) := by decide +kernel
theorem dX12_four_12 : decode cX12_four 12 = .ok (.getfield 7, 3) := by decide +kernel
theorem dX12_four_15 : decode cX12_four 15 = .ok (.iload_n 1, 1) := by decide +kernel
theorem dX12_four_16 : decode cX12_four 16 = .ok (.iload_n 2, 1) := by decide +kernel
theorem dX12_four_17 : decode cX12_four 17 = .ok (.ishr, 1) := by decide +kernel
theorem dX12_four_18 : decode cX12_four 18 = .ok (.i2b, 1) := by decide +kernel
theorem dX12_four_19 : decode cX12_four 19 = .ok (.bastore, 1) := by decide +kernel
theorem dX12_four_20 : decode cX12_four 20 = .ok (.aload_n 0, 1) := by decide +kernel
theorem dX12_four_21 : decode cX12_four 21 = .ok (.dup, 1) := by decide +kernel
theorem dX12_four_22 : decode cX12_four 22 = .ok (.getfield 7, 3) := by decide +kernel
theorem dX12_four_25 : decode cX12_four 25 = .ok (.iconst 1, 1) := by decide +kernel
theorem dX12_four_26 : decode cX12_four 26 = .ok (.iadd, 1) := by decide +kernel
theorem dX12_four_27 : decode cX12_four 27 = .ok (.putfield 7, 3) := by decide +kernel
theorem dX12_four_30 : decode cX12_four 30 = .ok (.iinc 2 (-8), 3) := by decide +kernel
theorem dX12_four_33 : decode cX12_four 33 = .ok (.goto (-30), 3) := by decide +kernel
theorem dX12_four_36 : decode cX12_four 36 = .ok (.return_, 1) := by decide +kernel
set_option maxHeartbeats 4000000 in
theorem w_l_M_four_0 {ad wad : Nat → Nat} {Γ : Ctx} (F : Nat) {n : Nat} (hn : 1 ≤ n) (hG : Cx SHm ad wad cX12_four 3 RX12 none (n) Γ) {q : Unit × HS} {x1 : Int32} {g : Nat} {x2 : Int32} {h : HS} (hd : l_M_four_0 F x1 g x2 h = some q) : AW SHm ad 3 (none, q.2) Γ 3 [(0, .ref (ad 0)), (1, .int x1), (2, .int x2)] [] h := by
  induction g generalizing x2 h with
  | zero => unfold l_M_four_0 at hd; cases hd
  | succ g ih =>
    unfold l_M_four_0 at hd
    refine a_iload_n (pc := 3) hG 2 rfl dX12_four_3 rfl ?_
    refine a_if_lt (pc := 4) hG (tgt := 36) hd dX12_four_4 (by decide) (fun hd => ?_) (fun hd => ?_)
    · exact a_vret (pc := 36) hG hd dX12_four_36
    refine a_aload_n (pc := 7) hG 0 rfl dX12_four_7 rfl ?_
    refine a_getR (pc := 8) hG sm_0 cl_X12 ok_X12 1 (by decide) rfl t_1610 dX12_four_8 ?_
    refine a_aload_n (pc := 11) hG 0 rfl dX12_four_11 rfl ?_
    refine a_getI (pc := 12) hG sm_0 cl_X12 ok_X12 2 (by decide) rfl t_1611 dX12_four_12 ?_
    refine a_iload_n (pc := 15) hG 1 rfl dX12_four_15 rfl ?_
    refine a_iload_n (pc := 16) hG 2 rfl dX12_four_16 rfl ?_
    refine a_ishr (pc := 17) hG dX12_four_17 ?_
    refine a_i2b (pc := 18) hG dX12_four_18 ?_
    refine a_bast (pc := 19) hG sm_1 hd dX12_four_19 (fun h2 hd => ?_)
    refine a_aload_n (pc := 20) hG 0 rfl dX12_four_20 rfl ?_
    refine a_dup (pc := 21) hG dX12_four_21 rfl ?_
    refine a_getI (pc := 22) hG sm_0 cl_X12 ok_X12 2 (by decide) rfl t_1611 dX12_four_22 ?_
    refine a_iconst (pc := 25) hG dX12_four_25 (v := (nI 1)) rfl ?_
    refine a_iadd (pc := 26) hG dX12_four_26 ?_
    refine a_putI (pc := 27) hG sm_0 cl_X12 ok_X12 2 (by decide) rfl t_1611 rfl (ty := .int) rfl rfl rfl hd dX12_four_27 (fun h3 hd => ?_)
    refine a_iincN (pc := 30) hG (c0 := (-8 : Int32)) 2 rfl hd dX12_four_30 rfl (by decide) (lf := fun x => [(2, .int x), (0, .ref (ad 0)), (1, .int x1)]) (fun _ => rfl) (fun v4 hd => ?_)
    refine a_goto (pc := 33) hG (tgt := 3) dX12_four_33 (by decide) ?_
    exact AW.sub [1, 2, 0] rfl (ih hd)
set_option maxHeartbeats 4000000 in
theorem c_M_four {ad wad : Nat → Nat} (F : Nat) (a0 : Int32) (h : HS)  (q : Unit × HS) (hd : f_M_four F a0 h = some q) : Ctr SHm ad wad yX12_four cX12_four 3 none 1 [.ref (ad 0), .int a0] h (none, q.2) := by
  refine enter (own := RX12) (lv := [(0, .ref (ad 0)), (1, .int a0)]) (by decide +kernel) rfl (Nat.le_of_ble_eq_true rfl) rfl (fun Γ hG => ?_)
  unfold f_M_four at hd
  refine a_bipush (pc := 0) hG dX12_four_0 (v := (nI 24)) rfl ?_
  refine a_istore_nN (pc := 2) hG hd dX12_four_2 rfl (by decide) (lf := fun x => [(2, .int x), (0, .ref (ad 0)), (1, .int a0)]) (fun _ => rfl) (fun v1 hd => ?_)
  refine AW.sub [1, 2, 0] rfl ?_
  exact w_l_M_four_0 F (by omega) hG hd
theorem dX12_feed_0 : decode cX12_feed 0 = .ok (.aload_n 0, 1) := by decide +kernel
theorem dX12_feed_1 : decode cX12_feed 1 = .ok (.iconst 0, 1) := by decide +kernel
theorem dX12_feed_2 : decode cX12_feed 2 = .ok (.putfield 1, 3) := by decide +kernel
theorem dX12_feed_5 : decode cX12_feed 5 = .ok (.aload_n 0, 1) := by decide +kernel
theorem dX12_feed_6 : decode cX12_feed 6 = .ok (.getfield 7, 3) := by decide +kernel
theorem dX12_feed_9 : decode cX12_feed 9 = .ok (.bipush 20, 2) := by decide +kernel
theorem dX12_feed_11 : decode cX12_feed 11 = .ok (.iadd, 1) := by decide +kernel
theorem dX12_feed_12 : decode cX12_feed 12 = .ok (.sipush 940, 3) := by decide +kernel
theorem dX12_feed_15 : decode cX12_feed 15 = .ok (.if_icmp .le 5, 3) := by decide +kernel
theorem dX12_feed_18 : decode cX12_feed 18 = .ok (.iconst (-1), 1) := by decide +kernel
theorem dX12_feed_19 : decode cX12_feed 19 = .ok (.ireturn, 1) := by decide +kernel
theorem dX12_feed_20 : decode cX12_feed 20 = .ok (.aload_n 0, 1) := by decide +kernel
theorem dX12_feed_21 : decode cX12_feed 21 = .ok (.iload_n 1, 1) := by decide +kernel
theorem dX12_feed_22 : decode cX12_feed 22 = .ok (.invokevirtual 10, 3) := by decide +kernel
theorem dX12_feed_25 : decode cX12_feed 25 = .ok (.aload_n 0, 1) := by decide +kernel
theorem dX12_feed_26 : decode cX12_feed 26 = .ok (.iload_n 2, 1) := by decide +kernel
theorem dX12_feed_27 : decode cX12_feed 27 = .ok (.invokevirtual 10, 3) := by decide +kernel
theorem dX12_feed_30 : decode cX12_feed 30 = .ok (.aload_n 0, 1) := by decide +kernel
theorem dX12_feed_31 : decode cX12_feed 31 = .ok (.iload_n 3, 1) := by decide +kernel
theorem dX12_feed_32 : decode cX12_feed 32 = .ok (.invokevirtual 10, 3) := by decide +kernel
theorem dX12_feed_35 : decode cX12_feed 35 = .ok (.aload_n 0, 1) := by decide +kernel
theorem dX12_feed_36 : decode cX12_feed 36 = .ok (.iload 4, 2) := by decide +kernel
theorem dX12_feed_38 : decode cX12_feed 38 = .ok (.invokevirtual 10, 3) := by decide +kernel
theorem dX12_feed_41 : decode cX12_feed 41 = .ok (.aload_n 0, 1) := by decide +kernel
theorem dX12_feed_42 : decode cX12_feed 42 = .ok (.iload 5, 2) := by decide +kernel
theorem dX12_feed_44 : decode cX12_feed 44 = .ok (.invokevirtual 10, 3) := by decide +kernel
theorem dX12_feed_47 : decode cX12_feed 47 = .ok (.aload_n 0, 1) := by decide +kernel
theorem dX12_feed_48 : decode cX12_feed 48 = .ok (.getfield 7, 3) := by decide +kernel
theorem dX12_feed_51 : decode cX12_feed 51 = .ok (.ireturn, 1) := by decide +kernel
set_option maxHeartbeats 4000000 in
theorem c_M_feed {ad wad : Nat → Nat} (F : Nat) (a0 : Int32) (a1 : Int32) (a2 : Int32) (a3 : Int32) (a4 : Int32) (h : HS)  (q : Int32 × HS) (hd : f_M_feed F a0 a1 a2 a3 a4 h = some q) : Ctr SHm ad wad yX12_feed cX12_feed 6 (some .int) 2 [.ref (ad 0), .int a0, .int a1, .int a2, .int a3, .int a4] h (some (.int q.1), q.2) := by
  refine enter (own := RX12) (lv := [(0, .ref (ad 0)), (1, .int a0), (2, .int a1), (3, .int a2), (4, .int a3), (5, .int a4)]) (by decide +kernel) rfl (Nat.le_of_ble_eq_true rfl) rfl (fun Γ hG => ?_)
  unfold f_M_feed at hd
  refine a_aload_n (pc := 0) hG 0 rfl dX12_feed_0 rfl ?_
  refine a_iconst (pc := 1) hG dX12_feed_1 (v := (nI 0)) rfl ?_
  refine a_putI (pc := 2) hG sm_0 cl_X12 ok_X12 0 (by decide) rfl t_1609 rfl (ty := .int) rfl rfl rfl hd dX12_feed_2 (fun h1 hd => ?_)
  refine a_aload_n (pc := 5) hG 0 rfl dX12_feed_5 rfl ?_
  refine a_getI (pc := 6) hG sm_0 cl_X12 ok_X12 2 (by decide) rfl t_1611 dX12_feed_6 ?_
  refine a_bipush (pc := 9) hG dX12_feed_9 (v := (nI 20)) rfl ?_
  refine a_iadd (pc := 11) hG dX12_feed_11 ?_
  refine a_sipush (pc := 12) hG dX12_feed_12 (v := (nI 940)) rfl ?_
  refine a_ic_le (pc := 15) hG (tgt := 20) hd dX12_feed_15 (by decide) (fun hd => ?_) (fun hd => ?_)
  · refine a_aload_n (pc := 20) hG 0 rfl dX12_feed_20 rfl ?_
    refine a_iload_n (pc := 21) hG 1 rfl dX12_feed_21 rfl ?_
    refine a_cvN (pc := 22) hG (As := [.int a0]) (st := []) sm_0 cl_X12 mk_X12_four t_1564 (by omega) (fun z hz => c_M_four F a0 _  z hz) rfl (Nat.le_of_ble_eq_true rfl) hd dX12_feed_22 (fun _ h2 hd => ?_)
    refine a_aload_n (pc := 25) hG 0 rfl dX12_feed_25 rfl ?_
    refine a_iload_n (pc := 26) hG 2 rfl dX12_feed_26 rfl ?_
    refine a_cvN (pc := 27) hG (As := [.int a1]) (st := []) sm_0 cl_X12 mk_X12_four t_1564 (by omega) (fun z hz => c_M_four F a1 _  z hz) rfl (Nat.le_of_ble_eq_true rfl) hd dX12_feed_27 (fun _ h3 hd => ?_)
    refine a_aload_n (pc := 30) hG 0 rfl dX12_feed_30 rfl ?_
    refine a_iload_n (pc := 31) hG 3 rfl dX12_feed_31 rfl ?_
    refine a_cvN (pc := 32) hG (As := [.int a2]) (st := []) sm_0 cl_X12 mk_X12_four t_1564 (by omega) (fun z hz => c_M_four F a2 _  z hz) rfl (Nat.le_of_ble_eq_true rfl) hd dX12_feed_32 (fun _ h4 hd => ?_)
    refine a_aload_n (pc := 35) hG 0 rfl dX12_feed_35 rfl ?_
    refine a_iload (pc := 36) hG 4 rfl dX12_feed_36 ?_
    refine a_cvN (pc := 38) hG (As := [.int a3]) (st := []) sm_0 cl_X12 mk_X12_four t_1564 (by omega) (fun z hz => c_M_four F a3 _  z hz) rfl (Nat.le_of_ble_eq_true rfl) hd dX12_feed_38 (fun _ h5 hd => ?_)
    refine a_aload_n (pc := 41) hG 0 rfl dX12_feed_41 rfl ?_
    refine a_iload (pc := 42) hG 5 rfl dX12_feed_42 ?_
    refine a_cvN (pc := 44) hG (As := [.int a4]) (st := []) sm_0 cl_X12 mk_X12_four t_1564 (by omega) (fun z hz => c_M_four F a4 _  z hz) rfl (Nat.le_of_ble_eq_true rfl) hd dX12_feed_44 (fun _ h6 hd => ?_)
    refine a_aload_n (pc := 47) hG 0 rfl dX12_feed_47 rfl ?_
    refine a_getI (pc := 48) hG sm_0 cl_X12 ok_X12 2 (by decide) rfl t_1611 dX12_feed_48 ?_
    exact a_iret (pc := 51) hG hd dX12_feed_51
  refine a_iconst (pc := 18) hG dX12_feed_18 (v := (-1 : Int32)) rfl ?_
  exact a_iret (pc := 19) hG hd dX12_feed_19
theorem dX12_end_0 : decode cX12_end 0 = .ok (.aload_n 0, 1) := by decide +kernel
theorem dX12_end_1 : decode cX12_end 1 = .ok (.iconst 0, 1) := by decide +kernel
theorem dX12_end_2 : decode cX12_end 2 = .ok (.putfield 1, 3) := by decide +kernel
theorem dX12_end_5 : decode cX12_end 5 = .ok (.iload_n 1, 1) := by decide +kernel
theorem dX12_end_6 : decode cX12_end 6 = .ok (.ifCond .lt 11, 3) := by decide +kernel
theorem dX12_end_9 : decode cX12_end 9 = .ok (.iload_n 1, 1) := by decide +kernel
theorem dX12_end_10 : decode cX12_end 10 = .ok (.aload_n 0, 1) := by decide +kernel
theorem dX12_end_11 : decode cX12_end 11 = .ok (.getfield 7, 3) := by decide +kernel
theorem dX12_end_14 : decode cX12_end 14 = .ok (.if_icmp .le 5, 3) := by decide +kernel
theorem dX12_end_17 : decode cX12_end 17 = .ok (.iconst 0, 1) := by decide +kernel
theorem dX12_end_18 : decode cX12_end 18 = .ok (.ireturn, 1) := by decide +kernel
theorem dX12_end_19 : decode cX12_end 19 = .ok (.aload_n 0, 1) := by decide +kernel
theorem dX12_end_20 : decode cX12_end 20 = .ok (.iload_n 1, 1) := by decide +kernel
theorem dX12_end_21 : decode cX12_end 21 = .ok (.putfield 7, 3) := by decide +kernel
theorem dX12_end_24 : decode cX12_end 24 = .ok (.iconst 1, 1) := by decide +kernel
theorem dX12_end_25 : decode cX12_end 25 = .ok (.ireturn, 1) := by decide +kernel
set_option maxHeartbeats 4000000 in
theorem c_M_end {ad wad : Nat → Nat} (a0 : Int32) (h : HS)  (q : Int32 × HS) (hd : f_M_end a0 h = some q) : Ctr SHm ad wad yX12_end cX12_end 2 (some .boolean) 1 [.ref (ad 0), .int a0] h (some (.int q.1), q.2) := by
  refine enter (own := RX12) (lv := [(0, .ref (ad 0)), (1, .int a0)]) (by decide +kernel) rfl (Nat.le_of_ble_eq_true rfl) rfl (fun Γ hG => ?_)
  unfold f_M_end at hd
  refine a_aload_n (pc := 0) hG 0 rfl dX12_end_0 rfl ?_
  refine a_iconst (pc := 1) hG dX12_end_1 (v := (nI 0)) rfl ?_
  refine a_putI (pc := 2) hG sm_0 cl_X12 ok_X12 0 (by decide) rfl t_1609 rfl (ty := .int) rfl rfl rfl hd dX12_end_2 (fun h1 hd => ?_)
  refine a_iload_n (pc := 5) hG 1 rfl dX12_end_5 rfl ?_
  refine a_if_lt (pc := 6) hG (tgt := 17) hd dX12_end_6 (by decide) (fun hd => ?_) (fun hd => ?_)
  · refine a_iconst (pc := 17) hG dX12_end_17 (v := (nI 0)) rfl ?_
    exact a_zret (pc := 18) hG hd dX12_end_18
  refine a_iload_n (pc := 9) hG 1 rfl dX12_end_9 rfl ?_
  refine a_aload_n (pc := 10) hG 0 rfl dX12_end_10 rfl ?_
  refine a_getI (pc := 11) hG sm_0 cl_X12 ok_X12 2 (by decide) rfl t_1611 dX12_end_11 ?_
  refine a_ic_le (pc := 14) hG (tgt := 19) hd dX12_end_14 (by decide) (fun hd => ?_) (fun hd => ?_)
  · refine a_aload_n (pc := 19) hG 0 rfl dX12_end_19 rfl ?_
    refine a_iload_n (pc := 20) hG 1 rfl dX12_end_20 rfl ?_
    refine a_putI (pc := 21) hG sm_0 cl_X12 ok_X12 2 (by decide) rfl t_1611 rfl (ty := .int) rfl rfl rfl hd dX12_end_21 (fun h2 hd => ?_)
    refine a_iconst (pc := 24) hG dX12_end_24 (v := (nI 1)) rfl ?_
    exact a_zret (pc := 25) hG hd dX12_end_25
  refine a_iconst (pc := 17) hG dX12_end_17 (v := (nI 0)) rfl ?_
  exact a_zret (pc := 18) hG hd dX12_end_18
theorem dX12_taken_0 : decode cX12_taken 0 = .ok (.aload_n 0, 1) := by decide +kernel
theorem dX12_taken_1 : decode cX12_taken 1 = .ok (.aload_n 0, 1) := by decide +kernel
theorem dX12_taken_2 : decode cX12_taken 2 = .ok (.getfield 7, 3) := by decide +kernel
theorem dX12_taken_5 : decode cX12_taken 5 = .ok (.putfield 18, 3) := by decide +kernel
theorem dX12_taken_8 : decode cX12_taken 8 = .ok (.aload_n 0, 1) := by decide +kernel
theorem dX12_taken_9 : decode cX12_taken 9 = .ok (.iconst 0, 1) := by decide +kernel
theorem dX12_taken_10 : decode cX12_taken 10 = .ok (.putfield 7, 3) := by decide +kernel
theorem dX12_taken_13 : decode cX12_taken 13 = .ok (.aload_n 0, 1) := by decide +kernel
theorem dX12_taken_14 : decode cX12_taken 14 = .ok (.iconst 0, 1) := by decide +kernel
theorem dX12_taken_15 : decode cX12_taken 15 = .ok (.putfield 21, 3) := by decide +kernel
theorem dX12_taken_18 : decode cX12_taken 18 = .ok (.aload_n 0, 1) := by decide +kernel
theorem dX12_taken_19 : decode cX12_taken 19 = .ok (.iload_n 1, 1) := by decide +kernel
theorem dX12_taken_20 : decode cX12_taken 20 = .ok (.putfield 24, 3) := by decide +kernel
theorem dX12_taken_23 : decode cX12_taken 23 = .ok (.return_, 1) := by decide +kernel
set_option maxHeartbeats 4000000 in
theorem c_M_taken {ad wad : Nat → Nat} (a0 : Int32) (h : HS)  (q : Unit × HS) (hd : f_M_taken a0 h = some q) : Ctr SHm ad wad yX12_taken cX12_taken 2 none 1 [.ref (ad 0), .int a0] h (none, q.2) := by
  refine enter (own := RX12) (lv := [(0, .ref (ad 0)), (1, .int a0)]) (by decide +kernel) rfl (Nat.le_of_ble_eq_true rfl) rfl (fun Γ hG => ?_)
  unfold f_M_taken at hd
  refine a_aload_n (pc := 0) hG 0 rfl dX12_taken_0 rfl ?_
  refine a_aload_n (pc := 1) hG 0 rfl dX12_taken_1 rfl ?_
  refine a_getI (pc := 2) hG sm_0 cl_X12 ok_X12 2 (by decide) rfl t_1611 dX12_taken_2 ?_
  refine a_putI (pc := 5) hG sm_0 cl_X12 ok_X12 3 (by decide) rfl t_1612 rfl (ty := .int) rfl rfl rfl hd dX12_taken_5 (fun h1 hd => ?_)
  refine a_aload_n (pc := 8) hG 0 rfl dX12_taken_8 rfl ?_
  refine a_iconst (pc := 9) hG dX12_taken_9 (v := (nI 0)) rfl ?_
  refine a_putI (pc := 10) hG sm_0 cl_X12 ok_X12 2 (by decide) rfl t_1611 rfl (ty := .int) rfl rfl rfl hd dX12_taken_10 (fun h2 hd => ?_)
  refine a_aload_n (pc := 13) hG 0 rfl dX12_taken_13 rfl ?_
  refine a_iconst (pc := 14) hG dX12_taken_14 (v := (nI 0)) rfl ?_
  refine a_putI (pc := 15) hG sm_0 cl_X12 ok_X12 4 (by decide) rfl t_1613 rfl (ty := .int) rfl rfl rfl hd dX12_taken_15 (fun h3 hd => ?_)
  refine a_aload_n (pc := 18) hG 0 rfl dX12_taken_18 rfl ?_
  refine a_iload_n (pc := 19) hG 1 rfl dX12_taken_19 rfl ?_
  refine a_putI (pc := 20) hG sm_0 cl_X12 ok_X12 5 (by decide) rfl t_1614 rfl (ty := .int) rfl rfl rfl hd dX12_taken_20 (fun h4 hd => ?_)
  exact a_vret (pc := 23) hG hd dX12_taken_23
theorem dX12_clears_0 : decode cX12_clears 0 = .ok (.iconst 0, 1) := by decide +kernel
theorem dX12_clears_1 : decode cX12_clears 1 = .ok (.istore_n 1, 1) := by decide +kernel
theorem dX12_clears_2 : decode cX12_clears 2 = .ok (.iload_n 1, 1) := by decide +kernel
theorem dX12_clears_3 : decode cX12_clears 3 = .ok (.bipush 72, 2) := by decide +kernel
theorem dX12_clears_5 : decode cX12_clears 5 = .ok (.if_icmp .ge 16, 3) := by decide +kernel
theorem dX12_clears_8 : decode cX12_clears 8 = .ok (.aload_n 0, 1) := by decide +kernel
theorem dX12_clears_9 : decode cX12_clears 9 = .ok (.getfield 37, 3) := by decide +kernel
theorem dX12_clears_12 : decode cX12_clears 12 = .ok (.iload_n 1, 1) := by decide +kernel
theorem dX12_clears_13 : decode cX12_clears 13 = .ok (.iconst 0, 1) := by decide +kernel
theorem dX12_clears_14 : decode cX12_clears 14 = .ok (.iastore, 1) := by decide +kernel
theorem dX12_clears_15 : decode cX12_clears 15 = .ok (.iinc 1 1, 3) := by decide +kernel
theorem dX12_clears_18 : decode cX12_clears 18 = .ok (.goto (-16), 3) := by decide +kernel
theorem dX12_clears_21 : decode cX12_clears 21 = .ok (.aload_n 0, 1) := by decide +kernel
theorem dX12_clears_22 : decode cX12_clears 22 = .ok (.getfield 37, 3) := by decide +kernel
theorem dX12_clears_25 : decode cX12_clears 25 = .ok (.iconst 4, 1) := by decide +kernel
theorem dX12_clears_26 : decode cX12_clears 26 = .ok (.iconst 1, 1) := by decide +kernel
theorem dX12_clears_27 : decode cX12_clears 27 = .ok (.iastore, 1) := by decide +kernel
theorem dX12_clears_28 : decode cX12_clears 28 = .ok (.aload_n 0, 1) := by decide +kernel
theorem dX12_clears_29 : decode cX12_clears 29 = .ok (.getfield 37, 3) := by decide +kernel
theorem dX12_clears_32 : decode cX12_clears 32 = .ok (.iconst 5, 1) := by decide +kernel
theorem dX12_clears_33 : decode cX12_clears 33 = .ok (.bipush 9, 2) := by decide +kernel
theorem dX12_clears_35 : decode cX12_clears 35 = .ok (.iastore, 1) := by decide +kernel
theorem dX12_clears_36 : decode cX12_clears 36 = .ok (.aload_n 0, 1) := by decide +kernel
theorem dX12_clears_37 : decode cX12_clears 37 = .ok (.getfield 37, 3) := by decide +kernel
theorem dX12_clears_40 : decode cX12_clears 40 = .ok (.bipush 6, 2) := by decide +kernel
theorem dX12_clears_42 : decode cX12_clears 42 = .ok (.bipush 50, 2) := by decide +kernel
theorem dX12_clears_44 : decode cX12_clears 44 = .ok (.iastore, 1) := by decide +kernel
theorem dX12_clears_45 : decode cX12_clears 45 = .ok (.return_, 1) := by decide +kernel
set_option maxHeartbeats 4000000 in
theorem w_l_M_clears_0 {ad wad : Nat → Nat} {Γ : Ctx} (F : Nat) {n : Nat} (hn : 1 ≤ n) (hG : Cx SHm ad wad cX12_clears 2 RX12 none (n) Γ) {q : Unit × HS} {K0 : HS → Option (Unit × HS)} {g : Nat} {x1 : Int32} {h : HS} (hd : l_M_clears_0 F K0 g x1 h = some q) (hK0 : ∀ (z : HS), K0 z = some q → AW SHm ad 2 (none, q.2) Γ 21 [(0, .ref (ad 0))] [] z) : AW SHm ad 2 (none, q.2) Γ 2 [(0, .ref (ad 0)), (1, .int x1)] [] h := by
  induction g generalizing x1 h with
  | zero => unfold l_M_clears_0 at hd; cases hd
  | succ g ih =>
    unfold l_M_clears_0 at hd
    refine a_iload_n (pc := 2) hG 1 rfl dX12_clears_2 rfl ?_
    refine a_bipush (pc := 3) hG dX12_clears_3 (v := (nI 72)) rfl ?_
    refine a_ic_ge (pc := 5) hG (tgt := 21) hd dX12_clears_5 (by decide) (fun hd => ?_) (fun hd => ?_)
    · exact AW.sub [0] rfl (hK0  _ hd)
    refine a_aload_n (pc := 8) hG 0 rfl dX12_clears_8 rfl ?_
    refine a_getR (pc := 9) hG sm_0 cl_X12 ok_X12 7 (by decide) rfl t_1616 dX12_clears_9 ?_
    refine a_iload_n (pc := 12) hG 1 rfl dX12_clears_12 rfl ?_
    refine a_iconst (pc := 13) hG dX12_clears_13 (v := (nI 0)) rfl ?_
    refine a_iast (pc := 14) hG sm_3 hd dX12_clears_14 (fun h2 hd => ?_)
    refine a_iincN (pc := 15) hG (c0 := (nI 1)) 1 rfl hd dX12_clears_15 rfl (by decide) (lf := fun x => [(1, .int x), (0, .ref (ad 0))]) (fun _ => rfl) (fun v3 hd => ?_)
    refine a_goto (pc := 18) hG (tgt := 2) dX12_clears_18 (by decide) ?_
    exact AW.sub [1, 0] rfl (ih hd)
set_option maxHeartbeats 4000000 in
theorem c_M_clears {ad wad : Nat → Nat} (F : Nat)  (h : HS)  (q : Unit × HS) (hd : f_M_clears F  h = some q) : Ctr SHm ad wad yX12_clears cX12_clears 2 none 1 [.ref (ad 0)] h (none, q.2) := by
  refine enter (own := RX12) (lv := [(0, .ref (ad 0))]) (by decide +kernel) rfl (Nat.le_of_ble_eq_true rfl) rfl (fun Γ hG => ?_)
  unfold f_M_clears at hd
  refine a_iconst (pc := 0) hG dX12_clears_0 (v := (nI 0)) rfl ?_
  refine a_istore_nN (pc := 1) hG hd dX12_clears_1 rfl (by decide) (lf := fun x => [(1, .int x), (0, .ref (ad 0))]) (fun _ => rfl) (fun v1 hd => ?_)
  refine AW.sub [1, 0] rfl ?_
  refine w_l_M_clears_0 F (by omega) hG hd (fun h4 hd => ?_)
  refine a_aload_n (pc := 21) hG 0 rfl dX12_clears_21 rfl ?_
  refine a_getR (pc := 22) hG sm_0 cl_X12 ok_X12 7 (by decide) rfl t_1616 dX12_clears_22 ?_
  refine a_iconst (pc := 25) hG dX12_clears_25 (v := (nI 4)) rfl ?_
  refine a_iconst (pc := 26) hG dX12_clears_26 (v := (nI 1)) rfl ?_
  refine a_iast (pc := 27) hG sm_3 hd dX12_clears_27 (fun h5 hd => ?_)
  refine a_aload_n (pc := 28) hG 0 rfl dX12_clears_28 rfl ?_
  refine a_getR (pc := 29) hG sm_0 cl_X12 ok_X12 7 (by decide) rfl t_1616 dX12_clears_29 ?_
  refine a_iconst (pc := 32) hG dX12_clears_32 (v := (nI 5)) rfl ?_
  refine a_bipush (pc := 33) hG dX12_clears_33 (v := (nI 9)) rfl ?_
  refine a_iast (pc := 35) hG sm_3 hd dX12_clears_35 (fun h6 hd => ?_)
  refine a_aload_n (pc := 36) hG 0 rfl dX12_clears_36 rfl ?_
  refine a_getR (pc := 37) hG sm_0 cl_X12 ok_X12 7 (by decide) rfl t_1616 dX12_clears_37 ?_
  refine a_bipush (pc := 40) hG dX12_clears_40 (v := (nI 6)) rfl ?_
  refine a_bipush (pc := 42) hG dX12_clears_42 (v := (nI 50)) rfl ?_
  refine a_iast (pc := 44) hG sm_3 hd dX12_clears_44 (fun h7 hd => ?_)
  exact a_vret (pc := 45) hG hd dX12_clears_45
theorem dX12_peek_0 : decode cX12_peek 0 = .ok (.aload_n 0, 1) := by decide +kernel
theorem dX12_peek_1 : decode cX12_peek 1 = .ok (.getfield 21, 3) := by decide +kernel
theorem dX12_peek_4 : decode cX12_peek 4 = .ok (.aload_n 0, 1) := by decide +kernel
theorem dX12_peek_5 : decode cX12_peek 5 = .ok (.getfield 18, 3) := by decide +kernel
theorem dX12_peek_8 : decode cX12_peek 8 = .ok (.if_icmp .ge 19, 3) := by decide +kernel
theorem dX12_peek_11 : decode cX12_peek 11 = .ok (.aload_n 0, 1) := by decide +kernel
theorem dX12_peek_12 : decode cX12_peek 12 = .ok (.getfield 14, 3) := by decide +kernel
theorem dX12_peek_15 : decode cX12_peek 15 = .ok (.aload_n 0, 1) := by decide +kernel
theorem dX12_peek_16 : decode cX12_peek 16 = .ok (.getfield 21, 3) := by decide +kernel
theorem dX12_peek_19 : decode cX12_peek 19 = .ok (.baload, 1) := by decide +kernel
theorem dX12_peek_20 : decode cX12_peek 20 = .ok (.sipush 255, 3) := by decide +kernel
theorem dX12_peek_23 : decode cX12_peek 23 = .ok (.iand, 1) := by decide +kernel
theorem dX12_peek_24 : decode cX12_peek 24 = .ok (.goto 4, 3) := by decide +kernel
theorem dX12_peek_27 : decode cX12_peek 27 = .ok (.iconst (-1), 1) := by decide +kernel
theorem dX12_peek_28 : decode cX12_peek 28 = .ok (.ireturn, 1) := by decide +kernel
set_option maxHeartbeats 4000000 in
theorem c_M_peek {ad wad : Nat → Nat}  (h : HS)  (q : Int32 × HS) (hd : f_M_peek  h = some q) : Ctr SHm ad wad yX12_peek cX12_peek 1 (some .int) 1 [.ref (ad 0)] h (some (.int q.1), q.2) := by
  refine enter (own := RX12) (lv := [(0, .ref (ad 0))]) (by decide +kernel) rfl (Nat.le_of_ble_eq_true rfl) rfl (fun Γ hG => ?_)
  unfold f_M_peek at hd
  refine a_aload_n (pc := 0) hG 0 rfl dX12_peek_0 rfl ?_
  refine a_getI (pc := 1) hG sm_0 cl_X12 ok_X12 4 (by decide) rfl t_1613 dX12_peek_1 ?_
  refine a_aload_n (pc := 4) hG 0 rfl dX12_peek_4 rfl ?_
  refine a_getI (pc := 5) hG sm_0 cl_X12 ok_X12 3 (by decide) rfl t_1612 dX12_peek_5 ?_
  refine a_ic_ge (pc := 8) hG (tgt := 27) hd dX12_peek_8 (by decide) (fun hd => ?_) (fun hd => ?_)
  · refine a_iconst (pc := 27) hG dX12_peek_27 (v := (-1 : Int32)) rfl ?_
    exact a_iret (pc := 28) hG hd dX12_peek_28
  refine a_aload_n (pc := 11) hG 0 rfl dX12_peek_11 rfl ?_
  refine a_getR (pc := 12) hG sm_0 cl_X12 ok_X12 1 (by decide) rfl t_1610 dX12_peek_12 ?_
  refine a_aload_n (pc := 15) hG 0 rfl dX12_peek_15 rfl ?_
  refine a_getI (pc := 16) hG sm_0 cl_X12 ok_X12 4 (by decide) rfl t_1613 dX12_peek_16 ?_
  refine a_bald (pc := 19) hG sm_1 hd dX12_peek_19 (fun hd => ?_)
  refine a_sipush (pc := 20) hG dX12_peek_20 (v := (nI 255)) rfl ?_
  refine a_iand (pc := 23) hG dX12_peek_23 ?_
  refine a_goto (pc := 24) hG (tgt := 28) dX12_peek_24 (by decide) ?_
  exact a_iret (pc := 28) hG hd dX12_peek_28
theorem dX12_isSmall_0 : decode cX12_isSmall 0 = .ok (.iload_n 0, 1) := by decide +kernel
theorem dX12_isSmall_1 : decode cX12_isSmall 1 = .ok (.bipush 97, 2) := by decide +kernel
theorem dX12_isSmall_3 : decode cX12_isSmall 3 = .ok (.if_icmp .lt 13, 3) := by decide +kernel
theorem dX12_isSmall_6 : decode cX12_isSmall 6 = .ok (.iload_n 0, 1) := by decide +kernel
theorem dX12_isSmall_7 : decode cX12_isSmall 7 = .ok (.bipush 122, 2) := by decide +kernel
theorem dX12_isSmall_9 : decode cX12_isSmall 9 = .ok (.if_icmp .gt 7, 3) := by decide +kernel
theorem dX12_isSmall_12 : decode cX12_isSmall 12 = .ok (.iconst 1, 1) := by decide +kernel
theorem dX12_isSmall_13 : decode cX12_isSmall 13 = .ok (.goto 4, 3) := by decide +kernel
theorem dX12_isSmall_16 : decode cX12_isSmall 16 = .ok (.iconst 0, 1) := by decide +kernel
theorem dX12_isSmall_17 : decode cX12_isSmall 17 = .ok (.ireturn, 1) := by decide +kernel
set_option maxHeartbeats 4000000 in
theorem c_M_isSmall {ad wad : Nat → Nat} (a0 : Int32) (h : HS)  (q : Int32 × HS) (hd : f_M_isSmall a0 h = some q) : Ctr SHm ad wad yX12_isSmall cX12_isSmall 1 (some .boolean) 1 [.int a0] h (some (.int q.1), q.2) := by
  refine enter (own := RX12) (lv := [(0, .int a0)]) (by decide +kernel) rfl (Nat.le_of_ble_eq_true rfl) rfl (fun Γ hG => ?_)
  unfold f_M_isSmall at hd
  refine a_iload_n (pc := 0) hG 0 rfl dX12_isSmall_0 rfl ?_
  refine a_bipush (pc := 1) hG dX12_isSmall_1 (v := (nI 97)) rfl ?_
  refine a_ic_lt (pc := 3) hG (tgt := 16) hd dX12_isSmall_3 (by decide) (fun hd => ?_) (fun hd => ?_)
  · refine a_iconst (pc := 16) hG dX12_isSmall_16 (v := (nI 0)) rfl ?_
    exact a_zret (pc := 17) hG hd dX12_isSmall_17
  refine a_iload_n (pc := 6) hG 0 rfl dX12_isSmall_6 rfl ?_
  refine a_bipush (pc := 7) hG dX12_isSmall_7 (v := (nI 122)) rfl ?_
  refine a_ic_gt (pc := 9) hG (tgt := 16) hd dX12_isSmall_9 (by decide) (fun hd => ?_) (fun hd => ?_)
  · refine a_iconst (pc := 16) hG dX12_isSmall_16 (v := (nI 0)) rfl ?_
    exact a_zret (pc := 17) hG hd dX12_isSmall_17
  refine a_iconst (pc := 12) hG dX12_isSmall_12 (v := (nI 1)) rfl ?_
  refine a_goto (pc := 13) hG (tgt := 17) dX12_isSmall_13 (by decide) ?_
  exact a_zret (pc := 17) hG hd dX12_isSmall_17
theorem dX12_isDigit_0 : decode cX12_isDigit 0 = .ok (.iload_n 0, 1) := by decide +kernel
theorem dX12_isDigit_1 : decode cX12_isDigit 1 = .ok (.bipush 48, 2) := by decide +kernel
theorem dX12_isDigit_3 : decode cX12_isDigit 3 = .ok (.if_icmp .lt 13, 3) := by decide +kernel
theorem dX12_isDigit_6 : decode cX12_isDigit 6 = .ok (.iload_n 0, 1) := by decide +kernel
theorem dX12_isDigit_7 : decode cX12_isDigit 7 = .ok (.bipush 57, 2) := by decide +kernel
theorem dX12_isDigit_9 : decode cX12_isDigit 9 = .ok (.if_icmp .gt 7, 3) := by decide +kernel
theorem dX12_isDigit_12 : decode cX12_isDigit 12 = .ok (.iconst 1, 1) := by decide +kernel
theorem dX12_isDigit_13 : decode cX12_isDigit 13 = .ok (.goto 4, 3) := by decide +kernel
theorem dX12_isDigit_16 : decode cX12_isDigit 16 = .ok (.iconst 0, 1) := by decide +kernel
theorem dX12_isDigit_17 : decode cX12_isDigit 17 = .ok (.ireturn, 1) := by decide +kernel
set_option maxHeartbeats 4000000 in
theorem c_M_isDigit {ad wad : Nat → Nat} (a0 : Int32) (h : HS)  (q : Int32 × HS) (hd : f_M_isDigit a0 h = some q) : Ctr SHm ad wad yX12_isDigit cX12_isDigit 1 (some .boolean) 1 [.int a0] h (some (.int q.1), q.2) := by
  refine enter (own := RX12) (lv := [(0, .int a0)]) (by decide +kernel) rfl (Nat.le_of_ble_eq_true rfl) rfl (fun Γ hG => ?_)
  unfold f_M_isDigit at hd
  refine a_iload_n (pc := 0) hG 0 rfl dX12_isDigit_0 rfl ?_
  refine a_bipush (pc := 1) hG dX12_isDigit_1 (v := (nI 48)) rfl ?_
  refine a_ic_lt (pc := 3) hG (tgt := 16) hd dX12_isDigit_3 (by decide) (fun hd => ?_) (fun hd => ?_)
  · refine a_iconst (pc := 16) hG dX12_isDigit_16 (v := (nI 0)) rfl ?_
    exact a_zret (pc := 17) hG hd dX12_isDigit_17
  refine a_iload_n (pc := 6) hG 0 rfl dX12_isDigit_6 rfl ?_
  refine a_bipush (pc := 7) hG dX12_isDigit_7 (v := (nI 57)) rfl ?_
  refine a_ic_gt (pc := 9) hG (tgt := 16) hd dX12_isDigit_9 (by decide) (fun hd => ?_) (fun hd => ?_)
  · refine a_iconst (pc := 16) hG dX12_isDigit_16 (v := (nI 0)) rfl ?_
    exact a_zret (pc := 17) hG hd dX12_isDigit_17
  refine a_iconst (pc := 12) hG dX12_isDigit_12 (v := (nI 1)) rfl ?_
  refine a_goto (pc := 13) hG (tgt := 17) dX12_isDigit_13 (by decide) ?_
  exact a_zret (pc := 17) hG hd dX12_isDigit_17
theorem dX12_next_0 : decode cX12_next 0 = .ok (.aload_n 0, 1) := by decide +kernel
theorem dX12_next_1 : decode cX12_next 1 = .ok (.invokevirtual 142, 3) := by decide +kernel
theorem dX12_next_4 : decode cX12_next 4 = .ok (.bipush 32, 2) := by decide +kernel
theorem dX12_next_6 : decode cX12_next 6 = .ok (.if_icmp .eq 12, 3) := by decide +kernel
theorem dX12_next_9 : decode cX12_next 9 = .ok (.aload_n 0, 1) := by decide +kernel
theorem dX12_next_10 : decode cX12_next 10 = .ok (.invokevirtual 142, 3) := by decide +kernel
theorem dX12_next_13 : decode cX12_next 13 = .ok (.bipush 10, 2) := by decide +kernel
theorem dX12_next_15 : decode cX12_next 15 = .ok (.if_icmp .ne 16, 3) := by decide +kernel
theorem dX12_next_18 : decode cX12_next 18 = .ok (.aload_n 0, 1) := by decide +kernel
theorem dX12_next_19 : decode cX12_next 19 = .ok (.dup, 1) := by decide +kernel
theorem dX12_next_20 : decode cX12_next 20 = .ok (.getfield 21, 3) := by decide +kernel
theorem dX12_next_23 : decode cX12_next 23 = .ok (.iconst 1, 1) := by decide +kernel
theorem dX12_next_24 : decode cX12_next 24 = .ok (.iadd, 1) := by decide +kernel
theorem dX12_next_25 : decode cX12_next 25 = .ok (.putfield 21, 3) := by decide +kernel
theorem dX12_next_28 : decode cX12_next 28 = .ok (.goto (-28), 3) := by decide +kernel
theorem dX12_next_31 : decode cX12_next 31 = .ok (.aload_n 0, 1) := by decide +kernel
theorem dX12_next_32 : decode cX12_next 32 = .ok (.aload_n 0, 1) := by decide +kernel
theorem dX12_next_33 : decode cX12_next 33 = .ok (.getfield 21, 3) := by decide +kernel
theorem dX12_next_36 : decode cX12_next 36 = .ok (.putfield 146, 3) := by decide +kernel
theorem dX12_next_39 : decode cX12_next 39 = .ok (.aload_n 0, 1) := by decide +kernel
theorem dX12_next_40 : decode cX12_next 40 = .ok (.iconst 0, 1) := by decide +kernel
theorem dX12_next_41 : decode cX12_next 41 = .ok (.putfield 149, 3) := by decide +kernel
theorem dX12_next_44 : decode cX12_next 44 = .ok (.aload_n 0, 1) := by decide +kernel
theorem dX12_next_45 : decode cX12_next 45 = .ok (.getfield 18, 3) := by decide +kernel
theorem dX12_next_48 : decode cX12_next 48 = .ok (.aload_n 0, 1) := by decide +kernel
theorem dX12_next_49 : decode cX12_next 49 = .ok (.getfield 24, 3) := by decide +kernel
theorem dX12_next_52 : decode cX12_next 52 = .ok (.if_icmp .le 28, 3) := by decide +kernel
theorem dX12_next_55 : decode cX12_next 55 = .ok (.aload_n 0, 1) := by decide +kernel
theorem dX12_next_56 : decode cX12_next 56 = .ok (.getfield 21, 3) := by decide +kernel
theorem dX12_next_59 : decode cX12_next 59 = .ok (.aload_n 0, 1) := by decide +kernel
theorem dX12_next_60 : decode cX12_next 60 = .ok (.getfield 24, 3) := by decide +kernel
theorem dX12_next_63 : decode cX12_next 63 = .ok (.if_icmp .lt 17, 3) := by decide +kernel
theorem dX12_next_66 : decode cX12_next 66 = .ok (.aload_n 0, 1) := by decide +kernel
theorem dX12_next_67 : decode cX12_next 67 = .ok (.aload_n 0, 1) := by decide +kernel
theorem dX12_next_68 : decode cX12_next 68 = .ok (.getfield 24, 3) := by decide +kernel
theorem dX12_next_71 : decode cX12_next 71 = .ok (.putfield 146, 3) := by decide +kernel
theorem dX12_next_74 : decode cX12_next 74 = .ok (.aload_n 0, 1) := by decide +kernel
theorem dX12_next_75 : decode cX12_next 75 = .ok (.iconst 4, 1) := by decide +kernel
theorem dX12_next_76 : decode cX12_next 76 = .ok (.putfield 152, 3) := by decide +kernel
theorem dX12_next_79 : decode cX12_next 79 = .ok (.return_, 1) := by decide +kernel
theorem dX12_next_80 : decode cX12_next 80 = .ok (.aload_n 0, 1) := by decide +kernel
theorem dX12_next_81 : decode cX12_next 81 = .ok (.invokevirtual 142, 3) := by decide +kernel
theorem dX12_next_84 : decode cX12_next 84 = .ok (.istore_n 1, 1) := by decide +kernel
theorem dX12_next_85 : decode cX12_next 85 = .ok (.iload_n 1, 1) := by decide +kernel
theorem dX12_next_86 : decode cX12_next 86 = .ok (.ifCond .ge 9, 3) := by decide +kernel
theorem dX12_next_89 : decode cX12_next 89 = .ok (.aload_n 0, 1) := by decide +kernel
theorem dX12_next_90 : decode cX12_next 90 = .ok (.iconst 0, 1) := by decide +kernel
theorem dX12_next_91 : decode cX12_next 91 = .ok (.putfield 152, 3) := by decide +kernel
theorem dX12_next_94 : decode cX12_next 94 = .ok (.return_, 1) := by decide +kernel
theorem dX12_next_95 : decode cX12_next 95 = .ok (.iload_n 1, 1) := by decide +kernel
theorem dX12_next_96 : decode cX12_next 96 = .ok (.invokestatic 155, 3) := by decide +kernel
theorem dX12_next_99 : decode cX12_next 99 = .ok (.ifCond .ne 65, 3) := by decide +kernel
theorem dX12_next_102 : decode cX12_next 102 = .ok (.iload_n 1, 1) := by decide +kernel
theorem dX12_next_103 : decode cX12_next 103 = .ok (.invokestatic 159, 3) := by decide +kernel
theorem dX12_next_106 : decode cX12_next 106 = .ok (.ifCond .ne 58, 3) := by decide +kernel
theorem dX12_next_109 : decode cX12_next 109 = .ok (.aload_n 0, 1) := by decide +kernel
theorem dX12_next_110 : decode cX12_next 110 = .ok (.iload_n 1, 1) := by decide +kernel
theorem dX12_next_111 : decode cX12_next 111 = .ok (.bipush 59, 2) := by decide +kernel
theorem dX12_next_113 : decode cX12_next 113 = .ok (.if_icmp .eq 27, 3) := by decide +kernel
theorem dX12_next_116 : decode cX12_next 116 = .ok (.iload_n 1, 1) := by decide +kernel
theorem dX12_next_117 : decode cX12_next 117 = .ok (.bipush 40, 2) := by decide +kernel
theorem dX12_next_119 : decode cX12_next 119 = .ok (.if_icmp .eq 21, 3) := by decide +kernel
theorem dX12_next_122 : decode cX12_next 122 = .ok (.iload_n 1, 1) := by decide +kernel
theorem dX12_next_123 : decode cX12_next 123 = .ok (.bipush 41, 2) := by decide +kernel
theorem dX12_next_125 : decode cX12_next 125 = .ok (.if_icmp .eq 15, 3) := by decide +kernel
theorem dX12_next_128 : decode cX12_next 128 = .ok (.iload_n 1, 1) := by decide +kernel
theorem dX12_next_129 : decode cX12_next 129 = .ok (.bipush 60, 2) := by decide +kernel
theorem dX12_next_131 : decode cX12_next 131 = .ok (.if_icmp .lt 13, 3) := by decide +kernel
theorem dX12_next_134 : decode cX12_next 134 = .ok (.iload_n 1, 1) := by decide +kernel
theorem dX12_next_135 : decode cX12_next 135 = .ok (.bipush 62, 2) := by decide +kernel
theorem dX12_next_137 : decode cX12_next 137 = .ok (.if_icmp .gt 7, 3) := by decide +kernel
theorem dX12_next_140 : decode cX12_next 140 = .ok (.iconst 3, 1) := by decide +kernel
theorem dX12_next_141 : decode cX12_next 141 = .ok (.goto 4, 3) := by decide +kernel
theorem dX12_next_144 : decode cX12_next 144 = .ok (.iconst 4, 1) := by decide +kernel
theorem dX12_next_145 : decode cX12_next 145 = .ok (.putfield 152, 3) := by decide +kernel
theorem dX12_next_148 : decode cX12_next 148 = .ok (.aload_n 0, 1) := by decide +kernel
theorem dX12_next_149 : decode cX12_next 149 = .ok (.iload_n 1, 1) := by decide +kernel
theorem dX12_next_150 : decode cX12_next 150 = .ok (.putfield 162, 3) := by decide +kernel
theorem dX12_next_153 : decode cX12_next 153 = .ok (.aload_n 0, 1) := by decide +kernel
theorem dX12_next_154 : decode cX12_next 154 = .ok (.dup, 1) := by decide +kernel
theorem dX12_next_155 : decode cX12_next 155 = .ok (.getfield 21, 3) := by decide +kernel
theorem dX12_next_158 : decode cX12_next 158 = .ok (.iconst 1, 1) := by decide +kernel
theorem dX12_next_159 : decode cX12_next 159 = .ok (.iadd, 1) := by decide +kernel
theorem dX12_next_160 : decode cX12_next 160 = .ok (.putfield 21, 3) := by decide +kernel
theorem dX12_next_163 : decode cX12_next 163 = .ok (.return_, 1) := by decide +kernel
theorem dX12_next_164 : decode cX12_next 164 = .ok (.iload_n 1, 1) := by decide +kernel
theorem dX12_next_165 : decode cX12_next 165 = .ok (.invokestatic 155, 3) := by decide +kernel
theorem dX12_next_168 : decode cX12_next 168 = .ok (.istore_n 2, 1) := by decide +kernel
theorem dX12_next_169 : decode cX12_next 169 = .ok (.iconst 1, 1) := by decide +kernel
theorem dX12_next_170 : decode cX12_next 170 = .ok (.istore_n 3, 1) := by decide +kernel
theorem dX12_next_171 : decode cX12_next 171 = .ok (.aload_n 0, 1) := by decide +kernel
theorem dX12_next_172 : decode cX12_next 172 = .ok (.lconst 0, 1) := by decide +kernel
theorem dX12_next_173 : decode cX12_next 173 = .ok (.putfield 165, 3) := by decide +kernel
theorem dX12_next_176 : decode cX12_next 176 = .ok (.aload_n 0, 1) := by decide +kernel
theorem dX12_next_177 : decode cX12_next 177 = .ok (.iconst 0, 1) := by decide +kernel
theorem dX12_next_178 : decode cX12_next 178 = .ok (.putfield 162, 3) := by decide +kernel
theorem dX12_next_181 : decode cX12_next 181 = .ok (.aload_n 0, 1) := by decide +kernel
theorem dX12_next_182 : decode cX12_next 182 = .ok (.invokevirtual 142, 3) := by decide +kernel
theorem dX12_next_185 : decode cX12_next 185 = .ok (.invokestatic 155, 3) := by decide +kernel
theorem dX12_next_188 : decode cX12_next 188 = .ok (.ifCond .ne 13, 3) := by decide +kernel
theorem dX12_next_191 : decode cX12_next 191 = .ok (.aload_n 0, 1) := by decide +kernel
theorem dX12_next_192 : decode cX12_next 192 = .ok (.invokevirtual 142, 3) := by decide +kernel
theorem dX12_next_195 : decode cX12_next 195 = .ok (.invokestatic 159, 3) := by decide +kernel
theorem dX12_next_198 : decode cX12_next 198 = .ok (.ifCond .eq 100, 3) := by decide +kernel
theorem dX12_next_201 : decode cX12_next 201 = .ok (.iload_n 3, 1) := by decide +kernel
theorem dX12_next_202 : decode cX12_next 202 = .ok (.ifCond .eq 18, 3) := by decide +kernel
theorem dX12_next_205 : decode cX12_next 205 = .ok (.aload_n 0, 1) := by decide +kernel
theorem dX12_next_206 : decode cX12_next 206 = .ok (.invokevirtual 142, 3) := by decide +kernel
theorem dX12_next_209 : decode cX12_next 209 = .ok (.invokestatic 155, 3) := by decide +kernel
theorem dX12_next_212 : decode cX12_next 212 = .ok (.iload_n 2, 1) := by decide +kernel
theorem dX12_next_213 : decode cX12_next 213 = .ok (.if_icmp .ne 7, 3) := by decide +kernel
theorem dX12_next_216 : decode cX12_next 216 = .ok (.iconst 1, 1) := by decide +kernel
theorem dX12_next_217 : decode cX12_next 217 = .ok (.goto 4, 3) := by decide +kernel
theorem dX12_next_220 : decode cX12_next 220 = .ok (.iconst 0, 1) := by decide +kernel
theorem dX12_next_221 : decode cX12_next 221 = .ok (.istore_n 3, 1) := by decide +kernel
theorem dX12_next_222 : decode cX12_next 222 = .ok (.aload_n 0, 1) := by decide +kernel
theorem dX12_next_223 : decode cX12_next 223 = .ok (.getfield 149, 3) := by decide +kernel
theorem dX12_next_226 : decode cX12_next 226 = .ok (.bipush 7, 2) := by decide +kernel
theorem dX12_next_228 : decode cX12_next 228 = .ok (.if_icmp .ge 20, 3) := by decide +kernel
theorem dX12_next_231 : decode cX12_next 231 = .ok (.aload_n 0, 1) := by decide +kernel
theorem dX12_next_232 : decode cX12_next 232 = .ok (.aload_n 0, 1) := by decide +kernel
theorem dX12_next_233 : decode cX12_next 233 = .ok (.getfield 165, 3) := by decide +kernel
theorem dX12_next_236 : decode cX12_next 236 = .ok (.bipush 8, 2) := by decide +kernel
theorem dX12_next_238 : decode cX12_next 238 = .ok (.lshl, 1) := by decide +kernel
theorem dX12_next_239 : decode cX12_next 239 = .ok (.aload_n 0, 1) := by decide +kernel
theorem dX12_next_240 : decode cX12_next 240 = .ok (.invokevirtual 142, 3) := by decide +kernel
theorem dX12_next_243 : decode cX12_next 243 = .ok (.i2l, 1) := by decide +kernel
theorem dX12_next_244 : decode cX12_next 244 = .ok (.lor, 1) := by decide +kernel
theorem dX12_next_245 : decode cX12_next 245 = .ok (.putfield 165, 3) := by decide +kernel
theorem dX12_next_248 : decode cX12_next 248 = .ok (.aload_n 0, 1) := by decide +kernel
theorem dX12_next_249 : decode cX12_next 249 = .ok (.getfield 149, 3) := by decide +kernel
theorem dX12_next_252 : decode cX12_next 252 = .ok (.iconst 3, 1) := by decide +kernel
theorem dX12_next_253 : decode cX12_next 253 = .ok (.if_icmp .ge 22, 3) := by decide +kernel
theorem dX12_next_256 : decode cX12_next 256 = .ok (.aload_n 0, 1) := by decide +kernel
theorem dX12_next_257 : decode cX12_next 257 = .ok (.bipush 10, 2) := by decide +kernel
theorem dX12_next_259 : decode cX12_next 259 = .ok (.aload_n 0, 1) := by decide +kernel
theorem dX12_next_260 : decode cX12_next 260 = .ok (.getfield 162, 3) := by decide +kernel
theorem dX12_next_263 : decode cX12_next 263 = .ok (.imul, 1) := by decide +kernel
theorem dX12_next_264 : decode cX12_next 264 = .ok (.aload_n 0, 1) := by decide +kernel
theorem dX12_next_265 : decode cX12_next 265 = .ok (.invokevirtual 142, 3) := by decide +kernel
theorem dX12_next_268 : decode cX12_next 268 = .ok (.iadd, 1) := by decide +kernel
theorem dX12_next_269 : decode cX12_next 269 = .ok (.bipush 48, 2) := by decide +kernel
theorem dX12_next_271 : decode cX12_next 271 = .ok (.isub, 1) := by decide +kernel
theorem dX12_next_272 : decode cX12_next 272 = .ok (.putfield 162, 3) := by decide +kernel
theorem dX12_next_275 : decode cX12_next 275 = .ok (.aload_n 0, 1) := by decide +kernel
theorem dX12_next_276 : decode cX12_next 276 = .ok (.dup, 1) := by decide +kernel
theorem dX12_next_277 : decode cX12_next 277 = .ok (.getfield 149, 3) := by decide +kernel
theorem dX12_next_280 : decode cX12_next 280 = .ok (.iconst 1, 1) := by decide +kernel
theorem dX12_next_281 : decode cX12_next 281 = .ok (.iadd, 1) := by decide +kernel
theorem dX12_next_282 : decode cX12_next 282 = .ok (.putfield 149, 3) := by decide +kernel
theorem dX12_next_285 : decode cX12_next 285 = .ok (.aload_n 0, 1) := by decide +kernel
theorem dX12_next_286 : decode cX12_next 286 = .ok (.dup, 1) := by decide +kernel
theorem dX12_next_287 : decode cX12_next 287 = .ok (.getfield 21, 3) := by decide +kernel
theorem dX12_next_290 : decode cX12_next 290 = .ok (.iconst 1, 1) := by decide +kernel
theorem dX12_next_291 : decode cX12_next 291 = .ok (.iadd, 1) := by decide +kernel
theorem dX12_next_292 : decode cX12_next 292 = .ok (.putfield 21, 3) := by decide +kernel
theorem dX12_next_295 : decode cX12_next 295 = .ok (.goto (-114), 3) := by decide +kernel
theorem dX12_next_298 : decode cX12_next 298 = .ok (.aload_n 0, 1) := by decide +kernel
theorem dX12_next_299 : decode cX12_next 299 = .ok (.iload_n 3, 1) := by decide +kernel
theorem dX12_next_300 : decode cX12_next 300 = .ok (.ifCond .eq 20, 3) := by decide +kernel
theorem dX12_next_303 : decode cX12_next 303 = .ok (.aload_n 0, 1) := by decide +kernel
theorem dX12_next_304 : decode cX12_next 304 = .ok (.getfield 149, 3) := by decide +kernel
theorem dX12_next_307 : decode cX12_next 307 = .ok (.iload_n 2, 1) := by decide +kernel
theorem dX12_next_308 : decode cX12_next 308 = .ok (.ifCond .eq 8, 3) := by decide +kernel
theorem dX12_next_311 : decode cX12_next 311 = .ok (.bipush 7, 2) := by decide +kernel
theorem dX12_next_313 : decode cX12_next 313 = .ok (.goto 4, 3) := by decide +kernel
theorem dX12_next_316 : decode cX12_next 316 = .ok (.iconst 3, 1) := by decide +kernel
theorem dX12_next_317 : decode cX12_next 317 = .ok (.if_icmp .le 7, 3) := by decide +kernel
theorem dX12_next_320 : decode cX12_next 320 = .ok (.iconst 4, 1) := by decide +kernel
theorem dX12_next_321 : decode cX12_next 321 = .ok (.goto 12, 3) := by decide +kernel
theorem dX12_next_324 : decode cX12_next 324 = .ok (.iload_n 2, 1) := by decide +kernel
theorem dX12_next_325 : decode cX12_next 325 = .ok (.ifCond .eq 7, 3) := by decide +kernel
theorem dX12_next_328 : decode cX12_next 328 = .ok (.iconst 1, 1) := by decide +kernel
theorem dX12_next_329 : decode cX12_next 329 = .ok (.goto 4, 3) := by decide +kernel
theorem dX12_next_332 : decode cX12_next 332 = .ok (.iconst 2, 1) := by decide +kernel
theorem dX12_next_333 : decode cX12_next 333 = .ok (.putfield 152, 3) := by decide +kernel
theorem dX12_next_336 : decode cX12_next 336 = .ok (.return_, 1) := by decide +kernel
set_option maxHeartbeats 4000000 in
theorem w_l_M_next_0 {ad wad : Nat → Nat} {Γ : Ctx} (F : Nat) {n : Nat} (hn : 2 ≤ n) (hG : Cx SHm ad wad cX12_next 4 RX12 none (n) Γ) {q : Unit × HS} {K0 : HS → Option (Unit × HS)} {g : Nat}  {h : HS} (hd : l_M_next_0 F K0 g  h = some q) (hK0 : ∀ (z : HS), K0 z = some q → AW SHm ad 4 (none, q.2) Γ 31 [(0, .ref (ad 0))] [] z) : AW SHm ad 4 (none, q.2) Γ 0 [(0, .ref (ad 0))] [] h := by
  induction g generalizing h with
  | zero => unfold l_M_next_0 at hd; cases hd
  | succ g ih =>
    unfold l_M_next_0 at hd
    refine a_aload_n (pc := 0) hG 0 rfl dX12_next_0 rfl ?_
    refine a_cvI (pc := 1) hG (As := []) (st := []) sm_0 cl_X12 mk_X12_peek t_1758 (by omega) (fun z hz => c_M_peek  _  z hz) rfl (Nat.le_of_ble_eq_true rfl) hd dX12_next_1 (fun r2 h1 hd => ?_)
    refine a_bipush (pc := 4) hG dX12_next_4 (v := (nI 32)) rfl ?_
    refine a_join hd (Q := fun J : HS → Option (Unit × HS) => ∀  (h4 : HS), J  h4 = some q → AW SHm ad 4 (none, q.2) Γ 18 [(0, .ref (ad 0))] [] h4) (fun  h4 hd => ?_) (fun J3 hJ3 hd => ?_)
    · refine a_aload_n (pc := 18) hG 0 rfl dX12_next_18 rfl ?_
      refine a_dup (pc := 19) hG dX12_next_19 rfl ?_
      refine a_getI (pc := 20) hG sm_0 cl_X12 ok_X12 4 (by decide) rfl t_1613 dX12_next_20 ?_
      refine a_iconst (pc := 23) hG dX12_next_23 (v := (nI 1)) rfl ?_
      refine a_iadd (pc := 24) hG dX12_next_24 ?_
      refine a_putI (pc := 25) hG sm_0 cl_X12 ok_X12 4 (by decide) rfl t_1613 rfl (ty := .int) rfl rfl rfl hd dX12_next_25 (fun h5 hd => ?_)
      refine a_goto (pc := 28) hG (tgt := 0) dX12_next_28 (by decide) ?_
      exact AW.sub [0] rfl (ih hd)
    refine a_ic_eq (pc := 6) hG (tgt := 18) hd dX12_next_6 (by decide) (fun hd => ?_) (fun hd => ?_)
    · exact AW.sub [0] rfl (hJ3  _ hd)
    refine a_aload_n (pc := 9) hG 0 rfl dX12_next_9 rfl ?_
    refine a_cvI (pc := 10) hG (As := []) (st := []) sm_0 cl_X12 mk_X12_peek t_1758 (by omega) (fun z hz => c_M_peek  _  z hz) rfl (Nat.le_of_ble_eq_true rfl) hd dX12_next_10 (fun r7 h6 hd => ?_)
    refine a_bipush (pc := 13) hG dX12_next_13 (v := (nI 10)) rfl ?_
    refine a_ic_ne (pc := 15) hG (tgt := 31) hd dX12_next_15 (by decide) (fun hd => ?_) (fun hd => ?_)
    · exact AW.sub [0] rfl (hK0  _ hd)
    exact AW.sub [0] rfl (hJ3  _ hd)
set_option maxHeartbeats 4000000 in
theorem w_l_M_next_1 {ad wad : Nat → Nat} {Γ : Ctx} (F : Nat) {n : Nat} (hn : 2 ≤ n) (hG : Cx SHm ad wad cX12_next 4 RX12 none (n) Γ) {q : Unit × HS} {x2 : Int32} {K0 : Int32 → HS → Option (Unit × HS)} {g : Nat} {x3 : Int32} {h : HS} (hd : l_M_next_1 F x2 K0 g x3 h = some q) (hK0 : ∀ (y3 : Int32) (z : HS), K0 y3 z = some q → AW SHm ad 4 (none, q.2) Γ 298 [(0, .ref (ad 0)), (2, .int x2), (3, .int y3)] [] z) : AW SHm ad 4 (none, q.2) Γ 181 [(0, .ref (ad 0)), (2, .int x2), (3, .int x3)] [] h := by
  induction g generalizing x3 h with
  | zero => unfold l_M_next_1 at hd; cases hd
  | succ g ih =>
    unfold l_M_next_1 at hd
    refine a_aload_n (pc := 181) hG 0 rfl dX12_next_181 rfl ?_
    refine a_cvI (pc := 182) hG (As := []) (st := []) sm_0 cl_X12 mk_X12_peek t_1758 (by omega) (fun z hz => c_M_peek  _  z hz) rfl (Nat.le_of_ble_eq_true rfl) hd dX12_next_182 (fun r27 h26 hd => ?_)
    refine a_csI (pc := 185) hG (As := [.int r27]) (st := []) mk_X12_isSmall t_1762 (by omega) (fun z hz => c_M_isSmall r27 _  z hz) rfl (Nat.le_of_ble_eq_true rfl) hd dX12_next_185 (fun r29 h28 hd => ?_)
    refine a_join hd (Q := fun J : HS → Option (Unit × HS) => ∀  (h31 : HS), J  h31 = some q → AW SHm ad 4 (none, q.2) Γ 201 [(0, .ref (ad 0)), (2, .int x2), (3, .int x3)] [] h31) (fun  h31 hd => ?_) (fun J30 hJ30 hd => ?_)
    · refine a_iload_n (pc := 201) hG 2 rfl dX12_next_201 rfl ?_
      refine a_join hd (Q := fun J : Int32 → HS → Option (Unit × HS) => ∀ (v33 : Int32) (h34 : HS), J v33 h34 = some q → AW SHm ad 4 (none, q.2) Γ 221 [(0, .ref (ad 0)), (2, .int x2)] [.int v33] h34) (fun v33 h34 hd => ?_) (fun J32 hJ32 hd => ?_)
      · refine a_istore_nN (pc := 221) hG hd dX12_next_221 rfl (by decide) (lf := fun x => [(3, .int x), (0, .ref (ad 0)), (2, .int x2)]) (fun _ => rfl) (fun v35 hd => ?_)
        refine a_aload_n (pc := 222) hG 1 rfl dX12_next_222 rfl ?_
        refine a_getI (pc := 223) hG sm_0 cl_X12 ok_X12 13 (by decide) rfl t_1622 dX12_next_223 ?_
        refine a_bipush (pc := 226) hG dX12_next_226 (v := (nI 7)) rfl ?_
        refine a_join hd (Q := fun J : HS → Option (Unit × HS) => ∀  (h37 : HS), J  h37 = some q → AW SHm ad 4 (none, q.2) Γ 248 [(0, .ref (ad 0)), (2, .int x2), (3, .int v35)] [] h37) (fun  h37 hd => ?_) (fun J36 hJ36 hd => ?_)
        · refine a_aload_n (pc := 248) hG 0 rfl dX12_next_248 rfl ?_
          refine a_getI (pc := 249) hG sm_0 cl_X12 ok_X12 13 (by decide) rfl t_1622 dX12_next_249 ?_
          refine a_iconst (pc := 252) hG dX12_next_252 (v := (nI 3)) rfl ?_
          refine a_join hd (Q := fun J : HS → Option (Unit × HS) => ∀  (h39 : HS), J  h39 = some q → AW SHm ad 4 (none, q.2) Γ 275 [(0, .ref (ad 0)), (2, .int x2), (3, .int v35)] [] h39) (fun  h39 hd => ?_) (fun J38 hJ38 hd => ?_)
          · refine a_aload_n (pc := 275) hG 0 rfl dX12_next_275 rfl ?_
            refine a_dup (pc := 276) hG dX12_next_276 rfl ?_
            refine a_getI (pc := 277) hG sm_0 cl_X12 ok_X12 13 (by decide) rfl t_1622 dX12_next_277 ?_
            refine a_iconst (pc := 280) hG dX12_next_280 (v := (nI 1)) rfl ?_
            refine a_iadd (pc := 281) hG dX12_next_281 ?_
            refine a_putI (pc := 282) hG sm_0 cl_X12 ok_X12 13 (by decide) rfl t_1622 rfl (ty := .int) rfl rfl rfl hd dX12_next_282 (fun h40 hd => ?_)
            refine a_aload_n (pc := 285) hG 0 rfl dX12_next_285 rfl ?_
            refine a_dup (pc := 286) hG dX12_next_286 rfl ?_
            refine a_getI (pc := 287) hG sm_0 cl_X12 ok_X12 4 (by decide) rfl t_1613 dX12_next_287 ?_
            refine a_iconst (pc := 290) hG dX12_next_290 (v := (nI 1)) rfl ?_
            refine a_iadd (pc := 291) hG dX12_next_291 ?_
            refine a_putI (pc := 292) hG sm_0 cl_X12 ok_X12 4 (by decide) rfl t_1613 rfl (ty := .int) rfl rfl rfl hd dX12_next_292 (fun h41 hd => ?_)
            refine a_goto (pc := 295) hG (tgt := 181) dX12_next_295 (by decide) ?_
            exact AW.sub [0, 1, 2] rfl (ih hd)
          refine a_ic_ge (pc := 253) hG (tgt := 275) hd dX12_next_253 (by decide) (fun hd => ?_) (fun hd => ?_)
          · exact AW.sub [0, 1, 2] rfl (hJ38  _ hd)
          refine a_aload_n (pc := 256) hG 0 rfl dX12_next_256 rfl ?_
          refine a_bipush (pc := 257) hG dX12_next_257 (v := (nI 10)) rfl ?_
          refine a_aload_n (pc := 259) hG 0 rfl dX12_next_259 rfl ?_
          refine a_getI (pc := 260) hG sm_0 cl_X12 ok_X12 14 (by decide) rfl t_1623 dX12_next_260 ?_
          refine a_imul (pc := 263) hG dX12_next_263 ?_
          refine a_aload_n (pc := 264) hG 0 rfl dX12_next_264 rfl ?_
          refine a_cvI (pc := 265) hG (As := []) (st := [.int ((nI 10) * (h37.1 0 14)), .ref (ad 0)]) sm_0 cl_X12 mk_X12_peek t_1758 (by omega) (fun z hz => c_M_peek  _  z hz) rfl (Nat.le_of_ble_eq_true rfl) hd dX12_next_265 (fun r43 h42 hd => ?_)
          refine a_iadd (pc := 268) hG dX12_next_268 ?_
          refine a_bipush (pc := 269) hG dX12_next_269 (v := (nI 48)) rfl ?_
          refine a_isub (pc := 271) hG dX12_next_271 ?_
          refine a_putI (pc := 272) hG sm_0 cl_X12 ok_X12 14 (by decide) rfl t_1623 rfl (ty := .int) rfl rfl rfl hd dX12_next_272 (fun h44 hd => ?_)
          exact AW.sub [0, 1, 2] rfl (hJ38  _ hd)
        refine a_ic_ge (pc := 228) hG (tgt := 248) hd dX12_next_228 (by decide) (fun hd => ?_) (fun hd => ?_)
        · exact AW.sub [1, 2, 0] rfl (hJ36  _ hd)
        refine a_aload_n (pc := 231) hG 1 rfl dX12_next_231 rfl ?_
        refine a_aload_n (pc := 232) hG 1 rfl dX12_next_232 rfl ?_
        refine a_getL (pc := 233) hG sm_0 cl_X12 ok_X12 17 (by decide) rfl t_1626 dX12_next_233 ?_
        refine a_bipush (pc := 236) hG dX12_next_236 (v := (nI 8)) rfl ?_
        refine a_lshl (pc := 238) hG dX12_next_238 ?_
        refine a_aload_n (pc := 239) hG 1 rfl dX12_next_239 rfl ?_
        refine a_cvI (pc := 240) hG (As := []) (st := [.long ((h34.2 0 17) <<< (Int32.toInt64 (nI 8) &&& 63)), .ref (ad 0)]) sm_0 cl_X12 mk_X12_peek t_1758 (by omega) (fun z hz => c_M_peek  _  z hz) rfl (Nat.le_of_ble_eq_true rfl) hd dX12_next_240 (fun r46 h45 hd => ?_)
        refine a_i2l (pc := 243) hG dX12_next_243 ?_
        refine a_lor (pc := 244) hG dX12_next_244 ?_
        refine a_putL (pc := 245) hG sm_0 cl_X12 ok_X12 17 (by decide) rfl t_1626 rfl (ty := .long) rfl rfl rfl hd dX12_next_245 (fun h47 hd => ?_)
        exact AW.sub [1, 2, 0] rfl (hJ36  _ hd)
      refine a_join hd (Q := fun J : HS → Option (Unit × HS) => ∀  (h49 : HS), J  h49 = some q → AW SHm ad 4 (none, q.2) Γ 220 [(0, .ref (ad 0)), (2, .int x2)] [] h49) (fun  h49 hd => ?_) (fun J48 hJ48 hd => ?_)
      · refine a_iconst (pc := 220) hG dX12_next_220 (v := (nI 0)) rfl ?_
        exact AW.sub [0, 1] rfl (hJ32 _ _ hd)
      refine a_if_eq (pc := 202) hG (tgt := 220) hd dX12_next_202 (by decide) (fun hd => ?_) (fun hd => ?_)
      · exact AW.sub [0, 1] rfl (hJ48  _ hd)
      refine a_aload_n (pc := 205) hG 0 rfl dX12_next_205 rfl ?_
      refine a_cvI (pc := 206) hG (As := []) (st := []) sm_0 cl_X12 mk_X12_peek t_1758 (by omega) (fun z hz => c_M_peek  _  z hz) rfl (Nat.le_of_ble_eq_true rfl) hd dX12_next_206 (fun r51 h50 hd => ?_)
      refine a_csI (pc := 209) hG (As := [.int r51]) (st := []) mk_X12_isSmall t_1762 (by omega) (fun z hz => c_M_isSmall r51 _  z hz) rfl (Nat.le_of_ble_eq_true rfl) hd dX12_next_209 (fun r53 h52 hd => ?_)
      refine a_iload_n (pc := 212) hG 1 rfl dX12_next_212 rfl ?_
      refine a_ic_ne (pc := 213) hG (tgt := 220) hd dX12_next_213 (by decide) (fun hd => ?_) (fun hd => ?_)
      · exact AW.sub [0, 1] rfl (hJ48  _ hd)
      refine a_iconst (pc := 216) hG dX12_next_216 (v := (nI 1)) rfl ?_
      refine a_goto (pc := 217) hG (tgt := 221) dX12_next_217 (by decide) ?_
      exact AW.sub [0, 1] rfl (hJ32 _ _ hd)
    refine a_if_ne (pc := 188) hG (tgt := 201) hd dX12_next_188 (by decide) (fun hd => ?_) (fun hd => ?_)
    · exact AW.sub [0, 1, 2] rfl (hJ30  _ hd)
    refine a_aload_n (pc := 191) hG 0 rfl dX12_next_191 rfl ?_
    refine a_cvI (pc := 192) hG (As := []) (st := []) sm_0 cl_X12 mk_X12_peek t_1758 (by omega) (fun z hz => c_M_peek  _  z hz) rfl (Nat.le_of_ble_eq_true rfl) hd dX12_next_192 (fun r55 h54 hd => ?_)
    refine a_csI (pc := 195) hG (As := [.int r55]) (st := []) mk_X12_isDigit t_1765 (by omega) (fun z hz => c_M_isDigit r55 _  z hz) rfl (Nat.le_of_ble_eq_true rfl) hd dX12_next_195 (fun r57 h56 hd => ?_)
    refine a_if_eq (pc := 198) hG (tgt := 298) hd dX12_next_198 (by decide) (fun hd => ?_) (fun hd => ?_)
    · exact AW.sub [0, 1, 2] rfl (hK0 _ _ hd)
    exact AW.sub [0, 1, 2] rfl (hJ30  _ hd)
set_option maxHeartbeats 4000000 in
theorem c_M_next {ad wad : Nat → Nat} (F : Nat)  (h : HS)  (q : Unit × HS) (hd : f_M_next F  h = some q) : Ctr SHm ad wad yX12_next cX12_next 4 none 2 [.ref (ad 0)] h (none, q.2) := by
  refine enter (own := RX12) (lv := [(0, .ref (ad 0))]) (by decide +kernel) rfl (Nat.le_of_ble_eq_true rfl) rfl (fun Γ hG => ?_)
  unfold f_M_next at hd
  refine AW.sub [0] rfl ?_
  refine w_l_M_next_0 F (by omega) hG hd (fun h8 hd => ?_)
  refine a_aload_n (pc := 31) hG 0 rfl dX12_next_31 rfl ?_
  refine a_aload_n (pc := 32) hG 0 rfl dX12_next_32 rfl ?_
  refine a_getI (pc := 33) hG sm_0 cl_X12 ok_X12 4 (by decide) rfl t_1613 dX12_next_33 ?_
  refine a_putI (pc := 36) hG sm_0 cl_X12 ok_X12 12 (by decide) rfl t_1621 rfl (ty := .int) rfl rfl rfl hd dX12_next_36 (fun h9 hd => ?_)
  refine a_aload_n (pc := 39) hG 0 rfl dX12_next_39 rfl ?_
  refine a_iconst (pc := 40) hG dX12_next_40 (v := (nI 0)) rfl ?_
  refine a_putI (pc := 41) hG sm_0 cl_X12 ok_X12 13 (by decide) rfl t_1622 rfl (ty := .int) rfl rfl rfl hd dX12_next_41 (fun h10 hd => ?_)
  refine a_aload_n (pc := 44) hG 0 rfl dX12_next_44 rfl ?_
  refine a_getI (pc := 45) hG sm_0 cl_X12 ok_X12 3 (by decide) rfl t_1612 dX12_next_45 ?_
  refine a_aload_n (pc := 48) hG 0 rfl dX12_next_48 rfl ?_
  refine a_getI (pc := 49) hG sm_0 cl_X12 ok_X12 5 (by decide) rfl t_1614 dX12_next_49 ?_
  refine a_join hd (Q := fun J : HS → Option (Unit × HS) => ∀  (h12 : HS), J  h12 = some q → AW SHm ad 4 (none, q.2) Γ 80 [(0, .ref (ad 0))] [] h12) (fun  h12 hd => ?_) (fun J11 hJ11 hd => ?_)
  · refine a_aload_n (pc := 80) hG 0 rfl dX12_next_80 rfl ?_
    refine a_cvI (pc := 81) hG (As := []) (st := []) sm_0 cl_X12 mk_X12_peek t_1758 (by omega) (fun z hz => c_M_peek  _  z hz) rfl (Nat.le_of_ble_eq_true rfl) hd dX12_next_81 (fun r14 h13 hd => ?_)
    refine a_istore_nN (pc := 84) hG hd dX12_next_84 rfl (by decide) (lf := fun x => [(1, .int x), (0, .ref (ad 0))]) (fun _ => rfl) (fun v15 hd => ?_)
    refine a_iload_n (pc := 85) hG 0 rfl dX12_next_85 rfl ?_
    refine a_if_ge (pc := 86) hG (tgt := 95) hd dX12_next_86 (by decide) (fun hd => ?_) (fun hd => ?_)
    · refine a_iload_n (pc := 95) hG 0 rfl dX12_next_95 rfl ?_
      refine a_csI (pc := 96) hG (As := [.int v15]) (st := []) mk_X12_isSmall t_1762 (by omega) (fun z hz => c_M_isSmall v15 _  z hz) rfl (Nat.le_of_ble_eq_true rfl) hd dX12_next_96 (fun r17 h16 hd => ?_)
      refine a_join hd (Q := fun J : HS → Option (Unit × HS) => ∀  (h19 : HS), J  h19 = some q → AW SHm ad 4 (none, q.2) Γ 164 [(0, .ref (ad 0)), (1, .int v15)] [] h19) (fun  h19 hd => ?_) (fun J18 hJ18 hd => ?_)
      · refine a_iload_n (pc := 164) hG 1 rfl dX12_next_164 rfl ?_
        refine a_csI (pc := 165) hG (As := [.int v15]) (st := []) mk_X12_isSmall t_1762 (by omega) (fun z hz => c_M_isSmall v15 _  z hz) rfl (Nat.le_of_ble_eq_true rfl) hd dX12_next_165 (fun r21 h20 hd => ?_)
        refine a_istore_nN (pc := 168) hG hd dX12_next_168 rfl (by decide) (lf := fun x => [(2, .int x), (0, .ref (ad 0)), (1, .int v15)]) (fun _ => rfl) (fun v22 hd => ?_)
        refine a_iconst (pc := 169) hG dX12_next_169 (v := (nI 1)) rfl ?_
        refine a_istore_nN (pc := 170) hG hd dX12_next_170 rfl (by decide) (lf := fun x => [(3, .int x), (2, .int v22), (0, .ref (ad 0)), (1, .int v15)]) (fun _ => rfl) (fun v23 hd => ?_)
        refine a_aload_n (pc := 171) hG 2 rfl dX12_next_171 rfl ?_
        refine a_lconst (pc := 172) hG dX12_next_172 (v := 0) rfl ?_
        refine a_putL (pc := 173) hG sm_0 cl_X12 ok_X12 17 (by decide) rfl t_1626 rfl (ty := .long) rfl rfl rfl hd dX12_next_173 (fun h24 hd => ?_)
        refine a_aload_n (pc := 176) hG 2 rfl dX12_next_176 rfl ?_
        refine a_iconst (pc := 177) hG dX12_next_177 (v := (nI 0)) rfl ?_
        refine a_putI (pc := 178) hG sm_0 cl_X12 ok_X12 14 (by decide) rfl t_1623 rfl (ty := .int) rfl rfl rfl hd dX12_next_178 (fun h25 hd => ?_)
        refine AW.sub [2, 1, 0] rfl ?_
        refine w_l_M_next_1 F (by omega) hG hd (fun v58 h59 hd => ?_)
        refine a_aload_n (pc := 298) hG 0 rfl dX12_next_298 rfl ?_
        refine a_iload_n (pc := 299) hG 2 rfl dX12_next_299 rfl ?_
        refine a_join hd (Q := fun J : Int32 → HS → Option (Unit × HS) => ∀ (v61 : Int32) (h62 : HS), J v61 h62 = some q → AW SHm ad 4 (none, q.2) Γ 333 [] [.int v61, .ref (ad 0)] h62) (fun v61 h62 hd => ?_) (fun J60 hJ60 hd => ?_)
        · refine a_putI (pc := 333) hG sm_0 cl_X12 ok_X12 11 (by decide) rfl t_1620 rfl (ty := .int) rfl rfl rfl hd dX12_next_333 (fun h63 hd => ?_)
          exact a_vret (pc := 336) hG hd dX12_next_336
        refine a_join hd (Q := fun J : HS → Option (Unit × HS) => ∀  (h65 : HS), J  h65 = some q → AW SHm ad 4 (none, q.2) Γ 320 [] [.ref (ad 0)] h65) (fun  h65 hd => ?_) (fun J64 hJ64 hd => ?_)
        · refine a_iconst (pc := 320) hG dX12_next_320 (v := (nI 4)) rfl ?_
          refine a_goto (pc := 321) hG (tgt := 333) dX12_next_321 (by decide) ?_
          exact AW.sub [] rfl (hJ60 _ _ hd)
        refine a_if_eq (pc := 300) hG (tgt := 320) hd dX12_next_300 (by decide) (fun hd => ?_) (fun hd => ?_)
        · exact AW.sub [] rfl (hJ64  _ hd)
        refine a_aload_n (pc := 303) hG 0 rfl dX12_next_303 rfl ?_
        refine a_getI (pc := 304) hG sm_0 cl_X12 ok_X12 13 (by decide) rfl t_1622 dX12_next_304 ?_
        refine a_iload_n (pc := 307) hG 1 rfl dX12_next_307 rfl ?_
        refine a_join hd (Q := fun J : Int32 → HS → Option (Unit × HS) => ∀ (v67 : Int32) (h68 : HS), J v67 h68 = some q → AW SHm ad 4 (none, q.2) Γ 317 [(2, .int v22)] [.int v67, .int (h59.1 0 13), .ref (ad 0)] h68) (fun v67 h68 hd => ?_) (fun J66 hJ66 hd => ?_)
        · refine a_ic_le (pc := 317) hG (tgt := 324) hd dX12_next_317 (by decide) (fun hd => ?_) (fun hd => ?_)
          · refine a_iload_n (pc := 324) hG 0 rfl dX12_next_324 rfl ?_
            refine a_if_eq (pc := 325) hG (tgt := 332) hd dX12_next_325 (by decide) (fun hd => ?_) (fun hd => ?_)
            · refine a_iconst (pc := 332) hG dX12_next_332 (v := (nI 2)) rfl ?_
              exact AW.sub [] rfl (hJ60 _ _ hd)
            refine a_iconst (pc := 328) hG dX12_next_328 (v := (nI 1)) rfl ?_
            refine a_goto (pc := 329) hG (tgt := 333) dX12_next_329 (by decide) ?_
            exact AW.sub [] rfl (hJ60 _ _ hd)
          exact AW.sub [] rfl (hJ64  _ hd)
        refine a_if_eq (pc := 308) hG (tgt := 316) hd dX12_next_308 (by decide) (fun hd => ?_) (fun hd => ?_)
        · refine a_iconst (pc := 316) hG dX12_next_316 (v := (nI 3)) rfl ?_
          exact AW.sub [1] rfl (hJ66 _ _ hd)
        refine a_bipush (pc := 311) hG dX12_next_311 (v := (nI 7)) rfl ?_
        refine a_goto (pc := 313) hG (tgt := 317) dX12_next_313 (by decide) ?_
        exact AW.sub [1] rfl (hJ66 _ _ hd)
      refine a_if_ne (pc := 99) hG (tgt := 164) hd dX12_next_99 (by decide) (fun hd => ?_) (fun hd => ?_)
      · exact AW.sub [1, 0] rfl (hJ18  _ hd)
      refine a_iload_n (pc := 102) hG 0 rfl dX12_next_102 rfl ?_
      refine a_csI (pc := 103) hG (As := [.int v15]) (st := []) mk_X12_isDigit t_1765 (by omega) (fun z hz => c_M_isDigit v15 _  z hz) rfl (Nat.le_of_ble_eq_true rfl) hd dX12_next_103 (fun r70 h69 hd => ?_)
      refine a_if_ne (pc := 106) hG (tgt := 164) hd dX12_next_106 (by decide) (fun hd => ?_) (fun hd => ?_)
      · exact AW.sub [1, 0] rfl (hJ18  _ hd)
      refine a_aload_n (pc := 109) hG 1 rfl dX12_next_109 rfl ?_
      refine a_iload_n (pc := 110) hG 0 rfl dX12_next_110 rfl ?_
      refine a_bipush (pc := 111) hG dX12_next_111 (v := (nI 59)) rfl ?_
      refine a_join hd (Q := fun J : Int32 → HS → Option (Unit × HS) => ∀ (v72 : Int32) (h73 : HS), J v72 h73 = some q → AW SHm ad 4 (none, q.2) Γ 145 [(0, .ref (ad 0)), (1, .int v15)] [.int v72, .ref (ad 0)] h73) (fun v72 h73 hd => ?_) (fun J71 hJ71 hd => ?_)
      · refine a_putI (pc := 145) hG sm_0 cl_X12 ok_X12 11 (by decide) rfl t_1620 rfl (ty := .int) rfl rfl rfl hd dX12_next_145 (fun h74 hd => ?_)
        refine a_aload_n (pc := 148) hG 0 rfl dX12_next_148 rfl ?_
        refine a_iload_n (pc := 149) hG 1 rfl dX12_next_149 rfl ?_
        refine a_putI (pc := 150) hG sm_0 cl_X12 ok_X12 14 (by decide) rfl t_1623 rfl (ty := .int) rfl rfl rfl hd dX12_next_150 (fun h75 hd => ?_)
        refine a_aload_n (pc := 153) hG 0 rfl dX12_next_153 rfl ?_
        refine a_dup (pc := 154) hG dX12_next_154 rfl ?_
        refine a_getI (pc := 155) hG sm_0 cl_X12 ok_X12 4 (by decide) rfl t_1613 dX12_next_155 ?_
        refine a_iconst (pc := 158) hG dX12_next_158 (v := (nI 1)) rfl ?_
        refine a_iadd (pc := 159) hG dX12_next_159 ?_
        refine a_putI (pc := 160) hG sm_0 cl_X12 ok_X12 4 (by decide) rfl t_1613 rfl (ty := .int) rfl rfl rfl hd dX12_next_160 (fun h76 hd => ?_)
        exact a_vret (pc := 163) hG hd dX12_next_163
      refine a_join hd (Q := fun J : HS → Option (Unit × HS) => ∀  (h78 : HS), J  h78 = some q → AW SHm ad 4 (none, q.2) Γ 140 [(0, .ref (ad 0)), (1, .int v15)] [.ref (ad 0)] h78) (fun  h78 hd => ?_) (fun J77 hJ77 hd => ?_)
      · refine a_iconst (pc := 140) hG dX12_next_140 (v := (nI 3)) rfl ?_
        refine a_goto (pc := 141) hG (tgt := 145) dX12_next_141 (by decide) ?_
        exact AW.sub [0, 1] rfl (hJ71 _ _ hd)
      refine a_ic_eq (pc := 113) hG (tgt := 140) hd dX12_next_113 (by decide) (fun hd => ?_) (fun hd => ?_)
      · exact AW.sub [1, 0] rfl (hJ77  _ hd)
      refine a_iload_n (pc := 116) hG 0 rfl dX12_next_116 rfl ?_
      refine a_bipush (pc := 117) hG dX12_next_117 (v := (nI 40)) rfl ?_
      refine a_ic_eq (pc := 119) hG (tgt := 140) hd dX12_next_119 (by decide) (fun hd => ?_) (fun hd => ?_)
      · exact AW.sub [1, 0] rfl (hJ77  _ hd)
      refine a_iload_n (pc := 122) hG 0 rfl dX12_next_122 rfl ?_
      refine a_bipush (pc := 123) hG dX12_next_123 (v := (nI 41)) rfl ?_
      refine a_ic_eq (pc := 125) hG (tgt := 140) hd dX12_next_125 (by decide) (fun hd => ?_) (fun hd => ?_)
      · exact AW.sub [1, 0] rfl (hJ77  _ hd)
      refine a_iload_n (pc := 128) hG 0 rfl dX12_next_128 rfl ?_
      refine a_bipush (pc := 129) hG dX12_next_129 (v := (nI 60)) rfl ?_
      refine a_join hd (Q := fun J : HS → Option (Unit × HS) => ∀  (h80 : HS), J  h80 = some q → AW SHm ad 4 (none, q.2) Γ 144 [(0, .ref (ad 0)), (1, .int v15)] [.ref (ad 0)] h80) (fun  h80 hd => ?_) (fun J79 hJ79 hd => ?_)
      · refine a_iconst (pc := 144) hG dX12_next_144 (v := (nI 4)) rfl ?_
        exact AW.sub [0, 1] rfl (hJ71 _ _ hd)
      refine a_ic_lt (pc := 131) hG (tgt := 144) hd dX12_next_131 (by decide) (fun hd => ?_) (fun hd => ?_)
      · exact AW.sub [1, 0] rfl (hJ79  _ hd)
      refine a_iload_n (pc := 134) hG 0 rfl dX12_next_134 rfl ?_
      refine a_bipush (pc := 135) hG dX12_next_135 (v := (nI 62)) rfl ?_
      refine a_ic_gt (pc := 137) hG (tgt := 144) hd dX12_next_137 (by decide) (fun hd => ?_) (fun hd => ?_)
      · exact AW.sub [1, 0] rfl (hJ79  _ hd)
      exact AW.sub [1, 0] rfl (hJ77  _ hd)
    refine a_aload_n (pc := 89) hG 1 rfl dX12_next_89 rfl ?_
    refine a_iconst (pc := 90) hG dX12_next_90 (v := (nI 0)) rfl ?_
    refine a_putI (pc := 91) hG sm_0 cl_X12 ok_X12 11 (by decide) rfl t_1620 rfl (ty := .int) rfl rfl rfl hd dX12_next_91 (fun h81 hd => ?_)
    exact a_vret (pc := 94) hG hd dX12_next_94
  refine a_ic_le (pc := 52) hG (tgt := 80) hd dX12_next_52 (by decide) (fun hd => ?_) (fun hd => ?_)
  · exact AW.sub [0] rfl (hJ11  _ hd)
  refine a_aload_n (pc := 55) hG 0 rfl dX12_next_55 rfl ?_
  refine a_getI (pc := 56) hG sm_0 cl_X12 ok_X12 4 (by decide) rfl t_1613 dX12_next_56 ?_
  refine a_aload_n (pc := 59) hG 0 rfl dX12_next_59 rfl ?_
  refine a_getI (pc := 60) hG sm_0 cl_X12 ok_X12 5 (by decide) rfl t_1614 dX12_next_60 ?_
  refine a_ic_lt (pc := 63) hG (tgt := 80) hd dX12_next_63 (by decide) (fun hd => ?_) (fun hd => ?_)
  · exact AW.sub [0] rfl (hJ11  _ hd)
  refine a_aload_n (pc := 66) hG 0 rfl dX12_next_66 rfl ?_
  refine a_aload_n (pc := 67) hG 0 rfl dX12_next_67 rfl ?_
  refine a_getI (pc := 68) hG sm_0 cl_X12 ok_X12 5 (by decide) rfl t_1614 dX12_next_68 ?_
  refine a_putI (pc := 71) hG sm_0 cl_X12 ok_X12 12 (by decide) rfl t_1621 rfl (ty := .int) rfl rfl rfl hd dX12_next_71 (fun h82 hd => ?_)
  refine a_aload_n (pc := 74) hG 0 rfl dX12_next_74 rfl ?_
  refine a_iconst (pc := 75) hG dX12_next_75 (v := (nI 4)) rfl ?_
  refine a_putI (pc := 76) hG sm_0 cl_X12 ok_X12 11 (by decide) rfl t_1620 rfl (ty := .int) rfl rfl rfl hd dX12_next_76 (fun h83 hd => ?_)
  exact a_vret (pc := 79) hG hd dX12_next_79
theorem dX12_isWord_0 : decode cX12_isWord 0 = .ok (.aload_n 0, 1) := by decide +kernel
theorem dX12_isWord_1 : decode cX12_isWord 1 = .ok (.getfield 152, 3) := by decide +kernel
theorem dX12_isWord_4 : decode cX12_isWord 4 = .ok (.iconst 1, 1) := by decide +kernel
theorem dX12_isWord_5 : decode cX12_isWord 5 = .ok (.if_icmp .ne 16, 3) := by decide +kernel
theorem dX12_isWord_8 : decode cX12_isWord 8 = .ok (.aload_n 0, 1) := by decide +kernel
theorem dX12_isWord_9 : decode cX12_isWord 9 = .ok (.getfield 165, 3) := by decide +kernel
theorem dX12_isWord_12 : decode cX12_isWord 12 = .ok (.lload_n 1, 1) := by decide +kernel
theorem dX12_isWord_13 : decode cX12_isWord 13 = .ok (.lcmp, 1) := by decide +kernel
theorem dX12_isWord_14 : decode cX12_isWord 14 = .ok (.ifCond .ne 7, 3) := by decide +kernel
theorem dX12_isWord_17 : decode cX12_isWord 17 = .ok (.iconst 1, 1) := by decide +kernel
theorem dX12_isWord_18 : decode cX12_isWord 18 = .ok (.goto 4, 3) := by decide +kernel
theorem dX12_isWord_21 : decode cX12_isWord 21 = .ok (.iconst 0, 1) := by decide +kernel
theorem dX12_isWord_22 : decode cX12_isWord 22 = .ok (.ireturn, 1) := by decide +kernel
set_option maxHeartbeats 4000000 in
theorem c_M_isWord {ad wad : Nat → Nat} (a0 : Int64) (h : HS)  (q : Int32 × HS) (hd : f_M_isWord a0 h = some q) : Ctr SHm ad wad yX12_isWord cX12_isWord 3 (some .boolean) 1 [.ref (ad 0), .long a0] h (some (.int q.1), q.2) := by
  refine enter (own := RX12) (lv := [(0, .ref (ad 0)), (1, .long a0)]) (by decide +kernel) rfl (Nat.le_of_ble_eq_true rfl) rfl (fun Γ hG => ?_)
  unfold f_M_isWord at hd
  refine a_aload_n (pc := 0) hG 0 rfl dX12_isWord_0 rfl ?_
  refine a_getI (pc := 1) hG sm_0 cl_X12 ok_X12 11 (by decide) rfl t_1620 dX12_isWord_1 ?_
  refine a_iconst (pc := 4) hG dX12_isWord_4 (v := (nI 1)) rfl ?_
  refine a_ic_ne (pc := 5) hG (tgt := 21) hd dX12_isWord_5 (by decide) (fun hd => ?_) (fun hd => ?_)
  · refine a_iconst (pc := 21) hG dX12_isWord_21 (v := (nI 0)) rfl ?_
    exact a_zret (pc := 22) hG hd dX12_isWord_22
  refine a_aload_n (pc := 8) hG 0 rfl dX12_isWord_8 rfl ?_
  refine a_getL (pc := 9) hG sm_0 cl_X12 ok_X12 17 (by decide) rfl t_1626 dX12_isWord_9 ?_
  refine a_lload_n (pc := 12) hG 1 rfl dX12_isWord_12 rfl ?_
  refine a_lcmp (pc := 13) hG dX12_isWord_13 ?_
  refine a_if_ne (pc := 14) hG (tgt := 21) hd dX12_isWord_14 (by decide) (fun hd => ?_) (fun hd => ?_)
  · refine a_iconst (pc := 21) hG dX12_isWord_21 (v := (nI 0)) rfl ?_
    exact a_zret (pc := 22) hG hd dX12_isWord_22
  refine a_iconst (pc := 17) hG dX12_isWord_17 (v := (nI 1)) rfl ?_
  refine a_goto (pc := 18) hG (tgt := 22) dX12_isWord_18 (by decide) ?_
  exact a_zret (pc := 22) hG hd dX12_isWord_22
theorem dX12_isName_0 : decode cX12_isName 0 = .ok (.aload_n 0, 1) := by decide +kernel
theorem dX12_isName_1 : decode cX12_isName 1 = .ok (.getfield 152, 3) := by decide +kernel
theorem dX12_isName_4 : decode cX12_isName 4 = .ok (.iconst 1, 1) := by decide +kernel
theorem dX12_isName_5 : decode cX12_isName 5 = .ok (.if_icmp .ne 7, 3) := by decide +kernel
theorem dX12_isName_8 : decode cX12_isName 8 = .ok (.iconst 1, 1) := by decide +kernel
theorem dX12_isName_9 : decode cX12_isName 9 = .ok (.goto 4, 3) := by decide +kernel
theorem dX12_isName_12 : decode cX12_isName 12 = .ok (.iconst 0, 1) := by decide +kernel
theorem dX12_isName_13 : decode cX12_isName 13 = .ok (.istore_n 1, 1) := by decide +kernel
theorem dX12_isName_14 : decode cX12_isName 14 = .ok (.iconst 0, 1) := by decide +kernel
theorem dX12_isName_15 : decode cX12_isName 15 = .ok (.istore_n 2, 1) := by decide +kernel
theorem dX12_isName_16 : decode cX12_isName 16 = .ok (.iload_n 2, 1) := by decide +kernel
theorem dX12_isName_17 : decode cX12_isName 17 = .ok (.bipush 23, 2) := by decide +kernel
theorem dX12_isName_19 : decode cX12_isName 19 = .ok (.if_icmp .ge 33, 3) := by decide +kernel
theorem dX12_isName_22 : decode cX12_isName 22 = .ok (.iload_n 1, 1) := by decide +kernel
theorem dX12_isName_23 : decode cX12_isName 23 = .ok (.ifCond .eq 21, 3) := by decide +kernel
theorem dX12_isName_26 : decode cX12_isName 26 = .ok (.aload_n 0, 1) := by decide +kernel
theorem dX12_isName_27 : decode cX12_isName 27 = .ok (.getfield 165, 3) := by decide +kernel
theorem dX12_isName_30 : decode cX12_isName 30 = .ok (.aload_n 0, 1) := by decide +kernel
theorem dX12_isName_31 : decode cX12_isName 31 = .ok (.getfield 47, 3) := by decide +kernel
theorem dX12_isName_34 : decode cX12_isName 34 = .ok (.iload_n 2, 1) := by decide +kernel
theorem dX12_isName_35 : decode cX12_isName 35 = .ok (.laload, 1) := by decide +kernel
theorem dX12_isName_36 : decode cX12_isName 36 = .ok (.lcmp, 1) := by decide +kernel
theorem dX12_isName_37 : decode cX12_isName 37 = .ok (.ifCond .eq 7, 3) := by decide +kernel
theorem dX12_isName_40 : decode cX12_isName 40 = .ok (.iconst 1, 1) := by decide +kernel
theorem dX12_isName_41 : decode cX12_isName 41 = .ok (.goto 4, 3) := by decide +kernel
theorem dX12_isName_44 : decode cX12_isName 44 = .ok (.iconst 0, 1) := by decide +kernel
theorem dX12_isName_45 : decode cX12_isName 45 = .ok (.istore_n 1, 1) := by decide +kernel
theorem dX12_isName_46 : decode cX12_isName 46 = .ok (.iinc 2 1, 3) := by decide +kernel
theorem dX12_isName_49 : decode cX12_isName 49 = .ok (.goto (-33), 3) := by decide +kernel
theorem dX12_isName_52 : decode cX12_isName 52 = .ok (.iload_n 1, 1) := by decide +kernel
theorem dX12_isName_53 : decode cX12_isName 53 = .ok (.ireturn, 1) := by decide +kernel
set_option maxHeartbeats 4000000 in
theorem w_l_M_isName_0 {ad wad : Nat → Nat} {Γ : Ctx} (F : Nat) {n : Nat} (hn : 1 ≤ n) (hG : Cx SHm ad wad cX12_isName 3 RX12 (some .boolean) (n) Γ) {q : Int32 × HS} {g : Nat} {x1 : Int32} {x2 : Int32} {h : HS} (hd : l_M_isName_0 F g x1 x2 h = some q) : AW SHm ad 3 (some (.int q.1), q.2) Γ 16 [(0, .ref (ad 0)), (1, .int x1), (2, .int x2)] [] h := by
  induction g generalizing x1 x2 h with
  | zero => unfold l_M_isName_0 at hd; cases hd
  | succ g ih =>
    unfold l_M_isName_0 at hd
    refine a_iload_n (pc := 16) hG 2 rfl dX12_isName_16 rfl ?_
    refine a_bipush (pc := 17) hG dX12_isName_17 (v := (nI 23)) rfl ?_
    refine a_ic_ge (pc := 19) hG (tgt := 52) hd dX12_isName_19 (by decide) (fun hd => ?_) (fun hd => ?_)
    · refine a_iload_n (pc := 52) hG 1 rfl dX12_isName_52 rfl ?_
      exact a_zret (pc := 53) hG hd dX12_isName_53
    refine a_iload_n (pc := 22) hG 1 rfl dX12_isName_22 rfl ?_
    refine a_join hd (Q := fun J : Int32 → HS → Option (Int32 × HS) => ∀ (v7 : Int32) (h8 : HS), J v7 h8 = some q → AW SHm ad 3 (some (.int q.1), q.2) Γ 45 [(0, .ref (ad 0)), (2, .int x2)] [.int v7] h8) (fun v7 h8 hd => ?_) (fun J6 hJ6 hd => ?_)
    · refine a_istore_nN (pc := 45) hG hd dX12_isName_45 rfl (by decide) (lf := fun x => [(1, .int x), (0, .ref (ad 0)), (2, .int x2)]) (fun _ => rfl) (fun v9 hd => ?_)
      refine a_iincN (pc := 46) hG (c0 := (nI 1)) 2 rfl hd dX12_isName_46 rfl (by decide) (lf := fun x => [(2, .int x), (1, .int v9), (0, .ref (ad 0))]) (fun _ => rfl) (fun v10 hd => ?_)
      refine a_goto (pc := 49) hG (tgt := 16) dX12_isName_49 (by decide) ?_
      exact AW.sub [2, 1, 0] rfl (ih hd)
    refine a_join hd (Q := fun J : HS → Option (Int32 × HS) => ∀  (h12 : HS), J  h12 = some q → AW SHm ad 3 (some (.int q.1), q.2) Γ 44 [(0, .ref (ad 0)), (2, .int x2)] [] h12) (fun  h12 hd => ?_) (fun J11 hJ11 hd => ?_)
    · refine a_iconst (pc := 44) hG dX12_isName_44 (v := (nI 0)) rfl ?_
      exact AW.sub [0, 1] rfl (hJ6 _ _ hd)
    refine a_if_eq (pc := 23) hG (tgt := 44) hd dX12_isName_23 (by decide) (fun hd => ?_) (fun hd => ?_)
    · exact AW.sub [0, 2] rfl (hJ11  _ hd)
    refine a_aload_n (pc := 26) hG 0 rfl dX12_isName_26 rfl ?_
    refine a_getL (pc := 27) hG sm_0 cl_X12 ok_X12 17 (by decide) rfl t_1626 dX12_isName_27 ?_
    refine a_aload_n (pc := 30) hG 0 rfl dX12_isName_30 rfl ?_
    refine a_getR (pc := 31) hG sm_0 cl_X12 ok_X12 10 (by decide) rfl t_1619 dX12_isName_31 ?_
    refine a_iload_n (pc := 34) hG 2 rfl dX12_isName_34 rfl ?_
    refine a_lald (pc := 35) hG sm_6 hd dX12_isName_35 (fun hd => ?_)
    refine a_lcmp (pc := 36) hG dX12_isName_36 ?_
    refine a_if_eq (pc := 37) hG (tgt := 44) hd dX12_isName_37 (by decide) (fun hd => ?_) (fun hd => ?_)
    · exact AW.sub [0, 2] rfl (hJ11  _ hd)
    refine a_iconst (pc := 40) hG dX12_isName_40 (v := (nI 1)) rfl ?_
    refine a_goto (pc := 41) hG (tgt := 45) dX12_isName_41 (by decide) ?_
    exact AW.sub [0, 2] rfl (hJ6 _ _ hd)
set_option maxHeartbeats 4000000 in
theorem c_M_isName {ad wad : Nat → Nat} (F : Nat)  (h : HS)  (q : Int32 × HS) (hd : f_M_isName F  h = some q) : Ctr SHm ad wad yX12_isName cX12_isName 3 (some .boolean) 1 [.ref (ad 0)] h (some (.int q.1), q.2) := by
  refine enter (own := RX12) (lv := [(0, .ref (ad 0))]) (by decide +kernel) rfl (Nat.le_of_ble_eq_true rfl) rfl (fun Γ hG => ?_)
  unfold f_M_isName at hd
  refine a_aload_n (pc := 0) hG 0 rfl dX12_isName_0 rfl ?_
  refine a_getI (pc := 1) hG sm_0 cl_X12 ok_X12 11 (by decide) rfl t_1620 dX12_isName_1 ?_
  refine a_iconst (pc := 4) hG dX12_isName_4 (v := (nI 1)) rfl ?_
  refine a_join hd (Q := fun J : Int32 → HS → Option (Int32 × HS) => ∀ (v2 : Int32) (h3 : HS), J v2 h3 = some q → AW SHm ad 3 (some (.int q.1), q.2) Γ 13 [(0, .ref (ad 0))] [.int v2] h3) (fun v2 h3 hd => ?_) (fun J1 hJ1 hd => ?_)
  · refine a_istore_nN (pc := 13) hG hd dX12_isName_13 rfl (by decide) (lf := fun x => [(1, .int x), (0, .ref (ad 0))]) (fun _ => rfl) (fun v4 hd => ?_)
    refine a_iconst (pc := 14) hG dX12_isName_14 (v := (nI 0)) rfl ?_
    refine a_istore_nN (pc := 15) hG hd dX12_isName_15 rfl (by decide) (lf := fun x => [(2, .int x), (1, .int v4), (0, .ref (ad 0))]) (fun _ => rfl) (fun v5 hd => ?_)
    refine AW.sub [2, 1, 0] rfl ?_
    exact w_l_M_isName_0 F (by omega) hG hd
  refine a_ic_ne (pc := 5) hG (tgt := 12) hd dX12_isName_5 (by decide) (fun hd => ?_) (fun hd => ?_)
  · refine a_iconst (pc := 12) hG dX12_isName_12 (v := (nI 0)) rfl ?_
    exact AW.sub [0] rfl (hJ1 _ _ hd)
  refine a_iconst (pc := 8) hG dX12_isName_8 (v := (nI 1)) rfl ?_
  refine a_goto (pc := 9) hG (tgt := 13) dX12_isName_9 (by decide) ?_
  exact AW.sub [0] rfl (hJ1 _ _ hd)
theorem dX12_find_0 : decode cX12_find 0 = .ok (.iconst 0, 1) := by decide +kernel
theorem dX12_find_1 : decode cX12_find 1 = .ok (.istore_n 3, 1) := by decide +kernel
theorem dX12_find_2 : decode cX12_find 2 = .ok (.iload_n 3, 1) := by decide +kernel
theorem dX12_find_3 : decode cX12_find 3 = .ok (.iload_n 2, 1) := by decide +kernel
theorem dX12_find_4 : decode cX12_find 4 = .ok (.if_icmp .ge 27, 3) := by decide +kernel
theorem dX12_find_7 : decode cX12_find 7 = .ok (.aload_n 0, 1) := by decide +kernel
theorem dX12_find_8 : decode cX12_find 8 = .ok (.getfield 43, 3) := by decide +kernel
theorem dX12_find_11 : decode cX12_find 11 = .ok (.iload_n 1, 1) := by decide +kernel
theorem dX12_find_12 : decode cX12_find 12 = .ok (.iload_n 3, 1) := by decide +kernel
theorem dX12_find_13 : decode cX12_find 13 = .ok (.iadd, 1) := by decide +kernel
theorem dX12_find_14 : decode cX12_find 14 = .ok (.laload, 1) := by decide +kernel
theorem dX12_find_15 : decode cX12_find 15 = .ok (.aload_n 0, 1) := by decide +kernel
theorem dX12_find_16 : decode cX12_find 16 = .ok (.getfield 165, 3) := by decide +kernel
theorem dX12_find_19 : decode cX12_find 19 = .ok (.lcmp, 1) := by decide +kernel
theorem dX12_find_20 : decode cX12_find 20 = .ok (.ifCond .ne 5, 3) := by decide +kernel
theorem dX12_find_23 : decode cX12_find 23 = .ok (.iload_n 3, 1) := by decide +kernel
theorem dX12_find_24 : decode cX12_find 24 = .ok (.ireturn, 1) := by decide +kernel
theorem dX12_find_25 : decode cX12_find 25 = .ok (.iinc 3 1, 3) := by decide +kernel
theorem dX12_find_28 : decode cX12_find 28 = .ok (.goto (-26), 3) := by decide +kernel
theorem dX12_find_31 : decode cX12_find 31 = .ok (.iconst (-1), 1) := by decide +kernel
theorem dX12_find_32 : decode cX12_find 32 = .ok (.ireturn, 1) := by decide +kernel
set_option maxHeartbeats 4000000 in
theorem w_l_M_find_0 {ad wad : Nat → Nat} {Γ : Ctx} (F : Nat) {n : Nat} (hn : 1 ≤ n) (hG : Cx SHm ad wad cX12_find 4 RX12 (some .int) (n) Γ) {q : Int32 × HS} {x1 : Int32} {x2 : Int32} {g : Nat} {x3 : Int32} {h : HS} (hd : l_M_find_0 F x1 x2 g x3 h = some q) : AW SHm ad 4 (some (.int q.1), q.2) Γ 2 [(0, .ref (ad 0)), (1, .int x1), (2, .int x2), (3, .int x3)] [] h := by
  induction g generalizing x3 h with
  | zero => unfold l_M_find_0 at hd; cases hd
  | succ g ih =>
    unfold l_M_find_0 at hd
    refine a_iload_n (pc := 2) hG 3 rfl dX12_find_2 rfl ?_
    refine a_iload_n (pc := 3) hG 2 rfl dX12_find_3 rfl ?_
    refine a_ic_ge (pc := 4) hG (tgt := 31) hd dX12_find_4 (by decide) (fun hd => ?_) (fun hd => ?_)
    · refine a_iconst (pc := 31) hG dX12_find_31 (v := (-1 : Int32)) rfl ?_
      exact a_iret (pc := 32) hG hd dX12_find_32
    refine a_aload_n (pc := 7) hG 0 rfl dX12_find_7 rfl ?_
    refine a_getR (pc := 8) hG sm_0 cl_X12 ok_X12 9 (by decide) rfl t_1618 dX12_find_8 ?_
    refine a_iload_n (pc := 11) hG 1 rfl dX12_find_11 rfl ?_
    refine a_iload_n (pc := 12) hG 3 rfl dX12_find_12 rfl ?_
    refine a_iadd (pc := 13) hG dX12_find_13 ?_
    refine a_lald (pc := 14) hG sm_5 hd dX12_find_14 (fun hd => ?_)
    refine a_aload_n (pc := 15) hG 0 rfl dX12_find_15 rfl ?_
    refine a_getL (pc := 16) hG sm_0 cl_X12 ok_X12 17 (by decide) rfl t_1626 dX12_find_16 ?_
    refine a_lcmp (pc := 19) hG dX12_find_19 ?_
    refine a_if_ne (pc := 20) hG (tgt := 25) hd dX12_find_20 (by decide) (fun hd => ?_) (fun hd => ?_)
    · refine a_iincN (pc := 25) hG (c0 := (nI 1)) 3 rfl hd dX12_find_25 rfl (by decide) (lf := fun x => [(3, .int x), (0, .ref (ad 0)), (1, .int x1), (2, .int x2)]) (fun _ => rfl) (fun v2 hd => ?_)
      refine a_goto (pc := 28) hG (tgt := 2) dX12_find_28 (by decide) ?_
      exact AW.sub [1, 2, 3, 0] rfl (ih hd)
    refine a_iload_n (pc := 23) hG 3 rfl dX12_find_23 rfl ?_
    exact a_iret (pc := 24) hG hd dX12_find_24
set_option maxHeartbeats 4000000 in
theorem c_M_find {ad wad : Nat → Nat} (F : Nat) (a0 : Int32) (a1 : Int32) (h : HS)  (q : Int32 × HS) (hd : f_M_find F a0 a1 h = some q) : Ctr SHm ad wad yX12_find cX12_find 4 (some .int) 1 [.ref (ad 0), .int a0, .int a1] h (some (.int q.1), q.2) := by
  refine enter (own := RX12) (lv := [(0, .ref (ad 0)), (1, .int a0), (2, .int a1)]) (by decide +kernel) rfl (Nat.le_of_ble_eq_true rfl) rfl (fun Γ hG => ?_)
  unfold f_M_find at hd
  refine a_iconst (pc := 0) hG dX12_find_0 (v := (nI 0)) rfl ?_
  refine a_istore_nN (pc := 1) hG hd dX12_find_1 rfl (by decide) (lf := fun x => [(3, .int x), (0, .ref (ad 0)), (1, .int a0), (2, .int a1)]) (fun _ => rfl) (fun v1 hd => ?_)
  refine AW.sub [1, 2, 3, 0] rfl ?_
  exact w_l_M_find_0 F (by omega) hG hd
theorem dX12_bad_0 : decode cX12_bad 0 = .ok (.aload_n 0, 1) := by decide +kernel
theorem dX12_bad_1 : decode cX12_bad 1 = .ok (.iload_n 1, 1) := by decide +kernel
theorem dX12_bad_2 : decode cX12_bad 2 = .ok (.putfield 169, 3) := by decide +kernel
theorem dX12_bad_5 : decode cX12_bad 5 = .ok (.aload_n 0, 1) := by decide +kernel
theorem dX12_bad_6 : decode cX12_bad 6 = .ok (.aload_n 0, 1) := by decide +kernel
theorem dX12_bad_7 : decode cX12_bad 7 = .ok (.getfield 146, 3) := by decide +kernel
theorem dX12_bad_10 : decode cX12_bad 10 = .ok (.putfield 172, 3) := by decide +kernel
theorem dX12_bad_13 : decode cX12_bad 13 = .ok (.iconst 0, 1) := by decide +kernel
theorem dX12_bad_14 : decode cX12_bad 14 = .ok (.ireturn, 1) := by decide +kernel
set_option maxHeartbeats 4000000 in
theorem c_M_bad {ad wad : Nat → Nat} (a0 : Int32) (h : HS)  (q : Int32 × HS) (hd : f_M_bad a0 h = some q) : Ctr SHm ad wad yX12_bad cX12_bad 2 (some .boolean) 1 [.ref (ad 0), .int a0] h (some (.int q.1), q.2) := by
  refine enter (own := RX12) (lv := [(0, .ref (ad 0)), (1, .int a0)]) (by decide +kernel) rfl (Nat.le_of_ble_eq_true rfl) rfl (fun Γ hG => ?_)
  unfold f_M_bad at hd
  refine a_aload_n (pc := 0) hG 0 rfl dX12_bad_0 rfl ?_
  refine a_iload_n (pc := 1) hG 1 rfl dX12_bad_1 rfl ?_
  refine a_putI (pc := 2) hG sm_0 cl_X12 ok_X12 15 (by decide) rfl t_1624 rfl (ty := .int) rfl rfl rfl hd dX12_bad_2 (fun h1 hd => ?_)
  refine a_aload_n (pc := 5) hG 0 rfl dX12_bad_5 rfl ?_
  refine a_aload_n (pc := 6) hG 0 rfl dX12_bad_6 rfl ?_
  refine a_getI (pc := 7) hG sm_0 cl_X12 ok_X12 12 (by decide) rfl t_1621 dX12_bad_7 ?_
  refine a_putI (pc := 10) hG sm_0 cl_X12 ok_X12 16 (by decide) rfl t_1625 rfl (ty := .int) rfl rfl rfl hd dX12_bad_10 (fun h2 hd => ?_)
  refine a_iconst (pc := 13) hG dX12_bad_13 (v := (nI 0)) rfl ?_
  exact a_zret (pc := 14) hG hd dX12_bad_14
theorem dX12_fresh_0 : decode cX12_fresh 0 = .ok (.aload_n 0, 1) := by decide +kernel
theorem dX12_fresh_1 : decode cX12_fresh 1 = .ok (.invokevirtual 191, 3) := by decide +kernel
theorem dX12_fresh_4 : decode cX12_fresh 4 = .ok (.ifCond .ne 9, 3) := by decide +kernel
theorem dX12_fresh_7 : decode cX12_fresh 7 = .ok (.aload_n 0, 1) := by decide +kernel
theorem dX12_fresh_8 : decode cX12_fresh 8 = .ok (.iconst 1, 1) := by decide +kernel
theorem dX12_fresh_9 : decode cX12_fresh 9 = .ok (.invokevirtual 178, 3) := by decide +kernel
theorem dX12_fresh_12 : decode cX12_fresh 12 = .ok (.ireturn, 1) := by decide +kernel
theorem dX12_fresh_13 : decode cX12_fresh 13 = .ok (.aload_n 0, 1) := by decide +kernel
theorem dX12_fresh_14 : decode cX12_fresh 14 = .ok (.bipush 17, 2) := by decide +kernel
theorem dX12_fresh_16 : decode cX12_fresh 16 = .ok (.aload_n 0, 1) := by decide +kernel
theorem dX12_fresh_17 : decode cX12_fresh 17 = .ok (.getfield 37, 3) := by decide +kernel
theorem dX12_fresh_20 : decode cX12_fresh 20 = .ok (.iconst 0, 1) := by decide +kernel
theorem dX12_fresh_21 : decode cX12_fresh 21 = .ok (.iaload, 1) := by decide +kernel
theorem dX12_fresh_22 : decode cX12_fresh 22 = .ok (.invokevirtual 195, 3) := by decide +kernel
theorem dX12_fresh_25 : decode cX12_fresh 25 = .ok (.ifCond .ge 33, 3) := by decide +kernel
theorem dX12_fresh_28 : decode cX12_fresh 28 = .ok (.aload_n 0, 1) := by decide +kernel
theorem dX12_fresh_29 : decode cX12_fresh 29 = .ok (.bipush 23, 2) := by decide +kernel
theorem dX12_fresh_31 : decode cX12_fresh 31 = .ok (.aload_n 0, 1) := by decide +kernel
theorem dX12_fresh_32 : decode cX12_fresh 32 = .ok (.getfield 37, 3) := by decide +kernel
theorem dX12_fresh_35 : decode cX12_fresh 35 = .ok (.iconst 1, 1) := by decide +kernel
theorem dX12_fresh_36 : decode cX12_fresh 36 = .ok (.iaload, 1) := by decide +kernel
theorem dX12_fresh_37 : decode cX12_fresh 37 = .ok (.invokevirtual 195, 3) := by decide +kernel
theorem dX12_fresh_40 : decode cX12_fresh 40 = .ok (.ifCond .ge 18, 3) := by decide +kernel
theorem dX12_fresh_43 : decode cX12_fresh 43 = .ok (.aload_n 0, 1) := by decide +kernel
theorem dX12_fresh_44 : decode cX12_fresh 44 = .ok (.bipush 29, 2) := by decide +kernel
theorem dX12_fresh_46 : decode cX12_fresh 46 = .ok (.aload_n 0, 1) := by decide +kernel
theorem dX12_fresh_47 : decode cX12_fresh 47 = .ok (.getfield 37, 3) := by decide +kernel
theorem dX12_fresh_50 : decode cX12_fresh 50 = .ok (.iconst 2, 1) := by decide +kernel
theorem dX12_fresh_51 : decode cX12_fresh 51 = .ok (.iaload, 1) := by decide +kernel
theorem dX12_fresh_52 : decode cX12_fresh 52 = .ok (.invokevirtual 195, 3) := by decide +kernel
theorem dX12_fresh_55 : decode cX12_fresh 55 = .ok (.ifCond .lt 9, 3) := by decide +kernel
theorem dX12_fresh_58 : decode cX12_fresh 58 = .ok (.aload_n 0, 1) := by decide +kernel
theorem dX12_fresh_59 : decode cX12_fresh 59 = .ok (.iconst 3, 1) := by decide +kernel
theorem dX12_fresh_60 : decode cX12_fresh 60 = .ok (.invokevirtual 178, 3) := by decide +kernel
theorem dX12_fresh_63 : decode cX12_fresh 63 = .ok (.ireturn, 1) := by decide +kernel
theorem dX12_fresh_64 : decode cX12_fresh 64 = .ok (.aload_n 0, 1) := by decide +kernel
theorem dX12_fresh_65 : decode cX12_fresh 65 = .ok (.getfield 43, 3) := by decide +kernel
theorem dX12_fresh_68 : decode cX12_fresh 68 = .ok (.iload_n 1, 1) := by decide +kernel
theorem dX12_fresh_69 : decode cX12_fresh 69 = .ok (.aload_n 0, 1) := by decide +kernel
theorem dX12_fresh_70 : decode cX12_fresh 70 = .ok (.getfield 165, 3) := by decide +kernel
theorem dX12_fresh_73 : decode cX12_fresh 73 = .ok (.lastore, 1) := by decide +kernel
theorem dX12_fresh_74 : decode cX12_fresh 74 = .ok (.aload_n 0, 1) := by decide +kernel
theorem dX12_fresh_75 : decode cX12_fresh 75 = .ok (.invokevirtual 181, 3) := by decide +kernel
theorem dX12_fresh_78 : decode cX12_fresh 78 = .ok (.iconst 1, 1) := by decide +kernel
theorem dX12_fresh_79 : decode cX12_fresh 79 = .ok (.ireturn, 1) := by decide +kernel
set_option maxHeartbeats 4000000 in
theorem c_M_fresh {ad wad : Nat → Nat} (F : Nat) (a0 : Int32) (h : HS)  (q : Int32 × HS) (hd : f_M_fresh F a0 h = some q) : Ctr SHm ad wad yX12_fresh cX12_fresh 2 (some .boolean) 3 [.ref (ad 0), .int a0] h (some (.int q.1), q.2) := by
  refine enter (own := RX12) (lv := [(0, .ref (ad 0)), (1, .int a0)]) (by decide +kernel) rfl (Nat.le_of_ble_eq_true rfl) rfl (fun Γ hG => ?_)
  unfold f_M_fresh at hd
  refine a_aload_n (pc := 0) hG 0 rfl dX12_fresh_0 rfl ?_
  refine a_cvI (pc := 1) hG (As := []) (st := []) sm_0 cl_X12 mk_X12_isName t_1802 (by omega) (fun z hz => c_M_isName F  _  z hz) rfl (Nat.le_of_ble_eq_true rfl) hd dX12_fresh_1 (fun r2 h1 hd => ?_)
  refine a_if_ne (pc := 4) hG (tgt := 13) hd dX12_fresh_4 (by decide) (fun hd => ?_) (fun hd => ?_)
  · refine a_aload_n (pc := 13) hG 0 rfl dX12_fresh_13 rfl ?_
    refine a_bipush (pc := 14) hG dX12_fresh_14 (v := (nI 17)) rfl ?_
    refine a_aload_n (pc := 16) hG 0 rfl dX12_fresh_16 rfl ?_
    refine a_getR (pc := 17) hG sm_0 cl_X12 ok_X12 7 (by decide) rfl t_1616 dX12_fresh_17 ?_
    refine a_iconst (pc := 20) hG dX12_fresh_20 (v := (nI 0)) rfl ?_
    refine a_iald (pc := 21) hG sm_3 hd dX12_fresh_21 (fun hd => ?_)
    refine a_cvI (pc := 22) hG (As := [.int (nI 17), .int (h1.1 3 (nI 0).toNatClampNeg)]) (st := []) sm_0 cl_X12 mk_X12_find t_1806 (by omega) (fun z hz => c_M_find F (nI 17) (h1.1 3 (nI 0).toNatClampNeg) _  z hz) rfl (Nat.le_of_ble_eq_true rfl) hd dX12_fresh_22 (fun r4 h3 hd => ?_)
    refine a_join hd (Q := fun J : HS → Option (Int32 × HS) => ∀  (h6 : HS), J  h6 = some q → AW SHm ad 2 (some (.int q.1), q.2) Γ 58 [(0, .ref (ad 0))] [] h6) (fun  h6 hd => ?_) (fun J5 hJ5 hd => ?_)
    · refine a_aload_n (pc := 58) hG 0 rfl dX12_fresh_58 rfl ?_
      refine a_iconst (pc := 59) hG dX12_fresh_59 (v := (nI 3)) rfl ?_
      refine a_cvI (pc := 60) hG (As := [.int (nI 3)]) (st := []) sm_0 cl_X12 mk_X12_bad t_1783 (by omega) (fun z hz => c_M_bad (nI 3) _  z hz) rfl (Nat.le_of_ble_eq_true rfl) hd dX12_fresh_60 (fun r8 h7 hd => ?_)
      exact a_zret (pc := 63) hG hd dX12_fresh_63
    refine a_if_ge (pc := 25) hG (tgt := 58) hd dX12_fresh_25 (by decide) (fun hd => ?_) (fun hd => ?_)
    · exact AW.sub [0] rfl (hJ5  _ hd)
    refine a_aload_n (pc := 28) hG 0 rfl dX12_fresh_28 rfl ?_
    refine a_bipush (pc := 29) hG dX12_fresh_29 (v := (nI 23)) rfl ?_
    refine a_aload_n (pc := 31) hG 0 rfl dX12_fresh_31 rfl ?_
    refine a_getR (pc := 32) hG sm_0 cl_X12 ok_X12 7 (by decide) rfl t_1616 dX12_fresh_32 ?_
    refine a_iconst (pc := 35) hG dX12_fresh_35 (v := (nI 1)) rfl ?_
    refine a_iald (pc := 36) hG sm_3 hd dX12_fresh_36 (fun hd => ?_)
    refine a_cvI (pc := 37) hG (As := [.int (nI 23), .int (h3.1 3 (nI 1).toNatClampNeg)]) (st := []) sm_0 cl_X12 mk_X12_find t_1806 (by omega) (fun z hz => c_M_find F (nI 23) (h3.1 3 (nI 1).toNatClampNeg) _  z hz) rfl (Nat.le_of_ble_eq_true rfl) hd dX12_fresh_37 (fun r10 h9 hd => ?_)
    refine a_if_ge (pc := 40) hG (tgt := 58) hd dX12_fresh_40 (by decide) (fun hd => ?_) (fun hd => ?_)
    · exact AW.sub [0] rfl (hJ5  _ hd)
    refine a_aload_n (pc := 43) hG 0 rfl dX12_fresh_43 rfl ?_
    refine a_bipush (pc := 44) hG dX12_fresh_44 (v := (nI 29)) rfl ?_
    refine a_aload_n (pc := 46) hG 0 rfl dX12_fresh_46 rfl ?_
    refine a_getR (pc := 47) hG sm_0 cl_X12 ok_X12 7 (by decide) rfl t_1616 dX12_fresh_47 ?_
    refine a_iconst (pc := 50) hG dX12_fresh_50 (v := (nI 2)) rfl ?_
    refine a_iald (pc := 51) hG sm_3 hd dX12_fresh_51 (fun hd => ?_)
    refine a_cvI (pc := 52) hG (As := [.int (nI 29), .int (h9.1 3 (nI 2).toNatClampNeg)]) (st := []) sm_0 cl_X12 mk_X12_find t_1806 (by omega) (fun z hz => c_M_find F (nI 29) (h9.1 3 (nI 2).toNatClampNeg) _  z hz) rfl (Nat.le_of_ble_eq_true rfl) hd dX12_fresh_52 (fun r12 h11 hd => ?_)
    refine a_if_lt (pc := 55) hG (tgt := 64) hd dX12_fresh_55 (by decide) (fun hd => ?_) (fun hd => ?_)
    · refine a_aload_n (pc := 64) hG 0 rfl dX12_fresh_64 rfl ?_
      refine a_getR (pc := 65) hG sm_0 cl_X12 ok_X12 9 (by decide) rfl t_1618 dX12_fresh_65 ?_
      refine a_iload_n (pc := 68) hG 1 rfl dX12_fresh_68 rfl ?_
      refine a_aload_n (pc := 69) hG 0 rfl dX12_fresh_69 rfl ?_
      refine a_getL (pc := 70) hG sm_0 cl_X12 ok_X12 17 (by decide) rfl t_1626 dX12_fresh_70 ?_
      refine a_last (pc := 73) hG sm_5 hd dX12_fresh_73 (fun h13 hd => ?_)
      refine a_aload_n (pc := 74) hG 0 rfl dX12_fresh_74 rfl ?_
      refine a_cvN (pc := 75) hG (As := []) (st := []) sm_0 cl_X12 mk_X12_next t_1754 (by omega) (fun z hz => c_M_next F  _  z hz) rfl (Nat.le_of_ble_eq_true rfl) hd dX12_fresh_75 (fun _ h14 hd => ?_)
      refine a_iconst (pc := 78) hG dX12_fresh_78 (v := (nI 1)) rfl ?_
      exact a_zret (pc := 79) hG hd dX12_fresh_79
    exact AW.sub [0] rfl (hJ5  _ hd)
  refine a_aload_n (pc := 7) hG 0 rfl dX12_fresh_7 rfl ?_
  refine a_iconst (pc := 8) hG dX12_fresh_8 (v := (nI 1)) rfl ?_
  refine a_cvI (pc := 9) hG (As := [.int (nI 1)]) (st := []) sm_0 cl_X12 mk_X12_bad t_1783 (by omega) (fun z hz => c_M_bad (nI 1) _  z hz) rfl (Nat.le_of_ble_eq_true rfl) hd dX12_fresh_9 (fun r16 h15 hd => ?_)
  exact a_zret (pc := 12) hG hd dX12_fresh_12
theorem dX12_isIn_0 : decode cX12_isIn 0 = .ok (.iload_n 0, 1) := by decide +kernel
theorem dX12_isIn_1 : decode cX12_isIn 1 = .ok (.iload_n 1, 1) := by decide +kernel
theorem dX12_isIn_2 : decode cX12_isIn 2 = .ok (.if_icmp .lt 12, 3) := by decide +kernel
theorem dX12_isIn_5 : decode cX12_isIn 5 = .ok (.iload_n 0, 1) := by decide +kernel
theorem dX12_isIn_6 : decode cX12_isIn 6 = .ok (.iload_n 2, 1) := by decide +kernel
theorem dX12_isIn_7 : decode cX12_isIn 7 = .ok (.if_icmp .gt 7, 3) := by decide +kernel
theorem dX12_isIn_10 : decode cX12_isIn 10 = .ok (.iconst 1, 1) := by decide +kernel
theorem dX12_isIn_11 : decode cX12_isIn 11 = .ok (.goto 4, 3) := by decide +kernel
theorem dX12_isIn_14 : decode cX12_isIn 14 = .ok (.iconst 0, 1) := by decide +kernel
theorem dX12_isIn_15 : decode cX12_isIn 15 = .ok (.ireturn, 1) := by decide +kernel
set_option maxHeartbeats 4000000 in
theorem c_M_isIn {ad wad : Nat → Nat} (a0 : Int32) (a1 : Int32) (a2 : Int32) (h : HS)  (q : Int32 × HS) (hd : f_M_isIn a0 a1 a2 h = some q) : Ctr SHm ad wad yX12_isIn cX12_isIn 3 (some .boolean) 1 [.int a0, .int a1, .int a2] h (some (.int q.1), q.2) := by
  refine enter (own := RX12) (lv := [(0, .int a0), (1, .int a1), (2, .int a2)]) (by decide +kernel) rfl (Nat.le_of_ble_eq_true rfl) rfl (fun Γ hG => ?_)
  unfold f_M_isIn at hd
  refine a_iload_n (pc := 0) hG 0 rfl dX12_isIn_0 rfl ?_
  refine a_iload_n (pc := 1) hG 1 rfl dX12_isIn_1 rfl ?_
  refine a_ic_lt (pc := 2) hG (tgt := 14) hd dX12_isIn_2 (by decide) (fun hd => ?_) (fun hd => ?_)
  · refine a_iconst (pc := 14) hG dX12_isIn_14 (v := (nI 0)) rfl ?_
    exact a_zret (pc := 15) hG hd dX12_isIn_15
  refine a_iload_n (pc := 5) hG 0 rfl dX12_isIn_5 rfl ?_
  refine a_iload_n (pc := 6) hG 2 rfl dX12_isIn_6 rfl ?_
  refine a_ic_gt (pc := 7) hG (tgt := 14) hd dX12_isIn_7 (by decide) (fun hd => ?_) (fun hd => ?_)
  · refine a_iconst (pc := 14) hG dX12_isIn_14 (v := (nI 0)) rfl ?_
    exact a_zret (pc := 15) hG hd dX12_isIn_15
  refine a_iconst (pc := 10) hG dX12_isIn_10 (v := (nI 1)) rfl ?_
  refine a_goto (pc := 11) hG (tgt := 15) dX12_isIn_11 (by decide) ?_
  exact a_zret (pc := 15) hG hd dX12_isIn_15
theorem dX12_takes_0 : decode cX12_takes 0 = .ok (.aload_n 0, 1) := by decide +kernel
theorem dX12_takes_1 : decode cX12_takes 1 = .ok (.getfield 152, 3) := by decide +kernel
theorem dX12_takes_4 : decode cX12_takes 4 = .ok (.iconst 2, 1) := by decide +kernel
theorem dX12_takes_5 : decode cX12_takes 5 = .ok (.if_icmp .eq 9, 3) := by decide +kernel
theorem dX12_takes_8 : decode cX12_takes 8 = .ok (.aload_n 0, 1) := by decide +kernel
theorem dX12_takes_9 : decode cX12_takes 9 = .ok (.iconst 1, 1) := by decide +kernel
theorem dX12_takes_10 : decode cX12_takes 10 = .ok (.invokevirtual 178, 3) := by decide +kernel
theorem dX12_takes_13 : decode cX12_takes 13 = .ok (.ireturn, 1) := by decide +kernel
theorem dX12_takes_14 : decode cX12_takes 14 = .ok (.aload_n 0, 1) := by decide +kernel
theorem dX12_takes_15 : decode cX12_takes 15 = .ok (.getfield 162, 3) := by decide +kernel
theorem dX12_takes_18 : decode cX12_takes 18 = .ok (.iload_n 1, 1) := by decide +kernel
theorem dX12_takes_19 : decode cX12_takes 19 = .ok (.iload_n 2, 1) := by decide +kernel
theorem dX12_takes_20 : decode cX12_takes 20 = .ok (.invokestatic 184, 3) := by decide +kernel
theorem dX12_takes_23 : decode cX12_takes 23 = .ok (.ifCond .ne 9, 3) := by decide +kernel
theorem dX12_takes_26 : decode cX12_takes 26 = .ok (.aload_n 0, 1) := by decide +kernel
theorem dX12_takes_27 : decode cX12_takes 27 = .ok (.iconst 2, 1) := by decide +kernel
theorem dX12_takes_28 : decode cX12_takes 28 = .ok (.invokevirtual 178, 3) := by decide +kernel
theorem dX12_takes_31 : decode cX12_takes 31 = .ok (.ireturn, 1) := by decide +kernel
theorem dX12_takes_32 : decode cX12_takes 32 = .ok (.aload_n 0, 1) := by decide +kernel
theorem dX12_takes_33 : decode cX12_takes 33 = .ok (.aload_n 0, 1) := by decide +kernel
theorem dX12_takes_34 : decode cX12_takes 34 = .ok (.getfield 162, 3) := by decide +kernel
theorem dX12_takes_37 : decode cX12_takes 37 = .ok (.putfield 188, 3) := by decide +kernel
theorem dX12_takes_40 : decode cX12_takes 40 = .ok (.aload_n 0, 1) := by decide +kernel
theorem dX12_takes_41 : decode cX12_takes 41 = .ok (.invokevirtual 181, 3) := by decide +kernel
theorem dX12_takes_44 : decode cX12_takes 44 = .ok (.iconst 1, 1) := by decide +kernel
theorem dX12_takes_45 : decode cX12_takes 45 = .ok (.ireturn, 1) := by decide +kernel
set_option maxHeartbeats 4000000 in
theorem c_M_takes {ad wad : Nat → Nat} (F : Nat) (a0 : Int32) (a1 : Int32) (h : HS)  (q : Int32 × HS) (hd : f_M_takes F a0 a1 h = some q) : Ctr SHm ad wad yX12_takes cX12_takes 3 (some .boolean) 3 [.ref (ad 0), .int a0, .int a1] h (some (.int q.1), q.2) := by
  refine enter (own := RX12) (lv := [(0, .ref (ad 0)), (1, .int a0), (2, .int a1)]) (by decide +kernel) rfl (Nat.le_of_ble_eq_true rfl) rfl (fun Γ hG => ?_)
  unfold f_M_takes at hd
  refine a_aload_n (pc := 0) hG 0 rfl dX12_takes_0 rfl ?_
  refine a_getI (pc := 1) hG sm_0 cl_X12 ok_X12 11 (by decide) rfl t_1620 dX12_takes_1 ?_
  refine a_iconst (pc := 4) hG dX12_takes_4 (v := (nI 2)) rfl ?_
  refine a_ic_eq (pc := 5) hG (tgt := 14) hd dX12_takes_5 (by decide) (fun hd => ?_) (fun hd => ?_)
  · refine a_aload_n (pc := 14) hG 0 rfl dX12_takes_14 rfl ?_
    refine a_getI (pc := 15) hG sm_0 cl_X12 ok_X12 14 (by decide) rfl t_1623 dX12_takes_15 ?_
    refine a_iload_n (pc := 18) hG 1 rfl dX12_takes_18 rfl ?_
    refine a_iload_n (pc := 19) hG 2 rfl dX12_takes_19 rfl ?_
    refine a_csI (pc := 20) hG (As := [.int (h.1 0 14), .int a0, .int a1]) (st := []) mk_X12_isIn t_1795 (by omega) (fun z hz => c_M_isIn (h.1 0 14) a0 a1 _  z hz) rfl (Nat.le_of_ble_eq_true rfl) hd dX12_takes_20 (fun r2 h1 hd => ?_)
    refine a_if_ne (pc := 23) hG (tgt := 32) hd dX12_takes_23 (by decide) (fun hd => ?_) (fun hd => ?_)
    · refine a_aload_n (pc := 32) hG 0 rfl dX12_takes_32 rfl ?_
      refine a_aload_n (pc := 33) hG 0 rfl dX12_takes_33 rfl ?_
      refine a_getI (pc := 34) hG sm_0 cl_X12 ok_X12 14 (by decide) rfl t_1623 dX12_takes_34 ?_
      refine a_putI (pc := 37) hG sm_0 cl_X12 ok_X12 18 (by decide) rfl t_1627 rfl (ty := .int) rfl rfl rfl hd dX12_takes_37 (fun h3 hd => ?_)
      refine a_aload_n (pc := 40) hG 0 rfl dX12_takes_40 rfl ?_
      refine a_cvN (pc := 41) hG (As := []) (st := []) sm_0 cl_X12 mk_X12_next t_1754 (by omega) (fun z hz => c_M_next F  _  z hz) rfl (Nat.le_of_ble_eq_true rfl) hd dX12_takes_41 (fun _ h4 hd => ?_)
      refine a_iconst (pc := 44) hG dX12_takes_44 (v := (nI 1)) rfl ?_
      exact a_zret (pc := 45) hG hd dX12_takes_45
    refine a_aload_n (pc := 26) hG 0 rfl dX12_takes_26 rfl ?_
    refine a_iconst (pc := 27) hG dX12_takes_27 (v := (nI 2)) rfl ?_
    refine a_cvI (pc := 28) hG (As := [.int (nI 2)]) (st := []) sm_0 cl_X12 mk_X12_bad t_1783 (by omega) (fun z hz => c_M_bad (nI 2) _  z hz) rfl (Nat.le_of_ble_eq_true rfl) hd dX12_takes_28 (fun r6 h5 hd => ?_)
    exact a_zret (pc := 31) hG hd dX12_takes_31
  refine a_aload_n (pc := 8) hG 0 rfl dX12_takes_8 rfl ?_
  refine a_iconst (pc := 9) hG dX12_takes_9 (v := (nI 1)) rfl ?_
  refine a_cvI (pc := 10) hG (As := [.int (nI 1)]) (st := []) sm_0 cl_X12 mk_X12_bad t_1783 (by omega) (fun z hz => c_M_bad (nI 1) _  z hz) rfl (Nat.le_of_ble_eq_true rfl) hd dX12_takes_10 (fun r8 h7 hd => ?_)
  exact a_zret (pc := 13) hG hd dX12_takes_13
theorem dX12_puts_0 : decode cX12_puts 0 = .ok (.aload_n 0, 1) := by decide +kernel
theorem dX12_puts_1 : decode cX12_puts 1 = .ok (.iload_n 2, 1) := by decide +kernel
theorem dX12_puts_2 : decode cX12_puts 2 = .ok (.iload_n 3, 1) := by decide +kernel
theorem dX12_puts_3 : decode cX12_puts 3 = .ok (.invokevirtual 199, 3) := by decide +kernel
theorem dX12_puts_6 : decode cX12_puts 6 = .ok (.ifCond .ne 5, 3) := by decide +kernel
theorem dX12_puts_9 : decode cX12_puts 9 = .ok (.iconst 0, 1) := by decide +kernel
theorem dX12_puts_10 : decode cX12_puts 10 = .ok (.ireturn, 1) := by decide +kernel
theorem dX12_puts_11 : decode cX12_puts 11 = .ok (.aload_n 0, 1) := by decide +kernel
theorem dX12_puts_12 : decode cX12_puts 12 = .ok (.getfield 37, 3) := by decide +kernel
theorem dX12_puts_15 : decode cX12_puts 15 = .ok (.iload_n 1, 1) := by decide +kernel
theorem dX12_puts_16 : decode cX12_puts 16 = .ok (.aload_n 0, 1) := by decide +kernel
theorem dX12_puts_17 : decode cX12_puts 17 = .ok (.getfield 188, 3) := by decide +kernel
theorem dX12_puts_20 : decode cX12_puts 20 = .ok (.iastore, 1) := by decide +kernel
theorem dX12_puts_21 : decode cX12_puts 21 = .ok (.iconst 1, 1) := by decide +kernel
theorem dX12_puts_22 : decode cX12_puts 22 = .ok (.ireturn, 1) := by decide +kernel
set_option maxHeartbeats 4000000 in
theorem c_M_puts {ad wad : Nat → Nat} (F : Nat) (a0 : Int32) (a1 : Int32) (a2 : Int32) (h : HS)  (q : Int32 × HS) (hd : f_M_puts F a0 a1 a2 h = some q) : Ctr SHm ad wad yX12_puts cX12_puts 4 (some .boolean) 4 [.ref (ad 0), .int a0, .int a1, .int a2] h (some (.int q.1), q.2) := by
  refine enter (own := RX12) (lv := [(0, .ref (ad 0)), (1, .int a0), (2, .int a1), (3, .int a2)]) (by decide +kernel) rfl (Nat.le_of_ble_eq_true rfl) rfl (fun Γ hG => ?_)
  unfold f_M_puts at hd
  refine a_aload_n (pc := 0) hG 0 rfl dX12_puts_0 rfl ?_
  refine a_iload_n (pc := 1) hG 2 rfl dX12_puts_1 rfl ?_
  refine a_iload_n (pc := 2) hG 3 rfl dX12_puts_2 rfl ?_
  refine a_cvI (pc := 3) hG (As := [.int a1, .int a2]) (st := []) sm_0 cl_X12 mk_X12_takes t_1791 (by omega) (fun z hz => c_M_takes F a1 a2 _  z hz) rfl (Nat.le_of_ble_eq_true rfl) hd dX12_puts_3 (fun r2 h1 hd => ?_)
  refine a_if_ne (pc := 6) hG (tgt := 11) hd dX12_puts_6 (by decide) (fun hd => ?_) (fun hd => ?_)
  · refine a_aload_n (pc := 11) hG 0 rfl dX12_puts_11 rfl ?_
    refine a_getR (pc := 12) hG sm_0 cl_X12 ok_X12 7 (by decide) rfl t_1616 dX12_puts_12 ?_
    refine a_iload_n (pc := 15) hG 1 rfl dX12_puts_15 rfl ?_
    refine a_aload_n (pc := 16) hG 0 rfl dX12_puts_16 rfl ?_
    refine a_getI (pc := 17) hG sm_0 cl_X12 ok_X12 18 (by decide) rfl t_1627 dX12_puts_17 ?_
    refine a_iast (pc := 20) hG sm_3 hd dX12_puts_20 (fun h3 hd => ?_)
    refine a_iconst (pc := 21) hG dX12_puts_21 (v := (nI 1)) rfl ?_
    exact a_zret (pc := 22) hG hd dX12_puts_22
  refine a_iconst (pc := 9) hG dX12_puts_9 (v := (nI 0)) rfl ?_
  exact a_zret (pc := 10) hG hd dX12_puts_10
theorem dX12_looksAt_0 : decode cX12_looksAt 0 = .ok (.aload_n 0, 1) := by decide +kernel
theorem dX12_looksAt_1 : decode cX12_looksAt 1 = .ok (.invokevirtual 191, 3) := by decide +kernel
theorem dX12_looksAt_4 : decode cX12_looksAt 4 = .ok (.ifCond .ne 9, 3) := by decide +kernel
theorem dX12_looksAt_7 : decode cX12_looksAt 7 = .ok (.aload_n 0, 1) := by decide +kernel
theorem dX12_looksAt_8 : decode cX12_looksAt 8 = .ok (.iconst 1, 1) := by decide +kernel
theorem dX12_looksAt_9 : decode cX12_looksAt 9 = .ok (.invokevirtual 178, 3) := by decide +kernel
theorem dX12_looksAt_12 : decode cX12_looksAt 12 = .ok (.ireturn, 1) := by decide +kernel
theorem dX12_looksAt_13 : decode cX12_looksAt 13 = .ok (.aload_n 0, 1) := by decide +kernel
theorem dX12_looksAt_14 : decode cX12_looksAt 14 = .ok (.aload_n 0, 1) := by decide +kernel
theorem dX12_looksAt_15 : decode cX12_looksAt 15 = .ok (.iload_n 1, 1) := by decide +kernel
theorem dX12_looksAt_16 : decode cX12_looksAt 16 = .ok (.iload_n 2, 1) := by decide +kernel
theorem dX12_looksAt_17 : decode cX12_looksAt 17 = .ok (.invokevirtual 195, 3) := by decide +kernel
theorem dX12_looksAt_20 : decode cX12_looksAt 20 = .ok (.putfield 188, 3) := by decide +kernel
theorem dX12_looksAt_23 : decode cX12_looksAt 23 = .ok (.aload_n 0, 1) := by decide +kernel
theorem dX12_looksAt_24 : decode cX12_looksAt 24 = .ok (.getfield 188, 3) := by decide +kernel
theorem dX12_looksAt_27 : decode cX12_looksAt 27 = .ok (.ifCond .ge 11, 3) := by decide +kernel
theorem dX12_looksAt_30 : decode cX12_looksAt 30 = .ok (.aload_n 0, 1) := by decide +kernel
theorem dX12_looksAt_31 : decode cX12_looksAt 31 = .ok (.iconst 3, 1) := by decide +kernel
theorem dX12_looksAt_32 : decode cX12_looksAt 32 = .ok (.invokevirtual 178, 3) := by decide +kernel
theorem dX12_looksAt_35 : decode cX12_looksAt 35 = .ok (.ifCond .eq 7, 3) := by decide +kernel
theorem dX12_looksAt_38 : decode cX12_looksAt 38 = .ok (.iconst 1, 1) := by decide +kernel
theorem dX12_looksAt_39 : decode cX12_looksAt 39 = .ok (.goto 4, 3) := by decide +kernel
theorem dX12_looksAt_42 : decode cX12_looksAt 42 = .ok (.iconst 0, 1) := by decide +kernel
theorem dX12_looksAt_43 : decode cX12_looksAt 43 = .ok (.ireturn, 1) := by decide +kernel
set_option maxHeartbeats 4000000 in
theorem c_M_looksAt {ad wad : Nat → Nat} (F : Nat) (a0 : Int32) (a1 : Int32) (h : HS)  (q : Int32 × HS) (hd : f_M_looksAt F a0 a1 h = some q) : Ctr SHm ad wad yX12_looksAt cX12_looksAt 3 (some .boolean) 2 [.ref (ad 0), .int a0, .int a1] h (some (.int q.1), q.2) := by
  refine enter (own := RX12) (lv := [(0, .ref (ad 0)), (1, .int a0), (2, .int a1)]) (by decide +kernel) rfl (Nat.le_of_ble_eq_true rfl) rfl (fun Γ hG => ?_)
  unfold f_M_looksAt at hd
  refine a_aload_n (pc := 0) hG 0 rfl dX12_looksAt_0 rfl ?_
  refine a_cvI (pc := 1) hG (As := []) (st := []) sm_0 cl_X12 mk_X12_isName t_1802 (by omega) (fun z hz => c_M_isName F  _  z hz) rfl (Nat.le_of_ble_eq_true rfl) hd dX12_looksAt_1 (fun r2 h1 hd => ?_)
  refine a_if_ne (pc := 4) hG (tgt := 13) hd dX12_looksAt_4 (by decide) (fun hd => ?_) (fun hd => ?_)
  · refine a_aload_n (pc := 13) hG 0 rfl dX12_looksAt_13 rfl ?_
    refine a_aload_n (pc := 14) hG 0 rfl dX12_looksAt_14 rfl ?_
    refine a_iload_n (pc := 15) hG 1 rfl dX12_looksAt_15 rfl ?_
    refine a_iload_n (pc := 16) hG 2 rfl dX12_looksAt_16 rfl ?_
    refine a_cvI (pc := 17) hG (As := [.int a0, .int a1]) (st := [.ref (ad 0)]) sm_0 cl_X12 mk_X12_find t_1806 (by omega) (fun z hz => c_M_find F a0 a1 _  z hz) rfl (Nat.le_of_ble_eq_true rfl) hd dX12_looksAt_17 (fun r4 h3 hd => ?_)
    refine a_putI (pc := 20) hG sm_0 cl_X12 ok_X12 18 (by decide) rfl t_1627 rfl (ty := .int) rfl rfl rfl hd dX12_looksAt_20 (fun h5 hd => ?_)
    refine a_aload_n (pc := 23) hG 0 rfl dX12_looksAt_23 rfl ?_
    refine a_getI (pc := 24) hG sm_0 cl_X12 ok_X12 18 (by decide) rfl t_1627 dX12_looksAt_24 ?_
    refine a_if_ge (pc := 27) hG (tgt := 38) hd dX12_looksAt_27 (by decide) (fun hd => ?_) (fun hd => ?_)
    · refine a_iconst (pc := 38) hG dX12_looksAt_38 (v := (nI 1)) rfl ?_
      refine a_goto (pc := 39) hG (tgt := 43) dX12_looksAt_39 (by decide) ?_
      exact a_zret (pc := 43) hG hd dX12_looksAt_43
    refine a_aload_n (pc := 30) hG 0 rfl dX12_looksAt_30 rfl ?_
    refine a_iconst (pc := 31) hG dX12_looksAt_31 (v := (nI 3)) rfl ?_
    refine a_cvI (pc := 32) hG (As := [.int (nI 3)]) (st := []) sm_0 cl_X12 mk_X12_bad t_1783 (by omega) (fun z hz => c_M_bad (nI 3) _  z hz) rfl (Nat.le_of_ble_eq_true rfl) hd dX12_looksAt_32 (fun r7 h6 hd => ?_)
    refine a_if_eq (pc := 35) hG (tgt := 42) hd dX12_looksAt_35 (by decide) (fun hd => ?_) (fun hd => ?_)
    · refine a_iconst (pc := 42) hG dX12_looksAt_42 (v := (nI 0)) rfl ?_
      exact a_zret (pc := 43) hG hd dX12_looksAt_43
    refine a_iconst (pc := 38) hG dX12_looksAt_38 (v := (nI 1)) rfl ?_
    refine a_goto (pc := 39) hG (tgt := 43) dX12_looksAt_39 (by decide) ?_
    exact a_zret (pc := 43) hG hd dX12_looksAt_43
  refine a_aload_n (pc := 7) hG 0 rfl dX12_looksAt_7 rfl ?_
  refine a_iconst (pc := 8) hG dX12_looksAt_8 (v := (nI 1)) rfl ?_
  refine a_cvI (pc := 9) hG (As := [.int (nI 1)]) (st := []) sm_0 cl_X12 mk_X12_bad t_1783 (by omega) (fun z hz => c_M_bad (nI 1) _  z hz) rfl (Nat.le_of_ble_eq_true rfl) hd dX12_looksAt_9 (fun r9 h8 hd => ?_)
  exact a_zret (pc := 12) hG hd dX12_looksAt_12
theorem dX12_bitOf_0 : decode cX12_bitOf 0 = .ok (.iload_n 0, 1) := by decide +kernel
theorem dX12_bitOf_1 : decode cX12_bitOf 1 = .ok (.iload_n 1, 1) := by decide +kernel
theorem dX12_bitOf_2 : decode cX12_bitOf 2 = .ok (.ishr, 1) := by decide +kernel
theorem dX12_bitOf_3 : decode cX12_bitOf 3 = .ok (.iconst 1, 1) := by decide +kernel
theorem dX12_bitOf_4 : decode cX12_bitOf 4 = .ok (.iand, 1) := by decide +kernel
theorem dX12_bitOf_5 : decode cX12_bitOf 5 = .ok (.iconst 1, 1) := by decide +kernel
theorem dX12_bitOf_6 : decode cX12_bitOf 6 = .ok (.if_icmp .ne 7, 3) := by decide +kernel
theorem dX12_bitOf_9 : decode cX12_bitOf 9 = .ok (.iconst 1, 1) := by decide +kernel
theorem dX12_bitOf_10 : decode cX12_bitOf 10 = .ok (.goto 4, 3) := by decide +kernel
theorem dX12_bitOf_13 : decode cX12_bitOf 13 = .ok (.iconst 0, 1) := by decide +kernel
theorem dX12_bitOf_14 : decode cX12_bitOf 14 = .ok (.ireturn, 1) := by decide +kernel
set_option maxHeartbeats 4000000 in
theorem c_M_bitOf {ad wad : Nat → Nat} (a0 : Int32) (a1 : Int32) (h : HS)  (q : Int32 × HS) (hd : f_M_bitOf a0 a1 h = some q) : Ctr SHm ad wad yX12_bitOf cX12_bitOf 2 (some .boolean) 1 [.int a0, .int a1] h (some (.int q.1), q.2) := by
  refine enter (own := RX12) (lv := [(0, .int a0), (1, .int a1)]) (by decide +kernel) rfl (Nat.le_of_ble_eq_true rfl) rfl (fun Γ hG => ?_)
  unfold f_M_bitOf at hd
  refine a_iload_n (pc := 0) hG 0 rfl dX12_bitOf_0 rfl ?_
  refine a_iload_n (pc := 1) hG 1 rfl dX12_bitOf_1 rfl ?_
  refine a_ishr (pc := 2) hG dX12_bitOf_2 ?_
  refine a_iconst (pc := 3) hG dX12_bitOf_3 (v := (nI 1)) rfl ?_
  refine a_iand (pc := 4) hG dX12_bitOf_4 ?_
  refine a_iconst (pc := 5) hG dX12_bitOf_5 (v := (nI 1)) rfl ?_
  refine a_ic_ne (pc := 6) hG (tgt := 13) hd dX12_bitOf_6 (by decide) (fun hd => ?_) (fun hd => ?_)
  · refine a_iconst (pc := 13) hG dX12_bitOf_13 (v := (nI 0)) rfl ?_
    exact a_zret (pc := 14) hG hd dX12_bitOf_14
  refine a_iconst (pc := 9) hG dX12_bitOf_9 (v := (nI 1)) rfl ?_
  refine a_goto (pc := 10) hG (tgt := 14) dX12_bitOf_10 (by decide) ?_
  exact a_zret (pc := 14) hG hd dX12_bitOf_14
theorem dX12_isOnce_0 : decode cX12_isOnce 0 = .ok (.aload_n 0, 1) := by decide +kernel
theorem dX12_isOnce_1 : decode cX12_isOnce 1 = .ok (.getfield 203, 3) := by decide +kernel
theorem dX12_isOnce_4 : decode cX12_isOnce 4 = .ok (.iload_n 1, 1) := by decide +kernel
theorem dX12_isOnce_5 : decode cX12_isOnce 5 = .ok (.invokestatic 206, 3) := by decide +kernel
theorem dX12_isOnce_8 : decode cX12_isOnce 8 = .ok (.ifCond .eq 9, 3) := by decide +kernel
theorem dX12_isOnce_11 : decode cX12_isOnce 11 = .ok (.aload_n 0, 1) := by decide +kernel
theorem dX12_isOnce_12 : decode cX12_isOnce 12 = .ok (.iconst 3, 1) := by decide +kernel
theorem dX12_isOnce_13 : decode cX12_isOnce 13 = .ok (.invokevirtual 178, 3) := by decide +kernel
theorem dX12_isOnce_16 : decode cX12_isOnce 16 = .ok (.ireturn, 1) := by decide +kernel
theorem dX12_isOnce_17 : decode cX12_isOnce 17 = .ok (.aload_n 0, 1) := by decide +kernel
theorem dX12_isOnce_18 : decode cX12_isOnce 18 = .ok (.dup, 1) := by decide +kernel
theorem dX12_isOnce_19 : decode cX12_isOnce 19 = .ok (.getfield 203, 3) := by decide +kernel
theorem dX12_isOnce_22 : decode cX12_isOnce 22 = .ok (.iconst 1, 1) := by decide +kernel
theorem dX12_isOnce_23 : decode cX12_isOnce 23 = .ok (.iload_n 1, 1) := by decide +kernel
theorem dX12_isOnce_24 : decode cX12_isOnce 24 = .ok (.ishl, 1) := by decide +kernel
theorem dX12_isOnce_25 : decode cX12_isOnce 25 = .ok (.ior, 1) := by decide +kernel
theorem dX12_isOnce_26 : decode cX12_isOnce 26 = .ok (.putfield 203, 3) := by decide +kernel
theorem dX12_isOnce_29 : decode cX12_isOnce 29 = .ok (.aload_n 0, 1) := by decide +kernel
theorem dX12_isOnce_30 : decode cX12_isOnce 30 = .ok (.invokevirtual 181, 3) := by decide +kernel
theorem dX12_isOnce_33 : decode cX12_isOnce 33 = .ok (.iconst 1, 1) := by decide +kernel
theorem dX12_isOnce_34 : decode cX12_isOnce 34 = .ok (.ireturn, 1) := by decide +kernel
set_option maxHeartbeats 4000000 in
theorem c_M_isOnce {ad wad : Nat → Nat} (F : Nat) (a0 : Int32) (h : HS)  (q : Int32 × HS) (hd : f_M_isOnce F a0 h = some q) : Ctr SHm ad wad yX12_isOnce cX12_isOnce 2 (some .boolean) 3 [.ref (ad 0), .int a0] h (some (.int q.1), q.2) := by
  refine enter (own := RX12) (lv := [(0, .ref (ad 0)), (1, .int a0)]) (by decide +kernel) rfl (Nat.le_of_ble_eq_true rfl) rfl (fun Γ hG => ?_)
  unfold f_M_isOnce at hd
  refine a_aload_n (pc := 0) hG 0 rfl dX12_isOnce_0 rfl ?_
  refine a_getI (pc := 1) hG sm_0 cl_X12 ok_X12 20 (by decide) rfl t_1629 dX12_isOnce_1 ?_
  refine a_iload_n (pc := 4) hG 1 rfl dX12_isOnce_4 rfl ?_
  refine a_csI (pc := 5) hG (As := [.int (h.1 0 20), .int a0]) (st := []) mk_X12_bitOf t_1780 (by omega) (fun z hz => c_M_bitOf (h.1 0 20) a0 _  z hz) rfl (Nat.le_of_ble_eq_true rfl) hd dX12_isOnce_5 (fun r2 h1 hd => ?_)
  refine a_if_eq (pc := 8) hG (tgt := 17) hd dX12_isOnce_8 (by decide) (fun hd => ?_) (fun hd => ?_)
  · refine a_aload_n (pc := 17) hG 0 rfl dX12_isOnce_17 rfl ?_
    refine a_dup (pc := 18) hG dX12_isOnce_18 rfl ?_
    refine a_getI (pc := 19) hG sm_0 cl_X12 ok_X12 20 (by decide) rfl t_1629 dX12_isOnce_19 ?_
    refine a_iconst (pc := 22) hG dX12_isOnce_22 (v := (nI 1)) rfl ?_
    refine a_iload_n (pc := 23) hG 1 rfl dX12_isOnce_23 rfl ?_
    refine a_ishl (pc := 24) hG dX12_isOnce_24 ?_
    refine a_ior (pc := 25) hG dX12_isOnce_25 ?_
    refine a_putI (pc := 26) hG sm_0 cl_X12 ok_X12 20 (by decide) rfl t_1629 rfl (ty := .int) rfl rfl rfl hd dX12_isOnce_26 (fun h3 hd => ?_)
    refine a_aload_n (pc := 29) hG 0 rfl dX12_isOnce_29 rfl ?_
    refine a_cvN (pc := 30) hG (As := []) (st := []) sm_0 cl_X12 mk_X12_next t_1754 (by omega) (fun z hz => c_M_next F  _  z hz) rfl (Nat.le_of_ble_eq_true rfl) hd dX12_isOnce_30 (fun _ h4 hd => ?_)
    refine a_iconst (pc := 33) hG dX12_isOnce_33 (v := (nI 1)) rfl ?_
    exact a_zret (pc := 34) hG hd dX12_isOnce_34
  refine a_aload_n (pc := 11) hG 0 rfl dX12_isOnce_11 rfl ?_
  refine a_iconst (pc := 12) hG dX12_isOnce_12 (v := (nI 3)) rfl ?_
  refine a_cvI (pc := 13) hG (As := [.int (nI 3)]) (st := []) sm_0 cl_X12 mk_X12_bad t_1783 (by omega) (fun z hz => c_M_bad (nI 3) _  z hz) rfl (Nat.le_of_ble_eq_true rfl) hd dX12_isOnce_13 (fun r6 h5 hd => ?_)
  exact a_zret (pc := 16) hG hd dX12_isOnce_16
theorem dX12_line_0 : decode cX12_line 0 = .ok (.aload_n 0, 1) := by decide +kernel
theorem dX12_line_1 : decode cX12_line 1 = .ok (.ldc2_w 90, 3) := by decide +kernel
theorem dX12_line_4 : decode cX12_line 4 = .ok (.invokevirtual 209, 3) := by decide +kernel
theorem dX12_line_7 : decode cX12_line 7 = .ok (.ifCond .eq 40, 3) := by decide +kernel
theorem dX12_line_10 : decode cX12_line 10 = .ok (.aload_n 0, 1) := by decide +kernel
theorem dX12_line_11 : decode cX12_line 11 = .ok (.iconst 0, 1) := by decide +kernel
theorem dX12_line_12 : decode cX12_line 12 = .ok (.invokevirtual 213, 3) := by decide +kernel
theorem dX12_line_15 : decode cX12_line 15 = .ok (.ifCond .eq 14, 3) := by decide +kernel
theorem dX12_line_18 : decode cX12_line 18 = .ok (.aload_n 0, 1) := by decide +kernel
theorem dX12_line_19 : decode cX12_line 19 = .ok (.iconst 4, 1) := by decide +kernel
theorem dX12_line_20 : decode cX12_line 20 = .ok (.iconst 1, 1) := by decide +kernel
theorem dX12_line_21 : decode cX12_line 21 = .ok (.bipush 98, 2) := by decide +kernel
theorem dX12_line_23 : decode cX12_line 23 = .ok (.invokevirtual 216, 3) := by decide +kernel
theorem dX12_line_26 : decode cX12_line 26 = .ok (.ifCond .ne 5, 3) := by decide +kernel
theorem dX12_line_29 : decode cX12_line 29 = .ok (.iconst 0, 1) := by decide +kernel
theorem dX12_line_30 : decode cX12_line 30 = .ok (.ireturn, 1) := by decide +kernel
theorem dX12_line_31 : decode cX12_line 31 = .ok (.aload_n 0, 1) := by decide +kernel
theorem dX12_line_32 : decode cX12_line 32 = .ok (.iconst 5, 1) := by decide +kernel
theorem dX12_line_33 : decode cX12_line 33 = .ok (.aload_n 0, 1) := by decide +kernel
theorem dX12_line_34 : decode cX12_line 34 = .ok (.getfield 37, 3) := by decide +kernel
theorem dX12_line_37 : decode cX12_line 37 = .ok (.iconst 4, 1) := by decide +kernel
theorem dX12_line_38 : decode cX12_line 38 = .ok (.iaload, 1) := by decide +kernel
theorem dX12_line_39 : decode cX12_line 39 = .ok (.iconst 1, 1) := by decide +kernel
theorem dX12_line_40 : decode cX12_line 40 = .ok (.iadd, 1) := by decide +kernel
theorem dX12_line_41 : decode cX12_line 41 = .ok (.bipush 99, 2) := by decide +kernel
theorem dX12_line_43 : decode cX12_line 43 = .ok (.invokevirtual 216, 3) := by decide +kernel
theorem dX12_line_46 : decode cX12_line 46 = .ok (.ireturn, 1) := by decide +kernel
theorem dX12_line_47 : decode cX12_line 47 = .ok (.aload_n 0, 1) := by decide +kernel
theorem dX12_line_48 : decode cX12_line 48 = .ok (.ldc2_w 92, 3) := by decide +kernel
theorem dX12_line_51 : decode cX12_line 51 = .ok (.invokevirtual 209, 3) := by decide +kernel
theorem dX12_line_54 : decode cX12_line 54 = .ok (.ifCond .eq 30, 3) := by decide +kernel
theorem dX12_line_57 : decode cX12_line 57 = .ok (.aload_n 0, 1) := by decide +kernel
theorem dX12_line_58 : decode cX12_line 58 = .ok (.iconst 1, 1) := by decide +kernel
theorem dX12_line_59 : decode cX12_line 59 = .ok (.invokevirtual 213, 3) := by decide +kernel
theorem dX12_line_62 : decode cX12_line 62 = .ok (.ifCond .eq 20, 3) := by decide +kernel
theorem dX12_line_65 : decode cX12_line 65 = .ok (.aload_n 0, 1) := by decide +kernel
theorem dX12_line_66 : decode cX12_line 66 = .ok (.bipush 6, 2) := by decide +kernel
theorem dX12_line_68 : decode cX12_line 68 = .ok (.iconst 0, 1) := by decide +kernel
theorem dX12_line_69 : decode cX12_line 69 = .ok (.sipush 999, 3) := by decide +kernel
theorem dX12_line_72 : decode cX12_line 72 = .ok (.invokevirtual 216, 3) := by decide +kernel
theorem dX12_line_75 : decode cX12_line 75 = .ok (.ifCond .eq 7, 3) := by decide +kernel
theorem dX12_line_78 : decode cX12_line 78 = .ok (.iconst 1, 1) := by decide +kernel
theorem dX12_line_79 : decode cX12_line 79 = .ok (.goto 4, 3) := by decide +kernel
theorem dX12_line_82 : decode cX12_line 82 = .ok (.iconst 0, 1) := by decide +kernel
theorem dX12_line_83 : decode cX12_line 83 = .ok (.ireturn, 1) := by decide +kernel
theorem dX12_line_84 : decode cX12_line 84 = .ok (.aload_n 0, 1) := by decide +kernel
theorem dX12_line_85 : decode cX12_line 85 = .ok (.ldc2_w 94, 3) := by decide +kernel
theorem dX12_line_88 : decode cX12_line 88 = .ok (.invokevirtual 209, 3) := by decide +kernel
theorem dX12_line_91 : decode cX12_line 91 = .ok (.ifCond .eq 107, 3) := by decide +kernel
theorem dX12_line_94 : decode cX12_line 94 = .ok (.aload_n 0, 1) := by decide +kernel
theorem dX12_line_95 : decode cX12_line 95 = .ok (.getfield 37, 3) := by decide +kernel
theorem dX12_line_98 : decode cX12_line 98 = .ok (.iconst 0, 1) := by decide +kernel
theorem dX12_line_99 : decode cX12_line 99 = .ok (.iaload, 1) := by decide +kernel
theorem dX12_line_100 : decode cX12_line 100 = .ok (.istore_n 1, 1) := by decide +kernel
theorem dX12_line_101 : decode cX12_line 101 = .ok (.iload_n 1, 1) := by decide +kernel
theorem dX12_line_102 : decode cX12_line 102 = .ok (.bipush 6, 2) := by decide +kernel
theorem dX12_line_104 : decode cX12_line 104 = .ok (.if_icmp .ne 9, 3) := by decide +kernel
theorem dX12_line_107 : decode cX12_line 107 = .ok (.aload_n 0, 1) := by decide +kernel
theorem dX12_line_108 : decode cX12_line 108 = .ok (.iconst 4, 1) := by decide +kernel
theorem dX12_line_109 : decode cX12_line 109 = .ok (.invokevirtual 178, 3) := by decide +kernel
theorem dX12_line_112 : decode cX12_line 112 = .ok (.ireturn, 1) := by decide +kernel
theorem dX12_line_113 : decode cX12_line 113 = .ok (.aload_n 0, 1) := by decide +kernel
theorem dX12_line_114 : decode cX12_line 114 = .ok (.invokevirtual 181, 3) := by decide +kernel
theorem dX12_line_117 : decode cX12_line 117 = .ok (.aload_n 0, 1) := by decide +kernel
theorem dX12_line_118 : decode cX12_line 118 = .ok (.bipush 17, 2) := by decide +kernel
theorem dX12_line_120 : decode cX12_line 120 = .ok (.iload_n 1, 1) := by decide +kernel
theorem dX12_line_121 : decode cX12_line 121 = .ok (.iadd, 1) := by decide +kernel
theorem dX12_line_122 : decode cX12_line 122 = .ok (.invokevirtual 219, 3) := by decide +kernel
theorem dX12_line_125 : decode cX12_line 125 = .ok (.ifCond .eq 59, 3) := by decide +kernel
theorem dX12_line_128 : decode cX12_line 128 = .ok (.aload_n 0, 1) := by decide +kernel
theorem dX12_line_129 : decode cX12_line 129 = .ok (.bipush 7, 2) := by decide +kernel
theorem dX12_line_131 : decode cX12_line 131 = .ok (.iload_n 1, 1) := by decide +kernel
theorem dX12_line_132 : decode cX12_line 132 = .ok (.iadd, 1) := by decide +kernel
theorem dX12_line_133 : decode cX12_line 133 = .ok (.iconst 0, 1) := by decide +kernel
theorem dX12_line_134 : decode cX12_line 134 = .ok (.bipush 99, 2) := by decide +kernel
theorem dX12_line_136 : decode cX12_line 136 = .ok (.invokevirtual 216, 3) := by decide +kernel
theorem dX12_line_139 : decode cX12_line 139 = .ok (.ifCond .eq 45, 3) := by decide +kernel
theorem dX12_line_142 : decode cX12_line 142 = .ok (.aload_n 0, 1) := by decide +kernel
theorem dX12_line_143 : decode cX12_line 143 = .ok (.bipush 13, 2) := by decide +kernel
theorem dX12_line_145 : decode cX12_line 145 = .ok (.iload_n 1, 1) := by decide +kernel
theorem dX12_line_146 : decode cX12_line 146 = .ok (.iadd, 1) := by decide +kernel
theorem dX12_line_147 : decode cX12_line 147 = .ok (.iconst 1, 1) := by decide +kernel
theorem dX12_line_148 : decode cX12_line 148 = .ok (.bipush 99, 2) := by decide +kernel
theorem dX12_line_150 : decode cX12_line 150 = .ok (.invokevirtual 216, 3) := by decide +kernel
theorem dX12_line_153 : decode cX12_line 153 = .ok (.ifCond .eq 31, 3) := by decide +kernel
theorem dX12_line_156 : decode cX12_line 156 = .ok (.aload_n 0, 1) := by decide +kernel
theorem dX12_line_157 : decode cX12_line 157 = .ok (.bipush 19, 2) := by decide +kernel
theorem dX12_line_159 : decode cX12_line 159 = .ok (.iload_n 1, 1) := by decide +kernel
theorem dX12_line_160 : decode cX12_line 160 = .ok (.iadd, 1) := by decide +kernel
theorem dX12_line_161 : decode cX12_line 161 = .ok (.iconst 1, 1) := by decide +kernel
theorem dX12_line_162 : decode cX12_line 162 = .ok (.bipush 99, 2) := by decide +kernel
theorem dX12_line_164 : decode cX12_line 164 = .ok (.invokevirtual 216, 3) := by decide +kernel
theorem dX12_line_167 : decode cX12_line 167 = .ok (.ifCond .eq 17, 3) := by decide +kernel
theorem dX12_line_170 : decode cX12_line 170 = .ok (.aload_n 0, 1) := by decide +kernel
theorem dX12_line_171 : decode cX12_line 171 = .ok (.bipush 25, 2) := by decide +kernel
theorem dX12_line_173 : decode cX12_line 173 = .ok (.iload_n 1, 1) := by decide +kernel
theorem dX12_line_174 : decode cX12_line 174 = .ok (.iadd, 1) := by decide +kernel
theorem dX12_line_175 : decode cX12_line 175 = .ok (.iconst 1, 1) := by decide +kernel
theorem dX12_line_176 : decode cX12_line 176 = .ok (.bipush 20, 2) := by decide +kernel
theorem dX12_line_178 : decode cX12_line 178 = .ok (.invokevirtual 216, 3) := by decide +kernel
theorem dX12_line_181 : decode cX12_line 181 = .ok (.ifCond .ne 5, 3) := by decide +kernel
theorem dX12_line_184 : decode cX12_line 184 = .ok (.iconst 0, 1) := by decide +kernel
theorem dX12_line_185 : decode cX12_line 185 = .ok (.ireturn, 1) := by decide +kernel
theorem dX12_line_186 : decode cX12_line 186 = .ok (.aload_n 0, 1) := by decide +kernel
theorem dX12_line_187 : decode cX12_line 187 = .ok (.getfield 37, 3) := by decide +kernel
theorem dX12_line_190 : decode cX12_line 190 = .ok (.iconst 0, 1) := by decide +kernel
theorem dX12_line_191 : decode cX12_line 191 = .ok (.dup2, 1) := by decide +kernel
theorem dX12_line_192 : decode cX12_line 192 = .ok (.iaload, 1) := by decide +kernel
theorem dX12_line_193 : decode cX12_line 193 = .ok (.iconst 1, 1) := by decide +kernel
theorem dX12_line_194 : decode cX12_line 194 = .ok (.iadd, 1) := by decide +kernel
theorem dX12_line_195 : decode cX12_line 195 = .ok (.iastore, 1) := by decide +kernel
theorem dX12_line_196 : decode cX12_line 196 = .ok (.iconst 1, 1) := by decide +kernel
theorem dX12_line_197 : decode cX12_line 197 = .ok (.ireturn, 1) := by decide +kernel
theorem dX12_line_198 : decode cX12_line 198 = .ok (.aload_n 0, 1) := by decide +kernel
theorem dX12_line_199 : decode cX12_line 199 = .ok (.ldc2_w 96, 3) := by decide +kernel
theorem dX12_line_202 : decode cX12_line 202 = .ok (.invokevirtual 209, 3) := by decide +kernel
theorem dX12_line_205 : decode cX12_line 205 = .ok (.ifCond .eq 106, 3) := by decide +kernel
theorem dX12_line_208 : decode cX12_line 208 = .ok (.aload_n 0, 1) := by decide +kernel
theorem dX12_line_209 : decode cX12_line 209 = .ok (.invokevirtual 181, 3) := by decide +kernel
theorem dX12_line_212 : decode cX12_line 212 = .ok (.aload_n 0, 1) := by decide +kernel
theorem dX12_line_213 : decode cX12_line 213 = .ok (.bipush 17, 2) := by decide +kernel
theorem dX12_line_215 : decode cX12_line 215 = .ok (.aload_n 0, 1) := by decide +kernel
theorem dX12_line_216 : decode cX12_line 216 = .ok (.getfield 37, 3) := by decide +kernel
theorem dX12_line_219 : decode cX12_line 219 = .ok (.iconst 0, 1) := by decide +kernel
theorem dX12_line_220 : decode cX12_line 220 = .ok (.iaload, 1) := by decide +kernel
theorem dX12_line_221 : decode cX12_line 221 = .ok (.invokevirtual 222, 3) := by decide +kernel
theorem dX12_line_224 : decode cX12_line 224 = .ok (.ifCond .ne 5, 3) := by decide +kernel
theorem dX12_line_227 : decode cX12_line 227 = .ok (.iconst 0, 1) := by decide +kernel
theorem dX12_line_228 : decode cX12_line 228 = .ok (.ireturn, 1) := by decide +kernel
theorem dX12_line_229 : decode cX12_line 229 = .ok (.aload_n 0, 1) := by decide +kernel
theorem dX12_line_230 : decode cX12_line 230 = .ok (.getfield 188, 3) := by decide +kernel
theorem dX12_line_233 : decode cX12_line 233 = .ok (.istore_n 1, 1) := by decide +kernel
theorem dX12_line_234 : decode cX12_line 234 = .ok (.aload_n 0, 1) := by decide +kernel
theorem dX12_line_235 : decode cX12_line 235 = .ok (.getfield 37, 3) := by decide +kernel
theorem dX12_line_238 : decode cX12_line 238 = .ok (.bipush 43, 2) := by decide +kernel
theorem dX12_line_240 : decode cX12_line 240 = .ok (.iload_n 1, 1) := by decide +kernel
theorem dX12_line_241 : decode cX12_line 241 = .ok (.iadd, 1) := by decide +kernel
theorem dX12_line_242 : decode cX12_line 242 = .ok (.iaload, 1) := by decide +kernel
theorem dX12_line_243 : decode cX12_line 243 = .ok (.iconst 1, 1) := by decide +kernel
theorem dX12_line_244 : decode cX12_line 244 = .ok (.if_icmp .ne 9, 3) := by decide +kernel
theorem dX12_line_247 : decode cX12_line 247 = .ok (.aload_n 0, 1) := by decide +kernel
theorem dX12_line_248 : decode cX12_line 248 = .ok (.iconst 3, 1) := by decide +kernel
theorem dX12_line_249 : decode cX12_line 249 = .ok (.invokevirtual 178, 3) := by decide +kernel
theorem dX12_line_252 : decode cX12_line 252 = .ok (.ireturn, 1) := by decide +kernel
theorem dX12_line_253 : decode cX12_line 253 = .ok (.aload_n 0, 1) := by decide +kernel
theorem dX12_line_254 : decode cX12_line 254 = .ok (.invokevirtual 181, 3) := by decide +kernel
theorem dX12_line_257 : decode cX12_line 257 = .ok (.aload_n 0, 1) := by decide +kernel
theorem dX12_line_258 : decode cX12_line 258 = .ok (.getfield 37, 3) := by decide +kernel
theorem dX12_line_261 : decode cX12_line 261 = .ok (.bipush 43, 2) := by decide +kernel
theorem dX12_line_263 : decode cX12_line 263 = .ok (.iload_n 1, 1) := by decide +kernel
theorem dX12_line_264 : decode cX12_line 264 = .ok (.iadd, 1) := by decide +kernel
theorem dX12_line_265 : decode cX12_line 265 = .ok (.iconst 1, 1) := by decide +kernel
theorem dX12_line_266 : decode cX12_line 266 = .ok (.iastore, 1) := by decide +kernel
theorem dX12_line_267 : decode cX12_line 267 = .ok (.aload_n 0, 1) := by decide +kernel
theorem dX12_line_268 : decode cX12_line 268 = .ok (.getfield 37, 3) := by decide +kernel
theorem dX12_line_271 : decode cX12_line 271 = .ok (.iconst 3, 1) := by decide +kernel
theorem dX12_line_272 : decode cX12_line 272 = .ok (.dup2, 1) := by decide +kernel
theorem dX12_line_273 : decode cX12_line 273 = .ok (.iaload, 1) := by decide +kernel
theorem dX12_line_274 : decode cX12_line 274 = .ok (.iconst 1, 1) := by decide +kernel
theorem dX12_line_275 : decode cX12_line 275 = .ok (.iadd, 1) := by decide +kernel
theorem dX12_line_276 : decode cX12_line 276 = .ok (.iastore, 1) := by decide +kernel
theorem dX12_line_277 : decode cX12_line 277 = .ok (.aload_n 0, 1) := by decide +kernel
theorem dX12_line_278 : decode cX12_line 278 = .ok (.bipush 31, 2) := by decide +kernel
theorem dX12_line_280 : decode cX12_line 280 = .ok (.iload_n 1, 1) := by decide +kernel
theorem dX12_line_281 : decode cX12_line 281 = .ok (.iadd, 1) := by decide +kernel
theorem dX12_line_282 : decode cX12_line 282 = .ok (.iconst 0, 1) := by decide +kernel
theorem dX12_line_283 : decode cX12_line 283 = .ok (.bipush 99, 2) := by decide +kernel
theorem dX12_line_285 : decode cX12_line 285 = .ok (.invokevirtual 216, 3) := by decide +kernel
theorem dX12_line_288 : decode cX12_line 288 = .ok (.ifCond .eq 21, 3) := by decide +kernel
theorem dX12_line_291 : decode cX12_line 291 = .ok (.aload_n 0, 1) := by decide +kernel
theorem dX12_line_292 : decode cX12_line 292 = .ok (.bipush 37, 2) := by decide +kernel
theorem dX12_line_294 : decode cX12_line 294 = .ok (.iload_n 1, 1) := by decide +kernel
theorem dX12_line_295 : decode cX12_line 295 = .ok (.iadd, 1) := by decide +kernel
theorem dX12_line_296 : decode cX12_line 296 = .ok (.iconst 1, 1) := by decide +kernel
theorem dX12_line_297 : decode cX12_line 297 = .ok (.bipush 99, 2) := by decide +kernel
theorem dX12_line_299 : decode cX12_line 299 = .ok (.invokevirtual 216, 3) := by decide +kernel
theorem dX12_line_302 : decode cX12_line 302 = .ok (.ifCond .eq 7, 3) := by decide +kernel
theorem dX12_line_305 : decode cX12_line 305 = .ok (.iconst 1, 1) := by decide +kernel
theorem dX12_line_306 : decode cX12_line 306 = .ok (.goto 4, 3) := by decide +kernel
theorem dX12_line_309 : decode cX12_line 309 = .ok (.iconst 0, 1) := by decide +kernel
theorem dX12_line_310 : decode cX12_line 310 = .ok (.ireturn, 1) := by decide +kernel
theorem dX12_line_311 : decode cX12_line 311 = .ok (.aload_n 0, 1) := by decide +kernel
theorem dX12_line_312 : decode cX12_line 312 = .ok (.ldc2_w 98, 3) := by decide +kernel
theorem dX12_line_315 : decode cX12_line 315 = .ok (.invokevirtual 209, 3) := by decide +kernel
theorem dX12_line_318 : decode cX12_line 318 = .ok (.ifCond .eq 93, 3) := by decide +kernel
theorem dX12_line_321 : decode cX12_line 321 = .ok (.aload_n 0, 1) := by decide +kernel
theorem dX12_line_322 : decode cX12_line 322 = .ok (.getfield 37, 3) := by decide +kernel
theorem dX12_line_325 : decode cX12_line 325 = .ok (.iconst 1, 1) := by decide +kernel
theorem dX12_line_326 : decode cX12_line 326 = .ok (.iaload, 1) := by decide +kernel
theorem dX12_line_327 : decode cX12_line 327 = .ok (.istore_n 1, 1) := by decide +kernel
theorem dX12_line_328 : decode cX12_line 328 = .ok (.iload_n 1, 1) := by decide +kernel
theorem dX12_line_329 : decode cX12_line 329 = .ok (.bipush 6, 2) := by decide +kernel
theorem dX12_line_331 : decode cX12_line 331 = .ok (.if_icmp .ne 9, 3) := by decide +kernel
theorem dX12_line_334 : decode cX12_line 334 = .ok (.aload_n 0, 1) := by decide +kernel
theorem dX12_line_335 : decode cX12_line 335 = .ok (.iconst 4, 1) := by decide +kernel
theorem dX12_line_336 : decode cX12_line 336 = .ok (.invokevirtual 178, 3) := by decide +kernel
theorem dX12_line_339 : decode cX12_line 339 = .ok (.ireturn, 1) := by decide +kernel
theorem dX12_line_340 : decode cX12_line 340 = .ok (.aload_n 0, 1) := by decide +kernel
theorem dX12_line_341 : decode cX12_line 341 = .ok (.invokevirtual 181, 3) := by decide +kernel
theorem dX12_line_344 : decode cX12_line 344 = .ok (.aload_n 0, 1) := by decide +kernel
theorem dX12_line_345 : decode cX12_line 345 = .ok (.bipush 23, 2) := by decide +kernel
theorem dX12_line_347 : decode cX12_line 347 = .ok (.iload_n 1, 1) := by decide +kernel
theorem dX12_line_348 : decode cX12_line 348 = .ok (.iadd, 1) := by decide +kernel
theorem dX12_line_349 : decode cX12_line 349 = .ok (.invokevirtual 219, 3) := by decide +kernel
theorem dX12_line_352 : decode cX12_line 352 = .ok (.ifCond .eq 45, 3) := by decide +kernel
theorem dX12_line_355 : decode cX12_line 355 = .ok (.aload_n 0, 1) := by decide +kernel
theorem dX12_line_356 : decode cX12_line 356 = .ok (.bipush 49, 2) := by decide +kernel
theorem dX12_line_358 : decode cX12_line 358 = .ok (.iload_n 1, 1) := by decide +kernel
theorem dX12_line_359 : decode cX12_line 359 = .ok (.iadd, 1) := by decide +kernel
theorem dX12_line_360 : decode cX12_line 360 = .ok (.iconst 0, 1) := by decide +kernel
theorem dX12_line_361 : decode cX12_line 361 = .ok (.bipush 20, 2) := by decide +kernel
theorem dX12_line_363 : decode cX12_line 363 = .ok (.invokevirtual 216, 3) := by decide +kernel
theorem dX12_line_366 : decode cX12_line 366 = .ok (.ifCond .eq 31, 3) := by decide +kernel
theorem dX12_line_369 : decode cX12_line 369 = .ok (.aload_n 0, 1) := by decide +kernel
theorem dX12_line_370 : decode cX12_line 370 = .ok (.bipush 55, 2) := by decide +kernel
theorem dX12_line_372 : decode cX12_line 372 = .ok (.iload_n 1, 1) := by decide +kernel
theorem dX12_line_373 : decode cX12_line 373 = .ok (.iadd, 1) := by decide +kernel
theorem dX12_line_374 : decode cX12_line 374 = .ok (.iconst 0, 1) := by decide +kernel
theorem dX12_line_375 : decode cX12_line 375 = .ok (.bipush 20, 2) := by decide +kernel
theorem dX12_line_377 : decode cX12_line 377 = .ok (.invokevirtual 216, 3) := by decide +kernel
theorem dX12_line_380 : decode cX12_line 380 = .ok (.ifCond .eq 17, 3) := by decide +kernel
theorem dX12_line_383 : decode cX12_line 383 = .ok (.aload_n 0, 1) := by decide +kernel
theorem dX12_line_384 : decode cX12_line 384 = .ok (.bipush 61, 2) := by decide +kernel
theorem dX12_line_386 : decode cX12_line 386 = .ok (.iload_n 1, 1) := by decide +kernel
theorem dX12_line_387 : decode cX12_line 387 = .ok (.iadd, 1) := by decide +kernel
theorem dX12_line_388 : decode cX12_line 388 = .ok (.iconst 0, 1) := by decide +kernel
theorem dX12_line_389 : decode cX12_line 389 = .ok (.bipush 20, 2) := by decide +kernel
theorem dX12_line_391 : decode cX12_line 391 = .ok (.invokevirtual 216, 3) := by decide +kernel
theorem dX12_line_394 : decode cX12_line 394 = .ok (.ifCond .ne 5, 3) := by decide +kernel
theorem dX12_line_397 : decode cX12_line 397 = .ok (.iconst 0, 1) := by decide +kernel
theorem dX12_line_398 : decode cX12_line 398 = .ok (.ireturn, 1) := by decide +kernel
theorem dX12_line_399 : decode cX12_line 399 = .ok (.aload_n 0, 1) := by decide +kernel
theorem dX12_line_400 : decode cX12_line 400 = .ok (.getfield 37, 3) := by decide +kernel
theorem dX12_line_403 : decode cX12_line 403 = .ok (.iconst 1, 1) := by decide +kernel
theorem dX12_line_404 : decode cX12_line 404 = .ok (.dup2, 1) := by decide +kernel
theorem dX12_line_405 : decode cX12_line 405 = .ok (.iaload, 1) := by decide +kernel
theorem dX12_line_406 : decode cX12_line 406 = .ok (.iconst 1, 1) := by decide +kernel
theorem dX12_line_407 : decode cX12_line 407 = .ok (.iadd, 1) := by decide +kernel
theorem dX12_line_408 : decode cX12_line 408 = .ok (.iastore, 1) := by decide +kernel
theorem dX12_line_409 : decode cX12_line 409 = .ok (.iconst 1, 1) := by decide +kernel
theorem dX12_line_410 : decode cX12_line 410 = .ok (.ireturn, 1) := by decide +kernel
theorem dX12_line_411 : decode cX12_line 411 = .ok (.aload_n 0, 1) := by decide +kernel
theorem dX12_line_412 : decode cX12_line 412 = .ok (.ldc2_w 100, 3) := by decide +kernel
theorem dX12_line_415 : decode cX12_line 415 = .ok (.invokevirtual 209, 3) := by decide +kernel
theorem dX12_line_418 : decode cX12_line 418 = .ok (.ifCond .ne 9, 3) := by decide +kernel
theorem dX12_line_421 : decode cX12_line 421 = .ok (.aload_n 0, 1) := by decide +kernel
theorem dX12_line_422 : decode cX12_line 422 = .ok (.iconst 1, 1) := by decide +kernel
theorem dX12_line_423 : decode cX12_line 423 = .ok (.invokevirtual 178, 3) := by decide +kernel
theorem dX12_line_426 : decode cX12_line 426 = .ok (.ireturn, 1) := by decide +kernel
theorem dX12_line_427 : decode cX12_line 427 = .ok (.aload_n 0, 1) := by decide +kernel
theorem dX12_line_428 : decode cX12_line 428 = .ok (.getfield 37, 3) := by decide +kernel
theorem dX12_line_431 : decode cX12_line 431 = .ok (.iconst 2, 1) := by decide +kernel
theorem dX12_line_432 : decode cX12_line 432 = .ok (.iaload, 1) := by decide +kernel
theorem dX12_line_433 : decode cX12_line 433 = .ok (.istore_n 1, 1) := by decide +kernel
theorem dX12_line_434 : decode cX12_line 434 = .ok (.iload_n 1, 1) := by decide +kernel
theorem dX12_line_435 : decode cX12_line 435 = .ok (.iconst 5, 1) := by decide +kernel
theorem dX12_line_436 : decode cX12_line 436 = .ok (.if_icmp .ne 9, 3) := by decide +kernel
theorem dX12_line_439 : decode cX12_line 439 = .ok (.aload_n 0, 1) := by decide +kernel
theorem dX12_line_440 : decode cX12_line 440 = .ok (.iconst 4, 1) := by decide +kernel
theorem dX12_line_441 : decode cX12_line 441 = .ok (.invokevirtual 178, 3) := by decide +kernel
theorem dX12_line_444 : decode cX12_line 444 = .ok (.ireturn, 1) := by decide +kernel
theorem dX12_line_445 : decode cX12_line 445 = .ok (.aload_n 0, 1) := by decide +kernel
theorem dX12_line_446 : decode cX12_line 446 = .ok (.invokevirtual 181, 3) := by decide +kernel
theorem dX12_line_449 : decode cX12_line 449 = .ok (.aload_n 0, 1) := by decide +kernel
theorem dX12_line_450 : decode cX12_line 450 = .ok (.bipush 29, 2) := by decide +kernel
theorem dX12_line_452 : decode cX12_line 452 = .ok (.iload_n 1, 1) := by decide +kernel
theorem dX12_line_453 : decode cX12_line 453 = .ok (.iadd, 1) := by decide +kernel
theorem dX12_line_454 : decode cX12_line 454 = .ok (.invokevirtual 219, 3) := by decide +kernel
theorem dX12_line_457 : decode cX12_line 457 = .ok (.ifCond .eq 17, 3) := by decide +kernel
theorem dX12_line_460 : decode cX12_line 460 = .ok (.aload_n 0, 1) := by decide +kernel
theorem dX12_line_461 : decode cX12_line 461 = .ok (.bipush 67, 2) := by decide +kernel
theorem dX12_line_463 : decode cX12_line 463 = .ok (.iload_n 1, 1) := by decide +kernel
theorem dX12_line_464 : decode cX12_line 464 = .ok (.iadd, 1) := by decide +kernel
theorem dX12_line_465 : decode cX12_line 465 = .ok (.iconst 1, 1) := by decide +kernel
theorem dX12_line_466 : decode cX12_line 466 = .ok (.bipush 9, 2) := by decide +kernel
theorem dX12_line_468 : decode cX12_line 468 = .ok (.invokevirtual 216, 3) := by decide +kernel
theorem dX12_line_471 : decode cX12_line 471 = .ok (.ifCond .ne 5, 3) := by decide +kernel
theorem dX12_line_474 : decode cX12_line 474 = .ok (.iconst 0, 1) := by decide +kernel
theorem dX12_line_475 : decode cX12_line 475 = .ok (.ireturn, 1) := by decide +kernel
theorem dX12_line_476 : decode cX12_line 476 = .ok (.aload_n 0, 1) := by decide +kernel
theorem dX12_line_477 : decode cX12_line 477 = .ok (.getfield 37, 3) := by decide +kernel
theorem dX12_line_480 : decode cX12_line 480 = .ok (.iconst 2, 1) := by decide +kernel
theorem dX12_line_481 : decode cX12_line 481 = .ok (.dup2, 1) := by decide +kernel
theorem dX12_line_482 : decode cX12_line 482 = .ok (.iaload, 1) := by decide +kernel
theorem dX12_line_483 : decode cX12_line 483 = .ok (.iconst 1, 1) := by decide +kernel
theorem dX12_line_484 : decode cX12_line 484 = .ok (.iadd, 1) := by decide +kernel
theorem dX12_line_485 : decode cX12_line 485 = .ok (.iastore, 1) := by decide +kernel
theorem dX12_line_486 : decode cX12_line 486 = .ok (.iconst 1, 1) := by decide +kernel
theorem dX12_line_487 : decode cX12_line 487 = .ok (.ireturn, 1) := by decide +kernel
set_option maxHeartbeats 4000000 in
theorem c_M_line {ad wad : Nat → Nat} (F : Nat)  (h : HS)  (q : Int32 × HS) (hd : f_M_line F  h = some q) : Ctr SHm ad wad yX12_line cX12_line 2 (some .boolean) 5 [.ref (ad 0)] h (some (.int q.1), q.2) := by
  refine enter (own := RX12) (lv := [(0, .ref (ad 0))]) (by decide +kernel) rfl (Nat.le_of_ble_eq_true rfl) rfl (fun Γ hG => ?_)
  unfold f_M_line at hd
  refine a_aload_n (pc := 0) hG 0 rfl dX12_line_0 rfl ?_
  refine a_ldc2_w (pc := 1) hG t_1578 dX12_line_1 ?_
  refine a_cvI (pc := 4) hG (As := [.long (1818848869 : Int64)]) (st := []) sm_0 cl_X12 mk_X12_isWord t_1772 (by omega) (fun z hz => c_M_isWord (1818848869 : Int64) _  z hz) rfl (Nat.le_of_ble_eq_true rfl) hd dX12_line_4 (fun r2 h1 hd => ?_)
  refine a_if_eq (pc := 7) hG (tgt := 47) hd dX12_line_7 (by decide) (fun hd => ?_) (fun hd => ?_)
  · refine a_aload_n (pc := 47) hG 0 rfl dX12_line_47 rfl ?_
    refine a_ldc2_w (pc := 48) hG t_1579 dX12_line_48 ?_
    refine a_cvI (pc := 51) hG (As := [.long (1668245870 : Int64)]) (st := []) sm_0 cl_X12 mk_X12_isWord t_1772 (by omega) (fun z hz => c_M_isWord (1668245870 : Int64) _  z hz) rfl (Nat.le_of_ble_eq_true rfl) hd dX12_line_51 (fun r4 h3 hd => ?_)
    refine a_if_eq (pc := 54) hG (tgt := 84) hd dX12_line_54 (by decide) (fun hd => ?_) (fun hd => ?_)
    · refine a_aload_n (pc := 84) hG 0 rfl dX12_line_84 rfl ?_
      refine a_ldc2_w (pc := 85) hG t_1580 dX12_line_85 ?_
      refine a_cvI (pc := 88) hG (As := [.long (426836849509 : Int64)]) (st := []) sm_0 cl_X12 mk_X12_isWord t_1772 (by omega) (fun z hz => c_M_isWord (426836849509 : Int64) _  z hz) rfl (Nat.le_of_ble_eq_true rfl) hd dX12_line_88 (fun r6 h5 hd => ?_)
      refine a_if_eq (pc := 91) hG (tgt := 198) hd dX12_line_91 (by decide) (fun hd => ?_) (fun hd => ?_)
      · refine a_aload_n (pc := 198) hG 0 rfl dX12_line_198 rfl ?_
        refine a_ldc2_w (pc := 199) hG t_1581 dX12_line_199 ?_
        refine a_cvI (pc := 202) hG (As := [.long (125848672761202 : Int64)]) (st := []) sm_0 cl_X12 mk_X12_isWord t_1772 (by omega) (fun z hz => c_M_isWord (125848672761202 : Int64) _  z hz) rfl (Nat.le_of_ble_eq_true rfl) hd dX12_line_202 (fun r8 h7 hd => ?_)
        refine a_if_eq (pc := 205) hG (tgt := 311) hd dX12_line_205 (by decide) (fun hd => ?_) (fun hd => ?_)
        · refine a_aload_n (pc := 311) hG 0 rfl dX12_line_311 rfl ?_
          refine a_ldc2_w (pc := 312) hG t_1582 dX12_line_312 ?_
          refine a_cvI (pc := 315) hG (As := [.long (1684366692 : Int64)]) (st := []) sm_0 cl_X12 mk_X12_isWord t_1772 (by omega) (fun z hz => c_M_isWord (1684366692 : Int64) _  z hz) rfl (Nat.le_of_ble_eq_true rfl) hd dX12_line_315 (fun r10 h9 hd => ?_)
          refine a_if_eq (pc := 318) hG (tgt := 411) hd dX12_line_318 (by decide) (fun hd => ?_) (fun hd => ?_)
          · refine a_aload_n (pc := 411) hG 0 rfl dX12_line_411 rfl ?_
            refine a_ldc2_w (pc := 412) hG t_1583 dX12_line_412 ?_
            refine a_cvI (pc := 415) hG (As := [.long (427020350059 : Int64)]) (st := []) sm_0 cl_X12 mk_X12_isWord t_1772 (by omega) (fun z hz => c_M_isWord (427020350059 : Int64) _  z hz) rfl (Nat.le_of_ble_eq_true rfl) hd dX12_line_415 (fun r12 h11 hd => ?_)
            refine a_if_ne (pc := 418) hG (tgt := 427) hd dX12_line_418 (by decide) (fun hd => ?_) (fun hd => ?_)
            · refine a_aload_n (pc := 427) hG 0 rfl dX12_line_427 rfl ?_
              refine a_getR (pc := 428) hG sm_0 cl_X12 ok_X12 7 (by decide) rfl t_1616 dX12_line_428 ?_
              refine a_iconst (pc := 431) hG dX12_line_431 (v := (nI 2)) rfl ?_
              refine a_iald (pc := 432) hG sm_3 hd dX12_line_432 (fun hd => ?_)
              refine a_istore_nN (pc := 433) hG hd dX12_line_433 rfl (by decide) (lf := fun x => [(1, .int x), (0, .ref (ad 0))]) (fun _ => rfl) (fun v13 hd => ?_)
              refine a_iload_n (pc := 434) hG 0 rfl dX12_line_434 rfl ?_
              refine a_iconst (pc := 435) hG dX12_line_435 (v := (nI 5)) rfl ?_
              refine a_ic_ne (pc := 436) hG (tgt := 445) hd dX12_line_436 (by decide) (fun hd => ?_) (fun hd => ?_)
              · refine a_aload_n (pc := 445) hG 1 rfl dX12_line_445 rfl ?_
                refine a_cvN (pc := 446) hG (As := []) (st := []) sm_0 cl_X12 mk_X12_next t_1754 (by omega) (fun z hz => c_M_next F  _  z hz) rfl (Nat.le_of_ble_eq_true rfl) hd dX12_line_446 (fun _ h14 hd => ?_)
                refine a_aload_n (pc := 449) hG 1 rfl dX12_line_449 rfl ?_
                refine a_bipush (pc := 450) hG dX12_line_450 (v := (nI 29)) rfl ?_
                refine a_iload_n (pc := 452) hG 0 rfl dX12_line_452 rfl ?_
                refine a_iadd (pc := 453) hG dX12_line_453 ?_
                refine a_cvI (pc := 454) hG (As := [.int ((nI 29) + v13)]) (st := []) sm_0 cl_X12 mk_X12_fresh t_1798 (by omega) (fun z hz => c_M_fresh F ((nI 29) + v13) _  z hz) rfl (Nat.le_of_ble_eq_true rfl) hd dX12_line_454 (fun r16 h15 hd => ?_)
                refine a_if_eq (pc := 457) hG (tgt := 474) hd dX12_line_457 (by decide) (fun hd => ?_) (fun hd => ?_)
                · refine a_iconst (pc := 474) hG dX12_line_474 (v := (nI 0)) rfl ?_
                  exact a_zret (pc := 475) hG hd dX12_line_475
                refine a_aload_n (pc := 460) hG 1 rfl dX12_line_460 rfl ?_
                refine a_bipush (pc := 461) hG dX12_line_461 (v := (nI 67)) rfl ?_
                refine a_iload_n (pc := 463) hG 0 rfl dX12_line_463 rfl ?_
                refine a_iadd (pc := 464) hG dX12_line_464 ?_
                refine a_iconst (pc := 465) hG dX12_line_465 (v := (nI 1)) rfl ?_
                refine a_bipush (pc := 466) hG dX12_line_466 (v := (nI 9)) rfl ?_
                refine a_cvI (pc := 468) hG (As := [.int ((nI 67) + v13), .int (nI 1), .int (nI 9)]) (st := []) sm_0 cl_X12 mk_X12_puts t_1787 (by omega) (fun z hz => c_M_puts F ((nI 67) + v13) (nI 1) (nI 9) _  z hz) rfl (Nat.le_of_ble_eq_true rfl) hd dX12_line_468 (fun r18 h17 hd => ?_)
                refine a_if_ne (pc := 471) hG (tgt := 476) hd dX12_line_471 (by decide) (fun hd => ?_) (fun hd => ?_)
                · refine a_aload_n (pc := 476) hG 1 rfl dX12_line_476 rfl ?_
                  refine a_getR (pc := 477) hG sm_0 cl_X12 ok_X12 7 (by decide) rfl t_1616 dX12_line_477 ?_
                  refine a_iconst (pc := 480) hG dX12_line_480 (v := (nI 2)) rfl ?_
                  refine a_dup2 (pc := 481) hG dX12_line_481 rfl rfl ?_
                  refine a_iald (pc := 482) hG sm_3 hd dX12_line_482 (fun hd => ?_)
                  refine a_iconst (pc := 483) hG dX12_line_483 (v := (nI 1)) rfl ?_
                  refine a_iadd (pc := 484) hG dX12_line_484 ?_
                  refine a_iast (pc := 485) hG sm_3 hd dX12_line_485 (fun h19 hd => ?_)
                  refine a_iconst (pc := 486) hG dX12_line_486 (v := (nI 1)) rfl ?_
                  exact a_zret (pc := 487) hG hd dX12_line_487
                refine a_iconst (pc := 474) hG dX12_line_474 (v := (nI 0)) rfl ?_
                exact a_zret (pc := 475) hG hd dX12_line_475
              refine a_aload_n (pc := 439) hG 1 rfl dX12_line_439 rfl ?_
              refine a_iconst (pc := 440) hG dX12_line_440 (v := (nI 4)) rfl ?_
              refine a_cvI (pc := 441) hG (As := [.int (nI 4)]) (st := []) sm_0 cl_X12 mk_X12_bad t_1783 (by omega) (fun z hz => c_M_bad (nI 4) _  z hz) rfl (Nat.le_of_ble_eq_true rfl) hd dX12_line_441 (fun r21 h20 hd => ?_)
              exact a_zret (pc := 444) hG hd dX12_line_444
            refine a_aload_n (pc := 421) hG 0 rfl dX12_line_421 rfl ?_
            refine a_iconst (pc := 422) hG dX12_line_422 (v := (nI 1)) rfl ?_
            refine a_cvI (pc := 423) hG (As := [.int (nI 1)]) (st := []) sm_0 cl_X12 mk_X12_bad t_1783 (by omega) (fun z hz => c_M_bad (nI 1) _  z hz) rfl (Nat.le_of_ble_eq_true rfl) hd dX12_line_423 (fun r23 h22 hd => ?_)
            exact a_zret (pc := 426) hG hd dX12_line_426
          refine a_aload_n (pc := 321) hG 0 rfl dX12_line_321 rfl ?_
          refine a_getR (pc := 322) hG sm_0 cl_X12 ok_X12 7 (by decide) rfl t_1616 dX12_line_322 ?_
          refine a_iconst (pc := 325) hG dX12_line_325 (v := (nI 1)) rfl ?_
          refine a_iald (pc := 326) hG sm_3 hd dX12_line_326 (fun hd => ?_)
          refine a_istore_nN (pc := 327) hG hd dX12_line_327 rfl (by decide) (lf := fun x => [(1, .int x), (0, .ref (ad 0))]) (fun _ => rfl) (fun v24 hd => ?_)
          refine a_iload_n (pc := 328) hG 0 rfl dX12_line_328 rfl ?_
          refine a_bipush (pc := 329) hG dX12_line_329 (v := (nI 6)) rfl ?_
          refine a_ic_ne (pc := 331) hG (tgt := 340) hd dX12_line_331 (by decide) (fun hd => ?_) (fun hd => ?_)
          · refine a_aload_n (pc := 340) hG 1 rfl dX12_line_340 rfl ?_
            refine a_cvN (pc := 341) hG (As := []) (st := []) sm_0 cl_X12 mk_X12_next t_1754 (by omega) (fun z hz => c_M_next F  _  z hz) rfl (Nat.le_of_ble_eq_true rfl) hd dX12_line_341 (fun _ h25 hd => ?_)
            refine a_aload_n (pc := 344) hG 1 rfl dX12_line_344 rfl ?_
            refine a_bipush (pc := 345) hG dX12_line_345 (v := (nI 23)) rfl ?_
            refine a_iload_n (pc := 347) hG 0 rfl dX12_line_347 rfl ?_
            refine a_iadd (pc := 348) hG dX12_line_348 ?_
            refine a_cvI (pc := 349) hG (As := [.int ((nI 23) + v24)]) (st := []) sm_0 cl_X12 mk_X12_fresh t_1798 (by omega) (fun z hz => c_M_fresh F ((nI 23) + v24) _  z hz) rfl (Nat.le_of_ble_eq_true rfl) hd dX12_line_349 (fun r27 h26 hd => ?_)
            refine a_if_eq (pc := 352) hG (tgt := 397) hd dX12_line_352 (by decide) (fun hd => ?_) (fun hd => ?_)
            · refine a_iconst (pc := 397) hG dX12_line_397 (v := (nI 0)) rfl ?_
              exact a_zret (pc := 398) hG hd dX12_line_398
            refine a_aload_n (pc := 355) hG 1 rfl dX12_line_355 rfl ?_
            refine a_bipush (pc := 356) hG dX12_line_356 (v := (nI 49)) rfl ?_
            refine a_iload_n (pc := 358) hG 0 rfl dX12_line_358 rfl ?_
            refine a_iadd (pc := 359) hG dX12_line_359 ?_
            refine a_iconst (pc := 360) hG dX12_line_360 (v := (nI 0)) rfl ?_
            refine a_bipush (pc := 361) hG dX12_line_361 (v := (nI 20)) rfl ?_
            refine a_cvI (pc := 363) hG (As := [.int ((nI 49) + v24), .int (nI 0), .int (nI 20)]) (st := []) sm_0 cl_X12 mk_X12_puts t_1787 (by omega) (fun z hz => c_M_puts F ((nI 49) + v24) (nI 0) (nI 20) _  z hz) rfl (Nat.le_of_ble_eq_true rfl) hd dX12_line_363 (fun r29 h28 hd => ?_)
            refine a_if_eq (pc := 366) hG (tgt := 397) hd dX12_line_366 (by decide) (fun hd => ?_) (fun hd => ?_)
            · refine a_iconst (pc := 397) hG dX12_line_397 (v := (nI 0)) rfl ?_
              exact a_zret (pc := 398) hG hd dX12_line_398
            refine a_aload_n (pc := 369) hG 1 rfl dX12_line_369 rfl ?_
            refine a_bipush (pc := 370) hG dX12_line_370 (v := (nI 55)) rfl ?_
            refine a_iload_n (pc := 372) hG 0 rfl dX12_line_372 rfl ?_
            refine a_iadd (pc := 373) hG dX12_line_373 ?_
            refine a_iconst (pc := 374) hG dX12_line_374 (v := (nI 0)) rfl ?_
            refine a_bipush (pc := 375) hG dX12_line_375 (v := (nI 20)) rfl ?_
            refine a_cvI (pc := 377) hG (As := [.int ((nI 55) + v24), .int (nI 0), .int (nI 20)]) (st := []) sm_0 cl_X12 mk_X12_puts t_1787 (by omega) (fun z hz => c_M_puts F ((nI 55) + v24) (nI 0) (nI 20) _  z hz) rfl (Nat.le_of_ble_eq_true rfl) hd dX12_line_377 (fun r31 h30 hd => ?_)
            refine a_if_eq (pc := 380) hG (tgt := 397) hd dX12_line_380 (by decide) (fun hd => ?_) (fun hd => ?_)
            · refine a_iconst (pc := 397) hG dX12_line_397 (v := (nI 0)) rfl ?_
              exact a_zret (pc := 398) hG hd dX12_line_398
            refine a_aload_n (pc := 383) hG 1 rfl dX12_line_383 rfl ?_
            refine a_bipush (pc := 384) hG dX12_line_384 (v := (nI 61)) rfl ?_
            refine a_iload_n (pc := 386) hG 0 rfl dX12_line_386 rfl ?_
            refine a_iadd (pc := 387) hG dX12_line_387 ?_
            refine a_iconst (pc := 388) hG dX12_line_388 (v := (nI 0)) rfl ?_
            refine a_bipush (pc := 389) hG dX12_line_389 (v := (nI 20)) rfl ?_
            refine a_cvI (pc := 391) hG (As := [.int ((nI 61) + v24), .int (nI 0), .int (nI 20)]) (st := []) sm_0 cl_X12 mk_X12_puts t_1787 (by omega) (fun z hz => c_M_puts F ((nI 61) + v24) (nI 0) (nI 20) _  z hz) rfl (Nat.le_of_ble_eq_true rfl) hd dX12_line_391 (fun r33 h32 hd => ?_)
            refine a_if_ne (pc := 394) hG (tgt := 399) hd dX12_line_394 (by decide) (fun hd => ?_) (fun hd => ?_)
            · refine a_aload_n (pc := 399) hG 1 rfl dX12_line_399 rfl ?_
              refine a_getR (pc := 400) hG sm_0 cl_X12 ok_X12 7 (by decide) rfl t_1616 dX12_line_400 ?_
              refine a_iconst (pc := 403) hG dX12_line_403 (v := (nI 1)) rfl ?_
              refine a_dup2 (pc := 404) hG dX12_line_404 rfl rfl ?_
              refine a_iald (pc := 405) hG sm_3 hd dX12_line_405 (fun hd => ?_)
              refine a_iconst (pc := 406) hG dX12_line_406 (v := (nI 1)) rfl ?_
              refine a_iadd (pc := 407) hG dX12_line_407 ?_
              refine a_iast (pc := 408) hG sm_3 hd dX12_line_408 (fun h34 hd => ?_)
              refine a_iconst (pc := 409) hG dX12_line_409 (v := (nI 1)) rfl ?_
              exact a_zret (pc := 410) hG hd dX12_line_410
            refine a_iconst (pc := 397) hG dX12_line_397 (v := (nI 0)) rfl ?_
            exact a_zret (pc := 398) hG hd dX12_line_398
          refine a_aload_n (pc := 334) hG 1 rfl dX12_line_334 rfl ?_
          refine a_iconst (pc := 335) hG dX12_line_335 (v := (nI 4)) rfl ?_
          refine a_cvI (pc := 336) hG (As := [.int (nI 4)]) (st := []) sm_0 cl_X12 mk_X12_bad t_1783 (by omega) (fun z hz => c_M_bad (nI 4) _  z hz) rfl (Nat.le_of_ble_eq_true rfl) hd dX12_line_336 (fun r36 h35 hd => ?_)
          exact a_zret (pc := 339) hG hd dX12_line_339
        refine a_aload_n (pc := 208) hG 0 rfl dX12_line_208 rfl ?_
        refine a_cvN (pc := 209) hG (As := []) (st := []) sm_0 cl_X12 mk_X12_next t_1754 (by omega) (fun z hz => c_M_next F  _  z hz) rfl (Nat.le_of_ble_eq_true rfl) hd dX12_line_209 (fun _ h37 hd => ?_)
        refine a_aload_n (pc := 212) hG 0 rfl dX12_line_212 rfl ?_
        refine a_bipush (pc := 213) hG dX12_line_213 (v := (nI 17)) rfl ?_
        refine a_aload_n (pc := 215) hG 0 rfl dX12_line_215 rfl ?_
        refine a_getR (pc := 216) hG sm_0 cl_X12 ok_X12 7 (by decide) rfl t_1616 dX12_line_216 ?_
        refine a_iconst (pc := 219) hG dX12_line_219 (v := (nI 0)) rfl ?_
        refine a_iald (pc := 220) hG sm_3 hd dX12_line_220 (fun hd => ?_)
        refine a_cvI (pc := 221) hG (As := [.int (nI 17), .int (h37.1 3 (nI 0).toNatClampNeg)]) (st := []) sm_0 cl_X12 mk_X12_looksAt t_1810 (by omega) (fun z hz => c_M_looksAt F (nI 17) (h37.1 3 (nI 0).toNatClampNeg) _  z hz) rfl (Nat.le_of_ble_eq_true rfl) hd dX12_line_221 (fun r39 h38 hd => ?_)
        refine a_if_ne (pc := 224) hG (tgt := 229) hd dX12_line_224 (by decide) (fun hd => ?_) (fun hd => ?_)
        · refine a_aload_n (pc := 229) hG 0 rfl dX12_line_229 rfl ?_
          refine a_getI (pc := 230) hG sm_0 cl_X12 ok_X12 18 (by decide) rfl t_1627 dX12_line_230 ?_
          refine a_istore_nN (pc := 233) hG hd dX12_line_233 rfl (by decide) (lf := fun x => [(1, .int x), (0, .ref (ad 0))]) (fun _ => rfl) (fun v40 hd => ?_)
          refine a_aload_n (pc := 234) hG 1 rfl dX12_line_234 rfl ?_
          refine a_getR (pc := 235) hG sm_0 cl_X12 ok_X12 7 (by decide) rfl t_1616 dX12_line_235 ?_
          refine a_bipush (pc := 238) hG dX12_line_238 (v := (nI 43)) rfl ?_
          refine a_iload_n (pc := 240) hG 0 rfl dX12_line_240 rfl ?_
          refine a_iadd (pc := 241) hG dX12_line_241 ?_
          refine a_iald (pc := 242) hG sm_3 hd dX12_line_242 (fun hd => ?_)
          refine a_iconst (pc := 243) hG dX12_line_243 (v := (nI 1)) rfl ?_
          refine a_ic_ne (pc := 244) hG (tgt := 253) hd dX12_line_244 (by decide) (fun hd => ?_) (fun hd => ?_)
          · refine a_aload_n (pc := 253) hG 1 rfl dX12_line_253 rfl ?_
            refine a_cvN (pc := 254) hG (As := []) (st := []) sm_0 cl_X12 mk_X12_next t_1754 (by omega) (fun z hz => c_M_next F  _  z hz) rfl (Nat.le_of_ble_eq_true rfl) hd dX12_line_254 (fun _ h41 hd => ?_)
            refine a_aload_n (pc := 257) hG 1 rfl dX12_line_257 rfl ?_
            refine a_getR (pc := 258) hG sm_0 cl_X12 ok_X12 7 (by decide) rfl t_1616 dX12_line_258 ?_
            refine a_bipush (pc := 261) hG dX12_line_261 (v := (nI 43)) rfl ?_
            refine a_iload_n (pc := 263) hG 0 rfl dX12_line_263 rfl ?_
            refine a_iadd (pc := 264) hG dX12_line_264 ?_
            refine a_iconst (pc := 265) hG dX12_line_265 (v := (nI 1)) rfl ?_
            refine a_iast (pc := 266) hG sm_3 hd dX12_line_266 (fun h42 hd => ?_)
            refine a_aload_n (pc := 267) hG 1 rfl dX12_line_267 rfl ?_
            refine a_getR (pc := 268) hG sm_0 cl_X12 ok_X12 7 (by decide) rfl t_1616 dX12_line_268 ?_
            refine a_iconst (pc := 271) hG dX12_line_271 (v := (nI 3)) rfl ?_
            refine a_dup2 (pc := 272) hG dX12_line_272 rfl rfl ?_
            refine a_iald (pc := 273) hG sm_3 hd dX12_line_273 (fun hd => ?_)
            refine a_iconst (pc := 274) hG dX12_line_274 (v := (nI 1)) rfl ?_
            refine a_iadd (pc := 275) hG dX12_line_275 ?_
            refine a_iast (pc := 276) hG sm_3 hd dX12_line_276 (fun h43 hd => ?_)
            refine a_aload_n (pc := 277) hG 1 rfl dX12_line_277 rfl ?_
            refine a_bipush (pc := 278) hG dX12_line_278 (v := (nI 31)) rfl ?_
            refine a_iload_n (pc := 280) hG 0 rfl dX12_line_280 rfl ?_
            refine a_iadd (pc := 281) hG dX12_line_281 ?_
            refine a_iconst (pc := 282) hG dX12_line_282 (v := (nI 0)) rfl ?_
            refine a_bipush (pc := 283) hG dX12_line_283 (v := (nI 99)) rfl ?_
            refine a_cvI (pc := 285) hG (As := [.int ((nI 31) + v40), .int (nI 0), .int (nI 99)]) (st := []) sm_0 cl_X12 mk_X12_puts t_1787 (by omega) (fun z hz => c_M_puts F ((nI 31) + v40) (nI 0) (nI 99) _  z hz) rfl (Nat.le_of_ble_eq_true rfl) hd dX12_line_285 (fun r45 h44 hd => ?_)
            refine a_if_eq (pc := 288) hG (tgt := 309) hd dX12_line_288 (by decide) (fun hd => ?_) (fun hd => ?_)
            · refine a_iconst (pc := 309) hG dX12_line_309 (v := (nI 0)) rfl ?_
              exact a_zret (pc := 310) hG hd dX12_line_310
            refine a_aload_n (pc := 291) hG 1 rfl dX12_line_291 rfl ?_
            refine a_bipush (pc := 292) hG dX12_line_292 (v := (nI 37)) rfl ?_
            refine a_iload_n (pc := 294) hG 0 rfl dX12_line_294 rfl ?_
            refine a_iadd (pc := 295) hG dX12_line_295 ?_
            refine a_iconst (pc := 296) hG dX12_line_296 (v := (nI 1)) rfl ?_
            refine a_bipush (pc := 297) hG dX12_line_297 (v := (nI 99)) rfl ?_
            refine a_cvI (pc := 299) hG (As := [.int ((nI 37) + v40), .int (nI 1), .int (nI 99)]) (st := []) sm_0 cl_X12 mk_X12_puts t_1787 (by omega) (fun z hz => c_M_puts F ((nI 37) + v40) (nI 1) (nI 99) _  z hz) rfl (Nat.le_of_ble_eq_true rfl) hd dX12_line_299 (fun r47 h46 hd => ?_)
            refine a_if_eq (pc := 302) hG (tgt := 309) hd dX12_line_302 (by decide) (fun hd => ?_) (fun hd => ?_)
            · refine a_iconst (pc := 309) hG dX12_line_309 (v := (nI 0)) rfl ?_
              exact a_zret (pc := 310) hG hd dX12_line_310
            refine a_iconst (pc := 305) hG dX12_line_305 (v := (nI 1)) rfl ?_
            refine a_goto (pc := 306) hG (tgt := 310) dX12_line_306 (by decide) ?_
            exact a_zret (pc := 310) hG hd dX12_line_310
          refine a_aload_n (pc := 247) hG 1 rfl dX12_line_247 rfl ?_
          refine a_iconst (pc := 248) hG dX12_line_248 (v := (nI 3)) rfl ?_
          refine a_cvI (pc := 249) hG (As := [.int (nI 3)]) (st := []) sm_0 cl_X12 mk_X12_bad t_1783 (by omega) (fun z hz => c_M_bad (nI 3) _  z hz) rfl (Nat.le_of_ble_eq_true rfl) hd dX12_line_249 (fun r49 h48 hd => ?_)
          exact a_zret (pc := 252) hG hd dX12_line_252
        refine a_iconst (pc := 227) hG dX12_line_227 (v := (nI 0)) rfl ?_
        exact a_zret (pc := 228) hG hd dX12_line_228
      refine a_aload_n (pc := 94) hG 0 rfl dX12_line_94 rfl ?_
      refine a_getR (pc := 95) hG sm_0 cl_X12 ok_X12 7 (by decide) rfl t_1616 dX12_line_95 ?_
      refine a_iconst (pc := 98) hG dX12_line_98 (v := (nI 0)) rfl ?_
      refine a_iald (pc := 99) hG sm_3 hd dX12_line_99 (fun hd => ?_)
      refine a_istore_nN (pc := 100) hG hd dX12_line_100 rfl (by decide) (lf := fun x => [(1, .int x), (0, .ref (ad 0))]) (fun _ => rfl) (fun v50 hd => ?_)
      refine a_iload_n (pc := 101) hG 0 rfl dX12_line_101 rfl ?_
      refine a_bipush (pc := 102) hG dX12_line_102 (v := (nI 6)) rfl ?_
      refine a_ic_ne (pc := 104) hG (tgt := 113) hd dX12_line_104 (by decide) (fun hd => ?_) (fun hd => ?_)
      · refine a_aload_n (pc := 113) hG 1 rfl dX12_line_113 rfl ?_
        refine a_cvN (pc := 114) hG (As := []) (st := []) sm_0 cl_X12 mk_X12_next t_1754 (by omega) (fun z hz => c_M_next F  _  z hz) rfl (Nat.le_of_ble_eq_true rfl) hd dX12_line_114 (fun _ h51 hd => ?_)
        refine a_aload_n (pc := 117) hG 1 rfl dX12_line_117 rfl ?_
        refine a_bipush (pc := 118) hG dX12_line_118 (v := (nI 17)) rfl ?_
        refine a_iload_n (pc := 120) hG 0 rfl dX12_line_120 rfl ?_
        refine a_iadd (pc := 121) hG dX12_line_121 ?_
        refine a_cvI (pc := 122) hG (As := [.int ((nI 17) + v50)]) (st := []) sm_0 cl_X12 mk_X12_fresh t_1798 (by omega) (fun z hz => c_M_fresh F ((nI 17) + v50) _  z hz) rfl (Nat.le_of_ble_eq_true rfl) hd dX12_line_122 (fun r53 h52 hd => ?_)
        refine a_if_eq (pc := 125) hG (tgt := 184) hd dX12_line_125 (by decide) (fun hd => ?_) (fun hd => ?_)
        · refine a_iconst (pc := 184) hG dX12_line_184 (v := (nI 0)) rfl ?_
          exact a_zret (pc := 185) hG hd dX12_line_185
        refine a_aload_n (pc := 128) hG 1 rfl dX12_line_128 rfl ?_
        refine a_bipush (pc := 129) hG dX12_line_129 (v := (nI 7)) rfl ?_
        refine a_iload_n (pc := 131) hG 0 rfl dX12_line_131 rfl ?_
        refine a_iadd (pc := 132) hG dX12_line_132 ?_
        refine a_iconst (pc := 133) hG dX12_line_133 (v := (nI 0)) rfl ?_
        refine a_bipush (pc := 134) hG dX12_line_134 (v := (nI 99)) rfl ?_
        refine a_cvI (pc := 136) hG (As := [.int ((nI 7) + v50), .int (nI 0), .int (nI 99)]) (st := []) sm_0 cl_X12 mk_X12_puts t_1787 (by omega) (fun z hz => c_M_puts F ((nI 7) + v50) (nI 0) (nI 99) _  z hz) rfl (Nat.le_of_ble_eq_true rfl) hd dX12_line_136 (fun r55 h54 hd => ?_)
        refine a_if_eq (pc := 139) hG (tgt := 184) hd dX12_line_139 (by decide) (fun hd => ?_) (fun hd => ?_)
        · refine a_iconst (pc := 184) hG dX12_line_184 (v := (nI 0)) rfl ?_
          exact a_zret (pc := 185) hG hd dX12_line_185
        refine a_aload_n (pc := 142) hG 1 rfl dX12_line_142 rfl ?_
        refine a_bipush (pc := 143) hG dX12_line_143 (v := (nI 13)) rfl ?_
        refine a_iload_n (pc := 145) hG 0 rfl dX12_line_145 rfl ?_
        refine a_iadd (pc := 146) hG dX12_line_146 ?_
        refine a_iconst (pc := 147) hG dX12_line_147 (v := (nI 1)) rfl ?_
        refine a_bipush (pc := 148) hG dX12_line_148 (v := (nI 99)) rfl ?_
        refine a_cvI (pc := 150) hG (As := [.int ((nI 13) + v50), .int (nI 1), .int (nI 99)]) (st := []) sm_0 cl_X12 mk_X12_puts t_1787 (by omega) (fun z hz => c_M_puts F ((nI 13) + v50) (nI 1) (nI 99) _  z hz) rfl (Nat.le_of_ble_eq_true rfl) hd dX12_line_150 (fun r57 h56 hd => ?_)
        refine a_if_eq (pc := 153) hG (tgt := 184) hd dX12_line_153 (by decide) (fun hd => ?_) (fun hd => ?_)
        · refine a_iconst (pc := 184) hG dX12_line_184 (v := (nI 0)) rfl ?_
          exact a_zret (pc := 185) hG hd dX12_line_185
        refine a_aload_n (pc := 156) hG 1 rfl dX12_line_156 rfl ?_
        refine a_bipush (pc := 157) hG dX12_line_157 (v := (nI 19)) rfl ?_
        refine a_iload_n (pc := 159) hG 0 rfl dX12_line_159 rfl ?_
        refine a_iadd (pc := 160) hG dX12_line_160 ?_
        refine a_iconst (pc := 161) hG dX12_line_161 (v := (nI 1)) rfl ?_
        refine a_bipush (pc := 162) hG dX12_line_162 (v := (nI 99)) rfl ?_
        refine a_cvI (pc := 164) hG (As := [.int ((nI 19) + v50), .int (nI 1), .int (nI 99)]) (st := []) sm_0 cl_X12 mk_X12_puts t_1787 (by omega) (fun z hz => c_M_puts F ((nI 19) + v50) (nI 1) (nI 99) _  z hz) rfl (Nat.le_of_ble_eq_true rfl) hd dX12_line_164 (fun r59 h58 hd => ?_)
        refine a_if_eq (pc := 167) hG (tgt := 184) hd dX12_line_167 (by decide) (fun hd => ?_) (fun hd => ?_)
        · refine a_iconst (pc := 184) hG dX12_line_184 (v := (nI 0)) rfl ?_
          exact a_zret (pc := 185) hG hd dX12_line_185
        refine a_aload_n (pc := 170) hG 1 rfl dX12_line_170 rfl ?_
        refine a_bipush (pc := 171) hG dX12_line_171 (v := (nI 25)) rfl ?_
        refine a_iload_n (pc := 173) hG 0 rfl dX12_line_173 rfl ?_
        refine a_iadd (pc := 174) hG dX12_line_174 ?_
        refine a_iconst (pc := 175) hG dX12_line_175 (v := (nI 1)) rfl ?_
        refine a_bipush (pc := 176) hG dX12_line_176 (v := (nI 20)) rfl ?_
        refine a_cvI (pc := 178) hG (As := [.int ((nI 25) + v50), .int (nI 1), .int (nI 20)]) (st := []) sm_0 cl_X12 mk_X12_puts t_1787 (by omega) (fun z hz => c_M_puts F ((nI 25) + v50) (nI 1) (nI 20) _  z hz) rfl (Nat.le_of_ble_eq_true rfl) hd dX12_line_178 (fun r61 h60 hd => ?_)
        refine a_if_ne (pc := 181) hG (tgt := 186) hd dX12_line_181 (by decide) (fun hd => ?_) (fun hd => ?_)
        · refine a_aload_n (pc := 186) hG 1 rfl dX12_line_186 rfl ?_
          refine a_getR (pc := 187) hG sm_0 cl_X12 ok_X12 7 (by decide) rfl t_1616 dX12_line_187 ?_
          refine a_iconst (pc := 190) hG dX12_line_190 (v := (nI 0)) rfl ?_
          refine a_dup2 (pc := 191) hG dX12_line_191 rfl rfl ?_
          refine a_iald (pc := 192) hG sm_3 hd dX12_line_192 (fun hd => ?_)
          refine a_iconst (pc := 193) hG dX12_line_193 (v := (nI 1)) rfl ?_
          refine a_iadd (pc := 194) hG dX12_line_194 ?_
          refine a_iast (pc := 195) hG sm_3 hd dX12_line_195 (fun h62 hd => ?_)
          refine a_iconst (pc := 196) hG dX12_line_196 (v := (nI 1)) rfl ?_
          exact a_zret (pc := 197) hG hd dX12_line_197
        refine a_iconst (pc := 184) hG dX12_line_184 (v := (nI 0)) rfl ?_
        exact a_zret (pc := 185) hG hd dX12_line_185
      refine a_aload_n (pc := 107) hG 1 rfl dX12_line_107 rfl ?_
      refine a_iconst (pc := 108) hG dX12_line_108 (v := (nI 4)) rfl ?_
      refine a_cvI (pc := 109) hG (As := [.int (nI 4)]) (st := []) sm_0 cl_X12 mk_X12_bad t_1783 (by omega) (fun z hz => c_M_bad (nI 4) _  z hz) rfl (Nat.le_of_ble_eq_true rfl) hd dX12_line_109 (fun r64 h63 hd => ?_)
      exact a_zret (pc := 112) hG hd dX12_line_112
    refine a_aload_n (pc := 57) hG 0 rfl dX12_line_57 rfl ?_
    refine a_iconst (pc := 58) hG dX12_line_58 (v := (nI 1)) rfl ?_
    refine a_cvI (pc := 59) hG (As := [.int (nI 1)]) (st := []) sm_0 cl_X12 mk_X12_isOnce t_1776 (by omega) (fun z hz => c_M_isOnce F (nI 1) _  z hz) rfl (Nat.le_of_ble_eq_true rfl) hd dX12_line_59 (fun r66 h65 hd => ?_)
    refine a_if_eq (pc := 62) hG (tgt := 82) hd dX12_line_62 (by decide) (fun hd => ?_) (fun hd => ?_)
    · refine a_iconst (pc := 82) hG dX12_line_82 (v := (nI 0)) rfl ?_
      exact a_zret (pc := 83) hG hd dX12_line_83
    refine a_aload_n (pc := 65) hG 0 rfl dX12_line_65 rfl ?_
    refine a_bipush (pc := 66) hG dX12_line_66 (v := (nI 6)) rfl ?_
    refine a_iconst (pc := 68) hG dX12_line_68 (v := (nI 0)) rfl ?_
    refine a_sipush (pc := 69) hG dX12_line_69 (v := (nI 999)) rfl ?_
    refine a_cvI (pc := 72) hG (As := [.int (nI 6), .int (nI 0), .int (nI 999)]) (st := []) sm_0 cl_X12 mk_X12_puts t_1787 (by omega) (fun z hz => c_M_puts F (nI 6) (nI 0) (nI 999) _  z hz) rfl (Nat.le_of_ble_eq_true rfl) hd dX12_line_72 (fun r68 h67 hd => ?_)
    refine a_if_eq (pc := 75) hG (tgt := 82) hd dX12_line_75 (by decide) (fun hd => ?_) (fun hd => ?_)
    · refine a_iconst (pc := 82) hG dX12_line_82 (v := (nI 0)) rfl ?_
      exact a_zret (pc := 83) hG hd dX12_line_83
    refine a_iconst (pc := 78) hG dX12_line_78 (v := (nI 1)) rfl ?_
    refine a_goto (pc := 79) hG (tgt := 83) dX12_line_79 (by decide) ?_
    exact a_zret (pc := 83) hG hd dX12_line_83
  refine a_aload_n (pc := 10) hG 0 rfl dX12_line_10 rfl ?_
  refine a_iconst (pc := 11) hG dX12_line_11 (v := (nI 0)) rfl ?_
  refine a_cvI (pc := 12) hG (As := [.int (nI 0)]) (st := []) sm_0 cl_X12 mk_X12_isOnce t_1776 (by omega) (fun z hz => c_M_isOnce F (nI 0) _  z hz) rfl (Nat.le_of_ble_eq_true rfl) hd dX12_line_12 (fun r70 h69 hd => ?_)
  refine a_if_eq (pc := 15) hG (tgt := 29) hd dX12_line_15 (by decide) (fun hd => ?_) (fun hd => ?_)
  · refine a_iconst (pc := 29) hG dX12_line_29 (v := (nI 0)) rfl ?_
    exact a_zret (pc := 30) hG hd dX12_line_30
  refine a_aload_n (pc := 18) hG 0 rfl dX12_line_18 rfl ?_
  refine a_iconst (pc := 19) hG dX12_line_19 (v := (nI 4)) rfl ?_
  refine a_iconst (pc := 20) hG dX12_line_20 (v := (nI 1)) rfl ?_
  refine a_bipush (pc := 21) hG dX12_line_21 (v := (nI 98)) rfl ?_
  refine a_cvI (pc := 23) hG (As := [.int (nI 4), .int (nI 1), .int (nI 98)]) (st := []) sm_0 cl_X12 mk_X12_puts t_1787 (by omega) (fun z hz => c_M_puts F (nI 4) (nI 1) (nI 98) _  z hz) rfl (Nat.le_of_ble_eq_true rfl) hd dX12_line_23 (fun r72 h71 hd => ?_)
  refine a_if_ne (pc := 26) hG (tgt := 31) hd dX12_line_26 (by decide) (fun hd => ?_) (fun hd => ?_)
  · refine a_aload_n (pc := 31) hG 0 rfl dX12_line_31 rfl ?_
    refine a_iconst (pc := 32) hG dX12_line_32 (v := (nI 5)) rfl ?_
    refine a_aload_n (pc := 33) hG 0 rfl dX12_line_33 rfl ?_
    refine a_getR (pc := 34) hG sm_0 cl_X12 ok_X12 7 (by decide) rfl t_1616 dX12_line_34 ?_
    refine a_iconst (pc := 37) hG dX12_line_37 (v := (nI 4)) rfl ?_
    refine a_iald (pc := 38) hG sm_3 hd dX12_line_38 (fun hd => ?_)
    refine a_iconst (pc := 39) hG dX12_line_39 (v := (nI 1)) rfl ?_
    refine a_iadd (pc := 40) hG dX12_line_40 ?_
    refine a_bipush (pc := 41) hG dX12_line_41 (v := (nI 99)) rfl ?_
    refine a_cvI (pc := 43) hG (As := [.int (nI 5), .int ((h71.1 3 (nI 4).toNatClampNeg) + (nI 1)), .int (nI 99)]) (st := []) sm_0 cl_X12 mk_X12_puts t_1787 (by omega) (fun z hz => c_M_puts F (nI 5) ((h71.1 3 (nI 4).toNatClampNeg) + (nI 1)) (nI 99) _  z hz) rfl (Nat.le_of_ble_eq_true rfl) hd dX12_line_43 (fun r74 h73 hd => ?_)
    exact a_zret (pc := 46) hG hd dX12_line_46
  refine a_iconst (pc := 29) hG dX12_line_29 (v := (nI 0)) rfl ?_
  exact a_zret (pc := 30) hG hd dX12_line_30
