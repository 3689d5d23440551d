theorem dX0_rememberRow_0 : decode cX0_rememberRow 0 = .ok (.aload_n 0, 1) := by decide +kernel
theorem dX0_rememberRow_1 : decode cX0_rememberRow 1 = .ok (.getfield 24, 3) := by decide +kernel
theorem dX0_rememberRow_4 : decode cX0_rememberRow 4 = .ok (.bipush 8, 2) := by decide +kernel
theorem dX0_rememberRow_6 : decode cX0_rememberRow 6 = .ok (.if_icmp .ne 26, 3) := by decide +kernel
theorem dX0_rememberRow_9 : decode cX0_rememberRow 9 = .ok (.aload_n 0, 1) := by decide +kernel
theorem dX0_rememberRow_10 : decode cX0_rememberRow 10 = .ok (.aload_n 0, 1) := by decide +kernel
theorem dX0_rememberRow_11 : decode cX0_rememberRow 11 = .ok (.getfield 20, 3) := by decide +kernel
theorem dX0_rememberRow_14 : decode cX0_rememberRow 14 = .ok (.iconst 1, 1) := by decide +kernel
theorem dX0_rememberRow_15 : decode cX0_rememberRow 15 = .ok (.iadd, 1) := by decide +kernel
theorem dX0_rememberRow_16 : decode cX0_rememberRow 16 = .ok (.bipush 8, 2) := by decide +kernel
theorem dX0_rememberRow_18 : decode cX0_rememberRow 18 = .ok (.irem, 1) := by decide +kernel
theorem dX0_rememberRow_19 : decode cX0_rememberRow 19 = .ok (.putfield 20, 3) := by decide +kernel
theorem dX0_rememberRow_22 : decode cX0_rememberRow 22 = .ok (.aload_n 0, 1) := by decide +kernel
theorem dX0_rememberRow_23 : decode cX0_rememberRow 23 = .ok (.dup, 1) := by decide +kernel
theorem dX0_rememberRow_24 : decode cX0_rememberRow 24 = .ok (.getfield 24, 3) := by decide +kernel
theorem dX0_rememberRow_27 : decode cX0_rememberRow 27 = .ok (.iconst 1, 1) := by decide +kernel
theorem dX0_rememberRow_28 : decode cX0_rememberRow 28 = .ok (.isub, 1) := by decide +kernel
theorem dX0_rememberRow_29 : decode cX0_rememberRow 29 = .ok (.putfield 24, 3) := by decide +kernel
theorem dX0_rememberRow_32 : decode cX0_rememberRow 32 = .ok (.aload_n 1, 1) := by decide +kernel
theorem dX0_rememberRow_33 : decode cX0_rememberRow 33 = .ok (.arraylength, 1) := by decide +kernel
theorem dX0_rememberRow_34 : decode cX0_rememberRow 34 = .ok (.aload_n 0, 1) := by decide +kernel
theorem dX0_rememberRow_35 : decode cX0_rememberRow 35 = .ok (.getfield 9, 3) := by decide +kernel
theorem dX0_rememberRow_38 : decode cX0_rememberRow 38 = .ok (.arraylength, 1) := by decide +kernel
theorem dX0_rememberRow_39 : decode cX0_rememberRow 39 = .ok (.if_icmp .ne 41, 3) := by decide +kernel
theorem dX0_rememberRow_42 : decode cX0_rememberRow 42 = .ok (.aload_n 1, 1) := by decide +kernel
theorem dX0_rememberRow_43 : decode cX0_rememberRow 43 = .ok (.iconst 0, 1) := by decide +kernel
theorem dX0_rememberRow_44 : decode cX0_rememberRow 44 = .ok (.aload_n 0, 1) := by decide +kernel
theorem dX0_rememberRow_45 : decode cX0_rememberRow 45 = .ok (.getfield 17, 3) := by decide +kernel
theorem dX0_rememberRow_48 : decode cX0_rememberRow 48 = .ok (.aload_n 0, 1) := by decide +kernel
theorem dX0_rememberRow_49 : decode cX0_rememberRow 49 = .ok (.getfield 20, 3) := by decide +kernel
theorem dX0_rememberRow_52 : decode cX0_rememberRow 52 = .ok (.aload_n 0, 1) := by decide +kernel
theorem dX0_rememberRow_53 : decode cX0_rememberRow 53 = .ok (.getfield 24, 3) := by decide +kernel
theorem dX0_rememberRow_56 : decode cX0_rememberRow 56 = .ok (.iadd, 1) := by decide +kernel
theorem dX0_rememberRow_57 : decode cX0_rememberRow 57 = .ok (.bipush 8, 2) := by decide +kernel
theorem dX0_rememberRow_59 : decode cX0_rememberRow 59 = .ok (.irem, 1) := by decide +kernel
theorem dX0_rememberRow_60 : decode cX0_rememberRow 60 = .ok (.aaload, 1) := by decide +kernel
theorem dX0_rememberRow_61 : decode cX0_rememberRow 61 = .ok (.iconst 0, 1) := by decide +kernel
theorem dX0_rememberRow_62 : decode cX0_rememberRow 62 = .ok (.aload_n 0, 1) := by decide +kernel
theorem dX0_rememberRow_63 : decode cX0_rememberRow 63 = .ok (.getfield 9, 3) := by decide +kernel
theorem dX0_rememberRow_66 : decode cX0_rememberRow 66 = .ok (.arraylength, 1) := by decide +kernel
theorem dX0_rememberRow_67 : decode cX0_rememberRow 67 = .ok (.invokestatic 62, 3) := by decide +kernel
theorem dX0_rememberRow_70 : decode cX0_rememberRow 70 = .ok (.aload_n 0, 1) := by decide +kernel
theorem dX0_rememberRow_71 : decode cX0_rememberRow 71 = .ok (.dup, 1) := by decide +kernel
theorem dX0_rememberRow_72 : decode cX0_rememberRow 72 = .ok (.getfield 24, 3) := by decide +kernel
theorem dX0_rememberRow_75 : decode cX0_rememberRow 75 = .ok (.iconst 1, 1) := by decide +kernel
theorem dX0_rememberRow_76 : decode cX0_rememberRow 76 = .ok (.iadd, 1) := by decide +kernel
theorem dX0_rememberRow_77 : decode cX0_rememberRow 77 = .ok (.putfield 24, 3) := by decide +kernel
theorem dX0_rememberRow_80 : decode cX0_rememberRow 80 = .ok (.return_, 1) := by decide +kernel
set_option maxHeartbeats 4000000 in
theorem c_Desk_rememberRow {ad wad : Nat → Nat} (j : Nat) (h : HS) (hj : SHc[j]? = some (.inl (0, 1, 91))) (q : Unit × HS) (hd : f_Desk_rememberRow j h = some q) : Ctr SHc ad wad yX0_rememberRow cX0_rememberRow 2 none 2 [.ref (ad 20), .ref (ad j)] h (none, q.2) := by
  refine enter (own := RX0) (lv := [(0, .ref (ad 20)), (1, .ref (ad j))]) (by decide +kernel) rfl (Nat.le_of_ble_eq_true rfl) rfl (fun Γ hG => ?_)
  unfold f_Desk_rememberRow at hd
  refine a_aload_n (pc := 0) hG 0 rfl dX0_rememberRow_0 rfl ?_
  refine a_getI (pc := 1) hG sc_20 cl_X0 ok_X0 4 (by decide) rfl t_270 dX0_rememberRow_1 ?_
  refine a_bipush (pc := 4) hG dX0_rememberRow_4 (v := (nI 8)) rfl ?_
  refine a_join hd (Q := fun J : HS → Option (Unit × HS) => ∀  (h2 : HS), J  h2 = some q → AW SHc ad 2 (none, q.2) Γ 32 [(0, .ref (ad 20)), (1, .ref (ad j))] [] h2) (fun  h2 hd => ?_) (fun J1 hJ1 hd => ?_)
  · refine a_aload_n (pc := 32) hG 1 rfl dX0_rememberRow_32 rfl ?_
    refine a_alenI (pc := 33) hG hj (fun _ => rfl) (v := nI 91) rfl dX0_rememberRow_33 ?_
    refine a_aload_n (pc := 34) hG 0 rfl dX0_rememberRow_34 rfl ?_
    refine a_getR (pc := 35) hG sc_20 cl_X0 ok_X0 1 (by decide) rfl t_267 dX0_rememberRow_35 ?_
    refine a_alenI (pc := 38) hG sc_21 (fun _ => rfl) (v := nI 91) rfl dX0_rememberRow_38 ?_
    refine a_ic_ne (pc := 39) hG (tgt := 80) hd dX0_rememberRow_39 (by decide) (fun hd => ?_) (fun hd => ?_)
    · exact a_vret (pc := 80) hG hd dX0_rememberRow_80
    refine a_aload_n (pc := 42) hG 1 rfl dX0_rememberRow_42 rfl ?_
    refine a_iconst (pc := 43) hG dX0_rememberRow_43 (v := (nI 0)) rfl ?_
    refine a_aload_n (pc := 44) hG 0 rfl dX0_rememberRow_44 rfl ?_
    refine a_getR (pc := 45) hG sc_20 cl_X0 ok_X0 2 (by decide) rfl t_268 dX0_rememberRow_45 ?_
    refine a_aload_n (pc := 48) hG 0 rfl dX0_rememberRow_48 rfl ?_
    refine a_getI (pc := 49) hG sc_20 cl_X0 ok_X0 3 (by decide) rfl t_269 dX0_rememberRow_49 ?_
    refine a_aload_n (pc := 52) hG 0 rfl dX0_rememberRow_52 rfl ?_
    refine a_getI (pc := 53) hG sc_20 cl_X0 ok_X0 4 (by decide) rfl t_270 dX0_rememberRow_53 ?_
    refine a_iadd (pc := 56) hG dX0_rememberRow_56 ?_
    refine a_bipush (pc := 57) hG dX0_rememberRow_57 (v := (nI 8)) rfl ?_
    refine a_irem (pc := 59) hG hd dX0_rememberRow_59 (fun hd => ?_)
    refine a_aldR (pc := 60) hG sc_22 hd dX0_rememberRow_60 (fun hj3 hd => ?_)
    refine a_iconst (pc := 61) hG dX0_rememberRow_61 (v := (nI 0)) rfl ?_
    refine a_aload_n (pc := 62) hG 0 rfl dX0_rememberRow_62 rfl ?_
    refine a_getR (pc := 63) hG sc_20 cl_X0 ok_X0 1 (by decide) rfl t_267 dX0_rememberRow_63 ?_
    refine a_alenI (pc := 66) hG sc_21 (fun _ => rfl) (v := nI 91) rfl dX0_rememberRow_66 ?_
    refine a_cpI (pc := 67) hG 91 hj (s_past hj3) rfl (by decide) (by decide) (by decide) t_849 t_764 t_763 t_136 (by omega) (Nat.le_of_ble_eq_true rfl) hd dX0_rememberRow_67 (fun h4 hd => ?_)
    refine a_aload_n (pc := 70) hG 0 rfl dX0_rememberRow_70 rfl ?_
    refine a_dup (pc := 71) hG dX0_rememberRow_71 rfl ?_
    refine a_getI (pc := 72) hG sc_20 cl_X0 ok_X0 4 (by decide) rfl t_270 dX0_rememberRow_72 ?_
    refine a_iconst (pc := 75) hG dX0_rememberRow_75 (v := (nI 1)) rfl ?_
    refine a_iadd (pc := 76) hG dX0_rememberRow_76 ?_
    refine a_putI (pc := 77) hG sc_20 cl_X0 ok_X0 4 (by decide) rfl t_270 rfl (ty := .int) rfl rfl rfl hd dX0_rememberRow_77 (fun h5 hd => ?_)
    exact a_vret (pc := 80) hG hd dX0_rememberRow_80
  refine a_ic_ne (pc := 6) hG (tgt := 32) hd dX0_rememberRow_6 (by decide) (fun hd => ?_) (fun hd => ?_)
  · exact AW.sub [0, 1] rfl (hJ1  _ hd)
  refine a_aload_n (pc := 9) hG 0 rfl dX0_rememberRow_9 rfl ?_
  refine a_aload_n (pc := 10) hG 0 rfl dX0_rememberRow_10 rfl ?_
  refine a_getI (pc := 11) hG sc_20 cl_X0 ok_X0 3 (by decide) rfl t_269 dX0_rememberRow_11 ?_
  refine a_iconst (pc := 14) hG dX0_rememberRow_14 (v := (nI 1)) rfl ?_
  refine a_iadd (pc := 15) hG dX0_rememberRow_15 ?_
  refine a_bipush (pc := 16) hG dX0_rememberRow_16 (v := (nI 8)) rfl ?_
  refine a_irem (pc := 18) hG hd dX0_rememberRow_18 (fun hd => ?_)
  refine a_putI (pc := 19) hG sc_20 cl_X0 ok_X0 3 (by decide) rfl t_269 rfl (ty := .int) rfl rfl rfl hd dX0_rememberRow_19 (fun h6 hd => ?_)
  refine a_aload_n (pc := 22) hG 0 rfl dX0_rememberRow_22 rfl ?_
  refine a_dup (pc := 23) hG dX0_rememberRow_23 rfl ?_
  refine a_getI (pc := 24) hG sc_20 cl_X0 ok_X0 4 (by decide) rfl t_270 dX0_rememberRow_24 ?_
  refine a_iconst (pc := 27) hG dX0_rememberRow_27 (v := (nI 1)) rfl ?_
  refine a_isub (pc := 28) hG dX0_rememberRow_28 ?_
  refine a_putI (pc := 29) hG sc_20 cl_X0 ok_X0 4 (by decide) rfl t_270 rfl (ty := .int) rfl rfl rfl hd dX0_rememberRow_29 (fun h7 hd => ?_)
  exact AW.sub [0, 1] rfl (hJ1  _ hd)
theorem dX0_remember_0 : decode cX0_remember 0 = .ok (.aload_n 0, 1) := by decide +kernel
theorem dX0_remember_1 : decode cX0_remember 1 = .ok (.aload_n 0, 1) := by decide +kernel
theorem dX0_remember_2 : decode cX0_remember 2 = .ok (.getfield 9, 3) := by decide +kernel
theorem dX0_remember_5 : decode cX0_remember 5 = .ok (.invokevirtual 68, 3) := by decide +kernel
theorem dX0_remember_8 : decode cX0_remember 8 = .ok (.return_, 1) := by decide +kernel
set_option maxHeartbeats 4000000 in
theorem c_Desk_remember {ad wad : Nat → Nat}  (h : HS)  (q : Unit × HS) (hd : f_Desk_remember  h = some q) : Ctr SHc ad wad yX0_remember cX0_remember 1 none 3 [.ref (ad 20)] h (none, q.2) := by
  refine enter (own := RX0) (lv := [(0, .ref (ad 20))]) (by decide +kernel) rfl (Nat.le_of_ble_eq_true rfl) rfl (fun Γ hG => ?_)
  unfold f_Desk_remember at hd
  refine a_aload_n (pc := 0) hG 0 rfl dX0_remember_0 rfl ?_
  refine a_aload_n (pc := 1) hG 0 rfl dX0_remember_1 rfl ?_
  refine a_getR (pc := 2) hG sc_20 cl_X0 ok_X0 1 (by decide) rfl t_267 dX0_remember_2 ?_
  refine a_cvN (pc := 5) hG (As := [.ref (ad 21)]) (st := []) sc_20 cl_X0 mk_X0_rememberRow t_845 (by omega) (fun z hz => c_Desk_rememberRow 21 _ sc_21 z hz) rfl (Nat.le_of_ble_eq_true rfl) hd dX0_remember_5 (fun _ h1 hd => ?_)
  exact a_vret (pc := 8) hG hd dX0_remember_8
theorem dX0_doTake_0 : decode cX0_doTake 0 = .ok (.aload_n 0, 1) := by decide +kernel
theorem dX0_doTake_1 : decode cX0_doTake 1 = .ok (.iload_n 2, 1) := by decide +kernel
theorem dX0_doTake_2 : decode cX0_doTake 2 = .ok (.iconst 4, 1) := by decide +kernel
theorem dX0_doTake_3 : decode cX0_doTake 3 = .ok (.iconst 1, 1) := by decide +kernel
theorem dX0_doTake_4 : decode cX0_doTake 4 = .ok (.invokevirtual 41, 3) := by decide +kernel
theorem dX0_doTake_7 : decode cX0_doTake 7 = .ok (.aload_n 0, 1) := by decide +kernel
theorem dX0_doTake_8 : decode cX0_doTake 8 = .ok (.iload_n 2, 1) := by decide +kernel
theorem dX0_doTake_9 : decode cX0_doTake 9 = .ok (.iconst 5, 1) := by decide +kernel
theorem dX0_doTake_10 : decode cX0_doTake 10 = .ok (.iload_n 1, 1) := by decide +kernel
theorem dX0_doTake_11 : decode cX0_doTake 11 = .ok (.invokevirtual 41, 3) := by decide +kernel
theorem dX0_doTake_14 : decode cX0_doTake 14 = .ok (.aload_n 0, 1) := by decide +kernel
theorem dX0_doTake_15 : decode cX0_doTake 15 = .ok (.iload_n 1, 1) := by decide +kernel
theorem dX0_doTake_16 : decode cX0_doTake 16 = .ok (.iconst 2, 1) := by decide +kernel
theorem dX0_doTake_17 : decode cX0_doTake 17 = .ok (.iload_n 2, 1) := by decide +kernel
theorem dX0_doTake_18 : decode cX0_doTake 18 = .ok (.invokevirtual 52, 3) := by decide +kernel
theorem dX0_doTake_21 : decode cX0_doTake 21 = .ok (.return_, 1) := by decide +kernel
set_option maxHeartbeats 4000000 in
theorem c_Desk_doTake {ad wad : Nat → Nat} (a0 : Int32) (a1 : Int32) (h : HS)  (q : Unit × HS) (hd : f_Desk_doTake a0 a1 h = some q) : Ctr SHc ad wad yX0_doTake cX0_doTake 3 none 2 [.ref (ad 20), .int a0, .int a1] h (none, q.2) := by
  refine enter (own := RX0) (lv := [(0, .ref (ad 20)), (1, .int a0), (2, .int a1)]) (by decide +kernel) rfl (Nat.le_of_ble_eq_true rfl) rfl (fun Γ hG => ?_)
  unfold f_Desk_doTake at hd
  refine a_aload_n (pc := 0) hG 0 rfl dX0_doTake_0 rfl ?_
  refine a_iload_n (pc := 1) hG 2 rfl dX0_doTake_1 rfl ?_
  refine a_iconst (pc := 2) hG dX0_doTake_2 (v := (nI 4)) rfl ?_
  refine a_iconst (pc := 3) hG dX0_doTake_3 (v := (nI 1)) rfl ?_
  refine a_cvN (pc := 4) hG (As := [.int a1, .int (nI 4), .int (nI 1)]) (st := []) sc_20 cl_X0 mk_X0_setCause t_445 (by omega) (fun z hz => c_Desk_setCause a1 (nI 4) (nI 1) _  z hz) rfl (Nat.le_of_ble_eq_true rfl) hd dX0_doTake_4 (fun _ h1 hd => ?_)
  refine a_aload_n (pc := 7) hG 0 rfl dX0_doTake_7 rfl ?_
  refine a_iload_n (pc := 8) hG 2 rfl dX0_doTake_8 rfl ?_
  refine a_iconst (pc := 9) hG dX0_doTake_9 (v := (nI 5)) rfl ?_
  refine a_iload_n (pc := 10) hG 1 rfl dX0_doTake_10 rfl ?_
  refine a_cvN (pc := 11) hG (As := [.int a1, .int (nI 5), .int a0]) (st := []) sc_20 cl_X0 mk_X0_setCause t_445 (by omega) (fun z hz => c_Desk_setCause a1 (nI 5) a0 _  z hz) rfl (Nat.le_of_ble_eq_true rfl) hd dX0_doTake_11 (fun _ h2 hd => ?_)
  refine a_aload_n (pc := 14) hG 0 rfl dX0_doTake_14 rfl ?_
  refine a_iload_n (pc := 15) hG 1 rfl dX0_doTake_15 rfl ?_
  refine a_iconst (pc := 16) hG dX0_doTake_16 (v := (nI 2)) rfl ?_
  refine a_iload_n (pc := 17) hG 2 rfl dX0_doTake_17 rfl ?_
  refine a_cvN (pc := 18) hG (As := [.int a0, .int (nI 2), .int a1]) (st := []) sc_20 cl_X0 mk_X0_setClerk t_457 (by omega) (fun z hz => c_Desk_setClerk a0 (nI 2) a1 _  z hz) rfl (Nat.le_of_ble_eq_true rfl) hd dX0_doTake_18 (fun _ h3 hd => ?_)
  exact a_vret (pc := 21) hG hd dX0_doTake_21
theorem dX11_take_0 : decode cX11_take 0 = .ok (.aload_n 0, 1) := by decide +kernel
theorem dX11_take_1 : decode cX11_take 1 = .ok (.getfield 19, 3) := by decide +kernel
theorem dX11_take_4 : decode cX11_take 4 = .ok (.iload_n 1, 1) := by decide +kernel
theorem dX11_take_5 : decode cX11_take 5 = .ok (.invokevirtual 177, 3) := by decide +kernel
theorem dX11_take_8 : decode cX11_take 8 = .ok (.ifCond .eq 14, 3) := by decide +kernel
theorem dX11_take_11 : decode cX11_take 11 = .ok (.aload_n 0, 1) := by decide +kernel
theorem dX11_take_12 : decode cX11_take 12 = .ok (.getfield 19, 3) := by decide +kernel
theorem dX11_take_15 : decode cX11_take 15 = .ok (.iload_n 2, 1) := by decide +kernel
theorem dX11_take_16 : decode cX11_take 16 = .ok (.invokevirtual 147, 3) := by decide +kernel
theorem dX11_take_19 : decode cX11_take 19 = .ok (.ifCond .ne 5, 3) := by decide +kernel
theorem dX11_take_22 : decode cX11_take 22 = .ok (.iconst (-1), 1) := by decide +kernel
theorem dX11_take_23 : decode cX11_take 23 = .ok (.ireturn, 1) := by decide +kernel
theorem dX11_take_24 : decode cX11_take 24 = .ok (.aload_n 0, 1) := by decide +kernel
theorem dX11_take_25 : decode cX11_take 25 = .ok (.getfield 40, 3) := by decide +kernel
theorem dX11_take_28 : decode cX11_take 28 = .ok (.iload_n 1, 1) := by decide +kernel
theorem dX11_take_29 : decode cX11_take 29 = .ok (.iload_n 2, 1) := by decide +kernel
theorem dX11_take_30 : decode cX11_take 30 = .ok (.invokevirtual 189, 3) := by decide +kernel
theorem dX11_take_33 : decode cX11_take 33 = .ok (.istore_n 3, 1) := by decide +kernel
theorem dX11_take_34 : decode cX11_take 34 = .ok (.iload_n 3, 1) := by decide +kernel
theorem dX11_take_35 : decode cX11_take 35 = .ok (.ifCond .ne 19, 3) := by decide +kernel
theorem dX11_take_38 : decode cX11_take 38 = .ok (.aload_n 0, 1) := by decide +kernel
theorem dX11_take_39 : decode cX11_take 39 = .ok (.getfield 40, 3) := by decide +kernel
theorem dX11_take_42 : decode cX11_take 42 = .ok (.invokevirtual 192, 3) := by decide +kernel
theorem dX11_take_45 : decode cX11_take 45 = .ok (.aload_n 0, 1) := by decide +kernel
theorem dX11_take_46 : decode cX11_take 46 = .ok (.getfield 40, 3) := by decide +kernel
theorem dX11_take_49 : decode cX11_take 49 = .ok (.iload_n 1, 1) := by decide +kernel
theorem dX11_take_50 : decode cX11_take 50 = .ok (.iload_n 2, 1) := by decide +kernel
theorem dX11_take_51 : decode cX11_take 51 = .ok (.invokevirtual 195, 3) := by decide +kernel
theorem dX11_take_54 : decode cX11_take 54 = .ok (.iload_n 3, 1) := by decide +kernel
theorem dX11_take_55 : decode cX11_take 55 = .ok (.ireturn, 1) := by decide +kernel
set_option maxHeartbeats 4000000 in
theorem c_LC_take {ad wad : Nat → Nat} (a0 : Int32) (a1 : Int32) (h : HS)  (q : Int32 × HS) (hd : f_LC_take a0 a1 h = some q) : Ctr SHc ad wad yX11_take cX11_take 4 (some .int) 4 [.ref (ad 0), .int a0, .int a1] h (some (.int q.1), q.2) := by
  refine enter (own := RX11) (lv := [(0, .ref (ad 0)), (1, .int a0), (2, .int a1)]) (by decide +kernel) rfl (Nat.le_of_ble_eq_true rfl) rfl (fun Γ hG => ?_)
  unfold f_LC_take at hd
  refine a_aload_n (pc := 0) hG 0 rfl dX11_take_0 rfl ?_
  refine a_getR (pc := 1) hG sc_0 cl_X11 ok_X11 1 (by decide) rfl t_482 dX11_take_1 ?_
  refine a_iload_n (pc := 4) hG 1 rfl dX11_take_4 rfl ?_
  refine a_cvI (pc := 5) hG (As := [.int a0]) (st := []) sc_3 cl_X5 mk_X5_hasClerk t_790 (by omega) (fun z hz => c_Plan_hasClerk_3 a0 _  z hz) rfl (Nat.le_of_ble_eq_true rfl) hd dX11_take_5 (fun r2 h1 hd => ?_)
  refine a_if_eq (pc := 8) hG (tgt := 22) hd dX11_take_8 (by decide) (fun hd => ?_) (fun hd => ?_)
  · refine a_iconst (pc := 22) hG dX11_take_22 (v := (-1 : Int32)) rfl ?_
    exact a_iret (pc := 23) hG hd dX11_take_23
  refine a_aload_n (pc := 11) hG 0 rfl dX11_take_11 rfl ?_
  refine a_getR (pc := 12) hG sc_0 cl_X11 ok_X11 1 (by decide) rfl t_482 dX11_take_12 ?_
  refine a_iload_n (pc := 15) hG 2 rfl dX11_take_15 rfl ?_
  refine a_cvI (pc := 16) hG (As := [.int a1]) (st := []) sc_3 cl_X5 mk_X5_hasCause t_818 (by omega) (fun z hz => c_Plan_hasCause_3 a1 _  z hz) rfl (Nat.le_of_ble_eq_true rfl) hd dX11_take_16 (fun r4 h3 hd => ?_)
  refine a_if_ne (pc := 19) hG (tgt := 24) hd dX11_take_19 (by decide) (fun hd => ?_) (fun hd => ?_)
  · refine a_aload_n (pc := 24) hG 0 rfl dX11_take_24 rfl ?_
    refine a_getR (pc := 25) hG sc_0 cl_X11 ok_X11 4 (by decide) rfl t_485 dX11_take_25 ?_
    refine a_iload_n (pc := 28) hG 1 rfl dX11_take_28 rfl ?_
    refine a_iload_n (pc := 29) hG 2 rfl dX11_take_29 rfl ?_
    refine a_cvI (pc := 30) hG (As := [.int a0, .int a1]) (st := []) sc_20 cl_X0 mk_X0_whyNotTake t_819 (by omega) (fun z hz => c_Desk_whyNotTake a0 a1 _  z hz) rfl (Nat.le_of_ble_eq_true rfl) hd dX11_take_30 (fun r6 h5 hd => ?_)
    refine a_istore_nN (pc := 33) hG hd dX11_take_33 rfl (by decide) (lf := fun x => [(3, .int x), (0, .ref (ad 0)), (1, .int a0), (2, .int a1)]) (fun _ => rfl) (fun v7 hd => ?_)
    refine a_iload_n (pc := 34) hG 0 rfl dX11_take_34 rfl ?_
    refine a_if_ne (pc := 35) hG (tgt := 54) hd dX11_take_35 (by decide) (fun hd => ?_) (fun hd => ?_)
    · refine a_iload_n (pc := 54) hG 0 rfl dX11_take_54 rfl ?_
      exact a_iret (pc := 55) hG hd dX11_take_55
    refine a_aload_n (pc := 38) hG 1 rfl dX11_take_38 rfl ?_
    refine a_getR (pc := 39) hG sc_0 cl_X11 ok_X11 4 (by decide) rfl t_485 dX11_take_39 ?_
    refine a_cvN (pc := 42) hG (As := []) (st := []) sc_20 cl_X0 mk_X0_remember t_841 (by omega) (fun z hz => c_Desk_remember  _  z hz) rfl (Nat.le_of_ble_eq_true rfl) hd dX11_take_42 (fun _ h8 hd => ?_)
    refine a_aload_n (pc := 45) hG 1 rfl dX11_take_45 rfl ?_
    refine a_getR (pc := 46) hG sc_0 cl_X11 ok_X11 4 (by decide) rfl t_485 dX11_take_46 ?_
    refine a_iload_n (pc := 49) hG 2 rfl dX11_take_49 rfl ?_
    refine a_iload_n (pc := 50) hG 3 rfl dX11_take_50 rfl ?_
    refine a_cvN (pc := 51) hG (As := [.int a0, .int a1]) (st := []) sc_20 cl_X0 mk_X0_doTake t_850 (by omega) (fun z hz => c_Desk_doTake a0 a1 _  z hz) rfl (Nat.le_of_ble_eq_true rfl) hd dX11_take_51 (fun _ h9 hd => ?_)
    refine a_iload_n (pc := 54) hG 0 rfl dX11_take_54 rfl ?_
    exact a_iret (pc := 55) hG hd dX11_take_55
  refine a_iconst (pc := 22) hG dX11_take_22 (v := (-1 : Int32)) rfl ?_
  exact a_iret (pc := 23) hG hd dX11_take_23
theorem dX0_whyNotAct_0 : decode cX0_whyNotAct 0 = .ok (.aload_n 0, 1) := by decide +kernel
theorem dX0_whyNotAct_1 : decode cX0_whyNotAct 1 = .ok (.iload_n 1, 1) := by decide +kernel
theorem dX0_whyNotAct_2 : decode cX0_whyNotAct 2 = .ok (.iconst 2, 1) := by decide +kernel
theorem dX0_whyNotAct_3 : decode cX0_whyNotAct 3 = .ok (.invokevirtual 78, 3) := by decide +kernel
theorem dX0_whyNotAct_6 : decode cX0_whyNotAct 6 = .ok (.istore_n 3, 1) := by decide +kernel
theorem dX0_whyNotAct_7 : decode cX0_whyNotAct 7 = .ok (.iload_n 3, 1) := by decide +kernel
theorem dX0_whyNotAct_8 : decode cX0_whyNotAct 8 = .ok (.iconst (-1), 1) := by decide +kernel
theorem dX0_whyNotAct_9 : decode cX0_whyNotAct 9 = .ok (.if_icmp .ne 5, 3) := by decide +kernel
theorem dX0_whyNotAct_12 : decode cX0_whyNotAct 12 = .ok (.iconst 1, 1) := by decide +kernel
theorem dX0_whyNotAct_13 : decode cX0_whyNotAct 13 = .ok (.ireturn, 1) := by decide +kernel
theorem dX0_whyNotAct_14 : decode cX0_whyNotAct 14 = .ok (.aload_n 0, 1) := by decide +kernel
theorem dX0_whyNotAct_15 : decode cX0_whyNotAct 15 = .ok (.iload_n 3, 1) := by decide +kernel
theorem dX0_whyNotAct_16 : decode cX0_whyNotAct 16 = .ok (.bipush 6, 2) := by decide +kernel
theorem dX0_whyNotAct_18 : decode cX0_whyNotAct 18 = .ok (.invokevirtual 81, 3) := by decide +kernel
theorem dX0_whyNotAct_21 : decode cX0_whyNotAct 21 = .ok (.iload_n 2, 1) := by decide +kernel
theorem dX0_whyNotAct_22 : decode cX0_whyNotAct 22 = .ok (.ishr, 1) := by decide +kernel
theorem dX0_whyNotAct_23 : decode cX0_whyNotAct 23 = .ok (.iconst 1, 1) := by decide +kernel
theorem dX0_whyNotAct_24 : decode cX0_whyNotAct 24 = .ok (.iand, 1) := by decide +kernel
theorem dX0_whyNotAct_25 : decode cX0_whyNotAct 25 = .ok (.ifCond .eq 5, 3) := by decide +kernel
theorem dX0_whyNotAct_28 : decode cX0_whyNotAct 28 = .ok (.iconst 2, 1) := by decide +kernel
theorem dX0_whyNotAct_29 : decode cX0_whyNotAct 29 = .ok (.ireturn, 1) := by decide +kernel
theorem dX0_whyNotAct_30 : decode cX0_whyNotAct 30 = .ok (.aload_n 0, 1) := by decide +kernel
theorem dX0_whyNotAct_31 : decode cX0_whyNotAct 31 = .ok (.iload_n 1, 1) := by decide +kernel
theorem dX0_whyNotAct_32 : decode cX0_whyNotAct 32 = .ok (.iconst 0, 1) := by decide +kernel
theorem dX0_whyNotAct_33 : decode cX0_whyNotAct 33 = .ok (.invokevirtual 78, 3) := by decide +kernel
theorem dX0_whyNotAct_36 : decode cX0_whyNotAct 36 = .ok (.ifCond .ne 5, 3) := by decide +kernel
theorem dX0_whyNotAct_39 : decode cX0_whyNotAct 39 = .ok (.iconst 3, 1) := by decide +kernel
theorem dX0_whyNotAct_40 : decode cX0_whyNotAct 40 = .ok (.ireturn, 1) := by decide +kernel
theorem dX0_whyNotAct_41 : decode cX0_whyNotAct 41 = .ok (.aload_n 0, 1) := by decide +kernel
theorem dX0_whyNotAct_42 : decode cX0_whyNotAct 42 = .ok (.iload_n 1, 1) := by decide +kernel
theorem dX0_whyNotAct_43 : decode cX0_whyNotAct 43 = .ok (.iconst 4, 1) := by decide +kernel
theorem dX0_whyNotAct_44 : decode cX0_whyNotAct 44 = .ok (.invokevirtual 78, 3) := by decide +kernel
theorem dX0_whyNotAct_47 : decode cX0_whyNotAct 47 = .ok (.ifCond .eq 5, 3) := by decide +kernel
theorem dX0_whyNotAct_50 : decode cX0_whyNotAct 50 = .ok (.iconst 4, 1) := by decide +kernel
theorem dX0_whyNotAct_51 : decode cX0_whyNotAct 51 = .ok (.ireturn, 1) := by decide +kernel
theorem dX0_whyNotAct_52 : decode cX0_whyNotAct 52 = .ok (.aload_n 0, 1) := by decide +kernel
theorem dX0_whyNotAct_53 : decode cX0_whyNotAct 53 = .ok (.getfield 27, 3) := by decide +kernel
theorem dX0_whyNotAct_56 : decode cX0_whyNotAct 56 = .ok (.iload_n 2, 1) := by decide +kernel
theorem dX0_whyNotAct_57 : decode cX0_whyNotAct 57 = .ok (.iconst 2, 1) := by decide +kernel
theorem dX0_whyNotAct_58 : decode cX0_whyNotAct 58 = .ok (.invokevirtual 100, 3) := by decide +kernel
theorem dX0_whyNotAct_61 : decode cX0_whyNotAct 61 = .ok (.aload_n 0, 1) := by decide +kernel
theorem dX0_whyNotAct_62 : decode cX0_whyNotAct 62 = .ok (.iconst 1, 1) := by decide +kernel
theorem dX0_whyNotAct_63 : decode cX0_whyNotAct 63 = .ok (.invokevirtual 75, 3) := by decide +kernel
theorem dX0_whyNotAct_66 : decode cX0_whyNotAct 66 = .ok (.if_icmp .le 7, 3) := by decide +kernel
theorem dX0_whyNotAct_69 : decode cX0_whyNotAct 69 = .ok (.iconst 5, 1) := by decide +kernel
theorem dX0_whyNotAct_70 : decode cX0_whyNotAct 70 = .ok (.goto 4, 3) := by decide +kernel
theorem dX0_whyNotAct_73 : decode cX0_whyNotAct 73 = .ok (.iconst 0, 1) := by decide +kernel
theorem dX0_whyNotAct_74 : decode cX0_whyNotAct 74 = .ok (.ireturn, 1) := by decide +kernel
set_option maxHeartbeats 4000000 in
theorem c_Desk_whyNotAct {ad wad : Nat → Nat} (a0 : Int32) (a1 : Int32) (h : HS)  (q : Int32 × HS) (hd : f_Desk_whyNotAct a0 a1 h = some q) : Ctr SHc ad wad yX0_whyNotAct cX0_whyNotAct 4 (some .int) 2 [.ref (ad 20), .int a0, .int a1] h (some (.int q.1), q.2) := by
  refine enter (own := RX0) (lv := [(0, .ref (ad 20)), (1, .int a0), (2, .int a1)]) (by decide +kernel) rfl (Nat.le_of_ble_eq_true rfl) rfl (fun Γ hG => ?_)
  unfold f_Desk_whyNotAct at hd
  refine a_aload_n (pc := 0) hG 0 rfl dX0_whyNotAct_0 rfl ?_
  refine a_iload_n (pc := 1) hG 1 rfl dX0_whyNotAct_1 rfl ?_
  refine a_iconst (pc := 2) hG dX0_whyNotAct_2 (v := (nI 2)) rfl ?_
  refine a_cvI (pc := 3) hG (As := [.int a0, .int (nI 2)]) (st := []) sc_20 cl_X0 mk_X0_ofClerk t_827 (by omega) (fun z hz => c_Desk_ofClerk a0 (nI 2) _  z hz) rfl (Nat.le_of_ble_eq_true rfl) hd dX0_whyNotAct_3 (fun r2 h1 hd => ?_)
  refine a_istore_nN (pc := 6) hG hd dX0_whyNotAct_6 rfl (by decide) (lf := fun x => [(3, .int x), (0, .ref (ad 20)), (1, .int a0), (2, .int a1)]) (fun _ => rfl) (fun v3 hd => ?_)
  refine a_iload_n (pc := 7) hG 0 rfl dX0_whyNotAct_7 rfl ?_
  refine a_iconst (pc := 8) hG dX0_whyNotAct_8 (v := (-1 : Int32)) rfl ?_
  refine a_ic_ne (pc := 9) hG (tgt := 14) hd dX0_whyNotAct_9 (by decide) (fun hd => ?_) (fun hd => ?_)
  · refine a_aload_n (pc := 14) hG 1 rfl dX0_whyNotAct_14 rfl ?_
    refine a_iload_n (pc := 15) hG 0 rfl dX0_whyNotAct_15 rfl ?_
    refine a_bipush (pc := 16) hG dX0_whyNotAct_16 (v := (nI 6)) rfl ?_
    refine a_cvI (pc := 18) hG (As := [.int v3, .int (nI 6)]) (st := []) sc_20 cl_X0 mk_X0_ofCause t_806 (by omega) (fun z hz => c_Desk_ofCause v3 (nI 6) _  z hz) rfl (Nat.le_of_ble_eq_true rfl) hd dX0_whyNotAct_18 (fun r5 h4 hd => ?_)
    refine a_iload_n (pc := 21) hG 3 rfl dX0_whyNotAct_21 rfl ?_
    refine a_ishr (pc := 22) hG dX0_whyNotAct_22 ?_
    refine a_iconst (pc := 23) hG dX0_whyNotAct_23 (v := (nI 1)) rfl ?_
    refine a_iand (pc := 24) hG dX0_whyNotAct_24 ?_
    refine a_if_eq (pc := 25) hG (tgt := 30) hd dX0_whyNotAct_25 (by decide) (fun hd => ?_) (fun hd => ?_)
    · refine a_aload_n (pc := 30) hG 1 rfl dX0_whyNotAct_30 rfl ?_
      refine a_iload_n (pc := 31) hG 2 rfl dX0_whyNotAct_31 rfl ?_
      refine a_iconst (pc := 32) hG dX0_whyNotAct_32 (v := (nI 0)) rfl ?_
      refine a_cvI (pc := 33) hG (As := [.int a0, .int (nI 0)]) (st := []) sc_20 cl_X0 mk_X0_ofClerk t_827 (by omega) (fun z hz => c_Desk_ofClerk a0 (nI 0) _  z hz) rfl (Nat.le_of_ble_eq_true rfl) hd dX0_whyNotAct_33 (fun r7 h6 hd => ?_)
      refine a_if_ne (pc := 36) hG (tgt := 41) hd dX0_whyNotAct_36 (by decide) (fun hd => ?_) (fun hd => ?_)
      · refine a_aload_n (pc := 41) hG 1 rfl dX0_whyNotAct_41 rfl ?_
        refine a_iload_n (pc := 42) hG 2 rfl dX0_whyNotAct_42 rfl ?_
        refine a_iconst (pc := 43) hG dX0_whyNotAct_43 (v := (nI 4)) rfl ?_
        refine a_cvI (pc := 44) hG (As := [.int a0, .int (nI 4)]) (st := []) sc_20 cl_X0 mk_X0_ofClerk t_827 (by omega) (fun z hz => c_Desk_ofClerk a0 (nI 4) _  z hz) rfl (Nat.le_of_ble_eq_true rfl) hd dX0_whyNotAct_44 (fun r9 h8 hd => ?_)
        refine a_if_eq (pc := 47) hG (tgt := 52) hd dX0_whyNotAct_47 (by decide) (fun hd => ?_) (fun hd => ?_)
        · refine a_aload_n (pc := 52) hG 1 rfl dX0_whyNotAct_52 rfl ?_
          refine a_getR (pc := 53) hG sc_20 cl_X0 ok_X0 0 (by decide) rfl t_266 dX0_whyNotAct_53 ?_
          refine a_iload_n (pc := 56) hG 3 rfl dX0_whyNotAct_56 rfl ?_
          refine a_iconst (pc := 57) hG dX0_whyNotAct_57 (v := (nI 2)) rfl ?_
          refine a_cvI (pc := 58) hG (As := [.int a1, .int (nI 2)]) (st := []) sc_3 cl_X5 mk_X5_ofDeed t_862 (by omega) (fun z hz => c_Plan_ofDeed_3 a1 (nI 2) _  z hz) rfl (Nat.le_of_ble_eq_true rfl) hd dX0_whyNotAct_58 (fun r11 h10 hd => ?_)
          refine a_aload_n (pc := 61) hG 1 rfl dX0_whyNotAct_61 rfl ?_
          refine a_iconst (pc := 62) hG dX0_whyNotAct_62 (v := (nI 1)) rfl ?_
          refine a_cvI (pc := 63) hG (As := [.int (nI 1)]) (st := [.int r11]) sc_20 cl_X0 mk_X0_ofNow t_840 (by omega) (fun z hz => c_Desk_ofNow (nI 1) _  z hz) rfl (Nat.le_of_ble_eq_true rfl) hd dX0_whyNotAct_63 (fun r13 h12 hd => ?_)
          refine a_ic_le (pc := 66) hG (tgt := 73) hd dX0_whyNotAct_66 (by decide) (fun hd => ?_) (fun hd => ?_)
          · refine a_iconst (pc := 73) hG dX0_whyNotAct_73 (v := (nI 0)) rfl ?_
            exact a_iret (pc := 74) hG hd dX0_whyNotAct_74
          refine a_iconst (pc := 69) hG dX0_whyNotAct_69 (v := (nI 5)) rfl ?_
          refine a_goto (pc := 70) hG (tgt := 74) dX0_whyNotAct_70 (by decide) ?_
          exact a_iret (pc := 74) hG hd dX0_whyNotAct_74
        refine a_iconst (pc := 50) hG dX0_whyNotAct_50 (v := (nI 4)) rfl ?_
        exact a_iret (pc := 51) hG hd dX0_whyNotAct_51
      refine a_iconst (pc := 39) hG dX0_whyNotAct_39 (v := (nI 3)) rfl ?_
      exact a_iret (pc := 40) hG hd dX0_whyNotAct_40
    refine a_iconst (pc := 28) hG dX0_whyNotAct_28 (v := (nI 2)) rfl ?_
    exact a_iret (pc := 29) hG hd dX0_whyNotAct_29
  refine a_iconst (pc := 12) hG dX0_whyNotAct_12 (v := (nI 1)) rfl ?_
  exact a_iret (pc := 13) hG hd dX0_whyNotAct_13
theorem dX0_addCause_0 : decode cX0_addCause 0 = .ok (.aload_n 0, 1) := by decide +kernel
theorem dX0_addCause_1 : decode cX0_addCause 1 = .ok (.getfield 9, 3) := by decide +kernel
theorem dX0_addCause_4 : decode cX0_addCause 4 = .ok (.iload_n 1, 1) := by decide +kernel
theorem dX0_addCause_5 : decode cX0_addCause 5 = .ok (.bipush 9, 2) := by decide +kernel
theorem dX0_addCause_7 : decode cX0_addCause 7 = .ok (.imul, 1) := by decide +kernel
theorem dX0_addCause_8 : decode cX0_addCause 8 = .ok (.iload_n 2, 1) := by decide +kernel
theorem dX0_addCause_9 : decode cX0_addCause 9 = .ok (.iadd, 1) := by decide +kernel
theorem dX0_addCause_10 : decode cX0_addCause 10 = .ok (.dup2, 1) := by decide +kernel
theorem dX0_addCause_11 : decode cX0_addCause 11 = .ok (.iaload, 1) := by decide +kernel
theorem dX0_addCause_12 : decode cX0_addCause 12 = .ok (.iload_n 3, 1) := by decide +kernel
theorem dX0_addCause_13 : decode cX0_addCause 13 = .ok (.iadd, 1) := by decide +kernel
theorem dX0_addCause_14 : decode cX0_addCause 14 = .ok (.iastore, 1) := by decide +kernel
theorem dX0_addCause_15 : decode cX0_addCause 15 = .ok (.return_, 1) := by decide +kernel
set_option maxHeartbeats 4000000 in
theorem c_Desk_addCause {ad wad : Nat → Nat} (a0 : Int32) (a1 : Int32) (a2 : Int32) (h : HS)  (q : Unit × HS) (hd : f_Desk_addCause a0 a1 a2 h = some q) : Ctr SHc ad wad yX0_addCause cX0_addCause 4 none 1 [.ref (ad 20), .int a0, .int a1, .int a2] h (none, q.2) := by
  refine enter (own := RX0) (lv := [(0, .ref (ad 20)), (1, .int a0), (2, .int a1), (3, .int a2)]) (by decide +kernel) rfl (Nat.le_of_ble_eq_true rfl) rfl (fun Γ hG => ?_)
  unfold f_Desk_addCause at hd
  refine a_aload_n (pc := 0) hG 0 rfl dX0_addCause_0 rfl ?_
  refine a_getR (pc := 1) hG sc_20 cl_X0 ok_X0 1 (by decide) rfl t_267 dX0_addCause_1 ?_
  refine a_iload_n (pc := 4) hG 1 rfl dX0_addCause_4 rfl ?_
  refine a_bipush (pc := 5) hG dX0_addCause_5 (v := (nI 9)) rfl ?_
  refine a_imul (pc := 7) hG dX0_addCause_7 ?_
  refine a_iload_n (pc := 8) hG 2 rfl dX0_addCause_8 rfl ?_
  refine a_iadd (pc := 9) hG dX0_addCause_9 ?_
  refine a_dup2 (pc := 10) hG dX0_addCause_10 rfl rfl ?_
  refine a_iald (pc := 11) hG sc_21 hd dX0_addCause_11 (fun hd => ?_)
  refine a_iload_n (pc := 12) hG 3 rfl dX0_addCause_12 rfl ?_
  refine a_iadd (pc := 13) hG dX0_addCause_13 ?_
  refine a_iast (pc := 14) hG sc_21 hd dX0_addCause_14 (fun h1 hd => ?_)
  exact a_vret (pc := 15) hG hd dX0_addCause_15
theorem dX0_addClerk_0 : decode cX0_addClerk 0 = .ok (.aload_n 0, 1) := by decide +kernel
theorem dX0_addClerk_1 : decode cX0_addClerk 1 = .ok (.getfield 9, 3) := by decide +kernel
theorem dX0_addClerk_4 : decode cX0_addClerk 4 = .ok (.bipush 54, 2) := by decide +kernel
theorem dX0_addClerk_6 : decode cX0_addClerk 6 = .ok (.iload_n 1, 1) := by decide +kernel
theorem dX0_addClerk_7 : decode cX0_addClerk 7 = .ok (.bipush 6, 2) := by decide +kernel
theorem dX0_addClerk_9 : decode cX0_addClerk 9 = .ok (.imul, 1) := by decide +kernel
theorem dX0_addClerk_10 : decode cX0_addClerk 10 = .ok (.iadd, 1) := by decide +kernel
theorem dX0_addClerk_11 : decode cX0_addClerk 11 = .ok (.iload_n 2, 1) := by decide +kernel
theorem dX0_addClerk_12 : decode cX0_addClerk 12 = .ok (.iadd, 1) := by decide +kernel
theorem dX0_addClerk_13 : decode cX0_addClerk 13 = .ok (.dup2, 1) := by decide +kernel
theorem dX0_addClerk_14 : decode cX0_addClerk 14 = .ok (.iaload, 1) := by decide +kernel
theorem dX0_addClerk_15 : decode cX0_addClerk 15 = .ok (.iload_n 3, 1) := by decide +kernel
theorem dX0_addClerk_16 : decode cX0_addClerk 16 = .ok (.iadd, 1) := by decide +kernel
theorem dX0_addClerk_17 : decode cX0_addClerk 17 = .ok (.iastore, 1) := by decide +kernel
theorem dX0_addClerk_18 : decode cX0_addClerk 18 = .ok (.return_, 1) := by decide +kernel
set_option maxHeartbeats 4000000 in
theorem c_Desk_addClerk {ad wad : Nat → Nat} (a0 : Int32) (a1 : Int32) (a2 : Int32) (h : HS)  (q : Unit × HS) (hd : f_Desk_addClerk a0 a1 a2 h = some q) : Ctr SHc ad wad yX0_addClerk cX0_addClerk 4 none 1 [.ref (ad 20), .int a0, .int a1, .int a2] h (none, q.2) := by
  refine enter (own := RX0) (lv := [(0, .ref (ad 20)), (1, .int a0), (2, .int a1), (3, .int a2)]) (by decide +kernel) rfl (Nat.le_of_ble_eq_true rfl) rfl (fun Γ hG => ?_)
  unfold f_Desk_addClerk at hd
  refine a_aload_n (pc := 0) hG 0 rfl dX0_addClerk_0 rfl ?_
  refine a_getR (pc := 1) hG sc_20 cl_X0 ok_X0 1 (by decide) rfl t_267 dX0_addClerk_1 ?_
  refine a_bipush (pc := 4) hG dX0_addClerk_4 (v := (nI 54)) rfl ?_
  refine a_iload_n (pc := 6) hG 1 rfl dX0_addClerk_6 rfl ?_
  refine a_bipush (pc := 7) hG dX0_addClerk_7 (v := (nI 6)) rfl ?_
  refine a_imul (pc := 9) hG dX0_addClerk_9 ?_
  refine a_iadd (pc := 10) hG dX0_addClerk_10 ?_
  refine a_iload_n (pc := 11) hG 2 rfl dX0_addClerk_11 rfl ?_
  refine a_iadd (pc := 12) hG dX0_addClerk_12 ?_
  refine a_dup2 (pc := 13) hG dX0_addClerk_13 rfl rfl ?_
  refine a_iald (pc := 14) hG sc_21 hd dX0_addClerk_14 (fun hd => ?_)
  refine a_iload_n (pc := 15) hG 3 rfl dX0_addClerk_15 rfl ?_
  refine a_iadd (pc := 16) hG dX0_addClerk_16 ?_
  refine a_iast (pc := 17) hG sc_21 hd dX0_addClerk_17 (fun h1 hd => ?_)
  exact a_vret (pc := 18) hG hd dX0_addClerk_18
theorem dX0_addNow_0 : decode cX0_addNow 0 = .ok (.aload_n 0, 1) := by decide +kernel
theorem dX0_addNow_1 : decode cX0_addNow 1 = .ok (.getfield 9, 3) := by decide +kernel
theorem dX0_addNow_4 : decode cX0_addNow 4 = .ok (.bipush 84, 2) := by decide +kernel
theorem dX0_addNow_6 : decode cX0_addNow 6 = .ok (.iload_n 1, 1) := by decide +kernel
theorem dX0_addNow_7 : decode cX0_addNow 7 = .ok (.iadd, 1) := by decide +kernel
theorem dX0_addNow_8 : decode cX0_addNow 8 = .ok (.dup2, 1) := by decide +kernel
theorem dX0_addNow_9 : decode cX0_addNow 9 = .ok (.iaload, 1) := by decide +kernel
theorem dX0_addNow_10 : decode cX0_addNow 10 = .ok (.iload_n 2, 1) := by decide +kernel
theorem dX0_addNow_11 : decode cX0_addNow 11 = .ok (.iadd, 1) := by decide +kernel
theorem dX0_addNow_12 : decode cX0_addNow 12 = .ok (.iastore, 1) := by decide +kernel
theorem dX0_addNow_13 : decode cX0_addNow 13 = .ok (.return_, 1) := by decide +kernel
set_option maxHeartbeats 4000000 in
theorem c_Desk_addNow {ad wad : Nat → Nat} (a0 : Int32) (a1 : Int32) (h : HS)  (q : Unit × HS) (hd : f_Desk_addNow a0 a1 h = some q) : Ctr SHc ad wad yX0_addNow cX0_addNow 3 none 1 [.ref (ad 20), .int a0, .int a1] h (none, q.2) := by
  refine enter (own := RX0) (lv := [(0, .ref (ad 20)), (1, .int a0), (2, .int a1)]) (by decide +kernel) rfl (Nat.le_of_ble_eq_true rfl) rfl (fun Γ hG => ?_)
  unfold f_Desk_addNow at hd
  refine a_aload_n (pc := 0) hG 0 rfl dX0_addNow_0 rfl ?_
  refine a_getR (pc := 1) hG sc_20 cl_X0 ok_X0 1 (by decide) rfl t_267 dX0_addNow_1 ?_
  refine a_bipush (pc := 4) hG dX0_addNow_4 (v := (nI 84)) rfl ?_
  refine a_iload_n (pc := 6) hG 1 rfl dX0_addNow_6 rfl ?_
  refine a_iadd (pc := 7) hG dX0_addNow_7 ?_
  refine a_dup2 (pc := 8) hG dX0_addNow_8 rfl rfl ?_
  refine a_iald (pc := 9) hG sc_21 hd dX0_addNow_9 (fun hd => ?_)
  refine a_iload_n (pc := 10) hG 2 rfl dX0_addNow_10 rfl ?_
  refine a_iadd (pc := 11) hG dX0_addNow_11 ?_
  refine a_iast (pc := 12) hG sc_21 hd dX0_addNow_12 (fun h1 hd => ?_)
  exact a_vret (pc := 13) hG hd dX0_addNow_13
theorem dX0_doAct_0 : decode cX0_doAct 0 = .ok (.aload_n 0, 1) := by decide +kernel
theorem dX0_doAct_1 : decode cX0_doAct 1 = .ok (.iload_n 1, 1) := by decide +kernel
theorem dX0_doAct_2 : decode cX0_doAct 2 = .ok (.iconst 2, 1) := by decide +kernel
theorem dX0_doAct_3 : decode cX0_doAct 3 = .ok (.invokevirtual 78, 3) := by decide +kernel
theorem dX0_doAct_6 : decode cX0_doAct 6 = .ok (.istore_n 3, 1) := by decide +kernel
theorem dX0_doAct_7 : decode cX0_doAct 7 = .ok (.iload_n 3, 1) := by decide +kernel
theorem dX0_doAct_8 : decode cX0_doAct 8 = .ok (.iconst (-1), 1) := by decide +kernel
theorem dX0_doAct_9 : decode cX0_doAct 9 = .ok (.if_icmp .ne 4, 3) := by decide +kernel
theorem dX0_doAct_12 : decode cX0_doAct 12 = .ok (.return_, 1) := by decide +kernel
theorem dX0_doAct_13 : decode cX0_doAct 13 = .ok (.aload_n 0, 1) := by decide +kernel
theorem dX0_doAct_14 : decode cX0_doAct 14 = .ok (.iload_n 3, 1) := by decide +kernel
theorem dX0_doAct_15 : decode cX0_doAct 15 = .ok (.iconst 0, 1) := by decide +kernel
theorem dX0_doAct_16 : decode cX0_doAct 16 = .ok (.aload_n 0, 1) := by decide +kernel
theorem dX0_doAct_17 : decode cX0_doAct 17 = .ok (.getfield 27, 3) := by decide +kernel
theorem dX0_doAct_20 : decode cX0_doAct 20 = .ok (.iload_n 2, 1) := by decide +kernel
theorem dX0_doAct_21 : decode cX0_doAct 21 = .ok (.iconst 0, 1) := by decide +kernel
theorem dX0_doAct_22 : decode cX0_doAct 22 = .ok (.invokevirtual 100, 3) := by decide +kernel
theorem dX0_doAct_25 : decode cX0_doAct 25 = .ok (.invokevirtual 103, 3) := by decide +kernel
theorem dX0_doAct_28 : decode cX0_doAct 28 = .ok (.aload_n 0, 1) := by decide +kernel
theorem dX0_doAct_29 : decode cX0_doAct 29 = .ok (.iload_n 3, 1) := by decide +kernel
theorem dX0_doAct_30 : decode cX0_doAct 30 = .ok (.iconst 1, 1) := by decide +kernel
theorem dX0_doAct_31 : decode cX0_doAct 31 = .ok (.aload_n 0, 1) := by decide +kernel
theorem dX0_doAct_32 : decode cX0_doAct 32 = .ok (.getfield 27, 3) := by decide +kernel
theorem dX0_doAct_35 : decode cX0_doAct 35 = .ok (.iload_n 2, 1) := by decide +kernel
theorem dX0_doAct_36 : decode cX0_doAct 36 = .ok (.iconst 1, 1) := by decide +kernel
theorem dX0_doAct_37 : decode cX0_doAct 37 = .ok (.invokevirtual 100, 3) := by decide +kernel
theorem dX0_doAct_40 : decode cX0_doAct 40 = .ok (.invokevirtual 103, 3) := by decide +kernel
theorem dX0_doAct_43 : decode cX0_doAct 43 = .ok (.aload_n 0, 1) := by decide +kernel
theorem dX0_doAct_44 : decode cX0_doAct 44 = .ok (.iload_n 3, 1) := by decide +kernel
theorem dX0_doAct_45 : decode cX0_doAct 45 = .ok (.bipush 6, 2) := by decide +kernel
theorem dX0_doAct_47 : decode cX0_doAct 47 = .ok (.aload_n 0, 1) := by decide +kernel
theorem dX0_doAct_48 : decode cX0_doAct 48 = .ok (.iload_n 3, 1) := by decide +kernel
theorem dX0_doAct_49 : decode cX0_doAct 49 = .ok (.bipush 6, 2) := by decide +kernel
theorem dX0_doAct_51 : decode cX0_doAct 51 = .ok (.invokevirtual 81, 3) := by decide +kernel
theorem dX0_doAct_54 : decode cX0_doAct 54 = .ok (.iconst 1, 1) := by decide +kernel
theorem dX0_doAct_55 : decode cX0_doAct 55 = .ok (.iload_n 2, 1) := by decide +kernel
theorem dX0_doAct_56 : decode cX0_doAct 56 = .ok (.ishl, 1) := by decide +kernel
theorem dX0_doAct_57 : decode cX0_doAct 57 = .ok (.ior, 1) := by decide +kernel
theorem dX0_doAct_58 : decode cX0_doAct 58 = .ok (.invokevirtual 41, 3) := by decide +kernel
theorem dX0_doAct_61 : decode cX0_doAct 61 = .ok (.aload_n 0, 1) := by decide +kernel
theorem dX0_doAct_62 : decode cX0_doAct 62 = .ok (.iload_n 1, 1) := by decide +kernel
theorem dX0_doAct_63 : decode cX0_doAct 63 = .ok (.iconst 0, 1) := by decide +kernel
theorem dX0_doAct_64 : decode cX0_doAct 64 = .ok (.iconst (-1), 1) := by decide +kernel
theorem dX0_doAct_65 : decode cX0_doAct 65 = .ok (.invokevirtual 106, 3) := by decide +kernel
theorem dX0_doAct_68 : decode cX0_doAct 68 = .ok (.aload_n 0, 1) := by decide +kernel
theorem dX0_doAct_69 : decode cX0_doAct 69 = .ok (.iload_n 1, 1) := by decide +kernel
theorem dX0_doAct_70 : decode cX0_doAct 70 = .ok (.iconst 3, 1) := by decide +kernel
theorem dX0_doAct_71 : decode cX0_doAct 71 = .ok (.iconst 1, 1) := by decide +kernel
theorem dX0_doAct_72 : decode cX0_doAct 72 = .ok (.invokevirtual 106, 3) := by decide +kernel
theorem dX0_doAct_75 : decode cX0_doAct 75 = .ok (.aload_n 0, 1) := by decide +kernel
theorem dX0_doAct_76 : decode cX0_doAct 76 = .ok (.iload_n 1, 1) := by decide +kernel
theorem dX0_doAct_77 : decode cX0_doAct 77 = .ok (.iconst 4, 1) := by decide +kernel
theorem dX0_doAct_78 : decode cX0_doAct 78 = .ok (.iconst 1, 1) := by decide +kernel
theorem dX0_doAct_79 : decode cX0_doAct 79 = .ok (.invokevirtual 52, 3) := by decide +kernel
theorem dX0_doAct_82 : decode cX0_doAct 82 = .ok (.aload_n 0, 1) := by decide +kernel
theorem dX0_doAct_83 : decode cX0_doAct 83 = .ok (.iconst 1, 1) := by decide +kernel
theorem dX0_doAct_84 : decode cX0_doAct 84 = .ok (.aload_n 0, 1) := by decide +kernel
theorem dX0_doAct_85 : decode cX0_doAct 85 = .ok (.getfield 27, 3) := by decide +kernel
theorem dX0_doAct_88 : decode cX0_doAct 88 = .ok (.iload_n 2, 1) := by decide +kernel
theorem dX0_doAct_89 : decode cX0_doAct 89 = .ok (.iconst 2, 1) := by decide +kernel
theorem dX0_doAct_90 : decode cX0_doAct 90 = .ok (.invokevirtual 100, 3) := by decide +kernel
theorem dX0_doAct_93 : decode cX0_doAct 93 = .ok (.ineg, 1) := by decide +kernel
theorem dX0_doAct_94 : decode cX0_doAct 94 = .ok (.invokevirtual 109, 3) := by decide +kernel
theorem dX0_doAct_97 : decode cX0_doAct 97 = .ok (.aload_n 0, 1) := by decide +kernel
theorem dX0_doAct_98 : decode cX0_doAct 98 = .ok (.iconst 4, 1) := by decide +kernel
theorem dX0_doAct_99 : decode cX0_doAct 99 = .ok (.iconst 1, 1) := by decide +kernel
theorem dX0_doAct_100 : decode cX0_doAct 100 = .ok (.invokevirtual 109, 3) := by decide +kernel
theorem dX0_doAct_103 : decode cX0_doAct 103 = .ok (.return_, 1) := by decide +kernel
set_option maxHeartbeats 4000000 in
theorem c_Desk_doAct {ad wad : Nat → Nat} (a0 : Int32) (a1 : Int32) (h : HS)  (q : Unit × HS) (hd : f_Desk_doAct a0 a1 h = some q) : Ctr SHc ad wad yX0_doAct cX0_doAct 4 none 2 [.ref (ad 20), .int a0, .int a1] h (none, q.2) := by
  refine enter (own := RX0) (lv := [(0, .ref (ad 20)), (1, .int a0), (2, .int a1)]) (by decide +kernel) rfl (Nat.le_of_ble_eq_true rfl) rfl (fun Γ hG => ?_)
  unfold f_Desk_doAct at hd
  refine a_aload_n (pc := 0) hG 0 rfl dX0_doAct_0 rfl ?_
  refine a_iload_n (pc := 1) hG 1 rfl dX0_doAct_1 rfl ?_
  refine a_iconst (pc := 2) hG dX0_doAct_2 (v := (nI 2)) rfl ?_
  refine a_cvI (pc := 3) hG (As := [.int a0, .int (nI 2)]) (st := []) sc_20 cl_X0 mk_X0_ofClerk t_827 (by omega) (fun z hz => c_Desk_ofClerk a0 (nI 2) _  z hz) rfl (Nat.le_of_ble_eq_true rfl) hd dX0_doAct_3 (fun r2 h1 hd => ?_)
  refine a_istore_nN (pc := 6) hG hd dX0_doAct_6 rfl (by decide) (lf := fun x => [(3, .int x), (0, .ref (ad 20)), (1, .int a0), (2, .int a1)]) (fun _ => rfl) (fun v3 hd => ?_)
  refine a_iload_n (pc := 7) hG 0 rfl dX0_doAct_7 rfl ?_
  refine a_iconst (pc := 8) hG dX0_doAct_8 (v := (-1 : Int32)) rfl ?_
  refine a_ic_ne (pc := 9) hG (tgt := 13) hd dX0_doAct_9 (by decide) (fun hd => ?_) (fun hd => ?_)
  · refine a_aload_n (pc := 13) hG 1 rfl dX0_doAct_13 rfl ?_
    refine a_iload_n (pc := 14) hG 0 rfl dX0_doAct_14 rfl ?_
    refine a_iconst (pc := 15) hG dX0_doAct_15 (v := (nI 0)) rfl ?_
    refine a_aload_n (pc := 16) hG 1 rfl dX0_doAct_16 rfl ?_
    refine a_getR (pc := 17) hG sc_20 cl_X0 ok_X0 0 (by decide) rfl t_266 dX0_doAct_17 ?_
    refine a_iload_n (pc := 20) hG 3 rfl dX0_doAct_20 rfl ?_
    refine a_iconst (pc := 21) hG dX0_doAct_21 (v := (nI 0)) rfl ?_
    refine a_cvI (pc := 22) hG (As := [.int a1, .int (nI 0)]) (st := [.int (nI 0), .int v3, .ref (ad 20)]) sc_3 cl_X5 mk_X5_ofDeed t_862 (by omega) (fun z hz => c_Plan_ofDeed_3 a1 (nI 0) _  z hz) rfl (Nat.le_of_ble_eq_true rfl) hd dX0_doAct_22 (fun r5 h4 hd => ?_)
    refine a_cvN (pc := 25) hG (As := [.int v3, .int (nI 0), .int r5]) (st := []) sc_20 cl_X0 mk_X0_addCause t_867 (by omega) (fun z hz => c_Desk_addCause v3 (nI 0) r5 _  z hz) rfl (Nat.le_of_ble_eq_true rfl) hd dX0_doAct_25 (fun _ h6 hd => ?_)
    refine a_aload_n (pc := 28) hG 1 rfl dX0_doAct_28 rfl ?_
    refine a_iload_n (pc := 29) hG 0 rfl dX0_doAct_29 rfl ?_
    refine a_iconst (pc := 30) hG dX0_doAct_30 (v := (nI 1)) rfl ?_
    refine a_aload_n (pc := 31) hG 1 rfl dX0_doAct_31 rfl ?_
    refine a_getR (pc := 32) hG sc_20 cl_X0 ok_X0 0 (by decide) rfl t_266 dX0_doAct_32 ?_
    refine a_iload_n (pc := 35) hG 3 rfl dX0_doAct_35 rfl ?_
    refine a_iconst (pc := 36) hG dX0_doAct_36 (v := (nI 1)) rfl ?_
    refine a_cvI (pc := 37) hG (As := [.int a1, .int (nI 1)]) (st := [.int (nI 1), .int v3, .ref (ad 20)]) sc_3 cl_X5 mk_X5_ofDeed t_862 (by omega) (fun z hz => c_Plan_ofDeed_3 a1 (nI 1) _  z hz) rfl (Nat.le_of_ble_eq_true rfl) hd dX0_doAct_37 (fun r8 h7 hd => ?_)
    refine a_cvN (pc := 40) hG (As := [.int v3, .int (nI 1), .int r8]) (st := []) sc_20 cl_X0 mk_X0_addCause t_867 (by omega) (fun z hz => c_Desk_addCause v3 (nI 1) r8 _  z hz) rfl (Nat.le_of_ble_eq_true rfl) hd dX0_doAct_40 (fun _ h9 hd => ?_)
    refine a_aload_n (pc := 43) hG 1 rfl dX0_doAct_43 rfl ?_
    refine a_iload_n (pc := 44) hG 0 rfl dX0_doAct_44 rfl ?_
    refine a_bipush (pc := 45) hG dX0_doAct_45 (v := (nI 6)) rfl ?_
    refine a_aload_n (pc := 47) hG 1 rfl dX0_doAct_47 rfl ?_
    refine a_iload_n (pc := 48) hG 0 rfl dX0_doAct_48 rfl ?_
    refine a_bipush (pc := 49) hG dX0_doAct_49 (v := (nI 6)) rfl ?_
    refine a_cvI (pc := 51) hG (As := [.int v3, .int (nI 6)]) (st := [.int (nI 6), .int v3, .ref (ad 20)]) sc_20 cl_X0 mk_X0_ofCause t_806 (by omega) (fun z hz => c_Desk_ofCause v3 (nI 6) _  z hz) rfl (Nat.le_of_ble_eq_true rfl) hd dX0_doAct_51 (fun r11 h10 hd => ?_)
    refine a_iconst (pc := 54) hG dX0_doAct_54 (v := (nI 1)) rfl ?_
    refine a_iload_n (pc := 55) hG 3 rfl dX0_doAct_55 rfl ?_
    refine a_ishl (pc := 56) hG dX0_doAct_56 ?_
    refine a_ior (pc := 57) hG dX0_doAct_57 ?_
    refine a_cvN (pc := 58) hG (As := [.int v3, .int (nI 6), .int (r11 ||| ((nI 1) <<< (a1 &&& 31)))]) (st := []) sc_20 cl_X0 mk_X0_setCause t_445 (by omega) (fun z hz => c_Desk_setCause v3 (nI 6) (r11 ||| ((nI 1) <<< (a1 &&& 31))) _  z hz) rfl (Nat.le_of_ble_eq_true rfl) hd dX0_doAct_58 (fun _ h12 hd => ?_)
    refine a_aload_n (pc := 61) hG 1 rfl dX0_doAct_61 rfl ?_
    refine a_iload_n (pc := 62) hG 2 rfl dX0_doAct_62 rfl ?_
    refine a_iconst (pc := 63) hG dX0_doAct_63 (v := (nI 0)) rfl ?_
    refine a_iconst (pc := 64) hG dX0_doAct_64 (v := (-1 : Int32)) rfl ?_
    refine a_cvN (pc := 65) hG (As := [.int a0, .int (nI 0), .int (-1 : Int32)]) (st := []) sc_20 cl_X0 mk_X0_addClerk t_871 (by omega) (fun z hz => c_Desk_addClerk a0 (nI 0) (-1 : Int32) _  z hz) rfl (Nat.le_of_ble_eq_true rfl) hd dX0_doAct_65 (fun _ h13 hd => ?_)
    refine a_aload_n (pc := 68) hG 1 rfl dX0_doAct_68 rfl ?_
    refine a_iload_n (pc := 69) hG 2 rfl dX0_doAct_69 rfl ?_
    refine a_iconst (pc := 70) hG dX0_doAct_70 (v := (nI 3)) rfl ?_
    refine a_iconst (pc := 71) hG dX0_doAct_71 (v := (nI 1)) rfl ?_
    refine a_cvN (pc := 72) hG (As := [.int a0, .int (nI 3), .int (nI 1)]) (st := []) sc_20 cl_X0 mk_X0_addClerk t_871 (by omega) (fun z hz => c_Desk_addClerk a0 (nI 3) (nI 1) _  z hz) rfl (Nat.le_of_ble_eq_true rfl) hd dX0_doAct_72 (fun _ h14 hd => ?_)
    refine a_aload_n (pc := 75) hG 1 rfl dX0_doAct_75 rfl ?_
    refine a_iload_n (pc := 76) hG 2 rfl dX0_doAct_76 rfl ?_
    refine a_iconst (pc := 77) hG dX0_doAct_77 (v := (nI 4)) rfl ?_
    refine a_iconst (pc := 78) hG dX0_doAct_78 (v := (nI 1)) rfl ?_
    refine a_cvN (pc := 79) hG (As := [.int a0, .int (nI 4), .int (nI 1)]) (st := []) sc_20 cl_X0 mk_X0_setClerk t_457 (by omega) (fun z hz => c_Desk_setClerk a0 (nI 4) (nI 1) _  z hz) rfl (Nat.le_of_ble_eq_true rfl) hd dX0_doAct_79 (fun _ h15 hd => ?_)
    refine a_aload_n (pc := 82) hG 1 rfl dX0_doAct_82 rfl ?_
    refine a_iconst (pc := 83) hG dX0_doAct_83 (v := (nI 1)) rfl ?_
    refine a_aload_n (pc := 84) hG 1 rfl dX0_doAct_84 rfl ?_
    refine a_getR (pc := 85) hG sc_20 cl_X0 ok_X0 0 (by decide) rfl t_266 dX0_doAct_85 ?_
    refine a_iload_n (pc := 88) hG 3 rfl dX0_doAct_88 rfl ?_
    refine a_iconst (pc := 89) hG dX0_doAct_89 (v := (nI 2)) rfl ?_
    refine a_cvI (pc := 90) hG (As := [.int a1, .int (nI 2)]) (st := [.int (nI 1), .ref (ad 20)]) sc_3 cl_X5 mk_X5_ofDeed t_862 (by omega) (fun z hz => c_Plan_ofDeed_3 a1 (nI 2) _  z hz) rfl (Nat.le_of_ble_eq_true rfl) hd dX0_doAct_90 (fun r17 h16 hd => ?_)
    refine a_ineg (pc := 93) hG dX0_doAct_93 ?_
    refine a_cvN (pc := 94) hG (As := [.int (nI 1), .int (-r17)]) (st := []) sc_20 cl_X0 mk_X0_addNow t_875 (by omega) (fun z hz => c_Desk_addNow (nI 1) (-r17) _  z hz) rfl (Nat.le_of_ble_eq_true rfl) hd dX0_doAct_94 (fun _ h18 hd => ?_)
    refine a_aload_n (pc := 97) hG 1 rfl dX0_doAct_97 rfl ?_
    refine a_iconst (pc := 98) hG dX0_doAct_98 (v := (nI 4)) rfl ?_
    refine a_iconst (pc := 99) hG dX0_doAct_99 (v := (nI 1)) rfl ?_
    refine a_cvN (pc := 100) hG (As := [.int (nI 4), .int (nI 1)]) (st := []) sc_20 cl_X0 mk_X0_addNow t_875 (by omega) (fun z hz => c_Desk_addNow (nI 4) (nI 1) _  z hz) rfl (Nat.le_of_ble_eq_true rfl) hd dX0_doAct_100 (fun _ h19 hd => ?_)
    exact a_vret (pc := 103) hG hd dX0_doAct_103
  exact a_vret (pc := 12) hG hd dX0_doAct_12
theorem dX11_act_0 : decode cX11_act 0 = .ok (.aload_n 0, 1) := by decide +kernel
theorem dX11_act_1 : decode cX11_act 1 = .ok (.getfield 19, 3) := by decide +kernel
theorem dX11_act_4 : decode cX11_act 4 = .ok (.iload_n 1, 1) := by decide +kernel
theorem dX11_act_5 : decode cX11_act 5 = .ok (.invokevirtual 177, 3) := by decide +kernel
theorem dX11_act_8 : decode cX11_act 8 = .ok (.ifCond .eq 14, 3) := by decide +kernel
theorem dX11_act_11 : decode cX11_act 11 = .ok (.aload_n 0, 1) := by decide +kernel
theorem dX11_act_12 : decode cX11_act 12 = .ok (.getfield 19, 3) := by decide +kernel
theorem dX11_act_15 : decode cX11_act 15 = .ok (.iload_n 2, 1) := by decide +kernel
theorem dX11_act_16 : decode cX11_act 16 = .ok (.invokevirtual 171, 3) := by decide +kernel
theorem dX11_act_19 : decode cX11_act 19 = .ok (.ifCond .ne 5, 3) := by decide +kernel
theorem dX11_act_22 : decode cX11_act 22 = .ok (.iconst (-1), 1) := by decide +kernel
theorem dX11_act_23 : decode cX11_act 23 = .ok (.ireturn, 1) := by decide +kernel
theorem dX11_act_24 : decode cX11_act 24 = .ok (.aload_n 0, 1) := by decide +kernel
theorem dX11_act_25 : decode cX11_act 25 = .ok (.getfield 40, 3) := by decide +kernel
theorem dX11_act_28 : decode cX11_act 28 = .ok (.iload_n 1, 1) := by decide +kernel
theorem dX11_act_29 : decode cX11_act 29 = .ok (.iload_n 2, 1) := by decide +kernel
theorem dX11_act_30 : decode cX11_act 30 = .ok (.invokevirtual 199, 3) := by decide +kernel
theorem dX11_act_33 : decode cX11_act 33 = .ok (.istore_n 3, 1) := by decide +kernel
theorem dX11_act_34 : decode cX11_act 34 = .ok (.iload_n 3, 1) := by decide +kernel
theorem dX11_act_35 : decode cX11_act 35 = .ok (.ifCond .ne 19, 3) := by decide +kernel
theorem dX11_act_38 : decode cX11_act 38 = .ok (.aload_n 0, 1) := by decide +kernel
theorem dX11_act_39 : decode cX11_act 39 = .ok (.getfield 40, 3) := by decide +kernel
theorem dX11_act_42 : decode cX11_act 42 = .ok (.invokevirtual 192, 3) := by decide +kernel
theorem dX11_act_45 : decode cX11_act 45 = .ok (.aload_n 0, 1) := by decide +kernel
theorem dX11_act_46 : decode cX11_act 46 = .ok (.getfield 40, 3) := by decide +kernel
theorem dX11_act_49 : decode cX11_act 49 = .ok (.iload_n 1, 1) := by decide +kernel
theorem dX11_act_50 : decode cX11_act 50 = .ok (.iload_n 2, 1) := by decide +kernel
theorem dX11_act_51 : decode cX11_act 51 = .ok (.invokevirtual 202, 3) := by decide +kernel
theorem dX11_act_54 : decode cX11_act 54 = .ok (.iload_n 3, 1) := by decide +kernel
theorem dX11_act_55 : decode cX11_act 55 = .ok (.ireturn, 1) := by decide +kernel
set_option maxHeartbeats 4000000 in
theorem c_LC_act {ad wad : Nat → Nat} (a0 : Int32) (a1 : Int32) (h : HS)  (q : Int32 × HS) (hd : f_LC_act a0 a1 h = some q) : Ctr SHc ad wad yX11_act cX11_act 4 (some .int) 4 [.ref (ad 0), .int a0, .int a1] h (some (.int q.1), q.2) := by
  refine enter (own := RX11) (lv := [(0, .ref (ad 0)), (1, .int a0), (2, .int a1)]) (by decide +kernel) rfl (Nat.le_of_ble_eq_true rfl) rfl (fun Γ hG => ?_)
  unfold f_LC_act at hd
  refine a_aload_n (pc := 0) hG 0 rfl dX11_act_0 rfl ?_
  refine a_getR (pc := 1) hG sc_0 cl_X11 ok_X11 1 (by decide) rfl t_482 dX11_act_1 ?_
  refine a_iload_n (pc := 4) hG 1 rfl dX11_act_4 rfl ?_
  refine a_cvI (pc := 5) hG (As := [.int a0]) (st := []) sc_3 cl_X5 mk_X5_hasClerk t_790 (by omega) (fun z hz => c_Plan_hasClerk_3 a0 _  z hz) rfl (Nat.le_of_ble_eq_true rfl) hd dX11_act_5 (fun r2 h1 hd => ?_)
  refine a_if_eq (pc := 8) hG (tgt := 22) hd dX11_act_8 (by decide) (fun hd => ?_) (fun hd => ?_)
  · refine a_iconst (pc := 22) hG dX11_act_22 (v := (-1 : Int32)) rfl ?_
    exact a_iret (pc := 23) hG hd dX11_act_23
  refine a_aload_n (pc := 11) hG 0 rfl dX11_act_11 rfl ?_
  refine a_getR (pc := 12) hG sc_0 cl_X11 ok_X11 1 (by decide) rfl t_482 dX11_act_12 ?_
  refine a_iload_n (pc := 15) hG 2 rfl dX11_act_15 rfl ?_
  refine a_cvI (pc := 16) hG (As := [.int a1]) (st := []) sc_3 cl_X5 mk_X5_hasDeed t_781 (by omega) (fun z hz => c_Plan_hasDeed_3 a1 _  z hz) rfl (Nat.le_of_ble_eq_true rfl) hd dX11_act_16 (fun r4 h3 hd => ?_)
  refine a_if_ne (pc := 19) hG (tgt := 24) hd dX11_act_19 (by decide) (fun hd => ?_) (fun hd => ?_)
  · refine a_aload_n (pc := 24) hG 0 rfl dX11_act_24 rfl ?_
    refine a_getR (pc := 25) hG sc_0 cl_X11 ok_X11 4 (by decide) rfl t_485 dX11_act_25 ?_
    refine a_iload_n (pc := 28) hG 1 rfl dX11_act_28 rfl ?_
    refine a_iload_n (pc := 29) hG 2 rfl dX11_act_29 rfl ?_
    refine a_cvI (pc := 30) hG (As := [.int a0, .int a1]) (st := []) sc_20 cl_X0 mk_X0_whyNotAct t_858 (by omega) (fun z hz => c_Desk_whyNotAct a0 a1 _  z hz) rfl (Nat.le_of_ble_eq_true rfl) hd dX11_act_30 (fun r6 h5 hd => ?_)
    refine a_istore_nN (pc := 33) hG hd dX11_act_33 rfl (by decide) (lf := fun x => [(3, .int x), (0, .ref (ad 0)), (1, .int a0), (2, .int a1)]) (fun _ => rfl) (fun v7 hd => ?_)
    refine a_iload_n (pc := 34) hG 0 rfl dX11_act_34 rfl ?_
    refine a_if_ne (pc := 35) hG (tgt := 54) hd dX11_act_35 (by decide) (fun hd => ?_) (fun hd => ?_)
    · refine a_iload_n (pc := 54) hG 0 rfl dX11_act_54 rfl ?_
      exact a_iret (pc := 55) hG hd dX11_act_55
    refine a_aload_n (pc := 38) hG 1 rfl dX11_act_38 rfl ?_
    refine a_getR (pc := 39) hG sc_0 cl_X11 ok_X11 4 (by decide) rfl t_485 dX11_act_39 ?_
    refine a_cvN (pc := 42) hG (As := []) (st := []) sc_20 cl_X0 mk_X0_remember t_841 (by omega) (fun z hz => c_Desk_remember  _  z hz) rfl (Nat.le_of_ble_eq_true rfl) hd dX11_act_42 (fun _ h8 hd => ?_)
    refine a_aload_n (pc := 45) hG 1 rfl dX11_act_45 rfl ?_
    refine a_getR (pc := 46) hG sc_0 cl_X11 ok_X11 4 (by decide) rfl t_485 dX11_act_46 ?_
    refine a_iload_n (pc := 49) hG 2 rfl dX11_act_49 rfl ?_
    refine a_iload_n (pc := 50) hG 3 rfl dX11_act_50 rfl ?_
    refine a_cvN (pc := 51) hG (As := [.int a0, .int a1]) (st := []) sc_20 cl_X0 mk_X0_doAct t_863 (by omega) (fun z hz => c_Desk_doAct a0 a1 _  z hz) rfl (Nat.le_of_ble_eq_true rfl) hd dX11_act_51 (fun _ h9 hd => ?_)
    refine a_iload_n (pc := 54) hG 0 rfl dX11_act_54 rfl ?_
    exact a_iret (pc := 55) hG hd dX11_act_55
  refine a_iconst (pc := 22) hG dX11_act_22 (v := (-1 : Int32)) rfl ?_
  exact a_iret (pc := 23) hG hd dX11_act_23
theorem dX0_whyNotDrop_0 : decode cX0_whyNotDrop 0 = .ok (.aload_n 0, 1) := by decide +kernel
theorem dX0_whyNotDrop_1 : decode cX0_whyNotDrop 1 = .ok (.iload_n 1, 1) := by decide +kernel
theorem dX0_whyNotDrop_2 : decode cX0_whyNotDrop 2 = .ok (.invokevirtual 94, 3) := by decide +kernel
theorem dX0_whyNotDrop_5 : decode cX0_whyNotDrop 5 = .ok (.ifCond .eq 5, 3) := by decide +kernel
theorem dX0_whyNotDrop_8 : decode cX0_whyNotDrop 8 = .ok (.iconst 1, 1) := by decide +kernel
theorem dX0_whyNotDrop_9 : decode cX0_whyNotDrop 9 = .ok (.ireturn, 1) := by decide +kernel
theorem dX0_whyNotDrop_10 : decode cX0_whyNotDrop 10 = .ok (.aload_n 0, 1) := by decide +kernel
theorem dX0_whyNotDrop_11 : decode cX0_whyNotDrop 11 = .ok (.iconst 0, 1) := by decide +kernel
theorem dX0_whyNotDrop_12 : decode cX0_whyNotDrop 12 = .ok (.invokevirtual 75, 3) := by decide +kernel
theorem dX0_whyNotDrop_15 : decode cX0_whyNotDrop 15 = .ok (.iconst 5, 1) := by decide +kernel
theorem dX0_whyNotDrop_16 : decode cX0_whyNotDrop 16 = .ok (.irem, 1) := by decide +kernel
theorem dX0_whyNotDrop_17 : decode cX0_whyNotDrop 17 = .ok (.iconst 4, 1) := by decide +kernel
theorem dX0_whyNotDrop_18 : decode cX0_whyNotDrop 18 = .ok (.if_icmp .ne 7, 3) := by decide +kernel
theorem dX0_whyNotDrop_21 : decode cX0_whyNotDrop 21 = .ok (.iconst 2, 1) := by decide +kernel
theorem dX0_whyNotDrop_22 : decode cX0_whyNotDrop 22 = .ok (.goto 4, 3) := by decide +kernel
theorem dX0_whyNotDrop_25 : decode cX0_whyNotDrop 25 = .ok (.iconst 0, 1) := by decide +kernel
theorem dX0_whyNotDrop_26 : decode cX0_whyNotDrop 26 = .ok (.ireturn, 1) := by decide +kernel
set_option maxHeartbeats 4000000 in
theorem c_Desk_whyNotDrop {ad wad : Nat → Nat} (a0 : Int32) (h : HS)  (q : Int32 × HS) (hd : f_Desk_whyNotDrop a0 h = some q) : Ctr SHc ad wad yX0_whyNotDrop cX0_whyNotDrop 2 (some .int) 3 [.ref (ad 20), .int a0] h (some (.int q.1), q.2) := by
  refine enter (own := RX0) (lv := [(0, .ref (ad 20)), (1, .int a0)]) (by decide +kernel) rfl (Nat.le_of_ble_eq_true rfl) rfl (fun Γ hG => ?_)
  unfold f_Desk_whyNotDrop at hd
  refine a_aload_n (pc := 0) hG 0 rfl dX0_whyNotDrop_0 rfl ?_
  refine a_iload_n (pc := 1) hG 1 rfl dX0_whyNotDrop_1 rfl ?_
  refine a_cvI (pc := 2) hG (As := [.int a0]) (st := []) sc_20 cl_X0 mk_X0_isFree t_823 (by omega) (fun z hz => c_Desk_isFree a0 _  z hz) rfl (Nat.le_of_ble_eq_true rfl) hd dX0_whyNotDrop_2 (fun r2 h1 hd => ?_)
  refine a_if_eq (pc := 5) hG (tgt := 10) hd dX0_whyNotDrop_5 (by decide) (fun hd => ?_) (fun hd => ?_)
  · refine a_aload_n (pc := 10) hG 0 rfl dX0_whyNotDrop_10 rfl ?_
    refine a_iconst (pc := 11) hG dX0_whyNotDrop_11 (v := (nI 0)) rfl ?_
    refine a_cvI (pc := 12) hG (As := [.int (nI 0)]) (st := []) sc_20 cl_X0 mk_X0_ofNow t_840 (by omega) (fun z hz => c_Desk_ofNow (nI 0) _  z hz) rfl (Nat.le_of_ble_eq_true rfl) hd dX0_whyNotDrop_12 (fun r4 h3 hd => ?_)
    refine a_iconst (pc := 15) hG dX0_whyNotDrop_15 (v := (nI 5)) rfl ?_
    refine a_irem (pc := 16) hG hd dX0_whyNotDrop_16 (fun hd => ?_)
    refine a_iconst (pc := 17) hG dX0_whyNotDrop_17 (v := (nI 4)) rfl ?_
    refine a_ic_ne (pc := 18) hG (tgt := 25) hd dX0_whyNotDrop_18 (by decide) (fun hd => ?_) (fun hd => ?_)
    · refine a_iconst (pc := 25) hG dX0_whyNotDrop_25 (v := (nI 0)) rfl ?_
      exact a_iret (pc := 26) hG hd dX0_whyNotDrop_26
    refine a_iconst (pc := 21) hG dX0_whyNotDrop_21 (v := (nI 2)) rfl ?_
    refine a_goto (pc := 22) hG (tgt := 26) dX0_whyNotDrop_22 (by decide) ?_
    exact a_iret (pc := 26) hG hd dX0_whyNotDrop_26
  refine a_iconst (pc := 8) hG dX0_whyNotDrop_8 (v := (nI 1)) rfl ?_
  exact a_iret (pc := 9) hG hd dX0_whyNotDrop_9
theorem dX0_payFor_0 : decode cX0_payFor 0 = .ok (.aload_n 0, 1) := by decide +kernel
theorem dX0_payFor_1 : decode cX0_payFor 1 = .ok (.iload_n 1, 1) := by decide +kernel
theorem dX0_payFor_2 : decode cX0_payFor 2 = .ok (.invokevirtual 92, 3) := by decide +kernel
theorem dX0_payFor_5 : decode cX0_payFor 5 = .ok (.istore_n 2, 1) := by decide +kernel
theorem dX0_payFor_6 : decode cX0_payFor 6 = .ok (.iload_n 2, 1) := by decide +kernel
theorem dX0_payFor_7 : decode cX0_payFor 7 = .ok (.sipush 1000, 3) := by decide +kernel
theorem dX0_payFor_10 : decode cX0_payFor 10 = .ok (.if_icmp .ge 18, 3) := by decide +kernel
theorem dX0_payFor_13 : decode cX0_payFor 13 = .ok (.aload_n 0, 1) := by decide +kernel
theorem dX0_payFor_14 : decode cX0_payFor 14 = .ok (.iload_n 1, 1) := by decide +kernel
theorem dX0_payFor_15 : decode cX0_payFor 15 = .ok (.iconst 2, 1) := by decide +kernel
theorem dX0_payFor_16 : decode cX0_payFor 16 = .ok (.invokevirtual 81, 3) := by decide +kernel
theorem dX0_payFor_19 : decode cX0_payFor 19 = .ok (.iload_n 2, 1) := by decide +kernel
theorem dX0_payFor_20 : decode cX0_payFor 20 = .ok (.imul, 1) := by decide +kernel
theorem dX0_payFor_21 : decode cX0_payFor 21 = .ok (.sipush 1000, 3) := by decide +kernel
theorem dX0_payFor_24 : decode cX0_payFor 24 = .ok (.idiv, 1) := by decide +kernel
theorem dX0_payFor_25 : decode cX0_payFor 25 = .ok (.goto 4, 3) := by decide +kernel
theorem dX0_payFor_28 : decode cX0_payFor 28 = .ok (.iconst 0, 1) := by decide +kernel
theorem dX0_payFor_29 : decode cX0_payFor 29 = .ok (.ireturn, 1) := by decide +kernel
set_option maxHeartbeats 4000000 in
theorem c_Desk_payFor {ad wad : Nat → Nat} (a0 : Int32) (h : HS)  (q : Int32 × HS) (hd : f_Desk_payFor a0 h = some q) : Ctr SHc ad wad yX0_payFor cX0_payFor 3 (some .int) 3 [.ref (ad 20), .int a0] h (some (.int q.1), q.2) := by
  refine enter (own := RX0) (lv := [(0, .ref (ad 20)), (1, .int a0)]) (by decide +kernel) rfl (Nat.le_of_ble_eq_true rfl) rfl (fun Γ hG => ?_)
  unfold f_Desk_payFor at hd
  refine a_aload_n (pc := 0) hG 0 rfl dX0_payFor_0 rfl ?_
  refine a_iload_n (pc := 1) hG 1 rfl dX0_payFor_1 rfl ?_
  refine a_cvI (pc := 2) hG (As := [.int a0]) (st := []) sc_20 cl_X0 mk_X0_nearness t_895 (by omega) (fun z hz => c_Desk_nearness a0 _  z hz) rfl (Nat.le_of_ble_eq_true rfl) hd dX0_payFor_2 (fun r2 h1 hd => ?_)
  refine a_istore_nN (pc := 5) hG hd dX0_payFor_5 rfl (by decide) (lf := fun x => [(2, .int x), (0, .ref (ad 20)), (1, .int a0)]) (fun _ => rfl) (fun v3 hd => ?_)
  refine a_iload_n (pc := 6) hG 0 rfl dX0_payFor_6 rfl ?_
  refine a_sipush (pc := 7) hG dX0_payFor_7 (v := (nI 1000)) rfl ?_
  refine a_ic_ge (pc := 10) hG (tgt := 28) hd dX0_payFor_10 (by decide) (fun hd => ?_) (fun hd => ?_)
  · refine a_iconst (pc := 28) hG dX0_payFor_28 (v := (nI 0)) rfl ?_
    exact a_iret (pc := 29) hG hd dX0_payFor_29
  refine a_aload_n (pc := 13) hG 1 rfl dX0_payFor_13 rfl ?_
  refine a_iload_n (pc := 14) hG 2 rfl dX0_payFor_14 rfl ?_
  refine a_iconst (pc := 15) hG dX0_payFor_15 (v := (nI 2)) rfl ?_
  refine a_cvI (pc := 16) hG (As := [.int a0, .int (nI 2)]) (st := []) sc_20 cl_X0 mk_X0_ofCause t_806 (by omega) (fun z hz => c_Desk_ofCause a0 (nI 2) _  z hz) rfl (Nat.le_of_ble_eq_true rfl) hd dX0_payFor_16 (fun r5 h4 hd => ?_)
  refine a_iload_n (pc := 19) hG 0 rfl dX0_payFor_19 rfl ?_
  refine a_imul (pc := 20) hG dX0_payFor_20 ?_
  refine a_sipush (pc := 21) hG dX0_payFor_21 (v := (nI 1000)) rfl ?_
  refine a_idiv (pc := 24) hG hd dX0_payFor_24 (fun hd => ?_)
  refine a_goto (pc := 25) hG (tgt := 29) dX0_payFor_25 (by decide) ?_
  exact a_iret (pc := 29) hG hd dX0_payFor_29
theorem dX0_doDrop_0 : decode cX0_doDrop 0 = .ok (.aload_n 0, 1) := by decide +kernel
theorem dX0_doDrop_1 : decode cX0_doDrop 1 = .ok (.iload_n 1, 1) := by decide +kernel
theorem dX0_doDrop_2 : decode cX0_doDrop 2 = .ok (.iconst 2, 1) := by decide +kernel
theorem dX0_doDrop_3 : decode cX0_doDrop 3 = .ok (.invokevirtual 78, 3) := by decide +kernel
theorem dX0_doDrop_6 : decode cX0_doDrop 6 = .ok (.istore_n 2, 1) := by decide +kernel
theorem dX0_doDrop_7 : decode cX0_doDrop 7 = .ok (.iload_n 2, 1) := by decide +kernel
theorem dX0_doDrop_8 : decode cX0_doDrop 8 = .ok (.iconst (-1), 1) := by decide +kernel
theorem dX0_doDrop_9 : decode cX0_doDrop 9 = .ok (.if_icmp .ne 4, 3) := by decide +kernel
theorem dX0_doDrop_12 : decode cX0_doDrop 12 = .ok (.return_, 1) := by decide +kernel
theorem dX0_doDrop_13 : decode cX0_doDrop 13 = .ok (.aload_n 0, 1) := by decide +kernel
theorem dX0_doDrop_14 : decode cX0_doDrop 14 = .ok (.iload_n 2, 1) := by decide +kernel
theorem dX0_doDrop_15 : decode cX0_doDrop 15 = .ok (.invokevirtual 112, 3) := by decide +kernel
theorem dX0_doDrop_18 : decode cX0_doDrop 18 = .ok (.istore_n 3, 1) := by decide +kernel
theorem dX0_doDrop_19 : decode cX0_doDrop 19 = .ok (.aload_n 0, 1) := by decide +kernel
theorem dX0_doDrop_20 : decode cX0_doDrop 20 = .ok (.iconst 1, 1) := by decide +kernel
theorem dX0_doDrop_21 : decode cX0_doDrop 21 = .ok (.iload_n 3, 1) := by decide +kernel
theorem dX0_doDrop_22 : decode cX0_doDrop 22 = .ok (.invokevirtual 109, 3) := by decide +kernel
theorem dX0_doDrop_25 : decode cX0_doDrop 25 = .ok (.aload_n 0, 1) := by decide +kernel
theorem dX0_doDrop_26 : decode cX0_doDrop 26 = .ok (.iload_n 1, 1) := by decide +kernel
theorem dX0_doDrop_27 : decode cX0_doDrop 27 = .ok (.iconst 5, 1) := by decide +kernel
theorem dX0_doDrop_28 : decode cX0_doDrop 28 = .ok (.iload_n 3, 1) := by decide +kernel
theorem dX0_doDrop_29 : decode cX0_doDrop 29 = .ok (.invokevirtual 106, 3) := by decide +kernel
theorem dX0_doDrop_32 : decode cX0_doDrop 32 = .ok (.aload_n 0, 1) := by decide +kernel
theorem dX0_doDrop_33 : decode cX0_doDrop 33 = .ok (.iload_n 1, 1) := by decide +kernel
theorem dX0_doDrop_34 : decode cX0_doDrop 34 = .ok (.iconst 2, 1) := by decide +kernel
theorem dX0_doDrop_35 : decode cX0_doDrop 35 = .ok (.iconst (-1), 1) := by decide +kernel
theorem dX0_doDrop_36 : decode cX0_doDrop 36 = .ok (.invokevirtual 52, 3) := by decide +kernel
theorem dX0_doDrop_39 : decode cX0_doDrop 39 = .ok (.aload_n 0, 1) := by decide +kernel
theorem dX0_doDrop_40 : decode cX0_doDrop 40 = .ok (.iload_n 2, 1) := by decide +kernel
theorem dX0_doDrop_41 : decode cX0_doDrop 41 = .ok (.iconst 4, 1) := by decide +kernel
theorem dX0_doDrop_42 : decode cX0_doDrop 42 = .ok (.iconst 2, 1) := by decide +kernel
theorem dX0_doDrop_43 : decode cX0_doDrop 43 = .ok (.invokevirtual 41, 3) := by decide +kernel
theorem dX0_doDrop_46 : decode cX0_doDrop 46 = .ok (.aload_n 0, 1) := by decide +kernel
theorem dX0_doDrop_47 : decode cX0_doDrop 47 = .ok (.iload_n 2, 1) := by decide +kernel
theorem dX0_doDrop_48 : decode cX0_doDrop 48 = .ok (.iconst 5, 1) := by decide +kernel
theorem dX0_doDrop_49 : decode cX0_doDrop 49 = .ok (.iconst (-1), 1) := by decide +kernel
theorem dX0_doDrop_50 : decode cX0_doDrop 50 = .ok (.invokevirtual 41, 3) := by decide +kernel
theorem dX0_doDrop_53 : decode cX0_doDrop 53 = .ok (.aload_n 0, 1) := by decide +kernel
theorem dX0_doDrop_54 : decode cX0_doDrop 54 = .ok (.iload_n 2, 1) := by decide +kernel
theorem dX0_doDrop_55 : decode cX0_doDrop 55 = .ok (.bipush 7, 2) := by decide +kernel
theorem dX0_doDrop_57 : decode cX0_doDrop 57 = .ok (.aload_n 0, 1) := by decide +kernel
theorem dX0_doDrop_58 : decode cX0_doDrop 58 = .ok (.iload_n 2, 1) := by decide +kernel
theorem dX0_doDrop_59 : decode cX0_doDrop 59 = .ok (.invokevirtual 92, 3) := by decide +kernel
theorem dX0_doDrop_62 : decode cX0_doDrop 62 = .ok (.invokevirtual 41, 3) := by decide +kernel
theorem dX0_doDrop_65 : decode cX0_doDrop 65 = .ok (.aload_n 0, 1) := by decide +kernel
theorem dX0_doDrop_66 : decode cX0_doDrop 66 = .ok (.iload_n 2, 1) := by decide +kernel
theorem dX0_doDrop_67 : decode cX0_doDrop 67 = .ok (.bipush 8, 2) := by decide +kernel
theorem dX0_doDrop_69 : decode cX0_doDrop 69 = .ok (.aload_n 0, 1) := by decide +kernel
theorem dX0_doDrop_70 : decode cX0_doDrop 70 = .ok (.iconst 0, 1) := by decide +kernel
theorem dX0_doDrop_71 : decode cX0_doDrop 71 = .ok (.invokevirtual 75, 3) := by decide +kernel
theorem dX0_doDrop_74 : decode cX0_doDrop 74 = .ok (.invokevirtual 41, 3) := by decide +kernel
theorem dX0_doDrop_77 : decode cX0_doDrop 77 = .ok (.aload_n 0, 1) := by decide +kernel
theorem dX0_doDrop_78 : decode cX0_doDrop 78 = .ok (.bipush 6, 2) := by decide +kernel
theorem dX0_doDrop_80 : decode cX0_doDrop 80 = .ok (.iconst 1, 1) := by decide +kernel
theorem dX0_doDrop_81 : decode cX0_doDrop 81 = .ok (.invokevirtual 109, 3) := by decide +kernel
theorem dX0_doDrop_84 : decode cX0_doDrop 84 = .ok (.return_, 1) := by decide +kernel
set_option maxHeartbeats 4000000 in
theorem c_Desk_doDrop {ad wad : Nat → Nat} (a0 : Int32) (h : HS)  (q : Unit × HS) (hd : f_Desk_doDrop a0 h = some q) : Ctr SHc ad wad yX0_doDrop cX0_doDrop 4 none 4 [.ref (ad 20), .int a0] h (none, q.2) := by
  refine enter (own := RX0) (lv := [(0, .ref (ad 20)), (1, .int a0)]) (by decide +kernel) rfl (Nat.le_of_ble_eq_true rfl) rfl (fun Γ hG => ?_)
  unfold f_Desk_doDrop at hd
  refine a_aload_n (pc := 0) hG 0 rfl dX0_doDrop_0 rfl ?_
  refine a_iload_n (pc := 1) hG 1 rfl dX0_doDrop_1 rfl ?_
  refine a_iconst (pc := 2) hG dX0_doDrop_2 (v := (nI 2)) rfl ?_
  refine a_cvI (pc := 3) hG (As := [.int a0, .int (nI 2)]) (st := []) sc_20 cl_X0 mk_X0_ofClerk t_827 (by omega) (fun z hz => c_Desk_ofClerk a0 (nI 2) _  z hz) rfl (Nat.le_of_ble_eq_true rfl) hd dX0_doDrop_3 (fun r2 h1 hd => ?_)
  refine a_istore_nN (pc := 6) hG hd dX0_doDrop_6 rfl (by decide) (lf := fun x => [(2, .int x), (0, .ref (ad 20)), (1, .int a0)]) (fun _ => rfl) (fun v3 hd => ?_)
  refine a_iload_n (pc := 7) hG 0 rfl dX0_doDrop_7 rfl ?_
  refine a_iconst (pc := 8) hG dX0_doDrop_8 (v := (-1 : Int32)) rfl ?_
  refine a_ic_ne (pc := 9) hG (tgt := 13) hd dX0_doDrop_9 (by decide) (fun hd => ?_) (fun hd => ?_)
  · refine a_aload_n (pc := 13) hG 1 rfl dX0_doDrop_13 rfl ?_
    refine a_iload_n (pc := 14) hG 0 rfl dX0_doDrop_14 rfl ?_
    refine a_cvI (pc := 15) hG (As := [.int v3]) (st := []) sc_20 cl_X0 mk_X0_payFor t_891 (by omega) (fun z hz => c_Desk_payFor v3 _  z hz) rfl (Nat.le_of_ble_eq_true rfl) hd dX0_doDrop_15 (fun r5 h4 hd => ?_)
    refine a_istore_nN (pc := 18) hG hd dX0_doDrop_18 rfl (by decide) (lf := fun x => [(3, .int x), (2, .int v3), (0, .ref (ad 20)), (1, .int a0)]) (fun _ => rfl) (fun v6 hd => ?_)
    refine a_aload_n (pc := 19) hG 2 rfl dX0_doDrop_19 rfl ?_
    refine a_iconst (pc := 20) hG dX0_doDrop_20 (v := (nI 1)) rfl ?_
    refine a_iload_n (pc := 21) hG 0 rfl dX0_doDrop_21 rfl ?_
    refine a_cvN (pc := 22) hG (As := [.int (nI 1), .int v6]) (st := []) sc_20 cl_X0 mk_X0_addNow t_875 (by omega) (fun z hz => c_Desk_addNow (nI 1) v6 _  z hz) rfl (Nat.le_of_ble_eq_true rfl) hd dX0_doDrop_22 (fun _ h7 hd => ?_)
    refine a_aload_n (pc := 25) hG 2 rfl dX0_doDrop_25 rfl ?_
    refine a_iload_n (pc := 26) hG 3 rfl dX0_doDrop_26 rfl ?_
    refine a_iconst (pc := 27) hG dX0_doDrop_27 (v := (nI 5)) rfl ?_
    refine a_iload_n (pc := 28) hG 0 rfl dX0_doDrop_28 rfl ?_
    refine a_cvN (pc := 29) hG (As := [.int a0, .int (nI 5), .int v6]) (st := []) sc_20 cl_X0 mk_X0_addClerk t_871 (by omega) (fun z hz => c_Desk_addClerk a0 (nI 5) v6 _  z hz) rfl (Nat.le_of_ble_eq_true rfl) hd dX0_doDrop_29 (fun _ h8 hd => ?_)
    refine a_aload_n (pc := 32) hG 2 rfl dX0_doDrop_32 rfl ?_
    refine a_iload_n (pc := 33) hG 3 rfl dX0_doDrop_33 rfl ?_
    refine a_iconst (pc := 34) hG dX0_doDrop_34 (v := (nI 2)) rfl ?_
    refine a_iconst (pc := 35) hG dX0_doDrop_35 (v := (-1 : Int32)) rfl ?_
    refine a_cvN (pc := 36) hG (As := [.int a0, .int (nI 2), .int (-1 : Int32)]) (st := []) sc_20 cl_X0 mk_X0_setClerk t_457 (by omega) (fun z hz => c_Desk_setClerk a0 (nI 2) (-1 : Int32) _  z hz) rfl (Nat.le_of_ble_eq_true rfl) hd dX0_doDrop_36 (fun _ h9 hd => ?_)
    refine a_aload_n (pc := 39) hG 2 rfl dX0_doDrop_39 rfl ?_
    refine a_iload_n (pc := 40) hG 1 rfl dX0_doDrop_40 rfl ?_
    refine a_iconst (pc := 41) hG dX0_doDrop_41 (v := (nI 4)) rfl ?_
    refine a_iconst (pc := 42) hG dX0_doDrop_42 (v := (nI 2)) rfl ?_
    refine a_cvN (pc := 43) hG (As := [.int v3, .int (nI 4), .int (nI 2)]) (st := []) sc_20 cl_X0 mk_X0_setCause t_445 (by omega) (fun z hz => c_Desk_setCause v3 (nI 4) (nI 2) _  z hz) rfl (Nat.le_of_ble_eq_true rfl) hd dX0_doDrop_43 (fun _ h10 hd => ?_)
    refine a_aload_n (pc := 46) hG 2 rfl dX0_doDrop_46 rfl ?_
    refine a_iload_n (pc := 47) hG 1 rfl dX0_doDrop_47 rfl ?_
    refine a_iconst (pc := 48) hG dX0_doDrop_48 (v := (nI 5)) rfl ?_
    refine a_iconst (pc := 49) hG dX0_doDrop_49 (v := (-1 : Int32)) rfl ?_
    refine a_cvN (pc := 50) hG (As := [.int v3, .int (nI 5), .int (-1 : Int32)]) (st := []) sc_20 cl_X0 mk_X0_setCause t_445 (by omega) (fun z hz => c_Desk_setCause v3 (nI 5) (-1 : Int32) _  z hz) rfl (Nat.le_of_ble_eq_true rfl) hd dX0_doDrop_50 (fun _ h11 hd => ?_)
    refine a_aload_n (pc := 53) hG 2 rfl dX0_doDrop_53 rfl ?_
    refine a_iload_n (pc := 54) hG 1 rfl dX0_doDrop_54 rfl ?_
    refine a_bipush (pc := 55) hG dX0_doDrop_55 (v := (nI 7)) rfl ?_
    refine a_aload_n (pc := 57) hG 2 rfl dX0_doDrop_57 rfl ?_
    refine a_iload_n (pc := 58) hG 1 rfl dX0_doDrop_58 rfl ?_
    refine a_cvI (pc := 59) hG (As := [.int v3]) (st := [.int (nI 7), .int v3, .ref (ad 20)]) sc_20 cl_X0 mk_X0_nearness t_895 (by omega) (fun z hz => c_Desk_nearness v3 _  z hz) rfl (Nat.le_of_ble_eq_true rfl) hd dX0_doDrop_59 (fun r13 h12 hd => ?_)
    refine a_cvN (pc := 62) hG (As := [.int v3, .int (nI 7), .int r13]) (st := []) sc_20 cl_X0 mk_X0_setCause t_445 (by omega) (fun z hz => c_Desk_setCause v3 (nI 7) r13 _  z hz) rfl (Nat.le_of_ble_eq_true rfl) hd dX0_doDrop_62 (fun _ h14 hd => ?_)
    refine a_aload_n (pc := 65) hG 2 rfl dX0_doDrop_65 rfl ?_
    refine a_iload_n (pc := 66) hG 1 rfl dX0_doDrop_66 rfl ?_
    refine a_bipush (pc := 67) hG dX0_doDrop_67 (v := (nI 8)) rfl ?_
    refine a_aload_n (pc := 69) hG 2 rfl dX0_doDrop_69 rfl ?_
    refine a_iconst (pc := 70) hG dX0_doDrop_70 (v := (nI 0)) rfl ?_
    refine a_cvI (pc := 71) hG (As := [.int (nI 0)]) (st := [.int (nI 8), .int v3, .ref (ad 20)]) sc_20 cl_X0 mk_X0_ofNow t_840 (by omega) (fun z hz => c_Desk_ofNow (nI 0) _  z hz) rfl (Nat.le_of_ble_eq_true rfl) hd dX0_doDrop_71 (fun r16 h15 hd => ?_)
    refine a_cvN (pc := 74) hG (As := [.int v3, .int (nI 8), .int r16]) (st := []) sc_20 cl_X0 mk_X0_setCause t_445 (by omega) (fun z hz => c_Desk_setCause v3 (nI 8) r16 _  z hz) rfl (Nat.le_of_ble_eq_true rfl) hd dX0_doDrop_74 (fun _ h17 hd => ?_)
    refine a_aload_n (pc := 77) hG 2 rfl dX0_doDrop_77 rfl ?_
    refine a_bipush (pc := 78) hG dX0_doDrop_78 (v := (nI 6)) rfl ?_
    refine a_iconst (pc := 80) hG dX0_doDrop_80 (v := (nI 1)) rfl ?_
    refine a_cvN (pc := 81) hG (As := [.int (nI 6), .int (nI 1)]) (st := []) sc_20 cl_X0 mk_X0_addNow t_875 (by omega) (fun z hz => c_Desk_addNow (nI 6) (nI 1) _  z hz) rfl (Nat.le_of_ble_eq_true rfl) hd dX0_doDrop_81 (fun _ h18 hd => ?_)
    exact a_vret (pc := 84) hG hd dX0_doDrop_84
  exact a_vret (pc := 12) hG hd dX0_doDrop_12
theorem dX11_drop_0 : decode cX11_drop 0 = .ok (.aload_n 0, 1) := by decide +kernel
theorem dX11_drop_1 : decode cX11_drop 1 = .ok (.getfield 19, 3) := by decide +kernel
theorem dX11_drop_4 : decode cX11_drop 4 = .ok (.iload_n 1, 1) := by decide +kernel
theorem dX11_drop_5 : decode cX11_drop 5 = .ok (.invokevirtual 177, 3) := by decide +kernel
theorem dX11_drop_8 : decode cX11_drop 8 = .ok (.ifCond .ne 5, 3) := by decide +kernel
theorem dX11_drop_11 : decode cX11_drop 11 = .ok (.iconst (-1), 1) := by decide +kernel
theorem dX11_drop_12 : decode cX11_drop 12 = .ok (.ireturn, 1) := by decide +kernel
theorem dX11_drop_13 : decode cX11_drop 13 = .ok (.aload_n 0, 1) := by decide +kernel
theorem dX11_drop_14 : decode cX11_drop 14 = .ok (.getfield 40, 3) := by decide +kernel
theorem dX11_drop_17 : decode cX11_drop 17 = .ok (.iload_n 1, 1) := by decide +kernel
theorem dX11_drop_18 : decode cX11_drop 18 = .ok (.invokevirtual 205, 3) := by decide +kernel
theorem dX11_drop_21 : decode cX11_drop 21 = .ok (.istore_n 2, 1) := by decide +kernel
theorem dX11_drop_22 : decode cX11_drop 22 = .ok (.iload_n 2, 1) := by decide +kernel
theorem dX11_drop_23 : decode cX11_drop 23 = .ok (.ifCond .ne 18, 3) := by decide +kernel
theorem dX11_drop_26 : decode cX11_drop 26 = .ok (.aload_n 0, 1) := by decide +kernel
theorem dX11_drop_27 : decode cX11_drop 27 = .ok (.getfield 40, 3) := by decide +kernel
theorem dX11_drop_30 : decode cX11_drop 30 = .ok (.invokevirtual 192, 3) := by decide +kernel
theorem dX11_drop_33 : decode cX11_drop 33 = .ok (.aload_n 0, 1) := by decide +kernel
theorem dX11_drop_34 : decode cX11_drop 34 = .ok (.getfield 40, 3) := by decide +kernel
theorem dX11_drop_37 : decode cX11_drop 37 = .ok (.iload_n 1, 1) := by decide +kernel
theorem dX11_drop_38 : decode cX11_drop 38 = .ok (.invokevirtual 208, 3) := by decide +kernel
theorem dX11_drop_41 : decode cX11_drop 41 = .ok (.iload_n 2, 1) := by decide +kernel
theorem dX11_drop_42 : decode cX11_drop 42 = .ok (.ireturn, 1) := by decide +kernel
set_option maxHeartbeats 4000000 in
theorem c_LC_drop {ad wad : Nat → Nat} (a0 : Int32) (h : HS)  (q : Int32 × HS) (hd : f_LC_drop a0 h = some q) : Ctr SHc ad wad yX11_drop cX11_drop 3 (some .int) 5 [.ref (ad 0), .int a0] h (some (.int q.1), q.2) := by
  refine enter (own := RX11) (lv := [(0, .ref (ad 0)), (1, .int a0)]) (by decide +kernel) rfl (Nat.le_of_ble_eq_true rfl) rfl (fun Γ hG => ?_)
  unfold f_LC_drop at hd
  refine a_aload_n (pc := 0) hG 0 rfl dX11_drop_0 rfl ?_
  refine a_getR (pc := 1) hG sc_0 cl_X11 ok_X11 1 (by decide) rfl t_482 dX11_drop_1 ?_
  refine a_iload_n (pc := 4) hG 1 rfl dX11_drop_4 rfl ?_
  refine a_cvI (pc := 5) hG (As := [.int a0]) (st := []) sc_3 cl_X5 mk_X5_hasClerk t_790 (by omega) (fun z hz => c_Plan_hasClerk_3 a0 _  z hz) rfl (Nat.le_of_ble_eq_true rfl) hd dX11_drop_5 (fun r2 h1 hd => ?_)
  refine a_if_ne (pc := 8) hG (tgt := 13) hd dX11_drop_8 (by decide) (fun hd => ?_) (fun hd => ?_)
  · refine a_aload_n (pc := 13) hG 0 rfl dX11_drop_13 rfl ?_
    refine a_getR (pc := 14) hG sc_0 cl_X11 ok_X11 4 (by decide) rfl t_485 dX11_drop_14 ?_
    refine a_iload_n (pc := 17) hG 1 rfl dX11_drop_17 rfl ?_
    refine a_cvI (pc := 18) hG (As := [.int a0]) (st := []) sc_20 cl_X0 mk_X0_whyNotDrop t_883 (by omega) (fun z hz => c_Desk_whyNotDrop a0 _  z hz) rfl (Nat.le_of_ble_eq_true rfl) hd dX11_drop_18 (fun r4 h3 hd => ?_)
    refine a_istore_nN (pc := 21) hG hd dX11_drop_21 rfl (by decide) (lf := fun x => [(2, .int x), (0, .ref (ad 0)), (1, .int a0)]) (fun _ => rfl) (fun v5 hd => ?_)
    refine a_iload_n (pc := 22) hG 0 rfl dX11_drop_22 rfl ?_
    refine a_if_ne (pc := 23) hG (tgt := 41) hd dX11_drop_23 (by decide) (fun hd => ?_) (fun hd => ?_)
    · refine a_iload_n (pc := 41) hG 0 rfl dX11_drop_41 rfl ?_
      exact a_iret (pc := 42) hG hd dX11_drop_42
    refine a_aload_n (pc := 26) hG 1 rfl dX11_drop_26 rfl ?_
    refine a_getR (pc := 27) hG sc_0 cl_X11 ok_X11 4 (by decide) rfl t_485 dX11_drop_27 ?_
    refine a_cvN (pc := 30) hG (As := []) (st := []) sc_20 cl_X0 mk_X0_remember t_841 (by omega) (fun z hz => c_Desk_remember  _  z hz) rfl (Nat.le_of_ble_eq_true rfl) hd dX11_drop_30 (fun _ h6 hd => ?_)
    refine a_aload_n (pc := 33) hG 1 rfl dX11_drop_33 rfl ?_
    refine a_getR (pc := 34) hG sc_0 cl_X11 ok_X11 4 (by decide) rfl t_485 dX11_drop_34 ?_
    refine a_iload_n (pc := 37) hG 2 rfl dX11_drop_37 rfl ?_
    refine a_cvN (pc := 38) hG (As := [.int a0]) (st := []) sc_20 cl_X0 mk_X0_doDrop t_887 (by omega) (fun z hz => c_Desk_doDrop a0 _  z hz) rfl (Nat.le_of_ble_eq_true rfl) hd dX11_drop_38 (fun _ h7 hd => ?_)
    refine a_iload_n (pc := 41) hG 0 rfl dX11_drop_41 rfl ?_
    exact a_iret (pc := 42) hG hd dX11_drop_42
  refine a_iconst (pc := 11) hG dX11_drop_11 (v := (-1 : Int32)) rfl ?_
  exact a_iret (pc := 12) hG hd dX11_drop_12
theorem dX0_passLeftAlone_0 : decode cX0_passLeftAlone 0 = .ok (.aload_n 0, 1) := by decide +kernel
theorem dX0_passLeftAlone_1 : decode cX0_passLeftAlone 1 = .ok (.iload_n 1, 1) := by decide +kernel
theorem dX0_passLeftAlone_2 : decode cX0_passLeftAlone 2 = .ok (.iconst 3, 1) := by decide +kernel
theorem dX0_passLeftAlone_3 : decode cX0_passLeftAlone 3 = .ok (.iconst (-1), 1) := by decide +kernel
theorem dX0_passLeftAlone_4 : decode cX0_passLeftAlone 4 = .ok (.invokevirtual 103, 3) := by decide +kernel
theorem dX0_passLeftAlone_7 : decode cX0_passLeftAlone 7 = .ok (.aload_n 0, 1) := by decide +kernel
theorem dX0_passLeftAlone_8 : decode cX0_passLeftAlone 8 = .ok (.iload_n 1, 1) := by decide +kernel
theorem dX0_passLeftAlone_9 : decode cX0_passLeftAlone 9 = .ok (.iconst 3, 1) := by decide +kernel
theorem dX0_passLeftAlone_10 : decode cX0_passLeftAlone 10 = .ok (.invokevirtual 81, 3) := by decide +kernel
theorem dX0_passLeftAlone_13 : decode cX0_passLeftAlone 13 = .ok (.ifCond .gt 11, 3) := by decide +kernel
theorem dX0_passLeftAlone_16 : decode cX0_passLeftAlone 16 = .ok (.aload_n 0, 1) := by decide +kernel
theorem dX0_passLeftAlone_17 : decode cX0_passLeftAlone 17 = .ok (.iload_n 1, 1) := by decide +kernel
theorem dX0_passLeftAlone_18 : decode cX0_passLeftAlone 18 = .ok (.iconst 4, 1) := by decide +kernel
theorem dX0_passLeftAlone_19 : decode cX0_passLeftAlone 19 = .ok (.iconst 4, 1) := by decide +kernel
theorem dX0_passLeftAlone_20 : decode cX0_passLeftAlone 20 = .ok (.invokevirtual 41, 3) := by decide +kernel
theorem dX0_passLeftAlone_23 : decode cX0_passLeftAlone 23 = .ok (.return_, 1) := by decide +kernel
theorem dX0_passLeftAlone_24 : decode cX0_passLeftAlone 24 = .ok (.aload_n 0, 1) := by decide +kernel
theorem dX0_passLeftAlone_25 : decode cX0_passLeftAlone 25 = .ok (.iconst 0, 1) := by decide +kernel
theorem dX0_passLeftAlone_26 : decode cX0_passLeftAlone 26 = .ok (.invokevirtual 75, 3) := by decide +kernel
theorem dX0_passLeftAlone_29 : decode cX0_passLeftAlone 29 = .ok (.aload_n 0, 1) := by decide +kernel
theorem dX0_passLeftAlone_30 : decode cX0_passLeftAlone 30 = .ok (.iload_n 1, 1) := by decide +kernel
theorem dX0_passLeftAlone_31 : decode cX0_passLeftAlone 31 = .ok (.bipush 8, 2) := by decide +kernel
theorem dX0_passLeftAlone_33 : decode cX0_passLeftAlone 33 = .ok (.invokevirtual 81, 3) := by decide +kernel
theorem dX0_passLeftAlone_36 : decode cX0_passLeftAlone 36 = .ok (.iconst 4, 1) := by decide +kernel
theorem dX0_passLeftAlone_37 : decode cX0_passLeftAlone 37 = .ok (.iadd, 1) := by decide +kernel
theorem dX0_passLeftAlone_38 : decode cX0_passLeftAlone 38 = .ok (.if_icmp .lt 7, 3) := by decide +kernel
theorem dX0_passLeftAlone_41 : decode cX0_passLeftAlone 41 = .ok (.iconst 1, 1) := by decide +kernel
theorem dX0_passLeftAlone_42 : decode cX0_passLeftAlone 42 = .ok (.goto 4, 3) := by decide +kernel
theorem dX0_passLeftAlone_45 : decode cX0_passLeftAlone 45 = .ok (.iconst 0, 1) := by decide +kernel
theorem dX0_passLeftAlone_46 : decode cX0_passLeftAlone 46 = .ok (.istore_n 2, 1) := by decide +kernel
theorem dX0_passLeftAlone_47 : decode cX0_passLeftAlone 47 = .ok (.aload_n 0, 1) := by decide +kernel
theorem dX0_passLeftAlone_48 : decode cX0_passLeftAlone 48 = .ok (.iload_n 1, 1) := by decide +kernel
theorem dX0_passLeftAlone_49 : decode cX0_passLeftAlone 49 = .ok (.iconst 4, 1) := by decide +kernel
theorem dX0_passLeftAlone_50 : decode cX0_passLeftAlone 50 = .ok (.invokevirtual 81, 3) := by decide +kernel
theorem dX0_passLeftAlone_53 : decode cX0_passLeftAlone 53 = .ok (.iconst 2, 1) := by decide +kernel
theorem dX0_passLeftAlone_54 : decode cX0_passLeftAlone 54 = .ok (.if_icmp .ne 14, 3) := by decide +kernel
theorem dX0_passLeftAlone_57 : decode cX0_passLeftAlone 57 = .ok (.iload_n 2, 1) := by decide +kernel
theorem dX0_passLeftAlone_58 : decode cX0_passLeftAlone 58 = .ok (.ifCond .eq 10, 3) := by decide +kernel
theorem dX0_passLeftAlone_61 : decode cX0_passLeftAlone 61 = .ok (.aload_n 0, 1) := by decide +kernel
theorem dX0_passLeftAlone_62 : decode cX0_passLeftAlone 62 = .ok (.iload_n 1, 1) := by decide +kernel
theorem dX0_passLeftAlone_63 : decode cX0_passLeftAlone 63 = .ok (.iconst 4, 1) := by decide +kernel
theorem dX0_passLeftAlone_64 : decode cX0_passLeftAlone 64 = .ok (.iconst 0, 1) := by decide +kernel
theorem dX0_passLeftAlone_65 : decode cX0_passLeftAlone 65 = .ok (.invokevirtual 41, 3) := by decide +kernel
theorem dX0_passLeftAlone_68 : decode cX0_passLeftAlone 68 = .ok (.return_, 1) := by decide +kernel
set_option maxHeartbeats 4000000 in
theorem c_Desk_passLeftAlone {ad wad : Nat → Nat} (a0 : Int32) (h : HS)  (q : Unit × HS) (hd : f_Desk_passLeftAlone a0 h = some q) : Ctr SHc ad wad yX0_passLeftAlone cX0_passLeftAlone 3 none 2 [.ref (ad 20), .int a0] h (none, q.2) := by
  refine enter (own := RX0) (lv := [(0, .ref (ad 20)), (1, .int a0)]) (by decide +kernel) rfl (Nat.le_of_ble_eq_true rfl) rfl (fun Γ hG => ?_)
  unfold f_Desk_passLeftAlone at hd
  refine a_aload_n (pc := 0) hG 0 rfl dX0_passLeftAlone_0 rfl ?_
  refine a_iload_n (pc := 1) hG 1 rfl dX0_passLeftAlone_1 rfl ?_
  refine a_iconst (pc := 2) hG dX0_passLeftAlone_2 (v := (nI 3)) rfl ?_
  refine a_iconst (pc := 3) hG dX0_passLeftAlone_3 (v := (-1 : Int32)) rfl ?_
  refine a_cvN (pc := 4) hG (As := [.int a0, .int (nI 3), .int (-1 : Int32)]) (st := []) sc_20 cl_X0 mk_X0_addCause t_867 (by omega) (fun z hz => c_Desk_addCause a0 (nI 3) (-1 : Int32) _  z hz) rfl (Nat.le_of_ble_eq_true rfl) hd dX0_passLeftAlone_4 (fun _ h1 hd => ?_)
  refine a_aload_n (pc := 7) hG 0 rfl dX0_passLeftAlone_7 rfl ?_
  refine a_iload_n (pc := 8) hG 1 rfl dX0_passLeftAlone_8 rfl ?_
  refine a_iconst (pc := 9) hG dX0_passLeftAlone_9 (v := (nI 3)) rfl ?_
  refine a_cvI (pc := 10) hG (As := [.int a0, .int (nI 3)]) (st := []) sc_20 cl_X0 mk_X0_ofCause t_806 (by omega) (fun z hz => c_Desk_ofCause a0 (nI 3) _  z hz) rfl (Nat.le_of_ble_eq_true rfl) hd dX0_passLeftAlone_10 (fun r3 h2 hd => ?_)
  refine a_if_gt (pc := 13) hG (tgt := 24) hd dX0_passLeftAlone_13 (by decide) (fun hd => ?_) (fun hd => ?_)
  · refine a_aload_n (pc := 24) hG 0 rfl dX0_passLeftAlone_24 rfl ?_
    refine a_iconst (pc := 25) hG dX0_passLeftAlone_25 (v := (nI 0)) rfl ?_
    refine a_cvI (pc := 26) hG (As := [.int (nI 0)]) (st := []) sc_20 cl_X0 mk_X0_ofNow t_840 (by omega) (fun z hz => c_Desk_ofNow (nI 0) _  z hz) rfl (Nat.le_of_ble_eq_true rfl) hd dX0_passLeftAlone_26 (fun r5 h4 hd => ?_)
    refine a_aload_n (pc := 29) hG 0 rfl dX0_passLeftAlone_29 rfl ?_
    refine a_iload_n (pc := 30) hG 1 rfl dX0_passLeftAlone_30 rfl ?_
    refine a_bipush (pc := 31) hG dX0_passLeftAlone_31 (v := (nI 8)) rfl ?_
    refine a_cvI (pc := 33) hG (As := [.int a0, .int (nI 8)]) (st := [.int r5]) sc_20 cl_X0 mk_X0_ofCause t_806 (by omega) (fun z hz => c_Desk_ofCause a0 (nI 8) _  z hz) rfl (Nat.le_of_ble_eq_true rfl) hd dX0_passLeftAlone_33 (fun r7 h6 hd => ?_)
    refine a_iconst (pc := 36) hG dX0_passLeftAlone_36 (v := (nI 4)) rfl ?_
    refine a_iadd (pc := 37) hG dX0_passLeftAlone_37 ?_
    refine a_join hd (Q := fun J : Int32 → HS → Option (Unit × HS) => ∀ (v9 : Int32) (h10 : HS), J v9 h10 = some q → AW SHc ad 3 (none, q.2) Γ 46 [(0, .ref (ad 20)), (1, .int a0)] [.int v9] h10) (fun v9 h10 hd => ?_) (fun J8 hJ8 hd => ?_)
    · refine a_istore_nN (pc := 46) hG hd dX0_passLeftAlone_46 rfl (by decide) (lf := fun x => [(2, .int x), (0, .ref (ad 20)), (1, .int a0)]) (fun _ => rfl) (fun v11 hd => ?_)
      refine a_aload_n (pc := 47) hG 1 rfl dX0_passLeftAlone_47 rfl ?_
      refine a_iload_n (pc := 48) hG 2 rfl dX0_passLeftAlone_48 rfl ?_
      refine a_iconst (pc := 49) hG dX0_passLeftAlone_49 (v := (nI 4)) rfl ?_
      refine a_cvI (pc := 50) hG (As := [.int a0, .int (nI 4)]) (st := []) sc_20 cl_X0 mk_X0_ofCause t_806 (by omega) (fun z hz => c_Desk_ofCause a0 (nI 4) _  z hz) rfl (Nat.le_of_ble_eq_true rfl) hd dX0_passLeftAlone_50 (fun r13 h12 hd => ?_)
      refine a_iconst (pc := 53) hG dX0_passLeftAlone_53 (v := (nI 2)) rfl ?_
      refine a_ic_ne (pc := 54) hG (tgt := 68) hd dX0_passLeftAlone_54 (by decide) (fun hd => ?_) (fun hd => ?_)
      · exact a_vret (pc := 68) hG hd dX0_passLeftAlone_68
      refine a_iload_n (pc := 57) hG 0 rfl dX0_passLeftAlone_57 rfl ?_
      refine a_if_eq (pc := 58) hG (tgt := 68) hd dX0_passLeftAlone_58 (by decide) (fun hd => ?_) (fun hd => ?_)
      · exact a_vret (pc := 68) hG hd dX0_passLeftAlone_68
      refine a_aload_n (pc := 61) hG 1 rfl dX0_passLeftAlone_61 rfl ?_
      refine a_iload_n (pc := 62) hG 2 rfl dX0_passLeftAlone_62 rfl ?_
      refine a_iconst (pc := 63) hG dX0_passLeftAlone_63 (v := (nI 4)) rfl ?_
      refine a_iconst (pc := 64) hG dX0_passLeftAlone_64 (v := (nI 0)) rfl ?_
      refine a_cvN (pc := 65) hG (As := [.int a0, .int (nI 4), .int (nI 0)]) (st := []) sc_20 cl_X0 mk_X0_setCause t_445 (by omega) (fun z hz => c_Desk_setCause a0 (nI 4) (nI 0) _  z hz) rfl (Nat.le_of_ble_eq_true rfl) hd dX0_passLeftAlone_65 (fun _ h14 hd => ?_)
      exact a_vret (pc := 68) hG hd dX0_passLeftAlone_68
    refine a_ic_lt (pc := 38) hG (tgt := 45) hd dX0_passLeftAlone_38 (by decide) (fun hd => ?_) (fun hd => ?_)
    · refine a_iconst (pc := 45) hG dX0_passLeftAlone_45 (v := (nI 0)) rfl ?_
      exact AW.sub [0, 1] rfl (hJ8 _ _ hd)
    refine a_iconst (pc := 41) hG dX0_passLeftAlone_41 (v := (nI 1)) rfl ?_
    refine a_goto (pc := 42) hG (tgt := 46) dX0_passLeftAlone_42 (by decide) ?_
    exact AW.sub [0, 1] rfl (hJ8 _ _ hd)
  refine a_aload_n (pc := 16) hG 0 rfl dX0_passLeftAlone_16 rfl ?_
  refine a_iload_n (pc := 17) hG 1 rfl dX0_passLeftAlone_17 rfl ?_
  refine a_iconst (pc := 18) hG dX0_passLeftAlone_18 (v := (nI 4)) rfl ?_
  refine a_iconst (pc := 19) hG dX0_passLeftAlone_19 (v := (nI 4)) rfl ?_
  refine a_cvN (pc := 20) hG (As := [.int a0, .int (nI 4), .int (nI 4)]) (st := []) sc_20 cl_X0 mk_X0_setCause t_445 (by omega) (fun z hz => c_Desk_setCause a0 (nI 4) (nI 4) _  z hz) rfl (Nat.le_of_ble_eq_true rfl) hd dX0_passLeftAlone_20 (fun _ h15 hd => ?_)
  exact a_vret (pc := 23) hG hd dX0_passLeftAlone_23
theorem dX0_passTaken_0 : decode cX0_passTaken 0 = .ok (.aload_n 0, 1) := by decide +kernel
theorem dX0_passTaken_1 : decode cX0_passTaken 1 = .ok (.iload_n 1, 1) := by decide +kernel
theorem dX0_passTaken_2 : decode cX0_passTaken 2 = .ok (.invokevirtual 86, 3) := by decide +kernel
theorem dX0_passTaken_5 : decode cX0_passTaken 5 = .ok (.ifCond .eq 23, 3) := by decide +kernel
theorem dX0_passTaken_8 : decode cX0_passTaken 8 = .ok (.aload_n 0, 1) := by decide +kernel
theorem dX0_passTaken_9 : decode cX0_passTaken 9 = .ok (.iload_n 1, 1) := by decide +kernel
theorem dX0_passTaken_10 : decode cX0_passTaken 10 = .ok (.iconst 3, 1) := by decide +kernel
theorem dX0_passTaken_11 : decode cX0_passTaken 11 = .ok (.aload_n 0, 1) := by decide +kernel
theorem dX0_passTaken_12 : decode cX0_passTaken 12 = .ok (.iload_n 1, 1) := by decide +kernel
theorem dX0_passTaken_13 : decode cX0_passTaken 13 = .ok (.iconst 3, 1) := by decide +kernel
theorem dX0_passTaken_14 : decode cX0_passTaken 14 = .ok (.invokevirtual 81, 3) := by decide +kernel
theorem dX0_passTaken_17 : decode cX0_passTaken 17 = .ok (.iconst 1, 1) := by decide +kernel
theorem dX0_passTaken_18 : decode cX0_passTaken 18 = .ok (.iadd, 1) := by decide +kernel
theorem dX0_passTaken_19 : decode cX0_passTaken 19 = .ok (.bipush 20, 2) := by decide +kernel
theorem dX0_passTaken_21 : decode cX0_passTaken 21 = .ok (.invokestatic 115, 3) := by decide +kernel
theorem dX0_passTaken_24 : decode cX0_passTaken 24 = .ok (.invokevirtual 41, 3) := by decide +kernel
theorem dX0_passTaken_27 : decode cX0_passTaken 27 = .ok (.return_, 1) := by decide +kernel
theorem dX0_passTaken_28 : decode cX0_passTaken 28 = .ok (.aload_n 0, 1) := by decide +kernel
theorem dX0_passTaken_29 : decode cX0_passTaken 29 = .ok (.iload_n 1, 1) := by decide +kernel
theorem dX0_passTaken_30 : decode cX0_passTaken 30 = .ok (.iconst 5, 1) := by decide +kernel
theorem dX0_passTaken_31 : decode cX0_passTaken 31 = .ok (.invokevirtual 81, 3) := by decide +kernel
theorem dX0_passTaken_34 : decode cX0_passTaken 34 = .ok (.istore_n 2, 1) := by decide +kernel
theorem dX0_passTaken_35 : decode cX0_passTaken 35 = .ok (.aload_n 0, 1) := by decide +kernel
theorem dX0_passTaken_36 : decode cX0_passTaken 36 = .ok (.getfield 27, 3) := by decide +kernel
theorem dX0_passTaken_39 : decode cX0_passTaken 39 = .ok (.iload_n 2, 1) := by decide +kernel
theorem dX0_passTaken_40 : decode cX0_passTaken 40 = .ok (.invokevirtual 130, 3) := by decide +kernel
theorem dX0_passTaken_43 : decode cX0_passTaken 43 = .ok (.ifCond .eq 10, 3) := by decide +kernel
theorem dX0_passTaken_46 : decode cX0_passTaken 46 = .ok (.aload_n 0, 1) := by decide +kernel
theorem dX0_passTaken_47 : decode cX0_passTaken 47 = .ok (.iload_n 2, 1) := by decide +kernel
theorem dX0_passTaken_48 : decode cX0_passTaken 48 = .ok (.iconst 2, 1) := by decide +kernel
theorem dX0_passTaken_49 : decode cX0_passTaken 49 = .ok (.iconst (-1), 1) := by decide +kernel
theorem dX0_passTaken_50 : decode cX0_passTaken 50 = .ok (.invokevirtual 52, 3) := by decide +kernel
theorem dX0_passTaken_53 : decode cX0_passTaken 53 = .ok (.aload_n 0, 1) := by decide +kernel
theorem dX0_passTaken_54 : decode cX0_passTaken 54 = .ok (.iload_n 1, 1) := by decide +kernel
theorem dX0_passTaken_55 : decode cX0_passTaken 55 = .ok (.iconst 4, 1) := by decide +kernel
theorem dX0_passTaken_56 : decode cX0_passTaken 56 = .ok (.iconst 3, 1) := by decide +kernel
theorem dX0_passTaken_57 : decode cX0_passTaken 57 = .ok (.invokevirtual 41, 3) := by decide +kernel
theorem dX0_passTaken_60 : decode cX0_passTaken 60 = .ok (.aload_n 0, 1) := by decide +kernel
theorem dX0_passTaken_61 : decode cX0_passTaken 61 = .ok (.iload_n 1, 1) := by decide +kernel
theorem dX0_passTaken_62 : decode cX0_passTaken 62 = .ok (.iconst 5, 1) := by decide +kernel
theorem dX0_passTaken_63 : decode cX0_passTaken 63 = .ok (.iconst (-1), 1) := by decide +kernel
theorem dX0_passTaken_64 : decode cX0_passTaken 64 = .ok (.invokevirtual 41, 3) := by decide +kernel
theorem dX0_passTaken_67 : decode cX0_passTaken 67 = .ok (.aload_n 0, 1) := by decide +kernel
theorem dX0_passTaken_68 : decode cX0_passTaken 68 = .ok (.iconst 1, 1) := by decide +kernel
theorem dX0_passTaken_69 : decode cX0_passTaken 69 = .ok (.iconst 0, 1) := by decide +kernel
theorem dX0_passTaken_70 : decode cX0_passTaken 70 = .ok (.invokevirtual 58, 3) := by decide +kernel
theorem dX0_passTaken_73 : decode cX0_passTaken 73 = .ok (.aload_n 0, 1) := by decide +kernel
theorem dX0_passTaken_74 : decode cX0_passTaken 74 = .ok (.iconst 2, 1) := by decide +kernel
theorem dX0_passTaken_75 : decode cX0_passTaken 75 = .ok (.iconst 1, 1) := by decide +kernel
theorem dX0_passTaken_76 : decode cX0_passTaken 76 = .ok (.invokevirtual 109, 3) := by decide +kernel
theorem dX0_passTaken_79 : decode cX0_passTaken 79 = .ok (.aload_n 0, 1) := by decide +kernel
theorem dX0_passTaken_80 : decode cX0_passTaken 80 = .ok (.iconst 5, 1) := by decide +kernel
theorem dX0_passTaken_81 : decode cX0_passTaken 81 = .ok (.invokevirtual 75, 3) := by decide +kernel
theorem dX0_passTaken_84 : decode cX0_passTaken 84 = .ok (.iconst (-1), 1) := by decide +kernel
theorem dX0_passTaken_85 : decode cX0_passTaken 85 = .ok (.if_icmp .ne 13, 3) := by decide +kernel
theorem dX0_passTaken_88 : decode cX0_passTaken 88 = .ok (.aload_n 0, 1) := by decide +kernel
theorem dX0_passTaken_89 : decode cX0_passTaken 89 = .ok (.iconst 5, 1) := by decide +kernel
theorem dX0_passTaken_90 : decode cX0_passTaken 90 = .ok (.aload_n 0, 1) := by decide +kernel
theorem dX0_passTaken_91 : decode cX0_passTaken 91 = .ok (.iconst 0, 1) := by decide +kernel
theorem dX0_passTaken_92 : decode cX0_passTaken 92 = .ok (.invokevirtual 75, 3) := by decide +kernel
theorem dX0_passTaken_95 : decode cX0_passTaken 95 = .ok (.invokevirtual 58, 3) := by decide +kernel
theorem dX0_passTaken_98 : decode cX0_passTaken 98 = .ok (.return_, 1) := by decide +kernel
set_option maxHeartbeats 4000000 in
theorem c_Desk_passTaken {ad wad : Nat → Nat} (a0 : Int32) (h : HS)  (q : Unit × HS) (hd : f_Desk_passTaken a0 h = some q) : Ctr SHc ad wad yX0_passTaken cX0_passTaken 3 none 3 [.ref (ad 20), .int a0] h (none, q.2) := by
  refine enter (own := RX0) (lv := [(0, .ref (ad 20)), (1, .int a0)]) (by decide +kernel) rfl (Nat.le_of_ble_eq_true rfl) rfl (fun Γ hG => ?_)
  unfold f_Desk_passTaken at hd
  refine a_aload_n (pc := 0) hG 0 rfl dX0_passTaken_0 rfl ?_
  refine a_iload_n (pc := 1) hG 1 rfl dX0_passTaken_1 rfl ?_
  refine a_cvI (pc := 2) hG (As := [.int a0]) (st := []) sc_20 cl_X0 mk_X0_isSafe t_828 (by omega) (fun z hz => c_Desk_isSafe a0 _  z hz) rfl (Nat.le_of_ble_eq_true rfl) hd dX0_passTaken_2 (fun r2 h1 hd => ?_)
  refine a_if_eq (pc := 5) hG (tgt := 28) hd dX0_passTaken_5 (by decide) (fun hd => ?_) (fun hd => ?_)
  · refine a_aload_n (pc := 28) hG 0 rfl dX0_passTaken_28 rfl ?_
    refine a_iload_n (pc := 29) hG 1 rfl dX0_passTaken_29 rfl ?_
    refine a_iconst (pc := 30) hG dX0_passTaken_30 (v := (nI 5)) rfl ?_
    refine a_cvI (pc := 31) hG (As := [.int a0, .int (nI 5)]) (st := []) sc_20 cl_X0 mk_X0_ofCause t_806 (by omega) (fun z hz => c_Desk_ofCause a0 (nI 5) _  z hz) rfl (Nat.le_of_ble_eq_true rfl) hd dX0_passTaken_31 (fun r4 h3 hd => ?_)
    refine a_istore_nN (pc := 34) hG hd dX0_passTaken_34 rfl (by decide) (lf := fun x => [(2, .int x), (0, .ref (ad 20)), (1, .int a0)]) (fun _ => rfl) (fun v5 hd => ?_)
    refine a_aload_n (pc := 35) hG 1 rfl dX0_passTaken_35 rfl ?_
    refine a_getR (pc := 36) hG sc_20 cl_X0 ok_X0 0 (by decide) rfl t_266 dX0_passTaken_36 ?_
    refine a_iload_n (pc := 39) hG 0 rfl dX0_passTaken_39 rfl ?_
    refine a_cvI (pc := 40) hG (As := [.int v5]) (st := []) sc_3 cl_X5 mk_X5_hasClerk t_921 (by omega) (fun z hz => c_Plan_hasClerk_3 v5 _  z hz) rfl (Nat.le_of_ble_eq_true rfl) hd dX0_passTaken_40 (fun r7 h6 hd => ?_)
    refine a_join hd (Q := fun J : HS → Option (Unit × HS) => ∀  (h9 : HS), J  h9 = some q → AW SHc ad 3 (none, q.2) Γ 53 [(0, .ref (ad 20)), (1, .int a0)] [] h9) (fun  h9 hd => ?_) (fun J8 hJ8 hd => ?_)
    · refine a_aload_n (pc := 53) hG 0 rfl dX0_passTaken_53 rfl ?_
      refine a_iload_n (pc := 54) hG 1 rfl dX0_passTaken_54 rfl ?_
      refine a_iconst (pc := 55) hG dX0_passTaken_55 (v := (nI 4)) rfl ?_
      refine a_iconst (pc := 56) hG dX0_passTaken_56 (v := (nI 3)) rfl ?_
      refine a_cvN (pc := 57) hG (As := [.int a0, .int (nI 4), .int (nI 3)]) (st := []) sc_20 cl_X0 mk_X0_setCause t_445 (by omega) (fun z hz => c_Desk_setCause a0 (nI 4) (nI 3) _  z hz) rfl (Nat.le_of_ble_eq_true rfl) hd dX0_passTaken_57 (fun _ h10 hd => ?_)
      refine a_aload_n (pc := 60) hG 0 rfl dX0_passTaken_60 rfl ?_
      refine a_iload_n (pc := 61) hG 1 rfl dX0_passTaken_61 rfl ?_
      refine a_iconst (pc := 62) hG dX0_passTaken_62 (v := (nI 5)) rfl ?_
      refine a_iconst (pc := 63) hG dX0_passTaken_63 (v := (-1 : Int32)) rfl ?_
      refine a_cvN (pc := 64) hG (As := [.int a0, .int (nI 5), .int (-1 : Int32)]) (st := []) sc_20 cl_X0 mk_X0_setCause t_445 (by omega) (fun z hz => c_Desk_setCause a0 (nI 5) (-1 : Int32) _  z hz) rfl (Nat.le_of_ble_eq_true rfl) hd dX0_passTaken_64 (fun _ h11 hd => ?_)
      refine a_aload_n (pc := 67) hG 0 rfl dX0_passTaken_67 rfl ?_
      refine a_iconst (pc := 68) hG dX0_passTaken_68 (v := (nI 1)) rfl ?_
      refine a_iconst (pc := 69) hG dX0_passTaken_69 (v := (nI 0)) rfl ?_
      refine a_cvN (pc := 70) hG (As := [.int (nI 1), .int (nI 0)]) (st := []) sc_20 cl_X0 mk_X0_setNow t_465 (by omega) (fun z hz => c_Desk_setNow (nI 1) (nI 0) _  z hz) rfl (Nat.le_of_ble_eq_true rfl) hd dX0_passTaken_70 (fun _ h12 hd => ?_)
      refine a_aload_n (pc := 73) hG 0 rfl dX0_passTaken_73 rfl ?_
      refine a_iconst (pc := 74) hG dX0_passTaken_74 (v := (nI 2)) rfl ?_
      refine a_iconst (pc := 75) hG dX0_passTaken_75 (v := (nI 1)) rfl ?_
      refine a_cvN (pc := 76) hG (As := [.int (nI 2), .int (nI 1)]) (st := []) sc_20 cl_X0 mk_X0_addNow t_875 (by omega) (fun z hz => c_Desk_addNow (nI 2) (nI 1) _  z hz) rfl (Nat.le_of_ble_eq_true rfl) hd dX0_passTaken_76 (fun _ h13 hd => ?_)
      refine a_aload_n (pc := 79) hG 0 rfl dX0_passTaken_79 rfl ?_
      refine a_iconst (pc := 80) hG dX0_passTaken_80 (v := (nI 5)) rfl ?_
      refine a_cvI (pc := 81) hG (As := [.int (nI 5)]) (st := []) sc_20 cl_X0 mk_X0_ofNow t_840 (by omega) (fun z hz => c_Desk_ofNow (nI 5) _  z hz) rfl (Nat.le_of_ble_eq_true rfl) hd dX0_passTaken_81 (fun r15 h14 hd => ?_)
      refine a_iconst (pc := 84) hG dX0_passTaken_84 (v := (-1 : Int32)) rfl ?_
      refine a_ic_ne (pc := 85) hG (tgt := 98) hd dX0_passTaken_85 (by decide) (fun hd => ?_) (fun hd => ?_)
      · exact a_vret (pc := 98) hG hd dX0_passTaken_98
      refine a_aload_n (pc := 88) hG 0 rfl dX0_passTaken_88 rfl ?_
      refine a_iconst (pc := 89) hG dX0_passTaken_89 (v := (nI 5)) rfl ?_
      refine a_aload_n (pc := 90) hG 0 rfl dX0_passTaken_90 rfl ?_
      refine a_iconst (pc := 91) hG dX0_passTaken_91 (v := (nI 0)) rfl ?_
      refine a_cvI (pc := 92) hG (As := [.int (nI 0)]) (st := [.int (nI 5), .ref (ad 20)]) sc_20 cl_X0 mk_X0_ofNow t_840 (by omega) (fun z hz => c_Desk_ofNow (nI 0) _  z hz) rfl (Nat.le_of_ble_eq_true rfl) hd dX0_passTaken_92 (fun r17 h16 hd => ?_)
      refine a_cvN (pc := 95) hG (As := [.int (nI 5), .int r17]) (st := []) sc_20 cl_X0 mk_X0_setNow t_465 (by omega) (fun z hz => c_Desk_setNow (nI 5) r17 _  z hz) rfl (Nat.le_of_ble_eq_true rfl) hd dX0_passTaken_95 (fun _ h18 hd => ?_)
      exact a_vret (pc := 98) hG hd dX0_passTaken_98
    refine a_if_eq (pc := 43) hG (tgt := 53) hd dX0_passTaken_43 (by decide) (fun hd => ?_) (fun hd => ?_)
    · exact AW.sub [1, 2] rfl (hJ8  _ hd)
    refine a_aload_n (pc := 46) hG 1 rfl dX0_passTaken_46 rfl ?_
    refine a_iload_n (pc := 47) hG 0 rfl dX0_passTaken_47 rfl ?_
    refine a_iconst (pc := 48) hG dX0_passTaken_48 (v := (nI 2)) rfl ?_
    refine a_iconst (pc := 49) hG dX0_passTaken_49 (v := (-1 : Int32)) rfl ?_
    refine a_cvN (pc := 50) hG (As := [.int v5, .int (nI 2), .int (-1 : Int32)]) (st := []) sc_20 cl_X0 mk_X0_setClerk t_457 (by omega) (fun z hz => c_Desk_setClerk v5 (nI 2) (-1 : Int32) _  z hz) rfl (Nat.le_of_ble_eq_true rfl) hd dX0_passTaken_50 (fun _ h19 hd => ?_)
    exact AW.sub [1, 2] rfl (hJ8  _ hd)
  refine a_aload_n (pc := 8) hG 0 rfl dX0_passTaken_8 rfl ?_
  refine a_iload_n (pc := 9) hG 1 rfl dX0_passTaken_9 rfl ?_
  refine a_iconst (pc := 10) hG dX0_passTaken_10 (v := (nI 3)) rfl ?_
  refine a_aload_n (pc := 11) hG 0 rfl dX0_passTaken_11 rfl ?_
  refine a_iload_n (pc := 12) hG 1 rfl dX0_passTaken_12 rfl ?_
  refine a_iconst (pc := 13) hG dX0_passTaken_13 (v := (nI 3)) rfl ?_
  refine a_cvI (pc := 14) hG (As := [.int a0, .int (nI 3)]) (st := [.int (nI 3), .int a0, .ref (ad 20)]) sc_20 cl_X0 mk_X0_ofCause t_806 (by omega) (fun z hz => c_Desk_ofCause a0 (nI 3) _  z hz) rfl (Nat.le_of_ble_eq_true rfl) hd dX0_passTaken_14 (fun r21 h20 hd => ?_)
  refine a_iconst (pc := 17) hG dX0_passTaken_17 (v := (nI 1)) rfl ?_
  refine a_iadd (pc := 18) hG dX0_passTaken_18 ?_
  refine a_bipush (pc := 19) hG dX0_passTaken_19 (v := (nI 20)) rfl ?_
  refine a_min (pc := 21) hG t_912 t_582 t_133 t_583 (by omega) (Nat.le_of_ble_eq_true rfl) dX0_passTaken_21 ?_
  refine a_cvN (pc := 24) hG (As := [.int a0, .int (nI 3), .int (if (nI 20) < (r21 + (nI 1)) then (nI 20) else (r21 + (nI 1)))]) (st := []) sc_20 cl_X0 mk_X0_setCause t_445 (by omega) (fun z hz => c_Desk_setCause a0 (nI 3) (if (nI 20) < (r21 + (nI 1)) then (nI 20) else (r21 + (nI 1))) _  z hz) rfl (Nat.le_of_ble_eq_true rfl) hd dX0_passTaken_24 (fun _ h22 hd => ?_)
  exact a_vret (pc := 27) hG hd dX0_passTaken_27
theorem dX0_passWeek_0 : decode cX0_passWeek 0 = .ok (.iconst 0, 1) := by decide +kernel
theorem dX0_passWeek_1 : decode cX0_passWeek 1 = .ok (.istore_n 1, 1) := by decide +kernel
theorem dX0_passWeek_2 : decode cX0_passWeek 2 = .ok (.iload_n 1, 1) := by decide +kernel
theorem dX0_passWeek_3 : decode cX0_passWeek 3 = .ok (.aload_n 0, 1) := by decide +kernel
theorem dX0_passWeek_4 : decode cX0_passWeek 4 = .ok (.getfield 27, 3) := by decide +kernel
theorem dX0_passWeek_7 : decode cX0_passWeek 7 = .ok (.invokevirtual 45, 3) := by decide +kernel
theorem dX0_passWeek_10 : decode cX0_passWeek 10 = .ok (.if_icmp .ge 47, 3) := by decide +kernel
theorem dX0_passWeek_13 : decode cX0_passWeek 13 = .ok (.aload_n 0, 1) := by decide +kernel
theorem dX0_passWeek_14 : decode cX0_passWeek 14 = .ok (.iload_n 1, 1) := by decide +kernel
theorem dX0_passWeek_15 : decode cX0_passWeek 15 = .ok (.iconst 4, 1) := by decide +kernel
theorem dX0_passWeek_16 : decode cX0_passWeek 16 = .ok (.invokevirtual 78, 3) := by decide +kernel
theorem dX0_passWeek_19 : decode cX0_passWeek 19 = .ok (.ifCond .ne 25, 3) := by decide +kernel
theorem dX0_passWeek_22 : decode cX0_passWeek 22 = .ok (.aload_n 0, 1) := by decide +kernel
theorem dX0_passWeek_23 : decode cX0_passWeek 23 = .ok (.iload_n 1, 1) := by decide +kernel
theorem dX0_passWeek_24 : decode cX0_passWeek 24 = .ok (.iconst 0, 1) := by decide +kernel
theorem dX0_passWeek_25 : decode cX0_passWeek 25 = .ok (.invokevirtual 78, 3) := by decide +kernel
theorem dX0_passWeek_28 : decode cX0_passWeek 28 = .ok (.aload_n 0, 1) := by decide +kernel
theorem dX0_passWeek_29 : decode cX0_passWeek 29 = .ok (.iload_n 1, 1) := by decide +kernel
theorem dX0_passWeek_30 : decode cX0_passWeek 30 = .ok (.iconst 1, 1) := by decide +kernel
theorem dX0_passWeek_31 : decode cX0_passWeek 31 = .ok (.invokevirtual 78, 3) := by decide +kernel
theorem dX0_passWeek_34 : decode cX0_passWeek 34 = .ok (.if_icmp .ge 10, 3) := by decide +kernel
theorem dX0_passWeek_37 : decode cX0_passWeek 37 = .ok (.aload_n 0, 1) := by decide +kernel
theorem dX0_passWeek_38 : decode cX0_passWeek 38 = .ok (.iload_n 1, 1) := by decide +kernel
theorem dX0_passWeek_39 : decode cX0_passWeek 39 = .ok (.iconst 0, 1) := by decide +kernel
theorem dX0_passWeek_40 : decode cX0_passWeek 40 = .ok (.iconst 1, 1) := by decide +kernel
theorem dX0_passWeek_41 : decode cX0_passWeek 41 = .ok (.invokevirtual 106, 3) := by decide +kernel
theorem dX0_passWeek_44 : decode cX0_passWeek 44 = .ok (.aload_n 0, 1) := by decide +kernel
theorem dX0_passWeek_45 : decode cX0_passWeek 45 = .ok (.iload_n 1, 1) := by decide +kernel
theorem dX0_passWeek_46 : decode cX0_passWeek 46 = .ok (.iconst 4, 1) := by decide +kernel
theorem dX0_passWeek_47 : decode cX0_passWeek 47 = .ok (.iconst 0, 1) := by decide +kernel
theorem dX0_passWeek_48 : decode cX0_passWeek 48 = .ok (.invokevirtual 52, 3) := by decide +kernel
theorem dX0_passWeek_51 : decode cX0_passWeek 51 = .ok (.iinc 1 1, 3) := by decide +kernel
theorem dX0_passWeek_54 : decode cX0_passWeek 54 = .ok (.goto (-52), 3) := by decide +kernel
theorem dX0_passWeek_57 : decode cX0_passWeek 57 = .ok (.iconst 0, 1) := by decide +kernel
theorem dX0_passWeek_58 : decode cX0_passWeek 58 = .ok (.istore_n 1, 1) := by decide +kernel
theorem dX0_passWeek_59 : decode cX0_passWeek 59 = .ok (.iload_n 1, 1) := by decide +kernel
theorem dX0_passWeek_60 : decode cX0_passWeek 60 = .ok (.aload_n 0, 1) := by decide +kernel
theorem dX0_passWeek_61 : decode cX0_passWeek 61 = .ok (.getfield 27, 3) := by decide +kernel
theorem dX0_passWeek_64 : decode cX0_passWeek 64 = .ok (.invokevirtual 31, 3) := by decide +kernel
theorem dX0_passWeek_67 : decode cX0_passWeek 67 = .ok (.if_icmp .ge 43, 3) := by decide +kernel
theorem dX0_passWeek_70 : decode cX0_passWeek 70 = .ok (.aload_n 0, 1) := by decide +kernel
theorem dX0_passWeek_71 : decode cX0_passWeek 71 = .ok (.iload_n 1, 1) := by decide +kernel
theorem dX0_passWeek_72 : decode cX0_passWeek 72 = .ok (.iconst 4, 1) := by decide +kernel
theorem dX0_passWeek_73 : decode cX0_passWeek 73 = .ok (.invokevirtual 81, 3) := by decide +kernel
theorem dX0_passWeek_76 : decode cX0_passWeek 76 = .ok (.istore_n 2, 1) := by decide +kernel
theorem dX0_passWeek_77 : decode cX0_passWeek 77 = .ok (.iload_n 2, 1) := by decide +kernel
theorem dX0_passWeek_78 : decode cX0_passWeek 78 = .ok (.iconst 1, 1) := by decide +kernel
theorem dX0_passWeek_79 : decode cX0_passWeek 79 = .ok (.if_icmp .ne 11, 3) := by decide +kernel
theorem dX0_passWeek_82 : decode cX0_passWeek 82 = .ok (.aload_n 0, 1) := by decide +kernel
theorem dX0_passWeek_83 : decode cX0_passWeek 83 = .ok (.iload_n 1, 1) := by decide +kernel
theorem dX0_passWeek_84 : decode cX0_passWeek 84 = .ok (.invokevirtual 123, 3) := by decide +kernel
theorem dX0_passWeek_87 : decode cX0_passWeek 87 = .ok (.goto 17, 3) := by decide +kernel
theorem dX0_passWeek_90 : decode cX0_passWeek 90 = .ok (.iload_n 2, 1) := by decide +kernel
theorem dX0_passWeek_91 : decode cX0_passWeek 91 = .ok (.ifCond .eq 8, 3) := by decide +kernel
theorem dX0_passWeek_94 : decode cX0_passWeek 94 = .ok (.iload_n 2, 1) := by decide +kernel
theorem dX0_passWeek_95 : decode cX0_passWeek 95 = .ok (.iconst 2, 1) := by decide +kernel
theorem dX0_passWeek_96 : decode cX0_passWeek 96 = .ok (.if_icmp .ne 8, 3) := by decide +kernel
theorem dX0_passWeek_99 : decode cX0_passWeek 99 = .ok (.aload_n 0, 1) := by decide +kernel
theorem dX0_passWeek_100 : decode cX0_passWeek 100 = .ok (.iload_n 1, 1) := by decide +kernel
theorem dX0_passWeek_101 : decode cX0_passWeek 101 = .ok (.invokevirtual 127, 3) := by decide +kernel
theorem dX0_passWeek_104 : decode cX0_passWeek 104 = .ok (.iinc 1 1, 3) := by decide +kernel
theorem dX0_passWeek_107 : decode cX0_passWeek 107 = .ok (.goto (-48), 3) := by decide +kernel
theorem dX0_passWeek_110 : decode cX0_passWeek 110 = .ok (.aload_n 0, 1) := by decide +kernel
theorem dX0_passWeek_111 : decode cX0_passWeek 111 = .ok (.iconst 0, 1) := by decide +kernel
theorem dX0_passWeek_112 : decode cX0_passWeek 112 = .ok (.iconst 1, 1) := by decide +kernel
theorem dX0_passWeek_113 : decode cX0_passWeek 113 = .ok (.invokevirtual 109, 3) := by decide +kernel
theorem dX0_passWeek_116 : decode cX0_passWeek 116 = .ok (.return_, 1) := by decide +kernel
set_option maxHeartbeats 4000000 in
theorem w_l_Desk_passWeek_0 {ad wad : Nat → Nat} {Γ : Ctx} (F : Nat) {n : Nat} (hn : 4 ≤ n) (hG : Cx SHc ad wad cX0_passWeek 3 RX0 none (n) Γ) {q : Unit × HS} {K0 : HS → Option (Unit × HS)} {g : Nat} {x1 : Int32} {h : HS} (hd : l_Desk_passWeek_0 F K0 g x1 h = some q) (hK0 : ∀ (z : HS), K0 z = some q → AW SHc ad 3 (none, q.2) Γ 57 [(0, .ref (ad 20))] [] z) : AW SHc ad 3 (none, q.2) Γ 2 [(0, .ref (ad 20)), (1, .int x1)] [] h := by
  induction g generalizing x1 h with
  | zero => unfold l_Desk_passWeek_0 at hd; cases hd
  | succ g ih =>
    unfold l_Desk_passWeek_0 at hd
    refine a_iload_n (pc := 2) hG 1 rfl dX0_passWeek_2 rfl ?_
    refine a_aload_n (pc := 3) hG 0 rfl dX0_passWeek_3 rfl ?_
    refine a_getR (pc := 4) hG sc_20 cl_X0 ok_X0 0 (by decide) rfl t_266 dX0_passWeek_4 ?_
    refine a_cvI (pc := 7) hG (As := []) (st := [.int x1]) sc_3 cl_X5 mk_X5_clerks t_449 (by omega) (fun z hz => c_Plan_clerks_3  _  z hz) rfl (Nat.le_of_ble_eq_true rfl) hd dX0_passWeek_7 (fun r3 h2 hd => ?_)
    refine a_ic_ge (pc := 10) hG (tgt := 57) hd dX0_passWeek_10 (by decide) (fun hd => ?_) (fun hd => ?_)
    · exact AW.sub [0] rfl (hK0  _ hd)
    refine a_aload_n (pc := 13) hG 0 rfl dX0_passWeek_13 rfl ?_
    refine a_iload_n (pc := 14) hG 1 rfl dX0_passWeek_14 rfl ?_
    refine a_iconst (pc := 15) hG dX0_passWeek_15 (v := (nI 4)) rfl ?_
    refine a_cvI (pc := 16) hG (As := [.int x1, .int (nI 4)]) (st := []) sc_20 cl_X0 mk_X0_ofClerk t_827 (by omega) (fun z hz => c_Desk_ofClerk x1 (nI 4) _  z hz) rfl (Nat.le_of_ble_eq_true rfl) hd dX0_passWeek_16 (fun r5 h4 hd => ?_)
    refine a_join hd (Q := fun J : HS → Option (Unit × HS) => ∀  (h7 : HS), J  h7 = some q → AW SHc ad 3 (none, q.2) Γ 44 [(0, .ref (ad 20)), (1, .int x1)] [] h7) (fun  h7 hd => ?_) (fun J6 hJ6 hd => ?_)
    · refine a_aload_n (pc := 44) hG 0 rfl dX0_passWeek_44 rfl ?_
      refine a_iload_n (pc := 45) hG 1 rfl dX0_passWeek_45 rfl ?_
      refine a_iconst (pc := 46) hG dX0_passWeek_46 (v := (nI 4)) rfl ?_
      refine a_iconst (pc := 47) hG dX0_passWeek_47 (v := (nI 0)) rfl ?_
      refine a_cvN (pc := 48) hG (As := [.int x1, .int (nI 4), .int (nI 0)]) (st := []) sc_20 cl_X0 mk_X0_setClerk t_457 (by omega) (fun z hz => c_Desk_setClerk x1 (nI 4) (nI 0) _  z hz) rfl (Nat.le_of_ble_eq_true rfl) hd dX0_passWeek_48 (fun _ h8 hd => ?_)
      refine a_iincN (pc := 51) hG (c0 := (nI 1)) 1 rfl hd dX0_passWeek_51 rfl (by decide) (lf := fun x => [(1, .int x), (0, .ref (ad 20))]) (fun _ => rfl) (fun v9 hd => ?_)
      refine a_goto (pc := 54) hG (tgt := 2) dX0_passWeek_54 (by decide) ?_
      exact AW.sub [1, 0] rfl (ih hd)
    refine a_if_ne (pc := 19) hG (tgt := 44) hd dX0_passWeek_19 (by decide) (fun hd => ?_) (fun hd => ?_)
    · exact AW.sub [0, 1] rfl (hJ6  _ hd)
    refine a_aload_n (pc := 22) hG 0 rfl dX0_passWeek_22 rfl ?_
    refine a_iload_n (pc := 23) hG 1 rfl dX0_passWeek_23 rfl ?_
    refine a_iconst (pc := 24) hG dX0_passWeek_24 (v := (nI 0)) rfl ?_
    refine a_cvI (pc := 25) hG (As := [.int x1, .int (nI 0)]) (st := []) sc_20 cl_X0 mk_X0_ofClerk t_827 (by omega) (fun z hz => c_Desk_ofClerk x1 (nI 0) _  z hz) rfl (Nat.le_of_ble_eq_true rfl) hd dX0_passWeek_25 (fun r11 h10 hd => ?_)
    refine a_aload_n (pc := 28) hG 0 rfl dX0_passWeek_28 rfl ?_
    refine a_iload_n (pc := 29) hG 1 rfl dX0_passWeek_29 rfl ?_
    refine a_iconst (pc := 30) hG dX0_passWeek_30 (v := (nI 1)) rfl ?_
    refine a_cvI (pc := 31) hG (As := [.int x1, .int (nI 1)]) (st := [.int r11]) sc_20 cl_X0 mk_X0_ofClerk t_827 (by omega) (fun z hz => c_Desk_ofClerk x1 (nI 1) _  z hz) rfl (Nat.le_of_ble_eq_true rfl) hd dX0_passWeek_31 (fun r13 h12 hd => ?_)
    refine a_ic_ge (pc := 34) hG (tgt := 44) hd dX0_passWeek_34 (by decide) (fun hd => ?_) (fun hd => ?_)
    · exact AW.sub [0, 1] rfl (hJ6  _ hd)
    refine a_aload_n (pc := 37) hG 0 rfl dX0_passWeek_37 rfl ?_
    refine a_iload_n (pc := 38) hG 1 rfl dX0_passWeek_38 rfl ?_
    refine a_iconst (pc := 39) hG dX0_passWeek_39 (v := (nI 0)) rfl ?_
    refine a_iconst (pc := 40) hG dX0_passWeek_40 (v := (nI 1)) rfl ?_
    refine a_cvN (pc := 41) hG (As := [.int x1, .int (nI 0), .int (nI 1)]) (st := []) sc_20 cl_X0 mk_X0_addClerk t_871 (by omega) (fun z hz => c_Desk_addClerk x1 (nI 0) (nI 1) _  z hz) rfl (Nat.le_of_ble_eq_true rfl) hd dX0_passWeek_41 (fun _ h14 hd => ?_)
    exact AW.sub [0, 1] rfl (hJ6  _ hd)
set_option maxHeartbeats 4000000 in
theorem w_l_Desk_passWeek_1 {ad wad : Nat → Nat} {Γ : Ctx} (F : Nat) {n : Nat} (hn : 4 ≤ n) (hG : Cx SHc ad wad cX0_passWeek 3 RX0 none (n) Γ) {q : Unit × HS} {K0 : HS → Option (Unit × HS)} {g : Nat} {x1 : Int32} {h : HS} (hd : l_Desk_passWeek_1 F K0 g x1 h = some q) (hK0 : ∀ (z : HS), K0 z = some q → AW SHc ad 3 (none, q.2) Γ 110 [(0, .ref (ad 20))] [] z) : AW SHc ad 3 (none, q.2) Γ 59 [(0, .ref (ad 20)), (1, .int x1)] [] h := by
  induction g generalizing x1 h with
  | zero => unfold l_Desk_passWeek_1 at hd; cases hd
  | succ g ih =>
    unfold l_Desk_passWeek_1 at hd
    refine a_iload_n (pc := 59) hG 1 rfl dX0_passWeek_59 rfl ?_
    refine a_aload_n (pc := 60) hG 0 rfl dX0_passWeek_60 rfl ?_
    refine a_getR (pc := 61) hG sc_20 cl_X0 ok_X0 0 (by decide) rfl t_266 dX0_passWeek_61 ?_
    refine a_cvI (pc := 64) hG (As := []) (st := [.int x1]) sc_3 cl_X5 mk_X5_causes t_437 (by omega) (fun z hz => c_Plan_causes_3  _  z hz) rfl (Nat.le_of_ble_eq_true rfl) hd dX0_passWeek_64 (fun r18 h17 hd => ?_)
    refine a_ic_ge (pc := 67) hG (tgt := 110) hd dX0_passWeek_67 (by decide) (fun hd => ?_) (fun hd => ?_)
    · exact AW.sub [0] rfl (hK0  _ hd)
    refine a_aload_n (pc := 70) hG 0 rfl dX0_passWeek_70 rfl ?_
    refine a_iload_n (pc := 71) hG 1 rfl dX0_passWeek_71 rfl ?_
    refine a_iconst (pc := 72) hG dX0_passWeek_72 (v := (nI 4)) rfl ?_
    refine a_cvI (pc := 73) hG (As := [.int x1, .int (nI 4)]) (st := []) sc_20 cl_X0 mk_X0_ofCause t_806 (by omega) (fun z hz => c_Desk_ofCause x1 (nI 4) _  z hz) rfl (Nat.le_of_ble_eq_true rfl) hd dX0_passWeek_73 (fun r20 h19 hd => ?_)
    refine a_istore_nN (pc := 76) hG hd dX0_passWeek_76 rfl (by decide) (lf := fun x => [(2, .int x), (0, .ref (ad 20)), (1, .int x1)]) (fun _ => rfl) (fun v21 hd => ?_)
    refine a_iload_n (pc := 77) hG 0 rfl dX0_passWeek_77 rfl ?_
    refine a_iconst (pc := 78) hG dX0_passWeek_78 (v := (nI 1)) rfl ?_
    refine a_join hd (Q := fun J : HS → Option (Unit × HS) => ∀  (h23 : HS), J  h23 = some q → AW SHc ad 3 (none, q.2) Γ 104 [(0, .ref (ad 20)), (1, .int x1)] [] h23) (fun  h23 hd => ?_) (fun J22 hJ22 hd => ?_)
    · refine a_iincN (pc := 104) hG (c0 := (nI 1)) 1 rfl hd dX0_passWeek_104 rfl (by decide) (lf := fun x => [(1, .int x), (0, .ref (ad 20))]) (fun _ => rfl) (fun v24 hd => ?_)
      refine a_goto (pc := 107) hG (tgt := 59) dX0_passWeek_107 (by decide) ?_
      exact AW.sub [1, 0] rfl (ih hd)
    refine a_ic_ne (pc := 79) hG (tgt := 90) hd dX0_passWeek_79 (by decide) (fun hd => ?_) (fun hd => ?_)
    · refine a_iload_n (pc := 90) hG 0 rfl dX0_passWeek_90 rfl ?_
      refine a_join hd (Q := fun J : HS → Option (Unit × HS) => ∀  (h26 : HS), J  h26 = some q → AW SHc ad 3 (none, q.2) Γ 99 [(0, .ref (ad 20)), (1, .int x1)] [] h26) (fun  h26 hd => ?_) (fun J25 hJ25 hd => ?_)
      · refine a_aload_n (pc := 99) hG 0 rfl dX0_passWeek_99 rfl ?_
        refine a_iload_n (pc := 100) hG 1 rfl dX0_passWeek_100 rfl ?_
        refine a_cvN (pc := 101) hG (As := [.int x1]) (st := []) sc_20 cl_X0 mk_X0_passLeftAlone t_922 (by omega) (fun z hz => c_Desk_passLeftAlone x1 _  z hz) rfl (Nat.le_of_ble_eq_true rfl) hd dX0_passWeek_101 (fun _ h27 hd => ?_)
        exact AW.sub [0, 1] rfl (hJ22  _ hd)
      refine a_if_eq (pc := 91) hG (tgt := 99) hd dX0_passWeek_91 (by decide) (fun hd => ?_) (fun hd => ?_)
      · exact AW.sub [1, 2] rfl (hJ25  _ hd)
      refine a_iload_n (pc := 94) hG 0 rfl dX0_passWeek_94 rfl ?_
      refine a_iconst (pc := 95) hG dX0_passWeek_95 (v := (nI 2)) rfl ?_
      refine a_ic_ne (pc := 96) hG (tgt := 104) hd dX0_passWeek_96 (by decide) (fun hd => ?_) (fun hd => ?_)
      · exact AW.sub [1, 2] rfl (hJ22  _ hd)
      exact AW.sub [1, 2] rfl (hJ25  _ hd)
    refine a_aload_n (pc := 82) hG 1 rfl dX0_passWeek_82 rfl ?_
    refine a_iload_n (pc := 83) hG 2 rfl dX0_passWeek_83 rfl ?_
    refine a_cvN (pc := 84) hG (As := [.int x1]) (st := []) sc_20 cl_X0 mk_X0_passTaken t_917 (by omega) (fun z hz => c_Desk_passTaken x1 _  z hz) rfl (Nat.le_of_ble_eq_true rfl) hd dX0_passWeek_84 (fun _ h28 hd => ?_)
    refine a_goto (pc := 87) hG (tgt := 104) dX0_passWeek_87 (by decide) ?_
    exact AW.sub [1, 2] rfl (hJ22  _ hd)
set_option maxHeartbeats 4000000 in
theorem c_Desk_passWeek {ad wad : Nat → Nat} (F : Nat)  (h : HS)  (q : Unit × HS) (hd : f_Desk_passWeek F  h = some q) : Ctr SHc ad wad yX0_passWeek cX0_passWeek 3 none 4 [.ref (ad 20)] h (none, q.2) := by
  refine enter (own := RX0) (lv := [(0, .ref (ad 20))]) (by decide +kernel) rfl (Nat.le_of_ble_eq_true rfl) rfl (fun Γ hG => ?_)
  unfold f_Desk_passWeek at hd
  refine a_iconst (pc := 0) hG dX0_passWeek_0 (v := (nI 0)) rfl ?_
  refine a_istore_nN (pc := 1) hG hd dX0_passWeek_1 rfl (by decide) (lf := fun x => [(1, .int x), (0, .ref (ad 20))]) (fun _ => rfl) (fun v1 hd => ?_)
  refine AW.sub [1, 0] rfl ?_
  refine w_l_Desk_passWeek_0 F (by omega) hG hd (fun h15 hd => ?_)
  refine a_iconst (pc := 57) hG dX0_passWeek_57 (v := (nI 0)) rfl ?_
  refine a_istore_nN (pc := 58) hG hd dX0_passWeek_58 rfl (by decide) (lf := fun x => [(1, .int x), (0, .ref (ad 20))]) (fun _ => rfl) (fun v16 hd => ?_)
  refine AW.sub [1, 0] rfl ?_
  refine w_l_Desk_passWeek_1 F (by omega) hG hd (fun h29 hd => ?_)
  refine a_aload_n (pc := 110) hG 0 rfl dX0_passWeek_110 rfl ?_
  refine a_iconst (pc := 111) hG dX0_passWeek_111 (v := (nI 0)) rfl ?_
  refine a_iconst (pc := 112) hG dX0_passWeek_112 (v := (nI 1)) rfl ?_
  refine a_cvN (pc := 113) hG (As := [.int (nI 0), .int (nI 1)]) (st := []) sc_20 cl_X0 mk_X0_addNow t_875 (by omega) (fun z hz => c_Desk_addNow (nI 0) (nI 1) _  z hz) rfl (Nat.le_of_ble_eq_true rfl) hd dX0_passWeek_113 (fun _ h30 hd => ?_)
  exact a_vret (pc := 116) hG hd dX0_passWeek_116
theorem dX0_passWeeks_0 : decode cX0_passWeeks 0 = .ok (.iload_n 1, 1) := by decide +kernel
theorem dX0_passWeeks_1 : decode cX0_passWeeks 1 = .ok (.aload_n 0, 1) := by decide +kernel
theorem dX0_passWeeks_2 : decode cX0_passWeeks 2 = .ok (.invokevirtual 97, 3) := by decide +kernel
theorem dX0_passWeeks_5 : decode cX0_passWeeks 5 = .ok (.invokestatic 115, 3) := by decide +kernel
theorem dX0_passWeeks_8 : decode cX0_passWeeks 8 = .ok (.istore_n 2, 1) := by decide +kernel
theorem dX0_passWeeks_9 : decode cX0_passWeeks 9 = .ok (.iconst 0, 1) := by decide +kernel
theorem dX0_passWeeks_10 : decode cX0_passWeeks 10 = .ok (.istore_n 3, 1) := by decide +kernel
theorem dX0_passWeeks_11 : decode cX0_passWeeks 11 = .ok (.iload_n 3, 1) := by decide +kernel
theorem dX0_passWeeks_12 : decode cX0_passWeeks 12 = .ok (.iload_n 2, 1) := by decide +kernel
theorem dX0_passWeeks_13 : decode cX0_passWeeks 13 = .ok (.if_icmp .ge 13, 3) := by decide +kernel
theorem dX0_passWeeks_16 : decode cX0_passWeeks 16 = .ok (.aload_n 0, 1) := by decide +kernel
theorem dX0_passWeeks_17 : decode cX0_passWeeks 17 = .ok (.invokevirtual 120, 3) := by decide +kernel
theorem dX0_passWeeks_20 : decode cX0_passWeeks 20 = .ok (.iinc 3 1, 3) := by decide +kernel
theorem dX0_passWeeks_23 : decode cX0_passWeeks 23 = .ok (.goto (-12), 3) := by decide +kernel
theorem dX0_passWeeks_26 : decode cX0_passWeeks 26 = .ok (.iload_n 2, 1) := by decide +kernel
theorem dX0_passWeeks_27 : decode cX0_passWeeks 27 = .ok (.ireturn, 1) := by decide +kernel
set_option maxHeartbeats 4000000 in
theorem w_l_Desk_passWeeks_0 {ad wad : Nat → Nat} {Γ : Ctx} (F : Nat) {n : Nat} (hn : 5 ≤ n) (hG : Cx SHc ad wad cX0_passWeeks 4 RX0 (some .int) (n) Γ) {q : Int32 × HS} {x2 : Int32} {g : Nat} {x3 : Int32} {h : HS} (hd : l_Desk_passWeeks_0 F x2 g x3 h = some q) : AW SHc ad 4 (some (.int q.1), q.2) Γ 11 [(0, .ref (ad 20)), (2, .int x2), (3, .int x3)] [] h := by
  induction g generalizing x3 h with
  | zero => unfold l_Desk_passWeeks_0 at hd; cases hd
  | succ g ih =>
    unfold l_Desk_passWeeks_0 at hd
    refine a_iload_n (pc := 11) hG 2 rfl dX0_passWeeks_11 rfl ?_
    refine a_iload_n (pc := 12) hG 1 rfl dX0_passWeeks_12 rfl ?_
    refine a_ic_ge (pc := 13) hG (tgt := 26) hd dX0_passWeeks_13 (by decide) (fun hd => ?_) (fun hd => ?_)
    · refine a_iload_n (pc := 26) hG 1 rfl dX0_passWeeks_26 rfl ?_
      exact a_iret (pc := 27) hG hd dX0_passWeeks_27
    refine a_aload_n (pc := 16) hG 0 rfl dX0_passWeeks_16 rfl ?_
    refine a_cvN (pc := 17) hG (As := []) (st := []) sc_20 cl_X0 mk_X0_passWeek t_913 (by omega) (fun z hz => c_Desk_passWeek F  _  z hz) rfl (Nat.le_of_ble_eq_true rfl) hd dX0_passWeeks_17 (fun _ h5 hd => ?_)
    refine a_iincN (pc := 20) hG (c0 := (nI 1)) 2 rfl hd dX0_passWeeks_20 rfl (by decide) (lf := fun x => [(3, .int x), (0, .ref (ad 20)), (2, .int x2)]) (fun _ => rfl) (fun v6 hd => ?_)
    refine a_goto (pc := 23) hG (tgt := 11) dX0_passWeeks_23 (by decide) ?_
    exact AW.sub [1, 2, 0] rfl (ih hd)
set_option maxHeartbeats 4000000 in
theorem c_Desk_passWeeks {ad wad : Nat → Nat} (F : Nat) (a0 : Int32) (h : HS)  (q : Int32 × HS) (hd : f_Desk_passWeeks F a0 h = some q) : Ctr SHc ad wad yX0_passWeeks cX0_passWeeks 4 (some .int) 5 [.ref (ad 20), .int a0] h (some (.int q.1), q.2) := by
  refine enter (own := RX0) (lv := [(0, .ref (ad 20)), (1, .int a0)]) (by decide +kernel) rfl (Nat.le_of_ble_eq_true rfl) rfl (fun Γ hG => ?_)
  unfold f_Desk_passWeeks at hd
  refine a_iload_n (pc := 0) hG 1 rfl dX0_passWeeks_0 rfl ?_
  refine a_aload_n (pc := 1) hG 0 rfl dX0_passWeeks_1 rfl ?_
  refine a_cvI (pc := 2) hG (As := []) (st := [.int a0]) sc_20 cl_X0 mk_X0_weeksLeft t_836 (by omega) (fun z hz => c_Desk_weeksLeft  _  z hz) rfl (Nat.le_of_ble_eq_true rfl) hd dX0_passWeeks_2 (fun r2 h1 hd => ?_)
  refine a_min (pc := 5) hG t_912 t_582 t_133 t_583 (by omega) (Nat.le_of_ble_eq_true rfl) dX0_passWeeks_5 ?_
  refine a_istore_nN (pc := 8) hG hd dX0_passWeeks_8 rfl (by decide) (lf := fun x => [(2, .int x), (0, .ref (ad 20)), (1, .int a0)]) (fun _ => rfl) (fun v3 hd => ?_)
  refine a_iconst (pc := 9) hG dX0_passWeeks_9 (v := (nI 0)) rfl ?_
  refine a_istore_nN (pc := 10) hG hd dX0_passWeeks_10 rfl (by decide) (lf := fun x => [(3, .int x), (2, .int v3), (0, .ref (ad 20)), (1, .int a0)]) (fun _ => rfl) (fun v4 hd => ?_)
  refine AW.sub [2, 1, 0] rfl ?_
  exact w_l_Desk_passWeeks_0 F (by omega) hG hd
theorem dX11_weeks_0 : decode cX11_weeks 0 = .ok (.iload_n 1, 1) := by decide +kernel
theorem dX11_weeks_1 : decode cX11_weeks 1 = .ok (.iconst 1, 1) := by decide +kernel
theorem dX11_weeks_2 : decode cX11_weeks 2 = .ok (.if_icmp .lt 9, 3) := by decide +kernel
theorem dX11_weeks_5 : decode cX11_weeks 5 = .ok (.iload_n 1, 1) := by decide +kernel
theorem dX11_weeks_6 : decode cX11_weeks 6 = .ok (.bipush 50, 2) := by decide +kernel
theorem dX11_weeks_8 : decode cX11_weeks 8 = .ok (.if_icmp .le 5, 3) := by decide +kernel
theorem dX11_weeks_11 : decode cX11_weeks 11 = .ok (.iconst (-1), 1) := by decide +kernel
theorem dX11_weeks_12 : decode cX11_weeks 12 = .ok (.ireturn, 1) := by decide +kernel
theorem dX11_weeks_13 : decode cX11_weeks 13 = .ok (.aload_n 0, 1) := by decide +kernel
theorem dX11_weeks_14 : decode cX11_weeks 14 = .ok (.getfield 40, 3) := by decide +kernel
theorem dX11_weeks_17 : decode cX11_weeks 17 = .ok (.invokevirtual 211, 3) := by decide +kernel
theorem dX11_weeks_20 : decode cX11_weeks 20 = .ok (.ifCond .ne 5, 3) := by decide +kernel
theorem dX11_weeks_23 : decode cX11_weeks 23 = .ok (.iconst 0, 1) := by decide +kernel
theorem dX11_weeks_24 : decode cX11_weeks 24 = .ok (.ireturn, 1) := by decide +kernel
theorem dX11_weeks_25 : decode cX11_weeks 25 = .ok (.aload_n 0, 1) := by decide +kernel
theorem dX11_weeks_26 : decode cX11_weeks 26 = .ok (.getfield 40, 3) := by decide +kernel
theorem dX11_weeks_29 : decode cX11_weeks 29 = .ok (.invokevirtual 192, 3) := by decide +kernel
theorem dX11_weeks_32 : decode cX11_weeks 32 = .ok (.aload_n 0, 1) := by decide +kernel
theorem dX11_weeks_33 : decode cX11_weeks 33 = .ok (.getfield 40, 3) := by decide +kernel
theorem dX11_weeks_36 : decode cX11_weeks 36 = .ok (.iload_n 1, 1) := by decide +kernel
theorem dX11_weeks_37 : decode cX11_weeks 37 = .ok (.invokevirtual 214, 3) := by decide +kernel
theorem dX11_weeks_40 : decode cX11_weeks 40 = .ok (.ireturn, 1) := by decide +kernel
set_option maxHeartbeats 4000000 in
theorem c_LC_weeks {ad wad : Nat → Nat} (F : Nat) (a0 : Int32) (h : HS)  (q : Int32 × HS) (hd : f_LC_weeks F a0 h = some q) : Ctr SHc ad wad yX11_weeks cX11_weeks 2 (some .int) 6 [.ref (ad 0), .int a0] h (some (.int q.1), q.2) := by
  refine enter (own := RX11) (lv := [(0, .ref (ad 0)), (1, .int a0)]) (by decide +kernel) rfl (Nat.le_of_ble_eq_true rfl) rfl (fun Γ hG => ?_)
  unfold f_LC_weeks at hd
  refine a_iload_n (pc := 0) hG 1 rfl dX11_weeks_0 rfl ?_
  refine a_iconst (pc := 1) hG dX11_weeks_1 (v := (nI 1)) rfl ?_
  refine a_ic_lt (pc := 2) hG (tgt := 11) hd dX11_weeks_2 (by decide) (fun hd => ?_) (fun hd => ?_)
  · refine a_iconst (pc := 11) hG dX11_weeks_11 (v := (-1 : Int32)) rfl ?_
    exact a_iret (pc := 12) hG hd dX11_weeks_12
  refine a_iload_n (pc := 5) hG 1 rfl dX11_weeks_5 rfl ?_
  refine a_bipush (pc := 6) hG dX11_weeks_6 (v := (nI 50)) rfl ?_
  refine a_ic_le (pc := 8) hG (tgt := 13) hd dX11_weeks_8 (by decide) (fun hd => ?_) (fun hd => ?_)
  · refine a_aload_n (pc := 13) hG 0 rfl dX11_weeks_13 rfl ?_
    refine a_getR (pc := 14) hG sc_0 cl_X11 ok_X11 4 (by decide) rfl t_485 dX11_weeks_14 ?_
    refine a_cvI (pc := 17) hG (As := []) (st := []) sc_20 cl_X0 mk_X0_weeksLeft t_907 (by omega) (fun z hz => c_Desk_weeksLeft  _  z hz) rfl (Nat.le_of_ble_eq_true rfl) hd dX11_weeks_17 (fun r2 h1 hd => ?_)
    refine a_if_ne (pc := 20) hG (tgt := 25) hd dX11_weeks_20 (by decide) (fun hd => ?_) (fun hd => ?_)
    · refine a_aload_n (pc := 25) hG 0 rfl dX11_weeks_25 rfl ?_
      refine a_getR (pc := 26) hG sc_0 cl_X11 ok_X11 4 (by decide) rfl t_485 dX11_weeks_26 ?_
      refine a_cvN (pc := 29) hG (As := []) (st := []) sc_20 cl_X0 mk_X0_remember t_841 (by omega) (fun z hz => c_Desk_remember  _  z hz) rfl (Nat.le_of_ble_eq_true rfl) hd dX11_weeks_29 (fun _ h3 hd => ?_)
      refine a_aload_n (pc := 32) hG 0 rfl dX11_weeks_32 rfl ?_
      refine a_getR (pc := 33) hG sc_0 cl_X11 ok_X11 4 (by decide) rfl t_485 dX11_weeks_33 ?_
      refine a_iload_n (pc := 36) hG 1 rfl dX11_weeks_36 rfl ?_
      refine a_cvI (pc := 37) hG (As := [.int a0]) (st := []) sc_20 cl_X0 mk_X0_passWeeks t_908 (by omega) (fun z hz => c_Desk_passWeeks F a0 _  z hz) rfl (Nat.le_of_ble_eq_true rfl) hd dX11_weeks_37 (fun r5 h4 hd => ?_)
      exact a_iret (pc := 40) hG hd dX11_weeks_40
    refine a_iconst (pc := 23) hG dX11_weeks_23 (v := (nI 0)) rfl ?_
    exact a_iret (pc := 24) hG hd dX11_weeks_24
  refine a_iconst (pc := 11) hG dX11_weeks_11 (v := (-1 : Int32)) rfl ?_
  exact a_iret (pc := 12) hG hd dX11_weeks_12
theorem dX0_loadFrom_0 : decode cX0_loadFrom 0 = .ok (.aload_n 1, 1) := by decide +kernel
theorem dX0_loadFrom_1 : decode cX0_loadFrom 1 = .ok (.arraylength, 1) := by decide +kernel
theorem dX0_loadFrom_2 : decode cX0_loadFrom 2 = .ok (.aload_n 0, 1) := by decide +kernel
theorem dX0_loadFrom_3 : decode cX0_loadFrom 3 = .ok (.getfield 9, 3) := by decide +kernel
theorem dX0_loadFrom_6 : decode cX0_loadFrom 6 = .ok (.arraylength, 1) := by decide +kernel
theorem dX0_loadFrom_7 : decode cX0_loadFrom 7 = .ok (.if_icmp .ne 18, 3) := by decide +kernel
theorem dX0_loadFrom_10 : decode cX0_loadFrom 10 = .ok (.aload_n 1, 1) := by decide +kernel
theorem dX0_loadFrom_11 : decode cX0_loadFrom 11 = .ok (.iconst 0, 1) := by decide +kernel
theorem dX0_loadFrom_12 : decode cX0_loadFrom 12 = .ok (.aload_n 0, 1) := by decide +kernel
theorem dX0_loadFrom_13 : decode cX0_loadFrom 13 = .ok (.getfield 9, 3) := by decide +kernel
theorem dX0_loadFrom_16 : decode cX0_loadFrom 16 = .ok (.iconst 0, 1) := by decide +kernel
theorem dX0_loadFrom_17 : decode cX0_loadFrom 17 = .ok (.aload_n 0, 1) := by decide +kernel
theorem dX0_loadFrom_18 : decode cX0_loadFrom 18 = .ok (.getfield 9, 3) := by decide +kernel
theorem dX0_loadFrom_21 : decode cX0_loadFrom 21 = .ok (.arraylength, 1) := by decide +kernel
theorem dX0_loadFrom_22 : decode cX0_loadFrom 22 = .ok (.invokestatic 62, 3) := by decide +kernel
theorem dX0_loadFrom_25 : decode cX0_loadFrom 25 = .ok (.return_, 1) := by decide +kernel
set_option maxHeartbeats 4000000 in
theorem c_Desk_loadFrom {ad wad : Nat → Nat} (j : Nat) (h : HS) (hj : SHc[j]? = some (.inl (0, 1, 91))) (q : Unit × HS) (hd : f_Desk_loadFrom j h = some q) : Ctr SHc ad wad yX0_loadFrom cX0_loadFrom 2 none 2 [.ref (ad 20), .ref (ad j)] h (none, q.2) := by
  refine enter (own := RX0) (lv := [(0, .ref (ad 20)), (1, .ref (ad j))]) (by decide +kernel) rfl (Nat.le_of_ble_eq_true rfl) rfl (fun Γ hG => ?_)
  unfold f_Desk_loadFrom at hd
  refine a_aload_n (pc := 0) hG 1 rfl dX0_loadFrom_0 rfl ?_
  refine a_alenI (pc := 1) hG hj (fun _ => rfl) (v := nI 91) rfl dX0_loadFrom_1 ?_
  refine a_aload_n (pc := 2) hG 0 rfl dX0_loadFrom_2 rfl ?_
  refine a_getR (pc := 3) hG sc_20 cl_X0 ok_X0 1 (by decide) rfl t_267 dX0_loadFrom_3 ?_
  refine a_alenI (pc := 6) hG sc_21 (fun _ => rfl) (v := nI 91) rfl dX0_loadFrom_6 ?_
  refine a_ic_ne (pc := 7) hG (tgt := 25) hd dX0_loadFrom_7 (by decide) (fun hd => ?_) (fun hd => ?_)
  · exact a_vret (pc := 25) hG hd dX0_loadFrom_25
  refine a_aload_n (pc := 10) hG 1 rfl dX0_loadFrom_10 rfl ?_
  refine a_iconst (pc := 11) hG dX0_loadFrom_11 (v := (nI 0)) rfl ?_
  refine a_aload_n (pc := 12) hG 0 rfl dX0_loadFrom_12 rfl ?_
  refine a_getR (pc := 13) hG sc_20 cl_X0 ok_X0 1 (by decide) rfl t_267 dX0_loadFrom_13 ?_
  refine a_iconst (pc := 16) hG dX0_loadFrom_16 (v := (nI 0)) rfl ?_
  refine a_aload_n (pc := 17) hG 0 rfl dX0_loadFrom_17 rfl ?_
  refine a_getR (pc := 18) hG sc_20 cl_X0 ok_X0 1 (by decide) rfl t_267 dX0_loadFrom_18 ?_
  refine a_alenI (pc := 21) hG sc_21 (fun _ => rfl) (v := nI 91) rfl dX0_loadFrom_21 ?_
  refine a_cpI (pc := 22) hG 91 hj sc_21 rfl (by decide) (by decide) (by decide) t_849 t_764 t_763 t_136 (by omega) (Nat.le_of_ble_eq_true rfl) hd dX0_loadFrom_22 (fun h1 hd => ?_)
  exact a_vret (pc := 25) hG hd dX0_loadFrom_25
theorem dX0_takeBack_0 : decode cX0_takeBack 0 = .ok (.aload_n 0, 1) := by decide +kernel
theorem dX0_takeBack_1 : decode cX0_takeBack 1 = .ok (.getfield 24, 3) := by decide +kernel
theorem dX0_takeBack_4 : decode cX0_takeBack 4 = .ok (.ifCond .ne 5, 3) := by decide +kernel
theorem dX0_takeBack_7 : decode cX0_takeBack 7 = .ok (.iconst (-1), 1) := by decide +kernel
theorem dX0_takeBack_8 : decode cX0_takeBack 8 = .ok (.ireturn, 1) := by decide +kernel
theorem dX0_takeBack_9 : decode cX0_takeBack 9 = .ok (.aload_n 0, 1) := by decide +kernel
theorem dX0_takeBack_10 : decode cX0_takeBack 10 = .ok (.dup, 1) := by decide +kernel
theorem dX0_takeBack_11 : decode cX0_takeBack 11 = .ok (.getfield 24, 3) := by decide +kernel
theorem dX0_takeBack_14 : decode cX0_takeBack 14 = .ok (.iconst 1, 1) := by decide +kernel
theorem dX0_takeBack_15 : decode cX0_takeBack 15 = .ok (.isub, 1) := by decide +kernel
theorem dX0_takeBack_16 : decode cX0_takeBack 16 = .ok (.putfield 24, 3) := by decide +kernel
theorem dX0_takeBack_19 : decode cX0_takeBack 19 = .ok (.aload_n 0, 1) := by decide +kernel
theorem dX0_takeBack_20 : decode cX0_takeBack 20 = .ok (.aload_n 0, 1) := by decide +kernel
theorem dX0_takeBack_21 : decode cX0_takeBack 21 = .ok (.getfield 17, 3) := by decide +kernel
theorem dX0_takeBack_24 : decode cX0_takeBack 24 = .ok (.aload_n 0, 1) := by decide +kernel
theorem dX0_takeBack_25 : decode cX0_takeBack 25 = .ok (.getfield 20, 3) := by decide +kernel
theorem dX0_takeBack_28 : decode cX0_takeBack 28 = .ok (.aload_n 0, 1) := by decide +kernel
theorem dX0_takeBack_29 : decode cX0_takeBack 29 = .ok (.getfield 24, 3) := by decide +kernel
theorem dX0_takeBack_32 : decode cX0_takeBack 32 = .ok (.iadd, 1) := by decide +kernel
theorem dX0_takeBack_33 : decode cX0_takeBack 33 = .ok (.bipush 8, 2) := by decide +kernel
theorem dX0_takeBack_35 : decode cX0_takeBack 35 = .ok (.irem, 1) := by decide +kernel
theorem dX0_takeBack_36 : decode cX0_takeBack 36 = .ok (.aaload, 1) := by decide +kernel
theorem dX0_takeBack_37 : decode cX0_takeBack 37 = .ok (.invokevirtual 72, 3) := by decide +kernel
theorem dX0_takeBack_40 : decode cX0_takeBack 40 = .ok (.aload_n 0, 1) := by decide +kernel
theorem dX0_takeBack_41 : decode cX0_takeBack 41 = .ok (.getfield 24, 3) := by decide +kernel
theorem dX0_takeBack_44 : decode cX0_takeBack 44 = .ok (.ireturn, 1) := by decide +kernel
set_option maxHeartbeats 4000000 in
theorem c_Desk_takeBack {ad wad : Nat → Nat}  (h : HS)  (q : Int32 × HS) (hd : f_Desk_takeBack  h = some q) : Ctr SHc ad wad yX0_takeBack cX0_takeBack 1 (some .int) 3 [.ref (ad 20)] h (some (.int q.1), q.2) := by
  refine enter (own := RX0) (lv := [(0, .ref (ad 20))]) (by decide +kernel) rfl (Nat.le_of_ble_eq_true rfl) rfl (fun Γ hG => ?_)
  unfold f_Desk_takeBack at hd
  refine a_aload_n (pc := 0) hG 0 rfl dX0_takeBack_0 rfl ?_
  refine a_getI (pc := 1) hG sc_20 cl_X0 ok_X0 4 (by decide) rfl t_270 dX0_takeBack_1 ?_
  refine a_if_ne (pc := 4) hG (tgt := 9) hd dX0_takeBack_4 (by decide) (fun hd => ?_) (fun hd => ?_)
  · refine a_aload_n (pc := 9) hG 0 rfl dX0_takeBack_9 rfl ?_
    refine a_dup (pc := 10) hG dX0_takeBack_10 rfl ?_
    refine a_getI (pc := 11) hG sc_20 cl_X0 ok_X0 4 (by decide) rfl t_270 dX0_takeBack_11 ?_
    refine a_iconst (pc := 14) hG dX0_takeBack_14 (v := (nI 1)) rfl ?_
    refine a_isub (pc := 15) hG dX0_takeBack_15 ?_
    refine a_putI (pc := 16) hG sc_20 cl_X0 ok_X0 4 (by decide) rfl t_270 rfl (ty := .int) rfl rfl rfl hd dX0_takeBack_16 (fun h1 hd => ?_)
    refine a_aload_n (pc := 19) hG 0 rfl dX0_takeBack_19 rfl ?_
    refine a_aload_n (pc := 20) hG 0 rfl dX0_takeBack_20 rfl ?_
    refine a_getR (pc := 21) hG sc_20 cl_X0 ok_X0 2 (by decide) rfl t_268 dX0_takeBack_21 ?_
    refine a_aload_n (pc := 24) hG 0 rfl dX0_takeBack_24 rfl ?_
    refine a_getI (pc := 25) hG sc_20 cl_X0 ok_X0 3 (by decide) rfl t_269 dX0_takeBack_25 ?_
    refine a_aload_n (pc := 28) hG 0 rfl dX0_takeBack_28 rfl ?_
    refine a_getI (pc := 29) hG sc_20 cl_X0 ok_X0 4 (by decide) rfl t_270 dX0_takeBack_29 ?_
    refine a_iadd (pc := 32) hG dX0_takeBack_32 ?_
    refine a_bipush (pc := 33) hG dX0_takeBack_33 (v := (nI 8)) rfl ?_
    refine a_irem (pc := 35) hG hd dX0_takeBack_35 (fun hd => ?_)
    refine a_aldR (pc := 36) hG sc_22 hd dX0_takeBack_36 (fun hj2 hd => ?_)
    refine a_cvN (pc := 37) hG (As := [.ref (ad (23 + (((h1.1 20 3) + (h1.1 20 4)) - ((h1.1 20 3) + (h1.1 20 4)) / (nI 8) * (nI 8)).toNatClampNeg))]) (st := []) sc_20 cl_X0 mk_X0_loadFrom t_934 (by omega) (fun z hz => c_Desk_loadFrom (23 + (((h1.1 20 3) + (h1.1 20 4)) - ((h1.1 20 3) + (h1.1 20 4)) / (nI 8) * (nI 8)).toNatClampNeg) _ (s_past hj2) z hz) rfl (Nat.le_of_ble_eq_true rfl) hd dX0_takeBack_37 (fun _ h3 hd => ?_)
    refine a_aload_n (pc := 40) hG 0 rfl dX0_takeBack_40 rfl ?_
    refine a_getI (pc := 41) hG sc_20 cl_X0 ok_X0 4 (by decide) rfl t_270 dX0_takeBack_41 ?_
    exact a_iret (pc := 44) hG hd dX0_takeBack_44
  refine a_iconst (pc := 7) hG dX0_takeBack_7 (v := (-1 : Int32)) rfl ?_
  exact a_iret (pc := 8) hG hd dX0_takeBack_8
theorem dX11_undo_0 : decode cX11_undo 0 = .ok (.aload_n 0, 1) := by decide +kernel
theorem dX11_undo_1 : decode cX11_undo 1 = .ok (.getfield 40, 3) := by decide +kernel
theorem dX11_undo_4 : decode cX11_undo 4 = .ok (.invokevirtual 217, 3) := by decide +kernel
theorem dX11_undo_7 : decode cX11_undo 7 = .ok (.ireturn, 1) := by decide +kernel
set_option maxHeartbeats 4000000 in
theorem c_LC_undo {ad wad : Nat → Nat}  (h : HS)  (q : Int32 × HS) (hd : f_LC_undo  h = some q) : Ctr SHc ad wad yX11_undo cX11_undo 1 (some .int) 4 [.ref (ad 0)] h (some (.int q.1), q.2) := by
  refine enter (own := RX11) (lv := [(0, .ref (ad 0))]) (by decide +kernel) rfl (Nat.le_of_ble_eq_true rfl) rfl (fun Γ hG => ?_)
  unfold f_LC_undo at hd
  refine a_aload_n (pc := 0) hG 0 rfl dX11_undo_0 rfl ?_
  refine a_getR (pc := 1) hG sc_0 cl_X11 ok_X11 4 (by decide) rfl t_485 dX11_undo_1 ?_
  refine a_cvI (pc := 4) hG (As := []) (st := []) sc_20 cl_X0 mk_X0_takeBack t_930 (by omega) (fun z hz => c_Desk_takeBack  _  z hz) rfl (Nat.le_of_ble_eq_true rfl) hd dX11_undo_4 (fun r2 h1 hd => ?_)
  exact a_iret (pc := 7) hG hd dX11_undo_7
theorem dX11_isDeedNumber_0 : decode cX11_isDeedNumber 0 = .ok (.iload_n 0, 1) := by decide +kernel
theorem dX11_isDeedNumber_1 : decode cX11_isDeedNumber 1 = .ok (.ifCond .lt 13, 3) := by decide +kernel
theorem dX11_isDeedNumber_4 : decode cX11_isDeedNumber 4 = .ok (.iload_n 0, 1) := by decide +kernel
theorem dX11_isDeedNumber_5 : decode cX11_isDeedNumber 5 = .ok (.bipush 6, 2) := by decide +kernel
theorem dX11_isDeedNumber_7 : decode cX11_isDeedNumber 7 = .ok (.if_icmp .gt 7, 3) := by decide +kernel
theorem dX11_isDeedNumber_10 : decode cX11_isDeedNumber 10 = .ok (.iconst 1, 1) := by decide +kernel
theorem dX11_isDeedNumber_11 : decode cX11_isDeedNumber 11 = .ok (.goto 4, 3) := by decide +kernel
theorem dX11_isDeedNumber_14 : decode cX11_isDeedNumber 14 = .ok (.iconst 0, 1) := by decide +kernel
theorem dX11_isDeedNumber_15 : decode cX11_isDeedNumber 15 = .ok (.ireturn, 1) := by decide +kernel
set_option maxHeartbeats 4000000 in
theorem c_LC_isDeedNumber {ad wad : Nat → Nat} (a0 : Int32) (h : HS)  (q : Int32 × HS) (hd : f_LC_isDeedNumber a0 h = some q) : Ctr SHc ad wad yX11_isDeedNumber cX11_isDeedNumber 1 (some .boolean) 1 [.int a0] h (some (.int q.1), q.2) := by
  refine enter (own := RX11) (lv := [(0, .int a0)]) (by decide +kernel) rfl (Nat.le_of_ble_eq_true rfl) rfl (fun Γ hG => ?_)
  unfold f_LC_isDeedNumber at hd
  refine a_iload_n (pc := 0) hG 0 rfl dX11_isDeedNumber_0 rfl ?_
  refine a_if_lt (pc := 1) hG (tgt := 14) hd dX11_isDeedNumber_1 (by decide) (fun hd => ?_) (fun hd => ?_)
  · refine a_iconst (pc := 14) hG dX11_isDeedNumber_14 (v := (nI 0)) rfl ?_
    exact a_zret (pc := 15) hG hd dX11_isDeedNumber_15
  refine a_iload_n (pc := 4) hG 0 rfl dX11_isDeedNumber_4 rfl ?_
  refine a_bipush (pc := 5) hG dX11_isDeedNumber_5 (v := (nI 6)) rfl ?_
  refine a_ic_gt (pc := 7) hG (tgt := 14) hd dX11_isDeedNumber_7 (by decide) (fun hd => ?_) (fun hd => ?_)
  · refine a_iconst (pc := 14) hG dX11_isDeedNumber_14 (v := (nI 0)) rfl ?_
    exact a_zret (pc := 15) hG hd dX11_isDeedNumber_15
  refine a_iconst (pc := 10) hG dX11_isDeedNumber_10 (v := (nI 1)) rfl ?_
  refine a_goto (pc := 11) hG (tgt := 15) dX11_isDeedNumber_11 (by decide) ?_
  exact a_zret (pc := 15) hG hd dX11_isDeedNumber_15
theorem dX9_sumOfOrders_0 : decode cX9_sumOfOrders 0 = .ok (.iload_n 1, 1) := by decide +kernel
theorem dX9_sumOfOrders_1 : decode cX9_sumOfOrders 1 = .ok (.ifCond .ne 7, 3) := by decide +kernel
theorem dX9_sumOfOrders_4 : decode cX9_sumOfOrders 4 = .ok (.iconst 1, 1) := by decide +kernel
theorem dX9_sumOfOrders_5 : decode cX9_sumOfOrders 5 = .ok (.goto 4, 3) := by decide +kernel
theorem dX9_sumOfOrders_8 : decode cX9_sumOfOrders 8 = .ok (.iconst 0, 1) := by decide +kernel
theorem dX9_sumOfOrders_9 : decode cX9_sumOfOrders 9 = .ok (.istore_n 2, 1) := by decide +kernel
theorem dX9_sumOfOrders_10 : decode cX9_sumOfOrders 10 = .ok (.iconst 0, 1) := by decide +kernel
theorem dX9_sumOfOrders_11 : decode cX9_sumOfOrders 11 = .ok (.istore_n 3, 1) := by decide +kernel
theorem dX9_sumOfOrders_12 : decode cX9_sumOfOrders 12 = .ok (.iload_n 3, 1) := by decide +kernel
theorem dX9_sumOfOrders_13 : decode cX9_sumOfOrders 13 = .ok (.bipush 6, 2) := by decide +kernel
theorem dX9_sumOfOrders_15 : decode cX9_sumOfOrders 15 = .ok (.if_icmp .ge 33, 3) := by decide +kernel
theorem dX9_sumOfOrders_18 : decode cX9_sumOfOrders 18 = .ok (.iconst 1, 1) := by decide +kernel
theorem dX9_sumOfOrders_19 : decode cX9_sumOfOrders 19 = .ok (.iload_n 3, 1) := by decide +kernel
theorem dX9_sumOfOrders_20 : decode cX9_sumOfOrders 20 = .ok (.ishl, 1) := by decide +kernel
theorem dX9_sumOfOrders_21 : decode cX9_sumOfOrders 21 = .ok (.istore 4, 2) := by decide +kernel
theorem dX9_sumOfOrders_23 : decode cX9_sumOfOrders 23 = .ok (.iload_n 1, 1) := by decide +kernel
theorem dX9_sumOfOrders_24 : decode cX9_sumOfOrders 24 = .ok (.iload 4, 2) := by decide +kernel
theorem dX9_sumOfOrders_26 : decode cX9_sumOfOrders 26 = .ok (.iand, 1) := by decide +kernel
theorem dX9_sumOfOrders_27 : decode cX9_sumOfOrders 27 = .ok (.ifCond .eq 15, 3) := by decide +kernel
theorem dX9_sumOfOrders_30 : decode cX9_sumOfOrders 30 = .ok (.iload_n 2, 1) := by decide +kernel
theorem dX9_sumOfOrders_31 : decode cX9_sumOfOrders 31 = .ok (.aload_n 0, 1) := by decide +kernel
theorem dX9_sumOfOrders_32 : decode cX9_sumOfOrders 32 = .ok (.getfield 21, 3) := by decide +kernel
theorem dX9_sumOfOrders_35 : decode cX9_sumOfOrders 35 = .ok (.iload_n 1, 1) := by decide +kernel
theorem dX9_sumOfOrders_36 : decode cX9_sumOfOrders 36 = .ok (.iload 4, 2) := by decide +kernel
theorem dX9_sumOfOrders_38 : decode cX9_sumOfOrders 38 = .ok (.ixor, 1) := by decide +kernel
theorem dX9_sumOfOrders_39 : decode cX9_sumOfOrders 39 = .ok (.iaload, 1) := by decide +kernel
theorem dX9_sumOfOrders_40 : decode cX9_sumOfOrders 40 = .ok (.iadd, 1) := by decide +kernel
theorem dX9_sumOfOrders_41 : decode cX9_sumOfOrders 41 = .ok (.istore_n 2, 1) := by decide +kernel
theorem dX9_sumOfOrders_42 : decode cX9_sumOfOrders 42 = .ok (.iinc 3 1, 3) := by decide +kernel
theorem dX9_sumOfOrders_45 : decode cX9_sumOfOrders 45 = .ok (.goto (-33), 3) := by decide +kernel
theorem dX9_sumOfOrders_48 : decode cX9_sumOfOrders 48 = .ok (.iload_n 2, 1) := by decide +kernel
theorem dX9_sumOfOrders_49 : decode cX9_sumOfOrders 49 = .ok (.ireturn, 1) := by decide +kernel
set_option maxHeartbeats 4000000 in
theorem w_l_Ways_sumOfOrders_0 {ad wad : Nat → Nat} {Γ : Ctx} (F : Nat) {n : Nat} (hn : 1 ≤ n) (hG : Cx SHc ad wad cX9_sumOfOrders 5 RX9 (some .int) (n) Γ) {q : Int32 × HS} {x1 : Int32} {g : Nat} {x2 : Int32} {x3 : Int32} {h : HS} (hd : l_Ways_sumOfOrders_0 F x1 g x2 x3 h = some q) : AW SHc ad 5 (some (.int q.1), q.2) Γ 12 [(0, .ref (ad 31)), (1, .int x1), (2, .int x2), (3, .int x3)] [] h := by
  induction g generalizing x2 x3 h with
  | zero => unfold l_Ways_sumOfOrders_0 at hd; cases hd
  | succ g ih =>
    unfold l_Ways_sumOfOrders_0 at hd
    refine a_iload_n (pc := 12) hG 3 rfl dX9_sumOfOrders_12 rfl ?_
    refine a_bipush (pc := 13) hG dX9_sumOfOrders_13 (v := (nI 6)) rfl ?_
    refine a_ic_ge (pc := 15) hG (tgt := 48) hd dX9_sumOfOrders_15 (by decide) (fun hd => ?_) (fun hd => ?_)
    · refine a_iload_n (pc := 48) hG 2 rfl dX9_sumOfOrders_48 rfl ?_
      exact a_iret (pc := 49) hG hd dX9_sumOfOrders_49
    refine a_iconst (pc := 18) hG dX9_sumOfOrders_18 (v := (nI 1)) rfl ?_
    refine a_iload_n (pc := 19) hG 3 rfl dX9_sumOfOrders_19 rfl ?_
    refine a_ishl (pc := 20) hG dX9_sumOfOrders_20 ?_
    refine a_istoreN (pc := 21) hG hd dX9_sumOfOrders_21 (by decide) (lf := fun x => [(4, .int x), (0, .ref (ad 31)), (1, .int x1), (2, .int x2), (3, .int x3)]) (fun _ => rfl) (fun v6 hd => ?_)
    refine a_iload_n (pc := 23) hG 2 rfl dX9_sumOfOrders_23 rfl ?_
    refine a_iload (pc := 24) hG 0 rfl dX9_sumOfOrders_24 ?_
    refine a_iand (pc := 26) hG dX9_sumOfOrders_26 ?_
    refine a_join hd (Q := fun J : Int32 → HS → Option (Int32 × HS) => ∀ (v8 : Int32) (h9 : HS), J v8 h9 = some q → AW SHc ad 5 (some (.int q.1), q.2) Γ 42 [(0, .ref (ad 31)), (1, .int x1), (2, .int v8), (3, .int x3)] [] h9) (fun v8 h9 hd => ?_) (fun J7 hJ7 hd => ?_)
    · refine a_iincN (pc := 42) hG (c0 := (nI 1)) 3 rfl hd dX9_sumOfOrders_42 rfl (by decide) (lf := fun x => [(3, .int x), (0, .ref (ad 31)), (1, .int x1), (2, .int v8)]) (fun _ => rfl) (fun v10 hd => ?_)
      refine a_goto (pc := 45) hG (tgt := 12) dX9_sumOfOrders_45 (by decide) ?_
      exact AW.sub [1, 2, 3, 0] rfl (ih hd)
    refine a_if_eq (pc := 27) hG (tgt := 42) hd dX9_sumOfOrders_27 (by decide) (fun hd => ?_) (fun hd => ?_)
    · exact AW.sub [1, 2, 3, 4] rfl (hJ7 _ _ hd)
    refine a_iload_n (pc := 30) hG 3 rfl dX9_sumOfOrders_30 rfl ?_
    refine a_aload_n (pc := 31) hG 1 rfl dX9_sumOfOrders_31 rfl ?_
    refine a_getR (pc := 32) hG sc_31 cl_X9 ok_X9 5 (by decide) rfl t_293 dX9_sumOfOrders_32 ?_
    refine a_iload_n (pc := 35) hG 2 rfl dX9_sumOfOrders_35 rfl ?_
    refine a_iload (pc := 36) hG 0 rfl dX9_sumOfOrders_36 ?_
    refine a_ixor (pc := 38) hG dX9_sumOfOrders_38 ?_
    refine a_iald (pc := 39) hG sc_35 hd dX9_sumOfOrders_39 (fun hd => ?_)
    refine a_iadd (pc := 40) hG dX9_sumOfOrders_40 ?_
    refine a_istore_nN (pc := 41) hG hd dX9_sumOfOrders_41 rfl (by decide) (lf := fun x => [(2, .int x), (4, .int v6), (0, .ref (ad 31)), (1, .int x1), (3, .int x3)]) (fun _ => rfl) (fun v11 hd => ?_)
    exact AW.sub [2, 3, 0, 4] rfl (hJ7 _ _ hd)
set_option maxHeartbeats 4000000 in
theorem c_Ways_sumOfOrders {ad wad : Nat → Nat} (F : Nat) (a0 : Int32) (h : HS)  (q : Int32 × HS) (hd : f_Ways_sumOfOrders F a0 h = some q) : Ctr SHc ad wad yX9_sumOfOrders cX9_sumOfOrders 5 (some .int) 1 [.ref (ad 31), .int a0] h (some (.int q.1), q.2) := by
  refine enter (own := RX9) (lv := [(0, .ref (ad 31)), (1, .int a0)]) (by decide +kernel) rfl (Nat.le_of_ble_eq_true rfl) rfl (fun Γ hG => ?_)
  unfold f_Ways_sumOfOrders at hd
  refine a_iload_n (pc := 0) hG 1 rfl dX9_sumOfOrders_0 rfl ?_
  refine a_join hd (Q := fun J : Int32 → HS → Option (Int32 × HS) => ∀ (v2 : Int32) (h3 : HS), J v2 h3 = some q → AW SHc ad 5 (some (.int q.1), q.2) Γ 9 [(0, .ref (ad 31)), (1, .int a0)] [.int v2] h3) (fun v2 h3 hd => ?_) (fun J1 hJ1 hd => ?_)
  · refine a_istore_nN (pc := 9) hG hd dX9_sumOfOrders_9 rfl (by decide) (lf := fun x => [(2, .int x), (0, .ref (ad 31)), (1, .int a0)]) (fun _ => rfl) (fun v4 hd => ?_)
    refine a_iconst (pc := 10) hG dX9_sumOfOrders_10 (v := (nI 0)) rfl ?_
    refine a_istore_nN (pc := 11) hG hd dX9_sumOfOrders_11 rfl (by decide) (lf := fun x => [(3, .int x), (2, .int v4), (0, .ref (ad 31)), (1, .int a0)]) (fun _ => rfl) (fun v5 hd => ?_)
    refine AW.sub [2, 3, 1, 0] rfl ?_
    exact w_l_Ways_sumOfOrders_0 F (by omega) hG hd
  refine a_if_ne (pc := 1) hG (tgt := 8) hd dX9_sumOfOrders_1 (by decide) (fun hd => ?_) (fun hd => ?_)
  · refine a_iconst (pc := 8) hG dX9_sumOfOrders_8 (v := (nI 0)) rfl ?_
    exact AW.sub [0, 1] rfl (hJ1 _ _ hd)
  refine a_iconst (pc := 4) hG dX9_sumOfOrders_4 (v := (nI 1)) rfl ?_
  refine a_goto (pc := 5) hG (tgt := 9) dX9_sumOfOrders_5 (by decide) ?_
  exact AW.sub [0, 1] rfl (hJ1 _ _ hd)
theorem dX9_countOrders_0 : decode cX9_countOrders 0 = .ok (.aload_n 0, 1) := by decide +kernel
theorem dX9_countOrders_1 : decode cX9_countOrders 1 = .ok (.getfield 32, 3) := by decide +kernel
theorem dX9_countOrders_4 : decode cX9_countOrders 4 = .ok (.iload_n 1, 1) := by decide +kernel
theorem dX9_countOrders_5 : decode cX9_countOrders 5 = .ok (.iconst 0, 1) := by decide +kernel
theorem dX9_countOrders_6 : decode cX9_countOrders 6 = .ok (.invokevirtual 46, 3) := by decide +kernel
theorem dX9_countOrders_9 : decode cX9_countOrders 9 = .ok (.istore_n 2, 1) := by decide +kernel
theorem dX9_countOrders_10 : decode cX9_countOrders 10 = .ok (.aload_n 0, 1) := by decide +kernel
theorem dX9_countOrders_11 : decode cX9_countOrders 11 = .ok (.getfield 32, 3) := by decide +kernel
theorem dX9_countOrders_14 : decode cX9_countOrders 14 = .ok (.iload_n 1, 1) := by decide +kernel
theorem dX9_countOrders_15 : decode cX9_countOrders 15 = .ok (.iconst 1, 1) := by decide +kernel
theorem dX9_countOrders_16 : decode cX9_countOrders 16 = .ok (.invokevirtual 46, 3) := by decide +kernel
theorem dX9_countOrders_19 : decode cX9_countOrders 19 = .ok (.istore_n 3, 1) := by decide +kernel
theorem dX9_countOrders_20 : decode cX9_countOrders 20 = .ok (.aload_n 0, 1) := by decide +kernel
theorem dX9_countOrders_21 : decode cX9_countOrders 21 = .ok (.getfield 32, 3) := by decide +kernel
theorem dX9_countOrders_24 : decode cX9_countOrders 24 = .ok (.iload_n 1, 1) := by decide +kernel
theorem dX9_countOrders_25 : decode cX9_countOrders 25 = .ok (.bipush 6, 2) := by decide +kernel
theorem dX9_countOrders_27 : decode cX9_countOrders 27 = .ok (.invokevirtual 46, 3) := by decide +kernel
theorem dX9_countOrders_30 : decode cX9_countOrders 30 = .ok (.istore 4, 2) := by decide +kernel
theorem dX9_countOrders_32 : decode cX9_countOrders 32 = .ok (.iconst 0, 1) := by decide +kernel
theorem dX9_countOrders_33 : decode cX9_countOrders 33 = .ok (.istore 5, 2) := by decide +kernel
theorem dX9_countOrders_35 : decode cX9_countOrders 35 = .ok (.iload 5, 2) := by decide +kernel
theorem dX9_countOrders_37 : decode cX9_countOrders 37 = .ok (.aload_n 0, 1) := by decide +kernel
theorem dX9_countOrders_38 : decode cX9_countOrders 38 = .ok (.getfield 24, 3) := by decide +kernel
theorem dX9_countOrders_41 : decode cX9_countOrders 41 = .ok (.if_icmp .ge 74, 3) := by decide +kernel
theorem dX9_countOrders_44 : decode cX9_countOrders 44 = .ok (.iload 5, 2) := by decide +kernel
theorem dX9_countOrders_46 : decode cX9_countOrders 46 = .ok (.iload 4, 2) := by decide +kernel
theorem dX9_countOrders_48 : decode cX9_countOrders 48 = .ok (.iand, 1) := by decide +kernel
theorem dX9_countOrders_49 : decode cX9_countOrders 49 = .ok (.ifCond .ne 35, 3) := by decide +kernel
theorem dX9_countOrders_52 : decode cX9_countOrders 52 = .ok (.aload_n 0, 1) := by decide +kernel
theorem dX9_countOrders_53 : decode cX9_countOrders 53 = .ok (.getfield 28, 3) := by decide +kernel
theorem dX9_countOrders_56 : decode cX9_countOrders 56 = .ok (.iload_n 2, 1) := by decide +kernel
theorem dX9_countOrders_57 : decode cX9_countOrders 57 = .ok (.aload_n 0, 1) := by decide +kernel
theorem dX9_countOrders_58 : decode cX9_countOrders 58 = .ok (.getfield 9, 3) := by decide +kernel
theorem dX9_countOrders_61 : decode cX9_countOrders 61 = .ok (.iload 5, 2) := by decide +kernel
theorem dX9_countOrders_63 : decode cX9_countOrders 63 = .ok (.iaload, 1) := by decide +kernel
theorem dX9_countOrders_64 : decode cX9_countOrders 64 = .ok (.iadd, 1) := by decide +kernel
theorem dX9_countOrders_65 : decode cX9_countOrders 65 = .ok (.iload_n 3, 1) := by decide +kernel
theorem dX9_countOrders_66 : decode cX9_countOrders 66 = .ok (.aload_n 0, 1) := by decide +kernel
theorem dX9_countOrders_67 : decode cX9_countOrders 67 = .ok (.getfield 15, 3) := by decide +kernel
theorem dX9_countOrders_70 : decode cX9_countOrders 70 = .ok (.iload 5, 2) := by decide +kernel
theorem dX9_countOrders_72 : decode cX9_countOrders 72 = .ok (.iaload, 1) := by decide +kernel
theorem dX9_countOrders_73 : decode cX9_countOrders 73 = .ok (.iadd, 1) := by decide +kernel
theorem dX9_countOrders_74 : decode cX9_countOrders 74 = .ok (.invokevirtual 97, 3) := by decide +kernel
theorem dX9_countOrders_77 : decode cX9_countOrders 77 = .ok (.ifCond .eq 7, 3) := by decide +kernel
theorem dX9_countOrders_80 : decode cX9_countOrders 80 = .ok (.iconst 1, 1) := by decide +kernel
theorem dX9_countOrders_81 : decode cX9_countOrders 81 = .ok (.goto 4, 3) := by decide +kernel
theorem dX9_countOrders_84 : decode cX9_countOrders 84 = .ok (.iconst 0, 1) := by decide +kernel
theorem dX9_countOrders_85 : decode cX9_countOrders 85 = .ok (.istore 6, 2) := by decide +kernel
theorem dX9_countOrders_87 : decode cX9_countOrders 87 = .ok (.aload_n 0, 1) := by decide +kernel
theorem dX9_countOrders_88 : decode cX9_countOrders 88 = .ok (.getfield 21, 3) := by decide +kernel
theorem dX9_countOrders_91 : decode cX9_countOrders 91 = .ok (.iload 5, 2) := by decide +kernel
theorem dX9_countOrders_93 : decode cX9_countOrders 93 = .ok (.iload 6, 2) := by decide +kernel
theorem dX9_countOrders_95 : decode cX9_countOrders 95 = .ok (.ifCond .eq 12, 3) := by decide +kernel
theorem dX9_countOrders_98 : decode cX9_countOrders 98 = .ok (.aload_n 0, 1) := by decide +kernel
theorem dX9_countOrders_99 : decode cX9_countOrders 99 = .ok (.iload 5, 2) := by decide +kernel
theorem dX9_countOrders_101 : decode cX9_countOrders 101 = .ok (.invokevirtual 111, 3) := by decide +kernel
theorem dX9_countOrders_104 : decode cX9_countOrders 104 = .ok (.goto 4, 3) := by decide +kernel
theorem dX9_countOrders_107 : decode cX9_countOrders 107 = .ok (.iconst 0, 1) := by decide +kernel
theorem dX9_countOrders_108 : decode cX9_countOrders 108 = .ok (.iastore, 1) := by decide +kernel
theorem dX9_countOrders_109 : decode cX9_countOrders 109 = .ok (.iinc 5 1, 3) := by decide +kernel
theorem dX9_countOrders_112 : decode cX9_countOrders 112 = .ok (.goto (-77), 3) := by decide +kernel
theorem dX9_countOrders_115 : decode cX9_countOrders 115 = .ok (.return_, 1) := by decide +kernel
set_option maxHeartbeats 4000000 in
theorem w_l_Ways_countOrders_0 {ad wad : Nat → Nat} {Γ : Ctx} (F : Nat) {n : Nat} (hn : 2 ≤ n) (hG : Cx SHc ad wad cX9_countOrders 7 RX9 none (n) Γ) {q : Unit × HS} {x2 : Int32} {x3 : Int32} {x4 : Int32} {g : Nat} {x5 : Int32} {h : HS} (hd : l_Ways_countOrders_0 F x2 x3 x4 g x5 h = some q) : AW SHc ad 7 (none, q.2) Γ 35 [(0, .ref (ad 31)), (2, .int x2), (3, .int x3), (4, .int x4), (5, .int x5)] [] h := by
  induction g generalizing x5 h with
  | zero => unfold l_Ways_countOrders_0 at hd; cases hd
  | succ g ih =>
    unfold l_Ways_countOrders_0 at hd
    refine a_iload (pc := 35) hG 4 rfl dX9_countOrders_35 ?_
    refine a_aload_n (pc := 37) hG 0 rfl dX9_countOrders_37 rfl ?_
    refine a_getI (pc := 38) hG sc_31 cl_X9 ok_X9 6 (by decide) rfl t_294 dX9_countOrders_38 ?_
    refine a_ic_ge (pc := 41) hG (tgt := 115) hd dX9_countOrders_41 (by decide) (fun hd => ?_) (fun hd => ?_)
    · exact a_vret (pc := 115) hG hd dX9_countOrders_115
    refine a_iload (pc := 44) hG 4 rfl dX9_countOrders_44 ?_
    refine a_iload (pc := 46) hG 3 rfl dX9_countOrders_46 ?_
    refine a_iand (pc := 48) hG dX9_countOrders_48 ?_
    refine a_join hd (Q := fun J : Int32 → HS → Option (Unit × HS) => ∀ (v12 : Int32) (h13 : HS), J v12 h13 = some q → AW SHc ad 7 (none, q.2) Γ 85 [(0, .ref (ad 31)), (2, .int x2), (3, .int x3), (4, .int x4), (5, .int x5)] [.int v12] h13) (fun v12 h13 hd => ?_) (fun J11 hJ11 hd => ?_)
    · refine a_istoreN (pc := 85) hG hd dX9_countOrders_85 (by decide) (lf := fun x => [(6, .int x), (0, .ref (ad 31)), (2, .int x2), (3, .int x3), (4, .int x4), (5, .int x5)]) (fun _ => rfl) (fun v14 hd => ?_)
      refine a_aload_n (pc := 87) hG 1 rfl dX9_countOrders_87 rfl ?_
      refine a_getR (pc := 88) hG sc_31 cl_X9 ok_X9 5 (by decide) rfl t_293 dX9_countOrders_88 ?_
      refine a_iload (pc := 91) hG 5 rfl dX9_countOrders_91 ?_
      refine a_iload (pc := 93) hG 0 rfl dX9_countOrders_93 ?_
      refine a_join hd (Q := fun J : Int32 → HS → Option (Unit × HS) => ∀ (v16 : Int32) (h17 : HS), J v16 h17 = some q → AW SHc ad 7 (none, q.2) Γ 108 [(0, .ref (ad 31)), (2, .int x2), (3, .int x3), (4, .int x4), (5, .int x5)] [.int v16, .int x5, .ref (ad 35)] h17) (fun v16 h17 hd => ?_) (fun J15 hJ15 hd => ?_)
      · refine a_iast (pc := 108) hG sc_35 hd dX9_countOrders_108 (fun h18 hd => ?_)
        refine a_iincN (pc := 109) hG (c0 := (nI 1)) 4 rfl hd dX9_countOrders_109 rfl (by decide) (lf := fun x => [(5, .int x), (0, .ref (ad 31)), (2, .int x2), (3, .int x3), (4, .int x4)]) (fun _ => rfl) (fun v19 hd => ?_)
        refine a_goto (pc := 112) hG (tgt := 35) dX9_countOrders_112 (by decide) ?_
        exact AW.sub [1, 2, 3, 4, 0] rfl (ih hd)
      refine a_if_eq (pc := 95) hG (tgt := 107) hd dX9_countOrders_95 (by decide) (fun hd => ?_) (fun hd => ?_)
      · refine a_iconst (pc := 107) hG dX9_countOrders_107 (v := (nI 0)) rfl ?_
        exact AW.sub [1, 2, 3, 4, 5] rfl (hJ15 _ _ hd)
      refine a_aload_n (pc := 98) hG 1 rfl dX9_countOrders_98 rfl ?_
      refine a_iload (pc := 99) hG 5 rfl dX9_countOrders_99 ?_
      refine a_cvI (pc := 101) hG (As := [.int x5]) (st := [.int x5, .ref (ad 35)]) sc_31 cl_X9 mk_X9_sumOfOrders t_955 (by omega) (fun z hz => c_Ways_sumOfOrders F x5 _  z hz) rfl (Nat.le_of_ble_eq_true rfl) hd dX9_countOrders_101 (fun r21 h20 hd => ?_)
      refine a_goto (pc := 104) hG (tgt := 108) dX9_countOrders_104 (by decide) ?_
      exact AW.sub [1, 2, 3, 4, 5] rfl (hJ15 _ _ hd)
    refine a_join hd (Q := fun J : HS → Option (Unit × HS) => ∀  (h23 : HS), J  h23 = some q → AW SHc ad 7 (none, q.2) Γ 84 [(0, .ref (ad 31)), (2, .int x2), (3, .int x3), (4, .int x4), (5, .int x5)] [] h23) (fun  h23 hd => ?_) (fun J22 hJ22 hd => ?_)
    · refine a_iconst (pc := 84) hG dX9_countOrders_84 (v := (nI 0)) rfl ?_
      exact AW.sub [0, 1, 2, 3, 4] rfl (hJ11 _ _ hd)
    refine a_if_ne (pc := 49) hG (tgt := 84) hd dX9_countOrders_49 (by decide) (fun hd => ?_) (fun hd => ?_)
    · exact AW.sub [0, 1, 2, 3, 4] rfl (hJ22  _ hd)
    refine a_aload_n (pc := 52) hG 0 rfl dX9_countOrders_52 rfl ?_
    refine a_getR (pc := 53) hG sc_31 cl_X9 ok_X9 0 (by decide) rfl t_288 dX9_countOrders_53 ?_
    refine a_iload_n (pc := 56) hG 1 rfl dX9_countOrders_56 rfl ?_
    refine a_aload_n (pc := 57) hG 0 rfl dX9_countOrders_57 rfl ?_
    refine a_getR (pc := 58) hG sc_31 cl_X9 ok_X9 2 (by decide) rfl t_290 dX9_countOrders_58 ?_
    refine a_iload (pc := 61) hG 4 rfl dX9_countOrders_61 ?_
    refine a_iald (pc := 63) hG sc_32 hd dX9_countOrders_63 (fun hd => ?_)
    refine a_iadd (pc := 64) hG dX9_countOrders_64 ?_
    refine a_iload_n (pc := 65) hG 2 rfl dX9_countOrders_65 rfl ?_
    refine a_aload_n (pc := 66) hG 0 rfl dX9_countOrders_66 rfl ?_
    refine a_getR (pc := 67) hG sc_31 cl_X9 ok_X9 3 (by decide) rfl t_291 dX9_countOrders_67 ?_
    refine a_iload (pc := 70) hG 4 rfl dX9_countOrders_70 ?_
    refine a_iald (pc := 72) hG sc_33 hd dX9_countOrders_72 (fun hd => ?_)
    refine a_iadd (pc := 73) hG dX9_countOrders_73 ?_
    refine a_cvI (pc := 74) hG (As := [.int (x2 + (h.1 32 x5.toNatClampNeg)), .int (x3 + (h.1 33 x5.toNatClampNeg))]) (st := []) sc_3 cl_X5 mk_X5_isSafe t_954 (by omega) (fun z hz => c_Plan_isSafe_3 (x2 + (h.1 32 x5.toNatClampNeg)) (x3 + (h.1 33 x5.toNatClampNeg)) _  z hz) rfl (Nat.le_of_ble_eq_true rfl) hd dX9_countOrders_74 (fun r25 h24 hd => ?_)
    refine a_if_eq (pc := 77) hG (tgt := 84) hd dX9_countOrders_77 (by decide) (fun hd => ?_) (fun hd => ?_)
    · exact AW.sub [0, 1, 2, 3, 4] rfl (hJ22  _ hd)
    refine a_iconst (pc := 80) hG dX9_countOrders_80 (v := (nI 1)) rfl ?_
    refine a_goto (pc := 81) hG (tgt := 85) dX9_countOrders_81 (by decide) ?_
    exact AW.sub [0, 1, 2, 3, 4] rfl (hJ11 _ _ hd)
set_option maxHeartbeats 4000000 in
theorem c_Ways_countOrders {ad wad : Nat → Nat} (F : Nat) (a0 : Int32) (h : HS)  (q : Unit × HS) (hd : f_Ways_countOrders F a0 h = some q) : Ctr SHc ad wad yX9_countOrders cX9_countOrders 7 none 2 [.ref (ad 31), .int a0] h (none, q.2) := by
  refine enter (own := RX9) (lv := [(0, .ref (ad 31)), (1, .int a0)]) (by decide +kernel) rfl (Nat.le_of_ble_eq_true rfl) rfl (fun Γ hG => ?_)
  unfold f_Ways_countOrders at hd
  refine a_aload_n (pc := 0) hG 0 rfl dX9_countOrders_0 rfl ?_
  refine a_getR (pc := 1) hG sc_31 cl_X9 ok_X9 1 (by decide) rfl t_289 dX9_countOrders_1 ?_
  refine a_iload_n (pc := 4) hG 1 rfl dX9_countOrders_4 rfl ?_
  refine a_iconst (pc := 5) hG dX9_countOrders_5 (v := (nI 0)) rfl ?_
  refine a_cvI (pc := 6) hG (As := [.int a0, .int (nI 0)]) (st := []) sc_20 cl_X0 mk_X0_ofCause t_953 (by omega) (fun z hz => c_Desk_ofCause a0 (nI 0) _  z hz) rfl (Nat.le_of_ble_eq_true rfl) hd dX9_countOrders_6 (fun r2 h1 hd => ?_)
  refine a_istore_nN (pc := 9) hG hd dX9_countOrders_9 rfl (by decide) (lf := fun x => [(2, .int x), (0, .ref (ad 31)), (1, .int a0)]) (fun _ => rfl) (fun v3 hd => ?_)
  refine a_aload_n (pc := 10) hG 1 rfl dX9_countOrders_10 rfl ?_
  refine a_getR (pc := 11) hG sc_31 cl_X9 ok_X9 1 (by decide) rfl t_289 dX9_countOrders_11 ?_
  refine a_iload_n (pc := 14) hG 2 rfl dX9_countOrders_14 rfl ?_
  refine a_iconst (pc := 15) hG dX9_countOrders_15 (v := (nI 1)) rfl ?_
  refine a_cvI (pc := 16) hG (As := [.int a0, .int (nI 1)]) (st := []) sc_20 cl_X0 mk_X0_ofCause t_953 (by omega) (fun z hz => c_Desk_ofCause a0 (nI 1) _  z hz) rfl (Nat.le_of_ble_eq_true rfl) hd dX9_countOrders_16 (fun r5 h4 hd => ?_)
  refine a_istore_nN (pc := 19) hG hd dX9_countOrders_19 rfl (by decide) (lf := fun x => [(3, .int x), (2, .int v3), (0, .ref (ad 31)), (1, .int a0)]) (fun _ => rfl) (fun v6 hd => ?_)
  refine a_aload_n (pc := 20) hG 2 rfl dX9_countOrders_20 rfl ?_
  refine a_getR (pc := 21) hG sc_31 cl_X9 ok_X9 1 (by decide) rfl t_289 dX9_countOrders_21 ?_
  refine a_iload_n (pc := 24) hG 3 rfl dX9_countOrders_24 rfl ?_
  refine a_bipush (pc := 25) hG dX9_countOrders_25 (v := (nI 6)) rfl ?_
  refine a_cvI (pc := 27) hG (As := [.int a0, .int (nI 6)]) (st := []) sc_20 cl_X0 mk_X0_ofCause t_953 (by omega) (fun z hz => c_Desk_ofCause a0 (nI 6) _  z hz) rfl (Nat.le_of_ble_eq_true rfl) hd dX9_countOrders_27 (fun r8 h7 hd => ?_)
  refine a_istoreN (pc := 30) hG hd dX9_countOrders_30 (by decide) (lf := fun x => [(4, .int x), (3, .int v6), (2, .int v3), (0, .ref (ad 31)), (1, .int a0)]) (fun _ => rfl) (fun v9 hd => ?_)
  refine a_iconst (pc := 32) hG dX9_countOrders_32 (v := (nI 0)) rfl ?_
  refine a_istoreN (pc := 33) hG hd dX9_countOrders_33 (by decide) (lf := fun x => [(5, .int x), (4, .int v9), (3, .int v6), (2, .int v3), (0, .ref (ad 31)), (1, .int a0)]) (fun _ => rfl) (fun v10 hd => ?_)
  refine AW.sub [4, 3, 2, 1, 0] rfl ?_
  exact w_l_Ways_countOrders_0 F (by omega) hG hd
theorem dJ6_bitCount_0f7a4_0 : decode cJ6_bitCount_0f7a4 0 = .ok (.iload_n 0, 1) := by decide +kernel
theorem dJ6_bitCount_0f7a4_1 : decode cJ6_bitCount_0f7a4 1 = .ok (.iload_n 0, 1) := by decide +kernel
theorem dJ6_bitCount_0f7a4_2 : decode cJ6_bitCount_0f7a4 2 = .ok (.iconst 1, 1) := by decide +kernel
theorem dJ6_bitCount_0f7a4_3 : decode cJ6_bitCount_0f7a4 3 = .ok (.iushr, 1) := by decide +kernel
theorem dJ6_bitCount_0f7a4_4 : decode cJ6_bitCount_0f7a4 4 = .ok (.ldc_w 265, 3) := by decide +kernel
theorem dJ6_bitCount_0f7a4_7 : decode cJ6_bitCount_0f7a4 7 = .ok (.iand, 1) := by decide +kernel
theorem dJ6_bitCount_0f7a4_8 : decode cJ6_bitCount_0f7a4 8 = .ok (.isub, 1) := by decide +kernel
theorem dJ6_bitCount_0f7a4_9 : decode cJ6_bitCount_0f7a4 9 = .ok (.istore_n 0, 1) := by decide +kernel
theorem dJ6_bitCount_0f7a4_10 : decode cJ6_bitCount_0f7a4 10 = .ok (.iload_n 0, 1) := by decide +kernel
theorem dJ6_bitCount_0f7a4_11 : decode cJ6_bitCount_0f7a4 11 = .ok (.ldc_w 266, 3) := by decide +kernel
theorem dJ6_bitCount_0f7a4_14 : decode cJ6_bitCount_0f7a4 14 = .ok (.iand, 1) := by decide +kernel
theorem dJ6_bitCount_0f7a4_15 : decode cJ6_bitCount_0f7a4 15 = .ok (.iload_n 0, 1) := by decide +kernel
theorem dJ6_bitCount_0f7a4_16 : decode cJ6_bitCount_0f7a4 16 = .ok (.iconst 2, 1) := by decide +kernel
theorem dJ6_bitCount_0f7a4_17 : decode cJ6_bitCount_0f7a4 17 = .ok (.iushr, 1) := by decide +kernel
theorem dJ6_bitCount_0f7a4_18 : decode cJ6_bitCount_0f7a4 18 = .ok (.ldc_w 266, 3) := by decide +kernel
theorem dJ6_bitCount_0f7a4_21 : decode cJ6_bitCount_0f7a4 21 = .ok (.iand, 1) := by decide +kernel
theorem dJ6_bitCount_0f7a4_22 : decode cJ6_bitCount_0f7a4 22 = .ok (.iadd, 1) := by decide +kernel
theorem dJ6_bitCount_0f7a4_23 : decode cJ6_bitCount_0f7a4 23 = .ok (.istore_n 0, 1) := by decide +kernel
theorem dJ6_bitCount_0f7a4_24 : decode cJ6_bitCount_0f7a4 24 = .ok (.iload_n 0, 1) := by decide +kernel
theorem dJ6_bitCount_0f7a4_25 : decode cJ6_bitCount_0f7a4 25 = .ok (.iload_n 0, 1) := by decide +kernel
theorem dJ6_bitCount_0f7a4_26 : decode cJ6_bitCount_0f7a4 26 = .ok (.iconst 4, 1) := by decide +kernel
theorem dJ6_bitCount_0f7a4_27 : decode cJ6_bitCount_0f7a4 27 = .ok (.iushr, 1) := by decide +kernel
theorem dJ6_bitCount_0f7a4_28 : decode cJ6_bitCount_0f7a4 28 = .ok (.iadd, 1) := by decide +kernel
theorem dJ6_bitCount_0f7a4_29 : decode cJ6_bitCount_0f7a4 29 = .ok (.ldc_w 267, 3) := by decide +kernel
theorem dJ6_bitCount_0f7a4_32 : decode cJ6_bitCount_0f7a4 32 = .ok (.iand, 1) := by decide +kernel
theorem dJ6_bitCount_0f7a4_33 : decode cJ6_bitCount_0f7a4 33 = .ok (.istore_n 0, 1) := by decide +kernel
theorem dJ6_bitCount_0f7a4_34 : decode cJ6_bitCount_0f7a4 34 = .ok (.iload_n 0, 1) := by decide +kernel
theorem dJ6_bitCount_0f7a4_35 : decode cJ6_bitCount_0f7a4 35 = .ok (.iload_n 0, 1) := by decide +kernel
theorem dJ6_bitCount_0f7a4_36 : decode cJ6_bitCount_0f7a4 36 = .ok (.bipush 8, 2) := by decide +kernel
theorem dJ6_bitCount_0f7a4_38 : decode cJ6_bitCount_0f7a4 38 = .ok (.iushr, 1) := by decide +kernel
theorem dJ6_bitCount_0f7a4_39 : decode cJ6_bitCount_0f7a4 39 = .ok (.iadd, 1) := by decide +kernel
theorem dJ6_bitCount_0f7a4_40 : decode cJ6_bitCount_0f7a4 40 = .ok (.istore_n 0, 1) := by decide +kernel
theorem dJ6_bitCount_0f7a4_41 : decode cJ6_bitCount_0f7a4 41 = .ok (.iload_n 0, 1) := by decide +kernel
theorem dJ6_bitCount_0f7a4_42 : decode cJ6_bitCount_0f7a4 42 = .ok (.iload_n 0, 1) := by decide +kernel
theorem dJ6_bitCount_0f7a4_43 : decode cJ6_bitCount_0f7a4 43 = .ok (.bipush 16, 2) := by decide +kernel
theorem dJ6_bitCount_0f7a4_45 : decode cJ6_bitCount_0f7a4 45 = .ok (.iushr, 1) := by decide +kernel
theorem dJ6_bitCount_0f7a4_46 : decode cJ6_bitCount_0f7a4 46 = .ok (.iadd, 1) := by decide +kernel
theorem dJ6_bitCount_0f7a4_47 : decode cJ6_bitCount_0f7a4 47 = .ok (.istore_n 0, 1) := by decide +kernel
theorem dJ6_bitCount_0f7a4_48 : decode cJ6_bitCount_0f7a4 48 = .ok (.iload_n 0, 1) := by decide +kernel
theorem dJ6_bitCount_0f7a4_49 : decode cJ6_bitCount_0f7a4 49 = .ok (.bipush 63, 2) := by decide +kernel
theorem dJ6_bitCount_0f7a4_51 : decode cJ6_bitCount_0f7a4 51 = .ok (.iand, 1) := by decide +kernel
theorem dJ6_bitCount_0f7a4_52 : decode cJ6_bitCount_0f7a4 52 = .ok (.ireturn, 1) := by decide +kernel
set_option maxHeartbeats 4000000 in
theorem c_Int_bitCount_0f7a4 {ad wad : Nat → Nat} (a0 : Int32) (h : HS)  (q : Int32 × HS) (hd : f_Int_bitCount_0f7a4 a0 h = some q) : Ctr SHc ad wad yJ6_bitCount_0f7a4 cJ6_bitCount_0f7a4 1 (some .int) 1 [.int a0] h (some (.int q.1), q.2) := by
  refine enter (own := RJ6) (lv := [(0, .int a0)]) (by decide +kernel) rfl (Nat.le_of_ble_eq_true rfl) rfl (fun Γ hG => ?_)
  unfold f_Int_bitCount_0f7a4 at hd
  refine a_iload_n (pc := 0) hG 0 rfl dJ6_bitCount_0f7a4_0 rfl ?_
  refine a_iload_n (pc := 1) hG 0 rfl dJ6_bitCount_0f7a4_1 rfl ?_
  refine a_iconst (pc := 2) hG dJ6_bitCount_0f7a4_2 (v := (nI 1)) rfl ?_
  refine a_iushr (pc := 3) hG dJ6_bitCount_0f7a4_3 ?_
  refine a_ldc_w (pc := 4) hG (v := (nI 1431655765)) t_962 dJ6_bitCount_0f7a4_4 ?_
  refine a_iand (pc := 7) hG dJ6_bitCount_0f7a4_7 ?_
  refine a_isub (pc := 8) hG dJ6_bitCount_0f7a4_8 ?_
  refine a_istore_nN (pc := 9) hG hd dJ6_bitCount_0f7a4_9 rfl (by decide) (lf := fun x => [(0, .int x)]) (fun _ => rfl) (fun v1 hd => ?_)
  refine a_iload_n (pc := 10) hG 0 rfl dJ6_bitCount_0f7a4_10 rfl ?_
  refine a_ldc_w (pc := 11) hG (v := (nI 858993459)) t_963 dJ6_bitCount_0f7a4_11 ?_
  refine a_iand (pc := 14) hG dJ6_bitCount_0f7a4_14 ?_
  refine a_iload_n (pc := 15) hG 0 rfl dJ6_bitCount_0f7a4_15 rfl ?_
  refine a_iconst (pc := 16) hG dJ6_bitCount_0f7a4_16 (v := (nI 2)) rfl ?_
  refine a_iushr (pc := 17) hG dJ6_bitCount_0f7a4_17 ?_
  refine a_ldc_w (pc := 18) hG (v := (nI 858993459)) t_963 dJ6_bitCount_0f7a4_18 ?_
  refine a_iand (pc := 21) hG dJ6_bitCount_0f7a4_21 ?_
  refine a_iadd (pc := 22) hG dJ6_bitCount_0f7a4_22 ?_
  refine a_istore_nN (pc := 23) hG hd dJ6_bitCount_0f7a4_23 rfl (by decide) (lf := fun x => [(0, .int x)]) (fun _ => rfl) (fun v2 hd => ?_)
  refine a_iload_n (pc := 24) hG 0 rfl dJ6_bitCount_0f7a4_24 rfl ?_
  refine a_iload_n (pc := 25) hG 0 rfl dJ6_bitCount_0f7a4_25 rfl ?_
  refine a_iconst (pc := 26) hG dJ6_bitCount_0f7a4_26 (v := (nI 4)) rfl ?_
  refine a_iushr (pc := 27) hG dJ6_bitCount_0f7a4_27 ?_
  refine a_iadd (pc := 28) hG dJ6_bitCount_0f7a4_28 ?_
  refine a_ldc_w (pc := 29) hG (v := (nI 252645135)) t_964 dJ6_bitCount_0f7a4_29 ?_
  refine a_iand (pc := 32) hG dJ6_bitCount_0f7a4_32 ?_
  refine a_istore_nN (pc := 33) hG hd dJ6_bitCount_0f7a4_33 rfl (by decide) (lf := fun x => [(0, .int x)]) (fun _ => rfl) (fun v3 hd => ?_)
  refine a_iload_n (pc := 34) hG 0 rfl dJ6_bitCount_0f7a4_34 rfl ?_
  refine a_iload_n (pc := 35) hG 0 rfl dJ6_bitCount_0f7a4_35 rfl ?_
  refine a_bipush (pc := 36) hG dJ6_bitCount_0f7a4_36 (v := (nI 8)) rfl ?_
  refine a_iushr (pc := 38) hG dJ6_bitCount_0f7a4_38 ?_
  refine a_iadd (pc := 39) hG dJ6_bitCount_0f7a4_39 ?_
  refine a_istore_nN (pc := 40) hG hd dJ6_bitCount_0f7a4_40 rfl (by decide) (lf := fun x => [(0, .int x)]) (fun _ => rfl) (fun v4 hd => ?_)
  refine a_iload_n (pc := 41) hG 0 rfl dJ6_bitCount_0f7a4_41 rfl ?_
  refine a_iload_n (pc := 42) hG 0 rfl dJ6_bitCount_0f7a4_42 rfl ?_
  refine a_bipush (pc := 43) hG dJ6_bitCount_0f7a4_43 (v := (nI 16)) rfl ?_
  refine a_iushr (pc := 45) hG dJ6_bitCount_0f7a4_45 ?_
  refine a_iadd (pc := 46) hG dJ6_bitCount_0f7a4_46 ?_
  refine a_istore_nN (pc := 47) hG hd dJ6_bitCount_0f7a4_47 rfl (by decide) (lf := fun x => [(0, .int x)]) (fun _ => rfl) (fun v5 hd => ?_)
  refine a_iload_n (pc := 48) hG 0 rfl dJ6_bitCount_0f7a4_48 rfl ?_
  refine a_bipush (pc := 49) hG dJ6_bitCount_0f7a4_49 (v := (nI 63)) rfl ?_
  refine a_iand (pc := 51) hG dJ6_bitCount_0f7a4_51 ?_
  exact a_iret (pc := 52) hG hd dJ6_bitCount_0f7a4_52
