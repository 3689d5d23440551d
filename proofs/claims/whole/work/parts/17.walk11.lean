theorem dX11_risk_0 : decode cX11_risk 0 = .ok (.iload_n 1, 1) := by decide +kernel
theorem dX11_risk_1 : decode cX11_risk 1 = .ok (.iconst 1, 1) := by decide +kernel
theorem dX11_risk_2 : decode cX11_risk 2 = .ok (.if_icmp .lt 19, 3) := by decide +kernel
theorem dX11_risk_5 : decode cX11_risk 5 = .ok (.iload_n 1, 1) := by decide +kernel
theorem dX11_risk_6 : decode cX11_risk 6 = .ok (.bipush 40, 2) := by decide +kernel
theorem dX11_risk_8 : decode cX11_risk 8 = .ok (.if_icmp .gt 13, 3) := by decide +kernel
theorem dX11_risk_11 : decode cX11_risk 11 = .ok (.aload_n 0, 1) := by decide +kernel
theorem dX11_risk_12 : decode cX11_risk 12 = .ok (.getfield 19, 3) := by decide +kernel
theorem dX11_risk_15 : decode cX11_risk 15 = .ok (.invokevirtual 285, 3) := by decide +kernel
theorem dX11_risk_18 : decode cX11_risk 18 = .ok (.ifCond .ne 5, 3) := by decide +kernel
theorem dX11_risk_21 : decode cX11_risk 21 = .ok (.iconst (-1), 1) := by decide +kernel
theorem dX11_risk_22 : decode cX11_risk 22 = .ok (.ireturn, 1) := by decide +kernel
theorem dX11_risk_23 : decode cX11_risk 23 = .ok (.aload_n 0, 1) := by decide +kernel
theorem dX11_risk_24 : decode cX11_risk 24 = .ok (.getfield 40, 3) := by decide +kernel
theorem dX11_risk_27 : decode cX11_risk 27 = .ok (.aload_n 0, 1) := by decide +kernel
theorem dX11_risk_28 : decode cX11_risk 28 = .ok (.getfield 96, 3) := by decide +kernel
theorem dX11_risk_31 : decode cX11_risk 31 = .ok (.invokevirtual 291, 3) := by decide +kernel
theorem dX11_risk_34 : decode cX11_risk 34 = .ok (.aload_n 0, 1) := by decide +kernel
theorem dX11_risk_35 : decode cX11_risk 35 = .ok (.getfield 40, 3) := by decide +kernel
theorem dX11_risk_38 : decode cX11_risk 38 = .ok (.iconst 2, 1) := by decide +kernel
theorem dX11_risk_39 : decode cX11_risk 39 = .ok (.invokevirtual 186, 3) := by decide +kernel
theorem dX11_risk_42 : decode cX11_risk 42 = .ok (.istore_n 3, 1) := by decide +kernel
theorem dX11_risk_43 : decode cX11_risk 43 = .ok (.iconst 0, 1) := by decide +kernel
theorem dX11_risk_44 : decode cX11_risk 44 = .ok (.istore 4, 2) := by decide +kernel
theorem dX11_risk_46 : decode cX11_risk 46 = .ok (.iconst 0, 1) := by decide +kernel
theorem dX11_risk_47 : decode cX11_risk 47 = .ok (.istore 5, 2) := by decide +kernel
theorem dX11_risk_49 : decode cX11_risk 49 = .ok (.iload 5, 2) := by decide +kernel
theorem dX11_risk_51 : decode cX11_risk 51 = .ok (.iload_n 1, 1) := by decide +kernel
theorem dX11_risk_52 : decode cX11_risk 52 = .ok (.if_icmp .ge 49, 3) := by decide +kernel
theorem dX11_risk_55 : decode cX11_risk 55 = .ok (.aload_n 0, 1) := by decide +kernel
theorem dX11_risk_56 : decode cX11_risk 56 = .ok (.getfield 58, 3) := by decide +kernel
theorem dX11_risk_59 : decode cX11_risk 59 = .ok (.bipush 20, 2) := by decide +kernel
theorem dX11_risk_61 : decode cX11_risk 61 = .ok (.iload_n 2, 1) := by decide +kernel
theorem dX11_risk_62 : decode cX11_risk 62 = .ok (.iload 5, 2) := by decide +kernel
theorem dX11_risk_64 : decode cX11_risk 64 = .ok (.iadd, 1) := by decide +kernel
theorem dX11_risk_65 : decode cX11_risk 65 = .ok (.invokevirtual 288, 3) := by decide +kernel
theorem dX11_risk_68 : decode cX11_risk 68 = .ok (.pop, 1) := by decide +kernel
theorem dX11_risk_69 : decode cX11_risk 69 = .ok (.aload_n 0, 1) := by decide +kernel
theorem dX11_risk_70 : decode cX11_risk 70 = .ok (.getfield 40, 3) := by decide +kernel
theorem dX11_risk_73 : decode cX11_risk 73 = .ok (.iconst 2, 1) := by decide +kernel
theorem dX11_risk_74 : decode cX11_risk 74 = .ok (.invokevirtual 186, 3) := by decide +kernel
theorem dX11_risk_77 : decode cX11_risk 77 = .ok (.iload_n 3, 1) := by decide +kernel
theorem dX11_risk_78 : decode cX11_risk 78 = .ok (.if_icmp .le 6, 3) := by decide +kernel
theorem dX11_risk_81 : decode cX11_risk 81 = .ok (.iinc 4 1, 3) := by decide +kernel
theorem dX11_risk_84 : decode cX11_risk 84 = .ok (.aload_n 0, 1) := by decide +kernel
theorem dX11_risk_85 : decode cX11_risk 85 = .ok (.getfield 40, 3) := by decide +kernel
theorem dX11_risk_88 : decode cX11_risk 88 = .ok (.aload_n 0, 1) := by decide +kernel
theorem dX11_risk_89 : decode cX11_risk 89 = .ok (.getfield 96, 3) := by decide +kernel
theorem dX11_risk_92 : decode cX11_risk 92 = .ok (.invokevirtual 295, 3) := by decide +kernel
theorem dX11_risk_95 : decode cX11_risk 95 = .ok (.iinc 5 1, 3) := by decide +kernel
theorem dX11_risk_98 : decode cX11_risk 98 = .ok (.goto (-49), 3) := by decide +kernel
theorem dX11_risk_101 : decode cX11_risk 101 = .ok (.iload 4, 2) := by decide +kernel
theorem dX11_risk_103 : decode cX11_risk 103 = .ok (.ireturn, 1) := by decide +kernel
set_option maxHeartbeats 4000000 in
theorem w_l_LC_risk_0 {ad wad : Nat → Nat} {Γ : Ctx} (F : Nat) {n : Nat} (hn : 8 ≤ n) (hG : Cx SHc ad wad cX11_risk 6 RX11 (some .int) (n) Γ) {q : Int32 × HS} {x1 : Int32} {x2 : Int32} {x3 : Int32} {g : Nat} {x4 : Int32} {x5 : Int32} {h : HS} (hd : l_LC_risk_0 F x1 x2 x3 g x4 x5 h = some q) : AW SHc ad 6 (some (.int q.1), q.2) Γ 49 [(0, .ref (ad 0)), (1, .int x1), (2, .int x2), (3, .int x3), (4, .int x4), (5, .int x5)] [] h := by
  induction g generalizing x4 x5 h with
  | zero => unfold l_LC_risk_0 at hd; cases hd
  | succ g ih =>
    unfold l_LC_risk_0 at hd
    refine a_iload (pc := 49) hG 5 rfl dX11_risk_49 ?_
    refine a_iload_n (pc := 51) hG 1 rfl dX11_risk_51 rfl ?_
    refine a_ic_ge (pc := 52) hG (tgt := 101) hd dX11_risk_52 (by decide) (fun hd => ?_) (fun hd => ?_)
    · refine a_iload (pc := 101) hG 4 rfl dX11_risk_101 ?_
      exact a_iret (pc := 103) hG hd dX11_risk_103
    refine a_aload_n (pc := 55) hG 0 rfl dX11_risk_55 rfl ?_
    refine a_getR (pc := 56) hG sc_0 cl_X11 ok_X11 6 (by decide) rfl t_487 dX11_risk_56 ?_
    refine a_bipush (pc := 59) hG dX11_risk_59 (v := (nI 20)) rfl ?_
    refine a_iload_n (pc := 61) hG 2 rfl dX11_risk_61 rfl ?_
    refine a_iload (pc := 62) hG 5 rfl dX11_risk_62 ?_
    refine a_iadd (pc := 64) hG dX11_risk_64 ?_
    refine a_cvI (pc := 65) hG (As := [.int (nI 20), .int (x2 + x5)]) (st := []) sc_36 cl_X6 mk_X6_passDrawn t_1205 (by omega) (fun z hz => c_Runs_passDrawn F (nI 20) (x2 + x5) _  z hz) rfl (Nat.le_of_ble_eq_true rfl) hd dX11_risk_65 (fun r10 h9 hd => ?_)
    refine a_pop (pc := 68) hG dX11_risk_68 rfl ?_
    refine a_aload_n (pc := 69) hG 0 rfl dX11_risk_69 rfl ?_
    refine a_getR (pc := 70) hG sc_0 cl_X11 ok_X11 4 (by decide) rfl t_485 dX11_risk_70 ?_
    refine a_iconst (pc := 73) hG dX11_risk_73 (v := (nI 2)) rfl ?_
    refine a_cvI (pc := 74) hG (As := [.int (nI 2)]) (st := []) sc_20 cl_X0 mk_X0_ofNow t_810 (by omega) (fun z hz => c_Desk_ofNow (nI 2) _  z hz) rfl (Nat.le_of_ble_eq_true rfl) hd dX11_risk_74 (fun r12 h11 hd => ?_)
    refine a_iload_n (pc := 77) hG 3 rfl dX11_risk_77 rfl ?_
    refine a_join hd (Q := fun J : Int32 → HS → Option (Int32 × HS) => ∀ (v14 : Int32) (h15 : HS), J v14 h15 = some q → AW SHc ad 6 (some (.int q.1), q.2) Γ 84 [(0, .ref (ad 0)), (1, .int x1), (2, .int x2), (3, .int x3), (4, .int v14), (5, .int x5)] [] h15) (fun v14 h15 hd => ?_) (fun J13 hJ13 hd => ?_)
    · refine a_aload_n (pc := 84) hG 0 rfl dX11_risk_84 rfl ?_
      refine a_getR (pc := 85) hG sc_0 cl_X11 ok_X11 4 (by decide) rfl t_485 dX11_risk_85 ?_
      refine a_aload_n (pc := 88) hG 0 rfl dX11_risk_88 rfl ?_
      refine a_getR (pc := 89) hG sc_0 cl_X11 ok_X11 13 (by decide) rfl t_494 dX11_risk_89 ?_
      refine a_cvN (pc := 92) hG (As := [.ref (ad 82)]) (st := []) sc_20 cl_X0 mk_X0_loadFrom t_1223 (by omega) (fun z hz => c_Desk_loadFrom 82 _ sc_82 z hz) rfl (Nat.le_of_ble_eq_true rfl) hd dX11_risk_92 (fun _ h16 hd => ?_)
      refine a_iincN (pc := 95) hG (c0 := (nI 1)) 5 rfl hd dX11_risk_95 rfl (by decide) (lf := fun x => [(5, .int x), (0, .ref (ad 0)), (1, .int x1), (2, .int x2), (3, .int x3), (4, .int v14)]) (fun _ => rfl) (fun v17 hd => ?_)
      refine a_goto (pc := 98) hG (tgt := 49) dX11_risk_98 (by decide) ?_
      exact AW.sub [1, 2, 3, 4, 5, 0] rfl (ih hd)
    refine a_ic_le (pc := 78) hG (tgt := 84) hd dX11_risk_78 (by decide) (fun hd => ?_) (fun hd => ?_)
    · exact AW.sub [0, 1, 2, 3, 4, 5] rfl (hJ13 _ _ hd)
    refine a_iincN (pc := 81) hG (c0 := (nI 1)) 4 rfl hd dX11_risk_81 rfl (by decide) (lf := fun x => [(4, .int x), (0, .ref (ad 0)), (1, .int x1), (2, .int x2), (3, .int x3), (5, .int x5)]) (fun _ => rfl) (fun v18 hd => ?_)
    exact AW.sub [1, 2, 3, 4, 0, 5] rfl (hJ13 _ _ hd)
set_option maxHeartbeats 4000000 in
theorem c_LC_risk {ad wad : Nat → Nat} (F : Nat) (a0 : Int32) (a1 : Int32) (h : HS)  (q : Int32 × HS) (hd : f_LC_risk F a0 a1 h = some q) : Ctr SHc ad wad yX11_risk cX11_risk 6 (some .int) 8 [.ref (ad 0), .int a0, .int a1] h (some (.int q.1), q.2) := by
  refine enter (own := RX11) (lv := [(0, .ref (ad 0)), (1, .int a0), (2, .int a1)]) (by decide +kernel) rfl (Nat.le_of_ble_eq_true rfl) rfl (fun Γ hG => ?_)
  unfold f_LC_risk at hd
  refine a_iload_n (pc := 0) hG 1 rfl dX11_risk_0 rfl ?_
  refine a_iconst (pc := 1) hG dX11_risk_1 (v := (nI 1)) rfl ?_
  refine a_ic_lt (pc := 2) hG (tgt := 21) hd dX11_risk_2 (by decide) (fun hd => ?_) (fun hd => ?_)
  · refine a_iconst (pc := 21) hG dX11_risk_21 (v := (-1 : Int32)) rfl ?_
    exact a_iret (pc := 22) hG hd dX11_risk_22
  refine a_iload_n (pc := 5) hG 1 rfl dX11_risk_5 rfl ?_
  refine a_bipush (pc := 6) hG dX11_risk_6 (v := (nI 40)) rfl ?_
  refine a_ic_gt (pc := 8) hG (tgt := 21) hd dX11_risk_8 (by decide) (fun hd => ?_) (fun hd => ?_)
  · refine a_iconst (pc := 21) hG dX11_risk_21 (v := (-1 : Int32)) rfl ?_
    exact a_iret (pc := 22) hG hd dX11_risk_22
  refine a_aload_n (pc := 11) hG 0 rfl dX11_risk_11 rfl ?_
  refine a_getR (pc := 12) hG sc_0 cl_X11 ok_X11 1 (by decide) rfl t_482 dX11_risk_12 ?_
  refine a_cvI (pc := 15) hG (As := []) (st := []) sc_3 cl_X5 mk_X5_clerks t_1204 (by omega) (fun z hz => c_Plan_clerks_3  _  z hz) rfl (Nat.le_of_ble_eq_true rfl) hd dX11_risk_15 (fun r2 h1 hd => ?_)
  refine a_if_ne (pc := 18) hG (tgt := 23) hd dX11_risk_18 (by decide) (fun hd => ?_) (fun hd => ?_)
  · refine a_aload_n (pc := 23) hG 0 rfl dX11_risk_23 rfl ?_
    refine a_getR (pc := 24) hG sc_0 cl_X11 ok_X11 4 (by decide) rfl t_485 dX11_risk_24 ?_
    refine a_aload_n (pc := 27) hG 0 rfl dX11_risk_27 rfl ?_
    refine a_getR (pc := 28) hG sc_0 cl_X11 ok_X11 13 (by decide) rfl t_494 dX11_risk_28 ?_
    refine a_cvN (pc := 31) hG (As := [.ref (ad 82)]) (st := []) sc_20 cl_X0 mk_X0_saveTo t_1222 (by omega) (fun z hz => c_Desk_saveTo 82 _ sc_82 z hz) rfl (Nat.le_of_ble_eq_true rfl) hd dX11_risk_31 (fun _ h3 hd => ?_)
    refine a_aload_n (pc := 34) hG 0 rfl dX11_risk_34 rfl ?_
    refine a_getR (pc := 35) hG sc_0 cl_X11 ok_X11 4 (by decide) rfl t_485 dX11_risk_35 ?_
    refine a_iconst (pc := 38) hG dX11_risk_38 (v := (nI 2)) rfl ?_
    refine a_cvI (pc := 39) hG (As := [.int (nI 2)]) (st := []) sc_20 cl_X0 mk_X0_ofNow t_810 (by omega) (fun z hz => c_Desk_ofNow (nI 2) _  z hz) rfl (Nat.le_of_ble_eq_true rfl) hd dX11_risk_39 (fun r5 h4 hd => ?_)
    refine a_istore_nN (pc := 42) hG hd dX11_risk_42 rfl (by decide) (lf := fun x => [(3, .int x), (0, .ref (ad 0)), (1, .int a0), (2, .int a1)]) (fun _ => rfl) (fun v6 hd => ?_)
    refine a_iconst (pc := 43) hG dX11_risk_43 (v := (nI 0)) rfl ?_
    refine a_istoreN (pc := 44) hG hd dX11_risk_44 (by decide) (lf := fun x => [(4, .int x), (3, .int v6), (0, .ref (ad 0)), (1, .int a0), (2, .int a1)]) (fun _ => rfl) (fun v7 hd => ?_)
    refine a_iconst (pc := 46) hG dX11_risk_46 (v := (nI 0)) rfl ?_
    refine a_istoreN (pc := 47) hG hd dX11_risk_47 (by decide) (lf := fun x => [(5, .int x), (4, .int v7), (3, .int v6), (0, .ref (ad 0)), (1, .int a0), (2, .int a1)]) (fun _ => rfl) (fun v8 hd => ?_)
    refine AW.sub [3, 4, 5, 2, 1, 0] rfl ?_
    exact w_l_LC_risk_0 F (by omega) hG hd
  refine a_iconst (pc := 21) hG dX11_risk_21 (v := (-1 : Int32)) rfl ?_
  exact a_iret (pc := 22) hG hd dX11_risk_22
theorem dX8_takeWord_0 : decode cX8_takeWord 0 = .ok (.aload_n 0, 1) := by decide +kernel
theorem dX8_takeWord_1 : decode cX8_takeWord 1 = .ok (.aload_n 1, 1) := by decide +kernel
theorem dX8_takeWord_2 : decode cX8_takeWord 2 = .ok (.invokevirtual 63, 3) := by decide +kernel
theorem dX8_takeWord_5 : decode cX8_takeWord 5 = .ok (.ifCond .ne 5, 3) := by decide +kernel
theorem dX8_takeWord_8 : decode cX8_takeWord 8 = .ok (.iconst 0, 1) := by decide +kernel
theorem dX8_takeWord_9 : decode cX8_takeWord 9 = .ok (.ireturn, 1) := by decide +kernel
theorem dX8_takeWord_10 : decode cX8_takeWord 10 = .ok (.aload_n 0, 1) := by decide +kernel
theorem dX8_takeWord_11 : decode cX8_takeWord 11 = .ok (.invokevirtual 51, 3) := by decide +kernel
theorem dX8_takeWord_14 : decode cX8_takeWord 14 = .ok (.iconst 1, 1) := by decide +kernel
theorem dX8_takeWord_15 : decode cX8_takeWord 15 = .ok (.ireturn, 1) := by decide +kernel
set_option maxHeartbeats 4000000 in
theorem c_Tape_takeWord {ad wad : Nat → Nat} (F : Nat) (w : Nat) (h : HS) (hw : w < 23) (q : Int32 × HS) (hd : f_Tape_takeWord F w h = some q) : Ctr SHc ad wad yX8_takeWord cX8_takeWord 2 (some .boolean) 3 [.ref (ad 1), .ref (wad w)] h (some (.int q.1), q.2) := by
  refine enter (own := RX8) (lv := [(0, .ref (ad 1)), (1, .ref (wad w))]) (by decide +kernel) rfl (Nat.le_of_ble_eq_true rfl) rfl (fun Γ hG => ?_)
  unfold f_Tape_takeWord at hd
  refine a_aload_n (pc := 0) hG 0 rfl dX8_takeWord_0 rfl ?_
  refine a_aload_n (pc := 1) hG 1 rfl dX8_takeWord_1 rfl ?_
  refine a_cvI (pc := 2) hG (As := [.ref (wad w)]) (st := []) sc_1 cl_X8 mk_X8_isWord t_1262 (by omega) (fun z hz => c_Tape_isWord w _ hw z hz) rfl (Nat.le_of_ble_eq_true rfl) hd dX8_takeWord_2 (fun r2 h1 hd => ?_)
  refine a_if_ne (pc := 5) hG (tgt := 10) hd dX8_takeWord_5 (by decide) (fun hd => ?_) (fun hd => ?_)
  · refine a_aload_n (pc := 10) hG 0 rfl dX8_takeWord_10 rfl ?_
    refine a_cvN (pc := 11) hG (As := []) (st := []) sc_1 cl_X8 mk_X8_advance t_573 (by omega) (fun z hz => c_Tape_advance F  _  z hz) rfl (Nat.le_of_ble_eq_true rfl) hd dX8_takeWord_11 (fun _ h3 hd => ?_)
    refine a_iconst (pc := 14) hG dX8_takeWord_14 (v := (nI 1)) rfl ?_
    exact a_zret (pc := 15) hG hd dX8_takeWord_15
  refine a_iconst (pc := 8) hG dX8_takeWord_8 (v := (nI 0)) rfl ?_
  exact a_zret (pc := 9) hG hd dX8_takeWord_9
set_option maxHeartbeats 4000000 in
theorem w_l_Plan_placeOf_5_0 {ad wad : Nat → Nat} {Γ : Ctx} (F : Nat) {n : Nat} (hn : 1 ≤ n) (hG : Cx SHc ad wad cX5_placeOf 5 RX5 (some .int) (n) Γ) {q : Int32 × HS} {x1 : Int32} {x2 : Int64} {g : Nat} {x4 : Int32} {h : HS} (hd : l_Plan_placeOf_5_0 F x1 x2 g x4 h = some q) : AW SHc ad 5 (some (.int q.1), q.2) Γ 3 [(0, .ref (ad 5)), (1, .int x1), (2, .long x2), (4, .int x4)] [] h := by
  induction g generalizing x4 h with
  | zero => unfold l_Plan_placeOf_5_0 at hd; cases hd
  | succ g ih =>
    unfold l_Plan_placeOf_5_0 at hd
    refine a_iload (pc := 3) hG 3 rfl dX5_placeOf_3 ?_
    refine a_iload_n (pc := 5) hG 1 rfl dX5_placeOf_5 rfl ?_
    refine a_ic_ge (pc := 6) hG (tgt := 27) hd dX5_placeOf_6 (by decide) (fun hd => ?_) (fun hd => ?_)
    · refine a_iconst (pc := 27) hG dX5_placeOf_27 (v := (-1 : Int32)) rfl ?_
      exact a_iret (pc := 28) hG hd dX5_placeOf_28
    refine a_aload_n (pc := 9) hG 0 rfl dX5_placeOf_9 rfl ?_
    refine a_iload (pc := 10) hG 3 rfl dX5_placeOf_10 ?_
    refine a_lald (pc := 12) hG sc_5 hd dX5_placeOf_12 (fun hd => ?_)
    refine a_lload_n (pc := 13) hG 2 rfl dX5_placeOf_13 rfl ?_
    refine a_lcmp (pc := 14) hG dX5_placeOf_14 ?_
    refine a_if_ne (pc := 15) hG (tgt := 21) hd dX5_placeOf_15 (by decide) (fun hd => ?_) (fun hd => ?_)
    · refine a_iincN (pc := 21) hG (c0 := (nI 1)) 3 rfl hd dX5_placeOf_21 rfl (by decide) (lf := fun x => [(4, .int x), (0, .ref (ad 5)), (1, .int x1), (2, .long x2)]) (fun _ => rfl) (fun v2 hd => ?_)
      refine a_goto (pc := 24) hG (tgt := 3) dX5_placeOf_24 (by decide) ?_
      exact AW.sub [1, 2, 3, 0] rfl (ih hd)
    refine a_iload (pc := 18) hG 3 rfl dX5_placeOf_18 ?_
    exact a_iret (pc := 20) hG hd dX5_placeOf_20
set_option maxHeartbeats 4000000 in
theorem c_Plan_placeOf_5 {ad wad : Nat → Nat} (F : Nat) (a1 : Int32) (a2 : Int64) (h : HS)  (q : Int32 × HS) (hd : f_Plan_placeOf_5 F a1 a2 h = some q) : Ctr SHc ad wad yX5_placeOf cX5_placeOf 5 (some .int) 1 [.ref (ad 5), .int a1, .long a2] h (some (.int q.1), q.2) := by
  refine enter (own := RX5) (lv := [(0, .ref (ad 5)), (1, .int a1), (2, .long a2)]) (by decide +kernel) rfl (Nat.le_of_ble_eq_true rfl) rfl (fun Γ hG => ?_)
  unfold f_Plan_placeOf_5 at hd
  refine a_iconst (pc := 0) hG dX5_placeOf_0 (v := (nI 0)) rfl ?_
  refine a_istoreN (pc := 1) hG hd dX5_placeOf_1 (by decide) (lf := fun x => [(4, .int x), (0, .ref (ad 5)), (1, .int a1), (2, .long a2)]) (fun _ => rfl) (fun v1 hd => ?_)
  refine AW.sub [1, 2, 3, 0] rfl ?_
  exact w_l_Plan_placeOf_5_0 F (by omega) hG hd
set_option maxHeartbeats 4000000 in
theorem c_Plan_deedNamed_3 {ad wad : Nat → Nat} (F : Nat) (a0 : Int64) (h : HS)  (q : Int32 × HS) (hd : f_Plan_deedNamed_3 F a0 h = some q) : Ctr SHc ad wad yX5_deedNamed cX5_deedNamed 3 (some .int) 2 [.ref (ad 3), .long a0] h (some (.int q.1), q.2) := by
  refine enter (own := RX5) (lv := [(0, .ref (ad 3)), (1, .long a0)]) (by decide +kernel) rfl (Nat.le_of_ble_eq_true rfl) rfl (fun Γ hG => ?_)
  unfold f_Plan_deedNamed_3 at hd
  refine a_aload_n (pc := 0) hG 0 rfl dX5_deedNamed_0 rfl ?_
  refine a_getR (pc := 1) hG sc_3 cl_X5 ok_X5 7 (by decide) rfl t_204 dX5_deedNamed_1 ?_
  refine a_aload_n (pc := 4) hG 0 rfl dX5_deedNamed_4 rfl ?_
  refine a_getI (pc := 5) hG sc_3 cl_X5 ok_X5 4 (by decide) rfl t_201 dX5_deedNamed_5 ?_
  refine a_lload_n (pc := 8) hG 1 rfl dX5_deedNamed_8 rfl ?_
  refine a_csI (pc := 9) hG (As := [.ref (ad 5), .int (h.1 3 4), .long a0]) (st := []) mk_X5_placeOf t_674 (by omega) (fun z hz => c_Plan_placeOf_5 F (h.1 3 4) a0 _  z hz) rfl (Nat.le_of_ble_eq_true rfl) hd dX5_deedNamed_9 (fun r2 h1 hd => ?_)
  exact a_iret (pc := 12) hG hd dX5_deedNamed_12
set_option maxHeartbeats 4000000 in
theorem w_l_Plan_placeOf_4_0 {ad wad : Nat → Nat} {Γ : Ctx} (F : Nat) {n : Nat} (hn : 1 ≤ n) (hG : Cx SHc ad wad cX5_placeOf 5 RX5 (some .int) (n) Γ) {q : Int32 × HS} {x1 : Int32} {x2 : Int64} {g : Nat} {x4 : Int32} {h : HS} (hd : l_Plan_placeOf_4_0 F x1 x2 g x4 h = some q) : AW SHc ad 5 (some (.int q.1), q.2) Γ 3 [(0, .ref (ad 4)), (1, .int x1), (2, .long x2), (4, .int x4)] [] h := by
  induction g generalizing x4 h with
  | zero => unfold l_Plan_placeOf_4_0 at hd; cases hd
  | succ g ih =>
    unfold l_Plan_placeOf_4_0 at hd
    refine a_iload (pc := 3) hG 3 rfl dX5_placeOf_3 ?_
    refine a_iload_n (pc := 5) hG 1 rfl dX5_placeOf_5 rfl ?_
    refine a_ic_ge (pc := 6) hG (tgt := 27) hd dX5_placeOf_6 (by decide) (fun hd => ?_) (fun hd => ?_)
    · refine a_iconst (pc := 27) hG dX5_placeOf_27 (v := (-1 : Int32)) rfl ?_
      exact a_iret (pc := 28) hG hd dX5_placeOf_28
    refine a_aload_n (pc := 9) hG 0 rfl dX5_placeOf_9 rfl ?_
    refine a_iload (pc := 10) hG 3 rfl dX5_placeOf_10 ?_
    refine a_lald (pc := 12) hG sc_4 hd dX5_placeOf_12 (fun hd => ?_)
    refine a_lload_n (pc := 13) hG 2 rfl dX5_placeOf_13 rfl ?_
    refine a_lcmp (pc := 14) hG dX5_placeOf_14 ?_
    refine a_if_ne (pc := 15) hG (tgt := 21) hd dX5_placeOf_15 (by decide) (fun hd => ?_) (fun hd => ?_)
    · refine a_iincN (pc := 21) hG (c0 := (nI 1)) 3 rfl hd dX5_placeOf_21 rfl (by decide) (lf := fun x => [(4, .int x), (0, .ref (ad 4)), (1, .int x1), (2, .long x2)]) (fun _ => rfl) (fun v2 hd => ?_)
      refine a_goto (pc := 24) hG (tgt := 3) dX5_placeOf_24 (by decide) ?_
      exact AW.sub [1, 2, 3, 0] rfl (ih hd)
    refine a_iload (pc := 18) hG 3 rfl dX5_placeOf_18 ?_
    exact a_iret (pc := 20) hG hd dX5_placeOf_20
set_option maxHeartbeats 4000000 in
theorem c_Plan_placeOf_4 {ad wad : Nat → Nat} (F : Nat) (a1 : Int32) (a2 : Int64) (h : HS)  (q : Int32 × HS) (hd : f_Plan_placeOf_4 F a1 a2 h = some q) : Ctr SHc ad wad yX5_placeOf cX5_placeOf 5 (some .int) 1 [.ref (ad 4), .int a1, .long a2] h (some (.int q.1), q.2) := by
  refine enter (own := RX5) (lv := [(0, .ref (ad 4)), (1, .int a1), (2, .long a2)]) (by decide +kernel) rfl (Nat.le_of_ble_eq_true rfl) rfl (fun Γ hG => ?_)
  unfold f_Plan_placeOf_4 at hd
  refine a_iconst (pc := 0) hG dX5_placeOf_0 (v := (nI 0)) rfl ?_
  refine a_istoreN (pc := 1) hG hd dX5_placeOf_1 (by decide) (lf := fun x => [(4, .int x), (0, .ref (ad 4)), (1, .int a1), (2, .long a2)]) (fun _ => rfl) (fun v1 hd => ?_)
  refine AW.sub [1, 2, 3, 0] rfl ?_
  exact w_l_Plan_placeOf_4_0 F (by omega) hG hd
set_option maxHeartbeats 4000000 in
theorem c_Plan_causeNamed_3 {ad wad : Nat → Nat} (F : Nat) (a0 : Int64) (h : HS)  (q : Int32 × HS) (hd : f_Plan_causeNamed_3 F a0 h = some q) : Ctr SHc ad wad yX5_causeNamed cX5_causeNamed 3 (some .int) 2 [.ref (ad 3), .long a0] h (some (.int q.1), q.2) := by
  refine enter (own := RX5) (lv := [(0, .ref (ad 3)), (1, .long a0)]) (by decide +kernel) rfl (Nat.le_of_ble_eq_true rfl) rfl (fun Γ hG => ?_)
  unfold f_Plan_causeNamed_3 at hd
  refine a_aload_n (pc := 0) hG 0 rfl dX5_causeNamed_0 rfl ?_
  refine a_getR (pc := 1) hG sc_3 cl_X5 ok_X5 6 (by decide) rfl t_203 dX5_causeNamed_1 ?_
  refine a_aload_n (pc := 4) hG 0 rfl dX5_causeNamed_4 rfl ?_
  refine a_getI (pc := 5) hG sc_3 cl_X5 ok_X5 3 (by decide) rfl t_200 dX5_causeNamed_5 ?_
  refine a_lload_n (pc := 8) hG 1 rfl dX5_causeNamed_8 rfl ?_
  refine a_csI (pc := 9) hG (As := [.ref (ad 4), .int (h.1 3 3), .long a0]) (st := []) mk_X5_placeOf t_674 (by omega) (fun z hz => c_Plan_placeOf_4 F (h.1 3 3) a0 _  z hz) rfl (Nat.le_of_ble_eq_true rfl) hd dX5_causeNamed_9 (fun r2 h1 hd => ?_)
  exact a_iret (pc := 12) hG hd dX5_causeNamed_12
theorem dX2_readVerb_0 : decode cX2_readVerb 0 = .ok (.aload_n 0, 1) := by decide +kernel
theorem dX2_readVerb_1 : decode cX2_readVerb 1 = .ok (.getfield 28, 3) := by decide +kernel
theorem dX2_readVerb_4 : decode cX2_readVerb 4 = .ok (.getstatic 104, 3) := by decide +kernel
theorem dX2_readVerb_7 : decode cX2_readVerb 7 = .ok (.invokevirtual 107, 3) := by decide +kernel
theorem dX2_readVerb_10 : decode cX2_readVerb 10 = .ok (.ifCond .eq 25, 3) := by decide +kernel
theorem dX2_readVerb_13 : decode cX2_readVerb 13 = .ok (.aload_n 0, 1) := by decide +kernel
theorem dX2_readVerb_14 : decode cX2_readVerb 14 = .ok (.getfield 9, 3) := by decide +kernel
theorem dX2_readVerb_17 : decode cX2_readVerb 17 = .ok (.aload_n 0, 1) := by decide +kernel
theorem dX2_readVerb_18 : decode cX2_readVerb 18 = .ok (.getfield 21, 3) := by decide +kernel
theorem dX2_readVerb_21 : decode cX2_readVerb 21 = .ok (.iconst 2, 1) := by decide +kernel
theorem dX2_readVerb_22 : decode cX2_readVerb 22 = .ok (.iastore, 1) := by decide +kernel
theorem dX2_readVerb_23 : decode cX2_readVerb 23 = .ok (.aload_n 0, 1) := by decide +kernel
theorem dX2_readVerb_24 : decode cX2_readVerb 24 = .ok (.getfield 18, 3) := by decide +kernel
theorem dX2_readVerb_27 : decode cX2_readVerb 27 = .ok (.aload_n 0, 1) := by decide +kernel
theorem dX2_readVerb_28 : decode cX2_readVerb 28 = .ok (.getfield 21, 3) := by decide +kernel
theorem dX2_readVerb_31 : decode cX2_readVerb 31 = .ok (.iconst (-1), 1) := by decide +kernel
theorem dX2_readVerb_32 : decode cX2_readVerb 32 = .ok (.iastore, 1) := by decide +kernel
theorem dX2_readVerb_33 : decode cX2_readVerb 33 = .ok (.iconst 1, 1) := by decide +kernel
theorem dX2_readVerb_34 : decode cX2_readVerb 34 = .ok (.ireturn, 1) := by decide +kernel
theorem dX2_readVerb_35 : decode cX2_readVerb 35 = .ok (.aload_n 0, 1) := by decide +kernel
theorem dX2_readVerb_36 : decode cX2_readVerb 36 = .ok (.getfield 28, 3) := by decide +kernel
theorem dX2_readVerb_39 : decode cX2_readVerb 39 = .ok (.getstatic 110, 3) := by decide +kernel
theorem dX2_readVerb_42 : decode cX2_readVerb 42 = .ok (.invokevirtual 67, 3) := by decide +kernel
theorem dX2_readVerb_45 : decode cX2_readVerb 45 = .ok (.istore_n 1, 1) := by decide +kernel
theorem dX2_readVerb_46 : decode cX2_readVerb 46 = .ok (.iload_n 1, 1) := by decide +kernel
theorem dX2_readVerb_47 : decode cX2_readVerb 47 = .ok (.ifCond .ne 25, 3) := by decide +kernel
theorem dX2_readVerb_50 : decode cX2_readVerb 50 = .ok (.aload_n 0, 1) := by decide +kernel
theorem dX2_readVerb_51 : decode cX2_readVerb 51 = .ok (.getfield 28, 3) := by decide +kernel
theorem dX2_readVerb_54 : decode cX2_readVerb 54 = .ok (.getstatic 113, 3) := by decide +kernel
theorem dX2_readVerb_57 : decode cX2_readVerb 57 = .ok (.invokevirtual 67, 3) := by decide +kernel
theorem dX2_readVerb_60 : decode cX2_readVerb 60 = .ok (.ifCond .ne 12, 3) := by decide +kernel
theorem dX2_readVerb_63 : decode cX2_readVerb 63 = .ok (.aload_n 0, 1) := by decide +kernel
theorem dX2_readVerb_64 : decode cX2_readVerb 64 = .ok (.getfield 28, 3) := by decide +kernel
theorem dX2_readVerb_67 : decode cX2_readVerb 67 = .ok (.iconst 1, 1) := by decide +kernel
theorem dX2_readVerb_68 : decode cX2_readVerb 68 = .ok (.invokevirtual 74, 3) := by decide +kernel
theorem dX2_readVerb_71 : decode cX2_readVerb 71 = .ok (.ireturn, 1) := by decide +kernel
theorem dX2_readVerb_72 : decode cX2_readVerb 72 = .ok (.aload_n 0, 1) := by decide +kernel
theorem dX2_readVerb_73 : decode cX2_readVerb 73 = .ok (.getfield 28, 3) := by decide +kernel
theorem dX2_readVerb_76 : decode cX2_readVerb 76 = .ok (.invokevirtual 87, 3) := by decide +kernel
theorem dX2_readVerb_79 : decode cX2_readVerb 79 = .ok (.aload_n 0, 1) := by decide +kernel
theorem dX2_readVerb_80 : decode cX2_readVerb 80 = .ok (.getfield 28, 3) := by decide +kernel
theorem dX2_readVerb_83 : decode cX2_readVerb 83 = .ok (.invokevirtual 71, 3) := by decide +kernel
theorem dX2_readVerb_86 : decode cX2_readVerb 86 = .ok (.ifCond .ne 12, 3) := by decide +kernel
theorem dX2_readVerb_89 : decode cX2_readVerb 89 = .ok (.aload_n 0, 1) := by decide +kernel
theorem dX2_readVerb_90 : decode cX2_readVerb 90 = .ok (.getfield 28, 3) := by decide +kernel
theorem dX2_readVerb_93 : decode cX2_readVerb 93 = .ok (.iconst 1, 1) := by decide +kernel
theorem dX2_readVerb_94 : decode cX2_readVerb 94 = .ok (.invokevirtual 74, 3) := by decide +kernel
theorem dX2_readVerb_97 : decode cX2_readVerb 97 = .ok (.ireturn, 1) := by decide +kernel
theorem dX2_readVerb_98 : decode cX2_readVerb 98 = .ok (.aload_n 0, 1) := by decide +kernel
theorem dX2_readVerb_99 : decode cX2_readVerb 99 = .ok (.getfield 28, 3) := by decide +kernel
theorem dX2_readVerb_102 : decode cX2_readVerb 102 = .ok (.invokevirtual 77, 3) := by decide +kernel
theorem dX2_readVerb_105 : decode cX2_readVerb 105 = .ok (.lstore_n 2, 1) := by decide +kernel
theorem dX2_readVerb_106 : decode cX2_readVerb 106 = .ok (.iload_n 1, 1) := by decide +kernel
theorem dX2_readVerb_107 : decode cX2_readVerb 107 = .ok (.ifCond .eq 14, 3) := by decide +kernel
theorem dX2_readVerb_110 : decode cX2_readVerb 110 = .ok (.aload_n 0, 1) := by decide +kernel
theorem dX2_readVerb_111 : decode cX2_readVerb 111 = .ok (.getfield 32, 3) := by decide +kernel
theorem dX2_readVerb_114 : decode cX2_readVerb 114 = .ok (.lload_n 2, 1) := by decide +kernel
theorem dX2_readVerb_115 : decode cX2_readVerb 115 = .ok (.invokevirtual 116, 3) := by decide +kernel
theorem dX2_readVerb_118 : decode cX2_readVerb 118 = .ok (.goto 11, 3) := by decide +kernel
theorem dX2_readVerb_121 : decode cX2_readVerb 121 = .ok (.aload_n 0, 1) := by decide +kernel
theorem dX2_readVerb_122 : decode cX2_readVerb 122 = .ok (.getfield 32, 3) := by decide +kernel
theorem dX2_readVerb_125 : decode cX2_readVerb 125 = .ok (.lload_n 2, 1) := by decide +kernel
theorem dX2_readVerb_126 : decode cX2_readVerb 126 = .ok (.invokevirtual 119, 3) := by decide +kernel
theorem dX2_readVerb_129 : decode cX2_readVerb 129 = .ok (.istore 4, 2) := by decide +kernel
theorem dX2_readVerb_131 : decode cX2_readVerb 131 = .ok (.iload 4, 2) := by decide +kernel
theorem dX2_readVerb_133 : decode cX2_readVerb 133 = .ok (.iconst (-1), 1) := by decide +kernel
theorem dX2_readVerb_134 : decode cX2_readVerb 134 = .ok (.if_icmp .ne 12, 3) := by decide +kernel
theorem dX2_readVerb_137 : decode cX2_readVerb 137 = .ok (.aload_n 0, 1) := by decide +kernel
theorem dX2_readVerb_138 : decode cX2_readVerb 138 = .ok (.getfield 28, 3) := by decide +kernel
theorem dX2_readVerb_141 : decode cX2_readVerb 141 = .ok (.iconst 3, 1) := by decide +kernel
theorem dX2_readVerb_142 : decode cX2_readVerb 142 = .ok (.invokevirtual 74, 3) := by decide +kernel
theorem dX2_readVerb_145 : decode cX2_readVerb 145 = .ok (.ireturn, 1) := by decide +kernel
theorem dX2_readVerb_146 : decode cX2_readVerb 146 = .ok (.aload_n 0, 1) := by decide +kernel
theorem dX2_readVerb_147 : decode cX2_readVerb 147 = .ok (.getfield 9, 3) := by decide +kernel
theorem dX2_readVerb_150 : decode cX2_readVerb 150 = .ok (.aload_n 0, 1) := by decide +kernel
theorem dX2_readVerb_151 : decode cX2_readVerb 151 = .ok (.getfield 21, 3) := by decide +kernel
theorem dX2_readVerb_154 : decode cX2_readVerb 154 = .ok (.iload_n 1, 1) := by decide +kernel
theorem dX2_readVerb_155 : decode cX2_readVerb 155 = .ok (.ifCond .eq 7, 3) := by decide +kernel
theorem dX2_readVerb_158 : decode cX2_readVerb 158 = .ok (.iconst 0, 1) := by decide +kernel
theorem dX2_readVerb_159 : decode cX2_readVerb 159 = .ok (.goto 4, 3) := by decide +kernel
theorem dX2_readVerb_162 : decode cX2_readVerb 162 = .ok (.iconst 1, 1) := by decide +kernel
theorem dX2_readVerb_163 : decode cX2_readVerb 163 = .ok (.iastore, 1) := by decide +kernel
theorem dX2_readVerb_164 : decode cX2_readVerb 164 = .ok (.aload_n 0, 1) := by decide +kernel
theorem dX2_readVerb_165 : decode cX2_readVerb 165 = .ok (.getfield 18, 3) := by decide +kernel
theorem dX2_readVerb_168 : decode cX2_readVerb 168 = .ok (.aload_n 0, 1) := by decide +kernel
theorem dX2_readVerb_169 : decode cX2_readVerb 169 = .ok (.getfield 21, 3) := by decide +kernel
theorem dX2_readVerb_172 : decode cX2_readVerb 172 = .ok (.iload 4, 2) := by decide +kernel
theorem dX2_readVerb_174 : decode cX2_readVerb 174 = .ok (.iastore, 1) := by decide +kernel
theorem dX2_readVerb_175 : decode cX2_readVerb 175 = .ok (.aload_n 0, 1) := by decide +kernel
theorem dX2_readVerb_176 : decode cX2_readVerb 176 = .ok (.getfield 28, 3) := by decide +kernel
theorem dX2_readVerb_179 : decode cX2_readVerb 179 = .ok (.invokevirtual 87, 3) := by decide +kernel
theorem dX2_readVerb_182 : decode cX2_readVerb 182 = .ok (.iconst 1, 1) := by decide +kernel
theorem dX2_readVerb_183 : decode cX2_readVerb 183 = .ok (.ireturn, 1) := by decide +kernel
set_option maxHeartbeats 4000000 in
theorem c_Ledger_readVerb {ad wad : Nat → Nat} (F : Nat)  (h : HS)  (q : Int32 × HS) (hd : f_Ledger_readVerb F  h = some q) : Ctr SHc ad wad yX2_readVerb cX2_readVerb 5 (some .boolean) 4 [.ref (ad 38)] h (some (.int q.1), q.2) := by
  refine enter (own := RX2) (lv := [(0, .ref (ad 38))]) (by decide +kernel) rfl (Nat.le_of_ble_eq_true rfl) rfl (fun Γ hG => ?_)
  unfold f_Ledger_readVerb at hd
  refine a_aload_n (pc := 0) hG 0 rfl dX2_readVerb_0 rfl ?_
  refine a_getR (pc := 1) hG sc_38 cl_X2 ok_X2 0 (by decide) rfl t_338 dX2_readVerb_1 ?_
  refine a_gsW (pc := 4) hG 8 (by decide) t_1256 dX2_readVerb_4 ?_
  refine a_cvI (pc := 7) hG (As := [.ref (wad 8)]) (st := []) sc_1 cl_X8 mk_X8_takeWord t_1258 (by omega) (fun z hz => c_Tape_takeWord F 8 _ (by decide) z hz) rfl (Nat.le_of_ble_eq_true rfl) hd dX2_readVerb_7 (fun r2 h1 hd => ?_)
  refine a_if_eq (pc := 10) hG (tgt := 35) hd dX2_readVerb_10 (by decide) (fun hd => ?_) (fun hd => ?_)
  · refine a_aload_n (pc := 35) hG 0 rfl dX2_readVerb_35 rfl ?_
    refine a_getR (pc := 36) hG sc_38 cl_X2 ok_X2 0 (by decide) rfl t_338 dX2_readVerb_36 ?_
    refine a_gsW (pc := 39) hG 6 (by decide) t_1263 dX2_readVerb_39 ?_
    refine a_cvI (pc := 42) hG (As := [.ref (wad 6)]) (st := []) sc_1 cl_X8 mk_X8_isWord t_1240 (by omega) (fun z hz => c_Tape_isWord 6 _ (by decide) z hz) rfl (Nat.le_of_ble_eq_true rfl) hd dX2_readVerb_42 (fun r4 h3 hd => ?_)
    refine a_istore_nN (pc := 45) hG hd dX2_readVerb_45 rfl (by decide) (lf := fun x => [(1, .int x), (0, .ref (ad 38))]) (fun _ => rfl) (fun v5 hd => ?_)
    refine a_iload_n (pc := 46) hG 0 rfl dX2_readVerb_46 rfl ?_
    refine a_join hd (Q := fun J : HS → Option (Int32 × HS) => ∀  (h7 : HS), J  h7 = some q → AW SHc ad 5 (some (.int q.1), q.2) Γ 72 [(0, .ref (ad 38)), (1, .int v5)] [] h7) (fun  h7 hd => ?_) (fun J6 hJ6 hd => ?_)
    · refine a_aload_n (pc := 72) hG 0 rfl dX2_readVerb_72 rfl ?_
      refine a_getR (pc := 73) hG sc_38 cl_X2 ok_X2 0 (by decide) rfl t_338 dX2_readVerb_73 ?_
      refine a_cvN (pc := 76) hG (As := []) (st := []) sc_1 cl_X8 mk_X8_advance t_1245 (by omega) (fun z hz => c_Tape_advance F  _  z hz) rfl (Nat.le_of_ble_eq_true rfl) hd dX2_readVerb_76 (fun _ h8 hd => ?_)
      refine a_aload_n (pc := 79) hG 0 rfl dX2_readVerb_79 rfl ?_
      refine a_getR (pc := 80) hG sc_38 cl_X2 ok_X2 0 (by decide) rfl t_338 dX2_readVerb_80 ?_
      refine a_cvI (pc := 83) hG (As := []) (st := []) sc_1 cl_X8 mk_X8_isName t_1241 (by omega) (fun z hz => c_Tape_isName F  _  z hz) rfl (Nat.le_of_ble_eq_true rfl) hd dX2_readVerb_83 (fun r10 h9 hd => ?_)
      refine a_if_ne (pc := 86) hG (tgt := 98) hd dX2_readVerb_86 (by decide) (fun hd => ?_) (fun hd => ?_)
      · refine a_aload_n (pc := 98) hG 0 rfl dX2_readVerb_98 rfl ?_
        refine a_getR (pc := 99) hG sc_38 cl_X2 ok_X2 0 (by decide) rfl t_338 dX2_readVerb_99 ?_
        refine a_cvL (pc := 102) hG (As := []) (st := []) sc_1 cl_X8 mk_X8_letters t_1243 (by omega) (fun z hz => c_Tape_letters  _  z hz) rfl (Nat.le_of_ble_eq_true rfl) hd dX2_readVerb_102 (fun r12 h11 hd => ?_)
        refine a_lstore_nN (pc := 105) hG hd dX2_readVerb_105 rfl (by decide) (lf := fun x => [(2, .long x), (0, .ref (ad 38)), (1, .int v5)]) (fun _ => rfl) (fun v13 hd => ?_)
        refine a_iload_n (pc := 106) hG 2 rfl dX2_readVerb_106 rfl ?_
        refine a_join hd (Q := fun J : Int32 → HS → Option (Int32 × HS) => ∀ (v15 : Int32) (h16 : HS), J v15 h16 = some q → AW SHc ad 5 (some (.int q.1), q.2) Γ 129 [(0, .ref (ad 38)), (1, .int v5)] [.int v15] h16) (fun v15 h16 hd => ?_) (fun J14 hJ14 hd => ?_)
        · refine a_istoreN (pc := 129) hG hd dX2_readVerb_129 (by decide) (lf := fun x => [(4, .int x), (0, .ref (ad 38)), (1, .int v5)]) (fun _ => rfl) (fun v17 hd => ?_)
          refine a_iload (pc := 131) hG 0 rfl dX2_readVerb_131 ?_
          refine a_iconst (pc := 133) hG dX2_readVerb_133 (v := (-1 : Int32)) rfl ?_
          refine a_ic_ne (pc := 134) hG (tgt := 146) hd dX2_readVerb_134 (by decide) (fun hd => ?_) (fun hd => ?_)
          · refine a_aload_n (pc := 146) hG 1 rfl dX2_readVerb_146 rfl ?_
            refine a_getR (pc := 147) hG sc_38 cl_X2 ok_X2 2 (by decide) rfl t_340 dX2_readVerb_147 ?_
            refine a_aload_n (pc := 150) hG 1 rfl dX2_readVerb_150 rfl ?_
            refine a_getI (pc := 151) hG sc_38 cl_X2 ok_X2 5 (by decide) rfl t_343 dX2_readVerb_151 ?_
            refine a_iload_n (pc := 154) hG 2 rfl dX2_readVerb_154 rfl ?_
            refine a_join hd (Q := fun J : Int32 → HS → Option (Int32 × HS) => ∀ (v19 : Int32) (h20 : HS), J v19 h20 = some q → AW SHc ad 5 (some (.int q.1), q.2) Γ 163 [(0, .ref (ad 38)), (4, .int v17)] [.int v19, .int (h16.1 38 5), .ref (ad 39)] h20) (fun v19 h20 hd => ?_) (fun J18 hJ18 hd => ?_)
            · refine a_iast (pc := 163) hG sc_39 hd dX2_readVerb_163 (fun h21 hd => ?_)
              refine a_aload_n (pc := 164) hG 0 rfl dX2_readVerb_164 rfl ?_
              refine a_getR (pc := 165) hG sc_38 cl_X2 ok_X2 4 (by decide) rfl t_342 dX2_readVerb_165 ?_
              refine a_aload_n (pc := 168) hG 0 rfl dX2_readVerb_168 rfl ?_
              refine a_getI (pc := 169) hG sc_38 cl_X2 ok_X2 5 (by decide) rfl t_343 dX2_readVerb_169 ?_
              refine a_iload (pc := 172) hG 1 rfl dX2_readVerb_172 ?_
              refine a_iast (pc := 174) hG sc_41 hd dX2_readVerb_174 (fun h22 hd => ?_)
              refine a_aload_n (pc := 175) hG 0 rfl dX2_readVerb_175 rfl ?_
              refine a_getR (pc := 176) hG sc_38 cl_X2 ok_X2 0 (by decide) rfl t_338 dX2_readVerb_176 ?_
              refine a_cvN (pc := 179) hG (As := []) (st := []) sc_1 cl_X8 mk_X8_advance t_1245 (by omega) (fun z hz => c_Tape_advance F  _  z hz) rfl (Nat.le_of_ble_eq_true rfl) hd dX2_readVerb_179 (fun _ h23 hd => ?_)
              refine a_iconst (pc := 182) hG dX2_readVerb_182 (v := (nI 1)) rfl ?_
              exact a_zret (pc := 183) hG hd dX2_readVerb_183
            refine a_if_eq (pc := 155) hG (tgt := 162) hd dX2_readVerb_155 (by decide) (fun hd => ?_) (fun hd => ?_)
            · refine a_iconst (pc := 162) hG dX2_readVerb_162 (v := (nI 1)) rfl ?_
              exact AW.sub [1, 0] rfl (hJ18 _ _ hd)
            refine a_iconst (pc := 158) hG dX2_readVerb_158 (v := (nI 0)) rfl ?_
            refine a_goto (pc := 159) hG (tgt := 163) dX2_readVerb_159 (by decide) ?_
            exact AW.sub [1, 0] rfl (hJ18 _ _ hd)
          refine a_aload_n (pc := 137) hG 1 rfl dX2_readVerb_137 rfl ?_
          refine a_getR (pc := 138) hG sc_38 cl_X2 ok_X2 0 (by decide) rfl t_338 dX2_readVerb_138 ?_
          refine a_iconst (pc := 141) hG dX2_readVerb_141 (v := (nI 3)) rfl ?_
          refine a_cvI (pc := 142) hG (As := [.int (nI 3)]) (st := []) sc_1 cl_X8 mk_X8_fail t_1242 (by omega) (fun z hz => c_Tape_fail (nI 3) _  z hz) rfl (Nat.le_of_ble_eq_true rfl) hd dX2_readVerb_142 (fun r25 h24 hd => ?_)
          exact a_zret (pc := 145) hG hd dX2_readVerb_145
        refine a_if_eq (pc := 107) hG (tgt := 121) hd dX2_readVerb_107 (by decide) (fun hd => ?_) (fun hd => ?_)
        · refine a_aload_n (pc := 121) hG 1 rfl dX2_readVerb_121 rfl ?_
          refine a_getR (pc := 122) hG sc_38 cl_X2 ok_X2 1 (by decide) rfl t_339 dX2_readVerb_122 ?_
          refine a_lload_n (pc := 125) hG 0 rfl dX2_readVerb_125 rfl ?_
          refine a_cvI (pc := 126) hG (As := [.long v13]) (st := []) sc_3 cl_X5 mk_X5_deedNamed t_1268 (by omega) (fun z hz => c_Plan_deedNamed_3 F v13 _  z hz) rfl (Nat.le_of_ble_eq_true rfl) hd dX2_readVerb_126 (fun r27 h26 hd => ?_)
          exact AW.sub [1, 2] rfl (hJ14 _ _ hd)
        refine a_aload_n (pc := 110) hG 1 rfl dX2_readVerb_110 rfl ?_
        refine a_getR (pc := 111) hG sc_38 cl_X2 ok_X2 1 (by decide) rfl t_339 dX2_readVerb_111 ?_
        refine a_lload_n (pc := 114) hG 0 rfl dX2_readVerb_114 rfl ?_
        refine a_cvI (pc := 115) hG (As := [.long v13]) (st := []) sc_3 cl_X5 mk_X5_causeNamed t_1267 (by omega) (fun z hz => c_Plan_causeNamed_3 F v13 _  z hz) rfl (Nat.le_of_ble_eq_true rfl) hd dX2_readVerb_115 (fun r29 h28 hd => ?_)
        refine a_goto (pc := 118) hG (tgt := 129) dX2_readVerb_118 (by decide) ?_
        exact AW.sub [1, 2] rfl (hJ14 _ _ hd)
      refine a_aload_n (pc := 89) hG 0 rfl dX2_readVerb_89 rfl ?_
      refine a_getR (pc := 90) hG sc_38 cl_X2 ok_X2 0 (by decide) rfl t_338 dX2_readVerb_90 ?_
      refine a_iconst (pc := 93) hG dX2_readVerb_93 (v := (nI 1)) rfl ?_
      refine a_cvI (pc := 94) hG (As := [.int (nI 1)]) (st := []) sc_1 cl_X8 mk_X8_fail t_1242 (by omega) (fun z hz => c_Tape_fail (nI 1) _  z hz) rfl (Nat.le_of_ble_eq_true rfl) hd dX2_readVerb_94 (fun r31 h30 hd => ?_)
      exact a_zret (pc := 97) hG hd dX2_readVerb_97
    refine a_if_ne (pc := 47) hG (tgt := 72) hd dX2_readVerb_47 (by decide) (fun hd => ?_) (fun hd => ?_)
    · exact AW.sub [1, 0] rfl (hJ6  _ hd)
    refine a_aload_n (pc := 50) hG 1 rfl dX2_readVerb_50 rfl ?_
    refine a_getR (pc := 51) hG sc_38 cl_X2 ok_X2 0 (by decide) rfl t_338 dX2_readVerb_51 ?_
    refine a_gsW (pc := 54) hG 7 (by decide) t_1265 dX2_readVerb_54 ?_
    refine a_cvI (pc := 57) hG (As := [.ref (wad 7)]) (st := []) sc_1 cl_X8 mk_X8_isWord t_1240 (by omega) (fun z hz => c_Tape_isWord 7 _ (by decide) z hz) rfl (Nat.le_of_ble_eq_true rfl) hd dX2_readVerb_57 (fun r33 h32 hd => ?_)
    refine a_if_ne (pc := 60) hG (tgt := 72) hd dX2_readVerb_60 (by decide) (fun hd => ?_) (fun hd => ?_)
    · exact AW.sub [1, 0] rfl (hJ6  _ hd)
    refine a_aload_n (pc := 63) hG 1 rfl dX2_readVerb_63 rfl ?_
    refine a_getR (pc := 64) hG sc_38 cl_X2 ok_X2 0 (by decide) rfl t_338 dX2_readVerb_64 ?_
    refine a_iconst (pc := 67) hG dX2_readVerb_67 (v := (nI 1)) rfl ?_
    refine a_cvI (pc := 68) hG (As := [.int (nI 1)]) (st := []) sc_1 cl_X8 mk_X8_fail t_1242 (by omega) (fun z hz => c_Tape_fail (nI 1) _  z hz) rfl (Nat.le_of_ble_eq_true rfl) hd dX2_readVerb_68 (fun r35 h34 hd => ?_)
    exact a_zret (pc := 71) hG hd dX2_readVerb_71
  refine a_aload_n (pc := 13) hG 0 rfl dX2_readVerb_13 rfl ?_
  refine a_getR (pc := 14) hG sc_38 cl_X2 ok_X2 2 (by decide) rfl t_340 dX2_readVerb_14 ?_
  refine a_aload_n (pc := 17) hG 0 rfl dX2_readVerb_17 rfl ?_
  refine a_getI (pc := 18) hG sc_38 cl_X2 ok_X2 5 (by decide) rfl t_343 dX2_readVerb_18 ?_
  refine a_iconst (pc := 21) hG dX2_readVerb_21 (v := (nI 2)) rfl ?_
  refine a_iast (pc := 22) hG sc_39 hd dX2_readVerb_22 (fun h36 hd => ?_)
  refine a_aload_n (pc := 23) hG 0 rfl dX2_readVerb_23 rfl ?_
  refine a_getR (pc := 24) hG sc_38 cl_X2 ok_X2 4 (by decide) rfl t_342 dX2_readVerb_24 ?_
  refine a_aload_n (pc := 27) hG 0 rfl dX2_readVerb_27 rfl ?_
  refine a_getI (pc := 28) hG sc_38 cl_X2 ok_X2 5 (by decide) rfl t_343 dX2_readVerb_28 ?_
  refine a_iconst (pc := 31) hG dX2_readVerb_31 (v := (-1 : Int32)) rfl ?_
  refine a_iast (pc := 32) hG sc_41 hd dX2_readVerb_32 (fun h37 hd => ?_)
  refine a_iconst (pc := 33) hG dX2_readVerb_33 (v := (nI 1)) rfl ?_
  exact a_zret (pc := 34) hG hd dX2_readVerb_34
theorem dX2_readWeeks_0 : decode cX2_readWeeks 0 = .ok (.aload_n 0, 1) := by decide +kernel
theorem dX2_readWeeks_1 : decode cX2_readWeeks 1 = .ok (.getfield 28, 3) := by decide +kernel
theorem dX2_readWeeks_4 : decode cX2_readWeeks 4 = .ok (.iconst 1, 1) := by decide +kernel
theorem dX2_readWeeks_5 : decode cX2_readWeeks 5 = .ok (.bipush 50, 2) := by decide +kernel
theorem dX2_readWeeks_7 : decode cX2_readWeeks 7 = .ok (.invokevirtual 96, 3) := by decide +kernel
theorem dX2_readWeeks_10 : decode cX2_readWeeks 10 = .ok (.ifCond .ne 5, 3) := by decide +kernel
theorem dX2_readWeeks_13 : decode cX2_readWeeks 13 = .ok (.iconst 0, 1) := by decide +kernel
theorem dX2_readWeeks_14 : decode cX2_readWeeks 14 = .ok (.ireturn, 1) := by decide +kernel
theorem dX2_readWeeks_15 : decode cX2_readWeeks 15 = .ok (.aload_n 0, 1) := by decide +kernel
theorem dX2_readWeeks_16 : decode cX2_readWeeks 16 = .ok (.getfield 9, 3) := by decide +kernel
theorem dX2_readWeeks_19 : decode cX2_readWeeks 19 = .ok (.aload_n 0, 1) := by decide +kernel
theorem dX2_readWeeks_20 : decode cX2_readWeeks 20 = .ok (.getfield 21, 3) := by decide +kernel
theorem dX2_readWeeks_23 : decode cX2_readWeeks 23 = .ok (.iconst 3, 1) := by decide +kernel
theorem dX2_readWeeks_24 : decode cX2_readWeeks 24 = .ok (.iastore, 1) := by decide +kernel
theorem dX2_readWeeks_25 : decode cX2_readWeeks 25 = .ok (.aload_n 0, 1) := by decide +kernel
theorem dX2_readWeeks_26 : decode cX2_readWeeks 26 = .ok (.getfield 18, 3) := by decide +kernel
theorem dX2_readWeeks_29 : decode cX2_readWeeks 29 = .ok (.aload_n 0, 1) := by decide +kernel
theorem dX2_readWeeks_30 : decode cX2_readWeeks 30 = .ok (.getfield 21, 3) := by decide +kernel
theorem dX2_readWeeks_33 : decode cX2_readWeeks 33 = .ok (.aload_n 0, 1) := by decide +kernel
theorem dX2_readWeeks_34 : decode cX2_readWeeks 34 = .ok (.getfield 28, 3) := by decide +kernel
theorem dX2_readWeeks_37 : decode cX2_readWeeks 37 = .ok (.invokevirtual 100, 3) := by decide +kernel
theorem dX2_readWeeks_40 : decode cX2_readWeeks 40 = .ok (.iastore, 1) := by decide +kernel
theorem dX2_readWeeks_41 : decode cX2_readWeeks 41 = .ok (.iconst 1, 1) := by decide +kernel
theorem dX2_readWeeks_42 : decode cX2_readWeeks 42 = .ok (.ireturn, 1) := by decide +kernel
set_option maxHeartbeats 4000000 in
theorem c_Ledger_readWeeks {ad wad : Nat → Nat} (F : Nat)  (h : HS)  (q : Int32 × HS) (hd : f_Ledger_readWeeks F  h = some q) : Ctr SHc ad wad yX2_readWeeks cX2_readWeeks 1 (some .boolean) 4 [.ref (ad 38)] h (some (.int q.1), q.2) := by
  refine enter (own := RX2) (lv := [(0, .ref (ad 38))]) (by decide +kernel) rfl (Nat.le_of_ble_eq_true rfl) rfl (fun Γ hG => ?_)
  unfold f_Ledger_readWeeks at hd
  refine a_aload_n (pc := 0) hG 0 rfl dX2_readWeeks_0 rfl ?_
  refine a_getR (pc := 1) hG sc_38 cl_X2 ok_X2 0 (by decide) rfl t_338 dX2_readWeeks_1 ?_
  refine a_iconst (pc := 4) hG dX2_readWeeks_4 (v := (nI 1)) rfl ?_
  refine a_bipush (pc := 5) hG dX2_readWeeks_5 (v := (nI 50)) rfl ?_
  refine a_cvI (pc := 7) hG (As := [.int (nI 1), .int (nI 50)]) (st := []) sc_1 cl_X8 mk_X8_takeNumber t_1250 (by omega) (fun z hz => c_Tape_takeNumber F (nI 1) (nI 50) _  z hz) rfl (Nat.le_of_ble_eq_true rfl) hd dX2_readWeeks_7 (fun r2 h1 hd => ?_)
  refine a_if_ne (pc := 10) hG (tgt := 15) hd dX2_readWeeks_10 (by decide) (fun hd => ?_) (fun hd => ?_)
  · refine a_aload_n (pc := 15) hG 0 rfl dX2_readWeeks_15 rfl ?_
    refine a_getR (pc := 16) hG sc_38 cl_X2 ok_X2 2 (by decide) rfl t_340 dX2_readWeeks_16 ?_
    refine a_aload_n (pc := 19) hG 0 rfl dX2_readWeeks_19 rfl ?_
    refine a_getI (pc := 20) hG sc_38 cl_X2 ok_X2 5 (by decide) rfl t_343 dX2_readWeeks_20 ?_
    refine a_iconst (pc := 23) hG dX2_readWeeks_23 (v := (nI 3)) rfl ?_
    refine a_iast (pc := 24) hG sc_39 hd dX2_readWeeks_24 (fun h3 hd => ?_)
    refine a_aload_n (pc := 25) hG 0 rfl dX2_readWeeks_25 rfl ?_
    refine a_getR (pc := 26) hG sc_38 cl_X2 ok_X2 4 (by decide) rfl t_342 dX2_readWeeks_26 ?_
    refine a_aload_n (pc := 29) hG 0 rfl dX2_readWeeks_29 rfl ?_
    refine a_getI (pc := 30) hG sc_38 cl_X2 ok_X2 5 (by decide) rfl t_343 dX2_readWeeks_30 ?_
    refine a_aload_n (pc := 33) hG 0 rfl dX2_readWeeks_33 rfl ?_
    refine a_getR (pc := 34) hG sc_38 cl_X2 ok_X2 0 (by decide) rfl t_338 dX2_readWeeks_34 ?_
    refine a_cvI (pc := 37) hG (As := []) (st := [.int (h3.1 38 5), .ref (ad 41)]) sc_1 cl_X8 mk_X8_taken t_1251 (by omega) (fun z hz => c_Tape_taken  _  z hz) rfl (Nat.le_of_ble_eq_true rfl) hd dX2_readWeeks_37 (fun r5 h4 hd => ?_)
    refine a_iast (pc := 40) hG sc_41 hd dX2_readWeeks_40 (fun h6 hd => ?_)
    refine a_iconst (pc := 41) hG dX2_readWeeks_41 (v := (nI 1)) rfl ?_
    exact a_zret (pc := 42) hG hd dX2_readWeeks_42
  refine a_iconst (pc := 13) hG dX2_readWeeks_13 (v := (nI 0)) rfl ?_
  exact a_zret (pc := 14) hG hd dX2_readWeeks_14
set_option maxHeartbeats 4000000 in
theorem w_l_Plan_placeOf_6_0 {ad wad : Nat → Nat} {Γ : Ctx} (F : Nat) {n : Nat} (hn : 1 ≤ n) (hG : Cx SHc ad wad cX5_placeOf 5 RX5 (some .int) (n) Γ) {q : Int32 × HS} {x1 : Int32} {x2 : Int64} {g : Nat} {x4 : Int32} {h : HS} (hd : l_Plan_placeOf_6_0 F x1 x2 g x4 h = some q) : AW SHc ad 5 (some (.int q.1), q.2) Γ 3 [(0, .ref (ad 6)), (1, .int x1), (2, .long x2), (4, .int x4)] [] h := by
  induction g generalizing x4 h with
  | zero => unfold l_Plan_placeOf_6_0 at hd; cases hd
  | succ g ih =>
    unfold l_Plan_placeOf_6_0 at hd
    refine a_iload (pc := 3) hG 3 rfl dX5_placeOf_3 ?_
    refine a_iload_n (pc := 5) hG 1 rfl dX5_placeOf_5 rfl ?_
    refine a_ic_ge (pc := 6) hG (tgt := 27) hd dX5_placeOf_6 (by decide) (fun hd => ?_) (fun hd => ?_)
    · refine a_iconst (pc := 27) hG dX5_placeOf_27 (v := (-1 : Int32)) rfl ?_
      exact a_iret (pc := 28) hG hd dX5_placeOf_28
    refine a_aload_n (pc := 9) hG 0 rfl dX5_placeOf_9 rfl ?_
    refine a_iload (pc := 10) hG 3 rfl dX5_placeOf_10 ?_
    refine a_lald (pc := 12) hG sc_6 hd dX5_placeOf_12 (fun hd => ?_)
    refine a_lload_n (pc := 13) hG 2 rfl dX5_placeOf_13 rfl ?_
    refine a_lcmp (pc := 14) hG dX5_placeOf_14 ?_
    refine a_if_ne (pc := 15) hG (tgt := 21) hd dX5_placeOf_15 (by decide) (fun hd => ?_) (fun hd => ?_)
    · refine a_iincN (pc := 21) hG (c0 := (nI 1)) 3 rfl hd dX5_placeOf_21 rfl (by decide) (lf := fun x => [(4, .int x), (0, .ref (ad 6)), (1, .int x1), (2, .long x2)]) (fun _ => rfl) (fun v2 hd => ?_)
      refine a_goto (pc := 24) hG (tgt := 3) dX5_placeOf_24 (by decide) ?_
      exact AW.sub [1, 2, 3, 0] rfl (ih hd)
    refine a_iload (pc := 18) hG 3 rfl dX5_placeOf_18 ?_
    exact a_iret (pc := 20) hG hd dX5_placeOf_20
set_option maxHeartbeats 4000000 in
theorem c_Plan_placeOf_6 {ad wad : Nat → Nat} (F : Nat) (a1 : Int32) (a2 : Int64) (h : HS)  (q : Int32 × HS) (hd : f_Plan_placeOf_6 F a1 a2 h = some q) : Ctr SHc ad wad yX5_placeOf cX5_placeOf 5 (some .int) 1 [.ref (ad 6), .int a1, .long a2] h (some (.int q.1), q.2) := by
  refine enter (own := RX5) (lv := [(0, .ref (ad 6)), (1, .int a1), (2, .long a2)]) (by decide +kernel) rfl (Nat.le_of_ble_eq_true rfl) rfl (fun Γ hG => ?_)
  unfold f_Plan_placeOf_6 at hd
  refine a_iconst (pc := 0) hG dX5_placeOf_0 (v := (nI 0)) rfl ?_
  refine a_istoreN (pc := 1) hG hd dX5_placeOf_1 (by decide) (lf := fun x => [(4, .int x), (0, .ref (ad 6)), (1, .int a1), (2, .long a2)]) (fun _ => rfl) (fun v1 hd => ?_)
  refine AW.sub [1, 2, 3, 0] rfl ?_
  exact w_l_Plan_placeOf_6_0 F (by omega) hG hd
set_option maxHeartbeats 4000000 in
theorem c_Plan_clerkNamed_3 {ad wad : Nat → Nat} (F : Nat) (a0 : Int64) (h : HS)  (q : Int32 × HS) (hd : f_Plan_clerkNamed_3 F a0 h = some q) : Ctr SHc ad wad yX5_clerkNamed cX5_clerkNamed 3 (some .int) 2 [.ref (ad 3), .long a0] h (some (.int q.1), q.2) := by
  refine enter (own := RX5) (lv := [(0, .ref (ad 3)), (1, .long a0)]) (by decide +kernel) rfl (Nat.le_of_ble_eq_true rfl) rfl (fun Γ hG => ?_)
  unfold f_Plan_clerkNamed_3 at hd
  refine a_aload_n (pc := 0) hG 0 rfl dX5_clerkNamed_0 rfl ?_
  refine a_getR (pc := 1) hG sc_3 cl_X5 ok_X5 8 (by decide) rfl t_205 dX5_clerkNamed_1 ?_
  refine a_aload_n (pc := 4) hG 0 rfl dX5_clerkNamed_4 rfl ?_
  refine a_getI (pc := 5) hG sc_3 cl_X5 ok_X5 5 (by decide) rfl t_202 dX5_clerkNamed_5 ?_
  refine a_lload_n (pc := 8) hG 1 rfl dX5_clerkNamed_8 rfl ?_
  refine a_csI (pc := 9) hG (As := [.ref (ad 6), .int (h.1 3 5), .long a0]) (st := []) mk_X5_placeOf t_674 (by omega) (fun z hz => c_Plan_placeOf_6 F (h.1 3 5) a0 _  z hz) rfl (Nat.le_of_ble_eq_true rfl) hd dX5_clerkNamed_9 (fun r2 h1 hd => ?_)
  exact a_iret (pc := 12) hG hd dX5_clerkNamed_12
theorem dX2_readLine_0 : decode cX2_readLine 0 = .ok (.aload_n 0, 1) := by decide +kernel
theorem dX2_readLine_1 : decode cX2_readLine 1 = .ok (.getfield 28, 3) := by decide +kernel
theorem dX2_readLine_4 : decode cX2_readLine 4 = .ok (.getstatic 61, 3) := by decide +kernel
theorem dX2_readLine_7 : decode cX2_readLine 7 = .ok (.invokevirtual 67, 3) := by decide +kernel
theorem dX2_readLine_10 : decode cX2_readLine 10 = .ok (.istore_n 1, 1) := by decide +kernel
theorem dX2_readLine_11 : decode cX2_readLine 11 = .ok (.iload_n 1, 1) := by decide +kernel
theorem dX2_readLine_12 : decode cX2_readLine 12 = .ok (.ifCond .ne 22, 3) := by decide +kernel
theorem dX2_readLine_15 : decode cX2_readLine 15 = .ok (.aload_n 0, 1) := by decide +kernel
theorem dX2_readLine_16 : decode cX2_readLine 16 = .ok (.getfield 28, 3) := by decide +kernel
theorem dX2_readLine_19 : decode cX2_readLine 19 = .ok (.invokevirtual 71, 3) := by decide +kernel
theorem dX2_readLine_22 : decode cX2_readLine 22 = .ok (.ifCond .ne 12, 3) := by decide +kernel
theorem dX2_readLine_25 : decode cX2_readLine 25 = .ok (.aload_n 0, 1) := by decide +kernel
theorem dX2_readLine_26 : decode cX2_readLine 26 = .ok (.getfield 28, 3) := by decide +kernel
theorem dX2_readLine_29 : decode cX2_readLine 29 = .ok (.iconst 1, 1) := by decide +kernel
theorem dX2_readLine_30 : decode cX2_readLine 30 = .ok (.invokevirtual 74, 3) := by decide +kernel
theorem dX2_readLine_33 : decode cX2_readLine 33 = .ok (.ireturn, 1) := by decide +kernel
theorem dX2_readLine_34 : decode cX2_readLine 34 = .ok (.iload_n 1, 1) := by decide +kernel
theorem dX2_readLine_35 : decode cX2_readLine 35 = .ok (.ifCond .eq 7, 3) := by decide +kernel
theorem dX2_readLine_38 : decode cX2_readLine 38 = .ok (.iconst (-1), 1) := by decide +kernel
theorem dX2_readLine_39 : decode cX2_readLine 39 = .ok (.goto 17, 3) := by decide +kernel
theorem dX2_readLine_42 : decode cX2_readLine 42 = .ok (.aload_n 0, 1) := by decide +kernel
theorem dX2_readLine_43 : decode cX2_readLine 43 = .ok (.getfield 32, 3) := by decide +kernel
theorem dX2_readLine_46 : decode cX2_readLine 46 = .ok (.aload_n 0, 1) := by decide +kernel
theorem dX2_readLine_47 : decode cX2_readLine 47 = .ok (.getfield 28, 3) := by decide +kernel
theorem dX2_readLine_50 : decode cX2_readLine 50 = .ok (.invokevirtual 77, 3) := by decide +kernel
theorem dX2_readLine_53 : decode cX2_readLine 53 = .ok (.invokevirtual 81, 3) := by decide +kernel
theorem dX2_readLine_56 : decode cX2_readLine 56 = .ok (.istore_n 2, 1) := by decide +kernel
theorem dX2_readLine_57 : decode cX2_readLine 57 = .ok (.iload_n 1, 1) := by decide +kernel
theorem dX2_readLine_58 : decode cX2_readLine 58 = .ok (.ifCond .ne 17, 3) := by decide +kernel
theorem dX2_readLine_61 : decode cX2_readLine 61 = .ok (.iload_n 2, 1) := by decide +kernel
theorem dX2_readLine_62 : decode cX2_readLine 62 = .ok (.iconst (-1), 1) := by decide +kernel
theorem dX2_readLine_63 : decode cX2_readLine 63 = .ok (.if_icmp .ne 12, 3) := by decide +kernel
theorem dX2_readLine_66 : decode cX2_readLine 66 = .ok (.aload_n 0, 1) := by decide +kernel
theorem dX2_readLine_67 : decode cX2_readLine 67 = .ok (.getfield 28, 3) := by decide +kernel
theorem dX2_readLine_70 : decode cX2_readLine 70 = .ok (.iconst 3, 1) := by decide +kernel
theorem dX2_readLine_71 : decode cX2_readLine 71 = .ok (.invokevirtual 74, 3) := by decide +kernel
theorem dX2_readLine_74 : decode cX2_readLine 74 = .ok (.ireturn, 1) := by decide +kernel
theorem dX2_readLine_75 : decode cX2_readLine 75 = .ok (.aload_n 0, 1) := by decide +kernel
theorem dX2_readLine_76 : decode cX2_readLine 76 = .ok (.getfield 21, 3) := by decide +kernel
theorem dX2_readLine_79 : decode cX2_readLine 79 = .ok (.bipush 40, 2) := by decide +kernel
theorem dX2_readLine_81 : decode cX2_readLine 81 = .ok (.if_icmp .lt 12, 3) := by decide +kernel
theorem dX2_readLine_84 : decode cX2_readLine 84 = .ok (.aload_n 0, 1) := by decide +kernel
theorem dX2_readLine_85 : decode cX2_readLine 85 = .ok (.getfield 28, 3) := by decide +kernel
theorem dX2_readLine_88 : decode cX2_readLine 88 = .ok (.iconst 4, 1) := by decide +kernel
theorem dX2_readLine_89 : decode cX2_readLine 89 = .ok (.invokevirtual 74, 3) := by decide +kernel
theorem dX2_readLine_92 : decode cX2_readLine 92 = .ok (.ireturn, 1) := by decide +kernel
theorem dX2_readLine_93 : decode cX2_readLine 93 = .ok (.aload_n 0, 1) := by decide +kernel
theorem dX2_readLine_94 : decode cX2_readLine 94 = .ok (.getfield 28, 3) := by decide +kernel
theorem dX2_readLine_97 : decode cX2_readLine 97 = .ok (.invokevirtual 87, 3) := by decide +kernel
theorem dX2_readLine_100 : decode cX2_readLine 100 = .ok (.aload_n 0, 1) := by decide +kernel
theorem dX2_readLine_101 : decode cX2_readLine 101 = .ok (.getfield 15, 3) := by decide +kernel
theorem dX2_readLine_104 : decode cX2_readLine 104 = .ok (.aload_n 0, 1) := by decide +kernel
theorem dX2_readLine_105 : decode cX2_readLine 105 = .ok (.getfield 21, 3) := by decide +kernel
theorem dX2_readLine_108 : decode cX2_readLine 108 = .ok (.iload_n 2, 1) := by decide +kernel
theorem dX2_readLine_109 : decode cX2_readLine 109 = .ok (.iastore, 1) := by decide +kernel
theorem dX2_readLine_110 : decode cX2_readLine 110 = .ok (.iload_n 1, 1) := by decide +kernel
theorem dX2_readLine_111 : decode cX2_readLine 111 = .ok (.ifCond .eq 10, 3) := by decide +kernel
theorem dX2_readLine_114 : decode cX2_readLine 114 = .ok (.aload_n 0, 1) := by decide +kernel
theorem dX2_readLine_115 : decode cX2_readLine 115 = .ok (.invokevirtual 90, 3) := by decide +kernel
theorem dX2_readLine_118 : decode cX2_readLine 118 = .ok (.goto 7, 3) := by decide +kernel
theorem dX2_readLine_121 : decode cX2_readLine 121 = .ok (.aload_n 0, 1) := by decide +kernel
theorem dX2_readLine_122 : decode cX2_readLine 122 = .ok (.invokevirtual 93, 3) := by decide +kernel
theorem dX2_readLine_125 : decode cX2_readLine 125 = .ok (.ireturn, 1) := by decide +kernel
set_option maxHeartbeats 4000000 in
theorem c_Ledger_readLine {ad wad : Nat → Nat} (F : Nat)  (h : HS)  (q : Int32 × HS) (hd : f_Ledger_readLine F  h = some q) : Ctr SHc ad wad yX2_readLine cX2_readLine 3 (some .boolean) 5 [.ref (ad 38)] h (some (.int q.1), q.2) := by
  refine enter (own := RX2) (lv := [(0, .ref (ad 38))]) (by decide +kernel) rfl (Nat.le_of_ble_eq_true rfl) rfl (fun Γ hG => ?_)
  unfold f_Ledger_readLine at hd
  refine a_aload_n (pc := 0) hG 0 rfl dX2_readLine_0 rfl ?_
  refine a_getR (pc := 1) hG sc_38 cl_X2 ok_X2 0 (by decide) rfl t_338 dX2_readLine_1 ?_
  refine a_gsW (pc := 4) hG 9 (by decide) t_1238 dX2_readLine_4 ?_
  refine a_cvI (pc := 7) hG (As := [.ref (wad 9)]) (st := []) sc_1 cl_X8 mk_X8_isWord t_1240 (by omega) (fun z hz => c_Tape_isWord 9 _ (by decide) z hz) rfl (Nat.le_of_ble_eq_true rfl) hd dX2_readLine_7 (fun r2 h1 hd => ?_)
  refine a_istore_nN (pc := 10) hG hd dX2_readLine_10 rfl (by decide) (lf := fun x => [(1, .int x), (0, .ref (ad 38))]) (fun _ => rfl) (fun v3 hd => ?_)
  refine a_iload_n (pc := 11) hG 0 rfl dX2_readLine_11 rfl ?_
  refine a_join hd (Q := fun J : HS → Option (Int32 × HS) => ∀  (h5 : HS), J  h5 = some q → AW SHc ad 3 (some (.int q.1), q.2) Γ 34 [(0, .ref (ad 38)), (1, .int v3)] [] h5) (fun  h5 hd => ?_) (fun J4 hJ4 hd => ?_)
  · refine a_iload_n (pc := 34) hG 1 rfl dX2_readLine_34 rfl ?_
    refine a_join hd (Q := fun J : Int32 → HS → Option (Int32 × HS) => ∀ (v7 : Int32) (h8 : HS), J v7 h8 = some q → AW SHc ad 3 (some (.int q.1), q.2) Γ 56 [(0, .ref (ad 38)), (1, .int v3)] [.int v7] h8) (fun v7 h8 hd => ?_) (fun J6 hJ6 hd => ?_)
    · refine a_istore_nN (pc := 56) hG hd dX2_readLine_56 rfl (by decide) (lf := fun x => [(2, .int x), (0, .ref (ad 38)), (1, .int v3)]) (fun _ => rfl) (fun v9 hd => ?_)
      refine a_iload_n (pc := 57) hG 2 rfl dX2_readLine_57 rfl ?_
      refine a_join hd (Q := fun J : HS → Option (Int32 × HS) => ∀  (h11 : HS), J  h11 = some q → AW SHc ad 3 (some (.int q.1), q.2) Γ 75 [(0, .ref (ad 38)), (1, .int v3), (2, .int v9)] [] h11) (fun  h11 hd => ?_) (fun J10 hJ10 hd => ?_)
      · refine a_aload_n (pc := 75) hG 0 rfl dX2_readLine_75 rfl ?_
        refine a_getI (pc := 76) hG sc_38 cl_X2 ok_X2 5 (by decide) rfl t_343 dX2_readLine_76 ?_
        refine a_bipush (pc := 79) hG dX2_readLine_79 (v := (nI 40)) rfl ?_
        refine a_ic_lt (pc := 81) hG (tgt := 93) hd dX2_readLine_81 (by decide) (fun hd => ?_) (fun hd => ?_)
        · refine a_aload_n (pc := 93) hG 0 rfl dX2_readLine_93 rfl ?_
          refine a_getR (pc := 94) hG sc_38 cl_X2 ok_X2 0 (by decide) rfl t_338 dX2_readLine_94 ?_
          refine a_cvN (pc := 97) hG (As := []) (st := []) sc_1 cl_X8 mk_X8_advance t_1245 (by omega) (fun z hz => c_Tape_advance F  _  z hz) rfl (Nat.le_of_ble_eq_true rfl) hd dX2_readLine_97 (fun _ h12 hd => ?_)
          refine a_aload_n (pc := 100) hG 0 rfl dX2_readLine_100 rfl ?_
          refine a_getR (pc := 101) hG sc_38 cl_X2 ok_X2 3 (by decide) rfl t_341 dX2_readLine_101 ?_
          refine a_aload_n (pc := 104) hG 0 rfl dX2_readLine_104 rfl ?_
          refine a_getI (pc := 105) hG sc_38 cl_X2 ok_X2 5 (by decide) rfl t_343 dX2_readLine_105 ?_
          refine a_iload_n (pc := 108) hG 2 rfl dX2_readLine_108 rfl ?_
          refine a_iast (pc := 109) hG sc_40 hd dX2_readLine_109 (fun h13 hd => ?_)
          refine a_iload_n (pc := 110) hG 1 rfl dX2_readLine_110 rfl ?_
          refine a_if_eq (pc := 111) hG (tgt := 121) hd dX2_readLine_111 (by decide) (fun hd => ?_) (fun hd => ?_)
          · refine a_aload_n (pc := 121) hG 0 rfl dX2_readLine_121 rfl ?_
            refine a_cvI (pc := 122) hG (As := []) (st := []) sc_38 cl_X2 mk_X2_readVerb t_1252 (by omega) (fun z hz => c_Ledger_readVerb F  _  z hz) rfl (Nat.le_of_ble_eq_true rfl) hd dX2_readLine_122 (fun r15 h14 hd => ?_)
            exact a_zret (pc := 125) hG hd dX2_readLine_125
          refine a_aload_n (pc := 114) hG 0 rfl dX2_readLine_114 rfl ?_
          refine a_cvI (pc := 115) hG (As := []) (st := []) sc_38 cl_X2 mk_X2_readWeeks t_1246 (by omega) (fun z hz => c_Ledger_readWeeks F  _  z hz) rfl (Nat.le_of_ble_eq_true rfl) hd dX2_readLine_115 (fun r17 h16 hd => ?_)
          refine a_goto (pc := 118) hG (tgt := 125) dX2_readLine_118 (by decide) ?_
          exact a_zret (pc := 125) hG hd dX2_readLine_125
        refine a_aload_n (pc := 84) hG 0 rfl dX2_readLine_84 rfl ?_
        refine a_getR (pc := 85) hG sc_38 cl_X2 ok_X2 0 (by decide) rfl t_338 dX2_readLine_85 ?_
        refine a_iconst (pc := 88) hG dX2_readLine_88 (v := (nI 4)) rfl ?_
        refine a_cvI (pc := 89) hG (As := [.int (nI 4)]) (st := []) sc_1 cl_X8 mk_X8_fail t_1242 (by omega) (fun z hz => c_Tape_fail (nI 4) _  z hz) rfl (Nat.le_of_ble_eq_true rfl) hd dX2_readLine_89 (fun r19 h18 hd => ?_)
        exact a_zret (pc := 92) hG hd dX2_readLine_92
      refine a_if_ne (pc := 58) hG (tgt := 75) hd dX2_readLine_58 (by decide) (fun hd => ?_) (fun hd => ?_)
      · exact AW.sub [1, 2, 0] rfl (hJ10  _ hd)
      refine a_iload_n (pc := 61) hG 0 rfl dX2_readLine_61 rfl ?_
      refine a_iconst (pc := 62) hG dX2_readLine_62 (v := (-1 : Int32)) rfl ?_
      refine a_ic_ne (pc := 63) hG (tgt := 75) hd dX2_readLine_63 (by decide) (fun hd => ?_) (fun hd => ?_)
      · exact AW.sub [1, 2, 0] rfl (hJ10  _ hd)
      refine a_aload_n (pc := 66) hG 1 rfl dX2_readLine_66 rfl ?_
      refine a_getR (pc := 67) hG sc_38 cl_X2 ok_X2 0 (by decide) rfl t_338 dX2_readLine_67 ?_
      refine a_iconst (pc := 70) hG dX2_readLine_70 (v := (nI 3)) rfl ?_
      refine a_cvI (pc := 71) hG (As := [.int (nI 3)]) (st := []) sc_1 cl_X8 mk_X8_fail t_1242 (by omega) (fun z hz => c_Tape_fail (nI 3) _  z hz) rfl (Nat.le_of_ble_eq_true rfl) hd dX2_readLine_71 (fun r21 h20 hd => ?_)
      exact a_zret (pc := 74) hG hd dX2_readLine_74
    refine a_if_eq (pc := 35) hG (tgt := 42) hd dX2_readLine_35 (by decide) (fun hd => ?_) (fun hd => ?_)
    · refine a_aload_n (pc := 42) hG 0 rfl dX2_readLine_42 rfl ?_
      refine a_getR (pc := 43) hG sc_38 cl_X2 ok_X2 1 (by decide) rfl t_339 dX2_readLine_43 ?_
      refine a_aload_n (pc := 46) hG 0 rfl dX2_readLine_46 rfl ?_
      refine a_getR (pc := 47) hG sc_38 cl_X2 ok_X2 0 (by decide) rfl t_338 dX2_readLine_47 ?_
      refine a_cvL (pc := 50) hG (As := []) (st := [.ref (ad 3)]) sc_1 cl_X8 mk_X8_letters t_1243 (by omega) (fun z hz => c_Tape_letters  _  z hz) rfl (Nat.le_of_ble_eq_true rfl) hd dX2_readLine_50 (fun r23 h22 hd => ?_)
      refine a_cvI (pc := 53) hG (As := [.long r23]) (st := []) sc_3 cl_X5 mk_X5_clerkNamed t_1244 (by omega) (fun z hz => c_Plan_clerkNamed_3 F r23 _  z hz) rfl (Nat.le_of_ble_eq_true rfl) hd dX2_readLine_53 (fun r25 h24 hd => ?_)
      exact AW.sub [0, 1] rfl (hJ6 _ _ hd)
    refine a_iconst (pc := 38) hG dX2_readLine_38 (v := (-1 : Int32)) rfl ?_
    refine a_goto (pc := 39) hG (tgt := 56) dX2_readLine_39 (by decide) ?_
    exact AW.sub [0, 1] rfl (hJ6 _ _ hd)
  refine a_if_ne (pc := 12) hG (tgt := 34) hd dX2_readLine_12 (by decide) (fun hd => ?_) (fun hd => ?_)
  · exact AW.sub [1, 0] rfl (hJ4  _ hd)
  refine a_aload_n (pc := 15) hG 1 rfl dX2_readLine_15 rfl ?_
  refine a_getR (pc := 16) hG sc_38 cl_X2 ok_X2 0 (by decide) rfl t_338 dX2_readLine_16 ?_
  refine a_cvI (pc := 19) hG (As := []) (st := []) sc_1 cl_X8 mk_X8_isName t_1241 (by omega) (fun z hz => c_Tape_isName F  _  z hz) rfl (Nat.le_of_ble_eq_true rfl) hd dX2_readLine_19 (fun r27 h26 hd => ?_)
  refine a_if_ne (pc := 22) hG (tgt := 34) hd dX2_readLine_22 (by decide) (fun hd => ?_) (fun hd => ?_)
  · exact AW.sub [1, 0] rfl (hJ4  _ hd)
  refine a_aload_n (pc := 25) hG 1 rfl dX2_readLine_25 rfl ?_
  refine a_getR (pc := 26) hG sc_38 cl_X2 ok_X2 0 (by decide) rfl t_338 dX2_readLine_26 ?_
  refine a_iconst (pc := 29) hG dX2_readLine_29 (v := (nI 1)) rfl ?_
  refine a_cvI (pc := 30) hG (As := [.int (nI 1)]) (st := []) sc_1 cl_X8 mk_X8_fail t_1242 (by omega) (fun z hz => c_Tape_fail (nI 1) _  z hz) rfl (Nat.le_of_ble_eq_true rfl) hd dX2_readLine_30 (fun r29 h28 hd => ?_)
  exact a_zret (pc := 33) hG hd dX2_readLine_33
theorem dX2_read_0 : decode cX2_read 0 = .ok (.aload_n 0, 1) := by decide +kernel
theorem dX2_read_1 : decode cX2_read 1 = .ok (.iconst 0, 1) := by decide +kernel
theorem dX2_read_2 : decode cX2_read 2 = .ok (.putfield 21, 3) := by decide +kernel
theorem dX2_read_5 : decode cX2_read 5 = .ok (.aload_n 0, 1) := by decide +kernel
theorem dX2_read_6 : decode cX2_read 6 = .ok (.getfield 28, 3) := by decide +kernel
theorem dX2_read_9 : decode cX2_read 9 = .ok (.sipush 400, 3) := by decide +kernel
theorem dX2_read_12 : decode cX2_read 12 = .ok (.invokevirtual 36, 3) := by decide +kernel
theorem dX2_read_15 : decode cX2_read 15 = .ok (.iconst 0, 1) := by decide +kernel
theorem dX2_read_16 : decode cX2_read 16 = .ok (.istore_n 1, 1) := by decide +kernel
theorem dX2_read_17 : decode cX2_read 17 = .ok (.iload_n 1, 1) := by decide +kernel
theorem dX2_read_18 : decode cX2_read 18 = .ok (.bipush 40, 2) := by decide +kernel
theorem dX2_read_20 : decode cX2_read 20 = .ok (.if_icmp .gt 52, 3) := by decide +kernel
theorem dX2_read_23 : decode cX2_read 23 = .ok (.aload_n 0, 1) := by decide +kernel
theorem dX2_read_24 : decode cX2_read 24 = .ok (.getfield 28, 3) := by decide +kernel
theorem dX2_read_27 : decode cX2_read 27 = .ok (.invokevirtual 42, 3) := by decide +kernel
theorem dX2_read_30 : decode cX2_read 30 = .ok (.ifCond .eq 5, 3) := by decide +kernel
theorem dX2_read_33 : decode cX2_read 33 = .ok (.iconst 1, 1) := by decide +kernel
theorem dX2_read_34 : decode cX2_read 34 = .ok (.ireturn, 1) := by decide +kernel
theorem dX2_read_35 : decode cX2_read 35 = .ok (.aload_n 0, 1) := by decide +kernel
theorem dX2_read_36 : decode cX2_read 36 = .ok (.invokevirtual 46, 3) := by decide +kernel
theorem dX2_read_39 : decode cX2_read 39 = .ok (.ifCond .eq 15, 3) := by decide +kernel
theorem dX2_read_42 : decode cX2_read 42 = .ok (.aload_n 0, 1) := by decide +kernel
theorem dX2_read_43 : decode cX2_read 43 = .ok (.getfield 28, 3) := by decide +kernel
theorem dX2_read_46 : decode cX2_read 46 = .ok (.bipush 59, 2) := by decide +kernel
theorem dX2_read_48 : decode cX2_read 48 = .ok (.invokevirtual 49, 3) := by decide +kernel
theorem dX2_read_51 : decode cX2_read 51 = .ok (.ifCond .ne 5, 3) := by decide +kernel
theorem dX2_read_54 : decode cX2_read 54 = .ok (.iconst 0, 1) := by decide +kernel
theorem dX2_read_55 : decode cX2_read 55 = .ok (.ireturn, 1) := by decide +kernel
theorem dX2_read_56 : decode cX2_read 56 = .ok (.aload_n 0, 1) := by decide +kernel
theorem dX2_read_57 : decode cX2_read 57 = .ok (.dup, 1) := by decide +kernel
theorem dX2_read_58 : decode cX2_read 58 = .ok (.getfield 21, 3) := by decide +kernel
theorem dX2_read_61 : decode cX2_read 61 = .ok (.iconst 1, 1) := by decide +kernel
theorem dX2_read_62 : decode cX2_read 62 = .ok (.iadd, 1) := by decide +kernel
theorem dX2_read_63 : decode cX2_read 63 = .ok (.putfield 21, 3) := by decide +kernel
theorem dX2_read_66 : decode cX2_read 66 = .ok (.iinc 1 1, 3) := by decide +kernel
theorem dX2_read_69 : decode cX2_read 69 = .ok (.goto (-52), 3) := by decide +kernel
theorem dX2_read_72 : decode cX2_read 72 = .ok (.iconst 0, 1) := by decide +kernel
theorem dX2_read_73 : decode cX2_read 73 = .ok (.ireturn, 1) := by decide +kernel
set_option maxHeartbeats 4000000 in
theorem w_l_Ledger_read_0 {ad wad : Nat → Nat} {Γ : Ctx} (F : Nat) {n : Nat} (hn : 6 ≤ n) (hG : Cx SHc ad wad cX2_read 2 RX2 (some .boolean) (n) Γ) {q : Int32 × HS} {g : Nat} {x1 : Int32} {h : HS} (hd : l_Ledger_read_0 F g x1 h = some q) : AW SHc ad 2 (some (.int q.1), q.2) Γ 17 [(0, .ref (ad 38)), (1, .int x1)] [] h := by
  induction g generalizing x1 h with
  | zero => unfold l_Ledger_read_0 at hd; cases hd
  | succ g ih =>
    unfold l_Ledger_read_0 at hd
    refine a_iload_n (pc := 17) hG 1 rfl dX2_read_17 rfl ?_
    refine a_bipush (pc := 18) hG dX2_read_18 (v := (nI 40)) rfl ?_
    refine a_ic_gt (pc := 20) hG (tgt := 72) hd dX2_read_20 (by decide) (fun hd => ?_) (fun hd => ?_)
    · refine a_iconst (pc := 72) hG dX2_read_72 (v := (nI 0)) rfl ?_
      exact a_zret (pc := 73) hG hd dX2_read_73
    refine a_aload_n (pc := 23) hG 0 rfl dX2_read_23 rfl ?_
    refine a_getR (pc := 24) hG sc_38 cl_X2 ok_X2 0 (by decide) rfl t_338 dX2_read_24 ?_
    refine a_cvI (pc := 27) hG (As := []) (st := []) sc_1 cl_X8 mk_X8_isAtEnd t_1233 (by omega) (fun z hz => c_Tape_isAtEnd  _  z hz) rfl (Nat.le_of_ble_eq_true rfl) hd dX2_read_27 (fun r5 h4 hd => ?_)
    refine a_if_eq (pc := 30) hG (tgt := 35) hd dX2_read_30 (by decide) (fun hd => ?_) (fun hd => ?_)
    · refine a_aload_n (pc := 35) hG 0 rfl dX2_read_35 rfl ?_
      refine a_cvI (pc := 36) hG (As := []) (st := []) sc_38 cl_X2 mk_X2_readLine t_1234 (by omega) (fun z hz => c_Ledger_readLine F  _  z hz) rfl (Nat.le_of_ble_eq_true rfl) hd dX2_read_36 (fun r7 h6 hd => ?_)
      refine a_if_eq (pc := 39) hG (tgt := 54) hd dX2_read_39 (by decide) (fun hd => ?_) (fun hd => ?_)
      · refine a_iconst (pc := 54) hG dX2_read_54 (v := (nI 0)) rfl ?_
        exact a_zret (pc := 55) hG hd dX2_read_55
      refine a_aload_n (pc := 42) hG 0 rfl dX2_read_42 rfl ?_
      refine a_getR (pc := 43) hG sc_38 cl_X2 ok_X2 0 (by decide) rfl t_338 dX2_read_43 ?_
      refine a_bipush (pc := 46) hG dX2_read_46 (v := (nI 59)) rfl ?_
      refine a_cvI (pc := 48) hG (As := [.int (nI 59)]) (st := []) sc_1 cl_X8 mk_X8_takeSign t_1269 (by omega) (fun z hz => c_Tape_takeSign F (nI 59) _  z hz) rfl (Nat.le_of_ble_eq_true rfl) hd dX2_read_48 (fun r9 h8 hd => ?_)
      refine a_if_ne (pc := 51) hG (tgt := 56) hd dX2_read_51 (by decide) (fun hd => ?_) (fun hd => ?_)
      · refine a_aload_n (pc := 56) hG 0 rfl dX2_read_56 rfl ?_
        refine a_dup (pc := 57) hG dX2_read_57 rfl ?_
        refine a_getI (pc := 58) hG sc_38 cl_X2 ok_X2 5 (by decide) rfl t_343 dX2_read_58 ?_
        refine a_iconst (pc := 61) hG dX2_read_61 (v := (nI 1)) rfl ?_
        refine a_iadd (pc := 62) hG dX2_read_62 ?_
        refine a_putI (pc := 63) hG sc_38 cl_X2 ok_X2 5 (by decide) rfl t_343 rfl (ty := .int) rfl rfl rfl hd dX2_read_63 (fun h10 hd => ?_)
        refine a_iincN (pc := 66) hG (c0 := (nI 1)) 1 rfl hd dX2_read_66 rfl (by decide) (lf := fun x => [(1, .int x), (0, .ref (ad 38))]) (fun _ => rfl) (fun v11 hd => ?_)
        refine a_goto (pc := 69) hG (tgt := 17) dX2_read_69 (by decide) ?_
        exact AW.sub [1, 0] rfl (ih hd)
      refine a_iconst (pc := 54) hG dX2_read_54 (v := (nI 0)) rfl ?_
      exact a_zret (pc := 55) hG hd dX2_read_55
    refine a_iconst (pc := 33) hG dX2_read_33 (v := (nI 1)) rfl ?_
    exact a_zret (pc := 34) hG hd dX2_read_34
set_option maxHeartbeats 4000000 in
theorem c_Ledger_read {ad wad : Nat → Nat} (F : Nat)  (h : HS)  (q : Int32 × HS) (hd : f_Ledger_read F  h = some q) : Ctr SHc ad wad yX2_read cX2_read 2 (some .boolean) 6 [.ref (ad 38)] h (some (.int q.1), q.2) := by
  refine enter (own := RX2) (lv := [(0, .ref (ad 38))]) (by decide +kernel) rfl (Nat.le_of_ble_eq_true rfl) rfl (fun Γ hG => ?_)
  unfold f_Ledger_read at hd
  refine a_aload_n (pc := 0) hG 0 rfl dX2_read_0 rfl ?_
  refine a_iconst (pc := 1) hG dX2_read_1 (v := (nI 0)) rfl ?_
  refine a_putI (pc := 2) hG sc_38 cl_X2 ok_X2 5 (by decide) rfl t_343 rfl (ty := .int) rfl rfl rfl hd dX2_read_2 (fun h1 hd => ?_)
  refine a_aload_n (pc := 5) hG 0 rfl dX2_read_5 rfl ?_
  refine a_getR (pc := 6) hG sc_38 cl_X2 ok_X2 0 (by decide) rfl t_338 dX2_read_6 ?_
  refine a_sipush (pc := 9) hG dX2_read_9 (v := (nI 400)) rfl ?_
  refine a_cvN (pc := 12) hG (As := [.int (nI 400)]) (st := []) sc_1 cl_X8 mk_X8_begin t_1232 (by omega) (fun z hz => c_Tape_begin F (nI 400) _  z hz) rfl (Nat.le_of_ble_eq_true rfl) hd dX2_read_12 (fun _ h2 hd => ?_)
  refine a_iconst (pc := 15) hG dX2_read_15 (v := (nI 0)) rfl ?_
  refine a_istore_nN (pc := 16) hG hd dX2_read_16 rfl (by decide) (lf := fun x => [(1, .int x), (0, .ref (ad 38))]) (fun _ => rfl) (fun v3 hd => ?_)
  refine AW.sub [1, 0] rfl ?_
  exact w_l_Ledger_read_0 F (by omega) hG hd
theorem dX2_whyNot_0 : decode cX2_whyNot 0 = .ok (.aload_n 0, 1) := by decide +kernel
theorem dX2_whyNot_1 : decode cX2_whyNot 1 = .ok (.getfield 9, 3) := by decide +kernel
theorem dX2_whyNot_4 : decode cX2_whyNot 4 = .ok (.iload_n 2, 1) := by decide +kernel
theorem dX2_whyNot_5 : decode cX2_whyNot 5 = .ok (.iaload, 1) := by decide +kernel
theorem dX2_whyNot_6 : decode cX2_whyNot 6 = .ok (.istore_n 3, 1) := by decide +kernel
theorem dX2_whyNot_7 : decode cX2_whyNot 7 = .ok (.iload_n 3, 1) := by decide +kernel
theorem dX2_whyNot_8 : decode cX2_whyNot 8 = .ok (.iconst 3, 1) := by decide +kernel
theorem dX2_whyNot_9 : decode cX2_whyNot 9 = .ok (.if_icmp .ne 23, 3) := by decide +kernel
theorem dX2_whyNot_12 : decode cX2_whyNot 12 = .ok (.aload_n 1, 1) := by decide +kernel
theorem dX2_whyNot_13 : decode cX2_whyNot 13 = .ok (.invokevirtual 122, 3) := by decide +kernel
theorem dX2_whyNot_16 : decode cX2_whyNot 16 = .ok (.aload_n 0, 1) := by decide +kernel
theorem dX2_whyNot_17 : decode cX2_whyNot 17 = .ok (.getfield 18, 3) := by decide +kernel
theorem dX2_whyNot_20 : decode cX2_whyNot 20 = .ok (.iload_n 2, 1) := by decide +kernel
theorem dX2_whyNot_21 : decode cX2_whyNot 21 = .ok (.iaload, 1) := by decide +kernel
theorem dX2_whyNot_22 : decode cX2_whyNot 22 = .ok (.if_icmp .ge 8, 3) := by decide +kernel
theorem dX2_whyNot_25 : decode cX2_whyNot 25 = .ok (.bipush 31, 2) := by decide +kernel
theorem dX2_whyNot_27 : decode cX2_whyNot 27 = .ok (.goto 4, 3) := by decide +kernel
theorem dX2_whyNot_30 : decode cX2_whyNot 30 = .ok (.iconst 0, 1) := by decide +kernel
theorem dX2_whyNot_31 : decode cX2_whyNot 31 = .ok (.ireturn, 1) := by decide +kernel
theorem dX2_whyNot_32 : decode cX2_whyNot 32 = .ok (.iload_n 3, 1) := by decide +kernel
theorem dX2_whyNot_33 : decode cX2_whyNot 33 = .ok (.ifCond .ne 24, 3) := by decide +kernel
theorem dX2_whyNot_36 : decode cX2_whyNot 36 = .ok (.aload_n 1, 1) := by decide +kernel
theorem dX2_whyNot_37 : decode cX2_whyNot 37 = .ok (.aload_n 0, 1) := by decide +kernel
theorem dX2_whyNot_38 : decode cX2_whyNot 38 = .ok (.getfield 15, 3) := by decide +kernel
theorem dX2_whyNot_41 : decode cX2_whyNot 41 = .ok (.iload_n 2, 1) := by decide +kernel
theorem dX2_whyNot_42 : decode cX2_whyNot 42 = .ok (.iaload, 1) := by decide +kernel
theorem dX2_whyNot_43 : decode cX2_whyNot 43 = .ok (.aload_n 0, 1) := by decide +kernel
theorem dX2_whyNot_44 : decode cX2_whyNot 44 = .ok (.getfield 18, 3) := by decide +kernel
theorem dX2_whyNot_47 : decode cX2_whyNot 47 = .ok (.iload_n 2, 1) := by decide +kernel
theorem dX2_whyNot_48 : decode cX2_whyNot 48 = .ok (.iaload, 1) := by decide +kernel
theorem dX2_whyNot_49 : decode cX2_whyNot 49 = .ok (.invokevirtual 127, 3) := by decide +kernel
theorem dX2_whyNot_52 : decode cX2_whyNot 52 = .ok (.istore 4, 2) := by decide +kernel
theorem dX2_whyNot_54 : decode cX2_whyNot 54 = .ok (.goto 41, 3) := by decide +kernel
theorem dX2_whyNot_57 : decode cX2_whyNot 57 = .ok (.iload_n 3, 1) := by decide +kernel
theorem dX2_whyNot_58 : decode cX2_whyNot 58 = .ok (.iconst 1, 1) := by decide +kernel
theorem dX2_whyNot_59 : decode cX2_whyNot 59 = .ok (.if_icmp .ne 24, 3) := by decide +kernel
theorem dX2_whyNot_62 : decode cX2_whyNot 62 = .ok (.aload_n 1, 1) := by decide +kernel
theorem dX2_whyNot_63 : decode cX2_whyNot 63 = .ok (.aload_n 0, 1) := by decide +kernel
theorem dX2_whyNot_64 : decode cX2_whyNot 64 = .ok (.getfield 15, 3) := by decide +kernel
theorem dX2_whyNot_67 : decode cX2_whyNot 67 = .ok (.iload_n 2, 1) := by decide +kernel
theorem dX2_whyNot_68 : decode cX2_whyNot 68 = .ok (.iaload, 1) := by decide +kernel
theorem dX2_whyNot_69 : decode cX2_whyNot 69 = .ok (.aload_n 0, 1) := by decide +kernel
theorem dX2_whyNot_70 : decode cX2_whyNot 70 = .ok (.getfield 18, 3) := by decide +kernel
theorem dX2_whyNot_73 : decode cX2_whyNot 73 = .ok (.iload_n 2, 1) := by decide +kernel
theorem dX2_whyNot_74 : decode cX2_whyNot 74 = .ok (.iaload, 1) := by decide +kernel
theorem dX2_whyNot_75 : decode cX2_whyNot 75 = .ok (.invokevirtual 131, 3) := by decide +kernel
theorem dX2_whyNot_78 : decode cX2_whyNot 78 = .ok (.istore 4, 2) := by decide +kernel
theorem dX2_whyNot_80 : decode cX2_whyNot 80 = .ok (.goto 15, 3) := by decide +kernel
theorem dX2_whyNot_83 : decode cX2_whyNot 83 = .ok (.aload_n 1, 1) := by decide +kernel
theorem dX2_whyNot_84 : decode cX2_whyNot 84 = .ok (.aload_n 0, 1) := by decide +kernel
theorem dX2_whyNot_85 : decode cX2_whyNot 85 = .ok (.getfield 15, 3) := by decide +kernel
theorem dX2_whyNot_88 : decode cX2_whyNot 88 = .ok (.iload_n 2, 1) := by decide +kernel
theorem dX2_whyNot_89 : decode cX2_whyNot 89 = .ok (.iaload, 1) := by decide +kernel
theorem dX2_whyNot_90 : decode cX2_whyNot 90 = .ok (.invokevirtual 134, 3) := by decide +kernel
theorem dX2_whyNot_93 : decode cX2_whyNot 93 = .ok (.istore 4, 2) := by decide +kernel
theorem dX2_whyNot_95 : decode cX2_whyNot 95 = .ok (.iload 4, 2) := by decide +kernel
theorem dX2_whyNot_97 : decode cX2_whyNot 97 = .ok (.ifCond .ne 7, 3) := by decide +kernel
theorem dX2_whyNot_100 : decode cX2_whyNot 100 = .ok (.iconst 0, 1) := by decide +kernel
theorem dX2_whyNot_101 : decode cX2_whyNot 101 = .ok (.goto 10, 3) := by decide +kernel
theorem dX2_whyNot_104 : decode cX2_whyNot 104 = .ok (.iload 4, 2) := by decide +kernel
theorem dX2_whyNot_106 : decode cX2_whyNot 106 = .ok (.bipush 10, 2) := by decide +kernel
theorem dX2_whyNot_108 : decode cX2_whyNot 108 = .ok (.iload_n 3, 1) := by decide +kernel
theorem dX2_whyNot_109 : decode cX2_whyNot 109 = .ok (.imul, 1) := by decide +kernel
theorem dX2_whyNot_110 : decode cX2_whyNot 110 = .ok (.iadd, 1) := by decide +kernel
theorem dX2_whyNot_111 : decode cX2_whyNot 111 = .ok (.ireturn, 1) := by decide +kernel
set_option maxHeartbeats 4000000 in
theorem c_Ledger_whyNot {ad wad : Nat → Nat} (a1 : Int32) (h : HS)  (q : Int32 × HS) (hd : f_Ledger_whyNot a1 h = some q) : Ctr SHc ad wad yX2_whyNot cX2_whyNot 5 (some .int) 4 [.ref (ad 38), .ref (ad 20), .int a1] h (some (.int q.1), q.2) := by
  refine enter (own := RX2) (lv := [(0, .ref (ad 38)), (1, .ref (ad 20)), (2, .int a1)]) (by decide +kernel) rfl (Nat.le_of_ble_eq_true rfl) rfl (fun Γ hG => ?_)
  unfold f_Ledger_whyNot at hd
  refine a_aload_n (pc := 0) hG 0 rfl dX2_whyNot_0 rfl ?_
  refine a_getR (pc := 1) hG sc_38 cl_X2 ok_X2 2 (by decide) rfl t_340 dX2_whyNot_1 ?_
  refine a_iload_n (pc := 4) hG 2 rfl dX2_whyNot_4 rfl ?_
  refine a_iald (pc := 5) hG sc_39 hd dX2_whyNot_5 (fun hd => ?_)
  refine a_istore_nN (pc := 6) hG hd dX2_whyNot_6 rfl (by decide) (lf := fun x => [(3, .int x), (0, .ref (ad 38)), (1, .ref (ad 20)), (2, .int a1)]) (fun _ => rfl) (fun v1 hd => ?_)
  refine a_iload_n (pc := 7) hG 0 rfl dX2_whyNot_7 rfl ?_
  refine a_iconst (pc := 8) hG dX2_whyNot_8 (v := (nI 3)) rfl ?_
  refine a_ic_ne (pc := 9) hG (tgt := 32) hd dX2_whyNot_9 (by decide) (fun hd => ?_) (fun hd => ?_)
  · refine a_iload_n (pc := 32) hG 0 rfl dX2_whyNot_32 rfl ?_
    refine a_join hd (Q := fun J : Int32 → HS → Option (Int32 × HS) => ∀ (v3 : Int32) (h4 : HS), J v3 h4 = some q → AW SHc ad 5 (some (.int q.1), q.2) Γ 95 [(3, .int v1), (4, .int v3)] [] h4) (fun v3 h4 hd => ?_) (fun J2 hJ2 hd => ?_)
    · refine a_iload (pc := 95) hG 1 rfl dX2_whyNot_95 ?_
      refine a_if_ne (pc := 97) hG (tgt := 104) hd dX2_whyNot_97 (by decide) (fun hd => ?_) (fun hd => ?_)
      · refine a_iload (pc := 104) hG 1 rfl dX2_whyNot_104 ?_
        refine a_bipush (pc := 106) hG dX2_whyNot_106 (v := (nI 10)) rfl ?_
        refine a_iload_n (pc := 108) hG 0 rfl dX2_whyNot_108 rfl ?_
        refine a_imul (pc := 109) hG dX2_whyNot_109 ?_
        refine a_iadd (pc := 110) hG dX2_whyNot_110 ?_
        exact a_iret (pc := 111) hG hd dX2_whyNot_111
      refine a_iconst (pc := 100) hG dX2_whyNot_100 (v := (nI 0)) rfl ?_
      refine a_goto (pc := 101) hG (tgt := 111) dX2_whyNot_101 (by decide) ?_
      exact a_iret (pc := 111) hG hd dX2_whyNot_111
    refine a_if_ne (pc := 33) hG (tgt := 57) hd dX2_whyNot_33 (by decide) (fun hd => ?_) (fun hd => ?_)
    · refine a_iload_n (pc := 57) hG 0 rfl dX2_whyNot_57 rfl ?_
      refine a_iconst (pc := 58) hG dX2_whyNot_58 (v := (nI 1)) rfl ?_
      refine a_ic_ne (pc := 59) hG (tgt := 83) hd dX2_whyNot_59 (by decide) (fun hd => ?_) (fun hd => ?_)
      · refine a_aload_n (pc := 83) hG 2 rfl dX2_whyNot_83 rfl ?_
        refine a_aload_n (pc := 84) hG 1 rfl dX2_whyNot_84 rfl ?_
        refine a_getR (pc := 85) hG sc_38 cl_X2 ok_X2 3 (by decide) rfl t_341 dX2_whyNot_85 ?_
        refine a_iload_n (pc := 88) hG 3 rfl dX2_whyNot_88 rfl ?_
        refine a_iald (pc := 89) hG sc_40 hd dX2_whyNot_89 (fun hd => ?_)
        refine a_cvI (pc := 90) hG (As := [.int (h.1 40 a1.toNatClampNeg)]) (st := []) sc_20 cl_X0 mk_X0_whyNotDrop t_1281 (by omega) (fun z hz => c_Desk_whyNotDrop (h.1 40 a1.toNatClampNeg) _  z hz) rfl (Nat.le_of_ble_eq_true rfl) hd dX2_whyNot_90 (fun r6 h5 hd => ?_)
        refine a_istoreN (pc := 93) hG hd dX2_whyNot_93 (by decide) (lf := fun x => [(4, .int x), (3, .int v1), (0, .ref (ad 38)), (1, .ref (ad 20)), (2, .int a1)]) (fun _ => rfl) (fun v7 hd => ?_)
        exact AW.sub [1, 0] rfl (hJ2 _ _ hd)
      refine a_aload_n (pc := 62) hG 2 rfl dX2_whyNot_62 rfl ?_
      refine a_aload_n (pc := 63) hG 1 rfl dX2_whyNot_63 rfl ?_
      refine a_getR (pc := 64) hG sc_38 cl_X2 ok_X2 3 (by decide) rfl t_341 dX2_whyNot_64 ?_
      refine a_iload_n (pc := 67) hG 3 rfl dX2_whyNot_67 rfl ?_
      refine a_iald (pc := 68) hG sc_40 hd dX2_whyNot_68 (fun hd => ?_)
      refine a_aload_n (pc := 69) hG 1 rfl dX2_whyNot_69 rfl ?_
      refine a_getR (pc := 70) hG sc_38 cl_X2 ok_X2 4 (by decide) rfl t_342 dX2_whyNot_70 ?_
      refine a_iload_n (pc := 73) hG 3 rfl dX2_whyNot_73 rfl ?_
      refine a_iald (pc := 74) hG sc_41 hd dX2_whyNot_74 (fun hd => ?_)
      refine a_cvI (pc := 75) hG (As := [.int (h.1 40 a1.toNatClampNeg), .int (h.1 41 a1.toNatClampNeg)]) (st := []) sc_20 cl_X0 mk_X0_whyNotAct t_1280 (by omega) (fun z hz => c_Desk_whyNotAct (h.1 40 a1.toNatClampNeg) (h.1 41 a1.toNatClampNeg) _  z hz) rfl (Nat.le_of_ble_eq_true rfl) hd dX2_whyNot_75 (fun r9 h8 hd => ?_)
      refine a_istoreN (pc := 78) hG hd dX2_whyNot_78 (by decide) (lf := fun x => [(4, .int x), (3, .int v1), (0, .ref (ad 38)), (1, .ref (ad 20)), (2, .int a1)]) (fun _ => rfl) (fun v10 hd => ?_)
      refine a_goto (pc := 80) hG (tgt := 95) dX2_whyNot_80 (by decide) ?_
      exact AW.sub [1, 0] rfl (hJ2 _ _ hd)
    refine a_aload_n (pc := 36) hG 2 rfl dX2_whyNot_36 rfl ?_
    refine a_aload_n (pc := 37) hG 1 rfl dX2_whyNot_37 rfl ?_
    refine a_getR (pc := 38) hG sc_38 cl_X2 ok_X2 3 (by decide) rfl t_341 dX2_whyNot_38 ?_
    refine a_iload_n (pc := 41) hG 3 rfl dX2_whyNot_41 rfl ?_
    refine a_iald (pc := 42) hG sc_40 hd dX2_whyNot_42 (fun hd => ?_)
    refine a_aload_n (pc := 43) hG 1 rfl dX2_whyNot_43 rfl ?_
    refine a_getR (pc := 44) hG sc_38 cl_X2 ok_X2 4 (by decide) rfl t_342 dX2_whyNot_44 ?_
    refine a_iload_n (pc := 47) hG 3 rfl dX2_whyNot_47 rfl ?_
    refine a_iald (pc := 48) hG sc_41 hd dX2_whyNot_48 (fun hd => ?_)
    refine a_cvI (pc := 49) hG (As := [.int (h.1 40 a1.toNatClampNeg), .int (h.1 41 a1.toNatClampNeg)]) (st := []) sc_20 cl_X0 mk_X0_whyNotTake t_1279 (by omega) (fun z hz => c_Desk_whyNotTake (h.1 40 a1.toNatClampNeg) (h.1 41 a1.toNatClampNeg) _  z hz) rfl (Nat.le_of_ble_eq_true rfl) hd dX2_whyNot_49 (fun r12 h11 hd => ?_)
    refine a_istoreN (pc := 52) hG hd dX2_whyNot_52 (by decide) (lf := fun x => [(4, .int x), (3, .int v1), (0, .ref (ad 38)), (1, .ref (ad 20)), (2, .int a1)]) (fun _ => rfl) (fun v13 hd => ?_)
    refine a_goto (pc := 54) hG (tgt := 95) dX2_whyNot_54 (by decide) ?_
    exact AW.sub [1, 0] rfl (hJ2 _ _ hd)
  refine a_aload_n (pc := 12) hG 2 rfl dX2_whyNot_12 rfl ?_
  refine a_cvI (pc := 13) hG (As := []) (st := []) sc_20 cl_X0 mk_X0_weeksLeft t_1278 (by omega) (fun z hz => c_Desk_weeksLeft  _  z hz) rfl (Nat.le_of_ble_eq_true rfl) hd dX2_whyNot_13 (fun r15 h14 hd => ?_)
  refine a_aload_n (pc := 16) hG 1 rfl dX2_whyNot_16 rfl ?_
  refine a_getR (pc := 17) hG sc_38 cl_X2 ok_X2 4 (by decide) rfl t_342 dX2_whyNot_17 ?_
  refine a_iload_n (pc := 20) hG 3 rfl dX2_whyNot_20 rfl ?_
  refine a_iald (pc := 21) hG sc_41 hd dX2_whyNot_21 (fun hd => ?_)
  refine a_ic_ge (pc := 22) hG (tgt := 30) hd dX2_whyNot_22 (by decide) (fun hd => ?_) (fun hd => ?_)
  · refine a_iconst (pc := 30) hG dX2_whyNot_30 (v := (nI 0)) rfl ?_
    exact a_iret (pc := 31) hG hd dX2_whyNot_31
  refine a_bipush (pc := 25) hG dX2_whyNot_25 (v := (nI 31)) rfl ?_
  refine a_goto (pc := 27) hG (tgt := 31) dX2_whyNot_27 (by decide) ?_
  exact a_iret (pc := 31) hG hd dX2_whyNot_31
theorem dX2_liveLine_0 : decode cX2_liveLine 0 = .ok (.aload_n 0, 1) := by decide +kernel
theorem dX2_liveLine_1 : decode cX2_liveLine 1 = .ok (.getfield 9, 3) := by decide +kernel
theorem dX2_liveLine_4 : decode cX2_liveLine 4 = .ok (.iload_n 2, 1) := by decide +kernel
theorem dX2_liveLine_5 : decode cX2_liveLine 5 = .ok (.iaload, 1) := by decide +kernel
theorem dX2_liveLine_6 : decode cX2_liveLine 6 = .ok (.istore_n 3, 1) := by decide +kernel
theorem dX2_liveLine_7 : decode cX2_liveLine 7 = .ok (.iload_n 3, 1) := by decide +kernel
theorem dX2_liveLine_8 : decode cX2_liveLine 8 = .ok (.iconst 3, 1) := by decide +kernel
theorem dX2_liveLine_9 : decode cX2_liveLine 9 = .ok (.if_icmp .ne 17, 3) := by decide +kernel
theorem dX2_liveLine_12 : decode cX2_liveLine 12 = .ok (.aload_n 1, 1) := by decide +kernel
theorem dX2_liveLine_13 : decode cX2_liveLine 13 = .ok (.aload_n 0, 1) := by decide +kernel
theorem dX2_liveLine_14 : decode cX2_liveLine 14 = .ok (.getfield 18, 3) := by decide +kernel
theorem dX2_liveLine_17 : decode cX2_liveLine 17 = .ok (.iload_n 2, 1) := by decide +kernel
theorem dX2_liveLine_18 : decode cX2_liveLine 18 = .ok (.iaload, 1) := by decide +kernel
theorem dX2_liveLine_19 : decode cX2_liveLine 19 = .ok (.invokevirtual 138, 3) := by decide +kernel
theorem dX2_liveLine_22 : decode cX2_liveLine 22 = .ok (.pop, 1) := by decide +kernel
theorem dX2_liveLine_23 : decode cX2_liveLine 23 = .ok (.goto 60, 3) := by decide +kernel
theorem dX2_liveLine_26 : decode cX2_liveLine 26 = .ok (.iload_n 3, 1) := by decide +kernel
theorem dX2_liveLine_27 : decode cX2_liveLine 27 = .ok (.ifCond .ne 22, 3) := by decide +kernel
theorem dX2_liveLine_30 : decode cX2_liveLine 30 = .ok (.aload_n 1, 1) := by decide +kernel
theorem dX2_liveLine_31 : decode cX2_liveLine 31 = .ok (.aload_n 0, 1) := by decide +kernel
theorem dX2_liveLine_32 : decode cX2_liveLine 32 = .ok (.getfield 15, 3) := by decide +kernel
theorem dX2_liveLine_35 : decode cX2_liveLine 35 = .ok (.iload_n 2, 1) := by decide +kernel
theorem dX2_liveLine_36 : decode cX2_liveLine 36 = .ok (.iaload, 1) := by decide +kernel
theorem dX2_liveLine_37 : decode cX2_liveLine 37 = .ok (.aload_n 0, 1) := by decide +kernel
theorem dX2_liveLine_38 : decode cX2_liveLine 38 = .ok (.getfield 18, 3) := by decide +kernel
theorem dX2_liveLine_41 : decode cX2_liveLine 41 = .ok (.iload_n 2, 1) := by decide +kernel
theorem dX2_liveLine_42 : decode cX2_liveLine 42 = .ok (.iaload, 1) := by decide +kernel
theorem dX2_liveLine_43 : decode cX2_liveLine 43 = .ok (.invokevirtual 141, 3) := by decide +kernel
theorem dX2_liveLine_46 : decode cX2_liveLine 46 = .ok (.goto 37, 3) := by decide +kernel
theorem dX2_liveLine_49 : decode cX2_liveLine 49 = .ok (.iload_n 3, 1) := by decide +kernel
theorem dX2_liveLine_50 : decode cX2_liveLine 50 = .ok (.iconst 1, 1) := by decide +kernel
theorem dX2_liveLine_51 : decode cX2_liveLine 51 = .ok (.if_icmp .ne 22, 3) := by decide +kernel
theorem dX2_liveLine_54 : decode cX2_liveLine 54 = .ok (.aload_n 1, 1) := by decide +kernel
theorem dX2_liveLine_55 : decode cX2_liveLine 55 = .ok (.aload_n 0, 1) := by decide +kernel
theorem dX2_liveLine_56 : decode cX2_liveLine 56 = .ok (.getfield 15, 3) := by decide +kernel
theorem dX2_liveLine_59 : decode cX2_liveLine 59 = .ok (.iload_n 2, 1) := by decide +kernel
theorem dX2_liveLine_60 : decode cX2_liveLine 60 = .ok (.iaload, 1) := by decide +kernel
theorem dX2_liveLine_61 : decode cX2_liveLine 61 = .ok (.aload_n 0, 1) := by decide +kernel
theorem dX2_liveLine_62 : decode cX2_liveLine 62 = .ok (.getfield 18, 3) := by decide +kernel
theorem dX2_liveLine_65 : decode cX2_liveLine 65 = .ok (.iload_n 2, 1) := by decide +kernel
theorem dX2_liveLine_66 : decode cX2_liveLine 66 = .ok (.iaload, 1) := by decide +kernel
theorem dX2_liveLine_67 : decode cX2_liveLine 67 = .ok (.invokevirtual 145, 3) := by decide +kernel
theorem dX2_liveLine_70 : decode cX2_liveLine 70 = .ok (.goto 13, 3) := by decide +kernel
theorem dX2_liveLine_73 : decode cX2_liveLine 73 = .ok (.aload_n 1, 1) := by decide +kernel
theorem dX2_liveLine_74 : decode cX2_liveLine 74 = .ok (.aload_n 0, 1) := by decide +kernel
theorem dX2_liveLine_75 : decode cX2_liveLine 75 = .ok (.getfield 15, 3) := by decide +kernel
theorem dX2_liveLine_78 : decode cX2_liveLine 78 = .ok (.iload_n 2, 1) := by decide +kernel
theorem dX2_liveLine_79 : decode cX2_liveLine 79 = .ok (.iaload, 1) := by decide +kernel
theorem dX2_liveLine_80 : decode cX2_liveLine 80 = .ok (.invokevirtual 148, 3) := by decide +kernel
theorem dX2_liveLine_83 : decode cX2_liveLine 83 = .ok (.return_, 1) := by decide +kernel
set_option maxHeartbeats 4000000 in
theorem c_Ledger_liveLine {ad wad : Nat → Nat} (F : Nat) (a1 : Int32) (h : HS)  (q : Unit × HS) (hd : f_Ledger_liveLine F a1 h = some q) : Ctr SHc ad wad yX2_liveLine cX2_liveLine 4 none 6 [.ref (ad 38), .ref (ad 20), .int a1] h (none, q.2) := by
  refine enter (own := RX2) (lv := [(0, .ref (ad 38)), (1, .ref (ad 20)), (2, .int a1)]) (by decide +kernel) rfl (Nat.le_of_ble_eq_true rfl) rfl (fun Γ hG => ?_)
  unfold f_Ledger_liveLine at hd
  refine a_aload_n (pc := 0) hG 0 rfl dX2_liveLine_0 rfl ?_
  refine a_getR (pc := 1) hG sc_38 cl_X2 ok_X2 2 (by decide) rfl t_340 dX2_liveLine_1 ?_
  refine a_iload_n (pc := 4) hG 2 rfl dX2_liveLine_4 rfl ?_
  refine a_iald (pc := 5) hG sc_39 hd dX2_liveLine_5 (fun hd => ?_)
  refine a_istore_nN (pc := 6) hG hd dX2_liveLine_6 rfl (by decide) (lf := fun x => [(3, .int x), (0, .ref (ad 38)), (1, .ref (ad 20)), (2, .int a1)]) (fun _ => rfl) (fun v1 hd => ?_)
  refine a_iload_n (pc := 7) hG 0 rfl dX2_liveLine_7 rfl ?_
  refine a_iconst (pc := 8) hG dX2_liveLine_8 (v := (nI 3)) rfl ?_
  refine a_ic_ne (pc := 9) hG (tgt := 26) hd dX2_liveLine_9 (by decide) (fun hd => ?_) (fun hd => ?_)
  · refine a_iload_n (pc := 26) hG 0 rfl dX2_liveLine_26 rfl ?_
    refine a_if_ne (pc := 27) hG (tgt := 49) hd dX2_liveLine_27 (by decide) (fun hd => ?_) (fun hd => ?_)
    · refine a_iload_n (pc := 49) hG 0 rfl dX2_liveLine_49 rfl ?_
      refine a_iconst (pc := 50) hG dX2_liveLine_50 (v := (nI 1)) rfl ?_
      refine a_ic_ne (pc := 51) hG (tgt := 73) hd dX2_liveLine_51 (by decide) (fun hd => ?_) (fun hd => ?_)
      · refine a_aload_n (pc := 73) hG 2 rfl dX2_liveLine_73 rfl ?_
        refine a_aload_n (pc := 74) hG 1 rfl dX2_liveLine_74 rfl ?_
        refine a_getR (pc := 75) hG sc_38 cl_X2 ok_X2 3 (by decide) rfl t_341 dX2_liveLine_75 ?_
        refine a_iload_n (pc := 78) hG 3 rfl dX2_liveLine_78 rfl ?_
        refine a_iald (pc := 79) hG sc_40 hd dX2_liveLine_79 (fun hd => ?_)
        refine a_cvN (pc := 80) hG (As := [.int (h.1 40 a1.toNatClampNeg)]) (st := []) sc_20 cl_X0 mk_X0_doDrop t_1289 (by omega) (fun z hz => c_Desk_doDrop (h.1 40 a1.toNatClampNeg) _  z hz) rfl (Nat.le_of_ble_eq_true rfl) hd dX2_liveLine_80 (fun _ h2 hd => ?_)
        exact a_vret (pc := 83) hG hd dX2_liveLine_83
      refine a_aload_n (pc := 54) hG 2 rfl dX2_liveLine_54 rfl ?_
      refine a_aload_n (pc := 55) hG 1 rfl dX2_liveLine_55 rfl ?_
      refine a_getR (pc := 56) hG sc_38 cl_X2 ok_X2 3 (by decide) rfl t_341 dX2_liveLine_56 ?_
      refine a_iload_n (pc := 59) hG 3 rfl dX2_liveLine_59 rfl ?_
      refine a_iald (pc := 60) hG sc_40 hd dX2_liveLine_60 (fun hd => ?_)
      refine a_aload_n (pc := 61) hG 1 rfl dX2_liveLine_61 rfl ?_
      refine a_getR (pc := 62) hG sc_38 cl_X2 ok_X2 4 (by decide) rfl t_342 dX2_liveLine_62 ?_
      refine a_iload_n (pc := 65) hG 3 rfl dX2_liveLine_65 rfl ?_
      refine a_iald (pc := 66) hG sc_41 hd dX2_liveLine_66 (fun hd => ?_)
      refine a_cvN (pc := 67) hG (As := [.int (h.1 40 a1.toNatClampNeg), .int (h.1 41 a1.toNatClampNeg)]) (st := []) sc_20 cl_X0 mk_X0_doAct t_1288 (by omega) (fun z hz => c_Desk_doAct (h.1 40 a1.toNatClampNeg) (h.1 41 a1.toNatClampNeg) _  z hz) rfl (Nat.le_of_ble_eq_true rfl) hd dX2_liveLine_67 (fun _ h3 hd => ?_)
      refine a_goto (pc := 70) hG (tgt := 83) dX2_liveLine_70 (by decide) ?_
      exact a_vret (pc := 83) hG hd dX2_liveLine_83
    refine a_aload_n (pc := 30) hG 2 rfl dX2_liveLine_30 rfl ?_
    refine a_aload_n (pc := 31) hG 1 rfl dX2_liveLine_31 rfl ?_
    refine a_getR (pc := 32) hG sc_38 cl_X2 ok_X2 3 (by decide) rfl t_341 dX2_liveLine_32 ?_
    refine a_iload_n (pc := 35) hG 3 rfl dX2_liveLine_35 rfl ?_
    refine a_iald (pc := 36) hG sc_40 hd dX2_liveLine_36 (fun hd => ?_)
    refine a_aload_n (pc := 37) hG 1 rfl dX2_liveLine_37 rfl ?_
    refine a_getR (pc := 38) hG sc_38 cl_X2 ok_X2 4 (by decide) rfl t_342 dX2_liveLine_38 ?_
    refine a_iload_n (pc := 41) hG 3 rfl dX2_liveLine_41 rfl ?_
    refine a_iald (pc := 42) hG sc_41 hd dX2_liveLine_42 (fun hd => ?_)
    refine a_cvN (pc := 43) hG (As := [.int (h.1 40 a1.toNatClampNeg), .int (h.1 41 a1.toNatClampNeg)]) (st := []) sc_20 cl_X0 mk_X0_doTake t_1287 (by omega) (fun z hz => c_Desk_doTake (h.1 40 a1.toNatClampNeg) (h.1 41 a1.toNatClampNeg) _  z hz) rfl (Nat.le_of_ble_eq_true rfl) hd dX2_liveLine_43 (fun _ h4 hd => ?_)
    refine a_goto (pc := 46) hG (tgt := 83) dX2_liveLine_46 (by decide) ?_
    exact a_vret (pc := 83) hG hd dX2_liveLine_83
  refine a_aload_n (pc := 12) hG 2 rfl dX2_liveLine_12 rfl ?_
  refine a_aload_n (pc := 13) hG 1 rfl dX2_liveLine_13 rfl ?_
  refine a_getR (pc := 14) hG sc_38 cl_X2 ok_X2 4 (by decide) rfl t_342 dX2_liveLine_14 ?_
  refine a_iload_n (pc := 17) hG 3 rfl dX2_liveLine_17 rfl ?_
  refine a_iald (pc := 18) hG sc_41 hd dX2_liveLine_18 (fun hd => ?_)
  refine a_cvI (pc := 19) hG (As := [.int (h.1 41 a1.toNatClampNeg)]) (st := []) sc_20 cl_X0 mk_X0_passWeeks t_1286 (by omega) (fun z hz => c_Desk_passWeeks F (h.1 41 a1.toNatClampNeg) _  z hz) rfl (Nat.le_of_ble_eq_true rfl) hd dX2_liveLine_19 (fun r6 h5 hd => ?_)
  refine a_pop (pc := 22) hG dX2_liveLine_22 rfl ?_
  refine a_goto (pc := 23) hG (tgt := 83) dX2_liveLine_23 (by decide) ?_
  exact a_vret (pc := 83) hG hd dX2_liveLine_83
theorem dX2_live_0 : decode cX2_live 0 = .ok (.aload_n 0, 1) := by decide +kernel
theorem dX2_live_1 : decode cX2_live 1 = .ok (.iconst 0, 1) := by decide +kernel
theorem dX2_live_2 : decode cX2_live 2 = .ok (.putfield 25, 3) := by decide +kernel
theorem dX2_live_5 : decode cX2_live 5 = .ok (.iconst 0, 1) := by decide +kernel
theorem dX2_live_6 : decode cX2_live 6 = .ok (.istore_n 2, 1) := by decide +kernel
theorem dX2_live_7 : decode cX2_live 7 = .ok (.iload_n 2, 1) := by decide +kernel
theorem dX2_live_8 : decode cX2_live 8 = .ok (.aload_n 0, 1) := by decide +kernel
theorem dX2_live_9 : decode cX2_live 9 = .ok (.getfield 21, 3) := by decide +kernel
theorem dX2_live_12 : decode cX2_live 12 = .ok (.if_icmp .ge 34, 3) := by decide +kernel
theorem dX2_live_15 : decode cX2_live 15 = .ok (.aload_n 0, 1) := by decide +kernel
theorem dX2_live_16 : decode cX2_live 16 = .ok (.aload_n 0, 1) := by decide +kernel
theorem dX2_live_17 : decode cX2_live 17 = .ok (.aload_n 1, 1) := by decide +kernel
theorem dX2_live_18 : decode cX2_live 18 = .ok (.iload_n 2, 1) := by decide +kernel
theorem dX2_live_19 : decode cX2_live 19 = .ok (.invokevirtual 53, 3) := by decide +kernel
theorem dX2_live_22 : decode cX2_live 22 = .ok (.putfield 25, 3) := by decide +kernel
theorem dX2_live_25 : decode cX2_live 25 = .ok (.aload_n 0, 1) := by decide +kernel
theorem dX2_live_26 : decode cX2_live 26 = .ok (.getfield 25, 3) := by decide +kernel
theorem dX2_live_29 : decode cX2_live 29 = .ok (.ifCond .eq 5, 3) := by decide +kernel
theorem dX2_live_32 : decode cX2_live 32 = .ok (.iload_n 2, 1) := by decide +kernel
theorem dX2_live_33 : decode cX2_live 33 = .ok (.ireturn, 1) := by decide +kernel
theorem dX2_live_34 : decode cX2_live 34 = .ok (.aload_n 0, 1) := by decide +kernel
theorem dX2_live_35 : decode cX2_live 35 = .ok (.aload_n 1, 1) := by decide +kernel
theorem dX2_live_36 : decode cX2_live 36 = .ok (.iload_n 2, 1) := by decide +kernel
theorem dX2_live_37 : decode cX2_live 37 = .ok (.invokevirtual 57, 3) := by decide +kernel
theorem dX2_live_40 : decode cX2_live 40 = .ok (.iinc 2 1, 3) := by decide +kernel
theorem dX2_live_43 : decode cX2_live 43 = .ok (.goto (-36), 3) := by decide +kernel
theorem dX2_live_46 : decode cX2_live 46 = .ok (.aload_n 0, 1) := by decide +kernel
theorem dX2_live_47 : decode cX2_live 47 = .ok (.getfield 21, 3) := by decide +kernel
theorem dX2_live_50 : decode cX2_live 50 = .ok (.ireturn, 1) := by decide +kernel
set_option maxHeartbeats 4000000 in
theorem w_l_Ledger_live_0 {ad wad : Nat → Nat} {Γ : Ctx} (F : Nat) {n : Nat} (hn : 7 ≤ n) (hG : Cx SHc ad wad cX2_live 3 RX2 (some .int) (n) Γ) {q : Int32 × HS} {g : Nat} {x2 : Int32} {h : HS} (hd : l_Ledger_live_0 F g x2 h = some q) : AW SHc ad 3 (some (.int q.1), q.2) Γ 7 [(0, .ref (ad 38)), (1, .ref (ad 20)), (2, .int x2)] [] h := by
  induction g generalizing x2 h with
  | zero => unfold l_Ledger_live_0 at hd; cases hd
  | succ g ih =>
    unfold l_Ledger_live_0 at hd
    refine a_iload_n (pc := 7) hG 2 rfl dX2_live_7 rfl ?_
    refine a_aload_n (pc := 8) hG 0 rfl dX2_live_8 rfl ?_
    refine a_getI (pc := 9) hG sc_38 cl_X2 ok_X2 5 (by decide) rfl t_343 dX2_live_9 ?_
    refine a_ic_ge (pc := 12) hG (tgt := 46) hd dX2_live_12 (by decide) (fun hd => ?_) (fun hd => ?_)
    · refine a_aload_n (pc := 46) hG 0 rfl dX2_live_46 rfl ?_
      refine a_getI (pc := 47) hG sc_38 cl_X2 ok_X2 5 (by decide) rfl t_343 dX2_live_47 ?_
      exact a_iret (pc := 50) hG hd dX2_live_50
    refine a_aload_n (pc := 15) hG 0 rfl dX2_live_15 rfl ?_
    refine a_aload_n (pc := 16) hG 0 rfl dX2_live_16 rfl ?_
    refine a_aload_n (pc := 17) hG 1 rfl dX2_live_17 rfl ?_
    refine a_iload_n (pc := 18) hG 2 rfl dX2_live_18 rfl ?_
    refine a_cvI (pc := 19) hG (As := [.ref (ad 20), .int x2]) (st := [.ref (ad 38)]) sc_38 cl_X2 mk_X2_whyNot t_1274 (by omega) (fun z hz => c_Ledger_whyNot x2 _  z hz) rfl (Nat.le_of_ble_eq_true rfl) hd dX2_live_19 (fun r4 h3 hd => ?_)
    refine a_putI (pc := 22) hG sc_38 cl_X2 ok_X2 6 (by decide) rfl t_344 rfl (ty := .int) rfl rfl rfl hd dX2_live_22 (fun h5 hd => ?_)
    refine a_aload_n (pc := 25) hG 0 rfl dX2_live_25 rfl ?_
    refine a_getI (pc := 26) hG sc_38 cl_X2 ok_X2 6 (by decide) rfl t_344 dX2_live_26 ?_
    refine a_if_eq (pc := 29) hG (tgt := 34) hd dX2_live_29 (by decide) (fun hd => ?_) (fun hd => ?_)
    · refine a_aload_n (pc := 34) hG 0 rfl dX2_live_34 rfl ?_
      refine a_aload_n (pc := 35) hG 1 rfl dX2_live_35 rfl ?_
      refine a_iload_n (pc := 36) hG 2 rfl dX2_live_36 rfl ?_
      refine a_cvN (pc := 37) hG (As := [.ref (ad 20), .int x2]) (st := []) sc_38 cl_X2 mk_X2_liveLine t_1282 (by omega) (fun z hz => c_Ledger_liveLine F x2 _  z hz) rfl (Nat.le_of_ble_eq_true rfl) hd dX2_live_37 (fun _ h6 hd => ?_)
      refine a_iincN (pc := 40) hG (c0 := (nI 1)) 2 rfl hd dX2_live_40 rfl (by decide) (lf := fun x => [(2, .int x), (0, .ref (ad 38)), (1, .ref (ad 20))]) (fun _ => rfl) (fun v7 hd => ?_)
      refine a_goto (pc := 43) hG (tgt := 7) dX2_live_43 (by decide) ?_
      exact AW.sub [1, 2, 0] rfl (ih hd)
    refine a_iload_n (pc := 32) hG 2 rfl dX2_live_32 rfl ?_
    exact a_iret (pc := 33) hG hd dX2_live_33
set_option maxHeartbeats 4000000 in
theorem c_Ledger_live {ad wad : Nat → Nat} (F : Nat)  (h : HS)  (q : Int32 × HS) (hd : f_Ledger_live F  h = some q) : Ctr SHc ad wad yX2_live cX2_live 3 (some .int) 7 [.ref (ad 38), .ref (ad 20)] h (some (.int q.1), q.2) := by
  refine enter (own := RX2) (lv := [(0, .ref (ad 38)), (1, .ref (ad 20))]) (by decide +kernel) rfl (Nat.le_of_ble_eq_true rfl) rfl (fun Γ hG => ?_)
  unfold f_Ledger_live at hd
  refine a_aload_n (pc := 0) hG 0 rfl dX2_live_0 rfl ?_
  refine a_iconst (pc := 1) hG dX2_live_1 (v := (nI 0)) rfl ?_
  refine a_putI (pc := 2) hG sc_38 cl_X2 ok_X2 6 (by decide) rfl t_344 rfl (ty := .int) rfl rfl rfl hd dX2_live_2 (fun h1 hd => ?_)
  refine a_iconst (pc := 5) hG dX2_live_5 (v := (nI 0)) rfl ?_
  refine a_istore_nN (pc := 6) hG hd dX2_live_6 rfl (by decide) (lf := fun x => [(2, .int x), (0, .ref (ad 38)), (1, .ref (ad 20))]) (fun _ => rfl) (fun v2 hd => ?_)
  refine AW.sub [1, 2, 0] rfl ?_
  exact w_l_Ledger_live_0 F (by omega) hG hd
theorem dX2_whyWrong_0 : decode cX2_whyWrong 0 = .ok (.aload_n 0, 1) := by decide +kernel
theorem dX2_whyWrong_1 : decode cX2_whyWrong 1 = .ok (.getfield 25, 3) := by decide +kernel
theorem dX2_whyWrong_4 : decode cX2_whyWrong 4 = .ok (.ireturn, 1) := by decide +kernel
set_option maxHeartbeats 4000000 in
theorem c_Ledger_whyWrong {ad wad : Nat → Nat}  (h : HS)  (q : Int32 × HS) (hd : f_Ledger_whyWrong  h = some q) : Ctr SHc ad wad yX2_whyWrong cX2_whyWrong 1 (some .int) 1 [.ref (ad 38)] h (some (.int q.1), q.2) := by
  refine enter (own := RX2) (lv := [(0, .ref (ad 38))]) (by decide +kernel) rfl (Nat.le_of_ble_eq_true rfl) rfl (fun Γ hG => ?_)
  unfold f_Ledger_whyWrong at hd
  refine a_aload_n (pc := 0) hG 0 rfl dX2_whyWrong_0 rfl ?_
  refine a_getI (pc := 1) hG sc_38 cl_X2 ok_X2 6 (by decide) rfl t_344 dX2_whyWrong_1 ?_
  exact a_iret (pc := 4) hG hd dX2_whyWrong_4
theorem dX2_size_0 : decode cX2_size 0 = .ok (.aload_n 0, 1) := by decide +kernel
theorem dX2_size_1 : decode cX2_size 1 = .ok (.getfield 21, 3) := by decide +kernel
theorem dX2_size_4 : decode cX2_size 4 = .ok (.ireturn, 1) := by decide +kernel
set_option maxHeartbeats 4000000 in
theorem c_Ledger_size {ad wad : Nat → Nat}  (h : HS)  (q : Int32 × HS) (hd : f_Ledger_size  h = some q) : Ctr SHc ad wad yX2_size cX2_size 1 (some .int) 1 [.ref (ad 38)] h (some (.int q.1), q.2) := by
  refine enter (own := RX2) (lv := [(0, .ref (ad 38))]) (by decide +kernel) rfl (Nat.le_of_ble_eq_true rfl) rfl (fun Γ hG => ?_)
  unfold f_Ledger_size at hd
  refine a_aload_n (pc := 0) hG 0 rfl dX2_size_0 rfl ?_
  refine a_getI (pc := 1) hG sc_38 cl_X2 ok_X2 5 (by decide) rfl t_343 dX2_size_1 ?_
  exact a_iret (pc := 4) hG hd dX2_size_4
theorem dX11_ledger_0 : decode cX11_ledger 0 = .ok (.iload_n 1, 1) := by decide +kernel
theorem dX11_ledger_1 : decode cX11_ledger 1 = .ok (.ifCond .eq 12, 3) := by decide +kernel
theorem dX11_ledger_4 : decode cX11_ledger 4 = .ok (.iload_n 1, 1) := by decide +kernel
theorem dX11_ledger_5 : decode cX11_ledger 5 = .ok (.iconst 1, 1) := by decide +kernel
theorem dX11_ledger_6 : decode cX11_ledger 6 = .ok (.if_icmp .eq 7, 3) := by decide +kernel
theorem dX11_ledger_9 : decode cX11_ledger 9 = .ok (.sipush (-1000), 3) := by decide +kernel
theorem dX11_ledger_12 : decode cX11_ledger 12 = .ok (.ireturn, 1) := by decide +kernel
theorem dX11_ledger_13 : decode cX11_ledger 13 = .ok (.aload_n 0, 1) := by decide +kernel
theorem dX11_ledger_14 : decode cX11_ledger 14 = .ok (.getfield 65, 3) := by decide +kernel
theorem dX11_ledger_17 : decode cX11_ledger 17 = .ok (.invokevirtual 298, 3) := by decide +kernel
theorem dX11_ledger_20 : decode cX11_ledger 20 = .ok (.istore_n 2, 1) := by decide +kernel
theorem dX11_ledger_21 : decode cX11_ledger 21 = .ok (.aload_n 0, 1) := by decide +kernel
theorem dX11_ledger_22 : decode cX11_ledger 22 = .ok (.getfield 12, 3) := by decide +kernel
theorem dX11_ledger_25 : decode cX11_ledger 25 = .ok (.invokevirtual 131, 3) := by decide +kernel
theorem dX11_ledger_28 : decode cX11_ledger 28 = .ok (.aload_n 0, 1) := by decide +kernel
theorem dX11_ledger_29 : decode cX11_ledger 29 = .ok (.aload_n 0, 1) := by decide +kernel
theorem dX11_ledger_30 : decode cX11_ledger 30 = .ok (.getfield 12, 3) := by decide +kernel
theorem dX11_ledger_33 : decode cX11_ledger 33 = .ok (.invokevirtual 134, 3) := by decide +kernel
theorem dX11_ledger_36 : decode cX11_ledger 36 = .ok (.putfield 103, 3) := by decide +kernel
theorem dX11_ledger_39 : decode cX11_ledger 39 = .ok (.iload_n 2, 1) := by decide +kernel
theorem dX11_ledger_40 : decode cX11_ledger 40 = .ok (.ifCond .ne 14, 3) := by decide +kernel
theorem dX11_ledger_43 : decode cX11_ledger 43 = .ok (.bipush (-2), 2) := by decide +kernel
theorem dX11_ledger_45 : decode cX11_ledger 45 = .ok (.aload_n 0, 1) := by decide +kernel
theorem dX11_ledger_46 : decode cX11_ledger 46 = .ok (.getfield 12, 3) := by decide +kernel
theorem dX11_ledger_49 : decode cX11_ledger 49 = .ok (.invokevirtual 137, 3) := by decide +kernel
theorem dX11_ledger_52 : decode cX11_ledger 52 = .ok (.isub, 1) := by decide +kernel
theorem dX11_ledger_53 : decode cX11_ledger 53 = .ok (.ireturn, 1) := by decide +kernel
theorem dX11_ledger_54 : decode cX11_ledger 54 = .ok (.aload_n 0, 1) := by decide +kernel
theorem dX11_ledger_55 : decode cX11_ledger 55 = .ok (.getfield 40, 3) := by decide +kernel
theorem dX11_ledger_58 : decode cX11_ledger 58 = .ok (.aload_n 0, 1) := by decide +kernel
theorem dX11_ledger_59 : decode cX11_ledger 59 = .ok (.getfield 96, 3) := by decide +kernel
theorem dX11_ledger_62 : decode cX11_ledger 62 = .ok (.invokevirtual 291, 3) := by decide +kernel
theorem dX11_ledger_65 : decode cX11_ledger 65 = .ok (.aload_n 0, 1) := by decide +kernel
theorem dX11_ledger_66 : decode cX11_ledger 66 = .ok (.getfield 40, 3) := by decide +kernel
theorem dX11_ledger_69 : decode cX11_ledger 69 = .ok (.iconst 2, 1) := by decide +kernel
theorem dX11_ledger_70 : decode cX11_ledger 70 = .ok (.invokevirtual 186, 3) := by decide +kernel
theorem dX11_ledger_73 : decode cX11_ledger 73 = .ok (.istore_n 3, 1) := by decide +kernel
theorem dX11_ledger_74 : decode cX11_ledger 74 = .ok (.aload_n 0, 1) := by decide +kernel
theorem dX11_ledger_75 : decode cX11_ledger 75 = .ok (.getfield 65, 3) := by decide +kernel
theorem dX11_ledger_78 : decode cX11_ledger 78 = .ok (.aload_n 0, 1) := by decide +kernel
theorem dX11_ledger_79 : decode cX11_ledger 79 = .ok (.getfield 40, 3) := by decide +kernel
theorem dX11_ledger_82 : decode cX11_ledger 82 = .ok (.invokevirtual 301, 3) := by decide +kernel
theorem dX11_ledger_85 : decode cX11_ledger 85 = .ok (.istore 4, 2) := by decide +kernel
theorem dX11_ledger_87 : decode cX11_ledger 87 = .ok (.aload_n 0, 1) := by decide +kernel
theorem dX11_ledger_88 : decode cX11_ledger 88 = .ok (.getfield 100, 3) := by decide +kernel
theorem dX11_ledger_91 : decode cX11_ledger 91 = .ok (.iconst 0, 1) := by decide +kernel
theorem dX11_ledger_92 : decode cX11_ledger 92 = .ok (.aload_n 0, 1) := by decide +kernel
theorem dX11_ledger_93 : decode cX11_ledger 93 = .ok (.getfield 65, 3) := by decide +kernel
theorem dX11_ledger_96 : decode cX11_ledger 96 = .ok (.invokevirtual 305, 3) := by decide +kernel
theorem dX11_ledger_99 : decode cX11_ledger 99 = .ok (.iastore, 1) := by decide +kernel
theorem dX11_ledger_100 : decode cX11_ledger 100 = .ok (.aload_n 0, 1) := by decide +kernel
theorem dX11_ledger_101 : decode cX11_ledger 101 = .ok (.getfield 100, 3) := by decide +kernel
theorem dX11_ledger_104 : decode cX11_ledger 104 = .ok (.iconst 1, 1) := by decide +kernel
theorem dX11_ledger_105 : decode cX11_ledger 105 = .ok (.iload 4, 2) := by decide +kernel
theorem dX11_ledger_107 : decode cX11_ledger 107 = .ok (.iastore, 1) := by decide +kernel
theorem dX11_ledger_108 : decode cX11_ledger 108 = .ok (.aload_n 0, 1) := by decide +kernel
theorem dX11_ledger_109 : decode cX11_ledger 109 = .ok (.getfield 100, 3) := by decide +kernel
theorem dX11_ledger_112 : decode cX11_ledger 112 = .ok (.iconst 2, 1) := by decide +kernel
theorem dX11_ledger_113 : decode cX11_ledger 113 = .ok (.aload_n 0, 1) := by decide +kernel
theorem dX11_ledger_114 : decode cX11_ledger 114 = .ok (.getfield 40, 3) := by decide +kernel
theorem dX11_ledger_117 : decode cX11_ledger 117 = .ok (.iconst 1, 1) := by decide +kernel
theorem dX11_ledger_118 : decode cX11_ledger 118 = .ok (.invokevirtual 186, 3) := by decide +kernel
theorem dX11_ledger_121 : decode cX11_ledger 121 = .ok (.iastore, 1) := by decide +kernel
theorem dX11_ledger_122 : decode cX11_ledger 122 = .ok (.aload_n 0, 1) := by decide +kernel
theorem dX11_ledger_123 : decode cX11_ledger 123 = .ok (.getfield 100, 3) := by decide +kernel
theorem dX11_ledger_126 : decode cX11_ledger 126 = .ok (.iconst 3, 1) := by decide +kernel
theorem dX11_ledger_127 : decode cX11_ledger 127 = .ok (.aload_n 0, 1) := by decide +kernel
theorem dX11_ledger_128 : decode cX11_ledger 128 = .ok (.getfield 40, 3) := by decide +kernel
theorem dX11_ledger_131 : decode cX11_ledger 131 = .ok (.iconst 2, 1) := by decide +kernel
theorem dX11_ledger_132 : decode cX11_ledger 132 = .ok (.invokevirtual 186, 3) := by decide +kernel
theorem dX11_ledger_135 : decode cX11_ledger 135 = .ok (.iload_n 3, 1) := by decide +kernel
theorem dX11_ledger_136 : decode cX11_ledger 136 = .ok (.isub, 1) := by decide +kernel
theorem dX11_ledger_137 : decode cX11_ledger 137 = .ok (.iastore, 1) := by decide +kernel
theorem dX11_ledger_138 : decode cX11_ledger 138 = .ok (.iload_n 1, 1) := by decide +kernel
theorem dX11_ledger_139 : decode cX11_ledger 139 = .ok (.ifCond .ne 17, 3) := by decide +kernel
theorem dX11_ledger_142 : decode cX11_ledger 142 = .ok (.aload_n 0, 1) := by decide +kernel
theorem dX11_ledger_143 : decode cX11_ledger 143 = .ok (.getfield 40, 3) := by decide +kernel
theorem dX11_ledger_146 : decode cX11_ledger 146 = .ok (.aload_n 0, 1) := by decide +kernel
theorem dX11_ledger_147 : decode cX11_ledger 147 = .ok (.getfield 96, 3) := by decide +kernel
theorem dX11_ledger_150 : decode cX11_ledger 150 = .ok (.invokevirtual 295, 3) := by decide +kernel
theorem dX11_ledger_153 : decode cX11_ledger 153 = .ok (.goto 19, 3) := by decide +kernel
theorem dX11_ledger_156 : decode cX11_ledger 156 = .ok (.iload 4, 2) := by decide +kernel
theorem dX11_ledger_158 : decode cX11_ledger 158 = .ok (.ifCond .le 14, 3) := by decide +kernel
theorem dX11_ledger_161 : decode cX11_ledger 161 = .ok (.aload_n 0, 1) := by decide +kernel
theorem dX11_ledger_162 : decode cX11_ledger 162 = .ok (.getfield 40, 3) := by decide +kernel
theorem dX11_ledger_165 : decode cX11_ledger 165 = .ok (.aload_n 0, 1) := by decide +kernel
theorem dX11_ledger_166 : decode cX11_ledger 166 = .ok (.getfield 96, 3) := by decide +kernel
theorem dX11_ledger_169 : decode cX11_ledger 169 = .ok (.invokevirtual 308, 3) := by decide +kernel
theorem dX11_ledger_172 : decode cX11_ledger 172 = .ok (.iload 4, 2) := by decide +kernel
theorem dX11_ledger_174 : decode cX11_ledger 174 = .ok (.aload_n 0, 1) := by decide +kernel
theorem dX11_ledger_175 : decode cX11_ledger 175 = .ok (.getfield 65, 3) := by decide +kernel
theorem dX11_ledger_178 : decode cX11_ledger 178 = .ok (.invokevirtual 311, 3) := by decide +kernel
theorem dX11_ledger_181 : decode cX11_ledger 181 = .ok (.if_icmp .ge 8, 3) := by decide +kernel
theorem dX11_ledger_184 : decode cX11_ledger 184 = .ok (.iload 4, 2) := by decide +kernel
theorem dX11_ledger_186 : decode cX11_ledger 186 = .ok (.goto 4, 3) := by decide +kernel
theorem dX11_ledger_189 : decode cX11_ledger 189 = .ok (.iconst (-1), 1) := by decide +kernel
theorem dX11_ledger_190 : decode cX11_ledger 190 = .ok (.ireturn, 1) := by decide +kernel
set_option maxHeartbeats 4000000 in
theorem c_LC_ledger {ad wad : Nat → Nat} (F : Nat) (a0 : Int32) (h : HS)  (q : Int32 × HS) (hd : f_LC_ledger F a0 h = some q) : Ctr SHc ad wad yX11_ledger cX11_ledger 5 (some .int) 8 [.ref (ad 0), .int a0] h (some (.int q.1), q.2) := by
  refine enter (own := RX11) (lv := [(0, .ref (ad 0)), (1, .int a0)]) (by decide +kernel) rfl (Nat.le_of_ble_eq_true rfl) rfl (fun Γ hG => ?_)
  unfold f_LC_ledger at hd
  refine a_iload_n (pc := 0) hG 1 rfl dX11_ledger_0 rfl ?_
  refine a_join hd (Q := fun J : HS → Option (Int32 × HS) => ∀  (h2 : HS), J  h2 = some q → AW SHc ad 5 (some (.int q.1), q.2) Γ 13 [(0, .ref (ad 0)), (1, .int a0)] [] h2) (fun  h2 hd => ?_) (fun J1 hJ1 hd => ?_)
  · refine a_aload_n (pc := 13) hG 0 rfl dX11_ledger_13 rfl ?_
    refine a_getR (pc := 14) hG sc_0 cl_X11 ok_X11 7 (by decide) rfl t_488 dX11_ledger_14 ?_
    refine a_cvI (pc := 17) hG (As := []) (st := []) sc_38 cl_X2 mk_X2_read t_1228 (by omega) (fun z hz => c_Ledger_read F  _  z hz) rfl (Nat.le_of_ble_eq_true rfl) hd dX11_ledger_17 (fun r4 h3 hd => ?_)
    refine a_istore_nN (pc := 20) hG hd dX11_ledger_20 rfl (by decide) (lf := fun x => [(2, .int x), (0, .ref (ad 0)), (1, .int a0)]) (fun _ => rfl) (fun v5 hd => ?_)
    refine a_aload_n (pc := 21) hG 1 rfl dX11_ledger_21 rfl ?_
    refine a_getR (pc := 22) hG sc_0 cl_X11 ok_X11 0 (by decide) rfl t_481 dX11_ledger_22 ?_
    refine a_cvN (pc := 25) hG (As := []) (st := []) sc_1 cl_X8 mk_X8_empty t_746 (by omega) (fun z hz => c_Tape_empty  _  z hz) rfl (Nat.le_of_ble_eq_true rfl) hd dX11_ledger_25 (fun _ h6 hd => ?_)
    refine a_aload_n (pc := 28) hG 1 rfl dX11_ledger_28 rfl ?_
    refine a_aload_n (pc := 29) hG 1 rfl dX11_ledger_29 rfl ?_
    refine a_getR (pc := 30) hG sc_0 cl_X11 ok_X11 0 (by decide) rfl t_481 dX11_ledger_30 ?_
    refine a_cvI (pc := 33) hG (As := []) (st := [.ref (ad 0)]) sc_1 cl_X8 mk_X8_faultKind t_750 (by omega) (fun z hz => c_Tape_faultKind  _  z hz) rfl (Nat.le_of_ble_eq_true rfl) hd dX11_ledger_33 (fun r8 h7 hd => ?_)
    refine a_putI (pc := 36) hG sc_0 cl_X11 ok_X11 15 (by decide) rfl t_496 rfl (ty := .int) rfl rfl rfl hd dX11_ledger_36 (fun h9 hd => ?_)
    refine a_iload_n (pc := 39) hG 0 rfl dX11_ledger_39 rfl ?_
    refine a_if_ne (pc := 40) hG (tgt := 54) hd dX11_ledger_40 (by decide) (fun hd => ?_) (fun hd => ?_)
    · refine a_aload_n (pc := 54) hG 1 rfl dX11_ledger_54 rfl ?_
      refine a_getR (pc := 55) hG sc_0 cl_X11 ok_X11 4 (by decide) rfl t_485 dX11_ledger_55 ?_
      refine a_aload_n (pc := 58) hG 1 rfl dX11_ledger_58 rfl ?_
      refine a_getR (pc := 59) hG sc_0 cl_X11 ok_X11 13 (by decide) rfl t_494 dX11_ledger_59 ?_
      refine a_cvN (pc := 62) hG (As := [.ref (ad 82)]) (st := []) sc_20 cl_X0 mk_X0_saveTo t_1222 (by omega) (fun z hz => c_Desk_saveTo 82 _ sc_82 z hz) rfl (Nat.le_of_ble_eq_true rfl) hd dX11_ledger_62 (fun _ h10 hd => ?_)
      refine a_aload_n (pc := 65) hG 1 rfl dX11_ledger_65 rfl ?_
      refine a_getR (pc := 66) hG sc_0 cl_X11 ok_X11 4 (by decide) rfl t_485 dX11_ledger_66 ?_
      refine a_iconst (pc := 69) hG dX11_ledger_69 (v := (nI 2)) rfl ?_
      refine a_cvI (pc := 70) hG (As := [.int (nI 2)]) (st := []) sc_20 cl_X0 mk_X0_ofNow t_810 (by omega) (fun z hz => c_Desk_ofNow (nI 2) _  z hz) rfl (Nat.le_of_ble_eq_true rfl) hd dX11_ledger_70 (fun r12 h11 hd => ?_)
      refine a_istore_nN (pc := 73) hG hd dX11_ledger_73 rfl (by decide) (lf := fun x => [(3, .int x), (2, .int v5), (0, .ref (ad 0)), (1, .int a0)]) (fun _ => rfl) (fun v13 hd => ?_)
      refine a_aload_n (pc := 74) hG 2 rfl dX11_ledger_74 rfl ?_
      refine a_getR (pc := 75) hG sc_0 cl_X11 ok_X11 7 (by decide) rfl t_488 dX11_ledger_75 ?_
      refine a_aload_n (pc := 78) hG 2 rfl dX11_ledger_78 rfl ?_
      refine a_getR (pc := 79) hG sc_0 cl_X11 ok_X11 4 (by decide) rfl t_485 dX11_ledger_79 ?_
      refine a_cvI (pc := 82) hG (As := [.ref (ad 20)]) (st := []) sc_38 cl_X2 mk_X2_live t_1270 (by omega) (fun z hz => c_Ledger_live F  _  z hz) rfl (Nat.le_of_ble_eq_true rfl) hd dX11_ledger_82 (fun r15 h14 hd => ?_)
      refine a_istoreN (pc := 85) hG hd dX11_ledger_85 (by decide) (lf := fun x => [(4, .int x), (3, .int v13), (2, .int v5), (0, .ref (ad 0)), (1, .int a0)]) (fun _ => rfl) (fun v16 hd => ?_)
      refine a_aload_n (pc := 87) hG 3 rfl dX11_ledger_87 rfl ?_
      refine a_getR (pc := 88) hG sc_0 cl_X11 ok_X11 14 (by decide) rfl t_495 dX11_ledger_88 ?_
      refine a_iconst (pc := 91) hG dX11_ledger_91 (v := (nI 0)) rfl ?_
      refine a_aload_n (pc := 92) hG 3 rfl dX11_ledger_92 rfl ?_
      refine a_getR (pc := 93) hG sc_0 cl_X11 ok_X11 7 (by decide) rfl t_488 dX11_ledger_93 ?_
      refine a_cvI (pc := 96) hG (As := []) (st := [.int (nI 0), .ref (ad 83)]) sc_38 cl_X2 mk_X2_whyWrong t_1290 (by omega) (fun z hz => c_Ledger_whyWrong  _  z hz) rfl (Nat.le_of_ble_eq_true rfl) hd dX11_ledger_96 (fun r18 h17 hd => ?_)
      refine a_iast (pc := 99) hG sc_83 hd dX11_ledger_99 (fun h19 hd => ?_)
      refine a_aload_n (pc := 100) hG 3 rfl dX11_ledger_100 rfl ?_
      refine a_getR (pc := 101) hG sc_0 cl_X11 ok_X11 14 (by decide) rfl t_495 dX11_ledger_101 ?_
      refine a_iconst (pc := 104) hG dX11_ledger_104 (v := (nI 1)) rfl ?_
      refine a_iload (pc := 105) hG 0 rfl dX11_ledger_105 ?_
      refine a_iast (pc := 107) hG sc_83 hd dX11_ledger_107 (fun h20 hd => ?_)
      refine a_aload_n (pc := 108) hG 3 rfl dX11_ledger_108 rfl ?_
      refine a_getR (pc := 109) hG sc_0 cl_X11 ok_X11 14 (by decide) rfl t_495 dX11_ledger_109 ?_
      refine a_iconst (pc := 112) hG dX11_ledger_112 (v := (nI 2)) rfl ?_
      refine a_aload_n (pc := 113) hG 3 rfl dX11_ledger_113 rfl ?_
      refine a_getR (pc := 114) hG sc_0 cl_X11 ok_X11 4 (by decide) rfl t_485 dX11_ledger_114 ?_
      refine a_iconst (pc := 117) hG dX11_ledger_117 (v := (nI 1)) rfl ?_
      refine a_cvI (pc := 118) hG (As := [.int (nI 1)]) (st := [.int (nI 2), .ref (ad 83)]) sc_20 cl_X0 mk_X0_ofNow t_810 (by omega) (fun z hz => c_Desk_ofNow (nI 1) _  z hz) rfl (Nat.le_of_ble_eq_true rfl) hd dX11_ledger_118 (fun r22 h21 hd => ?_)
      refine a_iast (pc := 121) hG sc_83 hd dX11_ledger_121 (fun h23 hd => ?_)
      refine a_aload_n (pc := 122) hG 3 rfl dX11_ledger_122 rfl ?_
      refine a_getR (pc := 123) hG sc_0 cl_X11 ok_X11 14 (by decide) rfl t_495 dX11_ledger_123 ?_
      refine a_iconst (pc := 126) hG dX11_ledger_126 (v := (nI 3)) rfl ?_
      refine a_aload_n (pc := 127) hG 3 rfl dX11_ledger_127 rfl ?_
      refine a_getR (pc := 128) hG sc_0 cl_X11 ok_X11 4 (by decide) rfl t_485 dX11_ledger_128 ?_
      refine a_iconst (pc := 131) hG dX11_ledger_131 (v := (nI 2)) rfl ?_
      refine a_cvI (pc := 132) hG (As := [.int (nI 2)]) (st := [.int (nI 3), .ref (ad 83)]) sc_20 cl_X0 mk_X0_ofNow t_810 (by omega) (fun z hz => c_Desk_ofNow (nI 2) _  z hz) rfl (Nat.le_of_ble_eq_true rfl) hd dX11_ledger_132 (fun r25 h24 hd => ?_)
      refine a_iload_n (pc := 135) hG 1 rfl dX11_ledger_135 rfl ?_
      refine a_isub (pc := 136) hG dX11_ledger_136 ?_
      refine a_iast (pc := 137) hG sc_83 hd dX11_ledger_137 (fun h26 hd => ?_)
      refine a_iload_n (pc := 138) hG 4 rfl dX11_ledger_138 rfl ?_
      refine a_join hd (Q := fun J : HS → Option (Int32 × HS) => ∀  (h28 : HS), J  h28 = some q → AW SHc ad 5 (some (.int q.1), q.2) Γ 172 [(0, .ref (ad 0)), (4, .int v16)] [] h28) (fun  h28 hd => ?_) (fun J27 hJ27 hd => ?_)
      · refine a_iload (pc := 172) hG 1 rfl dX11_ledger_172 ?_
        refine a_aload_n (pc := 174) hG 0 rfl dX11_ledger_174 rfl ?_
        refine a_getR (pc := 175) hG sc_0 cl_X11 ok_X11 7 (by decide) rfl t_488 dX11_ledger_175 ?_
        refine a_cvI (pc := 178) hG (As := []) (st := [.int v16]) sc_38 cl_X2 mk_X2_size t_1295 (by omega) (fun z hz => c_Ledger_size  _  z hz) rfl (Nat.le_of_ble_eq_true rfl) hd dX11_ledger_178 (fun r30 h29 hd => ?_)
        refine a_ic_ge (pc := 181) hG (tgt := 189) hd dX11_ledger_181 (by decide) (fun hd => ?_) (fun hd => ?_)
        · refine a_iconst (pc := 189) hG dX11_ledger_189 (v := (-1 : Int32)) rfl ?_
          exact a_iret (pc := 190) hG hd dX11_ledger_190
        refine a_iload (pc := 184) hG 1 rfl dX11_ledger_184 ?_
        refine a_goto (pc := 186) hG (tgt := 190) dX11_ledger_186 (by decide) ?_
        exact a_iret (pc := 190) hG hd dX11_ledger_190
      refine a_if_ne (pc := 139) hG (tgt := 156) hd dX11_ledger_139 (by decide) (fun hd => ?_) (fun hd => ?_)
      · refine a_iload (pc := 156) hG 0 rfl dX11_ledger_156 ?_
        refine a_if_le (pc := 158) hG (tgt := 172) hd dX11_ledger_158 (by decide) (fun hd => ?_) (fun hd => ?_)
        · exact AW.sub [3, 0] rfl (hJ27  _ hd)
        refine a_aload_n (pc := 161) hG 3 rfl dX11_ledger_161 rfl ?_
        refine a_getR (pc := 162) hG sc_0 cl_X11 ok_X11 4 (by decide) rfl t_485 dX11_ledger_162 ?_
        refine a_aload_n (pc := 165) hG 3 rfl dX11_ledger_165 rfl ?_
        refine a_getR (pc := 166) hG sc_0 cl_X11 ok_X11 13 (by decide) rfl t_494 dX11_ledger_166 ?_
        refine a_cvN (pc := 169) hG (As := [.ref (ad 82)]) (st := []) sc_20 cl_X0 mk_X0_rememberRow t_1294 (by omega) (fun z hz => c_Desk_rememberRow 82 _ sc_82 z hz) rfl (Nat.le_of_ble_eq_true rfl) hd dX11_ledger_169 (fun _ h31 hd => ?_)
        exact AW.sub [3, 0] rfl (hJ27  _ hd)
      refine a_aload_n (pc := 142) hG 3 rfl dX11_ledger_142 rfl ?_
      refine a_getR (pc := 143) hG sc_0 cl_X11 ok_X11 4 (by decide) rfl t_485 dX11_ledger_143 ?_
      refine a_aload_n (pc := 146) hG 3 rfl dX11_ledger_146 rfl ?_
      refine a_getR (pc := 147) hG sc_0 cl_X11 ok_X11 13 (by decide) rfl t_494 dX11_ledger_147 ?_
      refine a_cvN (pc := 150) hG (As := [.ref (ad 82)]) (st := []) sc_20 cl_X0 mk_X0_loadFrom t_1223 (by omega) (fun z hz => c_Desk_loadFrom 82 _ sc_82 z hz) rfl (Nat.le_of_ble_eq_true rfl) hd dX11_ledger_150 (fun _ h32 hd => ?_)
      refine a_goto (pc := 153) hG (tgt := 172) dX11_ledger_153 (by decide) ?_
      exact AW.sub [3, 0] rfl (hJ27  _ hd)
    refine a_bipush (pc := 43) hG dX11_ledger_43 (v := (-2 : Int32)) rfl ?_
    refine a_aload_n (pc := 45) hG 1 rfl dX11_ledger_45 rfl ?_
    refine a_getR (pc := 46) hG sc_0 cl_X11 ok_X11 0 (by decide) rfl t_481 dX11_ledger_46 ?_
    refine a_cvI (pc := 49) hG (As := []) (st := [.int (-2 : Int32)]) sc_1 cl_X8 mk_X8_faultPlace t_754 (by omega) (fun z hz => c_Tape_faultPlace  _  z hz) rfl (Nat.le_of_ble_eq_true rfl) hd dX11_ledger_49 (fun r34 h33 hd => ?_)
    refine a_isub (pc := 52) hG dX11_ledger_52 ?_
    exact a_iret (pc := 53) hG hd dX11_ledger_53
  refine a_if_eq (pc := 1) hG (tgt := 13) hd dX11_ledger_1 (by decide) (fun hd => ?_) (fun hd => ?_)
  · exact AW.sub [0, 1] rfl (hJ1  _ hd)
  refine a_iload_n (pc := 4) hG 1 rfl dX11_ledger_4 rfl ?_
  refine a_iconst (pc := 5) hG dX11_ledger_5 (v := (nI 1)) rfl ?_
  refine a_ic_eq (pc := 6) hG (tgt := 13) hd dX11_ledger_6 (by decide) (fun hd => ?_) (fun hd => ?_)
  · exact AW.sub [0, 1] rfl (hJ1  _ hd)
  refine a_sipush (pc := 9) hG dX11_ledger_9 (v := (-1000 : Int32)) rfl ?_
  exact a_iret (pc := 12) hG hd dX11_ledger_12
theorem dX11_booked_0 : decode cX11_booked 0 = .ok (.iload_n 1, 1) := by decide +kernel
theorem dX11_booked_1 : decode cX11_booked 1 = .ok (.ifCond .lt 21, 3) := by decide +kernel
theorem dX11_booked_4 : decode cX11_booked 4 = .ok (.iload_n 1, 1) := by decide +kernel
theorem dX11_booked_5 : decode cX11_booked 5 = .ok (.aload_n 0, 1) := by decide +kernel
theorem dX11_booked_6 : decode cX11_booked 6 = .ok (.getfield 100, 3) := by decide +kernel
theorem dX11_booked_9 : decode cX11_booked 9 = .ok (.arraylength, 1) := by decide +kernel
theorem dX11_booked_10 : decode cX11_booked 10 = .ok (.if_icmp .ge 12, 3) := by decide +kernel
theorem dX11_booked_13 : decode cX11_booked 13 = .ok (.aload_n 0, 1) := by decide +kernel
theorem dX11_booked_14 : decode cX11_booked 14 = .ok (.getfield 100, 3) := by decide +kernel
theorem dX11_booked_17 : decode cX11_booked 17 = .ok (.iload_n 1, 1) := by decide +kernel
theorem dX11_booked_18 : decode cX11_booked 18 = .ok (.iaload, 1) := by decide +kernel
theorem dX11_booked_19 : decode cX11_booked 19 = .ok (.goto 4, 3) := by decide +kernel
theorem dX11_booked_22 : decode cX11_booked 22 = .ok (.iconst (-1), 1) := by decide +kernel
theorem dX11_booked_23 : decode cX11_booked 23 = .ok (.ireturn, 1) := by decide +kernel
set_option maxHeartbeats 4000000 in
theorem c_LC_booked {ad wad : Nat → Nat} (a0 : Int32) (h : HS)  (q : Int32 × HS) (hd : f_LC_booked a0 h = some q) : Ctr SHc ad wad yX11_booked cX11_booked 2 (some .int) 1 [.ref (ad 0), .int a0] h (some (.int q.1), q.2) := by
  refine enter (own := RX11) (lv := [(0, .ref (ad 0)), (1, .int a0)]) (by decide +kernel) rfl (Nat.le_of_ble_eq_true rfl) rfl (fun Γ hG => ?_)
  unfold f_LC_booked at hd
  refine a_iload_n (pc := 0) hG 1 rfl dX11_booked_0 rfl ?_
  refine a_if_lt (pc := 1) hG (tgt := 22) hd dX11_booked_1 (by decide) (fun hd => ?_) (fun hd => ?_)
  · refine a_iconst (pc := 22) hG dX11_booked_22 (v := (-1 : Int32)) rfl ?_
    exact a_iret (pc := 23) hG hd dX11_booked_23
  refine a_iload_n (pc := 4) hG 1 rfl dX11_booked_4 rfl ?_
  refine a_aload_n (pc := 5) hG 0 rfl dX11_booked_5 rfl ?_
  refine a_getR (pc := 6) hG sc_0 cl_X11 ok_X11 14 (by decide) rfl t_495 dX11_booked_6 ?_
  refine a_alenI (pc := 9) hG sc_83 (fun _ => rfl) (v := nI 4) rfl dX11_booked_9 ?_
  refine a_ic_ge (pc := 10) hG (tgt := 22) hd dX11_booked_10 (by decide) (fun hd => ?_) (fun hd => ?_)
  · refine a_iconst (pc := 22) hG dX11_booked_22 (v := (-1 : Int32)) rfl ?_
    exact a_iret (pc := 23) hG hd dX11_booked_23
  refine a_aload_n (pc := 13) hG 0 rfl dX11_booked_13 rfl ?_
  refine a_getR (pc := 14) hG sc_0 cl_X11 ok_X11 14 (by decide) rfl t_495 dX11_booked_14 ?_
  refine a_iload_n (pc := 17) hG 1 rfl dX11_booked_17 rfl ?_
  refine a_iald (pc := 18) hG sc_83 hd dX11_booked_18 (fun hd => ?_)
  refine a_goto (pc := 19) hG (tgt := 23) dX11_booked_19 (by decide) ?_
  exact a_iret (pc := 23) hG hd dX11_booked_23
theorem dX7_add_0 : decode cX7_add 0 = .ok (.aload_n 0, 1) := by decide +kernel
theorem dX7_add_1 : decode cX7_add 1 = .ok (.getfield 21, 3) := by decide +kernel
theorem dX7_add_4 : decode cX7_add 4 = .ok (.bipush 40, 2) := by decide +kernel
theorem dX7_add_6 : decode cX7_add 6 = .ok (.if_icmp .lt 5, 3) := by decide +kernel
theorem dX7_add_9 : decode cX7_add 9 = .ok (.iconst 0, 1) := by decide +kernel
theorem dX7_add_10 : decode cX7_add 10 = .ok (.ireturn, 1) := by decide +kernel
theorem dX7_add_11 : decode cX7_add 11 = .ok (.aload_n 0, 1) := by decide +kernel
theorem dX7_add_12 : decode cX7_add 12 = .ok (.getfield 11, 3) := by decide +kernel
theorem dX7_add_15 : decode cX7_add 15 = .ok (.aload_n 0, 1) := by decide +kernel
theorem dX7_add_16 : decode cX7_add 16 = .ok (.getfield 21, 3) := by decide +kernel
theorem dX7_add_19 : decode cX7_add 19 = .ok (.iload_n 1, 1) := by decide +kernel
theorem dX7_add_20 : decode cX7_add 20 = .ok (.iastore, 1) := by decide +kernel
theorem dX7_add_21 : decode cX7_add 21 = .ok (.aload_n 0, 1) := by decide +kernel
theorem dX7_add_22 : decode cX7_add 22 = .ok (.getfield 15, 3) := by decide +kernel
theorem dX7_add_25 : decode cX7_add 25 = .ok (.aload_n 0, 1) := by decide +kernel
theorem dX7_add_26 : decode cX7_add 26 = .ok (.getfield 21, 3) := by decide +kernel
theorem dX7_add_29 : decode cX7_add 29 = .ok (.iload_n 2, 1) := by decide +kernel
theorem dX7_add_30 : decode cX7_add 30 = .ok (.iastore, 1) := by decide +kernel
theorem dX7_add_31 : decode cX7_add 31 = .ok (.aload_n 0, 1) := by decide +kernel
theorem dX7_add_32 : decode cX7_add 32 = .ok (.getfield 18, 3) := by decide +kernel
theorem dX7_add_35 : decode cX7_add 35 = .ok (.aload_n 0, 1) := by decide +kernel
theorem dX7_add_36 : decode cX7_add 36 = .ok (.getfield 21, 3) := by decide +kernel
theorem dX7_add_39 : decode cX7_add 39 = .ok (.iload_n 3, 1) := by decide +kernel
theorem dX7_add_40 : decode cX7_add 40 = .ok (.iastore, 1) := by decide +kernel
theorem dX7_add_41 : decode cX7_add 41 = .ok (.aload_n 0, 1) := by decide +kernel
theorem dX7_add_42 : decode cX7_add 42 = .ok (.dup, 1) := by decide +kernel
theorem dX7_add_43 : decode cX7_add 43 = .ok (.getfield 21, 3) := by decide +kernel
theorem dX7_add_46 : decode cX7_add 46 = .ok (.iconst 1, 1) := by decide +kernel
theorem dX7_add_47 : decode cX7_add 47 = .ok (.iadd, 1) := by decide +kernel
theorem dX7_add_48 : decode cX7_add 48 = .ok (.putfield 21, 3) := by decide +kernel
theorem dX7_add_51 : decode cX7_add 51 = .ok (.iconst 1, 1) := by decide +kernel
theorem dX7_add_52 : decode cX7_add 52 = .ok (.ireturn, 1) := by decide +kernel
set_option maxHeartbeats 4000000 in
theorem c_Sent_add_46 {ad wad : Nat → Nat} (a0 : Int32) (a1 : Int32) (a2 : Int32) (h : HS)  (q : Int32 × HS) (hd : f_Sent_add_46 a0 a1 a2 h = some q) : Ctr SHc ad wad yX7_add cX7_add 4 (some .boolean) 1 [.ref (ad 46), .int a0, .int a1, .int a2] h (some (.int q.1), q.2) := by
  refine enter (own := RX7) (lv := [(0, .ref (ad 46)), (1, .int a0), (2, .int a1), (3, .int a2)]) (by decide +kernel) rfl (Nat.le_of_ble_eq_true rfl) rfl (fun Γ hG => ?_)
  unfold f_Sent_add_46 at hd
  refine a_aload_n (pc := 0) hG 0 rfl dX7_add_0 rfl ?_
  refine a_getI (pc := 1) hG sc_46 cl_X7 ok_X7 3 (by decide) rfl t_369 dX7_add_1 ?_
  refine a_bipush (pc := 4) hG dX7_add_4 (v := (nI 40)) rfl ?_
  refine a_ic_lt (pc := 6) hG (tgt := 11) hd dX7_add_6 (by decide) (fun hd => ?_) (fun hd => ?_)
  · refine a_aload_n (pc := 11) hG 0 rfl dX7_add_11 rfl ?_
    refine a_getR (pc := 12) hG sc_46 cl_X7 ok_X7 0 (by decide) rfl t_366 dX7_add_12 ?_
    refine a_aload_n (pc := 15) hG 0 rfl dX7_add_15 rfl ?_
    refine a_getI (pc := 16) hG sc_46 cl_X7 ok_X7 3 (by decide) rfl t_369 dX7_add_16 ?_
    refine a_iload_n (pc := 19) hG 1 rfl dX7_add_19 rfl ?_
    refine a_iast (pc := 20) hG sc_47 hd dX7_add_20 (fun h1 hd => ?_)
    refine a_aload_n (pc := 21) hG 0 rfl dX7_add_21 rfl ?_
    refine a_getR (pc := 22) hG sc_46 cl_X7 ok_X7 1 (by decide) rfl t_367 dX7_add_22 ?_
    refine a_aload_n (pc := 25) hG 0 rfl dX7_add_25 rfl ?_
    refine a_getI (pc := 26) hG sc_46 cl_X7 ok_X7 3 (by decide) rfl t_369 dX7_add_26 ?_
    refine a_iload_n (pc := 29) hG 2 rfl dX7_add_29 rfl ?_
    refine a_iast (pc := 30) hG sc_48 hd dX7_add_30 (fun h2 hd => ?_)
    refine a_aload_n (pc := 31) hG 0 rfl dX7_add_31 rfl ?_
    refine a_getR (pc := 32) hG sc_46 cl_X7 ok_X7 2 (by decide) rfl t_368 dX7_add_32 ?_
    refine a_aload_n (pc := 35) hG 0 rfl dX7_add_35 rfl ?_
    refine a_getI (pc := 36) hG sc_46 cl_X7 ok_X7 3 (by decide) rfl t_369 dX7_add_36 ?_
    refine a_iload_n (pc := 39) hG 3 rfl dX7_add_39 rfl ?_
    refine a_iast (pc := 40) hG sc_49 hd dX7_add_40 (fun h3 hd => ?_)
    refine a_aload_n (pc := 41) hG 0 rfl dX7_add_41 rfl ?_
    refine a_dup (pc := 42) hG dX7_add_42 rfl ?_
    refine a_getI (pc := 43) hG sc_46 cl_X7 ok_X7 3 (by decide) rfl t_369 dX7_add_43 ?_
    refine a_iconst (pc := 46) hG dX7_add_46 (v := (nI 1)) rfl ?_
    refine a_iadd (pc := 47) hG dX7_add_47 ?_
    refine a_putI (pc := 48) hG sc_46 cl_X7 ok_X7 3 (by decide) rfl t_369 rfl (ty := .int) rfl rfl rfl hd dX7_add_48 (fun h4 hd => ?_)
    refine a_iconst (pc := 51) hG dX7_add_51 (v := (nI 1)) rfl ?_
    exact a_zret (pc := 52) hG hd dX7_add_52
  refine a_iconst (pc := 9) hG dX7_add_9 (v := (nI 0)) rfl ?_
  exact a_zret (pc := 10) hG hd dX7_add_10
theorem dX8_isSign_0 : decode cX8_isSign 0 = .ok (.aload_n 0, 1) := by decide +kernel
theorem dX8_isSign_1 : decode cX8_isSign 1 = .ok (.getfield 28, 3) := by decide +kernel
theorem dX8_isSign_4 : decode cX8_isSign 4 = .ok (.iload_n 1, 1) := by decide +kernel
theorem dX8_isSign_5 : decode cX8_isSign 5 = .ok (.if_icmp .ne 7, 3) := by decide +kernel
theorem dX8_isSign_8 : decode cX8_isSign 8 = .ok (.iconst 1, 1) := by decide +kernel
theorem dX8_isSign_9 : decode cX8_isSign 9 = .ok (.goto 4, 3) := by decide +kernel
theorem dX8_isSign_12 : decode cX8_isSign 12 = .ok (.iconst 0, 1) := by decide +kernel
theorem dX8_isSign_13 : decode cX8_isSign 13 = .ok (.ireturn, 1) := by decide +kernel
set_option maxHeartbeats 4000000 in
theorem c_Tape_isSign {ad wad : Nat → Nat} (a0 : Int32) (h : HS)  (q : Int32 × HS) (hd : f_Tape_isSign a0 h = some q) : Ctr SHc ad wad yX8_isSign cX8_isSign 2 (some .boolean) 1 [.ref (ad 1), .int a0] h (some (.int q.1), q.2) := by
  refine enter (own := RX8) (lv := [(0, .ref (ad 1)), (1, .int a0)]) (by decide +kernel) rfl (Nat.le_of_ble_eq_true rfl) rfl (fun Γ hG => ?_)
  unfold f_Tape_isSign at hd
  refine a_aload_n (pc := 0) hG 0 rfl dX8_isSign_0 rfl ?_
  refine a_getI (pc := 1) hG sc_1 cl_X8 ok_X8 5 (by decide) rfl t_161 dX8_isSign_1 ?_
  refine a_iload_n (pc := 4) hG 1 rfl dX8_isSign_4 rfl ?_
  refine a_ic_ne (pc := 5) hG (tgt := 12) hd dX8_isSign_5 (by decide) (fun hd => ?_) (fun hd => ?_)
  · refine a_iconst (pc := 12) hG dX8_isSign_12 (v := (nI 0)) rfl ?_
    exact a_zret (pc := 13) hG hd dX8_isSign_13
  refine a_iconst (pc := 8) hG dX8_isSign_8 (v := (nI 1)) rfl ?_
  refine a_goto (pc := 9) hG (tgt := 13) dX8_isSign_9 (by decide) ?_
  exact a_zret (pc := 13) hG hd dX8_isSign_13
theorem dX7_stateHere_0 : decode cX7_stateHere 0 = .ok (.aload_n 0, 1) := by decide +kernel
theorem dX7_stateHere_1 : decode cX7_stateHere 1 = .ok (.getstatic 155, 3) := by decide +kernel
theorem dX7_stateHere_4 : decode cX7_stateHere 4 = .ok (.invokevirtual 137, 3) := by decide +kernel
theorem dX7_stateHere_7 : decode cX7_stateHere 7 = .ok (.ifCond .eq 5, 3) := by decide +kernel
theorem dX7_stateHere_10 : decode cX7_stateHere 10 = .ok (.iconst 0, 1) := by decide +kernel
theorem dX7_stateHere_11 : decode cX7_stateHere 11 = .ok (.ireturn, 1) := by decide +kernel
theorem dX7_stateHere_12 : decode cX7_stateHere 12 = .ok (.aload_n 0, 1) := by decide +kernel
theorem dX7_stateHere_13 : decode cX7_stateHere 13 = .ok (.getstatic 158, 3) := by decide +kernel
theorem dX7_stateHere_16 : decode cX7_stateHere 16 = .ok (.invokevirtual 137, 3) := by decide +kernel
theorem dX7_stateHere_19 : decode cX7_stateHere 19 = .ok (.ifCond .eq 5, 3) := by decide +kernel
theorem dX7_stateHere_22 : decode cX7_stateHere 22 = .ok (.iconst 1, 1) := by decide +kernel
theorem dX7_stateHere_23 : decode cX7_stateHere 23 = .ok (.ireturn, 1) := by decide +kernel
theorem dX7_stateHere_24 : decode cX7_stateHere 24 = .ok (.aload_n 0, 1) := by decide +kernel
theorem dX7_stateHere_25 : decode cX7_stateHere 25 = .ok (.getstatic 161, 3) := by decide +kernel
theorem dX7_stateHere_28 : decode cX7_stateHere 28 = .ok (.invokevirtual 137, 3) := by decide +kernel
theorem dX7_stateHere_31 : decode cX7_stateHere 31 = .ok (.ifCond .eq 5, 3) := by decide +kernel
theorem dX7_stateHere_34 : decode cX7_stateHere 34 = .ok (.iconst 2, 1) := by decide +kernel
theorem dX7_stateHere_35 : decode cX7_stateHere 35 = .ok (.ireturn, 1) := by decide +kernel
theorem dX7_stateHere_36 : decode cX7_stateHere 36 = .ok (.aload_n 0, 1) := by decide +kernel
theorem dX7_stateHere_37 : decode cX7_stateHere 37 = .ok (.getstatic 164, 3) := by decide +kernel
theorem dX7_stateHere_40 : decode cX7_stateHere 40 = .ok (.invokevirtual 137, 3) := by decide +kernel
theorem dX7_stateHere_43 : decode cX7_stateHere 43 = .ok (.ifCond .eq 5, 3) := by decide +kernel
theorem dX7_stateHere_46 : decode cX7_stateHere 46 = .ok (.iconst 3, 1) := by decide +kernel
theorem dX7_stateHere_47 : decode cX7_stateHere 47 = .ok (.ireturn, 1) := by decide +kernel
theorem dX7_stateHere_48 : decode cX7_stateHere 48 = .ok (.aload_n 0, 1) := by decide +kernel
theorem dX7_stateHere_49 : decode cX7_stateHere 49 = .ok (.getstatic 167, 3) := by decide +kernel
theorem dX7_stateHere_52 : decode cX7_stateHere 52 = .ok (.invokevirtual 137, 3) := by decide +kernel
theorem dX7_stateHere_55 : decode cX7_stateHere 55 = .ok (.ifCond .eq 7, 3) := by decide +kernel
theorem dX7_stateHere_58 : decode cX7_stateHere 58 = .ok (.iconst 4, 1) := by decide +kernel
theorem dX7_stateHere_59 : decode cX7_stateHere 59 = .ok (.goto 4, 3) := by decide +kernel
theorem dX7_stateHere_62 : decode cX7_stateHere 62 = .ok (.iconst (-1), 1) := by decide +kernel
theorem dX7_stateHere_63 : decode cX7_stateHere 63 = .ok (.ireturn, 1) := by decide +kernel
set_option maxHeartbeats 4000000 in
theorem c_Sent_stateHere {ad wad : Nat → Nat}  (h : HS)  (q : Int32 × HS) (hd : f_Sent_stateHere  h = some q) : Ctr SHc ad wad yX7_stateHere cX7_stateHere 1 (some .int) 3 [.ref (ad 1)] h (some (.int q.1), q.2) := by
  refine enter (own := RX7) (lv := [(0, .ref (ad 1))]) (by decide +kernel) rfl (Nat.le_of_ble_eq_true rfl) rfl (fun Γ hG => ?_)
  unfold f_Sent_stateHere at hd
  refine a_aload_n (pc := 0) hG 0 rfl dX7_stateHere_0 rfl ?_
  refine a_gsW (pc := 1) hG 13 (by decide) t_1343 dX7_stateHere_1 ?_
  refine a_cvI (pc := 4) hG (As := [.ref (wad 13)]) (st := []) sc_1 cl_X8 mk_X8_isWord t_1329 (by omega) (fun z hz => c_Tape_isWord 13 _ (by decide) z hz) rfl (Nat.le_of_ble_eq_true rfl) hd dX7_stateHere_4 (fun r2 h1 hd => ?_)
  refine a_if_eq (pc := 7) hG (tgt := 12) hd dX7_stateHere_7 (by decide) (fun hd => ?_) (fun hd => ?_)
  · refine a_aload_n (pc := 12) hG 0 rfl dX7_stateHere_12 rfl ?_
    refine a_gsW (pc := 13) hG 14 (by decide) t_1345 dX7_stateHere_13 ?_
    refine a_cvI (pc := 16) hG (As := [.ref (wad 14)]) (st := []) sc_1 cl_X8 mk_X8_isWord t_1329 (by omega) (fun z hz => c_Tape_isWord 14 _ (by decide) z hz) rfl (Nat.le_of_ble_eq_true rfl) hd dX7_stateHere_16 (fun r4 h3 hd => ?_)
    refine a_if_eq (pc := 19) hG (tgt := 24) hd dX7_stateHere_19 (by decide) (fun hd => ?_) (fun hd => ?_)
    · refine a_aload_n (pc := 24) hG 0 rfl dX7_stateHere_24 rfl ?_
      refine a_gsW (pc := 25) hG 15 (by decide) t_1347 dX7_stateHere_25 ?_
      refine a_cvI (pc := 28) hG (As := [.ref (wad 15)]) (st := []) sc_1 cl_X8 mk_X8_isWord t_1329 (by omega) (fun z hz => c_Tape_isWord 15 _ (by decide) z hz) rfl (Nat.le_of_ble_eq_true rfl) hd dX7_stateHere_28 (fun r6 h5 hd => ?_)
      refine a_if_eq (pc := 31) hG (tgt := 36) hd dX7_stateHere_31 (by decide) (fun hd => ?_) (fun hd => ?_)
      · refine a_aload_n (pc := 36) hG 0 rfl dX7_stateHere_36 rfl ?_
        refine a_gsW (pc := 37) hG 16 (by decide) t_1349 dX7_stateHere_37 ?_
        refine a_cvI (pc := 40) hG (As := [.ref (wad 16)]) (st := []) sc_1 cl_X8 mk_X8_isWord t_1329 (by omega) (fun z hz => c_Tape_isWord 16 _ (by decide) z hz) rfl (Nat.le_of_ble_eq_true rfl) hd dX7_stateHere_40 (fun r8 h7 hd => ?_)
        refine a_if_eq (pc := 43) hG (tgt := 48) hd dX7_stateHere_43 (by decide) (fun hd => ?_) (fun hd => ?_)
        · refine a_aload_n (pc := 48) hG 0 rfl dX7_stateHere_48 rfl ?_
          refine a_gsW (pc := 49) hG 17 (by decide) t_1351 dX7_stateHere_49 ?_
          refine a_cvI (pc := 52) hG (As := [.ref (wad 17)]) (st := []) sc_1 cl_X8 mk_X8_isWord t_1329 (by omega) (fun z hz => c_Tape_isWord 17 _ (by decide) z hz) rfl (Nat.le_of_ble_eq_true rfl) hd dX7_stateHere_52 (fun r10 h9 hd => ?_)
          refine a_if_eq (pc := 55) hG (tgt := 62) hd dX7_stateHere_55 (by decide) (fun hd => ?_) (fun hd => ?_)
          · refine a_iconst (pc := 62) hG dX7_stateHere_62 (v := (-1 : Int32)) rfl ?_
            exact a_iret (pc := 63) hG hd dX7_stateHere_63
          refine a_iconst (pc := 58) hG dX7_stateHere_58 (v := (nI 4)) rfl ?_
          refine a_goto (pc := 59) hG (tgt := 63) dX7_stateHere_59 (by decide) ?_
          exact a_iret (pc := 63) hG hd dX7_stateHere_63
        refine a_iconst (pc := 46) hG dX7_stateHere_46 (v := (nI 3)) rfl ?_
        exact a_iret (pc := 47) hG hd dX7_stateHere_47
      refine a_iconst (pc := 34) hG dX7_stateHere_34 (v := (nI 2)) rfl ?_
      exact a_iret (pc := 35) hG hd dX7_stateHere_35
    refine a_iconst (pc := 22) hG dX7_stateHere_22 (v := (nI 1)) rfl ?_
    exact a_iret (pc := 23) hG hd dX7_stateHere_23
  refine a_iconst (pc := 10) hG dX7_stateHere_10 (v := (nI 0)) rfl ?_
  exact a_iret (pc := 11) hG hd dX7_stateHere_11
theorem dX7_stepHere_0 : decode cX7_stepHere 0 = .ok (.aload_n 0, 1) := by decide +kernel
theorem dX7_stepHere_1 : decode cX7_stepHere 1 = .ok (.bipush 40, 2) := by decide +kernel
theorem dX7_stepHere_3 : decode cX7_stepHere 3 = .ok (.invokevirtual 124, 3) := by decide +kernel
theorem dX7_stepHere_6 : decode cX7_stepHere 6 = .ok (.ifCond .eq 6, 3) := by decide +kernel
theorem dX7_stepHere_9 : decode cX7_stepHere 9 = .ok (.bipush 9, 2) := by decide +kernel
theorem dX7_stepHere_11 : decode cX7_stepHere 11 = .ok (.ireturn, 1) := by decide +kernel
theorem dX7_stepHere_12 : decode cX7_stepHere 12 = .ok (.aload_n 0, 1) := by decide +kernel
theorem dX7_stepHere_13 : decode cX7_stepHere 13 = .ok (.getstatic 134, 3) := by decide +kernel
theorem dX7_stepHere_16 : decode cX7_stepHere 16 = .ok (.invokevirtual 137, 3) := by decide +kernel
theorem dX7_stepHere_19 : decode cX7_stepHere 19 = .ok (.ifCond .eq 5, 3) := by decide +kernel
theorem dX7_stepHere_22 : decode cX7_stepHere 22 = .ok (.iconst 0, 1) := by decide +kernel
theorem dX7_stepHere_23 : decode cX7_stepHere 23 = .ok (.ireturn, 1) := by decide +kernel
theorem dX7_stepHere_24 : decode cX7_stepHere 24 = .ok (.aload_n 0, 1) := by decide +kernel
theorem dX7_stepHere_25 : decode cX7_stepHere 25 = .ok (.getstatic 140, 3) := by decide +kernel
theorem dX7_stepHere_28 : decode cX7_stepHere 28 = .ok (.invokevirtual 137, 3) := by decide +kernel
theorem dX7_stepHere_31 : decode cX7_stepHere 31 = .ok (.ifCond .eq 5, 3) := by decide +kernel
theorem dX7_stepHere_34 : decode cX7_stepHere 34 = .ok (.iconst 4, 1) := by decide +kernel
theorem dX7_stepHere_35 : decode cX7_stepHere 35 = .ok (.ireturn, 1) := by decide +kernel
theorem dX7_stepHere_36 : decode cX7_stepHere 36 = .ok (.aload_n 0, 1) := by decide +kernel
theorem dX7_stepHere_37 : decode cX7_stepHere 37 = .ok (.getstatic 143, 3) := by decide +kernel
theorem dX7_stepHere_40 : decode cX7_stepHere 40 = .ok (.invokevirtual 137, 3) := by decide +kernel
theorem dX7_stepHere_43 : decode cX7_stepHere 43 = .ok (.ifCond .eq 5, 3) := by decide +kernel
theorem dX7_stepHere_46 : decode cX7_stepHere 46 = .ok (.iconst 5, 1) := by decide +kernel
theorem dX7_stepHere_47 : decode cX7_stepHere 47 = .ok (.ireturn, 1) := by decide +kernel
theorem dX7_stepHere_48 : decode cX7_stepHere 48 = .ok (.aload_n 0, 1) := by decide +kernel
theorem dX7_stepHere_49 : decode cX7_stepHere 49 = .ok (.getstatic 146, 3) := by decide +kernel
theorem dX7_stepHere_52 : decode cX7_stepHere 52 = .ok (.invokevirtual 137, 3) := by decide +kernel
theorem dX7_stepHere_55 : decode cX7_stepHere 55 = .ok (.ifCond .eq 6, 3) := by decide +kernel
theorem dX7_stepHere_58 : decode cX7_stepHere 58 = .ok (.bipush 6, 2) := by decide +kernel
theorem dX7_stepHere_60 : decode cX7_stepHere 60 = .ok (.ireturn, 1) := by decide +kernel
theorem dX7_stepHere_61 : decode cX7_stepHere 61 = .ok (.aload_n 0, 1) := by decide +kernel
theorem dX7_stepHere_62 : decode cX7_stepHere 62 = .ok (.getstatic 149, 3) := by decide +kernel
theorem dX7_stepHere_65 : decode cX7_stepHere 65 = .ok (.invokevirtual 137, 3) := by decide +kernel
theorem dX7_stepHere_68 : decode cX7_stepHere 68 = .ok (.ifCond .eq 6, 3) := by decide +kernel
theorem dX7_stepHere_71 : decode cX7_stepHere 71 = .ok (.bipush 7, 2) := by decide +kernel
theorem dX7_stepHere_73 : decode cX7_stepHere 73 = .ok (.ireturn, 1) := by decide +kernel
theorem dX7_stepHere_74 : decode cX7_stepHere 74 = .ok (.aload_n 0, 1) := by decide +kernel
theorem dX7_stepHere_75 : decode cX7_stepHere 75 = .ok (.getstatic 152, 3) := by decide +kernel
theorem dX7_stepHere_78 : decode cX7_stepHere 78 = .ok (.invokevirtual 137, 3) := by decide +kernel
theorem dX7_stepHere_81 : decode cX7_stepHere 81 = .ok (.ifCond .eq 6, 3) := by decide +kernel
theorem dX7_stepHere_84 : decode cX7_stepHere 84 = .ok (.bipush 8, 2) := by decide +kernel
theorem dX7_stepHere_86 : decode cX7_stepHere 86 = .ok (.ireturn, 1) := by decide +kernel
theorem dX7_stepHere_87 : decode cX7_stepHere 87 = .ok (.aload_n 0, 1) := by decide +kernel
theorem dX7_stepHere_88 : decode cX7_stepHere 88 = .ok (.invokestatic 94, 3) := by decide +kernel
theorem dX7_stepHere_91 : decode cX7_stepHere 91 = .ok (.iconst (-1), 1) := by decide +kernel
theorem dX7_stepHere_92 : decode cX7_stepHere 92 = .ok (.if_icmp .ne 7, 3) := by decide +kernel
theorem dX7_stepHere_95 : decode cX7_stepHere 95 = .ok (.iconst (-1), 1) := by decide +kernel
theorem dX7_stepHere_96 : decode cX7_stepHere 96 = .ok (.goto 4, 3) := by decide +kernel
theorem dX7_stepHere_99 : decode cX7_stepHere 99 = .ok (.iconst 3, 1) := by decide +kernel
theorem dX7_stepHere_100 : decode cX7_stepHere 100 = .ok (.ireturn, 1) := by decide +kernel
set_option maxHeartbeats 4000000 in
theorem c_Sent_stepHere {ad wad : Nat → Nat}  (h : HS)  (q : Int32 × HS) (hd : f_Sent_stepHere  h = some q) : Ctr SHc ad wad yX7_stepHere cX7_stepHere 1 (some .int) 4 [.ref (ad 1)] h (some (.int q.1), q.2) := by
  refine enter (own := RX7) (lv := [(0, .ref (ad 1))]) (by decide +kernel) rfl (Nat.le_of_ble_eq_true rfl) rfl (fun Γ hG => ?_)
  unfold f_Sent_stepHere at hd
  refine a_aload_n (pc := 0) hG 0 rfl dX7_stepHere_0 rfl ?_
  refine a_bipush (pc := 1) hG dX7_stepHere_1 (v := (nI 40)) rfl ?_
  refine a_cvI (pc := 3) hG (As := [.int (nI 40)]) (st := []) sc_1 cl_X8 mk_X8_isSign t_1323 (by omega) (fun z hz => c_Tape_isSign (nI 40) _  z hz) rfl (Nat.le_of_ble_eq_true rfl) hd dX7_stepHere_3 (fun r2 h1 hd => ?_)
  refine a_if_eq (pc := 6) hG (tgt := 12) hd dX7_stepHere_6 (by decide) (fun hd => ?_) (fun hd => ?_)
  · refine a_aload_n (pc := 12) hG 0 rfl dX7_stepHere_12 rfl ?_
    refine a_gsW (pc := 13) hG 12 (by decide) t_1327 dX7_stepHere_13 ?_
    refine a_cvI (pc := 16) hG (As := [.ref (wad 12)]) (st := []) sc_1 cl_X8 mk_X8_isWord t_1329 (by omega) (fun z hz => c_Tape_isWord 12 _ (by decide) z hz) rfl (Nat.le_of_ble_eq_true rfl) hd dX7_stepHere_16 (fun r4 h3 hd => ?_)
    refine a_if_eq (pc := 19) hG (tgt := 24) hd dX7_stepHere_19 (by decide) (fun hd => ?_) (fun hd => ?_)
    · refine a_aload_n (pc := 24) hG 0 rfl dX7_stepHere_24 rfl ?_
      refine a_gsW (pc := 25) hG 18 (by decide) t_1330 dX7_stepHere_25 ?_
      refine a_cvI (pc := 28) hG (As := [.ref (wad 18)]) (st := []) sc_1 cl_X8 mk_X8_isWord t_1329 (by omega) (fun z hz => c_Tape_isWord 18 _ (by decide) z hz) rfl (Nat.le_of_ble_eq_true rfl) hd dX7_stepHere_28 (fun r6 h5 hd => ?_)
      refine a_if_eq (pc := 31) hG (tgt := 36) hd dX7_stepHere_31 (by decide) (fun hd => ?_) (fun hd => ?_)
      · refine a_aload_n (pc := 36) hG 0 rfl dX7_stepHere_36 rfl ?_
        refine a_gsW (pc := 37) hG 19 (by decide) t_1332 dX7_stepHere_37 ?_
        refine a_cvI (pc := 40) hG (As := [.ref (wad 19)]) (st := []) sc_1 cl_X8 mk_X8_isWord t_1329 (by omega) (fun z hz => c_Tape_isWord 19 _ (by decide) z hz) rfl (Nat.le_of_ble_eq_true rfl) hd dX7_stepHere_40 (fun r8 h7 hd => ?_)
        refine a_if_eq (pc := 43) hG (tgt := 48) hd dX7_stepHere_43 (by decide) (fun hd => ?_) (fun hd => ?_)
        · refine a_aload_n (pc := 48) hG 0 rfl dX7_stepHere_48 rfl ?_
          refine a_gsW (pc := 49) hG 20 (by decide) t_1334 dX7_stepHere_49 ?_
          refine a_cvI (pc := 52) hG (As := [.ref (wad 20)]) (st := []) sc_1 cl_X8 mk_X8_isWord t_1329 (by omega) (fun z hz => c_Tape_isWord 20 _ (by decide) z hz) rfl (Nat.le_of_ble_eq_true rfl) hd dX7_stepHere_52 (fun r10 h9 hd => ?_)
          refine a_if_eq (pc := 55) hG (tgt := 61) hd dX7_stepHere_55 (by decide) (fun hd => ?_) (fun hd => ?_)
          · refine a_aload_n (pc := 61) hG 0 rfl dX7_stepHere_61 rfl ?_
            refine a_gsW (pc := 62) hG 21 (by decide) t_1336 dX7_stepHere_62 ?_
            refine a_cvI (pc := 65) hG (As := [.ref (wad 21)]) (st := []) sc_1 cl_X8 mk_X8_isWord t_1329 (by omega) (fun z hz => c_Tape_isWord 21 _ (by decide) z hz) rfl (Nat.le_of_ble_eq_true rfl) hd dX7_stepHere_65 (fun r12 h11 hd => ?_)
            refine a_if_eq (pc := 68) hG (tgt := 74) hd dX7_stepHere_68 (by decide) (fun hd => ?_) (fun hd => ?_)
            · refine a_aload_n (pc := 74) hG 0 rfl dX7_stepHere_74 rfl ?_
              refine a_gsW (pc := 75) hG 22 (by decide) t_1338 dX7_stepHere_75 ?_
              refine a_cvI (pc := 78) hG (As := [.ref (wad 22)]) (st := []) sc_1 cl_X8 mk_X8_isWord t_1329 (by omega) (fun z hz => c_Tape_isWord 22 _ (by decide) z hz) rfl (Nat.le_of_ble_eq_true rfl) hd dX7_stepHere_78 (fun r14 h13 hd => ?_)
              refine a_if_eq (pc := 81) hG (tgt := 87) hd dX7_stepHere_81 (by decide) (fun hd => ?_) (fun hd => ?_)
              · refine a_aload_n (pc := 87) hG 0 rfl dX7_stepHere_87 rfl ?_
                refine a_csI (pc := 88) hG (As := [.ref (ad 1)]) (st := []) mk_X7_stateHere t_1340 (by omega) (fun z hz => c_Sent_stateHere  _  z hz) rfl (Nat.le_of_ble_eq_true rfl) hd dX7_stepHere_88 (fun r16 h15 hd => ?_)
                refine a_iconst (pc := 91) hG dX7_stepHere_91 (v := (-1 : Int32)) rfl ?_
                refine a_ic_ne (pc := 92) hG (tgt := 99) hd dX7_stepHere_92 (by decide) (fun hd => ?_) (fun hd => ?_)
                · refine a_iconst (pc := 99) hG dX7_stepHere_99 (v := (nI 3)) rfl ?_
                  exact a_iret (pc := 100) hG hd dX7_stepHere_100
                refine a_iconst (pc := 95) hG dX7_stepHere_95 (v := (-1 : Int32)) rfl ?_
                refine a_goto (pc := 96) hG (tgt := 100) dX7_stepHere_96 (by decide) ?_
                exact a_iret (pc := 100) hG hd dX7_stepHere_100
              refine a_bipush (pc := 84) hG dX7_stepHere_84 (v := (nI 8)) rfl ?_
              exact a_iret (pc := 86) hG hd dX7_stepHere_86
            refine a_bipush (pc := 71) hG dX7_stepHere_71 (v := (nI 7)) rfl ?_
            exact a_iret (pc := 73) hG hd dX7_stepHere_73
          refine a_bipush (pc := 58) hG dX7_stepHere_58 (v := (nI 6)) rfl ?_
          exact a_iret (pc := 60) hG hd dX7_stepHere_60
        refine a_iconst (pc := 46) hG dX7_stepHere_46 (v := (nI 5)) rfl ?_
        exact a_iret (pc := 47) hG hd dX7_stepHere_47
      refine a_iconst (pc := 34) hG dX7_stepHere_34 (v := (nI 4)) rfl ?_
      exact a_iret (pc := 35) hG hd dX7_stepHere_35
    refine a_iconst (pc := 22) hG dX7_stepHere_22 (v := (nI 0)) rfl ?_
    exact a_iret (pc := 23) hG hd dX7_stepHere_23
  refine a_bipush (pc := 9) hG dX7_stepHere_9 (v := (nI 9)) rfl ?_
  exact a_iret (pc := 11) hG hd dX7_stepHere_11
theorem dX7_readMeasure_0 : decode cX7_readMeasure 0 = .ok (.aload_n 1, 1) := by decide +kernel
theorem dX7_readMeasure_1 : decode cX7_readMeasure 1 = .ok (.bipush 60, 2) := by decide +kernel
theorem dX7_readMeasure_3 : decode cX7_readMeasure 3 = .ok (.invokevirtual 124, 3) := by decide +kernel
theorem dX7_readMeasure_6 : decode cX7_readMeasure 6 = .ok (.ifCond .eq 8, 3) := by decide +kernel
theorem dX7_readMeasure_9 : decode cX7_readMeasure 9 = .ok (.bipush 60, 2) := by decide +kernel
theorem dX7_readMeasure_11 : decode cX7_readMeasure 11 = .ok (.goto 19, 3) := by decide +kernel
theorem dX7_readMeasure_14 : decode cX7_readMeasure 14 = .ok (.aload_n 1, 1) := by decide +kernel
theorem dX7_readMeasure_15 : decode cX7_readMeasure 15 = .ok (.bipush 62, 2) := by decide +kernel
theorem dX7_readMeasure_17 : decode cX7_readMeasure 17 = .ok (.invokevirtual 124, 3) := by decide +kernel
theorem dX7_readMeasure_20 : decode cX7_readMeasure 20 = .ok (.ifCond .eq 8, 3) := by decide +kernel
theorem dX7_readMeasure_23 : decode cX7_readMeasure 23 = .ok (.bipush 62, 2) := by decide +kernel
theorem dX7_readMeasure_25 : decode cX7_readMeasure 25 = .ok (.goto 5, 3) := by decide +kernel
theorem dX7_readMeasure_28 : decode cX7_readMeasure 28 = .ok (.bipush 61, 2) := by decide +kernel
theorem dX7_readMeasure_30 : decode cX7_readMeasure 30 = .ok (.istore_n 3, 1) := by decide +kernel
theorem dX7_readMeasure_31 : decode cX7_readMeasure 31 = .ok (.aload_n 1, 1) := by decide +kernel
theorem dX7_readMeasure_32 : decode cX7_readMeasure 32 = .ok (.iload_n 3, 1) := by decide +kernel
theorem dX7_readMeasure_33 : decode cX7_readMeasure 33 = .ok (.invokevirtual 100, 3) := by decide +kernel
theorem dX7_readMeasure_36 : decode cX7_readMeasure 36 = .ok (.ifCond .eq 31, 3) := by decide +kernel
theorem dX7_readMeasure_39 : decode cX7_readMeasure 39 = .ok (.aload_n 1, 1) := by decide +kernel
theorem dX7_readMeasure_40 : decode cX7_readMeasure 40 = .ok (.iconst 0, 1) := by decide +kernel
theorem dX7_readMeasure_41 : decode cX7_readMeasure 41 = .ok (.sipush 999, 3) := by decide +kernel
theorem dX7_readMeasure_44 : decode cX7_readMeasure 44 = .ok (.invokevirtual 127, 3) := by decide +kernel
theorem dX7_readMeasure_47 : decode cX7_readMeasure 47 = .ok (.ifCond .eq 20, 3) := by decide +kernel
theorem dX7_readMeasure_50 : decode cX7_readMeasure 50 = .ok (.aload_n 0, 1) := by decide +kernel
theorem dX7_readMeasure_51 : decode cX7_readMeasure 51 = .ok (.iload_n 2, 1) := by decide +kernel
theorem dX7_readMeasure_52 : decode cX7_readMeasure 52 = .ok (.iload_n 3, 1) := by decide +kernel
theorem dX7_readMeasure_53 : decode cX7_readMeasure 53 = .ok (.aload_n 1, 1) := by decide +kernel
theorem dX7_readMeasure_54 : decode cX7_readMeasure 54 = .ok (.invokevirtual 130, 3) := by decide +kernel
theorem dX7_readMeasure_57 : decode cX7_readMeasure 57 = .ok (.invokevirtual 83, 3) := by decide +kernel
theorem dX7_readMeasure_60 : decode cX7_readMeasure 60 = .ok (.ifCond .eq 7, 3) := by decide +kernel
theorem dX7_readMeasure_63 : decode cX7_readMeasure 63 = .ok (.iconst 1, 1) := by decide +kernel
theorem dX7_readMeasure_64 : decode cX7_readMeasure 64 = .ok (.goto 4, 3) := by decide +kernel
theorem dX7_readMeasure_67 : decode cX7_readMeasure 67 = .ok (.iconst 0, 1) := by decide +kernel
theorem dX7_readMeasure_68 : decode cX7_readMeasure 68 = .ok (.ireturn, 1) := by decide +kernel
set_option maxHeartbeats 4000000 in
theorem c_Sent_readMeasure_46 {ad wad : Nat → Nat} (F : Nat) (a1 : Int32) (h : HS)  (q : Int32 × HS) (hd : f_Sent_readMeasure_46 F a1 h = some q) : Ctr SHc ad wad yX7_readMeasure cX7_readMeasure 4 (some .boolean) 4 [.ref (ad 46), .ref (ad 1), .int a1] h (some (.int q.1), q.2) := by
  refine enter (own := RX7) (lv := [(0, .ref (ad 46)), (1, .ref (ad 1)), (2, .int a1)]) (by decide +kernel) rfl (Nat.le_of_ble_eq_true rfl) rfl (fun Γ hG => ?_)
  unfold f_Sent_readMeasure_46 at hd
  refine a_aload_n (pc := 0) hG 1 rfl dX7_readMeasure_0 rfl ?_
  refine a_bipush (pc := 1) hG dX7_readMeasure_1 (v := (nI 60)) rfl ?_
  refine a_cvI (pc := 3) hG (As := [.int (nI 60)]) (st := []) sc_1 cl_X8 mk_X8_isSign t_1323 (by omega) (fun z hz => c_Tape_isSign (nI 60) _  z hz) rfl (Nat.le_of_ble_eq_true rfl) hd dX7_readMeasure_3 (fun r2 h1 hd => ?_)
  refine a_join hd (Q := fun J : Int32 → HS → Option (Int32 × HS) => ∀ (v4 : Int32) (h5 : HS), J v4 h5 = some q → AW SHc ad 4 (some (.int q.1), q.2) Γ 30 [(0, .ref (ad 46)), (1, .ref (ad 1)), (2, .int a1)] [.int v4] h5) (fun v4 h5 hd => ?_) (fun J3 hJ3 hd => ?_)
  · refine a_istore_nN (pc := 30) hG hd dX7_readMeasure_30 rfl (by decide) (lf := fun x => [(3, .int x), (0, .ref (ad 46)), (1, .ref (ad 1)), (2, .int a1)]) (fun _ => rfl) (fun v6 hd => ?_)
    refine a_aload_n (pc := 31) hG 2 rfl dX7_readMeasure_31 rfl ?_
    refine a_iload_n (pc := 32) hG 0 rfl dX7_readMeasure_32 rfl ?_
    refine a_cvI (pc := 33) hG (As := [.int v6]) (st := []) sc_1 cl_X8 mk_X8_takeSign t_1355 (by omega) (fun z hz => c_Tape_takeSign F v6 _  z hz) rfl (Nat.le_of_ble_eq_true rfl) hd dX7_readMeasure_33 (fun r8 h7 hd => ?_)
    refine a_if_eq (pc := 36) hG (tgt := 67) hd dX7_readMeasure_36 (by decide) (fun hd => ?_) (fun hd => ?_)
    · refine a_iconst (pc := 67) hG dX7_readMeasure_67 (v := (nI 0)) rfl ?_
      exact a_zret (pc := 68) hG hd dX7_readMeasure_68
    refine a_aload_n (pc := 39) hG 2 rfl dX7_readMeasure_39 rfl ?_
    refine a_iconst (pc := 40) hG dX7_readMeasure_40 (v := (nI 0)) rfl ?_
    refine a_sipush (pc := 41) hG dX7_readMeasure_41 (v := (nI 999)) rfl ?_
    refine a_cvI (pc := 44) hG (As := [.int (nI 0), .int (nI 999)]) (st := []) sc_1 cl_X8 mk_X8_takeNumber t_1371 (by omega) (fun z hz => c_Tape_takeNumber F (nI 0) (nI 999) _  z hz) rfl (Nat.le_of_ble_eq_true rfl) hd dX7_readMeasure_44 (fun r10 h9 hd => ?_)
    refine a_if_eq (pc := 47) hG (tgt := 67) hd dX7_readMeasure_47 (by decide) (fun hd => ?_) (fun hd => ?_)
    · refine a_iconst (pc := 67) hG dX7_readMeasure_67 (v := (nI 0)) rfl ?_
      exact a_zret (pc := 68) hG hd dX7_readMeasure_68
    refine a_aload_n (pc := 50) hG 1 rfl dX7_readMeasure_50 rfl ?_
    refine a_iload_n (pc := 51) hG 3 rfl dX7_readMeasure_51 rfl ?_
    refine a_iload_n (pc := 52) hG 0 rfl dX7_readMeasure_52 rfl ?_
    refine a_aload_n (pc := 53) hG 2 rfl dX7_readMeasure_53 rfl ?_
    refine a_cvI (pc := 54) hG (As := []) (st := [.int v6, .int a1, .ref (ad 46)]) sc_1 cl_X8 mk_X8_taken t_1372 (by omega) (fun z hz => c_Tape_taken  _  z hz) rfl (Nat.le_of_ble_eq_true rfl) hd dX7_readMeasure_54 (fun r12 h11 hd => ?_)
    refine a_cvI (pc := 57) hG (As := [.int a1, .int v6, .int r12]) (st := []) sc_46 cl_X7 mk_X7_add t_1356 (by omega) (fun z hz => c_Sent_add_46 a1 v6 r12 _  z hz) rfl (Nat.le_of_ble_eq_true rfl) hd dX7_readMeasure_57 (fun r14 h13 hd => ?_)
    refine a_if_eq (pc := 60) hG (tgt := 67) hd dX7_readMeasure_60 (by decide) (fun hd => ?_) (fun hd => ?_)
    · refine a_iconst (pc := 67) hG dX7_readMeasure_67 (v := (nI 0)) rfl ?_
      exact a_zret (pc := 68) hG hd dX7_readMeasure_68
    refine a_iconst (pc := 63) hG dX7_readMeasure_63 (v := (nI 1)) rfl ?_
    refine a_goto (pc := 64) hG (tgt := 68) dX7_readMeasure_64 (by decide) ?_
    exact a_zret (pc := 68) hG hd dX7_readMeasure_68
  refine a_if_eq (pc := 6) hG (tgt := 14) hd dX7_readMeasure_6 (by decide) (fun hd => ?_) (fun hd => ?_)
  · refine a_aload_n (pc := 14) hG 1 rfl dX7_readMeasure_14 rfl ?_
    refine a_bipush (pc := 15) hG dX7_readMeasure_15 (v := (nI 62)) rfl ?_
    refine a_cvI (pc := 17) hG (As := [.int (nI 62)]) (st := []) sc_1 cl_X8 mk_X8_isSign t_1323 (by omega) (fun z hz => c_Tape_isSign (nI 62) _  z hz) rfl (Nat.le_of_ble_eq_true rfl) hd dX7_readMeasure_17 (fun r16 h15 hd => ?_)
    refine a_if_eq (pc := 20) hG (tgt := 28) hd dX7_readMeasure_20 (by decide) (fun hd => ?_) (fun hd => ?_)
    · refine a_bipush (pc := 28) hG dX7_readMeasure_28 (v := (nI 61)) rfl ?_
      exact AW.sub [0, 1, 2] rfl (hJ3 _ _ hd)
    refine a_bipush (pc := 23) hG dX7_readMeasure_23 (v := (nI 62)) rfl ?_
    refine a_goto (pc := 25) hG (tgt := 30) dX7_readMeasure_25 (by decide) ?_
    exact AW.sub [0, 1, 2] rfl (hJ3 _ _ hd)
  refine a_bipush (pc := 9) hG dX7_readMeasure_9 (v := (nI 60)) rfl ?_
  refine a_goto (pc := 11) hG (tgt := 30) dX7_readMeasure_11 (by decide) ?_
  exact AW.sub [0, 1, 2] rfl (hJ3 _ _ hd)
theorem dX7_readHad_0 : decode cX7_readHad 0 = .ok (.aload_n 1, 1) := by decide +kernel
theorem dX7_readHad_1 : decode cX7_readHad 1 = .ok (.invokevirtual 111, 3) := by decide +kernel
theorem dX7_readHad_4 : decode cX7_readHad 4 = .ok (.ifCond .ne 9, 3) := by decide +kernel
theorem dX7_readHad_7 : decode cX7_readHad 7 = .ok (.aload_n 1, 1) := by decide +kernel
theorem dX7_readHad_8 : decode cX7_readHad 8 = .ok (.iconst 1, 1) := by decide +kernel
theorem dX7_readHad_9 : decode cX7_readHad 9 = .ok (.invokevirtual 48, 3) := by decide +kernel
theorem dX7_readHad_12 : decode cX7_readHad 12 = .ok (.ireturn, 1) := by decide +kernel
theorem dX7_readHad_13 : decode cX7_readHad 13 = .ok (.aload_n 2, 1) := by decide +kernel
theorem dX7_readHad_14 : decode cX7_readHad 14 = .ok (.aload_n 1, 1) := by decide +kernel
theorem dX7_readHad_15 : decode cX7_readHad 15 = .ok (.invokevirtual 114, 3) := by decide +kernel
theorem dX7_readHad_18 : decode cX7_readHad 18 = .ok (.invokevirtual 118, 3) := by decide +kernel
theorem dX7_readHad_21 : decode cX7_readHad 21 = .ok (.istore_n 3, 1) := by decide +kernel
theorem dX7_readHad_22 : decode cX7_readHad 22 = .ok (.iload_n 3, 1) := by decide +kernel
theorem dX7_readHad_23 : decode cX7_readHad 23 = .ok (.iconst (-1), 1) := by decide +kernel
theorem dX7_readHad_24 : decode cX7_readHad 24 = .ok (.if_icmp .ne 9, 3) := by decide +kernel
theorem dX7_readHad_27 : decode cX7_readHad 27 = .ok (.aload_n 1, 1) := by decide +kernel
theorem dX7_readHad_28 : decode cX7_readHad 28 = .ok (.iconst 3, 1) := by decide +kernel
theorem dX7_readHad_29 : decode cX7_readHad 29 = .ok (.invokevirtual 48, 3) := by decide +kernel
theorem dX7_readHad_32 : decode cX7_readHad 32 = .ok (.ireturn, 1) := by decide +kernel
theorem dX7_readHad_33 : decode cX7_readHad 33 = .ok (.aload_n 1, 1) := by decide +kernel
theorem dX7_readHad_34 : decode cX7_readHad 34 = .ok (.invokevirtual 97, 3) := by decide +kernel
theorem dX7_readHad_37 : decode cX7_readHad 37 = .ok (.aload_n 0, 1) := by decide +kernel
theorem dX7_readHad_38 : decode cX7_readHad 38 = .ok (.iconst 4, 1) := by decide +kernel
theorem dX7_readHad_39 : decode cX7_readHad 39 = .ok (.iload_n 3, 1) := by decide +kernel
theorem dX7_readHad_40 : decode cX7_readHad 40 = .ok (.iconst 0, 1) := by decide +kernel
theorem dX7_readHad_41 : decode cX7_readHad 41 = .ok (.invokevirtual 83, 3) := by decide +kernel
theorem dX7_readHad_44 : decode cX7_readHad 44 = .ok (.ireturn, 1) := by decide +kernel
set_option maxHeartbeats 4000000 in
theorem c_Sent_readHad_46 {ad wad : Nat → Nat} (F : Nat)  (h : HS)  (q : Int32 × HS) (hd : f_Sent_readHad_46 F  h = some q) : Ctr SHc ad wad yX7_readHad cX7_readHad 4 (some .boolean) 3 [.ref (ad 46), .ref (ad 1), .ref (ad 3)] h (some (.int q.1), q.2) := by
  refine enter (own := RX7) (lv := [(0, .ref (ad 46)), (1, .ref (ad 1)), (2, .ref (ad 3))]) (by decide +kernel) rfl (Nat.le_of_ble_eq_true rfl) rfl (fun Γ hG => ?_)
  unfold f_Sent_readHad_46 at hd
  refine a_aload_n (pc := 0) hG 1 rfl dX7_readHad_0 rfl ?_
  refine a_cvI (pc := 1) hG (As := []) (st := []) sc_1 cl_X8 mk_X8_isName t_1364 (by omega) (fun z hz => c_Tape_isName F  _  z hz) rfl (Nat.le_of_ble_eq_true rfl) hd dX7_readHad_1 (fun r2 h1 hd => ?_)
  refine a_if_ne (pc := 4) hG (tgt := 13) hd dX7_readHad_4 (by decide) (fun hd => ?_) (fun hd => ?_)
  · refine a_aload_n (pc := 13) hG 2 rfl dX7_readHad_13 rfl ?_
    refine a_aload_n (pc := 14) hG 1 rfl dX7_readHad_14 rfl ?_
    refine a_cvL (pc := 15) hG (As := []) (st := [.ref (ad 3)]) sc_1 cl_X8 mk_X8_letters t_1365 (by omega) (fun z hz => c_Tape_letters  _  z hz) rfl (Nat.le_of_ble_eq_true rfl) hd dX7_readHad_15 (fun r4 h3 hd => ?_)
    refine a_cvI (pc := 18) hG (As := [.long r4]) (st := []) sc_3 cl_X5 mk_X5_deedNamed t_1366 (by omega) (fun z hz => c_Plan_deedNamed_3 F r4 _  z hz) rfl (Nat.le_of_ble_eq_true rfl) hd dX7_readHad_18 (fun r6 h5 hd => ?_)
    refine a_istore_nN (pc := 21) hG hd dX7_readHad_21 rfl (by decide) (lf := fun x => [(3, .int x), (0, .ref (ad 46)), (1, .ref (ad 1)), (2, .ref (ad 3))]) (fun _ => rfl) (fun v7 hd => ?_)
    refine a_iload_n (pc := 22) hG 0 rfl dX7_readHad_22 rfl ?_
    refine a_iconst (pc := 23) hG dX7_readHad_23 (v := (-1 : Int32)) rfl ?_
    refine a_ic_ne (pc := 24) hG (tgt := 33) hd dX7_readHad_24 (by decide) (fun hd => ?_) (fun hd => ?_)
    · refine a_aload_n (pc := 33) hG 2 rfl dX7_readHad_33 rfl ?_
      refine a_cvN (pc := 34) hG (As := []) (st := []) sc_1 cl_X8 mk_X8_advance t_1354 (by omega) (fun z hz => c_Tape_advance F  _  z hz) rfl (Nat.le_of_ble_eq_true rfl) hd dX7_readHad_34 (fun _ h8 hd => ?_)
      refine a_aload_n (pc := 37) hG 1 rfl dX7_readHad_37 rfl ?_
      refine a_iconst (pc := 38) hG dX7_readHad_38 (v := (nI 4)) rfl ?_
      refine a_iload_n (pc := 39) hG 0 rfl dX7_readHad_39 rfl ?_
      refine a_iconst (pc := 40) hG dX7_readHad_40 (v := (nI 0)) rfl ?_
      refine a_cvI (pc := 41) hG (As := [.int (nI 4), .int v7, .int (nI 0)]) (st := []) sc_46 cl_X7 mk_X7_add t_1356 (by omega) (fun z hz => c_Sent_add_46 (nI 4) v7 (nI 0) _  z hz) rfl (Nat.le_of_ble_eq_true rfl) hd dX7_readHad_41 (fun r10 h9 hd => ?_)
      exact a_zret (pc := 44) hG hd dX7_readHad_44
    refine a_aload_n (pc := 27) hG 2 rfl dX7_readHad_27 rfl ?_
    refine a_iconst (pc := 28) hG dX7_readHad_28 (v := (nI 3)) rfl ?_
    refine a_cvI (pc := 29) hG (As := [.int (nI 3)]) (st := []) sc_1 cl_X8 mk_X8_fail t_1353 (by omega) (fun z hz => c_Tape_fail (nI 3) _  z hz) rfl (Nat.le_of_ble_eq_true rfl) hd dX7_readHad_29 (fun r12 h11 hd => ?_)
    exact a_zret (pc := 32) hG hd dX7_readHad_32
  refine a_aload_n (pc := 7) hG 1 rfl dX7_readHad_7 rfl ?_
  refine a_iconst (pc := 8) hG dX7_readHad_8 (v := (nI 1)) rfl ?_
  refine a_cvI (pc := 9) hG (As := [.int (nI 1)]) (st := []) sc_1 cl_X8 mk_X8_fail t_1353 (by omega) (fun z hz => c_Tape_fail (nI 1) _  z hz) rfl (Nat.le_of_ble_eq_true rfl) hd dX7_readHad_9 (fun r14 h13 hd => ?_)
  exact a_zret (pc := 12) hG hd dX7_readHad_12
theorem dX7_readCond_0 : decode cX7_readCond 0 = .ok (.aload_n 0, 1) := by decide +kernel
theorem dX7_readCond_1 : decode cX7_readCond 1 = .ok (.aload_n 1, 1) := by decide +kernel
theorem dX7_readCond_2 : decode cX7_readCond 2 = .ok (.aload_n 2, 1) := by decide +kernel
theorem dX7_readCond_3 : decode cX7_readCond 3 = .ok (.iload_n 3, 1) := by decide +kernel
theorem dX7_readCond_4 : decode cX7_readCond 4 = .ok (.invokevirtual 70, 3) := by decide +kernel
theorem dX7_readCond_7 : decode cX7_readCond 7 = .ok (.ifCond .ne 5, 3) := by decide +kernel
theorem dX7_readCond_10 : decode cX7_readCond 10 = .ok (.iconst 0, 1) := by decide +kernel
theorem dX7_readCond_11 : decode cX7_readCond 11 = .ok (.ireturn, 1) := by decide +kernel
theorem dX7_readCond_12 : decode cX7_readCond 12 = .ok (.iconst 0, 1) := by decide +kernel
theorem dX7_readCond_13 : decode cX7_readCond 13 = .ok (.istore 4, 2) := by decide +kernel
theorem dX7_readCond_15 : decode cX7_readCond 15 = .ok (.iconst 0, 1) := by decide +kernel
theorem dX7_readCond_16 : decode cX7_readCond 16 = .ok (.istore 5, 2) := by decide +kernel
theorem dX7_readCond_18 : decode cX7_readCond 18 = .ok (.iload 5, 2) := by decide +kernel
theorem dX7_readCond_20 : decode cX7_readCond 20 = .ok (.bipush 20, 2) := by decide +kernel
theorem dX7_readCond_22 : decode cX7_readCond 22 = .ok (.if_icmp .ge 77, 3) := by decide +kernel
theorem dX7_readCond_25 : decode cX7_readCond 25 = .ok (.aload_n 1, 1) := by decide +kernel
theorem dX7_readCond_26 : decode cX7_readCond 26 = .ok (.getstatic 73, 3) := by decide +kernel
theorem dX7_readCond_29 : decode cX7_readCond 29 = .ok (.invokevirtual 79, 3) := by decide +kernel
theorem dX7_readCond_32 : decode cX7_readCond 32 = .ok (.istore 6, 2) := by decide +kernel
theorem dX7_readCond_34 : decode cX7_readCond 34 = .ok (.iload 6, 2) := by decide +kernel
theorem dX7_readCond_36 : decode cX7_readCond 36 = .ok (.ifCond .ne 32, 3) := by decide +kernel
theorem dX7_readCond_39 : decode cX7_readCond 39 = .ok (.iload 4, 2) := by decide +kernel
theorem dX7_readCond_41 : decode cX7_readCond 41 = .ok (.ifCond .eq 11, 3) := by decide +kernel
theorem dX7_readCond_44 : decode cX7_readCond 44 = .ok (.aload_n 0, 1) := by decide +kernel
theorem dX7_readCond_45 : decode cX7_readCond 45 = .ok (.iconst 2, 1) := by decide +kernel
theorem dX7_readCond_46 : decode cX7_readCond 46 = .ok (.iconst 0, 1) := by decide +kernel
theorem dX7_readCond_47 : decode cX7_readCond 47 = .ok (.iconst 0, 1) := by decide +kernel
theorem dX7_readCond_48 : decode cX7_readCond 48 = .ok (.invokevirtual 83, 3) := by decide +kernel
theorem dX7_readCond_51 : decode cX7_readCond 51 = .ok (.pop, 1) := by decide +kernel
theorem dX7_readCond_52 : decode cX7_readCond 52 = .ok (.aload_n 1, 1) := by decide +kernel
theorem dX7_readCond_53 : decode cX7_readCond 53 = .ok (.getstatic 87, 3) := by decide +kernel
theorem dX7_readCond_56 : decode cX7_readCond 56 = .ok (.invokevirtual 79, 3) := by decide +kernel
theorem dX7_readCond_59 : decode cX7_readCond 59 = .ok (.istore 4, 2) := by decide +kernel
theorem dX7_readCond_61 : decode cX7_readCond 61 = .ok (.iload 4, 2) := by decide +kernel
theorem dX7_readCond_63 : decode cX7_readCond 63 = .ok (.ifCond .ne 5, 3) := by decide +kernel
theorem dX7_readCond_66 : decode cX7_readCond 66 = .ok (.iconst 1, 1) := by decide +kernel
theorem dX7_readCond_67 : decode cX7_readCond 67 = .ok (.ireturn, 1) := by decide +kernel
theorem dX7_readCond_68 : decode cX7_readCond 68 = .ok (.aload_n 0, 1) := by decide +kernel
theorem dX7_readCond_69 : decode cX7_readCond 69 = .ok (.aload_n 1, 1) := by decide +kernel
theorem dX7_readCond_70 : decode cX7_readCond 70 = .ok (.aload_n 2, 1) := by decide +kernel
theorem dX7_readCond_71 : decode cX7_readCond 71 = .ok (.iload_n 3, 1) := by decide +kernel
theorem dX7_readCond_72 : decode cX7_readCond 72 = .ok (.invokevirtual 70, 3) := by decide +kernel
theorem dX7_readCond_75 : decode cX7_readCond 75 = .ok (.ifCond .ne 5, 3) := by decide +kernel
theorem dX7_readCond_78 : decode cX7_readCond 78 = .ok (.iconst 0, 1) := by decide +kernel
theorem dX7_readCond_79 : decode cX7_readCond 79 = .ok (.ireturn, 1) := by decide +kernel
theorem dX7_readCond_80 : decode cX7_readCond 80 = .ok (.iload 6, 2) := by decide +kernel
theorem dX7_readCond_82 : decode cX7_readCond 82 = .ok (.ifCond .eq 11, 3) := by decide +kernel
theorem dX7_readCond_85 : decode cX7_readCond 85 = .ok (.aload_n 0, 1) := by decide +kernel
theorem dX7_readCond_86 : decode cX7_readCond 86 = .ok (.iconst 1, 1) := by decide +kernel
theorem dX7_readCond_87 : decode cX7_readCond 87 = .ok (.iconst 0, 1) := by decide +kernel
theorem dX7_readCond_88 : decode cX7_readCond 88 = .ok (.iconst 0, 1) := by decide +kernel
theorem dX7_readCond_89 : decode cX7_readCond 89 = .ok (.invokevirtual 83, 3) := by decide +kernel
theorem dX7_readCond_92 : decode cX7_readCond 92 = .ok (.pop, 1) := by decide +kernel
theorem dX7_readCond_93 : decode cX7_readCond 93 = .ok (.iinc 5 1, 3) := by decide +kernel
theorem dX7_readCond_96 : decode cX7_readCond 96 = .ok (.goto (-78), 3) := by decide +kernel
theorem dX7_readCond_99 : decode cX7_readCond 99 = .ok (.aload_n 1, 1) := by decide +kernel
theorem dX7_readCond_100 : decode cX7_readCond 100 = .ok (.iconst 4, 1) := by decide +kernel
theorem dX7_readCond_101 : decode cX7_readCond 101 = .ok (.invokevirtual 48, 3) := by decide +kernel
theorem dX7_readCond_104 : decode cX7_readCond 104 = .ok (.ireturn, 1) := by decide +kernel
theorem dX7_readOne_0 : decode cX7_readOne 0 = .ok (.aload_n 1, 1) := by decide +kernel
theorem dX7_readOne_1 : decode cX7_readOne 1 = .ok (.invokestatic 90, 3) := by decide +kernel
theorem dX7_readOne_4 : decode cX7_readOne 4 = .ok (.istore 4, 2) := by decide +kernel
theorem dX7_readOne_6 : decode cX7_readOne 6 = .ok (.iload 4, 2) := by decide +kernel
theorem dX7_readOne_8 : decode cX7_readOne 8 = .ok (.iconst (-1), 1) := by decide +kernel
theorem dX7_readOne_9 : decode cX7_readOne 9 = .ok (.if_icmp .ne 9, 3) := by decide +kernel
theorem dX7_readOne_12 : decode cX7_readOne 12 = .ok (.aload_n 1, 1) := by decide +kernel
theorem dX7_readOne_13 : decode cX7_readOne 13 = .ok (.iconst 1, 1) := by decide +kernel
theorem dX7_readOne_14 : decode cX7_readOne 14 = .ok (.invokevirtual 48, 3) := by decide +kernel
theorem dX7_readOne_17 : decode cX7_readOne 17 = .ok (.ireturn, 1) := by decide +kernel
theorem dX7_readOne_18 : decode cX7_readOne 18 = .ok (.aload_n 0, 1) := by decide +kernel
theorem dX7_readOne_19 : decode cX7_readOne 19 = .ok (.getfield 25, 3) := by decide +kernel
theorem dX7_readOne_22 : decode cX7_readOne 22 = .ok (.bipush 20, 2) := by decide +kernel
theorem dX7_readOne_24 : decode cX7_readOne 24 = .ok (.if_icmp .ge 9, 3) := by decide +kernel
theorem dX7_readOne_27 : decode cX7_readOne 27 = .ok (.iload_n 3, 1) := by decide +kernel
theorem dX7_readOne_28 : decode cX7_readOne 28 = .ok (.bipush 8, 2) := by decide +kernel
theorem dX7_readOne_30 : decode cX7_readOne 30 = .ok (.if_icmp .le 9, 3) := by decide +kernel
theorem dX7_readOne_33 : decode cX7_readOne 33 = .ok (.aload_n 1, 1) := by decide +kernel
theorem dX7_readOne_34 : decode cX7_readOne 34 = .ok (.iconst 4, 1) := by decide +kernel
theorem dX7_readOne_35 : decode cX7_readOne 35 = .ok (.invokevirtual 48, 3) := by decide +kernel
theorem dX7_readOne_38 : decode cX7_readOne 38 = .ok (.ireturn, 1) := by decide +kernel
theorem dX7_readOne_39 : decode cX7_readOne 39 = .ok (.aload_n 0, 1) := by decide +kernel
theorem dX7_readOne_40 : decode cX7_readOne 40 = .ok (.dup, 1) := by decide +kernel
theorem dX7_readOne_41 : decode cX7_readOne 41 = .ok (.getfield 25, 3) := by decide +kernel
theorem dX7_readOne_44 : decode cX7_readOne 44 = .ok (.iconst 1, 1) := by decide +kernel
theorem dX7_readOne_45 : decode cX7_readOne 45 = .ok (.iadd, 1) := by decide +kernel
theorem dX7_readOne_46 : decode cX7_readOne 46 = .ok (.putfield 25, 3) := by decide +kernel
theorem dX7_readOne_49 : decode cX7_readOne 49 = .ok (.aload_n 1, 1) := by decide +kernel
theorem dX7_readOne_50 : decode cX7_readOne 50 = .ok (.invokestatic 94, 3) := by decide +kernel
theorem dX7_readOne_53 : decode cX7_readOne 53 = .ok (.istore 5, 2) := by decide +kernel
theorem dX7_readOne_55 : decode cX7_readOne 55 = .ok (.aload_n 1, 1) := by decide +kernel
theorem dX7_readOne_56 : decode cX7_readOne 56 = .ok (.invokevirtual 97, 3) := by decide +kernel
theorem dX7_readOne_59 : decode cX7_readOne 59 = .ok (.iload 4, 2) := by decide +kernel
theorem dX7_readOne_61 : decode cX7_readOne 61 = .ok (.tableswitch 126 0 9 #[82, 126, 126, 110, 119, 126, 126, 126, 126, 55], 55) := by decide +kernel
theorem dX7_readOne_116 : decode cX7_readOne 116 = .ok (.aload_n 0, 1) := by decide +kernel
theorem dX7_readOne_117 : decode cX7_readOne 117 = .ok (.aload_n 1, 1) := by decide +kernel
theorem dX7_readOne_118 : decode cX7_readOne 118 = .ok (.aload_n 2, 1) := by decide +kernel
theorem dX7_readOne_119 : decode cX7_readOne 119 = .ok (.iload_n 3, 1) := by decide +kernel
theorem dX7_readOne_120 : decode cX7_readOne 120 = .ok (.iconst 1, 1) := by decide +kernel
theorem dX7_readOne_121 : decode cX7_readOne 121 = .ok (.iadd, 1) := by decide +kernel
theorem dX7_readOne_122 : decode cX7_readOne 122 = .ok (.invokevirtual 40, 3) := by decide +kernel
theorem dX7_readOne_125 : decode cX7_readOne 125 = .ok (.ifCond .eq 16, 3) := by decide +kernel
theorem dX7_readOne_128 : decode cX7_readOne 128 = .ok (.aload_n 1, 1) := by decide +kernel
theorem dX7_readOne_129 : decode cX7_readOne 129 = .ok (.bipush 41, 2) := by decide +kernel
theorem dX7_readOne_131 : decode cX7_readOne 131 = .ok (.invokevirtual 100, 3) := by decide +kernel
theorem dX7_readOne_134 : decode cX7_readOne 134 = .ok (.ifCond .eq 7, 3) := by decide +kernel
theorem dX7_readOne_137 : decode cX7_readOne 137 = .ok (.iconst 1, 1) := by decide +kernel
theorem dX7_readOne_138 : decode cX7_readOne 138 = .ok (.goto 4, 3) := by decide +kernel
theorem dX7_readOne_141 : decode cX7_readOne 141 = .ok (.iconst 0, 1) := by decide +kernel
theorem dX7_readOne_142 : decode cX7_readOne 142 = .ok (.ireturn, 1) := by decide +kernel
theorem dX7_readOne_143 : decode cX7_readOne 143 = .ok (.aload_n 0, 1) := by decide +kernel
theorem dX7_readOne_144 : decode cX7_readOne 144 = .ok (.aload_n 1, 1) := by decide +kernel
theorem dX7_readOne_145 : decode cX7_readOne 145 = .ok (.aload_n 2, 1) := by decide +kernel
theorem dX7_readOne_146 : decode cX7_readOne 146 = .ok (.iload_n 3, 1) := by decide +kernel
theorem dX7_readOne_147 : decode cX7_readOne 147 = .ok (.iconst 1, 1) := by decide +kernel
theorem dX7_readOne_148 : decode cX7_readOne 148 = .ok (.iadd, 1) := by decide +kernel
theorem dX7_readOne_149 : decode cX7_readOne 149 = .ok (.invokevirtual 70, 3) := by decide +kernel
theorem dX7_readOne_152 : decode cX7_readOne 152 = .ok (.ifCond .eq 17, 3) := by decide +kernel
theorem dX7_readOne_155 : decode cX7_readOne 155 = .ok (.aload_n 0, 1) := by decide +kernel
theorem dX7_readOne_156 : decode cX7_readOne 156 = .ok (.iconst 0, 1) := by decide +kernel
theorem dX7_readOne_157 : decode cX7_readOne 157 = .ok (.iconst 0, 1) := by decide +kernel
theorem dX7_readOne_158 : decode cX7_readOne 158 = .ok (.iconst 0, 1) := by decide +kernel
theorem dX7_readOne_159 : decode cX7_readOne 159 = .ok (.invokevirtual 83, 3) := by decide +kernel
theorem dX7_readOne_162 : decode cX7_readOne 162 = .ok (.ifCond .eq 7, 3) := by decide +kernel
theorem dX7_readOne_165 : decode cX7_readOne 165 = .ok (.iconst 1, 1) := by decide +kernel
theorem dX7_readOne_166 : decode cX7_readOne 166 = .ok (.goto 4, 3) := by decide +kernel
theorem dX7_readOne_169 : decode cX7_readOne 169 = .ok (.iconst 0, 1) := by decide +kernel
theorem dX7_readOne_170 : decode cX7_readOne 170 = .ok (.ireturn, 1) := by decide +kernel
theorem dX7_readOne_171 : decode cX7_readOne 171 = .ok (.aload_n 0, 1) := by decide +kernel
theorem dX7_readOne_172 : decode cX7_readOne 172 = .ok (.iconst 3, 1) := by decide +kernel
theorem dX7_readOne_173 : decode cX7_readOne 173 = .ok (.iload 5, 2) := by decide +kernel
theorem dX7_readOne_175 : decode cX7_readOne 175 = .ok (.iconst 0, 1) := by decide +kernel
theorem dX7_readOne_176 : decode cX7_readOne 176 = .ok (.invokevirtual 83, 3) := by decide +kernel
theorem dX7_readOne_179 : decode cX7_readOne 179 = .ok (.ireturn, 1) := by decide +kernel
theorem dX7_readOne_180 : decode cX7_readOne 180 = .ok (.aload_n 0, 1) := by decide +kernel
theorem dX7_readOne_181 : decode cX7_readOne 181 = .ok (.aload_n 1, 1) := by decide +kernel
theorem dX7_readOne_182 : decode cX7_readOne 182 = .ok (.aload_n 2, 1) := by decide +kernel
theorem dX7_readOne_183 : decode cX7_readOne 183 = .ok (.invokevirtual 103, 3) := by decide +kernel
theorem dX7_readOne_186 : decode cX7_readOne 186 = .ok (.ireturn, 1) := by decide +kernel
theorem dX7_readOne_187 : decode cX7_readOne 187 = .ok (.aload_n 0, 1) := by decide +kernel
theorem dX7_readOne_188 : decode cX7_readOne 188 = .ok (.aload_n 1, 1) := by decide +kernel
theorem dX7_readOne_189 : decode cX7_readOne 189 = .ok (.iload 4, 2) := by decide +kernel
theorem dX7_readOne_191 : decode cX7_readOne 191 = .ok (.invokevirtual 107, 3) := by decide +kernel
theorem dX7_readOne_194 : decode cX7_readOne 194 = .ok (.ireturn, 1) := by decide +kernel
set_option maxHeartbeats 4000000 in
theorem w_l_Sent_readCond_46_0 {ad wad : Nat → Nat} {Γ : Ctx} (F : Nat) {nn : Nat} (hn : 5 ≤ nn) (hG : Cx SHc ad wad cX7_readCond 7 RX7 (some .boolean) (nn + 1) Γ) {q : Int32 × HS} {rc_X7_readCond : Int32 → HS → Option (Int32 × HS)} {rc_X7_readOne : Int32 → HS → Option (Int32 × HS)} {x3 : Int32} {K0 : HS → Option (Int32 × HS)} {g : Nat} {x4 : Int32} {x5 : Int32} {h : HS} (hd : l_Sent_readCond_46_0 F rc_X7_readCond rc_X7_readOne x3 K0 g x4 x5 h = some q) (hrc_X7_readCond : ∀ (b0 : Int32) (h : HS) (z : Int32 × HS), rc_X7_readCond b0 h = some z → Ctr SHc ad wad yX7_readCond cX7_readCond 7 (some .boolean) nn [.ref (ad 46), .ref (ad 1), .ref (ad 3), .int b0] h (some (.int z.1), z.2)) (hrc_X7_readOne : ∀ (b0 : Int32) (h : HS) (z : Int32 × HS), rc_X7_readOne b0 h = some z → Ctr SHc ad wad yX7_readOne cX7_readOne 6 (some .boolean) nn [.ref (ad 46), .ref (ad 1), .ref (ad 3), .int b0] h (some (.int z.1), z.2)) (hK0 : ∀ (z : HS), K0 z = some q → AW SHc ad 7 (some (.int q.1), q.2) Γ 99 [(1, .ref (ad 1))] [] z) : AW SHc ad 7 (some (.int q.1), q.2) Γ 18 [(0, .ref (ad 46)), (1, .ref (ad 1)), (2, .ref (ad 3)), (3, .int x3), (4, .int x4), (5, .int x5)] [] h := by
  induction g generalizing x4 x5 h with
  | zero => unfold l_Sent_readCond_46_0 at hd; cases hd
  | succ g ih =>
    unfold l_Sent_readCond_46_0 at hd
    refine a_iload (pc := 18) hG 5 rfl dX7_readCond_18 ?_
    refine a_bipush (pc := 20) hG dX7_readCond_20 (v := (nI 20)) rfl ?_
    refine a_ic_ge (pc := 22) hG (tgt := 99) hd dX7_readCond_22 (by decide) (fun hd => ?_) (fun hd => ?_)
    · exact AW.sub [1] rfl (hK0  _ hd)
    refine a_aload_n (pc := 25) hG 1 rfl dX7_readCond_25 rfl ?_
    refine a_gsW (pc := 26) hG 11 (by decide) t_1373 dX7_readCond_26 ?_
    refine a_cvI (pc := 29) hG (As := [.ref (wad 11)]) (st := []) sc_1 cl_X8 mk_X8_takeWord t_1375 (by omega) (fun z hz => c_Tape_takeWord F 11 _ (by decide) z hz) rfl (Nat.le_of_ble_eq_true rfl) hd dX7_readCond_29 (fun r6 h5 hd => ?_)
    refine a_istoreN (pc := 32) hG hd dX7_readCond_32 (by decide) (lf := fun x => [(6, .int x), (0, .ref (ad 46)), (1, .ref (ad 1)), (2, .ref (ad 3)), (3, .int x3), (4, .int x4), (5, .int x5)]) (fun _ => rfl) (fun v7 hd => ?_)
    refine a_iload (pc := 34) hG 0 rfl dX7_readCond_34 ?_
    refine a_join hd (Q := fun J : Int32 → HS → Option (Int32 × HS) => ∀ (v9 : Int32) (h10 : HS), J v9 h10 = some q → AW SHc ad 7 (some (.int q.1), q.2) Γ 68 [(0, .ref (ad 46)), (1, .ref (ad 1)), (2, .ref (ad 3)), (3, .int x3), (4, .int v9), (5, .int x5), (6, .int v7)] [] h10) (fun v9 h10 hd => ?_) (fun J8 hJ8 hd => ?_)
    · refine a_aload_n (pc := 68) hG 0 rfl dX7_readCond_68 rfl ?_
      refine a_aload_n (pc := 69) hG 1 rfl dX7_readCond_69 rfl ?_
      refine a_aload_n (pc := 70) hG 2 rfl dX7_readCond_70 rfl ?_
      refine a_iload_n (pc := 71) hG 3 rfl dX7_readCond_71 rfl ?_
      refine a_cvI (pc := 72) hG (As := [.ref (ad 1), .ref (ad 3), .int x3]) (st := []) sc_46 cl_X7 mk_X7_readOne t_1316 (by omega) (fun z hz => hrc_X7_readOne _ _ z hz) rfl (Nat.le_of_ble_eq_true rfl) hd dX7_readCond_72 (fun r12 h11 hd => ?_)
      refine a_if_ne (pc := 75) hG (tgt := 80) hd dX7_readCond_75 (by decide) (fun hd => ?_) (fun hd => ?_)
      · refine a_iload (pc := 80) hG 6 rfl dX7_readCond_80 ?_
        refine a_join hd (Q := fun J : HS → Option (Int32 × HS) => ∀  (h14 : HS), J  h14 = some q → AW SHc ad 7 (some (.int q.1), q.2) Γ 93 [(0, .ref (ad 46)), (1, .ref (ad 1)), (2, .ref (ad 3)), (3, .int x3), (4, .int v9), (5, .int x5)] [] h14) (fun  h14 hd => ?_) (fun J13 hJ13 hd => ?_)
        · refine a_iincN (pc := 93) hG (c0 := (nI 1)) 5 rfl hd dX7_readCond_93 rfl (by decide) (lf := fun x => [(5, .int x), (0, .ref (ad 46)), (1, .ref (ad 1)), (2, .ref (ad 3)), (3, .int x3), (4, .int v9)]) (fun _ => rfl) (fun v15 hd => ?_)
          refine a_goto (pc := 96) hG (tgt := 18) dX7_readCond_96 (by decide) ?_
          exact AW.sub [1, 2, 3, 4, 5, 0] rfl (ih hd)
        refine a_if_eq (pc := 82) hG (tgt := 93) hd dX7_readCond_82 (by decide) (fun hd => ?_) (fun hd => ?_)
        · exact AW.sub [0, 1, 2, 3, 4, 5] rfl (hJ13  _ hd)
        refine a_aload_n (pc := 85) hG 0 rfl dX7_readCond_85 rfl ?_
        refine a_iconst (pc := 86) hG dX7_readCond_86 (v := (nI 1)) rfl ?_
        refine a_iconst (pc := 87) hG dX7_readCond_87 (v := (nI 0)) rfl ?_
        refine a_iconst (pc := 88) hG dX7_readCond_88 (v := (nI 0)) rfl ?_
        refine a_cvI (pc := 89) hG (As := [.int (nI 1), .int (nI 0), .int (nI 0)]) (st := []) sc_46 cl_X7 mk_X7_add t_1356 (by omega) (fun z hz => c_Sent_add_46 (nI 1) (nI 0) (nI 0) _  z hz) rfl (Nat.le_of_ble_eq_true rfl) hd dX7_readCond_89 (fun r17 h16 hd => ?_)
        refine a_pop (pc := 92) hG dX7_readCond_92 rfl ?_
        exact AW.sub [0, 1, 2, 3, 4, 5] rfl (hJ13  _ hd)
      refine a_iconst (pc := 78) hG dX7_readCond_78 (v := (nI 0)) rfl ?_
      exact a_zret (pc := 79) hG hd dX7_readCond_79
    refine a_if_ne (pc := 36) hG (tgt := 68) hd dX7_readCond_36 (by decide) (fun hd => ?_) (fun hd => ?_)
    · exact AW.sub [1, 2, 3, 4, 5, 6, 0] rfl (hJ8 _ _ hd)
    refine a_iload (pc := 39) hG 5 rfl dX7_readCond_39 ?_
    refine a_join hd (Q := fun J : HS → Option (Int32 × HS) => ∀  (h19 : HS), J  h19 = some q → AW SHc ad 7 (some (.int q.1), q.2) Γ 52 [(0, .ref (ad 46)), (1, .ref (ad 1)), (2, .ref (ad 3)), (3, .int x3), (5, .int x5), (6, .int v7)] [] h19) (fun  h19 hd => ?_) (fun J18 hJ18 hd => ?_)
    · refine a_aload_n (pc := 52) hG 1 rfl dX7_readCond_52 rfl ?_
      refine a_gsW (pc := 53) hG 10 (by decide) t_1376 dX7_readCond_53 ?_
      refine a_cvI (pc := 56) hG (As := [.ref (wad 10)]) (st := []) sc_1 cl_X8 mk_X8_takeWord t_1375 (by omega) (fun z hz => c_Tape_takeWord F 10 _ (by decide) z hz) rfl (Nat.le_of_ble_eq_true rfl) hd dX7_readCond_56 (fun r21 h20 hd => ?_)
      refine a_istoreN (pc := 59) hG hd dX7_readCond_59 (by decide) (lf := fun x => [(4, .int x), (0, .ref (ad 46)), (1, .ref (ad 1)), (2, .ref (ad 3)), (3, .int x3), (5, .int x5), (6, .int v7)]) (fun _ => rfl) (fun v22 hd => ?_)
      refine a_iload (pc := 61) hG 0 rfl dX7_readCond_61 ?_
      refine a_if_ne (pc := 63) hG (tgt := 68) hd dX7_readCond_63 (by decide) (fun hd => ?_) (fun hd => ?_)
      · exact AW.sub [1, 2, 3, 4, 0, 5, 6] rfl (hJ8 _ _ hd)
      refine a_iconst (pc := 66) hG dX7_readCond_66 (v := (nI 1)) rfl ?_
      exact a_zret (pc := 67) hG hd dX7_readCond_67
    refine a_if_eq (pc := 41) hG (tgt := 52) hd dX7_readCond_41 (by decide) (fun hd => ?_) (fun hd => ?_)
    · exact AW.sub [1, 2, 3, 4, 6, 0] rfl (hJ18  _ hd)
    refine a_aload_n (pc := 44) hG 1 rfl dX7_readCond_44 rfl ?_
    refine a_iconst (pc := 45) hG dX7_readCond_45 (v := (nI 2)) rfl ?_
    refine a_iconst (pc := 46) hG dX7_readCond_46 (v := (nI 0)) rfl ?_
    refine a_iconst (pc := 47) hG dX7_readCond_47 (v := (nI 0)) rfl ?_
    refine a_cvI (pc := 48) hG (As := [.int (nI 2), .int (nI 0), .int (nI 0)]) (st := []) sc_46 cl_X7 mk_X7_add t_1356 (by omega) (fun z hz => c_Sent_add_46 (nI 2) (nI 0) (nI 0) _  z hz) rfl (Nat.le_of_ble_eq_true rfl) hd dX7_readCond_48 (fun r24 h23 hd => ?_)
    refine a_pop (pc := 51) hG dX7_readCond_51 rfl ?_
    exact AW.sub [1, 2, 3, 4, 6, 0] rfl (hJ18  _ hd)
set_option maxHeartbeats 4000000 in
theorem c_Sent_rd_r {ad wad : Nat → Nat} (F : Nat) : ∀ g : Nat, (∀ (a2 : Int32) (h : HS) (q : Int32 × HS) (_ : f_Sent_rd F g true a2 h = some q), Ctr SHc ad wad yX7_readCond cX7_readCond 7 (some .boolean) (5 + g) [.ref (ad 46), .ref (ad 1), .ref (ad 3), .int a2] h (some (.int q.1), q.2)) ∧ (∀ (a2 : Int32) (h : HS) (q : Int32 × HS) (_ : f_Sent_rd F g false a2 h = some q), Ctr SHc ad wad yX7_readOne cX7_readOne 6 (some .boolean) (5 + g) [.ref (ad 46), .ref (ad 1), .ref (ad 3), .int a2] h (some (.int q.1), q.2)) := by
  intro g
  induction g with
  | zero =>
    exact ⟨(fun a2 h q hd => by unfold f_Sent_rd at hd; cases hd), (fun a2 h q hd => by unfold f_Sent_rd at hd; cases hd)⟩
  | succ g ihc =>
    refine ⟨?_, ?_⟩
    · intro a2 h q hd
      show Ctr SHc ad wad yX7_readCond cX7_readCond 7 (some .boolean) (5 + g + 1) [.ref (ad 46), .ref (ad 1), .ref (ad 3), .int a2] h (some (.int q.1), q.2)
      refine enter (own := RX7) (lv := [(0, .ref (ad 46)), (1, .ref (ad 1)), (2, .ref (ad 3)), (3, .int a2)]) (by decide +kernel) rfl (Nat.le_of_ble_eq_true rfl) rfl (fun Γ hG => ?_)
      unfold f_Sent_rd at hd
      refine a_aload_n (pc := 0) hG 0 rfl dX7_readCond_0 rfl ?_
      refine a_aload_n (pc := 1) hG 1 rfl dX7_readCond_1 rfl ?_
      refine a_aload_n (pc := 2) hG 2 rfl dX7_readCond_2 rfl ?_
      refine a_iload_n (pc := 3) hG 3 rfl dX7_readCond_3 rfl ?_
      refine a_cvI (pc := 4) hG (As := [.ref (ad 1), .ref (ad 3), .int a2]) (st := []) sc_46 cl_X7 mk_X7_readOne t_1316 (by omega) (fun z hz => ihc.2 _ _ z hz) rfl (Nat.le_of_ble_eq_true rfl) hd dX7_readCond_4 (fun r2 h1 hd => ?_)
      refine a_if_ne (pc := 7) hG (tgt := 12) hd dX7_readCond_7 (by decide) (fun hd => ?_) (fun hd => ?_)
      · refine a_iconst (pc := 12) hG dX7_readCond_12 (v := (nI 0)) rfl ?_
        refine a_istoreN (pc := 13) hG hd dX7_readCond_13 (by decide) (lf := fun x => [(4, .int x), (0, .ref (ad 46)), (1, .ref (ad 1)), (2, .ref (ad 3)), (3, .int a2)]) (fun _ => rfl) (fun v3 hd => ?_)
        refine a_iconst (pc := 15) hG dX7_readCond_15 (v := (nI 0)) rfl ?_
        refine a_istoreN (pc := 16) hG hd dX7_readCond_16 (by decide) (lf := fun x => [(5, .int x), (4, .int v3), (0, .ref (ad 46)), (1, .ref (ad 1)), (2, .ref (ad 3)), (3, .int a2)]) (fun _ => rfl) (fun v4 hd => ?_)
        refine AW.sub [2, 3, 4, 5, 1, 0] rfl ?_
        refine w_l_Sent_readCond_46_0 F (by omega) hG hd ihc.1 ihc.2 (fun h25 hd => ?_)
        refine a_aload_n (pc := 99) hG 0 rfl dX7_readCond_99 rfl ?_
        refine a_iconst (pc := 100) hG dX7_readCond_100 (v := (nI 4)) rfl ?_
        refine a_cvI (pc := 101) hG (As := [.int (nI 4)]) (st := []) sc_1 cl_X8 mk_X8_fail t_1353 (by omega) (fun z hz => c_Tape_fail (nI 4) _  z hz) rfl (Nat.le_of_ble_eq_true rfl) hd dX7_readCond_101 (fun r27 h26 hd => ?_)
        exact a_zret (pc := 104) hG hd dX7_readCond_104
      refine a_iconst (pc := 10) hG dX7_readCond_10 (v := (nI 0)) rfl ?_
      exact a_zret (pc := 11) hG hd dX7_readCond_11
    · intro a2 h q hd
      show Ctr SHc ad wad yX7_readOne cX7_readOne 6 (some .boolean) (5 + g + 1) [.ref (ad 46), .ref (ad 1), .ref (ad 3), .int a2] h (some (.int q.1), q.2)
      refine enter (own := RX7) (lv := [(0, .ref (ad 46)), (1, .ref (ad 1)), (2, .ref (ad 3)), (3, .int a2)]) (by decide +kernel) rfl (Nat.le_of_ble_eq_true rfl) rfl (fun Γ hG => ?_)
      unfold f_Sent_rd at hd
      refine a_aload_n (pc := 0) hG 1 rfl dX7_readOne_0 rfl ?_
      refine a_csI (pc := 1) hG (As := [.ref (ad 1)]) (st := []) mk_X7_stepHere t_1320 (by omega) (fun z hz => c_Sent_stepHere  _  z hz) rfl (Nat.le_of_ble_eq_true rfl) hd dX7_readOne_1 (fun r2 h1 hd => ?_)
      refine a_istoreN (pc := 4) hG hd dX7_readOne_4 (by decide) (lf := fun x => [(4, .int x), (0, .ref (ad 46)), (1, .ref (ad 1)), (2, .ref (ad 3)), (3, .int a2)]) (fun _ => rfl) (fun v3 hd => ?_)
      refine a_iload (pc := 6) hG 0 rfl dX7_readOne_6 ?_
      refine a_iconst (pc := 8) hG dX7_readOne_8 (v := (-1 : Int32)) rfl ?_
      refine a_ic_ne (pc := 9) hG (tgt := 18) hd dX7_readOne_9 (by decide) (fun hd => ?_) (fun hd => ?_)
      · refine a_aload_n (pc := 18) hG 1 rfl dX7_readOne_18 rfl ?_
        refine a_getI (pc := 19) hG sc_46 cl_X7 ok_X7 4 (by decide) rfl t_370 dX7_readOne_19 ?_
        refine a_bipush (pc := 22) hG dX7_readOne_22 (v := (nI 20)) rfl ?_
        refine a_join hd (Q := fun J : HS → Option (Int32 × HS) => ∀  (h5 : HS), J  h5 = some q → AW SHc ad 6 (some (.int q.1), q.2) Γ 33 [(1, .ref (ad 1))] [] h5) (fun  h5 hd => ?_) (fun J4 hJ4 hd => ?_)
        · refine a_aload_n (pc := 33) hG 0 rfl dX7_readOne_33 rfl ?_
          refine a_iconst (pc := 34) hG dX7_readOne_34 (v := (nI 4)) rfl ?_
          refine a_cvI (pc := 35) hG (As := [.int (nI 4)]) (st := []) sc_1 cl_X8 mk_X8_fail t_1353 (by omega) (fun z hz => c_Tape_fail (nI 4) _  z hz) rfl (Nat.le_of_ble_eq_true rfl) hd dX7_readOne_35 (fun r7 h6 hd => ?_)
          exact a_zret (pc := 38) hG hd dX7_readOne_38
        refine a_ic_ge (pc := 24) hG (tgt := 33) hd dX7_readOne_24 (by decide) (fun hd => ?_) (fun hd => ?_)
        · exact AW.sub [2] rfl (hJ4  _ hd)
        refine a_iload_n (pc := 27) hG 4 rfl dX7_readOne_27 rfl ?_
        refine a_bipush (pc := 28) hG dX7_readOne_28 (v := (nI 8)) rfl ?_
        refine a_ic_le (pc := 30) hG (tgt := 39) hd dX7_readOne_30 (by decide) (fun hd => ?_) (fun hd => ?_)
        · refine a_aload_n (pc := 39) hG 1 rfl dX7_readOne_39 rfl ?_
          refine a_dup (pc := 40) hG dX7_readOne_40 rfl ?_
          refine a_getI (pc := 41) hG sc_46 cl_X7 ok_X7 4 (by decide) rfl t_370 dX7_readOne_41 ?_
          refine a_iconst (pc := 44) hG dX7_readOne_44 (v := (nI 1)) rfl ?_
          refine a_iadd (pc := 45) hG dX7_readOne_45 ?_
          refine a_putI (pc := 46) hG sc_46 cl_X7 ok_X7 4 (by decide) rfl t_370 rfl (ty := .int) rfl rfl rfl hd dX7_readOne_46 (fun h8 hd => ?_)
          refine a_aload_n (pc := 49) hG 2 rfl dX7_readOne_49 rfl ?_
          refine a_csI (pc := 50) hG (As := [.ref (ad 1)]) (st := []) mk_X7_stateHere t_1340 (by omega) (fun z hz => c_Sent_stateHere  _  z hz) rfl (Nat.le_of_ble_eq_true rfl) hd dX7_readOne_50 (fun r10 h9 hd => ?_)
          refine a_istoreN (pc := 53) hG hd dX7_readOne_53 (by decide) (lf := fun x => [(5, .int x), (4, .int v3), (0, .ref (ad 46)), (1, .ref (ad 1)), (2, .ref (ad 3)), (3, .int a2)]) (fun _ => rfl) (fun v11 hd => ?_)
          refine a_aload_n (pc := 55) hG 3 rfl dX7_readOne_55 rfl ?_
          refine a_cvN (pc := 56) hG (As := []) (st := []) sc_1 cl_X8 mk_X8_advance t_1354 (by omega) (fun z hz => c_Tape_advance F  _  z hz) rfl (Nat.le_of_ble_eq_true rfl) hd dX7_readOne_56 (fun _ h12 hd => ?_)
          refine a_iload (pc := 59) hG 1 rfl dX7_readOne_59 ?_
          refine a_join hd (Q := fun J : HS → Option (Int32 × HS) => ∀  (h14 : HS), J  h14 = some q → AW SHc ad 6 (some (.int q.1), q.2) Γ 187 [(0, .ref (ad 46)), (1, .ref (ad 1)), (4, .int v3)] [] h14) (fun  h14 hd => ?_) (fun J13 hJ13 hd => ?_)
          · refine a_aload_n (pc := 187) hG 0 rfl dX7_readOne_187 rfl ?_
            refine a_aload_n (pc := 188) hG 1 rfl dX7_readOne_188 rfl ?_
            refine a_iload (pc := 189) hG 2 rfl dX7_readOne_189 ?_
            refine a_cvI (pc := 191) hG (As := [.ref (ad 1), .int v3]) (st := []) sc_46 cl_X7 mk_X7_readMeasure t_1367 (by omega) (fun z hz => c_Sent_readMeasure_46 F v3 _  z hz) rfl (Nat.le_of_ble_eq_true rfl) hd dX7_readOne_191 (fun r16 h15 hd => ?_)
            exact a_zret (pc := 194) hG hd dX7_readOne_194
          refine a_tcase (pc := 61) hG ((nI 0)) (tgt := 143) hd dX7_readOne_61 (by decide) (by decide) rfl (by decide) (fun hd => ?_) (fun n0 hd => ?_)
          · refine a_aload_n (pc := 143) hG 2 rfl dX7_readOne_143 rfl ?_
            refine a_aload_n (pc := 144) hG 3 rfl dX7_readOne_144 rfl ?_
            refine a_aload_n (pc := 145) hG 4 rfl dX7_readOne_145 rfl ?_
            refine a_iload_n (pc := 146) hG 5 rfl dX7_readOne_146 rfl ?_
            refine a_iconst (pc := 147) hG dX7_readOne_147 (v := (nI 1)) rfl ?_
            refine a_iadd (pc := 148) hG dX7_readOne_148 ?_
            refine a_cvI (pc := 149) hG (As := [.ref (ad 1), .ref (ad 3), .int (a2 + (nI 1))]) (st := []) sc_46 cl_X7 mk_X7_readOne t_1316 (by omega) (fun z hz => ihc.2 _ _ z hz) rfl (Nat.le_of_ble_eq_true rfl) hd dX7_readOne_149 (fun r18 h17 hd => ?_)
            refine a_if_eq (pc := 152) hG (tgt := 169) hd dX7_readOne_152 (by decide) (fun hd => ?_) (fun hd => ?_)
            · refine a_iconst (pc := 169) hG dX7_readOne_169 (v := (nI 0)) rfl ?_
              exact a_zret (pc := 170) hG hd dX7_readOne_170
            refine a_aload_n (pc := 155) hG 2 rfl dX7_readOne_155 rfl ?_
            refine a_iconst (pc := 156) hG dX7_readOne_156 (v := (nI 0)) rfl ?_
            refine a_iconst (pc := 157) hG dX7_readOne_157 (v := (nI 0)) rfl ?_
            refine a_iconst (pc := 158) hG dX7_readOne_158 (v := (nI 0)) rfl ?_
            refine a_cvI (pc := 159) hG (As := [.int (nI 0), .int (nI 0), .int (nI 0)]) (st := []) sc_46 cl_X7 mk_X7_add t_1356 (by omega) (fun z hz => c_Sent_add_46 (nI 0) (nI 0) (nI 0) _  z hz) rfl (Nat.le_of_ble_eq_true rfl) hd dX7_readOne_159 (fun r20 h19 hd => ?_)
            refine a_if_eq (pc := 162) hG (tgt := 169) hd dX7_readOne_162 (by decide) (fun hd => ?_) (fun hd => ?_)
            · refine a_iconst (pc := 169) hG dX7_readOne_169 (v := (nI 0)) rfl ?_
              exact a_zret (pc := 170) hG hd dX7_readOne_170
            refine a_iconst (pc := 165) hG dX7_readOne_165 (v := (nI 1)) rfl ?_
            refine a_goto (pc := 166) hG (tgt := 170) dX7_readOne_166 (by decide) ?_
            exact a_zret (pc := 170) hG hd dX7_readOne_170
          refine a_tcase (pc := 61) hG ((nI 1)) (tgt := 187) hd dX7_readOne_61 (by decide) (by decide) rfl (by decide) (fun hd => ?_) (fun n1 hd => ?_)
          · exact AW.sub [2, 3, 1] rfl (hJ13  _ hd)
          refine a_tcase (pc := 61) hG ((nI 2)) (tgt := 187) hd dX7_readOne_61 (by decide) (by decide) rfl (by decide) (fun hd => ?_) (fun n2 hd => ?_)
          · exact AW.sub [2, 3, 1] rfl (hJ13  _ hd)
          refine a_tcase (pc := 61) hG ((nI 3)) (tgt := 171) hd dX7_readOne_61 (by decide) (by decide) rfl (by decide) (fun hd => ?_) (fun n3 hd => ?_)
          · refine a_aload_n (pc := 171) hG 2 rfl dX7_readOne_171 rfl ?_
            refine a_iconst (pc := 172) hG dX7_readOne_172 (v := (nI 3)) rfl ?_
            refine a_iload (pc := 173) hG 0 rfl dX7_readOne_173 ?_
            refine a_iconst (pc := 175) hG dX7_readOne_175 (v := (nI 0)) rfl ?_
            refine a_cvI (pc := 176) hG (As := [.int (nI 3), .int v11, .int (nI 0)]) (st := []) sc_46 cl_X7 mk_X7_add t_1356 (by omega) (fun z hz => c_Sent_add_46 (nI 3) v11 (nI 0) _  z hz) rfl (Nat.le_of_ble_eq_true rfl) hd dX7_readOne_176 (fun r22 h21 hd => ?_)
            exact a_zret (pc := 179) hG hd dX7_readOne_179
          refine a_tcase (pc := 61) hG ((nI 4)) (tgt := 180) hd dX7_readOne_61 (by decide) (by decide) rfl (by decide) (fun hd => ?_) (fun n4 hd => ?_)
          · refine a_aload_n (pc := 180) hG 2 rfl dX7_readOne_180 rfl ?_
            refine a_aload_n (pc := 181) hG 3 rfl dX7_readOne_181 rfl ?_
            refine a_aload_n (pc := 182) hG 4 rfl dX7_readOne_182 rfl ?_
            refine a_cvI (pc := 183) hG (As := [.ref (ad 1), .ref (ad 3)]) (st := []) sc_46 cl_X7 mk_X7_readHad t_1360 (by omega) (fun z hz => c_Sent_readHad_46 F  _  z hz) rfl (Nat.le_of_ble_eq_true rfl) hd dX7_readOne_183 (fun r24 h23 hd => ?_)
            exact a_zret (pc := 186) hG hd dX7_readOne_186
          refine a_tcase (pc := 61) hG ((nI 5)) (tgt := 187) hd dX7_readOne_61 (by decide) (by decide) rfl (by decide) (fun hd => ?_) (fun n5 hd => ?_)
          · exact AW.sub [2, 3, 1] rfl (hJ13  _ hd)
          refine a_tcase (pc := 61) hG ((nI 6)) (tgt := 187) hd dX7_readOne_61 (by decide) (by decide) rfl (by decide) (fun hd => ?_) (fun n6 hd => ?_)
          · exact AW.sub [2, 3, 1] rfl (hJ13  _ hd)
          refine a_tcase (pc := 61) hG ((nI 7)) (tgt := 187) hd dX7_readOne_61 (by decide) (by decide) rfl (by decide) (fun hd => ?_) (fun n7 hd => ?_)
          · exact AW.sub [2, 3, 1] rfl (hJ13  _ hd)
          refine a_tcase (pc := 61) hG ((nI 8)) (tgt := 187) hd dX7_readOne_61 (by decide) (by decide) rfl (by decide) (fun hd => ?_) (fun n8 hd => ?_)
          · exact AW.sub [2, 3, 1] rfl (hJ13  _ hd)
          refine a_tcase (pc := 61) hG ((nI 9)) (tgt := 116) hd dX7_readOne_61 (by decide) (by decide) rfl (by decide) (fun hd => ?_) (fun n9 hd => ?_)
          · refine a_aload_n (pc := 116) hG 2 rfl dX7_readOne_116 rfl ?_
            refine a_aload_n (pc := 117) hG 3 rfl dX7_readOne_117 rfl ?_
            refine a_aload_n (pc := 118) hG 4 rfl dX7_readOne_118 rfl ?_
            refine a_iload_n (pc := 119) hG 5 rfl dX7_readOne_119 rfl ?_
            refine a_iconst (pc := 120) hG dX7_readOne_120 (v := (nI 1)) rfl ?_
            refine a_iadd (pc := 121) hG dX7_readOne_121 ?_
            refine a_cvI (pc := 122) hG (As := [.ref (ad 1), .ref (ad 3), .int (a2 + (nI 1))]) (st := []) sc_46 cl_X7 mk_X7_readCond t_1312 (by omega) (fun z hz => ihc.1 _ _ z hz) rfl (Nat.le_of_ble_eq_true rfl) hd dX7_readOne_122 (fun r26 h25 hd => ?_)
            refine a_if_eq (pc := 125) hG (tgt := 141) hd dX7_readOne_125 (by decide) (fun hd => ?_) (fun hd => ?_)
            · refine a_iconst (pc := 141) hG dX7_readOne_141 (v := (nI 0)) rfl ?_
              exact a_zret (pc := 142) hG hd dX7_readOne_142
            refine a_aload_n (pc := 128) hG 3 rfl dX7_readOne_128 rfl ?_
            refine a_bipush (pc := 129) hG dX7_readOne_129 (v := (nI 41)) rfl ?_
            refine a_cvI (pc := 131) hG (As := [.int (nI 41)]) (st := []) sc_1 cl_X8 mk_X8_takeSign t_1355 (by omega) (fun z hz => c_Tape_takeSign F (nI 41) _  z hz) rfl (Nat.le_of_ble_eq_true rfl) hd dX7_readOne_131 (fun r28 h27 hd => ?_)
            refine a_if_eq (pc := 134) hG (tgt := 141) hd dX7_readOne_134 (by decide) (fun hd => ?_) (fun hd => ?_)
            · refine a_iconst (pc := 141) hG dX7_readOne_141 (v := (nI 0)) rfl ?_
              exact a_zret (pc := 142) hG hd dX7_readOne_142
            refine a_iconst (pc := 137) hG dX7_readOne_137 (v := (nI 1)) rfl ?_
            refine a_goto (pc := 138) hG (tgt := 142) dX7_readOne_138 (by decide) ?_
            exact a_zret (pc := 142) hG hd dX7_readOne_142
          refine a_tdef (pc := 61) hG (tgt := 187) dX7_readOne_61 (by have en0 := sw_ne (z := 0) rfl n0; have en1 := sw_ne (z := 1) rfl n1; have en2 := sw_ne (z := 2) rfl n2; have en3 := sw_ne (z := 3) rfl n3; have en4 := sw_ne (z := 4) rfl n4; have en5 := sw_ne (z := 5) rfl n5; have en6 := sw_ne (z := 6) rfl n6; have en7 := sw_ne (z := 7) rfl n7; have en8 := sw_ne (z := 8) rfl n8; have en9 := sw_ne (z := 9) rfl n9; omega) (by decide) ?_
          exact AW.sub [2, 3, 1] rfl (hJ13  _ hd)
        exact AW.sub [2] rfl (hJ4  _ hd)
      refine a_aload_n (pc := 12) hG 2 rfl dX7_readOne_12 rfl ?_
      refine a_iconst (pc := 13) hG dX7_readOne_13 (v := (nI 1)) rfl ?_
      refine a_cvI (pc := 14) hG (As := [.int (nI 1)]) (st := []) sc_1 cl_X8 mk_X8_fail t_1353 (by omega) (fun z hz => c_Tape_fail (nI 1) _  z hz) rfl (Nat.le_of_ble_eq_true rfl) hd dX7_readOne_14 (fun r30 h29 hd => ?_)
      exact a_zret (pc := 17) hG hd dX7_readOne_17

theorem c_Sent_readCond_46 {ad wad : Nat → Nat} (F g : Nat) (a2 : Int32) (h : HS) (q : Int32 × HS) (hd : f_Sent_rd F g true a2 h = some q) : Ctr SHc ad wad yX7_readCond cX7_readCond 7 (some .boolean) (5 + g) [.ref (ad 46), .ref (ad 1), .ref (ad 3), .int a2] h (some (.int q.1), q.2) := (c_Sent_rd_r F g).1 a2 h q hd

theorem c_Sent_readOne_46 {ad wad : Nat → Nat} (F g : Nat) (a2 : Int32) (h : HS) (q : Int32 × HS) (hd : f_Sent_rd F g false a2 h = some q) : Ctr SHc ad wad yX7_readOne cX7_readOne 6 (some .boolean) (5 + g) [.ref (ad 46), .ref (ad 1), .ref (ad 3), .int a2] h (some (.int q.1), q.2) := (c_Sent_rd_r F g).2 a2 h q hd

