theorem dX9_isLighter_0 : decode cX9_isLighter 0 = .ok (.iload_n 1, 1) := by decide +kernel
theorem dX9_isLighter_1 : decode cX9_isLighter 1 = .ok (.invokestatic 64, 3) := by decide +kernel
theorem dX9_isLighter_4 : decode cX9_isLighter 4 = .ok (.istore_n 3, 1) := by decide +kernel
theorem dX9_isLighter_5 : decode cX9_isLighter 5 = .ok (.iload_n 2, 1) := by decide +kernel
theorem dX9_isLighter_6 : decode cX9_isLighter 6 = .ok (.invokestatic 64, 3) := by decide +kernel
theorem dX9_isLighter_9 : decode cX9_isLighter 9 = .ok (.istore 4, 2) := by decide +kernel
theorem dX9_isLighter_11 : decode cX9_isLighter 11 = .ok (.iload_n 3, 1) := by decide +kernel
theorem dX9_isLighter_12 : decode cX9_isLighter 12 = .ok (.iload 4, 2) := by decide +kernel
theorem dX9_isLighter_14 : decode cX9_isLighter 14 = .ok (.if_icmp .eq 17, 3) := by decide +kernel
theorem dX9_isLighter_17 : decode cX9_isLighter 17 = .ok (.iload_n 3, 1) := by decide +kernel
theorem dX9_isLighter_18 : decode cX9_isLighter 18 = .ok (.iload 4, 2) := by decide +kernel
theorem dX9_isLighter_20 : decode cX9_isLighter 20 = .ok (.if_icmp .ge 7, 3) := by decide +kernel
theorem dX9_isLighter_23 : decode cX9_isLighter 23 = .ok (.iconst 1, 1) := by decide +kernel
theorem dX9_isLighter_24 : decode cX9_isLighter 24 = .ok (.goto 27, 3) := by decide +kernel
theorem dX9_isLighter_27 : decode cX9_isLighter 27 = .ok (.iconst 0, 1) := by decide +kernel
theorem dX9_isLighter_28 : decode cX9_isLighter 28 = .ok (.goto 23, 3) := by decide +kernel
theorem dX9_isLighter_31 : decode cX9_isLighter 31 = .ok (.aload_n 0, 1) := by decide +kernel
theorem dX9_isLighter_32 : decode cX9_isLighter 32 = .ok (.getfield 18, 3) := by decide +kernel
theorem dX9_isLighter_35 : decode cX9_isLighter 35 = .ok (.iload_n 1, 1) := by decide +kernel
theorem dX9_isLighter_36 : decode cX9_isLighter 36 = .ok (.iaload, 1) := by decide +kernel
theorem dX9_isLighter_37 : decode cX9_isLighter 37 = .ok (.aload_n 0, 1) := by decide +kernel
theorem dX9_isLighter_38 : decode cX9_isLighter 38 = .ok (.getfield 18, 3) := by decide +kernel
theorem dX9_isLighter_41 : decode cX9_isLighter 41 = .ok (.iload_n 2, 1) := by decide +kernel
theorem dX9_isLighter_42 : decode cX9_isLighter 42 = .ok (.iaload, 1) := by decide +kernel
theorem dX9_isLighter_43 : decode cX9_isLighter 43 = .ok (.if_icmp .ge 7, 3) := by decide +kernel
theorem dX9_isLighter_46 : decode cX9_isLighter 46 = .ok (.iconst 1, 1) := by decide +kernel
theorem dX9_isLighter_47 : decode cX9_isLighter 47 = .ok (.goto 4, 3) := by decide +kernel
theorem dX9_isLighter_50 : decode cX9_isLighter 50 = .ok (.iconst 0, 1) := by decide +kernel
theorem dX9_isLighter_51 : decode cX9_isLighter 51 = .ok (.ireturn, 1) := by decide +kernel
set_option maxHeartbeats 4000000 in
theorem c_Ways_isLighter {ad wad : Nat → Nat} (a0 : Int32) (a1 : Int32) (h : HS)  (q : Int32 × HS) (hd : f_Ways_isLighter a0 a1 h = some q) : Ctr SHc ad wad yX9_isLighter cX9_isLighter 5 (some .boolean) 2 [.ref (ad 31), .int a0, .int a1] h (some (.int q.1), q.2) := by
  refine enter (own := RX9) (lv := [(0, .ref (ad 31)), (1, .int a0), (2, .int a1)]) (by decide +kernel) rfl (Nat.le_of_ble_eq_true rfl) rfl (fun Γ hG => ?_)
  unfold f_Ways_isLighter at hd
  refine a_iload_n (pc := 0) hG 1 rfl dX9_isLighter_0 rfl ?_
  refine a_csI (pc := 1) hG (As := [.int a0]) (st := []) mk_J6_bitCount_0f7a4 t_959 (by omega) (fun z hz => c_Int_bitCount_0f7a4 a0 _  z hz) rfl (Nat.le_of_ble_eq_true rfl) hd dX9_isLighter_1 (fun r2 h1 hd => ?_)
  refine a_istore_nN (pc := 4) hG hd dX9_isLighter_4 rfl (by decide) (lf := fun x => [(3, .int x), (0, .ref (ad 31)), (1, .int a0), (2, .int a1)]) (fun _ => rfl) (fun v3 hd => ?_)
  refine a_iload_n (pc := 5) hG 3 rfl dX9_isLighter_5 rfl ?_
  refine a_csI (pc := 6) hG (As := [.int a1]) (st := []) mk_J6_bitCount_0f7a4 t_959 (by omega) (fun z hz => c_Int_bitCount_0f7a4 a1 _  z hz) rfl (Nat.le_of_ble_eq_true rfl) hd dX9_isLighter_6 (fun r5 h4 hd => ?_)
  refine a_istoreN (pc := 9) hG hd dX9_isLighter_9 (by decide) (lf := fun x => [(4, .int x), (3, .int v3), (0, .ref (ad 31)), (1, .int a0), (2, .int a1)]) (fun _ => rfl) (fun v6 hd => ?_)
  refine a_iload_n (pc := 11) hG 1 rfl dX9_isLighter_11 rfl ?_
  refine a_iload (pc := 12) hG 0 rfl dX9_isLighter_12 ?_
  refine a_ic_eq (pc := 14) hG (tgt := 31) hd dX9_isLighter_14 (by decide) (fun hd => ?_) (fun hd => ?_)
  · refine a_aload_n (pc := 31) hG 2 rfl dX9_isLighter_31 rfl ?_
    refine a_getR (pc := 32) hG sc_31 cl_X9 ok_X9 4 (by decide) rfl t_292 dX9_isLighter_32 ?_
    refine a_iload_n (pc := 35) hG 3 rfl dX9_isLighter_35 rfl ?_
    refine a_iald (pc := 36) hG sc_34 hd dX9_isLighter_36 (fun hd => ?_)
    refine a_aload_n (pc := 37) hG 2 rfl dX9_isLighter_37 rfl ?_
    refine a_getR (pc := 38) hG sc_31 cl_X9 ok_X9 4 (by decide) rfl t_292 dX9_isLighter_38 ?_
    refine a_iload_n (pc := 41) hG 4 rfl dX9_isLighter_41 rfl ?_
    refine a_iald (pc := 42) hG sc_34 hd dX9_isLighter_42 (fun hd => ?_)
    refine a_ic_ge (pc := 43) hG (tgt := 50) hd dX9_isLighter_43 (by decide) (fun hd => ?_) (fun hd => ?_)
    · refine a_iconst (pc := 50) hG dX9_isLighter_50 (v := (nI 0)) rfl ?_
      exact a_zret (pc := 51) hG hd dX9_isLighter_51
    refine a_iconst (pc := 46) hG dX9_isLighter_46 (v := (nI 1)) rfl ?_
    refine a_goto (pc := 47) hG (tgt := 51) dX9_isLighter_47 (by decide) ?_
    exact a_zret (pc := 51) hG hd dX9_isLighter_51
  refine a_iload_n (pc := 17) hG 1 rfl dX9_isLighter_17 rfl ?_
  refine a_iload (pc := 18) hG 0 rfl dX9_isLighter_18 ?_
  refine a_ic_ge (pc := 20) hG (tgt := 27) hd dX9_isLighter_20 (by decide) (fun hd => ?_) (fun hd => ?_)
  · refine a_iconst (pc := 27) hG dX9_isLighter_27 (v := (nI 0)) rfl ?_
    refine a_goto (pc := 28) hG (tgt := 51) dX9_isLighter_28 (by decide) ?_
    exact a_zret (pc := 51) hG hd dX9_isLighter_51
  refine a_iconst (pc := 23) hG dX9_isLighter_23 (v := (nI 1)) rfl ?_
  refine a_goto (pc := 24) hG (tgt := 51) dX9_isLighter_24 (by decide) ?_
  exact a_zret (pc := 51) hG hd dX9_isLighter_51
theorem dX9_plotSet_0 : decode cX9_plotSet 0 = .ok (.iconst (-1), 1) := by decide +kernel
theorem dX9_plotSet_1 : decode cX9_plotSet 1 = .ok (.istore_n 2, 1) := by decide +kernel
theorem dX9_plotSet_2 : decode cX9_plotSet 2 = .ok (.iconst 0, 1) := by decide +kernel
theorem dX9_plotSet_3 : decode cX9_plotSet 3 = .ok (.istore_n 3, 1) := by decide +kernel
theorem dX9_plotSet_4 : decode cX9_plotSet 4 = .ok (.iload_n 3, 1) := by decide +kernel
theorem dX9_plotSet_5 : decode cX9_plotSet 5 = .ok (.aload_n 0, 1) := by decide +kernel
theorem dX9_plotSet_6 : decode cX9_plotSet 6 = .ok (.getfield 24, 3) := by decide +kernel
theorem dX9_plotSet_9 : decode cX9_plotSet 9 = .ok (.if_icmp .ge 43, 3) := by decide +kernel
theorem dX9_plotSet_12 : decode cX9_plotSet 12 = .ok (.aload_n 0, 1) := by decide +kernel
theorem dX9_plotSet_13 : decode cX9_plotSet 13 = .ok (.iload_n 1, 1) := by decide +kernel
theorem dX9_plotSet_14 : decode cX9_plotSet 14 = .ok (.iload_n 3, 1) := by decide +kernel
theorem dX9_plotSet_15 : decode cX9_plotSet 15 = .ok (.invokevirtual 87, 3) := by decide +kernel
theorem dX9_plotSet_18 : decode cX9_plotSet 18 = .ok (.ifCond .eq 28, 3) := by decide +kernel
theorem dX9_plotSet_21 : decode cX9_plotSet 21 = .ok (.aload_n 0, 1) := by decide +kernel
theorem dX9_plotSet_22 : decode cX9_plotSet 22 = .ok (.iload_n 1, 1) := by decide +kernel
theorem dX9_plotSet_23 : decode cX9_plotSet 23 = .ok (.iload_n 3, 1) := by decide +kernel
theorem dX9_plotSet_24 : decode cX9_plotSet 24 = .ok (.invokevirtual 100, 3) := by decide +kernel
theorem dX9_plotSet_27 : decode cX9_plotSet 27 = .ok (.ifCond .ne 19, 3) := by decide +kernel
theorem dX9_plotSet_30 : decode cX9_plotSet 30 = .ok (.iload_n 2, 1) := by decide +kernel
theorem dX9_plotSet_31 : decode cX9_plotSet 31 = .ok (.iconst (-1), 1) := by decide +kernel
theorem dX9_plotSet_32 : decode cX9_plotSet 32 = .ok (.if_icmp .eq 12, 3) := by decide +kernel
theorem dX9_plotSet_35 : decode cX9_plotSet 35 = .ok (.aload_n 0, 1) := by decide +kernel
theorem dX9_plotSet_36 : decode cX9_plotSet 36 = .ok (.iload_n 3, 1) := by decide +kernel
theorem dX9_plotSet_37 : decode cX9_plotSet 37 = .ok (.iload_n 2, 1) := by decide +kernel
theorem dX9_plotSet_38 : decode cX9_plotSet 38 = .ok (.invokevirtual 103, 3) := by decide +kernel
theorem dX9_plotSet_41 : decode cX9_plotSet 41 = .ok (.ifCond .eq 5, 3) := by decide +kernel
theorem dX9_plotSet_44 : decode cX9_plotSet 44 = .ok (.iload_n 3, 1) := by decide +kernel
theorem dX9_plotSet_45 : decode cX9_plotSet 45 = .ok (.istore_n 2, 1) := by decide +kernel
theorem dX9_plotSet_46 : decode cX9_plotSet 46 = .ok (.iinc 3 1, 3) := by decide +kernel
theorem dX9_plotSet_49 : decode cX9_plotSet 49 = .ok (.goto (-45), 3) := by decide +kernel
theorem dX9_plotSet_52 : decode cX9_plotSet 52 = .ok (.iload_n 2, 1) := by decide +kernel
theorem dX9_plotSet_53 : decode cX9_plotSet 53 = .ok (.ireturn, 1) := by decide +kernel
set_option maxHeartbeats 4000000 in
theorem w_l_Ways_plotSet_0 {ad wad : Nat → Nat} {Γ : Ctx} (F : Nat) {n : Nat} (hn : 4 ≤ n) (hG : Cx SHc ad wad cX9_plotSet 4 RX9 (some .int) (n) Γ) {q : Int32 × HS} {x1 : Int32} {g : Nat} {x2 : Int32} {x3 : Int32} {h : HS} (hd : l_Ways_plotSet_0 F x1 g x2 x3 h = some q) : AW SHc ad 4 (some (.int q.1), q.2) Γ 4 [(0, .ref (ad 31)), (1, .int x1), (2, .int x2), (3, .int x3)] [] h := by
  induction g generalizing x2 x3 h with
  | zero => unfold l_Ways_plotSet_0 at hd; cases hd
  | succ g ih =>
    unfold l_Ways_plotSet_0 at hd
    refine a_iload_n (pc := 4) hG 3 rfl dX9_plotSet_4 rfl ?_
    refine a_aload_n (pc := 5) hG 0 rfl dX9_plotSet_5 rfl ?_
    refine a_getI (pc := 6) hG sc_31 cl_X9 ok_X9 6 (by decide) rfl t_294 dX9_plotSet_6 ?_
    refine a_ic_ge (pc := 9) hG (tgt := 52) hd dX9_plotSet_9 (by decide) (fun hd => ?_) (fun hd => ?_)
    · refine a_iload_n (pc := 52) hG 2 rfl dX9_plotSet_52 rfl ?_
      exact a_iret (pc := 53) hG hd dX9_plotSet_53
    refine a_aload_n (pc := 12) hG 0 rfl dX9_plotSet_12 rfl ?_
    refine a_iload_n (pc := 13) hG 1 rfl dX9_plotSet_13 rfl ?_
    refine a_iload_n (pc := 14) hG 3 rfl dX9_plotSet_14 rfl ?_
    refine a_cvI (pc := 15) hG (As := [.int x1, .int x3]) (st := []) sc_31 cl_X9 mk_X9_canStillDo t_1079 (by omega) (fun z hz => c_Ways_canStillDo x1 x3 _  z hz) rfl (Nat.le_of_ble_eq_true rfl) hd dX9_plotSet_15 (fun r4 h3 hd => ?_)
    refine a_join hd (Q := fun J : Int32 → HS → Option (Int32 × HS) => ∀ (v6 : Int32) (h7 : HS), J v6 h7 = some q → AW SHc ad 4 (some (.int q.1), q.2) Γ 46 [(0, .ref (ad 31)), (1, .int x1), (2, .int v6), (3, .int x3)] [] h7) (fun v6 h7 hd => ?_) (fun J5 hJ5 hd => ?_)
    · refine a_iincN (pc := 46) hG (c0 := (nI 1)) 3 rfl hd dX9_plotSet_46 rfl (by decide) (lf := fun x => [(3, .int x), (0, .ref (ad 31)), (1, .int x1), (2, .int v6)]) (fun _ => rfl) (fun v8 hd => ?_)
      refine a_goto (pc := 49) hG (tgt := 4) dX9_plotSet_49 (by decide) ?_
      exact AW.sub [1, 2, 3, 0] rfl (ih hd)
    refine a_if_eq (pc := 18) hG (tgt := 46) hd dX9_plotSet_18 (by decide) (fun hd => ?_) (fun hd => ?_)
    · exact AW.sub [0, 1, 2, 3] rfl (hJ5 _ _ hd)
    refine a_aload_n (pc := 21) hG 0 rfl dX9_plotSet_21 rfl ?_
    refine a_iload_n (pc := 22) hG 1 rfl dX9_plotSet_22 rfl ?_
    refine a_iload_n (pc := 23) hG 3 rfl dX9_plotSet_23 rfl ?_
    refine a_cvI (pc := 24) hG (As := [.int x1, .int x3]) (st := []) sc_31 cl_X9 mk_X9_isSafeBehind t_1088 (by omega) (fun z hz => c_Ways_isSafeBehind x1 x3 _  z hz) rfl (Nat.le_of_ble_eq_true rfl) hd dX9_plotSet_24 (fun r10 h9 hd => ?_)
    refine a_if_ne (pc := 27) hG (tgt := 46) hd dX9_plotSet_27 (by decide) (fun hd => ?_) (fun hd => ?_)
    · exact AW.sub [0, 1, 2, 3] rfl (hJ5 _ _ hd)
    refine a_iload_n (pc := 30) hG 2 rfl dX9_plotSet_30 rfl ?_
    refine a_iconst (pc := 31) hG dX9_plotSet_31 (v := (-1 : Int32)) rfl ?_
    refine a_join hd (Q := fun J : HS → Option (Int32 × HS) => ∀  (h12 : HS), J  h12 = some q → AW SHc ad 4 (some (.int q.1), q.2) Γ 44 [(0, .ref (ad 31)), (1, .int x1), (3, .int x3)] [] h12) (fun  h12 hd => ?_) (fun J11 hJ11 hd => ?_)
    · refine a_iload_n (pc := 44) hG 2 rfl dX9_plotSet_44 rfl ?_
      refine a_istore_nN (pc := 45) hG hd dX9_plotSet_45 rfl (by decide) (lf := fun x => [(2, .int x), (0, .ref (ad 31)), (1, .int x1), (3, .int x3)]) (fun _ => rfl) (fun v13 hd => ?_)
      exact AW.sub [1, 2, 0, 3] rfl (hJ5 _ _ hd)
    refine a_ic_eq (pc := 32) hG (tgt := 44) hd dX9_plotSet_32 (by decide) (fun hd => ?_) (fun hd => ?_)
    · exact AW.sub [0, 1, 3] rfl (hJ11  _ hd)
    refine a_aload_n (pc := 35) hG 0 rfl dX9_plotSet_35 rfl ?_
    refine a_iload_n (pc := 36) hG 3 rfl dX9_plotSet_36 rfl ?_
    refine a_iload_n (pc := 37) hG 2 rfl dX9_plotSet_37 rfl ?_
    refine a_cvI (pc := 38) hG (As := [.int x3, .int x2]) (st := []) sc_31 cl_X9 mk_X9_isLighter t_1100 (by omega) (fun z hz => c_Ways_isLighter x3 x2 _  z hz) rfl (Nat.le_of_ble_eq_true rfl) hd dX9_plotSet_38 (fun r15 h14 hd => ?_)
    refine a_if_eq (pc := 41) hG (tgt := 46) hd dX9_plotSet_41 (by decide) (fun hd => ?_) (fun hd => ?_)
    · exact AW.sub [0, 1, 2, 3] rfl (hJ5 _ _ hd)
    exact AW.sub [0, 1, 3] rfl (hJ11  _ hd)
set_option maxHeartbeats 4000000 in
theorem c_Ways_plotSet {ad wad : Nat → Nat} (F : Nat) (a0 : Int32) (h : HS)  (q : Int32 × HS) (hd : f_Ways_plotSet F a0 h = some q) : Ctr SHc ad wad yX9_plotSet cX9_plotSet 4 (some .int) 4 [.ref (ad 31), .int a0] h (some (.int q.1), q.2) := by
  refine enter (own := RX9) (lv := [(0, .ref (ad 31)), (1, .int a0)]) (by decide +kernel) rfl (Nat.le_of_ble_eq_true rfl) rfl (fun Γ hG => ?_)
  unfold f_Ways_plotSet at hd
  refine a_iconst (pc := 0) hG dX9_plotSet_0 (v := (-1 : Int32)) rfl ?_
  refine a_istore_nN (pc := 1) hG hd dX9_plotSet_1 rfl (by decide) (lf := fun x => [(2, .int x), (0, .ref (ad 31)), (1, .int a0)]) (fun _ => rfl) (fun v1 hd => ?_)
  refine a_iconst (pc := 2) hG dX9_plotSet_2 (v := (nI 0)) rfl ?_
  refine a_istore_nN (pc := 3) hG hd dX9_plotSet_3 rfl (by decide) (lf := fun x => [(3, .int x), (2, .int v1), (0, .ref (ad 31)), (1, .int a0)]) (fun _ => rfl) (fun v2 hd => ?_)
  refine AW.sub [2, 3, 1, 0] rfl ?_
  exact w_l_Ways_plotSet_0 F (by omega) hG hd
theorem dX11_plot_0 : decode cX11_plot 0 = .ok (.aload_n 0, 1) := by decide +kernel
theorem dX11_plot_1 : decode cX11_plot 1 = .ok (.getfield 19, 3) := by decide +kernel
theorem dX11_plot_4 : decode cX11_plot 4 = .ok (.iload_n 1, 1) := by decide +kernel
theorem dX11_plot_5 : decode cX11_plot 5 = .ok (.invokevirtual 147, 3) := by decide +kernel
theorem dX11_plot_8 : decode cX11_plot 8 = .ok (.ifCond .eq 14, 3) := by decide +kernel
theorem dX11_plot_11 : decode cX11_plot 11 = .ok (.aload_n 0, 1) := by decide +kernel
theorem dX11_plot_12 : decode cX11_plot 12 = .ok (.getfield 49, 3) := by decide +kernel
theorem dX11_plot_15 : decode cX11_plot 15 = .ok (.iload_n 1, 1) := by decide +kernel
theorem dX11_plot_16 : decode cX11_plot 16 = .ok (.invokevirtual 259, 3) := by decide +kernel
theorem dX11_plot_19 : decode cX11_plot 19 = .ok (.goto 4, 3) := by decide +kernel
theorem dX11_plot_22 : decode cX11_plot 22 = .ok (.iconst (-1), 1) := by decide +kernel
theorem dX11_plot_23 : decode cX11_plot 23 = .ok (.ireturn, 1) := by decide +kernel
set_option maxHeartbeats 4000000 in
theorem c_LC_plot {ad wad : Nat → Nat} (F : Nat) (a0 : Int32) (h : HS)  (q : Int32 × HS) (hd : f_LC_plot F a0 h = some q) : Ctr SHc ad wad yX11_plot cX11_plot 2 (some .int) 5 [.ref (ad 0), .int a0] h (some (.int q.1), q.2) := by
  refine enter (own := RX11) (lv := [(0, .ref (ad 0)), (1, .int a0)]) (by decide +kernel) rfl (Nat.le_of_ble_eq_true rfl) rfl (fun Γ hG => ?_)
  unfold f_LC_plot at hd
  refine a_aload_n (pc := 0) hG 0 rfl dX11_plot_0 rfl ?_
  refine a_getR (pc := 1) hG sc_0 cl_X11 ok_X11 1 (by decide) rfl t_482 dX11_plot_1 ?_
  refine a_iload_n (pc := 4) hG 1 rfl dX11_plot_4 rfl ?_
  refine a_cvI (pc := 5) hG (As := [.int a0]) (st := []) sc_3 cl_X5 mk_X5_hasCause t_818 (by omega) (fun z hz => c_Plan_hasCause_3 a0 _  z hz) rfl (Nat.le_of_ble_eq_true rfl) hd dX11_plot_5 (fun r2 h1 hd => ?_)
  refine a_if_eq (pc := 8) hG (tgt := 22) hd dX11_plot_8 (by decide) (fun hd => ?_) (fun hd => ?_)
  · refine a_iconst (pc := 22) hG dX11_plot_22 (v := (-1 : Int32)) rfl ?_
    exact a_iret (pc := 23) hG hd dX11_plot_23
  refine a_aload_n (pc := 11) hG 0 rfl dX11_plot_11 rfl ?_
  refine a_getR (pc := 12) hG sc_0 cl_X11 ok_X11 5 (by decide) rfl t_486 dX11_plot_12 ?_
  refine a_iload_n (pc := 15) hG 1 rfl dX11_plot_15 rfl ?_
  refine a_cvI (pc := 16) hG (As := [.int a0]) (st := []) sc_31 cl_X9 mk_X9_plotSet t_1096 (by omega) (fun z hz => c_Ways_plotSet F a0 _  z hz) rfl (Nat.le_of_ble_eq_true rfl) hd dX11_plot_16 (fun r4 h3 hd => ?_)
  refine a_goto (pc := 19) hG (tgt := 23) dX11_plot_19 (by decide) ?_
  exact a_iret (pc := 23) hG hd dX11_plot_23
theorem dX11_fair_0 : decode cX11_fair 0 = .ok (.aload_n 0, 1) := by decide +kernel
theorem dX11_fair_1 : decode cX11_fair 1 = .ok (.getfield 19, 3) := by decide +kernel
theorem dX11_fair_4 : decode cX11_fair 4 = .ok (.iload_n 1, 1) := by decide +kernel
theorem dX11_fair_5 : decode cX11_fair 5 = .ok (.invokevirtual 147, 3) := by decide +kernel
theorem dX11_fair_8 : decode cX11_fair 8 = .ok (.ifCond .eq 24, 3) := by decide +kernel
theorem dX11_fair_11 : decode cX11_fair 11 = .ok (.iload_n 2, 1) := by decide +kernel
theorem dX11_fair_12 : decode cX11_fair 12 = .ok (.ifCond .lt 20, 3) := by decide +kernel
theorem dX11_fair_15 : decode cX11_fair 15 = .ok (.iload_n 2, 1) := by decide +kernel
theorem dX11_fair_16 : decode cX11_fair 16 = .ok (.iconst 1, 1) := by decide +kernel
theorem dX11_fair_17 : decode cX11_fair 17 = .ok (.if_icmp .gt 15, 3) := by decide +kernel
theorem dX11_fair_20 : decode cX11_fair 20 = .ok (.aload_n 0, 1) := by decide +kernel
theorem dX11_fair_21 : decode cX11_fair 21 = .ok (.getfield 40, 3) := by decide +kernel
theorem dX11_fair_24 : decode cX11_fair 24 = .ok (.iload_n 1, 1) := by decide +kernel
theorem dX11_fair_25 : decode cX11_fair 25 = .ok (.iconst 0, 1) := by decide +kernel
theorem dX11_fair_26 : decode cX11_fair 26 = .ok (.invokevirtual 161, 3) := by decide +kernel
theorem dX11_fair_29 : decode cX11_fair 29 = .ok (.ifCond .ne 14, 3) := by decide +kernel
theorem dX11_fair_32 : decode cX11_fair 32 = .ok (.new 150, 3) := by decide +kernel
theorem dX11_fair_35 : decode cX11_fair 35 = .ok (.dup, 1) := by decide +kernel
theorem dX11_fair_36 : decode cX11_fair 36 = .ok (.ldc_w 262, 3) := by decide +kernel
theorem dX11_fair_39 : decode cX11_fair 39 = .ok (.invokespecial 154, 3) := by decide +kernel
theorem dX11_fair_42 : decode cX11_fair 42 = .ok (.athrow, 1) := by decide +kernel
theorem dX11_fair_43 : decode cX11_fair 43 = .ok (.aload_n 0, 1) := by decide +kernel
theorem dX11_fair_44 : decode cX11_fair 44 = .ok (.getfield 40, 3) := by decide +kernel
theorem dX11_fair_47 : decode cX11_fair 47 = .ok (.iload_n 1, 1) := by decide +kernel
theorem dX11_fair_48 : decode cX11_fair 48 = .ok (.iconst 1, 1) := by decide +kernel
theorem dX11_fair_49 : decode cX11_fair 49 = .ok (.invokevirtual 161, 3) := by decide +kernel
theorem dX11_fair_52 : decode cX11_fair 52 = .ok (.aload_n 0, 1) := by decide +kernel
theorem dX11_fair_53 : decode cX11_fair 53 = .ok (.getfield 40, 3) := by decide +kernel
theorem dX11_fair_56 : decode cX11_fair 56 = .ok (.iload_n 1, 1) := by decide +kernel
theorem dX11_fair_57 : decode cX11_fair 57 = .ok (.iconst 0, 1) := by decide +kernel
theorem dX11_fair_58 : decode cX11_fair 58 = .ok (.invokevirtual 161, 3) := by decide +kernel
theorem dX11_fair_61 : decode cX11_fair 61 = .ok (.iload_n 2, 1) := by decide +kernel
theorem dX11_fair_62 : decode cX11_fair 62 = .ok (.invokestatic 167, 3) := by decide +kernel
theorem dX11_fair_65 : decode cX11_fair 65 = .ok (.ireturn, 1) := by decide +kernel
set_option maxHeartbeats 4000000 in
theorem c_LC_fair {ad wad : Nat → Nat} (F : Nat) (a0 : Int32) (a1 : Int32) (h : HS)  (q : Int32 × HS) (hd : f_LC_fair F a0 a1 h = some q) : Ctr SHc ad wad yX11_fair cX11_fair 3 (some .int) 3 [.ref (ad 0), .int a0, .int a1] h (some (.int q.1), q.2) := by
  refine enter (own := RX11) (lv := [(0, .ref (ad 0)), (1, .int a0), (2, .int a1)]) (by decide +kernel) rfl (Nat.le_of_ble_eq_true rfl) rfl (fun Γ hG => ?_)
  unfold f_LC_fair at hd
  refine a_aload_n (pc := 0) hG 0 rfl dX11_fair_0 rfl ?_
  refine a_getR (pc := 1) hG sc_0 cl_X11 ok_X11 1 (by decide) rfl t_482 dX11_fair_1 ?_
  refine a_iload_n (pc := 4) hG 1 rfl dX11_fair_4 rfl ?_
  refine a_cvI (pc := 5) hG (As := [.int a0]) (st := []) sc_3 cl_X5 mk_X5_hasCause t_818 (by omega) (fun z hz => c_Plan_hasCause_3 a0 _  z hz) rfl (Nat.le_of_ble_eq_true rfl) hd dX11_fair_5 (fun r2 h1 hd => ?_)
  refine a_join hd (Q := fun J : HS → Option (Int32 × HS) => ∀  (h4 : HS), J  h4 = some q → AW SHc ad 3 (some (.int q.1), q.2) Γ 32 [] [] h4) (fun  h4 hd => ?_) (fun J3 hJ3 hd => ?_)
  · cases hd
  refine a_if_eq (pc := 8) hG (tgt := 32) hd dX11_fair_8 (by decide) (fun hd => ?_) (fun hd => ?_)
  · exact AW.sub [] rfl (hJ3  _ hd)
  refine a_iload_n (pc := 11) hG 2 rfl dX11_fair_11 rfl ?_
  refine a_if_lt (pc := 12) hG (tgt := 32) hd dX11_fair_12 (by decide) (fun hd => ?_) (fun hd => ?_)
  · exact AW.sub [] rfl (hJ3  _ hd)
  refine a_iload_n (pc := 15) hG 2 rfl dX11_fair_15 rfl ?_
  refine a_iconst (pc := 16) hG dX11_fair_16 (v := (nI 1)) rfl ?_
  refine a_ic_gt (pc := 17) hG (tgt := 32) hd dX11_fair_17 (by decide) (fun hd => ?_) (fun hd => ?_)
  · exact AW.sub [] rfl (hJ3  _ hd)
  refine a_aload_n (pc := 20) hG 0 rfl dX11_fair_20 rfl ?_
  refine a_getR (pc := 21) hG sc_0 cl_X11 ok_X11 4 (by decide) rfl t_485 dX11_fair_21 ?_
  refine a_iload_n (pc := 24) hG 1 rfl dX11_fair_24 rfl ?_
  refine a_iconst (pc := 25) hG dX11_fair_25 (v := (nI 0)) rfl ?_
  refine a_cvI (pc := 26) hG (As := [.int a0, .int (nI 0)]) (st := []) sc_20 cl_X0 mk_X0_ofCause t_1192 (by omega) (fun z hz => c_Desk_ofCause a0 (nI 0) _  z hz) rfl (Nat.le_of_ble_eq_true rfl) hd dX11_fair_26 (fun r6 h5 hd => ?_)
  refine a_if_ne (pc := 29) hG (tgt := 43) hd dX11_fair_29 (by decide) (fun hd => ?_) (fun hd => ?_)
  · refine a_aload_n (pc := 43) hG 0 rfl dX11_fair_43 rfl ?_
    refine a_getR (pc := 44) hG sc_0 cl_X11 ok_X11 4 (by decide) rfl t_485 dX11_fair_44 ?_
    refine a_iload_n (pc := 47) hG 1 rfl dX11_fair_47 rfl ?_
    refine a_iconst (pc := 48) hG dX11_fair_48 (v := (nI 1)) rfl ?_
    refine a_cvI (pc := 49) hG (As := [.int a0, .int (nI 1)]) (st := []) sc_20 cl_X0 mk_X0_ofCause t_1192 (by omega) (fun z hz => c_Desk_ofCause a0 (nI 1) _  z hz) rfl (Nat.le_of_ble_eq_true rfl) hd dX11_fair_49 (fun r8 h7 hd => ?_)
    refine a_aload_n (pc := 52) hG 0 rfl dX11_fair_52 rfl ?_
    refine a_getR (pc := 53) hG sc_0 cl_X11 ok_X11 4 (by decide) rfl t_485 dX11_fair_53 ?_
    refine a_iload_n (pc := 56) hG 1 rfl dX11_fair_56 rfl ?_
    refine a_iconst (pc := 57) hG dX11_fair_57 (v := (nI 0)) rfl ?_
    refine a_cvI (pc := 58) hG (As := [.int a0, .int (nI 0)]) (st := [.int r8]) sc_20 cl_X0 mk_X0_ofCause t_1192 (by omega) (fun z hz => c_Desk_ofCause a0 (nI 0) _  z hz) rfl (Nat.le_of_ble_eq_true rfl) hd dX11_fair_58 (fun r10 h9 hd => ?_)
    refine a_iload_n (pc := 61) hG 2 rfl dX11_fair_61 rfl ?_
    refine a_csI (pc := 62) hG (As := [.int r8, .int r10, .int a1]) (st := []) mk_X11_leastTerm t_1533 (by omega) (fun z hz => c_LC_leastTerm F r8 r10 a1 _  z hz) rfl (Nat.le_of_ble_eq_true rfl) hd dX11_fair_62 (fun r12 h11 hd => ?_)
    exact a_iret (pc := 65) hG hd dX11_fair_65
  exact AW.sub [] rfl (hJ3  _ hd)
theorem dX0_saveTo_0 : decode cX0_saveTo 0 = .ok (.aload_n 1, 1) := by decide +kernel
theorem dX0_saveTo_1 : decode cX0_saveTo 1 = .ok (.arraylength, 1) := by decide +kernel
theorem dX0_saveTo_2 : decode cX0_saveTo 2 = .ok (.aload_n 0, 1) := by decide +kernel
theorem dX0_saveTo_3 : decode cX0_saveTo 3 = .ok (.getfield 9, 3) := by decide +kernel
theorem dX0_saveTo_6 : decode cX0_saveTo 6 = .ok (.arraylength, 1) := by decide +kernel
theorem dX0_saveTo_7 : decode cX0_saveTo 7 = .ok (.if_icmp .ne 18, 3) := by decide +kernel
theorem dX0_saveTo_10 : decode cX0_saveTo 10 = .ok (.aload_n 0, 1) := by decide +kernel
theorem dX0_saveTo_11 : decode cX0_saveTo 11 = .ok (.getfield 9, 3) := by decide +kernel
theorem dX0_saveTo_14 : decode cX0_saveTo 14 = .ok (.iconst 0, 1) := by decide +kernel
theorem dX0_saveTo_15 : decode cX0_saveTo 15 = .ok (.aload_n 1, 1) := by decide +kernel
theorem dX0_saveTo_16 : decode cX0_saveTo 16 = .ok (.iconst 0, 1) := by decide +kernel
theorem dX0_saveTo_17 : decode cX0_saveTo 17 = .ok (.aload_n 0, 1) := by decide +kernel
theorem dX0_saveTo_18 : decode cX0_saveTo 18 = .ok (.getfield 9, 3) := by decide +kernel
theorem dX0_saveTo_21 : decode cX0_saveTo 21 = .ok (.arraylength, 1) := by decide +kernel
theorem dX0_saveTo_22 : decode cX0_saveTo 22 = .ok (.invokestatic 62, 3) := by decide +kernel
theorem dX0_saveTo_25 : decode cX0_saveTo 25 = .ok (.return_, 1) := by decide +kernel
set_option maxHeartbeats 4000000 in
theorem c_Desk_saveTo {ad wad : Nat → Nat} (j : Nat) (h : HS) (hj : SHc[j]? = some (.inl (0, 1, 91))) (q : Unit × HS) (hd : f_Desk_saveTo j h = some q) : Ctr SHc ad wad yX0_saveTo cX0_saveTo 2 none 2 [.ref (ad 20), .ref (ad j)] h (none, q.2) := by
  refine enter (own := RX0) (lv := [(0, .ref (ad 20)), (1, .ref (ad j))]) (by decide +kernel) rfl (Nat.le_of_ble_eq_true rfl) rfl (fun Γ hG => ?_)
  unfold f_Desk_saveTo at hd
  refine a_aload_n (pc := 0) hG 1 rfl dX0_saveTo_0 rfl ?_
  refine a_alenI (pc := 1) hG hj (fun _ => rfl) (v := nI 91) rfl dX0_saveTo_1 ?_
  refine a_aload_n (pc := 2) hG 0 rfl dX0_saveTo_2 rfl ?_
  refine a_getR (pc := 3) hG sc_20 cl_X0 ok_X0 1 (by decide) rfl t_267 dX0_saveTo_3 ?_
  refine a_alenI (pc := 6) hG sc_21 (fun _ => rfl) (v := nI 91) rfl dX0_saveTo_6 ?_
  refine a_ic_ne (pc := 7) hG (tgt := 25) hd dX0_saveTo_7 (by decide) (fun hd => ?_) (fun hd => ?_)
  · exact a_vret (pc := 25) hG hd dX0_saveTo_25
  refine a_aload_n (pc := 10) hG 0 rfl dX0_saveTo_10 rfl ?_
  refine a_getR (pc := 11) hG sc_20 cl_X0 ok_X0 1 (by decide) rfl t_267 dX0_saveTo_11 ?_
  refine a_iconst (pc := 14) hG dX0_saveTo_14 (v := (nI 0)) rfl ?_
  refine a_aload_n (pc := 15) hG 1 rfl dX0_saveTo_15 rfl ?_
  refine a_iconst (pc := 16) hG dX0_saveTo_16 (v := (nI 0)) rfl ?_
  refine a_aload_n (pc := 17) hG 0 rfl dX0_saveTo_17 rfl ?_
  refine a_getR (pc := 18) hG sc_20 cl_X0 ok_X0 1 (by decide) rfl t_267 dX0_saveTo_18 ?_
  refine a_alenI (pc := 21) hG sc_21 (fun _ => rfl) (v := nI 91) rfl dX0_saveTo_21 ?_
  refine a_cpI (pc := 22) hG 91 sc_21 hj rfl (by decide) (by decide) (by decide) t_849 t_764 t_763 t_136 (by omega) (Nat.le_of_ble_eq_true rfl) hd dX0_saveTo_22 (fun h1 hd => ?_)
  exact a_vret (pc := 25) hG hd dX0_saveTo_25
theorem dX6_actIfCan_0 : decode cX6_actIfCan 0 = .ok (.aload_n 0, 1) := by decide +kernel
theorem dX6_actIfCan_1 : decode cX6_actIfCan 1 = .ok (.getfield 19, 3) := by decide +kernel
theorem dX6_actIfCan_4 : decode cX6_actIfCan 4 = .ok (.iload_n 1, 1) := by decide +kernel
theorem dX6_actIfCan_5 : decode cX6_actIfCan 5 = .ok (.iload_n 2, 1) := by decide +kernel
theorem dX6_actIfCan_6 : decode cX6_actIfCan 6 = .ok (.invokevirtual 112, 3) := by decide +kernel
theorem dX6_actIfCan_9 : decode cX6_actIfCan 9 = .ok (.ifCond .eq 5, 3) := by decide +kernel
theorem dX6_actIfCan_12 : decode cX6_actIfCan 12 = .ok (.iconst 0, 1) := by decide +kernel
theorem dX6_actIfCan_13 : decode cX6_actIfCan 13 = .ok (.ireturn, 1) := by decide +kernel
theorem dX6_actIfCan_14 : decode cX6_actIfCan 14 = .ok (.aload_n 0, 1) := by decide +kernel
theorem dX6_actIfCan_15 : decode cX6_actIfCan 15 = .ok (.getfield 19, 3) := by decide +kernel
theorem dX6_actIfCan_18 : decode cX6_actIfCan 18 = .ok (.iload_n 1, 1) := by decide +kernel
theorem dX6_actIfCan_19 : decode cX6_actIfCan 19 = .ok (.iload_n 2, 1) := by decide +kernel
theorem dX6_actIfCan_20 : decode cX6_actIfCan 20 = .ok (.invokevirtual 115, 3) := by decide +kernel
theorem dX6_actIfCan_23 : decode cX6_actIfCan 23 = .ok (.iconst 1, 1) := by decide +kernel
theorem dX6_actIfCan_24 : decode cX6_actIfCan 24 = .ok (.ireturn, 1) := by decide +kernel
set_option maxHeartbeats 4000000 in
theorem c_Runs_actIfCan {ad wad : Nat → Nat} (a0 : Int32) (a1 : Int32) (h : HS)  (q : Int32 × HS) (hd : f_Runs_actIfCan a0 a1 h = some q) : Ctr SHc ad wad yX6_actIfCan cX6_actIfCan 3 (some .boolean) 3 [.ref (ad 36), .int a0, .int a1] h (some (.int q.1), q.2) := by
  refine enter (own := RX6) (lv := [(0, .ref (ad 36)), (1, .int a0), (2, .int a1)]) (by decide +kernel) rfl (Nat.le_of_ble_eq_true rfl) rfl (fun Γ hG => ?_)
  unfold f_Runs_actIfCan at hd
  refine a_aload_n (pc := 0) hG 0 rfl dX6_actIfCan_0 rfl ?_
  refine a_getR (pc := 1) hG sc_36 cl_X6 ok_X6 1 (by decide) rfl t_317 dX6_actIfCan_1 ?_
  refine a_iload_n (pc := 4) hG 1 rfl dX6_actIfCan_4 rfl ?_
  refine a_iload_n (pc := 5) hG 2 rfl dX6_actIfCan_5 rfl ?_
  refine a_cvI (pc := 6) hG (As := [.int a0, .int a1]) (st := []) sc_20 cl_X0 mk_X0_whyNotAct t_1147 (by omega) (fun z hz => c_Desk_whyNotAct a0 a1 _  z hz) rfl (Nat.le_of_ble_eq_true rfl) hd dX6_actIfCan_6 (fun r2 h1 hd => ?_)
  refine a_if_eq (pc := 9) hG (tgt := 14) hd dX6_actIfCan_9 (by decide) (fun hd => ?_) (fun hd => ?_)
  · refine a_aload_n (pc := 14) hG 0 rfl dX6_actIfCan_14 rfl ?_
    refine a_getR (pc := 15) hG sc_36 cl_X6 ok_X6 1 (by decide) rfl t_317 dX6_actIfCan_15 ?_
    refine a_iload_n (pc := 18) hG 1 rfl dX6_actIfCan_18 rfl ?_
    refine a_iload_n (pc := 19) hG 2 rfl dX6_actIfCan_19 rfl ?_
    refine a_cvN (pc := 20) hG (As := [.int a0, .int a1]) (st := []) sc_20 cl_X0 mk_X0_doAct t_1148 (by omega) (fun z hz => c_Desk_doAct a0 a1 _  z hz) rfl (Nat.le_of_ble_eq_true rfl) hd dX6_actIfCan_20 (fun _ h3 hd => ?_)
    refine a_iconst (pc := 23) hG dX6_actIfCan_23 (v := (nI 1)) rfl ?_
    exact a_zret (pc := 24) hG hd dX6_actIfCan_24
  refine a_iconst (pc := 12) hG dX6_actIfCan_12 (v := (nI 0)) rfl ?_
  exact a_zret (pc := 13) hG hd dX6_actIfCan_13
theorem dX6_actFirst_0 : decode cX6_actFirst 0 = .ok (.iconst 0, 1) := by decide +kernel
theorem dX6_actFirst_1 : decode cX6_actFirst 1 = .ok (.istore_n 2, 1) := by decide +kernel
theorem dX6_actFirst_2 : decode cX6_actFirst 2 = .ok (.iload_n 2, 1) := by decide +kernel
theorem dX6_actFirst_3 : decode cX6_actFirst 3 = .ok (.aload_n 0, 1) := by decide +kernel
theorem dX6_actFirst_4 : decode cX6_actFirst 4 = .ok (.getfield 15, 3) := by decide +kernel
theorem dX6_actFirst_7 : decode cX6_actFirst 7 = .ok (.invokevirtual 109, 3) := by decide +kernel
theorem dX6_actFirst_10 : decode cX6_actFirst 10 = .ok (.if_icmp .ge 20, 3) := by decide +kernel
theorem dX6_actFirst_13 : decode cX6_actFirst 13 = .ok (.aload_n 0, 1) := by decide +kernel
theorem dX6_actFirst_14 : decode cX6_actFirst 14 = .ok (.iload_n 1, 1) := by decide +kernel
theorem dX6_actFirst_15 : decode cX6_actFirst 15 = .ok (.iload_n 2, 1) := by decide +kernel
theorem dX6_actFirst_16 : decode cX6_actFirst 16 = .ok (.invokevirtual 93, 3) := by decide +kernel
theorem dX6_actFirst_19 : decode cX6_actFirst 19 = .ok (.ifCond .eq 5, 3) := by decide +kernel
theorem dX6_actFirst_22 : decode cX6_actFirst 22 = .ok (.iconst 1, 1) := by decide +kernel
theorem dX6_actFirst_23 : decode cX6_actFirst 23 = .ok (.ireturn, 1) := by decide +kernel
theorem dX6_actFirst_24 : decode cX6_actFirst 24 = .ok (.iinc 2 1, 3) := by decide +kernel
theorem dX6_actFirst_27 : decode cX6_actFirst 27 = .ok (.goto (-25), 3) := by decide +kernel
theorem dX6_actFirst_30 : decode cX6_actFirst 30 = .ok (.iconst 0, 1) := by decide +kernel
theorem dX6_actFirst_31 : decode cX6_actFirst 31 = .ok (.ireturn, 1) := by decide +kernel
set_option maxHeartbeats 4000000 in
theorem w_l_Runs_actFirst_0 {ad wad : Nat → Nat} {Γ : Ctx} (F : Nat) {n : Nat} (hn : 4 ≤ n) (hG : Cx SHc ad wad cX6_actFirst 3 RX6 (some .boolean) (n) Γ) {q : Int32 × HS} {x1 : Int32} {g : Nat} {x2 : Int32} {h : HS} (hd : l_Runs_actFirst_0 F x1 g x2 h = some q) : AW SHc ad 3 (some (.int q.1), q.2) Γ 2 [(0, .ref (ad 36)), (1, .int x1), (2, .int x2)] [] h := by
  induction g generalizing x2 h with
  | zero => unfold l_Runs_actFirst_0 at hd; cases hd
  | succ g ih =>
    unfold l_Runs_actFirst_0 at hd
    refine a_iload_n (pc := 2) hG 2 rfl dX6_actFirst_2 rfl ?_
    refine a_aload_n (pc := 3) hG 0 rfl dX6_actFirst_3 rfl ?_
    refine a_getR (pc := 4) hG sc_36 cl_X6 ok_X6 0 (by decide) rfl t_316 dX6_actFirst_4 ?_
    refine a_cvI (pc := 7) hG (As := []) (st := [.int x2]) sc_3 cl_X5 mk_X5_deeds t_1153 (by omega) (fun z hz => c_Plan_deeds_3  _  z hz) rfl (Nat.le_of_ble_eq_true rfl) hd dX6_actFirst_7 (fun r3 h2 hd => ?_)
    refine a_ic_ge (pc := 10) hG (tgt := 30) hd dX6_actFirst_10 (by decide) (fun hd => ?_) (fun hd => ?_)
    · refine a_iconst (pc := 30) hG dX6_actFirst_30 (v := (nI 0)) rfl ?_
      exact a_zret (pc := 31) hG hd dX6_actFirst_31
    refine a_aload_n (pc := 13) hG 0 rfl dX6_actFirst_13 rfl ?_
    refine a_iload_n (pc := 14) hG 1 rfl dX6_actFirst_14 rfl ?_
    refine a_iload_n (pc := 15) hG 2 rfl dX6_actFirst_15 rfl ?_
    refine a_cvI (pc := 16) hG (As := [.int x1, .int x2]) (st := []) sc_36 cl_X6 mk_X6_actIfCan t_1143 (by omega) (fun z hz => c_Runs_actIfCan x1 x2 _  z hz) rfl (Nat.le_of_ble_eq_true rfl) hd dX6_actFirst_16 (fun r5 h4 hd => ?_)
    refine a_if_eq (pc := 19) hG (tgt := 24) hd dX6_actFirst_19 (by decide) (fun hd => ?_) (fun hd => ?_)
    · refine a_iincN (pc := 24) hG (c0 := (nI 1)) 2 rfl hd dX6_actFirst_24 rfl (by decide) (lf := fun x => [(2, .int x), (0, .ref (ad 36)), (1, .int x1)]) (fun _ => rfl) (fun v6 hd => ?_)
      refine a_goto (pc := 27) hG (tgt := 2) dX6_actFirst_27 (by decide) ?_
      exact AW.sub [1, 2, 0] rfl (ih hd)
    refine a_iconst (pc := 22) hG dX6_actFirst_22 (v := (nI 1)) rfl ?_
    exact a_zret (pc := 23) hG hd dX6_actFirst_23
set_option maxHeartbeats 4000000 in
theorem c_Runs_actFirst {ad wad : Nat → Nat} (F : Nat) (a0 : Int32) (h : HS)  (q : Int32 × HS) (hd : f_Runs_actFirst F a0 h = some q) : Ctr SHc ad wad yX6_actFirst cX6_actFirst 3 (some .boolean) 4 [.ref (ad 36), .int a0] h (some (.int q.1), q.2) := by
  refine enter (own := RX6) (lv := [(0, .ref (ad 36)), (1, .int a0)]) (by decide +kernel) rfl (Nat.le_of_ble_eq_true rfl) rfl (fun Γ hG => ?_)
  unfold f_Runs_actFirst at hd
  refine a_iconst (pc := 0) hG dX6_actFirst_0 (v := (nI 0)) rfl ?_
  refine a_istore_nN (pc := 1) hG hd dX6_actFirst_1 rfl (by decide) (lf := fun x => [(2, .int x), (0, .ref (ad 36)), (1, .int a0)]) (fun _ => rfl) (fun v1 hd => ?_)
  refine AW.sub [1, 2, 0] rfl ?_
  exact w_l_Runs_actFirst_0 F (by omega) hG hd
theorem dX6_dropIfCan_0 : decode cX6_dropIfCan 0 = .ok (.aload_n 0, 1) := by decide +kernel
theorem dX6_dropIfCan_1 : decode cX6_dropIfCan 1 = .ok (.getfield 19, 3) := by decide +kernel
theorem dX6_dropIfCan_4 : decode cX6_dropIfCan 4 = .ok (.iload_n 1, 1) := by decide +kernel
theorem dX6_dropIfCan_5 : decode cX6_dropIfCan 5 = .ok (.invokevirtual 118, 3) := by decide +kernel
theorem dX6_dropIfCan_8 : decode cX6_dropIfCan 8 = .ok (.ifCond .ne 11, 3) := by decide +kernel
theorem dX6_dropIfCan_11 : decode cX6_dropIfCan 11 = .ok (.aload_n 0, 1) := by decide +kernel
theorem dX6_dropIfCan_12 : decode cX6_dropIfCan 12 = .ok (.getfield 19, 3) := by decide +kernel
theorem dX6_dropIfCan_15 : decode cX6_dropIfCan 15 = .ok (.iload_n 1, 1) := by decide +kernel
theorem dX6_dropIfCan_16 : decode cX6_dropIfCan 16 = .ok (.invokevirtual 121, 3) := by decide +kernel
theorem dX6_dropIfCan_19 : decode cX6_dropIfCan 19 = .ok (.return_, 1) := by decide +kernel
set_option maxHeartbeats 4000000 in
theorem c_Runs_dropIfCan {ad wad : Nat → Nat} (a0 : Int32) (h : HS)  (q : Unit × HS) (hd : f_Runs_dropIfCan a0 h = some q) : Ctr SHc ad wad yX6_dropIfCan cX6_dropIfCan 2 none 5 [.ref (ad 36), .int a0] h (none, q.2) := by
  refine enter (own := RX6) (lv := [(0, .ref (ad 36)), (1, .int a0)]) (by decide +kernel) rfl (Nat.le_of_ble_eq_true rfl) rfl (fun Γ hG => ?_)
  unfold f_Runs_dropIfCan at hd
  refine a_aload_n (pc := 0) hG 0 rfl dX6_dropIfCan_0 rfl ?_
  refine a_getR (pc := 1) hG sc_36 cl_X6 ok_X6 1 (by decide) rfl t_317 dX6_dropIfCan_1 ?_
  refine a_iload_n (pc := 4) hG 1 rfl dX6_dropIfCan_4 rfl ?_
  refine a_cvI (pc := 5) hG (As := [.int a0]) (st := []) sc_20 cl_X0 mk_X0_whyNotDrop t_1136 (by omega) (fun z hz => c_Desk_whyNotDrop a0 _  z hz) rfl (Nat.le_of_ble_eq_true rfl) hd dX6_dropIfCan_5 (fun r2 h1 hd => ?_)
  refine a_if_ne (pc := 8) hG (tgt := 19) hd dX6_dropIfCan_8 (by decide) (fun hd => ?_) (fun hd => ?_)
  · exact a_vret (pc := 19) hG hd dX6_dropIfCan_19
  refine a_aload_n (pc := 11) hG 0 rfl dX6_dropIfCan_11 rfl ?_
  refine a_getR (pc := 12) hG sc_36 cl_X6 ok_X6 1 (by decide) rfl t_317 dX6_dropIfCan_12 ?_
  refine a_iload_n (pc := 15) hG 1 rfl dX6_dropIfCan_15 rfl ?_
  refine a_cvN (pc := 16) hG (As := [.int a0]) (st := []) sc_20 cl_X0 mk_X0_doDrop t_1137 (by omega) (fun z hz => c_Desk_doDrop a0 _  z hz) rfl (Nat.le_of_ble_eq_true rfl) hd dX6_dropIfCan_16 (fun _ h3 hd => ?_)
  exact a_vret (pc := 19) hG hd dX6_dropIfCan_19
theorem dJ6_numberOfTrailingZeros_0f7a4_0 : decode cJ6_numberOfTrailingZeros_0f7a4 0 = .ok (.iload_n 0, 1) := by decide +kernel
theorem dJ6_numberOfTrailingZeros_0f7a4_1 : decode cJ6_numberOfTrailingZeros_0f7a4 1 = .ok (.iconst (-1), 1) := by decide +kernel
theorem dJ6_numberOfTrailingZeros_0f7a4_2 : decode cJ6_numberOfTrailingZeros_0f7a4 2 = .ok (.ixor, 1) := by decide +kernel
theorem dJ6_numberOfTrailingZeros_0f7a4_3 : decode cJ6_numberOfTrailingZeros_0f7a4 3 = .ok (.iload_n 0, 1) := by decide +kernel
theorem dJ6_numberOfTrailingZeros_0f7a4_4 : decode cJ6_numberOfTrailingZeros_0f7a4 4 = .ok (.iconst 1, 1) := by decide +kernel
theorem dJ6_numberOfTrailingZeros_0f7a4_5 : decode cJ6_numberOfTrailingZeros_0f7a4 5 = .ok (.isub, 1) := by decide +kernel
theorem dJ6_numberOfTrailingZeros_0f7a4_6 : decode cJ6_numberOfTrailingZeros_0f7a4 6 = .ok (.iand, 1) := by decide +kernel
theorem dJ6_numberOfTrailingZeros_0f7a4_7 : decode cJ6_numberOfTrailingZeros_0f7a4 7 = .ok (.istore_n 0, 1) := by decide +kernel
theorem dJ6_numberOfTrailingZeros_0f7a4_8 : decode cJ6_numberOfTrailingZeros_0f7a4 8 = .ok (.iload_n 0, 1) := by decide +kernel
theorem dJ6_numberOfTrailingZeros_0f7a4_9 : decode cJ6_numberOfTrailingZeros_0f7a4 9 = .ok (.ifCond .gt 8, 3) := by decide +kernel
theorem dJ6_numberOfTrailingZeros_0f7a4_12 : decode cJ6_numberOfTrailingZeros_0f7a4 12 = .ok (.iload_n 0, 1) := by decide +kernel
theorem dJ6_numberOfTrailingZeros_0f7a4_13 : decode cJ6_numberOfTrailingZeros_0f7a4 13 = .ok (.bipush 32, 2) := by decide +kernel
theorem dJ6_numberOfTrailingZeros_0f7a4_15 : decode cJ6_numberOfTrailingZeros_0f7a4 15 = .ok (.iand, 1) := by decide +kernel
theorem dJ6_numberOfTrailingZeros_0f7a4_16 : decode cJ6_numberOfTrailingZeros_0f7a4 16 = .ok (.ireturn, 1) := by decide +kernel
theorem dJ6_numberOfTrailingZeros_0f7a4_17 : decode cJ6_numberOfTrailingZeros_0f7a4 17 = .ok (.iconst 1, 1) := by decide +kernel
theorem dJ6_numberOfTrailingZeros_0f7a4_18 : decode cJ6_numberOfTrailingZeros_0f7a4 18 = .ok (.istore_n 1, 1) := by decide +kernel
theorem dJ6_numberOfTrailingZeros_0f7a4_19 : decode cJ6_numberOfTrailingZeros_0f7a4 19 = .ok (.iload_n 0, 1) := by decide +kernel
theorem dJ6_numberOfTrailingZeros_0f7a4_20 : decode cJ6_numberOfTrailingZeros_0f7a4 20 = .ok (.ldc_w 264, 3) := by decide +kernel
theorem dJ6_numberOfTrailingZeros_0f7a4_23 : decode cJ6_numberOfTrailingZeros_0f7a4 23 = .ok (.if_icmp .le 11, 3) := by decide +kernel
theorem dJ6_numberOfTrailingZeros_0f7a4_26 : decode cJ6_numberOfTrailingZeros_0f7a4 26 = .ok (.iinc 1 16, 3) := by decide +kernel
theorem dJ6_numberOfTrailingZeros_0f7a4_29 : decode cJ6_numberOfTrailingZeros_0f7a4 29 = .ok (.iload_n 0, 1) := by decide +kernel
theorem dJ6_numberOfTrailingZeros_0f7a4_30 : decode cJ6_numberOfTrailingZeros_0f7a4 30 = .ok (.bipush 16, 2) := by decide +kernel
theorem dJ6_numberOfTrailingZeros_0f7a4_32 : decode cJ6_numberOfTrailingZeros_0f7a4 32 = .ok (.iushr, 1) := by decide +kernel
theorem dJ6_numberOfTrailingZeros_0f7a4_33 : decode cJ6_numberOfTrailingZeros_0f7a4 33 = .ok (.istore_n 0, 1) := by decide +kernel
theorem dJ6_numberOfTrailingZeros_0f7a4_34 : decode cJ6_numberOfTrailingZeros_0f7a4 34 = .ok (.iload_n 0, 1) := by decide +kernel
theorem dJ6_numberOfTrailingZeros_0f7a4_35 : decode cJ6_numberOfTrailingZeros_0f7a4 35 = .ok (.sipush 256, 3) := by decide +kernel
theorem dJ6_numberOfTrailingZeros_0f7a4_38 : decode cJ6_numberOfTrailingZeros_0f7a4 38 = .ok (.if_icmp .le 11, 3) := by decide +kernel
theorem dJ6_numberOfTrailingZeros_0f7a4_41 : decode cJ6_numberOfTrailingZeros_0f7a4 41 = .ok (.iinc 1 8, 3) := by decide +kernel
theorem dJ6_numberOfTrailingZeros_0f7a4_44 : decode cJ6_numberOfTrailingZeros_0f7a4 44 = .ok (.iload_n 0, 1) := by decide +kernel
theorem dJ6_numberOfTrailingZeros_0f7a4_45 : decode cJ6_numberOfTrailingZeros_0f7a4 45 = .ok (.bipush 8, 2) := by decide +kernel
theorem dJ6_numberOfTrailingZeros_0f7a4_47 : decode cJ6_numberOfTrailingZeros_0f7a4 47 = .ok (.iushr, 1) := by decide +kernel
theorem dJ6_numberOfTrailingZeros_0f7a4_48 : decode cJ6_numberOfTrailingZeros_0f7a4 48 = .ok (.istore_n 0, 1) := by decide +kernel
theorem dJ6_numberOfTrailingZeros_0f7a4_49 : decode cJ6_numberOfTrailingZeros_0f7a4 49 = .ok (.iload_n 0, 1) := by decide +kernel
theorem dJ6_numberOfTrailingZeros_0f7a4_50 : decode cJ6_numberOfTrailingZeros_0f7a4 50 = .ok (.bipush 16, 2) := by decide +kernel
theorem dJ6_numberOfTrailingZeros_0f7a4_52 : decode cJ6_numberOfTrailingZeros_0f7a4 52 = .ok (.if_icmp .le 10, 3) := by decide +kernel
theorem dJ6_numberOfTrailingZeros_0f7a4_55 : decode cJ6_numberOfTrailingZeros_0f7a4 55 = .ok (.iinc 1 4, 3) := by decide +kernel
theorem dJ6_numberOfTrailingZeros_0f7a4_58 : decode cJ6_numberOfTrailingZeros_0f7a4 58 = .ok (.iload_n 0, 1) := by decide +kernel
theorem dJ6_numberOfTrailingZeros_0f7a4_59 : decode cJ6_numberOfTrailingZeros_0f7a4 59 = .ok (.iconst 4, 1) := by decide +kernel
theorem dJ6_numberOfTrailingZeros_0f7a4_60 : decode cJ6_numberOfTrailingZeros_0f7a4 60 = .ok (.iushr, 1) := by decide +kernel
theorem dJ6_numberOfTrailingZeros_0f7a4_61 : decode cJ6_numberOfTrailingZeros_0f7a4 61 = .ok (.istore_n 0, 1) := by decide +kernel
theorem dJ6_numberOfTrailingZeros_0f7a4_62 : decode cJ6_numberOfTrailingZeros_0f7a4 62 = .ok (.iload_n 0, 1) := by decide +kernel
theorem dJ6_numberOfTrailingZeros_0f7a4_63 : decode cJ6_numberOfTrailingZeros_0f7a4 63 = .ok (.iconst 4, 1) := by decide +kernel
theorem dJ6_numberOfTrailingZeros_0f7a4_64 : decode cJ6_numberOfTrailingZeros_0f7a4 64 = .ok (.if_icmp .le 10, 3) := by decide +kernel
theorem dJ6_numberOfTrailingZeros_0f7a4_67 : decode cJ6_numberOfTrailingZeros_0f7a4 67 = .ok (.iinc 1 2, 3) := by decide +kernel
theorem dJ6_numberOfTrailingZeros_0f7a4_70 : decode cJ6_numberOfTrailingZeros_0f7a4 70 = .ok (.iload_n 0, 1) := by decide +kernel
theorem dJ6_numberOfTrailingZeros_0f7a4_71 : decode cJ6_numberOfTrailingZeros_0f7a4 71 = .ok (.iconst 2, 1) := by decide +kernel
theorem dJ6_numberOfTrailingZeros_0f7a4_72 : decode cJ6_numberOfTrailingZeros_0f7a4 72 = .ok (.iushr, 1) := by decide +kernel
theorem dJ6_numberOfTrailingZeros_0f7a4_73 : decode cJ6_numberOfTrailingZeros_0f7a4 73 = .ok (.istore_n 0, 1) := by decide +kernel
theorem dJ6_numberOfTrailingZeros_0f7a4_74 : decode cJ6_numberOfTrailingZeros_0f7a4 74 = .ok (.iload_n 1, 1) := by decide +kernel
theorem dJ6_numberOfTrailingZeros_0f7a4_75 : decode cJ6_numberOfTrailingZeros_0f7a4 75 = .ok (.iload_n 0, 1) := by decide +kernel
theorem dJ6_numberOfTrailingZeros_0f7a4_76 : decode cJ6_numberOfTrailingZeros_0f7a4 76 = .ok (.iconst 1, 1) := by decide +kernel
theorem dJ6_numberOfTrailingZeros_0f7a4_77 : decode cJ6_numberOfTrailingZeros_0f7a4 77 = .ok (.iushr, 1) := by decide +kernel
theorem dJ6_numberOfTrailingZeros_0f7a4_78 : decode cJ6_numberOfTrailingZeros_0f7a4 78 = .ok (.iadd, 1) := by decide +kernel
theorem dJ6_numberOfTrailingZeros_0f7a4_79 : decode cJ6_numberOfTrailingZeros_0f7a4 79 = .ok (.ireturn, 1) := by decide +kernel
set_option maxHeartbeats 4000000 in
theorem c_Int_numberOfTrailingZeros_0f7a4 {ad wad : Nat → Nat} (a0 : Int32) (h : HS)  (q : Int32 × HS) (hd : f_Int_numberOfTrailingZeros_0f7a4 a0 h = some q) : Ctr SHc ad wad yJ6_numberOfTrailingZeros_0f7a4 cJ6_numberOfTrailingZeros_0f7a4 2 (some .int) 1 [.int a0] h (some (.int q.1), q.2) := by
  refine enter (own := RJ6) (lv := [(0, .int a0)]) (by decide +kernel) rfl (Nat.le_of_ble_eq_true rfl) rfl (fun Γ hG => ?_)
  unfold f_Int_numberOfTrailingZeros_0f7a4 at hd
  refine a_iload_n (pc := 0) hG 0 rfl dJ6_numberOfTrailingZeros_0f7a4_0 rfl ?_
  refine a_iconst (pc := 1) hG dJ6_numberOfTrailingZeros_0f7a4_1 (v := (-1 : Int32)) rfl ?_
  refine a_ixor (pc := 2) hG dJ6_numberOfTrailingZeros_0f7a4_2 ?_
  refine a_iload_n (pc := 3) hG 0 rfl dJ6_numberOfTrailingZeros_0f7a4_3 rfl ?_
  refine a_iconst (pc := 4) hG dJ6_numberOfTrailingZeros_0f7a4_4 (v := (nI 1)) rfl ?_
  refine a_isub (pc := 5) hG dJ6_numberOfTrailingZeros_0f7a4_5 ?_
  refine a_iand (pc := 6) hG dJ6_numberOfTrailingZeros_0f7a4_6 ?_
  refine a_istore_nN (pc := 7) hG hd dJ6_numberOfTrailingZeros_0f7a4_7 rfl (by decide) (lf := fun x => [(0, .int x)]) (fun _ => rfl) (fun v1 hd => ?_)
  refine a_iload_n (pc := 8) hG 0 rfl dJ6_numberOfTrailingZeros_0f7a4_8 rfl ?_
  refine a_if_gt (pc := 9) hG (tgt := 17) hd dJ6_numberOfTrailingZeros_0f7a4_9 (by decide) (fun hd => ?_) (fun hd => ?_)
  · refine a_iconst (pc := 17) hG dJ6_numberOfTrailingZeros_0f7a4_17 (v := (nI 1)) rfl ?_
    refine a_istore_nN (pc := 18) hG hd dJ6_numberOfTrailingZeros_0f7a4_18 rfl (by decide) (lf := fun x => [(1, .int x), (0, .int v1)]) (fun _ => rfl) (fun v2 hd => ?_)
    refine a_iload_n (pc := 19) hG 1 rfl dJ6_numberOfTrailingZeros_0f7a4_19 rfl ?_
    refine a_ldc_w (pc := 20) hG (v := (nI 65536)) t_1142 dJ6_numberOfTrailingZeros_0f7a4_20 ?_
    refine a_join hd (Q := fun J : Int32 → Int32 → HS → Option (Int32 × HS) => ∀ (v4 : Int32) (v5 : Int32) (h6 : HS), J v4 v5 h6 = some q → AW SHc ad 2 (some (.int q.1), q.2) Γ 34 [(0, .int v4), (1, .int v5)] [] h6) (fun v4 v5 h6 hd => ?_) (fun J3 hJ3 hd => ?_)
    · refine a_iload_n (pc := 34) hG 0 rfl dJ6_numberOfTrailingZeros_0f7a4_34 rfl ?_
      refine a_sipush (pc := 35) hG dJ6_numberOfTrailingZeros_0f7a4_35 (v := (nI 256)) rfl ?_
      refine a_join hd (Q := fun J : Int32 → Int32 → HS → Option (Int32 × HS) => ∀ (v8 : Int32) (v9 : Int32) (h10 : HS), J v8 v9 h10 = some q → AW SHc ad 2 (some (.int q.1), q.2) Γ 49 [(0, .int v8), (1, .int v9)] [] h10) (fun v8 v9 h10 hd => ?_) (fun J7 hJ7 hd => ?_)
      · refine a_iload_n (pc := 49) hG 0 rfl dJ6_numberOfTrailingZeros_0f7a4_49 rfl ?_
        refine a_bipush (pc := 50) hG dJ6_numberOfTrailingZeros_0f7a4_50 (v := (nI 16)) rfl ?_
        refine a_join hd (Q := fun J : Int32 → Int32 → HS → Option (Int32 × HS) => ∀ (v12 : Int32) (v13 : Int32) (h14 : HS), J v12 v13 h14 = some q → AW SHc ad 2 (some (.int q.1), q.2) Γ 62 [(0, .int v12), (1, .int v13)] [] h14) (fun v12 v13 h14 hd => ?_) (fun J11 hJ11 hd => ?_)
        · refine a_iload_n (pc := 62) hG 0 rfl dJ6_numberOfTrailingZeros_0f7a4_62 rfl ?_
          refine a_iconst (pc := 63) hG dJ6_numberOfTrailingZeros_0f7a4_63 (v := (nI 4)) rfl ?_
          refine a_join hd (Q := fun J : Int32 → Int32 → HS → Option (Int32 × HS) => ∀ (v16 : Int32) (v17 : Int32) (h18 : HS), J v16 v17 h18 = some q → AW SHc ad 2 (some (.int q.1), q.2) Γ 74 [(0, .int v16), (1, .int v17)] [] h18) (fun v16 v17 h18 hd => ?_) (fun J15 hJ15 hd => ?_)
          · refine a_iload_n (pc := 74) hG 1 rfl dJ6_numberOfTrailingZeros_0f7a4_74 rfl ?_
            refine a_iload_n (pc := 75) hG 0 rfl dJ6_numberOfTrailingZeros_0f7a4_75 rfl ?_
            refine a_iconst (pc := 76) hG dJ6_numberOfTrailingZeros_0f7a4_76 (v := (nI 1)) rfl ?_
            refine a_iushr (pc := 77) hG dJ6_numberOfTrailingZeros_0f7a4_77 ?_
            refine a_iadd (pc := 78) hG dJ6_numberOfTrailingZeros_0f7a4_78 ?_
            exact a_iret (pc := 79) hG hd dJ6_numberOfTrailingZeros_0f7a4_79
          refine a_ic_le (pc := 64) hG (tgt := 74) hd dJ6_numberOfTrailingZeros_0f7a4_64 (by decide) (fun hd => ?_) (fun hd => ?_)
          · exact AW.sub [0, 1] rfl (hJ15 _ _ _ hd)
          refine a_iincN (pc := 67) hG (c0 := (nI 2)) 1 rfl hd dJ6_numberOfTrailingZeros_0f7a4_67 rfl (by decide) (lf := fun x => [(1, .int x), (0, .int v12)]) (fun _ => rfl) (fun v19 hd => ?_)
          refine a_iload_n (pc := 70) hG 1 rfl dJ6_numberOfTrailingZeros_0f7a4_70 rfl ?_
          refine a_iconst (pc := 71) hG dJ6_numberOfTrailingZeros_0f7a4_71 (v := (nI 2)) rfl ?_
          refine a_iushr (pc := 72) hG dJ6_numberOfTrailingZeros_0f7a4_72 ?_
          refine a_istore_nN (pc := 73) hG hd dJ6_numberOfTrailingZeros_0f7a4_73 rfl (by decide) (lf := fun x => [(0, .int x), (1, .int v19)]) (fun _ => rfl) (fun v20 hd => ?_)
          exact AW.sub [0, 1] rfl (hJ15 _ _ _ hd)
        refine a_ic_le (pc := 52) hG (tgt := 62) hd dJ6_numberOfTrailingZeros_0f7a4_52 (by decide) (fun hd => ?_) (fun hd => ?_)
        · exact AW.sub [0, 1] rfl (hJ11 _ _ _ hd)
        refine a_iincN (pc := 55) hG (c0 := (nI 4)) 1 rfl hd dJ6_numberOfTrailingZeros_0f7a4_55 rfl (by decide) (lf := fun x => [(1, .int x), (0, .int v8)]) (fun _ => rfl) (fun v21 hd => ?_)
        refine a_iload_n (pc := 58) hG 1 rfl dJ6_numberOfTrailingZeros_0f7a4_58 rfl ?_
        refine a_iconst (pc := 59) hG dJ6_numberOfTrailingZeros_0f7a4_59 (v := (nI 4)) rfl ?_
        refine a_iushr (pc := 60) hG dJ6_numberOfTrailingZeros_0f7a4_60 ?_
        refine a_istore_nN (pc := 61) hG hd dJ6_numberOfTrailingZeros_0f7a4_61 rfl (by decide) (lf := fun x => [(0, .int x), (1, .int v21)]) (fun _ => rfl) (fun v22 hd => ?_)
        exact AW.sub [0, 1] rfl (hJ11 _ _ _ hd)
      refine a_ic_le (pc := 38) hG (tgt := 49) hd dJ6_numberOfTrailingZeros_0f7a4_38 (by decide) (fun hd => ?_) (fun hd => ?_)
      · exact AW.sub [0, 1] rfl (hJ7 _ _ _ hd)
      refine a_iincN (pc := 41) hG (c0 := (nI 8)) 1 rfl hd dJ6_numberOfTrailingZeros_0f7a4_41 rfl (by decide) (lf := fun x => [(1, .int x), (0, .int v4)]) (fun _ => rfl) (fun v23 hd => ?_)
      refine a_iload_n (pc := 44) hG 1 rfl dJ6_numberOfTrailingZeros_0f7a4_44 rfl ?_
      refine a_bipush (pc := 45) hG dJ6_numberOfTrailingZeros_0f7a4_45 (v := (nI 8)) rfl ?_
      refine a_iushr (pc := 47) hG dJ6_numberOfTrailingZeros_0f7a4_47 ?_
      refine a_istore_nN (pc := 48) hG hd dJ6_numberOfTrailingZeros_0f7a4_48 rfl (by decide) (lf := fun x => [(0, .int x), (1, .int v23)]) (fun _ => rfl) (fun v24 hd => ?_)
      exact AW.sub [0, 1] rfl (hJ7 _ _ _ hd)
    refine a_ic_le (pc := 23) hG (tgt := 34) hd dJ6_numberOfTrailingZeros_0f7a4_23 (by decide) (fun hd => ?_) (fun hd => ?_)
    · exact AW.sub [1, 0] rfl (hJ3 _ _ _ hd)
    refine a_iincN (pc := 26) hG (c0 := (nI 16)) 0 rfl hd dJ6_numberOfTrailingZeros_0f7a4_26 rfl (by decide) (lf := fun x => [(1, .int x), (0, .int v1)]) (fun _ => rfl) (fun v25 hd => ?_)
    refine a_iload_n (pc := 29) hG 1 rfl dJ6_numberOfTrailingZeros_0f7a4_29 rfl ?_
    refine a_bipush (pc := 30) hG dJ6_numberOfTrailingZeros_0f7a4_30 (v := (nI 16)) rfl ?_
    refine a_iushr (pc := 32) hG dJ6_numberOfTrailingZeros_0f7a4_32 ?_
    refine a_istore_nN (pc := 33) hG hd dJ6_numberOfTrailingZeros_0f7a4_33 rfl (by decide) (lf := fun x => [(0, .int x), (1, .int v25)]) (fun _ => rfl) (fun v26 hd => ?_)
    exact AW.sub [0, 1] rfl (hJ3 _ _ _ hd)
  refine a_iload_n (pc := 12) hG 0 rfl dJ6_numberOfTrailingZeros_0f7a4_12 rfl ?_
  refine a_bipush (pc := 13) hG dJ6_numberOfTrailingZeros_0f7a4_13 (v := (nI 32)) rfl ?_
  refine a_iand (pc := 15) hG dJ6_numberOfTrailingZeros_0f7a4_15 ?_
  exact a_iret (pc := 16) hG hd dJ6_numberOfTrailingZeros_0f7a4_16
theorem dX6_takeFirst_0 : decode cX6_takeFirst 0 = .ok (.iconst 0, 1) := by decide +kernel
theorem dX6_takeFirst_1 : decode cX6_takeFirst 1 = .ok (.istore_n 2, 1) := by decide +kernel
theorem dX6_takeFirst_2 : decode cX6_takeFirst 2 = .ok (.iload_n 2, 1) := by decide +kernel
theorem dX6_takeFirst_3 : decode cX6_takeFirst 3 = .ok (.aload_n 0, 1) := by decide +kernel
theorem dX6_takeFirst_4 : decode cX6_takeFirst 4 = .ok (.getfield 15, 3) := by decide +kernel
theorem dX6_takeFirst_7 : decode cX6_takeFirst 7 = .ok (.invokevirtual 100, 3) := by decide +kernel
theorem dX6_takeFirst_10 : decode cX6_takeFirst 10 = .ok (.if_icmp .ge 31, 3) := by decide +kernel
theorem dX6_takeFirst_13 : decode cX6_takeFirst 13 = .ok (.aload_n 0, 1) := by decide +kernel
theorem dX6_takeFirst_14 : decode cX6_takeFirst 14 = .ok (.getfield 19, 3) := by decide +kernel
theorem dX6_takeFirst_17 : decode cX6_takeFirst 17 = .ok (.iload_n 1, 1) := by decide +kernel
theorem dX6_takeFirst_18 : decode cX6_takeFirst 18 = .ok (.iload_n 2, 1) := by decide +kernel
theorem dX6_takeFirst_19 : decode cX6_takeFirst 19 = .ok (.invokevirtual 103, 3) := by decide +kernel
theorem dX6_takeFirst_22 : decode cX6_takeFirst 22 = .ok (.ifCond .ne 13, 3) := by decide +kernel
theorem dX6_takeFirst_25 : decode cX6_takeFirst 25 = .ok (.aload_n 0, 1) := by decide +kernel
theorem dX6_takeFirst_26 : decode cX6_takeFirst 26 = .ok (.getfield 19, 3) := by decide +kernel
theorem dX6_takeFirst_29 : decode cX6_takeFirst 29 = .ok (.iload_n 1, 1) := by decide +kernel
theorem dX6_takeFirst_30 : decode cX6_takeFirst 30 = .ok (.iload_n 2, 1) := by decide +kernel
theorem dX6_takeFirst_31 : decode cX6_takeFirst 31 = .ok (.invokevirtual 106, 3) := by decide +kernel
theorem dX6_takeFirst_34 : decode cX6_takeFirst 34 = .ok (.return_, 1) := by decide +kernel
theorem dX6_takeFirst_35 : decode cX6_takeFirst 35 = .ok (.iinc 2 1, 3) := by decide +kernel
theorem dX6_takeFirst_38 : decode cX6_takeFirst 38 = .ok (.goto (-36), 3) := by decide +kernel
theorem dX6_takeFirst_41 : decode cX6_takeFirst 41 = .ok (.return_, 1) := by decide +kernel
set_option maxHeartbeats 4000000 in
theorem w_l_Runs_takeFirst_0 {ad wad : Nat → Nat} {Γ : Ctx} (F : Nat) {n : Nat} (hn : 4 ≤ n) (hG : Cx SHc ad wad cX6_takeFirst 3 RX6 none (n) Γ) {q : Unit × HS} {x1 : Int32} {K0 : Int32 → HS → Option (Unit × HS)} {g : Nat} {x2 : Int32} {h : HS} (hd : l_Runs_takeFirst_0 F x1 K0 g x2 h = some q) (hK0 : ∀ (y2 : Int32) (z : HS), K0 y2 z = some q → AW SHc ad 3 (none, q.2) Γ 25 [(0, .ref (ad 36)), (1, .int x1), (2, .int y2)] [] z) : AW SHc ad 3 (none, q.2) Γ 2 [(0, .ref (ad 36)), (1, .int x1), (2, .int x2)] [] h := by
  induction g generalizing x2 h with
  | zero => unfold l_Runs_takeFirst_0 at hd; cases hd
  | succ g ih =>
    unfold l_Runs_takeFirst_0 at hd
    refine a_iload_n (pc := 2) hG 2 rfl dX6_takeFirst_2 rfl ?_
    refine a_aload_n (pc := 3) hG 0 rfl dX6_takeFirst_3 rfl ?_
    refine a_getR (pc := 4) hG sc_36 cl_X6 ok_X6 0 (by decide) rfl t_316 dX6_takeFirst_4 ?_
    refine a_cvI (pc := 7) hG (As := []) (st := [.int x2]) sc_3 cl_X5 mk_X5_causes t_1128 (by omega) (fun z hz => c_Plan_causes_3  _  z hz) rfl (Nat.le_of_ble_eq_true rfl) hd dX6_takeFirst_7 (fun r3 h2 hd => ?_)
    refine a_ic_ge (pc := 10) hG (tgt := 41) hd dX6_takeFirst_10 (by decide) (fun hd => ?_) (fun hd => ?_)
    · exact a_vret (pc := 41) hG hd dX6_takeFirst_41
    refine a_aload_n (pc := 13) hG 0 rfl dX6_takeFirst_13 rfl ?_
    refine a_getR (pc := 14) hG sc_36 cl_X6 ok_X6 1 (by decide) rfl t_317 dX6_takeFirst_14 ?_
    refine a_iload_n (pc := 17) hG 1 rfl dX6_takeFirst_17 rfl ?_
    refine a_iload_n (pc := 18) hG 2 rfl dX6_takeFirst_18 rfl ?_
    refine a_cvI (pc := 19) hG (As := [.int x1, .int x2]) (st := []) sc_20 cl_X0 mk_X0_whyNotTake t_1129 (by omega) (fun z hz => c_Desk_whyNotTake x1 x2 _  z hz) rfl (Nat.le_of_ble_eq_true rfl) hd dX6_takeFirst_19 (fun r5 h4 hd => ?_)
    refine a_if_ne (pc := 22) hG (tgt := 35) hd dX6_takeFirst_22 (by decide) (fun hd => ?_) (fun hd => ?_)
    · refine a_iincN (pc := 35) hG (c0 := (nI 1)) 2 rfl hd dX6_takeFirst_35 rfl (by decide) (lf := fun x => [(2, .int x), (0, .ref (ad 36)), (1, .int x1)]) (fun _ => rfl) (fun v6 hd => ?_)
      refine a_goto (pc := 38) hG (tgt := 2) dX6_takeFirst_38 (by decide) ?_
      exact AW.sub [1, 2, 0] rfl (ih hd)
    exact AW.sub [0, 1, 2] rfl (hK0 _ _ hd)
set_option maxHeartbeats 4000000 in
theorem c_Runs_takeFirst {ad wad : Nat → Nat} (F : Nat) (a0 : Int32) (h : HS)  (q : Unit × HS) (hd : f_Runs_takeFirst F a0 h = some q) : Ctr SHc ad wad yX6_takeFirst cX6_takeFirst 3 none 4 [.ref (ad 36), .int a0] h (none, q.2) := by
  refine enter (own := RX6) (lv := [(0, .ref (ad 36)), (1, .int a0)]) (by decide +kernel) rfl (Nat.le_of_ble_eq_true rfl) rfl (fun Γ hG => ?_)
  unfold f_Runs_takeFirst at hd
  refine a_iconst (pc := 0) hG dX6_takeFirst_0 (v := (nI 0)) rfl ?_
  refine a_istore_nN (pc := 1) hG hd dX6_takeFirst_1 rfl (by decide) (lf := fun x => [(2, .int x), (0, .ref (ad 36)), (1, .int a0)]) (fun _ => rfl) (fun v1 hd => ?_)
  refine AW.sub [1, 2, 0] rfl ?_
  refine w_l_Runs_takeFirst_0 F (by omega) hG hd (fun v7 h8 hd => ?_)
  refine a_aload_n (pc := 25) hG 0 rfl dX6_takeFirst_25 rfl ?_
  refine a_getR (pc := 26) hG sc_36 cl_X6 ok_X6 1 (by decide) rfl t_317 dX6_takeFirst_26 ?_
  refine a_iload_n (pc := 29) hG 1 rfl dX6_takeFirst_29 rfl ?_
  refine a_iload_n (pc := 30) hG 2 rfl dX6_takeFirst_30 rfl ?_
  refine a_cvN (pc := 31) hG (As := [.int a0, .int v7]) (st := []) sc_20 cl_X0 mk_X0_doTake t_1130 (by omega) (fun z hz => c_Desk_doTake a0 v7 _  z hz) rfl (Nat.le_of_ble_eq_true rfl) hd dX6_takeFirst_31 (fun _ h9 hd => ?_)
  exact a_vret (pc := 34) hG hd dX6_takeFirst_34
theorem dX6_followSchool_0 : decode cX6_followSchool 0 = .ok (.aload_n 0, 1) := by decide +kernel
theorem dX6_followSchool_1 : decode cX6_followSchool 1 = .ok (.getfield 19, 3) := by decide +kernel
theorem dX6_followSchool_4 : decode cX6_followSchool 4 = .ok (.iload_n 2, 1) := by decide +kernel
theorem dX6_followSchool_5 : decode cX6_followSchool 5 = .ok (.invokevirtual 70, 3) := by decide +kernel
theorem dX6_followSchool_8 : decode cX6_followSchool 8 = .ok (.ifCond .eq 8, 3) := by decide +kernel
theorem dX6_followSchool_11 : decode cX6_followSchool 11 = .ok (.aload_n 0, 1) := by decide +kernel
theorem dX6_followSchool_12 : decode cX6_followSchool 12 = .ok (.iload_n 2, 1) := by decide +kernel
theorem dX6_followSchool_13 : decode cX6_followSchool 13 = .ok (.invokevirtual 74, 3) := by decide +kernel
theorem dX6_followSchool_16 : decode cX6_followSchool 16 = .ok (.aload_n 0, 1) := by decide +kernel
theorem dX6_followSchool_17 : decode cX6_followSchool 17 = .ok (.getfield 19, 3) := by decide +kernel
theorem dX6_followSchool_20 : decode cX6_followSchool 20 = .ok (.iload_n 2, 1) := by decide +kernel
theorem dX6_followSchool_21 : decode cX6_followSchool 21 = .ok (.iconst 2, 1) := by decide +kernel
theorem dX6_followSchool_22 : decode cX6_followSchool 22 = .ok (.invokevirtual 77, 3) := by decide +kernel
theorem dX6_followSchool_25 : decode cX6_followSchool 25 = .ok (.istore_n 3, 1) := by decide +kernel
theorem dX6_followSchool_26 : decode cX6_followSchool 26 = .ok (.iload_n 3, 1) := by decide +kernel
theorem dX6_followSchool_27 : decode cX6_followSchool 27 = .ok (.iconst (-1), 1) := by decide +kernel
theorem dX6_followSchool_28 : decode cX6_followSchool 28 = .ok (.if_icmp .ne 4, 3) := by decide +kernel
theorem dX6_followSchool_31 : decode cX6_followSchool 31 = .ok (.return_, 1) := by decide +kernel
theorem dX6_followSchool_32 : decode cX6_followSchool 32 = .ok (.iload_n 1, 1) := by decide +kernel
theorem dX6_followSchool_33 : decode cX6_followSchool 33 = .ok (.ifCond .ne 11, 3) := by decide +kernel
theorem dX6_followSchool_36 : decode cX6_followSchool 36 = .ok (.aload_n 0, 1) := by decide +kernel
theorem dX6_followSchool_37 : decode cX6_followSchool 37 = .ok (.iload_n 2, 1) := by decide +kernel
theorem dX6_followSchool_38 : decode cX6_followSchool 38 = .ok (.invokevirtual 80, 3) := by decide +kernel
theorem dX6_followSchool_41 : decode cX6_followSchool 41 = .ok (.goto 67, 3) := by decide +kernel
theorem dX6_followSchool_44 : decode cX6_followSchool 44 = .ok (.iload_n 1, 1) := by decide +kernel
theorem dX6_followSchool_45 : decode cX6_followSchool 45 = .ok (.iconst 1, 1) := by decide +kernel
theorem dX6_followSchool_46 : decode cX6_followSchool 46 = .ok (.if_icmp .ne 49, 3) := by decide +kernel
theorem dX6_followSchool_49 : decode cX6_followSchool 49 = .ok (.aload_n 0, 1) := by decide +kernel
theorem dX6_followSchool_50 : decode cX6_followSchool 50 = .ok (.getfield 23, 3) := by decide +kernel
theorem dX6_followSchool_53 : decode cX6_followSchool 53 = .ok (.iload_n 3, 1) := by decide +kernel
theorem dX6_followSchool_54 : decode cX6_followSchool 54 = .ok (.aload_n 0, 1) := by decide +kernel
theorem dX6_followSchool_55 : decode cX6_followSchool 55 = .ok (.getfield 19, 3) := by decide +kernel
theorem dX6_followSchool_58 : decode cX6_followSchool 58 = .ok (.iload_n 2, 1) := by decide +kernel
theorem dX6_followSchool_59 : decode cX6_followSchool 59 = .ok (.iconst 0, 1) := by decide +kernel
theorem dX6_followSchool_60 : decode cX6_followSchool 60 = .ok (.invokevirtual 77, 3) := by decide +kernel
theorem dX6_followSchool_63 : decode cX6_followSchool 63 = .ok (.invokevirtual 83, 3) := by decide +kernel
theorem dX6_followSchool_66 : decode cX6_followSchool 66 = .ok (.istore 4, 2) := by decide +kernel
theorem dX6_followSchool_68 : decode cX6_followSchool 68 = .ok (.iload 4, 2) := by decide +kernel
theorem dX6_followSchool_70 : decode cX6_followSchool 70 = .ok (.ifCond .gt 11, 3) := by decide +kernel
theorem dX6_followSchool_73 : decode cX6_followSchool 73 = .ok (.aload_n 0, 1) := by decide +kernel
theorem dX6_followSchool_74 : decode cX6_followSchool 74 = .ok (.iload_n 2, 1) := by decide +kernel
theorem dX6_followSchool_75 : decode cX6_followSchool 75 = .ok (.invokevirtual 80, 3) := by decide +kernel
theorem dX6_followSchool_78 : decode cX6_followSchool 78 = .ok (.goto 14, 3) := by decide +kernel
theorem dX6_followSchool_81 : decode cX6_followSchool 81 = .ok (.aload_n 0, 1) := by decide +kernel
theorem dX6_followSchool_82 : decode cX6_followSchool 82 = .ok (.iload_n 2, 1) := by decide +kernel
theorem dX6_followSchool_83 : decode cX6_followSchool 83 = .ok (.iload 4, 2) := by decide +kernel
theorem dX6_followSchool_85 : decode cX6_followSchool 85 = .ok (.invokestatic 88, 3) := by decide +kernel
theorem dX6_followSchool_88 : decode cX6_followSchool 88 = .ok (.invokevirtual 93, 3) := by decide +kernel
theorem dX6_followSchool_91 : decode cX6_followSchool 91 = .ok (.pop, 1) := by decide +kernel
theorem dX6_followSchool_92 : decode cX6_followSchool 92 = .ok (.goto 16, 3) := by decide +kernel
theorem dX6_followSchool_95 : decode cX6_followSchool 95 = .ok (.aload_n 0, 1) := by decide +kernel
theorem dX6_followSchool_96 : decode cX6_followSchool 96 = .ok (.iload_n 2, 1) := by decide +kernel
theorem dX6_followSchool_97 : decode cX6_followSchool 97 = .ok (.invokevirtual 97, 3) := by decide +kernel
theorem dX6_followSchool_100 : decode cX6_followSchool 100 = .ok (.ifCond .ne 8, 3) := by decide +kernel
theorem dX6_followSchool_103 : decode cX6_followSchool 103 = .ok (.aload_n 0, 1) := by decide +kernel
theorem dX6_followSchool_104 : decode cX6_followSchool 104 = .ok (.iload_n 2, 1) := by decide +kernel
theorem dX6_followSchool_105 : decode cX6_followSchool 105 = .ok (.invokevirtual 80, 3) := by decide +kernel
theorem dX6_followSchool_108 : decode cX6_followSchool 108 = .ok (.return_, 1) := by decide +kernel
set_option maxHeartbeats 4000000 in
theorem c_Runs_followSchool {ad wad : Nat → Nat} (F : Nat) (a0 : Int32) (a1 : Int32) (h : HS)  (q : Unit × HS) (hd : f_Runs_followSchool F a0 a1 h = some q) : Ctr SHc ad wad yX6_followSchool cX6_followSchool 5 none 6 [.ref (ad 36), .int a0, .int a1] h (none, q.2) := by
  refine enter (own := RX6) (lv := [(0, .ref (ad 36)), (1, .int a0), (2, .int a1)]) (by decide +kernel) rfl (Nat.le_of_ble_eq_true rfl) rfl (fun Γ hG => ?_)
  unfold f_Runs_followSchool at hd
  refine a_aload_n (pc := 0) hG 0 rfl dX6_followSchool_0 rfl ?_
  refine a_getR (pc := 1) hG sc_36 cl_X6 ok_X6 1 (by decide) rfl t_317 dX6_followSchool_1 ?_
  refine a_iload_n (pc := 4) hG 2 rfl dX6_followSchool_4 rfl ?_
  refine a_cvI (pc := 5) hG (As := [.int a1]) (st := []) sc_20 cl_X0 mk_X0_isFree t_1123 (by omega) (fun z hz => c_Desk_isFree a1 _  z hz) rfl (Nat.le_of_ble_eq_true rfl) hd dX6_followSchool_5 (fun r2 h1 hd => ?_)
  refine a_join hd (Q := fun J : HS → Option (Unit × HS) => ∀  (h4 : HS), J  h4 = some q → AW SHc ad 5 (none, q.2) Γ 16 [(0, .ref (ad 36)), (1, .int a0), (2, .int a1)] [] h4) (fun  h4 hd => ?_) (fun J3 hJ3 hd => ?_)
  · refine a_aload_n (pc := 16) hG 0 rfl dX6_followSchool_16 rfl ?_
    refine a_getR (pc := 17) hG sc_36 cl_X6 ok_X6 1 (by decide) rfl t_317 dX6_followSchool_17 ?_
    refine a_iload_n (pc := 20) hG 2 rfl dX6_followSchool_20 rfl ?_
    refine a_iconst (pc := 21) hG dX6_followSchool_21 (v := (nI 2)) rfl ?_
    refine a_cvI (pc := 22) hG (As := [.int a1, .int (nI 2)]) (st := []) sc_20 cl_X0 mk_X0_ofClerk t_1131 (by omega) (fun z hz => c_Desk_ofClerk a1 (nI 2) _  z hz) rfl (Nat.le_of_ble_eq_true rfl) hd dX6_followSchool_22 (fun r6 h5 hd => ?_)
    refine a_istore_nN (pc := 25) hG hd dX6_followSchool_25 rfl (by decide) (lf := fun x => [(3, .int x), (0, .ref (ad 36)), (1, .int a0), (2, .int a1)]) (fun _ => rfl) (fun v7 hd => ?_)
    refine a_iload_n (pc := 26) hG 0 rfl dX6_followSchool_26 rfl ?_
    refine a_iconst (pc := 27) hG dX6_followSchool_27 (v := (-1 : Int32)) rfl ?_
    refine a_ic_ne (pc := 28) hG (tgt := 32) hd dX6_followSchool_28 (by decide) (fun hd => ?_) (fun hd => ?_)
    · refine a_iload_n (pc := 32) hG 2 rfl dX6_followSchool_32 rfl ?_
      refine a_if_ne (pc := 33) hG (tgt := 44) hd dX6_followSchool_33 (by decide) (fun hd => ?_) (fun hd => ?_)
      · refine a_iload_n (pc := 44) hG 2 rfl dX6_followSchool_44 rfl ?_
        refine a_iconst (pc := 45) hG dX6_followSchool_45 (v := (nI 1)) rfl ?_
        refine a_ic_ne (pc := 46) hG (tgt := 95) hd dX6_followSchool_46 (by decide) (fun hd => ?_) (fun hd => ?_)
        · refine a_aload_n (pc := 95) hG 1 rfl dX6_followSchool_95 rfl ?_
          refine a_iload_n (pc := 96) hG 3 rfl dX6_followSchool_96 rfl ?_
          refine a_cvI (pc := 97) hG (As := [.int a1]) (st := []) sc_36 cl_X6 mk_X6_actFirst t_1149 (by omega) (fun z hz => c_Runs_actFirst F a1 _  z hz) rfl (Nat.le_of_ble_eq_true rfl) hd dX6_followSchool_97 (fun r9 h8 hd => ?_)
          refine a_if_ne (pc := 100) hG (tgt := 108) hd dX6_followSchool_100 (by decide) (fun hd => ?_) (fun hd => ?_)
          · exact a_vret (pc := 108) hG hd dX6_followSchool_108
          refine a_aload_n (pc := 103) hG 1 rfl dX6_followSchool_103 rfl ?_
          refine a_iload_n (pc := 104) hG 3 rfl dX6_followSchool_104 rfl ?_
          refine a_cvN (pc := 105) hG (As := [.int a1]) (st := []) sc_36 cl_X6 mk_X6_dropIfCan t_1132 (by omega) (fun z hz => c_Runs_dropIfCan a1 _  z hz) rfl (Nat.le_of_ble_eq_true rfl) hd dX6_followSchool_105 (fun _ h10 hd => ?_)
          exact a_vret (pc := 108) hG hd dX6_followSchool_108
        refine a_aload_n (pc := 49) hG 1 rfl dX6_followSchool_49 rfl ?_
        refine a_getR (pc := 50) hG sc_36 cl_X6 ok_X6 2 (by decide) rfl t_318 dX6_followSchool_50 ?_
        refine a_iload_n (pc := 53) hG 0 rfl dX6_followSchool_53 rfl ?_
        refine a_aload_n (pc := 54) hG 1 rfl dX6_followSchool_54 rfl ?_
        refine a_getR (pc := 55) hG sc_36 cl_X6 ok_X6 1 (by decide) rfl t_317 dX6_followSchool_55 ?_
        refine a_iload_n (pc := 58) hG 3 rfl dX6_followSchool_58 rfl ?_
        refine a_iconst (pc := 59) hG dX6_followSchool_59 (v := (nI 0)) rfl ?_
        refine a_cvI (pc := 60) hG (As := [.int a1, .int (nI 0)]) (st := [.int v7, .ref (ad 31)]) sc_20 cl_X0 mk_X0_ofClerk t_1131 (by omega) (fun z hz => c_Desk_ofClerk a1 (nI 0) _  z hz) rfl (Nat.le_of_ble_eq_true rfl) hd dX6_followSchool_60 (fun r12 h11 hd => ?_)
        refine a_cvI (pc := 63) hG (As := [.int v7, .int r12]) (st := []) sc_31 cl_X9 mk_X9_nearestSet t_1138 (by omega) (fun z hz => c_Ways_nearestSet F v7 r12 _  z hz) rfl (Nat.le_of_ble_eq_true rfl) hd dX6_followSchool_63 (fun r14 h13 hd => ?_)
        refine a_istoreN (pc := 66) hG hd dX6_followSchool_66 (by decide) (lf := fun x => [(4, .int x), (3, .int v7), (0, .ref (ad 36)), (1, .int a0), (2, .int a1)]) (fun _ => rfl) (fun v15 hd => ?_)
        refine a_iload (pc := 68) hG 0 rfl dX6_followSchool_68 ?_
        refine a_if_gt (pc := 70) hG (tgt := 81) hd dX6_followSchool_70 (by decide) (fun hd => ?_) (fun hd => ?_)
        · refine a_aload_n (pc := 81) hG 2 rfl dX6_followSchool_81 rfl ?_
          refine a_iload_n (pc := 82) hG 4 rfl dX6_followSchool_82 rfl ?_
          refine a_iload (pc := 83) hG 0 rfl dX6_followSchool_83 ?_
          refine a_csI (pc := 85) hG (As := [.int v15]) (st := [.int a1, .ref (ad 36)]) mk_J6_numberOfTrailingZeros_0f7a4 t_1139 (by omega) (fun z hz => c_Int_numberOfTrailingZeros_0f7a4 v15 _  z hz) rfl (Nat.le_of_ble_eq_true rfl) hd dX6_followSchool_85 (fun r17 h16 hd => ?_)
          refine a_cvI (pc := 88) hG (As := [.int a1, .int r17]) (st := []) sc_36 cl_X6 mk_X6_actIfCan t_1143 (by omega) (fun z hz => c_Runs_actIfCan a1 r17 _  z hz) rfl (Nat.le_of_ble_eq_true rfl) hd dX6_followSchool_88 (fun r19 h18 hd => ?_)
          refine a_pop (pc := 91) hG dX6_followSchool_91 rfl ?_
          refine a_goto (pc := 92) hG (tgt := 108) dX6_followSchool_92 (by decide) ?_
          exact a_vret (pc := 108) hG hd dX6_followSchool_108
        refine a_aload_n (pc := 73) hG 2 rfl dX6_followSchool_73 rfl ?_
        refine a_iload_n (pc := 74) hG 4 rfl dX6_followSchool_74 rfl ?_
        refine a_cvN (pc := 75) hG (As := [.int a1]) (st := []) sc_36 cl_X6 mk_X6_dropIfCan t_1132 (by omega) (fun z hz => c_Runs_dropIfCan a1 _  z hz) rfl (Nat.le_of_ble_eq_true rfl) hd dX6_followSchool_75 (fun _ h20 hd => ?_)
        refine a_goto (pc := 78) hG (tgt := 92) dX6_followSchool_78 (by decide) ?_
        refine a_goto (pc := 92) hG (tgt := 108) dX6_followSchool_92 (by decide) ?_
        exact a_vret (pc := 108) hG hd dX6_followSchool_108
      refine a_aload_n (pc := 36) hG 1 rfl dX6_followSchool_36 rfl ?_
      refine a_iload_n (pc := 37) hG 3 rfl dX6_followSchool_37 rfl ?_
      refine a_cvN (pc := 38) hG (As := [.int a1]) (st := []) sc_36 cl_X6 mk_X6_dropIfCan t_1132 (by omega) (fun z hz => c_Runs_dropIfCan a1 _  z hz) rfl (Nat.le_of_ble_eq_true rfl) hd dX6_followSchool_38 (fun _ h21 hd => ?_)
      refine a_goto (pc := 41) hG (tgt := 108) dX6_followSchool_41 (by decide) ?_
      exact a_vret (pc := 108) hG hd dX6_followSchool_108
    exact a_vret (pc := 31) hG hd dX6_followSchool_31
  refine a_if_eq (pc := 8) hG (tgt := 16) hd dX6_followSchool_8 (by decide) (fun hd => ?_) (fun hd => ?_)
  · exact AW.sub [0, 1, 2] rfl (hJ3  _ hd)
  refine a_aload_n (pc := 11) hG 0 rfl dX6_followSchool_11 rfl ?_
  refine a_iload_n (pc := 12) hG 2 rfl dX6_followSchool_12 rfl ?_
  refine a_cvN (pc := 13) hG (As := [.int a1]) (st := []) sc_36 cl_X6 mk_X6_takeFirst t_1124 (by omega) (fun z hz => c_Runs_takeFirst F a1 _  z hz) rfl (Nat.le_of_ble_eq_true rfl) hd dX6_followSchool_13 (fun _ h22 hd => ?_)
  exact AW.sub [0, 1, 2] rfl (hJ3  _ hd)
theorem dX6_coinBySchool_0 : decode cX6_coinBySchool 0 = .ok (.aload_n 0, 1) := by decide +kernel
theorem dX6_coinBySchool_1 : decode cX6_coinBySchool 1 = .ok (.getfield 19, 3) := by decide +kernel
theorem dX6_coinBySchool_4 : decode cX6_coinBySchool 4 = .ok (.aload_n 0, 1) := by decide +kernel
theorem dX6_coinBySchool_5 : decode cX6_coinBySchool 5 = .ok (.getfield 9, 3) := by decide +kernel
theorem dX6_coinBySchool_8 : decode cX6_coinBySchool 8 = .ok (.invokevirtual 27, 3) := by decide +kernel
theorem dX6_coinBySchool_11 : decode cX6_coinBySchool 11 = .ok (.iload_n 2, 1) := by decide +kernel
theorem dX6_coinBySchool_12 : decode cX6_coinBySchool 12 = .ok (.aload_n 0, 1) := by decide +kernel
theorem dX6_coinBySchool_13 : decode cX6_coinBySchool 13 = .ok (.getfield 19, 3) := by decide +kernel
theorem dX6_coinBySchool_16 : decode cX6_coinBySchool 16 = .ok (.invokevirtual 33, 3) := by decide +kernel
theorem dX6_coinBySchool_19 : decode cX6_coinBySchool 19 = .ok (.invokestatic 37, 3) := by decide +kernel
theorem dX6_coinBySchool_22 : decode cX6_coinBySchool 22 = .ok (.istore_n 3, 1) := by decide +kernel
theorem dX6_coinBySchool_23 : decode cX6_coinBySchool 23 = .ok (.iconst 0, 1) := by decide +kernel
theorem dX6_coinBySchool_24 : decode cX6_coinBySchool 24 = .ok (.istore 4, 2) := by decide +kernel
theorem dX6_coinBySchool_26 : decode cX6_coinBySchool 26 = .ok (.iload 4, 2) := by decide +kernel
theorem dX6_coinBySchool_28 : decode cX6_coinBySchool 28 = .ok (.iload_n 3, 1) := by decide +kernel
theorem dX6_coinBySchool_29 : decode cX6_coinBySchool 29 = .ok (.if_icmp .ge 44, 3) := by decide +kernel
theorem dX6_coinBySchool_32 : decode cX6_coinBySchool 32 = .ok (.iconst 0, 1) := by decide +kernel
theorem dX6_coinBySchool_33 : decode cX6_coinBySchool 33 = .ok (.istore 5, 2) := by decide +kernel
theorem dX6_coinBySchool_35 : decode cX6_coinBySchool 35 = .ok (.iload 5, 2) := by decide +kernel
theorem dX6_coinBySchool_37 : decode cX6_coinBySchool 37 = .ok (.aload_n 0, 1) := by decide +kernel
theorem dX6_coinBySchool_38 : decode cX6_coinBySchool 38 = .ok (.getfield 15, 3) := by decide +kernel
theorem dX6_coinBySchool_41 : decode cX6_coinBySchool 41 = .ok (.invokevirtual 43, 3) := by decide +kernel
theorem dX6_coinBySchool_44 : decode cX6_coinBySchool 44 = .ok (.if_icmp .ge 16, 3) := by decide +kernel
theorem dX6_coinBySchool_47 : decode cX6_coinBySchool 47 = .ok (.aload_n 0, 1) := by decide +kernel
theorem dX6_coinBySchool_48 : decode cX6_coinBySchool 48 = .ok (.iload_n 1, 1) := by decide +kernel
theorem dX6_coinBySchool_49 : decode cX6_coinBySchool 49 = .ok (.iload 5, 2) := by decide +kernel
theorem dX6_coinBySchool_51 : decode cX6_coinBySchool 51 = .ok (.invokevirtual 48, 3) := by decide +kernel
theorem dX6_coinBySchool_54 : decode cX6_coinBySchool 54 = .ok (.iinc 5 1, 3) := by decide +kernel
theorem dX6_coinBySchool_57 : decode cX6_coinBySchool 57 = .ok (.goto (-22), 3) := by decide +kernel
theorem dX6_coinBySchool_60 : decode cX6_coinBySchool 60 = .ok (.aload_n 0, 1) := by decide +kernel
theorem dX6_coinBySchool_61 : decode cX6_coinBySchool 61 = .ok (.getfield 19, 3) := by decide +kernel
theorem dX6_coinBySchool_64 : decode cX6_coinBySchool 64 = .ok (.invokevirtual 52, 3) := by decide +kernel
theorem dX6_coinBySchool_67 : decode cX6_coinBySchool 67 = .ok (.iinc 4 1, 3) := by decide +kernel
theorem dX6_coinBySchool_70 : decode cX6_coinBySchool 70 = .ok (.goto (-44), 3) := by decide +kernel
theorem dX6_coinBySchool_73 : decode cX6_coinBySchool 73 = .ok (.aload_n 0, 1) := by decide +kernel
theorem dX6_coinBySchool_74 : decode cX6_coinBySchool 74 = .ok (.getfield 19, 3) := by decide +kernel
theorem dX6_coinBySchool_77 : decode cX6_coinBySchool 77 = .ok (.iconst 1, 1) := by decide +kernel
theorem dX6_coinBySchool_78 : decode cX6_coinBySchool 78 = .ok (.invokevirtual 55, 3) := by decide +kernel
theorem dX6_coinBySchool_81 : decode cX6_coinBySchool 81 = .ok (.istore 4, 2) := by decide +kernel
theorem dX6_coinBySchool_83 : decode cX6_coinBySchool 83 = .ok (.aload_n 0, 1) := by decide +kernel
theorem dX6_coinBySchool_84 : decode cX6_coinBySchool 84 = .ok (.getfield 19, 3) := by decide +kernel
theorem dX6_coinBySchool_87 : decode cX6_coinBySchool 87 = .ok (.aload_n 0, 1) := by decide +kernel
theorem dX6_coinBySchool_88 : decode cX6_coinBySchool 88 = .ok (.getfield 9, 3) := by decide +kernel
theorem dX6_coinBySchool_91 : decode cX6_coinBySchool 91 = .ok (.invokevirtual 59, 3) := by decide +kernel
theorem dX6_coinBySchool_94 : decode cX6_coinBySchool 94 = .ok (.iload 4, 2) := by decide +kernel
theorem dX6_coinBySchool_96 : decode cX6_coinBySchool 96 = .ok (.ireturn, 1) := by decide +kernel
set_option maxHeartbeats 4000000 in
theorem w_l_Runs_coinBySchool_1 {ad wad : Nat → Nat} {Γ : Ctx} (F : Nat) {n : Nat} (hn : 7 ≤ n) (hG : Cx SHc ad wad cX6_coinBySchool 6 RX6 (some .int) (n) Γ) {q : Int32 × HS} {x1 : Int32} {x3 : Int32} {x4 : Int32} {K0 : HS → Option (Int32 × HS)} {g : Nat} {x5 : Int32} {h : HS} (hd : l_Runs_coinBySchool_1 F x1 x3 x4 K0 g x5 h = some q) (hK0 : ∀ (z : HS), K0 z = some q → AW SHc ad 6 (some (.int q.1), q.2) Γ 60 [(0, .ref (ad 36)), (1, .int x1), (3, .int x3), (4, .int x4)] [] z) : AW SHc ad 6 (some (.int q.1), q.2) Γ 35 [(0, .ref (ad 36)), (1, .int x1), (3, .int x3), (4, .int x4), (5, .int x5)] [] h := by
  induction g generalizing x5 h with
  | zero => unfold l_Runs_coinBySchool_1 at hd; cases hd
  | succ g ih =>
    unfold l_Runs_coinBySchool_1 at hd
    refine a_iload (pc := 35) hG 4 rfl dX6_coinBySchool_35 ?_
    refine a_aload_n (pc := 37) hG 0 rfl dX6_coinBySchool_37 rfl ?_
    refine a_getR (pc := 38) hG sc_36 cl_X6 ok_X6 0 (by decide) rfl t_316 dX6_coinBySchool_38 ?_
    refine a_cvI (pc := 41) hG (As := []) (st := [.int x5]) sc_3 cl_X5 mk_X5_clerks t_1118 (by omega) (fun z hz => c_Plan_clerks_3  _  z hz) rfl (Nat.le_of_ble_eq_true rfl) hd dX6_coinBySchool_41 (fun r8 h7 hd => ?_)
    refine a_ic_ge (pc := 44) hG (tgt := 60) hd dX6_coinBySchool_44 (by decide) (fun hd => ?_) (fun hd => ?_)
    · exact AW.sub [0, 1, 2, 3] rfl (hK0  _ hd)
    refine a_aload_n (pc := 47) hG 0 rfl dX6_coinBySchool_47 rfl ?_
    refine a_iload_n (pc := 48) hG 1 rfl dX6_coinBySchool_48 rfl ?_
    refine a_iload (pc := 49) hG 4 rfl dX6_coinBySchool_49 ?_
    refine a_cvN (pc := 51) hG (As := [.int x1, .int x5]) (st := []) sc_36 cl_X6 mk_X6_followSchool t_1119 (by omega) (fun z hz => c_Runs_followSchool F x1 x5 _  z hz) rfl (Nat.le_of_ble_eq_true rfl) hd dX6_coinBySchool_51 (fun _ h9 hd => ?_)
    refine a_iincN (pc := 54) hG (c0 := (nI 1)) 4 rfl hd dX6_coinBySchool_54 rfl (by decide) (lf := fun x => [(5, .int x), (0, .ref (ad 36)), (1, .int x1), (3, .int x3), (4, .int x4)]) (fun _ => rfl) (fun v10 hd => ?_)
    refine a_goto (pc := 57) hG (tgt := 35) dX6_coinBySchool_57 (by decide) ?_
    exact AW.sub [1, 2, 3, 4, 0] rfl (ih hd)
set_option maxHeartbeats 4000000 in
theorem w_l_Runs_coinBySchool_0 {ad wad : Nat → Nat} {Γ : Ctx} (F : Nat) {n : Nat} (hn : 7 ≤ n) (hG : Cx SHc ad wad cX6_coinBySchool 6 RX6 (some .int) (n) Γ) {q : Int32 × HS} {x1 : Int32} {x3 : Int32} {K0 : HS → Option (Int32 × HS)} {g : Nat} {x4 : Int32} {h : HS} (hd : l_Runs_coinBySchool_0 F x1 x3 K0 g x4 h = some q) (hK0 : ∀ (z : HS), K0 z = some q → AW SHc ad 6 (some (.int q.1), q.2) Γ 73 [(0, .ref (ad 36))] [] z) : AW SHc ad 6 (some (.int q.1), q.2) Γ 26 [(0, .ref (ad 36)), (1, .int x1), (3, .int x3), (4, .int x4)] [] h := by
  induction g generalizing x4 h with
  | zero => unfold l_Runs_coinBySchool_0 at hd; cases hd
  | succ g ih =>
    unfold l_Runs_coinBySchool_0 at hd
    refine a_iload (pc := 26) hG 3 rfl dX6_coinBySchool_26 ?_
    refine a_iload_n (pc := 28) hG 2 rfl dX6_coinBySchool_28 rfl ?_
    refine a_ic_ge (pc := 29) hG (tgt := 73) hd dX6_coinBySchool_29 (by decide) (fun hd => ?_) (fun hd => ?_)
    · exact AW.sub [0] rfl (hK0  _ hd)
    refine a_iconst (pc := 32) hG dX6_coinBySchool_32 (v := (nI 0)) rfl ?_
    refine a_istoreN (pc := 33) hG hd dX6_coinBySchool_33 (by decide) (lf := fun x => [(5, .int x), (0, .ref (ad 36)), (1, .int x1), (3, .int x3), (4, .int x4)]) (fun _ => rfl) (fun v6 hd => ?_)
    refine AW.sub [1, 2, 3, 4, 0] rfl ?_
    refine w_l_Runs_coinBySchool_1 F (by omega) hG hd (fun h11 hd => ?_)
    refine a_aload_n (pc := 60) hG 0 rfl dX6_coinBySchool_60 rfl ?_
    refine a_getR (pc := 61) hG sc_36 cl_X6 ok_X6 1 (by decide) rfl t_317 dX6_coinBySchool_61 ?_
    refine a_cvN (pc := 64) hG (As := []) (st := []) sc_20 cl_X0 mk_X0_passWeek t_1154 (by omega) (fun z hz => c_Desk_passWeek F  _  z hz) rfl (Nat.le_of_ble_eq_true rfl) hd dX6_coinBySchool_64 (fun _ h12 hd => ?_)
    refine a_iincN (pc := 67) hG (c0 := (nI 1)) 3 rfl hd dX6_coinBySchool_67 rfl (by decide) (lf := fun x => [(4, .int x), (0, .ref (ad 36)), (1, .int x1), (3, .int x3)]) (fun _ => rfl) (fun v13 hd => ?_)
    refine a_goto (pc := 70) hG (tgt := 26) dX6_coinBySchool_70 (by decide) ?_
    exact AW.sub [1, 2, 3, 0] rfl (ih hd)
set_option maxHeartbeats 4000000 in
theorem c_Runs_coinBySchool {ad wad : Nat → Nat} (F : Nat) (a0 : Int32) (a1 : Int32) (h : HS)  (q : Int32 × HS) (hd : f_Runs_coinBySchool F a0 a1 h = some q) : Ctr SHc ad wad yX6_coinBySchool cX6_coinBySchool 6 (some .int) 7 [.ref (ad 36), .int a0, .int a1] h (some (.int q.1), q.2) := by
  refine enter (own := RX6) (lv := [(0, .ref (ad 36)), (1, .int a0), (2, .int a1)]) (by decide +kernel) rfl (Nat.le_of_ble_eq_true rfl) rfl (fun Γ hG => ?_)
  unfold f_Runs_coinBySchool at hd
  refine a_aload_n (pc := 0) hG 0 rfl dX6_coinBySchool_0 rfl ?_
  refine a_getR (pc := 1) hG sc_36 cl_X6 ok_X6 1 (by decide) rfl t_317 dX6_coinBySchool_1 ?_
  refine a_aload_n (pc := 4) hG 0 rfl dX6_coinBySchool_4 rfl ?_
  refine a_getR (pc := 5) hG sc_36 cl_X6 ok_X6 3 (by decide) rfl t_319 dX6_coinBySchool_5 ?_
  refine a_cvN (pc := 8) hG (As := [.ref (ad 37)]) (st := []) sc_20 cl_X0 mk_X0_saveTo t_1112 (by omega) (fun z hz => c_Desk_saveTo 37 _ sc_37 z hz) rfl (Nat.le_of_ble_eq_true rfl) hd dX6_coinBySchool_8 (fun _ h1 hd => ?_)
  refine a_iload_n (pc := 11) hG 2 rfl dX6_coinBySchool_11 rfl ?_
  refine a_aload_n (pc := 12) hG 0 rfl dX6_coinBySchool_12 rfl ?_
  refine a_getR (pc := 13) hG sc_36 cl_X6 ok_X6 1 (by decide) rfl t_317 dX6_coinBySchool_13 ?_
  refine a_cvI (pc := 16) hG (As := []) (st := [.int a1]) sc_20 cl_X0 mk_X0_weeksLeft t_1116 (by omega) (fun z hz => c_Desk_weeksLeft  _  z hz) rfl (Nat.le_of_ble_eq_true rfl) hd dX6_coinBySchool_16 (fun r3 h2 hd => ?_)
  refine a_min (pc := 19) hG t_1117 t_582 t_133 t_583 (by omega) (Nat.le_of_ble_eq_true rfl) dX6_coinBySchool_19 ?_
  refine a_istore_nN (pc := 22) hG hd dX6_coinBySchool_22 rfl (by decide) (lf := fun x => [(3, .int x), (0, .ref (ad 36)), (1, .int a0), (2, .int a1)]) (fun _ => rfl) (fun v4 hd => ?_)
  refine a_iconst (pc := 23) hG dX6_coinBySchool_23 (v := (nI 0)) rfl ?_
  refine a_istoreN (pc := 24) hG hd dX6_coinBySchool_24 (by decide) (lf := fun x => [(4, .int x), (3, .int v4), (0, .ref (ad 36)), (1, .int a0), (2, .int a1)]) (fun _ => rfl) (fun v5 hd => ?_)
  refine AW.sub [2, 3, 1, 0] rfl ?_
  refine w_l_Runs_coinBySchool_0 F (by omega) hG hd (fun h14 hd => ?_)
  refine a_aload_n (pc := 73) hG 0 rfl dX6_coinBySchool_73 rfl ?_
  refine a_getR (pc := 74) hG sc_36 cl_X6 ok_X6 1 (by decide) rfl t_317 dX6_coinBySchool_74 ?_
  refine a_iconst (pc := 77) hG dX6_coinBySchool_77 (v := (nI 1)) rfl ?_
  refine a_cvI (pc := 78) hG (As := [.int (nI 1)]) (st := []) sc_20 cl_X0 mk_X0_ofNow t_1155 (by omega) (fun z hz => c_Desk_ofNow (nI 1) _  z hz) rfl (Nat.le_of_ble_eq_true rfl) hd dX6_coinBySchool_78 (fun r16 h15 hd => ?_)
  refine a_istoreN (pc := 81) hG hd dX6_coinBySchool_81 (by decide) (lf := fun x => [(4, .int x), (0, .ref (ad 36))]) (fun _ => rfl) (fun v17 hd => ?_)
  refine a_aload_n (pc := 83) hG 1 rfl dX6_coinBySchool_83 rfl ?_
  refine a_getR (pc := 84) hG sc_36 cl_X6 ok_X6 1 (by decide) rfl t_317 dX6_coinBySchool_84 ?_
  refine a_aload_n (pc := 87) hG 1 rfl dX6_coinBySchool_87 rfl ?_
  refine a_getR (pc := 88) hG sc_36 cl_X6 ok_X6 3 (by decide) rfl t_319 dX6_coinBySchool_88 ?_
  refine a_cvN (pc := 91) hG (As := [.ref (ad 37)]) (st := []) sc_20 cl_X0 mk_X0_loadFrom t_1156 (by omega) (fun z hz => c_Desk_loadFrom 37 _ sc_37 z hz) rfl (Nat.le_of_ble_eq_true rfl) hd dX6_coinBySchool_91 (fun _ h18 hd => ?_)
  refine a_iload (pc := 94) hG 0 rfl dX6_coinBySchool_94 ?_
  exact a_iret (pc := 96) hG hd dX6_coinBySchool_96
theorem dX11_school_0 : decode cX11_school 0 = .ok (.iload_n 1, 1) := by decide +kernel
theorem dX11_school_1 : decode cX11_school 1 = .ok (.ifCond .lt 19, 3) := by decide +kernel
theorem dX11_school_4 : decode cX11_school 4 = .ok (.iload_n 1, 1) := by decide +kernel
theorem dX11_school_5 : decode cX11_school 5 = .ok (.iconst 2, 1) := by decide +kernel
theorem dX11_school_6 : decode cX11_school 6 = .ok (.if_icmp .gt 14, 3) := by decide +kernel
theorem dX11_school_9 : decode cX11_school 9 = .ok (.iload_n 2, 1) := by decide +kernel
theorem dX11_school_10 : decode cX11_school 10 = .ok (.iconst 1, 1) := by decide +kernel
theorem dX11_school_11 : decode cX11_school 11 = .ok (.if_icmp .lt 9, 3) := by decide +kernel
theorem dX11_school_14 : decode cX11_school 14 = .ok (.iload_n 2, 1) := by decide +kernel
theorem dX11_school_15 : decode cX11_school 15 = .ok (.bipush 50, 2) := by decide +kernel
theorem dX11_school_17 : decode cX11_school 17 = .ok (.if_icmp .le 5, 3) := by decide +kernel
theorem dX11_school_20 : decode cX11_school 20 = .ok (.iconst (-1), 1) := by decide +kernel
theorem dX11_school_21 : decode cX11_school 21 = .ok (.ireturn, 1) := by decide +kernel
theorem dX11_school_22 : decode cX11_school 22 = .ok (.aload_n 0, 1) := by decide +kernel
theorem dX11_school_23 : decode cX11_school 23 = .ok (.getfield 58, 3) := by decide +kernel
theorem dX11_school_26 : decode cX11_school 26 = .ok (.iload_n 1, 1) := by decide +kernel
theorem dX11_school_27 : decode cX11_school 27 = .ok (.iload_n 2, 1) := by decide +kernel
theorem dX11_school_28 : decode cX11_school 28 = .ok (.invokevirtual 264, 3) := by decide +kernel
theorem dX11_school_31 : decode cX11_school 31 = .ok (.ireturn, 1) := by decide +kernel
set_option maxHeartbeats 4000000 in
theorem c_LC_school {ad wad : Nat → Nat} (F : Nat) (a0 : Int32) (a1 : Int32) (h : HS)  (q : Int32 × HS) (hd : f_LC_school F a0 a1 h = some q) : Ctr SHc ad wad yX11_school cX11_school 3 (some .int) 8 [.ref (ad 0), .int a0, .int a1] h (some (.int q.1), q.2) := by
  refine enter (own := RX11) (lv := [(0, .ref (ad 0)), (1, .int a0), (2, .int a1)]) (by decide +kernel) rfl (Nat.le_of_ble_eq_true rfl) rfl (fun Γ hG => ?_)
  unfold f_LC_school at hd
  refine a_iload_n (pc := 0) hG 1 rfl dX11_school_0 rfl ?_
  refine a_if_lt (pc := 1) hG (tgt := 20) hd dX11_school_1 (by decide) (fun hd => ?_) (fun hd => ?_)
  · refine a_iconst (pc := 20) hG dX11_school_20 (v := (-1 : Int32)) rfl ?_
    exact a_iret (pc := 21) hG hd dX11_school_21
  refine a_iload_n (pc := 4) hG 1 rfl dX11_school_4 rfl ?_
  refine a_iconst (pc := 5) hG dX11_school_5 (v := (nI 2)) rfl ?_
  refine a_ic_gt (pc := 6) hG (tgt := 20) hd dX11_school_6 (by decide) (fun hd => ?_) (fun hd => ?_)
  · refine a_iconst (pc := 20) hG dX11_school_20 (v := (-1 : Int32)) rfl ?_
    exact a_iret (pc := 21) hG hd dX11_school_21
  refine a_iload_n (pc := 9) hG 2 rfl dX11_school_9 rfl ?_
  refine a_iconst (pc := 10) hG dX11_school_10 (v := (nI 1)) rfl ?_
  refine a_ic_lt (pc := 11) hG (tgt := 20) hd dX11_school_11 (by decide) (fun hd => ?_) (fun hd => ?_)
  · refine a_iconst (pc := 20) hG dX11_school_20 (v := (-1 : Int32)) rfl ?_
    exact a_iret (pc := 21) hG hd dX11_school_21
  refine a_iload_n (pc := 14) hG 2 rfl dX11_school_14 rfl ?_
  refine a_bipush (pc := 15) hG dX11_school_15 (v := (nI 50)) rfl ?_
  refine a_ic_le (pc := 17) hG (tgt := 22) hd dX11_school_17 (by decide) (fun hd => ?_) (fun hd => ?_)
  · refine a_aload_n (pc := 22) hG 0 rfl dX11_school_22 rfl ?_
    refine a_getR (pc := 23) hG sc_0 cl_X11 ok_X11 6 (by decide) rfl t_487 dX11_school_23 ?_
    refine a_iload_n (pc := 26) hG 1 rfl dX11_school_26 rfl ?_
    refine a_iload_n (pc := 27) hG 2 rfl dX11_school_27 rfl ?_
    refine a_cvI (pc := 28) hG (As := [.int a0, .int a1]) (st := []) sc_36 cl_X6 mk_X6_coinBySchool t_1108 (by omega) (fun z hz => c_Runs_coinBySchool F a0 a1 _  z hz) rfl (Nat.le_of_ble_eq_true rfl) hd dX11_school_28 (fun r2 h1 hd => ?_)
    exact a_iret (pc := 31) hG hd dX11_school_31
  refine a_iconst (pc := 20) hG dX11_school_20 (v := (-1 : Int32)) rfl ?_
  exact a_iret (pc := 21) hG hd dX11_school_21
theorem dX11_best_0 : decode cX11_best 0 = .ok (.iload_n 1, 1) := by decide +kernel
theorem dX11_best_1 : decode cX11_best 1 = .ok (.iconst 1, 1) := by decide +kernel
theorem dX11_best_2 : decode cX11_best 2 = .ok (.if_icmp .lt 9, 3) := by decide +kernel
theorem dX11_best_5 : decode cX11_best 5 = .ok (.iload_n 1, 1) := by decide +kernel
theorem dX11_best_6 : decode cX11_best 6 = .ok (.bipush 50, 2) := by decide +kernel
theorem dX11_best_8 : decode cX11_best 8 = .ok (.if_icmp .le 5, 3) := by decide +kernel
theorem dX11_best_11 : decode cX11_best 11 = .ok (.iconst (-1), 1) := by decide +kernel
theorem dX11_best_12 : decode cX11_best 12 = .ok (.ireturn, 1) := by decide +kernel
theorem dX11_best_13 : decode cX11_best 13 = .ok (.aload_n 0, 1) := by decide +kernel
theorem dX11_best_14 : decode cX11_best 14 = .ok (.getfield 58, 3) := by decide +kernel
theorem dX11_best_17 : decode cX11_best 17 = .ok (.iconst 0, 1) := by decide +kernel
theorem dX11_best_18 : decode cX11_best 18 = .ok (.iload_n 1, 1) := by decide +kernel
theorem dX11_best_19 : decode cX11_best 19 = .ok (.invokevirtual 264, 3) := by decide +kernel
theorem dX11_best_22 : decode cX11_best 22 = .ok (.istore_n 2, 1) := by decide +kernel
theorem dX11_best_23 : decode cX11_best 23 = .ok (.aload_n 0, 1) := by decide +kernel
theorem dX11_best_24 : decode cX11_best 24 = .ok (.getfield 58, 3) := by decide +kernel
theorem dX11_best_27 : decode cX11_best 27 = .ok (.iconst 1, 1) := by decide +kernel
theorem dX11_best_28 : decode cX11_best 28 = .ok (.iload_n 1, 1) := by decide +kernel
theorem dX11_best_29 : decode cX11_best 29 = .ok (.invokevirtual 264, 3) := by decide +kernel
theorem dX11_best_32 : decode cX11_best 32 = .ok (.istore_n 3, 1) := by decide +kernel
theorem dX11_best_33 : decode cX11_best 33 = .ok (.aload_n 0, 1) := by decide +kernel
theorem dX11_best_34 : decode cX11_best 34 = .ok (.getfield 58, 3) := by decide +kernel
theorem dX11_best_37 : decode cX11_best 37 = .ok (.iconst 2, 1) := by decide +kernel
theorem dX11_best_38 : decode cX11_best 38 = .ok (.iload_n 1, 1) := by decide +kernel
theorem dX11_best_39 : decode cX11_best 39 = .ok (.invokevirtual 264, 3) := by decide +kernel
theorem dX11_best_42 : decode cX11_best 42 = .ok (.istore 4, 2) := by decide +kernel
theorem dX11_best_44 : decode cX11_best 44 = .ok (.iload_n 2, 1) := by decide +kernel
theorem dX11_best_45 : decode cX11_best 45 = .ok (.iload_n 3, 1) := by decide +kernel
theorem dX11_best_46 : decode cX11_best 46 = .ok (.if_icmp .lt 11, 3) := by decide +kernel
theorem dX11_best_49 : decode cX11_best 49 = .ok (.iload_n 2, 1) := by decide +kernel
theorem dX11_best_50 : decode cX11_best 50 = .ok (.iload 4, 2) := by decide +kernel
theorem dX11_best_52 : decode cX11_best 52 = .ok (.if_icmp .lt 5, 3) := by decide +kernel
theorem dX11_best_55 : decode cX11_best 55 = .ok (.iconst 0, 1) := by decide +kernel
theorem dX11_best_56 : decode cX11_best 56 = .ok (.ireturn, 1) := by decide +kernel
theorem dX11_best_57 : decode cX11_best 57 = .ok (.iload_n 3, 1) := by decide +kernel
theorem dX11_best_58 : decode cX11_best 58 = .ok (.iload 4, 2) := by decide +kernel
theorem dX11_best_60 : decode cX11_best 60 = .ok (.if_icmp .lt 7, 3) := by decide +kernel
theorem dX11_best_63 : decode cX11_best 63 = .ok (.iconst 1, 1) := by decide +kernel
theorem dX11_best_64 : decode cX11_best 64 = .ok (.goto 4, 3) := by decide +kernel
theorem dX11_best_67 : decode cX11_best 67 = .ok (.iconst 2, 1) := by decide +kernel
theorem dX11_best_68 : decode cX11_best 68 = .ok (.ireturn, 1) := by decide +kernel
set_option maxHeartbeats 4000000 in
theorem c_LC_best {ad wad : Nat → Nat} (F : Nat) (a0 : Int32) (h : HS)  (q : Int32 × HS) (hd : f_LC_best F a0 h = some q) : Ctr SHc ad wad yX11_best cX11_best 5 (some .int) 8 [.ref (ad 0), .int a0] h (some (.int q.1), q.2) := by
  refine enter (own := RX11) (lv := [(0, .ref (ad 0)), (1, .int a0)]) (by decide +kernel) rfl (Nat.le_of_ble_eq_true rfl) rfl (fun Γ hG => ?_)
  unfold f_LC_best at hd
  refine a_iload_n (pc := 0) hG 1 rfl dX11_best_0 rfl ?_
  refine a_iconst (pc := 1) hG dX11_best_1 (v := (nI 1)) rfl ?_
  refine a_ic_lt (pc := 2) hG (tgt := 11) hd dX11_best_2 (by decide) (fun hd => ?_) (fun hd => ?_)
  · refine a_iconst (pc := 11) hG dX11_best_11 (v := (-1 : Int32)) rfl ?_
    exact a_iret (pc := 12) hG hd dX11_best_12
  refine a_iload_n (pc := 5) hG 1 rfl dX11_best_5 rfl ?_
  refine a_bipush (pc := 6) hG dX11_best_6 (v := (nI 50)) rfl ?_
  refine a_ic_le (pc := 8) hG (tgt := 13) hd dX11_best_8 (by decide) (fun hd => ?_) (fun hd => ?_)
  · refine a_aload_n (pc := 13) hG 0 rfl dX11_best_13 rfl ?_
    refine a_getR (pc := 14) hG sc_0 cl_X11 ok_X11 6 (by decide) rfl t_487 dX11_best_14 ?_
    refine a_iconst (pc := 17) hG dX11_best_17 (v := (nI 0)) rfl ?_
    refine a_iload_n (pc := 18) hG 1 rfl dX11_best_18 rfl ?_
    refine a_cvI (pc := 19) hG (As := [.int (nI 0), .int a0]) (st := []) sc_36 cl_X6 mk_X6_coinBySchool t_1108 (by omega) (fun z hz => c_Runs_coinBySchool F (nI 0) a0 _  z hz) rfl (Nat.le_of_ble_eq_true rfl) hd dX11_best_19 (fun r2 h1 hd => ?_)
    refine a_istore_nN (pc := 22) hG hd dX11_best_22 rfl (by decide) (lf := fun x => [(2, .int x), (0, .ref (ad 0)), (1, .int a0)]) (fun _ => rfl) (fun v3 hd => ?_)
    refine a_aload_n (pc := 23) hG 1 rfl dX11_best_23 rfl ?_
    refine a_getR (pc := 24) hG sc_0 cl_X11 ok_X11 6 (by decide) rfl t_487 dX11_best_24 ?_
    refine a_iconst (pc := 27) hG dX11_best_27 (v := (nI 1)) rfl ?_
    refine a_iload_n (pc := 28) hG 2 rfl dX11_best_28 rfl ?_
    refine a_cvI (pc := 29) hG (As := [.int (nI 1), .int a0]) (st := []) sc_36 cl_X6 mk_X6_coinBySchool t_1108 (by omega) (fun z hz => c_Runs_coinBySchool F (nI 1) a0 _  z hz) rfl (Nat.le_of_ble_eq_true rfl) hd dX11_best_29 (fun r5 h4 hd => ?_)
    refine a_istore_nN (pc := 32) hG hd dX11_best_32 rfl (by decide) (lf := fun x => [(3, .int x), (2, .int v3), (0, .ref (ad 0)), (1, .int a0)]) (fun _ => rfl) (fun v6 hd => ?_)
    refine a_aload_n (pc := 33) hG 2 rfl dX11_best_33 rfl ?_
    refine a_getR (pc := 34) hG sc_0 cl_X11 ok_X11 6 (by decide) rfl t_487 dX11_best_34 ?_
    refine a_iconst (pc := 37) hG dX11_best_37 (v := (nI 2)) rfl ?_
    refine a_iload_n (pc := 38) hG 3 rfl dX11_best_38 rfl ?_
    refine a_cvI (pc := 39) hG (As := [.int (nI 2), .int a0]) (st := []) sc_36 cl_X6 mk_X6_coinBySchool t_1108 (by omega) (fun z hz => c_Runs_coinBySchool F (nI 2) a0 _  z hz) rfl (Nat.le_of_ble_eq_true rfl) hd dX11_best_39 (fun r8 h7 hd => ?_)
    refine a_istoreN (pc := 42) hG hd dX11_best_42 (by decide) (lf := fun x => [(4, .int x), (3, .int v6), (2, .int v3), (0, .ref (ad 0)), (1, .int a0)]) (fun _ => rfl) (fun v9 hd => ?_)
    refine a_iload_n (pc := 44) hG 2 rfl dX11_best_44 rfl ?_
    refine a_iload_n (pc := 45) hG 1 rfl dX11_best_45 rfl ?_
    refine a_join hd (Q := fun J : HS → Option (Int32 × HS) => ∀  (h11 : HS), J  h11 = some q → AW SHc ad 5 (some (.int q.1), q.2) Γ 57 [(3, .int v6), (4, .int v9)] [] h11) (fun  h11 hd => ?_) (fun J10 hJ10 hd => ?_)
    · refine a_iload_n (pc := 57) hG 0 rfl dX11_best_57 rfl ?_
      refine a_iload (pc := 58) hG 1 rfl dX11_best_58 ?_
      refine a_ic_lt (pc := 60) hG (tgt := 67) hd dX11_best_60 (by decide) (fun hd => ?_) (fun hd => ?_)
      · refine a_iconst (pc := 67) hG dX11_best_67 (v := (nI 2)) rfl ?_
        exact a_iret (pc := 68) hG hd dX11_best_68
      refine a_iconst (pc := 63) hG dX11_best_63 (v := (nI 1)) rfl ?_
      refine a_goto (pc := 64) hG (tgt := 68) dX11_best_64 (by decide) ?_
      exact a_iret (pc := 68) hG hd dX11_best_68
    refine a_ic_lt (pc := 46) hG (tgt := 57) hd dX11_best_46 (by decide) (fun hd => ?_) (fun hd => ?_)
    · exact AW.sub [1, 0] rfl (hJ10  _ hd)
    refine a_iload_n (pc := 49) hG 2 rfl dX11_best_49 rfl ?_
    refine a_iload (pc := 50) hG 0 rfl dX11_best_50 ?_
    refine a_ic_lt (pc := 52) hG (tgt := 57) hd dX11_best_52 (by decide) (fun hd => ?_) (fun hd => ?_)
    · exact AW.sub [1, 0] rfl (hJ10  _ hd)
    refine a_iconst (pc := 55) hG dX11_best_55 (v := (nI 0)) rfl ?_
    exact a_iret (pc := 56) hG hd dX11_best_56
  refine a_iconst (pc := 11) hG dX11_best_11 (v := (-1 : Int32)) rfl ?_
  exact a_iret (pc := 12) hG hd dX11_best_12
theorem dX9_isMaking_0 : decode cX9_isMaking 0 = .ok (.aload_n 0, 1) := by decide +kernel
theorem dX9_isMaking_1 : decode cX9_isMaking 1 = .ok (.getfield 28, 3) := by decide +kernel
theorem dX9_isMaking_4 : decode cX9_isMaking 4 = .ok (.iload_n 1, 1) := by decide +kernel
theorem dX9_isMaking_5 : decode cX9_isMaking 5 = .ok (.iconst 0, 1) := by decide +kernel
theorem dX9_isMaking_6 : decode cX9_isMaking 6 = .ok (.invokevirtual 110, 3) := by decide +kernel
theorem dX9_isMaking_9 : decode cX9_isMaking 9 = .ok (.aload_n 0, 1) := by decide +kernel
theorem dX9_isMaking_10 : decode cX9_isMaking 10 = .ok (.getfield 9, 3) := by decide +kernel
theorem dX9_isMaking_13 : decode cX9_isMaking 13 = .ok (.iload_n 2, 1) := by decide +kernel
theorem dX9_isMaking_14 : decode cX9_isMaking 14 = .ok (.iaload, 1) := by decide +kernel
theorem dX9_isMaking_15 : decode cX9_isMaking 15 = .ok (.iadd, 1) := by decide +kernel
theorem dX9_isMaking_16 : decode cX9_isMaking 16 = .ok (.iload_n 3, 1) := by decide +kernel
theorem dX9_isMaking_17 : decode cX9_isMaking 17 = .ok (.if_icmp .ne 28, 3) := by decide +kernel
theorem dX9_isMaking_20 : decode cX9_isMaking 20 = .ok (.aload_n 0, 1) := by decide +kernel
theorem dX9_isMaking_21 : decode cX9_isMaking 21 = .ok (.getfield 28, 3) := by decide +kernel
theorem dX9_isMaking_24 : decode cX9_isMaking 24 = .ok (.iload_n 1, 1) := by decide +kernel
theorem dX9_isMaking_25 : decode cX9_isMaking 25 = .ok (.iconst 1, 1) := by decide +kernel
theorem dX9_isMaking_26 : decode cX9_isMaking 26 = .ok (.invokevirtual 110, 3) := by decide +kernel
theorem dX9_isMaking_29 : decode cX9_isMaking 29 = .ok (.aload_n 0, 1) := by decide +kernel
theorem dX9_isMaking_30 : decode cX9_isMaking 30 = .ok (.getfield 15, 3) := by decide +kernel
theorem dX9_isMaking_33 : decode cX9_isMaking 33 = .ok (.iload_n 2, 1) := by decide +kernel
theorem dX9_isMaking_34 : decode cX9_isMaking 34 = .ok (.iaload, 1) := by decide +kernel
theorem dX9_isMaking_35 : decode cX9_isMaking 35 = .ok (.iadd, 1) := by decide +kernel
theorem dX9_isMaking_36 : decode cX9_isMaking 36 = .ok (.iload 4, 2) := by decide +kernel
theorem dX9_isMaking_38 : decode cX9_isMaking 38 = .ok (.if_icmp .ne 7, 3) := by decide +kernel
theorem dX9_isMaking_41 : decode cX9_isMaking 41 = .ok (.iconst 1, 1) := by decide +kernel
theorem dX9_isMaking_42 : decode cX9_isMaking 42 = .ok (.goto 4, 3) := by decide +kernel
theorem dX9_isMaking_45 : decode cX9_isMaking 45 = .ok (.iconst 0, 1) := by decide +kernel
theorem dX9_isMaking_46 : decode cX9_isMaking 46 = .ok (.ireturn, 1) := by decide +kernel
set_option maxHeartbeats 4000000 in
theorem c_Ways_isMaking {ad wad : Nat → Nat} (a0 : Int32) (a1 : Int32) (a2 : Int32) (a3 : Int32) (h : HS)  (q : Int32 × HS) (hd : f_Ways_isMaking a0 a1 a2 a3 h = some q) : Ctr SHc ad wad yX9_isMaking cX9_isMaking 5 (some .boolean) 2 [.ref (ad 31), .int a0, .int a1, .int a2, .int a3] h (some (.int q.1), q.2) := by
  refine enter (own := RX9) (lv := [(0, .ref (ad 31)), (1, .int a0), (2, .int a1), (3, .int a2), (4, .int a3)]) (by decide +kernel) rfl (Nat.le_of_ble_eq_true rfl) rfl (fun Γ hG => ?_)
  unfold f_Ways_isMaking at hd
  refine a_aload_n (pc := 0) hG 0 rfl dX9_isMaking_0 rfl ?_
  refine a_getR (pc := 1) hG sc_31 cl_X9 ok_X9 0 (by decide) rfl t_288 dX9_isMaking_1 ?_
  refine a_iload_n (pc := 4) hG 1 rfl dX9_isMaking_4 rfl ?_
  refine a_iconst (pc := 5) hG dX9_isMaking_5 (v := (nI 0)) rfl ?_
  refine a_cvI (pc := 6) hG (As := [.int a0, .int (nI 0)]) (st := []) sc_3 cl_X5 mk_X5_ofCause t_1174 (by omega) (fun z hz => c_Plan_ofCause_3 a0 (nI 0) _  z hz) rfl (Nat.le_of_ble_eq_true rfl) hd dX9_isMaking_6 (fun r2 h1 hd => ?_)
  refine a_aload_n (pc := 9) hG 0 rfl dX9_isMaking_9 rfl ?_
  refine a_getR (pc := 10) hG sc_31 cl_X9 ok_X9 2 (by decide) rfl t_290 dX9_isMaking_10 ?_
  refine a_iload_n (pc := 13) hG 2 rfl dX9_isMaking_13 rfl ?_
  refine a_iald (pc := 14) hG sc_32 hd dX9_isMaking_14 (fun hd => ?_)
  refine a_iadd (pc := 15) hG dX9_isMaking_15 ?_
  refine a_iload_n (pc := 16) hG 3 rfl dX9_isMaking_16 rfl ?_
  refine a_ic_ne (pc := 17) hG (tgt := 45) hd dX9_isMaking_17 (by decide) (fun hd => ?_) (fun hd => ?_)
  · refine a_iconst (pc := 45) hG dX9_isMaking_45 (v := (nI 0)) rfl ?_
    exact a_zret (pc := 46) hG hd dX9_isMaking_46
  refine a_aload_n (pc := 20) hG 0 rfl dX9_isMaking_20 rfl ?_
  refine a_getR (pc := 21) hG sc_31 cl_X9 ok_X9 0 (by decide) rfl t_288 dX9_isMaking_21 ?_
  refine a_iload_n (pc := 24) hG 1 rfl dX9_isMaking_24 rfl ?_
  refine a_iconst (pc := 25) hG dX9_isMaking_25 (v := (nI 1)) rfl ?_
  refine a_cvI (pc := 26) hG (As := [.int a0, .int (nI 1)]) (st := []) sc_3 cl_X5 mk_X5_ofCause t_1174 (by omega) (fun z hz => c_Plan_ofCause_3 a0 (nI 1) _  z hz) rfl (Nat.le_of_ble_eq_true rfl) hd dX9_isMaking_26 (fun r4 h3 hd => ?_)
  refine a_aload_n (pc := 29) hG 0 rfl dX9_isMaking_29 rfl ?_
  refine a_getR (pc := 30) hG sc_31 cl_X9 ok_X9 3 (by decide) rfl t_291 dX9_isMaking_30 ?_
  refine a_iload_n (pc := 33) hG 2 rfl dX9_isMaking_33 rfl ?_
  refine a_iald (pc := 34) hG sc_33 hd dX9_isMaking_34 (fun hd => ?_)
  refine a_iadd (pc := 35) hG dX9_isMaking_35 ?_
  refine a_iload (pc := 36) hG 4 rfl dX9_isMaking_36 ?_
  refine a_ic_ne (pc := 38) hG (tgt := 45) hd dX9_isMaking_38 (by decide) (fun hd => ?_) (fun hd => ?_)
  · refine a_iconst (pc := 45) hG dX9_isMaking_45 (v := (nI 0)) rfl ?_
    exact a_zret (pc := 46) hG hd dX9_isMaking_46
  refine a_iconst (pc := 41) hG dX9_isMaking_41 (v := (nI 1)) rfl ?_
  refine a_goto (pc := 42) hG (tgt := 46) dX9_isMaking_42 (by decide) ?_
  exact a_zret (pc := 46) hG hd dX9_isMaking_46
theorem dX9_setsMaking_0 : decode cX9_setsMaking 0 = .ok (.iconst 0, 1) := by decide +kernel
theorem dX9_setsMaking_1 : decode cX9_setsMaking 1 = .ok (.istore 4, 2) := by decide +kernel
theorem dX9_setsMaking_3 : decode cX9_setsMaking 3 = .ok (.iconst 0, 1) := by decide +kernel
theorem dX9_setsMaking_4 : decode cX9_setsMaking 4 = .ok (.istore 5, 2) := by decide +kernel
theorem dX9_setsMaking_6 : decode cX9_setsMaking 6 = .ok (.iload 5, 2) := by decide +kernel
theorem dX9_setsMaking_8 : decode cX9_setsMaking 8 = .ok (.aload_n 0, 1) := by decide +kernel
theorem dX9_setsMaking_9 : decode cX9_setsMaking 9 = .ok (.getfield 24, 3) := by decide +kernel
theorem dX9_setsMaking_12 : decode cX9_setsMaking 12 = .ok (.if_icmp .ge 24, 3) := by decide +kernel
theorem dX9_setsMaking_15 : decode cX9_setsMaking 15 = .ok (.aload_n 0, 1) := by decide +kernel
theorem dX9_setsMaking_16 : decode cX9_setsMaking 16 = .ok (.iload_n 1, 1) := by decide +kernel
theorem dX9_setsMaking_17 : decode cX9_setsMaking 17 = .ok (.iload 5, 2) := by decide +kernel
theorem dX9_setsMaking_19 : decode cX9_setsMaking 19 = .ok (.iload_n 2, 1) := by decide +kernel
theorem dX9_setsMaking_20 : decode cX9_setsMaking 20 = .ok (.iload_n 3, 1) := by decide +kernel
theorem dX9_setsMaking_21 : decode cX9_setsMaking 21 = .ok (.invokevirtual 106, 3) := by decide +kernel
theorem dX9_setsMaking_24 : decode cX9_setsMaking 24 = .ok (.ifCond .eq 6, 3) := by decide +kernel
theorem dX9_setsMaking_27 : decode cX9_setsMaking 27 = .ok (.iinc 4 1, 3) := by decide +kernel
theorem dX9_setsMaking_30 : decode cX9_setsMaking 30 = .ok (.iinc 5 1, 3) := by decide +kernel
theorem dX9_setsMaking_33 : decode cX9_setsMaking 33 = .ok (.goto (-27), 3) := by decide +kernel
theorem dX9_setsMaking_36 : decode cX9_setsMaking 36 = .ok (.iload 4, 2) := by decide +kernel
theorem dX9_setsMaking_38 : decode cX9_setsMaking 38 = .ok (.ireturn, 1) := by decide +kernel
set_option maxHeartbeats 4000000 in
theorem w_l_Ways_setsMaking_0 {ad wad : Nat → Nat} {Γ : Ctx} (F : Nat) {n : Nat} (hn : 3 ≤ n) (hG : Cx SHc ad wad cX9_setsMaking 6 RX9 (some .int) (n) Γ) {q : Int32 × HS} {x1 : Int32} {x2 : Int32} {x3 : Int32} {g : Nat} {x4 : Int32} {x5 : Int32} {h : HS} (hd : l_Ways_setsMaking_0 F x1 x2 x3 g x4 x5 h = some q) : AW SHc ad 6 (some (.int q.1), q.2) Γ 6 [(0, .ref (ad 31)), (1, .int x1), (2, .int x2), (3, .int x3), (4, .int x4), (5, .int x5)] [] h := by
  induction g generalizing x4 x5 h with
  | zero => unfold l_Ways_setsMaking_0 at hd; cases hd
  | succ g ih =>
    unfold l_Ways_setsMaking_0 at hd
    refine a_iload (pc := 6) hG 5 rfl dX9_setsMaking_6 ?_
    refine a_aload_n (pc := 8) hG 0 rfl dX9_setsMaking_8 rfl ?_
    refine a_getI (pc := 9) hG sc_31 cl_X9 ok_X9 6 (by decide) rfl t_294 dX9_setsMaking_9 ?_
    refine a_ic_ge (pc := 12) hG (tgt := 36) hd dX9_setsMaking_12 (by decide) (fun hd => ?_) (fun hd => ?_)
    · refine a_iload (pc := 36) hG 4 rfl dX9_setsMaking_36 ?_
      exact a_iret (pc := 38) hG hd dX9_setsMaking_38
    refine a_aload_n (pc := 15) hG 0 rfl dX9_setsMaking_15 rfl ?_
    refine a_iload_n (pc := 16) hG 1 rfl dX9_setsMaking_16 rfl ?_
    refine a_iload (pc := 17) hG 5 rfl dX9_setsMaking_17 ?_
    refine a_iload_n (pc := 19) hG 2 rfl dX9_setsMaking_19 rfl ?_
    refine a_iload_n (pc := 20) hG 3 rfl dX9_setsMaking_20 rfl ?_
    refine a_cvI (pc := 21) hG (As := [.int x1, .int x5, .int x2, .int x3]) (st := []) sc_31 cl_X9 mk_X9_isMaking t_1170 (by omega) (fun z hz => c_Ways_isMaking x1 x5 x2 x3 _  z hz) rfl (Nat.le_of_ble_eq_true rfl) hd dX9_setsMaking_21 (fun r4 h3 hd => ?_)
    refine a_join hd (Q := fun J : Int32 → HS → Option (Int32 × HS) => ∀ (v6 : Int32) (h7 : HS), J v6 h7 = some q → AW SHc ad 6 (some (.int q.1), q.2) Γ 30 [(0, .ref (ad 31)), (1, .int x1), (2, .int x2), (3, .int x3), (4, .int v6), (5, .int x5)] [] h7) (fun v6 h7 hd => ?_) (fun J5 hJ5 hd => ?_)
    · refine a_iincN (pc := 30) hG (c0 := (nI 1)) 5 rfl hd dX9_setsMaking_30 rfl (by decide) (lf := fun x => [(5, .int x), (0, .ref (ad 31)), (1, .int x1), (2, .int x2), (3, .int x3), (4, .int v6)]) (fun _ => rfl) (fun v8 hd => ?_)
      refine a_goto (pc := 33) hG (tgt := 6) dX9_setsMaking_33 (by decide) ?_
      exact AW.sub [1, 2, 3, 4, 5, 0] rfl (ih hd)
    refine a_if_eq (pc := 24) hG (tgt := 30) hd dX9_setsMaking_24 (by decide) (fun hd => ?_) (fun hd => ?_)
    · exact AW.sub [0, 1, 2, 3, 4, 5] rfl (hJ5 _ _ hd)
    refine a_iincN (pc := 27) hG (c0 := (nI 1)) 4 rfl hd dX9_setsMaking_27 rfl (by decide) (lf := fun x => [(4, .int x), (0, .ref (ad 31)), (1, .int x1), (2, .int x2), (3, .int x3), (5, .int x5)]) (fun _ => rfl) (fun v9 hd => ?_)
    exact AW.sub [1, 2, 3, 4, 0, 5] rfl (hJ5 _ _ hd)
set_option maxHeartbeats 4000000 in
theorem c_Ways_setsMaking {ad wad : Nat → Nat} (F : Nat) (a0 : Int32) (a1 : Int32) (a2 : Int32) (h : HS)  (q : Int32 × HS) (hd : f_Ways_setsMaking F a0 a1 a2 h = some q) : Ctr SHc ad wad yX9_setsMaking cX9_setsMaking 6 (some .int) 3 [.ref (ad 31), .int a0, .int a1, .int a2] h (some (.int q.1), q.2) := by
  refine enter (own := RX9) (lv := [(0, .ref (ad 31)), (1, .int a0), (2, .int a1), (3, .int a2)]) (by decide +kernel) rfl (Nat.le_of_ble_eq_true rfl) rfl (fun Γ hG => ?_)
  unfold f_Ways_setsMaking at hd
  refine a_iconst (pc := 0) hG dX9_setsMaking_0 (v := (nI 0)) rfl ?_
  refine a_istoreN (pc := 1) hG hd dX9_setsMaking_1 (by decide) (lf := fun x => [(4, .int x), (0, .ref (ad 31)), (1, .int a0), (2, .int a1), (3, .int a2)]) (fun _ => rfl) (fun v1 hd => ?_)
  refine a_iconst (pc := 3) hG dX9_setsMaking_3 (v := (nI 0)) rfl ?_
  refine a_istoreN (pc := 4) hG hd dX9_setsMaking_4 (by decide) (lf := fun x => [(5, .int x), (4, .int v1), (0, .ref (ad 31)), (1, .int a0), (2, .int a1), (3, .int a2)]) (fun _ => rfl) (fun v2 hd => ?_)
  refine AW.sub [2, 3, 4, 5, 1, 0] rfl ?_
  exact w_l_Ways_setsMaking_0 F (by omega) hG hd
theorem dX9_commonDeeds_0 : decode cX9_commonDeeds 0 = .ok (.aload_n 0, 1) := by decide +kernel
theorem dX9_commonDeeds_1 : decode cX9_commonDeeds 1 = .ok (.getfield 24, 3) := by decide +kernel
theorem dX9_commonDeeds_4 : decode cX9_commonDeeds 4 = .ok (.iconst 1, 1) := by decide +kernel
theorem dX9_commonDeeds_5 : decode cX9_commonDeeds 5 = .ok (.isub, 1) := by decide +kernel
theorem dX9_commonDeeds_6 : decode cX9_commonDeeds 6 = .ok (.istore 4, 2) := by decide +kernel
theorem dX9_commonDeeds_8 : decode cX9_commonDeeds 8 = .ok (.iconst 0, 1) := by decide +kernel
theorem dX9_commonDeeds_9 : decode cX9_commonDeeds 9 = .ok (.istore 5, 2) := by decide +kernel
theorem dX9_commonDeeds_11 : decode cX9_commonDeeds 11 = .ok (.iload 5, 2) := by decide +kernel
theorem dX9_commonDeeds_13 : decode cX9_commonDeeds 13 = .ok (.aload_n 0, 1) := by decide +kernel
theorem dX9_commonDeeds_14 : decode cX9_commonDeeds 14 = .ok (.getfield 24, 3) := by decide +kernel
theorem dX9_commonDeeds_17 : decode cX9_commonDeeds 17 = .ok (.if_icmp .ge 28, 3) := by decide +kernel
theorem dX9_commonDeeds_20 : decode cX9_commonDeeds 20 = .ok (.aload_n 0, 1) := by decide +kernel
theorem dX9_commonDeeds_21 : decode cX9_commonDeeds 21 = .ok (.iload_n 1, 1) := by decide +kernel
theorem dX9_commonDeeds_22 : decode cX9_commonDeeds 22 = .ok (.iload 5, 2) := by decide +kernel
theorem dX9_commonDeeds_24 : decode cX9_commonDeeds 24 = .ok (.iload_n 2, 1) := by decide +kernel
theorem dX9_commonDeeds_25 : decode cX9_commonDeeds 25 = .ok (.iload_n 3, 1) := by decide +kernel
theorem dX9_commonDeeds_26 : decode cX9_commonDeeds 26 = .ok (.invokevirtual 106, 3) := by decide +kernel
theorem dX9_commonDeeds_29 : decode cX9_commonDeeds 29 = .ok (.ifCond .eq 10, 3) := by decide +kernel
theorem dX9_commonDeeds_32 : decode cX9_commonDeeds 32 = .ok (.iload 4, 2) := by decide +kernel
theorem dX9_commonDeeds_34 : decode cX9_commonDeeds 34 = .ok (.iload 5, 2) := by decide +kernel
theorem dX9_commonDeeds_36 : decode cX9_commonDeeds 36 = .ok (.iand, 1) := by decide +kernel
theorem dX9_commonDeeds_37 : decode cX9_commonDeeds 37 = .ok (.istore 4, 2) := by decide +kernel
theorem dX9_commonDeeds_39 : decode cX9_commonDeeds 39 = .ok (.iinc 5 1, 3) := by decide +kernel
theorem dX9_commonDeeds_42 : decode cX9_commonDeeds 42 = .ok (.goto (-31), 3) := by decide +kernel
theorem dX9_commonDeeds_45 : decode cX9_commonDeeds 45 = .ok (.iload 4, 2) := by decide +kernel
theorem dX9_commonDeeds_47 : decode cX9_commonDeeds 47 = .ok (.ireturn, 1) := by decide +kernel
set_option maxHeartbeats 4000000 in
theorem w_l_Ways_commonDeeds_0 {ad wad : Nat → Nat} {Γ : Ctx} (F : Nat) {n : Nat} (hn : 3 ≤ n) (hG : Cx SHc ad wad cX9_commonDeeds 6 RX9 (some .int) (n) Γ) {q : Int32 × HS} {x1 : Int32} {x2 : Int32} {x3 : Int32} {g : Nat} {x4 : Int32} {x5 : Int32} {h : HS} (hd : l_Ways_commonDeeds_0 F x1 x2 x3 g x4 x5 h = some q) : AW SHc ad 6 (some (.int q.1), q.2) Γ 11 [(0, .ref (ad 31)), (1, .int x1), (2, .int x2), (3, .int x3), (4, .int x4), (5, .int x5)] [] h := by
  induction g generalizing x4 x5 h with
  | zero => unfold l_Ways_commonDeeds_0 at hd; cases hd
  | succ g ih =>
    unfold l_Ways_commonDeeds_0 at hd
    refine a_iload (pc := 11) hG 5 rfl dX9_commonDeeds_11 ?_
    refine a_aload_n (pc := 13) hG 0 rfl dX9_commonDeeds_13 rfl ?_
    refine a_getI (pc := 14) hG sc_31 cl_X9 ok_X9 6 (by decide) rfl t_294 dX9_commonDeeds_14 ?_
    refine a_ic_ge (pc := 17) hG (tgt := 45) hd dX9_commonDeeds_17 (by decide) (fun hd => ?_) (fun hd => ?_)
    · refine a_iload (pc := 45) hG 4 rfl dX9_commonDeeds_45 ?_
      exact a_iret (pc := 47) hG hd dX9_commonDeeds_47
    refine a_aload_n (pc := 20) hG 0 rfl dX9_commonDeeds_20 rfl ?_
    refine a_iload_n (pc := 21) hG 1 rfl dX9_commonDeeds_21 rfl ?_
    refine a_iload (pc := 22) hG 5 rfl dX9_commonDeeds_22 ?_
    refine a_iload_n (pc := 24) hG 2 rfl dX9_commonDeeds_24 rfl ?_
    refine a_iload_n (pc := 25) hG 3 rfl dX9_commonDeeds_25 rfl ?_
    refine a_cvI (pc := 26) hG (As := [.int x1, .int x5, .int x2, .int x3]) (st := []) sc_31 cl_X9 mk_X9_isMaking t_1170 (by omega) (fun z hz => c_Ways_isMaking x1 x5 x2 x3 _  z hz) rfl (Nat.le_of_ble_eq_true rfl) hd dX9_commonDeeds_26 (fun r4 h3 hd => ?_)
    refine a_join hd (Q := fun J : Int32 → HS → Option (Int32 × HS) => ∀ (v6 : Int32) (h7 : HS), J v6 h7 = some q → AW SHc ad 6 (some (.int q.1), q.2) Γ 39 [(0, .ref (ad 31)), (1, .int x1), (2, .int x2), (3, .int x3), (4, .int v6), (5, .int x5)] [] h7) (fun v6 h7 hd => ?_) (fun J5 hJ5 hd => ?_)
    · refine a_iincN (pc := 39) hG (c0 := (nI 1)) 5 rfl hd dX9_commonDeeds_39 rfl (by decide) (lf := fun x => [(5, .int x), (0, .ref (ad 31)), (1, .int x1), (2, .int x2), (3, .int x3), (4, .int v6)]) (fun _ => rfl) (fun v8 hd => ?_)
      refine a_goto (pc := 42) hG (tgt := 11) dX9_commonDeeds_42 (by decide) ?_
      exact AW.sub [1, 2, 3, 4, 5, 0] rfl (ih hd)
    refine a_if_eq (pc := 29) hG (tgt := 39) hd dX9_commonDeeds_29 (by decide) (fun hd => ?_) (fun hd => ?_)
    · exact AW.sub [0, 1, 2, 3, 4, 5] rfl (hJ5 _ _ hd)
    refine a_iload (pc := 32) hG 4 rfl dX9_commonDeeds_32 ?_
    refine a_iload (pc := 34) hG 5 rfl dX9_commonDeeds_34 ?_
    refine a_iand (pc := 36) hG dX9_commonDeeds_36 ?_
    refine a_istoreN (pc := 37) hG hd dX9_commonDeeds_37 (by decide) (lf := fun x => [(4, .int x), (0, .ref (ad 31)), (1, .int x1), (2, .int x2), (3, .int x3), (5, .int x5)]) (fun _ => rfl) (fun v9 hd => ?_)
    exact AW.sub [1, 2, 3, 4, 0, 5] rfl (hJ5 _ _ hd)
set_option maxHeartbeats 4000000 in
theorem c_Ways_commonDeeds {ad wad : Nat → Nat} (F : Nat) (a0 : Int32) (a1 : Int32) (a2 : Int32) (h : HS)  (q : Int32 × HS) (hd : f_Ways_commonDeeds F a0 a1 a2 h = some q) : Ctr SHc ad wad yX9_commonDeeds cX9_commonDeeds 6 (some .int) 3 [.ref (ad 31), .int a0, .int a1, .int a2] h (some (.int q.1), q.2) := by
  refine enter (own := RX9) (lv := [(0, .ref (ad 31)), (1, .int a0), (2, .int a1), (3, .int a2)]) (by decide +kernel) rfl (Nat.le_of_ble_eq_true rfl) rfl (fun Γ hG => ?_)
  unfold f_Ways_commonDeeds at hd
  refine a_aload_n (pc := 0) hG 0 rfl dX9_commonDeeds_0 rfl ?_
  refine a_getI (pc := 1) hG sc_31 cl_X9 ok_X9 6 (by decide) rfl t_294 dX9_commonDeeds_1 ?_
  refine a_iconst (pc := 4) hG dX9_commonDeeds_4 (v := (nI 1)) rfl ?_
  refine a_isub (pc := 5) hG dX9_commonDeeds_5 ?_
  refine a_istoreN (pc := 6) hG hd dX9_commonDeeds_6 (by decide) (lf := fun x => [(4, .int x), (0, .ref (ad 31)), (1, .int a0), (2, .int a1), (3, .int a2)]) (fun _ => rfl) (fun v1 hd => ?_)
  refine a_iconst (pc := 8) hG dX9_commonDeeds_8 (v := (nI 0)) rfl ?_
  refine a_istoreN (pc := 9) hG hd dX9_commonDeeds_9 (by decide) (lf := fun x => [(5, .int x), (4, .int v1), (0, .ref (ad 31)), (1, .int a0), (2, .int a1), (3, .int a2)]) (fun _ => rfl) (fun v2 hd => ?_)
  refine AW.sub [2, 3, 4, 5, 1, 0] rfl ?_
  exact w_l_Ways_commonDeeds_0 F (by omega) hG hd
theorem dX11_flags_0 : decode cX11_flags 0 = .ok (.aload_n 0, 1) := by decide +kernel
theorem dX11_flags_1 : decode cX11_flags 1 = .ok (.getfield 12, 3) := by decide +kernel
theorem dX11_flags_4 : decode cX11_flags 4 = .ok (.invokevirtual 116, 3) := by decide +kernel
theorem dX11_flags_7 : decode cX11_flags 7 = .ok (.iconst 2, 1) := by decide +kernel
theorem dX11_flags_8 : decode cX11_flags 8 = .ok (.if_icmp .ne 7, 3) := by decide +kernel
theorem dX11_flags_11 : decode cX11_flags 11 = .ok (.iconst 1, 1) := by decide +kernel
theorem dX11_flags_12 : decode cX11_flags 12 = .ok (.goto 4, 3) := by decide +kernel
theorem dX11_flags_15 : decode cX11_flags 15 = .ok (.iconst 0, 1) := by decide +kernel
theorem dX11_flags_16 : decode cX11_flags 16 = .ok (.istore_n 2, 1) := by decide +kernel
theorem dX11_flags_17 : decode cX11_flags 17 = .ok (.aload_n 0, 1) := by decide +kernel
theorem dX11_flags_18 : decode cX11_flags 18 = .ok (.getfield 12, 3) := by decide +kernel
theorem dX11_flags_21 : decode cX11_flags 21 = .ok (.iconst 0, 1) := by decide +kernel
theorem dX11_flags_22 : decode cX11_flags 22 = .ok (.invokevirtual 267, 3) := by decide +kernel
theorem dX11_flags_25 : decode cX11_flags 25 = .ok (.istore_n 3, 1) := by decide +kernel
theorem dX11_flags_26 : decode cX11_flags 26 = .ok (.aload_n 0, 1) := by decide +kernel
theorem dX11_flags_27 : decode cX11_flags 27 = .ok (.getfield 12, 3) := by decide +kernel
theorem dX11_flags_30 : decode cX11_flags 30 = .ok (.iconst 1, 1) := by decide +kernel
theorem dX11_flags_31 : decode cX11_flags 31 = .ok (.invokevirtual 267, 3) := by decide +kernel
theorem dX11_flags_34 : decode cX11_flags 34 = .ok (.istore 4, 2) := by decide +kernel
theorem dX11_flags_36 : decode cX11_flags 36 = .ok (.aload_n 0, 1) := by decide +kernel
theorem dX11_flags_37 : decode cX11_flags 37 = .ok (.getfield 12, 3) := by decide +kernel
theorem dX11_flags_40 : decode cX11_flags 40 = .ok (.invokevirtual 131, 3) := by decide +kernel
theorem dX11_flags_43 : decode cX11_flags 43 = .ok (.iload_n 2, 1) := by decide +kernel
theorem dX11_flags_44 : decode cX11_flags 44 = .ok (.ifCond .eq 14, 3) := by decide +kernel
theorem dX11_flags_47 : decode cX11_flags 47 = .ok (.aload_n 0, 1) := by decide +kernel
theorem dX11_flags_48 : decode cX11_flags 48 = .ok (.getfield 19, 3) := by decide +kernel
theorem dX11_flags_51 : decode cX11_flags 51 = .ok (.iload_n 1, 1) := by decide +kernel
theorem dX11_flags_52 : decode cX11_flags 52 = .ok (.invokevirtual 147, 3) := by decide +kernel
theorem dX11_flags_55 : decode cX11_flags 55 = .ok (.ifCond .ne 5, 3) := by decide +kernel
theorem dX11_flags_58 : decode cX11_flags 58 = .ok (.iconst (-1), 1) := by decide +kernel
theorem dX11_flags_59 : decode cX11_flags 59 = .ok (.ireturn, 1) := by decide +kernel
theorem dX11_flags_60 : decode cX11_flags 60 = .ok (.aload_n 0, 1) := by decide +kernel
theorem dX11_flags_61 : decode cX11_flags 61 = .ok (.getfield 49, 3) := by decide +kernel
theorem dX11_flags_64 : decode cX11_flags 64 = .ok (.iload_n 1, 1) := by decide +kernel
theorem dX11_flags_65 : decode cX11_flags 65 = .ok (.iload_n 3, 1) := by decide +kernel
theorem dX11_flags_66 : decode cX11_flags 66 = .ok (.iload 4, 2) := by decide +kernel
theorem dX11_flags_68 : decode cX11_flags 68 = .ok (.invokevirtual 270, 3) := by decide +kernel
theorem dX11_flags_71 : decode cX11_flags 71 = .ok (.istore 5, 2) := by decide +kernel
theorem dX11_flags_73 : decode cX11_flags 73 = .ok (.iload 5, 2) := by decide +kernel
theorem dX11_flags_75 : decode cX11_flags 75 = .ok (.ifCond .le 18, 3) := by decide +kernel
theorem dX11_flags_78 : decode cX11_flags 78 = .ok (.aload_n 0, 1) := by decide +kernel
theorem dX11_flags_79 : decode cX11_flags 79 = .ok (.aload_n 0, 1) := by decide +kernel
theorem dX11_flags_80 : decode cX11_flags 80 = .ok (.getfield 49, 3) := by decide +kernel
theorem dX11_flags_83 : decode cX11_flags 83 = .ok (.iload_n 1, 1) := by decide +kernel
theorem dX11_flags_84 : decode cX11_flags 84 = .ok (.iload_n 3, 1) := by decide +kernel
theorem dX11_flags_85 : decode cX11_flags 85 = .ok (.iload 4, 2) := by decide +kernel
theorem dX11_flags_87 : decode cX11_flags 87 = .ok (.invokevirtual 273, 3) := by decide +kernel
theorem dX11_flags_90 : decode cX11_flags 90 = .ok (.putfield 107, 3) := by decide +kernel
theorem dX11_flags_93 : decode cX11_flags 93 = .ok (.iload 5, 2) := by decide +kernel
theorem dX11_flags_95 : decode cX11_flags 95 = .ok (.ireturn, 1) := by decide +kernel
set_option maxHeartbeats 4000000 in
theorem c_LC_flags {ad wad : Nat → Nat} (F : Nat) (a0 : Int32) (h : HS)  (q : Int32 × HS) (hd : f_LC_flags F a0 h = some q) : Ctr SHc ad wad yX11_flags cX11_flags 6 (some .int) 4 [.ref (ad 0), .int a0] h (some (.int q.1), q.2) := by
  refine enter (own := RX11) (lv := [(0, .ref (ad 0)), (1, .int a0)]) (by decide +kernel) rfl (Nat.le_of_ble_eq_true rfl) rfl (fun Γ hG => ?_)
  unfold f_LC_flags at hd
  refine a_aload_n (pc := 0) hG 0 rfl dX11_flags_0 rfl ?_
  refine a_getR (pc := 1) hG sc_0 cl_X11 ok_X11 0 (by decide) rfl t_481 dX11_flags_1 ?_
  refine a_cvI (pc := 4) hG (As := []) (st := []) sc_1 cl_X8 mk_X8_length t_537 (by omega) (fun z hz => c_Tape_length  _  z hz) rfl (Nat.le_of_ble_eq_true rfl) hd dX11_flags_4 (fun r2 h1 hd => ?_)
  refine a_iconst (pc := 7) hG dX11_flags_7 (v := (nI 2)) rfl ?_
  refine a_join hd (Q := fun J : Int32 → HS → Option (Int32 × HS) => ∀ (v4 : Int32) (h5 : HS), J v4 h5 = some q → AW SHc ad 6 (some (.int q.1), q.2) Γ 16 [(0, .ref (ad 0)), (1, .int a0)] [.int v4] h5) (fun v4 h5 hd => ?_) (fun J3 hJ3 hd => ?_)
  · refine a_istore_nN (pc := 16) hG hd dX11_flags_16 rfl (by decide) (lf := fun x => [(2, .int x), (0, .ref (ad 0)), (1, .int a0)]) (fun _ => rfl) (fun v6 hd => ?_)
    refine a_aload_n (pc := 17) hG 1 rfl dX11_flags_17 rfl ?_
    refine a_getR (pc := 18) hG sc_0 cl_X11 ok_X11 0 (by decide) rfl t_481 dX11_flags_18 ?_
    refine a_iconst (pc := 21) hG dX11_flags_21 (v := (nI 0)) rfl ?_
    refine a_cvI (pc := 22) hG (As := [.int (nI 0)]) (st := []) sc_1 cl_X8 mk_X8_at t_1165 (by omega) (fun z hz => c_Tape_at (nI 0) _  z hz) rfl (Nat.le_of_ble_eq_true rfl) hd dX11_flags_22 (fun r8 h7 hd => ?_)
    refine a_istore_nN (pc := 25) hG hd dX11_flags_25 rfl (by decide) (lf := fun x => [(3, .int x), (2, .int v6), (0, .ref (ad 0)), (1, .int a0)]) (fun _ => rfl) (fun v9 hd => ?_)
    refine a_aload_n (pc := 26) hG 2 rfl dX11_flags_26 rfl ?_
    refine a_getR (pc := 27) hG sc_0 cl_X11 ok_X11 0 (by decide) rfl t_481 dX11_flags_27 ?_
    refine a_iconst (pc := 30) hG dX11_flags_30 (v := (nI 1)) rfl ?_
    refine a_cvI (pc := 31) hG (As := [.int (nI 1)]) (st := []) sc_1 cl_X8 mk_X8_at t_1165 (by omega) (fun z hz => c_Tape_at (nI 1) _  z hz) rfl (Nat.le_of_ble_eq_true rfl) hd dX11_flags_31 (fun r11 h10 hd => ?_)
    refine a_istoreN (pc := 34) hG hd dX11_flags_34 (by decide) (lf := fun x => [(4, .int x), (3, .int v9), (2, .int v6), (0, .ref (ad 0)), (1, .int a0)]) (fun _ => rfl) (fun v12 hd => ?_)
    refine a_aload_n (pc := 36) hG 3 rfl dX11_flags_36 rfl ?_
    refine a_getR (pc := 37) hG sc_0 cl_X11 ok_X11 0 (by decide) rfl t_481 dX11_flags_37 ?_
    refine a_cvN (pc := 40) hG (As := []) (st := []) sc_1 cl_X8 mk_X8_empty t_746 (by omega) (fun z hz => c_Tape_empty  _  z hz) rfl (Nat.le_of_ble_eq_true rfl) hd dX11_flags_40 (fun _ h13 hd => ?_)
    refine a_iload_n (pc := 43) hG 2 rfl dX11_flags_43 rfl ?_
    refine a_if_eq (pc := 44) hG (tgt := 58) hd dX11_flags_44 (by decide) (fun hd => ?_) (fun hd => ?_)
    · refine a_iconst (pc := 58) hG dX11_flags_58 (v := (-1 : Int32)) rfl ?_
      exact a_iret (pc := 59) hG hd dX11_flags_59
    refine a_aload_n (pc := 47) hG 3 rfl dX11_flags_47 rfl ?_
    refine a_getR (pc := 48) hG sc_0 cl_X11 ok_X11 1 (by decide) rfl t_482 dX11_flags_48 ?_
    refine a_iload_n (pc := 51) hG 4 rfl dX11_flags_51 rfl ?_
    refine a_cvI (pc := 52) hG (As := [.int a0]) (st := []) sc_3 cl_X5 mk_X5_hasCause t_818 (by omega) (fun z hz => c_Plan_hasCause_3 a0 _  z hz) rfl (Nat.le_of_ble_eq_true rfl) hd dX11_flags_52 (fun r15 h14 hd => ?_)
    refine a_if_ne (pc := 55) hG (tgt := 60) hd dX11_flags_55 (by decide) (fun hd => ?_) (fun hd => ?_)
    · refine a_aload_n (pc := 60) hG 3 rfl dX11_flags_60 rfl ?_
      refine a_getR (pc := 61) hG sc_0 cl_X11 ok_X11 5 (by decide) rfl t_486 dX11_flags_61 ?_
      refine a_iload_n (pc := 64) hG 4 rfl dX11_flags_64 rfl ?_
      refine a_iload_n (pc := 65) hG 1 rfl dX11_flags_65 rfl ?_
      refine a_iload (pc := 66) hG 0 rfl dX11_flags_66 ?_
      refine a_cvI (pc := 68) hG (As := [.int a0, .int v9, .int v12]) (st := []) sc_31 cl_X9 mk_X9_setsMaking t_1166 (by omega) (fun z hz => c_Ways_setsMaking F a0 v9 v12 _  z hz) rfl (Nat.le_of_ble_eq_true rfl) hd dX11_flags_68 (fun r17 h16 hd => ?_)
      refine a_istoreN (pc := 71) hG hd dX11_flags_71 (by decide) (lf := fun x => [(5, .int x), (4, .int v12), (3, .int v9), (2, .int v6), (0, .ref (ad 0)), (1, .int a0)]) (fun _ => rfl) (fun v18 hd => ?_)
      refine a_iload (pc := 73) hG 0 rfl dX11_flags_73 ?_
      refine a_if_le (pc := 75) hG (tgt := 93) hd dX11_flags_75 (by decide) (fun hd => ?_) (fun hd => ?_)
      · refine a_iload (pc := 93) hG 0 rfl dX11_flags_93 ?_
        exact a_iret (pc := 95) hG hd dX11_flags_95
      refine a_aload_n (pc := 78) hG 4 rfl dX11_flags_78 rfl ?_
      refine a_aload_n (pc := 79) hG 4 rfl dX11_flags_79 rfl ?_
      refine a_getR (pc := 80) hG sc_0 cl_X11 ok_X11 5 (by decide) rfl t_486 dX11_flags_80 ?_
      refine a_iload_n (pc := 83) hG 5 rfl dX11_flags_83 rfl ?_
      refine a_iload_n (pc := 84) hG 2 rfl dX11_flags_84 rfl ?_
      refine a_iload (pc := 85) hG 1 rfl dX11_flags_85 ?_
      refine a_cvI (pc := 87) hG (As := [.int a0, .int v9, .int v12]) (st := [.ref (ad 0)]) sc_31 cl_X9 mk_X9_commonDeeds t_1175 (by omega) (fun z hz => c_Ways_commonDeeds F a0 v9 v12 _  z hz) rfl (Nat.le_of_ble_eq_true rfl) hd dX11_flags_87 (fun r20 h19 hd => ?_)
      refine a_putI (pc := 90) hG sc_0 cl_X11 ok_X11 16 (by decide) rfl t_497 rfl (ty := .int) rfl rfl rfl hd dX11_flags_90 (fun h21 hd => ?_)
      refine a_iload (pc := 93) hG 0 rfl dX11_flags_93 ?_
      exact a_iret (pc := 95) hG hd dX11_flags_95
    refine a_iconst (pc := 58) hG dX11_flags_58 (v := (-1 : Int32)) rfl ?_
    exact a_iret (pc := 59) hG hd dX11_flags_59
  refine a_ic_ne (pc := 8) hG (tgt := 15) hd dX11_flags_8 (by decide) (fun hd => ?_) (fun hd => ?_)
  · refine a_iconst (pc := 15) hG dX11_flags_15 (v := (nI 0)) rfl ?_
    exact AW.sub [0, 1] rfl (hJ3 _ _ hd)
  refine a_iconst (pc := 11) hG dX11_flags_11 (v := (nI 1)) rfl ?_
  refine a_goto (pc := 12) hG (tgt := 16) dX11_flags_12 (by decide) ?_
  exact AW.sub [0, 1] rfl (hJ3 _ _ hd)
theorem dX11_tried_0 : decode cX11_tried 0 = .ok (.aload_n 0, 1) := by decide +kernel
theorem dX11_tried_1 : decode cX11_tried 1 = .ok (.getfield 107, 3) := by decide +kernel
theorem dX11_tried_4 : decode cX11_tried 4 = .ok (.ireturn, 1) := by decide +kernel
set_option maxHeartbeats 4000000 in
theorem c_LC_tried {ad wad : Nat → Nat}  (h : HS)  (q : Int32 × HS) (hd : f_LC_tried  h = some q) : Ctr SHc ad wad yX11_tried cX11_tried 1 (some .int) 1 [.ref (ad 0)] h (some (.int q.1), q.2) := by
  refine enter (own := RX11) (lv := [(0, .ref (ad 0))]) (by decide +kernel) rfl (Nat.le_of_ble_eq_true rfl) rfl (fun Γ hG => ?_)
  unfold f_LC_tried at hd
  refine a_aload_n (pc := 0) hG 0 rfl dX11_tried_0 rfl ?_
  refine a_getI (pc := 1) hG sc_0 cl_X11 ok_X11 16 (by decide) rfl t_497 dX11_tried_1 ?_
  exact a_iret (pc := 4) hG hd dX11_tried_4
theorem dX11_pay_0 : decode cX11_pay 0 = .ok (.aload_n 0, 1) := by decide +kernel
theorem dX11_pay_1 : decode cX11_pay 1 = .ok (.getfield 19, 3) := by decide +kernel
theorem dX11_pay_4 : decode cX11_pay 4 = .ok (.iload_n 1, 1) := by decide +kernel
theorem dX11_pay_5 : decode cX11_pay 5 = .ok (.invokevirtual 147, 3) := by decide +kernel
theorem dX11_pay_8 : decode cX11_pay 8 = .ok (.ifCond .eq 14, 3) := by decide +kernel
theorem dX11_pay_11 : decode cX11_pay 11 = .ok (.aload_n 0, 1) := by decide +kernel
theorem dX11_pay_12 : decode cX11_pay 12 = .ok (.getfield 40, 3) := by decide +kernel
theorem dX11_pay_15 : decode cX11_pay 15 = .ok (.iload_n 1, 1) := by decide +kernel
theorem dX11_pay_16 : decode cX11_pay 16 = .ok (.invokevirtual 276, 3) := by decide +kernel
theorem dX11_pay_19 : decode cX11_pay 19 = .ok (.goto 4, 3) := by decide +kernel
theorem dX11_pay_22 : decode cX11_pay 22 = .ok (.iconst (-1), 1) := by decide +kernel
theorem dX11_pay_23 : decode cX11_pay 23 = .ok (.ireturn, 1) := by decide +kernel
set_option maxHeartbeats 4000000 in
theorem c_LC_pay {ad wad : Nat → Nat} (a0 : Int32) (h : HS)  (q : Int32 × HS) (hd : f_LC_pay a0 h = some q) : Ctr SHc ad wad yX11_pay cX11_pay 2 (some .int) 4 [.ref (ad 0), .int a0] h (some (.int q.1), q.2) := by
  refine enter (own := RX11) (lv := [(0, .ref (ad 0)), (1, .int a0)]) (by decide +kernel) rfl (Nat.le_of_ble_eq_true rfl) rfl (fun Γ hG => ?_)
  unfold f_LC_pay at hd
  refine a_aload_n (pc := 0) hG 0 rfl dX11_pay_0 rfl ?_
  refine a_getR (pc := 1) hG sc_0 cl_X11 ok_X11 1 (by decide) rfl t_482 dX11_pay_1 ?_
  refine a_iload_n (pc := 4) hG 1 rfl dX11_pay_4 rfl ?_
  refine a_cvI (pc := 5) hG (As := [.int a0]) (st := []) sc_3 cl_X5 mk_X5_hasCause t_818 (by omega) (fun z hz => c_Plan_hasCause_3 a0 _  z hz) rfl (Nat.le_of_ble_eq_true rfl) hd dX11_pay_5 (fun r2 h1 hd => ?_)
  refine a_if_eq (pc := 8) hG (tgt := 22) hd dX11_pay_8 (by decide) (fun hd => ?_) (fun hd => ?_)
  · refine a_iconst (pc := 22) hG dX11_pay_22 (v := (-1 : Int32)) rfl ?_
    exact a_iret (pc := 23) hG hd dX11_pay_23
  refine a_aload_n (pc := 11) hG 0 rfl dX11_pay_11 rfl ?_
  refine a_getR (pc := 12) hG sc_0 cl_X11 ok_X11 4 (by decide) rfl t_485 dX11_pay_12 ?_
  refine a_iload_n (pc := 15) hG 1 rfl dX11_pay_15 rfl ?_
  refine a_cvI (pc := 16) hG (As := [.int a0]) (st := []) sc_20 cl_X0 mk_X0_payFor t_1187 (by omega) (fun z hz => c_Desk_payFor a0 _  z hz) rfl (Nat.le_of_ble_eq_true rfl) hd dX11_pay_16 (fun r4 h3 hd => ?_)
  refine a_goto (pc := 19) hG (tgt := 23) dX11_pay_19 (by decide) ?_
  exact a_iret (pc := 23) hG hd dX11_pay_23
theorem dX11_dies_0 : decode cX11_dies 0 = .ok (.aload_n 0, 1) := by decide +kernel
theorem dX11_dies_1 : decode cX11_dies 1 = .ok (.getfield 19, 3) := by decide +kernel
theorem dX11_dies_4 : decode cX11_dies 4 = .ok (.iload_n 1, 1) := by decide +kernel
theorem dX11_dies_5 : decode cX11_dies 5 = .ok (.invokevirtual 147, 3) := by decide +kernel
theorem dX11_dies_8 : decode cX11_dies 8 = .ok (.ifCond .ne 5, 3) := by decide +kernel
theorem dX11_dies_11 : decode cX11_dies 11 = .ok (.iconst (-1), 1) := by decide +kernel
theorem dX11_dies_12 : decode cX11_dies 12 = .ok (.ireturn, 1) := by decide +kernel
theorem dX11_dies_13 : decode cX11_dies 13 = .ok (.aload_n 0, 1) := by decide +kernel
theorem dX11_dies_14 : decode cX11_dies 14 = .ok (.getfield 40, 3) := by decide +kernel
theorem dX11_dies_17 : decode cX11_dies 17 = .ok (.iload_n 1, 1) := by decide +kernel
theorem dX11_dies_18 : decode cX11_dies 18 = .ok (.iconst 4, 1) := by decide +kernel
theorem dX11_dies_19 : decode cX11_dies 19 = .ok (.invokevirtual 161, 3) := by decide +kernel
theorem dX11_dies_22 : decode cX11_dies 22 = .ok (.istore_n 2, 1) := by decide +kernel
theorem dX11_dies_23 : decode cX11_dies 23 = .ok (.iload_n 2, 1) := by decide +kernel
theorem dX11_dies_24 : decode cX11_dies 24 = .ok (.iconst 4, 1) := by decide +kernel
theorem dX11_dies_25 : decode cX11_dies 25 = .ok (.if_icmp .ne 5, 3) := by decide +kernel
theorem dX11_dies_28 : decode cX11_dies 28 = .ok (.iconst 0, 1) := by decide +kernel
theorem dX11_dies_29 : decode cX11_dies 29 = .ok (.ireturn, 1) := by decide +kernel
theorem dX11_dies_30 : decode cX11_dies 30 = .ok (.iload_n 2, 1) := by decide +kernel
theorem dX11_dies_31 : decode cX11_dies 31 = .ok (.ifCond .eq 8, 3) := by decide +kernel
theorem dX11_dies_34 : decode cX11_dies 34 = .ok (.iload_n 2, 1) := by decide +kernel
theorem dX11_dies_35 : decode cX11_dies 35 = .ok (.iconst 2, 1) := by decide +kernel
theorem dX11_dies_36 : decode cX11_dies 36 = .ok (.if_icmp .ne 15, 3) := by decide +kernel
theorem dX11_dies_39 : decode cX11_dies 39 = .ok (.aload_n 0, 1) := by decide +kernel
theorem dX11_dies_40 : decode cX11_dies 40 = .ok (.getfield 40, 3) := by decide +kernel
theorem dX11_dies_43 : decode cX11_dies 43 = .ok (.iload_n 1, 1) := by decide +kernel
theorem dX11_dies_44 : decode cX11_dies 44 = .ok (.iconst 3, 1) := by decide +kernel
theorem dX11_dies_45 : decode cX11_dies 45 = .ok (.invokevirtual 161, 3) := by decide +kernel
theorem dX11_dies_48 : decode cX11_dies 48 = .ok (.goto 4, 3) := by decide +kernel
theorem dX11_dies_51 : decode cX11_dies 51 = .ok (.iconst (-1), 1) := by decide +kernel
theorem dX11_dies_52 : decode cX11_dies 52 = .ok (.ireturn, 1) := by decide +kernel
set_option maxHeartbeats 4000000 in
theorem c_LC_dies {ad wad : Nat → Nat} (a0 : Int32) (h : HS)  (q : Int32 × HS) (hd : f_LC_dies a0 h = some q) : Ctr SHc ad wad yX11_dies cX11_dies 3 (some .int) 2 [.ref (ad 0), .int a0] h (some (.int q.1), q.2) := by
  refine enter (own := RX11) (lv := [(0, .ref (ad 0)), (1, .int a0)]) (by decide +kernel) rfl (Nat.le_of_ble_eq_true rfl) rfl (fun Γ hG => ?_)
  unfold f_LC_dies at hd
  refine a_aload_n (pc := 0) hG 0 rfl dX11_dies_0 rfl ?_
  refine a_getR (pc := 1) hG sc_0 cl_X11 ok_X11 1 (by decide) rfl t_482 dX11_dies_1 ?_
  refine a_iload_n (pc := 4) hG 1 rfl dX11_dies_4 rfl ?_
  refine a_cvI (pc := 5) hG (As := [.int a0]) (st := []) sc_3 cl_X5 mk_X5_hasCause t_818 (by omega) (fun z hz => c_Plan_hasCause_3 a0 _  z hz) rfl (Nat.le_of_ble_eq_true rfl) hd dX11_dies_5 (fun r2 h1 hd => ?_)
  refine a_if_ne (pc := 8) hG (tgt := 13) hd dX11_dies_8 (by decide) (fun hd => ?_) (fun hd => ?_)
  · refine a_aload_n (pc := 13) hG 0 rfl dX11_dies_13 rfl ?_
    refine a_getR (pc := 14) hG sc_0 cl_X11 ok_X11 4 (by decide) rfl t_485 dX11_dies_14 ?_
    refine a_iload_n (pc := 17) hG 1 rfl dX11_dies_17 rfl ?_
    refine a_iconst (pc := 18) hG dX11_dies_18 (v := (nI 4)) rfl ?_
    refine a_cvI (pc := 19) hG (As := [.int a0, .int (nI 4)]) (st := []) sc_20 cl_X0 mk_X0_ofCause t_1192 (by omega) (fun z hz => c_Desk_ofCause a0 (nI 4) _  z hz) rfl (Nat.le_of_ble_eq_true rfl) hd dX11_dies_19 (fun r4 h3 hd => ?_)
    refine a_istore_nN (pc := 22) hG hd dX11_dies_22 rfl (by decide) (lf := fun x => [(2, .int x), (0, .ref (ad 0)), (1, .int a0)]) (fun _ => rfl) (fun v5 hd => ?_)
    refine a_iload_n (pc := 23) hG 0 rfl dX11_dies_23 rfl ?_
    refine a_iconst (pc := 24) hG dX11_dies_24 (v := (nI 4)) rfl ?_
    refine a_ic_ne (pc := 25) hG (tgt := 30) hd dX11_dies_25 (by decide) (fun hd => ?_) (fun hd => ?_)
    · refine a_iload_n (pc := 30) hG 0 rfl dX11_dies_30 rfl ?_
      refine a_join hd (Q := fun J : HS → Option (Int32 × HS) => ∀  (h7 : HS), J  h7 = some q → AW SHc ad 3 (some (.int q.1), q.2) Γ 39 [(0, .ref (ad 0)), (1, .int a0)] [] h7) (fun  h7 hd => ?_) (fun J6 hJ6 hd => ?_)
      · refine a_aload_n (pc := 39) hG 0 rfl dX11_dies_39 rfl ?_
        refine a_getR (pc := 40) hG sc_0 cl_X11 ok_X11 4 (by decide) rfl t_485 dX11_dies_40 ?_
        refine a_iload_n (pc := 43) hG 1 rfl dX11_dies_43 rfl ?_
        refine a_iconst (pc := 44) hG dX11_dies_44 (v := (nI 3)) rfl ?_
        refine a_cvI (pc := 45) hG (As := [.int a0, .int (nI 3)]) (st := []) sc_20 cl_X0 mk_X0_ofCause t_1192 (by omega) (fun z hz => c_Desk_ofCause a0 (nI 3) _  z hz) rfl (Nat.le_of_ble_eq_true rfl) hd dX11_dies_45 (fun r9 h8 hd => ?_)
        refine a_goto (pc := 48) hG (tgt := 52) dX11_dies_48 (by decide) ?_
        exact a_iret (pc := 52) hG hd dX11_dies_52
      refine a_if_eq (pc := 31) hG (tgt := 39) hd dX11_dies_31 (by decide) (fun hd => ?_) (fun hd => ?_)
      · exact AW.sub [1, 2] rfl (hJ6  _ hd)
      refine a_iload_n (pc := 34) hG 0 rfl dX11_dies_34 rfl ?_
      refine a_iconst (pc := 35) hG dX11_dies_35 (v := (nI 2)) rfl ?_
      refine a_ic_ne (pc := 36) hG (tgt := 51) hd dX11_dies_36 (by decide) (fun hd => ?_) (fun hd => ?_)
      · refine a_iconst (pc := 51) hG dX11_dies_51 (v := (-1 : Int32)) rfl ?_
        exact a_iret (pc := 52) hG hd dX11_dies_52
      exact AW.sub [1, 2] rfl (hJ6  _ hd)
    refine a_iconst (pc := 28) hG dX11_dies_28 (v := (nI 0)) rfl ?_
    exact a_iret (pc := 29) hG hd dX11_dies_29
  refine a_iconst (pc := 11) hG dX11_dies_11 (v := (-1 : Int32)) rfl ?_
  exact a_iret (pc := 12) hG hd dX11_dies_12
theorem dX11_saddest_0 : decode cX11_saddest 0 = .ok (.iconst (-1), 1) := by decide +kernel
theorem dX11_saddest_1 : decode cX11_saddest 1 = .ok (.istore_n 1, 1) := by decide +kernel
theorem dX11_saddest_2 : decode cX11_saddest 2 = .ok (.iconst 0, 1) := by decide +kernel
theorem dX11_saddest_3 : decode cX11_saddest 3 = .ok (.istore_n 2, 1) := by decide +kernel
theorem dX11_saddest_4 : decode cX11_saddest 4 = .ok (.iload_n 2, 1) := by decide +kernel
theorem dX11_saddest_5 : decode cX11_saddest 5 = .ok (.aload_n 0, 1) := by decide +kernel
theorem dX11_saddest_6 : decode cX11_saddest 6 = .ok (.getfield 19, 3) := by decide +kernel
theorem dX11_saddest_9 : decode cX11_saddest 9 = .ok (.invokevirtual 279, 3) := by decide +kernel
theorem dX11_saddest_12 : decode cX11_saddest 12 = .ok (.if_icmp .ge 69, 3) := by decide +kernel
theorem dX11_saddest_15 : decode cX11_saddest 15 = .ok (.aload_n 0, 1) := by decide +kernel
theorem dX11_saddest_16 : decode cX11_saddest 16 = .ok (.getfield 40, 3) := by decide +kernel
theorem dX11_saddest_19 : decode cX11_saddest 19 = .ok (.iload_n 2, 1) := by decide +kernel
theorem dX11_saddest_20 : decode cX11_saddest 20 = .ok (.iconst 4, 1) := by decide +kernel
theorem dX11_saddest_21 : decode cX11_saddest 21 = .ok (.invokevirtual 161, 3) := by decide +kernel
theorem dX11_saddest_24 : decode cX11_saddest 24 = .ok (.istore_n 3, 1) := by decide +kernel
theorem dX11_saddest_25 : decode cX11_saddest 25 = .ok (.iload_n 3, 1) := by decide +kernel
theorem dX11_saddest_26 : decode cX11_saddest 26 = .ok (.iconst 3, 1) := by decide +kernel
theorem dX11_saddest_27 : decode cX11_saddest 27 = .ok (.if_icmp .eq 48, 3) := by decide +kernel
theorem dX11_saddest_30 : decode cX11_saddest 30 = .ok (.iload_n 3, 1) := by decide +kernel
theorem dX11_saddest_31 : decode cX11_saddest 31 = .ok (.iconst 4, 1) := by decide +kernel
theorem dX11_saddest_32 : decode cX11_saddest 32 = .ok (.if_icmp .eq 43, 3) := by decide +kernel
theorem dX11_saddest_35 : decode cX11_saddest 35 = .ok (.aload_n 0, 1) := by decide +kernel
theorem dX11_saddest_36 : decode cX11_saddest 36 = .ok (.getfield 40, 3) := by decide +kernel
theorem dX11_saddest_39 : decode cX11_saddest 39 = .ok (.iload_n 2, 1) := by decide +kernel
theorem dX11_saddest_40 : decode cX11_saddest 40 = .ok (.invokevirtual 282, 3) := by decide +kernel
theorem dX11_saddest_43 : decode cX11_saddest 43 = .ok (.ifCond .ne 6, 3) := by decide +kernel
theorem dX11_saddest_46 : decode cX11_saddest 46 = .ok (.goto 29, 3) := by decide +kernel
theorem dX11_saddest_49 : decode cX11_saddest 49 = .ok (.iload_n 1, 1) := by decide +kernel
theorem dX11_saddest_50 : decode cX11_saddest 50 = .ok (.iconst (-1), 1) := by decide +kernel
theorem dX11_saddest_51 : decode cX11_saddest 51 = .ok (.if_icmp .eq 22, 3) := by decide +kernel
theorem dX11_saddest_54 : decode cX11_saddest 54 = .ok (.aload_n 0, 1) := by decide +kernel
theorem dX11_saddest_55 : decode cX11_saddest 55 = .ok (.getfield 40, 3) := by decide +kernel
theorem dX11_saddest_58 : decode cX11_saddest 58 = .ok (.iload_n 2, 1) := by decide +kernel
theorem dX11_saddest_59 : decode cX11_saddest 59 = .ok (.invokevirtual 157, 3) := by decide +kernel
theorem dX11_saddest_62 : decode cX11_saddest 62 = .ok (.aload_n 0, 1) := by decide +kernel
theorem dX11_saddest_63 : decode cX11_saddest 63 = .ok (.getfield 40, 3) := by decide +kernel
theorem dX11_saddest_66 : decode cX11_saddest 66 = .ok (.iload_n 1, 1) := by decide +kernel
theorem dX11_saddest_67 : decode cX11_saddest 67 = .ok (.invokevirtual 157, 3) := by decide +kernel
theorem dX11_saddest_70 : decode cX11_saddest 70 = .ok (.if_icmp .le 5, 3) := by decide +kernel
theorem dX11_saddest_73 : decode cX11_saddest 73 = .ok (.iload_n 2, 1) := by decide +kernel
theorem dX11_saddest_74 : decode cX11_saddest 74 = .ok (.istore_n 1, 1) := by decide +kernel
theorem dX11_saddest_75 : decode cX11_saddest 75 = .ok (.iinc 2 1, 3) := by decide +kernel
theorem dX11_saddest_78 : decode cX11_saddest 78 = .ok (.goto (-74), 3) := by decide +kernel
theorem dX11_saddest_81 : decode cX11_saddest 81 = .ok (.iload_n 1, 1) := by decide +kernel
theorem dX11_saddest_82 : decode cX11_saddest 82 = .ok (.ireturn, 1) := by decide +kernel
set_option maxHeartbeats 4000000 in
theorem w_l_LC_saddest_0 {ad wad : Nat → Nat} {Γ : Ctx} (F : Nat) {n : Nat} (hn : 3 ≤ n) (hG : Cx SHc ad wad cX11_saddest 4 RX11 (some .int) (n) Γ) {q : Int32 × HS} {g : Nat} {x1 : Int32} {x2 : Int32} {h : HS} (hd : l_LC_saddest_0 F g x1 x2 h = some q) : AW SHc ad 4 (some (.int q.1), q.2) Γ 4 [(0, .ref (ad 0)), (1, .int x1), (2, .int x2)] [] h := by
  induction g generalizing x1 x2 h with
  | zero => unfold l_LC_saddest_0 at hd; cases hd
  | succ g ih =>
    unfold l_LC_saddest_0 at hd
    refine a_iload_n (pc := 4) hG 2 rfl dX11_saddest_4 rfl ?_
    refine a_aload_n (pc := 5) hG 0 rfl dX11_saddest_5 rfl ?_
    refine a_getR (pc := 6) hG sc_0 cl_X11 ok_X11 1 (by decide) rfl t_482 dX11_saddest_6 ?_
    refine a_cvI (pc := 9) hG (As := []) (st := [.int x2]) sc_3 cl_X5 mk_X5_causes t_1197 (by omega) (fun z hz => c_Plan_causes_3  _  z hz) rfl (Nat.le_of_ble_eq_true rfl) hd dX11_saddest_9 (fun r4 h3 hd => ?_)
    refine a_ic_ge (pc := 12) hG (tgt := 81) hd dX11_saddest_12 (by decide) (fun hd => ?_) (fun hd => ?_)
    · refine a_iload_n (pc := 81) hG 1 rfl dX11_saddest_81 rfl ?_
      exact a_iret (pc := 82) hG hd dX11_saddest_82
    refine a_aload_n (pc := 15) hG 0 rfl dX11_saddest_15 rfl ?_
    refine a_getR (pc := 16) hG sc_0 cl_X11 ok_X11 4 (by decide) rfl t_485 dX11_saddest_16 ?_
    refine a_iload_n (pc := 19) hG 2 rfl dX11_saddest_19 rfl ?_
    refine a_iconst (pc := 20) hG dX11_saddest_20 (v := (nI 4)) rfl ?_
    refine a_cvI (pc := 21) hG (As := [.int x2, .int (nI 4)]) (st := []) sc_20 cl_X0 mk_X0_ofCause t_1192 (by omega) (fun z hz => c_Desk_ofCause x2 (nI 4) _  z hz) rfl (Nat.le_of_ble_eq_true rfl) hd dX11_saddest_21 (fun r6 h5 hd => ?_)
    refine a_istore_nN (pc := 24) hG hd dX11_saddest_24 rfl (by decide) (lf := fun x => [(3, .int x), (0, .ref (ad 0)), (1, .int x1), (2, .int x2)]) (fun _ => rfl) (fun v7 hd => ?_)
    refine a_iload_n (pc := 25) hG 0 rfl dX11_saddest_25 rfl ?_
    refine a_iconst (pc := 26) hG dX11_saddest_26 (v := (nI 3)) rfl ?_
    refine a_join hd (Q := fun J : Int32 → HS → Option (Int32 × HS) => ∀ (v9 : Int32) (h10 : HS), J v9 h10 = some q → AW SHc ad 4 (some (.int q.1), q.2) Γ 75 [(0, .ref (ad 0)), (1, .int v9), (2, .int x2)] [] h10) (fun v9 h10 hd => ?_) (fun J8 hJ8 hd => ?_)
    · refine a_iincN (pc := 75) hG (c0 := (nI 1)) 2 rfl hd dX11_saddest_75 rfl (by decide) (lf := fun x => [(2, .int x), (0, .ref (ad 0)), (1, .int v9)]) (fun _ => rfl) (fun v11 hd => ?_)
      refine a_goto (pc := 78) hG (tgt := 4) dX11_saddest_78 (by decide) ?_
      exact AW.sub [1, 2, 0] rfl (ih hd)
    refine a_ic_eq (pc := 27) hG (tgt := 75) hd dX11_saddest_27 (by decide) (fun hd => ?_) (fun hd => ?_)
    · exact AW.sub [1, 2, 3] rfl (hJ8 _ _ hd)
    refine a_iload_n (pc := 30) hG 0 rfl dX11_saddest_30 rfl ?_
    refine a_iconst (pc := 31) hG dX11_saddest_31 (v := (nI 4)) rfl ?_
    refine a_ic_eq (pc := 32) hG (tgt := 75) hd dX11_saddest_32 (by decide) (fun hd => ?_) (fun hd => ?_)
    · exact AW.sub [1, 2, 3] rfl (hJ8 _ _ hd)
    refine a_aload_n (pc := 35) hG 1 rfl dX11_saddest_35 rfl ?_
    refine a_getR (pc := 36) hG sc_0 cl_X11 ok_X11 4 (by decide) rfl t_485 dX11_saddest_36 ?_
    refine a_iload_n (pc := 39) hG 3 rfl dX11_saddest_39 rfl ?_
    refine a_cvI (pc := 40) hG (As := [.int x2]) (st := []) sc_20 cl_X0 mk_X0_isSafe t_1198 (by omega) (fun z hz => c_Desk_isSafe x2 _  z hz) rfl (Nat.le_of_ble_eq_true rfl) hd dX11_saddest_40 (fun r13 h12 hd => ?_)
    refine a_if_ne (pc := 43) hG (tgt := 49) hd dX11_saddest_43 (by decide) (fun hd => ?_) (fun hd => ?_)
    · refine a_iload_n (pc := 49) hG 2 rfl dX11_saddest_49 rfl ?_
      refine a_iconst (pc := 50) hG dX11_saddest_50 (v := (-1 : Int32)) rfl ?_
      refine a_join hd (Q := fun J : HS → Option (Int32 × HS) => ∀  (h15 : HS), J  h15 = some q → AW SHc ad 4 (some (.int q.1), q.2) Γ 73 [(0, .ref (ad 0)), (2, .int x2)] [] h15) (fun  h15 hd => ?_) (fun J14 hJ14 hd => ?_)
      · refine a_iload_n (pc := 73) hG 1 rfl dX11_saddest_73 rfl ?_
        refine a_istore_nN (pc := 74) hG hd dX11_saddest_74 rfl (by decide) (lf := fun x => [(1, .int x), (0, .ref (ad 0)), (2, .int x2)]) (fun _ => rfl) (fun v16 hd => ?_)
        exact AW.sub [1, 0, 2] rfl (hJ8 _ _ hd)
      refine a_ic_eq (pc := 51) hG (tgt := 73) hd dX11_saddest_51 (by decide) (fun hd => ?_) (fun hd => ?_)
      · exact AW.sub [1, 3] rfl (hJ14  _ hd)
      refine a_aload_n (pc := 54) hG 1 rfl dX11_saddest_54 rfl ?_
      refine a_getR (pc := 55) hG sc_0 cl_X11 ok_X11 4 (by decide) rfl t_485 dX11_saddest_55 ?_
      refine a_iload_n (pc := 58) hG 3 rfl dX11_saddest_58 rfl ?_
      refine a_cvI (pc := 59) hG (As := [.int x2]) (st := []) sc_20 cl_X0 mk_X0_nearness t_1199 (by omega) (fun z hz => c_Desk_nearness x2 _  z hz) rfl (Nat.le_of_ble_eq_true rfl) hd dX11_saddest_59 (fun r18 h17 hd => ?_)
      refine a_aload_n (pc := 62) hG 1 rfl dX11_saddest_62 rfl ?_
      refine a_getR (pc := 63) hG sc_0 cl_X11 ok_X11 4 (by decide) rfl t_485 dX11_saddest_63 ?_
      refine a_iload_n (pc := 66) hG 2 rfl dX11_saddest_66 rfl ?_
      refine a_cvI (pc := 67) hG (As := [.int x1]) (st := [.int r18]) sc_20 cl_X0 mk_X0_nearness t_1199 (by omega) (fun z hz => c_Desk_nearness x1 _  z hz) rfl (Nat.le_of_ble_eq_true rfl) hd dX11_saddest_67 (fun r20 h19 hd => ?_)
      refine a_ic_le (pc := 70) hG (tgt := 75) hd dX11_saddest_70 (by decide) (fun hd => ?_) (fun hd => ?_)
      · exact AW.sub [1, 2, 3] rfl (hJ8 _ _ hd)
      exact AW.sub [1, 3] rfl (hJ14  _ hd)
    refine a_goto (pc := 46) hG (tgt := 75) dX11_saddest_46 (by decide) ?_
    exact AW.sub [1, 2, 3] rfl (hJ8 _ _ hd)
set_option maxHeartbeats 4000000 in
theorem c_LC_saddest {ad wad : Nat → Nat} (F : Nat)  (h : HS)  (q : Int32 × HS) (hd : f_LC_saddest F  h = some q) : Ctr SHc ad wad yX11_saddest cX11_saddest 4 (some .int) 3 [.ref (ad 0)] h (some (.int q.1), q.2) := by
  refine enter (own := RX11) (lv := [(0, .ref (ad 0))]) (by decide +kernel) rfl (Nat.le_of_ble_eq_true rfl) rfl (fun Γ hG => ?_)
  unfold f_LC_saddest at hd
  refine a_iconst (pc := 0) hG dX11_saddest_0 (v := (-1 : Int32)) rfl ?_
  refine a_istore_nN (pc := 1) hG hd dX11_saddest_1 rfl (by decide) (lf := fun x => [(1, .int x), (0, .ref (ad 0))]) (fun _ => rfl) (fun v1 hd => ?_)
  refine a_iconst (pc := 2) hG dX11_saddest_2 (v := (nI 0)) rfl ?_
  refine a_istore_nN (pc := 3) hG hd dX11_saddest_3 rfl (by decide) (lf := fun x => [(2, .int x), (1, .int v1), (0, .ref (ad 0))]) (fun _ => rfl) (fun v2 hd => ?_)
  refine AW.sub [2, 1, 0] rfl ?_
  exact w_l_LC_saddest_0 F (by omega) hG hd
theorem dX6_nextDraw_0 : decode cX6_nextDraw 0 = .ok (.aload_n 0, 1) := by decide +kernel
theorem dX6_nextDraw_1 : decode cX6_nextDraw 1 = .ok (.aload_n 0, 1) := by decide +kernel
theorem dX6_nextDraw_2 : decode cX6_nextDraw 2 = .ok (.getfield 62, 3) := by decide +kernel
theorem dX6_nextDraw_5 : decode cX6_nextDraw 5 = .ok (.ldc 127, 2) := by decide +kernel
theorem dX6_nextDraw_7 : decode cX6_nextDraw 7 = .ok (.imul, 1) := by decide +kernel
theorem dX6_nextDraw_8 : decode cX6_nextDraw 8 = .ok (.sipush 12345, 3) := by decide +kernel
theorem dX6_nextDraw_11 : decode cX6_nextDraw 11 = .ok (.iadd, 1) := by decide +kernel
theorem dX6_nextDraw_12 : decode cX6_nextDraw 12 = .ok (.putfield 62, 3) := by decide +kernel
theorem dX6_nextDraw_15 : decode cX6_nextDraw 15 = .ok (.iload_n 1, 1) := by decide +kernel
theorem dX6_nextDraw_16 : decode cX6_nextDraw 16 = .ok (.ifCond .le 15, 3) := by decide +kernel
theorem dX6_nextDraw_19 : decode cX6_nextDraw 19 = .ok (.aload_n 0, 1) := by decide +kernel
theorem dX6_nextDraw_20 : decode cX6_nextDraw 20 = .ok (.getfield 62, 3) := by decide +kernel
theorem dX6_nextDraw_23 : decode cX6_nextDraw 23 = .ok (.bipush 8, 2) := by decide +kernel
theorem dX6_nextDraw_25 : decode cX6_nextDraw 25 = .ok (.iushr, 1) := by decide +kernel
theorem dX6_nextDraw_26 : decode cX6_nextDraw 26 = .ok (.iload_n 1, 1) := by decide +kernel
theorem dX6_nextDraw_27 : decode cX6_nextDraw 27 = .ok (.irem, 1) := by decide +kernel
theorem dX6_nextDraw_28 : decode cX6_nextDraw 28 = .ok (.goto 4, 3) := by decide +kernel
theorem dX6_nextDraw_31 : decode cX6_nextDraw 31 = .ok (.iconst 0, 1) := by decide +kernel
theorem dX6_nextDraw_32 : decode cX6_nextDraw 32 = .ok (.ireturn, 1) := by decide +kernel
set_option maxHeartbeats 4000000 in
theorem c_Runs_nextDraw {ad wad : Nat → Nat} (a0 : Int32) (h : HS)  (q : Int32 × HS) (hd : f_Runs_nextDraw a0 h = some q) : Ctr SHc ad wad yX6_nextDraw cX6_nextDraw 2 (some .int) 1 [.ref (ad 36), .int a0] h (some (.int q.1), q.2) := by
  refine enter (own := RX6) (lv := [(0, .ref (ad 36)), (1, .int a0)]) (by decide +kernel) rfl (Nat.le_of_ble_eq_true rfl) rfl (fun Γ hG => ?_)
  unfold f_Runs_nextDraw at hd
  refine a_aload_n (pc := 0) hG 0 rfl dX6_nextDraw_0 rfl ?_
  refine a_aload_n (pc := 1) hG 0 rfl dX6_nextDraw_1 rfl ?_
  refine a_getI (pc := 2) hG sc_36 cl_X6 ok_X6 4 (by decide) rfl t_320 dX6_nextDraw_2 ?_
  refine a_ldc (pc := 5) hG (v := (nI 1103515245)) t_1217 dX6_nextDraw_5 ?_
  refine a_imul (pc := 7) hG dX6_nextDraw_7 ?_
  refine a_sipush (pc := 8) hG dX6_nextDraw_8 (v := (nI 12345)) rfl ?_
  refine a_iadd (pc := 11) hG dX6_nextDraw_11 ?_
  refine a_putI (pc := 12) hG sc_36 cl_X6 ok_X6 4 (by decide) rfl t_320 rfl (ty := .int) rfl rfl rfl hd dX6_nextDraw_12 (fun h1 hd => ?_)
  refine a_iload_n (pc := 15) hG 1 rfl dX6_nextDraw_15 rfl ?_
  refine a_if_le (pc := 16) hG (tgt := 31) hd dX6_nextDraw_16 (by decide) (fun hd => ?_) (fun hd => ?_)
  · refine a_iconst (pc := 31) hG dX6_nextDraw_31 (v := (nI 0)) rfl ?_
    exact a_iret (pc := 32) hG hd dX6_nextDraw_32
  refine a_aload_n (pc := 19) hG 0 rfl dX6_nextDraw_19 rfl ?_
  refine a_getI (pc := 20) hG sc_36 cl_X6 ok_X6 4 (by decide) rfl t_320 dX6_nextDraw_20 ?_
  refine a_bipush (pc := 23) hG dX6_nextDraw_23 (v := (nI 8)) rfl ?_
  refine a_iushr (pc := 25) hG dX6_nextDraw_25 ?_
  refine a_iload_n (pc := 26) hG 1 rfl dX6_nextDraw_26 rfl ?_
  refine a_irem (pc := 27) hG hd dX6_nextDraw_27 (fun hd => ?_)
  refine a_goto (pc := 28) hG (tgt := 32) dX6_nextDraw_28 (by decide) ?_
  exact a_iret (pc := 32) hG hd dX6_nextDraw_32
theorem dX6_followDraw_0 : decode cX6_followDraw 0 = .ok (.aload_n 0, 1) := by decide +kernel
theorem dX6_followDraw_1 : decode cX6_followDraw 1 = .ok (.iconst 3, 1) := by decide +kernel
theorem dX6_followDraw_2 : decode cX6_followDraw 2 = .ok (.invokevirtual 124, 3) := by decide +kernel
theorem dX6_followDraw_5 : decode cX6_followDraw 5 = .ok (.istore_n 2, 1) := by decide +kernel
theorem dX6_followDraw_6 : decode cX6_followDraw 6 = .ok (.iload_n 2, 1) := by decide +kernel
theorem dX6_followDraw_7 : decode cX6_followDraw 7 = .ok (.ifCond .ne 49, 3) := by decide +kernel
theorem dX6_followDraw_10 : decode cX6_followDraw 10 = .ok (.aload_n 0, 1) := by decide +kernel
theorem dX6_followDraw_11 : decode cX6_followDraw 11 = .ok (.getfield 15, 3) := by decide +kernel
theorem dX6_followDraw_14 : decode cX6_followDraw 14 = .ok (.invokevirtual 100, 3) := by decide +kernel
theorem dX6_followDraw_17 : decode cX6_followDraw 17 = .ok (.ifCond .le 39, 3) := by decide +kernel
theorem dX6_followDraw_20 : decode cX6_followDraw 20 = .ok (.aload_n 0, 1) := by decide +kernel
theorem dX6_followDraw_21 : decode cX6_followDraw 21 = .ok (.aload_n 0, 1) := by decide +kernel
theorem dX6_followDraw_22 : decode cX6_followDraw 22 = .ok (.getfield 15, 3) := by decide +kernel
theorem dX6_followDraw_25 : decode cX6_followDraw 25 = .ok (.invokevirtual 100, 3) := by decide +kernel
theorem dX6_followDraw_28 : decode cX6_followDraw 28 = .ok (.invokevirtual 124, 3) := by decide +kernel
theorem dX6_followDraw_31 : decode cX6_followDraw 31 = .ok (.istore_n 3, 1) := by decide +kernel
theorem dX6_followDraw_32 : decode cX6_followDraw 32 = .ok (.aload_n 0, 1) := by decide +kernel
theorem dX6_followDraw_33 : decode cX6_followDraw 33 = .ok (.getfield 19, 3) := by decide +kernel
theorem dX6_followDraw_36 : decode cX6_followDraw 36 = .ok (.iload_n 1, 1) := by decide +kernel
theorem dX6_followDraw_37 : decode cX6_followDraw 37 = .ok (.iload_n 3, 1) := by decide +kernel
theorem dX6_followDraw_38 : decode cX6_followDraw 38 = .ok (.invokevirtual 103, 3) := by decide +kernel
theorem dX6_followDraw_41 : decode cX6_followDraw 41 = .ok (.ifCond .ne 12, 3) := by decide +kernel
theorem dX6_followDraw_44 : decode cX6_followDraw 44 = .ok (.aload_n 0, 1) := by decide +kernel
theorem dX6_followDraw_45 : decode cX6_followDraw 45 = .ok (.getfield 19, 3) := by decide +kernel
theorem dX6_followDraw_48 : decode cX6_followDraw 48 = .ok (.iload_n 1, 1) := by decide +kernel
theorem dX6_followDraw_49 : decode cX6_followDraw 49 = .ok (.iload_n 3, 1) := by decide +kernel
theorem dX6_followDraw_50 : decode cX6_followDraw 50 = .ok (.invokevirtual 106, 3) := by decide +kernel
theorem dX6_followDraw_53 : decode cX6_followDraw 53 = .ok (.goto 48, 3) := by decide +kernel
theorem dX6_followDraw_56 : decode cX6_followDraw 56 = .ok (.iload_n 2, 1) := by decide +kernel
theorem dX6_followDraw_57 : decode cX6_followDraw 57 = .ok (.iconst 1, 1) := by decide +kernel
theorem dX6_followDraw_58 : decode cX6_followDraw 58 = .ok (.if_icmp .ne 33, 3) := by decide +kernel
theorem dX6_followDraw_61 : decode cX6_followDraw 61 = .ok (.aload_n 0, 1) := by decide +kernel
theorem dX6_followDraw_62 : decode cX6_followDraw 62 = .ok (.getfield 15, 3) := by decide +kernel
theorem dX6_followDraw_65 : decode cX6_followDraw 65 = .ok (.invokevirtual 109, 3) := by decide +kernel
theorem dX6_followDraw_68 : decode cX6_followDraw 68 = .ok (.ifCond .le 23, 3) := by decide +kernel
theorem dX6_followDraw_71 : decode cX6_followDraw 71 = .ok (.aload_n 0, 1) := by decide +kernel
theorem dX6_followDraw_72 : decode cX6_followDraw 72 = .ok (.iload_n 1, 1) := by decide +kernel
theorem dX6_followDraw_73 : decode cX6_followDraw 73 = .ok (.aload_n 0, 1) := by decide +kernel
theorem dX6_followDraw_74 : decode cX6_followDraw 74 = .ok (.aload_n 0, 1) := by decide +kernel
theorem dX6_followDraw_75 : decode cX6_followDraw 75 = .ok (.getfield 15, 3) := by decide +kernel
theorem dX6_followDraw_78 : decode cX6_followDraw 78 = .ok (.invokevirtual 109, 3) := by decide +kernel
theorem dX6_followDraw_81 : decode cX6_followDraw 81 = .ok (.invokevirtual 124, 3) := by decide +kernel
theorem dX6_followDraw_84 : decode cX6_followDraw 84 = .ok (.invokevirtual 93, 3) := by decide +kernel
theorem dX6_followDraw_87 : decode cX6_followDraw 87 = .ok (.pop, 1) := by decide +kernel
theorem dX6_followDraw_88 : decode cX6_followDraw 88 = .ok (.goto 13, 3) := by decide +kernel
theorem dX6_followDraw_91 : decode cX6_followDraw 91 = .ok (.iload_n 2, 1) := by decide +kernel
theorem dX6_followDraw_92 : decode cX6_followDraw 92 = .ok (.iconst 2, 1) := by decide +kernel
theorem dX6_followDraw_93 : decode cX6_followDraw 93 = .ok (.if_icmp .ne 8, 3) := by decide +kernel
theorem dX6_followDraw_96 : decode cX6_followDraw 96 = .ok (.aload_n 0, 1) := by decide +kernel
theorem dX6_followDraw_97 : decode cX6_followDraw 97 = .ok (.iload_n 1, 1) := by decide +kernel
theorem dX6_followDraw_98 : decode cX6_followDraw 98 = .ok (.invokevirtual 80, 3) := by decide +kernel
theorem dX6_followDraw_101 : decode cX6_followDraw 101 = .ok (.return_, 1) := by decide +kernel
set_option maxHeartbeats 4000000 in
theorem c_Runs_followDraw {ad wad : Nat → Nat} (a0 : Int32) (h : HS)  (q : Unit × HS) (hd : f_Runs_followDraw a0 h = some q) : Ctr SHc ad wad yX6_followDraw cX6_followDraw 4 none 6 [.ref (ad 36), .int a0] h (none, q.2) := by
  refine enter (own := RX6) (lv := [(0, .ref (ad 36)), (1, .int a0)]) (by decide +kernel) rfl (Nat.le_of_ble_eq_true rfl) rfl (fun Γ hG => ?_)
  unfold f_Runs_followDraw at hd
  refine a_aload_n (pc := 0) hG 0 rfl dX6_followDraw_0 rfl ?_
  refine a_iconst (pc := 1) hG dX6_followDraw_1 (v := (nI 3)) rfl ?_
  refine a_cvI (pc := 2) hG (As := [.int (nI 3)]) (st := []) sc_36 cl_X6 mk_X6_nextDraw t_1213 (by omega) (fun z hz => c_Runs_nextDraw (nI 3) _  z hz) rfl (Nat.le_of_ble_eq_true rfl) hd dX6_followDraw_2 (fun r2 h1 hd => ?_)
  refine a_istore_nN (pc := 5) hG hd dX6_followDraw_5 rfl (by decide) (lf := fun x => [(2, .int x), (0, .ref (ad 36)), (1, .int a0)]) (fun _ => rfl) (fun v3 hd => ?_)
  refine a_iload_n (pc := 6) hG 0 rfl dX6_followDraw_6 rfl ?_
  refine a_join hd (Q := fun J : HS → Option (Unit × HS) => ∀  (h5 : HS), J  h5 = some q → AW SHc ad 4 (none, q.2) Γ 56 [(0, .ref (ad 36)), (1, .int a0), (2, .int v3)] [] h5) (fun  h5 hd => ?_) (fun J4 hJ4 hd => ?_)
  · refine a_iload_n (pc := 56) hG 2 rfl dX6_followDraw_56 rfl ?_
    refine a_iconst (pc := 57) hG dX6_followDraw_57 (v := (nI 1)) rfl ?_
    refine a_join hd (Q := fun J : HS → Option (Unit × HS) => ∀  (h7 : HS), J  h7 = some q → AW SHc ad 4 (none, q.2) Γ 91 [(0, .ref (ad 36)), (1, .int a0), (2, .int v3)] [] h7) (fun  h7 hd => ?_) (fun J6 hJ6 hd => ?_)
    · refine a_iload_n (pc := 91) hG 2 rfl dX6_followDraw_91 rfl ?_
      refine a_iconst (pc := 92) hG dX6_followDraw_92 (v := (nI 2)) rfl ?_
      refine a_ic_ne (pc := 93) hG (tgt := 101) hd dX6_followDraw_93 (by decide) (fun hd => ?_) (fun hd => ?_)
      · exact a_vret (pc := 101) hG hd dX6_followDraw_101
      refine a_aload_n (pc := 96) hG 0 rfl dX6_followDraw_96 rfl ?_
      refine a_iload_n (pc := 97) hG 1 rfl dX6_followDraw_97 rfl ?_
      refine a_cvN (pc := 98) hG (As := [.int a0]) (st := []) sc_36 cl_X6 mk_X6_dropIfCan t_1132 (by omega) (fun z hz => c_Runs_dropIfCan a0 _  z hz) rfl (Nat.le_of_ble_eq_true rfl) hd dX6_followDraw_98 (fun _ h8 hd => ?_)
      exact a_vret (pc := 101) hG hd dX6_followDraw_101
    refine a_ic_ne (pc := 58) hG (tgt := 91) hd dX6_followDraw_58 (by decide) (fun hd => ?_) (fun hd => ?_)
    · exact AW.sub [0, 1, 2] rfl (hJ6  _ hd)
    refine a_aload_n (pc := 61) hG 0 rfl dX6_followDraw_61 rfl ?_
    refine a_getR (pc := 62) hG sc_36 cl_X6 ok_X6 0 (by decide) rfl t_316 dX6_followDraw_62 ?_
    refine a_cvI (pc := 65) hG (As := []) (st := []) sc_3 cl_X5 mk_X5_deeds t_1153 (by omega) (fun z hz => c_Plan_deeds_3  _  z hz) rfl (Nat.le_of_ble_eq_true rfl) hd dX6_followDraw_65 (fun r10 h9 hd => ?_)
    refine a_if_le (pc := 68) hG (tgt := 91) hd dX6_followDraw_68 (by decide) (fun hd => ?_) (fun hd => ?_)
    · exact AW.sub [0, 1, 2] rfl (hJ6  _ hd)
    refine a_aload_n (pc := 71) hG 0 rfl dX6_followDraw_71 rfl ?_
    refine a_iload_n (pc := 72) hG 1 rfl dX6_followDraw_72 rfl ?_
    refine a_aload_n (pc := 73) hG 0 rfl dX6_followDraw_73 rfl ?_
    refine a_aload_n (pc := 74) hG 0 rfl dX6_followDraw_74 rfl ?_
    refine a_getR (pc := 75) hG sc_36 cl_X6 ok_X6 0 (by decide) rfl t_316 dX6_followDraw_75 ?_
    refine a_cvI (pc := 78) hG (As := []) (st := [.ref (ad 36), .int a0, .ref (ad 36)]) sc_3 cl_X5 mk_X5_deeds t_1153 (by omega) (fun z hz => c_Plan_deeds_3  _  z hz) rfl (Nat.le_of_ble_eq_true rfl) hd dX6_followDraw_78 (fun r12 h11 hd => ?_)
    refine a_cvI (pc := 81) hG (As := [.int r12]) (st := [.int a0, .ref (ad 36)]) sc_36 cl_X6 mk_X6_nextDraw t_1213 (by omega) (fun z hz => c_Runs_nextDraw r12 _  z hz) rfl (Nat.le_of_ble_eq_true rfl) hd dX6_followDraw_81 (fun r14 h13 hd => ?_)
    refine a_cvI (pc := 84) hG (As := [.int a0, .int r14]) (st := []) sc_36 cl_X6 mk_X6_actIfCan t_1143 (by omega) (fun z hz => c_Runs_actIfCan a0 r14 _  z hz) rfl (Nat.le_of_ble_eq_true rfl) hd dX6_followDraw_84 (fun r16 h15 hd => ?_)
    refine a_pop (pc := 87) hG dX6_followDraw_87 rfl ?_
    refine a_goto (pc := 88) hG (tgt := 101) dX6_followDraw_88 (by decide) ?_
    exact a_vret (pc := 101) hG hd dX6_followDraw_101
  refine a_if_ne (pc := 7) hG (tgt := 56) hd dX6_followDraw_7 (by decide) (fun hd => ?_) (fun hd => ?_)
  · exact AW.sub [1, 2, 0] rfl (hJ4  _ hd)
  refine a_aload_n (pc := 10) hG 1 rfl dX6_followDraw_10 rfl ?_
  refine a_getR (pc := 11) hG sc_36 cl_X6 ok_X6 0 (by decide) rfl t_316 dX6_followDraw_11 ?_
  refine a_cvI (pc := 14) hG (As := []) (st := []) sc_3 cl_X5 mk_X5_causes t_1128 (by omega) (fun z hz => c_Plan_causes_3  _  z hz) rfl (Nat.le_of_ble_eq_true rfl) hd dX6_followDraw_14 (fun r18 h17 hd => ?_)
  refine a_if_le (pc := 17) hG (tgt := 56) hd dX6_followDraw_17 (by decide) (fun hd => ?_) (fun hd => ?_)
  · exact AW.sub [1, 2, 0] rfl (hJ4  _ hd)
  refine a_aload_n (pc := 20) hG 1 rfl dX6_followDraw_20 rfl ?_
  refine a_aload_n (pc := 21) hG 1 rfl dX6_followDraw_21 rfl ?_
  refine a_getR (pc := 22) hG sc_36 cl_X6 ok_X6 0 (by decide) rfl t_316 dX6_followDraw_22 ?_
  refine a_cvI (pc := 25) hG (As := []) (st := [.ref (ad 36)]) sc_3 cl_X5 mk_X5_causes t_1128 (by omega) (fun z hz => c_Plan_causes_3  _  z hz) rfl (Nat.le_of_ble_eq_true rfl) hd dX6_followDraw_25 (fun r20 h19 hd => ?_)
  refine a_cvI (pc := 28) hG (As := [.int r20]) (st := []) sc_36 cl_X6 mk_X6_nextDraw t_1213 (by omega) (fun z hz => c_Runs_nextDraw r20 _  z hz) rfl (Nat.le_of_ble_eq_true rfl) hd dX6_followDraw_28 (fun r22 h21 hd => ?_)
  refine a_istore_nN (pc := 31) hG hd dX6_followDraw_31 rfl (by decide) (lf := fun x => [(3, .int x), (2, .int v3), (0, .ref (ad 36)), (1, .int a0)]) (fun _ => rfl) (fun v23 hd => ?_)
  refine a_aload_n (pc := 32) hG 2 rfl dX6_followDraw_32 rfl ?_
  refine a_getR (pc := 33) hG sc_36 cl_X6 ok_X6 1 (by decide) rfl t_317 dX6_followDraw_33 ?_
  refine a_iload_n (pc := 36) hG 3 rfl dX6_followDraw_36 rfl ?_
  refine a_iload_n (pc := 37) hG 0 rfl dX6_followDraw_37 rfl ?_
  refine a_cvI (pc := 38) hG (As := [.int a0, .int v23]) (st := []) sc_20 cl_X0 mk_X0_whyNotTake t_1129 (by omega) (fun z hz => c_Desk_whyNotTake a0 v23 _  z hz) rfl (Nat.le_of_ble_eq_true rfl) hd dX6_followDraw_38 (fun r25 h24 hd => ?_)
  refine a_if_ne (pc := 41) hG (tgt := 53) hd dX6_followDraw_41 (by decide) (fun hd => ?_) (fun hd => ?_)
  · refine a_goto (pc := 53) hG (tgt := 101) dX6_followDraw_53 (by decide) ?_
    exact a_vret (pc := 101) hG hd dX6_followDraw_101
  refine a_aload_n (pc := 44) hG 2 rfl dX6_followDraw_44 rfl ?_
  refine a_getR (pc := 45) hG sc_36 cl_X6 ok_X6 1 (by decide) rfl t_317 dX6_followDraw_45 ?_
  refine a_iload_n (pc := 48) hG 3 rfl dX6_followDraw_48 rfl ?_
  refine a_iload_n (pc := 49) hG 0 rfl dX6_followDraw_49 rfl ?_
  refine a_cvN (pc := 50) hG (As := [.int a0, .int v23]) (st := []) sc_20 cl_X0 mk_X0_doTake t_1130 (by omega) (fun z hz => c_Desk_doTake a0 v23 _  z hz) rfl (Nat.le_of_ble_eq_true rfl) hd dX6_followDraw_50 (fun _ h26 hd => ?_)
  refine a_goto (pc := 53) hG (tgt := 101) dX6_followDraw_53 (by decide) ?_
  exact a_vret (pc := 101) hG hd dX6_followDraw_101
theorem dX6_passDrawn_0 : decode cX6_passDrawn 0 = .ok (.aload_n 0, 1) := by decide +kernel
theorem dX6_passDrawn_1 : decode cX6_passDrawn 1 = .ok (.iload_n 2, 1) := by decide +kernel
theorem dX6_passDrawn_2 : decode cX6_passDrawn 2 = .ok (.putfield 62, 3) := by decide +kernel
theorem dX6_passDrawn_5 : decode cX6_passDrawn 5 = .ok (.iload_n 1, 1) := by decide +kernel
theorem dX6_passDrawn_6 : decode cX6_passDrawn 6 = .ok (.aload_n 0, 1) := by decide +kernel
theorem dX6_passDrawn_7 : decode cX6_passDrawn 7 = .ok (.getfield 19, 3) := by decide +kernel
theorem dX6_passDrawn_10 : decode cX6_passDrawn 10 = .ok (.invokevirtual 33, 3) := by decide +kernel
theorem dX6_passDrawn_13 : decode cX6_passDrawn 13 = .ok (.invokestatic 37, 3) := by decide +kernel
theorem dX6_passDrawn_16 : decode cX6_passDrawn 16 = .ok (.istore_n 3, 1) := by decide +kernel
theorem dX6_passDrawn_17 : decode cX6_passDrawn 17 = .ok (.iconst 0, 1) := by decide +kernel
theorem dX6_passDrawn_18 : decode cX6_passDrawn 18 = .ok (.istore 4, 2) := by decide +kernel
theorem dX6_passDrawn_20 : decode cX6_passDrawn 20 = .ok (.iload 4, 2) := by decide +kernel
theorem dX6_passDrawn_22 : decode cX6_passDrawn 22 = .ok (.iload_n 3, 1) := by decide +kernel
theorem dX6_passDrawn_23 : decode cX6_passDrawn 23 = .ok (.if_icmp .ge 43, 3) := by decide +kernel
theorem dX6_passDrawn_26 : decode cX6_passDrawn 26 = .ok (.iconst 0, 1) := by decide +kernel
theorem dX6_passDrawn_27 : decode cX6_passDrawn 27 = .ok (.istore 5, 2) := by decide +kernel
theorem dX6_passDrawn_29 : decode cX6_passDrawn 29 = .ok (.iload 5, 2) := by decide +kernel
theorem dX6_passDrawn_31 : decode cX6_passDrawn 31 = .ok (.aload_n 0, 1) := by decide +kernel
theorem dX6_passDrawn_32 : decode cX6_passDrawn 32 = .ok (.getfield 15, 3) := by decide +kernel
theorem dX6_passDrawn_35 : decode cX6_passDrawn 35 = .ok (.invokevirtual 43, 3) := by decide +kernel
theorem dX6_passDrawn_38 : decode cX6_passDrawn 38 = .ok (.if_icmp .ge 15, 3) := by decide +kernel
theorem dX6_passDrawn_41 : decode cX6_passDrawn 41 = .ok (.aload_n 0, 1) := by decide +kernel
theorem dX6_passDrawn_42 : decode cX6_passDrawn 42 = .ok (.iload 5, 2) := by decide +kernel
theorem dX6_passDrawn_44 : decode cX6_passDrawn 44 = .ok (.invokevirtual 66, 3) := by decide +kernel
theorem dX6_passDrawn_47 : decode cX6_passDrawn 47 = .ok (.iinc 5 1, 3) := by decide +kernel
theorem dX6_passDrawn_50 : decode cX6_passDrawn 50 = .ok (.goto (-21), 3) := by decide +kernel
theorem dX6_passDrawn_53 : decode cX6_passDrawn 53 = .ok (.aload_n 0, 1) := by decide +kernel
theorem dX6_passDrawn_54 : decode cX6_passDrawn 54 = .ok (.getfield 19, 3) := by decide +kernel
theorem dX6_passDrawn_57 : decode cX6_passDrawn 57 = .ok (.invokevirtual 52, 3) := by decide +kernel
theorem dX6_passDrawn_60 : decode cX6_passDrawn 60 = .ok (.iinc 4 1, 3) := by decide +kernel
theorem dX6_passDrawn_63 : decode cX6_passDrawn 63 = .ok (.goto (-43), 3) := by decide +kernel
theorem dX6_passDrawn_66 : decode cX6_passDrawn 66 = .ok (.iload_n 3, 1) := by decide +kernel
theorem dX6_passDrawn_67 : decode cX6_passDrawn 67 = .ok (.ireturn, 1) := by decide +kernel
set_option maxHeartbeats 4000000 in
theorem w_l_Runs_passDrawn_1 {ad wad : Nat → Nat} {Γ : Ctx} (F : Nat) {n : Nat} (hn : 7 ≤ n) (hG : Cx SHc ad wad cX6_passDrawn 6 RX6 (some .int) (n) Γ) {q : Int32 × HS} {x3 : Int32} {x4 : Int32} {K0 : HS → Option (Int32 × HS)} {g : Nat} {x5 : Int32} {h : HS} (hd : l_Runs_passDrawn_1 F x3 x4 K0 g x5 h = some q) (hK0 : ∀ (z : HS), K0 z = some q → AW SHc ad 6 (some (.int q.1), q.2) Γ 53 [(0, .ref (ad 36)), (3, .int x3), (4, .int x4)] [] z) : AW SHc ad 6 (some (.int q.1), q.2) Γ 29 [(0, .ref (ad 36)), (3, .int x3), (4, .int x4), (5, .int x5)] [] h := by
  induction g generalizing x5 h with
  | zero => unfold l_Runs_passDrawn_1 at hd; cases hd
  | succ g ih =>
    unfold l_Runs_passDrawn_1 at hd
    refine a_iload (pc := 29) hG 3 rfl dX6_passDrawn_29 ?_
    refine a_aload_n (pc := 31) hG 0 rfl dX6_passDrawn_31 rfl ?_
    refine a_getR (pc := 32) hG sc_36 cl_X6 ok_X6 0 (by decide) rfl t_316 dX6_passDrawn_32 ?_
    refine a_cvI (pc := 35) hG (As := []) (st := [.int x5]) sc_3 cl_X5 mk_X5_clerks t_1118 (by omega) (fun z hz => c_Plan_clerks_3  _  z hz) rfl (Nat.le_of_ble_eq_true rfl) hd dX6_passDrawn_35 (fun r8 h7 hd => ?_)
    refine a_ic_ge (pc := 38) hG (tgt := 53) hd dX6_passDrawn_38 (by decide) (fun hd => ?_) (fun hd => ?_)
    · exact AW.sub [0, 1, 2] rfl (hK0  _ hd)
    refine a_aload_n (pc := 41) hG 0 rfl dX6_passDrawn_41 rfl ?_
    refine a_iload (pc := 42) hG 3 rfl dX6_passDrawn_42 ?_
    refine a_cvN (pc := 44) hG (As := [.int x5]) (st := []) sc_36 cl_X6 mk_X6_followDraw t_1209 (by omega) (fun z hz => c_Runs_followDraw x5 _  z hz) rfl (Nat.le_of_ble_eq_true rfl) hd dX6_passDrawn_44 (fun _ h9 hd => ?_)
    refine a_iincN (pc := 47) hG (c0 := (nI 1)) 3 rfl hd dX6_passDrawn_47 rfl (by decide) (lf := fun x => [(5, .int x), (0, .ref (ad 36)), (3, .int x3), (4, .int x4)]) (fun _ => rfl) (fun v10 hd => ?_)
    refine a_goto (pc := 50) hG (tgt := 29) dX6_passDrawn_50 (by decide) ?_
    exact AW.sub [1, 2, 3, 0] rfl (ih hd)
set_option maxHeartbeats 4000000 in
theorem w_l_Runs_passDrawn_0 {ad wad : Nat → Nat} {Γ : Ctx} (F : Nat) {n : Nat} (hn : 7 ≤ n) (hG : Cx SHc ad wad cX6_passDrawn 6 RX6 (some .int) (n) Γ) {q : Int32 × HS} {x3 : Int32} {g : Nat} {x4 : Int32} {h : HS} (hd : l_Runs_passDrawn_0 F x3 g x4 h = some q) : AW SHc ad 6 (some (.int q.1), q.2) Γ 20 [(0, .ref (ad 36)), (3, .int x3), (4, .int x4)] [] h := by
  induction g generalizing x4 h with
  | zero => unfold l_Runs_passDrawn_0 at hd; cases hd
  | succ g ih =>
    unfold l_Runs_passDrawn_0 at hd
    refine a_iload (pc := 20) hG 2 rfl dX6_passDrawn_20 ?_
    refine a_iload_n (pc := 22) hG 1 rfl dX6_passDrawn_22 rfl ?_
    refine a_ic_ge (pc := 23) hG (tgt := 66) hd dX6_passDrawn_23 (by decide) (fun hd => ?_) (fun hd => ?_)
    · refine a_iload_n (pc := 66) hG 1 rfl dX6_passDrawn_66 rfl ?_
      exact a_iret (pc := 67) hG hd dX6_passDrawn_67
    refine a_iconst (pc := 26) hG dX6_passDrawn_26 (v := (nI 0)) rfl ?_
    refine a_istoreN (pc := 27) hG hd dX6_passDrawn_27 (by decide) (lf := fun x => [(5, .int x), (0, .ref (ad 36)), (3, .int x3), (4, .int x4)]) (fun _ => rfl) (fun v6 hd => ?_)
    refine AW.sub [1, 2, 3, 0] rfl ?_
    refine w_l_Runs_passDrawn_1 F (by omega) hG hd (fun h11 hd => ?_)
    refine a_aload_n (pc := 53) hG 0 rfl dX6_passDrawn_53 rfl ?_
    refine a_getR (pc := 54) hG sc_36 cl_X6 ok_X6 1 (by decide) rfl t_317 dX6_passDrawn_54 ?_
    refine a_cvN (pc := 57) hG (As := []) (st := []) sc_20 cl_X0 mk_X0_passWeek t_1154 (by omega) (fun z hz => c_Desk_passWeek F  _  z hz) rfl (Nat.le_of_ble_eq_true rfl) hd dX6_passDrawn_57 (fun _ h12 hd => ?_)
    refine a_iincN (pc := 60) hG (c0 := (nI 1)) 2 rfl hd dX6_passDrawn_60 rfl (by decide) (lf := fun x => [(4, .int x), (0, .ref (ad 36)), (3, .int x3)]) (fun _ => rfl) (fun v13 hd => ?_)
    refine a_goto (pc := 63) hG (tgt := 20) dX6_passDrawn_63 (by decide) ?_
    exact AW.sub [1, 2, 0] rfl (ih hd)
set_option maxHeartbeats 4000000 in
theorem c_Runs_passDrawn {ad wad : Nat → Nat} (F : Nat) (a0 : Int32) (a1 : Int32) (h : HS)  (q : Int32 × HS) (hd : f_Runs_passDrawn F a0 a1 h = some q) : Ctr SHc ad wad yX6_passDrawn cX6_passDrawn 6 (some .int) 7 [.ref (ad 36), .int a0, .int a1] h (some (.int q.1), q.2) := by
  refine enter (own := RX6) (lv := [(0, .ref (ad 36)), (1, .int a0), (2, .int a1)]) (by decide +kernel) rfl (Nat.le_of_ble_eq_true rfl) rfl (fun Γ hG => ?_)
  unfold f_Runs_passDrawn at hd
  refine a_aload_n (pc := 0) hG 0 rfl dX6_passDrawn_0 rfl ?_
  refine a_iload_n (pc := 1) hG 2 rfl dX6_passDrawn_1 rfl ?_
  refine a_putI (pc := 2) hG sc_36 cl_X6 ok_X6 4 (by decide) rfl t_320 rfl (ty := .int) rfl rfl rfl hd dX6_passDrawn_2 (fun h1 hd => ?_)
  refine a_iload_n (pc := 5) hG 1 rfl dX6_passDrawn_5 rfl ?_
  refine a_aload_n (pc := 6) hG 0 rfl dX6_passDrawn_6 rfl ?_
  refine a_getR (pc := 7) hG sc_36 cl_X6 ok_X6 1 (by decide) rfl t_317 dX6_passDrawn_7 ?_
  refine a_cvI (pc := 10) hG (As := []) (st := [.int a0]) sc_20 cl_X0 mk_X0_weeksLeft t_1116 (by omega) (fun z hz => c_Desk_weeksLeft  _  z hz) rfl (Nat.le_of_ble_eq_true rfl) hd dX6_passDrawn_10 (fun r3 h2 hd => ?_)
  refine a_min (pc := 13) hG t_1117 t_582 t_133 t_583 (by omega) (Nat.le_of_ble_eq_true rfl) dX6_passDrawn_13 ?_
  refine a_istore_nN (pc := 16) hG hd dX6_passDrawn_16 rfl (by decide) (lf := fun x => [(3, .int x), (0, .ref (ad 36)), (1, .int a0), (2, .int a1)]) (fun _ => rfl) (fun v4 hd => ?_)
  refine a_iconst (pc := 17) hG dX6_passDrawn_17 (v := (nI 0)) rfl ?_
  refine a_istoreN (pc := 18) hG hd dX6_passDrawn_18 (by decide) (lf := fun x => [(4, .int x), (3, .int v4), (0, .ref (ad 36)), (1, .int a0), (2, .int a1)]) (fun _ => rfl) (fun v5 hd => ?_)
  refine AW.sub [2, 1, 0] rfl ?_
  exact w_l_Runs_passDrawn_0 F (by omega) hG hd
theorem dX11_drawn_0 : decode cX11_drawn 0 = .ok (.iload_n 1, 1) := by decide +kernel
theorem dX11_drawn_1 : decode cX11_drawn 1 = .ok (.iconst 1, 1) := by decide +kernel
theorem dX11_drawn_2 : decode cX11_drawn 2 = .ok (.if_icmp .lt 19, 3) := by decide +kernel
theorem dX11_drawn_5 : decode cX11_drawn 5 = .ok (.iload_n 1, 1) := by decide +kernel
theorem dX11_drawn_6 : decode cX11_drawn 6 = .ok (.bipush 50, 2) := by decide +kernel
theorem dX11_drawn_8 : decode cX11_drawn 8 = .ok (.if_icmp .gt 13, 3) := by decide +kernel
theorem dX11_drawn_11 : decode cX11_drawn 11 = .ok (.aload_n 0, 1) := by decide +kernel
theorem dX11_drawn_12 : decode cX11_drawn 12 = .ok (.getfield 19, 3) := by decide +kernel
theorem dX11_drawn_15 : decode cX11_drawn 15 = .ok (.invokevirtual 285, 3) := by decide +kernel
theorem dX11_drawn_18 : decode cX11_drawn 18 = .ok (.ifCond .ne 5, 3) := by decide +kernel
theorem dX11_drawn_21 : decode cX11_drawn 21 = .ok (.iconst (-1), 1) := by decide +kernel
theorem dX11_drawn_22 : decode cX11_drawn 22 = .ok (.ireturn, 1) := by decide +kernel
theorem dX11_drawn_23 : decode cX11_drawn 23 = .ok (.aload_n 0, 1) := by decide +kernel
theorem dX11_drawn_24 : decode cX11_drawn 24 = .ok (.getfield 40, 3) := by decide +kernel
theorem dX11_drawn_27 : decode cX11_drawn 27 = .ok (.invokevirtual 211, 3) := by decide +kernel
theorem dX11_drawn_30 : decode cX11_drawn 30 = .ok (.ifCond .ne 5, 3) := by decide +kernel
theorem dX11_drawn_33 : decode cX11_drawn 33 = .ok (.iconst 0, 1) := by decide +kernel
theorem dX11_drawn_34 : decode cX11_drawn 34 = .ok (.ireturn, 1) := by decide +kernel
theorem dX11_drawn_35 : decode cX11_drawn 35 = .ok (.aload_n 0, 1) := by decide +kernel
theorem dX11_drawn_36 : decode cX11_drawn 36 = .ok (.getfield 40, 3) := by decide +kernel
theorem dX11_drawn_39 : decode cX11_drawn 39 = .ok (.invokevirtual 192, 3) := by decide +kernel
theorem dX11_drawn_42 : decode cX11_drawn 42 = .ok (.aload_n 0, 1) := by decide +kernel
theorem dX11_drawn_43 : decode cX11_drawn 43 = .ok (.getfield 58, 3) := by decide +kernel
theorem dX11_drawn_46 : decode cX11_drawn 46 = .ok (.iload_n 1, 1) := by decide +kernel
theorem dX11_drawn_47 : decode cX11_drawn 47 = .ok (.iload_n 2, 1) := by decide +kernel
theorem dX11_drawn_48 : decode cX11_drawn 48 = .ok (.invokevirtual 288, 3) := by decide +kernel
theorem dX11_drawn_51 : decode cX11_drawn 51 = .ok (.ireturn, 1) := by decide +kernel
set_option maxHeartbeats 4000000 in
theorem c_LC_drawn {ad wad : Nat → Nat} (F : Nat) (a0 : Int32) (a1 : Int32) (h : HS)  (q : Int32 × HS) (hd : f_LC_drawn F a0 a1 h = some q) : Ctr SHc ad wad yX11_drawn cX11_drawn 3 (some .int) 8 [.ref (ad 0), .int a0, .int a1] h (some (.int q.1), q.2) := by
  refine enter (own := RX11) (lv := [(0, .ref (ad 0)), (1, .int a0), (2, .int a1)]) (by decide +kernel) rfl (Nat.le_of_ble_eq_true rfl) rfl (fun Γ hG => ?_)
  unfold f_LC_drawn at hd
  refine a_iload_n (pc := 0) hG 1 rfl dX11_drawn_0 rfl ?_
  refine a_iconst (pc := 1) hG dX11_drawn_1 (v := (nI 1)) rfl ?_
  refine a_ic_lt (pc := 2) hG (tgt := 21) hd dX11_drawn_2 (by decide) (fun hd => ?_) (fun hd => ?_)
  · refine a_iconst (pc := 21) hG dX11_drawn_21 (v := (-1 : Int32)) rfl ?_
    exact a_iret (pc := 22) hG hd dX11_drawn_22
  refine a_iload_n (pc := 5) hG 1 rfl dX11_drawn_5 rfl ?_
  refine a_bipush (pc := 6) hG dX11_drawn_6 (v := (nI 50)) rfl ?_
  refine a_ic_gt (pc := 8) hG (tgt := 21) hd dX11_drawn_8 (by decide) (fun hd => ?_) (fun hd => ?_)
  · refine a_iconst (pc := 21) hG dX11_drawn_21 (v := (-1 : Int32)) rfl ?_
    exact a_iret (pc := 22) hG hd dX11_drawn_22
  refine a_aload_n (pc := 11) hG 0 rfl dX11_drawn_11 rfl ?_
  refine a_getR (pc := 12) hG sc_0 cl_X11 ok_X11 1 (by decide) rfl t_482 dX11_drawn_12 ?_
  refine a_cvI (pc := 15) hG (As := []) (st := []) sc_3 cl_X5 mk_X5_clerks t_1204 (by omega) (fun z hz => c_Plan_clerks_3  _  z hz) rfl (Nat.le_of_ble_eq_true rfl) hd dX11_drawn_15 (fun r2 h1 hd => ?_)
  refine a_if_ne (pc := 18) hG (tgt := 23) hd dX11_drawn_18 (by decide) (fun hd => ?_) (fun hd => ?_)
  · refine a_aload_n (pc := 23) hG 0 rfl dX11_drawn_23 rfl ?_
    refine a_getR (pc := 24) hG sc_0 cl_X11 ok_X11 4 (by decide) rfl t_485 dX11_drawn_24 ?_
    refine a_cvI (pc := 27) hG (As := []) (st := []) sc_20 cl_X0 mk_X0_weeksLeft t_907 (by omega) (fun z hz => c_Desk_weeksLeft  _  z hz) rfl (Nat.le_of_ble_eq_true rfl) hd dX11_drawn_27 (fun r4 h3 hd => ?_)
    refine a_if_ne (pc := 30) hG (tgt := 35) hd dX11_drawn_30 (by decide) (fun hd => ?_) (fun hd => ?_)
    · refine a_aload_n (pc := 35) hG 0 rfl dX11_drawn_35 rfl ?_
      refine a_getR (pc := 36) hG sc_0 cl_X11 ok_X11 4 (by decide) rfl t_485 dX11_drawn_36 ?_
      refine a_cvN (pc := 39) hG (As := []) (st := []) sc_20 cl_X0 mk_X0_remember t_841 (by omega) (fun z hz => c_Desk_remember  _  z hz) rfl (Nat.le_of_ble_eq_true rfl) hd dX11_drawn_39 (fun _ h5 hd => ?_)
      refine a_aload_n (pc := 42) hG 0 rfl dX11_drawn_42 rfl ?_
      refine a_getR (pc := 43) hG sc_0 cl_X11 ok_X11 6 (by decide) rfl t_487 dX11_drawn_43 ?_
      refine a_iload_n (pc := 46) hG 1 rfl dX11_drawn_46 rfl ?_
      refine a_iload_n (pc := 47) hG 2 rfl dX11_drawn_47 rfl ?_
      refine a_cvI (pc := 48) hG (As := [.int a0, .int a1]) (st := []) sc_36 cl_X6 mk_X6_passDrawn t_1205 (by omega) (fun z hz => c_Runs_passDrawn F a0 a1 _  z hz) rfl (Nat.le_of_ble_eq_true rfl) hd dX11_drawn_48 (fun r7 h6 hd => ?_)
      exact a_iret (pc := 51) hG hd dX11_drawn_51
    refine a_iconst (pc := 33) hG dX11_drawn_33 (v := (nI 0)) rfl ?_
    exact a_iret (pc := 34) hG hd dX11_drawn_34
  refine a_iconst (pc := 21) hG dX11_drawn_21 (v := (-1 : Int32)) rfl ?_
  exact a_iret (pc := 22) hG hd dX11_drawn_22
