theorem dX8_isTokenSign_0 : decode cX8_isTokenSign 0 = .ok (.iload_n 0, 1) := by decide +kernel
theorem dX8_isTokenSign_1 : decode cX8_isTokenSign 1 = .ok (.bipush 59, 2) := by decide +kernel
theorem dX8_isTokenSign_3 : decode cX8_isTokenSign 3 = .ok (.if_icmp .eq 39, 3) := by decide +kernel
theorem dX8_isTokenSign_6 : decode cX8_isTokenSign 6 = .ok (.iload_n 0, 1) := by decide +kernel
theorem dX8_isTokenSign_7 : decode cX8_isTokenSign 7 = .ok (.bipush 60, 2) := by decide +kernel
theorem dX8_isTokenSign_9 : decode cX8_isTokenSign 9 = .ok (.if_icmp .eq 33, 3) := by decide +kernel
theorem dX8_isTokenSign_12 : decode cX8_isTokenSign 12 = .ok (.iload_n 0, 1) := by decide +kernel
theorem dX8_isTokenSign_13 : decode cX8_isTokenSign 13 = .ok (.bipush 61, 2) := by decide +kernel
theorem dX8_isTokenSign_15 : decode cX8_isTokenSign 15 = .ok (.if_icmp .eq 27, 3) := by decide +kernel
theorem dX8_isTokenSign_18 : decode cX8_isTokenSign 18 = .ok (.iload_n 0, 1) := by decide +kernel
theorem dX8_isTokenSign_19 : decode cX8_isTokenSign 19 = .ok (.bipush 62, 2) := by decide +kernel
theorem dX8_isTokenSign_21 : decode cX8_isTokenSign 21 = .ok (.if_icmp .eq 21, 3) := by decide +kernel
theorem dX8_isTokenSign_24 : decode cX8_isTokenSign 24 = .ok (.iload_n 0, 1) := by decide +kernel
theorem dX8_isTokenSign_25 : decode cX8_isTokenSign 25 = .ok (.bipush 40, 2) := by decide +kernel
theorem dX8_isTokenSign_27 : decode cX8_isTokenSign 27 = .ok (.if_icmp .eq 15, 3) := by decide +kernel
theorem dX8_isTokenSign_30 : decode cX8_isTokenSign 30 = .ok (.iload_n 0, 1) := by decide +kernel
theorem dX8_isTokenSign_31 : decode cX8_isTokenSign 31 = .ok (.bipush 41, 2) := by decide +kernel
theorem dX8_isTokenSign_33 : decode cX8_isTokenSign 33 = .ok (.if_icmp .eq 9, 3) := by decide +kernel
theorem dX8_isTokenSign_36 : decode cX8_isTokenSign 36 = .ok (.iload_n 0, 1) := by decide +kernel
theorem dX8_isTokenSign_37 : decode cX8_isTokenSign 37 = .ok (.bipush 46, 2) := by decide +kernel
theorem dX8_isTokenSign_39 : decode cX8_isTokenSign 39 = .ok (.if_icmp .ne 7, 3) := by decide +kernel
theorem dX8_isTokenSign_42 : decode cX8_isTokenSign 42 = .ok (.iconst 1, 1) := by decide +kernel
theorem dX8_isTokenSign_43 : decode cX8_isTokenSign 43 = .ok (.goto 4, 3) := by decide +kernel
theorem dX8_isTokenSign_46 : decode cX8_isTokenSign 46 = .ok (.iconst 0, 1) := by decide +kernel
theorem dX8_isTokenSign_47 : decode cX8_isTokenSign 47 = .ok (.ireturn, 1) := by decide +kernel
set_option maxHeartbeats 4000000 in
theorem c_Tape_isTokenSign {ad wad : Nat → Nat} (a0 : Int32) (h : HS)  (q : Int32 × HS) (hd : f_Tape_isTokenSign a0 h = some q) : Ctr SHc ad wad yX8_isTokenSign cX8_isTokenSign 1 (some .boolean) 1 [.int a0] h (some (.int q.1), q.2) := by
  refine enter (own := RX8) (lv := [(0, .int a0)]) (by decide +kernel) rfl (Nat.le_of_ble_eq_true rfl) rfl (fun Γ hG => ?_)
  unfold f_Tape_isTokenSign at hd
  refine a_iload_n (pc := 0) hG 0 rfl dX8_isTokenSign_0 rfl ?_
  refine a_bipush (pc := 1) hG dX8_isTokenSign_1 (v := (nI 59)) rfl ?_
  refine a_ic_eq (pc := 3) hG (tgt := 42) hd dX8_isTokenSign_3 (by decide) (fun hd => ?_) (fun hd => ?_)
  · refine a_iconst (pc := 42) hG dX8_isTokenSign_42 (v := (nI 1)) rfl ?_
    refine a_goto (pc := 43) hG (tgt := 47) dX8_isTokenSign_43 (by decide) ?_
    exact a_zret (pc := 47) hG hd dX8_isTokenSign_47
  refine a_iload_n (pc := 6) hG 0 rfl dX8_isTokenSign_6 rfl ?_
  refine a_bipush (pc := 7) hG dX8_isTokenSign_7 (v := (nI 60)) rfl ?_
  refine a_ic_eq (pc := 9) hG (tgt := 42) hd dX8_isTokenSign_9 (by decide) (fun hd => ?_) (fun hd => ?_)
  · refine a_iconst (pc := 42) hG dX8_isTokenSign_42 (v := (nI 1)) rfl ?_
    refine a_goto (pc := 43) hG (tgt := 47) dX8_isTokenSign_43 (by decide) ?_
    exact a_zret (pc := 47) hG hd dX8_isTokenSign_47
  refine a_iload_n (pc := 12) hG 0 rfl dX8_isTokenSign_12 rfl ?_
  refine a_bipush (pc := 13) hG dX8_isTokenSign_13 (v := (nI 61)) rfl ?_
  refine a_ic_eq (pc := 15) hG (tgt := 42) hd dX8_isTokenSign_15 (by decide) (fun hd => ?_) (fun hd => ?_)
  · refine a_iconst (pc := 42) hG dX8_isTokenSign_42 (v := (nI 1)) rfl ?_
    refine a_goto (pc := 43) hG (tgt := 47) dX8_isTokenSign_43 (by decide) ?_
    exact a_zret (pc := 47) hG hd dX8_isTokenSign_47
  refine a_iload_n (pc := 18) hG 0 rfl dX8_isTokenSign_18 rfl ?_
  refine a_bipush (pc := 19) hG dX8_isTokenSign_19 (v := (nI 62)) rfl ?_
  refine a_ic_eq (pc := 21) hG (tgt := 42) hd dX8_isTokenSign_21 (by decide) (fun hd => ?_) (fun hd => ?_)
  · refine a_iconst (pc := 42) hG dX8_isTokenSign_42 (v := (nI 1)) rfl ?_
    refine a_goto (pc := 43) hG (tgt := 47) dX8_isTokenSign_43 (by decide) ?_
    exact a_zret (pc := 47) hG hd dX8_isTokenSign_47
  refine a_iload_n (pc := 24) hG 0 rfl dX8_isTokenSign_24 rfl ?_
  refine a_bipush (pc := 25) hG dX8_isTokenSign_25 (v := (nI 40)) rfl ?_
  refine a_ic_eq (pc := 27) hG (tgt := 42) hd dX8_isTokenSign_27 (by decide) (fun hd => ?_) (fun hd => ?_)
  · refine a_iconst (pc := 42) hG dX8_isTokenSign_42 (v := (nI 1)) rfl ?_
    refine a_goto (pc := 43) hG (tgt := 47) dX8_isTokenSign_43 (by decide) ?_
    exact a_zret (pc := 47) hG hd dX8_isTokenSign_47
  refine a_iload_n (pc := 30) hG 0 rfl dX8_isTokenSign_30 rfl ?_
  refine a_bipush (pc := 31) hG dX8_isTokenSign_31 (v := (nI 41)) rfl ?_
  refine a_ic_eq (pc := 33) hG (tgt := 42) hd dX8_isTokenSign_33 (by decide) (fun hd => ?_) (fun hd => ?_)
  · refine a_iconst (pc := 42) hG dX8_isTokenSign_42 (v := (nI 1)) rfl ?_
    refine a_goto (pc := 43) hG (tgt := 47) dX8_isTokenSign_43 (by decide) ?_
    exact a_zret (pc := 47) hG hd dX8_isTokenSign_47
  refine a_iload_n (pc := 36) hG 0 rfl dX8_isTokenSign_36 rfl ?_
  refine a_bipush (pc := 37) hG dX8_isTokenSign_37 (v := (nI 46)) rfl ?_
  refine a_ic_ne (pc := 39) hG (tgt := 46) hd dX8_isTokenSign_39 (by decide) (fun hd => ?_) (fun hd => ?_)
  · refine a_iconst (pc := 46) hG dX8_isTokenSign_46 (v := (nI 0)) rfl ?_
    exact a_zret (pc := 47) hG hd dX8_isTokenSign_47
  refine a_iconst (pc := 42) hG dX8_isTokenSign_42 (v := (nI 1)) rfl ?_
  refine a_goto (pc := 43) hG (tgt := 47) dX8_isTokenSign_43 (by decide) ?_
  exact a_zret (pc := 47) hG hd dX8_isTokenSign_47
theorem dX8_advance_0 : decode cX8_advance 0 = .ok (.aload_n 0, 1) := by decide +kernel
theorem dX8_advance_1 : decode cX8_advance 1 = .ok (.getfield 22, 3) := by decide +kernel
theorem dX8_advance_4 : decode cX8_advance 4 = .ok (.aload_n 0, 1) := by decide +kernel
theorem dX8_advance_5 : decode cX8_advance 5 = .ok (.getfield 15, 3) := by decide +kernel
theorem dX8_advance_8 : decode cX8_advance 8 = .ok (.if_icmp .ge 42, 3) := by decide +kernel
theorem dX8_advance_11 : decode cX8_advance 11 = .ok (.aload_n 0, 1) := by decide +kernel
theorem dX8_advance_12 : decode cX8_advance 12 = .ok (.aload_n 0, 1) := by decide +kernel
theorem dX8_advance_13 : decode cX8_advance 13 = .ok (.getfield 22, 3) := by decide +kernel
theorem dX8_advance_16 : decode cX8_advance 16 = .ok (.invokevirtual 71, 3) := by decide +kernel
theorem dX8_advance_19 : decode cX8_advance 19 = .ok (.bipush 32, 2) := by decide +kernel
theorem dX8_advance_21 : decode cX8_advance 21 = .ok (.if_icmp .eq 16, 3) := by decide +kernel
theorem dX8_advance_24 : decode cX8_advance 24 = .ok (.aload_n 0, 1) := by decide +kernel
theorem dX8_advance_25 : decode cX8_advance 25 = .ok (.aload_n 0, 1) := by decide +kernel
theorem dX8_advance_26 : decode cX8_advance 26 = .ok (.getfield 22, 3) := by decide +kernel
theorem dX8_advance_29 : decode cX8_advance 29 = .ok (.invokevirtual 71, 3) := by decide +kernel
theorem dX8_advance_32 : decode cX8_advance 32 = .ok (.bipush 10, 2) := by decide +kernel
theorem dX8_advance_34 : decode cX8_advance 34 = .ok (.if_icmp .ne 16, 3) := by decide +kernel
theorem dX8_advance_37 : decode cX8_advance 37 = .ok (.aload_n 0, 1) := by decide +kernel
theorem dX8_advance_38 : decode cX8_advance 38 = .ok (.dup, 1) := by decide +kernel
theorem dX8_advance_39 : decode cX8_advance 39 = .ok (.getfield 22, 3) := by decide +kernel
theorem dX8_advance_42 : decode cX8_advance 42 = .ok (.iconst 1, 1) := by decide +kernel
theorem dX8_advance_43 : decode cX8_advance 43 = .ok (.iadd, 1) := by decide +kernel
theorem dX8_advance_44 : decode cX8_advance 44 = .ok (.putfield 22, 3) := by decide +kernel
theorem dX8_advance_47 : decode cX8_advance 47 = .ok (.goto (-47), 3) := by decide +kernel
theorem dX8_advance_50 : decode cX8_advance 50 = .ok (.aload_n 0, 1) := by decide +kernel
theorem dX8_advance_51 : decode cX8_advance 51 = .ok (.getfield 22, 3) := by decide +kernel
theorem dX8_advance_54 : decode cX8_advance 54 = .ok (.aload_n 0, 1) := by decide +kernel
theorem dX8_advance_55 : decode cX8_advance 55 = .ok (.getfield 15, 3) := by decide +kernel
theorem dX8_advance_58 : decode cX8_advance 58 = .ok (.if_icmp .ge 14, 3) := by decide +kernel
theorem dX8_advance_61 : decode cX8_advance 61 = .ok (.aload_n 0, 1) := by decide +kernel
theorem dX8_advance_62 : decode cX8_advance 62 = .ok (.getfield 22, 3) := by decide +kernel
theorem dX8_advance_65 : decode cX8_advance 65 = .ok (.aload_n 0, 1) := by decide +kernel
theorem dX8_advance_66 : decode cX8_advance 66 = .ok (.getfield 19, 3) := by decide +kernel
theorem dX8_advance_69 : decode cX8_advance 69 = .ok (.if_icmp .lt 39, 3) := by decide +kernel
theorem dX8_advance_72 : decode cX8_advance 72 = .ok (.aload_n 0, 1) := by decide +kernel
theorem dX8_advance_73 : decode cX8_advance 73 = .ok (.aload_n 0, 1) := by decide +kernel
theorem dX8_advance_74 : decode cX8_advance 74 = .ok (.getfield 15, 3) := by decide +kernel
theorem dX8_advance_77 : decode cX8_advance 77 = .ok (.aload_n 0, 1) := by decide +kernel
theorem dX8_advance_78 : decode cX8_advance 78 = .ok (.getfield 19, 3) := by decide +kernel
theorem dX8_advance_81 : decode cX8_advance 81 = .ok (.invokestatic 75, 3) := by decide +kernel
theorem dX8_advance_84 : decode cX8_advance 84 = .ok (.putfield 25, 3) := by decide +kernel
theorem dX8_advance_87 : decode cX8_advance 87 = .ok (.aload_n 0, 1) := by decide +kernel
theorem dX8_advance_88 : decode cX8_advance 88 = .ok (.aload_n 0, 1) := by decide +kernel
theorem dX8_advance_89 : decode cX8_advance 89 = .ok (.getfield 15, 3) := by decide +kernel
theorem dX8_advance_92 : decode cX8_advance 92 = .ok (.aload_n 0, 1) := by decide +kernel
theorem dX8_advance_93 : decode cX8_advance 93 = .ok (.getfield 19, 3) := by decide +kernel
theorem dX8_advance_96 : decode cX8_advance 96 = .ok (.if_icmp .le 7, 3) := by decide +kernel
theorem dX8_advance_99 : decode cX8_advance 99 = .ok (.iconst 3, 1) := by decide +kernel
theorem dX8_advance_100 : decode cX8_advance 100 = .ok (.goto 4, 3) := by decide +kernel
theorem dX8_advance_103 : decode cX8_advance 103 = .ok (.iconst 0, 1) := by decide +kernel
theorem dX8_advance_104 : decode cX8_advance 104 = .ok (.putfield 28, 3) := by decide +kernel
theorem dX8_advance_107 : decode cX8_advance 107 = .ok (.return_, 1) := by decide +kernel
theorem dX8_advance_108 : decode cX8_advance 108 = .ok (.aload_n 0, 1) := by decide +kernel
theorem dX8_advance_109 : decode cX8_advance 109 = .ok (.aload_n 0, 1) := by decide +kernel
theorem dX8_advance_110 : decode cX8_advance 110 = .ok (.getfield 22, 3) := by decide +kernel
theorem dX8_advance_113 : decode cX8_advance 113 = .ok (.putfield 25, 3) := by decide +kernel
theorem dX8_advance_116 : decode cX8_advance 116 = .ok (.aload_n 0, 1) := by decide +kernel
theorem dX8_advance_117 : decode cX8_advance 117 = .ok (.aload_n 0, 1) := by decide +kernel
theorem dX8_advance_118 : decode cX8_advance 118 = .ok (.getfield 22, 3) := by decide +kernel
theorem dX8_advance_121 : decode cX8_advance 121 = .ok (.invokevirtual 71, 3) := by decide +kernel
theorem dX8_advance_124 : decode cX8_advance 124 = .ok (.istore_n 1, 1) := by decide +kernel
theorem dX8_advance_125 : decode cX8_advance 125 = .ok (.iload_n 1, 1) := by decide +kernel
theorem dX8_advance_126 : decode cX8_advance 126 = .ok (.bipush 97, 2) := by decide +kernel
theorem dX8_advance_128 : decode cX8_advance 128 = .ok (.if_icmp .lt 9, 3) := by decide +kernel
theorem dX8_advance_131 : decode cX8_advance 131 = .ok (.iload_n 1, 1) := by decide +kernel
theorem dX8_advance_132 : decode cX8_advance 132 = .ok (.bipush 122, 2) := by decide +kernel
theorem dX8_advance_134 : decode cX8_advance 134 = .ok (.if_icmp .le 15, 3) := by decide +kernel
theorem dX8_advance_137 : decode cX8_advance 137 = .ok (.iload_n 1, 1) := by decide +kernel
theorem dX8_advance_138 : decode cX8_advance 138 = .ok (.bipush 48, 2) := by decide +kernel
theorem dX8_advance_140 : decode cX8_advance 140 = .ok (.if_icmp .lt 14, 3) := by decide +kernel
theorem dX8_advance_143 : decode cX8_advance 143 = .ok (.iload_n 1, 1) := by decide +kernel
theorem dX8_advance_144 : decode cX8_advance 144 = .ok (.bipush 57, 2) := by decide +kernel
theorem dX8_advance_146 : decode cX8_advance 146 = .ok (.if_icmp .gt 8, 3) := by decide +kernel
theorem dX8_advance_149 : decode cX8_advance 149 = .ok (.aload_n 0, 1) := by decide +kernel
theorem dX8_advance_150 : decode cX8_advance 150 = .ok (.invokevirtual 81, 3) := by decide +kernel
theorem dX8_advance_153 : decode cX8_advance 153 = .ok (.return_, 1) := by decide +kernel
theorem dX8_advance_154 : decode cX8_advance 154 = .ok (.aload_n 0, 1) := by decide +kernel
theorem dX8_advance_155 : decode cX8_advance 155 = .ok (.dup, 1) := by decide +kernel
theorem dX8_advance_156 : decode cX8_advance 156 = .ok (.getfield 22, 3) := by decide +kernel
theorem dX8_advance_159 : decode cX8_advance 159 = .ok (.iconst 1, 1) := by decide +kernel
theorem dX8_advance_160 : decode cX8_advance 160 = .ok (.iadd, 1) := by decide +kernel
theorem dX8_advance_161 : decode cX8_advance 161 = .ok (.putfield 22, 3) := by decide +kernel
theorem dX8_advance_164 : decode cX8_advance 164 = .ok (.aload_n 0, 1) := by decide +kernel
theorem dX8_advance_165 : decode cX8_advance 165 = .ok (.iload_n 1, 1) := by decide +kernel
theorem dX8_advance_166 : decode cX8_advance 166 = .ok (.invokestatic 84, 3) := by decide +kernel
theorem dX8_advance_169 : decode cX8_advance 169 = .ok (.ifCond .eq 7, 3) := by decide +kernel
theorem dX8_advance_172 : decode cX8_advance 172 = .ok (.iload_n 1, 1) := by decide +kernel
theorem dX8_advance_173 : decode cX8_advance 173 = .ok (.goto 4, 3) := by decide +kernel
theorem dX8_advance_176 : decode cX8_advance 176 = .ok (.iconst 3, 1) := by decide +kernel
theorem dX8_advance_177 : decode cX8_advance 177 = .ok (.putfield 28, 3) := by decide +kernel
theorem dX8_advance_180 : decode cX8_advance 180 = .ok (.return_, 1) := by decide +kernel
set_option maxHeartbeats 4000000 in
theorem w_l_Tape_advance_0 {ad wad : Nat → Nat} {Γ : Ctx} (F : Nat) {n : Nat} (hn : 2 ≤ n) (hG : Cx SHc ad wad cX8_advance 2 RX8 none (n) Γ) {q : Unit × HS} {K0 : HS → Option (Unit × HS)} {g : Nat}  {h : HS} (hd : l_Tape_advance_0 F K0 g  h = some q) (hK0 : ∀ (z : HS), K0 z = some q → AW SHc ad 2 (none, q.2) Γ 50 [(0, .ref (ad 1))] [] z) : AW SHc ad 2 (none, q.2) Γ 0 [(0, .ref (ad 1))] [] h := by
  induction g generalizing h with
  | zero => unfold l_Tape_advance_0 at hd; cases hd
  | succ g ih =>
    unfold l_Tape_advance_0 at hd
    refine a_aload_n (pc := 0) hG 0 rfl dX8_advance_0 rfl ?_
    refine a_getI (pc := 1) hG sc_1 cl_X8 ok_X8 3 (by decide) rfl t_159 dX8_advance_1 ?_
    refine a_aload_n (pc := 4) hG 0 rfl dX8_advance_4 rfl ?_
    refine a_getI (pc := 5) hG sc_1 cl_X8 ok_X8 1 (by decide) rfl t_157 dX8_advance_5 ?_
    refine a_ic_ge (pc := 8) hG (tgt := 50) hd dX8_advance_8 (by decide) (fun hd => ?_) (fun hd => ?_)
    · exact AW.sub [0] rfl (hK0  _ hd)
    refine a_aload_n (pc := 11) hG 0 rfl dX8_advance_11 rfl ?_
    refine a_aload_n (pc := 12) hG 0 rfl dX8_advance_12 rfl ?_
    refine a_getI (pc := 13) hG sc_1 cl_X8 ok_X8 3 (by decide) rfl t_159 dX8_advance_13 ?_
    refine a_cvI (pc := 16) hG (As := [.int (h.1 1 3)]) (st := []) sc_1 cl_X8 mk_X8_at t_577 (by omega) (fun z hz => c_Tape_at (h.1 1 3) _  z hz) rfl (Nat.le_of_ble_eq_true rfl) hd dX8_advance_16 (fun r2 h1 hd => ?_)
    refine a_bipush (pc := 19) hG dX8_advance_19 (v := (nI 32)) rfl ?_
    refine a_join hd (Q := fun J : HS → Option (Unit × HS) => ∀  (h4 : HS), J  h4 = some q → AW SHc ad 2 (none, q.2) Γ 37 [(0, .ref (ad 1))] [] h4) (fun  h4 hd => ?_) (fun J3 hJ3 hd => ?_)
    · refine a_aload_n (pc := 37) hG 0 rfl dX8_advance_37 rfl ?_
      refine a_dup (pc := 38) hG dX8_advance_38 rfl ?_
      refine a_getI (pc := 39) hG sc_1 cl_X8 ok_X8 3 (by decide) rfl t_159 dX8_advance_39 ?_
      refine a_iconst (pc := 42) hG dX8_advance_42 (v := (nI 1)) rfl ?_
      refine a_iadd (pc := 43) hG dX8_advance_43 ?_
      refine a_putI (pc := 44) hG sc_1 cl_X8 ok_X8 3 (by decide) rfl t_159 rfl (ty := .int) rfl rfl rfl hd dX8_advance_44 (fun h5 hd => ?_)
      refine a_goto (pc := 47) hG (tgt := 0) dX8_advance_47 (by decide) ?_
      exact AW.sub [0] rfl (ih hd)
    refine a_ic_eq (pc := 21) hG (tgt := 37) hd dX8_advance_21 (by decide) (fun hd => ?_) (fun hd => ?_)
    · exact AW.sub [0] rfl (hJ3  _ hd)
    refine a_aload_n (pc := 24) hG 0 rfl dX8_advance_24 rfl ?_
    refine a_aload_n (pc := 25) hG 0 rfl dX8_advance_25 rfl ?_
    refine a_getI (pc := 26) hG sc_1 cl_X8 ok_X8 3 (by decide) rfl t_159 dX8_advance_26 ?_
    refine a_cvI (pc := 29) hG (As := [.int (h1.1 1 3)]) (st := []) sc_1 cl_X8 mk_X8_at t_577 (by omega) (fun z hz => c_Tape_at (h1.1 1 3) _  z hz) rfl (Nat.le_of_ble_eq_true rfl) hd dX8_advance_29 (fun r7 h6 hd => ?_)
    refine a_bipush (pc := 32) hG dX8_advance_32 (v := (nI 10)) rfl ?_
    refine a_ic_ne (pc := 34) hG (tgt := 50) hd dX8_advance_34 (by decide) (fun hd => ?_) (fun hd => ?_)
    · exact AW.sub [0] rfl (hK0  _ hd)
    exact AW.sub [0] rfl (hJ3  _ hd)
set_option maxHeartbeats 4000000 in
theorem c_Tape_advance {ad wad : Nat → Nat} (F : Nat)  (h : HS)  (q : Unit × HS) (hd : f_Tape_advance F  h = some q) : Ctr SHc ad wad yX8_advance cX8_advance 2 none 2 [.ref (ad 1)] h (none, q.2) := by
  refine enter (own := RX8) (lv := [(0, .ref (ad 1))]) (by decide +kernel) rfl (Nat.le_of_ble_eq_true rfl) rfl (fun Γ hG => ?_)
  unfold f_Tape_advance at hd
  refine AW.sub [0] rfl ?_
  refine w_l_Tape_advance_0 F (by omega) hG hd (fun h8 hd => ?_)
  refine a_aload_n (pc := 50) hG 0 rfl dX8_advance_50 rfl ?_
  refine a_getI (pc := 51) hG sc_1 cl_X8 ok_X8 3 (by decide) rfl t_159 dX8_advance_51 ?_
  refine a_aload_n (pc := 54) hG 0 rfl dX8_advance_54 rfl ?_
  refine a_getI (pc := 55) hG sc_1 cl_X8 ok_X8 1 (by decide) rfl t_157 dX8_advance_55 ?_
  refine a_join hd (Q := fun J : HS → Option (Unit × HS) => ∀  (h10 : HS), J  h10 = some q → AW SHc ad 2 (none, q.2) Γ 72 [(0, .ref (ad 1))] [] h10) (fun  h10 hd => ?_) (fun J9 hJ9 hd => ?_)
  · refine a_aload_n (pc := 72) hG 0 rfl dX8_advance_72 rfl ?_
    refine a_aload_n (pc := 73) hG 0 rfl dX8_advance_73 rfl ?_
    refine a_getI (pc := 74) hG sc_1 cl_X8 ok_X8 1 (by decide) rfl t_157 dX8_advance_74 ?_
    refine a_aload_n (pc := 77) hG 0 rfl dX8_advance_77 rfl ?_
    refine a_getI (pc := 78) hG sc_1 cl_X8 ok_X8 2 (by decide) rfl t_158 dX8_advance_78 ?_
    refine a_min (pc := 81) hG t_581 t_582 t_133 t_583 (by omega) (Nat.le_of_ble_eq_true rfl) dX8_advance_81 ?_
    refine a_putI (pc := 84) hG sc_1 cl_X8 ok_X8 4 (by decide) rfl t_160 rfl (ty := .int) rfl rfl rfl hd dX8_advance_84 (fun h11 hd => ?_)
    refine a_aload_n (pc := 87) hG 0 rfl dX8_advance_87 rfl ?_
    refine a_aload_n (pc := 88) hG 0 rfl dX8_advance_88 rfl ?_
    refine a_getI (pc := 89) hG sc_1 cl_X8 ok_X8 1 (by decide) rfl t_157 dX8_advance_89 ?_
    refine a_aload_n (pc := 92) hG 0 rfl dX8_advance_92 rfl ?_
    refine a_getI (pc := 93) hG sc_1 cl_X8 ok_X8 2 (by decide) rfl t_158 dX8_advance_93 ?_
    refine a_join hd (Q := fun J : Int32 → HS → Option (Unit × HS) => ∀ (v13 : Int32) (h14 : HS), J v13 h14 = some q → AW SHc ad 2 (none, q.2) Γ 104 [] [.int v13, .ref (ad 1)] h14) (fun v13 h14 hd => ?_) (fun J12 hJ12 hd => ?_)
    · refine a_putI (pc := 104) hG sc_1 cl_X8 ok_X8 5 (by decide) rfl t_161 rfl (ty := .int) rfl rfl rfl hd dX8_advance_104 (fun h15 hd => ?_)
      exact a_vret (pc := 107) hG hd dX8_advance_107
    refine a_ic_le (pc := 96) hG (tgt := 103) hd dX8_advance_96 (by decide) (fun hd => ?_) (fun hd => ?_)
    · refine a_iconst (pc := 103) hG dX8_advance_103 (v := (nI 0)) rfl ?_
      exact AW.sub [] rfl (hJ12 _ _ hd)
    refine a_iconst (pc := 99) hG dX8_advance_99 (v := (nI 3)) rfl ?_
    refine a_goto (pc := 100) hG (tgt := 104) dX8_advance_100 (by decide) ?_
    exact AW.sub [] rfl (hJ12 _ _ hd)
  refine a_ic_ge (pc := 58) hG (tgt := 72) hd dX8_advance_58 (by decide) (fun hd => ?_) (fun hd => ?_)
  · exact AW.sub [0] rfl (hJ9  _ hd)
  refine a_aload_n (pc := 61) hG 0 rfl dX8_advance_61 rfl ?_
  refine a_getI (pc := 62) hG sc_1 cl_X8 ok_X8 3 (by decide) rfl t_159 dX8_advance_62 ?_
  refine a_aload_n (pc := 65) hG 0 rfl dX8_advance_65 rfl ?_
  refine a_getI (pc := 66) hG sc_1 cl_X8 ok_X8 2 (by decide) rfl t_158 dX8_advance_66 ?_
  refine a_ic_lt (pc := 69) hG (tgt := 108) hd dX8_advance_69 (by decide) (fun hd => ?_) (fun hd => ?_)
  · refine a_aload_n (pc := 108) hG 0 rfl dX8_advance_108 rfl ?_
    refine a_aload_n (pc := 109) hG 0 rfl dX8_advance_109 rfl ?_
    refine a_getI (pc := 110) hG sc_1 cl_X8 ok_X8 3 (by decide) rfl t_159 dX8_advance_110 ?_
    refine a_putI (pc := 113) hG sc_1 cl_X8 ok_X8 4 (by decide) rfl t_160 rfl (ty := .int) rfl rfl rfl hd dX8_advance_113 (fun h16 hd => ?_)
    refine a_aload_n (pc := 116) hG 0 rfl dX8_advance_116 rfl ?_
    refine a_aload_n (pc := 117) hG 0 rfl dX8_advance_117 rfl ?_
    refine a_getI (pc := 118) hG sc_1 cl_X8 ok_X8 3 (by decide) rfl t_159 dX8_advance_118 ?_
    refine a_cvI (pc := 121) hG (As := [.int (h16.1 1 3)]) (st := []) sc_1 cl_X8 mk_X8_at t_577 (by omega) (fun z hz => c_Tape_at (h16.1 1 3) _  z hz) rfl (Nat.le_of_ble_eq_true rfl) hd dX8_advance_121 (fun r18 h17 hd => ?_)
    refine a_istore_nN (pc := 124) hG hd dX8_advance_124 rfl (by decide) (lf := fun x => [(1, .int x), (0, .ref (ad 1))]) (fun _ => rfl) (fun v19 hd => ?_)
    refine a_iload_n (pc := 125) hG 0 rfl dX8_advance_125 rfl ?_
    refine a_bipush (pc := 126) hG dX8_advance_126 (v := (nI 97)) rfl ?_
    refine a_join hd (Q := fun J : HS → Option (Unit × HS) => ∀  (h21 : HS), J  h21 = some q → AW SHc ad 2 (none, q.2) Γ 149 [(0, .ref (ad 1))] [] h21) (fun  h21 hd => ?_) (fun J20 hJ20 hd => ?_)
    · refine a_aload_n (pc := 149) hG 0 rfl dX8_advance_149 rfl ?_
      refine a_cvN (pc := 150) hG (As := []) (st := []) sc_1 cl_X8 mk_X8_readRun t_584 (by omega) (fun z hz => c_Tape_readRun F  _  z hz) rfl (Nat.le_of_ble_eq_true rfl) hd dX8_advance_150 (fun _ h22 hd => ?_)
      exact a_vret (pc := 153) hG hd dX8_advance_153
    refine a_join hd (Q := fun J : HS → Option (Unit × HS) => ∀  (h24 : HS), J  h24 = some q → AW SHc ad 2 (none, q.2) Γ 137 [(0, .ref (ad 1)), (1, .int v19)] [] h24) (fun  h24 hd => ?_) (fun J23 hJ23 hd => ?_)
    · refine a_iload_n (pc := 137) hG 1 rfl dX8_advance_137 rfl ?_
      refine a_bipush (pc := 138) hG dX8_advance_138 (v := (nI 48)) rfl ?_
      refine a_join hd (Q := fun J : HS → Option (Unit × HS) => ∀  (h26 : HS), J  h26 = some q → AW SHc ad 2 (none, q.2) Γ 154 [(0, .ref (ad 1)), (1, .int v19)] [] h26) (fun  h26 hd => ?_) (fun J25 hJ25 hd => ?_)
      · refine a_aload_n (pc := 154) hG 0 rfl dX8_advance_154 rfl ?_
        refine a_dup (pc := 155) hG dX8_advance_155 rfl ?_
        refine a_getI (pc := 156) hG sc_1 cl_X8 ok_X8 3 (by decide) rfl t_159 dX8_advance_156 ?_
        refine a_iconst (pc := 159) hG dX8_advance_159 (v := (nI 1)) rfl ?_
        refine a_iadd (pc := 160) hG dX8_advance_160 ?_
        refine a_putI (pc := 161) hG sc_1 cl_X8 ok_X8 3 (by decide) rfl t_159 rfl (ty := .int) rfl rfl rfl hd dX8_advance_161 (fun h27 hd => ?_)
        refine a_aload_n (pc := 164) hG 0 rfl dX8_advance_164 rfl ?_
        refine a_iload_n (pc := 165) hG 1 rfl dX8_advance_165 rfl ?_
        refine a_csI (pc := 166) hG (As := [.int v19]) (st := [.ref (ad 1)]) mk_X8_isTokenSign t_589 (by omega) (fun z hz => c_Tape_isTokenSign v19 _  z hz) rfl (Nat.le_of_ble_eq_true rfl) hd dX8_advance_166 (fun r29 h28 hd => ?_)
        refine a_join hd (Q := fun J : Int32 → HS → Option (Unit × HS) => ∀ (v31 : Int32) (h32 : HS), J v31 h32 = some q → AW SHc ad 2 (none, q.2) Γ 177 [] [.int v31, .ref (ad 1)] h32) (fun v31 h32 hd => ?_) (fun J30 hJ30 hd => ?_)
        · refine a_putI (pc := 177) hG sc_1 cl_X8 ok_X8 5 (by decide) rfl t_161 rfl (ty := .int) rfl rfl rfl hd dX8_advance_177 (fun h33 hd => ?_)
          exact a_vret (pc := 180) hG hd dX8_advance_180
        refine a_if_eq (pc := 169) hG (tgt := 176) hd dX8_advance_169 (by decide) (fun hd => ?_) (fun hd => ?_)
        · refine a_iconst (pc := 176) hG dX8_advance_176 (v := (nI 3)) rfl ?_
          exact AW.sub [] rfl (hJ30 _ _ hd)
        refine a_iload_n (pc := 172) hG 1 rfl dX8_advance_172 rfl ?_
        refine a_goto (pc := 173) hG (tgt := 177) dX8_advance_173 (by decide) ?_
        exact AW.sub [] rfl (hJ30 _ _ hd)
      refine a_ic_lt (pc := 140) hG (tgt := 154) hd dX8_advance_140 (by decide) (fun hd => ?_) (fun hd => ?_)
      · exact AW.sub [0, 1] rfl (hJ25  _ hd)
      refine a_iload_n (pc := 143) hG 1 rfl dX8_advance_143 rfl ?_
      refine a_bipush (pc := 144) hG dX8_advance_144 (v := (nI 57)) rfl ?_
      refine a_ic_gt (pc := 146) hG (tgt := 154) hd dX8_advance_146 (by decide) (fun hd => ?_) (fun hd => ?_)
      · exact AW.sub [0, 1] rfl (hJ25  _ hd)
      exact AW.sub [0] rfl (hJ20  _ hd)
    refine a_ic_lt (pc := 128) hG (tgt := 137) hd dX8_advance_128 (by decide) (fun hd => ?_) (fun hd => ?_)
    · exact AW.sub [1, 0] rfl (hJ23  _ hd)
    refine a_iload_n (pc := 131) hG 0 rfl dX8_advance_131 rfl ?_
    refine a_bipush (pc := 132) hG dX8_advance_132 (v := (nI 122)) rfl ?_
    refine a_ic_le (pc := 134) hG (tgt := 149) hd dX8_advance_134 (by decide) (fun hd => ?_) (fun hd => ?_)
    · exact AW.sub [1] rfl (hJ20  _ hd)
    exact AW.sub [1, 0] rfl (hJ23  _ hd)
  exact AW.sub [0] rfl (hJ9  _ hd)
theorem dX8_begin_0 : decode cX8_begin 0 = .ok (.aload_n 0, 1) := by decide +kernel
theorem dX8_begin_1 : decode cX8_begin 1 = .ok (.iload_n 1, 1) := by decide +kernel
theorem dX8_begin_2 : decode cX8_begin 2 = .ok (.putfield 19, 3) := by decide +kernel
theorem dX8_begin_5 : decode cX8_begin 5 = .ok (.aload_n 0, 1) := by decide +kernel
theorem dX8_begin_6 : decode cX8_begin 6 = .ok (.iconst 0, 1) := by decide +kernel
theorem dX8_begin_7 : decode cX8_begin 7 = .ok (.putfield 22, 3) := by decide +kernel
theorem dX8_begin_10 : decode cX8_begin 10 = .ok (.aload_n 0, 1) := by decide +kernel
theorem dX8_begin_11 : decode cX8_begin 11 = .ok (.iconst 0, 1) := by decide +kernel
theorem dX8_begin_12 : decode cX8_begin 12 = .ok (.putfield 41, 3) := by decide +kernel
theorem dX8_begin_15 : decode cX8_begin 15 = .ok (.aload_n 0, 1) := by decide +kernel
theorem dX8_begin_16 : decode cX8_begin 16 = .ok (.iconst 0, 1) := by decide +kernel
theorem dX8_begin_17 : decode cX8_begin 17 = .ok (.putfield 44, 3) := by decide +kernel
theorem dX8_begin_20 : decode cX8_begin 20 = .ok (.aload_n 0, 1) := by decide +kernel
theorem dX8_begin_21 : decode cX8_begin 21 = .ok (.invokevirtual 51, 3) := by decide +kernel
theorem dX8_begin_24 : decode cX8_begin 24 = .ok (.return_, 1) := by decide +kernel
set_option maxHeartbeats 4000000 in
theorem c_Tape_begin {ad wad : Nat → Nat} (F : Nat) (a0 : Int32) (h : HS)  (q : Unit × HS) (hd : f_Tape_begin F a0 h = some q) : Ctr SHc ad wad yX8_begin cX8_begin 2 none 3 [.ref (ad 1), .int a0] h (none, q.2) := by
  refine enter (own := RX8) (lv := [(0, .ref (ad 1)), (1, .int a0)]) (by decide +kernel) rfl (Nat.le_of_ble_eq_true rfl) rfl (fun Γ hG => ?_)
  unfold f_Tape_begin at hd
  refine a_aload_n (pc := 0) hG 0 rfl dX8_begin_0 rfl ?_
  refine a_iload_n (pc := 1) hG 1 rfl dX8_begin_1 rfl ?_
  refine a_putI (pc := 2) hG sc_1 cl_X8 ok_X8 2 (by decide) rfl t_158 rfl (ty := .int) rfl rfl rfl hd dX8_begin_2 (fun h1 hd => ?_)
  refine a_aload_n (pc := 5) hG 0 rfl dX8_begin_5 rfl ?_
  refine a_iconst (pc := 6) hG dX8_begin_6 (v := (nI 0)) rfl ?_
  refine a_putI (pc := 7) hG sc_1 cl_X8 ok_X8 3 (by decide) rfl t_159 rfl (ty := .int) rfl rfl rfl hd dX8_begin_7 (fun h2 hd => ?_)
  refine a_aload_n (pc := 10) hG 0 rfl dX8_begin_10 rfl ?_
  refine a_iconst (pc := 11) hG dX8_begin_11 (v := (nI 0)) rfl ?_
  refine a_putI (pc := 12) hG sc_1 cl_X8 ok_X8 9 (by decide) rfl t_165 rfl (ty := .int) rfl rfl rfl hd dX8_begin_12 (fun h3 hd => ?_)
  refine a_aload_n (pc := 15) hG 0 rfl dX8_begin_15 rfl ?_
  refine a_iconst (pc := 16) hG dX8_begin_16 (v := (nI 0)) rfl ?_
  refine a_putI (pc := 17) hG sc_1 cl_X8 ok_X8 10 (by decide) rfl t_166 rfl (ty := .int) rfl rfl rfl hd dX8_begin_17 (fun h4 hd => ?_)
  refine a_aload_n (pc := 20) hG 0 rfl dX8_begin_20 rfl ?_
  refine a_cvN (pc := 21) hG (As := []) (st := []) sc_1 cl_X8 mk_X8_advance t_573 (by omega) (fun z hz => c_Tape_advance F  _  z hz) rfl (Nat.le_of_ble_eq_true rfl) hd dX8_begin_21 (fun _ h5 hd => ?_)
  exact a_vret (pc := 24) hG hd dX8_begin_24
theorem dX8_isAtEnd_0 : decode cX8_isAtEnd 0 = .ok (.aload_n 0, 1) := by decide +kernel
theorem dX8_isAtEnd_1 : decode cX8_isAtEnd 1 = .ok (.getfield 28, 3) := by decide +kernel
theorem dX8_isAtEnd_4 : decode cX8_isAtEnd 4 = .ok (.ifCond .ne 7, 3) := by decide +kernel
theorem dX8_isAtEnd_7 : decode cX8_isAtEnd 7 = .ok (.iconst 1, 1) := by decide +kernel
theorem dX8_isAtEnd_8 : decode cX8_isAtEnd 8 = .ok (.goto 4, 3) := by decide +kernel
theorem dX8_isAtEnd_11 : decode cX8_isAtEnd 11 = .ok (.iconst 0, 1) := by decide +kernel
theorem dX8_isAtEnd_12 : decode cX8_isAtEnd 12 = .ok (.ireturn, 1) := by decide +kernel
set_option maxHeartbeats 4000000 in
theorem c_Tape_isAtEnd {ad wad : Nat → Nat}  (h : HS)  (q : Int32 × HS) (hd : f_Tape_isAtEnd  h = some q) : Ctr SHc ad wad yX8_isAtEnd cX8_isAtEnd 1 (some .boolean) 1 [.ref (ad 1)] h (some (.int q.1), q.2) := by
  refine enter (own := RX8) (lv := [(0, .ref (ad 1))]) (by decide +kernel) rfl (Nat.le_of_ble_eq_true rfl) rfl (fun Γ hG => ?_)
  unfold f_Tape_isAtEnd at hd
  refine a_aload_n (pc := 0) hG 0 rfl dX8_isAtEnd_0 rfl ?_
  refine a_getI (pc := 1) hG sc_1 cl_X8 ok_X8 5 (by decide) rfl t_161 dX8_isAtEnd_1 ?_
  refine a_if_ne (pc := 4) hG (tgt := 11) hd dX8_isAtEnd_4 (by decide) (fun hd => ?_) (fun hd => ?_)
  · refine a_iconst (pc := 11) hG dX8_isAtEnd_11 (v := (nI 0)) rfl ?_
    exact a_zret (pc := 12) hG hd dX8_isAtEnd_12
  refine a_iconst (pc := 7) hG dX8_isAtEnd_7 (v := (nI 1)) rfl ?_
  refine a_goto (pc := 8) hG (tgt := 12) dX8_isAtEnd_8 (by decide) ?_
  exact a_zret (pc := 12) hG hd dX8_isAtEnd_12
theorem dX10_letters_0 : decode cX10_letters 0 = .ok (.aload_n 0, 1) := by decide +kernel
theorem dX10_letters_1 : decode cX10_letters 1 = .ok (.getfield 104, 3) := by decide +kernel
theorem dX10_letters_4 : decode cX10_letters 4 = .ok (.lreturn, 1) := by decide +kernel
set_option maxHeartbeats 4000000 in
theorem c_Word_letters {ad wad : Nat → Nat} (w : Nat) (h : HS) (hw : w < 23) (q : Int64 × HS) (hd : f_Word_letters w h = some q) : Ctr SHc ad wad yX10_letters cX10_letters 1 (some .long) 1 [.ref (wad w)] h (some (.long q.1), q.2) := by
  refine enter (own := RX10) (lv := [(0, .ref (wad w))]) (by decide +kernel) rfl (Nat.le_of_ble_eq_true rfl) rfl (fun Γ hG => ?_)
  unfold f_Word_letters at hd
  refine a_aload_n (pc := 0) hG 0 rfl dX10_letters_0 rfl ?_
  refine a_getW (pc := 1) hG hw t_2194 dX10_letters_1 ?_
  exact a_lret (pc := 4) hG hd dX10_letters_4
theorem dX8_isWord_0 : decode cX8_isWord 0 = .ok (.aload_n 0, 1) := by decide +kernel
theorem dX8_isWord_1 : decode cX8_isWord 1 = .ok (.getfield 28, 3) := by decide +kernel
theorem dX8_isWord_4 : decode cX8_isWord 4 = .ok (.iconst 1, 1) := by decide +kernel
theorem dX8_isWord_5 : decode cX8_isWord 5 = .ok (.if_icmp .ne 19, 3) := by decide +kernel
theorem dX8_isWord_8 : decode cX8_isWord 8 = .ok (.aload_n 0, 1) := by decide +kernel
theorem dX8_isWord_9 : decode cX8_isWord 9 = .ok (.getfield 31, 3) := by decide +kernel
theorem dX8_isWord_12 : decode cX8_isWord 12 = .ok (.aload_n 1, 1) := by decide +kernel
theorem dX8_isWord_13 : decode cX8_isWord 13 = .ok (.invokevirtual 54, 3) := by decide +kernel
theorem dX8_isWord_16 : decode cX8_isWord 16 = .ok (.lcmp, 1) := by decide +kernel
theorem dX8_isWord_17 : decode cX8_isWord 17 = .ok (.ifCond .ne 7, 3) := by decide +kernel
theorem dX8_isWord_20 : decode cX8_isWord 20 = .ok (.iconst 1, 1) := by decide +kernel
theorem dX8_isWord_21 : decode cX8_isWord 21 = .ok (.goto 4, 3) := by decide +kernel
theorem dX8_isWord_24 : decode cX8_isWord 24 = .ok (.iconst 0, 1) := by decide +kernel
theorem dX8_isWord_25 : decode cX8_isWord 25 = .ok (.ireturn, 1) := by decide +kernel
set_option maxHeartbeats 4000000 in
theorem c_Tape_isWord {ad wad : Nat → Nat} (w : Nat) (h : HS) (hw : w < 23) (q : Int32 × HS) (hd : f_Tape_isWord w h = some q) : Ctr SHc ad wad yX8_isWord cX8_isWord 2 (some .boolean) 2 [.ref (ad 1), .ref (wad w)] h (some (.int q.1), q.2) := by
  refine enter (own := RX8) (lv := [(0, .ref (ad 1)), (1, .ref (wad w))]) (by decide +kernel) rfl (Nat.le_of_ble_eq_true rfl) rfl (fun Γ hG => ?_)
  unfold f_Tape_isWord at hd
  refine a_aload_n (pc := 0) hG 0 rfl dX8_isWord_0 rfl ?_
  refine a_getI (pc := 1) hG sc_1 cl_X8 ok_X8 5 (by decide) rfl t_161 dX8_isWord_1 ?_
  refine a_iconst (pc := 4) hG dX8_isWord_4 (v := (nI 1)) rfl ?_
  refine a_ic_ne (pc := 5) hG (tgt := 24) hd dX8_isWord_5 (by decide) (fun hd => ?_) (fun hd => ?_)
  · refine a_iconst (pc := 24) hG dX8_isWord_24 (v := (nI 0)) rfl ?_
    exact a_zret (pc := 25) hG hd dX8_isWord_25
  refine a_aload_n (pc := 8) hG 0 rfl dX8_isWord_8 rfl ?_
  refine a_getL (pc := 9) hG sc_1 cl_X8 ok_X8 6 (by decide) rfl t_162 dX8_isWord_9 ?_
  refine a_aload_n (pc := 12) hG 1 rfl dX8_isWord_12 rfl ?_
  refine a_letW (pc := 13) hG hw mk_X10_letters t_606 (fun h hw => c_Word_letters w h hw _ rfl) (by omega) (Nat.le_of_ble_eq_true rfl) dX8_isWord_13 ?_
  refine a_lcmp (pc := 16) hG dX8_isWord_16 ?_
  refine a_if_ne (pc := 17) hG (tgt := 24) hd dX8_isWord_17 (by decide) (fun hd => ?_) (fun hd => ?_)
  · refine a_iconst (pc := 24) hG dX8_isWord_24 (v := (nI 0)) rfl ?_
    exact a_zret (pc := 25) hG hd dX8_isWord_25
  refine a_iconst (pc := 20) hG dX8_isWord_20 (v := (nI 1)) rfl ?_
  refine a_goto (pc := 21) hG (tgt := 25) dX8_isWord_21 (by decide) ?_
  exact a_zret (pc := 25) hG hd dX8_isWord_25
theorem dX8_fail_0 : decode cX8_fail 0 = .ok (.aload_n 0, 1) := by decide +kernel
theorem dX8_fail_1 : decode cX8_fail 1 = .ok (.getfield 41, 3) := by decide +kernel
theorem dX8_fail_4 : decode cX8_fail 4 = .ok (.ifCond .ne 16, 3) := by decide +kernel
theorem dX8_fail_7 : decode cX8_fail 7 = .ok (.aload_n 0, 1) := by decide +kernel
theorem dX8_fail_8 : decode cX8_fail 8 = .ok (.iload_n 1, 1) := by decide +kernel
theorem dX8_fail_9 : decode cX8_fail 9 = .ok (.putfield 41, 3) := by decide +kernel
theorem dX8_fail_12 : decode cX8_fail 12 = .ok (.aload_n 0, 1) := by decide +kernel
theorem dX8_fail_13 : decode cX8_fail 13 = .ok (.aload_n 0, 1) := by decide +kernel
theorem dX8_fail_14 : decode cX8_fail 14 = .ok (.getfield 25, 3) := by decide +kernel
theorem dX8_fail_17 : decode cX8_fail 17 = .ok (.putfield 44, 3) := by decide +kernel
theorem dX8_fail_20 : decode cX8_fail 20 = .ok (.iconst 0, 1) := by decide +kernel
theorem dX8_fail_21 : decode cX8_fail 21 = .ok (.ireturn, 1) := by decide +kernel
set_option maxHeartbeats 4000000 in
theorem c_Tape_fail {ad wad : Nat → Nat} (a0 : Int32) (h : HS)  (q : Int32 × HS) (hd : f_Tape_fail a0 h = some q) : Ctr SHc ad wad yX8_fail cX8_fail 2 (some .boolean) 1 [.ref (ad 1), .int a0] h (some (.int q.1), q.2) := by
  refine enter (own := RX8) (lv := [(0, .ref (ad 1)), (1, .int a0)]) (by decide +kernel) rfl (Nat.le_of_ble_eq_true rfl) rfl (fun Γ hG => ?_)
  unfold f_Tape_fail at hd
  refine a_aload_n (pc := 0) hG 0 rfl dX8_fail_0 rfl ?_
  refine a_getI (pc := 1) hG sc_1 cl_X8 ok_X8 9 (by decide) rfl t_165 dX8_fail_1 ?_
  refine a_if_ne (pc := 4) hG (tgt := 20) hd dX8_fail_4 (by decide) (fun hd => ?_) (fun hd => ?_)
  · refine a_iconst (pc := 20) hG dX8_fail_20 (v := (nI 0)) rfl ?_
    exact a_zret (pc := 21) hG hd dX8_fail_21
  refine a_aload_n (pc := 7) hG 0 rfl dX8_fail_7 rfl ?_
  refine a_iload_n (pc := 8) hG 1 rfl dX8_fail_8 rfl ?_
  refine a_putI (pc := 9) hG sc_1 cl_X8 ok_X8 9 (by decide) rfl t_165 rfl (ty := .int) rfl rfl rfl hd dX8_fail_9 (fun h1 hd => ?_)
  refine a_aload_n (pc := 12) hG 0 rfl dX8_fail_12 rfl ?_
  refine a_aload_n (pc := 13) hG 0 rfl dX8_fail_13 rfl ?_
  refine a_getI (pc := 14) hG sc_1 cl_X8 ok_X8 4 (by decide) rfl t_160 dX8_fail_14 ?_
  refine a_putI (pc := 17) hG sc_1 cl_X8 ok_X8 10 (by decide) rfl t_166 rfl (ty := .int) rfl rfl rfl hd dX8_fail_17 (fun h2 hd => ?_)
  refine a_iconst (pc := 20) hG dX8_fail_20 (v := (nI 0)) rfl ?_
  exact a_zret (pc := 21) hG hd dX8_fail_21
theorem dX5_clerks_0 : decode cX5_clerks 0 = .ok (.aload_n 0, 1) := by decide +kernel
theorem dX5_clerks_1 : decode cX5_clerks 1 = .ok (.getfield 27, 3) := by decide +kernel
theorem dX5_clerks_4 : decode cX5_clerks 4 = .ok (.ireturn, 1) := by decide +kernel
set_option maxHeartbeats 4000000 in
theorem c_Plan_clerks_11 {ad wad : Nat → Nat}  (h : HS)  (q : Int32 × HS) (hd : f_Plan_clerks_11  h = some q) : Ctr SHc ad wad yX5_clerks cX5_clerks 1 (some .int) 1 [.ref (ad 11)] h (some (.int q.1), q.2) := by
  refine enter (own := RX5) (lv := [(0, .ref (ad 11))]) (by decide +kernel) rfl (Nat.le_of_ble_eq_true rfl) rfl (fun Γ hG => ?_)
  unfold f_Plan_clerks_11 at hd
  refine a_aload_n (pc := 0) hG 0 rfl dX5_clerks_0 rfl ?_
  refine a_getI (pc := 1) hG sc_11 cl_X5 ok_X5 5 (by decide) rfl t_202 dX5_clerks_1 ?_
  exact a_iret (pc := 4) hG hd dX5_clerks_4
theorem dX10_isReserved_0 : decode cX10_isReserved 0 = .ok (.iconst 0, 1) := by decide +kernel
theorem dX10_isReserved_1 : decode cX10_isReserved 1 = .ok (.istore_n 2, 1) := by decide +kernel
theorem dX10_isReserved_2 : decode cX10_isReserved 2 = .ok (.iload_n 2, 1) := by decide +kernel
theorem dX10_isReserved_3 : decode cX10_isReserved 3 = .ok (.getstatic 108, 3) := by decide +kernel
theorem dX10_isReserved_6 : decode cX10_isReserved 6 = .ok (.arraylength, 1) := by decide +kernel
theorem dX10_isReserved_7 : decode cX10_isReserved 7 = .ok (.if_icmp .ge 24, 3) := by decide +kernel
theorem dX10_isReserved_10 : decode cX10_isReserved 10 = .ok (.getstatic 108, 3) := by decide +kernel
theorem dX10_isReserved_13 : decode cX10_isReserved 13 = .ok (.iload_n 2, 1) := by decide +kernel
theorem dX10_isReserved_14 : decode cX10_isReserved 14 = .ok (.aaload, 1) := by decide +kernel
theorem dX10_isReserved_15 : decode cX10_isReserved 15 = .ok (.getfield 104, 3) := by decide +kernel
theorem dX10_isReserved_18 : decode cX10_isReserved 18 = .ok (.lload_n 0, 1) := by decide +kernel
theorem dX10_isReserved_19 : decode cX10_isReserved 19 = .ok (.lcmp, 1) := by decide +kernel
theorem dX10_isReserved_20 : decode cX10_isReserved 20 = .ok (.ifCond .ne 5, 3) := by decide +kernel
theorem dX10_isReserved_23 : decode cX10_isReserved 23 = .ok (.iconst 1, 1) := by decide +kernel
theorem dX10_isReserved_24 : decode cX10_isReserved 24 = .ok (.ireturn, 1) := by decide +kernel
theorem dX10_isReserved_25 : decode cX10_isReserved 25 = .ok (.iinc 2 1, 3) := by decide +kernel
theorem dX10_isReserved_28 : decode cX10_isReserved 28 = .ok (.goto (-26), 3) := by decide +kernel
theorem dX10_isReserved_31 : decode cX10_isReserved 31 = .ok (.iconst 0, 1) := by decide +kernel
theorem dX10_isReserved_32 : decode cX10_isReserved 32 = .ok (.ireturn, 1) := by decide +kernel
set_option maxHeartbeats 4000000 in
theorem w_l_Word_isReserved_0 {ad wad : Nat → Nat} {Γ : Ctx} (F : Nat) {n : Nat} (hn : 1 ≤ n) (hG : Cx SHc ad wad cX10_isReserved 3 RX10 (some .boolean) (n) Γ) {q : Int32 × HS} {x0 : Int64} {g : Nat} {x2 : Int32} {h : HS} (hd : l_Word_isReserved_0 F x0 g x2 h = some q) : AW SHc ad 3 (some (.int q.1), q.2) Γ 2 [(0, .long x0), (2, .int x2)] [] h := by
  induction g generalizing x2 h with
  | zero => unfold l_Word_isReserved_0 at hd; cases hd
  | succ g ih =>
    unfold l_Word_isReserved_0 at hd
    refine a_iload_n (pc := 2) hG 1 rfl dX10_isReserved_2 rfl ?_
    refine a_gsA (pc := 3) hG t_660 dX10_isReserved_3 ?_
    refine a_lenA (pc := 6) hG dX10_isReserved_6 ?_
    refine a_ic_ge (pc := 7) hG (tgt := 31) hd dX10_isReserved_7 (by decide) (fun hd => ?_) (fun hd => ?_)
    · refine a_iconst (pc := 31) hG dX10_isReserved_31 (v := (nI 0)) rfl ?_
      exact a_zret (pc := 32) hG hd dX10_isReserved_32
    refine a_gsA (pc := 10) hG t_660 dX10_isReserved_10 ?_
    refine a_iload_n (pc := 13) hG 1 rfl dX10_isReserved_13 rfl ?_
    refine a_aldA (pc := 14) hG hd dX10_isReserved_14 (fun hw2 hd => ?_)
    refine a_getW (pc := 15) hG hw2 t_2194 dX10_isReserved_15 ?_
    refine a_lload_n (pc := 18) hG 0 rfl dX10_isReserved_18 rfl ?_
    refine a_lcmp (pc := 19) hG dX10_isReserved_19 ?_
    refine a_if_ne (pc := 20) hG (tgt := 25) hd dX10_isReserved_20 (by decide) (fun hd => ?_) (fun hd => ?_)
    · refine a_iincN (pc := 25) hG (c0 := (nI 1)) 1 rfl hd dX10_isReserved_25 rfl (by decide) (lf := fun x => [(2, .int x), (0, .long x0)]) (fun _ => rfl) (fun v3 hd => ?_)
      refine a_goto (pc := 28) hG (tgt := 2) dX10_isReserved_28 (by decide) ?_
      exact AW.sub [1, 0] rfl (ih hd)
    refine a_iconst (pc := 23) hG dX10_isReserved_23 (v := (nI 1)) rfl ?_
    exact a_zret (pc := 24) hG hd dX10_isReserved_24
set_option maxHeartbeats 4000000 in
theorem c_Word_isReserved {ad wad : Nat → Nat} (F : Nat) (a0 : Int64) (h : HS)  (q : Int32 × HS) (hd : f_Word_isReserved F a0 h = some q) : Ctr SHc ad wad yX10_isReserved cX10_isReserved 3 (some .boolean) 1 [.long a0] h (some (.int q.1), q.2) := by
  refine enter (own := RX10) (lv := [(0, .long a0)]) (by decide +kernel) rfl (Nat.le_of_ble_eq_true rfl) rfl (fun Γ hG => ?_)
  unfold f_Word_isReserved at hd
  refine a_iconst (pc := 0) hG dX10_isReserved_0 (v := (nI 0)) rfl ?_
  refine a_istore_nN (pc := 1) hG hd dX10_isReserved_1 rfl (by decide) (lf := fun x => [(2, .int x), (0, .long a0)]) (fun _ => rfl) (fun v1 hd => ?_)
  refine AW.sub [1, 0] rfl ?_
  exact w_l_Word_isReserved_0 F (by omega) hG hd
theorem dX8_isName_0 : decode cX8_isName 0 = .ok (.aload_n 0, 1) := by decide +kernel
theorem dX8_isName_1 : decode cX8_isName 1 = .ok (.getfield 28, 3) := by decide +kernel
theorem dX8_isName_4 : decode cX8_isName 4 = .ok (.iconst 1, 1) := by decide +kernel
theorem dX8_isName_5 : decode cX8_isName 5 = .ok (.if_icmp .ne 17, 3) := by decide +kernel
theorem dX8_isName_8 : decode cX8_isName 8 = .ok (.aload_n 0, 1) := by decide +kernel
theorem dX8_isName_9 : decode cX8_isName 9 = .ok (.getfield 31, 3) := by decide +kernel
theorem dX8_isName_12 : decode cX8_isName 12 = .ok (.invokestatic 59, 3) := by decide +kernel
theorem dX8_isName_15 : decode cX8_isName 15 = .ok (.ifCond .ne 7, 3) := by decide +kernel
theorem dX8_isName_18 : decode cX8_isName 18 = .ok (.iconst 1, 1) := by decide +kernel
theorem dX8_isName_19 : decode cX8_isName 19 = .ok (.goto 4, 3) := by decide +kernel
theorem dX8_isName_22 : decode cX8_isName 22 = .ok (.iconst 0, 1) := by decide +kernel
theorem dX8_isName_23 : decode cX8_isName 23 = .ok (.ireturn, 1) := by decide +kernel
set_option maxHeartbeats 4000000 in
theorem c_Tape_isName {ad wad : Nat → Nat} (F : Nat)  (h : HS)  (q : Int32 × HS) (hd : f_Tape_isName F  h = some q) : Ctr SHc ad wad yX8_isName cX8_isName 1 (some .boolean) 2 [.ref (ad 1)] h (some (.int q.1), q.2) := by
  refine enter (own := RX8) (lv := [(0, .ref (ad 1))]) (by decide +kernel) rfl (Nat.le_of_ble_eq_true rfl) rfl (fun Γ hG => ?_)
  unfold f_Tape_isName at hd
  refine a_aload_n (pc := 0) hG 0 rfl dX8_isName_0 rfl ?_
  refine a_getI (pc := 1) hG sc_1 cl_X8 ok_X8 5 (by decide) rfl t_161 dX8_isName_1 ?_
  refine a_iconst (pc := 4) hG dX8_isName_4 (v := (nI 1)) rfl ?_
  refine a_ic_ne (pc := 5) hG (tgt := 22) hd dX8_isName_5 (by decide) (fun hd => ?_) (fun hd => ?_)
  · refine a_iconst (pc := 22) hG dX8_isName_22 (v := (nI 0)) rfl ?_
    exact a_zret (pc := 23) hG hd dX8_isName_23
  refine a_aload_n (pc := 8) hG 0 rfl dX8_isName_8 rfl ?_
  refine a_getL (pc := 9) hG sc_1 cl_X8 ok_X8 6 (by decide) rfl t_162 dX8_isName_9 ?_
  refine a_csI (pc := 12) hG (As := [.long (h.2 1 6)]) (st := []) mk_X10_isReserved t_657 (by omega) (fun z hz => c_Word_isReserved F (h.2 1 6) _  z hz) rfl (Nat.le_of_ble_eq_true rfl) hd dX8_isName_12 (fun r2 h1 hd => ?_)
  refine a_if_ne (pc := 15) hG (tgt := 22) hd dX8_isName_15 (by decide) (fun hd => ?_) (fun hd => ?_)
  · refine a_iconst (pc := 22) hG dX8_isName_22 (v := (nI 0)) rfl ?_
    exact a_zret (pc := 23) hG hd dX8_isName_23
  refine a_iconst (pc := 18) hG dX8_isName_18 (v := (nI 1)) rfl ?_
  refine a_goto (pc := 19) hG (tgt := 23) dX8_isName_19 (by decide) ?_
  exact a_zret (pc := 23) hG hd dX8_isName_23
theorem dX8_letters_0 : decode cX8_letters 0 = .ok (.aload_n 0, 1) := by decide +kernel
theorem dX8_letters_1 : decode cX8_letters 1 = .ok (.getfield 31, 3) := by decide +kernel
theorem dX8_letters_4 : decode cX8_letters 4 = .ok (.lreturn, 1) := by decide +kernel
set_option maxHeartbeats 4000000 in
theorem c_Tape_letters {ad wad : Nat → Nat}  (h : HS)  (q : Int64 × HS) (hd : f_Tape_letters  h = some q) : Ctr SHc ad wad yX8_letters cX8_letters 1 (some .long) 1 [.ref (ad 1)] h (some (.long q.1), q.2) := by
  refine enter (own := RX8) (lv := [(0, .ref (ad 1))]) (by decide +kernel) rfl (Nat.le_of_ble_eq_true rfl) rfl (fun Γ hG => ?_)
  unfold f_Tape_letters at hd
  refine a_aload_n (pc := 0) hG 0 rfl dX8_letters_0 rfl ?_
  refine a_getL (pc := 1) hG sc_1 cl_X8 ok_X8 6 (by decide) rfl t_162 dX8_letters_1 ?_
  exact a_lret (pc := 4) hG hd dX8_letters_4
theorem dX5_placeOf_0 : decode cX5_placeOf 0 = .ok (.iconst 0, 1) := by decide +kernel
theorem dX5_placeOf_1 : decode cX5_placeOf 1 = .ok (.istore 4, 2) := by decide +kernel
theorem dX5_placeOf_3 : decode cX5_placeOf 3 = .ok (.iload 4, 2) := by decide +kernel
theorem dX5_placeOf_5 : decode cX5_placeOf 5 = .ok (.iload_n 1, 1) := by decide +kernel
theorem dX5_placeOf_6 : decode cX5_placeOf 6 = .ok (.if_icmp .ge 21, 3) := by decide +kernel
theorem dX5_placeOf_9 : decode cX5_placeOf 9 = .ok (.aload_n 0, 1) := by decide +kernel
theorem dX5_placeOf_10 : decode cX5_placeOf 10 = .ok (.iload 4, 2) := by decide +kernel
theorem dX5_placeOf_12 : decode cX5_placeOf 12 = .ok (.laload, 1) := by decide +kernel
theorem dX5_placeOf_13 : decode cX5_placeOf 13 = .ok (.lload_n 2, 1) := by decide +kernel
theorem dX5_placeOf_14 : decode cX5_placeOf 14 = .ok (.lcmp, 1) := by decide +kernel
theorem dX5_placeOf_15 : decode cX5_placeOf 15 = .ok (.ifCond .ne 6, 3) := by decide +kernel
theorem dX5_placeOf_18 : decode cX5_placeOf 18 = .ok (.iload 4, 2) := by decide +kernel
theorem dX5_placeOf_20 : decode cX5_placeOf 20 = .ok (.ireturn, 1) := by decide +kernel
theorem dX5_placeOf_21 : decode cX5_placeOf 21 = .ok (.iinc 4 1, 3) := by decide +kernel
theorem dX5_placeOf_24 : decode cX5_placeOf 24 = .ok (.goto (-21), 3) := by decide +kernel
theorem dX5_placeOf_27 : decode cX5_placeOf 27 = .ok (.iconst (-1), 1) := by decide +kernel
theorem dX5_placeOf_28 : decode cX5_placeOf 28 = .ok (.ireturn, 1) := by decide +kernel
set_option maxHeartbeats 4000000 in
theorem w_l_Plan_placeOf_12_0 {ad wad : Nat → Nat} {Γ : Ctx} (F : Nat) {n : Nat} (hn : 1 ≤ n) (hG : Cx SHc ad wad cX5_placeOf 5 RX5 (some .int) (n) Γ) {q : Int32 × HS} {x1 : Int32} {x2 : Int64} {g : Nat} {x4 : Int32} {h : HS} (hd : l_Plan_placeOf_12_0 F x1 x2 g x4 h = some q) : AW SHc ad 5 (some (.int q.1), q.2) Γ 3 [(0, .ref (ad 12)), (1, .int x1), (2, .long x2), (4, .int x4)] [] h := by
  induction g generalizing x4 h with
  | zero => unfold l_Plan_placeOf_12_0 at hd; cases hd
  | succ g ih =>
    unfold l_Plan_placeOf_12_0 at hd
    refine a_iload (pc := 3) hG 3 rfl dX5_placeOf_3 ?_
    refine a_iload_n (pc := 5) hG 1 rfl dX5_placeOf_5 rfl ?_
    refine a_ic_ge (pc := 6) hG (tgt := 27) hd dX5_placeOf_6 (by decide) (fun hd => ?_) (fun hd => ?_)
    · refine a_iconst (pc := 27) hG dX5_placeOf_27 (v := (-1 : Int32)) rfl ?_
      exact a_iret (pc := 28) hG hd dX5_placeOf_28
    refine a_aload_n (pc := 9) hG 0 rfl dX5_placeOf_9 rfl ?_
    refine a_iload (pc := 10) hG 3 rfl dX5_placeOf_10 ?_
    refine a_lald (pc := 12) hG sc_12 hd dX5_placeOf_12 (fun hd => ?_)
    refine a_lload_n (pc := 13) hG 2 rfl dX5_placeOf_13 rfl ?_
    refine a_lcmp (pc := 14) hG dX5_placeOf_14 ?_
    refine a_if_ne (pc := 15) hG (tgt := 21) hd dX5_placeOf_15 (by decide) (fun hd => ?_) (fun hd => ?_)
    · refine a_iincN (pc := 21) hG (c0 := (nI 1)) 3 rfl hd dX5_placeOf_21 rfl (by decide) (lf := fun x => [(4, .int x), (0, .ref (ad 12)), (1, .int x1), (2, .long x2)]) (fun _ => rfl) (fun v2 hd => ?_)
      refine a_goto (pc := 24) hG (tgt := 3) dX5_placeOf_24 (by decide) ?_
      exact AW.sub [1, 2, 3, 0] rfl (ih hd)
    refine a_iload (pc := 18) hG 3 rfl dX5_placeOf_18 ?_
    exact a_iret (pc := 20) hG hd dX5_placeOf_20
set_option maxHeartbeats 4000000 in
theorem c_Plan_placeOf_12 {ad wad : Nat → Nat} (F : Nat) (a1 : Int32) (a2 : Int64) (h : HS)  (q : Int32 × HS) (hd : f_Plan_placeOf_12 F a1 a2 h = some q) : Ctr SHc ad wad yX5_placeOf cX5_placeOf 5 (some .int) 1 [.ref (ad 12), .int a1, .long a2] h (some (.int q.1), q.2) := by
  refine enter (own := RX5) (lv := [(0, .ref (ad 12)), (1, .int a1), (2, .long a2)]) (by decide +kernel) rfl (Nat.le_of_ble_eq_true rfl) rfl (fun Γ hG => ?_)
  unfold f_Plan_placeOf_12 at hd
  refine a_iconst (pc := 0) hG dX5_placeOf_0 (v := (nI 0)) rfl ?_
  refine a_istoreN (pc := 1) hG hd dX5_placeOf_1 (by decide) (lf := fun x => [(4, .int x), (0, .ref (ad 12)), (1, .int a1), (2, .long a2)]) (fun _ => rfl) (fun v1 hd => ?_)
  refine AW.sub [1, 2, 3, 0] rfl ?_
  exact w_l_Plan_placeOf_12_0 F (by omega) hG hd
theorem dX5_causeNamed_0 : decode cX5_causeNamed 0 = .ok (.aload_n 0, 1) := by decide +kernel
theorem dX5_causeNamed_1 : decode cX5_causeNamed 1 = .ok (.getfield 30, 3) := by decide +kernel
theorem dX5_causeNamed_4 : decode cX5_causeNamed 4 = .ok (.aload_n 0, 1) := by decide +kernel
theorem dX5_causeNamed_5 : decode cX5_causeNamed 5 = .ok (.getfield 21, 3) := by decide +kernel
theorem dX5_causeNamed_8 : decode cX5_causeNamed 8 = .ok (.lload_n 1, 1) := by decide +kernel
theorem dX5_causeNamed_9 : decode cX5_causeNamed 9 = .ok (.invokestatic 76, 3) := by decide +kernel
theorem dX5_causeNamed_12 : decode cX5_causeNamed 12 = .ok (.ireturn, 1) := by decide +kernel
set_option maxHeartbeats 4000000 in
theorem c_Plan_causeNamed_11 {ad wad : Nat → Nat} (F : Nat) (a0 : Int64) (h : HS)  (q : Int32 × HS) (hd : f_Plan_causeNamed_11 F a0 h = some q) : Ctr SHc ad wad yX5_causeNamed cX5_causeNamed 3 (some .int) 2 [.ref (ad 11), .long a0] h (some (.int q.1), q.2) := by
  refine enter (own := RX5) (lv := [(0, .ref (ad 11)), (1, .long a0)]) (by decide +kernel) rfl (Nat.le_of_ble_eq_true rfl) rfl (fun Γ hG => ?_)
  unfold f_Plan_causeNamed_11 at hd
  refine a_aload_n (pc := 0) hG 0 rfl dX5_causeNamed_0 rfl ?_
  refine a_getR (pc := 1) hG sc_11 cl_X5 ok_X5 6 (by decide) rfl t_203 dX5_causeNamed_1 ?_
  refine a_aload_n (pc := 4) hG 0 rfl dX5_causeNamed_4 rfl ?_
  refine a_getI (pc := 5) hG sc_11 cl_X5 ok_X5 3 (by decide) rfl t_200 dX5_causeNamed_5 ?_
  refine a_lload_n (pc := 8) hG 1 rfl dX5_causeNamed_8 rfl ?_
  refine a_csI (pc := 9) hG (As := [.ref (ad 12), .int (h.1 11 3), .long a0]) (st := []) mk_X5_placeOf t_674 (by omega) (fun z hz => c_Plan_placeOf_12 F (h.1 11 3) a0 _  z hz) rfl (Nat.le_of_ble_eq_true rfl) hd dX5_causeNamed_9 (fun r2 h1 hd => ?_)
  exact a_iret (pc := 12) hG hd dX5_causeNamed_12
set_option maxHeartbeats 4000000 in
theorem w_l_Plan_placeOf_13_0 {ad wad : Nat → Nat} {Γ : Ctx} (F : Nat) {n : Nat} (hn : 1 ≤ n) (hG : Cx SHc ad wad cX5_placeOf 5 RX5 (some .int) (n) Γ) {q : Int32 × HS} {x1 : Int32} {x2 : Int64} {g : Nat} {x4 : Int32} {h : HS} (hd : l_Plan_placeOf_13_0 F x1 x2 g x4 h = some q) : AW SHc ad 5 (some (.int q.1), q.2) Γ 3 [(0, .ref (ad 13)), (1, .int x1), (2, .long x2), (4, .int x4)] [] h := by
  induction g generalizing x4 h with
  | zero => unfold l_Plan_placeOf_13_0 at hd; cases hd
  | succ g ih =>
    unfold l_Plan_placeOf_13_0 at hd
    refine a_iload (pc := 3) hG 3 rfl dX5_placeOf_3 ?_
    refine a_iload_n (pc := 5) hG 1 rfl dX5_placeOf_5 rfl ?_
    refine a_ic_ge (pc := 6) hG (tgt := 27) hd dX5_placeOf_6 (by decide) (fun hd => ?_) (fun hd => ?_)
    · refine a_iconst (pc := 27) hG dX5_placeOf_27 (v := (-1 : Int32)) rfl ?_
      exact a_iret (pc := 28) hG hd dX5_placeOf_28
    refine a_aload_n (pc := 9) hG 0 rfl dX5_placeOf_9 rfl ?_
    refine a_iload (pc := 10) hG 3 rfl dX5_placeOf_10 ?_
    refine a_lald (pc := 12) hG sc_13 hd dX5_placeOf_12 (fun hd => ?_)
    refine a_lload_n (pc := 13) hG 2 rfl dX5_placeOf_13 rfl ?_
    refine a_lcmp (pc := 14) hG dX5_placeOf_14 ?_
    refine a_if_ne (pc := 15) hG (tgt := 21) hd dX5_placeOf_15 (by decide) (fun hd => ?_) (fun hd => ?_)
    · refine a_iincN (pc := 21) hG (c0 := (nI 1)) 3 rfl hd dX5_placeOf_21 rfl (by decide) (lf := fun x => [(4, .int x), (0, .ref (ad 13)), (1, .int x1), (2, .long x2)]) (fun _ => rfl) (fun v2 hd => ?_)
      refine a_goto (pc := 24) hG (tgt := 3) dX5_placeOf_24 (by decide) ?_
      exact AW.sub [1, 2, 3, 0] rfl (ih hd)
    refine a_iload (pc := 18) hG 3 rfl dX5_placeOf_18 ?_
    exact a_iret (pc := 20) hG hd dX5_placeOf_20
set_option maxHeartbeats 4000000 in
theorem c_Plan_placeOf_13 {ad wad : Nat → Nat} (F : Nat) (a1 : Int32) (a2 : Int64) (h : HS)  (q : Int32 × HS) (hd : f_Plan_placeOf_13 F a1 a2 h = some q) : Ctr SHc ad wad yX5_placeOf cX5_placeOf 5 (some .int) 1 [.ref (ad 13), .int a1, .long a2] h (some (.int q.1), q.2) := by
  refine enter (own := RX5) (lv := [(0, .ref (ad 13)), (1, .int a1), (2, .long a2)]) (by decide +kernel) rfl (Nat.le_of_ble_eq_true rfl) rfl (fun Γ hG => ?_)
  unfold f_Plan_placeOf_13 at hd
  refine a_iconst (pc := 0) hG dX5_placeOf_0 (v := (nI 0)) rfl ?_
  refine a_istoreN (pc := 1) hG hd dX5_placeOf_1 (by decide) (lf := fun x => [(4, .int x), (0, .ref (ad 13)), (1, .int a1), (2, .long a2)]) (fun _ => rfl) (fun v1 hd => ?_)
  refine AW.sub [1, 2, 3, 0] rfl ?_
  exact w_l_Plan_placeOf_13_0 F (by omega) hG hd
theorem dX5_deedNamed_0 : decode cX5_deedNamed 0 = .ok (.aload_n 0, 1) := by decide +kernel
theorem dX5_deedNamed_1 : decode cX5_deedNamed 1 = .ok (.getfield 34, 3) := by decide +kernel
theorem dX5_deedNamed_4 : decode cX5_deedNamed 4 = .ok (.aload_n 0, 1) := by decide +kernel
theorem dX5_deedNamed_5 : decode cX5_deedNamed 5 = .ok (.getfield 24, 3) := by decide +kernel
theorem dX5_deedNamed_8 : decode cX5_deedNamed 8 = .ok (.lload_n 1, 1) := by decide +kernel
theorem dX5_deedNamed_9 : decode cX5_deedNamed 9 = .ok (.invokestatic 76, 3) := by decide +kernel
theorem dX5_deedNamed_12 : decode cX5_deedNamed 12 = .ok (.ireturn, 1) := by decide +kernel
set_option maxHeartbeats 4000000 in
theorem c_Plan_deedNamed_11 {ad wad : Nat → Nat} (F : Nat) (a0 : Int64) (h : HS)  (q : Int32 × HS) (hd : f_Plan_deedNamed_11 F a0 h = some q) : Ctr SHc ad wad yX5_deedNamed cX5_deedNamed 3 (some .int) 2 [.ref (ad 11), .long a0] h (some (.int q.1), q.2) := by
  refine enter (own := RX5) (lv := [(0, .ref (ad 11)), (1, .long a0)]) (by decide +kernel) rfl (Nat.le_of_ble_eq_true rfl) rfl (fun Γ hG => ?_)
  unfold f_Plan_deedNamed_11 at hd
  refine a_aload_n (pc := 0) hG 0 rfl dX5_deedNamed_0 rfl ?_
  refine a_getR (pc := 1) hG sc_11 cl_X5 ok_X5 7 (by decide) rfl t_204 dX5_deedNamed_1 ?_
  refine a_aload_n (pc := 4) hG 0 rfl dX5_deedNamed_4 rfl ?_
  refine a_getI (pc := 5) hG sc_11 cl_X5 ok_X5 4 (by decide) rfl t_201 dX5_deedNamed_5 ?_
  refine a_lload_n (pc := 8) hG 1 rfl dX5_deedNamed_8 rfl ?_
  refine a_csI (pc := 9) hG (As := [.ref (ad 13), .int (h.1 11 4), .long a0]) (st := []) mk_X5_placeOf t_674 (by omega) (fun z hz => c_Plan_placeOf_13 F (h.1 11 4) a0 _  z hz) rfl (Nat.le_of_ble_eq_true rfl) hd dX5_deedNamed_9 (fun r2 h1 hd => ?_)
  exact a_iret (pc := 12) hG hd dX5_deedNamed_12
set_option maxHeartbeats 4000000 in
theorem w_l_Plan_placeOf_14_0 {ad wad : Nat → Nat} {Γ : Ctx} (F : Nat) {n : Nat} (hn : 1 ≤ n) (hG : Cx SHc ad wad cX5_placeOf 5 RX5 (some .int) (n) Γ) {q : Int32 × HS} {x1 : Int32} {x2 : Int64} {g : Nat} {x4 : Int32} {h : HS} (hd : l_Plan_placeOf_14_0 F x1 x2 g x4 h = some q) : AW SHc ad 5 (some (.int q.1), q.2) Γ 3 [(0, .ref (ad 14)), (1, .int x1), (2, .long x2), (4, .int x4)] [] h := by
  induction g generalizing x4 h with
  | zero => unfold l_Plan_placeOf_14_0 at hd; cases hd
  | succ g ih =>
    unfold l_Plan_placeOf_14_0 at hd
    refine a_iload (pc := 3) hG 3 rfl dX5_placeOf_3 ?_
    refine a_iload_n (pc := 5) hG 1 rfl dX5_placeOf_5 rfl ?_
    refine a_ic_ge (pc := 6) hG (tgt := 27) hd dX5_placeOf_6 (by decide) (fun hd => ?_) (fun hd => ?_)
    · refine a_iconst (pc := 27) hG dX5_placeOf_27 (v := (-1 : Int32)) rfl ?_
      exact a_iret (pc := 28) hG hd dX5_placeOf_28
    refine a_aload_n (pc := 9) hG 0 rfl dX5_placeOf_9 rfl ?_
    refine a_iload (pc := 10) hG 3 rfl dX5_placeOf_10 ?_
    refine a_lald (pc := 12) hG sc_14 hd dX5_placeOf_12 (fun hd => ?_)
    refine a_lload_n (pc := 13) hG 2 rfl dX5_placeOf_13 rfl ?_
    refine a_lcmp (pc := 14) hG dX5_placeOf_14 ?_
    refine a_if_ne (pc := 15) hG (tgt := 21) hd dX5_placeOf_15 (by decide) (fun hd => ?_) (fun hd => ?_)
    · refine a_iincN (pc := 21) hG (c0 := (nI 1)) 3 rfl hd dX5_placeOf_21 rfl (by decide) (lf := fun x => [(4, .int x), (0, .ref (ad 14)), (1, .int x1), (2, .long x2)]) (fun _ => rfl) (fun v2 hd => ?_)
      refine a_goto (pc := 24) hG (tgt := 3) dX5_placeOf_24 (by decide) ?_
      exact AW.sub [1, 2, 3, 0] rfl (ih hd)
    refine a_iload (pc := 18) hG 3 rfl dX5_placeOf_18 ?_
    exact a_iret (pc := 20) hG hd dX5_placeOf_20
set_option maxHeartbeats 4000000 in
theorem c_Plan_placeOf_14 {ad wad : Nat → Nat} (F : Nat) (a1 : Int32) (a2 : Int64) (h : HS)  (q : Int32 × HS) (hd : f_Plan_placeOf_14 F a1 a2 h = some q) : Ctr SHc ad wad yX5_placeOf cX5_placeOf 5 (some .int) 1 [.ref (ad 14), .int a1, .long a2] h (some (.int q.1), q.2) := by
  refine enter (own := RX5) (lv := [(0, .ref (ad 14)), (1, .int a1), (2, .long a2)]) (by decide +kernel) rfl (Nat.le_of_ble_eq_true rfl) rfl (fun Γ hG => ?_)
  unfold f_Plan_placeOf_14 at hd
  refine a_iconst (pc := 0) hG dX5_placeOf_0 (v := (nI 0)) rfl ?_
  refine a_istoreN (pc := 1) hG hd dX5_placeOf_1 (by decide) (lf := fun x => [(4, .int x), (0, .ref (ad 14)), (1, .int a1), (2, .long a2)]) (fun _ => rfl) (fun v1 hd => ?_)
  refine AW.sub [1, 2, 3, 0] rfl ?_
  exact w_l_Plan_placeOf_14_0 F (by omega) hG hd
theorem dX5_clerkNamed_0 : decode cX5_clerkNamed 0 = .ok (.aload_n 0, 1) := by decide +kernel
theorem dX5_clerkNamed_1 : decode cX5_clerkNamed 1 = .ok (.getfield 37, 3) := by decide +kernel
theorem dX5_clerkNamed_4 : decode cX5_clerkNamed 4 = .ok (.aload_n 0, 1) := by decide +kernel
theorem dX5_clerkNamed_5 : decode cX5_clerkNamed 5 = .ok (.getfield 27, 3) := by decide +kernel
theorem dX5_clerkNamed_8 : decode cX5_clerkNamed 8 = .ok (.lload_n 1, 1) := by decide +kernel
theorem dX5_clerkNamed_9 : decode cX5_clerkNamed 9 = .ok (.invokestatic 76, 3) := by decide +kernel
theorem dX5_clerkNamed_12 : decode cX5_clerkNamed 12 = .ok (.ireturn, 1) := by decide +kernel
set_option maxHeartbeats 4000000 in
theorem c_Plan_clerkNamed_11 {ad wad : Nat → Nat} (F : Nat) (a0 : Int64) (h : HS)  (q : Int32 × HS) (hd : f_Plan_clerkNamed_11 F a0 h = some q) : Ctr SHc ad wad yX5_clerkNamed cX5_clerkNamed 3 (some .int) 2 [.ref (ad 11), .long a0] h (some (.int q.1), q.2) := by
  refine enter (own := RX5) (lv := [(0, .ref (ad 11)), (1, .long a0)]) (by decide +kernel) rfl (Nat.le_of_ble_eq_true rfl) rfl (fun Γ hG => ?_)
  unfold f_Plan_clerkNamed_11 at hd
  refine a_aload_n (pc := 0) hG 0 rfl dX5_clerkNamed_0 rfl ?_
  refine a_getR (pc := 1) hG sc_11 cl_X5 ok_X5 8 (by decide) rfl t_205 dX5_clerkNamed_1 ?_
  refine a_aload_n (pc := 4) hG 0 rfl dX5_clerkNamed_4 rfl ?_
  refine a_getI (pc := 5) hG sc_11 cl_X5 ok_X5 5 (by decide) rfl t_202 dX5_clerkNamed_5 ?_
  refine a_lload_n (pc := 8) hG 1 rfl dX5_clerkNamed_8 rfl ?_
  refine a_csI (pc := 9) hG (As := [.ref (ad 14), .int (h.1 11 5), .long a0]) (st := []) mk_X5_placeOf t_674 (by omega) (fun z hz => c_Plan_placeOf_14 F (h.1 11 5) a0 _  z hz) rfl (Nat.le_of_ble_eq_true rfl) hd dX5_clerkNamed_9 (fun r2 h1 hd => ?_)
  exact a_iret (pc := 12) hG hd dX5_clerkNamed_12
theorem dX5_isToldName_0 : decode cX5_isToldName 0 = .ok (.aload_n 0, 1) := by decide +kernel
theorem dX5_isToldName_1 : decode cX5_isToldName 1 = .ok (.lload_n 1, 1) := by decide +kernel
theorem dX5_isToldName_2 : decode cX5_isToldName 2 = .ok (.invokevirtual 66, 3) := by decide +kernel
theorem dX5_isToldName_5 : decode cX5_isToldName 5 = .ok (.iconst (-1), 1) := by decide +kernel
theorem dX5_isToldName_6 : decode cX5_isToldName 6 = .ok (.if_icmp .ne 21, 3) := by decide +kernel
theorem dX5_isToldName_9 : decode cX5_isToldName 9 = .ok (.aload_n 0, 1) := by decide +kernel
theorem dX5_isToldName_10 : decode cX5_isToldName 10 = .ok (.lload_n 1, 1) := by decide +kernel
theorem dX5_isToldName_11 : decode cX5_isToldName 11 = .ok (.invokevirtual 70, 3) := by decide +kernel
theorem dX5_isToldName_14 : decode cX5_isToldName 14 = .ok (.iconst (-1), 1) := by decide +kernel
theorem dX5_isToldName_15 : decode cX5_isToldName 15 = .ok (.if_icmp .ne 12, 3) := by decide +kernel
theorem dX5_isToldName_18 : decode cX5_isToldName 18 = .ok (.aload_n 0, 1) := by decide +kernel
theorem dX5_isToldName_19 : decode cX5_isToldName 19 = .ok (.lload_n 1, 1) := by decide +kernel
theorem dX5_isToldName_20 : decode cX5_isToldName 20 = .ok (.invokevirtual 73, 3) := by decide +kernel
theorem dX5_isToldName_23 : decode cX5_isToldName 23 = .ok (.iconst (-1), 1) := by decide +kernel
theorem dX5_isToldName_24 : decode cX5_isToldName 24 = .ok (.if_icmp .eq 7, 3) := by decide +kernel
theorem dX5_isToldName_27 : decode cX5_isToldName 27 = .ok (.iconst 1, 1) := by decide +kernel
theorem dX5_isToldName_28 : decode cX5_isToldName 28 = .ok (.goto 4, 3) := by decide +kernel
theorem dX5_isToldName_31 : decode cX5_isToldName 31 = .ok (.iconst 0, 1) := by decide +kernel
theorem dX5_isToldName_32 : decode cX5_isToldName 32 = .ok (.ireturn, 1) := by decide +kernel
set_option maxHeartbeats 4000000 in
theorem c_Plan_isToldName_11 {ad wad : Nat → Nat} (F : Nat) (a0 : Int64) (h : HS)  (q : Int32 × HS) (hd : f_Plan_isToldName_11 F a0 h = some q) : Ctr SHc ad wad yX5_isToldName cX5_isToldName 3 (some .boolean) 3 [.ref (ad 11), .long a0] h (some (.int q.1), q.2) := by
  refine enter (own := RX5) (lv := [(0, .ref (ad 11)), (1, .long a0)]) (by decide +kernel) rfl (Nat.le_of_ble_eq_true rfl) rfl (fun Γ hG => ?_)
  unfold f_Plan_isToldName_11 at hd
  refine a_aload_n (pc := 0) hG 0 rfl dX5_isToldName_0 rfl ?_
  refine a_lload_n (pc := 1) hG 1 rfl dX5_isToldName_1 rfl ?_
  refine a_cvI (pc := 2) hG (As := [.long a0]) (st := []) sc_11 cl_X5 mk_X5_causeNamed t_670 (by omega) (fun z hz => c_Plan_causeNamed_11 F a0 _  z hz) rfl (Nat.le_of_ble_eq_true rfl) hd dX5_isToldName_2 (fun r2 h1 hd => ?_)
  refine a_iconst (pc := 5) hG dX5_isToldName_5 (v := (-1 : Int32)) rfl ?_
  refine a_ic_ne (pc := 6) hG (tgt := 27) hd dX5_isToldName_6 (by decide) (fun hd => ?_) (fun hd => ?_)
  · refine a_iconst (pc := 27) hG dX5_isToldName_27 (v := (nI 1)) rfl ?_
    refine a_goto (pc := 28) hG (tgt := 32) dX5_isToldName_28 (by decide) ?_
    exact a_zret (pc := 32) hG hd dX5_isToldName_32
  refine a_aload_n (pc := 9) hG 0 rfl dX5_isToldName_9 rfl ?_
  refine a_lload_n (pc := 10) hG 1 rfl dX5_isToldName_10 rfl ?_
  refine a_cvI (pc := 11) hG (As := [.long a0]) (st := []) sc_11 cl_X5 mk_X5_deedNamed t_677 (by omega) (fun z hz => c_Plan_deedNamed_11 F a0 _  z hz) rfl (Nat.le_of_ble_eq_true rfl) hd dX5_isToldName_11 (fun r4 h3 hd => ?_)
  refine a_iconst (pc := 14) hG dX5_isToldName_14 (v := (-1 : Int32)) rfl ?_
  refine a_ic_ne (pc := 15) hG (tgt := 27) hd dX5_isToldName_15 (by decide) (fun hd => ?_) (fun hd => ?_)
  · refine a_iconst (pc := 27) hG dX5_isToldName_27 (v := (nI 1)) rfl ?_
    refine a_goto (pc := 28) hG (tgt := 32) dX5_isToldName_28 (by decide) ?_
    exact a_zret (pc := 32) hG hd dX5_isToldName_32
  refine a_aload_n (pc := 18) hG 0 rfl dX5_isToldName_18 rfl ?_
  refine a_lload_n (pc := 19) hG 1 rfl dX5_isToldName_19 rfl ?_
  refine a_cvI (pc := 20) hG (As := [.long a0]) (st := []) sc_11 cl_X5 mk_X5_clerkNamed t_681 (by omega) (fun z hz => c_Plan_clerkNamed_11 F a0 _  z hz) rfl (Nat.le_of_ble_eq_true rfl) hd dX5_isToldName_20 (fun r6 h5 hd => ?_)
  refine a_iconst (pc := 23) hG dX5_isToldName_23 (v := (-1 : Int32)) rfl ?_
  refine a_ic_eq (pc := 24) hG (tgt := 31) hd dX5_isToldName_24 (by decide) (fun hd => ?_) (fun hd => ?_)
  · refine a_iconst (pc := 31) hG dX5_isToldName_31 (v := (nI 0)) rfl ?_
    exact a_zret (pc := 32) hG hd dX5_isToldName_32
  refine a_iconst (pc := 27) hG dX5_isToldName_27 (v := (nI 1)) rfl ?_
  refine a_goto (pc := 28) hG (tgt := 32) dX5_isToldName_28 (by decide) ?_
  exact a_zret (pc := 32) hG hd dX5_isToldName_32
theorem dX4_isNewName_0 : decode cX4_isNewName 0 = .ok (.aload_n 0, 1) := by decide +kernel
theorem dX4_isNewName_1 : decode cX4_isNewName 1 = .ok (.getfield 9, 3) := by decide +kernel
theorem dX4_isNewName_4 : decode cX4_isNewName 4 = .ok (.invokevirtual 129, 3) := by decide +kernel
theorem dX4_isNewName_7 : decode cX4_isNewName 7 = .ok (.ifCond .ne 12, 3) := by decide +kernel
theorem dX4_isNewName_10 : decode cX4_isNewName 10 = .ok (.aload_n 0, 1) := by decide +kernel
theorem dX4_isNewName_11 : decode cX4_isNewName 11 = .ok (.getfield 9, 3) := by decide +kernel
theorem dX4_isNewName_14 : decode cX4_isNewName 14 = .ok (.iconst 1, 1) := by decide +kernel
theorem dX4_isNewName_15 : decode cX4_isNewName 15 = .ok (.invokevirtual 91, 3) := by decide +kernel
theorem dX4_isNewName_18 : decode cX4_isNewName 18 = .ok (.ireturn, 1) := by decide +kernel
theorem dX4_isNewName_19 : decode cX4_isNewName 19 = .ok (.aload_n 0, 1) := by decide +kernel
theorem dX4_isNewName_20 : decode cX4_isNewName 20 = .ok (.getfield 15, 3) := by decide +kernel
theorem dX4_isNewName_23 : decode cX4_isNewName 23 = .ok (.aload_n 0, 1) := by decide +kernel
theorem dX4_isNewName_24 : decode cX4_isNewName 24 = .ok (.getfield 9, 3) := by decide +kernel
theorem dX4_isNewName_27 : decode cX4_isNewName 27 = .ok (.invokevirtual 118, 3) := by decide +kernel
theorem dX4_isNewName_30 : decode cX4_isNewName 30 = .ok (.invokevirtual 161, 3) := by decide +kernel
theorem dX4_isNewName_33 : decode cX4_isNewName 33 = .ok (.ifCond .eq 14, 3) := by decide +kernel
theorem dX4_isNewName_36 : decode cX4_isNewName 36 = .ok (.aload_n 0, 1) := by decide +kernel
theorem dX4_isNewName_37 : decode cX4_isNewName 37 = .ok (.getfield 9, 3) := by decide +kernel
theorem dX4_isNewName_40 : decode cX4_isNewName 40 = .ok (.iconst 3, 1) := by decide +kernel
theorem dX4_isNewName_41 : decode cX4_isNewName 41 = .ok (.invokevirtual 91, 3) := by decide +kernel
theorem dX4_isNewName_44 : decode cX4_isNewName 44 = .ok (.ifCond .eq 7, 3) := by decide +kernel
theorem dX4_isNewName_47 : decode cX4_isNewName 47 = .ok (.iconst 1, 1) := by decide +kernel
theorem dX4_isNewName_48 : decode cX4_isNewName 48 = .ok (.goto 4, 3) := by decide +kernel
theorem dX4_isNewName_51 : decode cX4_isNewName 51 = .ok (.iconst 0, 1) := by decide +kernel
theorem dX4_isNewName_52 : decode cX4_isNewName 52 = .ok (.ireturn, 1) := by decide +kernel
set_option maxHeartbeats 4000000 in
theorem c_OffR_isNewName {ad wad : Nat → Nat} (F : Nat)  (h : HS)  (q : Int32 × HS) (hd : f_OffR_isNewName F  h = some q) : Ctr SHc ad wad yX4_isNewName cX4_isNewName 1 (some .boolean) 4 [.ref (ad 19)] h (some (.int q.1), q.2) := by
  refine enter (own := RX4) (lv := [(0, .ref (ad 19))]) (by decide +kernel) rfl (Nat.le_of_ble_eq_true rfl) rfl (fun Γ hG => ?_)
  unfold f_OffR_isNewName at hd
  refine a_aload_n (pc := 0) hG 0 rfl dX4_isNewName_0 rfl ?_
  refine a_getR (pc := 1) hG sc_19 cl_X4 ok_X4 0 (by decide) rfl t_245 dX4_isNewName_1 ?_
  refine a_cvI (pc := 4) hG (As := []) (st := []) sc_1 cl_X8 mk_X8_isName t_653 (by omega) (fun z hz => c_Tape_isName F  _  z hz) rfl (Nat.le_of_ble_eq_true rfl) hd dX4_isNewName_4 (fun r2 h1 hd => ?_)
  refine a_if_ne (pc := 7) hG (tgt := 19) hd dX4_isNewName_7 (by decide) (fun hd => ?_) (fun hd => ?_)
  · refine a_aload_n (pc := 19) hG 0 rfl dX4_isNewName_19 rfl ?_
    refine a_getR (pc := 20) hG sc_19 cl_X4 ok_X4 1 (by decide) rfl t_246 dX4_isNewName_20 ?_
    refine a_aload_n (pc := 23) hG 0 rfl dX4_isNewName_23 rfl ?_
    refine a_getR (pc := 24) hG sc_19 cl_X4 ok_X4 0 (by decide) rfl t_245 dX4_isNewName_24 ?_
    refine a_cvL (pc := 27) hG (As := []) (st := [.ref (ad 11)]) sc_1 cl_X8 mk_X8_letters t_662 (by omega) (fun z hz => c_Tape_letters  _  z hz) rfl (Nat.le_of_ble_eq_true rfl) hd dX4_isNewName_27 (fun r4 h3 hd => ?_)
    refine a_cvI (pc := 30) hG (As := [.long r4]) (st := []) sc_11 cl_X5 mk_X5_isToldName t_666 (by omega) (fun z hz => c_Plan_isToldName_11 F r4 _  z hz) rfl (Nat.le_of_ble_eq_true rfl) hd dX4_isNewName_30 (fun r6 h5 hd => ?_)
    refine a_if_eq (pc := 33) hG (tgt := 47) hd dX4_isNewName_33 (by decide) (fun hd => ?_) (fun hd => ?_)
    · refine a_iconst (pc := 47) hG dX4_isNewName_47 (v := (nI 1)) rfl ?_
      refine a_goto (pc := 48) hG (tgt := 52) dX4_isNewName_48 (by decide) ?_
      exact a_zret (pc := 52) hG hd dX4_isNewName_52
    refine a_aload_n (pc := 36) hG 0 rfl dX4_isNewName_36 rfl ?_
    refine a_getR (pc := 37) hG sc_19 cl_X4 ok_X4 0 (by decide) rfl t_245 dX4_isNewName_37 ?_
    refine a_iconst (pc := 40) hG dX4_isNewName_40 (v := (nI 3)) rfl ?_
    refine a_cvI (pc := 41) hG (As := [.int (nI 3)]) (st := []) sc_1 cl_X8 mk_X8_fail t_614 (by omega) (fun z hz => c_Tape_fail (nI 3) _  z hz) rfl (Nat.le_of_ble_eq_true rfl) hd dX4_isNewName_41 (fun r8 h7 hd => ?_)
    refine a_if_eq (pc := 44) hG (tgt := 51) hd dX4_isNewName_44 (by decide) (fun hd => ?_) (fun hd => ?_)
    · refine a_iconst (pc := 51) hG dX4_isNewName_51 (v := (nI 0)) rfl ?_
      exact a_zret (pc := 52) hG hd dX4_isNewName_52
    refine a_iconst (pc := 47) hG dX4_isNewName_47 (v := (nI 1)) rfl ?_
    refine a_goto (pc := 48) hG (tgt := 52) dX4_isNewName_48 (by decide) ?_
    exact a_zret (pc := 52) hG hd dX4_isNewName_52
  refine a_aload_n (pc := 10) hG 0 rfl dX4_isNewName_10 rfl ?_
  refine a_getR (pc := 11) hG sc_19 cl_X4 ok_X4 0 (by decide) rfl t_245 dX4_isNewName_11 ?_
  refine a_iconst (pc := 14) hG dX4_isNewName_14 (v := (nI 1)) rfl ?_
  refine a_cvI (pc := 15) hG (As := [.int (nI 1)]) (st := []) sc_1 cl_X8 mk_X8_fail t_614 (by omega) (fun z hz => c_Tape_fail (nI 1) _  z hz) rfl (Nat.le_of_ble_eq_true rfl) hd dX4_isNewName_15 (fun r10 h9 hd => ?_)
  exact a_zret (pc := 18) hG hd dX4_isNewName_18
theorem dX5_addClerk_0 : decode cX5_addClerk 0 = .ok (.aload_n 0, 1) := by decide +kernel
theorem dX5_addClerk_1 : decode cX5_addClerk 1 = .ok (.getfield 27, 3) := by decide +kernel
theorem dX5_addClerk_4 : decode cX5_addClerk 4 = .ok (.iconst 5, 1) := by decide +kernel
theorem dX5_addClerk_5 : decode cX5_addClerk 5 = .ok (.if_icmp .ge 23, 3) := by decide +kernel
theorem dX5_addClerk_8 : decode cX5_addClerk 8 = .ok (.aload_n 0, 1) := by decide +kernel
theorem dX5_addClerk_9 : decode cX5_addClerk 9 = .ok (.getfield 37, 3) := by decide +kernel
theorem dX5_addClerk_12 : decode cX5_addClerk 12 = .ok (.aload_n 0, 1) := by decide +kernel
theorem dX5_addClerk_13 : decode cX5_addClerk 13 = .ok (.getfield 27, 3) := by decide +kernel
theorem dX5_addClerk_16 : decode cX5_addClerk 16 = .ok (.lload_n 1, 1) := by decide +kernel
theorem dX5_addClerk_17 : decode cX5_addClerk 17 = .ok (.lastore, 1) := by decide +kernel
theorem dX5_addClerk_18 : decode cX5_addClerk 18 = .ok (.aload_n 0, 1) := by decide +kernel
theorem dX5_addClerk_19 : decode cX5_addClerk 19 = .ok (.dup, 1) := by decide +kernel
theorem dX5_addClerk_20 : decode cX5_addClerk 20 = .ok (.getfield 27, 3) := by decide +kernel
theorem dX5_addClerk_23 : decode cX5_addClerk 23 = .ok (.iconst 1, 1) := by decide +kernel
theorem dX5_addClerk_24 : decode cX5_addClerk 24 = .ok (.iadd, 1) := by decide +kernel
theorem dX5_addClerk_25 : decode cX5_addClerk 25 = .ok (.putfield 27, 3) := by decide +kernel
theorem dX5_addClerk_28 : decode cX5_addClerk 28 = .ok (.return_, 1) := by decide +kernel
set_option maxHeartbeats 4000000 in
theorem c_Plan_addClerk_11 {ad wad : Nat → Nat} (a0 : Int64) (h : HS)  (q : Unit × HS) (hd : f_Plan_addClerk_11 a0 h = some q) : Ctr SHc ad wad yX5_addClerk cX5_addClerk 3 none 1 [.ref (ad 11), .long a0] h (none, q.2) := by
  refine enter (own := RX5) (lv := [(0, .ref (ad 11)), (1, .long a0)]) (by decide +kernel) rfl (Nat.le_of_ble_eq_true rfl) rfl (fun Γ hG => ?_)
  unfold f_Plan_addClerk_11 at hd
  refine a_aload_n (pc := 0) hG 0 rfl dX5_addClerk_0 rfl ?_
  refine a_getI (pc := 1) hG sc_11 cl_X5 ok_X5 5 (by decide) rfl t_202 dX5_addClerk_1 ?_
  refine a_iconst (pc := 4) hG dX5_addClerk_4 (v := (nI 5)) rfl ?_
  refine a_ic_ge (pc := 5) hG (tgt := 28) hd dX5_addClerk_5 (by decide) (fun hd => ?_) (fun hd => ?_)
  · exact a_vret (pc := 28) hG hd dX5_addClerk_28
  refine a_aload_n (pc := 8) hG 0 rfl dX5_addClerk_8 rfl ?_
  refine a_getR (pc := 9) hG sc_11 cl_X5 ok_X5 8 (by decide) rfl t_205 dX5_addClerk_9 ?_
  refine a_aload_n (pc := 12) hG 0 rfl dX5_addClerk_12 rfl ?_
  refine a_getI (pc := 13) hG sc_11 cl_X5 ok_X5 5 (by decide) rfl t_202 dX5_addClerk_13 ?_
  refine a_lload_n (pc := 16) hG 1 rfl dX5_addClerk_16 rfl ?_
  refine a_last (pc := 17) hG sc_14 hd dX5_addClerk_17 (fun h1 hd => ?_)
  refine a_aload_n (pc := 18) hG 0 rfl dX5_addClerk_18 rfl ?_
  refine a_dup (pc := 19) hG dX5_addClerk_19 rfl ?_
  refine a_getI (pc := 20) hG sc_11 cl_X5 ok_X5 5 (by decide) rfl t_202 dX5_addClerk_20 ?_
  refine a_iconst (pc := 23) hG dX5_addClerk_23 (v := (nI 1)) rfl ?_
  refine a_iadd (pc := 24) hG dX5_addClerk_24 ?_
  refine a_putI (pc := 25) hG sc_11 cl_X5 ok_X5 5 (by decide) rfl t_202 rfl (ty := .int) rfl rfl rfl hd dX5_addClerk_25 (fun h2 hd => ?_)
  exact a_vret (pc := 28) hG hd dX5_addClerk_28
theorem dX8_takeNumber_0 : decode cX8_takeNumber 0 = .ok (.aload_n 0, 1) := by decide +kernel
theorem dX8_takeNumber_1 : decode cX8_takeNumber 1 = .ok (.getfield 28, 3) := by decide +kernel
theorem dX8_takeNumber_4 : decode cX8_takeNumber 4 = .ok (.iconst 2, 1) := by decide +kernel
theorem dX8_takeNumber_5 : decode cX8_takeNumber 5 = .ok (.if_icmp .eq 9, 3) := by decide +kernel
theorem dX8_takeNumber_8 : decode cX8_takeNumber 8 = .ok (.aload_n 0, 1) := by decide +kernel
theorem dX8_takeNumber_9 : decode cX8_takeNumber 9 = .ok (.iconst 1, 1) := by decide +kernel
theorem dX8_takeNumber_10 : decode cX8_takeNumber 10 = .ok (.invokevirtual 67, 3) := by decide +kernel
theorem dX8_takeNumber_13 : decode cX8_takeNumber 13 = .ok (.ireturn, 1) := by decide +kernel
theorem dX8_takeNumber_14 : decode cX8_takeNumber 14 = .ok (.aload_n 0, 1) := by decide +kernel
theorem dX8_takeNumber_15 : decode cX8_takeNumber 15 = .ok (.getfield 35, 3) := by decide +kernel
theorem dX8_takeNumber_18 : decode cX8_takeNumber 18 = .ok (.iload_n 1, 1) := by decide +kernel
theorem dX8_takeNumber_19 : decode cX8_takeNumber 19 = .ok (.if_icmp .lt 11, 3) := by decide +kernel
theorem dX8_takeNumber_22 : decode cX8_takeNumber 22 = .ok (.aload_n 0, 1) := by decide +kernel
theorem dX8_takeNumber_23 : decode cX8_takeNumber 23 = .ok (.getfield 35, 3) := by decide +kernel
theorem dX8_takeNumber_26 : decode cX8_takeNumber 26 = .ok (.iload_n 2, 1) := by decide +kernel
theorem dX8_takeNumber_27 : decode cX8_takeNumber 27 = .ok (.if_icmp .le 9, 3) := by decide +kernel
theorem dX8_takeNumber_30 : decode cX8_takeNumber 30 = .ok (.aload_n 0, 1) := by decide +kernel
theorem dX8_takeNumber_31 : decode cX8_takeNumber 31 = .ok (.iconst 2, 1) := by decide +kernel
theorem dX8_takeNumber_32 : decode cX8_takeNumber 32 = .ok (.invokevirtual 67, 3) := by decide +kernel
theorem dX8_takeNumber_35 : decode cX8_takeNumber 35 = .ok (.ireturn, 1) := by decide +kernel
theorem dX8_takeNumber_36 : decode cX8_takeNumber 36 = .ok (.aload_n 0, 1) := by decide +kernel
theorem dX8_takeNumber_37 : decode cX8_takeNumber 37 = .ok (.aload_n 0, 1) := by decide +kernel
theorem dX8_takeNumber_38 : decode cX8_takeNumber 38 = .ok (.getfield 35, 3) := by decide +kernel
theorem dX8_takeNumber_41 : decode cX8_takeNumber 41 = .ok (.putfield 38, 3) := by decide +kernel
theorem dX8_takeNumber_44 : decode cX8_takeNumber 44 = .ok (.aload_n 0, 1) := by decide +kernel
theorem dX8_takeNumber_45 : decode cX8_takeNumber 45 = .ok (.invokevirtual 51, 3) := by decide +kernel
theorem dX8_takeNumber_48 : decode cX8_takeNumber 48 = .ok (.iconst 1, 1) := by decide +kernel
theorem dX8_takeNumber_49 : decode cX8_takeNumber 49 = .ok (.ireturn, 1) := by decide +kernel
set_option maxHeartbeats 4000000 in
theorem c_Tape_takeNumber {ad wad : Nat → Nat} (F : Nat) (a0 : Int32) (a1 : Int32) (h : HS)  (q : Int32 × HS) (hd : f_Tape_takeNumber F a0 a1 h = some q) : Ctr SHc ad wad yX8_takeNumber cX8_takeNumber 3 (some .boolean) 3 [.ref (ad 1), .int a0, .int a1] h (some (.int q.1), q.2) := by
  refine enter (own := RX8) (lv := [(0, .ref (ad 1)), (1, .int a0), (2, .int a1)]) (by decide +kernel) rfl (Nat.le_of_ble_eq_true rfl) rfl (fun Γ hG => ?_)
  unfold f_Tape_takeNumber at hd
  refine a_aload_n (pc := 0) hG 0 rfl dX8_takeNumber_0 rfl ?_
  refine a_getI (pc := 1) hG sc_1 cl_X8 ok_X8 5 (by decide) rfl t_161 dX8_takeNumber_1 ?_
  refine a_iconst (pc := 4) hG dX8_takeNumber_4 (v := (nI 2)) rfl ?_
  refine a_ic_eq (pc := 5) hG (tgt := 14) hd dX8_takeNumber_5 (by decide) (fun hd => ?_) (fun hd => ?_)
  · refine a_aload_n (pc := 14) hG 0 rfl dX8_takeNumber_14 rfl ?_
    refine a_getI (pc := 15) hG sc_1 cl_X8 ok_X8 7 (by decide) rfl t_163 dX8_takeNumber_15 ?_
    refine a_iload_n (pc := 18) hG 1 rfl dX8_takeNumber_18 rfl ?_
    refine a_join hd (Q := fun J : HS → Option (Int32 × HS) => ∀  (h2 : HS), J  h2 = some q → AW SHc ad 3 (some (.int q.1), q.2) Γ 30 [(0, .ref (ad 1))] [] h2) (fun  h2 hd => ?_) (fun J1 hJ1 hd => ?_)
    · refine a_aload_n (pc := 30) hG 0 rfl dX8_takeNumber_30 rfl ?_
      refine a_iconst (pc := 31) hG dX8_takeNumber_31 (v := (nI 2)) rfl ?_
      refine a_cvI (pc := 32) hG (As := [.int (nI 2)]) (st := []) sc_1 cl_X8 mk_X8_fail t_623 (by omega) (fun z hz => c_Tape_fail (nI 2) _  z hz) rfl (Nat.le_of_ble_eq_true rfl) hd dX8_takeNumber_32 (fun r4 h3 hd => ?_)
      exact a_zret (pc := 35) hG hd dX8_takeNumber_35
    refine a_ic_lt (pc := 19) hG (tgt := 30) hd dX8_takeNumber_19 (by decide) (fun hd => ?_) (fun hd => ?_)
    · exact AW.sub [0] rfl (hJ1  _ hd)
    refine a_aload_n (pc := 22) hG 0 rfl dX8_takeNumber_22 rfl ?_
    refine a_getI (pc := 23) hG sc_1 cl_X8 ok_X8 7 (by decide) rfl t_163 dX8_takeNumber_23 ?_
    refine a_iload_n (pc := 26) hG 2 rfl dX8_takeNumber_26 rfl ?_
    refine a_ic_le (pc := 27) hG (tgt := 36) hd dX8_takeNumber_27 (by decide) (fun hd => ?_) (fun hd => ?_)
    · refine a_aload_n (pc := 36) hG 0 rfl dX8_takeNumber_36 rfl ?_
      refine a_aload_n (pc := 37) hG 0 rfl dX8_takeNumber_37 rfl ?_
      refine a_getI (pc := 38) hG sc_1 cl_X8 ok_X8 7 (by decide) rfl t_163 dX8_takeNumber_38 ?_
      refine a_putI (pc := 41) hG sc_1 cl_X8 ok_X8 8 (by decide) rfl t_164 rfl (ty := .int) rfl rfl rfl hd dX8_takeNumber_41 (fun h5 hd => ?_)
      refine a_aload_n (pc := 44) hG 0 rfl dX8_takeNumber_44 rfl ?_
      refine a_cvN (pc := 45) hG (As := []) (st := []) sc_1 cl_X8 mk_X8_advance t_573 (by omega) (fun z hz => c_Tape_advance F  _  z hz) rfl (Nat.le_of_ble_eq_true rfl) hd dX8_takeNumber_45 (fun _ h6 hd => ?_)
      refine a_iconst (pc := 48) hG dX8_takeNumber_48 (v := (nI 1)) rfl ?_
      exact a_zret (pc := 49) hG hd dX8_takeNumber_49
    exact AW.sub [0] rfl (hJ1  _ hd)
  refine a_aload_n (pc := 8) hG 0 rfl dX8_takeNumber_8 rfl ?_
  refine a_iconst (pc := 9) hG dX8_takeNumber_9 (v := (nI 1)) rfl ?_
  refine a_cvI (pc := 10) hG (As := [.int (nI 1)]) (st := []) sc_1 cl_X8 mk_X8_fail t_623 (by omega) (fun z hz => c_Tape_fail (nI 1) _  z hz) rfl (Nat.le_of_ble_eq_true rfl) hd dX8_takeNumber_10 (fun r8 h7 hd => ?_)
  exact a_zret (pc := 13) hG hd dX8_takeNumber_13
theorem dX8_taken_0 : decode cX8_taken 0 = .ok (.aload_n 0, 1) := by decide +kernel
theorem dX8_taken_1 : decode cX8_taken 1 = .ok (.getfield 38, 3) := by decide +kernel
theorem dX8_taken_4 : decode cX8_taken 4 = .ok (.ireturn, 1) := by decide +kernel
set_option maxHeartbeats 4000000 in
theorem c_Tape_taken {ad wad : Nat → Nat}  (h : HS)  (q : Int32 × HS) (hd : f_Tape_taken  h = some q) : Ctr SHc ad wad yX8_taken cX8_taken 1 (some .int) 1 [.ref (ad 1)] h (some (.int q.1), q.2) := by
  refine enter (own := RX8) (lv := [(0, .ref (ad 1))]) (by decide +kernel) rfl (Nat.le_of_ble_eq_true rfl) rfl (fun Γ hG => ?_)
  unfold f_Tape_taken at hd
  refine a_aload_n (pc := 0) hG 0 rfl dX8_taken_0 rfl ?_
  refine a_getI (pc := 1) hG sc_1 cl_X8 ok_X8 8 (by decide) rfl t_164 dX8_taken_1 ?_
  exact a_iret (pc := 4) hG hd dX8_taken_4
theorem dX5_tellLastClerk_0 : decode cX5_tellLastClerk 0 = .ok (.aload_n 0, 1) := by decide +kernel
theorem dX5_tellLastClerk_1 : decode cX5_tellLastClerk 1 = .ok (.getfield 27, 3) := by decide +kernel
theorem dX5_tellLastClerk_4 : decode cX5_tellLastClerk 4 = .ok (.ifCond .le 15, 3) := by decide +kernel
theorem dX5_tellLastClerk_7 : decode cX5_tellLastClerk 7 = .ok (.aload_n 0, 1) := by decide +kernel
theorem dX5_tellLastClerk_8 : decode cX5_tellLastClerk 8 = .ok (.getfield 50, 3) := by decide +kernel
theorem dX5_tellLastClerk_11 : decode cX5_tellLastClerk 11 = .ok (.aload_n 0, 1) := by decide +kernel
theorem dX5_tellLastClerk_12 : decode cX5_tellLastClerk 12 = .ok (.getfield 27, 3) := by decide +kernel
theorem dX5_tellLastClerk_15 : decode cX5_tellLastClerk 15 = .ok (.iconst 1, 1) := by decide +kernel
theorem dX5_tellLastClerk_16 : decode cX5_tellLastClerk 16 = .ok (.isub, 1) := by decide +kernel
theorem dX5_tellLastClerk_17 : decode cX5_tellLastClerk 17 = .ok (.iload_n 1, 1) := by decide +kernel
theorem dX5_tellLastClerk_18 : decode cX5_tellLastClerk 18 = .ok (.iastore, 1) := by decide +kernel
theorem dX5_tellLastClerk_19 : decode cX5_tellLastClerk 19 = .ok (.return_, 1) := by decide +kernel
set_option maxHeartbeats 4000000 in
theorem c_Plan_tellLastClerk_11 {ad wad : Nat → Nat} (a0 : Int32) (h : HS)  (q : Unit × HS) (hd : f_Plan_tellLastClerk_11 a0 h = some q) : Ctr SHc ad wad yX5_tellLastClerk cX5_tellLastClerk 2 none 1 [.ref (ad 11), .int a0] h (none, q.2) := by
  refine enter (own := RX5) (lv := [(0, .ref (ad 11)), (1, .int a0)]) (by decide +kernel) rfl (Nat.le_of_ble_eq_true rfl) rfl (fun Γ hG => ?_)
  unfold f_Plan_tellLastClerk_11 at hd
  refine a_aload_n (pc := 0) hG 0 rfl dX5_tellLastClerk_0 rfl ?_
  refine a_getI (pc := 1) hG sc_11 cl_X5 ok_X5 5 (by decide) rfl t_202 dX5_tellLastClerk_1 ?_
  refine a_if_le (pc := 4) hG (tgt := 19) hd dX5_tellLastClerk_4 (by decide) (fun hd => ?_) (fun hd => ?_)
  · exact a_vret (pc := 19) hG hd dX5_tellLastClerk_19
  refine a_aload_n (pc := 7) hG 0 rfl dX5_tellLastClerk_7 rfl ?_
  refine a_getR (pc := 8) hG sc_11 cl_X5 ok_X5 12 (by decide) rfl t_209 dX5_tellLastClerk_8 ?_
  refine a_aload_n (pc := 11) hG 0 rfl dX5_tellLastClerk_11 rfl ?_
  refine a_getI (pc := 12) hG sc_11 cl_X5 ok_X5 5 (by decide) rfl t_202 dX5_tellLastClerk_12 ?_
  refine a_iconst (pc := 15) hG dX5_tellLastClerk_15 (v := (nI 1)) rfl ?_
  refine a_isub (pc := 16) hG dX5_tellLastClerk_16 ?_
  refine a_iload_n (pc := 17) hG 1 rfl dX5_tellLastClerk_17 rfl ?_
  refine a_iast (pc := 18) hG sc_18 hd dX5_tellLastClerk_18 (fun h1 hd => ?_)
  exact a_vret (pc := 19) hG hd dX5_tellLastClerk_19
theorem dX4_readClerk_0 : decode cX4_readClerk 0 = .ok (.aload_n 0, 1) := by decide +kernel
theorem dX4_readClerk_1 : decode cX4_readClerk 1 = .ok (.getfield 15, 3) := by decide +kernel
theorem dX4_readClerk_4 : decode cX4_readClerk 4 = .ok (.invokevirtual 152, 3) := by decide +kernel
theorem dX4_readClerk_7 : decode cX4_readClerk 7 = .ok (.iconst 5, 1) := by decide +kernel
theorem dX4_readClerk_8 : decode cX4_readClerk 8 = .ok (.if_icmp .lt 12, 3) := by decide +kernel
theorem dX4_readClerk_11 : decode cX4_readClerk 11 = .ok (.aload_n 0, 1) := by decide +kernel
theorem dX4_readClerk_12 : decode cX4_readClerk 12 = .ok (.getfield 9, 3) := by decide +kernel
theorem dX4_readClerk_15 : decode cX4_readClerk 15 = .ok (.iconst 4, 1) := by decide +kernel
theorem dX4_readClerk_16 : decode cX4_readClerk 16 = .ok (.invokevirtual 91, 3) := by decide +kernel
theorem dX4_readClerk_19 : decode cX4_readClerk 19 = .ok (.ireturn, 1) := by decide +kernel
theorem dX4_readClerk_20 : decode cX4_readClerk 20 = .ok (.aload_n 0, 1) := by decide +kernel
theorem dX4_readClerk_21 : decode cX4_readClerk 21 = .ok (.getfield 9, 3) := by decide +kernel
theorem dX4_readClerk_24 : decode cX4_readClerk 24 = .ok (.invokevirtual 94, 3) := by decide +kernel
theorem dX4_readClerk_27 : decode cX4_readClerk 27 = .ok (.aload_n 0, 1) := by decide +kernel
theorem dX4_readClerk_28 : decode cX4_readClerk 28 = .ok (.invokevirtual 115, 3) := by decide +kernel
theorem dX4_readClerk_31 : decode cX4_readClerk 31 = .ok (.ifCond .ne 5, 3) := by decide +kernel
theorem dX4_readClerk_34 : decode cX4_readClerk 34 = .ok (.iconst 0, 1) := by decide +kernel
theorem dX4_readClerk_35 : decode cX4_readClerk 35 = .ok (.ireturn, 1) := by decide +kernel
theorem dX4_readClerk_36 : decode cX4_readClerk 36 = .ok (.aload_n 0, 1) := by decide +kernel
theorem dX4_readClerk_37 : decode cX4_readClerk 37 = .ok (.getfield 15, 3) := by decide +kernel
theorem dX4_readClerk_40 : decode cX4_readClerk 40 = .ok (.aload_n 0, 1) := by decide +kernel
theorem dX4_readClerk_41 : decode cX4_readClerk 41 = .ok (.getfield 9, 3) := by decide +kernel
theorem dX4_readClerk_44 : decode cX4_readClerk 44 = .ok (.invokevirtual 118, 3) := by decide +kernel
theorem dX4_readClerk_47 : decode cX4_readClerk 47 = .ok (.invokevirtual 155, 3) := by decide +kernel
theorem dX4_readClerk_50 : decode cX4_readClerk 50 = .ok (.aload_n 0, 1) := by decide +kernel
theorem dX4_readClerk_51 : decode cX4_readClerk 51 = .ok (.getfield 9, 3) := by decide +kernel
theorem dX4_readClerk_54 : decode cX4_readClerk 54 = .ok (.invokevirtual 94, 3) := by decide +kernel
theorem dX4_readClerk_57 : decode cX4_readClerk 57 = .ok (.aload_n 0, 1) := by decide +kernel
theorem dX4_readClerk_58 : decode cX4_readClerk 58 = .ok (.getfield 9, 3) := by decide +kernel
theorem dX4_readClerk_61 : decode cX4_readClerk 61 = .ok (.iconst 1, 1) := by decide +kernel
theorem dX4_readClerk_62 : decode cX4_readClerk 62 = .ok (.bipush 9, 2) := by decide +kernel
theorem dX4_readClerk_64 : decode cX4_readClerk 64 = .ok (.invokevirtual 97, 3) := by decide +kernel
theorem dX4_readClerk_67 : decode cX4_readClerk 67 = .ok (.ifCond .ne 5, 3) := by decide +kernel
theorem dX4_readClerk_70 : decode cX4_readClerk 70 = .ok (.iconst 0, 1) := by decide +kernel
theorem dX4_readClerk_71 : decode cX4_readClerk 71 = .ok (.ireturn, 1) := by decide +kernel
theorem dX4_readClerk_72 : decode cX4_readClerk 72 = .ok (.aload_n 0, 1) := by decide +kernel
theorem dX4_readClerk_73 : decode cX4_readClerk 73 = .ok (.getfield 15, 3) := by decide +kernel
theorem dX4_readClerk_76 : decode cX4_readClerk 76 = .ok (.aload_n 0, 1) := by decide +kernel
theorem dX4_readClerk_77 : decode cX4_readClerk 77 = .ok (.getfield 9, 3) := by decide +kernel
theorem dX4_readClerk_80 : decode cX4_readClerk 80 = .ok (.invokevirtual 101, 3) := by decide +kernel
theorem dX4_readClerk_83 : decode cX4_readClerk 83 = .ok (.invokevirtual 158, 3) := by decide +kernel
theorem dX4_readClerk_86 : decode cX4_readClerk 86 = .ok (.iconst 1, 1) := by decide +kernel
theorem dX4_readClerk_87 : decode cX4_readClerk 87 = .ok (.ireturn, 1) := by decide +kernel
set_option maxHeartbeats 4000000 in
theorem c_OffR_readClerk {ad wad : Nat → Nat} (F : Nat)  (h : HS)  (q : Int32 × HS) (hd : f_OffR_readClerk F  h = some q) : Ctr SHc ad wad yX4_readClerk cX4_readClerk 1 (some .boolean) 5 [.ref (ad 19)] h (some (.int q.1), q.2) := by
  refine enter (own := RX4) (lv := [(0, .ref (ad 19))]) (by decide +kernel) rfl (Nat.le_of_ble_eq_true rfl) rfl (fun Γ hG => ?_)
  unfold f_OffR_readClerk at hd
  refine a_aload_n (pc := 0) hG 0 rfl dX4_readClerk_0 rfl ?_
  refine a_getR (pc := 1) hG sc_19 cl_X4 ok_X4 1 (by decide) rfl t_246 dX4_readClerk_1 ?_
  refine a_cvI (pc := 4) hG (As := []) (st := []) sc_11 cl_X5 mk_X5_clerks t_733 (by omega) (fun z hz => c_Plan_clerks_11  _  z hz) rfl (Nat.le_of_ble_eq_true rfl) hd dX4_readClerk_4 (fun r2 h1 hd => ?_)
  refine a_iconst (pc := 7) hG dX4_readClerk_7 (v := (nI 5)) rfl ?_
  refine a_ic_lt (pc := 8) hG (tgt := 20) hd dX4_readClerk_8 (by decide) (fun hd => ?_) (fun hd => ?_)
  · refine a_aload_n (pc := 20) hG 0 rfl dX4_readClerk_20 rfl ?_
    refine a_getR (pc := 21) hG sc_19 cl_X4 ok_X4 0 (by decide) rfl t_245 dX4_readClerk_21 ?_
    refine a_cvN (pc := 24) hG (As := []) (st := []) sc_1 cl_X8 mk_X8_advance t_618 (by omega) (fun z hz => c_Tape_advance F  _  z hz) rfl (Nat.le_of_ble_eq_true rfl) hd dX4_readClerk_24 (fun _ h3 hd => ?_)
    refine a_aload_n (pc := 27) hG 0 rfl dX4_readClerk_27 rfl ?_
    refine a_cvI (pc := 28) hG (As := []) (st := []) sc_19 cl_X4 mk_X4_isNewName t_649 (by omega) (fun z hz => c_OffR_isNewName F  _  z hz) rfl (Nat.le_of_ble_eq_true rfl) hd dX4_readClerk_28 (fun r5 h4 hd => ?_)
    refine a_if_ne (pc := 31) hG (tgt := 36) hd dX4_readClerk_31 (by decide) (fun hd => ?_) (fun hd => ?_)
    · refine a_aload_n (pc := 36) hG 0 rfl dX4_readClerk_36 rfl ?_
      refine a_getR (pc := 37) hG sc_19 cl_X4 ok_X4 1 (by decide) rfl t_246 dX4_readClerk_37 ?_
      refine a_aload_n (pc := 40) hG 0 rfl dX4_readClerk_40 rfl ?_
      refine a_getR (pc := 41) hG sc_19 cl_X4 ok_X4 0 (by decide) rfl t_245 dX4_readClerk_41 ?_
      refine a_cvL (pc := 44) hG (As := []) (st := [.ref (ad 11)]) sc_1 cl_X8 mk_X8_letters t_662 (by omega) (fun z hz => c_Tape_letters  _  z hz) rfl (Nat.le_of_ble_eq_true rfl) hd dX4_readClerk_44 (fun r7 h6 hd => ?_)
      refine a_cvN (pc := 47) hG (As := [.long r7]) (st := []) sc_11 cl_X5 mk_X5_addClerk t_734 (by omega) (fun z hz => c_Plan_addClerk_11 r7 _  z hz) rfl (Nat.le_of_ble_eq_true rfl) hd dX4_readClerk_47 (fun _ h8 hd => ?_)
      refine a_aload_n (pc := 50) hG 0 rfl dX4_readClerk_50 rfl ?_
      refine a_getR (pc := 51) hG sc_19 cl_X4 ok_X4 0 (by decide) rfl t_245 dX4_readClerk_51 ?_
      refine a_cvN (pc := 54) hG (As := []) (st := []) sc_1 cl_X8 mk_X8_advance t_618 (by omega) (fun z hz => c_Tape_advance F  _  z hz) rfl (Nat.le_of_ble_eq_true rfl) hd dX4_readClerk_54 (fun _ h9 hd => ?_)
      refine a_aload_n (pc := 57) hG 0 rfl dX4_readClerk_57 rfl ?_
      refine a_getR (pc := 58) hG sc_19 cl_X4 ok_X4 0 (by decide) rfl t_245 dX4_readClerk_58 ?_
      refine a_iconst (pc := 61) hG dX4_readClerk_61 (v := (nI 1)) rfl ?_
      refine a_bipush (pc := 62) hG dX4_readClerk_62 (v := (nI 9)) rfl ?_
      refine a_cvI (pc := 64) hG (As := [.int (nI 1), .int (nI 9)]) (st := []) sc_1 cl_X8 mk_X8_takeNumber t_619 (by omega) (fun z hz => c_Tape_takeNumber F (nI 1) (nI 9) _  z hz) rfl (Nat.le_of_ble_eq_true rfl) hd dX4_readClerk_64 (fun r11 h10 hd => ?_)
      refine a_if_ne (pc := 67) hG (tgt := 72) hd dX4_readClerk_67 (by decide) (fun hd => ?_) (fun hd => ?_)
      · refine a_aload_n (pc := 72) hG 0 rfl dX4_readClerk_72 rfl ?_
        refine a_getR (pc := 73) hG sc_19 cl_X4 ok_X4 1 (by decide) rfl t_246 dX4_readClerk_73 ?_
        refine a_aload_n (pc := 76) hG 0 rfl dX4_readClerk_76 rfl ?_
        refine a_getR (pc := 77) hG sc_19 cl_X4 ok_X4 0 (by decide) rfl t_245 dX4_readClerk_77 ?_
        refine a_cvI (pc := 80) hG (As := []) (st := [.ref (ad 11)]) sc_1 cl_X8 mk_X8_taken t_624 (by omega) (fun z hz => c_Tape_taken  _  z hz) rfl (Nat.le_of_ble_eq_true rfl) hd dX4_readClerk_80 (fun r13 h12 hd => ?_)
        refine a_cvN (pc := 83) hG (As := [.int r13]) (st := []) sc_11 cl_X5 mk_X5_tellLastClerk t_738 (by omega) (fun z hz => c_Plan_tellLastClerk_11 r13 _  z hz) rfl (Nat.le_of_ble_eq_true rfl) hd dX4_readClerk_83 (fun _ h14 hd => ?_)
        refine a_iconst (pc := 86) hG dX4_readClerk_86 (v := (nI 1)) rfl ?_
        exact a_zret (pc := 87) hG hd dX4_readClerk_87
      refine a_iconst (pc := 70) hG dX4_readClerk_70 (v := (nI 0)) rfl ?_
      exact a_zret (pc := 71) hG hd dX4_readClerk_71
    refine a_iconst (pc := 34) hG dX4_readClerk_34 (v := (nI 0)) rfl ?_
    exact a_zret (pc := 35) hG hd dX4_readClerk_35
  refine a_aload_n (pc := 11) hG 0 rfl dX4_readClerk_11 rfl ?_
  refine a_getR (pc := 12) hG sc_19 cl_X4 ok_X4 0 (by decide) rfl t_245 dX4_readClerk_12 ?_
  refine a_iconst (pc := 15) hG dX4_readClerk_15 (v := (nI 4)) rfl ?_
  refine a_cvI (pc := 16) hG (As := [.int (nI 4)]) (st := []) sc_1 cl_X8 mk_X8_fail t_614 (by omega) (fun z hz => c_Tape_fail (nI 4) _  z hz) rfl (Nat.le_of_ble_eq_true rfl) hd dX4_readClerk_16 (fun r16 h15 hd => ?_)
  exact a_zret (pc := 19) hG hd dX4_readClerk_19
theorem dX5_deeds_0 : decode cX5_deeds 0 = .ok (.aload_n 0, 1) := by decide +kernel
theorem dX5_deeds_1 : decode cX5_deeds 1 = .ok (.getfield 24, 3) := by decide +kernel
theorem dX5_deeds_4 : decode cX5_deeds 4 = .ok (.ireturn, 1) := by decide +kernel
set_option maxHeartbeats 4000000 in
theorem c_Plan_deeds_11 {ad wad : Nat → Nat}  (h : HS)  (q : Int32 × HS) (hd : f_Plan_deeds_11  h = some q) : Ctr SHc ad wad yX5_deeds cX5_deeds 1 (some .int) 1 [.ref (ad 11)] h (some (.int q.1), q.2) := by
  refine enter (own := RX5) (lv := [(0, .ref (ad 11))]) (by decide +kernel) rfl (Nat.le_of_ble_eq_true rfl) rfl (fun Γ hG => ?_)
  unfold f_Plan_deeds_11 at hd
  refine a_aload_n (pc := 0) hG 0 rfl dX5_deeds_0 rfl ?_
  refine a_getI (pc := 1) hG sc_11 cl_X5 ok_X5 4 (by decide) rfl t_201 dX5_deeds_1 ?_
  exact a_iret (pc := 4) hG hd dX5_deeds_4
theorem dX5_addDeed_0 : decode cX5_addDeed 0 = .ok (.aload_n 0, 1) := by decide +kernel
theorem dX5_addDeed_1 : decode cX5_addDeed 1 = .ok (.getfield 24, 3) := by decide +kernel
theorem dX5_addDeed_4 : decode cX5_addDeed 4 = .ok (.bipush 6, 2) := by decide +kernel
theorem dX5_addDeed_6 : decode cX5_addDeed 6 = .ok (.if_icmp .ge 23, 3) := by decide +kernel
theorem dX5_addDeed_9 : decode cX5_addDeed 9 = .ok (.aload_n 0, 1) := by decide +kernel
theorem dX5_addDeed_10 : decode cX5_addDeed 10 = .ok (.getfield 34, 3) := by decide +kernel
theorem dX5_addDeed_13 : decode cX5_addDeed 13 = .ok (.aload_n 0, 1) := by decide +kernel
theorem dX5_addDeed_14 : decode cX5_addDeed 14 = .ok (.getfield 24, 3) := by decide +kernel
theorem dX5_addDeed_17 : decode cX5_addDeed 17 = .ok (.lload_n 1, 1) := by decide +kernel
theorem dX5_addDeed_18 : decode cX5_addDeed 18 = .ok (.lastore, 1) := by decide +kernel
theorem dX5_addDeed_19 : decode cX5_addDeed 19 = .ok (.aload_n 0, 1) := by decide +kernel
theorem dX5_addDeed_20 : decode cX5_addDeed 20 = .ok (.dup, 1) := by decide +kernel
theorem dX5_addDeed_21 : decode cX5_addDeed 21 = .ok (.getfield 24, 3) := by decide +kernel
theorem dX5_addDeed_24 : decode cX5_addDeed 24 = .ok (.iconst 1, 1) := by decide +kernel
theorem dX5_addDeed_25 : decode cX5_addDeed 25 = .ok (.iadd, 1) := by decide +kernel
theorem dX5_addDeed_26 : decode cX5_addDeed 26 = .ok (.putfield 24, 3) := by decide +kernel
theorem dX5_addDeed_29 : decode cX5_addDeed 29 = .ok (.return_, 1) := by decide +kernel
set_option maxHeartbeats 4000000 in
theorem c_Plan_addDeed_11 {ad wad : Nat → Nat} (a0 : Int64) (h : HS)  (q : Unit × HS) (hd : f_Plan_addDeed_11 a0 h = some q) : Ctr SHc ad wad yX5_addDeed cX5_addDeed 3 none 1 [.ref (ad 11), .long a0] h (none, q.2) := by
  refine enter (own := RX5) (lv := [(0, .ref (ad 11)), (1, .long a0)]) (by decide +kernel) rfl (Nat.le_of_ble_eq_true rfl) rfl (fun Γ hG => ?_)
  unfold f_Plan_addDeed_11 at hd
  refine a_aload_n (pc := 0) hG 0 rfl dX5_addDeed_0 rfl ?_
  refine a_getI (pc := 1) hG sc_11 cl_X5 ok_X5 4 (by decide) rfl t_201 dX5_addDeed_1 ?_
  refine a_bipush (pc := 4) hG dX5_addDeed_4 (v := (nI 6)) rfl ?_
  refine a_ic_ge (pc := 6) hG (tgt := 29) hd dX5_addDeed_6 (by decide) (fun hd => ?_) (fun hd => ?_)
  · exact a_vret (pc := 29) hG hd dX5_addDeed_29
  refine a_aload_n (pc := 9) hG 0 rfl dX5_addDeed_9 rfl ?_
  refine a_getR (pc := 10) hG sc_11 cl_X5 ok_X5 7 (by decide) rfl t_204 dX5_addDeed_10 ?_
  refine a_aload_n (pc := 13) hG 0 rfl dX5_addDeed_13 rfl ?_
  refine a_getI (pc := 14) hG sc_11 cl_X5 ok_X5 4 (by decide) rfl t_201 dX5_addDeed_14 ?_
  refine a_lload_n (pc := 17) hG 1 rfl dX5_addDeed_17 rfl ?_
  refine a_last (pc := 18) hG sc_13 hd dX5_addDeed_18 (fun h1 hd => ?_)
  refine a_aload_n (pc := 19) hG 0 rfl dX5_addDeed_19 rfl ?_
  refine a_dup (pc := 20) hG dX5_addDeed_20 rfl ?_
  refine a_getI (pc := 21) hG sc_11 cl_X5 ok_X5 4 (by decide) rfl t_201 dX5_addDeed_21 ?_
  refine a_iconst (pc := 24) hG dX5_addDeed_24 (v := (nI 1)) rfl ?_
  refine a_iadd (pc := 25) hG dX5_addDeed_25 ?_
  refine a_putI (pc := 26) hG sc_11 cl_X5 ok_X5 4 (by decide) rfl t_201 rfl (ty := .int) rfl rfl rfl hd dX5_addDeed_26 (fun h2 hd => ?_)
  exact a_vret (pc := 29) hG hd dX5_addDeed_29
theorem dX5_tellLastDeed_0 : decode cX5_tellLastDeed 0 = .ok (.aload_n 0, 1) := by decide +kernel
theorem dX5_tellLastDeed_1 : decode cX5_tellLastDeed 1 = .ok (.getfield 24, 3) := by decide +kernel
theorem dX5_tellLastDeed_4 : decode cX5_tellLastDeed 4 = .ok (.ifCond .le 19, 3) := by decide +kernel
theorem dX5_tellLastDeed_7 : decode cX5_tellLastDeed 7 = .ok (.aload_n 0, 1) := by decide +kernel
theorem dX5_tellLastDeed_8 : decode cX5_tellLastDeed 8 = .ok (.getfield 47, 3) := by decide +kernel
theorem dX5_tellLastDeed_11 : decode cX5_tellLastDeed 11 = .ok (.aload_n 0, 1) := by decide +kernel
theorem dX5_tellLastDeed_12 : decode cX5_tellLastDeed 12 = .ok (.getfield 24, 3) := by decide +kernel
theorem dX5_tellLastDeed_15 : decode cX5_tellLastDeed 15 = .ok (.iconst 1, 1) := by decide +kernel
theorem dX5_tellLastDeed_16 : decode cX5_tellLastDeed 16 = .ok (.isub, 1) := by decide +kernel
theorem dX5_tellLastDeed_17 : decode cX5_tellLastDeed 17 = .ok (.iconst 3, 1) := by decide +kernel
theorem dX5_tellLastDeed_18 : decode cX5_tellLastDeed 18 = .ok (.imul, 1) := by decide +kernel
theorem dX5_tellLastDeed_19 : decode cX5_tellLastDeed 19 = .ok (.iload_n 1, 1) := by decide +kernel
theorem dX5_tellLastDeed_20 : decode cX5_tellLastDeed 20 = .ok (.iadd, 1) := by decide +kernel
theorem dX5_tellLastDeed_21 : decode cX5_tellLastDeed 21 = .ok (.iload_n 2, 1) := by decide +kernel
theorem dX5_tellLastDeed_22 : decode cX5_tellLastDeed 22 = .ok (.iastore, 1) := by decide +kernel
theorem dX5_tellLastDeed_23 : decode cX5_tellLastDeed 23 = .ok (.return_, 1) := by decide +kernel
set_option maxHeartbeats 4000000 in
theorem c_Plan_tellLastDeed_11 {ad wad : Nat → Nat} (a0 : Int32) (a1 : Int32) (h : HS)  (q : Unit × HS) (hd : f_Plan_tellLastDeed_11 a0 a1 h = some q) : Ctr SHc ad wad yX5_tellLastDeed cX5_tellLastDeed 3 none 1 [.ref (ad 11), .int a0, .int a1] h (none, q.2) := by
  refine enter (own := RX5) (lv := [(0, .ref (ad 11)), (1, .int a0), (2, .int a1)]) (by decide +kernel) rfl (Nat.le_of_ble_eq_true rfl) rfl (fun Γ hG => ?_)
  unfold f_Plan_tellLastDeed_11 at hd
  refine a_aload_n (pc := 0) hG 0 rfl dX5_tellLastDeed_0 rfl ?_
  refine a_getI (pc := 1) hG sc_11 cl_X5 ok_X5 4 (by decide) rfl t_201 dX5_tellLastDeed_1 ?_
  refine a_if_le (pc := 4) hG (tgt := 23) hd dX5_tellLastDeed_4 (by decide) (fun hd => ?_) (fun hd => ?_)
  · exact a_vret (pc := 23) hG hd dX5_tellLastDeed_23
  refine a_aload_n (pc := 7) hG 0 rfl dX5_tellLastDeed_7 rfl ?_
  refine a_getR (pc := 8) hG sc_11 cl_X5 ok_X5 11 (by decide) rfl t_208 dX5_tellLastDeed_8 ?_
  refine a_aload_n (pc := 11) hG 0 rfl dX5_tellLastDeed_11 rfl ?_
  refine a_getI (pc := 12) hG sc_11 cl_X5 ok_X5 4 (by decide) rfl t_201 dX5_tellLastDeed_12 ?_
  refine a_iconst (pc := 15) hG dX5_tellLastDeed_15 (v := (nI 1)) rfl ?_
  refine a_isub (pc := 16) hG dX5_tellLastDeed_16 ?_
  refine a_iconst (pc := 17) hG dX5_tellLastDeed_17 (v := (nI 3)) rfl ?_
  refine a_imul (pc := 18) hG dX5_tellLastDeed_18 ?_
  refine a_iload_n (pc := 19) hG 1 rfl dX5_tellLastDeed_19 rfl ?_
  refine a_iadd (pc := 20) hG dX5_tellLastDeed_20 ?_
  refine a_iload_n (pc := 21) hG 2 rfl dX5_tellLastDeed_21 rfl ?_
  refine a_iast (pc := 22) hG sc_17 hd dX5_tellLastDeed_22 (fun h1 hd => ?_)
  exact a_vret (pc := 23) hG hd dX5_tellLastDeed_23
theorem dX4_readDeed_0 : decode cX4_readDeed 0 = .ok (.aload_n 0, 1) := by decide +kernel
theorem dX4_readDeed_1 : decode cX4_readDeed 1 = .ok (.getfield 15, 3) := by decide +kernel
theorem dX4_readDeed_4 : decode cX4_readDeed 4 = .ok (.invokevirtual 143, 3) := by decide +kernel
theorem dX4_readDeed_7 : decode cX4_readDeed 7 = .ok (.bipush 6, 2) := by decide +kernel
theorem dX4_readDeed_9 : decode cX4_readDeed 9 = .ok (.if_icmp .lt 12, 3) := by decide +kernel
theorem dX4_readDeed_12 : decode cX4_readDeed 12 = .ok (.aload_n 0, 1) := by decide +kernel
theorem dX4_readDeed_13 : decode cX4_readDeed 13 = .ok (.getfield 9, 3) := by decide +kernel
theorem dX4_readDeed_16 : decode cX4_readDeed 16 = .ok (.iconst 4, 1) := by decide +kernel
theorem dX4_readDeed_17 : decode cX4_readDeed 17 = .ok (.invokevirtual 91, 3) := by decide +kernel
theorem dX4_readDeed_20 : decode cX4_readDeed 20 = .ok (.ireturn, 1) := by decide +kernel
theorem dX4_readDeed_21 : decode cX4_readDeed 21 = .ok (.aload_n 0, 1) := by decide +kernel
theorem dX4_readDeed_22 : decode cX4_readDeed 22 = .ok (.getfield 9, 3) := by decide +kernel
theorem dX4_readDeed_25 : decode cX4_readDeed 25 = .ok (.invokevirtual 94, 3) := by decide +kernel
theorem dX4_readDeed_28 : decode cX4_readDeed 28 = .ok (.aload_n 0, 1) := by decide +kernel
theorem dX4_readDeed_29 : decode cX4_readDeed 29 = .ok (.invokevirtual 115, 3) := by decide +kernel
theorem dX4_readDeed_32 : decode cX4_readDeed 32 = .ok (.ifCond .ne 5, 3) := by decide +kernel
theorem dX4_readDeed_35 : decode cX4_readDeed 35 = .ok (.iconst 0, 1) := by decide +kernel
theorem dX4_readDeed_36 : decode cX4_readDeed 36 = .ok (.ireturn, 1) := by decide +kernel
theorem dX4_readDeed_37 : decode cX4_readDeed 37 = .ok (.aload_n 0, 1) := by decide +kernel
theorem dX4_readDeed_38 : decode cX4_readDeed 38 = .ok (.getfield 15, 3) := by decide +kernel
theorem dX4_readDeed_41 : decode cX4_readDeed 41 = .ok (.aload_n 0, 1) := by decide +kernel
theorem dX4_readDeed_42 : decode cX4_readDeed 42 = .ok (.getfield 9, 3) := by decide +kernel
theorem dX4_readDeed_45 : decode cX4_readDeed 45 = .ok (.invokevirtual 118, 3) := by decide +kernel
theorem dX4_readDeed_48 : decode cX4_readDeed 48 = .ok (.invokevirtual 146, 3) := by decide +kernel
theorem dX4_readDeed_51 : decode cX4_readDeed 51 = .ok (.aload_n 0, 1) := by decide +kernel
theorem dX4_readDeed_52 : decode cX4_readDeed 52 = .ok (.getfield 9, 3) := by decide +kernel
theorem dX4_readDeed_55 : decode cX4_readDeed 55 = .ok (.invokevirtual 94, 3) := by decide +kernel
theorem dX4_readDeed_58 : decode cX4_readDeed 58 = .ok (.iconst 0, 1) := by decide +kernel
theorem dX4_readDeed_59 : decode cX4_readDeed 59 = .ok (.istore_n 1, 1) := by decide +kernel
theorem dX4_readDeed_60 : decode cX4_readDeed 60 = .ok (.iload_n 1, 1) := by decide +kernel
theorem dX4_readDeed_61 : decode cX4_readDeed 61 = .ok (.iconst 2, 1) := by decide +kernel
theorem dX4_readDeed_62 : decode cX4_readDeed 62 = .ok (.if_icmp .gt 39, 3) := by decide +kernel
theorem dX4_readDeed_65 : decode cX4_readDeed 65 = .ok (.aload_n 0, 1) := by decide +kernel
theorem dX4_readDeed_66 : decode cX4_readDeed 66 = .ok (.getfield 9, 3) := by decide +kernel
theorem dX4_readDeed_69 : decode cX4_readDeed 69 = .ok (.iconst 0, 1) := by decide +kernel
theorem dX4_readDeed_70 : decode cX4_readDeed 70 = .ok (.bipush 20, 2) := by decide +kernel
theorem dX4_readDeed_72 : decode cX4_readDeed 72 = .ok (.invokevirtual 97, 3) := by decide +kernel
theorem dX4_readDeed_75 : decode cX4_readDeed 75 = .ok (.ifCond .ne 5, 3) := by decide +kernel
theorem dX4_readDeed_78 : decode cX4_readDeed 78 = .ok (.iconst 0, 1) := by decide +kernel
theorem dX4_readDeed_79 : decode cX4_readDeed 79 = .ok (.ireturn, 1) := by decide +kernel
theorem dX4_readDeed_80 : decode cX4_readDeed 80 = .ok (.aload_n 0, 1) := by decide +kernel
theorem dX4_readDeed_81 : decode cX4_readDeed 81 = .ok (.getfield 15, 3) := by decide +kernel
theorem dX4_readDeed_84 : decode cX4_readDeed 84 = .ok (.iload_n 1, 1) := by decide +kernel
theorem dX4_readDeed_85 : decode cX4_readDeed 85 = .ok (.aload_n 0, 1) := by decide +kernel
theorem dX4_readDeed_86 : decode cX4_readDeed 86 = .ok (.getfield 9, 3) := by decide +kernel
theorem dX4_readDeed_89 : decode cX4_readDeed 89 = .ok (.invokevirtual 101, 3) := by decide +kernel
theorem dX4_readDeed_92 : decode cX4_readDeed 92 = .ok (.invokevirtual 149, 3) := by decide +kernel
theorem dX4_readDeed_95 : decode cX4_readDeed 95 = .ok (.iinc 1 1, 3) := by decide +kernel
theorem dX4_readDeed_98 : decode cX4_readDeed 98 = .ok (.goto (-38), 3) := by decide +kernel
theorem dX4_readDeed_101 : decode cX4_readDeed 101 = .ok (.iconst 1, 1) := by decide +kernel
theorem dX4_readDeed_102 : decode cX4_readDeed 102 = .ok (.ireturn, 1) := by decide +kernel
set_option maxHeartbeats 4000000 in
theorem w_l_OffR_readDeed_0 {ad wad : Nat → Nat} {Γ : Ctx} (F : Nat) {n : Nat} (hn : 5 ≤ n) (hG : Cx SHc ad wad cX4_readDeed 2 RX4 (some .boolean) (n) Γ) {q : Int32 × HS} {g : Nat} {x1 : Int32} {h : HS} (hd : l_OffR_readDeed_0 F g x1 h = some q) : AW SHc ad 2 (some (.int q.1), q.2) Γ 60 [(0, .ref (ad 19)), (1, .int x1)] [] h := by
  induction g generalizing x1 h with
  | zero => unfold l_OffR_readDeed_0 at hd; cases hd
  | succ g ih =>
    unfold l_OffR_readDeed_0 at hd
    refine a_iload_n (pc := 60) hG 1 rfl dX4_readDeed_60 rfl ?_
    refine a_iconst (pc := 61) hG dX4_readDeed_61 (v := (nI 2)) rfl ?_
    refine a_ic_gt (pc := 62) hG (tgt := 101) hd dX4_readDeed_62 (by decide) (fun hd => ?_) (fun hd => ?_)
    · refine a_iconst (pc := 101) hG dX4_readDeed_101 (v := (nI 1)) rfl ?_
      exact a_zret (pc := 102) hG hd dX4_readDeed_102
    refine a_aload_n (pc := 65) hG 0 rfl dX4_readDeed_65 rfl ?_
    refine a_getR (pc := 66) hG sc_19 cl_X4 ok_X4 0 (by decide) rfl t_245 dX4_readDeed_66 ?_
    refine a_iconst (pc := 69) hG dX4_readDeed_69 (v := (nI 0)) rfl ?_
    refine a_bipush (pc := 70) hG dX4_readDeed_70 (v := (nI 20)) rfl ?_
    refine a_cvI (pc := 72) hG (As := [.int (nI 0), .int (nI 20)]) (st := []) sc_1 cl_X8 mk_X8_takeNumber t_619 (by omega) (fun z hz => c_Tape_takeNumber F (nI 0) (nI 20) _  z hz) rfl (Nat.le_of_ble_eq_true rfl) hd dX4_readDeed_72 (fun r12 h11 hd => ?_)
    refine a_if_ne (pc := 75) hG (tgt := 80) hd dX4_readDeed_75 (by decide) (fun hd => ?_) (fun hd => ?_)
    · refine a_aload_n (pc := 80) hG 0 rfl dX4_readDeed_80 rfl ?_
      refine a_getR (pc := 81) hG sc_19 cl_X4 ok_X4 1 (by decide) rfl t_246 dX4_readDeed_81 ?_
      refine a_iload_n (pc := 84) hG 1 rfl dX4_readDeed_84 rfl ?_
      refine a_aload_n (pc := 85) hG 0 rfl dX4_readDeed_85 rfl ?_
      refine a_getR (pc := 86) hG sc_19 cl_X4 ok_X4 0 (by decide) rfl t_245 dX4_readDeed_86 ?_
      refine a_cvI (pc := 89) hG (As := []) (st := [.int x1, .ref (ad 11)]) sc_1 cl_X8 mk_X8_taken t_624 (by omega) (fun z hz => c_Tape_taken  _  z hz) rfl (Nat.le_of_ble_eq_true rfl) hd dX4_readDeed_89 (fun r14 h13 hd => ?_)
      refine a_cvN (pc := 92) hG (As := [.int x1, .int r14]) (st := []) sc_11 cl_X5 mk_X5_tellLastDeed t_723 (by omega) (fun z hz => c_Plan_tellLastDeed_11 x1 r14 _  z hz) rfl (Nat.le_of_ble_eq_true rfl) hd dX4_readDeed_92 (fun _ h15 hd => ?_)
      refine a_iincN (pc := 95) hG (c0 := (nI 1)) 1 rfl hd dX4_readDeed_95 rfl (by decide) (lf := fun x => [(1, .int x), (0, .ref (ad 19))]) (fun _ => rfl) (fun v16 hd => ?_)
      refine a_goto (pc := 98) hG (tgt := 60) dX4_readDeed_98 (by decide) ?_
      exact AW.sub [1, 0] rfl (ih hd)
    refine a_iconst (pc := 78) hG dX4_readDeed_78 (v := (nI 0)) rfl ?_
    exact a_zret (pc := 79) hG hd dX4_readDeed_79
set_option maxHeartbeats 4000000 in
theorem c_OffR_readDeed {ad wad : Nat → Nat} (F : Nat)  (h : HS)  (q : Int32 × HS) (hd : f_OffR_readDeed F  h = some q) : Ctr SHc ad wad yX4_readDeed cX4_readDeed 2 (some .boolean) 5 [.ref (ad 19)] h (some (.int q.1), q.2) := by
  refine enter (own := RX4) (lv := [(0, .ref (ad 19))]) (by decide +kernel) rfl (Nat.le_of_ble_eq_true rfl) rfl (fun Γ hG => ?_)
  unfold f_OffR_readDeed at hd
  refine a_aload_n (pc := 0) hG 0 rfl dX4_readDeed_0 rfl ?_
  refine a_getR (pc := 1) hG sc_19 cl_X4 ok_X4 1 (by decide) rfl t_246 dX4_readDeed_1 ?_
  refine a_cvI (pc := 4) hG (As := []) (st := []) sc_11 cl_X5 mk_X5_deeds t_718 (by omega) (fun z hz => c_Plan_deeds_11  _  z hz) rfl (Nat.le_of_ble_eq_true rfl) hd dX4_readDeed_4 (fun r2 h1 hd => ?_)
  refine a_bipush (pc := 7) hG dX4_readDeed_7 (v := (nI 6)) rfl ?_
  refine a_ic_lt (pc := 9) hG (tgt := 21) hd dX4_readDeed_9 (by decide) (fun hd => ?_) (fun hd => ?_)
  · refine a_aload_n (pc := 21) hG 0 rfl dX4_readDeed_21 rfl ?_
    refine a_getR (pc := 22) hG sc_19 cl_X4 ok_X4 0 (by decide) rfl t_245 dX4_readDeed_22 ?_
    refine a_cvN (pc := 25) hG (As := []) (st := []) sc_1 cl_X8 mk_X8_advance t_618 (by omega) (fun z hz => c_Tape_advance F  _  z hz) rfl (Nat.le_of_ble_eq_true rfl) hd dX4_readDeed_25 (fun _ h3 hd => ?_)
    refine a_aload_n (pc := 28) hG 0 rfl dX4_readDeed_28 rfl ?_
    refine a_cvI (pc := 29) hG (As := []) (st := []) sc_19 cl_X4 mk_X4_isNewName t_649 (by omega) (fun z hz => c_OffR_isNewName F  _  z hz) rfl (Nat.le_of_ble_eq_true rfl) hd dX4_readDeed_29 (fun r5 h4 hd => ?_)
    refine a_if_ne (pc := 32) hG (tgt := 37) hd dX4_readDeed_32 (by decide) (fun hd => ?_) (fun hd => ?_)
    · refine a_aload_n (pc := 37) hG 0 rfl dX4_readDeed_37 rfl ?_
      refine a_getR (pc := 38) hG sc_19 cl_X4 ok_X4 1 (by decide) rfl t_246 dX4_readDeed_38 ?_
      refine a_aload_n (pc := 41) hG 0 rfl dX4_readDeed_41 rfl ?_
      refine a_getR (pc := 42) hG sc_19 cl_X4 ok_X4 0 (by decide) rfl t_245 dX4_readDeed_42 ?_
      refine a_cvL (pc := 45) hG (As := []) (st := [.ref (ad 11)]) sc_1 cl_X8 mk_X8_letters t_662 (by omega) (fun z hz => c_Tape_letters  _  z hz) rfl (Nat.le_of_ble_eq_true rfl) hd dX4_readDeed_45 (fun r7 h6 hd => ?_)
      refine a_cvN (pc := 48) hG (As := [.long r7]) (st := []) sc_11 cl_X5 mk_X5_addDeed t_719 (by omega) (fun z hz => c_Plan_addDeed_11 r7 _  z hz) rfl (Nat.le_of_ble_eq_true rfl) hd dX4_readDeed_48 (fun _ h8 hd => ?_)
      refine a_aload_n (pc := 51) hG 0 rfl dX4_readDeed_51 rfl ?_
      refine a_getR (pc := 52) hG sc_19 cl_X4 ok_X4 0 (by decide) rfl t_245 dX4_readDeed_52 ?_
      refine a_cvN (pc := 55) hG (As := []) (st := []) sc_1 cl_X8 mk_X8_advance t_618 (by omega) (fun z hz => c_Tape_advance F  _  z hz) rfl (Nat.le_of_ble_eq_true rfl) hd dX4_readDeed_55 (fun _ h9 hd => ?_)
      refine a_iconst (pc := 58) hG dX4_readDeed_58 (v := (nI 0)) rfl ?_
      refine a_istore_nN (pc := 59) hG hd dX4_readDeed_59 rfl (by decide) (lf := fun x => [(1, .int x), (0, .ref (ad 19))]) (fun _ => rfl) (fun v10 hd => ?_)
      refine AW.sub [1, 0] rfl ?_
      exact w_l_OffR_readDeed_0 F (by omega) hG hd
    refine a_iconst (pc := 35) hG dX4_readDeed_35 (v := (nI 0)) rfl ?_
    exact a_zret (pc := 36) hG hd dX4_readDeed_36
  refine a_aload_n (pc := 12) hG 0 rfl dX4_readDeed_12 rfl ?_
  refine a_getR (pc := 13) hG sc_19 cl_X4 ok_X4 0 (by decide) rfl t_245 dX4_readDeed_13 ?_
  refine a_iconst (pc := 16) hG dX4_readDeed_16 (v := (nI 4)) rfl ?_
  refine a_cvI (pc := 17) hG (As := [.int (nI 4)]) (st := []) sc_1 cl_X8 mk_X8_fail t_614 (by omega) (fun z hz => c_Tape_fail (nI 4) _  z hz) rfl (Nat.le_of_ble_eq_true rfl) hd dX4_readDeed_17 (fun r18 h17 hd => ?_)
  exact a_zret (pc := 20) hG hd dX4_readDeed_20
theorem dX5_hasCause_0 : decode cX5_hasCause 0 = .ok (.iload_n 1, 1) := by decide +kernel
theorem dX5_hasCause_1 : decode cX5_hasCause 1 = .ok (.ifCond .lt 15, 3) := by decide +kernel
theorem dX5_hasCause_4 : decode cX5_hasCause 4 = .ok (.iload_n 1, 1) := by decide +kernel
theorem dX5_hasCause_5 : decode cX5_hasCause 5 = .ok (.aload_n 0, 1) := by decide +kernel
theorem dX5_hasCause_6 : decode cX5_hasCause 6 = .ok (.getfield 21, 3) := by decide +kernel
theorem dX5_hasCause_9 : decode cX5_hasCause 9 = .ok (.if_icmp .ge 7, 3) := by decide +kernel
theorem dX5_hasCause_12 : decode cX5_hasCause 12 = .ok (.iconst 1, 1) := by decide +kernel
theorem dX5_hasCause_13 : decode cX5_hasCause 13 = .ok (.goto 4, 3) := by decide +kernel
theorem dX5_hasCause_16 : decode cX5_hasCause 16 = .ok (.iconst 0, 1) := by decide +kernel
theorem dX5_hasCause_17 : decode cX5_hasCause 17 = .ok (.ireturn, 1) := by decide +kernel
set_option maxHeartbeats 4000000 in
theorem c_Plan_hasCause_11 {ad wad : Nat → Nat} (a0 : Int32) (h : HS)  (q : Int32 × HS) (hd : f_Plan_hasCause_11 a0 h = some q) : Ctr SHc ad wad yX5_hasCause cX5_hasCause 2 (some .boolean) 1 [.ref (ad 11), .int a0] h (some (.int q.1), q.2) := by
  refine enter (own := RX5) (lv := [(0, .ref (ad 11)), (1, .int a0)]) (by decide +kernel) rfl (Nat.le_of_ble_eq_true rfl) rfl (fun Γ hG => ?_)
  unfold f_Plan_hasCause_11 at hd
  refine a_iload_n (pc := 0) hG 1 rfl dX5_hasCause_0 rfl ?_
  refine a_if_lt (pc := 1) hG (tgt := 16) hd dX5_hasCause_1 (by decide) (fun hd => ?_) (fun hd => ?_)
  · refine a_iconst (pc := 16) hG dX5_hasCause_16 (v := (nI 0)) rfl ?_
    exact a_zret (pc := 17) hG hd dX5_hasCause_17
  refine a_iload_n (pc := 4) hG 1 rfl dX5_hasCause_4 rfl ?_
  refine a_aload_n (pc := 5) hG 0 rfl dX5_hasCause_5 rfl ?_
  refine a_getI (pc := 6) hG sc_11 cl_X5 ok_X5 3 (by decide) rfl t_200 dX5_hasCause_6 ?_
  refine a_ic_ge (pc := 9) hG (tgt := 16) hd dX5_hasCause_9 (by decide) (fun hd => ?_) (fun hd => ?_)
  · refine a_iconst (pc := 16) hG dX5_hasCause_16 (v := (nI 0)) rfl ?_
    exact a_zret (pc := 17) hG hd dX5_hasCause_17
  refine a_iconst (pc := 12) hG dX5_hasCause_12 (v := (nI 1)) rfl ?_
  refine a_goto (pc := 13) hG (tgt := 17) dX5_hasCause_13 (by decide) ?_
  exact a_zret (pc := 17) hG hd dX5_hasCause_17
theorem dX5_hasRumour_0 : decode cX5_hasRumour 0 = .ok (.aload_n 0, 1) := by decide +kernel
theorem dX5_hasRumour_1 : decode cX5_hasRumour 1 = .ok (.iload_n 1, 1) := by decide +kernel
theorem dX5_hasRumour_2 : decode cX5_hasRumour 2 = .ok (.invokevirtual 63, 3) := by decide +kernel
theorem dX5_hasRumour_5 : decode cX5_hasRumour 5 = .ok (.ifCond .eq 20, 3) := by decide +kernel
theorem dX5_hasRumour_8 : decode cX5_hasRumour 8 = .ok (.aload_n 0, 1) := by decide +kernel
theorem dX5_hasRumour_9 : decode cX5_hasRumour 9 = .ok (.getfield 44, 3) := by decide +kernel
theorem dX5_hasRumour_12 : decode cX5_hasRumour 12 = .ok (.iload_n 1, 1) := by decide +kernel
theorem dX5_hasRumour_13 : decode cX5_hasRumour 13 = .ok (.iconst 2, 1) := by decide +kernel
theorem dX5_hasRumour_14 : decode cX5_hasRumour 14 = .ok (.imul, 1) := by decide +kernel
theorem dX5_hasRumour_15 : decode cX5_hasRumour 15 = .ok (.iconst 1, 1) := by decide +kernel
theorem dX5_hasRumour_16 : decode cX5_hasRumour 16 = .ok (.iadd, 1) := by decide +kernel
theorem dX5_hasRumour_17 : decode cX5_hasRumour 17 = .ok (.iaload, 1) := by decide +kernel
theorem dX5_hasRumour_18 : decode cX5_hasRumour 18 = .ok (.ifCond .le 7, 3) := by decide +kernel
theorem dX5_hasRumour_21 : decode cX5_hasRumour 21 = .ok (.iconst 1, 1) := by decide +kernel
theorem dX5_hasRumour_22 : decode cX5_hasRumour 22 = .ok (.goto 4, 3) := by decide +kernel
theorem dX5_hasRumour_25 : decode cX5_hasRumour 25 = .ok (.iconst 0, 1) := by decide +kernel
theorem dX5_hasRumour_26 : decode cX5_hasRumour 26 = .ok (.ireturn, 1) := by decide +kernel
set_option maxHeartbeats 4000000 in
theorem c_Plan_hasRumour_11 {ad wad : Nat → Nat} (a0 : Int32) (h : HS)  (q : Int32 × HS) (hd : f_Plan_hasRumour_11 a0 h = some q) : Ctr SHc ad wad yX5_hasRumour cX5_hasRumour 2 (some .boolean) 2 [.ref (ad 11), .int a0] h (some (.int q.1), q.2) := by
  refine enter (own := RX5) (lv := [(0, .ref (ad 11)), (1, .int a0)]) (by decide +kernel) rfl (Nat.le_of_ble_eq_true rfl) rfl (fun Γ hG => ?_)
  unfold f_Plan_hasRumour_11 at hd
  refine a_aload_n (pc := 0) hG 0 rfl dX5_hasRumour_0 rfl ?_
  refine a_iload_n (pc := 1) hG 1 rfl dX5_hasRumour_1 rfl ?_
  refine a_cvI (pc := 2) hG (As := [.int a0]) (st := []) sc_11 cl_X5 mk_X5_hasCause t_704 (by omega) (fun z hz => c_Plan_hasCause_11 a0 _  z hz) rfl (Nat.le_of_ble_eq_true rfl) hd dX5_hasRumour_2 (fun r2 h1 hd => ?_)
  refine a_if_eq (pc := 5) hG (tgt := 25) hd dX5_hasRumour_5 (by decide) (fun hd => ?_) (fun hd => ?_)
  · refine a_iconst (pc := 25) hG dX5_hasRumour_25 (v := (nI 0)) rfl ?_
    exact a_zret (pc := 26) hG hd dX5_hasRumour_26
  refine a_aload_n (pc := 8) hG 0 rfl dX5_hasRumour_8 rfl ?_
  refine a_getR (pc := 9) hG sc_11 cl_X5 ok_X5 10 (by decide) rfl t_207 dX5_hasRumour_9 ?_
  refine a_iload_n (pc := 12) hG 1 rfl dX5_hasRumour_12 rfl ?_
  refine a_iconst (pc := 13) hG dX5_hasRumour_13 (v := (nI 2)) rfl ?_
  refine a_imul (pc := 14) hG dX5_hasRumour_14 ?_
  refine a_iconst (pc := 15) hG dX5_hasRumour_15 (v := (nI 1)) rfl ?_
  refine a_iadd (pc := 16) hG dX5_hasRumour_16 ?_
  refine a_iald (pc := 17) hG sc_16 hd dX5_hasRumour_17 (fun hd => ?_)
  refine a_if_le (pc := 18) hG (tgt := 25) hd dX5_hasRumour_18 (by decide) (fun hd => ?_) (fun hd => ?_)
  · refine a_iconst (pc := 25) hG dX5_hasRumour_25 (v := (nI 0)) rfl ?_
    exact a_zret (pc := 26) hG hd dX5_hasRumour_26
  refine a_iconst (pc := 21) hG dX5_hasRumour_21 (v := (nI 1)) rfl ?_
  refine a_goto (pc := 22) hG (tgt := 26) dX5_hasRumour_22 (by decide) ?_
  exact a_zret (pc := 26) hG hd dX5_hasRumour_26
theorem dX5_tellRumour_0 : decode cX5_tellRumour 0 = .ok (.aload_n 0, 1) := by decide +kernel
theorem dX5_tellRumour_1 : decode cX5_tellRumour 1 = .ok (.getfield 44, 3) := by decide +kernel
theorem dX5_tellRumour_4 : decode cX5_tellRumour 4 = .ok (.iload_n 1, 1) := by decide +kernel
theorem dX5_tellRumour_5 : decode cX5_tellRumour 5 = .ok (.iconst 2, 1) := by decide +kernel
theorem dX5_tellRumour_6 : decode cX5_tellRumour 6 = .ok (.imul, 1) := by decide +kernel
theorem dX5_tellRumour_7 : decode cX5_tellRumour 7 = .ok (.iload_n 2, 1) := by decide +kernel
theorem dX5_tellRumour_8 : decode cX5_tellRumour 8 = .ok (.iadd, 1) := by decide +kernel
theorem dX5_tellRumour_9 : decode cX5_tellRumour 9 = .ok (.iload_n 3, 1) := by decide +kernel
theorem dX5_tellRumour_10 : decode cX5_tellRumour 10 = .ok (.iastore, 1) := by decide +kernel
theorem dX5_tellRumour_11 : decode cX5_tellRumour 11 = .ok (.return_, 1) := by decide +kernel
set_option maxHeartbeats 4000000 in
theorem c_Plan_tellRumour_11 {ad wad : Nat → Nat} (a0 : Int32) (a1 : Int32) (a2 : Int32) (h : HS)  (q : Unit × HS) (hd : f_Plan_tellRumour_11 a0 a1 a2 h = some q) : Ctr SHc ad wad yX5_tellRumour cX5_tellRumour 4 none 1 [.ref (ad 11), .int a0, .int a1, .int a2] h (none, q.2) := by
  refine enter (own := RX5) (lv := [(0, .ref (ad 11)), (1, .int a0), (2, .int a1), (3, .int a2)]) (by decide +kernel) rfl (Nat.le_of_ble_eq_true rfl) rfl (fun Γ hG => ?_)
  unfold f_Plan_tellRumour_11 at hd
  refine a_aload_n (pc := 0) hG 0 rfl dX5_tellRumour_0 rfl ?_
  refine a_getR (pc := 1) hG sc_11 cl_X5 ok_X5 10 (by decide) rfl t_207 dX5_tellRumour_1 ?_
  refine a_iload_n (pc := 4) hG 1 rfl dX5_tellRumour_4 rfl ?_
  refine a_iconst (pc := 5) hG dX5_tellRumour_5 (v := (nI 2)) rfl ?_
  refine a_imul (pc := 6) hG dX5_tellRumour_6 ?_
  refine a_iload_n (pc := 7) hG 2 rfl dX5_tellRumour_7 rfl ?_
  refine a_iadd (pc := 8) hG dX5_tellRumour_8 ?_
  refine a_iload_n (pc := 9) hG 3 rfl dX5_tellRumour_9 rfl ?_
  refine a_iast (pc := 10) hG sc_16 hd dX5_tellRumour_10 (fun h1 hd => ?_)
  exact a_vret (pc := 11) hG hd dX5_tellRumour_11
theorem dX4_readRumour_0 : decode cX4_readRumour 0 = .ok (.aload_n 0, 1) := by decide +kernel
theorem dX4_readRumour_1 : decode cX4_readRumour 1 = .ok (.getfield 9, 3) := by decide +kernel
theorem dX4_readRumour_4 : decode cX4_readRumour 4 = .ok (.invokevirtual 94, 3) := by decide +kernel
theorem dX4_readRumour_7 : decode cX4_readRumour 7 = .ok (.aload_n 0, 1) := by decide +kernel
theorem dX4_readRumour_8 : decode cX4_readRumour 8 = .ok (.getfield 9, 3) := by decide +kernel
theorem dX4_readRumour_11 : decode cX4_readRumour 11 = .ok (.invokevirtual 129, 3) := by decide +kernel
theorem dX4_readRumour_14 : decode cX4_readRumour 14 = .ok (.ifCond .ne 12, 3) := by decide +kernel
theorem dX4_readRumour_17 : decode cX4_readRumour 17 = .ok (.aload_n 0, 1) := by decide +kernel
theorem dX4_readRumour_18 : decode cX4_readRumour 18 = .ok (.getfield 9, 3) := by decide +kernel
theorem dX4_readRumour_21 : decode cX4_readRumour 21 = .ok (.iconst 1, 1) := by decide +kernel
theorem dX4_readRumour_22 : decode cX4_readRumour 22 = .ok (.invokevirtual 91, 3) := by decide +kernel
theorem dX4_readRumour_25 : decode cX4_readRumour 25 = .ok (.ireturn, 1) := by decide +kernel
theorem dX4_readRumour_26 : decode cX4_readRumour 26 = .ok (.aload_n 0, 1) := by decide +kernel
theorem dX4_readRumour_27 : decode cX4_readRumour 27 = .ok (.getfield 15, 3) := by decide +kernel
theorem dX4_readRumour_30 : decode cX4_readRumour 30 = .ok (.aload_n 0, 1) := by decide +kernel
theorem dX4_readRumour_31 : decode cX4_readRumour 31 = .ok (.getfield 9, 3) := by decide +kernel
theorem dX4_readRumour_34 : decode cX4_readRumour 34 = .ok (.invokevirtual 118, 3) := by decide +kernel
theorem dX4_readRumour_37 : decode cX4_readRumour 37 = .ok (.invokevirtual 132, 3) := by decide +kernel
theorem dX4_readRumour_40 : decode cX4_readRumour 40 = .ok (.istore_n 1, 1) := by decide +kernel
theorem dX4_readRumour_41 : decode cX4_readRumour 41 = .ok (.iload_n 1, 1) := by decide +kernel
theorem dX4_readRumour_42 : decode cX4_readRumour 42 = .ok (.iconst (-1), 1) := by decide +kernel
theorem dX4_readRumour_43 : decode cX4_readRumour 43 = .ok (.if_icmp .eq 14, 3) := by decide +kernel
theorem dX4_readRumour_46 : decode cX4_readRumour 46 = .ok (.aload_n 0, 1) := by decide +kernel
theorem dX4_readRumour_47 : decode cX4_readRumour 47 = .ok (.getfield 15, 3) := by decide +kernel
theorem dX4_readRumour_50 : decode cX4_readRumour 50 = .ok (.iload_n 1, 1) := by decide +kernel
theorem dX4_readRumour_51 : decode cX4_readRumour 51 = .ok (.invokevirtual 136, 3) := by decide +kernel
theorem dX4_readRumour_54 : decode cX4_readRumour 54 = .ok (.ifCond .eq 12, 3) := by decide +kernel
theorem dX4_readRumour_57 : decode cX4_readRumour 57 = .ok (.aload_n 0, 1) := by decide +kernel
theorem dX4_readRumour_58 : decode cX4_readRumour 58 = .ok (.getfield 9, 3) := by decide +kernel
theorem dX4_readRumour_61 : decode cX4_readRumour 61 = .ok (.iconst 3, 1) := by decide +kernel
theorem dX4_readRumour_62 : decode cX4_readRumour 62 = .ok (.invokevirtual 91, 3) := by decide +kernel
theorem dX4_readRumour_65 : decode cX4_readRumour 65 = .ok (.ireturn, 1) := by decide +kernel
theorem dX4_readRumour_66 : decode cX4_readRumour 66 = .ok (.aload_n 0, 1) := by decide +kernel
theorem dX4_readRumour_67 : decode cX4_readRumour 67 = .ok (.getfield 9, 3) := by decide +kernel
theorem dX4_readRumour_70 : decode cX4_readRumour 70 = .ok (.invokevirtual 94, 3) := by decide +kernel
theorem dX4_readRumour_73 : decode cX4_readRumour 73 = .ok (.iconst 0, 1) := by decide +kernel
theorem dX4_readRumour_74 : decode cX4_readRumour 74 = .ok (.istore_n 2, 1) := by decide +kernel
theorem dX4_readRumour_75 : decode cX4_readRumour 75 = .ok (.iload_n 2, 1) := by decide +kernel
theorem dX4_readRumour_76 : decode cX4_readRumour 76 = .ok (.iconst 1, 1) := by decide +kernel
theorem dX4_readRumour_77 : decode cX4_readRumour 77 = .ok (.if_icmp .gt 48, 3) := by decide +kernel
theorem dX4_readRumour_80 : decode cX4_readRumour 80 = .ok (.aload_n 0, 1) := by decide +kernel
theorem dX4_readRumour_81 : decode cX4_readRumour 81 = .ok (.getfield 9, 3) := by decide +kernel
theorem dX4_readRumour_84 : decode cX4_readRumour 84 = .ok (.iload_n 2, 1) := by decide +kernel
theorem dX4_readRumour_85 : decode cX4_readRumour 85 = .ok (.ifCond .ne 7, 3) := by decide +kernel
theorem dX4_readRumour_88 : decode cX4_readRumour 88 = .ok (.iconst 0, 1) := by decide +kernel
theorem dX4_readRumour_89 : decode cX4_readRumour 89 = .ok (.goto 4, 3) := by decide +kernel
theorem dX4_readRumour_92 : decode cX4_readRumour 92 = .ok (.iconst 1, 1) := by decide +kernel
theorem dX4_readRumour_93 : decode cX4_readRumour 93 = .ok (.bipush 99, 2) := by decide +kernel
theorem dX4_readRumour_95 : decode cX4_readRumour 95 = .ok (.invokevirtual 97, 3) := by decide +kernel
theorem dX4_readRumour_98 : decode cX4_readRumour 98 = .ok (.ifCond .ne 5, 3) := by decide +kernel
theorem dX4_readRumour_101 : decode cX4_readRumour 101 = .ok (.iconst 0, 1) := by decide +kernel
theorem dX4_readRumour_102 : decode cX4_readRumour 102 = .ok (.ireturn, 1) := by decide +kernel
theorem dX4_readRumour_103 : decode cX4_readRumour 103 = .ok (.aload_n 0, 1) := by decide +kernel
theorem dX4_readRumour_104 : decode cX4_readRumour 104 = .ok (.getfield 15, 3) := by decide +kernel
theorem dX4_readRumour_107 : decode cX4_readRumour 107 = .ok (.iload_n 1, 1) := by decide +kernel
theorem dX4_readRumour_108 : decode cX4_readRumour 108 = .ok (.iload_n 2, 1) := by decide +kernel
theorem dX4_readRumour_109 : decode cX4_readRumour 109 = .ok (.aload_n 0, 1) := by decide +kernel
theorem dX4_readRumour_110 : decode cX4_readRumour 110 = .ok (.getfield 9, 3) := by decide +kernel
theorem dX4_readRumour_113 : decode cX4_readRumour 113 = .ok (.invokevirtual 101, 3) := by decide +kernel
theorem dX4_readRumour_116 : decode cX4_readRumour 116 = .ok (.invokevirtual 139, 3) := by decide +kernel
theorem dX4_readRumour_119 : decode cX4_readRumour 119 = .ok (.iinc 2 1, 3) := by decide +kernel
theorem dX4_readRumour_122 : decode cX4_readRumour 122 = .ok (.goto (-47), 3) := by decide +kernel
theorem dX4_readRumour_125 : decode cX4_readRumour 125 = .ok (.iconst 1, 1) := by decide +kernel
theorem dX4_readRumour_126 : decode cX4_readRumour 126 = .ok (.ireturn, 1) := by decide +kernel
set_option maxHeartbeats 4000000 in
theorem w_l_OffR_readRumour_0 {ad wad : Nat → Nat} {Γ : Ctx} (F : Nat) {n : Nat} (hn : 4 ≤ n) (hG : Cx SHc ad wad cX4_readRumour 3 RX4 (some .boolean) (n) Γ) {q : Int32 × HS} {x1 : Int32} {g : Nat} {x2 : Int32} {h : HS} (hd : l_OffR_readRumour_0 F x1 g x2 h = some q) : AW SHc ad 3 (some (.int q.1), q.2) Γ 75 [(0, .ref (ad 19)), (1, .int x1), (2, .int x2)] [] h := by
  induction g generalizing x2 h with
  | zero => unfold l_OffR_readRumour_0 at hd; cases hd
  | succ g ih =>
    unfold l_OffR_readRumour_0 at hd
    refine a_iload_n (pc := 75) hG 2 rfl dX4_readRumour_75 rfl ?_
    refine a_iconst (pc := 76) hG dX4_readRumour_76 (v := (nI 1)) rfl ?_
    refine a_ic_gt (pc := 77) hG (tgt := 125) hd dX4_readRumour_77 (by decide) (fun hd => ?_) (fun hd => ?_)
    · refine a_iconst (pc := 125) hG dX4_readRumour_125 (v := (nI 1)) rfl ?_
      exact a_zret (pc := 126) hG hd dX4_readRumour_126
    refine a_aload_n (pc := 80) hG 0 rfl dX4_readRumour_80 rfl ?_
    refine a_getR (pc := 81) hG sc_19 cl_X4 ok_X4 0 (by decide) rfl t_245 dX4_readRumour_81 ?_
    refine a_iload_n (pc := 84) hG 2 rfl dX4_readRumour_84 rfl ?_
    refine a_join hd (Q := fun J : Int32 → HS → Option (Int32 × HS) => ∀ (v18 : Int32) (h19 : HS), J v18 h19 = some q → AW SHc ad 3 (some (.int q.1), q.2) Γ 93 [(0, .ref (ad 19)), (1, .int x1), (2, .int x2)] [.int v18, .ref (ad 1)] h19) (fun v18 h19 hd => ?_) (fun J17 hJ17 hd => ?_)
    · refine a_bipush (pc := 93) hG dX4_readRumour_93 (v := (nI 99)) rfl ?_
      refine a_cvI (pc := 95) hG (As := [.int v18, .int (nI 99)]) (st := []) sc_1 cl_X8 mk_X8_takeNumber t_619 (by omega) (fun z hz => c_Tape_takeNumber F v18 (nI 99) _  z hz) rfl (Nat.le_of_ble_eq_true rfl) hd dX4_readRumour_95 (fun r21 h20 hd => ?_)
      refine a_if_ne (pc := 98) hG (tgt := 103) hd dX4_readRumour_98 (by decide) (fun hd => ?_) (fun hd => ?_)
      · refine a_aload_n (pc := 103) hG 0 rfl dX4_readRumour_103 rfl ?_
        refine a_getR (pc := 104) hG sc_19 cl_X4 ok_X4 1 (by decide) rfl t_246 dX4_readRumour_104 ?_
        refine a_iload_n (pc := 107) hG 1 rfl dX4_readRumour_107 rfl ?_
        refine a_iload_n (pc := 108) hG 2 rfl dX4_readRumour_108 rfl ?_
        refine a_aload_n (pc := 109) hG 0 rfl dX4_readRumour_109 rfl ?_
        refine a_getR (pc := 110) hG sc_19 cl_X4 ok_X4 0 (by decide) rfl t_245 dX4_readRumour_110 ?_
        refine a_cvI (pc := 113) hG (As := []) (st := [.int x2, .int x1, .ref (ad 11)]) sc_1 cl_X8 mk_X8_taken t_624 (by omega) (fun z hz => c_Tape_taken  _  z hz) rfl (Nat.le_of_ble_eq_true rfl) hd dX4_readRumour_113 (fun r23 h22 hd => ?_)
        refine a_cvN (pc := 116) hG (As := [.int x1, .int x2, .int r23]) (st := []) sc_11 cl_X5 mk_X5_tellRumour t_708 (by omega) (fun z hz => c_Plan_tellRumour_11 x1 x2 r23 _  z hz) rfl (Nat.le_of_ble_eq_true rfl) hd dX4_readRumour_116 (fun _ h24 hd => ?_)
        refine a_iincN (pc := 119) hG (c0 := (nI 1)) 2 rfl hd dX4_readRumour_119 rfl (by decide) (lf := fun x => [(2, .int x), (0, .ref (ad 19)), (1, .int x1)]) (fun _ => rfl) (fun v25 hd => ?_)
        refine a_goto (pc := 122) hG (tgt := 75) dX4_readRumour_122 (by decide) ?_
        exact AW.sub [1, 2, 0] rfl (ih hd)
      refine a_iconst (pc := 101) hG dX4_readRumour_101 (v := (nI 0)) rfl ?_
      exact a_zret (pc := 102) hG hd dX4_readRumour_102
    refine a_if_ne (pc := 85) hG (tgt := 92) hd dX4_readRumour_85 (by decide) (fun hd => ?_) (fun hd => ?_)
    · refine a_iconst (pc := 92) hG dX4_readRumour_92 (v := (nI 1)) rfl ?_
      exact AW.sub [0, 1, 2] rfl (hJ17 _ _ hd)
    refine a_iconst (pc := 88) hG dX4_readRumour_88 (v := (nI 0)) rfl ?_
    refine a_goto (pc := 89) hG (tgt := 93) dX4_readRumour_89 (by decide) ?_
    exact AW.sub [0, 1, 2] rfl (hJ17 _ _ hd)
set_option maxHeartbeats 4000000 in
theorem c_OffR_readRumour {ad wad : Nat → Nat} (F : Nat)  (h : HS)  (q : Int32 × HS) (hd : f_OffR_readRumour F  h = some q) : Ctr SHc ad wad yX4_readRumour cX4_readRumour 3 (some .boolean) 4 [.ref (ad 19)] h (some (.int q.1), q.2) := by
  refine enter (own := RX4) (lv := [(0, .ref (ad 19))]) (by decide +kernel) rfl (Nat.le_of_ble_eq_true rfl) rfl (fun Γ hG => ?_)
  unfold f_OffR_readRumour at hd
  refine a_aload_n (pc := 0) hG 0 rfl dX4_readRumour_0 rfl ?_
  refine a_getR (pc := 1) hG sc_19 cl_X4 ok_X4 0 (by decide) rfl t_245 dX4_readRumour_1 ?_
  refine a_cvN (pc := 4) hG (As := []) (st := []) sc_1 cl_X8 mk_X8_advance t_618 (by omega) (fun z hz => c_Tape_advance F  _  z hz) rfl (Nat.le_of_ble_eq_true rfl) hd dX4_readRumour_4 (fun _ h1 hd => ?_)
  refine a_aload_n (pc := 7) hG 0 rfl dX4_readRumour_7 rfl ?_
  refine a_getR (pc := 8) hG sc_19 cl_X4 ok_X4 0 (by decide) rfl t_245 dX4_readRumour_8 ?_
  refine a_cvI (pc := 11) hG (As := []) (st := []) sc_1 cl_X8 mk_X8_isName t_653 (by omega) (fun z hz => c_Tape_isName F  _  z hz) rfl (Nat.le_of_ble_eq_true rfl) hd dX4_readRumour_11 (fun r3 h2 hd => ?_)
  refine a_if_ne (pc := 14) hG (tgt := 26) hd dX4_readRumour_14 (by decide) (fun hd => ?_) (fun hd => ?_)
  · refine a_aload_n (pc := 26) hG 0 rfl dX4_readRumour_26 rfl ?_
    refine a_getR (pc := 27) hG sc_19 cl_X4 ok_X4 1 (by decide) rfl t_246 dX4_readRumour_27 ?_
    refine a_aload_n (pc := 30) hG 0 rfl dX4_readRumour_30 rfl ?_
    refine a_getR (pc := 31) hG sc_19 cl_X4 ok_X4 0 (by decide) rfl t_245 dX4_readRumour_31 ?_
    refine a_cvL (pc := 34) hG (As := []) (st := [.ref (ad 11)]) sc_1 cl_X8 mk_X8_letters t_662 (by omega) (fun z hz => c_Tape_letters  _  z hz) rfl (Nat.le_of_ble_eq_true rfl) hd dX4_readRumour_34 (fun r5 h4 hd => ?_)
    refine a_cvI (pc := 37) hG (As := [.long r5]) (st := []) sc_11 cl_X5 mk_X5_causeNamed t_699 (by omega) (fun z hz => c_Plan_causeNamed_11 F r5 _  z hz) rfl (Nat.le_of_ble_eq_true rfl) hd dX4_readRumour_37 (fun r7 h6 hd => ?_)
    refine a_istore_nN (pc := 40) hG hd dX4_readRumour_40 rfl (by decide) (lf := fun x => [(1, .int x), (0, .ref (ad 19))]) (fun _ => rfl) (fun v8 hd => ?_)
    refine a_iload_n (pc := 41) hG 0 rfl dX4_readRumour_41 rfl ?_
    refine a_iconst (pc := 42) hG dX4_readRumour_42 (v := (-1 : Int32)) rfl ?_
    refine a_join hd (Q := fun J : HS → Option (Int32 × HS) => ∀  (h10 : HS), J  h10 = some q → AW SHc ad 3 (some (.int q.1), q.2) Γ 57 [(0, .ref (ad 19))] [] h10) (fun  h10 hd => ?_) (fun J9 hJ9 hd => ?_)
    · refine a_aload_n (pc := 57) hG 0 rfl dX4_readRumour_57 rfl ?_
      refine a_getR (pc := 58) hG sc_19 cl_X4 ok_X4 0 (by decide) rfl t_245 dX4_readRumour_58 ?_
      refine a_iconst (pc := 61) hG dX4_readRumour_61 (v := (nI 3)) rfl ?_
      refine a_cvI (pc := 62) hG (As := [.int (nI 3)]) (st := []) sc_1 cl_X8 mk_X8_fail t_614 (by omega) (fun z hz => c_Tape_fail (nI 3) _  z hz) rfl (Nat.le_of_ble_eq_true rfl) hd dX4_readRumour_62 (fun r12 h11 hd => ?_)
      exact a_zret (pc := 65) hG hd dX4_readRumour_65
    refine a_ic_eq (pc := 43) hG (tgt := 57) hd dX4_readRumour_43 (by decide) (fun hd => ?_) (fun hd => ?_)
    · exact AW.sub [1] rfl (hJ9  _ hd)
    refine a_aload_n (pc := 46) hG 1 rfl dX4_readRumour_46 rfl ?_
    refine a_getR (pc := 47) hG sc_19 cl_X4 ok_X4 1 (by decide) rfl t_246 dX4_readRumour_47 ?_
    refine a_iload_n (pc := 50) hG 0 rfl dX4_readRumour_50 rfl ?_
    refine a_cvI (pc := 51) hG (As := [.int v8]) (st := []) sc_11 cl_X5 mk_X5_hasRumour t_700 (by omega) (fun z hz => c_Plan_hasRumour_11 v8 _  z hz) rfl (Nat.le_of_ble_eq_true rfl) hd dX4_readRumour_51 (fun r14 h13 hd => ?_)
    refine a_if_eq (pc := 54) hG (tgt := 66) hd dX4_readRumour_54 (by decide) (fun hd => ?_) (fun hd => ?_)
    · refine a_aload_n (pc := 66) hG 1 rfl dX4_readRumour_66 rfl ?_
      refine a_getR (pc := 67) hG sc_19 cl_X4 ok_X4 0 (by decide) rfl t_245 dX4_readRumour_67 ?_
      refine a_cvN (pc := 70) hG (As := []) (st := []) sc_1 cl_X8 mk_X8_advance t_618 (by omega) (fun z hz => c_Tape_advance F  _  z hz) rfl (Nat.le_of_ble_eq_true rfl) hd dX4_readRumour_70 (fun _ h15 hd => ?_)
      refine a_iconst (pc := 73) hG dX4_readRumour_73 (v := (nI 0)) rfl ?_
      refine a_istore_nN (pc := 74) hG hd dX4_readRumour_74 rfl (by decide) (lf := fun x => [(2, .int x), (1, .int v8), (0, .ref (ad 19))]) (fun _ => rfl) (fun v16 hd => ?_)
      refine AW.sub [2, 1, 0] rfl ?_
      exact w_l_OffR_readRumour_0 F (by omega) hG hd
    exact AW.sub [1] rfl (hJ9  _ hd)
  refine a_aload_n (pc := 17) hG 0 rfl dX4_readRumour_17 rfl ?_
  refine a_getR (pc := 18) hG sc_19 cl_X4 ok_X4 0 (by decide) rfl t_245 dX4_readRumour_18 ?_
  refine a_iconst (pc := 21) hG dX4_readRumour_21 (v := (nI 1)) rfl ?_
  refine a_cvI (pc := 22) hG (As := [.int (nI 1)]) (st := []) sc_1 cl_X8 mk_X8_fail t_614 (by omega) (fun z hz => c_Tape_fail (nI 1) _  z hz) rfl (Nat.le_of_ble_eq_true rfl) hd dX4_readRumour_22 (fun r27 h26 hd => ?_)
  exact a_zret (pc := 25) hG hd dX4_readRumour_25
theorem dX5_causes_0 : decode cX5_causes 0 = .ok (.aload_n 0, 1) := by decide +kernel
theorem dX5_causes_1 : decode cX5_causes 1 = .ok (.getfield 21, 3) := by decide +kernel
theorem dX5_causes_4 : decode cX5_causes 4 = .ok (.ireturn, 1) := by decide +kernel
set_option maxHeartbeats 4000000 in
theorem c_Plan_causes_11 {ad wad : Nat → Nat}  (h : HS)  (q : Int32 × HS) (hd : f_Plan_causes_11  h = some q) : Ctr SHc ad wad yX5_causes cX5_causes 1 (some .int) 1 [.ref (ad 11)] h (some (.int q.1), q.2) := by
  refine enter (own := RX5) (lv := [(0, .ref (ad 11))]) (by decide +kernel) rfl (Nat.le_of_ble_eq_true rfl) rfl (fun Γ hG => ?_)
  unfold f_Plan_causes_11 at hd
  refine a_aload_n (pc := 0) hG 0 rfl dX5_causes_0 rfl ?_
  refine a_getI (pc := 1) hG sc_11 cl_X5 ok_X5 3 (by decide) rfl t_200 dX5_causes_1 ?_
  exact a_iret (pc := 4) hG hd dX5_causes_4
theorem dX5_addCause_0 : decode cX5_addCause 0 = .ok (.aload_n 0, 1) := by decide +kernel
theorem dX5_addCause_1 : decode cX5_addCause 1 = .ok (.getfield 21, 3) := by decide +kernel
theorem dX5_addCause_4 : decode cX5_addCause 4 = .ok (.bipush 6, 2) := by decide +kernel
theorem dX5_addCause_6 : decode cX5_addCause 6 = .ok (.if_icmp .ge 23, 3) := by decide +kernel
theorem dX5_addCause_9 : decode cX5_addCause 9 = .ok (.aload_n 0, 1) := by decide +kernel
theorem dX5_addCause_10 : decode cX5_addCause 10 = .ok (.getfield 30, 3) := by decide +kernel
theorem dX5_addCause_13 : decode cX5_addCause 13 = .ok (.aload_n 0, 1) := by decide +kernel
theorem dX5_addCause_14 : decode cX5_addCause 14 = .ok (.getfield 21, 3) := by decide +kernel
theorem dX5_addCause_17 : decode cX5_addCause 17 = .ok (.lload_n 1, 1) := by decide +kernel
theorem dX5_addCause_18 : decode cX5_addCause 18 = .ok (.lastore, 1) := by decide +kernel
theorem dX5_addCause_19 : decode cX5_addCause 19 = .ok (.aload_n 0, 1) := by decide +kernel
theorem dX5_addCause_20 : decode cX5_addCause 20 = .ok (.dup, 1) := by decide +kernel
theorem dX5_addCause_21 : decode cX5_addCause 21 = .ok (.getfield 21, 3) := by decide +kernel
theorem dX5_addCause_24 : decode cX5_addCause 24 = .ok (.iconst 1, 1) := by decide +kernel
theorem dX5_addCause_25 : decode cX5_addCause 25 = .ok (.iadd, 1) := by decide +kernel
theorem dX5_addCause_26 : decode cX5_addCause 26 = .ok (.putfield 21, 3) := by decide +kernel
theorem dX5_addCause_29 : decode cX5_addCause 29 = .ok (.return_, 1) := by decide +kernel
set_option maxHeartbeats 4000000 in
theorem c_Plan_addCause_11 {ad wad : Nat → Nat} (a0 : Int64) (h : HS)  (q : Unit × HS) (hd : f_Plan_addCause_11 a0 h = some q) : Ctr SHc ad wad yX5_addCause cX5_addCause 3 none 1 [.ref (ad 11), .long a0] h (none, q.2) := by
  refine enter (own := RX5) (lv := [(0, .ref (ad 11)), (1, .long a0)]) (by decide +kernel) rfl (Nat.le_of_ble_eq_true rfl) rfl (fun Γ hG => ?_)
  unfold f_Plan_addCause_11 at hd
  refine a_aload_n (pc := 0) hG 0 rfl dX5_addCause_0 rfl ?_
  refine a_getI (pc := 1) hG sc_11 cl_X5 ok_X5 3 (by decide) rfl t_200 dX5_addCause_1 ?_
  refine a_bipush (pc := 4) hG dX5_addCause_4 (v := (nI 6)) rfl ?_
  refine a_ic_ge (pc := 6) hG (tgt := 29) hd dX5_addCause_6 (by decide) (fun hd => ?_) (fun hd => ?_)
  · exact a_vret (pc := 29) hG hd dX5_addCause_29
  refine a_aload_n (pc := 9) hG 0 rfl dX5_addCause_9 rfl ?_
  refine a_getR (pc := 10) hG sc_11 cl_X5 ok_X5 6 (by decide) rfl t_203 dX5_addCause_10 ?_
  refine a_aload_n (pc := 13) hG 0 rfl dX5_addCause_13 rfl ?_
  refine a_getI (pc := 14) hG sc_11 cl_X5 ok_X5 3 (by decide) rfl t_200 dX5_addCause_14 ?_
  refine a_lload_n (pc := 17) hG 1 rfl dX5_addCause_17 rfl ?_
  refine a_last (pc := 18) hG sc_12 hd dX5_addCause_18 (fun h1 hd => ?_)
  refine a_aload_n (pc := 19) hG 0 rfl dX5_addCause_19 rfl ?_
  refine a_dup (pc := 20) hG dX5_addCause_20 rfl ?_
  refine a_getI (pc := 21) hG sc_11 cl_X5 ok_X5 3 (by decide) rfl t_200 dX5_addCause_21 ?_
  refine a_iconst (pc := 24) hG dX5_addCause_24 (v := (nI 1)) rfl ?_
  refine a_iadd (pc := 25) hG dX5_addCause_25 ?_
  refine a_putI (pc := 26) hG sc_11 cl_X5 ok_X5 3 (by decide) rfl t_200 rfl (ty := .int) rfl rfl rfl hd dX5_addCause_26 (fun h2 hd => ?_)
  exact a_vret (pc := 29) hG hd dX5_addCause_29
theorem dX5_tellLastCause_0 : decode cX5_tellLastCause 0 = .ok (.aload_n 0, 1) := by decide +kernel
theorem dX5_tellLastCause_1 : decode cX5_tellLastCause 1 = .ok (.getfield 21, 3) := by decide +kernel
theorem dX5_tellLastCause_4 : decode cX5_tellLastCause 4 = .ok (.ifCond .le 19, 3) := by decide +kernel
theorem dX5_tellLastCause_7 : decode cX5_tellLastCause 7 = .ok (.aload_n 0, 1) := by decide +kernel
theorem dX5_tellLastCause_8 : decode cX5_tellLastCause 8 = .ok (.getfield 40, 3) := by decide +kernel
theorem dX5_tellLastCause_11 : decode cX5_tellLastCause 11 = .ok (.aload_n 0, 1) := by decide +kernel
theorem dX5_tellLastCause_12 : decode cX5_tellLastCause 12 = .ok (.getfield 21, 3) := by decide +kernel
theorem dX5_tellLastCause_15 : decode cX5_tellLastCause 15 = .ok (.iconst 1, 1) := by decide +kernel
theorem dX5_tellLastCause_16 : decode cX5_tellLastCause 16 = .ok (.isub, 1) := by decide +kernel
theorem dX5_tellLastCause_17 : decode cX5_tellLastCause 17 = .ok (.iconst 4, 1) := by decide +kernel
theorem dX5_tellLastCause_18 : decode cX5_tellLastCause 18 = .ok (.imul, 1) := by decide +kernel
theorem dX5_tellLastCause_19 : decode cX5_tellLastCause 19 = .ok (.iload_n 1, 1) := by decide +kernel
theorem dX5_tellLastCause_20 : decode cX5_tellLastCause 20 = .ok (.iadd, 1) := by decide +kernel
theorem dX5_tellLastCause_21 : decode cX5_tellLastCause 21 = .ok (.iload_n 2, 1) := by decide +kernel
theorem dX5_tellLastCause_22 : decode cX5_tellLastCause 22 = .ok (.iastore, 1) := by decide +kernel
theorem dX5_tellLastCause_23 : decode cX5_tellLastCause 23 = .ok (.return_, 1) := by decide +kernel
set_option maxHeartbeats 4000000 in
theorem c_Plan_tellLastCause_11 {ad wad : Nat → Nat} (a0 : Int32) (a1 : Int32) (h : HS)  (q : Unit × HS) (hd : f_Plan_tellLastCause_11 a0 a1 h = some q) : Ctr SHc ad wad yX5_tellLastCause cX5_tellLastCause 3 none 1 [.ref (ad 11), .int a0, .int a1] h (none, q.2) := by
  refine enter (own := RX5) (lv := [(0, .ref (ad 11)), (1, .int a0), (2, .int a1)]) (by decide +kernel) rfl (Nat.le_of_ble_eq_true rfl) rfl (fun Γ hG => ?_)
  unfold f_Plan_tellLastCause_11 at hd
  refine a_aload_n (pc := 0) hG 0 rfl dX5_tellLastCause_0 rfl ?_
  refine a_getI (pc := 1) hG sc_11 cl_X5 ok_X5 3 (by decide) rfl t_200 dX5_tellLastCause_1 ?_
  refine a_if_le (pc := 4) hG (tgt := 23) hd dX5_tellLastCause_4 (by decide) (fun hd => ?_) (fun hd => ?_)
  · exact a_vret (pc := 23) hG hd dX5_tellLastCause_23
  refine a_aload_n (pc := 7) hG 0 rfl dX5_tellLastCause_7 rfl ?_
  refine a_getR (pc := 8) hG sc_11 cl_X5 ok_X5 9 (by decide) rfl t_206 dX5_tellLastCause_8 ?_
  refine a_aload_n (pc := 11) hG 0 rfl dX5_tellLastCause_11 rfl ?_
  refine a_getI (pc := 12) hG sc_11 cl_X5 ok_X5 3 (by decide) rfl t_200 dX5_tellLastCause_12 ?_
  refine a_iconst (pc := 15) hG dX5_tellLastCause_15 (v := (nI 1)) rfl ?_
  refine a_isub (pc := 16) hG dX5_tellLastCause_16 ?_
  refine a_iconst (pc := 17) hG dX5_tellLastCause_17 (v := (nI 4)) rfl ?_
  refine a_imul (pc := 18) hG dX5_tellLastCause_18 ?_
  refine a_iload_n (pc := 19) hG 1 rfl dX5_tellLastCause_19 rfl ?_
  refine a_iadd (pc := 20) hG dX5_tellLastCause_20 ?_
  refine a_iload_n (pc := 21) hG 2 rfl dX5_tellLastCause_21 rfl ?_
  refine a_iast (pc := 22) hG sc_15 hd dX5_tellLastCause_22 (fun h1 hd => ?_)
  exact a_vret (pc := 23) hG hd dX5_tellLastCause_23
theorem dX4_readCause_0 : decode cX4_readCause 0 = .ok (.aload_n 0, 1) := by decide +kernel
theorem dX4_readCause_1 : decode cX4_readCause 1 = .ok (.getfield 15, 3) := by decide +kernel
theorem dX4_readCause_4 : decode cX4_readCause 4 = .ok (.invokevirtual 112, 3) := by decide +kernel
theorem dX4_readCause_7 : decode cX4_readCause 7 = .ok (.bipush 6, 2) := by decide +kernel
theorem dX4_readCause_9 : decode cX4_readCause 9 = .ok (.if_icmp .lt 12, 3) := by decide +kernel
theorem dX4_readCause_12 : decode cX4_readCause 12 = .ok (.aload_n 0, 1) := by decide +kernel
theorem dX4_readCause_13 : decode cX4_readCause 13 = .ok (.getfield 9, 3) := by decide +kernel
theorem dX4_readCause_16 : decode cX4_readCause 16 = .ok (.iconst 4, 1) := by decide +kernel
theorem dX4_readCause_17 : decode cX4_readCause 17 = .ok (.invokevirtual 91, 3) := by decide +kernel
theorem dX4_readCause_20 : decode cX4_readCause 20 = .ok (.ireturn, 1) := by decide +kernel
theorem dX4_readCause_21 : decode cX4_readCause 21 = .ok (.aload_n 0, 1) := by decide +kernel
theorem dX4_readCause_22 : decode cX4_readCause 22 = .ok (.getfield 9, 3) := by decide +kernel
theorem dX4_readCause_25 : decode cX4_readCause 25 = .ok (.invokevirtual 94, 3) := by decide +kernel
theorem dX4_readCause_28 : decode cX4_readCause 28 = .ok (.aload_n 0, 1) := by decide +kernel
theorem dX4_readCause_29 : decode cX4_readCause 29 = .ok (.invokevirtual 115, 3) := by decide +kernel
theorem dX4_readCause_32 : decode cX4_readCause 32 = .ok (.ifCond .ne 5, 3) := by decide +kernel
theorem dX4_readCause_35 : decode cX4_readCause 35 = .ok (.iconst 0, 1) := by decide +kernel
theorem dX4_readCause_36 : decode cX4_readCause 36 = .ok (.ireturn, 1) := by decide +kernel
theorem dX4_readCause_37 : decode cX4_readCause 37 = .ok (.aload_n 0, 1) := by decide +kernel
theorem dX4_readCause_38 : decode cX4_readCause 38 = .ok (.getfield 15, 3) := by decide +kernel
theorem dX4_readCause_41 : decode cX4_readCause 41 = .ok (.aload_n 0, 1) := by decide +kernel
theorem dX4_readCause_42 : decode cX4_readCause 42 = .ok (.getfield 9, 3) := by decide +kernel
theorem dX4_readCause_45 : decode cX4_readCause 45 = .ok (.invokevirtual 118, 3) := by decide +kernel
theorem dX4_readCause_48 : decode cX4_readCause 48 = .ok (.invokevirtual 122, 3) := by decide +kernel
theorem dX4_readCause_51 : decode cX4_readCause 51 = .ok (.aload_n 0, 1) := by decide +kernel
theorem dX4_readCause_52 : decode cX4_readCause 52 = .ok (.getfield 9, 3) := by decide +kernel
theorem dX4_readCause_55 : decode cX4_readCause 55 = .ok (.invokevirtual 94, 3) := by decide +kernel
theorem dX4_readCause_58 : decode cX4_readCause 58 = .ok (.iconst 0, 1) := by decide +kernel
theorem dX4_readCause_59 : decode cX4_readCause 59 = .ok (.istore_n 1, 1) := by decide +kernel
theorem dX4_readCause_60 : decode cX4_readCause 60 = .ok (.iload_n 1, 1) := by decide +kernel
theorem dX4_readCause_61 : decode cX4_readCause 61 = .ok (.iconst 3, 1) := by decide +kernel
theorem dX4_readCause_62 : decode cX4_readCause 62 = .ok (.if_icmp .gt 57, 3) := by decide +kernel
theorem dX4_readCause_65 : decode cX4_readCause 65 = .ok (.aload_n 0, 1) := by decide +kernel
theorem dX4_readCause_66 : decode cX4_readCause 66 = .ok (.getfield 9, 3) := by decide +kernel
theorem dX4_readCause_69 : decode cX4_readCause 69 = .ok (.iload_n 1, 1) := by decide +kernel
theorem dX4_readCause_70 : decode cX4_readCause 70 = .ok (.ifCond .ne 7, 3) := by decide +kernel
theorem dX4_readCause_73 : decode cX4_readCause 73 = .ok (.iconst 0, 1) := by decide +kernel
theorem dX4_readCause_74 : decode cX4_readCause 74 = .ok (.goto 4, 3) := by decide +kernel
theorem dX4_readCause_77 : decode cX4_readCause 77 = .ok (.iconst 1, 1) := by decide +kernel
theorem dX4_readCause_78 : decode cX4_readCause 78 = .ok (.iload_n 1, 1) := by decide +kernel
theorem dX4_readCause_79 : decode cX4_readCause 79 = .ok (.iconst 3, 1) := by decide +kernel
theorem dX4_readCause_80 : decode cX4_readCause 80 = .ok (.if_icmp .ne 8, 3) := by decide +kernel
theorem dX4_readCause_83 : decode cX4_readCause 83 = .ok (.bipush 20, 2) := by decide +kernel
theorem dX4_readCause_85 : decode cX4_readCause 85 = .ok (.goto 5, 3) := by decide +kernel
theorem dX4_readCause_88 : decode cX4_readCause 88 = .ok (.bipush 99, 2) := by decide +kernel
theorem dX4_readCause_90 : decode cX4_readCause 90 = .ok (.invokevirtual 97, 3) := by decide +kernel
theorem dX4_readCause_93 : decode cX4_readCause 93 = .ok (.ifCond .ne 5, 3) := by decide +kernel
theorem dX4_readCause_96 : decode cX4_readCause 96 = .ok (.iconst 0, 1) := by decide +kernel
theorem dX4_readCause_97 : decode cX4_readCause 97 = .ok (.ireturn, 1) := by decide +kernel
theorem dX4_readCause_98 : decode cX4_readCause 98 = .ok (.aload_n 0, 1) := by decide +kernel
theorem dX4_readCause_99 : decode cX4_readCause 99 = .ok (.getfield 15, 3) := by decide +kernel
theorem dX4_readCause_102 : decode cX4_readCause 102 = .ok (.iload_n 1, 1) := by decide +kernel
theorem dX4_readCause_103 : decode cX4_readCause 103 = .ok (.aload_n 0, 1) := by decide +kernel
theorem dX4_readCause_104 : decode cX4_readCause 104 = .ok (.getfield 9, 3) := by decide +kernel
theorem dX4_readCause_107 : decode cX4_readCause 107 = .ok (.invokevirtual 101, 3) := by decide +kernel
theorem dX4_readCause_110 : decode cX4_readCause 110 = .ok (.invokevirtual 126, 3) := by decide +kernel
theorem dX4_readCause_113 : decode cX4_readCause 113 = .ok (.iinc 1 1, 3) := by decide +kernel
theorem dX4_readCause_116 : decode cX4_readCause 116 = .ok (.goto (-56), 3) := by decide +kernel
theorem dX4_readCause_119 : decode cX4_readCause 119 = .ok (.iconst 1, 1) := by decide +kernel
theorem dX4_readCause_120 : decode cX4_readCause 120 = .ok (.ireturn, 1) := by decide +kernel
set_option maxHeartbeats 4000000 in
theorem w_l_OffR_readCause_0 {ad wad : Nat → Nat} {Γ : Ctx} (F : Nat) {n : Nat} (hn : 5 ≤ n) (hG : Cx SHc ad wad cX4_readCause 2 RX4 (some .boolean) (n) Γ) {q : Int32 × HS} {g : Nat} {x1 : Int32} {h : HS} (hd : l_OffR_readCause_0 F g x1 h = some q) : AW SHc ad 2 (some (.int q.1), q.2) Γ 60 [(0, .ref (ad 19)), (1, .int x1)] [] h := by
  induction g generalizing x1 h with
  | zero => unfold l_OffR_readCause_0 at hd; cases hd
  | succ g ih =>
    unfold l_OffR_readCause_0 at hd
    refine a_iload_n (pc := 60) hG 1 rfl dX4_readCause_60 rfl ?_
    refine a_iconst (pc := 61) hG dX4_readCause_61 (v := (nI 3)) rfl ?_
    refine a_ic_gt (pc := 62) hG (tgt := 119) hd dX4_readCause_62 (by decide) (fun hd => ?_) (fun hd => ?_)
    · refine a_iconst (pc := 119) hG dX4_readCause_119 (v := (nI 1)) rfl ?_
      exact a_zret (pc := 120) hG hd dX4_readCause_120
    refine a_aload_n (pc := 65) hG 0 rfl dX4_readCause_65 rfl ?_
    refine a_getR (pc := 66) hG sc_19 cl_X4 ok_X4 0 (by decide) rfl t_245 dX4_readCause_66 ?_
    refine a_iload_n (pc := 69) hG 1 rfl dX4_readCause_69 rfl ?_
    refine a_join hd (Q := fun J : Int32 → HS → Option (Int32 × HS) => ∀ (v12 : Int32) (h13 : HS), J v12 h13 = some q → AW SHc ad 2 (some (.int q.1), q.2) Γ 78 [(0, .ref (ad 19)), (1, .int x1)] [.int v12, .ref (ad 1)] h13) (fun v12 h13 hd => ?_) (fun J11 hJ11 hd => ?_)
    · refine a_iload_n (pc := 78) hG 1 rfl dX4_readCause_78 rfl ?_
      refine a_iconst (pc := 79) hG dX4_readCause_79 (v := (nI 3)) rfl ?_
      refine a_join hd (Q := fun J : Int32 → HS → Option (Int32 × HS) => ∀ (v15 : Int32) (h16 : HS), J v15 h16 = some q → AW SHc ad 2 (some (.int q.1), q.2) Γ 90 [(0, .ref (ad 19)), (1, .int x1)] [.int v15, .int v12, .ref (ad 1)] h16) (fun v15 h16 hd => ?_) (fun J14 hJ14 hd => ?_)
      · refine a_cvI (pc := 90) hG (As := [.int v12, .int v15]) (st := []) sc_1 cl_X8 mk_X8_takeNumber t_619 (by omega) (fun z hz => c_Tape_takeNumber F v12 v15 _  z hz) rfl (Nat.le_of_ble_eq_true rfl) hd dX4_readCause_90 (fun r18 h17 hd => ?_)
        refine a_if_ne (pc := 93) hG (tgt := 98) hd dX4_readCause_93 (by decide) (fun hd => ?_) (fun hd => ?_)
        · refine a_aload_n (pc := 98) hG 0 rfl dX4_readCause_98 rfl ?_
          refine a_getR (pc := 99) hG sc_19 cl_X4 ok_X4 1 (by decide) rfl t_246 dX4_readCause_99 ?_
          refine a_iload_n (pc := 102) hG 1 rfl dX4_readCause_102 rfl ?_
          refine a_aload_n (pc := 103) hG 0 rfl dX4_readCause_103 rfl ?_
          refine a_getR (pc := 104) hG sc_19 cl_X4 ok_X4 0 (by decide) rfl t_245 dX4_readCause_104 ?_
          refine a_cvI (pc := 107) hG (As := []) (st := [.int x1, .ref (ad 11)]) sc_1 cl_X8 mk_X8_taken t_624 (by omega) (fun z hz => c_Tape_taken  _  z hz) rfl (Nat.le_of_ble_eq_true rfl) hd dX4_readCause_107 (fun r20 h19 hd => ?_)
          refine a_cvN (pc := 110) hG (As := [.int x1, .int r20]) (st := []) sc_11 cl_X5 mk_X5_tellLastCause t_689 (by omega) (fun z hz => c_Plan_tellLastCause_11 x1 r20 _  z hz) rfl (Nat.le_of_ble_eq_true rfl) hd dX4_readCause_110 (fun _ h21 hd => ?_)
          refine a_iincN (pc := 113) hG (c0 := (nI 1)) 1 rfl hd dX4_readCause_113 rfl (by decide) (lf := fun x => [(1, .int x), (0, .ref (ad 19))]) (fun _ => rfl) (fun v22 hd => ?_)
          refine a_goto (pc := 116) hG (tgt := 60) dX4_readCause_116 (by decide) ?_
          exact AW.sub [1, 0] rfl (ih hd)
        refine a_iconst (pc := 96) hG dX4_readCause_96 (v := (nI 0)) rfl ?_
        exact a_zret (pc := 97) hG hd dX4_readCause_97
      refine a_ic_ne (pc := 80) hG (tgt := 88) hd dX4_readCause_80 (by decide) (fun hd => ?_) (fun hd => ?_)
      · refine a_bipush (pc := 88) hG dX4_readCause_88 (v := (nI 99)) rfl ?_
        exact AW.sub [0, 1] rfl (hJ14 _ _ hd)
      refine a_bipush (pc := 83) hG dX4_readCause_83 (v := (nI 20)) rfl ?_
      refine a_goto (pc := 85) hG (tgt := 90) dX4_readCause_85 (by decide) ?_
      exact AW.sub [0, 1] rfl (hJ14 _ _ hd)
    refine a_if_ne (pc := 70) hG (tgt := 77) hd dX4_readCause_70 (by decide) (fun hd => ?_) (fun hd => ?_)
    · refine a_iconst (pc := 77) hG dX4_readCause_77 (v := (nI 1)) rfl ?_
      exact AW.sub [0, 1] rfl (hJ11 _ _ hd)
    refine a_iconst (pc := 73) hG dX4_readCause_73 (v := (nI 0)) rfl ?_
    refine a_goto (pc := 74) hG (tgt := 78) dX4_readCause_74 (by decide) ?_
    exact AW.sub [0, 1] rfl (hJ11 _ _ hd)
set_option maxHeartbeats 4000000 in
theorem c_OffR_readCause {ad wad : Nat → Nat} (F : Nat)  (h : HS)  (q : Int32 × HS) (hd : f_OffR_readCause F  h = some q) : Ctr SHc ad wad yX4_readCause cX4_readCause 2 (some .boolean) 5 [.ref (ad 19)] h (some (.int q.1), q.2) := by
  refine enter (own := RX4) (lv := [(0, .ref (ad 19))]) (by decide +kernel) rfl (Nat.le_of_ble_eq_true rfl) rfl (fun Γ hG => ?_)
  unfold f_OffR_readCause at hd
  refine a_aload_n (pc := 0) hG 0 rfl dX4_readCause_0 rfl ?_
  refine a_getR (pc := 1) hG sc_19 cl_X4 ok_X4 1 (by decide) rfl t_246 dX4_readCause_1 ?_
  refine a_cvI (pc := 4) hG (As := []) (st := []) sc_11 cl_X5 mk_X5_causes t_648 (by omega) (fun z hz => c_Plan_causes_11  _  z hz) rfl (Nat.le_of_ble_eq_true rfl) hd dX4_readCause_4 (fun r2 h1 hd => ?_)
  refine a_bipush (pc := 7) hG dX4_readCause_7 (v := (nI 6)) rfl ?_
  refine a_ic_lt (pc := 9) hG (tgt := 21) hd dX4_readCause_9 (by decide) (fun hd => ?_) (fun hd => ?_)
  · refine a_aload_n (pc := 21) hG 0 rfl dX4_readCause_21 rfl ?_
    refine a_getR (pc := 22) hG sc_19 cl_X4 ok_X4 0 (by decide) rfl t_245 dX4_readCause_22 ?_
    refine a_cvN (pc := 25) hG (As := []) (st := []) sc_1 cl_X8 mk_X8_advance t_618 (by omega) (fun z hz => c_Tape_advance F  _  z hz) rfl (Nat.le_of_ble_eq_true rfl) hd dX4_readCause_25 (fun _ h3 hd => ?_)
    refine a_aload_n (pc := 28) hG 0 rfl dX4_readCause_28 rfl ?_
    refine a_cvI (pc := 29) hG (As := []) (st := []) sc_19 cl_X4 mk_X4_isNewName t_649 (by omega) (fun z hz => c_OffR_isNewName F  _  z hz) rfl (Nat.le_of_ble_eq_true rfl) hd dX4_readCause_29 (fun r5 h4 hd => ?_)
    refine a_if_ne (pc := 32) hG (tgt := 37) hd dX4_readCause_32 (by decide) (fun hd => ?_) (fun hd => ?_)
    · refine a_aload_n (pc := 37) hG 0 rfl dX4_readCause_37 rfl ?_
      refine a_getR (pc := 38) hG sc_19 cl_X4 ok_X4 1 (by decide) rfl t_246 dX4_readCause_38 ?_
      refine a_aload_n (pc := 41) hG 0 rfl dX4_readCause_41 rfl ?_
      refine a_getR (pc := 42) hG sc_19 cl_X4 ok_X4 0 (by decide) rfl t_245 dX4_readCause_42 ?_
      refine a_cvL (pc := 45) hG (As := []) (st := [.ref (ad 11)]) sc_1 cl_X8 mk_X8_letters t_662 (by omega) (fun z hz => c_Tape_letters  _  z hz) rfl (Nat.le_of_ble_eq_true rfl) hd dX4_readCause_45 (fun r7 h6 hd => ?_)
      refine a_cvN (pc := 48) hG (As := [.long r7]) (st := []) sc_11 cl_X5 mk_X5_addCause t_685 (by omega) (fun z hz => c_Plan_addCause_11 r7 _  z hz) rfl (Nat.le_of_ble_eq_true rfl) hd dX4_readCause_48 (fun _ h8 hd => ?_)
      refine a_aload_n (pc := 51) hG 0 rfl dX4_readCause_51 rfl ?_
      refine a_getR (pc := 52) hG sc_19 cl_X4 ok_X4 0 (by decide) rfl t_245 dX4_readCause_52 ?_
      refine a_cvN (pc := 55) hG (As := []) (st := []) sc_1 cl_X8 mk_X8_advance t_618 (by omega) (fun z hz => c_Tape_advance F  _  z hz) rfl (Nat.le_of_ble_eq_true rfl) hd dX4_readCause_55 (fun _ h9 hd => ?_)
      refine a_iconst (pc := 58) hG dX4_readCause_58 (v := (nI 0)) rfl ?_
      refine a_istore_nN (pc := 59) hG hd dX4_readCause_59 rfl (by decide) (lf := fun x => [(1, .int x), (0, .ref (ad 19))]) (fun _ => rfl) (fun v10 hd => ?_)
      refine AW.sub [1, 0] rfl ?_
      exact w_l_OffR_readCause_0 F (by omega) hG hd
    refine a_iconst (pc := 35) hG dX4_readCause_35 (v := (nI 0)) rfl ?_
    exact a_zret (pc := 36) hG hd dX4_readCause_36
  refine a_aload_n (pc := 12) hG 0 rfl dX4_readCause_12 rfl ?_
  refine a_getR (pc := 13) hG sc_19 cl_X4 ok_X4 0 (by decide) rfl t_245 dX4_readCause_13 ?_
  refine a_iconst (pc := 16) hG dX4_readCause_16 (v := (nI 4)) rfl ?_
  refine a_cvI (pc := 17) hG (As := [.int (nI 4)]) (st := []) sc_1 cl_X8 mk_X8_fail t_614 (by omega) (fun z hz => c_Tape_fail (nI 4) _  z hz) rfl (Nat.le_of_ble_eq_true rfl) hd dX4_readCause_17 (fun r24 h23 hd => ?_)
  exact a_zret (pc := 20) hG hd dX4_readCause_20
theorem dX5_tellCoin_0 : decode cX5_tellCoin 0 = .ok (.aload_n 0, 1) := by decide +kernel
theorem dX5_tellCoin_1 : decode cX5_tellCoin 1 = .ok (.iload_n 1, 1) := by decide +kernel
theorem dX5_tellCoin_2 : decode cX5_tellCoin 2 = .ok (.putfield 18, 3) := by decide +kernel
theorem dX5_tellCoin_5 : decode cX5_tellCoin 5 = .ok (.return_, 1) := by decide +kernel
set_option maxHeartbeats 4000000 in
theorem c_Plan_tellCoin_11 {ad wad : Nat → Nat} (a0 : Int32) (h : HS)  (q : Unit × HS) (hd : f_Plan_tellCoin_11 a0 h = some q) : Ctr SHc ad wad yX5_tellCoin cX5_tellCoin 2 none 1 [.ref (ad 11), .int a0] h (none, q.2) := by
  refine enter (own := RX5) (lv := [(0, .ref (ad 11)), (1, .int a0)]) (by decide +kernel) rfl (Nat.le_of_ble_eq_true rfl) rfl (fun Γ hG => ?_)
  unfold f_Plan_tellCoin_11 at hd
  refine a_aload_n (pc := 0) hG 0 rfl dX5_tellCoin_0 rfl ?_
  refine a_iload_n (pc := 1) hG 1 rfl dX5_tellCoin_1 rfl ?_
  refine a_putI (pc := 2) hG sc_11 cl_X5 ok_X5 2 (by decide) rfl t_199 rfl (ty := .int) rfl rfl rfl hd dX5_tellCoin_2 (fun h1 hd => ?_)
  exact a_vret (pc := 5) hG hd dX5_tellCoin_5
theorem dX4_readCoin_0 : decode cX4_readCoin 0 = .ok (.aload_n 0, 1) := by decide +kernel
theorem dX4_readCoin_1 : decode cX4_readCoin 1 = .ok (.getfield 28, 3) := by decide +kernel
theorem dX4_readCoin_4 : decode cX4_readCoin 4 = .ok (.ifCond .eq 12, 3) := by decide +kernel
theorem dX4_readCoin_7 : decode cX4_readCoin 7 = .ok (.aload_n 0, 1) := by decide +kernel
theorem dX4_readCoin_8 : decode cX4_readCoin 8 = .ok (.getfield 9, 3) := by decide +kernel
theorem dX4_readCoin_11 : decode cX4_readCoin 11 = .ok (.iconst 3, 1) := by decide +kernel
theorem dX4_readCoin_12 : decode cX4_readCoin 12 = .ok (.invokevirtual 91, 3) := by decide +kernel
theorem dX4_readCoin_15 : decode cX4_readCoin 15 = .ok (.ireturn, 1) := by decide +kernel
theorem dX4_readCoin_16 : decode cX4_readCoin 16 = .ok (.aload_n 0, 1) := by decide +kernel
theorem dX4_readCoin_17 : decode cX4_readCoin 17 = .ok (.iconst 1, 1) := by decide +kernel
theorem dX4_readCoin_18 : decode cX4_readCoin 18 = .ok (.putfield 28, 3) := by decide +kernel
theorem dX4_readCoin_21 : decode cX4_readCoin 21 = .ok (.aload_n 0, 1) := by decide +kernel
theorem dX4_readCoin_22 : decode cX4_readCoin 22 = .ok (.getfield 9, 3) := by decide +kernel
theorem dX4_readCoin_25 : decode cX4_readCoin 25 = .ok (.invokevirtual 94, 3) := by decide +kernel
theorem dX4_readCoin_28 : decode cX4_readCoin 28 = .ok (.aload_n 0, 1) := by decide +kernel
theorem dX4_readCoin_29 : decode cX4_readCoin 29 = .ok (.getfield 9, 3) := by decide +kernel
theorem dX4_readCoin_32 : decode cX4_readCoin 32 = .ok (.iconst 0, 1) := by decide +kernel
theorem dX4_readCoin_33 : decode cX4_readCoin 33 = .ok (.sipush 999, 3) := by decide +kernel
theorem dX4_readCoin_36 : decode cX4_readCoin 36 = .ok (.invokevirtual 97, 3) := by decide +kernel
theorem dX4_readCoin_39 : decode cX4_readCoin 39 = .ok (.ifCond .ne 5, 3) := by decide +kernel
theorem dX4_readCoin_42 : decode cX4_readCoin 42 = .ok (.iconst 0, 1) := by decide +kernel
theorem dX4_readCoin_43 : decode cX4_readCoin 43 = .ok (.ireturn, 1) := by decide +kernel
theorem dX4_readCoin_44 : decode cX4_readCoin 44 = .ok (.aload_n 0, 1) := by decide +kernel
theorem dX4_readCoin_45 : decode cX4_readCoin 45 = .ok (.getfield 15, 3) := by decide +kernel
theorem dX4_readCoin_48 : decode cX4_readCoin 48 = .ok (.aload_n 0, 1) := by decide +kernel
theorem dX4_readCoin_49 : decode cX4_readCoin 49 = .ok (.getfield 9, 3) := by decide +kernel
theorem dX4_readCoin_52 : decode cX4_readCoin 52 = .ok (.invokevirtual 101, 3) := by decide +kernel
theorem dX4_readCoin_55 : decode cX4_readCoin 55 = .ok (.invokevirtual 109, 3) := by decide +kernel
theorem dX4_readCoin_58 : decode cX4_readCoin 58 = .ok (.iconst 1, 1) := by decide +kernel
theorem dX4_readCoin_59 : decode cX4_readCoin 59 = .ok (.ireturn, 1) := by decide +kernel
set_option maxHeartbeats 4000000 in
theorem c_OffR_readCoin {ad wad : Nat → Nat} (F : Nat)  (h : HS)  (q : Int32 × HS) (hd : f_OffR_readCoin F  h = some q) : Ctr SHc ad wad yX4_readCoin cX4_readCoin 1 (some .boolean) 4 [.ref (ad 19)] h (some (.int q.1), q.2) := by
  refine enter (own := RX4) (lv := [(0, .ref (ad 19))]) (by decide +kernel) rfl (Nat.le_of_ble_eq_true rfl) rfl (fun Γ hG => ?_)
  unfold f_OffR_readCoin at hd
  refine a_aload_n (pc := 0) hG 0 rfl dX4_readCoin_0 rfl ?_
  refine a_getI (pc := 1) hG sc_19 cl_X4 ok_X4 3 (by decide) rfl t_248 dX4_readCoin_1 ?_
  refine a_if_eq (pc := 4) hG (tgt := 16) hd dX4_readCoin_4 (by decide) (fun hd => ?_) (fun hd => ?_)
  · refine a_aload_n (pc := 16) hG 0 rfl dX4_readCoin_16 rfl ?_
    refine a_iconst (pc := 17) hG dX4_readCoin_17 (v := (nI 1)) rfl ?_
    refine a_putI (pc := 18) hG sc_19 cl_X4 ok_X4 3 (by decide) rfl t_248 rfl (ty := .boolean) rfl rfl rfl hd dX4_readCoin_18 (fun h1 hd => ?_)
    refine a_aload_n (pc := 21) hG 0 rfl dX4_readCoin_21 rfl ?_
    refine a_getR (pc := 22) hG sc_19 cl_X4 ok_X4 0 (by decide) rfl t_245 dX4_readCoin_22 ?_
    refine a_cvN (pc := 25) hG (As := []) (st := []) sc_1 cl_X8 mk_X8_advance t_618 (by omega) (fun z hz => c_Tape_advance F  _  z hz) rfl (Nat.le_of_ble_eq_true rfl) hd dX4_readCoin_25 (fun _ h2 hd => ?_)
    refine a_aload_n (pc := 28) hG 0 rfl dX4_readCoin_28 rfl ?_
    refine a_getR (pc := 29) hG sc_19 cl_X4 ok_X4 0 (by decide) rfl t_245 dX4_readCoin_29 ?_
    refine a_iconst (pc := 32) hG dX4_readCoin_32 (v := (nI 0)) rfl ?_
    refine a_sipush (pc := 33) hG dX4_readCoin_33 (v := (nI 999)) rfl ?_
    refine a_cvI (pc := 36) hG (As := [.int (nI 0), .int (nI 999)]) (st := []) sc_1 cl_X8 mk_X8_takeNumber t_619 (by omega) (fun z hz => c_Tape_takeNumber F (nI 0) (nI 999) _  z hz) rfl (Nat.le_of_ble_eq_true rfl) hd dX4_readCoin_36 (fun r4 h3 hd => ?_)
    refine a_if_ne (pc := 39) hG (tgt := 44) hd dX4_readCoin_39 (by decide) (fun hd => ?_) (fun hd => ?_)
    · refine a_aload_n (pc := 44) hG 0 rfl dX4_readCoin_44 rfl ?_
      refine a_getR (pc := 45) hG sc_19 cl_X4 ok_X4 1 (by decide) rfl t_246 dX4_readCoin_45 ?_
      refine a_aload_n (pc := 48) hG 0 rfl dX4_readCoin_48 rfl ?_
      refine a_getR (pc := 49) hG sc_19 cl_X4 ok_X4 0 (by decide) rfl t_245 dX4_readCoin_49 ?_
      refine a_cvI (pc := 52) hG (As := []) (st := [.ref (ad 11)]) sc_1 cl_X8 mk_X8_taken t_624 (by omega) (fun z hz => c_Tape_taken  _  z hz) rfl (Nat.le_of_ble_eq_true rfl) hd dX4_readCoin_52 (fun r6 h5 hd => ?_)
      refine a_cvN (pc := 55) hG (As := [.int r6]) (st := []) sc_11 cl_X5 mk_X5_tellCoin t_638 (by omega) (fun z hz => c_Plan_tellCoin_11 r6 _  z hz) rfl (Nat.le_of_ble_eq_true rfl) hd dX4_readCoin_55 (fun _ h7 hd => ?_)
      refine a_iconst (pc := 58) hG dX4_readCoin_58 (v := (nI 1)) rfl ?_
      exact a_zret (pc := 59) hG hd dX4_readCoin_59
    refine a_iconst (pc := 42) hG dX4_readCoin_42 (v := (nI 0)) rfl ?_
    exact a_zret (pc := 43) hG hd dX4_readCoin_43
  refine a_aload_n (pc := 7) hG 0 rfl dX4_readCoin_7 rfl ?_
  refine a_getR (pc := 8) hG sc_19 cl_X4 ok_X4 0 (by decide) rfl t_245 dX4_readCoin_8 ?_
  refine a_iconst (pc := 11) hG dX4_readCoin_11 (v := (nI 3)) rfl ?_
  refine a_cvI (pc := 12) hG (As := [.int (nI 3)]) (st := []) sc_1 cl_X8 mk_X8_fail t_614 (by omega) (fun z hz => c_Tape_fail (nI 3) _  z hz) rfl (Nat.le_of_ble_eq_true rfl) hd dX4_readCoin_12 (fun r9 h8 hd => ?_)
  exact a_zret (pc := 15) hG hd dX4_readCoin_15
theorem dX5_tellLine_0 : decode cX5_tellLine 0 = .ok (.aload_n 0, 1) := by decide +kernel
theorem dX5_tellLine_1 : decode cX5_tellLine 1 = .ok (.iload_n 1, 1) := by decide +kernel
theorem dX5_tellLine_2 : decode cX5_tellLine 2 = .ok (.putfield 9, 3) := by decide +kernel
theorem dX5_tellLine_5 : decode cX5_tellLine 5 = .ok (.aload_n 0, 1) := by decide +kernel
theorem dX5_tellLine_6 : decode cX5_tellLine 6 = .ok (.iload_n 2, 1) := by decide +kernel
theorem dX5_tellLine_7 : decode cX5_tellLine 7 = .ok (.putfield 15, 3) := by decide +kernel
theorem dX5_tellLine_10 : decode cX5_tellLine 10 = .ok (.return_, 1) := by decide +kernel
set_option maxHeartbeats 4000000 in
theorem c_Plan_tellLine_11 {ad wad : Nat → Nat} (a0 : Int32) (a1 : Int32) (h : HS)  (q : Unit × HS) (hd : f_Plan_tellLine_11 a0 a1 h = some q) : Ctr SHc ad wad yX5_tellLine cX5_tellLine 3 none 1 [.ref (ad 11), .int a0, .int a1] h (none, q.2) := by
  refine enter (own := RX5) (lv := [(0, .ref (ad 11)), (1, .int a0), (2, .int a1)]) (by decide +kernel) rfl (Nat.le_of_ble_eq_true rfl) rfl (fun Γ hG => ?_)
  unfold f_Plan_tellLine_11 at hd
  refine a_aload_n (pc := 0) hG 0 rfl dX5_tellLine_0 rfl ?_
  refine a_iload_n (pc := 1) hG 1 rfl dX5_tellLine_1 rfl ?_
  refine a_putI (pc := 2) hG sc_11 cl_X5 ok_X5 0 (by decide) rfl t_197 rfl (ty := .int) rfl rfl rfl hd dX5_tellLine_2 (fun h1 hd => ?_)
  refine a_aload_n (pc := 5) hG 0 rfl dX5_tellLine_5 rfl ?_
  refine a_iload_n (pc := 6) hG 2 rfl dX5_tellLine_6 rfl ?_
  refine a_putI (pc := 7) hG sc_11 cl_X5 ok_X5 1 (by decide) rfl t_198 rfl (ty := .int) rfl rfl rfl hd dX5_tellLine_7 (fun h2 hd => ?_)
  exact a_vret (pc := 10) hG hd dX5_tellLine_10
theorem dX4_readBounds_0 : decode cX4_readBounds 0 = .ok (.aload_n 0, 1) := by decide +kernel
theorem dX4_readBounds_1 : decode cX4_readBounds 1 = .ok (.getfield 24, 3) := by decide +kernel
theorem dX4_readBounds_4 : decode cX4_readBounds 4 = .ok (.ifCond .eq 12, 3) := by decide +kernel
theorem dX4_readBounds_7 : decode cX4_readBounds 7 = .ok (.aload_n 0, 1) := by decide +kernel
theorem dX4_readBounds_8 : decode cX4_readBounds 8 = .ok (.getfield 9, 3) := by decide +kernel
theorem dX4_readBounds_11 : decode cX4_readBounds 11 = .ok (.iconst 3, 1) := by decide +kernel
theorem dX4_readBounds_12 : decode cX4_readBounds 12 = .ok (.invokevirtual 91, 3) := by decide +kernel
theorem dX4_readBounds_15 : decode cX4_readBounds 15 = .ok (.ireturn, 1) := by decide +kernel
theorem dX4_readBounds_16 : decode cX4_readBounds 16 = .ok (.aload_n 0, 1) := by decide +kernel
theorem dX4_readBounds_17 : decode cX4_readBounds 17 = .ok (.iconst 1, 1) := by decide +kernel
theorem dX4_readBounds_18 : decode cX4_readBounds 18 = .ok (.putfield 24, 3) := by decide +kernel
theorem dX4_readBounds_21 : decode cX4_readBounds 21 = .ok (.aload_n 0, 1) := by decide +kernel
theorem dX4_readBounds_22 : decode cX4_readBounds 22 = .ok (.getfield 9, 3) := by decide +kernel
theorem dX4_readBounds_25 : decode cX4_readBounds 25 = .ok (.invokevirtual 94, 3) := by decide +kernel
theorem dX4_readBounds_28 : decode cX4_readBounds 28 = .ok (.aload_n 0, 1) := by decide +kernel
theorem dX4_readBounds_29 : decode cX4_readBounds 29 = .ok (.getfield 9, 3) := by decide +kernel
theorem dX4_readBounds_32 : decode cX4_readBounds 32 = .ok (.iconst 1, 1) := by decide +kernel
theorem dX4_readBounds_33 : decode cX4_readBounds 33 = .ok (.bipush 98, 2) := by decide +kernel
theorem dX4_readBounds_35 : decode cX4_readBounds 35 = .ok (.invokevirtual 97, 3) := by decide +kernel
theorem dX4_readBounds_38 : decode cX4_readBounds 38 = .ok (.ifCond .ne 5, 3) := by decide +kernel
theorem dX4_readBounds_41 : decode cX4_readBounds 41 = .ok (.iconst 0, 1) := by decide +kernel
theorem dX4_readBounds_42 : decode cX4_readBounds 42 = .ok (.ireturn, 1) := by decide +kernel
theorem dX4_readBounds_43 : decode cX4_readBounds 43 = .ok (.aload_n 0, 1) := by decide +kernel
theorem dX4_readBounds_44 : decode cX4_readBounds 44 = .ok (.getfield 9, 3) := by decide +kernel
theorem dX4_readBounds_47 : decode cX4_readBounds 47 = .ok (.invokevirtual 101, 3) := by decide +kernel
theorem dX4_readBounds_50 : decode cX4_readBounds 50 = .ok (.istore_n 1, 1) := by decide +kernel
theorem dX4_readBounds_51 : decode cX4_readBounds 51 = .ok (.aload_n 0, 1) := by decide +kernel
theorem dX4_readBounds_52 : decode cX4_readBounds 52 = .ok (.getfield 9, 3) := by decide +kernel
theorem dX4_readBounds_55 : decode cX4_readBounds 55 = .ok (.iload_n 1, 1) := by decide +kernel
theorem dX4_readBounds_56 : decode cX4_readBounds 56 = .ok (.iconst 1, 1) := by decide +kernel
theorem dX4_readBounds_57 : decode cX4_readBounds 57 = .ok (.iadd, 1) := by decide +kernel
theorem dX4_readBounds_58 : decode cX4_readBounds 58 = .ok (.bipush 99, 2) := by decide +kernel
theorem dX4_readBounds_60 : decode cX4_readBounds 60 = .ok (.invokevirtual 97, 3) := by decide +kernel
theorem dX4_readBounds_63 : decode cX4_readBounds 63 = .ok (.ifCond .ne 5, 3) := by decide +kernel
theorem dX4_readBounds_66 : decode cX4_readBounds 66 = .ok (.iconst 0, 1) := by decide +kernel
theorem dX4_readBounds_67 : decode cX4_readBounds 67 = .ok (.ireturn, 1) := by decide +kernel
theorem dX4_readBounds_68 : decode cX4_readBounds 68 = .ok (.aload_n 0, 1) := by decide +kernel
theorem dX4_readBounds_69 : decode cX4_readBounds 69 = .ok (.getfield 15, 3) := by decide +kernel
theorem dX4_readBounds_72 : decode cX4_readBounds 72 = .ok (.iload_n 1, 1) := by decide +kernel
theorem dX4_readBounds_73 : decode cX4_readBounds 73 = .ok (.aload_n 0, 1) := by decide +kernel
theorem dX4_readBounds_74 : decode cX4_readBounds 74 = .ok (.getfield 9, 3) := by decide +kernel
theorem dX4_readBounds_77 : decode cX4_readBounds 77 = .ok (.invokevirtual 101, 3) := by decide +kernel
theorem dX4_readBounds_80 : decode cX4_readBounds 80 = .ok (.invokevirtual 105, 3) := by decide +kernel
theorem dX4_readBounds_83 : decode cX4_readBounds 83 = .ok (.iconst 1, 1) := by decide +kernel
theorem dX4_readBounds_84 : decode cX4_readBounds 84 = .ok (.ireturn, 1) := by decide +kernel
set_option maxHeartbeats 4000000 in
theorem c_OffR_readBounds {ad wad : Nat → Nat} (F : Nat)  (h : HS)  (q : Int32 × HS) (hd : f_OffR_readBounds F  h = some q) : Ctr SHc ad wad yX4_readBounds cX4_readBounds 2 (some .boolean) 4 [.ref (ad 19)] h (some (.int q.1), q.2) := by
  refine enter (own := RX4) (lv := [(0, .ref (ad 19))]) (by decide +kernel) rfl (Nat.le_of_ble_eq_true rfl) rfl (fun Γ hG => ?_)
  unfold f_OffR_readBounds at hd
  refine a_aload_n (pc := 0) hG 0 rfl dX4_readBounds_0 rfl ?_
  refine a_getI (pc := 1) hG sc_19 cl_X4 ok_X4 2 (by decide) rfl t_247 dX4_readBounds_1 ?_
  refine a_if_eq (pc := 4) hG (tgt := 16) hd dX4_readBounds_4 (by decide) (fun hd => ?_) (fun hd => ?_)
  · refine a_aload_n (pc := 16) hG 0 rfl dX4_readBounds_16 rfl ?_
    refine a_iconst (pc := 17) hG dX4_readBounds_17 (v := (nI 1)) rfl ?_
    refine a_putI (pc := 18) hG sc_19 cl_X4 ok_X4 2 (by decide) rfl t_247 rfl (ty := .boolean) rfl rfl rfl hd dX4_readBounds_18 (fun h1 hd => ?_)
    refine a_aload_n (pc := 21) hG 0 rfl dX4_readBounds_21 rfl ?_
    refine a_getR (pc := 22) hG sc_19 cl_X4 ok_X4 0 (by decide) rfl t_245 dX4_readBounds_22 ?_
    refine a_cvN (pc := 25) hG (As := []) (st := []) sc_1 cl_X8 mk_X8_advance t_618 (by omega) (fun z hz => c_Tape_advance F  _  z hz) rfl (Nat.le_of_ble_eq_true rfl) hd dX4_readBounds_25 (fun _ h2 hd => ?_)
    refine a_aload_n (pc := 28) hG 0 rfl dX4_readBounds_28 rfl ?_
    refine a_getR (pc := 29) hG sc_19 cl_X4 ok_X4 0 (by decide) rfl t_245 dX4_readBounds_29 ?_
    refine a_iconst (pc := 32) hG dX4_readBounds_32 (v := (nI 1)) rfl ?_
    refine a_bipush (pc := 33) hG dX4_readBounds_33 (v := (nI 98)) rfl ?_
    refine a_cvI (pc := 35) hG (As := [.int (nI 1), .int (nI 98)]) (st := []) sc_1 cl_X8 mk_X8_takeNumber t_619 (by omega) (fun z hz => c_Tape_takeNumber F (nI 1) (nI 98) _  z hz) rfl (Nat.le_of_ble_eq_true rfl) hd dX4_readBounds_35 (fun r4 h3 hd => ?_)
    refine a_if_ne (pc := 38) hG (tgt := 43) hd dX4_readBounds_38 (by decide) (fun hd => ?_) (fun hd => ?_)
    · refine a_aload_n (pc := 43) hG 0 rfl dX4_readBounds_43 rfl ?_
      refine a_getR (pc := 44) hG sc_19 cl_X4 ok_X4 0 (by decide) rfl t_245 dX4_readBounds_44 ?_
      refine a_cvI (pc := 47) hG (As := []) (st := []) sc_1 cl_X8 mk_X8_taken t_624 (by omega) (fun z hz => c_Tape_taken  _  z hz) rfl (Nat.le_of_ble_eq_true rfl) hd dX4_readBounds_47 (fun r6 h5 hd => ?_)
      refine a_istore_nN (pc := 50) hG hd dX4_readBounds_50 rfl (by decide) (lf := fun x => [(1, .int x), (0, .ref (ad 19))]) (fun _ => rfl) (fun v7 hd => ?_)
      refine a_aload_n (pc := 51) hG 1 rfl dX4_readBounds_51 rfl ?_
      refine a_getR (pc := 52) hG sc_19 cl_X4 ok_X4 0 (by decide) rfl t_245 dX4_readBounds_52 ?_
      refine a_iload_n (pc := 55) hG 0 rfl dX4_readBounds_55 rfl ?_
      refine a_iconst (pc := 56) hG dX4_readBounds_56 (v := (nI 1)) rfl ?_
      refine a_iadd (pc := 57) hG dX4_readBounds_57 ?_
      refine a_bipush (pc := 58) hG dX4_readBounds_58 (v := (nI 99)) rfl ?_
      refine a_cvI (pc := 60) hG (As := [.int (v7 + (nI 1)), .int (nI 99)]) (st := []) sc_1 cl_X8 mk_X8_takeNumber t_619 (by omega) (fun z hz => c_Tape_takeNumber F (v7 + (nI 1)) (nI 99) _  z hz) rfl (Nat.le_of_ble_eq_true rfl) hd dX4_readBounds_60 (fun r9 h8 hd => ?_)
      refine a_if_ne (pc := 63) hG (tgt := 68) hd dX4_readBounds_63 (by decide) (fun hd => ?_) (fun hd => ?_)
      · refine a_aload_n (pc := 68) hG 1 rfl dX4_readBounds_68 rfl ?_
        refine a_getR (pc := 69) hG sc_19 cl_X4 ok_X4 1 (by decide) rfl t_246 dX4_readBounds_69 ?_
        refine a_iload_n (pc := 72) hG 0 rfl dX4_readBounds_72 rfl ?_
        refine a_aload_n (pc := 73) hG 1 rfl dX4_readBounds_73 rfl ?_
        refine a_getR (pc := 74) hG sc_19 cl_X4 ok_X4 0 (by decide) rfl t_245 dX4_readBounds_74 ?_
        refine a_cvI (pc := 77) hG (As := []) (st := [.int v7, .ref (ad 11)]) sc_1 cl_X8 mk_X8_taken t_624 (by omega) (fun z hz => c_Tape_taken  _  z hz) rfl (Nat.le_of_ble_eq_true rfl) hd dX4_readBounds_77 (fun r11 h10 hd => ?_)
        refine a_cvN (pc := 80) hG (As := [.int v7, .int r11]) (st := []) sc_11 cl_X5 mk_X5_tellLine t_628 (by omega) (fun z hz => c_Plan_tellLine_11 v7 r11 _  z hz) rfl (Nat.le_of_ble_eq_true rfl) hd dX4_readBounds_80 (fun _ h12 hd => ?_)
        refine a_iconst (pc := 83) hG dX4_readBounds_83 (v := (nI 1)) rfl ?_
        exact a_zret (pc := 84) hG hd dX4_readBounds_84
      refine a_iconst (pc := 66) hG dX4_readBounds_66 (v := (nI 0)) rfl ?_
      exact a_zret (pc := 67) hG hd dX4_readBounds_67
    refine a_iconst (pc := 41) hG dX4_readBounds_41 (v := (nI 0)) rfl ?_
    exact a_zret (pc := 42) hG hd dX4_readBounds_42
  refine a_aload_n (pc := 7) hG 0 rfl dX4_readBounds_7 rfl ?_
  refine a_getR (pc := 8) hG sc_19 cl_X4 ok_X4 0 (by decide) rfl t_245 dX4_readBounds_8 ?_
  refine a_iconst (pc := 11) hG dX4_readBounds_11 (v := (nI 3)) rfl ?_
  refine a_cvI (pc := 12) hG (As := [.int (nI 3)]) (st := []) sc_1 cl_X8 mk_X8_fail t_614 (by omega) (fun z hz => c_Tape_fail (nI 3) _  z hz) rfl (Nat.le_of_ble_eq_true rfl) hd dX4_readBounds_12 (fun r14 h13 hd => ?_)
  exact a_zret (pc := 15) hG hd dX4_readBounds_15
