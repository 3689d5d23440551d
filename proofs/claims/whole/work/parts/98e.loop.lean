/-! ===== the law's loop and its start ===== -/
theorem dL_law_0 : decode cL_law 0 = .ok (.new 8, 3) := by decide +kernel
theorem dL_law_3 : decode cL_law 3 = .ok (.dup, 1) := by decide +kernel
theorem dL_law_4 : decode cL_law 4 = .ok (.invokespecial 24, 3) := by decide +kernel
theorem dL_law_7 : decode cL_law 7 = .ok (.astore_n 1, 1) := by decide +kernel
theorem dL_law_8 : decode cL_law 8 = .ok (.new 25, 3) := by decide +kernel
theorem dL_law_11 : decode cL_law 11 = .ok (.dup, 1) := by decide +kernel
theorem dL_law_12 : decode cL_law 12 = .ok (.invokespecial 27, 3) := by decide +kernel
theorem dL_law_15 : decode cL_law 15 = .ok (.astore_n 2, 1) := by decide +kernel
theorem dL_law_16 : decode cL_law 16 = .ok (.iconst 1, 1) := by decide +kernel
theorem dL_law_17 : decode cL_law 17 = .ok (.newarray .long, 2) := by decide +kernel
theorem dL_law_19 : decode cL_law 19 = .ok (.astore_n 3, 1) := by decide +kernel
theorem dL_law_20 : decode cL_law 20 = .ok (.iconst 0, 1) := by decide +kernel
theorem dL_law_21 : decode cL_law 21 = .ok (.istore 4, 2) := by decide +kernel
theorem dL_law_23 : decode cL_law 23 = .ok (.iload 4, 2) := by decide +kernel
theorem dL_law_25 : decode cL_law 25 = .ok (.aload_n 0, 1) := by decide +kernel
theorem dL_law_26 : decode cL_law 26 = .ok (.arraylength, 1) := by decide +kernel
theorem dL_law_27 : decode cL_law 27 = .ok (.bipush 6, 2) := by decide +kernel
theorem dL_law_29 : decode cL_law 29 = .ok (.isub, 1) := by decide +kernel
theorem dL_law_30 : decode cL_law 30 = .ok (.if_icmp .gt 1489, 3) := by decide +kernel
theorem dL_law_33 : decode cL_law 33 = .ok (.aload_n 0, 1) := by decide +kernel
theorem dL_law_34 : decode cL_law 34 = .ok (.iload 4, 2) := by decide +kernel
theorem dL_law_36 : decode cL_law 36 = .ok (.iaload, 1) := by decide +kernel
theorem dL_law_37 : decode cL_law 37 = .ok (.bipush 63, 2) := by decide +kernel
theorem dL_law_39 : decode cL_law 39 = .ok (.iand, 1) := by decide +kernel
theorem dL_law_40 : decode cL_law 40 = .ok (.tableswitch 1473 0 40 #[180, 253, 278, 291, 304, 372, 440, 477, 514, 539, 576, 613, 638, 663, 676, 713, 750, 787, 824, 892, 905, 930, 955, 980, 1005, 1073, 1110, 1135, 1160, 1173, 1198, 1223, 1236, 1273, 1310, 1335, 1360, 1373, 1398, 1423, 1448], 180) := by decide +kernel
theorem dL_law_1513 : decode cL_law 1513 = .ok (.iinc 4 6, 3) := by decide +kernel
theorem dL_law_1516 : decode cL_law 1516 = .ok (.goto (-1493), 3) := by decide +kernel
theorem dL_law_1519 : decode cL_law 1519 = .ok (.iconst 1, 1) := by decide +kernel
theorem dL_law_1520 : decode cL_law 1520 = .ok (.ireturn, 1) := by decide +kernel
theorem l_gt {i L : Nat} (hL : L ≤ 3072) (hi : i ≤ 3072) : (nI L - nI 6 < nI i) ↔ L < i + 6 := by
  have e : (nI L - nI 6).toInt = (L : Int) - 6 := by
    rw [Int32.toInt_sub, toInt_nI (by omega), toInt_nI (by omega)]
    exact Int.bmod_eq_of_le (by omega) (by omega)
  rw [Int32.lt_iff_toInt_lt, e, toInt_nI (by omega)]
  omega
theorem l_end {b o cells slots : Nat} {Γ : CtC} {lv : List (Nat × Value)} {ws : va_W} (hG : CY cL_law 7 nmLaw Γ) (hE : LE b Γ) (hc : cells ≤ 601024) (hs : slots ≤ 7293034) : AL Γ 1519 lv [] ws cells slots := by
  refine z_iconst (v := 1) hG dL_law_1519 (by decide) ?_
  obtain ⟨p, l, e, s, m, args, below, meth, c, D, A⟩ := Γ
  obtain ⟨hx, hb, hml, hown, hts, hA⟩ := hG
  obtain ⟨rfl, hr, hlk, rfl⟩ := hE
  intro H locs ls hl hP hD hK hS
  refine va_forget (fun q hq => hS.2.2 q hq) ?_
  refine W.widen (k := 601024) (n := 7293034) hc hs ?_
  exact lw_ret hx hb hr hlk dL_law_1520
theorem law_sw {wad ad1 ad2 : Nat → Nat} {b L o i cells slots : Nat} {xs : Nat → Int32} {Γ : CtC} {f : Nat → Int64} {hc hm : HS} {P : Pl} {A : Ab} (hG : LG wad ad1 ad2 b L xs Γ) (hf : cells + 1 ≤ 601024 ∧ slots + 6 ≤ 7293034) (hi : i + 6 ≤ L) (q : Rel P A hc hm) (K : KK Γ ad1 ad2 b o i cells slots) : ∀ j, j < 64 → AL Γ 40 (lvL ad1 ad2 b o i) [.int (nI j)] (WW o f ad1 ad2 (cyOf Γ) hc hm) cells slots
  | 0, _ => z_tableIn hG.1 dL_law_40 (by decide) (by decide) (off := 180) (by decide +kernel) (tgt := 220) rfl (lc_feed hG hf hi q K)
  | 1, _ => z_tableIn hG.1 dL_law_40 (by decide) (by decide) (off := 253) (by decide +kernel) (tgt := 293) rfl (lc_end hG hf hi q K)
  | 2, _ => z_tableIn hG.1 dL_law_40 (by decide) (by decide) (off := 278) (by decide +kernel) (tgt := 318) rfl (lc_office hG hf hi q K)
  | 3, _ => z_tableIn hG.1 dL_law_40 (by decide) (by decide) (off := 291) (by decide +kernel) (tgt := 331) rfl (lc_fault hG hf hi q K)
  | 4, _ => z_tableIn hG.1 dL_law_40 (by decide) (by decide) (off := 304) (by decide +kernel) (tgt := 344) rfl (lc_cause hG hf hi q K)
  | 5, _ => z_tableIn hG.1 dL_law_40 (by decide) (by decide) (off := 372) (by decide +kernel) (tgt := 412) rfl (lc_odds hG hf hi q K)
  | 6, _ => z_tableIn hG.1 dL_law_40 (by decide) (by decide) (off := 440) (by decide +kernel) (tgt := 480) rfl (lc_deed hG hf hi q K)
  | 7, _ => z_tableIn hG.1 dL_law_40 (by decide) (by decide) (off := 477) (by decide +kernel) (tgt := 517) rfl (lc_clerk hG hf hi q K)
  | 8, _ => z_tableIn hG.1 dL_law_40 (by decide) (by decide) (off := 514) (by decide +kernel) (tgt := 554) rfl (lc_now hG hf hi q K)
  | 9, _ => z_tableIn hG.1 dL_law_40 (by decide) (by decide) (off := 539) (by decide +kernel) (tgt := 579) rfl (lc_take hG hf hi q K)
  | 10, _ => z_tableIn hG.1 dL_law_40 (by decide) (by decide) (off := 576) (by decide +kernel) (tgt := 616) rfl (lc_act hG hf hi q K)
  | 11, _ => z_tableIn hG.1 dL_law_40 (by decide) (by decide) (off := 613) (by decide +kernel) (tgt := 653) rfl (lc_drop hG hf hi q K)
  | 12, _ => z_tableIn hG.1 dL_law_40 (by decide) (by decide) (off := 638) (by decide +kernel) (tgt := 678) rfl (lc_weeks hG hf hi q K)
  | 13, _ => z_tableIn hG.1 dL_law_40 (by decide) (by decide) (off := 663) (by decide +kernel) (tgt := 703) rfl (lc_undo hG hf hi q K)
  | 14, _ => z_tableIn hG.1 dL_law_40 (by decide) (by decide) (off := 676) (by decide +kernel) (tgt := 716) rfl (lc_nearest hG hf hi q K)
  | 15, _ => z_tableIn hG.1 dL_law_40 (by decide) (by decide) (off := 713) (by decide +kernel) (tgt := 753) rfl (lc_near hG hf hi q K)
  | 16, _ => z_tableIn hG.1 dL_law_40 (by decide) (by decide) (off := 750) (by decide +kernel) (tgt := 790) rfl (lc_orders hG hf hi q K)
  | 17, _ => z_tableIn hG.1 dL_law_40 (by decide) (by decide) (off := 787) (by decide +kernel) (tgt := 827) rfl (lc_ways hG hf hi q K)
  | 18, _ => z_tableIn hG.1 dL_law_40 (by decide) (by decide) (off := 824) (by decide +kernel) (tgt := 864) rfl (lc_value hG hf hi q K)
  | 19, _ => z_tableIn hG.1 dL_law_40 (by decide) (by decide) (off := 892) (by decide +kernel) (tgt := 932) rfl (lc_match hG hf hi q K)
  | 20, _ => z_tableIn hG.1 dL_law_40 (by decide) (by decide) (off := 905) (by decide +kernel) (tgt := 945) rfl (lc_matched hG hf hi q K)
  | 21, _ => z_tableIn hG.1 dL_law_40 (by decide) (by decide) (off := 930) (by decide +kernel) (tgt := 970) rfl (lc_rests hG hf hi q K)
  | 22, _ => z_tableIn hG.1 dL_law_40 (by decide) (by decide) (off := 955) (by decide +kernel) (tgt := 995) rfl (lc_parts hG hf hi q K)
  | 23, _ => z_tableIn hG.1 dL_law_40 (by decide) (by decide) (off := 980) (by decide +kernel) (tgt := 1020) rfl (lc_plot hG hf hi q K)
  | 24, _ => z_tableIn hG.1 dL_law_40 (by decide) (by decide) (off := 1005) (by decide +kernel) (tgt := 1045) rfl (lc_fair hG hf hi q K)
  | 25, _ => z_tableIn hG.1 dL_law_40 (by decide) (by decide) (off := 1073) (by decide +kernel) (tgt := 1113) rfl (lc_school hG hf hi q K)
  | 26, _ => z_tableIn hG.1 dL_law_40 (by decide) (by decide) (off := 1110) (by decide +kernel) (tgt := 1150) rfl (lc_best hG hf hi q K)
  | 27, _ => z_tableIn hG.1 dL_law_40 (by decide) (by decide) (off := 1135) (by decide +kernel) (tgt := 1175) rfl (lc_flags hG hf hi q K)
  | 28, _ => z_tableIn hG.1 dL_law_40 (by decide) (by decide) (off := 1160) (by decide +kernel) (tgt := 1200) rfl (lc_tried hG hf hi q K)
  | 29, _ => z_tableIn hG.1 dL_law_40 (by decide) (by decide) (off := 1173) (by decide +kernel) (tgt := 1213) rfl (lc_pay hG hf hi q K)
  | 30, _ => z_tableIn hG.1 dL_law_40 (by decide) (by decide) (off := 1198) (by decide +kernel) (tgt := 1238) rfl (lc_dies hG hf hi q K)
  | 31, _ => z_tableIn hG.1 dL_law_40 (by decide) (by decide) (off := 1223) (by decide +kernel) (tgt := 1263) rfl (lc_saddest hG hf hi q K)
  | 32, _ => z_tableIn hG.1 dL_law_40 (by decide) (by decide) (off := 1236) (by decide +kernel) (tgt := 1276) rfl (lc_drawn hG hf hi q K)
  | 33, _ => z_tableIn hG.1 dL_law_40 (by decide) (by decide) (off := 1273) (by decide +kernel) (tgt := 1313) rfl (lc_risk hG hf hi q K)
  | 34, _ => z_tableIn hG.1 dL_law_40 (by decide) (by decide) (off := 1310) (by decide +kernel) (tgt := 1350) rfl (lc_ledger hG hf hi q K)
  | 35, _ => z_tableIn hG.1 dL_law_40 (by decide) (by decide) (off := 1335) (by decide +kernel) (tgt := 1375) rfl (lc_booked hG hf hi q K)
  | 36, _ => z_tableIn hG.1 dL_law_40 (by decide) (by decide) (off := 1360) (by decide +kernel) (tgt := 1400) rfl (lc_sentence hG hf hi q K)
  | 37, _ => z_tableIn hG.1 dL_law_40 (by decide) (by decide) (off := 1373) (by decide +kernel) (tgt := 1413) rfl (lc_said hG hf hi q K)
  | 38, _ => z_tableIn hG.1 dL_law_40 (by decide) (by decide) (off := 1398) (by decide +kernel) (tgt := 1438) rfl (lc_image hG hf hi q K)
  | 39, _ => z_tableIn hG.1 dL_law_40 (by decide) (by decide) (off := 1423) (by decide +kernel) (tgt := 1463) rfl (lc_restore hG hf hi q K)
  | 40, _ => z_tableIn hG.1 dL_law_40 (by decide) (by decide) (off := 1448) (by decide +kernel) (tgt := 1488) rfl (lc_count hG hf hi q K)
  | n + 41, h => z_tableOut hG.1 dL_law_40 (Or.inr (by rw [toInt_nI (by omega)]; omega)) (tgt := 1513) rfl (K _ _ _ _ _ _ _ (Nat.le_succ _) (Nat.le_add_right _ _) q)
theorem law_loop {wad ad1 ad2 : Nat → Nat} {b L o : Nat} {xs : Nat → Int32} {Γ : CtC} (hG : LG wad ad1 ad2 b L xs Γ) (hE : LE b Γ) : ∀ (n i : Nat) (f : Nat → Int64) (hc hm : HS) (P : Pl) (A : Ab) (cells slots : Nat), L < i + n → i ≤ L → Rel P A hc hm → cells ≤ 1000 + i → slots ≤ 10000 + 6 * i → AL Γ 23 (lvL ad1 ad2 b o i) [] (WW o f ad1 ad2 (cyOf Γ) hc hm) cells slots := by
  have hL := hG.2.2.2.2.2.2.2.2.2
  intro n
  induction n with
  | zero =>
    intro i f hc hm P A cells slots h1 h2
    exact absurd h1 (by omega)
  | succ n ih =>
    intro i f hc hm P A cells slots h1 h2 q h3 h4
    refine z_iload hG.1 0 rfl dL_law_23 ?_
    refine z_aload_n hG.1 1 rfl dL_law_25 rfl ?_
    refine z_slen hG.1 hG.2.2.2.2.2.2.1 hG.2.2.2.2.2.2.2.1 hG.2.2.2.2.2.2.2.2.1 dL_law_26 ?_
    refine z_bipush (v := nI 6) hG.1 dL_law_27 (by decide) ?_
    refine z_isub hG.1 dL_law_29 ?_
    refine z_ic_gt hG.1 (tgt := 1519) dL_law_30 rfl (fun _ => l_end (o := o) hG.1 hE (by omega) (by omega)) (fun hn => ?_)
    have hi : i + 6 ≤ L := by
      have hn : ¬ nI L - nI 6 < nI i := hn
      rw [l_gt hL (by omega)] at hn
      omega
    refine z_aload_n hG.1 1 rfl dL_law_33 rfl ?_
    refine z_iload hG.1 0 rfl dL_law_34 ?_
    refine z_sld hG.1 hG.2.2.2.2.2.2.1 hG.2.2.2.2.2.2.2.1 hG.2.2.2.2.2.2.2.2.1 (vp_in_nI (show i < L by omega) (by omega)) dL_law_36 ?_
    refine z_bipush (v := nI 63) hG.1 dL_law_37 (by decide) ?_
    refine z_iand hG.1 dL_law_39 ?_
    obtain ⟨j, hj, ej⟩ := and63 (xs (nI i).toNatClampNeg)
    rw [ej]
    refine law_sw hG ⟨by omega, by omega⟩ hi q (fun f2 hc2 hm2 P2 A2 c2 s2 k1 k2 q2 => ?_) j hj
    refine z_iinc (v := nI (i + 6)) (lv' := lvL ad1 ad2 b o (i + 6)) hG.1 0 rfl dL_law_1513 (nI_add i 6) (by decide) rfl ?_
    refine z_goto hG.1 (tgt := 23) dL_law_1516 rfl ?_
    exact ih (i + 6) f2 hc2 hm2 P2 A2 c2 s2 (by omega) (by omega) q2 (by omega) (by omega)
theorem l_ws {R : Room} {nL : Nat} {Q : CtC → State → Prop} {Γ : CtC} {pc cells slots : Nat} {lv : List (Nat × Value)} {st : List Value} {ws ws2 : va_W} {tys : List (ClassId × FieldType)} (e : ws = ws2) (k : AC R nL Q Γ pc lv st ws2 tys cells slots) : AC R nL Q Γ pc lv st ws tys cells slots := by
  rw [e]
  exact k
theorem WW_s {o : Nat} {f : Nat → Int64} {ad1 ad2 : Nat → Nat} {cy : Nat → ClassId} {hc hm : HS} : [((o, .inl (cy 2, 1, .inr (.inl f))) : Nat × va_E)] ++ (wl SHc ad1 cy hc ++ wl SHm ad2 cy hm) = WW o f ad1 ad2 cy hc hm := by rw [WW_c]
set_option maxHeartbeats 4000000 in
theorem l_st3 {wad : Nat → Nat} {b L : Nat} {xs : Nat → Int32} {Γ : CtC} (hG : CY cL_law 7 nmLaw Γ) (hZ : GSat wad Γ) (hT : TH Γ.2.2.2.2.2.2.2.2.2.2 Γ.2.2.2.1 Γ.2.2.2.1.heap) (hl0 : Γ.2.1.stackTraces = false) (hX : va_X b L xs Γ.2.2.2.1 Γ.2.2.2.1.heap) (hbl : b < Γ.2.2.2.1.heap.size) (hbA : ¬ Γ.2.2.2.2.2.2.2.2.2.2 b) (hL : L ≤ 3072) (hE : LE b Γ) {ad1 ad2 : Nat → Nat} {hc2 hm2 : HS} {P : Pl} {A : Ab} {cells slots : Nat} (hI1 : Inj SHc ad1) (hI2 : Inj SHm ad2) (q : Rel P A hc2 hm2) (hc : cells ≤ 500) (hs : slots ≤ 9000) : AL Γ 16 [(2, .ref (ad2 0)), (1, .ref (ad1 0)), (0, .ref b)] [] (wl SHc ad1 (cyOf Γ) hc2 ++ wl SHm ad2 (cyOf Γ) hm2) cells slots := by
  refine z_iconst (v := nI 1) hG dL_law_16 (by decide) ?_
  refine z_newa (atype := .long) (ty := .long) (N' := 1) (a0 := (1, .inr (.inl (fun _ => 0)))) hG tl_237 rfl (fun _ => rfl) (by decide) (by decide) (by decide) (show cells + 1 ≤ 601024 by omega) (show slots + 1 ≤ 7293034 by omega) dL_law_17 (fun o cA => ?_)
  refine x_know (fun hk => ?_)
  have ec : cA = cyOf Γ 2 := cy_eq (s := Γ.2.2.2.1) 2 (hk 5 _ rfl)
  clear hk
  subst ec
  refine l_tys ?_
  refine l_swap ?_
  refine l_ws WW_s ?_
  refine z_astore_n (lv' := [(3, .ref o), (2, .ref (ad2 0)), (1, .ref (ad1 0)), (0, .ref b)]) hG dL_law_19 rfl (by decide) rfl ?_
  refine z_iconst (v := nI 0) hG dL_law_20 (by decide) ?_
  refine z_istore (lv' := [(4, .int (nI 0)), (3, .ref o), (2, .ref (ad2 0)), (1, .ref (ad1 0)), (0, .ref b)]) hG dL_law_21 (by decide) rfl ?_
  refine l_sub (lv' := lvL ad1 ad2 b o 0) [0, 4, 3, 2, 1] rfl ?_
  exact law_loop (wad := wad) (xs := xs) (P := P) (A := A) ⟨hG, hZ, hT, hl0, hI1, hI2, hX, hbl, hbA, hL⟩ hE (L + 1) 0 _ _ _ _ _ (by omega) (Nat.zero_le _) q (by omega) (by omega)
set_option maxHeartbeats 4000000 in
theorem l_st2 {wad : Nat → Nat} {b L : Nat} {xs : Nat → Int32} {Γ : CtC} (hG : CY cL_law 7 nmLaw Γ) (hZ : GSat wad Γ) (hT : TH Γ.2.2.2.2.2.2.2.2.2.2 Γ.2.2.2.1 Γ.2.2.2.1.heap) (hl0 : Γ.2.1.stackTraces = false) (hX : va_X b L xs Γ.2.2.2.1 Γ.2.2.2.1.heap) (hbl : b < Γ.2.2.2.1.heap.size) (hbA : ¬ Γ.2.2.2.2.2.2.2.2.2.2 b) (hL : L ≤ 3072) (hE : LE b Γ) (hMO : MO Γ.2.2.2.1) {ad1 : Nat → Nat} {hc2 hm1 hm2 : HS} {P : Pl} {A : Ab} {cells slots : Nat} (hI1 : Inj SHc ad1) (e3 : f_M_clears 20000 hmR = some ((), hm1)) (e4 : f_M_begins 20000 (st hm1 2 (rg (hm1.1 2) 0 72 (hm1.1 3))) = some ((), hm2)) (q : Rel P A hc2 hm2) (hc : cells ≤ 400) (hs : slots ≤ 5000) : AL Γ 8 [(1, .ref (ad1 0)), (0, .ref b)] [] (wl SHc ad1 (cyOf Γ) hc2) cells slots := by
  refine z_new (C := RX12) (T := TX12) (N := 45) (ci := 11) (fs := [.int 0, .null, .int 0, .int 0, .int 0, .int 0, .null, .null, .null, .null, .null, .int 0, .int 0, .int 0, .int 0, .int 0, .int 0, .long 0, .int 0, .int 0, .int 0, .null, .null, .int 0, .null, .null, .null, .null, .int 0, .int 0, .int 0, .int 0, .int 0, .null, .int 0, .null, .int 0, .int 0, .int 0, .int 0, .int 0, .null, .null, .null, .null]) hG ok_X12 cl_X12 tl_1573 tl_1567 t_132 tyX12 tyX12_ok (fun j hj => by rcases (show j = 0 ∨ j = 1 ∨ j = 2 ∨ j = 3 ∨ j = 4 ∨ j = 5 ∨ j = 6 ∨ j = 7 ∨ j = 8 ∨ j = 9 ∨ j = 10 ∨ j = 11 ∨ j = 12 ∨ j = 13 ∨ j = 14 ∨ j = 15 ∨ j = 16 ∨ j = 17 ∨ j = 18 ∨ j = 19 ∨ j = 20 ∨ j = 21 ∨ j = 22 ∨ j = 23 ∨ j = 24 ∨ j = 25 ∨ j = 26 ∨ j = 27 ∨ j = 28 ∨ j = 29 ∨ j = 30 ∨ j = 31 ∨ j = 32 ∨ j = 33 ∨ j = 34 ∨ j = 35 ∨ j = 36 ∨ j = 37 ∨ j = 38 ∨ j = 39 ∨ j = 40 ∨ j = 41 ∨ j = 42 ∨ j = 43 ∨ j = 44 by omega) with rfl | rfl | rfl | rfl | rfl | rfl | rfl | rfl | rfl | rfl | rfl | rfl | rfl | rfl | rfl | rfl | rfl | rfl | rfl | rfl | rfl | rfl | rfl | rfl | rfl | rfl | rfl | rfl | rfl | rfl | rfl | rfl | rfl | rfl | rfl | rfl | rfl | rfl | rfl | rfl | rfl | rfl | rfl | rfl | rfl <;> rfl) (show cells + 1 ≤ 601024 by omega) (show slots + 45 ≤ 7293034 by omega) dL_law_8 (fun q2 => ?_)
  refine z_dup hG dL_law_11 rfl ?_
  refine z_ctor (SH := SHm) (wad := wad) (w1 := wl SHc ad1 (cyOf Γ) hc2) (rest := [.ref q2]) (n := q2) (ci := 11) (NW := []) hG hZ hMO (fun w hw => absurd hw List.not_mem_nil) (fun w hw => absurd hw List.not_mem_nil) (ct_X12 q2 e3 e4) tl_1576 t_132 tl_1574 tl_1575 rfl ⟨by decide +kernel, by decide +kernel, by decide +kernel⟩ rfl rfl ⟨Nat.le_of_ble_eq_true rfl, Nat.le_of_ble_eq_true rfl⟩ (Nat.le_of_ble_eq_true rfl) ⟨show cells + 1 + 18 ≤ 601024 by omega, show slots + 45 + 3145 ≤ 7293034 by omega⟩ dL_law_12 (fun ad2 z2 hI2 => ?_)
  subst z2
  refine z_astore_n (lv' := [(2, .ref (ad2 0)), (1, .ref (ad1 0)), (0, .ref b)]) hG dL_law_15 rfl (by decide) rfl ?_
  exact l_st3 hG hZ hT hl0 hX hbl hbA hL hE hI1 hI2 q (by omega) (by omega)
set_option maxHeartbeats 4000000 in
theorem l_start {wad : Nat → Nat} {b L : Nat} {xs : Nat → Int32} {Γ : CtC} (hG : CY cL_law 7 nmLaw Γ) (hZ : GSat wad Γ) (hT : TH Γ.2.2.2.2.2.2.2.2.2.2 Γ.2.2.2.1 Γ.2.2.2.1.heap) (hl0 : Γ.2.1.stackTraces = false) (hX : va_X b L xs Γ.2.2.2.1 Γ.2.2.2.1.heap) (hbl : b < Γ.2.2.2.1.heap.size) (hbA : ¬ Γ.2.2.2.2.2.2.2.2.2.2 b) (hL : L ≤ 3072) (hE : LE b Γ) (hMO : MO Γ.2.2.2.1) (hN : ∀ w ∈ nwL, NWat w Γ) : AL Γ 0 [(0, .ref b)] [] [] 0 0 := by
  obtain ⟨hc1, hc2, hm1, hm2, P, A, e1, e2, e3, e4, q⟩ := law_first
  refine z_new (C := RX11) (T := TX11) (N := 17) (ci := 10) (fs := [.null, .null, .null, .null, .null, .null, .null, .null, .null, .null, .null, .null, .null, .null, .null, .int 0, .int 0]) hG ok_X11 cl_X11 tl_142 tl_143 t_121 tyX11 tyX11_ok (fun j hj => by rcases (show j = 0 ∨ j = 1 ∨ j = 2 ∨ j = 3 ∨ j = 4 ∨ j = 5 ∨ j = 6 ∨ j = 7 ∨ j = 8 ∨ j = 9 ∨ j = 10 ∨ j = 11 ∨ j = 12 ∨ j = 13 ∨ j = 14 ∨ j = 15 ∨ j = 16 by omega) with rfl | rfl | rfl | rfl | rfl | rfl | rfl | rfl | rfl | rfl | rfl | rfl | rfl | rfl | rfl | rfl | rfl <;> rfl) (Nat.le_of_ble_eq_true rfl) (Nat.le_of_ble_eq_true rfl) dL_law_0 (fun q1 => ?_)
  refine z_dup hG dL_law_3 rfl ?_
  refine z_ctor (SH := SHc) (wad := wad) (w1 := []) (rest := [.ref q1]) (n := q1) (ci := 10) (NW := nwL) hG hZ hMO hN nwL_ok (ct_X11 q1 e1 e2) tl_146 t_121 tl_144 tl_145 rfl ⟨by decide +kernel, by decide +kernel, by decide +kernel⟩ rfl rfl ⟨Nat.le_of_ble_eq_true rfl, Nat.le_of_ble_eq_true rfl⟩ (Nat.le_of_ble_eq_true rfl) ⟨Nat.le_of_ble_eq_true rfl, Nat.le_of_ble_eq_true rfl⟩ dL_law_4 (fun ad1 z1 hI1 => ?_)
  subst z1
  refine l_ws (List.nil_append _) ?_
  refine z_astore_n (lv' := [(1, .ref (ad1 0)), (0, .ref b)]) hG dL_law_7 rfl (by decide) rfl ?_
  exact l_st2 hG hZ hT hl0 hX hbl hbA hL hE hMO hI1 e3 e4 q (by decide) (by decide)
