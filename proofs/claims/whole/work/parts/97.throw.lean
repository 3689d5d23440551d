/-! ===== the four calls that throw ===== -/
def nsX : String := "java/util/NoSuchElementException"
def nsN : List String := ["java/lang/Exception"]
def nsI (c : String) : MethodName := ⟨c, "<init>", "(Ljava/lang/String;)V"⟩
/-- the words of a throw that the list of good ones lacks -/
def nsB : List Cond := [.declares (nsI "java/lang/RuntimeException"), .declares (nsI "java/lang/Exception"), .declares (nsI "java/lang/Throwable"), .castable nsX nsX]
def nsT : List (Nat × String) := [(152, "no such cause, or nothing such of it"), (165, "no such cause, or no such part of its odds"), (239, "no such clerk, or no such cause"), (262, "no such cause, no such part of the bet, or no fair bet")]
def nsW : List Cond := Cond.classLink RX11 150 nsX :: Cond.initialized nsX :: ny_at RX11 154 nsX (ny_ch nsX "java/lang/RuntimeException" 13 prog_24_method_4_code nsN)
theorem nsW_ot : ∀ w ∈ nsW, vx_ot w = true := List.all_eq_true.mp (by decide +kernel)
theorem nsW_ix : nsW = ([1460, 140, 137, 1482, 1491, 1493, 1496, 1498, 1483, 1484, 148, 149, 1485, 1490, 1494, 1514, 1472, 1515, 1474, 1516, 1476, 1486, 1488, 1478, 1510, 1511, 1513, 1478, 1501, 1502, 1503, 1504, 1464, 1504, 1505, 1506, 1507, 1466, 1507, 1508, 1509, 1510, 1468, 1500, 1461, 1462, 1469, 1470, 1471, 1473, 1475, 1477, 1481, 1480, 1479] : List Nat).filterMap (fun i => lw_tbl[i]?) := by decide +kernel
theorem nsW_gd : nsW.all (fun w => goodWord w || decide (w ∈ nsB)) = true := by decide +kernel
theorem nsW_ok {args : Array Value} {s : State} (hts : ∀ w ∈ TB, w.before args s = true) (hB : ∀ w ∈ nsB, w.before args s = true) : ∀ w ∈ nsW, w.before args s = true := by
  intro w hw
  have g := List.all_eq_true.mp nsW_gd w hw
  simp only [Bool.or_eq_true, decide_eq_true_eq] at g
  rcases g with g | g
  · refine hts w (TB_in ?_ g)
    rw [nsW_ix] at hw
    obtain ⟨i, -, hi⟩ := List.mem_filterMap.mp hw
    exact List.mem_of_getElem? hi
  · exact hB w g
theorem nsB_tab : ∀ w ∈ nsB, w.onTables = true := List.all_eq_true.mp (by decide +kernel)
/-- what a throw wants of the statics and of the tables -/
def TH (A : Nat → Prop) (U : State) (H : Heap) : Prop := vx_Zq Bundle.tN "UNASSIGNED_STACK" Bundle.steD A U H ∧ vx_Zq Bundle.tN "SUPPRESSED_SENTINEL" Bundle.listD A U H ∧ (∀ w ∈ nsB, va_Nw w U) ∧ ∀ q ∈ nsT, ∃ sa, vk_R RX11 q.1 q.2 sa U
theorem TH.warm {A : Nat → Prop} {s U : State} {H : Heap} (hW : s.WarmedH U.vm) (h : TH A s H) : TH A U H := by
  obtain ⟨h1, h2, h3, h4⟩ := h
  refine ⟨h1.moved hW.alike, h2.moved hW.alike, fun w hw => ?_, fun q hq => ?_⟩
  · have hz := h3 w hw
    simp only [nsB, List.mem_cons, List.not_mem_nil, or_false] at hw
    rcases hw with rfl | rfl | rfl | rfl
    · exact va_Nw.warmD hW hz
    · exact va_Nw.warmD hW hz
    · exact va_Nw.warmD hW hz
    · exact va_Nw.warmC hW hz
  · obtain ⟨sa, hsa⟩ := h4 q hq
    exact ⟨sa, vk_R.warm hW hsa⟩
theorem TH.same {A : Nat → Prop} {u U : State} {H : Heap} (hv : U.vm = u.vm) (h : TH A u H) : TH A U H := by
  obtain ⟨h1, h2, h3, h4⟩ := h
  have al : u.vm.Alike U.vm := by rw [hv]; exact Vm.Alike.refl _
  refine ⟨h1.moved al, h2.moved al, fun w hw => va_Nw.same (nsB_tab w hw) hv.symm (h3 w hw), fun q hq => ?_⟩
  obtain ⟨sa, hsa⟩ := h4 q hq
  exact ⟨sa, vk_R.same hv hsa⟩
theorem TH.kept {A : Nat → Prop} {U : State} {H H1 : Heap} (h : TH A U H) (hq : ∀ a : Nat, a < H.size → ¬ A a → H1[a]? = H[a]?) : TH A U H1 := ⟨h.1.kept hq, h.2.1.kept hq, h.2.2⟩
theorem TH.narrow {A B : Nat → Prop} {U : State} {H : Heap} (h : TH A U H) (hAB : ∀ q, B q → A q) : TH B U H := ⟨h.1.narrow hAB, h.2.1.narrow hAB, h.2.2⟩
def RX : Room := { frames := 8, cells := 1, slots := 6, locals := 320 }
def XT (ad : Nat → Nat) (h : HS) (cy : Nat → ClassId) (D : va_G) (A : Nat → Prop) : String → State → State → Prop := fun E st t => E = nsX ∧ va_P D vwCl (wl SHc ad cy h) t.heap ∧ va_F A st t
/-- a call's contract: from the cells h, with these arguments, it throws; the cells stay -/
def CtrT (ad wad : Nat → Nat) (y : MethodName) (cc : ByteArray) (nL : Nat) (va : List Value) (h : HS) : Prop :=
  Inj SHc ad → ∀ l : Launch, l.stackTraces = false → ∀ (cy : Nat → ClassId) (D : va_G) (sz : Nat), vx_Met l y (.code y cc nL (some .int) :: TB) RX (va_Pc va (fun U => cyS U = cy ∧ U.heap.size = sz ∧ va_P D vwCl (wl SHc ad cy h) U.heap ∧ va_K D vwCl (tyL cy) U ∧ GS wad (Aw SHc ad sz) U U.heap ∧ TH (Aw SHc ad sz) U U.heap)) (fun _ _ _ _ => False) (XT ad h cy D (Aw SHc ad sz)) 1 6 (Aw SHc ad sz)
def TXh (ad : Nat → Nat) (Γ : CtC) : Prop := match Γ with
  | (_, l, _, s, _, _, _, meth, c, _, A) => l.stackTraces = false ∧ meth.locks = false ∧ (∀ x ∈ c.exceptionTable.toList, False) ∧ TH A s s.heap ∧ A = Aw SHc ad s.heap.size
def QT (ad : Nat → Nat) (h : HS) : CtC → State → Prop := fun Γ => match Γ with
  | (_, _, _, s, _, args, below, _, _, D, A) => vx_MQ below (fun _ _ _ _ => False) (XT ad h (cyS s) D A) args s 1 6 A
theorem y_enterT {ad wad : Nat → Nat} {y : MethodName} {cc : ByteArray} {nL : Nat} {va : List Value} {h : HS} {own : String} {lv : List (Nat × Value)} (hy : plainName y.cls = true) (ho : y.cls = own) (hL : (lg_sl va).length ≤ nL) (hlv : lv_args 0 va = lv)
    (k : Inj SHc ad → ∀ Γ : CtC, CY cc nL own Γ → GSat wad Γ → TXh ad Γ → AC RX nL (QT ad h) Γ 0 lv [] (wl SHc ad (cyOf Γ) h) (tyL (cyOf Γ)) 0 0) : CtrT ad wad y cc nL va h := by
  intro hI l hl0 cy D sz
  refine vx_ofW (cc := cc) (maxL := nL) (ret := some .int) hy rfl ?_
  intro p e s m args below meth c s₁ B hml ht hv
  obtain ⟨rfl, hcy, hsz, hP, hK, hZ, hT⟩ := hv
  subst hcy
  subst hsz
  have hts := atoms_spec (ws := .code y cc nL (some .int) :: TB) B.pre
  have hown : s.vm.findClass own = some m.cls := by rw [← ho]; exact findClass_of_methodNamed B.named
  have hl := lv_entry va (n := nL) hL
  rw [lg_entry_eq]
  generalize (lg_sl va ++ List.replicate (nL - (lg_sl va).length) Slot.unset).toArray = ls at hl ⊢
  rw [hlv] at hl
  exact k hI (p, l, e, s, m, va.toArray, below, meth, c, D, Aw SHc ad s.heap.size) ⟨B.exec, B.bytes, hml, hown, fun w hw => hts w (List.mem_cons_of_mem _ hw), fun q h => Or.inr h⟩ hZ ⟨hl0, B.notSynchronized, ht, hT, rfl⟩ s.heap [] ls hl hP (wl_D hI _ h _) hK va_S.rf
theorem th_482 : Cond.fieldLink RX11 19 (TX11 1).1 (TX11 1).2.1 (TX11 1).2.2.1 ∈ TB := TB_in (List.mem_of_getElem? (i := 482) (by decide +kernel)) rfl
theorem th_485 : Cond.fieldLink RX11 40 (TX11 4).1 (TX11 4).2.1 (TX11 4).2.2.1 ∈ TB := TB_in (List.mem_of_getElem? (i := 485) (by decide +kernel)) rfl
theorem th_790 : Cond.methodLink RX11 177 yX5_hasClerk ∈ TB := TB_in (List.mem_of_getElem? (i := 790) (by decide +kernel)) rfl
theorem th_818 : Cond.methodLink RX11 147 yX5_hasCause ∈ TB := TB_in (List.mem_of_getElem? (i := 818) (by decide +kernel)) rfl
theorem th_1192 : Cond.methodLink RX11 161 yX0_ofCause ∈ TB := TB_in (List.mem_of_getElem? (i := 1192) (by decide +kernel)) rfl
theorem z_throw {ad : Nat → Nat} {cc : ByteArray} {nL pc is : Nat} {Γ : CtC} {text : String} {h : HS} {lv : List (Nat × Value)} (hG : CY cc nL RX11 Γ) (hX : TXh ad Γ) (hq : (is, text) ∈ nsT) (d0 : decode cc pc = .ok (.new 150, 3)) (d3 : decode cc (pc + 3) = .ok (.dup, 1)) (d4 : decode cc (pc + 4) = .ok (.ldc is, 2)) (d6 : decode cc (pc + 6) = .ok (.invokespecial 154, 3)) (d9 : decode cc (pc + 9) = .ok (.athrow, 1)) : AC RX nL (QT ad h) Γ pc lv [] (wl SHc ad (cyOf Γ) h) (tyL (cyOf Γ)) 0 0 := by
  obtain ⟨p, l, e, s, m, args, below, meth, c, D, A⟩ := Γ
  obtain ⟨hx, hb, hml, hown, hts, hA⟩ := hG
  obtain ⟨hl0, hlk, htb, hT, eA⟩ := hX
  intro H locs ls hl hP hD hK hS
  have hwd := nsW_ok hts (fun w hw => va_Nw.use (nsB_tab w hw) (hT.2.2.1 w hw))
  obtain ⟨sa, hsa⟩ := hT.2.2.2 _ hq
  exact ny_throw (own := RX11) (cls := nsX) (text := text) (Y0 := "java/lang/RuntimeException") (names := nsN) (ix := 13) (bytes := prog_24_method_4_code) (ik := 150) (is := is) (ic := 154) (sa := sa) (A := A) hx hb hl0 hown (by decide +kernel) (by decide +kernel) (by decide +kernel) (by decide +kernel) (by decide +kernel) (by decide +kernel) (by decide +kernel) (hwd _ List.mem_cons_self) (hwd _ (List.mem_cons_of_mem _ List.mem_cons_self)) hsa (fun w hw => hwd w (List.mem_cons_of_mem _ (List.mem_cons_of_mem _ hw))) nsW_ot hT.1 hT.2.1 hS (hl.1.trans hml.symm) d0 d3 d4 d6 d9 (fun x hx => (htb x hx).elim) (by decide) (by decide) (by decide) (by decide) hlk (fun t ha hs hf => ⟨rfl, fun k q hk => (hP k q hk).kept (hf q.1 (hP k q hk).lt), Nat.le_trans hS.1 hs, fun q h1 h2 => (hf q (Nat.lt_of_lt_of_le h1 hS.1)).trans (hS.2.1 q h1 h2)⟩) (fun z hz => hS.2.2 z hz) (by decide) (by decide)
theorem z_throwW {ad : Nat → Nat} {cc : ByteArray} {nL pc is : Nat} {Γ : CtC} {text : String} {h : HS} {lv : List (Nat × Value)} (hG : CY cc nL RX11 Γ) (hX : TXh ad Γ) (hq : (is, text) ∈ nsT) (d0 : decode cc pc = .ok (.new 150, 3)) (d3 : decode cc (pc + 3) = .ok (.dup, 1)) (d4 : decode cc (pc + 4) = .ok (.ldc_w is, 3)) (d6 : decode cc (pc + 7) = .ok (.invokespecial 154, 3)) (d9 : decode cc (pc + 10) = .ok (.athrow, 1)) : AC RX nL (QT ad h) Γ pc lv [] (wl SHc ad (cyOf Γ) h) (tyL (cyOf Γ)) 0 0 := by
  obtain ⟨p, l, e, s, m, args, below, meth, c, D, A⟩ := Γ
  obtain ⟨hx, hb, hml, hown, hts, hA⟩ := hG
  obtain ⟨hl0, hlk, htb, hT, eA⟩ := hX
  intro H locs ls hl hP hD hK hS
  have hwd := nsW_ok hts (fun w hw => va_Nw.use (nsB_tab w hw) (hT.2.2.1 w hw))
  obtain ⟨sa, hsa⟩ := hT.2.2.2 _ hq
  exact ny_throwW (own := RX11) (cls := nsX) (text := text) (Y0 := "java/lang/RuntimeException") (names := nsN) (ix := 13) (bytes := prog_24_method_4_code) (ik := 150) (is := is) (ic := 154) (sa := sa) (A := A) hx hb hl0 hown (by decide +kernel) (by decide +kernel) (by decide +kernel) (by decide +kernel) (by decide +kernel) (by decide +kernel) (by decide +kernel) (hwd _ List.mem_cons_self) (hwd _ (List.mem_cons_of_mem _ List.mem_cons_self)) hsa (fun w hw => hwd w (List.mem_cons_of_mem _ (List.mem_cons_of_mem _ hw))) nsW_ot hT.1 hT.2.1 hS (hl.1.trans hml.symm) d0 d3 d4 d6 d9 (fun x hx => (htb x hx).elim) (by decide) (by decide) (by decide) (by decide) hlk (fun t ha hs hf => ⟨rfl, fun k q hk => (hP k q hk).kept (hf q.1 (hP k q hk).lt), Nat.le_trans hS.1 hs, fun q h1 h2 => (hf q (Nat.lt_of_lt_of_le h1 hS.1)).trans (hS.2.1 q h1 h2)⟩) (fun z hz => hS.2.2 z hz) (by decide) (by decide)
theorem z_call1 {R : Room} {cc : ByteArray} {nL : Nat} {own : String} {Q : CtC → State → Prop} {Γ : CtC} {pc : Nat} {lv : List (Nat × Value)} {st : List Value} {cells slots : Nat} {SH : List ShT} {ad wad : Nat → Nat} {h : HS} (hG : CY cc nL own Γ) (hZ : GSat wad Γ) (hI : Inj SH ad) {y : MethodName} {cc2 : ByteArray} {nL2 n2 ix i ci N : Nat} {rt2 : Option FieldType} {ks : List Nat} {C : String} {T : u_T} {As st0 : List Value} {res2 : Option Value × HS} (hs : SH[i]? = some (.inr (ci, ks))) (hc : vwCl[ci]? = some (C, T, N)) (hm : MkV y cc2 nL2 rt2 C As.length) (hlk : Cond.methodLink own ix y ∈ TB) (hn : n2 + 1 ≤ R.frames) (hlo : 40 * (n2 + 1) ≤ R.locals) (hf : cells ≤ R.cells ∧ slots ≤ R.slots) (hC : Ctr SH ad wad y cc2 nL2 rt2 n2 (.ref (ad i) :: As) h res2) (hst : st0 = As.reverse ++ .ref (ad i) :: st) (hw : (st.map fun v => v.category).sum ≤ 8) (d : decode cc pc = .ok (.invokevirtual ix, 3)) (k : AC R nL Q Γ (pc + 3) lv (res2.1.toList ++ st) (wl SH ad (cyOf Γ) res2.2) (tyL (cyOf Γ)) cells slots) : AC R nL Q Γ pc lv st0 (wl SH ad (cyOf Γ) h) (tyL (cyOf Γ)) cells slots :=
  z_call hG hZ hI [] [] (by simp) hs hc hm hlk hn hlo hf hC hst hw d (by simpa using k)
theorem tc_cause {ad wad : Nat → Nat} (a0 a1 : Int32) (h : HS) {x : Int32} (e1 : f_Plan_hasCause_3 a0 h = some (x, h)) (hc : x = 0 ∨ a1 < 0 ∨ ¬ a1 ≤ nI 8) : CtrT ad wad yX11_cause cX11_cause 3 [.ref (ad 0), .int a0, .int a1] h := by
  refine y_enterT (own := RX11) (by decide) rfl (Nat.le_of_ble_eq_true rfl) (lv := [(0, .ref (ad 0)), (1, .int a0), (2, .int a1)]) rfl (fun hI Γ hG hZ hX => ?_)
  refine z_aload_n hG 0 rfl dX11_cause_0 rfl ?_
  refine z_getR (i := 0) (t := 3) hG rfl rfl cl_X11 ok_X11 1 (by decide) rfl th_482 dX11_cause_1 ?_
  refine z_iload_n hG 1 rfl dX11_cause_4 rfl ?_
  refine z_call1 (i := 3) (As := [.int a0]) (st := []) hG hZ hI rfl cl_X5 mk_X5_hasCause th_818 (by decide) (by decide) ⟨by decide, by decide⟩ (c_Plan_hasCause_3 a0 h (x, h) e1) rfl (by decide) dX11_cause_5 ?_
  refine z_if_eq hG (tgt := 21) dX11_cause_8 rfl (fun _ => ?_) (fun q0 => ?_)
  · exact z_throw hG hX (List.mem_of_getElem? (i := 0) rfl) dX11_cause_21 dX11_cause_24 dX11_cause_25 dX11_cause_27 dX11_cause_30
  refine z_iload_n hG 2 rfl dX11_cause_11 rfl ?_
  refine z_if_lt hG (tgt := 21) dX11_cause_12 rfl (fun _ => ?_) (fun q1 => ?_)
  · exact z_throw hG hX (List.mem_of_getElem? (i := 0) rfl) dX11_cause_21 dX11_cause_24 dX11_cause_25 dX11_cause_27 dX11_cause_30
  refine z_iload_n hG 2 rfl dX11_cause_15 rfl ?_
  refine z_bipush (v := nI 8) hG dX11_cause_16 (by decide) ?_
  refine z_ic_le hG (tgt := 31) dX11_cause_18 rfl (fun q2 => ?_) (fun _ => ?_)
  · exact absurd hc (fun z => z.elim q0 (fun z => z.elim q1 (fun z => z q2)))
  · exact z_throw hG hX (List.mem_of_getElem? (i := 0) rfl) dX11_cause_21 dX11_cause_24 dX11_cause_25 dX11_cause_27 dX11_cause_30
theorem tc_odds {ad wad : Nat → Nat} (a0 a1 : Int32) (h : HS) {x : Int32} (e1 : f_Plan_hasCause_3 a0 h = some (x, h)) (hc : x = 0 ∨ a1 < 0 ∨ ¬ a1 ≤ nI 1) : CtrT ad wad yX11_odds cX11_odds 4 [.ref (ad 0), .int a0, .int a1] h := by
  refine y_enterT (own := RX11) (by decide) rfl (Nat.le_of_ble_eq_true rfl) (lv := [(0, .ref (ad 0)), (1, .int a0), (2, .int a1)]) rfl (fun hI Γ hG hZ hX => ?_)
  refine z_aload_n hG 0 rfl dX11_odds_0 rfl ?_
  refine z_getR (i := 0) (t := 3) hG rfl rfl cl_X11 ok_X11 1 (by decide) rfl th_482 dX11_odds_1 ?_
  refine z_iload_n hG 1 rfl dX11_odds_4 rfl ?_
  refine z_call1 (i := 3) (As := [.int a0]) (st := []) hG hZ hI rfl cl_X5 mk_X5_hasCause th_818 (by decide) (by decide) ⟨by decide, by decide⟩ (c_Plan_hasCause_3 a0 h (x, h) e1) rfl (by decide) dX11_odds_5 ?_
  refine z_if_eq hG (tgt := 20) dX11_odds_8 rfl (fun _ => ?_) (fun q0 => ?_)
  · exact z_throw hG hX (List.mem_of_getElem? (i := 1) rfl) dX11_odds_20 dX11_odds_23 dX11_odds_24 dX11_odds_26 dX11_odds_29
  refine z_iload_n hG 2 rfl dX11_odds_11 rfl ?_
  refine z_if_lt hG (tgt := 20) dX11_odds_12 rfl (fun _ => ?_) (fun q1 => ?_)
  · exact z_throw hG hX (List.mem_of_getElem? (i := 1) rfl) dX11_odds_20 dX11_odds_23 dX11_odds_24 dX11_odds_26 dX11_odds_29
  refine z_iload_n hG 2 rfl dX11_odds_15 rfl ?_
  refine z_iconst (v := nI 1) hG dX11_odds_16 (by decide) ?_
  refine z_ic_le hG (tgt := 30) dX11_odds_17 rfl (fun q2 => ?_) (fun _ => ?_)
  · exact absurd hc (fun z => z.elim q0 (fun z => z.elim q1 (fun z => z q2)))
  · exact z_throw hG hX (List.mem_of_getElem? (i := 1) rfl) dX11_odds_20 dX11_odds_23 dX11_odds_24 dX11_odds_26 dX11_odds_29
theorem tc_value {ad wad : Nat → Nat} (a0 a1 : Int32) (h : HS) {x y : Int32} (e1 : f_Plan_hasClerk_3 a0 h = some (x, h)) (e2 : f_Plan_hasCause_3 a1 h = some (y, h)) (hc : x = 0 ∨ y = 0) : CtrT ad wad yX11_value cX11_value 3 [.ref (ad 0), .int a0, .int a1] h := by
  refine y_enterT (own := RX11) (by decide) rfl (Nat.le_of_ble_eq_true rfl) (lv := [(0, .ref (ad 0)), (1, .int a0), (2, .int a1)]) rfl (fun hI Γ hG hZ hX => ?_)
  refine z_aload_n hG 0 rfl dX11_value_0 rfl ?_
  refine z_getR (i := 0) (t := 3) hG rfl rfl cl_X11 ok_X11 1 (by decide) rfl th_482 dX11_value_1 ?_
  refine z_iload_n hG 1 rfl dX11_value_4 rfl ?_
  refine z_call1 (i := 3) (As := [.int a0]) (st := []) hG hZ hI rfl cl_X5 mk_X5_hasClerk th_790 (by decide) (by decide) ⟨by decide, by decide⟩ (c_Plan_hasClerk_3 a0 h (x, h) e1) rfl (by decide) dX11_value_5 ?_
  refine z_if_eq hG (tgt := 22) dX11_value_8 rfl (fun _ => ?_) (fun q0 => ?_)
  · exact z_throw hG hX (List.mem_of_getElem? (i := 2) rfl) dX11_value_22 dX11_value_25 dX11_value_26 dX11_value_28 dX11_value_31
  refine z_aload_n hG 0 rfl dX11_value_11 rfl ?_
  refine z_getR (i := 0) (t := 3) hG rfl rfl cl_X11 ok_X11 1 (by decide) rfl th_482 dX11_value_12 ?_
  refine z_iload_n hG 2 rfl dX11_value_15 rfl ?_
  refine z_call1 (i := 3) (As := [.int a1]) (st := []) hG hZ hI rfl cl_X5 mk_X5_hasCause th_818 (by decide) (by decide) ⟨by decide, by decide⟩ (c_Plan_hasCause_3 a1 h (y, h) e2) rfl (by decide) dX11_value_16 ?_
  refine z_if_ne hG (tgt := 32) dX11_value_19 rfl (fun q1 => ?_) (fun _ => ?_)
  · exact absurd hc (fun z => z.elim q0 q1)
  · exact z_throw hG hX (List.mem_of_getElem? (i := 2) rfl) dX11_value_22 dX11_value_25 dX11_value_26 dX11_value_28 dX11_value_31
theorem tc_fair {ad wad : Nat → Nat} (a0 a1 : Int32) (h : HS) {x : Int32} (e1 : f_Plan_hasCause_3 a0 h = some (x, h)) (e2 : x = 0 ∨ a1 < 0 ∨ nI 1 < a1 ∨ f_Desk_ofCause a0 (nI 0) h = some (0, h)) : CtrT ad wad yX11_fair cX11_fair 3 [.ref (ad 0), .int a0, .int a1] h := by
  refine y_enterT (own := RX11) (by decide) rfl (Nat.le_of_ble_eq_true rfl) (lv := [(0, .ref (ad 0)), (1, .int a0), (2, .int a1)]) rfl (fun hI Γ hG hZ hX => ?_)
  refine z_aload_n hG 0 rfl dX11_fair_0 rfl ?_
  refine z_getR (i := 0) (t := 3) hG rfl rfl cl_X11 ok_X11 1 (by decide) rfl th_482 dX11_fair_1 ?_
  refine z_iload_n hG 1 rfl dX11_fair_4 rfl ?_
  refine z_call1 (i := 3) (As := [.int a0]) (st := []) hG hZ hI rfl cl_X5 mk_X5_hasCause th_818 (by decide) (by decide) ⟨by decide, by decide⟩ (c_Plan_hasCause_3 a0 h (x, h) e1) rfl (by decide) dX11_fair_5 ?_
  refine z_if_eq hG (tgt := 32) dX11_fair_8 rfl (fun _ => ?_) (fun q0 => ?_)
  · exact z_throwW hG hX (List.mem_of_getElem? (i := 3) rfl) dX11_fair_32 dX11_fair_35 dX11_fair_36 dX11_fair_39 dX11_fair_42
  refine z_iload_n hG 2 rfl dX11_fair_11 rfl ?_
  refine z_if_lt hG (tgt := 32) dX11_fair_12 rfl (fun _ => ?_) (fun q1 => ?_)
  · exact z_throwW hG hX (List.mem_of_getElem? (i := 3) rfl) dX11_fair_32 dX11_fair_35 dX11_fair_36 dX11_fair_39 dX11_fair_42
  refine z_iload_n hG 2 rfl dX11_fair_15 rfl ?_
  refine z_iconst (v := nI 1) hG dX11_fair_16 (by decide) ?_
  refine z_ic_gt hG (tgt := 32) dX11_fair_17 rfl (fun _ => ?_) (fun q2 => ?_)
  · exact z_throwW hG hX (List.mem_of_getElem? (i := 3) rfl) dX11_fair_32 dX11_fair_35 dX11_fair_36 dX11_fair_39 dX11_fair_42
  have e3 : f_Desk_ofCause a0 (nI 0) h = some (0, h) := e2.elim (fun z => absurd z q0) (fun z => z.elim (fun z => absurd z q1) (fun z => z.elim (fun z => absurd z q2) id))
  refine z_aload_n hG 0 rfl dX11_fair_20 rfl ?_
  refine z_getR (i := 0) (t := 20) hG rfl rfl cl_X11 ok_X11 4 (by decide) rfl th_485 dX11_fair_21 ?_
  refine z_iload_n hG 1 rfl dX11_fair_24 rfl ?_
  refine z_iconst (v := nI 0) hG dX11_fair_25 (by decide) ?_
  refine z_call1 (i := 20) (As := [.int a0, .int (nI 0)]) (st := []) hG hZ hI rfl cl_X0 mk_X0_ofCause th_1192 (by decide) (by decide) ⟨by decide, by decide⟩ (c_Desk_ofCause a0 (nI 0) h (0, h) e3) rfl (by decide) dX11_fair_26 ?_
  refine z_if_ne hG (tgt := 43) dX11_fair_29 rfl (fun q3 => ?_) (fun _ => ?_)
  · exact absurd rfl q3
  · exact z_throwW hG hX (List.mem_of_getElem? (i := 3) rfl) dX11_fair_32 dX11_fair_35 dX11_fair_36 dX11_fair_39 dX11_fair_42
theorem cyS_alike {s U : State} (hvm : s.vm.Alike U.vm) : cyS U = cyS s := by
  funext k
  unfold cyS
  rw [hvm.findClass]
/-! ===== the law's helpers: a call, its answer kept, its throw caught ===== -/
def nmLaw : String := "LostCausesLaw"
def RH : Room := { frames := 10, cells := 1, slots := 6, locals := 400 }
def AwH (o : Nat) (ad : Nat → Nat) (sz : Nat) : Nat → Prop := fun q => q = o ∨ Aw SHc ad sz q
def wH (o : Nat) (f : Nat → Int64) (ad : Nat → Nat) (cy : Nat → ClassId) (h : HS) : va_W := (o, .inl (cy 2, 1, .inr (.inl f))) :: wl SHc ad cy h
theorem wH_s {o : Nat} {f : Nat → Int64} {ad : Nat → Nat} {cy : Nat → ClassId} {h : HS} (i : Nat) : (wH o f ad cy h)[i + 1]? = (wl SHc ad cy h)[i]? := by
  unfold wH
  exact List.getElem?_cons_succ
theorem wH_z {o : Nat} {f : Nat → Int64} {ad : Nat → Nat} {cy : Nat → ClassId} {h : HS} : (wH o f ad cy h)[0]? = some (o, .inl (cy 2, 1, .inr (.inl f))) := by
  unfold wH
  exact List.getElem?_cons_zero
def hhL : List (Nat × Nat × Nat × Nat) := [(0, 10, 13, 13)]
def QcH (o : Nat) (ad : Nat → Nat) (r : Int32) (f1 : Nat → Int64) (h2 : HS) (cy : Nat → ClassId) (D : va_G) : Array Value → State → Outcome → State → Prop := fun _ st oc t => oc = .returned (some (.int r)) ∧ va_P D vwCl (wH o f1 ad cy h2) t.heap ∧ va_F (AwH o ad st.heap.size) st t
def CtH (ad wad : Nat → Nat) (y : MethodName) (cc : ByteArray) (a b : Int32) (o : Nat) (f0 : Nat → Int64) (h : HS) (r : Int32) (f1 : Nat → Int64) (h2 : HS) : Prop :=
  Inj SHc ad → ∀ l : Launch, l.stackTraces = false → ∀ (cy : Nat → ClassId) (D : va_G) (sz : Nat), Met l y (.codeWith y cc 5 (some .int) hhL :: TB) RH (va_Pc [.ref (ad 0), .int a, .int b, .ref o] (fun U => cyS U = cy ∧ U.heap.size = sz ∧ va_P D vwCl (wH o f0 ad cy h) U.heap ∧ va_K D vwCl (tyL cy) U ∧ va_D (fun _ => True) (wH o f0 ad cy h) ∧ GS wad (AwH o ad sz) U U.heap ∧ TH (AwH o ad sz) U U.heap)) (QcH o ad r f1 h2 cy D) 1 6 (AwH o ad sz)
def THh (o : Nat) (ad : Nat → Nat) (Γ : CtC) : Prop := match Γ with
  | (_, l, _, s, _, _, _, meth, c, _, A) => l.stackTraces = false ∧ meth.locks = false ∧ meth.sig.returnType = some .int ∧ c.exceptionTable.toList = tableOf hhL ∧ TH A s s.heap ∧ A = AwH o ad s.heap.size
def QH (o : Nat) (ad : Nat → Nat) (r : Int32) (f1 : Nat → Int64) (h2 : HS) : CtC → State → Prop := fun Γ => match Γ with
  | (_, _, _, s, _, args, below, _, _, D, A) => MQ below (QcH o ad r f1 h2 (cyS s) D) args s 1 6 A
theorem y_enterH {ad wad : Nat → Nat} {y : MethodName} {cc : ByteArray} {a b : Int32} {o : Nat} {f0 f1 : Nat → Int64} {h h2 : HS} {r : Int32} (hy : plainName y.cls = true) (ho : y.cls = nmLaw)
    (k : Inj SHc ad → ∀ Γ : CtC, CY cc 5 nmLaw Γ → GSat wad Γ → THh o ad Γ → AC RH 5 (QH o ad r f1 h2) Γ 0 [(0, .ref (ad 0)), (1, .int a), (2, .int b), (3, .ref o)] [] (wH o f0 ad (cyOf Γ) h) (tyL (cyOf Γ)) 0 0) : CtH ad wad y cc a b o f0 h r f1 h2 := by
  intro hI l hl0 cy D sz
  refine va_MetW (cc := cc) (maxL := 5) (ret := some .int) (hh := hhL) hy rfl ?_
  intro p e s m args below meth c s₁ B hml hv
  obtain ⟨rfl, hcy, hsz, hP, hK, hD0, hZ, hT⟩ := hv
  subst hcy
  subst hsz
  have hts := atoms_spec (ws := .codeWith y cc 5 (some .int) hhL :: TB) B.pre
  have hown : s.vm.findClass nmLaw = some m.cls := by rw [← ho]; exact findClass_of_methodNamed B.named
  have htab := vx_table (x := y) B (hts _ List.mem_cons_self)
  have hl := lv_entry [.ref (ad 0), .int a, .int b, .ref o] (n := 5) (Nat.le_of_ble_eq_true rfl)
  rw [lg_entry_eq]
  generalize (lg_sl [Value.ref (ad 0), .int a, .int b, .ref o] ++ List.replicate (5 - (lg_sl [Value.ref (ad 0), .int a, .int b, .ref o]).length) Slot.unset).toArray = ls at hl ⊢
  have hl : lv_has ls 5 [(0, .ref (ad 0)), (1, .int a), (2, .int b), (3, .ref o)] := hl
  have hD : va_D (AwH o ad s.heap.size) (wH o f0 ad (cyS s) h) := ⟨hD0.1, fun k q hk => by
    cases k with
    | zero =>
      rw [wH_z] at hk
      cases hk
      exact Or.inl rfl
    | succ k =>
      rw [wH_s] at hk
      obtain ⟨a1, a2⟩ := wl_inv hk
      exact Or.inr (Or.inl ⟨k, a1, a2⟩)⟩
  exact k hI (p, l, e, s, m, [Value.ref (ad 0), .int a, .int b, .ref o].toArray, below, meth, c, D, AwH o ad s.heap.size) ⟨B.exec, B.bytes, hml, hown, fun w hw => hts w (List.mem_cons_of_mem _ hw), fun q h => Or.inr (Or.inr h)⟩ hZ ⟨hl0, B.notSynchronized, B.returns, htab, hT, rfl⟩ s.heap [] ls hl hP hD hK va_S.rf
theorem z_iretH {cc : ByteArray} {pc cells slots : Nat} {Γ : CtC} {lv : List (Nat × Value)} {o : Nat} {ad : Nat → Nat} {r : Int32} {f1 : Nat → Int64} {h2 : HS} {ws : va_W} (hG : CY cc 5 nmLaw Γ) (hX : THh o ad Γ) (hws : ws = wH o f1 ad (cyOf Γ) h2) (hc : cells ≤ 1) (hs : slots ≤ 6) (d : decode cc pc = .ok (.ireturn, 1)) : AC RH 5 (QH o ad r f1 h2) Γ pc lv [.int r] ws (tyL (cyOf Γ)) cells slots := by
  subst hws
  obtain ⟨p, l, e, s, m, args, below, meth, c, D, A⟩ := Γ
  obtain ⟨hx, hb, hml, hown, hts, hA⟩ := hG
  obtain ⟨hl0, hlk, hr, htb, hT, eA⟩ := hX
  intro H locs ls hl hP hD hK hS
  refine W.widen (k := 1) (n := 6) hc hs ?_
  exact W.iret hx hb hr (fun t ht hw => ⟨rfl, by rw [ht]; exact hP, by rw [← eA]; exact hS.F ht⟩) hS.2.2 d hlk
/-- the call throws, and the helper's handler takes it -/
theorem z_callX {cc : ByteArray} {ix : Nat} {Γ : CtC} {Q : CtC → State → Prop} {lv : List (Nat × Value)} {o : Nat} {ad wad : Nat → Nat} {f : Nat → Int64} {h : HS} (hG : CY cc 5 nmLaw Γ) (hX : THh o ad Γ) (hZ : GSat wad Γ) (hI : Inj SHc ad) {y : MethodName} {cc2 : ByteArray} {nL2 : Nat} {a b : Int32} {rest : List Value} (hm : MkV y cc2 nL2 (some .int) RX11 2) (hlk : Cond.methodLink nmLaw ix y ∈ TB) (hcl : Cond.classLink nmLaw 13 nsX ∈ TB) (hC : CtrT ad wad y cc2 nL2 [.ref (ad 0), .int a, .int b] h) (hw : (rest.map fun v => v.category).sum ≤ 8) (d : decode cc 5 = .ok (.invokevirtual ix, 3))
    (k : ∀ q : Nat, AC RH 5 Q Γ 13 lv [.ref q] (wH o f ad (cyOf Γ) h) (tyL (cyOf Γ)) 1 6) : AC RH 5 Q Γ 5 lv (.int b :: .int a :: .ref (ad 0) :: rest) (wH o f ad (cyOf Γ) h) (tyL (cyOf Γ)) 0 0 := by
  obtain ⟨p, l, e, s, m, args, below, meth, c, D, A⟩ := Γ
  obtain ⟨hx, hb, hml, hown, hts, hA⟩ := hG
  obtain ⟨hl0, hlk0, hr, htb, hT, eA⟩ := hX
  intro H locs ls hl hP hD hK hS
  obtain ⟨m1, m2, m3, m4, m5, m6, m7⟩ := hm
  have hZ : GS wad A s s.heap := hZ
  have hP' : va_P D vwCl ([(o, .inl (cyS s 2, 1, .inr (.inl f)))] ++ (wl SHc ad (cyS s) h ++ [])) H := by rw [List.append_nil]; exact hP
  have hD' : va_D A ([(o, .inl (cyS s 2, 1, .inr (.inl f)))] ++ (wl SHc ad (cyS s) h ++ [])) := by rw [List.append_nil]; exact hD
  have hPc := wl_P hP'
  have hsub : ∀ q, Aw SHc ad H.size q → A q := wl_Aw hD' (fun q z => hA q (Nat.le_trans hS.1 z))
  have hrun := vx_runV (l := l) (R := RH) (e := e) (below := below) (meth := meth) (locs := locs) (cells := 0) (slots := 0) (H := H) (g := F0 m 5 ls (.int b :: .int a :: .ref (ad 0) :: rest)) (As := [.int a, .int b]) (rest := rest) (b := ad 0) (C := RX11) ⟨hx, hb, hml, hown, hts⟩ (hC hI l hl0 (cyS s) D H.size) ⟨callB_of 2 hts (TB_ws m2) rfl rfl rfl (hts _ (by rw [m1]; exact m5)) (hts _ hlk) m6 ⟨by decide, by show 8 + (nL2 + 11) + 320 ≤ 400; omega⟩, hts _ m3, hts _ m4⟩
    ⟨fun a U g mk q => by obtain ⟨q0, qc, q1, qP, qK, qZ, qT⟩ := q; exact ⟨q0, qc, q1, qP, va_K.moved (u := U) (U := U.calling g mk a) (Vm.Alike.refl U.vm) qK, GS.moved (u := U) (U := U.calling g mk a) (Vm.Alike.refl U.vm) qZ, TH.same (u := U) (U := U.calling g mk a) rfl qT⟩, va_recv hK hPc (ci := 10) (q0 := 0) cl_X11 (wl_get sc_0), fun U hU hW => ⟨rfl, cyS_alike hW.alike, by rw [hU], by rw [hU]; exact hPc, va_K.moved hW.alike hK, by rw [hU]; exact ((hZ.kept hS.2.1).narrow hsub).moved hW.alike, by rw [hU]; exact ((hT.kept hS.2.1).narrow hsub).warm hW⟩⟩ rfl rfl hl.1 rfl (by show 2 * 0 + _ ≤ 8; omega) d ⟨by decide, by decide⟩
  intro T0 hT0 X
  rcases hrun T0 hT0 X with ⟨v, st₀, t, T', L, h0, X', hL, e1, e2, hq, -⟩ | ⟨q, st₀, t, T', L, E, ce, h0, X', hL, e1, e2, ⟨rfl, hP2, hF1, hF2⟩, hce, hcv, hclE, st⟩
  · exact hq.elim
  · rw [h0] at hF1 hF2
    rw [← e1] at hP2 hF1 hF2 hce
    obtain ⟨j1, j2⟩ := wl_join hP' hD' hF2 hP2
    rw [List.append_nil] at j1 j2
    have hcatch := vx_catch (p := p) (l := l) (e := e) (R := RH) (s := s) (m := m) (args := args) (below := below) (meth := meth) (c := c) (H := T'.heap) (locs := locs ++ L) (cells := 0 + 1) (slots := 0 + 6) (Q := Q (p, l, e, s, m, args, below, meth, c, D, A)) (ls := ls) (pc := 5) (rest := rest) (own := nmLaw) (name := nsX) (E := nsX) (ce := ce) (q := q) hown [] ⟨0, 10, 13, 13⟩ [] (by rw [htb]; rfl) (fun z hz => absurd hz List.not_mem_nil) (by decide) (by decide) (hts _ hcl) (va_Nw.use rfl (hT.2.2.1 (.castable nsX nsX) (by simp [nsB]))) hce hcv hclE
      (k q T'.heap (locs ++ L) ls hl j1 j2 hK
        ⟨Nat.le_trans hS.1 hF1, fun q h1 h2 => by rw [hF2 q (Nat.lt_of_lt_of_le h1 hS.1) (fun z => h2 (hsub q z))]; exact hS.2.1 q h1 h2, fun q hq => by
          rcases List.mem_append.mp hq with h | h
          · exact hS.2.2 q h
          · exact hsub _ (hL q h)⟩)
    obtain ⟨t2, a1, b1⟩ := hcatch T' rfl X'
    exact ⟨t2, st.trans a1, b1⟩
def HD (cc : ByteArray) (ix : Nat) : Prop := decode cc 0 = .ok (.aload_n 3, 1) ∧ decode cc 1 = .ok (.iconst 0, 1) ∧ decode cc 2 = .ok (.aload_n 0, 1) ∧ decode cc 3 = .ok (.iload_n 1, 1) ∧ decode cc 4 = .ok (.iload_n 2, 1) ∧ decode cc 5 = .ok (.invokevirtual ix, 3) ∧ decode cc 8 = .ok (.i2l, 1) ∧ decode cc 9 = .ok (.lastore, 1) ∧ decode cc 10 = .ok (.goto 7, 3) ∧ decode cc 13 = .ok (.astore 4, 2) ∧ decode cc 15 = .ok (.iconst 1, 1) ∧ decode cc 16 = .ok (.ireturn, 1) ∧ decode cc 17 = .ok (.iconst 0, 1) ∧ decode cc 18 = .ok (.ireturn, 1)
theorem ch_ret {ad wad : Nat → Nat} {yh y : MethodName} {cc cc2 : ByteArray} {nL2 n2 ix o : Nat} {a b v : Int32} {f0 : Nat → Int64} {h h2 : HS} (hy : plainName yh.cls = true) (ho : yh.cls = nmLaw) (hd : HD cc ix) (hm : MkV y cc2 nL2 (some .int) RX11 2) (hlk : Cond.methodLink nmLaw ix y ∈ TB) (hn : n2 ≤ 9) (hC : Ctr SHc ad wad y cc2 nL2 (some .int) n2 [.ref (ad 0), .int a, .int b] h (some (.int v), h2)) : CtH ad wad yh cc a b o f0 h (nI 0) (vp_updL f0 0 v.toInt64) h2 := by
  obtain ⟨d0, d1, d2, d3, d4, d5, d8, d9, d10, -, -, -, d17, d18⟩ := hd
  refine y_enterH hy ho (fun hI Γ hG hZ hX => ?_)
  refine z_aload_n hG 3 rfl d0 rfl ?_
  refine z_iconst (v := nI 0) hG d1 (by decide) ?_
  refine z_aload_n hG 0 rfl d2 rfl ?_
  refine z_iload_n hG 1 rfl d3 rfl ?_
  refine z_iload_n hG 2 rfl d4 rfl ?_
  refine z_call (i := 0) (As := [.int a, .int b]) (st := [.int (nI 0), .ref o]) hG hZ hI [(o, .inl (cyOf Γ 2, 1, .inr (.inl f0)))] [] (by rw [List.append_nil]; rfl) sc_0 cl_X11 hm hlk (by show n2 + 1 ≤ 10; omega) (by show 40 * (n2 + 1) ≤ 400; omega) ⟨by decide, by decide⟩ hC rfl (Nat.le_of_ble_eq_true rfl) d5 ?_
  refine z_i2l hG d8 ?_
  refine z_last hG 0 2 rfl rfl (inb_in (by decide)) d9 ?_
  refine z_goto hG (tgt := 17) d10 rfl ?_
  refine z_iconst (v := nI 0) hG d17 (by decide) ?_
  refine z_iretH hG hX ?_ (by decide) (by decide) d18
  rw [List.append_nil]
  rfl
theorem ch_thr {ad wad : Nat → Nat} {yh y : MethodName} {cc cc2 : ByteArray} {nL2 ix o : Nat} {a b : Int32} {f0 : Nat → Int64} {h : HS} (hy : plainName yh.cls = true) (ho : yh.cls = nmLaw) (hd : HD cc ix) (hm : MkV y cc2 nL2 (some .int) RX11 2) (hlk : Cond.methodLink nmLaw ix y ∈ TB) (hcl : Cond.classLink nmLaw 13 nsX ∈ TB) (hC : CtrT ad wad y cc2 nL2 [.ref (ad 0), .int a, .int b] h) : CtH ad wad yh cc a b o f0 h (nI 1) f0 h := by
  obtain ⟨d0, d1, d2, d3, d4, d5, -, -, -, d13, d15, d16, -, -⟩ := hd
  refine y_enterH hy ho (fun hI Γ hG hZ hX => ?_)
  refine z_aload_n hG 3 rfl d0 rfl ?_
  refine z_iconst (v := nI 0) hG d1 (by decide) ?_
  refine z_aload_n hG 0 rfl d2 rfl ?_
  refine z_iload_n hG 1 rfl d3 rfl ?_
  refine z_iload_n hG 2 rfl d4 rfl ?_
  refine z_callX hG hX hZ hI hm hlk hcl hC (Nat.le_of_ble_eq_true rfl) d5 (fun q => ?_)
  refine z_astore (lv' := [(4, .ref q), (0, .ref (ad 0)), (1, .int a), (2, .int b), (3, .ref o)]) hG d13 (by decide) rfl ?_
  refine z_iconst (v := nI 1) hG d15 (by decide) ?_
  exact z_iretH hG hX rfl (by decide) (by decide) d16
/-- a part of the cells about which a call may do what it will -/
theorem mid_join {w w' w1 w2 : va_W} {D : va_G} {A B : Nat → Prop} {H H1 : Heap} (e : w.map Prod.fst = w'.map Prod.fst) (hB : ∀ q, B q → (∃ (k : Nat) (x : Nat × va_E), w[k]? = some x ∧ x.1 = q) ∨ H.size ≤ q) (hP : va_P D vwCl (w1 ++ (w ++ w2)) H) (hD : va_D A (w1 ++ (w ++ w2))) (hF : ∀ q, q < H.size → ¬ B q → H1[q]? = H[q]?) (hP2 : va_P D vwCl w' H1) : va_P D vwCl (w1 ++ (w' ++ w2)) H1 ∧ va_D A (w1 ++ (w' ++ w2)) := by
  have hlen : w.length = w'.length := by have := congrArg List.length e; simpa using this
  have mid : ∀ (k : Nat) (x : Nat × va_E), w[k]? = some x → (w1 ++ (w ++ w2))[w1.length + k]? = some x := fun k x hk => by
    rw [List.getElem?_append_right (by omega), Nat.add_sub_cancel_left, List.getElem?_append_left (List.getElem?_eq_some_iff.mp hk).1]
    exact hk
  have keep : ∀ (k : Nat) (q : Nat × va_E), (w1 ++ (w ++ w2))[k]? = some q → ¬ (w1.length ≤ k ∧ k < w1.length + w.length) → va_at D vwCl q H1 := fun k q hk hn => (hP k q hk).kept (hF q.1 (hP k q hk).lt (fun z => by
    have hlt := (hP k q hk).lt
    rcases hB _ z with ⟨j, x, hj, hx⟩ | z
    · have hz := hD.1 k (w1.length + j) _ _ hk (mid j x hj) hx.symm
      have := (List.getElem?_eq_some_iff.mp hj).1
      omega
    · omega))
  refine ⟨fun k q hk => ?_, va_D_map (by simp [List.map_append, e]) hD⟩
  by_cases h1 : k < w1.length
  · rw [List.getElem?_append_left h1] at hk
    exact keep k q (by rw [List.getElem?_append_left h1]; exact hk) (by omega)
  · rw [List.getElem?_append_right (by omega)] at hk
    by_cases h3 : k - w1.length < w.length
    · rw [List.getElem?_append_left (by omega)] at hk
      exact hP2 _ q hk
    · rw [List.getElem?_append_right (by omega), ← hlen] at hk
      exact keep k q (by rw [List.getElem?_append_right (by omega), List.getElem?_append_right (by omega)]; exact hk) (by omega)
/-- the law calls a helper -/
theorem z_callH {R : Room} {cc cc2 : ByteArray} {nL : Nat} {own : String} {Q : CtC → State → Prop} {Γ : CtC} {pc ix cells slots : Nat} {lv : List (Nat × Value)} {st : List Value} {ad wad : Nat → Nat} {yh : MethodName} {a b r : Int32} {o : Nat} {f0 f1 : Nat → Int64} {h h2 : HS} {w2 : va_W} (hG : CY cc nL own Γ) (hZ : GSat wad Γ) (hT : TH Γ.2.2.2.2.2.2.2.2.2.2 Γ.2.2.2.1 Γ.2.2.2.1.heap) (hl0 : Γ.2.1.stackTraces = false) (hI : Inj SHc ad) (hlk : Cond.methodLink own ix yh ∈ TB) (hstt : Cond.static yh ∈ TB) (hini : Cond.initialized yh.cls ∈ TB) (hcw : Cond.codeWith yh cc2 5 (some .int) hhL ∈ TB) (hd : yh.cls ≠ "java/lang/invoke/MethodHandle" ∧ yh.cls ≠ "java/lang/invoke/VarHandle" ∧ (parseMethodDescriptor yh.desc).map (fun d => d.parameters.length) = some 4) (hR : 11 ≤ R.frames ∧ 424 ≤ R.locals) (hf : cells + 1 ≤ R.cells ∧ slots + 6 ≤ R.slots) (hw : (st.map fun v => v.category).sum ≤ 8) (hC : CtH ad wad yh cc2 a b o f0 h r f1 h2) (d : decode cc pc = .ok (.invokestatic ix, 3))
    (k : AC R nL Q Γ (pc + 3) lv (.int r :: st) (wH o f1 ad (cyOf Γ) h2 ++ w2) (tyL (cyOf Γ)) (cells + 1) (slots + 6)) : AC R nL Q Γ pc lv (.ref o :: .int b :: .int a :: .ref (ad 0) :: st) (wH o f0 ad (cyOf Γ) h ++ w2) (tyL (cyOf Γ)) cells slots := by
  obtain ⟨p, l, e, s, m, args, below, meth, c, D, A⟩ := Γ
  obtain ⟨hx, hb, hml, hown, hts, hA⟩ := hG
  intro H locs ls hl hP hD hK hS
  have hZ : GS wad A s s.heap := hZ
  have hT : TH A s s.heap := hT
  have hl0 : l.stackTraces = false := hl0
  have hPc : va_P D vwCl (wH o f0 ad (cyS s) h) H := fun k q hk => hP k q (by rw [List.getElem?_append_left (List.getElem?_eq_some_iff.mp hk).1]; exact hk)
  have hDc : va_D (fun _ => True) (wH o f0 ad (cyS s) h) := ⟨fun i j x y hi hj e => hD.1 i j x y (by rw [List.getElem?_append_left (List.getElem?_eq_some_iff.mp hi).1]; exact hi) (by rw [List.getElem?_append_left (List.getElem?_eq_some_iff.mp hj).1]; exact hj) e, fun _ _ _ => trivial⟩
  have hB : ∀ q, AwH o ad H.size q → (∃ (k : Nat) (x : Nat × va_E), (wH o f0 ad (cyS s) h)[k]? = some x ∧ x.1 = q) ∨ H.size ≤ q := fun q hq => by
    rcases hq with hq | ⟨i, hi, e⟩ | hq
    · exact Or.inl ⟨0, _, wH_z, hq.symm⟩
    · exact Or.inl ⟨i + 1, _, (wH_s i).trans (wl_get (List.getElem?_eq_getElem hi)), e.symm⟩
    · exact Or.inr hq
  have hsub : ∀ q, AwH o ad H.size q → A q := fun q hq => by
    rcases hB q hq with ⟨k, x, hk, hx⟩ | hq
    · rw [← hx]
      exact hD.2 k x (by rw [List.getElem?_append_left (List.getElem?_eq_some_iff.mp hk).1]; exact hk)
    · exact hA q (Nat.le_trans hS.1 hq)
  have hgood : GoodIn TB (va_wsS own ix yh (.codeWith yh cc2 5 (some .int) hhL :: TB)) := fun w hw => by
    have hw : w ∈ TB := by
      simp only [va_wsS, List.cons_append, List.nil_append, List.mem_cons] at hw
      rcases hw with rfl | rfl | rfl | rfl | hw
      · exact hlk
      · exact hstt
      · exact hini
      · exact hcw
      · exact hw
    exact ⟨hw, good_of_word (TB_good hw)⟩
  have hrun := vx_runSW (l := l) (R := R) (e := e) (below := below) (meth := meth) (locs := locs) (cells := cells) (slots := slots) (H := H) (g := F0 m pc ls (.ref o :: .int b :: .int a :: .ref (ad 0) :: st)) (As := [.ref (ad 0), .int a, .int b, .ref o]) (rest := st) ⟨hx, hb, hml, hown, hts⟩ (hC hI l hl0 (cyS s) D H.size) (vx_cwSW 4 hts hgood rfl rfl rfl hd ⟨hR.1, hR.2⟩)
    ⟨fun a U g mk q => by obtain ⟨q0, qc, q1, qP, qK, qD, qZ, qT⟩ := q; exact ⟨q0, qc, q1, qP, va_K.moved (u := U) (U := U.calling g mk a) (Vm.Alike.refl U.vm) qK, qD, GS.moved (u := U) (U := U.calling g mk a) (Vm.Alike.refl U.vm) qZ, TH.same (u := U) (U := U.calling g mk a) rfl qT⟩, fun U hU hW => ⟨rfl, cyS_alike hW.alike, by rw [hU], by rw [hU]; exact hPc, va_K.moved hW.alike hK, hDc, by rw [hU]; exact ((hZ.kept hS.2.1).narrow hsub).moved hW.alike, by rw [hU]; exact ((hT.kept hS.2.1).narrow hsub).warm hW⟩⟩ rfl rfl hl.1 rfl (by show 2 * 0 + _ ≤ 8; omega) d hf
  intro T0 hT0 X
  obtain ⟨v, st₀, t, T', L, h0, X', hL, e1, e2, ⟨ho, hP2, hF1, hF2⟩, hgo⟩ := hrun T0 hT0 X
  cases ho
  rw [h0] at hF1 hF2
  rw [← e1] at hP2 hF1 hF2
  obtain ⟨j1, j2⟩ := mid_join (w1 := []) (w := wH o f0 ad (cyS s) h) (w' := wH o f1 ad (cyS s) h2) (by simp [wH, wl_map]) hB hP hD hF2 hP2
  obtain ⟨t2, a1, b1⟩ := k T'.heap (locs ++ L) ls hl j1 j2 hK
    ⟨Nat.le_trans hS.1 hF1, fun q h1 h2 => by rw [hF2 q (Nat.lt_of_lt_of_le h1 hS.1) (fun z => h2 (hsub q z))]; exact hS.2.1 q h1 h2, fun q hq => by
      rcases List.mem_append.mp hq with h | h
      · exact hS.2.2 q h
      · exact hsub _ (hL q h)⟩ T' rfl X'
  exact ⟨t2, hgo t2 a1, b1⟩
