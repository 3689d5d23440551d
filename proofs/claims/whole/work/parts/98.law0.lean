/-! THE CLAIM OUT OF ONE WALK OF THE LAW'S BODY. Your part is whole_start (and what it stands on); all else here is the same for every law, but numbers. -/
def R_law : String := "LostCausesLaw"
def lw_P (b : Addr) (xs : List Int32) (args : Array Value) (s : State) : Prop := args = #[.ref b] ∧ s.IntsAt b xs ∧ xs.length ≤ 3072 ∧ (Jvm.Cond.and given_1 narrow_1).before args s = true
def lw_Q (_ : Array Value) (s : State) (o : Outcome) (t : State) : Prop := o = .returned (some (.int 1)) ∧ Framed s o t [] 601024 7293034
def lw_Z (below : List Frame) (a : Array Value) (s : State) : State → Prop := fun t => ∃ o, t.status = .running ∧ Ended t below o ∧ lw_Q a s o t
/-- the law's own end, with 1 on the stack, nothing written that was there before, its room as the claim has it -/
theorem lw_ret {p : Program} {l : Launch} {e : Env} {s : State} {m : MethodId} {below : List Frame} {meth : Method} {c : Code} {b : Nat} (hx : p.tables.exec = Jvm.exec) (hb : c.code = code) (hr : meth.sig.returnType = ret) (hlocks : meth.locks = false) {pc : Nat} {H : Heap} {ls : Array Slot} (hdg : decode code pc = .ok (.ireturn, 1)) : W p l e room_1 s m #[Value.ref b] below meth c H [] 601024 7293034 (lw_Z below #[Value.ref b] s) (F0 m pc ls [.int 1]) := by
  intro T hT X
  obtain ⟨fs, hret, hrun, hended, hW, hframe⟩ := X.leave (v := some (.int 1)) (hlocks := hlocks) (fun h => by rw [hr] at h; cases h)
  have hmeth' : T.vm.method? m = some meth := X.method'
  refine ⟨T.setFrames fs, ?_, .returned (some (.int 1)), hrun, hended, rfl, ⟨_, rfl⟩, hW, hframe⟩
  jvm_step X.here [X.here.top, hx, hb, hdg, hmeth', hr, ret, narrow_b1]
  (try refine ⟨rfl, ?_⟩); (try refine ⟨rfl, ?_⟩)
  first | (intro acts; rw [hret _ acts rfl rfl rfl]) | rw [hret _ _ rfl rfl rfl]
  exact Steps.refl _
/-- what holds at the law's entry: the machine, the code, the tables' words (any of lw_tbl by 'hts w (by decide +kernel)'), the script of L ints xs at the cell b, what the Statement gives of the start (any of its parts by flat_of_before) -/
def lw_At (p : Program) (s : State) (m : MethodId) (meth : Method) (c : Code) (b L : Nat) (xs : Nat → Int32) : Prop :=
  p.tables.exec = Jvm.exec ∧ c.code = code ∧ meth.sig.returnType = ret ∧ c.maxLocals = 7 ∧ s.vm.findClass R_law = some m.cls ∧ (∀ w ∈ lw_tbl, w.before #[Value.ref b] s = true) ∧ va_X b L xs s s.heap ∧ b < s.heap.size ∧ meth.locks = false ∧ (Jvm.Cond.and given_1 narrow_1).before #[Value.ref b] s = true
/-! ===== the law: what holds at its entry ===== -/
theorem MO_of {args : Array Value} {s : State} (h : (Cond.arrayOver (.array .int)).before args s = true) : MO s := by
  have h : (Cond.arrayOver (.array .int)).holds args s none s [] = true := h
  have e : (FieldType.array .int).toString = "[I" := by decide +kernel
  have e2 : "[" ++ (FieldType.array .int).toString = "[[I" := by decide +kernel
  simp only [Cond.holds, Cond.value, beq_iff_eq] at h
  cases hc : s.vm.findClass (FieldType.array .int).toString with
  | none => simp [hc] at h
  | some comp =>
    simp only [hc, Option.bind_some, Option.bind_eq_some_iff, Option.map_eq_some_iff] at h
    obtain ⟨c, hi, k, hk, hb⟩ := h
    obtain ⟨hlt, hp, -⟩ := Array.findIdx?_eq_some_iff_getElem.mp hi
    have hkk : s.vm.classes[c] = k := (Array.getElem?_eq_some_iff.mp hk).2
    rw [hkk] at hp
    cases hkind : k.kind with
    | array component ty =>
      rw [hkind] at hb hp
      simp at hb hp
      refine ⟨comp, c, k, by rw [← e]; exact hc, by rw [← e2]; exact hb.2, hk, by rw [hkind, hp, hb.1]⟩
    | _ => rw [hkind] at hb; simp at hb
theorem l_eqr {args : Array Value} {s : State} {t u : Term} {a : Nat} (h : (Cond.eq t u).before args s = true) (hu : u.eval args s none [] s = some (.ref a)) : t.eval args s none [] s = some (.ref a) := by
  cases hv : t.eval args s none [] s with
  | none => simp [Cond.before, Cond.holds, Cond.value, hv] at h
  | some w =>
    simp only [Cond.before, Cond.holds, Cond.value, hv, hu] at h
    cases w <;> simp_all
/-- what the Statement gives of the start, as a list -/
def gN : List Cond := flatC (Jvm.Cond.and given_1 narrow_1)
theorem gx_ex : ∀ i, i < 23 → gN[([4, 7, 11, 44, 50, 57, 84, 95, 74, 65, 329, 305, 107, 200, 219, 239, 260, 282, 120, 134, 149, 165, 182] : List Nat).getD i 0]? = some (Cond.exactly (.static RX10 (WN.getD i "") WD) RX10) := by decide +kernel
theorem gx_lt : ∀ i, i < 23 → gN[([6, 9, 13, 46, 52, 59, 86, 97, 76, 67, 331, 307, 109, 202, 221, 241, 262, 284, 122, 136, 151, 167, 184] : List Nat).getD i 0]? = some (Cond.eq (.field (.static RX10 (WN.getD i "") WD) RX10 "letters" "J") (.long (WL.getD i 0))) := by decide +kernel
theorem gx_el : ∀ i, i < 23 → gN[([21, 22, 23, 24, 25, 26, 27, 28, 29, 30, 31, 32, 33, 34, 35, 36, 37, 38, 39, 40, 41, 42, 43] : List Nat).getD i 0]? = some (Cond.eq (.elem (.static RX10 "ALL" WA) (.int (Int32.ofNat i))) (.static RX10 (WN.getD i "") WD)) := by decide +kernel
theorem gx_ls : ∀ i, i < 23 → lw_tbl[([601, 633, 643, 694, 713, 728, 1264, 1266, 1257, 1239, 1377, 1374, 1328, 1344, 1346, 1348, 1350, 1352, 1331, 1333, 1335, 1337, 1339] : List Nat).getD i 0]? = some (Cond.laysStatic RX10 (WN.getD i "") WD) := by decide +kernel
theorem gx_arr : gN[18]? = some (Cond.arrayOf (.static RX10 "ALL" WA) (.object RX10)) := by decide +kernel
theorem gx_len : gN[19]? = some (Cond.eq (.length (.static RX10 "ALL" WA)) (.int (Int32.ofNat 23))) := by decide +kernel
theorem gN_at {args : Array Value} {s : State} (hgv : (Jvm.Cond.and given_1 narrow_1).before args s = true) {i : Nat} {w : Cond} (h : gN[i]? = some w) : w.before args s = true := flat_of_before _ hgv w (List.mem_of_getElem? h)
theorem lw_at {args : Array Value} {s : State} (hts : ∀ w ∈ lw_tbl, w.before args s = true) {i : Nat} {w : Cond} (h : lw_tbl[i]? = some w) : w.before args s = true := hts w (List.mem_of_getElem? h)
theorem GS_of {args : Array Value} {s : State} {A : Nat → Prop} (hA : ∀ a : Nat, a < s.heap.size → ¬ A a) (hts : ∀ w ∈ lw_tbl, w.before args s = true) (hgv : (Jvm.Cond.and given_1 narrow_1).before args s = true) : ∃ wad : Nat → Nat, GS wad A s s.heap := by
  have hini : (Cond.initialized RX10).before args s = true := lw_at hts (i := 135) (by decide +kernel)
  have h0 : ∀ i : Nat, ∃ t : Nat, i < 23 → (Term.static RX10 (WN.getD i "") WD).eval args s none [] s = some (.ref t) := by
    intro i
    by_cases hi : i < 23
    · obtain ⟨a, c, cell, k, q1, -⟩ := Cond.exactly_spec (gN_at hgv (gx_ex i hi))
      exact ⟨a, fun _ => q1⟩
    · exact ⟨0, fun h => absurd h hi⟩
  obtain ⟨ad, had⟩ := Classical.axiomOfChoice h0
  obtain ⟨t, ht, hT⟩ := va_Tof (args := args) (s := s) (tm := .static RX10 "ALL" WA) (ty := .object RX10) (N := 23) (f := fun j => .ref (ad j)) (A := A) (by decide) (gN_at hgv gx_arr) (va_eqt (gN_at hgv gx_len)) (fun j hj => l_eqr (gN_at hgv (gx_el j hj)) (had j hj)) hA
  refine ⟨fun i => if i < 23 then ad i else t, fun i hi => ?_, ?_, ?_⟩
  · dsimp only
    rw [if_pos hi]
    exact ⟨va_Zof (lw_at hts (gx_ls i hi)) hini (had i hi) hA, va_Oof (gN_at hgv (gx_ex i hi)) (had i hi) hA, vk_OFof (had i hi) (va_eqtl (gN_at hgv (gx_lt i hi))) hA⟩
  · dsimp only
    rw [if_neg (show ¬ 23 < 23 by decide)]
    exact va_Zof (lw_at hts (i := 661) (by decide +kernel)) hini ht hA
  · dsimp only
    rw [if_neg (show ¬ 23 < 23 by decide)]
    obtain ⟨cell, h1, h2, h3, h4, h5, h6, h7⟩ := hT
    exact ⟨cell, h1, h2, h3, h4, h5, fun j hj => by show _ = some (Value.ref (if j < 23 then ad j else t)); rw [if_pos hj]; exact h6 j hj, h7⟩
theorem TH_of {args : Array Value} {s : State} {A : Nat → Prop} (hA : ∀ a : Nat, a < s.heap.size → ¬ A a) (hts : ∀ w ∈ lw_tbl, w.before args s = true) (hgv : (Jvm.Cond.and given_1 narrow_1).before args s = true) : TH A s s.heap := by
  have hini : (Cond.initialized Bundle.tN).before args s = true := lw_at hts (i := 137) (by decide +kernel)
  refine ⟨vx_Zqof (lw_at hts (i := 1487) (by decide +kernel)) hini (gN_at hgv (i := 354) (by decide +kernel)) hA, vx_Zqof (lw_at hts (i := 1489) (by decide +kernel)) hini (gN_at hgv (i := 355) (by decide +kernel)) hA, fun w hw => va_Nw.of (nsB_tab w hw) (hts w ?_), fun q hq => ?_⟩
  · simp only [nsB, List.mem_cons, List.not_mem_nil, or_false] at hw
    rcases hw with rfl | rfl | rfl | rfl
    · exact List.mem_of_getElem? (i := 1464) (by decide +kernel)
    · exact List.mem_of_getElem? (i := 1466) (by decide +kernel)
    · exact List.mem_of_getElem? (i := 1468) (by decide +kernel)
    · exact List.mem_of_getElem? (i := 1462) (by decide +kernel)
  · simp only [nsT, List.mem_cons, List.not_mem_nil, or_false] at hq
    rcases hq with rfl | rfl | rfl | rfl
    · obtain ⟨a, c, cell, k, q1, -⟩ := Cond.exactly_spec (args := args) (first := s) (o := none) (s := s) (idx := []) (t := .string RX11 152) (cls := "java/lang/String") (gN_at hgv (i := 369) (by decide +kernel))
      exact ⟨a, vk_R.of (lw_at hts (i := 1499) (by decide +kernel)) q1⟩
    · obtain ⟨a, c, cell, k, q1, -⟩ := Cond.exactly_spec (args := args) (first := s) (o := none) (s := s) (idx := []) (t := .string RX11 165) (cls := "java/lang/String") (gN_at hgv (i := 409) (by decide +kernel))
      exact ⟨a, vk_R.of (lw_at hts (i := 1532) (by decide +kernel)) q1⟩
    · obtain ⟨a, c, cell, k, q1, -⟩ := Cond.exactly_spec (args := args) (first := s) (o := none) (s := s) (idx := []) (t := .string RX11 239) (cls := "java/lang/String") (gN_at hgv (i := 456) (by decide +kernel))
      exact ⟨a, vk_R.of (lw_at hts (i := 1546) (by decide +kernel)) q1⟩
    · obtain ⟨a, c, cell, k, q1, -⟩ := Cond.exactly_spec (args := args) (first := s) (o := none) (s := s) (idx := []) (t := .string RX11 262) (cls := "java/lang/String") (gN_at hgv (i := 493) (by decide +kernel))
      exact ⟨a, vk_R.of (lw_at hts (i := 1555) (by decide +kernel)) q1⟩
theorem K_one {args : Array Value} {s : State} (hts : ∀ w ∈ lw_tbl, w.before args s = true) {q : vw_C} {i : Nat} (hok : ClOk q) (hi : lw_tbl[i]? = some (Cond.instantiable q.1 q.2.2)) : ∃ (c : ClassId) (iS : Nat → Nat), u_Kn s q.1 q.2.1 q.2.2 c iS := u_known (ws := TB) (fun w hw => hts w (List.mem_filter.mp hw).1) hok.1 (lw_at hts hi)
theorem K_of {args : Array Value} {s : State} (hts : ∀ w ∈ lw_tbl, w.before args s = true) (hMO : MO s) : ∃ D : va_G, va_K D vwCl (tyL (cyS s)) s := by
  have h0 : ∀ k : Nat, ∃ z : ClassId × (Nat → Nat), ∀ q, vwCl[k]? = some q → u_Kn s q.1 q.2.1 q.2.2 z.1 z.2 := by
    intro k
    match k with
    | 0 =>
      obtain ⟨c, iS, h⟩ := K_one (q := (RX0, TX0, 5)) hts ok_X0 (i := 259) (by decide +kernel)
      exact ⟨(c, iS), fun q hq => by cases hq; exact h⟩
    | 1 =>
      obtain ⟨c, iS, h⟩ := K_one (q := (RX1, TX1, 4)) hts ok_X1 (i := 411) (by decide +kernel)
      exact ⟨(c, iS), fun q hq => by cases hq; exact h⟩
    | 2 =>
      obtain ⟨c, iS, h⟩ := K_one (q := (RX2, TX2, 7)) hts ok_X2 (i := 333) (by decide +kernel)
      exact ⟨(c, iS), fun q hq => by cases hq; exact h⟩
    | 3 =>
      obtain ⟨c, iS, h⟩ := K_one (q := (RX3, TX3, 7)) hts ok_X3 (i := 383) (by decide +kernel)
      exact ⟨(c, iS), fun q hq => by cases hq; exact h⟩
    | 4 =>
      obtain ⟨c, iS, h⟩ := K_one (q := (RX4, TX4, 4)) hts ok_X4 (i := 240) (by decide +kernel)
      exact ⟨(c, iS), fun q hq => by cases hq; exact h⟩
    | 5 =>
      obtain ⟨c, iS, h⟩ := K_one (q := (RX5, TX5, 13)) hts ok_X5 (i := 192) (by decide +kernel)
      exact ⟨(c, iS), fun q hq => by cases hq; exact h⟩
    | 6 =>
      obtain ⟨c, iS, h⟩ := K_one (q := (RX6, TX6, 5)) hts ok_X6 (i := 311) (by decide +kernel)
      exact ⟨(c, iS), fun q hq => by cases hq; exact h⟩
    | 7 =>
      obtain ⟨c, iS, h⟩ := K_one (q := (RX7, TX7, 5)) hts ok_X7 (i := 361) (by decide +kernel)
      exact ⟨(c, iS), fun q hq => by cases hq; exact h⟩
    | 8 =>
      obtain ⟨c, iS, h⟩ := K_one (q := (RX8, TX8, 11)) hts ok_X8 (i := 151) (by decide +kernel)
      exact ⟨(c, iS), fun q hq => by cases hq; exact h⟩
    | 9 =>
      obtain ⟨c, iS, h⟩ := K_one (q := (RX9, TX9, 7)) hts ok_X9 (i := 283) (by decide +kernel)
      exact ⟨(c, iS), fun q hq => by cases hq; exact h⟩
    | 10 =>
      obtain ⟨c, iS, h⟩ := K_one (q := (RX11, TX11, 17)) hts ok_X11 (i := 143) (by decide +kernel)
      exact ⟨(c, iS), fun q hq => by cases hq; exact h⟩
    | 11 =>
      obtain ⟨c, iS, h⟩ := K_one (q := (RX12, TX12, 45)) hts ok_X12 (i := 1567) (by decide +kernel)
      exact ⟨(c, iS), fun q hq => by cases hq; exact h⟩
    | n + 12 => exact ⟨(0, fun _ => 0), fun q hq => by simp [vwCl] at hq⟩
  obtain ⟨g, hg⟩ := Classical.axiomOfChoice h0
  exact ⟨(fun k => (g k).1, fun k => (g k).2), fun k q hq => hg k q hq, cy_K (lw_at hts (i := 190) (by decide +kernel)) (lw_at hts (i := 238) (by decide +kernel)) (lw_at hts (i := 237) (by decide +kernel)) (lw_at hts (i := 1745) (by decide +kernel)) hMO⟩
/-! ===== the first state, out of both constructors ===== -/
theorem ICc_hc0 : ICc hc0 := by
  refine ⟨⟨rfl, rfl, rfl, rfl, rfl, rfl, fun i hi => rfl⟩, ⟨rfl, rfl, rfl⟩, rfl, rfl, rfl, rfl, rfl, rfl, fun k hk => ?_, fun w hw => ?_, rfl, rfl⟩
  · rcases (show k = 0 ∨ k = 1 ∨ k = 2 ∨ k = 3 ∨ k = 4 by omega) with e | e | e | e | e <;> subst e <;> rfl
  · rcases (show w = 0 ∨ w = 1 ∨ w = 2 ∨ w = 3 by omega) with e | e | e | e <;> subst e <;> rfl
theorem rsv_b : ∀ j, j < 23 → WL.getD j 0 = lN ([402885, 113966, 3200613, 626441906, 136356, 3544651, 21015731, 146611, 4800019, 758955, 498, 1476, 14836, 508078, 21015726, 4915216548, 24046, 136228, 8228, 463922, 17484389, 72754342, 492210354].getD j 0) := by decide +kernel
theorem rsv_n : ∀ j, j < 23 → [402885, 113966, 3200613, 626441906, 136356, 3544651, 21015731, 146611, 4800019, 758955, 498, 1476, 14836, 508078, 21015726, 4915216548, 24046, 136228, 8228, 463922, 17484389, 72754342, 492210354].getD j 0 < 32 ^ 7 := by decide +kernel
theorem rsv_c : ∀ j, j < 23 → hmR.2 6 j = Int64.ofNat (cvF 7 ([402885, 113966, 3200613, 626441906, 136356, 3544651, 21015731, 146611, 4800019, 758955, 498, 1476, 14836, 508078, 21015726, 4915216548, 24046, 136228, 8228, 463922, 17484389, 72754342, 492210354].getD j 0)) := by decide +kernel
theorem RSr_hmR : RSr hmR := fun j hj => by rw [cvF_e 7 _ (rsv_n j hj)]; exact rsv_c j hj
theorem hmR_2 (i : Nat) : hmR.1 2 i = nI 0 := rfl
theorem law_first : ∃ hc1 hc2 hm1 hm2 P A, f_Desk_begin 20000 hc0 = some ((), hc1) ∧ f_Ways_sumUp 20000 hc1 = some ((), hc2) ∧ f_M_clears 20000 hmR = some ((), hm1) ∧ f_M_begins 20000 (st hm1 2 (rg (hm1.1 2) 0 72 (hm1.1 3))) = some ((), hm2) ∧ Rel P A hc2 hm2 := by
  obtain ⟨hm1, e1, e2, e3, e4⟩ := M_clears (F := 20000) (by omega) hmR
  have o : ∀ a, a ≠ 3 → hm1.1 a = hmR.1 a := fun a ha => (e3 a (fun z => ha (by simpa using z))).1
  have hI : ICm (st hm1 2 (rg (hm1.1 2) 0 72 (hm1.1 3))) := by
    refine ⟨fun i hi => ?_, ?_, ?_, ?_, ?_, ?_, ?_, ?_, ?_, fun j hj => ?_⟩
    · rw [st_e]
      by_cases h : i < 72
      · rw [rg, if_pos ⟨Nat.zero_le i, h⟩]
        exact e2 i h
      · rw [rg, if_neg (fun z => h z.2), o 2 (by decide), hmR_2, if_neg (by omega), if_neg (by omega), if_neg (by omega)]
    · rw [st_o (by decide), o 0 (by decide)]; rfl
    · rw [st_o (by decide), o 0 (by decide)]; rfl
    · rw [st_o (by decide), o 0 (by decide)]; rfl
    · rw [st_o (by decide), o 0 (by decide)]; rfl
    · rw [st_o (by decide), o 0 (by decide)]; rfl
    · rw [st_o (by decide), o 0 (by decide)]; rfl
    · rw [st_o (by decide), o 18 (by decide)]; rfl
    · rw [st_o (by decide), o 18 (by decide)]; rfl
    · rw [st_2, e4]
      exact RSr_hmR j hj
  obtain ⟨hc1, hc2, hm2, b1, b2, b3, b4⟩ := Rel_first (F := 20000) (Nat.le_refl _) ICc_hc0 hI
  exact ⟨hc1, hc2, hm1, hm2, _, _, b1, b2, e1, b3, b4⟩
/-! ===== when the four throw ===== -/
theorem inb_no {b : Int32} {n : Nat} (hn : n + 1 < 2147483648) (h : inb b (n + 1) = false) : b < 0 ∨ ¬ b ≤ nI n := by
  by_cases h1 : b < 0
  · exact Or.inl h1
  · obtain ⟨j, hj, rfl⟩ := nI_of h1
    rw [inb_nI hj] at h
    have h := of_decide_eq_false h
    exact Or.inr (fun z => h (by have := (nI_leI hj (by omega)).mp z; omega))
theorem TT_cause {ad wad : Nat → Nat} {P : Pl} {A : Ab} {hc hm : HS} (q : Rel P A hc hm) (a b : Int32) (h : (inb a (P 0 3) && inb b 9) = false) : CtrT ad wad yX11_cause cX11_cause 3 [.ref (ad 0), .int a, .int b] hc := by
  obtain ⟨c, m, W, Y, -⟩ := id q
  obtain ⟨⟨wN, wNM, wM, wCo, w3, w4, w5, wC, wD, wK⟩, wAc, wAk, wAw, wAf⟩ := id W
  refine tc_cause a b hc (C_hasCause w3 c.1 a) ?_
  cases ha : inb a (P 0 3) with
  | false => exact Or.inl rfl
  | true =>
    rw [ha, Bool.true_and] at h
    exact Or.inr (inb_no (n := 8) (by omega) h)
theorem TT_odds {ad wad : Nat → Nat} {P : Pl} {A : Ab} {hc hm : HS} (q : Rel P A hc hm) (a b : Int32) (h : (inb a (P 0 3) && inb b 2) = false) : CtrT ad wad yX11_odds cX11_odds 4 [.ref (ad 0), .int a, .int b] hc := by
  obtain ⟨c, m, W, Y, -⟩ := id q
  obtain ⟨⟨wN, wNM, wM, wCo, w3, w4, w5, wC, wD, wK⟩, wAc, wAk, wAw, wAf⟩ := id W
  refine tc_odds a b hc (C_hasCause w3 c.1 a) ?_
  cases ha : inb a (P 0 3) with
  | false => exact Or.inl rfl
  | true =>
    rw [ha, Bool.true_and] at h
    exact Or.inr (inb_no (n := 1) (by omega) h)
theorem TT_value {ad wad : Nat → Nat} {P : Pl} {A : Ab} {hc hm : HS} (q : Rel P A hc hm) (a b : Int32) (h : (inb a (P 0 5) && inb b (P 0 3)) = false) : CtrT ad wad yX11_value cX11_value 3 [.ref (ad 0), .int a, .int b] hc := by
  obtain ⟨c, m, W, Y, -⟩ := id q
  obtain ⟨⟨wN, wNM, wM, wCo, w3, w4, w5, wC, wD, wK⟩, wAc, wAk, wAw, wAf⟩ := id W
  refine tc_value a b hc (C_hasClerk w5 c.1 a) (C_hasCause w3 c.1 b) ?_
  cases ha : inb a (P 0 5) with
  | false => exact Or.inl rfl
  | true =>
    rw [ha, Bool.true_and] at h
    rw [h]
    exact Or.inr rfl
theorem TT_fair {ad wad : Nat → Nat} {P : Pl} {A : Ab} {hc hm : HS} (q : Rel P A hc hm) (a b : Int32) (h : (inb a (P 0 3) && (inb b 2 && decide (fo P A a.toNatClampNeg 0 ≠ 0))) = false) : CtrT ad wad yX11_fair cX11_fair 3 [.ref (ad 0), .int a, .int b] hc := by
  obtain ⟨c, m, W, Y, -⟩ := id q
  obtain ⟨⟨wN, wNM, wM, wCo, w3, w4, w5, wC, wD, wK⟩, wAc, wAk, wAw, wAf⟩ := id W
  refine tc_fair a b hc (C_hasCause w3 c.1 a) ?_
  cases ha : inb a (P 0 3) with
  | false => exact Or.inl rfl
  | true =>
    rw [ha, Bool.true_and] at h
    cases hb : inb b 2 with
    | false =>
      rcases inb_no (n := 1) (by omega) hb with z | z
      · exact Or.inr (Or.inl z)
      · exact Or.inr (Or.inr (Or.inl (Int32.not_le.mp z)))
    | true =>
      rw [hb, Bool.true_and] at h
      have h := of_decide_eq_false h
      have h : fo P A a.toNatClampNeg 0 = 0 := Classical.byContradiction h
      obtain ⟨hk, ea⟩ := inb_ex ha
      have e := C_ofCause (w := 0) w3 c hk (by omega)
      rw [← ea] at e
      refine Or.inr (Or.inr (Or.inr ?_))
      rw [e]
      show some (nI (fo P A a.toNatClampNeg 0), hc) = _
      rw [h]
      rfl
/-! ===== the law's frame ===== -/
def QL : CtC → State → Prop := fun Γ => match Γ with
  | (_, _, _, s, _, args, below, _, _, _, _) => lw_Z below args s
def WW (o : Nat) (f : Nat → Int64) (ad1 ad2 : Nat → Nat) (cy : Nat → ClassId) (hc hm : HS) : va_W := wH o f ad1 cy hc ++ wl SHm ad2 cy hm
theorem WW_z {o : Nat} {f : Nat → Int64} {ad1 ad2 : Nat → Nat} {cy : Nat → ClassId} {hc hm : HS} : (WW o f ad1 ad2 cy hc hm)[0]? = some (o, .inl (cy 2, 1, .inr (.inl f))) := by
  unfold WW wH
  rw [List.cons_append]
  exact List.getElem?_cons_zero
theorem WW_c {o : Nat} {f : Nat → Int64} {ad1 ad2 : Nat → Nat} {cy : Nat → ClassId} {hc hm : HS} : WW o f ad1 ad2 cy hc hm = [(o, .inl (cy 2, 1, .inr (.inl f)))] ++ (wl SHc ad1 cy hc ++ wl SHm ad2 cy hm) := by
  unfold WW wH
  rw [List.cons_append, List.cons_append, List.nil_append]
theorem WW_m {o : Nat} {f : Nat → Int64} {ad1 ad2 : Nat → Nat} {cy : Nat → ClassId} {hc hm : HS} : WW o f ad1 ad2 cy hc hm = wH o f ad1 cy hc ++ (wl SHm ad2 cy hm ++ []) := by
  unfold WW
  rw [List.append_nil]
theorem WW_h {o : Nat} {f : Nat → Int64} {ad1 ad2 : Nat → Nat} {cy : Nat → ClassId} {hc hm : HS} : WW o f ad1 ad2 cy hc hm = wH o f ad1 cy hc ++ wl SHm ad2 cy hm := by
  unfold WW
  rfl
def LG (wad ad1 ad2 : Nat → Nat) (b L : Nat) (xs : Nat → Int32) (Γ : CtC) : Prop := CY cL_law 7 nmLaw Γ ∧ GSat wad Γ ∧ TH Γ.2.2.2.2.2.2.2.2.2.2 Γ.2.2.2.1 Γ.2.2.2.1.heap ∧ Γ.2.1.stackTraces = false ∧ Inj SHc ad1 ∧ Inj SHm ad2 ∧ va_X b L xs Γ.2.2.2.1 Γ.2.2.2.1.heap ∧ b < Γ.2.2.2.1.heap.size ∧ ¬ Γ.2.2.2.2.2.2.2.2.2.2 b ∧ L ≤ 3072
def LE (b : Nat) (Γ : CtC) : Prop := match Γ with
  | (_, _, _, s, _, args, _, meth, _, _, A) => args = #[Value.ref b] ∧ meth.sig.returnType = ret ∧ meth.locks = false ∧ A = fun q => s.heap.size ≤ q
abbrev AL (Γ : CtC) (pc : Nat) (lv : List (Nat × Value)) (st : List Value) (ws : va_W) (cells slots : Nat) : Prop := AC room_1 7 QL Γ pc lv st ws (tyL (cyOf Γ)) cells slots
abbrev lvL (ad1 ad2 : Nat → Nat) (b o i : Nat) : List (Nat × Value) := [(4, .int (nI i)), (0, .ref b), (1, .ref (ad1 0)), (2, .ref (ad2 0)), (3, .ref o)]
/-- what comes behind a case -/
def KK (Γ : CtC) (ad1 ad2 : Nat → Nat) (b o i cells slots : Nat) : Prop := ∀ (f2 : Nat → Int64) (hc2 hm2 : HS) (P2 : Pl) (A2 : Ab) (c2 s2 : Nat), c2 ≤ cells + 1 → s2 ≤ slots + 6 → Rel P2 A2 hc2 hm2 → AL Γ 1513 (lvL ad1 ad2 b o i) [] (WW o f2 ad1 ad2 (cyOf Γ) hc2 hm2) c2 s2
section LX
variable {wad ad1 ad2 : Nat → Nat} {b L o : Nat} {xs : Nat → Int32} {Γ : CtC} {pc cells slots : Nat} {lv lv' : List (Nat × Value)} {st : List Value} {f : Nat → Int64} {hc hm : HS} {ws : va_W}
theorem l_sub {R : Room} {nL : Nat} {Q : CtC → State → Prop} {tys : List (ClassId × FieldType)} (ks : List Nat) (hl : lv_pick lv ks = lv') (k : AC R nL Q Γ pc lv' st ws tys cells slots) : AC R nL Q Γ pc lv st ws tys cells slots := by
  obtain ⟨p, l, e, s, m, args, below, meth, c, D, A⟩ := Γ
  intro H locs ls h1 hP hD hK hS
  exact k H locs ls (lv_sub h1 ks hl) hP hD hK hS
theorem l_swap {R : Room} {nL : Nat} {Q : CtC → State → Prop} {tys : List (ClassId × FieldType)} {w1 w2 : va_W} (k : AC R nL Q Γ pc lv st (w2 ++ w1) tys cells slots) : AC R nL Q Γ pc lv st (w1 ++ w2) tys cells slots := by
  obtain ⟨p, l, e, s, m, args, below, meth, c, D, A⟩ := Γ
  intro H locs ls h1 hP hD hK hS
  have hP : va_P D vwCl (([] ++ w1) ++ w2) H := hP
  have hD : va_D A (([] ++ w1) ++ w2) := hD
  exact k H locs ls h1 hP.swap hD.swap hK hS
theorem l_tys {R : Room} {nL : Nat} {Q : CtC → State → Prop} {t1 t2 : List (ClassId × FieldType)} (k : AC R nL Q Γ pc lv st ws t1 cells slots) : AC R nL Q Γ pc lv st ws (t1 ++ t2) cells slots := by
  obtain ⟨p, l, e, s, m, args, below, meth, c, D, A⟩ := Γ
  intro H locs ls h1 hP hD hK hS
  exact k H locs ls h1 hP hD ⟨hK.1, fun i q hq => hK.2 i q (by rw [List.getElem?_append_left (List.getElem?_eq_some_iff.mp hq).1]; exact hq)⟩ hS
/-- script[i + j] goes on the stack -/
theorem l_arg (hG : LG wad ad1 ad2 b L xs Γ) {i j z4 z0 : Nat} {z : Int} (h0 : lv[z0]? = some (0, .ref b)) (h4 : lv[z4]? = some (4, .int (nI i))) (hj : i + j < L) (hz : Int32.ofInt z = nI j) (d0 : decode cL_law pc = .ok (.aload_n 0, 1)) (d1 : decode cL_law (pc + 1) = .ok (.iload 4, 2)) (d3 : decode cL_law (pc + 1 + 2) = .ok (.iconst z, 1)) (d4 : decode cL_law (pc + 1 + 2 + 1) = .ok (.iadd, 1)) (d5 : decode cL_law (pc + 1 + 2 + 1 + 1) = .ok (.iaload, 1)) (k : AL Γ (pc + 1 + 2 + 1 + 1 + 1) lv (.int (xs (i + j)) :: st) ws cells slots) : AL Γ pc lv st ws cells slots := by
  have hL := hG.2.2.2.2.2.2.2.2.2
  refine z_aload_n hG.1 z0 h0 d0 rfl ?_
  refine z_iload hG.1 z4 h4 d1 ?_
  refine z_iconst (v := nI j) hG.1 d3 hz ?_
  refine z_iadd hG.1 d4 ?_
  rw [nI_add]
  refine z_sld hG.1 hG.2.2.2.2.2.2.1 hG.2.2.2.2.2.2.2.1 hG.2.2.2.2.2.2.2.2.1 (vp_in_nI hj (by omega)) d5 ?_
  rw [nI_clamp (by omega)]
  exact k
theorem l_callC (hG : LG wad ad1 ad2 b L xs Γ) (hf : cells + 1 ≤ 601024 ∧ slots + 6 ≤ 7293034) {y : MethodName} {cc2 : ByteArray} {nL2 n2 ix : Nat} {rt2 : Option FieldType} {As st0 : List Value} {v : Int32} {hc2 : HS} (hm2 : MkV y cc2 nL2 rt2 RX11 As.length) (hlk : Cond.methodLink nmLaw ix y ∈ TB) (hn : n2 ≤ 40) (hC : Ctr SHc ad1 wad y cc2 nL2 rt2 n2 (.ref (ad1 0) :: As) hc (some (.int v), hc2)) (hst : st0 = As.reverse ++ .ref (ad1 0) :: st) (hw : (st.map fun v => v.category).sum ≤ 8) (d : decode cL_law pc = .ok (.invokevirtual ix, 3)) (k : AL Γ (pc + 3) lv (.int v :: st) (WW o f ad1 ad2 (cyOf Γ) hc2 hm) cells slots) : AL Γ pc lv st0 (WW o f ad1 ad2 (cyOf Γ) hc hm) cells slots := by
  rw [WW_c] at k ⊢
  exact z_call (R := room_1) hG.1 hG.2.1 hG.2.2.2.2.1 (SH := SHc) (h := hc) (i := 0) [(o, .inl (cyOf Γ 2, 1, .inr (.inl f)))] (wl SHm ad2 (cyOf Γ) hm) rfl sc_0 cl_X11 hm2 hlk (show n2 + 1 ≤ 2048 by omega) (show 40 * (n2 + 1) ≤ 84000 by omega) ⟨Nat.le_trans (Nat.le_succ _) hf.1, Nat.le_trans (Nat.le_add_right _ _) hf.2⟩ hC hst hw d k
theorem l_callM (hG : LG wad ad1 ad2 b L xs Γ) (hf : cells ≤ 601024 ∧ slots ≤ 7293034) {y : MethodName} {cc2 : ByteArray} {nL2 n2 ix : Nat} {rt2 : Option FieldType} {As st0 : List Value} {v : Int32} {hm3 : HS} (hm2 : MkV y cc2 nL2 rt2 RX12 As.length) (hlk : Cond.methodLink nmLaw ix y ∈ TB) (hn : n2 ≤ 40) (hC : Ctr SHm ad2 wad y cc2 nL2 rt2 n2 (.ref (ad2 0) :: As) hm (some (.int v), hm3)) (hst : st0 = As.reverse ++ .ref (ad2 0) :: st) (hw : (st.map fun v => v.category).sum ≤ 8) (d : decode cL_law pc = .ok (.invokevirtual ix, 3)) (k : AL Γ (pc + 3) lv (.int v :: st) (WW o f ad1 ad2 (cyOf Γ) hc hm3) cells slots) : AL Γ pc lv st0 (WW o f ad1 ad2 (cyOf Γ) hc hm) cells slots := by
  rw [WW_m] at k ⊢
  exact z_call (R := room_1) hG.1 hG.2.1 hG.2.2.2.2.2.1 (SH := SHm) (h := hm) (i := 0) (wH o f ad1 (cyOf Γ) hc) [] rfl sm_0 cl_X12 hm2 hlk (show n2 + 1 ≤ 2048 by omega) (show 40 * (n2 + 1) ≤ 84000 by omega) hf hC hst hw d k
theorem l_callH (hG : LG wad ad1 ad2 b L xs Γ) (hf : cells + 1 ≤ 601024 ∧ slots + 6 ≤ 7293034) {cc2 : ByteArray} {ix : Nat} {yh : MethodName} {a0 a1 r : Int32} {f1 : Nat → Int64} {hc2 : HS} (hlk : Cond.methodLink nmLaw ix yh ∈ TB) (hstt : Cond.static yh ∈ TB) (hini : Cond.initialized yh.cls ∈ TB) (hcw : Cond.codeWith yh cc2 5 (some .int) hhL ∈ TB) (hd : yh.cls ≠ "java/lang/invoke/MethodHandle" ∧ yh.cls ≠ "java/lang/invoke/VarHandle" ∧ (parseMethodDescriptor yh.desc).map (fun d => d.parameters.length) = some 4) (hC : CtH ad1 wad yh cc2 a0 a1 o f hc r f1 hc2) (d : decode cL_law pc = .ok (.invokestatic ix, 3)) (k : AL Γ (pc + 3) lv [.int r] (WW o f1 ad1 ad2 (cyOf Γ) hc2 hm) (cells + 1) (slots + 6)) : AL Γ pc lv [.ref o, .int a1, .int a0, .ref (ad1 0)] (WW o f ad1 ad2 (cyOf Γ) hc hm) cells slots := by
  rw [WW_h] at k ⊢
  exact z_callH (R := room_1) (w2 := wl SHm ad2 (cyOf Γ) hm) hG.1 hG.2.1 hG.2.2.1 hG.2.2.2.1 hG.2.2.2.2.1 hlk hstt hini hcw hd ⟨Nat.le_of_ble_eq_true rfl, Nat.le_of_ble_eq_true rfl⟩ hf (Nat.le_of_ble_eq_true rfl) hC d k
end LX
theorem thrown_e (h : HS) : f_M_thrown h = some (h.1 0 0, h) := rfl
theorem cmp_e (x : Int64) : lg_cmp x x = 0 := (lg_cmp_eq x x).mpr rfl
theorem and63 (x : Int32) : ∃ j, j < 64 ∧ x &&& nI 63 = nI j := by
  have h1 : (x &&& nI 63).toBitVec.toNat < 64 := by
    rw [Int32.toBitVec_and, BitVec.toNat_and]
    exact Nat.lt_of_le_of_lt Nat.and_le_right (by decide)
  refine ⟨(x &&& nI 63).toBitVec.toNat, h1, ?_⟩
  apply Int32.toBitVec_inj.mp
  generalize (x &&& nI 63).toBitVec = y at h1 ⊢
  apply BitVec.eq_of_toNat_eq
  show y.toNat = (BitVec.ofNat 32 y.toNat).toNat
  rw [BitVec.toNat_ofNat, Nat.mod_eq_of_lt y.isLt]
theorem tl_120 : Cond.initialized nmLaw ∈ TB := TB_in (List.mem_of_getElem? (i := 120) (by decide +kernel)) rfl
theorem tl_142 : Cond.classLink nmLaw 8 RX11 ∈ TB := TB_in (List.mem_of_getElem? (i := 142) (by decide +kernel)) rfl
theorem tl_143 : Cond.instantiable RX11 17 ∈ TB := TB_in (List.mem_of_getElem? (i := 143) (by decide +kernel)) rfl
theorem tl_144 : Cond.methodLink nmLaw 24 yX11_init ∈ TB := TB_in (List.mem_of_getElem? (i := 144) (by decide +kernel)) rfl
theorem tl_145 : Cond.instanceMethod yX11_init ∈ TB := TB_in (List.mem_of_getElem? (i := 145) (by decide +kernel)) rfl
theorem tl_146 : Cond.code yX11_init cX11_init 1 none ∈ TB := TB_in (List.mem_of_getElem? (i := 146) (by decide +kernel)) rfl
theorem tl_237 : Cond.arrayClass .long ∈ TB := TB_in (List.mem_of_getElem? (i := 237) (by decide +kernel)) rfl
theorem tl_533 : Cond.methodLink nmLaw 28 yX11_feed ∈ TB := TB_in (List.mem_of_getElem? (i := 533) (by decide +kernel)) rfl
theorem tl_534 : Cond.instanceMethod yX11_feed ∈ TB := TB_in (List.mem_of_getElem? (i := 534) (by decide +kernel)) rfl
theorem tl_535 : Cond.selects RX11 yX11_feed yX11_feed ∈ TB := TB_in (List.mem_of_getElem? (i := 535) (by decide +kernel)) rfl
theorem tl_536 : Cond.code yX11_feed cX11_feed 6 (some .int) ∈ TB := TB_in (List.mem_of_getElem? (i := 536) (by decide +kernel)) rfl
theorem tl_549 : Cond.methodLink nmLaw 33 yX11_end ∈ TB := TB_in (List.mem_of_getElem? (i := 549) (by decide +kernel)) rfl
theorem tl_550 : Cond.instanceMethod yX11_end ∈ TB := TB_in (List.mem_of_getElem? (i := 550) (by decide +kernel)) rfl
theorem tl_551 : Cond.selects RX11 yX11_end yX11_end ∈ TB := TB_in (List.mem_of_getElem? (i := 551) (by decide +kernel)) rfl
theorem tl_552 : Cond.code yX11_end cX11_end 2 (some .boolean) ∈ TB := TB_in (List.mem_of_getElem? (i := 552) (by decide +kernel)) rfl
theorem tl_557 : Cond.methodLink nmLaw 38 yX11_office ∈ TB := TB_in (List.mem_of_getElem? (i := 557) (by decide +kernel)) rfl
theorem tl_558 : Cond.instanceMethod yX11_office ∈ TB := TB_in (List.mem_of_getElem? (i := 558) (by decide +kernel)) rfl
theorem tl_559 : Cond.selects RX11 yX11_office yX11_office ∈ TB := TB_in (List.mem_of_getElem? (i := 559) (by decide +kernel)) rfl
theorem tl_560 : Cond.code yX11_office cX11_office 2 (some .int) ∈ TB := TB_in (List.mem_of_getElem? (i := 560) (by decide +kernel)) rfl
theorem tl_773 : Cond.methodLink nmLaw 43 yX11_fault ∈ TB := TB_in (List.mem_of_getElem? (i := 773) (by decide +kernel)) rfl
theorem tl_774 : Cond.instanceMethod yX11_fault ∈ TB := TB_in (List.mem_of_getElem? (i := 774) (by decide +kernel)) rfl
theorem tl_775 : Cond.selects RX11 yX11_fault yX11_fault ∈ TB := TB_in (List.mem_of_getElem? (i := 775) (by decide +kernel)) rfl
theorem tl_776 : Cond.code yX11_fault cX11_fault 1 (some .int) ∈ TB := TB_in (List.mem_of_getElem? (i := 776) (by decide +kernel)) rfl
theorem tl_777 : Cond.methodLink nmLaw 59 yX11_deed ∈ TB := TB_in (List.mem_of_getElem? (i := 777) (by decide +kernel)) rfl
theorem tl_778 : Cond.instanceMethod yX11_deed ∈ TB := TB_in (List.mem_of_getElem? (i := 778) (by decide +kernel)) rfl
theorem tl_779 : Cond.selects RX11 yX11_deed yX11_deed ∈ TB := TB_in (List.mem_of_getElem? (i := 779) (by decide +kernel)) rfl
theorem tl_780 : Cond.code yX11_deed cX11_deed 3 (some .int) ∈ TB := TB_in (List.mem_of_getElem? (i := 780) (by decide +kernel)) rfl
theorem tl_786 : Cond.methodLink nmLaw 63 yX11_clerk ∈ TB := TB_in (List.mem_of_getElem? (i := 786) (by decide +kernel)) rfl
theorem tl_787 : Cond.instanceMethod yX11_clerk ∈ TB := TB_in (List.mem_of_getElem? (i := 787) (by decide +kernel)) rfl
theorem tl_788 : Cond.selects RX11 yX11_clerk yX11_clerk ∈ TB := TB_in (List.mem_of_getElem? (i := 788) (by decide +kernel)) rfl
theorem tl_789 : Cond.code yX11_clerk cX11_clerk 3 (some .int) ∈ TB := TB_in (List.mem_of_getElem? (i := 789) (by decide +kernel)) rfl
theorem tl_798 : Cond.methodLink nmLaw 67 yX11_now ∈ TB := TB_in (List.mem_of_getElem? (i := 798) (by decide +kernel)) rfl
theorem tl_799 : Cond.instanceMethod yX11_now ∈ TB := TB_in (List.mem_of_getElem? (i := 799) (by decide +kernel)) rfl
theorem tl_800 : Cond.selects RX11 yX11_now yX11_now ∈ TB := TB_in (List.mem_of_getElem? (i := 800) (by decide +kernel)) rfl
theorem tl_801 : Cond.code yX11_now cX11_now 2 (some .int) ∈ TB := TB_in (List.mem_of_getElem? (i := 801) (by decide +kernel)) rfl
theorem tl_814 : Cond.methodLink nmLaw 72 yX11_take ∈ TB := TB_in (List.mem_of_getElem? (i := 814) (by decide +kernel)) rfl
theorem tl_815 : Cond.instanceMethod yX11_take ∈ TB := TB_in (List.mem_of_getElem? (i := 815) (by decide +kernel)) rfl
theorem tl_816 : Cond.selects RX11 yX11_take yX11_take ∈ TB := TB_in (List.mem_of_getElem? (i := 816) (by decide +kernel)) rfl
theorem tl_817 : Cond.code yX11_take cX11_take 4 (some .int) ∈ TB := TB_in (List.mem_of_getElem? (i := 817) (by decide +kernel)) rfl
theorem tl_854 : Cond.methodLink nmLaw 76 yX11_act ∈ TB := TB_in (List.mem_of_getElem? (i := 854) (by decide +kernel)) rfl
theorem tl_855 : Cond.instanceMethod yX11_act ∈ TB := TB_in (List.mem_of_getElem? (i := 855) (by decide +kernel)) rfl
theorem tl_856 : Cond.selects RX11 yX11_act yX11_act ∈ TB := TB_in (List.mem_of_getElem? (i := 856) (by decide +kernel)) rfl
theorem tl_857 : Cond.code yX11_act cX11_act 4 (some .int) ∈ TB := TB_in (List.mem_of_getElem? (i := 857) (by decide +kernel)) rfl
theorem tl_879 : Cond.methodLink nmLaw 80 yX11_drop ∈ TB := TB_in (List.mem_of_getElem? (i := 879) (by decide +kernel)) rfl
theorem tl_880 : Cond.instanceMethod yX11_drop ∈ TB := TB_in (List.mem_of_getElem? (i := 880) (by decide +kernel)) rfl
theorem tl_881 : Cond.selects RX11 yX11_drop yX11_drop ∈ TB := TB_in (List.mem_of_getElem? (i := 881) (by decide +kernel)) rfl
theorem tl_882 : Cond.code yX11_drop cX11_drop 3 (some .int) ∈ TB := TB_in (List.mem_of_getElem? (i := 882) (by decide +kernel)) rfl
theorem tl_903 : Cond.methodLink nmLaw 84 yX11_weeks ∈ TB := TB_in (List.mem_of_getElem? (i := 903) (by decide +kernel)) rfl
theorem tl_904 : Cond.instanceMethod yX11_weeks ∈ TB := TB_in (List.mem_of_getElem? (i := 904) (by decide +kernel)) rfl
theorem tl_905 : Cond.selects RX11 yX11_weeks yX11_weeks ∈ TB := TB_in (List.mem_of_getElem? (i := 905) (by decide +kernel)) rfl
theorem tl_906 : Cond.code yX11_weeks cX11_weeks 2 (some .int) ∈ TB := TB_in (List.mem_of_getElem? (i := 906) (by decide +kernel)) rfl
theorem tl_926 : Cond.methodLink nmLaw 88 yX11_undo ∈ TB := TB_in (List.mem_of_getElem? (i := 926) (by decide +kernel)) rfl
theorem tl_927 : Cond.instanceMethod yX11_undo ∈ TB := TB_in (List.mem_of_getElem? (i := 927) (by decide +kernel)) rfl
theorem tl_928 : Cond.selects RX11 yX11_undo yX11_undo ∈ TB := TB_in (List.mem_of_getElem? (i := 928) (by decide +kernel)) rfl
theorem tl_929 : Cond.code yX11_undo cX11_undo 1 (some .int) ∈ TB := TB_in (List.mem_of_getElem? (i := 929) (by decide +kernel)) rfl
theorem tl_938 : Cond.methodLink nmLaw 92 yX11_nearest ∈ TB := TB_in (List.mem_of_getElem? (i := 938) (by decide +kernel)) rfl
theorem tl_939 : Cond.instanceMethod yX11_nearest ∈ TB := TB_in (List.mem_of_getElem? (i := 939) (by decide +kernel)) rfl
theorem tl_940 : Cond.selects RX11 yX11_nearest yX11_nearest ∈ TB := TB_in (List.mem_of_getElem? (i := 940) (by decide +kernel)) rfl
theorem tl_941 : Cond.code yX11_nearest cX11_nearest 3 (some .int) ∈ TB := TB_in (List.mem_of_getElem? (i := 941) (by decide +kernel)) rfl
theorem tl_977 : Cond.methodLink nmLaw 96 yX11_near ∈ TB := TB_in (List.mem_of_getElem? (i := 977) (by decide +kernel)) rfl
theorem tl_978 : Cond.instanceMethod yX11_near ∈ TB := TB_in (List.mem_of_getElem? (i := 978) (by decide +kernel)) rfl
theorem tl_979 : Cond.selects RX11 yX11_near yX11_near ∈ TB := TB_in (List.mem_of_getElem? (i := 979) (by decide +kernel)) rfl
theorem tl_980 : Cond.code yX11_near cX11_near 3 (some .int) ∈ TB := TB_in (List.mem_of_getElem? (i := 980) (by decide +kernel)) rfl
theorem tl_990 : Cond.methodLink nmLaw 100 yX11_orders ∈ TB := TB_in (List.mem_of_getElem? (i := 990) (by decide +kernel)) rfl
theorem tl_991 : Cond.instanceMethod yX11_orders ∈ TB := TB_in (List.mem_of_getElem? (i := 991) (by decide +kernel)) rfl
theorem tl_992 : Cond.selects RX11 yX11_orders yX11_orders ∈ TB := TB_in (List.mem_of_getElem? (i := 992) (by decide +kernel)) rfl
theorem tl_993 : Cond.code yX11_orders cX11_orders 3 (some .int) ∈ TB := TB_in (List.mem_of_getElem? (i := 993) (by decide +kernel)) rfl
theorem tl_998 : Cond.methodLink nmLaw 104 yX11_ways ∈ TB := TB_in (List.mem_of_getElem? (i := 998) (by decide +kernel)) rfl
theorem tl_999 : Cond.instanceMethod yX11_ways ∈ TB := TB_in (List.mem_of_getElem? (i := 999) (by decide +kernel)) rfl
theorem tl_1000 : Cond.selects RX11 yX11_ways yX11_ways ∈ TB := TB_in (List.mem_of_getElem? (i := 1000) (by decide +kernel)) rfl
theorem tl_1001 : Cond.code yX11_ways cX11_ways 3 (some .int) ∈ TB := TB_in (List.mem_of_getElem? (i := 1001) (by decide +kernel)) rfl
theorem tl_1006 : Cond.methodLink nmLaw 111 yX11_match ∈ TB := TB_in (List.mem_of_getElem? (i := 1006) (by decide +kernel)) rfl
theorem tl_1007 : Cond.instanceMethod yX11_match ∈ TB := TB_in (List.mem_of_getElem? (i := 1007) (by decide +kernel)) rfl
theorem tl_1008 : Cond.selects RX11 yX11_match yX11_match ∈ TB := TB_in (List.mem_of_getElem? (i := 1008) (by decide +kernel)) rfl
theorem tl_1009 : Cond.code yX11_match cX11_match 1 (some .int) ∈ TB := TB_in (List.mem_of_getElem? (i := 1009) (by decide +kernel)) rfl
theorem tl_1041 : Cond.methodLink nmLaw 115 yX11_matched ∈ TB := TB_in (List.mem_of_getElem? (i := 1041) (by decide +kernel)) rfl
theorem tl_1042 : Cond.instanceMethod yX11_matched ∈ TB := TB_in (List.mem_of_getElem? (i := 1042) (by decide +kernel)) rfl
theorem tl_1043 : Cond.selects RX11 yX11_matched yX11_matched ∈ TB := TB_in (List.mem_of_getElem? (i := 1043) (by decide +kernel)) rfl
theorem tl_1044 : Cond.code yX11_matched cX11_matched 2 (some .int) ∈ TB := TB_in (List.mem_of_getElem? (i := 1044) (by decide +kernel)) rfl
theorem tl_1049 : Cond.methodLink nmLaw 119 yX11_rests ∈ TB := TB_in (List.mem_of_getElem? (i := 1049) (by decide +kernel)) rfl
theorem tl_1050 : Cond.instanceMethod yX11_rests ∈ TB := TB_in (List.mem_of_getElem? (i := 1050) (by decide +kernel)) rfl
theorem tl_1051 : Cond.selects RX11 yX11_rests yX11_rests ∈ TB := TB_in (List.mem_of_getElem? (i := 1051) (by decide +kernel)) rfl
theorem tl_1052 : Cond.code yX11_rests cX11_rests 2 (some .int) ∈ TB := TB_in (List.mem_of_getElem? (i := 1052) (by decide +kernel)) rfl
theorem tl_1070 : Cond.methodLink nmLaw 123 yX11_parts ∈ TB := TB_in (List.mem_of_getElem? (i := 1070) (by decide +kernel)) rfl
theorem tl_1071 : Cond.instanceMethod yX11_parts ∈ TB := TB_in (List.mem_of_getElem? (i := 1071) (by decide +kernel)) rfl
theorem tl_1072 : Cond.selects RX11 yX11_parts yX11_parts ∈ TB := TB_in (List.mem_of_getElem? (i := 1072) (by decide +kernel)) rfl
theorem tl_1073 : Cond.code yX11_parts cX11_parts 2 (some .int) ∈ TB := TB_in (List.mem_of_getElem? (i := 1073) (by decide +kernel)) rfl
theorem tl_1092 : Cond.methodLink nmLaw 127 yX11_plot ∈ TB := TB_in (List.mem_of_getElem? (i := 1092) (by decide +kernel)) rfl
theorem tl_1093 : Cond.instanceMethod yX11_plot ∈ TB := TB_in (List.mem_of_getElem? (i := 1093) (by decide +kernel)) rfl
theorem tl_1094 : Cond.selects RX11 yX11_plot yX11_plot ∈ TB := TB_in (List.mem_of_getElem? (i := 1094) (by decide +kernel)) rfl
theorem tl_1095 : Cond.code yX11_plot cX11_plot 2 (some .int) ∈ TB := TB_in (List.mem_of_getElem? (i := 1095) (by decide +kernel)) rfl
theorem tl_1104 : Cond.methodLink nmLaw 134 yX11_school ∈ TB := TB_in (List.mem_of_getElem? (i := 1104) (by decide +kernel)) rfl
theorem tl_1105 : Cond.instanceMethod yX11_school ∈ TB := TB_in (List.mem_of_getElem? (i := 1105) (by decide +kernel)) rfl
theorem tl_1106 : Cond.selects RX11 yX11_school yX11_school ∈ TB := TB_in (List.mem_of_getElem? (i := 1106) (by decide +kernel)) rfl
theorem tl_1107 : Cond.code yX11_school cX11_school 3 (some .int) ∈ TB := TB_in (List.mem_of_getElem? (i := 1107) (by decide +kernel)) rfl
theorem tl_1157 : Cond.methodLink nmLaw 138 yX11_best ∈ TB := TB_in (List.mem_of_getElem? (i := 1157) (by decide +kernel)) rfl
theorem tl_1158 : Cond.instanceMethod yX11_best ∈ TB := TB_in (List.mem_of_getElem? (i := 1158) (by decide +kernel)) rfl
theorem tl_1159 : Cond.selects RX11 yX11_best yX11_best ∈ TB := TB_in (List.mem_of_getElem? (i := 1159) (by decide +kernel)) rfl
theorem tl_1160 : Cond.code yX11_best cX11_best 5 (some .int) ∈ TB := TB_in (List.mem_of_getElem? (i := 1160) (by decide +kernel)) rfl
theorem tl_1161 : Cond.methodLink nmLaw 142 yX11_flags ∈ TB := TB_in (List.mem_of_getElem? (i := 1161) (by decide +kernel)) rfl
theorem tl_1162 : Cond.instanceMethod yX11_flags ∈ TB := TB_in (List.mem_of_getElem? (i := 1162) (by decide +kernel)) rfl
theorem tl_1163 : Cond.selects RX11 yX11_flags yX11_flags ∈ TB := TB_in (List.mem_of_getElem? (i := 1163) (by decide +kernel)) rfl
theorem tl_1164 : Cond.code yX11_flags cX11_flags 6 (some .int) ∈ TB := TB_in (List.mem_of_getElem? (i := 1164) (by decide +kernel)) rfl
theorem tl_1179 : Cond.methodLink nmLaw 146 yX11_tried ∈ TB := TB_in (List.mem_of_getElem? (i := 1179) (by decide +kernel)) rfl
theorem tl_1180 : Cond.instanceMethod yX11_tried ∈ TB := TB_in (List.mem_of_getElem? (i := 1180) (by decide +kernel)) rfl
theorem tl_1181 : Cond.selects RX11 yX11_tried yX11_tried ∈ TB := TB_in (List.mem_of_getElem? (i := 1181) (by decide +kernel)) rfl
theorem tl_1182 : Cond.code yX11_tried cX11_tried 1 (some .int) ∈ TB := TB_in (List.mem_of_getElem? (i := 1182) (by decide +kernel)) rfl
theorem tl_1183 : Cond.methodLink nmLaw 150 yX11_pay ∈ TB := TB_in (List.mem_of_getElem? (i := 1183) (by decide +kernel)) rfl
theorem tl_1184 : Cond.instanceMethod yX11_pay ∈ TB := TB_in (List.mem_of_getElem? (i := 1184) (by decide +kernel)) rfl
theorem tl_1185 : Cond.selects RX11 yX11_pay yX11_pay ∈ TB := TB_in (List.mem_of_getElem? (i := 1185) (by decide +kernel)) rfl
theorem tl_1186 : Cond.code yX11_pay cX11_pay 2 (some .int) ∈ TB := TB_in (List.mem_of_getElem? (i := 1186) (by decide +kernel)) rfl
theorem tl_1188 : Cond.methodLink nmLaw 154 yX11_dies ∈ TB := TB_in (List.mem_of_getElem? (i := 1188) (by decide +kernel)) rfl
theorem tl_1189 : Cond.instanceMethod yX11_dies ∈ TB := TB_in (List.mem_of_getElem? (i := 1189) (by decide +kernel)) rfl
theorem tl_1190 : Cond.selects RX11 yX11_dies yX11_dies ∈ TB := TB_in (List.mem_of_getElem? (i := 1190) (by decide +kernel)) rfl
theorem tl_1191 : Cond.code yX11_dies cX11_dies 3 (some .int) ∈ TB := TB_in (List.mem_of_getElem? (i := 1191) (by decide +kernel)) rfl
theorem tl_1193 : Cond.methodLink nmLaw 158 yX11_saddest ∈ TB := TB_in (List.mem_of_getElem? (i := 1193) (by decide +kernel)) rfl
theorem tl_1194 : Cond.instanceMethod yX11_saddest ∈ TB := TB_in (List.mem_of_getElem? (i := 1194) (by decide +kernel)) rfl
theorem tl_1195 : Cond.selects RX11 yX11_saddest yX11_saddest ∈ TB := TB_in (List.mem_of_getElem? (i := 1195) (by decide +kernel)) rfl
theorem tl_1196 : Cond.code yX11_saddest cX11_saddest 4 (some .int) ∈ TB := TB_in (List.mem_of_getElem? (i := 1196) (by decide +kernel)) rfl
theorem tl_1200 : Cond.methodLink nmLaw 162 yX11_drawn ∈ TB := TB_in (List.mem_of_getElem? (i := 1200) (by decide +kernel)) rfl
theorem tl_1201 : Cond.instanceMethod yX11_drawn ∈ TB := TB_in (List.mem_of_getElem? (i := 1201) (by decide +kernel)) rfl
theorem tl_1202 : Cond.selects RX11 yX11_drawn yX11_drawn ∈ TB := TB_in (List.mem_of_getElem? (i := 1202) (by decide +kernel)) rfl
theorem tl_1203 : Cond.code yX11_drawn cX11_drawn 3 (some .int) ∈ TB := TB_in (List.mem_of_getElem? (i := 1203) (by decide +kernel)) rfl
theorem tl_1218 : Cond.methodLink nmLaw 166 yX11_risk ∈ TB := TB_in (List.mem_of_getElem? (i := 1218) (by decide +kernel)) rfl
theorem tl_1219 : Cond.instanceMethod yX11_risk ∈ TB := TB_in (List.mem_of_getElem? (i := 1219) (by decide +kernel)) rfl
theorem tl_1220 : Cond.selects RX11 yX11_risk yX11_risk ∈ TB := TB_in (List.mem_of_getElem? (i := 1220) (by decide +kernel)) rfl
theorem tl_1221 : Cond.code yX11_risk cX11_risk 6 (some .int) ∈ TB := TB_in (List.mem_of_getElem? (i := 1221) (by decide +kernel)) rfl
theorem tl_1224 : Cond.methodLink nmLaw 170 yX11_ledger ∈ TB := TB_in (List.mem_of_getElem? (i := 1224) (by decide +kernel)) rfl
theorem tl_1225 : Cond.instanceMethod yX11_ledger ∈ TB := TB_in (List.mem_of_getElem? (i := 1225) (by decide +kernel)) rfl
theorem tl_1226 : Cond.selects RX11 yX11_ledger yX11_ledger ∈ TB := TB_in (List.mem_of_getElem? (i := 1226) (by decide +kernel)) rfl
theorem tl_1227 : Cond.code yX11_ledger cX11_ledger 5 (some .int) ∈ TB := TB_in (List.mem_of_getElem? (i := 1227) (by decide +kernel)) rfl
theorem tl_1299 : Cond.methodLink nmLaw 174 yX11_booked ∈ TB := TB_in (List.mem_of_getElem? (i := 1299) (by decide +kernel)) rfl
theorem tl_1300 : Cond.instanceMethod yX11_booked ∈ TB := TB_in (List.mem_of_getElem? (i := 1300) (by decide +kernel)) rfl
theorem tl_1301 : Cond.selects RX11 yX11_booked yX11_booked ∈ TB := TB_in (List.mem_of_getElem? (i := 1301) (by decide +kernel)) rfl
theorem tl_1302 : Cond.code yX11_booked cX11_booked 2 (some .int) ∈ TB := TB_in (List.mem_of_getElem? (i := 1302) (by decide +kernel)) rfl
theorem tl_1303 : Cond.methodLink nmLaw 178 yX11_sentence ∈ TB := TB_in (List.mem_of_getElem? (i := 1303) (by decide +kernel)) rfl
theorem tl_1304 : Cond.instanceMethod yX11_sentence ∈ TB := TB_in (List.mem_of_getElem? (i := 1304) (by decide +kernel)) rfl
theorem tl_1305 : Cond.selects RX11 yX11_sentence yX11_sentence ∈ TB := TB_in (List.mem_of_getElem? (i := 1305) (by decide +kernel)) rfl
theorem tl_1306 : Cond.code yX11_sentence cX11_sentence 2 (some .int) ∈ TB := TB_in (List.mem_of_getElem? (i := 1306) (by decide +kernel)) rfl
theorem tl_1384 : Cond.methodLink nmLaw 182 yX11_said ∈ TB := TB_in (List.mem_of_getElem? (i := 1384) (by decide +kernel)) rfl
theorem tl_1385 : Cond.instanceMethod yX11_said ∈ TB := TB_in (List.mem_of_getElem? (i := 1385) (by decide +kernel)) rfl
theorem tl_1386 : Cond.selects RX11 yX11_said yX11_said ∈ TB := TB_in (List.mem_of_getElem? (i := 1386) (by decide +kernel)) rfl
theorem tl_1387 : Cond.code yX11_said cX11_said 4 (some .int) ∈ TB := TB_in (List.mem_of_getElem? (i := 1387) (by decide +kernel)) rfl
theorem tl_1406 : Cond.methodLink nmLaw 186 yX11_image ∈ TB := TB_in (List.mem_of_getElem? (i := 1406) (by decide +kernel)) rfl
theorem tl_1407 : Cond.instanceMethod yX11_image ∈ TB := TB_in (List.mem_of_getElem? (i := 1407) (by decide +kernel)) rfl
theorem tl_1408 : Cond.selects RX11 yX11_image yX11_image ∈ TB := TB_in (List.mem_of_getElem? (i := 1408) (by decide +kernel)) rfl
theorem tl_1409 : Cond.code yX11_image cX11_image 2 (some .boolean) ∈ TB := TB_in (List.mem_of_getElem? (i := 1409) (by decide +kernel)) rfl
theorem tl_1421 : Cond.methodLink nmLaw 190 yX11_restore ∈ TB := TB_in (List.mem_of_getElem? (i := 1421) (by decide +kernel)) rfl
theorem tl_1422 : Cond.instanceMethod yX11_restore ∈ TB := TB_in (List.mem_of_getElem? (i := 1422) (by decide +kernel)) rfl
theorem tl_1423 : Cond.selects RX11 yX11_restore yX11_restore ∈ TB := TB_in (List.mem_of_getElem? (i := 1423) (by decide +kernel)) rfl
theorem tl_1424 : Cond.code yX11_restore cX11_restore 2 (some .boolean) ∈ TB := TB_in (List.mem_of_getElem? (i := 1424) (by decide +kernel)) rfl
theorem tl_1434 : Cond.methodLink nmLaw 194 yX11_count ∈ TB := TB_in (List.mem_of_getElem? (i := 1434) (by decide +kernel)) rfl
theorem tl_1435 : Cond.instanceMethod yX11_count ∈ TB := TB_in (List.mem_of_getElem? (i := 1435) (by decide +kernel)) rfl
theorem tl_1436 : Cond.selects RX11 yX11_count yX11_count ∈ TB := TB_in (List.mem_of_getElem? (i := 1436) (by decide +kernel)) rfl
theorem tl_1437 : Cond.code yX11_count cX11_count 2 (some .int) ∈ TB := TB_in (List.mem_of_getElem? (i := 1437) (by decide +kernel)) rfl
theorem tl_1452 : Cond.methodLink nmLaw 47 yL_cause ∈ TB := TB_in (List.mem_of_getElem? (i := 1452) (by decide +kernel)) rfl
theorem tl_1453 : Cond.static yL_cause ∈ TB := TB_in (List.mem_of_getElem? (i := 1453) (by decide +kernel)) rfl
theorem tl_1454 : Cond.codeWith yL_cause cL_cause 5 (some .int) hhL ∈ TB := TB_in (List.mem_of_getElem? (i := 1454) (by decide +kernel)) rfl
theorem tl_1455 : Cond.classLink nmLaw 13 nsX ∈ TB := TB_in (List.mem_of_getElem? (i := 1455) (by decide +kernel)) rfl
theorem tl_1456 : Cond.methodLink nmLaw 7 yX11_cause ∈ TB := TB_in (List.mem_of_getElem? (i := 1456) (by decide +kernel)) rfl
theorem tl_1457 : Cond.instanceMethod yX11_cause ∈ TB := TB_in (List.mem_of_getElem? (i := 1457) (by decide +kernel)) rfl
theorem tl_1458 : Cond.selects RX11 yX11_cause yX11_cause ∈ TB := TB_in (List.mem_of_getElem? (i := 1458) (by decide +kernel)) rfl
theorem tl_1459 : Cond.code yX11_cause cX11_cause 3 (some .int) ∈ TB := TB_in (List.mem_of_getElem? (i := 1459) (by decide +kernel)) rfl
theorem tl_1525 : Cond.methodLink nmLaw 56 yL_odds ∈ TB := TB_in (List.mem_of_getElem? (i := 1525) (by decide +kernel)) rfl
theorem tl_1526 : Cond.static yL_odds ∈ TB := TB_in (List.mem_of_getElem? (i := 1526) (by decide +kernel)) rfl
theorem tl_1527 : Cond.codeWith yL_odds cL_odds 5 (some .int) hhL ∈ TB := TB_in (List.mem_of_getElem? (i := 1527) (by decide +kernel)) rfl
theorem tl_1528 : Cond.methodLink nmLaw 15 yX11_odds ∈ TB := TB_in (List.mem_of_getElem? (i := 1528) (by decide +kernel)) rfl
theorem tl_1529 : Cond.instanceMethod yX11_odds ∈ TB := TB_in (List.mem_of_getElem? (i := 1529) (by decide +kernel)) rfl
theorem tl_1530 : Cond.selects RX11 yX11_odds yX11_odds ∈ TB := TB_in (List.mem_of_getElem? (i := 1530) (by decide +kernel)) rfl
theorem tl_1531 : Cond.code yX11_odds cX11_odds 4 (some .int) ∈ TB := TB_in (List.mem_of_getElem? (i := 1531) (by decide +kernel)) rfl
theorem tl_1539 : Cond.methodLink nmLaw 108 yL_value ∈ TB := TB_in (List.mem_of_getElem? (i := 1539) (by decide +kernel)) rfl
theorem tl_1540 : Cond.static yL_value ∈ TB := TB_in (List.mem_of_getElem? (i := 1540) (by decide +kernel)) rfl
theorem tl_1541 : Cond.codeWith yL_value cL_value 5 (some .int) hhL ∈ TB := TB_in (List.mem_of_getElem? (i := 1541) (by decide +kernel)) rfl
theorem tl_1542 : Cond.methodLink nmLaw 18 yX11_value ∈ TB := TB_in (List.mem_of_getElem? (i := 1542) (by decide +kernel)) rfl
theorem tl_1543 : Cond.instanceMethod yX11_value ∈ TB := TB_in (List.mem_of_getElem? (i := 1543) (by decide +kernel)) rfl
theorem tl_1544 : Cond.selects RX11 yX11_value yX11_value ∈ TB := TB_in (List.mem_of_getElem? (i := 1544) (by decide +kernel)) rfl
theorem tl_1545 : Cond.code yX11_value cX11_value 3 (some .int) ∈ TB := TB_in (List.mem_of_getElem? (i := 1545) (by decide +kernel)) rfl
theorem tl_1548 : Cond.methodLink nmLaw 131 yL_fair ∈ TB := TB_in (List.mem_of_getElem? (i := 1548) (by decide +kernel)) rfl
theorem tl_1549 : Cond.static yL_fair ∈ TB := TB_in (List.mem_of_getElem? (i := 1549) (by decide +kernel)) rfl
theorem tl_1550 : Cond.codeWith yL_fair cL_fair 5 (some .int) hhL ∈ TB := TB_in (List.mem_of_getElem? (i := 1550) (by decide +kernel)) rfl
theorem tl_1551 : Cond.methodLink nmLaw 21 yX11_fair ∈ TB := TB_in (List.mem_of_getElem? (i := 1551) (by decide +kernel)) rfl
theorem tl_1552 : Cond.instanceMethod yX11_fair ∈ TB := TB_in (List.mem_of_getElem? (i := 1552) (by decide +kernel)) rfl
theorem tl_1553 : Cond.selects RX11 yX11_fair yX11_fair ∈ TB := TB_in (List.mem_of_getElem? (i := 1553) (by decide +kernel)) rfl
theorem tl_1554 : Cond.code yX11_fair cX11_fair 3 (some .int) ∈ TB := TB_in (List.mem_of_getElem? (i := 1554) (by decide +kernel)) rfl
theorem tl_1556 : Cond.methodLink nmLaw 53 yX12_thrown ∈ TB := TB_in (List.mem_of_getElem? (i := 1556) (by decide +kernel)) rfl
theorem tl_1557 : Cond.instanceMethod yX12_thrown ∈ TB := TB_in (List.mem_of_getElem? (i := 1557) (by decide +kernel)) rfl
theorem tl_1558 : Cond.selects RX12 yX12_thrown yX12_thrown ∈ TB := TB_in (List.mem_of_getElem? (i := 1558) (by decide +kernel)) rfl
theorem tl_1559 : Cond.code yX12_thrown cX12_thrown 1 (some .int) ∈ TB := TB_in (List.mem_of_getElem? (i := 1559) (by decide +kernel)) rfl
theorem tl_1560 : Cond.methodLink nmLaw 32 yX12_feed ∈ TB := TB_in (List.mem_of_getElem? (i := 1560) (by decide +kernel)) rfl
theorem tl_1561 : Cond.instanceMethod yX12_feed ∈ TB := TB_in (List.mem_of_getElem? (i := 1561) (by decide +kernel)) rfl
theorem tl_1562 : Cond.selects RX12 yX12_feed yX12_feed ∈ TB := TB_in (List.mem_of_getElem? (i := 1562) (by decide +kernel)) rfl
theorem tl_1563 : Cond.code yX12_feed cX12_feed 6 (some .int) ∈ TB := TB_in (List.mem_of_getElem? (i := 1563) (by decide +kernel)) rfl
theorem tl_1567 : Cond.instantiable RX12 45 ∈ TB := TB_in (List.mem_of_getElem? (i := 1567) (by decide +kernel)) rfl
theorem tl_1569 : Cond.methodLink nmLaw 37 yX12_end ∈ TB := TB_in (List.mem_of_getElem? (i := 1569) (by decide +kernel)) rfl
theorem tl_1570 : Cond.instanceMethod yX12_end ∈ TB := TB_in (List.mem_of_getElem? (i := 1570) (by decide +kernel)) rfl
theorem tl_1571 : Cond.selects RX12 yX12_end yX12_end ∈ TB := TB_in (List.mem_of_getElem? (i := 1571) (by decide +kernel)) rfl
theorem tl_1572 : Cond.code yX12_end cX12_end 2 (some .boolean) ∈ TB := TB_in (List.mem_of_getElem? (i := 1572) (by decide +kernel)) rfl
theorem tl_1573 : Cond.classLink nmLaw 25 RX12 ∈ TB := TB_in (List.mem_of_getElem? (i := 1573) (by decide +kernel)) rfl
theorem tl_1574 : Cond.methodLink nmLaw 27 yX12_init ∈ TB := TB_in (List.mem_of_getElem? (i := 1574) (by decide +kernel)) rfl
theorem tl_1575 : Cond.instanceMethod yX12_init ∈ TB := TB_in (List.mem_of_getElem? (i := 1575) (by decide +kernel)) rfl
theorem tl_1576 : Cond.code yX12_init cX12_init 2 none ∈ TB := TB_in (List.mem_of_getElem? (i := 1576) (by decide +kernel)) rfl
theorem tl_1746 : Cond.methodLink nmLaw 42 yX12_office ∈ TB := TB_in (List.mem_of_getElem? (i := 1746) (by decide +kernel)) rfl
theorem tl_1747 : Cond.instanceMethod yX12_office ∈ TB := TB_in (List.mem_of_getElem? (i := 1747) (by decide +kernel)) rfl
theorem tl_1748 : Cond.selects RX12 yX12_office yX12_office ∈ TB := TB_in (List.mem_of_getElem? (i := 1748) (by decide +kernel)) rfl
theorem tl_1749 : Cond.code yX12_office cX12_office 2 (some .int) ∈ TB := TB_in (List.mem_of_getElem? (i := 1749) (by decide +kernel)) rfl
theorem tl_1822 : Cond.methodLink nmLaw 46 yX12_fault ∈ TB := TB_in (List.mem_of_getElem? (i := 1822) (by decide +kernel)) rfl
theorem tl_1823 : Cond.instanceMethod yX12_fault ∈ TB := TB_in (List.mem_of_getElem? (i := 1823) (by decide +kernel)) rfl
theorem tl_1824 : Cond.selects RX12 yX12_fault yX12_fault ∈ TB := TB_in (List.mem_of_getElem? (i := 1824) (by decide +kernel)) rfl
theorem tl_1825 : Cond.code yX12_fault cX12_fault 1 (some .int) ∈ TB := TB_in (List.mem_of_getElem? (i := 1825) (by decide +kernel)) rfl
theorem tl_1826 : Cond.methodLink nmLaw 52 yX12_cause ∈ TB := TB_in (List.mem_of_getElem? (i := 1826) (by decide +kernel)) rfl
theorem tl_1827 : Cond.instanceMethod yX12_cause ∈ TB := TB_in (List.mem_of_getElem? (i := 1827) (by decide +kernel)) rfl
theorem tl_1828 : Cond.selects RX12 yX12_cause yX12_cause ∈ TB := TB_in (List.mem_of_getElem? (i := 1828) (by decide +kernel)) rfl
theorem tl_1829 : Cond.code yX12_cause cX12_cause 3 (some .int) ∈ TB := TB_in (List.mem_of_getElem? (i := 1829) (by decide +kernel)) rfl
theorem tl_1854 : Cond.methodLink nmLaw 58 yX12_odds ∈ TB := TB_in (List.mem_of_getElem? (i := 1854) (by decide +kernel)) rfl
theorem tl_1855 : Cond.instanceMethod yX12_odds ∈ TB := TB_in (List.mem_of_getElem? (i := 1855) (by decide +kernel)) rfl
theorem tl_1856 : Cond.selects RX12 yX12_odds yX12_odds ∈ TB := TB_in (List.mem_of_getElem? (i := 1856) (by decide +kernel)) rfl
theorem tl_1857 : Cond.code yX12_odds cX12_odds 3 (some .int) ∈ TB := TB_in (List.mem_of_getElem? (i := 1857) (by decide +kernel)) rfl
theorem tl_1861 : Cond.methodLink nmLaw 62 yX12_deed ∈ TB := TB_in (List.mem_of_getElem? (i := 1861) (by decide +kernel)) rfl
theorem tl_1862 : Cond.instanceMethod yX12_deed ∈ TB := TB_in (List.mem_of_getElem? (i := 1862) (by decide +kernel)) rfl
theorem tl_1863 : Cond.selects RX12 yX12_deed yX12_deed ∈ TB := TB_in (List.mem_of_getElem? (i := 1863) (by decide +kernel)) rfl
theorem tl_1864 : Cond.code yX12_deed cX12_deed 3 (some .int) ∈ TB := TB_in (List.mem_of_getElem? (i := 1864) (by decide +kernel)) rfl
theorem tl_1869 : Cond.methodLink nmLaw 66 yX12_clerk ∈ TB := TB_in (List.mem_of_getElem? (i := 1869) (by decide +kernel)) rfl
theorem tl_1870 : Cond.instanceMethod yX12_clerk ∈ TB := TB_in (List.mem_of_getElem? (i := 1870) (by decide +kernel)) rfl
theorem tl_1871 : Cond.selects RX12 yX12_clerk yX12_clerk ∈ TB := TB_in (List.mem_of_getElem? (i := 1871) (by decide +kernel)) rfl
theorem tl_1872 : Cond.code yX12_clerk cX12_clerk 3 (some .int) ∈ TB := TB_in (List.mem_of_getElem? (i := 1872) (by decide +kernel)) rfl
theorem tl_1877 : Cond.methodLink nmLaw 71 yX12_now ∈ TB := TB_in (List.mem_of_getElem? (i := 1877) (by decide +kernel)) rfl
theorem tl_1878 : Cond.instanceMethod yX12_now ∈ TB := TB_in (List.mem_of_getElem? (i := 1878) (by decide +kernel)) rfl
theorem tl_1879 : Cond.selects RX12 yX12_now yX12_now ∈ TB := TB_in (List.mem_of_getElem? (i := 1879) (by decide +kernel)) rfl
theorem tl_1880 : Cond.code yX12_now cX12_now 4 (some .int) ∈ TB := TB_in (List.mem_of_getElem? (i := 1880) (by decide +kernel)) rfl
theorem tl_1881 : Cond.methodLink nmLaw 75 yX12_take ∈ TB := TB_in (List.mem_of_getElem? (i := 1881) (by decide +kernel)) rfl
theorem tl_1882 : Cond.instanceMethod yX12_take ∈ TB := TB_in (List.mem_of_getElem? (i := 1882) (by decide +kernel)) rfl
theorem tl_1883 : Cond.selects RX12 yX12_take yX12_take ∈ TB := TB_in (List.mem_of_getElem? (i := 1883) (by decide +kernel)) rfl
theorem tl_1884 : Cond.code yX12_take cX12_take 4 (some .int) ∈ TB := TB_in (List.mem_of_getElem? (i := 1884) (by decide +kernel)) rfl
theorem tl_1905 : Cond.methodLink nmLaw 79 yX12_act ∈ TB := TB_in (List.mem_of_getElem? (i := 1905) (by decide +kernel)) rfl
theorem tl_1906 : Cond.instanceMethod yX12_act ∈ TB := TB_in (List.mem_of_getElem? (i := 1906) (by decide +kernel)) rfl
theorem tl_1907 : Cond.selects RX12 yX12_act yX12_act ∈ TB := TB_in (List.mem_of_getElem? (i := 1907) (by decide +kernel)) rfl
theorem tl_1908 : Cond.code yX12_act cX12_act 4 (some .int) ∈ TB := TB_in (List.mem_of_getElem? (i := 1908) (by decide +kernel)) rfl
theorem tl_1917 : Cond.methodLink nmLaw 83 yX12_drop ∈ TB := TB_in (List.mem_of_getElem? (i := 1917) (by decide +kernel)) rfl
theorem tl_1918 : Cond.instanceMethod yX12_drop ∈ TB := TB_in (List.mem_of_getElem? (i := 1918) (by decide +kernel)) rfl
theorem tl_1919 : Cond.selects RX12 yX12_drop yX12_drop ∈ TB := TB_in (List.mem_of_getElem? (i := 1919) (by decide +kernel)) rfl
theorem tl_1920 : Cond.code yX12_drop cX12_drop 3 (some .int) ∈ TB := TB_in (List.mem_of_getElem? (i := 1920) (by decide +kernel)) rfl
theorem tl_1933 : Cond.methodLink nmLaw 87 yX12_weeks ∈ TB := TB_in (List.mem_of_getElem? (i := 1933) (by decide +kernel)) rfl
theorem tl_1934 : Cond.instanceMethod yX12_weeks ∈ TB := TB_in (List.mem_of_getElem? (i := 1934) (by decide +kernel)) rfl
theorem tl_1935 : Cond.selects RX12 yX12_weeks yX12_weeks ∈ TB := TB_in (List.mem_of_getElem? (i := 1935) (by decide +kernel)) rfl
theorem tl_1936 : Cond.code yX12_weeks cX12_weeks 4 (some .int) ∈ TB := TB_in (List.mem_of_getElem? (i := 1936) (by decide +kernel)) rfl
theorem tl_1948 : Cond.methodLink nmLaw 91 yX12_undo ∈ TB := TB_in (List.mem_of_getElem? (i := 1948) (by decide +kernel)) rfl
theorem tl_1949 : Cond.instanceMethod yX12_undo ∈ TB := TB_in (List.mem_of_getElem? (i := 1949) (by decide +kernel)) rfl
theorem tl_1950 : Cond.selects RX12 yX12_undo yX12_undo ∈ TB := TB_in (List.mem_of_getElem? (i := 1950) (by decide +kernel)) rfl
theorem tl_1951 : Cond.code yX12_undo cX12_undo 2 (some .int) ∈ TB := TB_in (List.mem_of_getElem? (i := 1951) (by decide +kernel)) rfl
theorem tl_1952 : Cond.methodLink nmLaw 95 yX12_nearest ∈ TB := TB_in (List.mem_of_getElem? (i := 1952) (by decide +kernel)) rfl
theorem tl_1953 : Cond.instanceMethod yX12_nearest ∈ TB := TB_in (List.mem_of_getElem? (i := 1953) (by decide +kernel)) rfl
theorem tl_1954 : Cond.selects RX12 yX12_nearest yX12_nearest ∈ TB := TB_in (List.mem_of_getElem? (i := 1954) (by decide +kernel)) rfl
theorem tl_1955 : Cond.code yX12_nearest cX12_nearest 3 (some .int) ∈ TB := TB_in (List.mem_of_getElem? (i := 1955) (by decide +kernel)) rfl
theorem tl_1971 : Cond.methodLink nmLaw 99 yX12_near ∈ TB := TB_in (List.mem_of_getElem? (i := 1971) (by decide +kernel)) rfl
theorem tl_1972 : Cond.instanceMethod yX12_near ∈ TB := TB_in (List.mem_of_getElem? (i := 1972) (by decide +kernel)) rfl
theorem tl_1973 : Cond.selects RX12 yX12_near yX12_near ∈ TB := TB_in (List.mem_of_getElem? (i := 1973) (by decide +kernel)) rfl
theorem tl_1974 : Cond.code yX12_near cX12_near 3 (some .int) ∈ TB := TB_in (List.mem_of_getElem? (i := 1974) (by decide +kernel)) rfl
theorem tl_1979 : Cond.methodLink nmLaw 103 yX12_orders ∈ TB := TB_in (List.mem_of_getElem? (i := 1979) (by decide +kernel)) rfl
theorem tl_1980 : Cond.instanceMethod yX12_orders ∈ TB := TB_in (List.mem_of_getElem? (i := 1980) (by decide +kernel)) rfl
theorem tl_1981 : Cond.selects RX12 yX12_orders yX12_orders ∈ TB := TB_in (List.mem_of_getElem? (i := 1981) (by decide +kernel)) rfl
theorem tl_1982 : Cond.code yX12_orders cX12_orders 3 (some .int) ∈ TB := TB_in (List.mem_of_getElem? (i := 1982) (by decide +kernel)) rfl
theorem tl_1983 : Cond.methodLink nmLaw 107 yX12_ways ∈ TB := TB_in (List.mem_of_getElem? (i := 1983) (by decide +kernel)) rfl
theorem tl_1984 : Cond.instanceMethod yX12_ways ∈ TB := TB_in (List.mem_of_getElem? (i := 1984) (by decide +kernel)) rfl
theorem tl_1985 : Cond.selects RX12 yX12_ways yX12_ways ∈ TB := TB_in (List.mem_of_getElem? (i := 1985) (by decide +kernel)) rfl
theorem tl_1986 : Cond.code yX12_ways cX12_ways 5 (some .int) ∈ TB := TB_in (List.mem_of_getElem? (i := 1986) (by decide +kernel)) rfl
theorem tl_1987 : Cond.methodLink nmLaw 110 yX12_value ∈ TB := TB_in (List.mem_of_getElem? (i := 1987) (by decide +kernel)) rfl
theorem tl_1988 : Cond.instanceMethod yX12_value ∈ TB := TB_in (List.mem_of_getElem? (i := 1988) (by decide +kernel)) rfl
theorem tl_1989 : Cond.selects RX12 yX12_value yX12_value ∈ TB := TB_in (List.mem_of_getElem? (i := 1989) (by decide +kernel)) rfl
theorem tl_1990 : Cond.code yX12_value cX12_value 3 (some .int) ∈ TB := TB_in (List.mem_of_getElem? (i := 1990) (by decide +kernel)) rfl
theorem tl_1995 : Cond.methodLink nmLaw 114 yX12_match ∈ TB := TB_in (List.mem_of_getElem? (i := 1995) (by decide +kernel)) rfl
theorem tl_1996 : Cond.instanceMethod yX12_match ∈ TB := TB_in (List.mem_of_getElem? (i := 1996) (by decide +kernel)) rfl
theorem tl_1997 : Cond.selects RX12 yX12_match yX12_match ∈ TB := TB_in (List.mem_of_getElem? (i := 1997) (by decide +kernel)) rfl
theorem tl_1998 : Cond.code yX12_match cX12_match 5 (some .int) ∈ TB := TB_in (List.mem_of_getElem? (i := 1998) (by decide +kernel)) rfl
theorem tl_2008 : Cond.methodLink nmLaw 118 yX12_matched ∈ TB := TB_in (List.mem_of_getElem? (i := 2008) (by decide +kernel)) rfl
theorem tl_2009 : Cond.instanceMethod yX12_matched ∈ TB := TB_in (List.mem_of_getElem? (i := 2009) (by decide +kernel)) rfl
theorem tl_2010 : Cond.selects RX12 yX12_matched yX12_matched ∈ TB := TB_in (List.mem_of_getElem? (i := 2010) (by decide +kernel)) rfl
theorem tl_2011 : Cond.code yX12_matched cX12_matched 2 (some .int) ∈ TB := TB_in (List.mem_of_getElem? (i := 2011) (by decide +kernel)) rfl
theorem tl_2012 : Cond.methodLink nmLaw 122 yX12_rests ∈ TB := TB_in (List.mem_of_getElem? (i := 2012) (by decide +kernel)) rfl
theorem tl_2013 : Cond.instanceMethod yX12_rests ∈ TB := TB_in (List.mem_of_getElem? (i := 2013) (by decide +kernel)) rfl
theorem tl_2014 : Cond.selects RX12 yX12_rests yX12_rests ∈ TB := TB_in (List.mem_of_getElem? (i := 2014) (by decide +kernel)) rfl
theorem tl_2015 : Cond.code yX12_rests cX12_rests 5 (some .int) ∈ TB := TB_in (List.mem_of_getElem? (i := 2015) (by decide +kernel)) rfl
theorem tl_2028 : Cond.methodLink nmLaw 126 yX12_parts ∈ TB := TB_in (List.mem_of_getElem? (i := 2028) (by decide +kernel)) rfl
theorem tl_2029 : Cond.instanceMethod yX12_parts ∈ TB := TB_in (List.mem_of_getElem? (i := 2029) (by decide +kernel)) rfl
theorem tl_2030 : Cond.selects RX12 yX12_parts yX12_parts ∈ TB := TB_in (List.mem_of_getElem? (i := 2030) (by decide +kernel)) rfl
theorem tl_2031 : Cond.code yX12_parts cX12_parts 4 (some .int) ∈ TB := TB_in (List.mem_of_getElem? (i := 2031) (by decide +kernel)) rfl
theorem tl_2036 : Cond.methodLink nmLaw 130 yX12_plot ∈ TB := TB_in (List.mem_of_getElem? (i := 2036) (by decide +kernel)) rfl
theorem tl_2037 : Cond.instanceMethod yX12_plot ∈ TB := TB_in (List.mem_of_getElem? (i := 2037) (by decide +kernel)) rfl
theorem tl_2038 : Cond.selects RX12 yX12_plot yX12_plot ∈ TB := TB_in (List.mem_of_getElem? (i := 2038) (by decide +kernel)) rfl
theorem tl_2039 : Cond.code yX12_plot cX12_plot 5 (some .int) ∈ TB := TB_in (List.mem_of_getElem? (i := 2039) (by decide +kernel)) rfl
theorem tl_2040 : Cond.methodLink nmLaw 133 yX12_fair ∈ TB := TB_in (List.mem_of_getElem? (i := 2040) (by decide +kernel)) rfl
theorem tl_2041 : Cond.instanceMethod yX12_fair ∈ TB := TB_in (List.mem_of_getElem? (i := 2041) (by decide +kernel)) rfl
theorem tl_2042 : Cond.selects RX12 yX12_fair yX12_fair ∈ TB := TB_in (List.mem_of_getElem? (i := 2042) (by decide +kernel)) rfl
theorem tl_2043 : Cond.code yX12_fair cX12_fair 3 (some .int) ∈ TB := TB_in (List.mem_of_getElem? (i := 2043) (by decide +kernel)) rfl
theorem tl_2044 : Cond.methodLink nmLaw 137 yX12_school ∈ TB := TB_in (List.mem_of_getElem? (i := 2044) (by decide +kernel)) rfl
theorem tl_2045 : Cond.instanceMethod yX12_school ∈ TB := TB_in (List.mem_of_getElem? (i := 2045) (by decide +kernel)) rfl
theorem tl_2046 : Cond.selects RX12 yX12_school yX12_school ∈ TB := TB_in (List.mem_of_getElem? (i := 2046) (by decide +kernel)) rfl
theorem tl_2047 : Cond.code yX12_school cX12_school 3 (some .int) ∈ TB := TB_in (List.mem_of_getElem? (i := 2047) (by decide +kernel)) rfl
theorem tl_2064 : Cond.methodLink nmLaw 141 yX12_best ∈ TB := TB_in (List.mem_of_getElem? (i := 2064) (by decide +kernel)) rfl
theorem tl_2065 : Cond.instanceMethod yX12_best ∈ TB := TB_in (List.mem_of_getElem? (i := 2065) (by decide +kernel)) rfl
theorem tl_2066 : Cond.selects RX12 yX12_best yX12_best ∈ TB := TB_in (List.mem_of_getElem? (i := 2066) (by decide +kernel)) rfl
theorem tl_2067 : Cond.code yX12_best cX12_best 4 (some .int) ∈ TB := TB_in (List.mem_of_getElem? (i := 2067) (by decide +kernel)) rfl
theorem tl_2068 : Cond.methodLink nmLaw 145 yX12_flags ∈ TB := TB_in (List.mem_of_getElem? (i := 2068) (by decide +kernel)) rfl
theorem tl_2069 : Cond.instanceMethod yX12_flags ∈ TB := TB_in (List.mem_of_getElem? (i := 2069) (by decide +kernel)) rfl
theorem tl_2070 : Cond.selects RX12 yX12_flags yX12_flags ∈ TB := TB_in (List.mem_of_getElem? (i := 2070) (by decide +kernel)) rfl
theorem tl_2071 : Cond.code yX12_flags cX12_flags 5 (some .int) ∈ TB := TB_in (List.mem_of_getElem? (i := 2071) (by decide +kernel)) rfl
theorem tl_2076 : Cond.methodLink nmLaw 149 yX12_tried ∈ TB := TB_in (List.mem_of_getElem? (i := 2076) (by decide +kernel)) rfl
theorem tl_2077 : Cond.instanceMethod yX12_tried ∈ TB := TB_in (List.mem_of_getElem? (i := 2077) (by decide +kernel)) rfl
theorem tl_2078 : Cond.selects RX12 yX12_tried yX12_tried ∈ TB := TB_in (List.mem_of_getElem? (i := 2078) (by decide +kernel)) rfl
theorem tl_2079 : Cond.code yX12_tried cX12_tried 1 (some .int) ∈ TB := TB_in (List.mem_of_getElem? (i := 2079) (by decide +kernel)) rfl
theorem tl_2080 : Cond.methodLink nmLaw 153 yX12_pay ∈ TB := TB_in (List.mem_of_getElem? (i := 2080) (by decide +kernel)) rfl
theorem tl_2081 : Cond.instanceMethod yX12_pay ∈ TB := TB_in (List.mem_of_getElem? (i := 2081) (by decide +kernel)) rfl
theorem tl_2082 : Cond.selects RX12 yX12_pay yX12_pay ∈ TB := TB_in (List.mem_of_getElem? (i := 2082) (by decide +kernel)) rfl
theorem tl_2083 : Cond.code yX12_pay cX12_pay 2 (some .int) ∈ TB := TB_in (List.mem_of_getElem? (i := 2083) (by decide +kernel)) rfl
theorem tl_2084 : Cond.methodLink nmLaw 157 yX12_dies ∈ TB := TB_in (List.mem_of_getElem? (i := 2084) (by decide +kernel)) rfl
theorem tl_2085 : Cond.instanceMethod yX12_dies ∈ TB := TB_in (List.mem_of_getElem? (i := 2085) (by decide +kernel)) rfl
theorem tl_2086 : Cond.selects RX12 yX12_dies yX12_dies ∈ TB := TB_in (List.mem_of_getElem? (i := 2086) (by decide +kernel)) rfl
theorem tl_2087 : Cond.code yX12_dies cX12_dies 2 (some .int) ∈ TB := TB_in (List.mem_of_getElem? (i := 2087) (by decide +kernel)) rfl
theorem tl_2088 : Cond.methodLink nmLaw 161 yX12_saddest ∈ TB := TB_in (List.mem_of_getElem? (i := 2088) (by decide +kernel)) rfl
theorem tl_2089 : Cond.instanceMethod yX12_saddest ∈ TB := TB_in (List.mem_of_getElem? (i := 2089) (by decide +kernel)) rfl
theorem tl_2090 : Cond.selects RX12 yX12_saddest yX12_saddest ∈ TB := TB_in (List.mem_of_getElem? (i := 2090) (by decide +kernel)) rfl
theorem tl_2091 : Cond.code yX12_saddest cX12_saddest 3 (some .int) ∈ TB := TB_in (List.mem_of_getElem? (i := 2091) (by decide +kernel)) rfl
theorem tl_2092 : Cond.methodLink nmLaw 165 yX12_drawn ∈ TB := TB_in (List.mem_of_getElem? (i := 2092) (by decide +kernel)) rfl
theorem tl_2093 : Cond.instanceMethod yX12_drawn ∈ TB := TB_in (List.mem_of_getElem? (i := 2093) (by decide +kernel)) rfl
theorem tl_2094 : Cond.selects RX12 yX12_drawn yX12_drawn ∈ TB := TB_in (List.mem_of_getElem? (i := 2094) (by decide +kernel)) rfl
theorem tl_2095 : Cond.code yX12_drawn cX12_drawn 3 (some .int) ∈ TB := TB_in (List.mem_of_getElem? (i := 2095) (by decide +kernel)) rfl
theorem tl_2105 : Cond.methodLink nmLaw 169 yX12_risk ∈ TB := TB_in (List.mem_of_getElem? (i := 2105) (by decide +kernel)) rfl
theorem tl_2106 : Cond.instanceMethod yX12_risk ∈ TB := TB_in (List.mem_of_getElem? (i := 2106) (by decide +kernel)) rfl
theorem tl_2107 : Cond.selects RX12 yX12_risk yX12_risk ∈ TB := TB_in (List.mem_of_getElem? (i := 2107) (by decide +kernel)) rfl
theorem tl_2108 : Cond.code yX12_risk cX12_risk 6 (some .int) ∈ TB := TB_in (List.mem_of_getElem? (i := 2108) (by decide +kernel)) rfl
theorem tl_2109 : Cond.methodLink nmLaw 173 yX12_ledger ∈ TB := TB_in (List.mem_of_getElem? (i := 2109) (by decide +kernel)) rfl
theorem tl_2110 : Cond.instanceMethod yX12_ledger ∈ TB := TB_in (List.mem_of_getElem? (i := 2110) (by decide +kernel)) rfl
theorem tl_2111 : Cond.selects RX12 yX12_ledger yX12_ledger ∈ TB := TB_in (List.mem_of_getElem? (i := 2111) (by decide +kernel)) rfl
theorem tl_2112 : Cond.code yX12_ledger cX12_ledger 5 (some .int) ∈ TB := TB_in (List.mem_of_getElem? (i := 2112) (by decide +kernel)) rfl
theorem tl_2121 : Cond.methodLink nmLaw 177 yX12_booked ∈ TB := TB_in (List.mem_of_getElem? (i := 2121) (by decide +kernel)) rfl
theorem tl_2122 : Cond.instanceMethod yX12_booked ∈ TB := TB_in (List.mem_of_getElem? (i := 2122) (by decide +kernel)) rfl
theorem tl_2123 : Cond.selects RX12 yX12_booked yX12_booked ∈ TB := TB_in (List.mem_of_getElem? (i := 2123) (by decide +kernel)) rfl
theorem tl_2124 : Cond.code yX12_booked cX12_booked 2 (some .int) ∈ TB := TB_in (List.mem_of_getElem? (i := 2124) (by decide +kernel)) rfl
theorem tl_2125 : Cond.methodLink nmLaw 181 yX12_sentence ∈ TB := TB_in (List.mem_of_getElem? (i := 2125) (by decide +kernel)) rfl
theorem tl_2126 : Cond.instanceMethod yX12_sentence ∈ TB := TB_in (List.mem_of_getElem? (i := 2126) (by decide +kernel)) rfl
theorem tl_2127 : Cond.selects RX12 yX12_sentence yX12_sentence ∈ TB := TB_in (List.mem_of_getElem? (i := 2127) (by decide +kernel)) rfl
theorem tl_2128 : Cond.code yX12_sentence cX12_sentence 3 (some .int) ∈ TB := TB_in (List.mem_of_getElem? (i := 2128) (by decide +kernel)) rfl
theorem tl_2153 : Cond.methodLink nmLaw 185 yX12_said ∈ TB := TB_in (List.mem_of_getElem? (i := 2153) (by decide +kernel)) rfl
theorem tl_2154 : Cond.instanceMethod yX12_said ∈ TB := TB_in (List.mem_of_getElem? (i := 2154) (by decide +kernel)) rfl
theorem tl_2155 : Cond.selects RX12 yX12_said yX12_said ∈ TB := TB_in (List.mem_of_getElem? (i := 2155) (by decide +kernel)) rfl
theorem tl_2156 : Cond.code yX12_said cX12_said 4 (some .int) ∈ TB := TB_in (List.mem_of_getElem? (i := 2156) (by decide +kernel)) rfl
theorem tl_2165 : Cond.methodLink nmLaw 189 yX12_image ∈ TB := TB_in (List.mem_of_getElem? (i := 2165) (by decide +kernel)) rfl
theorem tl_2166 : Cond.instanceMethod yX12_image ∈ TB := TB_in (List.mem_of_getElem? (i := 2166) (by decide +kernel)) rfl
theorem tl_2167 : Cond.selects RX12 yX12_image yX12_image ∈ TB := TB_in (List.mem_of_getElem? (i := 2167) (by decide +kernel)) rfl
theorem tl_2168 : Cond.code yX12_image cX12_image 3 (some .boolean) ∈ TB := TB_in (List.mem_of_getElem? (i := 2168) (by decide +kernel)) rfl
theorem tl_2169 : Cond.methodLink nmLaw 193 yX12_restore ∈ TB := TB_in (List.mem_of_getElem? (i := 2169) (by decide +kernel)) rfl
theorem tl_2170 : Cond.instanceMethod yX12_restore ∈ TB := TB_in (List.mem_of_getElem? (i := 2170) (by decide +kernel)) rfl
theorem tl_2171 : Cond.selects RX12 yX12_restore yX12_restore ∈ TB := TB_in (List.mem_of_getElem? (i := 2171) (by decide +kernel)) rfl
theorem tl_2172 : Cond.code yX12_restore cX12_restore 3 (some .boolean) ∈ TB := TB_in (List.mem_of_getElem? (i := 2172) (by decide +kernel)) rfl
theorem tl_2173 : Cond.methodLink nmLaw 197 yX12_count ∈ TB := TB_in (List.mem_of_getElem? (i := 2173) (by decide +kernel)) rfl
theorem tl_2174 : Cond.instanceMethod yX12_count ∈ TB := TB_in (List.mem_of_getElem? (i := 2174) (by decide +kernel)) rfl
theorem tl_2175 : Cond.selects RX12 yX12_count yX12_count ∈ TB := TB_in (List.mem_of_getElem? (i := 2175) (by decide +kernel)) rfl
theorem tl_2176 : Cond.code yX12_count cX12_count 2 (some .int) ∈ TB := TB_in (List.mem_of_getElem? (i := 2176) (by decide +kernel)) rfl
theorem ml_X11_feed : MkV yX11_feed cX11_feed 6 (some .int) RX11 5 := ⟨rfl, tl_536, tl_534, tl_535, t_121, ⟨by decide +kernel, by decide +kernel, by decide +kernel⟩, Nat.le_of_ble_eq_true rfl⟩
theorem ml_X11_end : MkV yX11_end cX11_end 2 (some .boolean) RX11 1 := ⟨rfl, tl_552, tl_550, tl_551, t_121, ⟨by decide +kernel, by decide +kernel, by decide +kernel⟩, Nat.le_of_ble_eq_true rfl⟩
theorem ml_X11_office : MkV yX11_office cX11_office 2 (some .int) RX11 0 := ⟨rfl, tl_560, tl_558, tl_559, t_121, ⟨by decide +kernel, by decide +kernel, by decide +kernel⟩, Nat.le_of_ble_eq_true rfl⟩
theorem ml_X11_fault : MkV yX11_fault cX11_fault 1 (some .int) RX11 0 := ⟨rfl, tl_776, tl_774, tl_775, t_121, ⟨by decide +kernel, by decide +kernel, by decide +kernel⟩, Nat.le_of_ble_eq_true rfl⟩
theorem ml_X11_cause : MkV yX11_cause cX11_cause 3 (some .int) RX11 2 := ⟨rfl, tl_1459, tl_1457, tl_1458, t_121, ⟨by decide +kernel, by decide +kernel, by decide +kernel⟩, Nat.le_of_ble_eq_true rfl⟩
theorem ml_X11_odds : MkV yX11_odds cX11_odds 4 (some .int) RX11 2 := ⟨rfl, tl_1531, tl_1529, tl_1530, t_121, ⟨by decide +kernel, by decide +kernel, by decide +kernel⟩, Nat.le_of_ble_eq_true rfl⟩
theorem ml_X11_deed : MkV yX11_deed cX11_deed 3 (some .int) RX11 2 := ⟨rfl, tl_780, tl_778, tl_779, t_121, ⟨by decide +kernel, by decide +kernel, by decide +kernel⟩, Nat.le_of_ble_eq_true rfl⟩
theorem ml_X11_clerk : MkV yX11_clerk cX11_clerk 3 (some .int) RX11 2 := ⟨rfl, tl_789, tl_787, tl_788, t_121, ⟨by decide +kernel, by decide +kernel, by decide +kernel⟩, Nat.le_of_ble_eq_true rfl⟩
theorem ml_X11_now : MkV yX11_now cX11_now 2 (some .int) RX11 1 := ⟨rfl, tl_801, tl_799, tl_800, t_121, ⟨by decide +kernel, by decide +kernel, by decide +kernel⟩, Nat.le_of_ble_eq_true rfl⟩
theorem ml_X11_take : MkV yX11_take cX11_take 4 (some .int) RX11 2 := ⟨rfl, tl_817, tl_815, tl_816, t_121, ⟨by decide +kernel, by decide +kernel, by decide +kernel⟩, Nat.le_of_ble_eq_true rfl⟩
theorem ml_X11_act : MkV yX11_act cX11_act 4 (some .int) RX11 2 := ⟨rfl, tl_857, tl_855, tl_856, t_121, ⟨by decide +kernel, by decide +kernel, by decide +kernel⟩, Nat.le_of_ble_eq_true rfl⟩
theorem ml_X11_drop : MkV yX11_drop cX11_drop 3 (some .int) RX11 1 := ⟨rfl, tl_882, tl_880, tl_881, t_121, ⟨by decide +kernel, by decide +kernel, by decide +kernel⟩, Nat.le_of_ble_eq_true rfl⟩
theorem ml_X11_weeks : MkV yX11_weeks cX11_weeks 2 (some .int) RX11 1 := ⟨rfl, tl_906, tl_904, tl_905, t_121, ⟨by decide +kernel, by decide +kernel, by decide +kernel⟩, Nat.le_of_ble_eq_true rfl⟩
theorem ml_X11_undo : MkV yX11_undo cX11_undo 1 (some .int) RX11 0 := ⟨rfl, tl_929, tl_927, tl_928, t_121, ⟨by decide +kernel, by decide +kernel, by decide +kernel⟩, Nat.le_of_ble_eq_true rfl⟩
theorem ml_X11_nearest : MkV yX11_nearest cX11_nearest 3 (some .int) RX11 2 := ⟨rfl, tl_941, tl_939, tl_940, t_121, ⟨by decide +kernel, by decide +kernel, by decide +kernel⟩, Nat.le_of_ble_eq_true rfl⟩
theorem ml_X11_near : MkV yX11_near cX11_near 3 (some .int) RX11 2 := ⟨rfl, tl_980, tl_978, tl_979, t_121, ⟨by decide +kernel, by decide +kernel, by decide +kernel⟩, Nat.le_of_ble_eq_true rfl⟩
theorem ml_X11_orders : MkV yX11_orders cX11_orders 3 (some .int) RX11 2 := ⟨rfl, tl_993, tl_991, tl_992, t_121, ⟨by decide +kernel, by decide +kernel, by decide +kernel⟩, Nat.le_of_ble_eq_true rfl⟩
theorem ml_X11_ways : MkV yX11_ways cX11_ways 3 (some .int) RX11 2 := ⟨rfl, tl_1001, tl_999, tl_1000, t_121, ⟨by decide +kernel, by decide +kernel, by decide +kernel⟩, Nat.le_of_ble_eq_true rfl⟩
theorem ml_X11_value : MkV yX11_value cX11_value 3 (some .int) RX11 2 := ⟨rfl, tl_1545, tl_1543, tl_1544, t_121, ⟨by decide +kernel, by decide +kernel, by decide +kernel⟩, Nat.le_of_ble_eq_true rfl⟩
theorem ml_X11_match : MkV yX11_match cX11_match 1 (some .int) RX11 0 := ⟨rfl, tl_1009, tl_1007, tl_1008, t_121, ⟨by decide +kernel, by decide +kernel, by decide +kernel⟩, Nat.le_of_ble_eq_true rfl⟩
theorem ml_X11_matched : MkV yX11_matched cX11_matched 2 (some .int) RX11 1 := ⟨rfl, tl_1044, tl_1042, tl_1043, t_121, ⟨by decide +kernel, by decide +kernel, by decide +kernel⟩, Nat.le_of_ble_eq_true rfl⟩
theorem ml_X11_rests : MkV yX11_rests cX11_rests 2 (some .int) RX11 1 := ⟨rfl, tl_1052, tl_1050, tl_1051, t_121, ⟨by decide +kernel, by decide +kernel, by decide +kernel⟩, Nat.le_of_ble_eq_true rfl⟩
theorem ml_X11_parts : MkV yX11_parts cX11_parts 2 (some .int) RX11 1 := ⟨rfl, tl_1073, tl_1071, tl_1072, t_121, ⟨by decide +kernel, by decide +kernel, by decide +kernel⟩, Nat.le_of_ble_eq_true rfl⟩
theorem ml_X11_plot : MkV yX11_plot cX11_plot 2 (some .int) RX11 1 := ⟨rfl, tl_1095, tl_1093, tl_1094, t_121, ⟨by decide +kernel, by decide +kernel, by decide +kernel⟩, Nat.le_of_ble_eq_true rfl⟩
theorem ml_X11_fair : MkV yX11_fair cX11_fair 3 (some .int) RX11 2 := ⟨rfl, tl_1554, tl_1552, tl_1553, t_121, ⟨by decide +kernel, by decide +kernel, by decide +kernel⟩, Nat.le_of_ble_eq_true rfl⟩
theorem ml_X11_school : MkV yX11_school cX11_school 3 (some .int) RX11 2 := ⟨rfl, tl_1107, tl_1105, tl_1106, t_121, ⟨by decide +kernel, by decide +kernel, by decide +kernel⟩, Nat.le_of_ble_eq_true rfl⟩
theorem ml_X11_best : MkV yX11_best cX11_best 5 (some .int) RX11 1 := ⟨rfl, tl_1160, tl_1158, tl_1159, t_121, ⟨by decide +kernel, by decide +kernel, by decide +kernel⟩, Nat.le_of_ble_eq_true rfl⟩
theorem ml_X11_flags : MkV yX11_flags cX11_flags 6 (some .int) RX11 1 := ⟨rfl, tl_1164, tl_1162, tl_1163, t_121, ⟨by decide +kernel, by decide +kernel, by decide +kernel⟩, Nat.le_of_ble_eq_true rfl⟩
theorem ml_X11_tried : MkV yX11_tried cX11_tried 1 (some .int) RX11 0 := ⟨rfl, tl_1182, tl_1180, tl_1181, t_121, ⟨by decide +kernel, by decide +kernel, by decide +kernel⟩, Nat.le_of_ble_eq_true rfl⟩
theorem ml_X11_pay : MkV yX11_pay cX11_pay 2 (some .int) RX11 1 := ⟨rfl, tl_1186, tl_1184, tl_1185, t_121, ⟨by decide +kernel, by decide +kernel, by decide +kernel⟩, Nat.le_of_ble_eq_true rfl⟩
theorem ml_X11_dies : MkV yX11_dies cX11_dies 3 (some .int) RX11 1 := ⟨rfl, tl_1191, tl_1189, tl_1190, t_121, ⟨by decide +kernel, by decide +kernel, by decide +kernel⟩, Nat.le_of_ble_eq_true rfl⟩
theorem ml_X11_saddest : MkV yX11_saddest cX11_saddest 4 (some .int) RX11 0 := ⟨rfl, tl_1196, tl_1194, tl_1195, t_121, ⟨by decide +kernel, by decide +kernel, by decide +kernel⟩, Nat.le_of_ble_eq_true rfl⟩
theorem ml_X11_drawn : MkV yX11_drawn cX11_drawn 3 (some .int) RX11 2 := ⟨rfl, tl_1203, tl_1201, tl_1202, t_121, ⟨by decide +kernel, by decide +kernel, by decide +kernel⟩, Nat.le_of_ble_eq_true rfl⟩
theorem ml_X11_risk : MkV yX11_risk cX11_risk 6 (some .int) RX11 2 := ⟨rfl, tl_1221, tl_1219, tl_1220, t_121, ⟨by decide +kernel, by decide +kernel, by decide +kernel⟩, Nat.le_of_ble_eq_true rfl⟩
theorem ml_X11_ledger : MkV yX11_ledger cX11_ledger 5 (some .int) RX11 1 := ⟨rfl, tl_1227, tl_1225, tl_1226, t_121, ⟨by decide +kernel, by decide +kernel, by decide +kernel⟩, Nat.le_of_ble_eq_true rfl⟩
theorem ml_X11_booked : MkV yX11_booked cX11_booked 2 (some .int) RX11 1 := ⟨rfl, tl_1302, tl_1300, tl_1301, t_121, ⟨by decide +kernel, by decide +kernel, by decide +kernel⟩, Nat.le_of_ble_eq_true rfl⟩
theorem ml_X11_sentence : MkV yX11_sentence cX11_sentence 2 (some .int) RX11 0 := ⟨rfl, tl_1306, tl_1304, tl_1305, t_121, ⟨by decide +kernel, by decide +kernel, by decide +kernel⟩, Nat.le_of_ble_eq_true rfl⟩
theorem ml_X11_said : MkV yX11_said cX11_said 4 (some .int) RX11 1 := ⟨rfl, tl_1387, tl_1385, tl_1386, t_121, ⟨by decide +kernel, by decide +kernel, by decide +kernel⟩, Nat.le_of_ble_eq_true rfl⟩
theorem ml_X11_image : MkV yX11_image cX11_image 2 (some .boolean) RX11 1 := ⟨rfl, tl_1409, tl_1407, tl_1408, t_121, ⟨by decide +kernel, by decide +kernel, by decide +kernel⟩, Nat.le_of_ble_eq_true rfl⟩
theorem ml_X11_restore : MkV yX11_restore cX11_restore 2 (some .boolean) RX11 1 := ⟨rfl, tl_1424, tl_1422, tl_1423, t_121, ⟨by decide +kernel, by decide +kernel, by decide +kernel⟩, Nat.le_of_ble_eq_true rfl⟩
theorem ml_X11_count : MkV yX11_count cX11_count 2 (some .int) RX11 1 := ⟨rfl, tl_1437, tl_1435, tl_1436, t_121, ⟨by decide +kernel, by decide +kernel, by decide +kernel⟩, Nat.le_of_ble_eq_true rfl⟩
theorem ml_X12_feed : MkV yX12_feed cX12_feed 6 (some .int) RX12 5 := ⟨rfl, tl_1563, tl_1561, tl_1562, t_132, ⟨by decide +kernel, by decide +kernel, by decide +kernel⟩, Nat.le_of_ble_eq_true rfl⟩
theorem ml_X12_end : MkV yX12_end cX12_end 2 (some .boolean) RX12 1 := ⟨rfl, tl_1572, tl_1570, tl_1571, t_132, ⟨by decide +kernel, by decide +kernel, by decide +kernel⟩, Nat.le_of_ble_eq_true rfl⟩
theorem ml_X12_office : MkV yX12_office cX12_office 2 (some .int) RX12 0 := ⟨rfl, tl_1749, tl_1747, tl_1748, t_132, ⟨by decide +kernel, by decide +kernel, by decide +kernel⟩, Nat.le_of_ble_eq_true rfl⟩
theorem ml_X12_fault : MkV yX12_fault cX12_fault 1 (some .int) RX12 0 := ⟨rfl, tl_1825, tl_1823, tl_1824, t_132, ⟨by decide +kernel, by decide +kernel, by decide +kernel⟩, Nat.le_of_ble_eq_true rfl⟩
theorem ml_X12_cause : MkV yX12_cause cX12_cause 3 (some .int) RX12 2 := ⟨rfl, tl_1829, tl_1827, tl_1828, t_132, ⟨by decide +kernel, by decide +kernel, by decide +kernel⟩, Nat.le_of_ble_eq_true rfl⟩
theorem ml_X12_odds : MkV yX12_odds cX12_odds 3 (some .int) RX12 2 := ⟨rfl, tl_1857, tl_1855, tl_1856, t_132, ⟨by decide +kernel, by decide +kernel, by decide +kernel⟩, Nat.le_of_ble_eq_true rfl⟩
theorem ml_X12_deed : MkV yX12_deed cX12_deed 3 (some .int) RX12 2 := ⟨rfl, tl_1864, tl_1862, tl_1863, t_132, ⟨by decide +kernel, by decide +kernel, by decide +kernel⟩, Nat.le_of_ble_eq_true rfl⟩
theorem ml_X12_clerk : MkV yX12_clerk cX12_clerk 3 (some .int) RX12 2 := ⟨rfl, tl_1872, tl_1870, tl_1871, t_132, ⟨by decide +kernel, by decide +kernel, by decide +kernel⟩, Nat.le_of_ble_eq_true rfl⟩
theorem ml_X12_now : MkV yX12_now cX12_now 4 (some .int) RX12 1 := ⟨rfl, tl_1880, tl_1878, tl_1879, t_132, ⟨by decide +kernel, by decide +kernel, by decide +kernel⟩, Nat.le_of_ble_eq_true rfl⟩
theorem ml_X12_take : MkV yX12_take cX12_take 4 (some .int) RX12 2 := ⟨rfl, tl_1884, tl_1882, tl_1883, t_132, ⟨by decide +kernel, by decide +kernel, by decide +kernel⟩, Nat.le_of_ble_eq_true rfl⟩
theorem ml_X12_act : MkV yX12_act cX12_act 4 (some .int) RX12 2 := ⟨rfl, tl_1908, tl_1906, tl_1907, t_132, ⟨by decide +kernel, by decide +kernel, by decide +kernel⟩, Nat.le_of_ble_eq_true rfl⟩
theorem ml_X12_drop : MkV yX12_drop cX12_drop 3 (some .int) RX12 1 := ⟨rfl, tl_1920, tl_1918, tl_1919, t_132, ⟨by decide +kernel, by decide +kernel, by decide +kernel⟩, Nat.le_of_ble_eq_true rfl⟩
theorem ml_X12_weeks : MkV yX12_weeks cX12_weeks 4 (some .int) RX12 1 := ⟨rfl, tl_1936, tl_1934, tl_1935, t_132, ⟨by decide +kernel, by decide +kernel, by decide +kernel⟩, Nat.le_of_ble_eq_true rfl⟩
theorem ml_X12_undo : MkV yX12_undo cX12_undo 2 (some .int) RX12 0 := ⟨rfl, tl_1951, tl_1949, tl_1950, t_132, ⟨by decide +kernel, by decide +kernel, by decide +kernel⟩, Nat.le_of_ble_eq_true rfl⟩
theorem ml_X12_nearest : MkV yX12_nearest cX12_nearest 3 (some .int) RX12 2 := ⟨rfl, tl_1955, tl_1953, tl_1954, t_132, ⟨by decide +kernel, by decide +kernel, by decide +kernel⟩, Nat.le_of_ble_eq_true rfl⟩
theorem ml_X12_near : MkV yX12_near cX12_near 3 (some .int) RX12 2 := ⟨rfl, tl_1974, tl_1972, tl_1973, t_132, ⟨by decide +kernel, by decide +kernel, by decide +kernel⟩, Nat.le_of_ble_eq_true rfl⟩
theorem ml_X12_orders : MkV yX12_orders cX12_orders 3 (some .int) RX12 2 := ⟨rfl, tl_1982, tl_1980, tl_1981, t_132, ⟨by decide +kernel, by decide +kernel, by decide +kernel⟩, Nat.le_of_ble_eq_true rfl⟩
theorem ml_X12_ways : MkV yX12_ways cX12_ways 5 (some .int) RX12 2 := ⟨rfl, tl_1986, tl_1984, tl_1985, t_132, ⟨by decide +kernel, by decide +kernel, by decide +kernel⟩, Nat.le_of_ble_eq_true rfl⟩
theorem ml_X12_value : MkV yX12_value cX12_value 3 (some .int) RX12 2 := ⟨rfl, tl_1990, tl_1988, tl_1989, t_132, ⟨by decide +kernel, by decide +kernel, by decide +kernel⟩, Nat.le_of_ble_eq_true rfl⟩
theorem ml_X12_match : MkV yX12_match cX12_match 5 (some .int) RX12 0 := ⟨rfl, tl_1998, tl_1996, tl_1997, t_132, ⟨by decide +kernel, by decide +kernel, by decide +kernel⟩, Nat.le_of_ble_eq_true rfl⟩
theorem ml_X12_matched : MkV yX12_matched cX12_matched 2 (some .int) RX12 1 := ⟨rfl, tl_2011, tl_2009, tl_2010, t_132, ⟨by decide +kernel, by decide +kernel, by decide +kernel⟩, Nat.le_of_ble_eq_true rfl⟩
theorem ml_X12_rests : MkV yX12_rests cX12_rests 5 (some .int) RX12 1 := ⟨rfl, tl_2015, tl_2013, tl_2014, t_132, ⟨by decide +kernel, by decide +kernel, by decide +kernel⟩, Nat.le_of_ble_eq_true rfl⟩
theorem ml_X12_parts : MkV yX12_parts cX12_parts 4 (some .int) RX12 1 := ⟨rfl, tl_2031, tl_2029, tl_2030, t_132, ⟨by decide +kernel, by decide +kernel, by decide +kernel⟩, Nat.le_of_ble_eq_true rfl⟩
theorem ml_X12_plot : MkV yX12_plot cX12_plot 5 (some .int) RX12 1 := ⟨rfl, tl_2039, tl_2037, tl_2038, t_132, ⟨by decide +kernel, by decide +kernel, by decide +kernel⟩, Nat.le_of_ble_eq_true rfl⟩
theorem ml_X12_fair : MkV yX12_fair cX12_fair 3 (some .int) RX12 2 := ⟨rfl, tl_2043, tl_2041, tl_2042, t_132, ⟨by decide +kernel, by decide +kernel, by decide +kernel⟩, Nat.le_of_ble_eq_true rfl⟩
theorem ml_X12_school : MkV yX12_school cX12_school 3 (some .int) RX12 2 := ⟨rfl, tl_2047, tl_2045, tl_2046, t_132, ⟨by decide +kernel, by decide +kernel, by decide +kernel⟩, Nat.le_of_ble_eq_true rfl⟩
theorem ml_X12_best : MkV yX12_best cX12_best 4 (some .int) RX12 1 := ⟨rfl, tl_2067, tl_2065, tl_2066, t_132, ⟨by decide +kernel, by decide +kernel, by decide +kernel⟩, Nat.le_of_ble_eq_true rfl⟩
theorem ml_X12_flags : MkV yX12_flags cX12_flags 5 (some .int) RX12 1 := ⟨rfl, tl_2071, tl_2069, tl_2070, t_132, ⟨by decide +kernel, by decide +kernel, by decide +kernel⟩, Nat.le_of_ble_eq_true rfl⟩
theorem ml_X12_tried : MkV yX12_tried cX12_tried 1 (some .int) RX12 0 := ⟨rfl, tl_2079, tl_2077, tl_2078, t_132, ⟨by decide +kernel, by decide +kernel, by decide +kernel⟩, Nat.le_of_ble_eq_true rfl⟩
theorem ml_X12_pay : MkV yX12_pay cX12_pay 2 (some .int) RX12 1 := ⟨rfl, tl_2083, tl_2081, tl_2082, t_132, ⟨by decide +kernel, by decide +kernel, by decide +kernel⟩, Nat.le_of_ble_eq_true rfl⟩
theorem ml_X12_dies : MkV yX12_dies cX12_dies 2 (some .int) RX12 1 := ⟨rfl, tl_2087, tl_2085, tl_2086, t_132, ⟨by decide +kernel, by decide +kernel, by decide +kernel⟩, Nat.le_of_ble_eq_true rfl⟩
theorem ml_X12_saddest : MkV yX12_saddest cX12_saddest 3 (some .int) RX12 0 := ⟨rfl, tl_2091, tl_2089, tl_2090, t_132, ⟨by decide +kernel, by decide +kernel, by decide +kernel⟩, Nat.le_of_ble_eq_true rfl⟩
theorem ml_X12_drawn : MkV yX12_drawn cX12_drawn 3 (some .int) RX12 2 := ⟨rfl, tl_2095, tl_2093, tl_2094, t_132, ⟨by decide +kernel, by decide +kernel, by decide +kernel⟩, Nat.le_of_ble_eq_true rfl⟩
theorem ml_X12_risk : MkV yX12_risk cX12_risk 6 (some .int) RX12 2 := ⟨rfl, tl_2108, tl_2106, tl_2107, t_132, ⟨by decide +kernel, by decide +kernel, by decide +kernel⟩, Nat.le_of_ble_eq_true rfl⟩
theorem ml_X12_ledger : MkV yX12_ledger cX12_ledger 5 (some .int) RX12 1 := ⟨rfl, tl_2112, tl_2110, tl_2111, t_132, ⟨by decide +kernel, by decide +kernel, by decide +kernel⟩, Nat.le_of_ble_eq_true rfl⟩
theorem ml_X12_booked : MkV yX12_booked cX12_booked 2 (some .int) RX12 1 := ⟨rfl, tl_2124, tl_2122, tl_2123, t_132, ⟨by decide +kernel, by decide +kernel, by decide +kernel⟩, Nat.le_of_ble_eq_true rfl⟩
theorem ml_X12_sentence : MkV yX12_sentence cX12_sentence 3 (some .int) RX12 0 := ⟨rfl, tl_2128, tl_2126, tl_2127, t_132, ⟨by decide +kernel, by decide +kernel, by decide +kernel⟩, Nat.le_of_ble_eq_true rfl⟩
theorem ml_X12_said : MkV yX12_said cX12_said 4 (some .int) RX12 1 := ⟨rfl, tl_2156, tl_2154, tl_2155, t_132, ⟨by decide +kernel, by decide +kernel, by decide +kernel⟩, Nat.le_of_ble_eq_true rfl⟩
theorem ml_X12_image : MkV yX12_image cX12_image 3 (some .boolean) RX12 1 := ⟨rfl, tl_2168, tl_2166, tl_2167, t_132, ⟨by decide +kernel, by decide +kernel, by decide +kernel⟩, Nat.le_of_ble_eq_true rfl⟩
theorem ml_X12_restore : MkV yX12_restore cX12_restore 3 (some .boolean) RX12 1 := ⟨rfl, tl_2172, tl_2170, tl_2171, t_132, ⟨by decide +kernel, by decide +kernel, by decide +kernel⟩, Nat.le_of_ble_eq_true rfl⟩
theorem ml_X12_count : MkV yX12_count cX12_count 2 (some .int) RX12 1 := ⟨rfl, tl_2176, tl_2174, tl_2175, t_132, ⟨by decide +kernel, by decide +kernel, by decide +kernel⟩, Nat.le_of_ble_eq_true rfl⟩
theorem ml_X12_thrown : MkV yX12_thrown cX12_thrown 1 (some .int) RX12 0 := ⟨rfl, tl_1559, tl_1557, tl_1558, t_132, ⟨by decide +kernel, by decide +kernel, by decide +kernel⟩, Nat.le_of_ble_eq_true rfl⟩
def nwL : List Cond := [Cond.methodLinkNest RX11 11 yX8_init "LostCauses", Cond.methodLinkNest RX11 18 yX5_init "LostCauses", Cond.methodLinkNest RX11 71 yX7_init "LostCauses", Cond.methodLinkNest RX11 88 yX1_init "LostCauses", Cond.methodLinkNest RX1 11 yX5_init "LostCauses", Cond.methodLinkNest RX1 24 yX7_init "LostCauses"]
theorem nwL_ok : ∀ w ∈ nwL, ∃ a i y h, w = Cond.methodLinkNest a i y h := by
  intro w hw
  simp only [nwL, List.mem_cons, List.not_mem_nil, or_false] at hw
  rcases hw with rfl | rfl | rfl | rfl | rfl | rfl <;> exact ⟨_, _, _, _, rfl⟩
theorem nwL_in : ∀ w ∈ nwL, w ∈ lw_tbl := by
  intro w hw
  have e : nwL = ([152, 193, 362, 412, 417, 419] : List Nat).filterMap (fun i => lw_tbl[i]?) := by decide +kernel
  rw [e] at hw
  obtain ⟨i, -, hi⟩ := List.mem_filterMap.mp hw
  exact List.mem_of_getElem? hi
