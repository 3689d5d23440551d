/-! ===== the layer of any method and any end, over a list of cells ===== -/
def CY (cc : ByteArray) (nL : Nat) (own : String) (Γ : CtC) : Prop := match Γ with
  | (p, _, _, s, m, args, _, _, c, _, A) => p.tables.exec = Jvm.exec ∧ c.code = cc ∧ c.maxLocals = nL ∧ s.vm.findClass own = some m.cls ∧ (∀ w ∈ TB, w.before args s = true) ∧ ∀ q, s.heap.size ≤ q → A q
section ZX
variable {R : Room} {cc : ByteArray} {nL : Nat} {own : String} {Q : CtC → State → Prop} {Γ : CtC} {pc : Nat} {lv lv' : List (Nat × Value)} {st : List Value} {ws : va_W} {tys : List (ClassId × FieldType)} {cells slots : Nat} {SH : List ShT} {ad wad : Nat → Nat} {h : HS}
theorem z_iconst (hG : CY cc nL own Γ) {z : Int} {v : Int32} (d : decode cc pc = .ok (.iconst z, 1)) (hv : Int32.ofInt z = v) (k : AC R nL Q Γ (pc + 1) lv (.int v :: st) ws tys cells slots) : AC R nL Q Γ pc lv st ws tys cells slots := by
  obtain ⟨p, l, e, s, m, args, below, meth, c, D, A⟩ := Γ
  obtain ⟨hx, hb, hml, hown, hts, hA⟩ := hG
  intro H locs ls hl hP hD hK hS
  exact lv_iconst hx hb d hv (k H locs ls hl hP hD hK hS)
theorem z_bipush (hG : CY cc nL own Γ) {z : Int} {v : Int32} (d : decode cc pc = .ok (.bipush z, 2)) (hv : (Int8.ofInt z).toInt32 = v) (k : AC R nL Q Γ (pc + 2) lv (.int v :: st) ws tys cells slots) : AC R nL Q Γ pc lv st ws tys cells slots := by
  obtain ⟨p, l, e, s, m, args, below, meth, c, D, A⟩ := Γ
  obtain ⟨hx, hb, hml, hown, hts, hA⟩ := hG
  intro H locs ls hl hP hD hK hS
  exact lv_bipush hx hb d hv (k H locs ls hl hP hD hK hS)
theorem z_iadd (hG : CY cc nL own Γ) {x y : Int32} (d : decode cc pc = .ok (.iadd, 1)) (k : AC R nL Q Γ (pc + 1) lv (.int (x + y) :: st) ws tys cells slots) : AC R nL Q Γ pc lv (.int y :: .int x :: st) ws tys cells slots := by
  obtain ⟨p, l, e, s, m, args, below, meth, c, D, A⟩ := Γ
  obtain ⟨hx, hb, hml, hown, hts, hA⟩ := hG
  intro H locs ls hl hP hD hK hS
  exact lv_iadd hx hb d (k H locs ls hl hP hD hK hS)
theorem z_isub (hG : CY cc nL own Γ) {x y : Int32} (d : decode cc pc = .ok (.isub, 1)) (k : AC R nL Q Γ (pc + 1) lv (.int (x - y) :: st) ws tys cells slots) : AC R nL Q Γ pc lv (.int y :: .int x :: st) ws tys cells slots := by
  obtain ⟨p, l, e, s, m, args, below, meth, c, D, A⟩ := Γ
  obtain ⟨hx, hb, hml, hown, hts, hA⟩ := hG
  intro H locs ls hl hP hD hK hS
  exact lv_isub hx hb d (k H locs ls hl hP hD hK hS)
theorem z_iand (hG : CY cc nL own Γ) {x y : Int32} (d : decode cc pc = .ok (.iand, 1)) (k : AC R nL Q Γ (pc + 1) lv (.int (x &&& y) :: st) ws tys cells slots) : AC R nL Q Γ pc lv (.int y :: .int x :: st) ws tys cells slots := by
  obtain ⟨p, l, e, s, m, args, below, meth, c, D, A⟩ := Γ
  obtain ⟨hx, hb, hml, hown, hts, hA⟩ := hG
  intro H locs ls hl hP hD hK hS
  exact lv_iand hx hb d (k H locs ls hl hP hD hK hS)
theorem z_i2l (hG : CY cc nL own Γ) {x : Int32} (d : decode cc pc = .ok (.i2l, 1)) (k : AC R nL Q Γ (pc + 1) lv (.long x.toInt64 :: st) ws tys cells slots) : AC R nL Q Γ pc lv (.int x :: st) ws tys cells slots := by
  obtain ⟨p, l, e, s, m, args, below, meth, c, D, A⟩ := Γ
  obtain ⟨hx, hb, hml, hown, hts, hA⟩ := hG
  intro H locs ls hl hP hD hK hS
  exact lv_i2l hx hb d rfl (k H locs ls hl hP hD hK hS)
theorem z_lcmp (hG : CY cc nL own Γ) {x y : Int64} (d : decode cc pc = .ok (.lcmp, 1)) (k : AC R nL Q Γ (pc + 1) lv (.int (lg_cmp x y) :: st) ws tys cells slots) : AC R nL Q Γ pc lv (.long y :: .long x :: st) ws tys cells slots := by
  obtain ⟨p, l, e, s, m, args, below, meth, c, D, A⟩ := Γ
  obtain ⟨hx, hb, hml, hown, hts, hA⟩ := hG
  intro H locs ls hl hP hD hK hS
  exact W.lcmp hx hb d (k H locs ls hl hP hD hK hS)
theorem z_dup (hG : CY cc nL own Γ) {v : Value} (d : decode cc pc = .ok (.dup, 1)) (hv : v.category = 1) (k : AC R nL Q Γ (pc + 1) lv (v :: v :: st) ws tys cells slots) : AC R nL Q Γ pc lv (v :: st) ws tys cells slots := by
  obtain ⟨p, l, e, s, m, args, below, meth, c, D, A⟩ := Γ
  obtain ⟨hx, hb, hml, hown, hts, hA⟩ := hG
  intro H locs ls hl hP hD hK hS
  exact lv_dup hx hb d hv (k H locs ls hl hP hD hK hS)
theorem z_iload_n (hG : CY cc nL own Γ) {i : Nat} {x : Int32} (z : Nat) (hz : lv[z]? = some (i, .int x)) {k4 : Fin 4} (d : decode cc pc = .ok (.iload_n k4, 1)) (hi : (k4 : Nat) = i) (k : AC R nL Q Γ (pc + 1) lv (.int x :: st) ws tys cells slots) : AC R nL Q Γ pc lv st ws tys cells slots := by
  obtain ⟨p, l, e, s, m, args, below, meth, c, D, A⟩ := Γ
  obtain ⟨hx, hb, hml, hown, hts, hA⟩ := hG
  intro H locs ls hl hP hD hK hS
  exact lv_iload_n hx hb d hi (lv_at hl z hz) (k H locs ls hl hP hD hK hS)
theorem z_iload (hG : CY cc nL own Γ) {i : Nat} {x : Int32} (z : Nat) (hz : lv[z]? = some (i, .int x)) (d : decode cc pc = .ok (.iload i, 2)) (k : AC R nL Q Γ (pc + 2) lv (.int x :: st) ws tys cells slots) : AC R nL Q Γ pc lv st ws tys cells slots := by
  obtain ⟨p, l, e, s, m, args, below, meth, c, D, A⟩ := Γ
  obtain ⟨hx, hb, hml, hown, hts, hA⟩ := hG
  intro H locs ls hl hP hD hK hS
  exact lv_iload hx hb d (lv_at hl z hz) (k H locs ls hl hP hD hK hS)
theorem z_aload_n (hG : CY cc nL own Γ) {i : Nat} {x : Nat} (z : Nat) (hz : lv[z]? = some (i, .ref x)) {k4 : Fin 4} (d : decode cc pc = .ok (.aload_n k4, 1)) (hi : (k4 : Nat) = i) (k : AC R nL Q Γ (pc + 1) lv (.ref x :: st) ws tys cells slots) : AC R nL Q Γ pc lv st ws tys cells slots := by
  obtain ⟨p, l, e, s, m, args, below, meth, c, D, A⟩ := Γ
  obtain ⟨hx, hb, hml, hown, hts, hA⟩ := hG
  intro H locs ls hl hP hD hK hS
  exact lv_aload_n hx hb d hi (lv_at hl z hz) (k H locs ls hl hP hD hK hS)
theorem z_istore_n (hG : CY cc nL own Γ) {i : Nat} {x : Int32} {k4 : Fin 4} (d : decode cc pc = .ok (.istore_n k4, 1)) (hi : (k4 : Nat) = i) (hn : i < nL) (hl2 : (i, Value.int x) :: lv.filter (fun q => !(q.1 == i) && !(q.1 + 1 == i && q.2.category == 2)) = lv') (k : AC R nL Q Γ (pc + 1) lv' st ws tys cells slots) : AC R nL Q Γ pc lv (.int x :: st) ws tys cells slots := by
  obtain ⟨p, l, e, s, m, args, below, meth, c, D, A⟩ := Γ
  obtain ⟨hx, hb, hml, hown, hts, hA⟩ := hG
  intro H locs ls hl hP hD hK hS
  exact lv_istore_n hx hb d hi hl hn hl2 (fun ls hl => k H locs ls hl hP hD hK hS)
theorem z_istore (hG : CY cc nL own Γ) {i : Nat} {x : Int32}  (d : decode cc pc = .ok (.istore i, 2)) (hn : i < nL) (hl2 : (i, Value.int x) :: lv.filter (fun q => !(q.1 == i) && !(q.1 + 1 == i && q.2.category == 2)) = lv') (k : AC R nL Q Γ (pc + 2) lv' st ws tys cells slots) : AC R nL Q Γ pc lv (.int x :: st) ws tys cells slots := by
  obtain ⟨p, l, e, s, m, args, below, meth, c, D, A⟩ := Γ
  obtain ⟨hx, hb, hml, hown, hts, hA⟩ := hG
  intro H locs ls hl hP hD hK hS
  exact lv_istore hx hb d hl hn hl2 (fun ls hl => k H locs ls hl hP hD hK hS)
theorem z_astore_n (hG : CY cc nL own Γ) {i : Nat} {x : Nat} {k4 : Fin 4} (d : decode cc pc = .ok (.astore_n k4, 1)) (hi : (k4 : Nat) = i) (hn : i < nL) (hl2 : (i, Value.ref x) :: lv.filter (fun q => !(q.1 == i) && !(q.1 + 1 == i && q.2.category == 2)) = lv') (k : AC R nL Q Γ (pc + 1) lv' st ws tys cells slots) : AC R nL Q Γ pc lv (.ref x :: st) ws tys cells slots := by
  obtain ⟨p, l, e, s, m, args, below, meth, c, D, A⟩ := Γ
  obtain ⟨hx, hb, hml, hown, hts, hA⟩ := hG
  intro H locs ls hl hP hD hK hS
  exact lv_astore_n hx hb d hi hl hn hl2 (fun ls hl => k H locs ls hl hP hD hK hS)
theorem z_astore (hG : CY cc nL own Γ) {i : Nat} {x : Nat}  (d : decode cc pc = .ok (.astore i, 2)) (hn : i < nL) (hl2 : (i, Value.ref x) :: lv.filter (fun q => !(q.1 == i) && !(q.1 + 1 == i && q.2.category == 2)) = lv') (k : AC R nL Q Γ (pc + 2) lv' st ws tys cells slots) : AC R nL Q Γ pc lv (.ref x :: st) ws tys cells slots := by
  obtain ⟨p, l, e, s, m, args, below, meth, c, D, A⟩ := Γ
  obtain ⟨hx, hb, hml, hown, hts, hA⟩ := hG
  intro H locs ls hl hP hD hK hS
  exact lv_astore hx hb d hl hn hl2 (fun ls hl => k H locs ls hl hP hD hK hS)
theorem z_iinc (hG : CY cc nL own Γ) {i : Nat} {z : Int} {x v : Int32} (k0 : Nat) (hk : lv[k0]? = some (i, .int x)) (d : decode cc pc = .ok (.iinc i z, 3)) (hv : x + Int32.ofInt z = v) (hn : i < nL) (hl2 : (i, Value.int v) :: lv.filter (fun q => !(q.1 == i) && !(q.1 + 1 == i && q.2.category == 2)) = lv') (k : AC R nL Q Γ (pc + 3) lv' st ws tys cells slots) : AC R nL Q Γ pc lv st ws tys cells slots := by
  obtain ⟨p, l, e, s, m, args, below, meth, c, D, A⟩ := Γ
  obtain ⟨hx, hb, hml, hown, hts, hA⟩ := hG
  intro H locs ls hl hP hD hK hS
  exact lv_iinc hx hb d hl hk hv hn hl2 (fun ls hl => k H locs ls hl hP hD hK hS)
theorem z_goto (hG : CY cc nL own Γ) {off : Int} {tgt : Nat} (d : decode cc pc = .ok (.goto off, 3)) (ht : (pc : Int) + off = (tgt : Int)) (k : AC R nL Q Γ tgt lv st ws tys cells slots) : AC R nL Q Γ pc lv st ws tys cells slots := by
  obtain ⟨p, l, e, s, m, args, below, meth, c, D, A⟩ := Γ
  obtain ⟨hx, hb, hml, hown, hts, hA⟩ := hG
  intro H locs ls hl hP hD hK hS
  exact lv_goto hx hb d ht (k H locs ls hl hP hD hK hS)
theorem z_if_eq (hG : CY cc nL own Γ) {x : Int32} {off : Int} {tgt : Nat} (d : decode cc pc = .ok (.ifCond .eq off, 3)) (ht : (pc : Int) + off = (tgt : Int)) (kt : x = 0 → AC R nL Q Γ tgt lv st ws tys cells slots) (kf : ¬ (x = 0) → AC R nL Q Γ (pc + 3) lv st ws tys cells slots) : AC R nL Q Γ pc lv (.int x :: st) ws tys cells slots := by
  obtain ⟨p, l, e, s, m, args, below, meth, c, D, A⟩ := Γ
  obtain ⟨hx, hb, hml, hown, hts, hA⟩ := hG
  intro H locs ls hl hP hD hK hS
  exact lv_if_eq hx hb d ht (fun c0 => kt c0 H locs ls hl hP hD hK hS) (fun c0 => kf c0 H locs ls hl hP hD hK hS)
theorem z_if_lt (hG : CY cc nL own Γ) {x : Int32} {off : Int} {tgt : Nat} (d : decode cc pc = .ok (.ifCond .lt off, 3)) (ht : (pc : Int) + off = (tgt : Int)) (kt : x < 0 → AC R nL Q Γ tgt lv st ws tys cells slots) (kf : ¬ x < 0 → AC R nL Q Γ (pc + 3) lv st ws tys cells slots) : AC R nL Q Γ pc lv (.int x :: st) ws tys cells slots := by
  obtain ⟨p, l, e, s, m, args, below, meth, c, D, A⟩ := Γ
  obtain ⟨hx, hb, hml, hown, hts, hA⟩ := hG
  intro H locs ls hl hP hD hK hS
  exact lv_if_lt hx hb d ht (fun c0 => kt c0 H locs ls hl hP hD hK hS) (fun c0 => kf c0 H locs ls hl hP hD hK hS)
theorem z_ic_eq (hG : CY cc nL own Γ) {x y : Int32} {off : Int} {tgt : Nat} (d : decode cc pc = .ok (.if_icmp .eq off, 3)) (ht : (pc : Int) + off = (tgt : Int)) (kt : x = y → AC R nL Q Γ tgt lv st ws tys cells slots) (kf : ¬ (x = y) → AC R nL Q Γ (pc + 3) lv st ws tys cells slots) : AC R nL Q Γ pc lv (.int y :: .int x :: st) ws tys cells slots := by
  obtain ⟨p, l, e, s, m, args, below, meth, c, D, A⟩ := Γ
  obtain ⟨hx, hb, hml, hown, hts, hA⟩ := hG
  intro H locs ls hl hP hD hK hS
  exact lv_icmp_eq hx hb d ht (fun c0 => kt c0 H locs ls hl hP hD hK hS) (fun c0 => kf c0 H locs ls hl hP hD hK hS)
theorem z_ic_le (hG : CY cc nL own Γ) {x y : Int32} {off : Int} {tgt : Nat} (d : decode cc pc = .ok (.if_icmp .le off, 3)) (ht : (pc : Int) + off = (tgt : Int)) (kt : x ≤ y → AC R nL Q Γ tgt lv st ws tys cells slots) (kf : ¬ x ≤ y → AC R nL Q Γ (pc + 3) lv st ws tys cells slots) : AC R nL Q Γ pc lv (.int y :: .int x :: st) ws tys cells slots := by
  obtain ⟨p, l, e, s, m, args, below, meth, c, D, A⟩ := Γ
  obtain ⟨hx, hb, hml, hown, hts, hA⟩ := hG
  intro H locs ls hl hP hD hK hS
  exact lv_icmp_le hx hb d ht (fun c0 => kt c0 H locs ls hl hP hD hK hS) (fun c0 => kf c0 H locs ls hl hP hD hK hS)
theorem z_ic_gt (hG : CY cc nL own Γ) {x y : Int32} {off : Int} {tgt : Nat} (d : decode cc pc = .ok (.if_icmp .gt off, 3)) (ht : (pc : Int) + off = (tgt : Int)) (kt : y < x → AC R nL Q Γ tgt lv st ws tys cells slots) (kf : ¬ y < x → AC R nL Q Γ (pc + 3) lv st ws tys cells slots) : AC R nL Q Γ pc lv (.int y :: .int x :: st) ws tys cells slots := by
  obtain ⟨p, l, e, s, m, args, below, meth, c, D, A⟩ := Γ
  obtain ⟨hx, hb, hml, hown, hts, hA⟩ := hG
  intro H locs ls hl hP hD hK hS
  exact lv_icmp_gt hx hb d ht (fun c0 => kt c0 H locs ls hl hP hD hK hS) (fun c0 => kf c0 H locs ls hl hP hD hK hS)
theorem z_if_ne (hG : CY cc nL own Γ) {x : Int32} {off : Int} {tgt : Nat} (d : decode cc pc = .ok (.ifCond .ne off, 3)) (ht : (pc : Int) + off = (tgt : Int)) (kt : ¬ (x = 0) → AC R nL Q Γ tgt lv st ws tys cells slots) (kf : x = 0 → AC R nL Q Γ (pc + 3) lv st ws tys cells slots) : AC R nL Q Γ pc lv (.int x :: st) ws tys cells slots := by
  obtain ⟨p, l, e, s, m, args, below, meth, c, D, A⟩ := Γ
  obtain ⟨hx, hb, hml, hown, hts, hA⟩ := hG
  intro H locs ls hl hP hD hK hS
  exact lv_if_ne hx hb d ht (fun c0 => kt c0 H locs ls hl hP hD hK hS) (fun c0 => kf c0 H locs ls hl hP hD hK hS)
theorem z_tableIn (hG : CY cc nL own Γ) {dflt lo hi : Int} {offs : Array Int} {len : Nat} {x : Int32} {off : Int} {tgt : Nat} (d : decode cc pc = .ok (.tableswitch dflt lo hi offs, len)) (h1 : ¬ x.toInt < lo) (h2 : ¬ hi < x.toInt) (ho : offs[(x.toInt - lo).toNat]? = some off) (ht : (pc : Int) + off = (tgt : Int)) (k : AC R nL Q Γ tgt lv st ws tys cells slots) : AC R nL Q Γ pc lv (.int x :: st) ws tys cells slots := by
  obtain ⟨p, l, e, s, m, args, below, meth, c, D, A⟩ := Γ
  obtain ⟨hx, hb, hml, hown, hts, hA⟩ := hG
  intro H locs ls hl hP hD hK hS
  exact lv_tableIn hx hb d h1 h2 ho ht (k H locs ls hl hP hD hK hS)
theorem z_tableOut (hG : CY cc nL own Γ) {dflt lo hi : Int} {offs : Array Int} {len : Nat} {x : Int32} {tgt : Nat} (d : decode cc pc = .ok (.tableswitch dflt lo hi offs, len)) (h1 : x.toInt < lo ∨ hi < x.toInt) (ht : (pc : Int) + dflt = (tgt : Int)) (k : AC R nL Q Γ tgt lv st ws tys cells slots) : AC R nL Q Γ pc lv (.int x :: st) ws tys cells slots := by
  obtain ⟨p, l, e, s, m, args, below, meth, c, D, A⟩ := Γ
  obtain ⟨hx, hb, hml, hown, hts, hA⟩ := hG
  intro H locs ls hl hP hD hK hS
  exact lv_tableOut hx hb d h1 ht (k H locs ls hl hP hD hK hS)
theorem z_getR (hG : CY cc nL own Γ) {i ci N ix : Nat} {ks : List Nat} {C : String} {T : u_T} (hw : ws = wl SH ad (cyOf Γ) h) (hs : SH[i]? = some (.inr (ci, ks))) (hc : vwCl[ci]? = some (C, T, N)) (hok : ClOk (C, T, N)) (k0 : Nat) (hk : k0 < N) {t : Nat} (hkd : ks[k0]? = some (t + 2)) (hlk : Cond.fieldLink own ix (T k0).1 (T k0).2.1 (T k0).2.2.1 ∈ TB) (d : decode cc pc = .ok (.getfield ix, 3)) (k : AC R nL Q Γ (pc + 3) lv (.ref (ad t) :: st) ws tys cells slots) : AC R nL Q Γ pc lv (.ref (ad i) :: st) ws tys cells slots := by
  obtain ⟨p, l, e, s, m, args, below, meth, c, D, A⟩ := Γ
  obtain ⟨hx, hb, hml, hown, hts, hA⟩ := hG
  intro H locs ls hl hP hD hK hS
  subst hw
  exact va_get hx hb hts hok.1 hown hK hP i (wl_get hs) hc k0 hk (hts _ hlk) (fun _ z => z) (by rw [List.getElem?_mapIdx, hkd]; rfl) d (k H locs ls hl hP hD hK hS)
theorem z_lald (hG : CY cc nL own Γ) (q0 t0 : Nat) {a : Nat} {cA : ClassId} {n : Nat} {f : Nat → Int64} (ha : ws[q0]? = some (a, .inl (cA, n, .inr (.inl f)))) (ht : tys[t0]? = some (cA, .long)) {i : Int32} (hin : vp_in i n) (d : decode cc pc = .ok (.laload, 1)) (k : AC R nL Q Γ (pc + 1) lv (.long (f i.toNatClampNeg) :: st) ws tys cells slots) : AC R nL Q Γ pc lv (.int i :: .ref a :: st) ws tys cells slots := by
  obtain ⟨p, l, e, s, m, args, below, meth, c, D, A⟩ := Γ
  obtain ⟨hx, hb, hml, hown, hts, hA⟩ := hG
  intro H locs ls hl hP hD hK hS
  exact va_lald hx hb hK hP q0 t0 ha ht hin d (k H locs ls hl hP hD hK hS)
theorem z_last (hG : CY cc nL own Γ) (q0 t0 : Nat) {a : Nat} {cA : ClassId} {n : Nat} {f : Nat → Int64} (ha : ws[q0]? = some (a, .inl (cA, n, .inr (.inl f)))) (ht : tys[t0]? = some (cA, .long)) {i : Int32} {x : Int64} (hin : vp_in i n) (d : decode cc pc = .ok (.lastore, 1)) (k : AC R nL Q Γ (pc + 1) lv st (ws.set q0 (a, .inl (cA, n, .inr (.inl (vp_updL f i.toNatClampNeg x))))) tys cells slots) : AC R nL Q Γ pc lv (.long x :: .int i :: .ref a :: st) ws tys cells slots := by
  obtain ⟨p, l, e, s, m, args, below, meth, c, D, A⟩ := Γ
  obtain ⟨hx, hb, hml, hown, hts, hA⟩ := hG
  intro H locs ls hl hP hD hK hS
  exact va_last hx hb hK hP hD hS q0 t0 ha ht hin d (fun H1 locs1 hP1 hD1 hS1 => k H1 locs1 ls hl hP1 hD1 hK hS1)
theorem z_sld (hG : CY cc nL own Γ) {b L : Nat} {xs : Nat → Int32} (hX : va_X b L xs Γ.2.2.2.1 Γ.2.2.2.1.heap) (hbl : b < Γ.2.2.2.1.heap.size) (hbA : ¬ Γ.2.2.2.2.2.2.2.2.2.2 b) {i : Int32} (hin : vp_in i L) (d : decode cc pc = .ok (.iaload, 1)) (k : AC R nL Q Γ (pc + 1) lv (.int (xs i.toNatClampNeg) :: st) ws tys cells slots) : AC R nL Q Γ pc lv (.int i :: .ref b :: st) ws tys cells slots := by
  obtain ⟨p, l, e, s, m, args, below, meth, c, D, A⟩ := Γ
  obtain ⟨hx, hb, hml, hown, hts, hA⟩ := hG
  intro H locs ls hl hP hD hK hS
  exact va_sld hx hb hX hbl hbA hS hin d (k H locs ls hl hP hD hK hS)
theorem z_slen (hG : CY cc nL own Γ) {b L : Nat} {xs : Nat → Int32} (hX : va_X b L xs Γ.2.2.2.1 Γ.2.2.2.1.heap) (hbl : b < Γ.2.2.2.1.heap.size) (hbA : ¬ Γ.2.2.2.2.2.2.2.2.2.2 b) (d : decode cc pc = .ok (.arraylength, 1)) (k : AC R nL Q Γ (pc + 1) lv (.int (Int32.ofNat L) :: st) ws tys cells slots) : AC R nL Q Γ pc lv (.ref b :: st) ws tys cells slots := by
  obtain ⟨p, l, e, s, m, args, below, meth, c, D, A⟩ := Γ
  obtain ⟨hx, hb, hml, hown, hts, hA⟩ := hG
  intro H locs ls hl hP hD hK hS
  exact va_slen hx hb hX hbl hbA hS d (k H locs ls hl hP hD hK hS)
theorem z_newa (hG : CY cc nL own Γ) {atype : ArrayType} (harr : Cond.arrayClass (newarray.typeOf atype) ∈ TB) {ty : FieldType} (hty : newarray.typeOf atype = ty) {n : Int32} {N' : Nat} {a0 : vp_A} (ha : ∀ cA : ClassId, vp_cell cA a0 = arrV cA N' (fun _ => defaultValue ty)) (hn : ¬ n < 0) (hN : n.toNatClampNeg = N') (hbytes : N' * componentBytes ty ≤ 536870912) (hcells : cells + 1 ≤ R.cells) (hslots : slots + N' ≤ R.slots) (d : decode cc pc = .ok (.newarray atype, 2)) (k : ∀ (q : Nat) (cA : ClassId), AC R nL Q Γ (pc + 2) lv (.ref q :: st) (ws ++ [(q, .inl (cA, a0))]) (tys ++ [(cA, ty)]) (cells + 1) (slots + N')) : AC R nL Q Γ pc lv (.int n :: st) ws tys cells slots := by
  obtain ⟨p, l, e, s, m, args, below, meth, c, D, A⟩ := Γ
  obtain ⟨hx, hb, hml, hown, hts, hA⟩ := hG
  intro H locs ls hl hP hD hK hS
  exact va_newa hx hb (hts _ harr) hty hK hP hD hS hA ha hn hN hbytes hcells hslots d (fun q cA H1 hK1 hP1 hD1 hS1 => k q cA H1 locs ls hl hP1 hD1 hK1 hS1)
theorem z_new (hG : CY cc nL own Γ) {C : String} {T : u_T} {N ci index : Nat} (hok : ClOk (C, T, N)) (hc : vwCl[ci]? = some (C, T, N)) (hcl : Cond.classLink own index C ∈ TB) (hinst : Cond.instantiable C N ∈ TB) (hini : Cond.initialized C ∈ TB) (ty : Nat → FieldType) (hty : ∀ k, k < N → parseFieldDescriptor (T k).2.2.1 = some (ty k)) {fs : List Value} (hfs : ∀ j, j < N → defaultValue (ty j) = vp_V fs j) (hcells : cells + 1 ≤ R.cells) (hslots : slots + N ≤ R.slots) (d : decode cc pc = .ok (.new index, 3)) (k : ∀ q : Nat, AC R nL Q Γ (pc + 3) lv (.ref q :: st) (ws ++ [(q, .inr (ci, fs))]) tys (cells + 1) (slots + N)) : AC R nL Q Γ pc lv st ws tys cells slots := by
  obtain ⟨p, l, e, s, m, args, below, meth, c, D, A⟩ := Γ
  obtain ⟨hx, hb, hml, hown, hts, hA⟩ := hG
  intro H locs ls hl hP hD hK hS
  exact va_new hx hb hts hok.1 ty hty hown (hts _ hcl) (hts _ hinst) (hts _ hini) hK hP hD hS hA hc hfs hcells hslots d (fun q H1 hP1 hD1 hS1 => k q H1 locs ls hl hP1 hD1 hK hS1)
end ZX
theorem va_D_map {A : Nat → Prop} {ws ws' : va_W} (e : ws.map Prod.fst = ws'.map Prod.fst) (hD : va_D A ws) : va_D A ws' := by
  have back : ∀ (k : Nat) (q : Nat × va_E), ws'[k]? = some q → ∃ q0, ws[k]? = some q0 ∧ q0.1 = q.1 := fun k q hk => by
    have h1 : (ws'.map Prod.fst)[k]? = some q.1 := by rw [List.getElem?_map, hk]; rfl
    rw [← e, List.getElem?_map] at h1
    cases hq : ws[k]? with
    | none => rw [hq] at h1; cases h1
    | some q0 => rw [hq] at h1; exact ⟨q0, rfl, Option.some.inj h1⟩
  refine ⟨fun i j p q hi hj hpq => ?_, fun k q hk => ?_⟩
  · obtain ⟨p0, a1, a2⟩ := back i p hi
    obtain ⟨q0, b1, b2⟩ := back j q hj
    exact hD.1 i j p0 q0 a1 b1 (by rw [a2, b2]; exact hpq)
  · obtain ⟨q0, b1, b2⟩ := back k q hk
    rw [← b2]
    exact hD.2 k q0 b1
theorem wl_map {SH : List ShT} {ad : Nat → Nat} {cy : Nat → ClassId} {h : HS} : (wl SH ad cy h).map Prod.fst = SH.mapIdx (fun i _ => ad i) := by
  apply List.ext_getElem?
  intro k
  unfold wl
  rw [List.getElem?_map, List.getElem?_mapIdx, List.getElem?_mapIdx]
  cases SH[k]? <;> rfl
theorem wl_mid {SH : List ShT} {ad : Nat → Nat} {cy : Nat → ClassId} {h : HS} {w1 w2 : va_W} {k : Nat} {q : Nat × va_E} (hk : (wl SH ad cy h)[k]? = some q) : (w1 ++ (wl SH ad cy h ++ w2))[w1.length + k]? = some q := by
  have hl : k < (wl SH ad cy h).length := (List.getElem?_eq_some_iff.mp hk).1
  rw [List.getElem?_append_right (by omega), Nat.add_sub_cancel_left, List.getElem?_append_left hl]
  exact hk
/-- the cells about a part of them: what the part's call leaves alone stays -/
theorem wl_join {SH : List ShT} {ad : Nat → Nat} {cy : Nat → ClassId} {h h2 : HS} {w1 w2 : va_W} {D : va_G} {A : Nat → Prop} {H H1 : Heap} (hP : va_P D vwCl (w1 ++ (wl SH ad cy h ++ w2)) H) (hD : va_D A (w1 ++ (wl SH ad cy h ++ w2))) (hF : ∀ q, q < H.size → ¬ Aw SH ad H.size q → H1[q]? = H[q]?) (hP2 : va_P D vwCl (wl SH ad cy h2) H1) : va_P D vwCl (w1 ++ (wl SH ad cy h2 ++ w2)) H1 ∧ va_D A (w1 ++ (wl SH ad cy h2 ++ w2)) := by
  have keep : ∀ (k : Nat) (q : Nat × va_E), (w1 ++ (wl SH ad cy h ++ w2))[k]? = some q → ¬ (w1.length ≤ k ∧ k < w1.length + SH.length) → va_at D vwCl q H1 := fun k q hk hn => (hP k q hk).kept (hF q.1 (hP k q hk).lt (fun z => z.elim (fun ⟨j, hj, e⟩ => hn (by
    have hz := hD.1 k (w1.length + j) _ _ hk (wl_mid (wl_get (List.getElem?_eq_getElem hj))) e
    omega)) (fun z => absurd (hP k q hk).lt (by omega))))
  refine ⟨fun k q hk => ?_, va_D_map (by simp [List.map_append, wl_map]) hD⟩
  by_cases h1 : k < w1.length
  · rw [List.getElem?_append_left h1] at hk
    exact keep k q (by rw [List.getElem?_append_left h1]; exact hk) (by omega)
  · rw [List.getElem?_append_right (by omega)] at hk
    by_cases h3 : k - w1.length < SH.length
    · rw [List.getElem?_append_left (by rw [wl_len]; exact h3)] at hk
      exact hP2 _ q hk
    · rw [List.getElem?_append_right (by rw [wl_len]; omega), wl_len] at hk
      exact keep k q (by rw [List.getElem?_append_right (by omega), List.getElem?_append_right (by rw [wl_len]; omega), wl_len]; exact hk) (by omega)
theorem wl_Aw {SH : List ShT} {ad : Nat → Nat} {cy : Nat → ClassId} {h : HS} {w1 w2 : va_W} {A : Nat → Prop} {sz : Nat} (hD : va_D A (w1 ++ (wl SH ad cy h ++ w2))) (hA : ∀ q, sz ≤ q → A q) : ∀ q, Aw SH ad sz q → A q := fun q hq => hq.elim (fun ⟨j, hj, e⟩ => by
  have z := hD.2 (w1.length + j) _ (wl_mid (wl_get (List.getElem?_eq_getElem hj)))
  rw [e]
  exact z) (fun z => hA q z)
theorem wl_P {SH : List ShT} {ad : Nat → Nat} {cy : Nat → ClassId} {h : HS} {w1 w2 : va_W} {D : va_G} {H : Heap} (hP : va_P D vwCl (w1 ++ (wl SH ad cy h ++ w2)) H) : va_P D vwCl (wl SH ad cy h) H := fun k q hk => hP _ q (wl_mid hk)
section ZC
variable {R : Room} {cc : ByteArray} {nL : Nat} {own : String} {Q : CtC → State → Prop} {Γ : CtC} {pc : Nat} {lv lv' : List (Nat × Value)} {st : List Value} {ws : va_W} {tys : List (ClassId × FieldType)} {cells slots : Nat} {SH : List ShT} {ad wad : Nat → Nat} {h : HS}
/-- a method of an object of one side's world, the other cells stay -/
theorem z_call (hG : CY cc nL own Γ) (hZ : GSat wad Γ) (hI : Inj SH ad) {y : MethodName} {cc2 : ByteArray} {nL2 n2 ix i ci N : Nat} {rt2 : Option FieldType} {ks : List Nat} {C : String} {T : u_T} {As st0 : List Value} {res2 : Option Value × HS} (w1 w2 : va_W) (hws : ws = w1 ++ (wl SH ad (cyOf Γ) h ++ w2)) (hs : SH[i]? = some (.inr (ci, ks))) (hc : vwCl[ci]? = some (C, T, N)) (hm : MkV y cc2 nL2 rt2 C As.length) (hlk : Cond.methodLink own ix y ∈ TB) (hn : n2 + 1 ≤ R.frames) (hlo : 40 * (n2 + 1) ≤ R.locals) (hf : cells ≤ R.cells ∧ slots ≤ R.slots) (hC : Ctr SH ad wad y cc2 nL2 rt2 n2 (.ref (ad i) :: As) h res2) (hst : st0 = As.reverse ++ .ref (ad i) :: st) (hw : (st.map fun v => v.category).sum ≤ 8) (d : decode cc pc = .ok (.invokevirtual ix, 3)) (k : AC R nL Q Γ (pc + 3) lv (res2.1.toList ++ st) (w1 ++ (wl SH ad (cyOf Γ) res2.2 ++ w2)) (tyL (cyOf Γ)) cells slots) : AC R nL Q Γ pc lv st0 ws (tyL (cyOf Γ)) cells slots := by
  subst hws
  subst hst
  obtain ⟨p, l, e, s, m, args, below, meth, c, D, A⟩ := Γ
  obtain ⟨hx, hb, hml, hown, hts, hA⟩ := hG
  intro H locs ls hl hP hD hK hS
  obtain ⟨m1, m2, m3, m4, m5, m6, m7⟩ := hm
  subst m1
  have hZ : GS wad A s s.heap := hZ
  have hPc := wl_P hP
  have hsub : ∀ q, Aw SH ad H.size q → A q := wl_Aw hD (fun q z => hA q (Nat.le_trans hS.1 z))
  obtain ⟨f, hfs⟩ : ∃ f : Nat, wl SH ad (cyS s) h = wl SH ad (cyS s) h := ⟨0, rfl⟩
  have hrun := va_runV (l := l) (R := R) (e := e) (below := below) (meth := meth) (locs := locs) (cells := cells) (slots := slots) (H := H) (g := F0 m pc ls (As.reverse ++ .ref (ad i) :: st)) (As := As) (rest := st) (b := ad i) (C := y.cls) ⟨hx, hb, hml, hown, hts⟩ (hC hI l (cyS s) D H.size) ⟨callB_of As.length hts (TB_ws m2) rfl rfl rfl (hts _ m5) (hts _ hlk) m6 ⟨hn, by show 8 + (nL2 + 11) + 40 * n2 ≤ R.locals; omega⟩, hts _ m3, hts _ m4⟩
    ⟨Pr_blind, va_recv hK hPc (ci := ci) (q0 := i) hc (wl_get hs), fun U hU hW => ⟨rfl, by rw [hU], by rw [hU]; exact hPc, va_K.moved hW.alike hK, by rw [hU]; exact ((hZ.kept hS.2.1).narrow hsub).moved hW.alike⟩⟩ rfl rfl hl.1 rfl (by show 2 * 0 + _ ≤ 8; omega) d ⟨hf.1, hf.2⟩
  intro T0 hT X
  obtain ⟨v, st₀, t, T', L, h0, X', hL, e1, e2, ⟨ho, hP2, hF1, hF2⟩, hgo⟩ := hrun T0 hT X
  cases ho
  rw [h0] at hF1 hF2
  rw [← e1] at hP2 hF1 hF2
  obtain ⟨j1, j2⟩ := wl_join hP hD hF2 hP2
  obtain ⟨t2, a1, b1⟩ := k T'.heap (locs ++ L) ls hl j1 j2 hK
    ⟨Nat.le_trans hS.1 hF1, fun q h1 h2 => by rw [hF2 q (Nat.lt_of_lt_of_le h1 hS.1) (fun z => h2 (hsub q z))]; exact hS.2.1 q h1 h2, fun q hq => by
      rcases List.mem_append.mp hq with h | h
      · exact hS.2.2 q h
      · exact hsub _ (hL q h)⟩ T' rfl X'
  exact ⟨t2, hgo t2 a1, b1⟩
/-- one of the two constructors that the law calls -/
theorem z_ctor (hG : CY cc nL own Γ) (hZ : GSat wad Γ) (hMO : MO Γ.2.2.2.1) {NW : List Cond} (hNW : ∀ w ∈ NW, NWat w Γ) (hNf : ∀ w ∈ NW, ∃ a i y h, w = Cond.methodLinkNest a i y h) {R2 : Room} {y : MethodName} {cc2 : ByteArray} {nL2 mc ms ix n ci : Nat} {fs rest : List Value} {w1 : va_W} {h2 : HS} (hC : CtG wad NW R2 y cc2 nL2 mc ms [.ref n] [(n, .inr (ci, fs))] [] (PostW SH h2 n)) (hw : Cond.code y cc2 nL2 none ∈ TB) (hini : Cond.initialized y.cls ∈ TB) (hlk : Cond.methodLink own ix y ∈ TB) (hins : Cond.instanceMethod y ∈ TB) (hy1 : y.name = "<init>") (hd : y.cls ≠ "java/lang/invoke/MethodHandle" ∧ y.cls ≠ "java/lang/invoke/VarHandle" ∧ (parseMethodDescriptor y.desc).map (fun d => d.parameters.length) = some 0) (hrc : R2.cells = mc) (hrs : R2.slots = ms) (hR : R2.frames + 1 ≤ R.frames ∧ 8 + (nL2 + 11) + R2.locals ≤ R.locals) (hrm : (rest.map fun v => v.category).sum ≤ 8) (hf : cells + mc ≤ R.cells ∧ slots + ms ≤ R.slots) (d : decode cc pc = .ok (.invokespecial ix, 3))
    (k : ∀ ad : Nat → Nat, ad 0 = n → Inj SH ad → AC R nL Q Γ (pc + 3) lv rest (w1 ++ wl SH ad (cyOf Γ) h2) tys (cells + mc) (slots + ms)) : AC R nL Q Γ pc lv (.ref n :: rest) (w1 ++ [(n, .inr (ci, fs))]) tys cells slots := by
  obtain ⟨p, l, e, s, m, args, below, meth, c, D, A⟩ := Γ
  obtain ⟨hx, hb, hml, hown, hts, hA⟩ := hG
  intro H locs ls hl hP hD hK hS
  have hZ : GS wad A s s.heap := hZ
  have hMO : MO s := hMO
  have hlast : (w1 ++ [((n, .inr (ci, fs)) : Nat × va_E)])[w1.length]? = some (n, .inr (ci, fs)) := by rw [List.getElem?_append_right (Nat.le_refl _), Nat.sub_self]; rfl
  have hleft : ∀ (i : Nat) (x : Nat × va_E), w1[i]? = some x → (w1 ++ [((n, .inr (ci, fs)) : Nat × va_E)])[i]? = some x := fun i x hx => by rw [List.getElem?_append_left (List.getElem?_eq_some_iff.mp hx).1]; exact hx
  have hPc := hP.sub (ws' := [(n, .inr (ci, fs))]) [w1.length] (by simp [hlast])
  have hDc := hD.sub (ws' := [(n, .inr (ci, fs))]) [w1.length] rfl (by simp [hlast])
  have hKc := hK.sub (tys' := []) [] rfl
  have hFc := va_free (wc := [(n, .inr (ci, fs))]) hD hS hA [w1.length] (by simp [hlast])
  refine va_callv (va_runI (As := []) (rest := rest) ⟨hx, hb, hml, hown, hts⟩ (hC l D H.size) (cwI 0 hts (TB_ws hw) rfl hrc hrs (hts _ hini) (hts _ hlk) (hts _ hins) hy1 hd hR) ⟨fun a U g mk q => by obtain ⟨q0, q1, qP, qK, qD, qN, qZ, qM⟩ := q; exact ⟨q0, q1, qP, va_K.moved (u := U) (U := U.calling g mk a) (Vm.Alike.refl U.vm) qK, qD, fun w hw => va_Nw.same (u := U) (by obtain ⟨_, _, _, _, rfl⟩ := hNf w hw; rfl) rfl (qN w hw), GS.moved (u := U) (U := U.calling g mk a) (Vm.Alike.refl U.vm) qZ, qM⟩, fun U hU hW => ⟨rfl, by rw [hU], by rw [hU]; exact hPc, va_K.moved hW.alike hKc, hDc.weaken (fun _ _ _ _ => trivial), fun w hw => by
    have hz := hNW w hw
    obtain ⟨_, _, _, _, rfl⟩ := hNf w hw
    exact va_Nw.warmM hW hz, by rw [hU]; exact ((hZ.kept hS.2.1).narrow hFc).moved hW.alike, hMO.moved hW.alike⟩⟩ rfl rfl hl.1 rfl (lv_room hrm) d hf) hS (fun q _ h => hFc q h) hFc (fun u t H1 locs1 ht hvm hw2 hB hz1 hk1 hS1 => ?_)
  obtain ⟨hP1, hK1, hD1⟩ := hB
  obtain ⟨ad, cy, e0, hI, h4, q1, q2⟩ := hw2
  rw [ht] at hP1
  have hK1 := va_K.moved hvm.symm hK1
  rw [q2] at hK1
  have ecy := PostW_cy hK1 h4
  rw [q1, ecy] at hP1 hD1
  have apart : ∀ (i : Nat) (x : Nat × va_E), w1[i]? = some x → ¬ va_A [(n, .inr (ci, fs))] H.size x.1 := fun i x hx z => by
    have hlt := (hP i x (hleft i x hx)).lt
    rcases z with ⟨j, ee, hj⟩ | z
    · have hn : x.1 = n := by
        cases j with
        | zero => cases hj; rfl
        | succ j => cases hj
      have hij := hD.1 i w1.length x _ (hleft i x hx) hlast hn
      have := (List.getElem?_eq_some_iff.mp hx).1
      omega
    · omega
  refine k ad e0 hI H1 locs1 ls hl (va_P.app (fun i x hx => (hP i x (hleft i x hx)).kept (hk1 x.1 (hP i x (hleft i x hx)).lt (apart i x hx))) hP1) (va_D.app ⟨fun i j x y hi hj exy => hD.1 i j x y (hleft i x hi) (hleft j y hj) exy, fun i x hx => hD.2 i x (hleft i x hx)⟩ (hD1.weaken (fun _ q _ h => hFc q.1 h)) (fun i j x y hx hy hxy => apart i x hx (by rw [hxy]; exact hD1.2 j y hy))) hK hS1
end ZC
