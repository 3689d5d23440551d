/-! ===== constructors: the walk over a list of cells that grows ===== -/
abbrev CtC : Type := Program × Launch × Env × State × MethodId × Array Value × List Frame × Method × Code × va_G × (Nat → Prop)
/-- the class of the arrays of arrays of ints, as the tables name it -/
def MO (U : State) : Prop := ∃ (cB cA : ClassId) (kA : Class), U.vm.findClass "[I" = some cB ∧ U.vm.findClass "[[I" = some cA ∧ U.vm.classes[cA]? = some kA ∧ kA.kind = .array cB (.array .int)
theorem MO.moved {u U : State} (hvm : u.vm.Alike U.vm) (h : MO u) : MO U := by
  obtain ⟨cB, cA, kA, h1, h2, h3, h4⟩ := h
  obtain ⟨k', hk', he⟩ := hvm.2.2 _ _ h3
  exact ⟨cB, cA, k', by rw [hvm.findClass]; exact h1, by rw [hvm.findClass]; exact h2, hk', by rw [he]; exact h4⟩
def CX (cc : ByteArray) (nL : Nat) (own : String) (Γ : CtC) : Prop := match Γ with
  | (p, _, _, s, m, args, _, meth, c, _, A) => p.tables.exec = Jvm.exec ∧ c.code = cc ∧ c.maxLocals = nL ∧ s.vm.findClass own = some m.cls ∧ (∀ w ∈ TB, w.before args s = true) ∧ meth.locks = false ∧ meth.sig.returnType = none ∧ meth.name = "<init>" ∧ (∀ q, s.heap.size ≤ q → A q) ∧ MO s
def AC (R : Room) (nL : Nat) (Q : CtC → State → Prop) (Γ : CtC) (pc : Nat) (lv : List (Nat × Value)) (st : List Value) (ws : va_W) (tys : List (ClassId × FieldType)) (cells slots : Nat) : Prop := match Γ with
  | (p, l, e, s, m, args, below, meth, c, D, A) => ∀ (H : Heap) (locs : List Loc) (ls : Array Slot), lv_has ls nL lv → va_P D vwCl ws H → va_D A ws → va_K D vwCl tys s → va_S A s.heap H locs → W p l e R s m args below meth c H locs cells slots (Q (p, l, e, s, m, args, below, meth, c, D, A)) (F0 m pc ls st)
section AX
variable {R : Room} {cc : ByteArray} {nL : Nat} {own : String} {Q : CtC → State → Prop} {Γ : CtC} {pc : Nat} {lv : List (Nat × Value)} {st : List Value} {ws : va_W} {tys : List (ClassId × FieldType)} {cells slots : Nat}
theorem x_iconst (hG : CX cc nL own Γ) {z : Int} {v : Int32} (d : decode cc pc = .ok (.iconst z, 1)) (hv : Int32.ofInt z = v) (k : AC R nL Q Γ (pc + 1) lv (.int v :: st) ws tys cells slots) : AC R nL Q Γ pc lv st ws tys cells slots := by
  obtain ⟨p, l, e, s, m, args, below, meth, c, D, A⟩ := Γ
  obtain ⟨hx, hb, hml, hown, hts, hlo, hr, hin, hA, hMO⟩ := hG
  intro H locs ls hl hP hD hK hS
  exact lv_iconst hx hb d hv (k H locs ls hl hP hD hK hS)
theorem x_bipush (hG : CX cc nL own Γ) {z : Int} {v : Int32} (d : decode cc pc = .ok (.bipush z, 2)) (hv : (Int8.ofInt z).toInt32 = v) (k : AC R nL Q Γ (pc + 2) lv (.int v :: st) ws tys cells slots) : AC R nL Q Γ pc lv st ws tys cells slots := by
  obtain ⟨p, l, e, s, m, args, below, meth, c, D, A⟩ := Γ
  obtain ⟨hx, hb, hml, hown, hts, hlo, hr, hin, hA, hMO⟩ := hG
  intro H locs ls hl hP hD hK hS
  exact lv_bipush hx hb d hv (k H locs ls hl hP hD hK hS)
theorem x_sipush (hG : CX cc nL own Γ) {z : Int} {v : Int32} (d : decode cc pc = .ok (.sipush z, 3)) (hv : (Int16.ofInt z).toInt32 = v) (k : AC R nL Q Γ (pc + 3) lv (.int v :: st) ws tys cells slots) : AC R nL Q Γ pc lv st ws tys cells slots := by
  obtain ⟨p, l, e, s, m, args, below, meth, c, D, A⟩ := Γ
  obtain ⟨hx, hb, hml, hown, hts, hlo, hr, hin, hA, hMO⟩ := hG
  intro H locs ls hl hP hD hK hS
  exact lv_sipush hx hb d hv (k H locs ls hl hP hD hK hS)
theorem x_lconst (hG : CX cc nL own Γ) {z : Fin 2} {v : Int64} (d : decode cc pc = .ok (.lconst z, 1)) (hv : Int64.ofNat (z : Nat) = v) (k : AC R nL Q Γ (pc + 1) lv (.long v :: st) ws tys cells slots) : AC R nL Q Γ pc lv st ws tys cells slots := by
  obtain ⟨p, l, e, s, m, args, below, meth, c, D, A⟩ := Γ
  obtain ⟨hx, hb, hml, hown, hts, hlo, hr, hin, hA, hMO⟩ := hG
  intro H locs ls hl hP hD hK hS
  exact lv_lconst hx hb d hv (k H locs ls hl hP hD hK hS)
theorem x_aload_n (hG : CX cc nL own Γ) {i : Nat} {x : Nat} (z : Nat) (hz : lv[z]? = some (i, .ref x)) {k4 : Fin 4} (d : decode cc pc = .ok (.aload_n k4, 1)) (hi : (k4 : Nat) = i) (k : AC R nL Q Γ (pc + 1) lv (.ref x :: st) ws tys cells slots) : AC R nL Q Γ pc lv st ws tys cells slots := by
  obtain ⟨p, l, e, s, m, args, below, meth, c, D, A⟩ := Γ
  obtain ⟨hx, hb, hml, hown, hts, hlo, hr, hin, hA, hMO⟩ := hG
  intro H locs ls hl hP hD hK hS
  exact lv_aload_n hx hb d hi (lv_at hl z hz) (k H locs ls hl hP hD hK hS)
theorem x_dup (hG : CX cc nL own Γ) {v : Value} (d : decode cc pc = .ok (.dup, 1)) (hv : v.category = 1) (k : AC R nL Q Γ (pc + 1) lv (v :: v :: st) ws tys cells slots) : AC R nL Q Γ pc lv (v :: st) ws tys cells slots := by
  obtain ⟨p, l, e, s, m, args, below, meth, c, D, A⟩ := Γ
  obtain ⟨hx, hb, hml, hown, hts, hlo, hr, hin, hA, hMO⟩ := hG
  intro H locs ls hl hP hD hK hS
  exact lv_dup hx hb d hv (k H locs ls hl hP hD hK hS)
theorem x_newa (hG : CX cc nL own Γ) {atype : ArrayType} (harr : Cond.arrayClass (newarray.typeOf atype) ∈ TB) {ty : FieldType} (hty : newarray.typeOf atype = ty) {n : Int32} {N' : Nat} {a0 : vp_A} (ha : ∀ cA : ClassId, vp_cell cA a0 = arrV cA N' (fun _ => defaultValue ty)) (hn : ¬ n < 0) (hN : n.toNatClampNeg = N') (hbytes : N' * componentBytes ty ≤ 536870912) (hcells : cells + 1 ≤ R.cells) (hslots : slots + N' ≤ R.slots) (d : decode cc pc = .ok (.newarray atype, 2)) (k : ∀ (q : Nat) (cA : ClassId), AC R nL Q Γ (pc + 2) lv (.ref q :: st) (ws ++ [(q, .inl (cA, a0))]) (tys ++ [(cA, ty)]) (cells + 1) (slots + N')) : AC R nL Q Γ pc lv (.int n :: st) ws tys cells slots := by
  obtain ⟨p, l, e, s, m, args, below, meth, c, D, A⟩ := Γ
  obtain ⟨hx, hb, hml, hown, hts, hlo, hr, hin, hA, hMO⟩ := hG
  intro H locs ls hl hP hD hK hS
  exact va_newa hx hb (hts _ harr) hty hK hP hD hS hA ha hn hN hbytes hcells hslots d (fun q cA H1 hK1 hP1 hD1 hS1 => k q cA H1 locs ls hl hP1 hD1 hK1 hS1)
theorem x_new (hG : CX cc nL own Γ) {C : String} {T : u_T} {N ci index : Nat} (hok : ClOk (C, T, N)) (hc : vwCl[ci]? = some (C, T, N)) (hcl : Cond.classLink own index C ∈ TB) (hinst : Cond.instantiable C N ∈ TB) (hini : Cond.initialized C ∈ TB) (ty : Nat → FieldType) (hty : ∀ k, k < N → parseFieldDescriptor (T k).2.2.1 = some (ty k)) {fs : List Value} (hfs : ∀ j, j < N → defaultValue (ty j) = vp_V fs j) (hcells : cells + 1 ≤ R.cells) (hslots : slots + N ≤ R.slots) (d : decode cc pc = .ok (.new index, 3)) (k : ∀ q : Nat, AC R nL Q Γ (pc + 3) lv (.ref q :: st) (ws ++ [(q, .inr (ci, fs))]) tys (cells + 1) (slots + N)) : AC R nL Q Γ pc lv st ws tys cells slots := by
  obtain ⟨p, l, e, s, m, args, below, meth, c, D, A⟩ := Γ
  obtain ⟨hx, hb, hml, hown, hts, hlo, hr, hin, hA, hMO⟩ := hG
  intro H locs ls hl hP hD hK hS
  exact va_new hx hb hts hok.1 ty hty hown (hts _ hcl) (hts _ hinst) (hts _ hini) hK hP hD hS hA hc hfs hcells hslots d (fun q H1 hP1 hD1 hS1 => k q H1 locs ls hl hP1 hD1 hK hS1)
theorem x_putF (hG : CX cc nL own Γ) {C : String} {T : u_T} {N ci index a : Nat} (hok : ClOk (C, T, N)) (hc : vwCl[ci]? = some (C, T, N)) (q0 : Nat) {fs : List Value} (he : ws[q0]? = some (a, .inr (ci, fs))) (k0 : Nat) (hk : k0 < N) (hlk : Cond.fieldLink own index (T k0).1 (T k0).2.1 (T k0).2.2.1 ∈ TB) (hfin : (T k0).2.2.2 = true) (hdecl : (T k0).1 = own) {ty : FieldType} {v : Value} (hd : parseFieldDescriptor (T k0).2.2.1 = some ty) (hn : narrow ty v = v) (hfit : fits ty v = true) (hl : k0 < fs.length) (d : decode cc pc = .ok (.putfield index, 3)) (k : AC R nL Q Γ (pc + 3) lv st (ws.set q0 (a, .inr (ci, fs.set k0 v))) tys cells slots) : AC R nL Q Γ pc lv (v :: .ref a :: st) ws tys cells slots := by
  obtain ⟨p, l, e, s, m, args, below, meth, c, D, A⟩ := Γ
  obtain ⟨hx, hb, hml, hown, hts, hlo, hr, hin, hA, hMO⟩ := hG
  obtain ⟨o1, ⟨ty0, o2⟩, o3⟩ := hok
  intro H locs ls hl' hP hD hK hS
  exact va_putF hx hb hts o1 ty0 o2 o3 hown hK hP hD hS q0 he hc k0 hk (hts _ hlk) (fun _ h => h) hfin hin hdecl hd hn hfit hl d (fun H1 locs1 hP1 hD1 hS1 => k H1 locs1 ls hl' hP1 hD1 hK hS1)
theorem x_put (hG : CX cc nL own Γ) {C : String} {T : u_T} {N ci index a : Nat} (hok : ClOk (C, T, N)) (hc : vwCl[ci]? = some (C, T, N)) (q0 : Nat) {fs : List Value} (he : ws[q0]? = some (a, .inr (ci, fs))) (k0 : Nat) (hk : k0 < N) (hlk : Cond.fieldLink own index (T k0).1 (T k0).2.1 (T k0).2.2.1 ∈ TB) (hfin : (T k0).2.2.2 = false) {ty : FieldType} {v : Value} (hd : parseFieldDescriptor (T k0).2.2.1 = some ty) (hn : narrow ty v = v) (hfit : fits ty v = true) (hl : k0 < fs.length) (d : decode cc pc = .ok (.putfield index, 3)) (k : AC R nL Q Γ (pc + 3) lv st (ws.set q0 (a, .inr (ci, fs.set k0 v))) tys cells slots) : AC R nL Q Γ pc lv (v :: .ref a :: st) ws tys cells slots := by
  obtain ⟨p, l, e, s, m, args, below, meth, c, D, A⟩ := Γ
  obtain ⟨hx, hb, hml, hown, hts, hlo, hr, hin, hA, hMO⟩ := hG
  obtain ⟨o1, ⟨ty0, o2⟩, o3⟩ := hok
  intro H locs ls hl' hP hD hK hS
  exact va_put hx hb hts o1 ty0 o2 o3 hown hK hP hD hS q0 he hc k0 hk (hts _ hlk) (fun _ h => h) hfin hd hn hfit hl d (fun H1 locs1 hP1 hD1 hS1 => k H1 locs1 ls hl' hP1 hD1 hK hS1)
theorem x_iast (hG : CX cc nL own Γ) (q0 t0 : Nat) {a : Nat} {cA : ClassId} {n : Nat} {f : Nat → Int32} (ha : ws[q0]? = some (a, .inl (cA, n, .inl f))) (ht : tys[t0]? = some (cA, .int)) {i x : Int32} {j : Nat} (hj : i.toNatClampNeg = j) (hin : vp_in i n) (d : decode cc pc = .ok (.iastore, 1)) (k : AC R nL Q Γ (pc + 1) lv st (ws.set q0 (a, .inl (cA, n, .inl (upd f j x)))) tys cells slots) : AC R nL Q Γ pc lv (.int x :: .int i :: .ref a :: st) ws tys cells slots := by
  subst hj
  obtain ⟨p, l, e, s, m, args, below, meth, c, D, A⟩ := Γ
  obtain ⟨hx, hb, hml, hown, hts, hlo, hr, hini, hA, hMO⟩ := hG
  intro H locs ls hl hP hD hK hS
  exact va_iast hx hb hK hP hD hS q0 t0 ha ht hin d (fun H1 locs1 hP1 hD1 hS1 => k H1 locs1 ls hl hP1 hD1 hK hS1)
theorem x_get (hG : CX cc nL own Γ) {C : String} {T : u_T} {N ci index a : Nat} (hok : ClOk (C, T, N)) (hc : vwCl[ci]? = some (C, T, N)) (q0 : Nat) {fs : List Value} (he : ws[q0]? = some (a, .inr (ci, fs))) (k0 : Nat) (hk : k0 < N) (hlk : Cond.fieldLink own index (T k0).1 (T k0).2.1 (T k0).2.2.1 ∈ TB) {v : Value} (hv : fs[k0]? = some v) (d : decode cc pc = .ok (.getfield index, 3)) (k : AC R nL Q Γ (pc + 3) lv (v :: st) ws tys cells slots) : AC R nL Q Γ pc lv (.ref a :: st) ws tys cells slots := by
  obtain ⟨p, l, e, s, m, args, below, meth, c, D, A⟩ := Γ
  obtain ⟨hx, hb, hml, hown, hts, hlo, hr, hini, hA, hMO⟩ := hG
  intro H locs ls hl hP hD hK hS
  exact va_get hx hb hts hok.1 hown hK hP q0 he hc k0 hk (hts _ hlk) (fun _ z => z) hv d (k H locs ls hl hP hD hK hS)
theorem x_objInit (hG : CX cc nL own Γ) {idx a : Nat} (hlink : Cond.methodLink own idx objectInit ∈ TB) (hinst : Cond.instanceMethod objectInit ∈ TB) (hcode : Cond.code objectInit ⟨#[0xb1]⟩ 1 none ∈ TB) (hfr : 1 ≤ R.frames) (hlo12 : 12 ≤ R.locals) (d : decode cc pc = .ok (.invokespecial idx, 3)) (k : AC R nL Q Γ (pc + 3) lv [] ws tys cells slots) : AC R nL Q Γ pc lv [.ref a] ws tys cells slots := by
  obtain ⟨p, l, e, s, m, args, below, meth, c, D, A⟩ := Γ
  obtain ⟨hx, hb, hml, hown, hts, hlo, hr, hin, hA, hMO⟩ := hG
  intro H locs ls hl hP hD hK hS
  refine W.objInit hx hb hown (hts _ hlink) (hts _ hinst) (hts _ hcode) rfl (by rw [hml]; exact hl.1) rfl d hfr hlo12 ?_
  exact W.eq (g2 := F0 m (pc + 3) ls []) rfl (k H locs ls hl hP hD hK hS)
end AX
def QC (Post : va_W → List (ClassId × FieldType) → Prop) (mc ms : Nat) : CtC → State → Prop := fun Γ => match Γ with
  | (_, _, _, s, _, args, below, _, _, D, A) => MQ below (va_Qv (fun u : va_W × List (ClassId × FieldType) => Post u.1 u.2) (fun u t => va_P D vwCl u.1 t.heap ∧ va_K D vwCl u.2 t ∧ va_D A u.1) A) args s mc ms A
theorem x_vret {R : Room} {cc : ByteArray} {nL pc cells slots : Nat} {own : String} {Γ : CtC} {lv : List (Nat × Value)} {ws : va_W} {tys : List (ClassId × FieldType)} {Post : va_W → List (ClassId × FieldType) → Prop} (hG : CX cc nL own Γ) (hp : Post ws tys) (d : decode cc pc = .ok (.return_, 1)) : AC R nL (QC Post cells slots) Γ pc lv [] ws tys cells slots := by
  obtain ⟨p, l, e, s, m, args, below, meth, c, D, A⟩ := Γ
  obtain ⟨hx, hb, hml, hown, hts, hlo, hr, hin, hA, hMO⟩ := hG
  intro H locs ls hl hP hD hK hS
  exact W.vret hx hb hr (fun t ht hW => ⟨⟨(ws, tys), rfl, hp, by rw [ht]; exact hP, va_K.moved hW.alike hK, hD⟩, hS.F ht⟩) hS.2.2 d hlo
/-- a nest's word holds where this walk began -/
def NWat (w : Cond) (Γ : CtC) : Prop := va_Nw w Γ.2.2.2.1
/-- a constructor's contract: from the cells ws0, where the nest's words NW hold, it comes to cells that are Post -/
def CtN (NW : List Cond) (R : Room) (y : MethodName) (cc : ByteArray) (nL mc ms : Nat) (va : List Value) (ws0 : va_W) (tys0 : List (ClassId × FieldType)) (Post : va_W → List (ClassId × FieldType) → Prop) : Prop :=
  ∀ (l : Launch) (D : va_G) (sz : Nat), Met l y (.code y cc nL none :: TB) R (va_Pc va (fun U => U.heap.size = sz ∧ va_P D vwCl ws0 U.heap ∧ va_K D vwCl tys0 U ∧ va_D (fun _ => True) ws0 ∧ (∀ w ∈ NW, va_Nw w U) ∧ MO U)) (va_Qv (fun u : va_W × List (ClassId × FieldType) => Post u.1 u.2) (fun u t => va_P D vwCl u.1 t.heap ∧ va_K D vwCl u.2 t ∧ va_D (va_A ws0 sz) u.1) (va_A ws0 sz)) mc ms (va_A ws0 sz)
theorem x_enter {NW : List Cond} {R : Room} {y : MethodName} {cc : ByteArray} {nL mc ms : Nat} {va : List Value} {ws0 : va_W} {tys0 : List (ClassId × FieldType)} {Post : va_W → List (ClassId × FieldType) → Prop} {own : String} {lv : List (Nat × Value)} (hy : plainName y.cls = true) (ho : y.cls = own) (hn : y.name = "<init>") (hL : (lg_sl va).length ≤ nL) (hlv : lv_args 0 va = lv)
    (k : ∀ Γ : CtC, CX cc nL own Γ → (∀ w ∈ NW, NWat w Γ) → AC R nL (QC Post mc ms) Γ 0 lv [] ws0 tys0 0 0) : CtN NW R y cc nL mc ms va ws0 tys0 Post := by
  intro l D sz
  refine Met.ofW (cc := cc) (maxL := nL) (ret := none) hy rfl ?_
  intro p e s m args below meth c s₁ B hml hv
  obtain ⟨rfl, hsz, hP, hK, hD0, hNW, hMO⟩ := hv
  have hts := atoms_spec (ws := .code y cc nL none :: TB) B.pre
  have hown : s.vm.findClass own = some m.cls := by rw [← ho]; exact findClass_of_methodNamed B.named
  have hin : meth.name = "<init>" := by rw [← hn]; exact (name_of_methodNamed B.named B.method).1
  subst hsz
  have hD := hD0.self (sz := s.heap.size)
  have hl := lv_entry va (n := nL) hL
  rw [lg_entry_eq]
  generalize (lg_sl va ++ List.replicate (nL - (lg_sl va).length) Slot.unset).toArray = ls at hl ⊢
  rw [hlv] at hl
  exact k (p, l, e, s, m, va.toArray, below, meth, c, D, va_A ws0 s.heap.size) ⟨B.exec, B.bytes, hml, hown, fun w hw => hts w (List.mem_cons_of_mem _ hw), B.notSynchronized, B.returns, hin, fun q h => Or.inr h, hMO⟩ hNW s.heap [] ls hl hP hD hK va_S.rf
/-- a call of a constructor: its cells wc among ws, the others wr stay; what it makes comes behind -/
theorem x_callI {R : Room} {cc : ByteArray} {nL pc cells slots : Nat} {own : String} {Q : CtC → State → Prop} {Γ : CtC} {lv : List (Nat × Value)} {ws : va_W} {tys : List (ClassId × FieldType)} (hG : CX cc nL own Γ) {R2 : Room} {y : MethodName} {cc2 : ByteArray} {nL2 mc ms n index b : Nat} {As rest : List Value} {wc wr : va_W} {tc : List (ClassId × FieldType)} {Post2 : va_W → List (ClassId × FieldType) → Prop} {NW2 : List Cond} (hC : CtN NW2 R2 y cc2 nL2 mc ms (.ref b :: As) wc tc Post2) (hNW : ∀ w ∈ NW2, NWat w Γ) (hNf : ∀ w ∈ NW2, ∃ a i y h, w = Cond.methodLinkNest a i y h) (hw : Cond.code y cc2 nL2 none ∈ TB) (hini : Cond.initialized y.cls ∈ TB) (hlk : Cond.methodLink own index y ∈ TB) (hins : Cond.instanceMethod y ∈ TB) (hy1 : y.name = "<init>") (hd : y.cls ≠ "java/lang/invoke/MethodHandle" ∧ y.cls ≠ "java/lang/invoke/VarHandle" ∧ (parseMethodDescriptor y.desc).map (fun d => d.parameters.length) = some n) (hrc : R2.cells = mc) (hrs : R2.slots = ms) (hR : R2.frames + 1 ≤ R.frames ∧ 8 + (nL2 + 11) + R2.locals ≤ R.locals) (hn : As.length = n) (hrm : (rest.map fun v => v.category).sum ≤ 8) (hf : cells + mc ≤ R.cells ∧ slots + ms ≤ R.slots) (d : decode cc pc = .ok (.invokespecial index, 3))
    (isC isR isT : List Nat) (h1 : isC.filterMap (fun i => ws[i]?) = wc) (h2 : va_nd isC = true) (h3 : isC.map (fun i => ws[i]?) = wc.map some) (h4 : isR.map (fun i => ws[i]?) = wr.map some) (h5 : va_nd isR = true) (h6 : ∀ i ∈ isR, i ∉ isC) (h7 : isT.filterMap (fun i => tys[i]?) = tc)
    (k : ∀ w1 t1, Post2 w1 t1 → AC R nL Q Γ (pc + 3) lv rest (wr ++ w1) (tys ++ t1) (cells + mc) (slots + ms)) : AC R nL Q Γ pc lv (As.reverse ++ .ref b :: rest) ws tys cells slots := by
  obtain ⟨p, l, e, s, m, args, below, meth, c, D, A⟩ := Γ
  obtain ⟨hx, hb, hml, hown, hts, hlo, hr, hin, hA, hMO⟩ := hG
  intro H locs ls hl hP hD hK hS
  have hPc := hP.sub (ws' := wc) isC h1
  have hDc := hD.sub (ws' := wc) isC h2 h3
  have hKc := hK.sub (tys' := tc) isT h7
  have hFc := va_free (wc := wc) hD hS hA isC h3
  refine va_callv (va_runI (As := As) (rest := rest) ⟨hx, hb, hml, hown, hts⟩ (hC l D H.size) (cwI n hts (TB_ws hw) rfl hrc hrs (hts _ hini) (hts _ hlk) (hts _ hins) hy1 hd hR) ⟨fun a U g mk q => by obtain ⟨q0, q1, qP, qK, qD, qN, qM⟩ := q; exact ⟨q0, q1, qP, va_K.moved (u := U) (U := U.calling g mk a) (Vm.Alike.refl U.vm) qK, qD, fun w hw => va_Nw.same (u := U) (by obtain ⟨_, _, _, _, rfl⟩ := hNf w hw; rfl) rfl (qN w hw), qM⟩, fun U hU hW => ⟨rfl, by rw [hU], by rw [hU]; exact hPc, va_K.moved hW.alike hKc, hDc.weaken (fun _ _ _ _ => trivial), fun w hw => by
    have hz := hNW w hw
    obtain ⟨_, _, _, _, rfl⟩ := hNf w hw
    exact va_Nw.warmM hW hz, hMO.moved hW.alike⟩⟩ rfl hn hl.1 rfl (lv_room hrm) d hf) hS (fun q _ h => hFc q h) hFc (fun u t H1 locs1 ht hvm hw2 hB hz1 hk1 hS1 => ?_)
  obtain ⟨hP1, hK1, hD1⟩ := hB
  rw [ht] at hP1
  have hK1 := va_K.moved hvm.symm hK1
  obtain ⟨hP2, hD2⟩ := va_join (wr := wr) (w1 := u.1) hP hD isC isR h3 h4 h5 h6 hk1 hFc hP1 hD1
  exact k u.1 u.2 hw2 H1 locs1 ls hl hP2 hD2 (hK.app hK1) hS1
/-- the same for a private constructor of the nest: its cells wc among ws, the others wr stay; what it makes comes behind -/
theorem x_callN {R : Room} {cc : ByteArray} {nL pc cells slots : Nat} {own : String} {Q : CtC → State → Prop} {Γ : CtC} {lv : List (Nat × Value)} {ws : va_W} {tys : List (ClassId × FieldType)} (hG : CX cc nL own Γ) {R2 : Room} {y : MethodName} {cc2 : ByteArray} {nL2 mc ms n index b : Nat} {As rest : List Value} {wc wr : va_W} {tc : List (ClassId × FieldType)} {Post2 : va_W → List (ClassId × FieldType) → Prop} {NW2 : List Cond} (hC : CtN NW2 R2 y cc2 nL2 mc ms (.ref b :: As) wc tc Post2) (hNW : ∀ w ∈ NW2, NWat w Γ) (hNf : ∀ w ∈ NW2, ∃ a i y h, w = Cond.methodLinkNest a i y h) (hw : Cond.code y cc2 nL2 none ∈ TB) (hini : Cond.initialized y.cls ∈ TB) {host : String} (hlk : NWat (.methodLinkNest own index y host) Γ) (hins : Cond.instanceMethod y ∈ TB) (hy1 : y.name = "<init>") (hd : y.cls ≠ "java/lang/invoke/MethodHandle" ∧ y.cls ≠ "java/lang/invoke/VarHandle" ∧ (parseMethodDescriptor y.desc).map (fun d => d.parameters.length) = some n) (hrc : R2.cells = mc) (hrs : R2.slots = ms) (hR : R2.frames + 1 ≤ R.frames ∧ 8 + (nL2 + 11) + R2.locals ≤ R.locals) (hn : As.length = n) (hrm : (rest.map fun v => v.category).sum ≤ 8) (hf : cells + mc ≤ R.cells ∧ slots + ms ≤ R.slots) (d : decode cc pc = .ok (.invokespecial index, 3))
    (isC isR isT : List Nat) (h1 : isC.filterMap (fun i => ws[i]?) = wc) (h2 : va_nd isC = true) (h3 : isC.map (fun i => ws[i]?) = wc.map some) (h4 : isR.map (fun i => ws[i]?) = wr.map some) (h5 : va_nd isR = true) (h6 : ∀ i ∈ isR, i ∉ isC) (h7 : isT.filterMap (fun i => tys[i]?) = tc)
    (k : ∀ w1 t1, Post2 w1 t1 → AC R nL Q Γ (pc + 3) lv rest (wr ++ w1) (tys ++ t1) (cells + mc) (slots + ms)) : AC R nL Q Γ pc lv (As.reverse ++ .ref b :: rest) ws tys cells slots := by
  obtain ⟨p, l, e, s, m, args, below, meth, c, D, A⟩ := Γ
  obtain ⟨hx, hb, hml, hown, hts, hlo, hr, hin, hA, hMO⟩ := hG
  intro H locs ls hl hP hD hK hS
  have hPc := hP.sub (ws' := wc) isC h1
  have hDc := hD.sub (ws' := wc) isC h2 h3
  have hKc := hK.sub (tys' := tc) isT h7
  have hFc := va_free (wc := wc) hD hS hA isC h3
  refine va_callv (va_runIN (As := As) (rest := rest) ⟨hx, hb, hml, hown, hts⟩ (hC l D H.size) ⟨va_cnB n hts (TB_ws hw) rfl hrc hrs hlk (hts _ hini) hd hR, hy1, hts _ hins⟩ ⟨fun a U g mk q => by obtain ⟨q0, q1, qP, qK, qD, qN, qM⟩ := q; exact ⟨q0, q1, qP, va_K.moved (u := U) (U := U.calling g mk a) (Vm.Alike.refl U.vm) qK, qD, fun w hw => va_Nw.same (u := U) (by obtain ⟨_, _, _, _, rfl⟩ := hNf w hw; rfl) rfl (qN w hw), qM⟩, fun U hU hW => ⟨rfl, by rw [hU], by rw [hU]; exact hPc, va_K.moved hW.alike hKc, hDc.weaken (fun _ _ _ _ => trivial), fun w hw => by
    have hz := hNW w hw
    obtain ⟨_, _, _, _, rfl⟩ := hNf w hw
    exact va_Nw.warmM hW hz, hMO.moved hW.alike⟩⟩ rfl hn hl.1 rfl (lv_room hrm) d hf) hS (fun q _ h => hFc q h) hFc (fun u t H1 locs1 ht hvm hw2 hB hz1 hk1 hS1 => ?_)
  obtain ⟨hP1, hK1, hD1⟩ := hB
  rw [ht] at hP1
  have hK1 := va_K.moved hvm.symm hK1
  obtain ⟨hP2, hD2⟩ := va_join (wr := wr) (w1 := u.1) hP hD isC isR h3 h4 h5 h6 hk1 hFc hP1 hD1
  exact k u.1 u.2 hw2 H1 locs1 ls hl hP2 hD2 (hK.app hK1) hS1
