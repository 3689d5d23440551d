/-! ===== constructors' ends: the list of cells as the walk's layer has it ===== -/
def tyK : Nat → FieldType
  | 0 => .byte
  | 1 => .int
  | 2 => .long
  | 3 => .boolean
  | _ => .array .int
/-- the array classes, as the tables name them -/
def cyS (s : State) (k : Nat) : ClassId := (s.vm.findClass ("[" ++ (tyK k).toString)).getD 0
abbrev cyOf (Γ : CtC) : Nat → ClassId := cyS Γ.2.2.2.1
theorem cy_eq {s : State} {c : ClassId} (k : Nat) (h : va_RA s c (tyK k)) : c = cyS s k := by
  have h1 : s.vm.findClass ("[" ++ (tyK k).toString) = some c := by
    rcases k with _ | _ | _ | _ | k <;> exact h
  unfold cyS
  rw [h1]
  rfl
theorem cy_arr {args : Array Value} {s : State} {ty : FieldType} (har : (Cond.arrayClass ty).before args s = true) (hr : ∀ c, s.vm.findClass ("[" ++ ty.toString) = some c → va_RA s c ty) : ∃ c, ArrOfT s c ty ∧ va_RA s c ty := by
  obtain ⟨cB, kB, cC, hf, hB, hk⟩ := Cond.arrayClass_spec har
  exact ⟨cB, fun n z => ⟨fun k h => (by cases h), kB, hB, cC, hk⟩, hr cB hf⟩
theorem cy_K {args : Array Value} {s : State} (h0 : (Cond.arrayClass .byte).before args s = true) (h1 : (Cond.arrayClass .int).before args s = true) (h2 : (Cond.arrayClass .long).before args s = true) (h3 : (Cond.arrayClass .boolean).before args s = true) (h4 : MO s) : ∀ (k : Nat) (q : ClassId × FieldType), (tyL (cyS s))[k]? = some q → ArrOfT s q.1 q.2 ∧ va_RA s q.1 q.2 := by
  have one : ∀ k : Nat, (∃ c, ArrOfT s c (tyK k) ∧ va_RA s c (tyK k)) → ArrOfT s (cyS s k) (tyK k) ∧ va_RA s (cyS s k) (tyK k) := fun k ⟨c, a, b⟩ => by
    have e := cy_eq k b
    rw [← e]
    exact ⟨a, b⟩
  have k0 := one 0 (cy_arr h0 (fun _ z => z))
  have k1 := one 1 (cy_arr h1 (fun _ z => z))
  have k2 := one 2 (cy_arr h2 (fun _ z => z))
  have k3 := one 3 (cy_arr h3 (fun _ z => z))
  have k4 := one 4 (by
    obtain ⟨cB, cA, kA, f1, f2, hA, hk⟩ := h4
    refine ⟨cA, fun n z => ⟨fun k h => (by cases h), kA, hA, cB, hk⟩, ?_⟩
    have e : "[" ++ (FieldType.array .int).toString = "[[I" := by decide +kernel
    show s.vm.findClass ("[" ++ (FieldType.array .int).toString) = some cA
    rw [e]
    exact f2)
  intro k q hq
  rcases k with _ | _ | _ | _ | _ | k
  · cases hq; exact k0
  · cases hq; exact k1
  · cases hq; exact k2
  · cases hq; exact k3
  · cases hq; exact k4
  · exact absurd hq (by simp)
theorem wl_DA {SH : List ShT} {ad : Nat → Nat} {cy cy' : Nat → ClassId} {h h' : HS} {A : Nat → Prop} (hD : va_D A (wl SH ad cy h)) : va_D A (wl SH ad cy' h') := by
  refine ⟨fun i j x y hi hj e => ?_, fun k q hk => ?_⟩
  · obtain ⟨a1, a2⟩ := wl_inv hi
    obtain ⟨b1, b2⟩ := wl_inv hj
    exact hD.1 i j _ _ (wl_get (List.getElem?_eq_getElem a1)) (wl_get (List.getElem?_eq_getElem b1)) (by show ad i = ad j; rw [← a2, ← b2]; exact e)
  · obtain ⟨a1, a2⟩ := wl_inv hk
    have z := hD.2 k _ (wl_get (List.getElem?_eq_getElem a1))
    rw [a2]
    exact z
/-- addresses as a list has them -/
def adL (l : List Nat) : Nat → Nat := fun i => l.getD i 0
def wlL (ad : Nat → Nat) (cy : Nat → ClassId) (h : HS) : List ShT → Nat → va_W
  | [], _ => []
  | x :: xs, i => (ad i, ce ad cy h i x) :: wlL ad cy h xs (i + 1)
theorem wlL_get {ad : Nat → Nat} {cy : Nat → ClassId} {h : HS} : ∀ (SH : List ShT) (i k : Nat), (wlL ad cy h SH i)[k]? = (SH[k]?).map (fun x => (ad (i + k), ce ad cy h (i + k) x))
  | [], _, _ => rfl
  | x :: xs, i, 0 => rfl
  | x :: xs, i, k + 1 => by
    show (wlL ad cy h xs (i + 1))[k]? = (xs[k]?).map _
    rw [wlL_get xs (i + 1) k, show i + 1 + k = i + (k + 1) by omega]
theorem wl_wlL {SH : List ShT} {ad : Nat → Nat} {cy : Nat → ClassId} {h : HS} {ws : va_W} (e : wlL ad cy h SH 0 = ws) : wl SH ad cy h = ws := by
  rw [← e]
  apply List.ext_getElem?
  intro k
  rw [wlL_get, Nat.zero_add]
  unfold wl
  rw [List.getElem?_mapIdx]
theorem wlL_c {ad : Nat → Nat} {cy : Nat → ClassId} {h : HS} {x : ShT} {xs : List ShT} {i : Nat} (j : Nat) {q : Nat × va_E} {r : va_W} (hj : i + 1 = j) (h1 : (ad i, ce ad cy h i x) = q) (h2 : wlL ad cy h xs j = r) : wlL ad cy h (x :: xs) i = q :: r := by
  subst hj; subst h1; subst h2
  rfl
def fvL (ad : Nat → Nat) (h : HS) (i : Nat) : List Nat → Nat → List Value
  | [], _ => []
  | kd :: ks, k => fv ad h i k kd :: fvL ad h i ks (k + 1)
theorem fvL_get {ad : Nat → Nat} {h : HS} {i : Nat} : ∀ (ks : List Nat) (k j : Nat), (fvL ad h i ks k)[j]? = (ks[j]?).map (fun kd => fv ad h i (k + j) kd)
  | [], _, _ => rfl
  | x :: xs, k, 0 => rfl
  | x :: xs, k, j + 1 => by
    show (fvL ad h i xs (k + 1))[j]? = (xs[j]?).map _
    rw [fvL_get xs (k + 1) j, show k + 1 + j = k + (j + 1) by omega]
theorem fvL_c {ad : Nat → Nat} {h : HS} {i : Nat} {kd : Nat} {ks : List Nat} {k : Nat} (j : Nat) {v : Value} {r : List Value} (hj : k + 1 = j) (h1 : fv ad h i k kd = v) (h2 : fvL ad h i ks j = r) : fvL ad h i (kd :: ks) k = v :: r := by
  subst hj; subst h1; subst h2
  rfl
theorem wlL_o {ad : Nat → Nat} {cy : Nat → ClassId} {h : HS} {ci : Nat} {ks : List Nat} {xs : List ShT} {i a : Nat} (j : Nat) {vs : List Value} {r : va_W} (hj : i + 1 = j) (h0 : ad i = a) (h1 : fvL ad h i ks 0 = vs) (h2 : wlL ad cy h xs j = r) : wlL ad cy h (.inr (ci, ks) :: xs) i = (a, .inr (ci, vs)) :: r := by
  refine wlL_c j hj ?_ h2
  subst h0; subst h1
  show (ad i, (Sum.inr (ci, ks.mapIdx (fun k kd => fv ad h i k kd)) : va_E)) = _
  congr 3
  apply List.ext_getElem?
  intro k
  rw [fvL_get, List.getElem?_mapIdx, Nat.zero_add]
/-- what the statics are, where this walk began -/
def GSat (wad : Nat → Nat) (Γ : CtC) : Prop := GS wad Γ.2.2.2.2.2.2.2.2.2.2 Γ.2.2.2.1 Γ.2.2.2.1.heap
section TX
variable {R : Room} {cc : ByteArray} {nL : Nat} {own : String} {Q : CtC → State → Prop} {Γ : CtC} {pc : Nat} {lv lv' : List (Nat × Value)} {st : List Value} {ws : va_W} {tys : List (ClassId × FieldType)} {cells slots : Nat} {SH : List ShT} {ad wad : Nat → Nat} {h : HS}
theorem x_know (k : (∀ (i : Nat) (q : ClassId × FieldType), tys[i]? = some q → va_RA Γ.2.2.2.1 q.1 q.2) → AC R nL Q Γ pc lv st ws tys cells slots) : AC R nL Q Γ pc lv st ws tys cells slots := by
  obtain ⟨p, l, e, s, m, args, below, meth, c, D, A⟩ := Γ
  intro H locs ls hl hP hD hK hS
  exact k (fun i q hq => (hK.2 i q hq).2) H locs ls hl hP hD hK hS
theorem x_dropT (k : AC R nL Q Γ pc lv st ws [] cells slots) : AC R nL Q Γ pc lv st ws tys cells slots := by
  obtain ⟨p, l, e, s, m, args, below, meth, c, D, A⟩ := Γ
  intro H locs ls hl hP hD hK hS
  exact k H locs ls hl hP hD ⟨hK.1, fun i q h => by simp at h⟩ hS
theorem x_wl (hG : CX cc nL own Γ) (hw : wl SH ad (cyOf Γ) h = ws) (h0 : Cond.arrayClass .byte ∈ TB) (h1 : Cond.arrayClass .int ∈ TB) (h2 : Cond.arrayClass .long ∈ TB) (h3 : Cond.arrayClass .boolean ∈ TB) (k : Inj SH ad → AC R nL Q Γ pc lv st (wl SH ad (cyOf Γ) h) (tyL (cyOf Γ)) cells slots) : AC R nL Q Γ pc lv st ws tys cells slots := by
  subst hw
  obtain ⟨p, l, e, s, m, args, below, meth, c, D, A⟩ := Γ
  obtain ⟨hx, hb, hml, hown, hts, hlo, hr, hin, hA, hMO⟩ := hG
  intro H locs ls hl hP hD hK hS
  have hI : Inj SH ad := fun i j hi hj e => hD.1 i j _ _ (wl_get (List.getElem?_eq_getElem hi)) (wl_get (List.getElem?_eq_getElem hj)) e
  exact k hI H locs ls hl hP hD ⟨hK.1, cy_K (hts _ h0) (hts _ h1) (hts _ h2) (hts _ h3) hMO⟩ hS
theorem x_reff {n a : Nat} {cA : ClassId} {f g : Nat → Option Nat} (q0 : Nat) (he : ws[q0]? = some (a, .inl (cA, n, .inr (.inr (.inr (.inr f)))))) (hfg : ∀ j, j < n → f j = g j) (k : AC R nL Q Γ pc lv st (ws.set q0 (a, .inl (cA, n, .inr (.inr (.inr (.inr g)))))) tys cells slots) : AC R nL Q Γ pc lv st ws tys cells slots := by
  obtain ⟨p, l, e, s, m, args, below, meth, c, D, A⟩ := Γ
  intro H locs ls hl hP hD hK hS
  refine k H locs ls hl (fun i x hx => ?_) (hD.set he) hK hS
  rw [List.getElem?_set] at hx
  by_cases hi : q0 = i
  · subst hi
    rw [if_pos rfl, if_pos (List.getElem?_eq_some_iff.mp he).1] at hx
    cases hx
    have z := hP q0 _ he
    have z : H[a]? = some (arrV cA n (fun j => va_rf (f j))) := z
    show H[a]? = some (arrV cA n (fun j => va_rf (g j)))
    rw [z]
    congr 1
    unfold arrV
    congr 1
    apply Array.ext
    · simp
    · intro j h1 h2
      have h3 : j < n := by simpa using h1
      simp [hfg j h3]
  · rw [if_neg hi] at hx
    exact hP i x hx
theorem t_ldc2 (hG : CX cc nL own Γ) {ix : Nat} {v : Int64} (hlk : Cond.constantLong own ix v ∈ TB) (d : decode cc pc = .ok (.ldc2_w ix, 3)) (k : AC R nL Q Γ (pc + 3) lv (.long v :: st) ws tys cells slots) : AC R nL Q Γ pc lv st ws tys cells slots := by
  obtain ⟨p, l, e, s, m, args, below, meth, c, D, A⟩ := Γ
  obtain ⟨hx, hb, hml, hown, hts, hlo, hr, hin, hA, hMO⟩ := hG
  intro H locs ls hl hP hD hK hS
  exact lv_ldc2 hx hb hown (hts _ hlk) d (k H locs ls hl hP hD hK hS)
theorem t_istore_n (hG : CX cc nL own Γ) {i : Nat} {x : Int32} {k4 : Fin 4} (d : decode cc pc = .ok (.istore_n k4, 1)) (hi : (k4 : Nat) = i) (hn : i < nL) (hl2 : (i, Value.int x) :: lv.filter (fun q => !(q.1 == i) && !(q.1 + 1 == i && q.2.category == 2)) = lv') (k : AC R nL Q Γ (pc + 1) lv' st ws tys cells slots) : AC R nL Q Γ pc lv (.int x :: st) ws tys cells slots := by
  obtain ⟨p, l, e, s, m, args, below, meth, c, D, A⟩ := Γ
  obtain ⟨hx, hb, hml, hown, hts, hlo, hr, hin, hA, hMO⟩ := hG
  intro H locs ls hl hP hD hK hS
  exact lv_istore_n hx hb d hi hl hn hl2 (fun ls hl => k H locs ls hl hP hD hK hS)
theorem t_iload_n (hG : CX cc nL own Γ) {i : Nat} {x : Int32} (z : Nat) (hz : lv[z]? = some (i, .int x)) {k4 : Fin 4} (d : decode cc pc = .ok (.iload_n k4, 1)) (hi : (k4 : Nat) = i) (k : AC R nL Q Γ (pc + 1) lv (.int x :: st) ws tys cells slots) : AC R nL Q Γ pc lv st ws tys cells slots := by
  obtain ⟨p, l, e, s, m, args, below, meth, c, D, A⟩ := Γ
  obtain ⟨hx, hb, hml, hown, hts, hlo, hr, hin, hA, hMO⟩ := hG
  intro H locs ls hl hP hD hK hS
  exact lv_iload_n hx hb d hi (lv_at hl z hz) (k H locs ls hl hP hD hK hS)
theorem t_iinc (hG : CX cc nL own Γ) {i : Nat} {z : Int} {x v : Int32} (k0 : Nat) (hk : lv[k0]? = some (i, .int x)) (d : decode cc pc = .ok (.iinc i z, 3)) (hv : x + Int32.ofInt z = v) (hn : i < nL) (hl2 : (i, Value.int v) :: lv.filter (fun q => !(q.1 == i) && !(q.1 + 1 == i && q.2.category == 2)) = lv') (k : AC R nL Q Γ (pc + 3) lv' st ws tys cells slots) : AC R nL Q Γ pc lv st ws tys cells slots := by
  obtain ⟨p, l, e, s, m, args, below, meth, c, D, A⟩ := Γ
  obtain ⟨hx, hb, hml, hown, hts, hlo, hr, hin, hA, hMO⟩ := hG
  intro H locs ls hl hP hD hK hS
  exact lv_iinc hx hb d hl hk hv hn hl2 (fun ls hl => k H locs ls hl hP hD hK hS)
theorem t_goto (hG : CX cc nL own Γ) {off : Int} {tgt : Nat} (d : decode cc pc = .ok (.goto off, 3)) (ht : (pc : Int) + off = (tgt : Int)) (k : AC R nL Q Γ tgt lv st ws tys cells slots) : AC R nL Q Γ pc lv st ws tys cells slots := by
  obtain ⟨p, l, e, s, m, args, below, meth, c, D, A⟩ := Γ
  obtain ⟨hx, hb, hml, hown, hts, hlo, hr, hin, hA, hMO⟩ := hG
  intro H locs ls hl hP hD hK hS
  exact lv_goto hx hb d ht (k H locs ls hl hP hD hK hS)
theorem t_icge (hG : CX cc nL own Γ) {x y : Int32} {off : Int} {tgt : Nat} (d : decode cc pc = .ok (.if_icmp .ge off, 3)) (ht : (pc : Int) + off = (tgt : Int)) (kt : y ≤ x → AC R nL Q Γ tgt lv st ws tys cells slots) (kf : ¬ y ≤ x → AC R nL Q Γ (pc + 3) lv st ws tys cells slots) : AC R nL Q Γ pc lv (.int y :: .int x :: st) ws tys cells slots := by
  obtain ⟨p, l, e, s, m, args, below, meth, c, D, A⟩ := Γ
  obtain ⟨hx, hb, hml, hown, hts, hlo, hr, hin, hA, hMO⟩ := hG
  intro H locs ls hl hP hD hK hS
  exact lv_icmp_ge hx hb d ht (fun c0 => kt c0 H locs ls hl hP hD hK hS) (fun c0 => kf c0 H locs ls hl hP hD hK hS)
theorem t_getR (hG : CX cc nL own Γ) {i ci N ix : Nat} {ks : List Nat} {C : String} {T : u_T} (hs : SH[i]? = some (.inr (ci, ks))) (hc : vwCl[ci]? = some (C, T, N)) (hok : ClOk (C, T, N)) (k0 : Nat) (hk : k0 < N) {t : Nat} (hkd : ks[k0]? = some (t + 2)) (hlk : Cond.fieldLink own ix (T k0).1 (T k0).2.1 (T k0).2.2.1 ∈ TB) (d : decode cc pc = .ok (.getfield ix, 3)) (k : AC R nL Q Γ (pc + 3) lv (.ref (ad t) :: st) (wl SH ad (cyOf Γ) h) tys cells slots) : AC R nL Q Γ pc lv (.ref (ad i) :: st) (wl SH ad (cyOf Γ) h) tys cells slots :=
  x_get hG hok hc i (wl_get hs) k0 hk hlk (by rw [List.getElem?_mapIdx, hkd]; rfl) d k
theorem t_iald (hG : CX cc nL own Γ) {i N : Nat} (hs : SH[i]? = some (.inl (0, 1, N))) {x : Int32} (hin : vp_in x N) (d : decode cc pc = .ok (.iaload, 1)) (k : AC R nL Q Γ (pc + 1) lv (.int (h.1 i x.toNatClampNeg) :: st) (wl SH ad (cyOf Γ) h) (tyL (cyOf Γ)) cells slots) : AC R nL Q Γ pc lv (.int x :: .ref (ad i) :: st) (wl SH ad (cyOf Γ) h) (tyL (cyOf Γ)) cells slots := by
  obtain ⟨p, l, e, s, m, args, below, meth, c, D, A⟩ := Γ
  obtain ⟨hx, hb, hml, hown, hts, hlo, hr, hini, hA, hMO⟩ := hG
  intro H locs ls hl hP hD hK hS
  exact va_iald hx hb hK hP i 1 (wl_get hs) rfl hin d (k H locs ls hl hP hD hK hS)
theorem t_iast (hG : CX cc nL own Γ) {i N : Nat} (hs : SH[i]? = some (.inl (0, 1, N))) {x v : Int32} (hin : vp_in x N) (d : decode cc pc = .ok (.iastore, 1)) (k : AC R nL Q Γ (pc + 1) lv st (wl SH ad (cyOf Γ) (sI h i x.toNatClampNeg v)) (tyL (cyOf Γ)) cells slots) : AC R nL Q Γ pc lv (.int v :: .int x :: .ref (ad i) :: st) (wl SH ad (cyOf Γ) h) (tyL (cyOf Γ)) cells slots := by
  obtain ⟨p, l, e, s, m, args, below, meth, c, D, A⟩ := Γ
  obtain ⟨hx, hb, hml, hown, hts, hlo, hr, hini, hA, hMO⟩ := hG
  intro H locs ls hl hP hD hK hS
  refine va_iast hx hb hK hP hD hS i 1 (wl_get hs) rfl hin d (fun H1 locs1 hP1 hD1 hS1 => ?_)
  rw [wl_set (h := h) (h' := sI h i x.toNatClampNeg v) hs sI_o1 (fun _ _ => rfl) (by simp only [ce]; rw [← sI_self])] at hP1 hD1
  exact k H1 locs1 ls hl hP1 hD1 hK hS1
theorem t_last (hG : CX cc nL own Γ) {i N : Nat} (hs : SH[i]? = some (.inl (1, 2, N))) {x : Int32} {v : Int64} {j : Nat} (hj : x.toNatClampNeg = j) (hin : vp_in x N) (d : decode cc pc = .ok (.lastore, 1)) (k : AC R nL Q Γ (pc + 1) lv st (wl SH ad (cyOf Γ) (sL h i j v)) (tyL (cyOf Γ)) cells slots) : AC R nL Q Γ pc lv (.long v :: .int x :: .ref (ad i) :: st) (wl SH ad (cyOf Γ) h) (tyL (cyOf Γ)) cells slots := by
  subst hj
  obtain ⟨p, l, e, s, m, args, below, meth, c, D, A⟩ := Γ
  obtain ⟨hx, hb, hml, hown, hts, hlo, hr, hini, hA, hMO⟩ := hG
  intro H locs ls hl hP hD hK hS
  refine va_last hx hb hK hP hD hS i 2 (wl_get hs) rfl hin d (fun H1 locs1 hP1 hD1 hS1 => ?_)
  rw [wl_set (h := h) (h' := sL h i x.toNatClampNeg v) hs (fun _ _ => rfl) sL_o2 (by simp only [ce]; rw [← sL_self])] at hP1 hD1
  exact k H1 locs1 ls hl hP1 hD1 hK hS1
/-- a method of an object of the world, that answers nothing -/
theorem t_call (hG : CX cc nL own Γ) (hZ : GSat wad Γ) (hI : Inj SH ad) {y : MethodName} {cc2 : ByteArray} {nL2 n2 ix i ci N : Nat} {ks : List Nat} {C : String} {T : u_T} {h2 : HS} (hs : SH[i]? = some (.inr (ci, ks))) (hc : vwCl[ci]? = some (C, T, N)) (hm : MkV y cc2 nL2 none C 0) (hlk : Cond.methodLink own ix y ∈ TB) (hn : n2 + 1 ≤ R.frames) (hlo : 40 * (n2 + 1) ≤ R.locals) (hf : cells ≤ R.cells ∧ slots ≤ R.slots) (hC : Ctr SH ad wad y cc2 nL2 none n2 [.ref (ad i)] h (none, h2)) (d : decode cc pc = .ok (.invokevirtual ix, 3)) (k : AC R nL Q Γ (pc + 3) lv [] (wl SH ad (cyOf Γ) h2) (tyL (cyOf Γ)) cells slots) : AC R nL Q Γ pc lv [.ref (ad i)] (wl SH ad (cyOf Γ) h) (tyL (cyOf Γ)) cells slots := by
  obtain ⟨p, l, e, s, m, args, below, meth, c, D, A⟩ := Γ
  obtain ⟨hx, hb, hml, hown, hts, hlocks, hr, hini, hA, hMO⟩ := hG
  intro H locs ls hl hP hD hK hS
  obtain ⟨m1, m2, m3, m4, m5, m6, m7⟩ := hm
  subst m1
  have hZ : GS wad A s s.heap := hZ
  have hsub : ∀ q, Aw SH ad H.size q → A q := fun q hq => hq.elim (fun ⟨j, hj, e⟩ => by
    have z := hD.2 j _ (wl_get (List.getElem?_eq_getElem hj))
    rw [e]
    exact z) (fun z => hA q (Nat.le_trans hS.1 z))
  have hrun := va_runV (l := l) (R := R) (e := e) (below := below) (meth := meth) (locs := locs) (cells := cells) (slots := slots) (H := H) (g := F0 m pc ls [.ref (ad i)]) (As := []) (rest := []) (b := ad i) (C := y.cls) ⟨hx, hb, hml, hown, hts⟩ (hC hI l (cyS s) D H.size) ⟨callB_of 0 hts (TB_ws m2) rfl rfl rfl (hts _ m5) (hts _ hlk) m6 ⟨hn, by show 8 + (nL2 + 11) + 40 * n2 ≤ R.locals; omega⟩, hts _ m3, hts _ m4⟩
    ⟨Pr_blind, va_recv hK hP (ci := ci) (q0 := i) hc (wl_get hs), fun U hU hW => ⟨rfl, by rw [hU], by rw [hU]; exact hP, va_K.moved hW.alike hK, by rw [hU]; exact ((hZ.kept hS.2.1).narrow hsub).moved hW.alike⟩⟩ rfl rfl hl.1 rfl (by show 2 * 0 + 0 ≤ 8; omega) d ⟨hf.1, hf.2⟩
  intro T0 hT X
  obtain ⟨v, st₀, t, T', L, h0, X', hL, e1, e2, ⟨ho, hP2, hF1, hF2⟩, hgo⟩ := hrun T0 hT X
  cases ho
  rw [h0] at hF1 hF2
  obtain ⟨t2, a1, b1⟩ := k T'.heap (locs ++ L) ls hl (by rw [e1]; exact hP2) (wl_DA hD) hK
    ⟨Nat.le_trans hS.1 (by rw [e1]; exact hF1), fun q h1 h2 => by rw [e1, hF2 q (Nat.lt_of_lt_of_le h1 hS.1) (fun z => h2 (hsub q z))]; exact hS.2.1 q h1 h2, fun q hq => by
      rcases List.mem_append.mp hq with h | h
      · exact hS.2.2 q h
      · exact hsub _ (hL q h)⟩ T' rfl X'
  exact ⟨t2, hgo t2 a1, b1⟩
end TX
/-- the contract of the two constructors that the law calls: the statics stand -/
def CtG (wad : Nat → Nat) (NW : List Cond) (R : Room) (y : MethodName) (cc : ByteArray) (nL mc ms : Nat) (va : List Value) (ws0 : va_W) (tys0 : List (ClassId × FieldType)) (Post : va_W → List (ClassId × FieldType) → Prop) : Prop :=
  ∀ (l : Launch) (D : va_G) (sz : Nat), Met l y (.code y cc nL none :: TB) R (va_Pc va (fun U => U.heap.size = sz ∧ va_P D vwCl ws0 U.heap ∧ va_K D vwCl tys0 U ∧ va_D (fun _ => True) ws0 ∧ (∀ w ∈ NW, va_Nw w U) ∧ GS wad (va_A ws0 sz) U U.heap ∧ MO U)) (va_Qv (fun u : va_W × List (ClassId × FieldType) => Post u.1 u.2) (fun u t => va_P D vwCl u.1 t.heap ∧ va_K D vwCl u.2 t ∧ va_D (va_A ws0 sz) u.1) (va_A ws0 sz)) mc ms (va_A ws0 sz)
theorem x_enterG {wad : Nat → Nat} {NW : List Cond} {R : Room} {y : MethodName} {cc : ByteArray} {nL mc ms : Nat} {va : List Value} {ws0 : va_W} {tys0 : List (ClassId × FieldType)} {Post : va_W → List (ClassId × FieldType) → Prop} {own : String} {lv : List (Nat × Value)} (hy : plainName y.cls = true) (ho : y.cls = own) (hn : y.name = "<init>") (hL : (lg_sl va).length ≤ nL) (hlv : lv_args 0 va = lv)
    (k : ∀ Γ : CtC, CX cc nL own Γ → (∀ w ∈ NW, NWat w Γ) → GSat wad Γ → AC R nL (QC Post mc ms) Γ 0 lv [] ws0 tys0 0 0) : CtG wad NW R y cc nL mc ms va ws0 tys0 Post := by
  intro l D sz
  refine Met.ofW (cc := cc) (maxL := nL) (ret := none) hy rfl ?_
  intro p e s m args below meth c s₁ B hml hv
  obtain ⟨rfl, hsz, hP, hK, hD0, hNW, hZ, hMO⟩ := hv
  have hts := atoms_spec (ws := .code y cc nL none :: TB) B.pre
  have hown : s.vm.findClass own = some m.cls := by rw [← ho]; exact findClass_of_methodNamed B.named
  have hin : meth.name = "<init>" := by rw [← hn]; exact (name_of_methodNamed B.named B.method).1
  subst hsz
  have hD := hD0.self (sz := s.heap.size)
  have hl := lv_entry va (n := nL) hL
  rw [lg_entry_eq]
  generalize (lg_sl va ++ List.replicate (nL - (lg_sl va).length) Slot.unset).toArray = ls at hl ⊢
  rw [hlv] at hl
  exact k (p, l, e, s, m, va.toArray, below, meth, c, D, va_A ws0 s.heap.size) ⟨B.exec, B.bytes, hml, hown, fun w hw => hts w (List.mem_cons_of_mem _ hw), B.notSynchronized, B.returns, hin, fun q h => Or.inr h, hMO⟩ hNW hZ s.heap [] ls hl hP hD hK va_S.rf
/-- what a constructor of the two sides leaves: the list of cells, at h -/
def PostW (SH : List ShT) (h : HS) (h0 : Nat) (w : va_W) (u : List (ClassId × FieldType)) : Prop := ∃ (ad : Nat → Nat) (cy : Nat → ClassId), ad 0 = h0 ∧ Inj SH ad ∧ (∀ k, 4 ≤ k → cy k = cy 4) ∧ w = wl SH ad cy h ∧ u = tyL cy
theorem PostW_of {SH : List ShT} {h : HS} {h0 : Nat} {s : State} {ad : Nat → Nat} (e : ad 0 = h0) (hI : Inj SH ad) : PostW SH h h0 (wl SH ad (cyS s) h) (tyL (cyS s)) := ⟨ad, cyS s, e, hI, fun k hk => by
  obtain ⟨j, rfl⟩ : ∃ j, k = j + 4 := ⟨k - 4, by omega⟩
  rfl, rfl, rfl⟩
theorem PostW_cy {D : va_G} {s : State} {cy : Nat → ClassId} (hK : va_K D vwCl (tyL cy) s) (h4 : ∀ k, 4 ≤ k → cy k = cy 4) : cy = cyS s := by
  have z : ∀ k, k < 5 → cy k = cyS s k := fun k hk => by
    rcases (show k = 0 ∨ k = 1 ∨ k = 2 ∨ k = 3 ∨ k = 4 by omega) with e | e | e | e | e <;> subst e
    · exact cy_eq 0 (hK.2 0 _ rfl).2
    · exact cy_eq 1 (hK.2 1 _ rfl).2
    · exact cy_eq 2 (hK.2 2 _ rfl).2
    · exact cy_eq 3 (hK.2 3 _ rfl).2
    · exact cy_eq 4 (hK.2 4 _ rfl).2
  funext k
  by_cases hk : k < 5
  · exact z k hk
  · rw [h4 k (by omega), z 4 (by omega)]
    obtain ⟨j, rfl⟩ : ∃ j, k = j + 4 := ⟨k - 4, by omega⟩
    rfl
