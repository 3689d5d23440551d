/-! ===== the abstract layer: one side's cells as two functions; the walk speaks of pc, locals, stack and these ===== -/
/-- a cell's shape: an array (kind 0: ints, 1: longs, b + 2: references to the cells b, b + 1 ..; type; length), or an object (class, its fields' kinds: 0 int, 1 long, t + 2: a reference to the cell t) -/
abbrev ShT : Type := (Nat × Nat × Nat) ⊕ (Nat × List Nat)
abbrev HS : Type := (Nat → Nat → Int32) × (Nat → Nat → Int64)
def fv (ad : Nat → Nat) (h : HS) (i k : Nat) : Nat → Value
  | 0 => .int (h.1 i k)
  | 1 => .long (h.2 i k)
  | t + 2 => .ref (ad t)
def ce (ad : Nat → Nat) (cy : Nat → ClassId) (h : HS) (i : Nat) : ShT → va_E
  | .inl (0, ty, n) => .inl (cy ty, n, .inl (h.1 i))
  | .inl (1, ty, n) => .inl (cy ty, n, .inr (.inl (h.2 i)))
  | .inl (b + 2, ty, n) => .inl (cy ty, n, .inr (.inr (.inr (.inr (fun k => some (ad (b + k)))))))
  | .inr (ci, ks) => .inr (ci, ks.mapIdx (fun k kd => fv ad h i k kd))
def wl (SH : List ShT) (ad : Nat → Nat) (cy : Nat → ClassId) (h : HS) : va_W := SH.mapIdx (fun i x => (ad i, ce ad cy h i x))
def sI (h : HS) (i k : Nat) (v : Int32) : HS := (fun a b => if a = i ∧ b = k then v else h.1 a b, h.2)
def sL (h : HS) (i k : Nat) (v : Int64) : HS := (h.1, fun a b => if a = i ∧ b = k then v else h.2 a b)
/-- n ints of the cell i from sp on come into the cell j from dp on -/
def cI (h : HS) (i j sp dp n : Nat) : HS := (fun a => if a = j then va_cpy (h.1 i) (h.1 j) sp dp n else h.1 a, h.2)
def cL (h : HS) (i j sp dp n : Nat) : HS := (h.1, fun a => if a = j then va_cpy (h.2 i) (h.2 j) sp dp n else h.2 a)
def inb (x : Int32) (n : Nat) : Bool := !(decide (x < 0)) && decide (x.toNatClampNeg < n)
def bl {α β : Type} (a : α) (f : α → β) : β := f a
def bnd {α β : Type} (F : Option (α × HS)) (K : α → HS → Option β) : Option β := match F with
  | some z => K z.1 z.2
  | none => none
def rZ (x : Int32) (h : HS) : Option (Int32 × HS) := if x = 0 ∨ x = 1 then some (x, h) else none
theorem inb_in {x : Int32} {n : Nat} (h : inb x n = true) : vp_in x n := by
  unfold inb at h
  simp only [Bool.and_eq_true, Bool.not_eq_true', decide_eq_false_iff_not, decide_eq_true_eq] at h
  intro q
  rcases q with q | q
  · exact h.1 q
  · omega
theorem bnd_some {α β : Type} {F : Option (α × HS)} {K : α → HS → Option β} {q : β} (h : bnd F K = some q) : ∃ z : α × HS, F = some z ∧ K z.1 z.2 = some q := by
  cases F with
  | none => cases h
  | some z => exact ⟨z, rfl, h⟩
theorem ite_some {c : Prop} [Decidable c] {α : Type} {A : Option α} {q : α} (h : (if c then A else none) = some q) : c ∧ A = some q := by
  by_cases hc : c
  · rw [if_pos hc] at h
    exact ⟨hc, h⟩
  · rw [if_neg hc] at h
    cases h
theorem rZ_some {x : Int32} {h : HS} {q : Int32 × HS} (e : rZ x h = some q) : (x = 0 ∨ x = 1) ∧ q = (x, h) := by
  unfold rZ at e
  obtain ⟨a, b⟩ := ite_some e
  exact ⟨a, (Option.some.inj b).symm⟩
theorem wl_len (SH : List ShT) (ad : Nat → Nat) (cy : Nat → ClassId) (h : HS) : (wl SH ad cy h).length = SH.length := by simp [wl]
theorem wl_get {SH : List ShT} {ad : Nat → Nat} {cy : Nat → ClassId} {h : HS} {i : Nat} {x : ShT} (hs : SH[i]? = some x) : (wl SH ad cy h)[i]? = some (ad i, ce ad cy h i x) := by
  unfold wl
  rw [List.getElem?_mapIdx, hs]
  rfl
theorem wl_inv {SH : List ShT} {ad : Nat → Nat} {cy : Nat → ClassId} {h : HS} {i : Nat} {q : Nat × va_E} (hs : (wl SH ad cy h)[i]? = some q) : i < SH.length ∧ q.1 = ad i := by
  unfold wl at hs
  rw [List.getElem?_mapIdx] at hs
  cases hx : SH[i]? with
  | none => rw [hx] at hs; cases hs
  | some x =>
    rw [hx] at hs
    refine ⟨(List.getElem?_eq_some_iff.mp hx).1, ?_⟩
    cases hs
    rfl
theorem ce_congr {ad : Nat → Nat} {cy : Nat → ClassId} {h h' : HS} {i : Nat} (e1 : h'.1 i = h.1 i) (e2 : h'.2 i = h.2 i) (x : ShT) : ce ad cy h' i x = ce ad cy h i x := by
  rcases x with ⟨kd, ty, n⟩ | ⟨ci, ks⟩
  · rcases kd with _ | _ | kd
    · simp only [ce, e1]
    · simp only [ce, e2]
    · rfl
  · simp only [ce]
    congr 3
    funext k kd
    rcases kd with _ | _ | kd
    · simp only [fv, e1]
    · simp only [fv, e2]
    · rfl
theorem wl_set {SH : List ShT} {ad : Nat → Nat} {cy : Nat → ClassId} {h h' : HS} {i : Nat} {x : ShT} {e : va_E} (hs : SH[i]? = some x) (o1 : ∀ j, j ≠ i → h'.1 j = h.1 j) (o2 : ∀ j, j ≠ i → h'.2 j = h.2 j) (he : e = ce ad cy h' i x) : (wl SH ad cy h).set i (ad i, e) = wl SH ad cy h' := by
  apply List.ext_getElem?
  intro j
  rw [List.getElem?_set]
  by_cases hj : i = j
  · subst hj
    have hl : i < (wl SH ad cy h).length := by rw [wl_len]; exact (List.getElem?_eq_some_iff.mp hs).1
    rw [if_pos rfl, if_pos hl, wl_get hs, he]
  · rw [if_neg hj]
    cases hx : SH[j]? with
    | none =>
      unfold wl
      rw [List.getElem?_mapIdx, List.getElem?_mapIdx, hx]
      rfl
    | some y => rw [wl_get hx, wl_get hx, ce_congr (o1 j (fun z => hj z.symm)) (o2 j (fun z => hj z.symm))]
theorem ks_setI {ad : Nat → Nat} {h : HS} {i k : Nat} {ks : List Nat} {v : Int32} (hk : ks[k]? = some 0) : (ks.mapIdx (fun j kd => fv ad h i j kd)).set k (.int v) = ks.mapIdx (fun j kd => fv ad (sI h i k v) i j kd) := by
  apply List.ext_getElem?
  intro j
  rw [List.getElem?_set, List.getElem?_mapIdx, List.getElem?_mapIdx]
  by_cases hj : k = j
  · subst hj
    have hl : k < (ks.mapIdx (fun j kd => fv ad h i j kd)).length := by rw [List.length_mapIdx]; exact (List.getElem?_eq_some_iff.mp hk).1
    rw [if_pos rfl, if_pos hl, hk]
    simp [fv, sI]
  · rw [if_neg hj]
    cases hx : ks[j]? with
    | none => rfl
    | some kd =>
      rcases kd with _ | _ | kd
      · simp only [Option.map_some, fv, sI]
        rw [if_neg (fun z => hj z.2.symm)]
      · rfl
      · rfl
theorem ks_setL {ad : Nat → Nat} {h : HS} {i k : Nat} {ks : List Nat} {v : Int64} (hk : ks[k]? = some 1) : (ks.mapIdx (fun j kd => fv ad h i j kd)).set k (.long v) = ks.mapIdx (fun j kd => fv ad (sL h i k v) i j kd) := by
  apply List.ext_getElem?
  intro j
  rw [List.getElem?_set, List.getElem?_mapIdx, List.getElem?_mapIdx]
  by_cases hj : k = j
  · subst hj
    have hl : k < (ks.mapIdx (fun j kd => fv ad h i j kd)).length := by rw [List.length_mapIdx]; exact (List.getElem?_eq_some_iff.mp hk).1
    rw [if_pos rfl, if_pos hl, hk]
    simp [fv, sL]
  · rw [if_neg hj]
    cases hx : ks[j]? with
    | none => rfl
    | some kd =>
      rcases kd with _ | _ | kd
      · rfl
      · simp only [Option.map_some, fv, sL]
        rw [if_neg (fun z => hj z.2.symm)]
      · rfl
theorem sI_o1 {h : HS} {i k : Nat} {v : Int32} : ∀ j, j ≠ i → (sI h i k v).1 j = h.1 j := fun j hj => by
  funext b
  simp only [sI]
  rw [if_neg (fun z => hj z.1)]
theorem sL_o2 {h : HS} {i k : Nat} {v : Int64} : ∀ j, j ≠ i → (sL h i k v).2 j = h.2 j := fun j hj => by
  funext b
  simp only [sL]
  rw [if_neg (fun z => hj z.1)]
theorem sI_self {h : HS} {i k : Nat} {v : Int32} : upd (h.1 i) k v = (sI h i k v).1 i := by
  funext b
  simp [upd, sI]
theorem sL_self {h : HS} {i k : Nat} {v : Int64} : vp_updL (h.2 i) k v = (sL h i k v).2 i := by
  funext b
  simp [vp_updL, sL]
def Aw (SH : List ShT) (ad : Nat → Nat) (sz : Nat) : Nat → Prop := fun q => (∃ i, i < SH.length ∧ q = ad i) ∨ sz ≤ q
def Inj (SH : List ShT) (ad : Nat → Nat) : Prop := ∀ i j, i < SH.length → j < SH.length → ad i = ad j → i = j
theorem wl_D {SH : List ShT} {ad : Nat → Nat} (hI : Inj SH ad) (cy : Nat → ClassId) (h : HS) (sz : Nat) : va_D (Aw SH ad sz) (wl SH ad cy h) := by
  refine ⟨fun i j x y hi hj e => ?_, fun k q hk => ?_⟩
  · obtain ⟨a1, a2⟩ := wl_inv hi
    obtain ⟨b1, b2⟩ := wl_inv hj
    exact hI i j a1 b1 (by rw [← a2, ← b2]; exact e)
  · obtain ⟨a1, a2⟩ := wl_inv hk
    exact Or.inl ⟨k, a1, a2⟩
theorem Aw_mono {SH : List ShT} {ad : Nat → Nat} {a b : Nat} (h : a ≤ b) : ∀ q, Aw SH ad b q → Aw SH ad a q := fun q hq => hq.elim Or.inl (fun z => Or.inr (Nat.le_trans h z))
abbrev tyL (cy : Nat → ClassId) : List (ClassId × FieldType) := [(cy 0, .byte), (cy 1, .int), (cy 2, .long), (cy 3, .boolean), (cy 4, .array .int)]
/-- the words' names, in the order of the enum; their letters -/
def WN : List String := ["LINE", "COIN", "CAUSE", "RUMOUR", "DEED", "CLERK", "TAKES", "DOES", "DROPS", "WEEK", "OR", "AND", "NOT", "OPEN", "TAKEN", "DROPPED", "WON", "DEAD", "HAD", "NEAR", "PURSE", "BELIEF", "NUMBER"]
def WL : List Int64 := [402885, 113966, 3200613, 626441906, 136356, 3544651, 21015731, 146611, 4800019, 758955, 498, 1476, 14836, 508078, 21015726, 4915216548, 24046, 136228, 8228, 463922, 17484389, 72754342, 492210354]
def WD : String := "LLostCauses$Word;"
def WA : String := "[LLostCauses$Word;"
/-- the enum's constants and its array, as they are from the start -/
def GS (wad : Nat → Nat) (A : Nat → Prop) (U : State) (H : Heap) : Prop :=
  (∀ i, i < 23 → va_Z RX10 (WN.getD i "") WD (.ref (wad i)) A U H ∧ va_O RX10 (wad i) A U H ∧ va_OF RX10 "letters" "J" (.long (WL.getD i 0)) (wad i) A U H) ∧ va_Z RX10 "ALL" WA (.ref (wad 23)) A U H ∧ va_T (.object RX10) (wad 23) 23 (fun j => .ref (wad j)) A U H
theorem GS.moved {wad : Nat → Nat} {A : Nat → Prop} {u U : State} {H : Heap} (hvm : u.vm.Alike U.vm) (h : GS wad A u H) : GS wad A U H := by
  obtain ⟨h1, h2, h3⟩ := h
  exact ⟨fun i hi => ⟨(h1 i hi).1.moved hvm, (h1 i hi).2.1.moved hvm, (h1 i hi).2.2.moved hvm⟩, h2.moved hvm, h3.moved hvm⟩
theorem GS.kept {wad : Nat → Nat} {A : Nat → Prop} {U : State} {H H1 : Heap} (h : GS wad A U H) (hq : ∀ a : Nat, a < H.size → ¬ A a → H1[a]? = H[a]?) : GS wad A U H1 := by
  obtain ⟨h1, h2, h3⟩ := h
  exact ⟨fun i hi => ⟨(h1 i hi).1.kept hq, (h1 i hi).2.1.kept hq, (h1 i hi).2.2.kept hq⟩, h2.kept hq, h3.kept hq⟩
theorem GS.narrow {wad : Nat → Nat} {A B : Nat → Prop} {U : State} {H : Heap} (h : GS wad A U H) (hAB : ∀ q, B q → A q) : GS wad B U H := by
  obtain ⟨h1, h2, h3⟩ := h
  exact ⟨fun i hi => ⟨(h1 i hi).1.narrow hAB, (h1 i hi).2.1.narrow hAB, (h1 i hi).2.2.narrow hAB⟩, h2.narrow hAB, h3.narrow hAB⟩
def RM (n : Nat) : Room := { frames := n, cells := 0, slots := 0, locals := 40 * n }
abbrev Ctx : Type := Program × Launch × Env × Room × State × MethodId × Array Value × List Frame × Method × Code × (Nat → ClassId) × va_G
def Qr (SH : List ShT) (ad : Nat → Nat) (cy : Nat → ClassId) (D : va_G) (res : Option Value × HS) : Array Value → State → Outcome → State → Prop := fun _ st o t => o = .returned res.1 ∧ va_P D vwCl (wl SH ad cy res.2) t.heap ∧ va_F (Aw SH ad st.heap.size) st t
def Pr (SH : List ShT) (ad wad : Nat → Nat) (cy : Nat → ClassId) (D : va_G) (sz : Nat) (h : HS) (U : State) : Prop := U.heap.size = sz ∧ va_P D vwCl (wl SH ad cy h) U.heap ∧ va_K D vwCl (tyL cy) U ∧ GS wad (Aw SH ad sz) U U.heap
/-- a method's contract: from the cells h with these arguments it returns res.1, the cells are res.2 then -/
def Ctr (SH : List ShT) (ad wad : Nat → Nat) (y : MethodName) (cc : ByteArray) (nL : Nat) (rt : Option FieldType) (n : Nat) (va : List Value) (h : HS) (res : Option Value × HS) : Prop :=
  Inj SH ad → ∀ (l : Launch) (cy : Nat → ClassId) (D : va_G) (sz : Nat), Met l y (.code y cc nL rt :: TB) (RM n) (va_Pc va (Pr SH ad wad cy D sz h)) (Qr SH ad cy D res) 0 0 (Aw SH ad sz)
def AW (SH : List ShT) (ad : Nat → Nat) (nL : Nat) (res : Option Value × HS) (Γ : Ctx) (pc : Nat) (lv : List (Nat × Value)) (st : List Value) (h : HS) : Prop := match Γ with
  | (p, l, e, R, s, m, args, below, meth, c, cy, D) => ∀ (H : Heap) (locs : List Loc) (ls : Array Slot), lv_has ls nL lv → va_P D vwCl (wl SH ad cy h) H → va_S (Aw SH ad s.heap.size) s.heap H locs → W p l e R s m args below meth c H locs 0 0 (MQ below (Qr SH ad cy D res) args s 0 0 (Aw SH ad s.heap.size)) (F0 m pc ls st)
def Cx (SH : List ShT) (ad wad : Nat → Nat) (cc : ByteArray) (nL : Nat) (own : String) (rt : Option FieldType) (n : Nat) (Γ : Ctx) : Prop := match Γ with
  | (p, l, e, R, s, m, args, below, meth, c, cy, D) => p.tables.exec = Jvm.exec ∧ c.code = cc ∧ c.maxLocals = nL ∧ s.vm.findClass own = some m.cls ∧ (∀ w ∈ TB, w.before args s = true) ∧ meth.locks = false ∧ meth.sig.returnType = rt ∧ va_K D vwCl (tyL cy) s ∧ GS wad (Aw SH ad s.heap.size) s s.heap ∧ R = RM n ∧ Inj SH ad
theorem enter {SH : List ShT} {ad wad : Nat → Nat} {y : MethodName} {cc : ByteArray} {nL : Nat} {rt : Option FieldType} {n : Nat} {va : List Value} {h : HS} {res : Option Value × HS} {own : String} {lv : List (Nat × Value)} (hy : plainName y.cls = true) (ho : y.cls = own) (hL : (lg_sl va).length ≤ nL) (hlv : lv_args 0 va = lv)
    (k : ∀ Γ : Ctx, Cx SH ad wad cc nL own rt n Γ → AW SH ad nL res Γ 0 lv [] h) : Ctr SH ad wad y cc nL rt n va h res := by
  intro hI l cy D sz
  refine Met.ofW (cc := cc) (maxL := nL) (ret := rt) hy rfl ?_
  intro p e s m args below meth c s₁ B hml hv
  obtain ⟨rfl, hsz, hP, hK, hZ⟩ := hv
  have hts := atoms_spec (ws := .code y cc nL rt :: TB) B.pre
  have hown : s.vm.findClass own = some m.cls := by rw [← ho]; exact findClass_of_methodNamed B.named
  subst hsz
  have hl := lv_entry va (n := nL) hL
  rw [lg_entry_eq]
  generalize (lg_sl va ++ List.replicate (nL - (lg_sl va).length) Slot.unset).toArray = ls at hl ⊢
  rw [hlv] at hl
  exact k (p, l, e, RM n, s, m, va.toArray, below, meth, c, cy, D) ⟨B.exec, B.bytes, hml, hown, fun w hw => hts w (List.mem_cons_of_mem _ hw), B.notSynchronized, B.returns, hK, hZ, rfl, hI⟩ s.heap [] ls hl hP va_S.rf
/-- what the tables say of a class of the list, all that the field rows want -/
def ClOk (q : vw_C) : Prop := (∀ w ∈ u_ws q.1 q.2.1 q.2.2, w ∈ TB) ∧ (∃ ty0 : Nat → FieldType, ∀ k, k < q.2.2 → parseFieldDescriptor (q.2.1 k).2.2.1 = some (ty0 k)) ∧ (∀ a, a < q.2.2 → ∀ b, b < q.2.2 → a ≠ b → (q.2.1 a).2.1 ≠ (q.2.1 b).2.1)
section AR
variable {SH : List ShT} {ad wad : Nat → Nat} {cc : ByteArray} {nL : Nat} {own : String} {rt : Option FieldType} {n : Nat} {Γ : Ctx} {res : Option Value × HS} {pc : Nat} {lv lv' : List (Nat × Value)} {st : List Value} {h : HS}
theorem AW.sub (ks : List Nat) (hl : lv_pick lv ks = lv') (k : AW SH ad nL res Γ pc lv' st h) : AW SH ad nL res Γ pc lv st h := by
  obtain ⟨p, l, e, R, s, m, args, below, meth, c, cy, D⟩ := Γ
  intro H locs ls h1 hP hS
  exact k H locs ls (lv_sub h1 ks hl) hP hS
theorem a_iconst (hG : Cx SH ad wad cc nL own rt n Γ) {z : Int} {v : Int32} (d : decode cc pc = .ok (.iconst z, 1)) (hv : Int32.ofInt z = v) (k : AW SH ad nL res Γ (pc + 1) lv (.int v :: st) h) : AW SH ad nL res Γ (pc) lv (st) h := by
  obtain ⟨p, l, e, R, s, m, args, below, meth, c, cy, D⟩ := Γ
  obtain ⟨hx, hb, hml, hown, hts, hlo, hr, hK, hZ, hR, hI⟩ := hG
  intro H locs ls hl hP hS
  exact lv_iconst hx hb d hv (k H locs ls hl hP hS)
theorem a_bipush (hG : Cx SH ad wad cc nL own rt n Γ) {z : Int} {v : Int32} (d : decode cc pc = .ok (.bipush z, 2)) (hv : (Int8.ofInt z).toInt32 = v) (k : AW SH ad nL res Γ (pc + 2) lv (.int v :: st) h) : AW SH ad nL res Γ (pc) lv (st) h := by
  obtain ⟨p, l, e, R, s, m, args, below, meth, c, cy, D⟩ := Γ
  obtain ⟨hx, hb, hml, hown, hts, hlo, hr, hK, hZ, hR, hI⟩ := hG
  intro H locs ls hl hP hS
  exact lv_bipush hx hb d hv (k H locs ls hl hP hS)
theorem a_sipush (hG : Cx SH ad wad cc nL own rt n Γ) {z : Int} {v : Int32} (d : decode cc pc = .ok (.sipush z, 3)) (hv : (Int16.ofInt z).toInt32 = v) (k : AW SH ad nL res Γ (pc + 3) lv (.int v :: st) h) : AW SH ad nL res Γ (pc) lv (st) h := by
  obtain ⟨p, l, e, R, s, m, args, below, meth, c, cy, D⟩ := Γ
  obtain ⟨hx, hb, hml, hown, hts, hlo, hr, hK, hZ, hR, hI⟩ := hG
  intro H locs ls hl hP hS
  exact lv_sipush hx hb d hv (k H locs ls hl hP hS)
theorem a_lconst (hG : Cx SH ad wad cc nL own rt n Γ) {z : Fin 2} {v : Int64} (d : decode cc pc = .ok (.lconst z, 1)) (hv : Int64.ofNat (z : Nat) = v) (k : AW SH ad nL res Γ (pc + 1) lv (.long v :: st) h) : AW SH ad nL res Γ (pc) lv (st) h := by
  obtain ⟨p, l, e, R, s, m, args, below, meth, c, cy, D⟩ := Γ
  obtain ⟨hx, hb, hml, hown, hts, hlo, hr, hK, hZ, hR, hI⟩ := hG
  intro H locs ls hl hP hS
  exact lv_lconst hx hb d hv (k H locs ls hl hP hS)
theorem a_iadd (hG : Cx SH ad wad cc nL own rt n Γ) {x y : Int32} (d : decode cc pc = .ok (.iadd, 1)) (k : AW SH ad nL res Γ (pc + 1) lv (.int (x + y) :: st) h) : AW SH ad nL res Γ (pc) lv (.int y :: .int x :: st) h := by
  obtain ⟨p, l, e, R, s, m, args, below, meth, c, cy, D⟩ := Γ
  obtain ⟨hx, hb, hml, hown, hts, hlo, hr, hK, hZ, hR, hI⟩ := hG
  intro H locs ls hl hP hS
  exact lv_iadd hx hb d (k H locs ls hl hP hS)
theorem a_isub (hG : Cx SH ad wad cc nL own rt n Γ) {x y : Int32} (d : decode cc pc = .ok (.isub, 1)) (k : AW SH ad nL res Γ (pc + 1) lv (.int (x - y) :: st) h) : AW SH ad nL res Γ (pc) lv (.int y :: .int x :: st) h := by
  obtain ⟨p, l, e, R, s, m, args, below, meth, c, cy, D⟩ := Γ
  obtain ⟨hx, hb, hml, hown, hts, hlo, hr, hK, hZ, hR, hI⟩ := hG
  intro H locs ls hl hP hS
  exact lv_isub hx hb d (k H locs ls hl hP hS)
theorem a_imul (hG : Cx SH ad wad cc nL own rt n Γ) {x y : Int32} (d : decode cc pc = .ok (.imul, 1)) (k : AW SH ad nL res Γ (pc + 1) lv (.int (x * y) :: st) h) : AW SH ad nL res Γ (pc) lv (.int y :: .int x :: st) h := by
  obtain ⟨p, l, e, R, s, m, args, below, meth, c, cy, D⟩ := Γ
  obtain ⟨hx, hb, hml, hown, hts, hlo, hr, hK, hZ, hR, hI⟩ := hG
  intro H locs ls hl hP hS
  exact lv_imul hx hb d (k H locs ls hl hP hS)
theorem a_iand (hG : Cx SH ad wad cc nL own rt n Γ) {x y : Int32} (d : decode cc pc = .ok (.iand, 1)) (k : AW SH ad nL res Γ (pc + 1) lv (.int (x &&& y) :: st) h) : AW SH ad nL res Γ (pc) lv (.int y :: .int x :: st) h := by
  obtain ⟨p, l, e, R, s, m, args, below, meth, c, cy, D⟩ := Γ
  obtain ⟨hx, hb, hml, hown, hts, hlo, hr, hK, hZ, hR, hI⟩ := hG
  intro H locs ls hl hP hS
  exact lv_iand hx hb d (k H locs ls hl hP hS)
theorem a_ior (hG : Cx SH ad wad cc nL own rt n Γ) {x y : Int32} (d : decode cc pc = .ok (.ior, 1)) (k : AW SH ad nL res Γ (pc + 1) lv (.int (x ||| y) :: st) h) : AW SH ad nL res Γ (pc) lv (.int y :: .int x :: st) h := by
  obtain ⟨p, l, e, R, s, m, args, below, meth, c, cy, D⟩ := Γ
  obtain ⟨hx, hb, hml, hown, hts, hlo, hr, hK, hZ, hR, hI⟩ := hG
  intro H locs ls hl hP hS
  exact lv_ior hx hb d (k H locs ls hl hP hS)
theorem a_ixor (hG : Cx SH ad wad cc nL own rt n Γ) {x y : Int32} (d : decode cc pc = .ok (.ixor, 1)) (k : AW SH ad nL res Γ (pc + 1) lv (.int (x ^^^ y) :: st) h) : AW SH ad nL res Γ (pc) lv (.int y :: .int x :: st) h := by
  obtain ⟨p, l, e, R, s, m, args, below, meth, c, cy, D⟩ := Γ
  obtain ⟨hx, hb, hml, hown, hts, hlo, hr, hK, hZ, hR, hI⟩ := hG
  intro H locs ls hl hP hS
  exact lv_ixor hx hb d (k H locs ls hl hP hS)
theorem a_ishl (hG : Cx SH ad wad cc nL own rt n Γ) {x y : Int32} (d : decode cc pc = .ok (.ishl, 1)) (k : AW SH ad nL res Γ (pc + 1) lv (.int (x <<< (y &&& 31)) :: st) h) : AW SH ad nL res Γ (pc) lv (.int y :: .int x :: st) h := by
  obtain ⟨p, l, e, R, s, m, args, below, meth, c, cy, D⟩ := Γ
  obtain ⟨hx, hb, hml, hown, hts, hlo, hr, hK, hZ, hR, hI⟩ := hG
  intro H locs ls hl hP hS
  exact lv_ishl hx hb d (k H locs ls hl hP hS)
theorem a_ishr (hG : Cx SH ad wad cc nL own rt n Γ) {x y : Int32} (d : decode cc pc = .ok (.ishr, 1)) (k : AW SH ad nL res Γ (pc + 1) lv (.int (x >>> (y &&& 31)) :: st) h) : AW SH ad nL res Γ (pc) lv (.int y :: .int x :: st) h := by
  obtain ⟨p, l, e, R, s, m, args, below, meth, c, cy, D⟩ := Γ
  obtain ⟨hx, hb, hml, hown, hts, hlo, hr, hK, hZ, hR, hI⟩ := hG
  intro H locs ls hl hP hS
  exact lv_ishr hx hb d (k H locs ls hl hP hS)
theorem a_ladd (hG : Cx SH ad wad cc nL own rt n Γ) {x y : Int64} (d : decode cc pc = .ok (.ladd, 1)) (k : AW SH ad nL res Γ (pc + 1) lv (.long (x + y) :: st) h) : AW SH ad nL res Γ (pc) lv (.long y :: .long x :: st) h := by
  obtain ⟨p, l, e, R, s, m, args, below, meth, c, cy, D⟩ := Γ
  obtain ⟨hx, hb, hml, hown, hts, hlo, hr, hK, hZ, hR, hI⟩ := hG
  intro H locs ls hl hP hS
  exact lv_ladd hx hb d (k H locs ls hl hP hS)
theorem a_lmul (hG : Cx SH ad wad cc nL own rt n Γ) {x y : Int64} (d : decode cc pc = .ok (.lmul, 1)) (k : AW SH ad nL res Γ (pc + 1) lv (.long (x * y) :: st) h) : AW SH ad nL res Γ (pc) lv (.long y :: .long x :: st) h := by
  obtain ⟨p, l, e, R, s, m, args, below, meth, c, cy, D⟩ := Γ
  obtain ⟨hx, hb, hml, hown, hts, hlo, hr, hK, hZ, hR, hI⟩ := hG
  intro H locs ls hl hP hS
  exact lv_lmul hx hb d (k H locs ls hl hP hS)
theorem a_lor (hG : Cx SH ad wad cc nL own rt n Γ) {x y : Int64} (d : decode cc pc = .ok (.lor, 1)) (k : AW SH ad nL res Γ (pc + 1) lv (.long (x ||| y) :: st) h) : AW SH ad nL res Γ (pc) lv (.long y :: .long x :: st) h := by
  obtain ⟨p, l, e, R, s, m, args, below, meth, c, cy, D⟩ := Γ
  obtain ⟨hx, hb, hml, hown, hts, hlo, hr, hK, hZ, hR, hI⟩ := hG
  intro H locs ls hl hP hS
  exact lv_lor hx hb d (k H locs ls hl hP hS)
theorem a_ineg (hG : Cx SH ad wad cc nL own rt n Γ) {x : Int32} (d : decode cc pc = .ok (.ineg, 1)) (k : AW SH ad nL res Γ (pc + 1) lv (.int (-x) :: st) h) : AW SH ad nL res Γ (pc) lv (.int x :: st) h := by
  obtain ⟨p, l, e, R, s, m, args, below, meth, c, cy, D⟩ := Γ
  obtain ⟨hx, hb, hml, hown, hts, hlo, hr, hK, hZ, hR, hI⟩ := hG
  intro H locs ls hl hP hS
  exact lv_ineg hx hb d (k H locs ls hl hP hS)
theorem a_lcmp (hG : Cx SH ad wad cc nL own rt n Γ) {x y : Int64} (d : decode cc pc = .ok (.lcmp, 1)) (k : AW SH ad nL res Γ (pc + 1) lv (.int (lg_cmp x y) :: st) h) : AW SH ad nL res Γ (pc) lv (.long y :: .long x :: st) h := by
  obtain ⟨p, l, e, R, s, m, args, below, meth, c, cy, D⟩ := Γ
  obtain ⟨hx, hb, hml, hown, hts, hlo, hr, hK, hZ, hR, hI⟩ := hG
  intro H locs ls hl hP hS
  exact W.lcmp hx hb d (k H locs ls hl hP hS)
theorem a_i2l (hG : Cx SH ad wad cc nL own rt n Γ) {x : Int32} (d : decode cc pc = .ok (.i2l, 1)) (k : AW SH ad nL res Γ (pc + 1) lv (.long x.toInt64 :: st) h) : AW SH ad nL res Γ (pc) lv (.int x :: st) h := by
  obtain ⟨p, l, e, R, s, m, args, below, meth, c, cy, D⟩ := Γ
  obtain ⟨hx, hb, hml, hown, hts, hlo, hr, hK, hZ, hR, hI⟩ := hG
  intro H locs ls hl hP hS
  exact lv_i2l hx hb d rfl (k H locs ls hl hP hS)
theorem a_i2b (hG : Cx SH ad wad cc nL own rt n Γ) {x : Int32} (d : decode cc pc = .ok (.i2b, 1)) (k : AW SH ad nL res Γ (pc + 1) lv (.int x.toInt8.toInt32 :: st) h) : AW SH ad nL res Γ (pc) lv (.int x :: st) h := by
  obtain ⟨p, l, e, R, s, m, args, below, meth, c, cy, D⟩ := Γ
  obtain ⟨hx, hb, hml, hown, hts, hlo, hr, hK, hZ, hR, hI⟩ := hG
  intro H locs ls hl hP hS
  exact lv_i2b hx hb d rfl (k H locs ls hl hP hS)
theorem a_iushr (hG : Cx SH ad wad cc nL own rt n Γ) {x y : Int32} (d : decode cc pc = .ok (.iushr, 1)) (k : AW SH ad nL res Γ (pc + 1) lv (.int (x.toUInt32 >>> (y.toUInt32 &&& Int32.toUInt32 31)).toInt32 :: st) h) : AW SH ad nL res Γ (pc) lv (.int y :: .int x :: st) h := by
  obtain ⟨p, l, e, R, s, m, args, below, meth, c, cy, D⟩ := Γ
  obtain ⟨hx, hb, hml, hown, hts, hlo, hr, hK, hZ, hR, hI⟩ := hG
  intro H locs ls hl hP hS
  exact lv_iushr hx hb d rfl (k H locs ls hl hP hS)
theorem a_lshl (hG : Cx SH ad wad cc nL own rt n Γ) {x : Int64} {y : Int32} (d : decode cc pc = .ok (.lshl, 1)) (k : AW SH ad nL res Γ (pc + 1) lv (.long (x <<< (y.toInt64 &&& 63)) :: st) h) : AW SH ad nL res Γ (pc) lv (.int y :: .long x :: st) h := by
  obtain ⟨p, l, e, R, s, m, args, below, meth, c, cy, D⟩ := Γ
  obtain ⟨hx, hb, hml, hown, hts, hlo, hr, hK, hZ, hR, hI⟩ := hG
  intro H locs ls hl hP hS
  exact lv_lshl hx hb d rfl (k H locs ls hl hP hS)
theorem a_idiv (hG : Cx SH ad wad cc nL own rt n Γ) {α : Type} {A : Option α} {q : α} {x y : Int32} (hd : (if ¬ y = 0 then A else none) = some q) (d : decode cc pc = .ok (.idiv, 1)) (k : A = some q → AW SH ad nL res Γ (pc + 1) lv (.int (x / y) :: st) h) : AW SH ad nL res Γ (pc) lv (.int y :: .int x :: st) h := by
  obtain ⟨p, l, e, R, s, m, args, below, meth, c, cy, D⟩ := Γ
  obtain ⟨hx, hb, hml, hown, hts, hlo, hr, hK, hZ, hR, hI⟩ := hG
  intro H locs ls hl hP hS
  obtain ⟨h1, h2⟩ := ite_some hd
  exact lv_idiv hx hb d h1 (k h2 H locs ls hl hP hS)
theorem a_irem (hG : Cx SH ad wad cc nL own rt n Γ) {α : Type} {A : Option α} {q : α} {x y : Int32} (hd : (if ¬ y = 0 then A else none) = some q) (d : decode cc pc = .ok (.irem, 1)) (k : A = some q → AW SH ad nL res Γ (pc + 1) lv (.int (x - x / y * y) :: st) h) : AW SH ad nL res Γ (pc) lv (.int y :: .int x :: st) h := by
  obtain ⟨p, l, e, R, s, m, args, below, meth, c, cy, D⟩ := Γ
  obtain ⟨hx, hb, hml, hown, hts, hlo, hr, hK, hZ, hR, hI⟩ := hG
  intro H locs ls hl hP hS
  obtain ⟨h1, h2⟩ := ite_some hd
  exact lv_irem hx hb d h1 (k h2 H locs ls hl hP hS)
theorem a_iload_n (hG : Cx SH ad wad cc nL own rt n Γ) {i : Nat} {x : Int32} (z : Nat) (hz : lv[z]? = some (i, .int x)) {k4 : Fin 4} (d : decode cc pc = .ok (.iload_n k4, 1)) (hi : (k4 : Nat) = i) (k : AW SH ad nL res Γ (pc + 1) lv (.int x :: st) h) : AW SH ad nL res Γ (pc) lv (st) h := by
  obtain ⟨p, l, e, R, s, m, args, below, meth, c, cy, D⟩ := Γ
  obtain ⟨hx, hb, hml, hown, hts, hlo, hr, hK, hZ, hR, hI⟩ := hG
  intro H locs ls hl hP hS
  exact lv_iload_n hx hb d hi (lv_at hl z hz) (k H locs ls hl hP hS)
theorem a_iload (hG : Cx SH ad wad cc nL own rt n Γ) {i : Nat} {x : Int32} (z : Nat) (hz : lv[z]? = some (i, .int x)) (d : decode cc pc = .ok (.iload i, 2)) (k : AW SH ad nL res Γ (pc + 2) lv (.int x :: st) h) : AW SH ad nL res Γ (pc) lv (st) h := by
  obtain ⟨p, l, e, R, s, m, args, below, meth, c, cy, D⟩ := Γ
  obtain ⟨hx, hb, hml, hown, hts, hlo, hr, hK, hZ, hR, hI⟩ := hG
  intro H locs ls hl hP hS
  exact lv_iload hx hb d (lv_at hl z hz) (k H locs ls hl hP hS)
theorem a_lload_n (hG : Cx SH ad wad cc nL own rt n Γ) {i : Nat} {x : Int64} (z : Nat) (hz : lv[z]? = some (i, .long x)) {k4 : Fin 4} (d : decode cc pc = .ok (.lload_n k4, 1)) (hi : (k4 : Nat) = i) (k : AW SH ad nL res Γ (pc + 1) lv (.long x :: st) h) : AW SH ad nL res Γ (pc) lv (st) h := by
  obtain ⟨p, l, e, R, s, m, args, below, meth, c, cy, D⟩ := Γ
  obtain ⟨hx, hb, hml, hown, hts, hlo, hr, hK, hZ, hR, hI⟩ := hG
  intro H locs ls hl hP hS
  exact lv_lload_n hx hb d hi (lv_at hl z hz) (k H locs ls hl hP hS)
theorem a_aload_n (hG : Cx SH ad wad cc nL own rt n Γ) {i : Nat} {x : Nat} (z : Nat) (hz : lv[z]? = some (i, .ref x)) {k4 : Fin 4} (d : decode cc pc = .ok (.aload_n k4, 1)) (hi : (k4 : Nat) = i) (k : AW SH ad nL res Γ (pc + 1) lv (.ref x :: st) h) : AW SH ad nL res Γ (pc) lv (st) h := by
  obtain ⟨p, l, e, R, s, m, args, below, meth, c, cy, D⟩ := Γ
  obtain ⟨hx, hb, hml, hown, hts, hlo, hr, hK, hZ, hR, hI⟩ := hG
  intro H locs ls hl hP hS
  exact lv_aload_n hx hb d hi (lv_at hl z hz) (k H locs ls hl hP hS)
theorem a_aload (hG : Cx SH ad wad cc nL own rt n Γ) {i : Nat} {x : Nat} (z : Nat) (hz : lv[z]? = some (i, .ref x)) (d : decode cc pc = .ok (.aload i, 2)) (k : AW SH ad nL res Γ (pc + 2) lv (.ref x :: st) h) : AW SH ad nL res Γ (pc) lv (st) h := by
  obtain ⟨p, l, e, R, s, m, args, below, meth, c, cy, D⟩ := Γ
  obtain ⟨hx, hb, hml, hown, hts, hlo, hr, hK, hZ, hR, hI⟩ := hG
  intro H locs ls hl hP hS
  exact lv_aload hx hb d (lv_at hl z hz) (k H locs ls hl hP hS)
theorem a_istore_n (hG : Cx SH ad wad cc nL own rt n Γ) {i : Nat} {x : Int32} {k4 : Fin 4} (d : decode cc pc = .ok (.istore_n k4, 1)) (hi : (k4 : Nat) = i) (hn : i < nL) (hl2 : (i, Value.int x) :: lv.filter (fun q => !(q.1 == i) && !(q.1 + 1 == i && q.2.category == 2)) = lv') (k : AW SH ad nL res Γ (pc + 1) lv' (st) h) : AW SH ad nL res Γ (pc) lv (.int x :: st) h := by
  obtain ⟨p, l, e, R, s, m, args, below, meth, c, cy, D⟩ := Γ
  obtain ⟨hx, hb, hml, hown, hts, hlo, hr, hK, hZ, hR, hI⟩ := hG
  intro H locs ls hl hP hS
  exact lv_istore_n hx hb d hi hl hn hl2 (fun ls hl => k H locs ls hl hP hS)
theorem a_istore (hG : Cx SH ad wad cc nL own rt n Γ) {i : Nat} {x : Int32} (d : decode cc pc = .ok (.istore i, 2)) (hn : i < nL) (hl2 : (i, Value.int x) :: lv.filter (fun q => !(q.1 == i) && !(q.1 + 1 == i && q.2.category == 2)) = lv') (k : AW SH ad nL res Γ (pc + 2) lv' (st) h) : AW SH ad nL res Γ (pc) lv (.int x :: st) h := by
  obtain ⟨p, l, e, R, s, m, args, below, meth, c, cy, D⟩ := Γ
  obtain ⟨hx, hb, hml, hown, hts, hlo, hr, hK, hZ, hR, hI⟩ := hG
  intro H locs ls hl hP hS
  exact lv_istore hx hb d hl hn hl2 (fun ls hl => k H locs ls hl hP hS)
theorem a_lstore_n (hG : Cx SH ad wad cc nL own rt n Γ) {i : Nat} {x : Int64} {k4 : Fin 4} (d : decode cc pc = .ok (.lstore_n k4, 1)) (hi : (k4 : Nat) = i) (hn : i + 1 < nL) (hl2 : (i, Value.long x) :: lv.filter (fun q => !(q.1 == i) && (!(q.1 == i + 1) && !(q.1 + 1 == i && q.2.category == 2))) = lv') (k : AW SH ad nL res Γ (pc + 1) lv' (st) h) : AW SH ad nL res Γ (pc) lv (.long x :: st) h := by
  obtain ⟨p, l, e, R, s, m, args, below, meth, c, cy, D⟩ := Γ
  obtain ⟨hx, hb, hml, hown, hts, hlo, hr, hK, hZ, hR, hI⟩ := hG
  intro H locs ls hl hP hS
  exact lv_lstore_n hx hb d hi hl hn hl2 (fun ls hl => k H locs ls hl hP hS)
theorem a_astore_n (hG : Cx SH ad wad cc nL own rt n Γ) {i : Nat} {x : Nat} {k4 : Fin 4} (d : decode cc pc = .ok (.astore_n k4, 1)) (hi : (k4 : Nat) = i) (hn : i < nL) (hl2 : (i, Value.ref x) :: lv.filter (fun q => !(q.1 == i) && !(q.1 + 1 == i && q.2.category == 2)) = lv') (k : AW SH ad nL res Γ (pc + 1) lv' (st) h) : AW SH ad nL res Γ (pc) lv (.ref x :: st) h := by
  obtain ⟨p, l, e, R, s, m, args, below, meth, c, cy, D⟩ := Γ
  obtain ⟨hx, hb, hml, hown, hts, hlo, hr, hK, hZ, hR, hI⟩ := hG
  intro H locs ls hl hP hS
  exact lv_astore_n hx hb d hi hl hn hl2 (fun ls hl => k H locs ls hl hP hS)
theorem a_astore (hG : Cx SH ad wad cc nL own rt n Γ) {i : Nat} {x : Nat} (d : decode cc pc = .ok (.astore i, 2)) (hn : i < nL) (hl2 : (i, Value.ref x) :: lv.filter (fun q => !(q.1 == i) && !(q.1 + 1 == i && q.2.category == 2)) = lv') (k : AW SH ad nL res Γ (pc + 2) lv' (st) h) : AW SH ad nL res Γ (pc) lv (.ref x :: st) h := by
  obtain ⟨p, l, e, R, s, m, args, below, meth, c, cy, D⟩ := Γ
  obtain ⟨hx, hb, hml, hown, hts, hlo, hr, hK, hZ, hR, hI⟩ := hG
  intro H locs ls hl hP hS
  exact lv_astore hx hb d hl hn hl2 (fun ls hl => k H locs ls hl hP hS)
theorem a_iinc (hG : Cx SH ad wad cc nL own rt n Γ) {i : Nat} {z : Int} {x v : Int32} (k0 : Nat) (hk : lv[k0]? = some (i, .int x)) (d : decode cc pc = .ok (.iinc i z, 3)) (hv : x + Int32.ofInt z = v) (hn : i < nL) (hl2 : (i, Value.int v) :: lv.filter (fun q => !(q.1 == i) && !(q.1 + 1 == i && q.2.category == 2)) = lv') (k : AW SH ad nL res Γ (pc + 3) lv' (st) h) : AW SH ad nL res Γ (pc) lv (st) h := by
  obtain ⟨p, l, e, R, s, m, args, below, meth, c, cy, D⟩ := Γ
  obtain ⟨hx, hb, hml, hown, hts, hlo, hr, hK, hZ, hR, hI⟩ := hG
  intro H locs ls hl hP hS
  exact lv_iinc hx hb d hl hk hv hn hl2 (fun ls hl => k H locs ls hl hP hS)
theorem a_dup (hG : Cx SH ad wad cc nL own rt n Γ) {va : Value} (d : decode cc pc = .ok (.dup, 1)) (hc : va.category = 1) (k : AW SH ad nL res Γ (pc + 1) lv (va :: va :: st) h) : AW SH ad nL res Γ (pc) lv (va :: st) h := by
  obtain ⟨p, l, e, R, s, m, args, below, meth, c, cy, D⟩ := Γ
  obtain ⟨hx, hb, hml, hown, hts, hlo, hr, hK, hZ, hR, hI⟩ := hG
  intro H locs ls hl hP hS
  exact lv_dup hx hb d hc (k H locs ls hl hP hS)
theorem a_pop (hG : Cx SH ad wad cc nL own rt n Γ) {va : Value} (d : decode cc pc = .ok (.pop, 1)) (hc : va.category = 1) (k : AW SH ad nL res Γ (pc + 1) lv (st) h) : AW SH ad nL res Γ (pc) lv (va :: st) h := by
  obtain ⟨p, l, e, R, s, m, args, below, meth, c, cy, D⟩ := Γ
  obtain ⟨hx, hb, hml, hown, hts, hlo, hr, hK, hZ, hR, hI⟩ := hG
  intro H locs ls hl hP hS
  exact lv_pop hx hb d hc (k H locs ls hl hP hS)
theorem a_dup2 (hG : Cx SH ad wad cc nL own rt n Γ) {va vb : Value} (d : decode cc pc = .ok (.dup2, 1)) (hc : va.category = 1) (hc2 : vb.category = 1) (k : AW SH ad nL res Γ (pc + 1) lv (va :: vb :: va :: vb :: st) h) : AW SH ad nL res Γ (pc) lv (va :: vb :: st) h := by
  obtain ⟨p, l, e, R, s, m, args, below, meth, c, cy, D⟩ := Γ
  obtain ⟨hx, hb, hml, hown, hts, hlo, hr, hK, hZ, hR, hI⟩ := hG
  intro H locs ls hl hP hS
  exact lv_dup2_11 hx hb d hc hc2 (k H locs ls hl hP hS)
theorem a_goto (hG : Cx SH ad wad cc nL own rt n Γ) {off : Int} {tgt : Nat} (d : decode cc pc = .ok (.goto off, 3)) (ht : (pc : Int) + off = (tgt : Int)) (k : AW SH ad nL res Γ (tgt) lv (st) h) : AW SH ad nL res Γ (pc) lv (st) h := by
  obtain ⟨p, l, e, R, s, m, args, below, meth, c, cy, D⟩ := Γ
  obtain ⟨hx, hb, hml, hown, hts, hlo, hr, hK, hZ, hR, hI⟩ := hG
  intro H locs ls hl hP hS
  exact lv_goto hx hb d ht (k H locs ls hl hP hS)
theorem a_if_eq (hG : Cx SH ad wad cc nL own rt n Γ) {α : Type} {A B : Option α} {q : α} {x : Int32} {off : Int} {tgt : Nat} (hd : (if x = 0 then A else B) = some q) (d : decode cc pc = .ok (.ifCond .eq off, 3)) (ht : (pc : Int) + off = (tgt : Int)) (kt : A = some q → AW SH ad nL res Γ (tgt) lv (st) h) (kf : B = some q → AW SH ad nL res Γ (pc + 3) lv (st) h) : AW SH ad nL res Γ (pc) lv (.int x :: st) h := by
  obtain ⟨p, l, e, R, s, m, args, below, meth, c, cy, D⟩ := Γ
  obtain ⟨hx, hb, hml, hown, hts, hlo, hr, hK, hZ, hR, hI⟩ := hG
  intro H locs ls hl hP hS
  exact lv_if_eq hx hb d ht (fun c0 => kt ((if_pos c0).symm.trans hd) H locs ls hl hP hS) (fun c0 => kf ((if_neg c0).symm.trans hd) H locs ls hl hP hS)
theorem a_ic_eq (hG : Cx SH ad wad cc nL own rt n Γ) {α : Type} {A B : Option α} {q : α} {x y : Int32} {off : Int} {tgt : Nat} (hd : (if x = y then A else B) = some q) (d : decode cc pc = .ok (.if_icmp .eq off, 3)) (ht : (pc : Int) + off = (tgt : Int)) (kt : A = some q → AW SH ad nL res Γ (tgt) lv (st) h) (kf : B = some q → AW SH ad nL res Γ (pc + 3) lv (st) h) : AW SH ad nL res Γ (pc) lv (.int y :: .int x :: st) h := by
  obtain ⟨p, l, e, R, s, m, args, below, meth, c, cy, D⟩ := Γ
  obtain ⟨hx, hb, hml, hown, hts, hlo, hr, hK, hZ, hR, hI⟩ := hG
  intro H locs ls hl hP hS
  exact lv_icmp_eq hx hb d ht (fun c0 => kt ((if_pos c0).symm.trans hd) H locs ls hl hP hS) (fun c0 => kf ((if_neg c0).symm.trans hd) H locs ls hl hP hS)
theorem a_if_ne (hG : Cx SH ad wad cc nL own rt n Γ) {α : Type} {A B : Option α} {q : α} {x : Int32} {off : Int} {tgt : Nat} (hd : (if x = 0 then B else A) = some q) (d : decode cc pc = .ok (.ifCond .ne off, 3)) (ht : (pc : Int) + off = (tgt : Int)) (kt : A = some q → AW SH ad nL res Γ (tgt) lv (st) h) (kf : B = some q → AW SH ad nL res Γ (pc + 3) lv (st) h) : AW SH ad nL res Γ (pc) lv (.int x :: st) h := by
  obtain ⟨p, l, e, R, s, m, args, below, meth, c, cy, D⟩ := Γ
  obtain ⟨hx, hb, hml, hown, hts, hlo, hr, hK, hZ, hR, hI⟩ := hG
  intro H locs ls hl hP hS
  exact lv_if_ne hx hb d ht (fun c0 => kt ((if_neg c0).symm.trans hd) H locs ls hl hP hS) (fun c0 => kf ((if_pos c0).symm.trans hd) H locs ls hl hP hS)
theorem a_ic_ne (hG : Cx SH ad wad cc nL own rt n Γ) {α : Type} {A B : Option α} {q : α} {x y : Int32} {off : Int} {tgt : Nat} (hd : (if x = y then B else A) = some q) (d : decode cc pc = .ok (.if_icmp .ne off, 3)) (ht : (pc : Int) + off = (tgt : Int)) (kt : A = some q → AW SH ad nL res Γ (tgt) lv (st) h) (kf : B = some q → AW SH ad nL res Γ (pc + 3) lv (st) h) : AW SH ad nL res Γ (pc) lv (.int y :: .int x :: st) h := by
  obtain ⟨p, l, e, R, s, m, args, below, meth, c, cy, D⟩ := Γ
  obtain ⟨hx, hb, hml, hown, hts, hlo, hr, hK, hZ, hR, hI⟩ := hG
  intro H locs ls hl hP hS
  exact lv_icmp_ne hx hb d ht (fun c0 => kt ((if_neg c0).symm.trans hd) H locs ls hl hP hS) (fun c0 => kf ((if_pos c0).symm.trans hd) H locs ls hl hP hS)
theorem a_if_lt (hG : Cx SH ad wad cc nL own rt n Γ) {α : Type} {A B : Option α} {q : α} {x : Int32} {off : Int} {tgt : Nat} (hd : (if x < 0 then A else B) = some q) (d : decode cc pc = .ok (.ifCond .lt off, 3)) (ht : (pc : Int) + off = (tgt : Int)) (kt : A = some q → AW SH ad nL res Γ (tgt) lv (st) h) (kf : B = some q → AW SH ad nL res Γ (pc + 3) lv (st) h) : AW SH ad nL res Γ (pc) lv (.int x :: st) h := by
  obtain ⟨p, l, e, R, s, m, args, below, meth, c, cy, D⟩ := Γ
  obtain ⟨hx, hb, hml, hown, hts, hlo, hr, hK, hZ, hR, hI⟩ := hG
  intro H locs ls hl hP hS
  exact lv_if_lt hx hb d ht (fun c0 => kt ((if_pos c0).symm.trans hd) H locs ls hl hP hS) (fun c0 => kf ((if_neg c0).symm.trans hd) H locs ls hl hP hS)
theorem a_ic_lt (hG : Cx SH ad wad cc nL own rt n Γ) {α : Type} {A B : Option α} {q : α} {x y : Int32} {off : Int} {tgt : Nat} (hd : (if x < y then A else B) = some q) (d : decode cc pc = .ok (.if_icmp .lt off, 3)) (ht : (pc : Int) + off = (tgt : Int)) (kt : A = some q → AW SH ad nL res Γ (tgt) lv (st) h) (kf : B = some q → AW SH ad nL res Γ (pc + 3) lv (st) h) : AW SH ad nL res Γ (pc) lv (.int y :: .int x :: st) h := by
  obtain ⟨p, l, e, R, s, m, args, below, meth, c, cy, D⟩ := Γ
  obtain ⟨hx, hb, hml, hown, hts, hlo, hr, hK, hZ, hR, hI⟩ := hG
  intro H locs ls hl hP hS
  exact lv_icmp_lt hx hb d ht (fun c0 => kt ((if_pos c0).symm.trans hd) H locs ls hl hP hS) (fun c0 => kf ((if_neg c0).symm.trans hd) H locs ls hl hP hS)
theorem a_if_ge (hG : Cx SH ad wad cc nL own rt n Γ) {α : Type} {A B : Option α} {q : α} {x : Int32} {off : Int} {tgt : Nat} (hd : (if 0 ≤ x then A else B) = some q) (d : decode cc pc = .ok (.ifCond .ge off, 3)) (ht : (pc : Int) + off = (tgt : Int)) (kt : A = some q → AW SH ad nL res Γ (tgt) lv (st) h) (kf : B = some q → AW SH ad nL res Γ (pc + 3) lv (st) h) : AW SH ad nL res Γ (pc) lv (.int x :: st) h := by
  obtain ⟨p, l, e, R, s, m, args, below, meth, c, cy, D⟩ := Γ
  obtain ⟨hx, hb, hml, hown, hts, hlo, hr, hK, hZ, hR, hI⟩ := hG
  intro H locs ls hl hP hS
  exact lv_if_ge hx hb d ht (fun c0 => kt ((if_pos c0).symm.trans hd) H locs ls hl hP hS) (fun c0 => kf ((if_neg c0).symm.trans hd) H locs ls hl hP hS)
theorem a_ic_ge (hG : Cx SH ad wad cc nL own rt n Γ) {α : Type} {A B : Option α} {q : α} {x y : Int32} {off : Int} {tgt : Nat} (hd : (if y ≤ x then A else B) = some q) (d : decode cc pc = .ok (.if_icmp .ge off, 3)) (ht : (pc : Int) + off = (tgt : Int)) (kt : A = some q → AW SH ad nL res Γ (tgt) lv (st) h) (kf : B = some q → AW SH ad nL res Γ (pc + 3) lv (st) h) : AW SH ad nL res Γ (pc) lv (.int y :: .int x :: st) h := by
  obtain ⟨p, l, e, R, s, m, args, below, meth, c, cy, D⟩ := Γ
  obtain ⟨hx, hb, hml, hown, hts, hlo, hr, hK, hZ, hR, hI⟩ := hG
  intro H locs ls hl hP hS
  exact lv_icmp_ge hx hb d ht (fun c0 => kt ((if_pos c0).symm.trans hd) H locs ls hl hP hS) (fun c0 => kf ((if_neg c0).symm.trans hd) H locs ls hl hP hS)
theorem a_if_gt (hG : Cx SH ad wad cc nL own rt n Γ) {α : Type} {A B : Option α} {q : α} {x : Int32} {off : Int} {tgt : Nat} (hd : (if 0 < x then A else B) = some q) (d : decode cc pc = .ok (.ifCond .gt off, 3)) (ht : (pc : Int) + off = (tgt : Int)) (kt : A = some q → AW SH ad nL res Γ (tgt) lv (st) h) (kf : B = some q → AW SH ad nL res Γ (pc + 3) lv (st) h) : AW SH ad nL res Γ (pc) lv (.int x :: st) h := by
  obtain ⟨p, l, e, R, s, m, args, below, meth, c, cy, D⟩ := Γ
  obtain ⟨hx, hb, hml, hown, hts, hlo, hr, hK, hZ, hR, hI⟩ := hG
  intro H locs ls hl hP hS
  exact lv_if_gt hx hb d ht (fun c0 => kt ((if_pos c0).symm.trans hd) H locs ls hl hP hS) (fun c0 => kf ((if_neg c0).symm.trans hd) H locs ls hl hP hS)
theorem a_ic_gt (hG : Cx SH ad wad cc nL own rt n Γ) {α : Type} {A B : Option α} {q : α} {x y : Int32} {off : Int} {tgt : Nat} (hd : (if y < x then A else B) = some q) (d : decode cc pc = .ok (.if_icmp .gt off, 3)) (ht : (pc : Int) + off = (tgt : Int)) (kt : A = some q → AW SH ad nL res Γ (tgt) lv (st) h) (kf : B = some q → AW SH ad nL res Γ (pc + 3) lv (st) h) : AW SH ad nL res Γ (pc) lv (.int y :: .int x :: st) h := by
  obtain ⟨p, l, e, R, s, m, args, below, meth, c, cy, D⟩ := Γ
  obtain ⟨hx, hb, hml, hown, hts, hlo, hr, hK, hZ, hR, hI⟩ := hG
  intro H locs ls hl hP hS
  exact lv_icmp_gt hx hb d ht (fun c0 => kt ((if_pos c0).symm.trans hd) H locs ls hl hP hS) (fun c0 => kf ((if_neg c0).symm.trans hd) H locs ls hl hP hS)
theorem a_if_le (hG : Cx SH ad wad cc nL own rt n Γ) {α : Type} {A B : Option α} {q : α} {x : Int32} {off : Int} {tgt : Nat} (hd : (if x ≤ 0 then A else B) = some q) (d : decode cc pc = .ok (.ifCond .le off, 3)) (ht : (pc : Int) + off = (tgt : Int)) (kt : A = some q → AW SH ad nL res Γ (tgt) lv (st) h) (kf : B = some q → AW SH ad nL res Γ (pc + 3) lv (st) h) : AW SH ad nL res Γ (pc) lv (.int x :: st) h := by
  obtain ⟨p, l, e, R, s, m, args, below, meth, c, cy, D⟩ := Γ
  obtain ⟨hx, hb, hml, hown, hts, hlo, hr, hK, hZ, hR, hI⟩ := hG
  intro H locs ls hl hP hS
  exact lv_if_le hx hb d ht (fun c0 => kt ((if_pos c0).symm.trans hd) H locs ls hl hP hS) (fun c0 => kf ((if_neg c0).symm.trans hd) H locs ls hl hP hS)
theorem a_ic_le (hG : Cx SH ad wad cc nL own rt n Γ) {α : Type} {A B : Option α} {q : α} {x y : Int32} {off : Int} {tgt : Nat} (hd : (if x ≤ y then A else B) = some q) (d : decode cc pc = .ok (.if_icmp .le off, 3)) (ht : (pc : Int) + off = (tgt : Int)) (kt : A = some q → AW SH ad nL res Γ (tgt) lv (st) h) (kf : B = some q → AW SH ad nL res Γ (pc + 3) lv (st) h) : AW SH ad nL res Γ (pc) lv (.int y :: .int x :: st) h := by
  obtain ⟨p, l, e, R, s, m, args, below, meth, c, cy, D⟩ := Γ
  obtain ⟨hx, hb, hml, hown, hts, hlo, hr, hK, hZ, hR, hI⟩ := hG
  intro H locs ls hl hP hS
  exact lv_icmp_le hx hb d ht (fun c0 => kt ((if_pos c0).symm.trans hd) H locs ls hl hP hS) (fun c0 => kf ((if_neg c0).symm.trans hd) H locs ls hl hP hS)
theorem a_nm_int {α : Type} {q : α} {x : Int32} {K : Int32 → Option α} (hd : bl x K = some q) (k : ∀ v : Int32, K v = some q → AW SH ad nL res Γ pc lv (.int v :: st) h) : AW SH ad nL res Γ pc lv (.int x :: st) h := k x hd
theorem a_nm_long {α : Type} {q : α} {x : Int64} {K : Int64 → Option α} (hd : bl x K = some q) (k : ∀ v : Int64, K v = some q → AW SH ad nL res Γ pc lv (.long v :: st) h) : AW SH ad nL res Γ pc lv (.long x :: st) h := k x hd
theorem a_iald (hG : Cx SH ad wad cc nL own rt n Γ) {α : Type} {A : Option α} {q : α} {i N : Nat} (hs : SH[i]? = some (.inl (0, 1, N))) {x : Int32} (hd : (if inb x N = true then A else none) = some q) (d : decode cc pc = .ok (.iaload, 1)) (k : A = some q → AW SH ad nL res Γ (pc + 1) lv (.int (h.1 i x.toNatClampNeg) :: st) h) : AW SH ad nL res Γ (pc) lv (.int x :: .ref (ad i) :: st) h := by
  obtain ⟨p, l, e, R, s, m, args, below, meth, c, cy, D⟩ := Γ
  obtain ⟨hx, hb, hml, hown, hts, hlo, hr, hK, hZ, hR, hI⟩ := hG
  intro H locs ls hl hP hS
  obtain ⟨h1, h2⟩ := ite_some hd
  exact va_iald hx hb hK hP i 1 (wl_get hs) rfl (inb_in h1) d (k h2 H locs ls hl hP hS)
theorem a_bald (hG : Cx SH ad wad cc nL own rt n Γ) {α : Type} {A : Option α} {q : α} {i N : Nat} (hs : SH[i]? = some (.inl (0, 0, N))) {x : Int32} (hd : (if inb x N = true then A else none) = some q) (d : decode cc pc = .ok (.baload, 1)) (k : A = some q → AW SH ad nL res Γ (pc + 1) lv (.int (h.1 i x.toNatClampNeg) :: st) h) : AW SH ad nL res Γ (pc) lv (.int x :: .ref (ad i) :: st) h := by
  obtain ⟨p, l, e, R, s, m, args, below, meth, c, cy, D⟩ := Γ
  obtain ⟨hx, hb, hml, hown, hts, hlo, hr, hK, hZ, hR, hI⟩ := hG
  intro H locs ls hl hP hS
  obtain ⟨h1, h2⟩ := ite_some hd
  exact va_bald hx hb hK hP i 0 (wl_get hs) rfl (inb_in h1) d (k h2 H locs ls hl hP hS)
theorem a_zald (hG : Cx SH ad wad cc nL own rt n Γ) {α : Type} {A : Option α} {q : α} {i N : Nat} (hs : SH[i]? = some (.inl (0, 3, N))) {x : Int32} (hd : (if inb x N = true then A else none) = some q) (d : decode cc pc = .ok (.baload, 1)) (k : A = some q → AW SH ad nL res Γ (pc + 1) lv (.int (h.1 i x.toNatClampNeg) :: st) h) : AW SH ad nL res Γ (pc) lv (.int x :: .ref (ad i) :: st) h := by
  obtain ⟨p, l, e, R, s, m, args, below, meth, c, cy, D⟩ := Γ
  obtain ⟨hx, hb, hml, hown, hts, hlo, hr, hK, hZ, hR, hI⟩ := hG
  intro H locs ls hl hP hS
  obtain ⟨h1, h2⟩ := ite_some hd
  exact va_zald hx hb hK hP i 3 (wl_get hs) rfl (inb_in h1) d (k h2 H locs ls hl hP hS)
theorem a_lald (hG : Cx SH ad wad cc nL own rt n Γ) {α : Type} {A : Option α} {q : α} {i N : Nat} (hs : SH[i]? = some (.inl (1, 2, N))) {x : Int32} (hd : (if inb x N = true then A else none) = some q) (d : decode cc pc = .ok (.laload, 1)) (k : A = some q → AW SH ad nL res Γ (pc + 1) lv (.long (h.2 i x.toNatClampNeg) :: st) h) : AW SH ad nL res Γ (pc) lv (.int x :: .ref (ad i) :: st) h := by
  obtain ⟨p, l, e, R, s, m, args, below, meth, c, cy, D⟩ := Γ
  obtain ⟨hx, hb, hml, hown, hts, hlo, hr, hK, hZ, hR, hI⟩ := hG
  intro H locs ls hl hP hS
  obtain ⟨h1, h2⟩ := ite_some hd
  exact va_lald hx hb hK hP i 2 (wl_get hs) rfl (inb_in h1) d (k h2 H locs ls hl hP hS)
theorem a_iast (hG : Cx SH ad wad cc nL own rt n Γ) {α : Type} {q : α} {i N : Nat} (hs : SH[i]? = some (.inl (0, 1, N))) {x : Int32} {v : Int32} {K : HS → Option α} (hd : (if inb x N = true then bl (sI h i x.toNatClampNeg v) K else none) = some q) (d : decode cc pc = .ok (.iastore, 1)) (k : ∀ h2 : HS, K h2 = some q → AW SH ad nL res Γ (pc + 1) lv (st) h2) : AW SH ad nL res Γ (pc) lv (.int v :: .int x :: .ref (ad i) :: st) h := by
  obtain ⟨p, l, e, R, s, m, args, below, meth, c, cy, D⟩ := Γ
  obtain ⟨hx, hb, hml, hown, hts, hlo, hr, hK, hZ, hR, hI⟩ := hG
  intro H locs ls hl hP hS
  obtain ⟨h1, h2⟩ := ite_some hd
  refine va_iast hx hb hK hP (wl_D hI cy h s.heap.size) hS i 1 (wl_get hs) rfl (inb_in h1) d (fun H1 locs1 hP1 hD1 hS1 => ?_)
  rw [wl_set (h := h) (h' := sI h i x.toNatClampNeg v) hs sI_o1 (fun _ _ => rfl) (by simp only [ce]; rw [← sI_self])] at hP1
  exact k _ h2 H1 locs1 ls hl hP1 hS1
theorem a_bast (hG : Cx SH ad wad cc nL own rt n Γ) {α : Type} {q : α} {i N : Nat} (hs : SH[i]? = some (.inl (0, 0, N))) {x : Int32} {v : Int32} {K : HS → Option α} (hd : (if inb x N = true then bl (sI h i x.toNatClampNeg (vp_nar .byte v)) K else none) = some q) (d : decode cc pc = .ok (.bastore, 1)) (k : ∀ h2 : HS, K h2 = some q → AW SH ad nL res Γ (pc + 1) lv (st) h2) : AW SH ad nL res Γ (pc) lv (.int v :: .int x :: .ref (ad i) :: st) h := by
  obtain ⟨p, l, e, R, s, m, args, below, meth, c, cy, D⟩ := Γ
  obtain ⟨hx, hb, hml, hown, hts, hlo, hr, hK, hZ, hR, hI⟩ := hG
  intro H locs ls hl hP hS
  obtain ⟨h1, h2⟩ := ite_some hd
  refine va_bast hx hb hK hP (wl_D hI cy h s.heap.size) hS i 0 (wl_get hs) rfl (inb_in h1) d (fun H1 locs1 hP1 hD1 hS1 => ?_)
  rw [wl_set (h := h) (h' := sI h i x.toNatClampNeg (vp_nar .byte v)) hs sI_o1 (fun _ _ => rfl) (by simp only [ce]; rw [← sI_self])] at hP1
  exact k _ h2 H1 locs1 ls hl hP1 hS1
theorem a_zast (hG : Cx SH ad wad cc nL own rt n Γ) {α : Type} {q : α} {i N : Nat} (hs : SH[i]? = some (.inl (0, 3, N))) {x : Int32} {v : Int32} {K : HS → Option α} (hd : (if inb x N = true then bl (sI h i x.toNatClampNeg (vp_nar .boolean v)) K else none) = some q) (d : decode cc pc = .ok (.bastore, 1)) (k : ∀ h2 : HS, K h2 = some q → AW SH ad nL res Γ (pc + 1) lv (st) h2) : AW SH ad nL res Γ (pc) lv (.int v :: .int x :: .ref (ad i) :: st) h := by
  obtain ⟨p, l, e, R, s, m, args, below, meth, c, cy, D⟩ := Γ
  obtain ⟨hx, hb, hml, hown, hts, hlo, hr, hK, hZ, hR, hI⟩ := hG
  intro H locs ls hl hP hS
  obtain ⟨h1, h2⟩ := ite_some hd
  refine va_zast hx hb hK hP (wl_D hI cy h s.heap.size) hS i 3 (wl_get hs) rfl (inb_in h1) d (fun H1 locs1 hP1 hD1 hS1 => ?_)
  rw [wl_set (h := h) (h' := sI h i x.toNatClampNeg (vp_nar .boolean v)) hs sI_o1 (fun _ _ => rfl) (by simp only [ce]; rw [← sI_self])] at hP1
  exact k _ h2 H1 locs1 ls hl hP1 hS1
theorem a_last (hG : Cx SH ad wad cc nL own rt n Γ) {α : Type} {q : α} {i N : Nat} (hs : SH[i]? = some (.inl (1, 2, N))) {x : Int32} {v : Int64} {K : HS → Option α} (hd : (if inb x N = true then bl (sL h i x.toNatClampNeg v) K else none) = some q) (d : decode cc pc = .ok (.lastore, 1)) (k : ∀ h2 : HS, K h2 = some q → AW SH ad nL res Γ (pc + 1) lv (st) h2) : AW SH ad nL res Γ (pc) lv (.long v :: .int x :: .ref (ad i) :: st) h := by
  obtain ⟨p, l, e, R, s, m, args, below, meth, c, cy, D⟩ := Γ
  obtain ⟨hx, hb, hml, hown, hts, hlo, hr, hK, hZ, hR, hI⟩ := hG
  intro H locs ls hl hP hS
  obtain ⟨h1, h2⟩ := ite_some hd
  refine va_last hx hb hK hP (wl_D hI cy h s.heap.size) hS i 2 (wl_get hs) rfl (inb_in h1) d (fun H1 locs1 hP1 hD1 hS1 => ?_)
  rw [wl_set (h := h) (h' := sL h i x.toNatClampNeg v) hs (fun _ _ => rfl) sL_o2 (by simp only [ce]; rw [← sL_self])] at hP1
  exact k _ h2 H1 locs1 ls hl hP1 hS1
theorem a_alenI (hG : Cx SH ad wad cc nL own rt n Γ) {i ty N : Nat} (hs : SH[i]? = some (.inl (0, ty, N))) {ft : FieldType} (hty : ∀ cy : Nat → ClassId, (tyL cy)[ty]? = some (cy ty, ft)) {v : Int32} (hv : Int32.ofNat N = v) (d : decode cc pc = .ok (.arraylength, 1)) (k : AW SH ad nL res Γ (pc + 1) lv (.int v :: st) h) : AW SH ad nL res Γ (pc) lv (.ref (ad i) :: st) h := by
  obtain ⟨p, l, e, R, s, m, args, below, meth, c, cy, D⟩ := Γ
  obtain ⟨hx, hb, hml, hown, hts, hlo, hr, hK, hZ, hR, hI⟩ := hG
  intro H locs ls hl hP hS
  exact va_alen hx hb hK hP i ty (wl_get hs) (hty cy) hv d (k H locs ls hl hP hS)
theorem a_alenL (hG : Cx SH ad wad cc nL own rt n Γ) {i ty N : Nat} (hs : SH[i]? = some (.inl (1, ty, N))) {ft : FieldType} (hty : ∀ cy : Nat → ClassId, (tyL cy)[ty]? = some (cy ty, ft)) {v : Int32} (hv : Int32.ofNat N = v) (d : decode cc pc = .ok (.arraylength, 1)) (k : AW SH ad nL res Γ (pc + 1) lv (.int v :: st) h) : AW SH ad nL res Γ (pc) lv (.ref (ad i) :: st) h := by
  obtain ⟨p, l, e, R, s, m, args, below, meth, c, cy, D⟩ := Γ
  obtain ⟨hx, hb, hml, hown, hts, hlo, hr, hK, hZ, hR, hI⟩ := hG
  intro H locs ls hl hP hS
  exact va_alen hx hb hK hP i ty (wl_get hs) (hty cy) hv d (k H locs ls hl hP hS)
theorem a_getI (hG : Cx SH ad wad cc nL own rt n Γ) {i ci N ix : Nat} {ks : List Nat} {C : String} {T : u_T} (hs : SH[i]? = some (.inr (ci, ks))) (hc : vwCl[ci]? = some (C, T, N)) (hok : ClOk (C, T, N)) (k0 : Nat) (hk : k0 < N) (hkd : ks[k0]? = some 0) (hlk : Cond.fieldLink own ix (T k0).1 (T k0).2.1 (T k0).2.2.1 ∈ TB) (d : decode cc pc = .ok (.getfield ix, 3)) (k : AW SH ad nL res Γ (pc + 3) lv (.int (h.1 i k0) :: st) h) : AW SH ad nL res Γ (pc) lv (.ref (ad i) :: st) h := by
  obtain ⟨p, l, e, R, s, m, args, below, meth, c, cy, D⟩ := Γ
  obtain ⟨hx, hb, hml, hown, hts, hlo, hr, hK, hZ, hR, hI⟩ := hG
  intro H locs ls hl hP hS
  exact va_get hx hb hts hok.1 hown hK hP i (wl_get hs) hc k0 hk (hts _ hlk) (fun _ z => z) (by rw [List.getElem?_mapIdx, hkd]; rfl) d (k H locs ls hl hP hS)
theorem a_getL (hG : Cx SH ad wad cc nL own rt n Γ) {i ci N ix : Nat} {ks : List Nat} {C : String} {T : u_T} (hs : SH[i]? = some (.inr (ci, ks))) (hc : vwCl[ci]? = some (C, T, N)) (hok : ClOk (C, T, N)) (k0 : Nat) (hk : k0 < N) (hkd : ks[k0]? = some 1) (hlk : Cond.fieldLink own ix (T k0).1 (T k0).2.1 (T k0).2.2.1 ∈ TB) (d : decode cc pc = .ok (.getfield ix, 3)) (k : AW SH ad nL res Γ (pc + 3) lv (.long (h.2 i k0) :: st) h) : AW SH ad nL res Γ (pc) lv (.ref (ad i) :: st) h := by
  obtain ⟨p, l, e, R, s, m, args, below, meth, c, cy, D⟩ := Γ
  obtain ⟨hx, hb, hml, hown, hts, hlo, hr, hK, hZ, hR, hI⟩ := hG
  intro H locs ls hl hP hS
  exact va_get hx hb hts hok.1 hown hK hP i (wl_get hs) hc k0 hk (hts _ hlk) (fun _ z => z) (by rw [List.getElem?_mapIdx, hkd]; rfl) d (k H locs ls hl hP hS)
theorem a_getR (hG : Cx SH ad wad cc nL own rt n Γ) {i ci N ix : Nat} {ks : List Nat} {C : String} {T : u_T} (hs : SH[i]? = some (.inr (ci, ks))) (hc : vwCl[ci]? = some (C, T, N)) (hok : ClOk (C, T, N)) (k0 : Nat) (hk : k0 < N) {t : Nat} (hkd : ks[k0]? = some (t + 2)) (hlk : Cond.fieldLink own ix (T k0).1 (T k0).2.1 (T k0).2.2.1 ∈ TB) (d : decode cc pc = .ok (.getfield ix, 3)) (k : AW SH ad nL res Γ (pc + 3) lv (.ref (ad t) :: st) h) : AW SH ad nL res Γ (pc) lv (.ref (ad i) :: st) h := by
  obtain ⟨p, l, e, R, s, m, args, below, meth, c, cy, D⟩ := Γ
  obtain ⟨hx, hb, hml, hown, hts, hlo, hr, hK, hZ, hR, hI⟩ := hG
  intro H locs ls hl hP hS
  exact va_get hx hb hts hok.1 hown hK hP i (wl_get hs) hc k0 hk (hts _ hlk) (fun _ z => z) (by rw [List.getElem?_mapIdx, hkd]; rfl) d (k H locs ls hl hP hS)
theorem a_putI (hG : Cx SH ad wad cc nL own rt n Γ) {i ci N ix : Nat} {ks : List Nat} {C : String} {T : u_T} (hs : SH[i]? = some (.inr (ci, ks))) (hc : vwCl[ci]? = some (C, T, N)) (hok : ClOk (C, T, N)) (k0 : Nat) (hk : k0 < N) {α : Type} {q : α} {v : Int32} {K : HS → Option α} (hkd : ks[k0]? = some 0) (hlk : Cond.fieldLink own ix (T k0).1 (T k0).2.1 (T k0).2.2.1 ∈ TB) (hfin : (T k0).2.2.2 = false) {ty : FieldType} (hty : parseFieldDescriptor (T k0).2.2.1 = some ty) (hn : narrow ty (.int v) = .int v) (hf : fits ty (.int v) = true) (hd : bl (sI h i k0 v) K = some q) (d : decode cc pc = .ok (.putfield ix, 3)) (k : ∀ h2 : HS, K h2 = some q → AW SH ad nL res Γ (pc + 3) lv (st) h2) : AW SH ad nL res Γ (pc) lv (.int v :: .ref (ad i) :: st) h := by
  obtain ⟨p, l, e, R, s, m, args, below, meth, c, cy, D⟩ := Γ
  obtain ⟨hx, hb, hml, hown, hts, hlo, hr, hK, hZ, hR, hI⟩ := hG
  intro H locs ls hl hP hS
  obtain ⟨o1, ⟨ty0, o2⟩, o3⟩ := hok
  refine va_put hx hb hts o1 ty0 o2 o3 hown hK hP (wl_D hI cy h s.heap.size) hS i (wl_get hs) hc k0 hk (hts _ hlk) (fun _ z => z) hfin hty hn hf (by rw [List.length_mapIdx]; exact (List.getElem?_eq_some_iff.mp hkd).1) d (fun H1 locs1 hP1 hD1 hS1 => ?_)
  have e2 := wl_set (ad := ad) (cy := cy) (h := h) (h' := sI h i k0 v) (e := .inr (ci, ks.mapIdx (fun j kd => fv ad (sI h i k0 v) i j kd))) hs sI_o1 (fun _ _ => rfl) rfl
  rw [ks_setI hkd, e2] at hP1
  exact k _ hd H1 locs1 ls hl hP1 hS1
theorem a_putL (hG : Cx SH ad wad cc nL own rt n Γ) {i ci N ix : Nat} {ks : List Nat} {C : String} {T : u_T} (hs : SH[i]? = some (.inr (ci, ks))) (hc : vwCl[ci]? = some (C, T, N)) (hok : ClOk (C, T, N)) (k0 : Nat) (hk : k0 < N) {α : Type} {q : α} {v : Int64} {K : HS → Option α} (hkd : ks[k0]? = some 1) (hlk : Cond.fieldLink own ix (T k0).1 (T k0).2.1 (T k0).2.2.1 ∈ TB) (hfin : (T k0).2.2.2 = false) {ty : FieldType} (hty : parseFieldDescriptor (T k0).2.2.1 = some ty) (hn : narrow ty (.long v) = .long v) (hf : fits ty (.long v) = true) (hd : bl (sL h i k0 v) K = some q) (d : decode cc pc = .ok (.putfield ix, 3)) (k : ∀ h2 : HS, K h2 = some q → AW SH ad nL res Γ (pc + 3) lv (st) h2) : AW SH ad nL res Γ (pc) lv (.long v :: .ref (ad i) :: st) h := by
  obtain ⟨p, l, e, R, s, m, args, below, meth, c, cy, D⟩ := Γ
  obtain ⟨hx, hb, hml, hown, hts, hlo, hr, hK, hZ, hR, hI⟩ := hG
  intro H locs ls hl hP hS
  obtain ⟨o1, ⟨ty0, o2⟩, o3⟩ := hok
  refine va_put hx hb hts o1 ty0 o2 o3 hown hK hP (wl_D hI cy h s.heap.size) hS i (wl_get hs) hc k0 hk (hts _ hlk) (fun _ z => z) hfin hty hn hf (by rw [List.length_mapIdx]; exact (List.getElem?_eq_some_iff.mp hkd).1) d (fun H1 locs1 hP1 hD1 hS1 => ?_)
  have e2 := wl_set (ad := ad) (cy := cy) (h := h) (h' := sL h i k0 v) (e := .inr (ci, ks.mapIdx (fun j kd => fv ad (sL h i k0 v) i j kd))) hs (fun _ _ => rfl) sL_o2 rfl
  rw [ks_setL hkd, e2] at hP1
  exact k _ hd H1 locs1 ls hl hP1 hS1
theorem a_iret (hG : Cx SH ad wad cc nL own (some .int) n Γ) {q : Int32 × HS} {x : Int32} (hd : some (x, h) = some q) (d : decode cc pc = .ok (.ireturn, 1)) : AW SH ad nL (some (.int q.1), q.2) Γ pc lv [.int x] h := by
  obtain ⟨p, l, e, R, s, m, args, below, meth, c, cy, D⟩ := Γ
  obtain ⟨hx, hb, hml, hown, hts, hlo, hr, hK, hZ, hR, hI⟩ := hG
  cases hd
  intro H locs ls hl hP hS
  exact W.iret hx hb hr (fun t ht hw => ⟨rfl, by rw [ht]; exact hP, by exact hS.F ht⟩) hS.2.2 d hlo
theorem a_zret (hG : Cx SH ad wad cc nL own (some .boolean) n Γ) {q : Int32 × HS} {x : Int32} (hd : rZ x h = some q) (d : decode cc pc = .ok (.ireturn, 1)) : AW SH ad nL (some (.int q.1), q.2) Γ pc lv [.int x] h := by
  obtain ⟨p, l, e, R, s, m, args, below, meth, c, cy, D⟩ := Γ
  obtain ⟨hx, hb, hml, hown, hts, hlo, hr, hK, hZ, hR, hI⟩ := hG
  obtain ⟨hx1, rfl⟩ := rZ_some hd
  intro H locs ls hl hP hS
  exact W.zret hx hb hr (by rcases hx1 with rfl | rfl <;> rfl) (fun t ht hw => ⟨rfl, by rw [ht]; exact hP, by exact hS.F ht⟩) hS.2.2 d hlo
theorem a_lret (hG : Cx SH ad wad cc nL own (some .long) n Γ) {q : Int64 × HS} {x : Int64} (hd : some (x, h) = some q) (d : decode cc pc = .ok (.lreturn, 1)) : AW SH ad nL (some (.long q.1), q.2) Γ pc lv [.long x] h := by
  obtain ⟨p, l, e, R, s, m, args, below, meth, c, cy, D⟩ := Γ
  obtain ⟨hx, hb, hml, hown, hts, hlo, hr, hK, hZ, hR, hI⟩ := hG
  cases hd
  intro H locs ls hl hP hS
  exact W.lret hx hb hr (fun t ht hw => ⟨rfl, by rw [ht]; exact hP, by exact hS.F ht⟩) hS.2.2 d hlo
theorem a_vret (hG : Cx SH ad wad cc nL own (none) n Γ) {q : Unit × HS} (hd : some ((), h) = some q) (d : decode cc pc = .ok (.return_, 1)) : AW SH ad nL (none, q.2) Γ pc lv [] h := by
  obtain ⟨p, l, e, R, s, m, args, below, meth, c, cy, D⟩ := Γ
  obtain ⟨hx, hb, hml, hown, hts, hlo, hr, hK, hZ, hR, hI⟩ := hG
  cases hd
  intro H locs ls hl hP hS
  exact W.vret hx hb hr (fun t ht hw => ⟨rfl, by rw [ht]; exact hP, by exact hS.F ht⟩) hS.2.2 d hlo
/-- what the tables say of a method of an object -/
def MkV (y : MethodName) (cc : ByteArray) (nL : Nat) (rt : Option FieldType) (C : String) (k : Nat) : Prop := y.cls = C ∧ Cond.code y cc nL rt ∈ TB ∧ Cond.instanceMethod y ∈ TB ∧ Cond.selects C y y ∈ TB ∧ Cond.initialized C ∈ TB ∧ (y.cls ≠ "java/lang/invoke/MethodHandle" ∧ y.cls ≠ "java/lang/invoke/VarHandle" ∧ (parseMethodDescriptor y.desc).map (fun d => d.parameters.length) = some k) ∧ nL ≤ 21
def MkS (y : MethodName) (cc : ByteArray) (nL : Nat) (rt : Option FieldType) (k : Nat) : Prop := Cond.code y cc nL rt ∈ TB ∧ Cond.static y ∈ TB ∧ Cond.initialized y.cls ∈ TB ∧ (y.cls ≠ "java/lang/invoke/MethodHandle" ∧ y.cls ≠ "java/lang/invoke/VarHandle" ∧ (parseMethodDescriptor y.desc).map (fun d => d.parameters.length) = some k) ∧ nL ≤ 21
theorem TB_ws {y : MethodName} {cc : ByteArray} {nL : Nat} {rt : Option FieldType} (hc : Cond.code y cc nL rt ∈ TB) : GoodIn TB (Cond.code y cc nL rt :: TB) := fun w hw => (List.mem_cons.mp hw).elim (fun e => by rw [e]; exact ⟨hc, good_of_word (TB_good hc)⟩) (fun e => ⟨e, good_of_word (TB_good e)⟩)
theorem Pr_blind {va : List Value} {cy : Nat → ClassId} {D : va_G} {sz : Nat} : FrameBlind (va_Pc va (Pr SH ad wad cy D sz h)) := fun a U g mk q => by
  obtain ⟨q0, q1, qP, qK, qZ⟩ := q
  exact ⟨q0, q1, qP, va_K.moved (u := U) (U := U.calling g mk a) (Vm.Alike.refl U.vm) qK, GS.moved (u := U) (U := U.calling g mk a) (Vm.Alike.refl U.vm) qZ⟩
theorem a_callV (hG : Cx SH ad wad cc nL own rt n Γ) {y : MethodName} {cc2 : ByteArray} {nL2 : Nat} {rt2 : Option FieldType} {n2 ix i ci N : Nat} {ks : List Nat} {C : String} {T : u_T} {As st0 : List Value} {res2 : Option Value × HS} (hs : SH[i]? = some (.inr (ci, ks))) (hc : vwCl[ci]? = some (C, T, N)) (hm : MkV y cc2 nL2 rt2 C As.length) (hlk : Cond.methodLink own ix y ∈ TB) (hn : n2 + 1 ≤ n) (hC : Ctr SH ad wad y cc2 nL2 rt2 n2 (.ref (ad i) :: As) h res2) (hst : st0 = As.reverse ++ .ref (ad i) :: st) (hw : (st.map fun v => v.category).sum ≤ 8) (d : decode cc pc = .ok (.invokevirtual ix, 3)) (k : AW SH ad nL res Γ (pc + 3) lv (res2.1.toList ++ st) res2.2) : AW SH ad nL res Γ (pc) lv (st0) h := by
  obtain ⟨p, l, e, R, s, m, args, below, meth, c, cy, D⟩ := Γ
  obtain ⟨hx, hb, hml, hown, hts, hlo, hr, hK, hZ, hR, hI⟩ := hG
  intro H locs ls hl hP hS
  subst hR
  subst hst
  obtain ⟨m1, m2, m3, m4, m5, m6, m7⟩ := hm
  subst m1
  have hsz : s.heap.size ≤ H.size := hS.1
  have hrun := va_runV (l := l) (R := RM n) (e := e) (below := below) (meth := meth) (locs := locs) (cells := 0) (slots := 0) (H := H) (g := F0 m pc ls (As.reverse ++ .ref (ad i) :: st)) (As := As) (rest := st) (b := ad i) (C := y.cls) ⟨hx, hb, hml, hown, hts⟩ (hC hI l cy D H.size) ⟨callB_of As.length hts (TB_ws m2) rfl rfl rfl (hts _ m5) (hts _ hlk) m6 ⟨hn, by show 8 + (nL2 + 11) + 40 * n2 ≤ 40 * n; omega⟩, hts _ m3, hts _ m4⟩
    ⟨Pr_blind, va_recv hK hP (ci := ci) (q0 := i) hc (wl_get hs), fun U hU hW => ⟨rfl, by rw [hU], by rw [hU]; exact hP, va_K.moved hW.alike hK, by rw [hU]; exact ((hZ.kept hS.2.1).narrow (Aw_mono hsz)).moved hW.alike⟩⟩ rfl rfl hl.1 rfl (by show 2 * 0 + _ ≤ 8; omega) d ⟨Nat.le_refl 0, Nat.le_refl 0⟩
  intro T0 hT X
  obtain ⟨v, st₀, t, T', L, h0, X', hL, e1, e2, ⟨ho, hP2, hF1, hF2⟩, hgo⟩ := hrun T0 hT X
  cases ho
  rw [h0] at hF1 hF2
  obtain ⟨t2, a1, b1⟩ := k T'.heap (locs ++ L) ls hl (by rw [e1]; exact hP2)
    ⟨Nat.le_trans hS.1 (by rw [e1]; exact hF1), fun q h1 h2 => by rw [e1, hF2 q (Nat.lt_of_lt_of_le h1 hS.1) (fun z => h2 (Aw_mono hsz q z))]; exact hS.2.1 q h1 h2, fun q hq => by
      rcases List.mem_append.mp hq with h | h
      · exact hS.2.2 q h
      · exact Aw_mono hsz _ (hL q h)⟩ T' rfl X'
  exact ⟨t2, hgo t2 a1, b1⟩
theorem a_callS (hG : Cx SH ad wad cc nL own rt n Γ) {y : MethodName} {cc2 : ByteArray} {nL2 : Nat} {rt2 : Option FieldType} {n2 ix : Nat} {As st0 : List Value} {res2 : Option Value × HS} (hm : MkS y cc2 nL2 rt2 As.length) (hlk : Cond.methodLink own ix y ∈ TB) (hn : n2 + 1 ≤ n) (hC : Ctr SH ad wad y cc2 nL2 rt2 n2 As h res2) (hst : st0 = As.reverse ++ st) (hw : (st.map fun v => v.category).sum ≤ 8) (d : decode cc pc = .ok (.invokestatic ix, 3)) (k : AW SH ad nL res Γ (pc + 3) lv (res2.1.toList ++ st) res2.2) : AW SH ad nL res Γ (pc) lv (st0) h := by
  obtain ⟨p, l, e, R, s, m, args, below, meth, c, cy, D⟩ := Γ
  obtain ⟨hx, hb, hml, hown, hts, hlo, hr, hK, hZ, hR, hI⟩ := hG
  intro H locs ls hl hP hS
  subst hR
  subst hst
  obtain ⟨m2, m3, m5, m6, m7⟩ := hm
  have hsz : s.heap.size ≤ H.size := hS.1
  have hrun := va_runS (l := l) (R := RM n) (e := e) (below := below) (meth := meth) (locs := locs) (cells := 0) (slots := 0) (H := H) (g := F0 m pc ls (As.reverse ++ st)) (As := As) (rest := st) ⟨hx, hb, hml, hown, hts⟩ (hC hI l cy D H.size) ⟨callB_of As.length hts (TB_ws m2) rfl rfl rfl (hts _ m5) (hts _ hlk) m6 ⟨hn, by show 8 + (nL2 + 11) + 40 * n2 ≤ 40 * n; omega⟩, hts _ m3⟩
    ⟨Pr_blind, fun U hU hW => ⟨rfl, by rw [hU], by rw [hU]; exact hP, va_K.moved hW.alike hK, by rw [hU]; exact ((hZ.kept hS.2.1).narrow (Aw_mono hsz)).moved hW.alike⟩⟩ rfl rfl hl.1 rfl (by show 2 * 0 + _ ≤ 8; omega) d ⟨Nat.le_refl 0, Nat.le_refl 0⟩
  intro T0 hT X
  obtain ⟨v, st₀, t, T', L, h0, X', hL, e1, e2, ⟨ho, hP2, hF1, hF2⟩, hgo⟩ := hrun T0 hT X
  cases ho
  rw [h0] at hF1 hF2
  obtain ⟨t2, a1, b1⟩ := k T'.heap (locs ++ L) ls hl (by rw [e1]; exact hP2)
    ⟨Nat.le_trans hS.1 (by rw [e1]; exact hF1), fun q h1 h2 => by rw [e1, hF2 q (Nat.lt_of_lt_of_le h1 hS.1) (fun z => h2 (Aw_mono hsz q z))]; exact hS.2.1 q h1 h2, fun q hq => by
      rcases List.mem_append.mp hq with h | h
      · exact hS.2.2 q h
      · exact Aw_mono hsz _ (hL q h)⟩ T' rfl X'
  exact ⟨t2, hgo t2 a1, b1⟩
theorem a_cvI (hG : Cx SH ad wad cc nL own rt n Γ) {α : Type} {q : α} {y : MethodName} {cc2 : ByteArray} {nL2 : Nat} {rt2 : Option FieldType} {n2 ix : Nat} {As st0 : List Value} {i ci N : Nat} {ks : List Nat} {C : String} {T : u_T} {F : Option (Int32 × HS)} {K : Int32 → HS → Option α} (hs : SH[i]? = some (.inr (ci, ks))) (hc : vwCl[ci]? = some (C, T, N)) (hm : MkV y cc2 nL2 rt2 C As.length) (hlk : Cond.methodLink own ix y ∈ TB) (hn : n2 + 1 ≤ n) (hC : ∀ z : Int32 × HS, F = some z → Ctr SH ad wad y cc2 nL2 rt2 n2 (.ref (ad i) :: As) h (some (.int z.1), z.2)) (hst : st0 = As.reverse ++ .ref (ad i) :: st) (hw : (st.map fun v => v.category).sum ≤ 8) (hd : bnd F K = some q) (d : decode cc pc = .ok (.invokevirtual ix, 3)) (k : ∀ (r : Int32) (h2 : HS), K r h2 = some q → AW SH ad nL res Γ (pc + 3) lv (.int r :: st) h2) : AW SH ad nL res Γ (pc) lv (st0) h := by
  obtain ⟨z, hz, hq⟩ := bnd_some hd
  exact a_callV hG hs hc hm hlk hn (hC z hz) hst hw d (k z.1 z.2 hq)
theorem a_csI (hG : Cx SH ad wad cc nL own rt n Γ) {α : Type} {q : α} {y : MethodName} {cc2 : ByteArray} {nL2 : Nat} {rt2 : Option FieldType} {n2 ix : Nat} {As st0 : List Value} {F : Option (Int32 × HS)} {K : Int32 → HS → Option α} (hm : MkS y cc2 nL2 rt2 As.length) (hlk : Cond.methodLink own ix y ∈ TB) (hn : n2 + 1 ≤ n) (hC : ∀ z : Int32 × HS, F = some z → Ctr SH ad wad y cc2 nL2 rt2 n2 As h (some (.int z.1), z.2)) (hst : st0 = As.reverse ++ st) (hw : (st.map fun v => v.category).sum ≤ 8) (hd : bnd F K = some q) (d : decode cc pc = .ok (.invokestatic ix, 3)) (k : ∀ (r : Int32) (h2 : HS), K r h2 = some q → AW SH ad nL res Γ (pc + 3) lv (.int r :: st) h2) : AW SH ad nL res Γ (pc) lv (st0) h := by
  obtain ⟨z, hz, hq⟩ := bnd_some hd
  exact a_callS hG hm hlk hn (hC z hz) hst hw d (k z.1 z.2 hq)
theorem a_cvL (hG : Cx SH ad wad cc nL own rt n Γ) {α : Type} {q : α} {y : MethodName} {cc2 : ByteArray} {nL2 : Nat} {rt2 : Option FieldType} {n2 ix : Nat} {As st0 : List Value} {i ci N : Nat} {ks : List Nat} {C : String} {T : u_T} {F : Option (Int64 × HS)} {K : Int64 → HS → Option α} (hs : SH[i]? = some (.inr (ci, ks))) (hc : vwCl[ci]? = some (C, T, N)) (hm : MkV y cc2 nL2 rt2 C As.length) (hlk : Cond.methodLink own ix y ∈ TB) (hn : n2 + 1 ≤ n) (hC : ∀ z : Int64 × HS, F = some z → Ctr SH ad wad y cc2 nL2 rt2 n2 (.ref (ad i) :: As) h (some (.long z.1), z.2)) (hst : st0 = As.reverse ++ .ref (ad i) :: st) (hw : (st.map fun v => v.category).sum ≤ 8) (hd : bnd F K = some q) (d : decode cc pc = .ok (.invokevirtual ix, 3)) (k : ∀ (r : Int64) (h2 : HS), K r h2 = some q → AW SH ad nL res Γ (pc + 3) lv (.long r :: st) h2) : AW SH ad nL res Γ (pc) lv (st0) h := by
  obtain ⟨z, hz, hq⟩ := bnd_some hd
  exact a_callV hG hs hc hm hlk hn (hC z hz) hst hw d (k z.1 z.2 hq)
theorem a_csL (hG : Cx SH ad wad cc nL own rt n Γ) {α : Type} {q : α} {y : MethodName} {cc2 : ByteArray} {nL2 : Nat} {rt2 : Option FieldType} {n2 ix : Nat} {As st0 : List Value} {F : Option (Int64 × HS)} {K : Int64 → HS → Option α} (hm : MkS y cc2 nL2 rt2 As.length) (hlk : Cond.methodLink own ix y ∈ TB) (hn : n2 + 1 ≤ n) (hC : ∀ z : Int64 × HS, F = some z → Ctr SH ad wad y cc2 nL2 rt2 n2 As h (some (.long z.1), z.2)) (hst : st0 = As.reverse ++ st) (hw : (st.map fun v => v.category).sum ≤ 8) (hd : bnd F K = some q) (d : decode cc pc = .ok (.invokestatic ix, 3)) (k : ∀ (r : Int64) (h2 : HS), K r h2 = some q → AW SH ad nL res Γ (pc + 3) lv (.long r :: st) h2) : AW SH ad nL res Γ (pc) lv (st0) h := by
  obtain ⟨z, hz, hq⟩ := bnd_some hd
  exact a_callS hG hm hlk hn (hC z hz) hst hw d (k z.1 z.2 hq)
theorem a_cvN (hG : Cx SH ad wad cc nL own rt n Γ) {α : Type} {q : α} {y : MethodName} {cc2 : ByteArray} {nL2 : Nat} {rt2 : Option FieldType} {n2 ix : Nat} {As st0 : List Value} {i ci N : Nat} {ks : List Nat} {C : String} {T : u_T} {F : Option (Unit × HS)} {K : Unit → HS → Option α} (hs : SH[i]? = some (.inr (ci, ks))) (hc : vwCl[ci]? = some (C, T, N)) (hm : MkV y cc2 nL2 rt2 C As.length) (hlk : Cond.methodLink own ix y ∈ TB) (hn : n2 + 1 ≤ n) (hC : ∀ z : Unit × HS, F = some z → Ctr SH ad wad y cc2 nL2 rt2 n2 (.ref (ad i) :: As) h (none, z.2)) (hst : st0 = As.reverse ++ .ref (ad i) :: st) (hw : (st.map fun v => v.category).sum ≤ 8) (hd : bnd F K = some q) (d : decode cc pc = .ok (.invokevirtual ix, 3)) (k : ∀ (r : Unit) (h2 : HS), K r h2 = some q → AW SH ad nL res Γ (pc + 3) lv (st) h2) : AW SH ad nL res Γ (pc) lv (st0) h := by
  obtain ⟨z, hz, hq⟩ := bnd_some hd
  exact a_callV hG hs hc hm hlk hn (hC z hz) hst hw d (k z.1 z.2 hq)
theorem a_csN (hG : Cx SH ad wad cc nL own rt n Γ) {α : Type} {q : α} {y : MethodName} {cc2 : ByteArray} {nL2 : Nat} {rt2 : Option FieldType} {n2 ix : Nat} {As st0 : List Value} {F : Option (Unit × HS)} {K : Unit → HS → Option α} (hm : MkS y cc2 nL2 rt2 As.length) (hlk : Cond.methodLink own ix y ∈ TB) (hn : n2 + 1 ≤ n) (hC : ∀ z : Unit × HS, F = some z → Ctr SH ad wad y cc2 nL2 rt2 n2 As h (none, z.2)) (hst : st0 = As.reverse ++ st) (hw : (st.map fun v => v.category).sum ≤ 8) (hd : bnd F K = some q) (d : decode cc pc = .ok (.invokestatic ix, 3)) (k : ∀ (r : Unit) (h2 : HS), K r h2 = some q → AW SH ad nL res Γ (pc + 3) lv (st) h2) : AW SH ad nL res Γ (pc) lv (st0) h := by
  obtain ⟨z, hz, hq⟩ := bnd_some hd
  exact a_callS hG hm hlk hn (hC z hz) hst hw d (k z.1 z.2 hq)
theorem a_istore_nN (hG : Cx SH ad wad cc nL own rt n Γ) {α : Type} {q : α} {K : Int32 → Option α} {i : Nat} {x : Int32} {k4 : Fin 4} (hd : bl x K = some q) (d : decode cc pc = .ok (.istore_n k4, 1)) (hi : (k4 : Nat) = i) (hn : i < nL) {lf : Int32 → List (Nat × Value)} (hl2 : ∀ x : Int32, (i, Value.int x) :: lv.filter (fun q => !(q.1 == i) && !(q.1 + 1 == i && q.2.category == 2)) = lf x) (k : ∀ v : Int32, K v = some q → AW SH ad nL res Γ (pc + 1) (lf v) (st) h) : AW SH ad nL res Γ (pc) lv (.int x :: st) h := a_istore_n hG d hi hn (hl2 x) (k x hd)
theorem a_istoreN (hG : Cx SH ad wad cc nL own rt n Γ) {α : Type} {q : α} {K : Int32 → Option α} {i : Nat} {x : Int32} (hd : bl x K = some q) (d : decode cc pc = .ok (.istore i, 2)) (hn : i < nL) {lf : Int32 → List (Nat × Value)} (hl2 : ∀ x : Int32, (i, Value.int x) :: lv.filter (fun q => !(q.1 == i) && !(q.1 + 1 == i && q.2.category == 2)) = lf x) (k : ∀ v : Int32, K v = some q → AW SH ad nL res Γ (pc + 2) (lf v) (st) h) : AW SH ad nL res Γ (pc) lv (.int x :: st) h := a_istore hG d hn (hl2 x) (k x hd)
theorem a_lstore_nN (hG : Cx SH ad wad cc nL own rt n Γ) {α : Type} {q : α} {K : Int64 → Option α} {i : Nat} {x : Int64} {k4 : Fin 4} (hd : bl x K = some q) (d : decode cc pc = .ok (.lstore_n k4, 1)) (hi : (k4 : Nat) = i) (hn : i + 1 < nL) {lf : Int64 → List (Nat × Value)} (hl2 : ∀ x : Int64, (i, Value.long x) :: lv.filter (fun q => !(q.1 == i) && (!(q.1 == i + 1) && !(q.1 + 1 == i && q.2.category == 2))) = lf x) (k : ∀ v : Int64, K v = some q → AW SH ad nL res Γ (pc + 1) (lf v) (st) h) : AW SH ad nL res Γ (pc) lv (.long x :: st) h := a_lstore_n hG d hi hn (hl2 x) (k x hd)
theorem a_iincN (hG : Cx SH ad wad cc nL own rt n Γ) {α : Type} {q : α} {K : Int32 → Option α} {i : Nat} {z : Int} {x c0 : Int32} (k0 : Nat) (hk : lv[k0]? = some (i, .int x)) (hd : bl (x + c0) K = some q) (d : decode cc pc = .ok (.iinc i z, 3)) (hv : Int32.ofInt z = c0) (hn : i < nL) {lf : Int32 → List (Nat × Value)} (hl2 : ∀ x : Int32, (i, Value.int x) :: lv.filter (fun q => !(q.1 == i) && !(q.1 + 1 == i && q.2.category == 2)) = lf x) (k : ∀ v : Int32, K v = some q → AW SH ad nL res Γ (pc + 3) (lf v) (st) h) : AW SH ad nL res Γ (pc) lv (st) h := a_iinc hG k0 hk d (by rw [hv]) hn (hl2 _) (k _ hd)
theorem sw_ne {x c : Int32} {z : Int} (hz : c.toInt = z) (h : ¬ x = c) : x.toInt ≠ z := fun e => h (Int32.toInt_inj.mp (e.trans hz.symm))
theorem a_tcase (hG : Cx SH ad wad cc nL own rt n Γ) {α : Type} {A B : Option α} {q : α} {x : Int32} (c0 : Int32) {dflt lo hi off : Int} {offs : Array Int} {len tgt : Nat} (hd : (if x = c0 then A else B) = some q) (d : decode cc pc = .ok (.tableswitch dflt lo hi offs, len)) (h1 : ¬ c0.toInt < lo) (h2 : ¬ hi < c0.toInt) (ho : offs[(c0.toInt - lo).toNat]? = some off) (ht : (pc : Int) + off = (tgt : Int)) (kt : A = some q → AW SH ad nL res Γ (tgt) lv (st) h) (kf : ¬ x = c0 → B = some q → AW SH ad nL res Γ (pc) lv (.int x :: st) h) : AW SH ad nL res Γ (pc) lv (.int x :: st) h := by
  by_cases e : x = c0
  · subst e
    have hA := kt ((if_pos rfl).symm.trans hd)
    clear kt kf
    obtain ⟨p, l, e, R, s, m, args, below, meth, c, cy, D⟩ := Γ
    obtain ⟨hx, hb, hml, hown, hts, hlo, hr, hK, hZ, hR, hI⟩ := hG
    intro H locs ls hl hP hS
    exact lv_tableIn hx hb d h1 h2 ho ht (hA H locs ls hl hP hS)
  · exact kf e ((if_neg e).symm.trans hd)
theorem a_tdef (hG : Cx SH ad wad cc nL own rt n Γ) {x : Int32} {dflt lo hi : Int} {offs : Array Int} {len tgt : Nat} (d : decode cc pc = .ok (.tableswitch dflt lo hi offs, len)) (h1 : x.toInt < lo ∨ hi < x.toInt) (ht : (pc : Int) + dflt = (tgt : Int)) (k : AW SH ad nL res Γ (tgt) lv (st) h) : AW SH ad nL res Γ (pc) lv (.int x :: st) h := by
  obtain ⟨p, l, e, R, s, m, args, below, meth, c, cy, D⟩ := Γ
  obtain ⟨hx, hb, hml, hown, hts, hlo, hr, hK, hZ, hR, hI⟩ := hG
  intro H locs ls hl hP hS
  exact lv_tableOut hx hb d h1 ht (k H locs ls hl hP hS)
theorem a_min (hG : Cx SH ad wad cc nL own rt n Γ) {x y : Int32} {ix : Nat} (hlk : Cond.methodLink own ix Lib.Math.min.name ∈ TB) (hst : Cond.static Lib.Math.min.name ∈ TB) (hin : Cond.initialized "java/lang/Math" ∈ TB) (hcd : Cond.code Lib.Math.min.name Lib.Math.min.code 2 (some .int) ∈ TB) (hn : 1 ≤ n) (hw : (st.map fun v => v.category).sum ≤ 8) (d : decode cc pc = .ok (.invokestatic ix, 3)) (k : AW SH ad nL res Γ (pc + 3) lv (.int (if y < x then y else x) :: st) h) : AW SH ad nL res Γ (pc) lv (.int y :: .int x :: st) h := by
  obtain ⟨p, l, e, R, s, m, args, below, meth, c, cy, D⟩ := Γ
  obtain ⟨hx, hb, hml, hown, hts, hlo, hr, hK, hZ, hR, hI⟩ := hG
  intro H locs ls hl hP hS
  subst hR
  exact va_mmin hx hb (by rw [hl.1]; exact hml) hown (hts _ hlk) (hts _ hst) (hts _ hin) (hts _ hcd) hn (by show _ + 13 ≤ 40 * n; omega) (Nat.le_refl 0) (Nat.le_refl 0) d (k H locs ls hl hP hS)
theorem a_cpI (hG : Cx SH ad wad cc nL own rt n Γ) {α : Type} {q : α} {K : HS → Option α} {i j N0 N1 ix : Nat} {z : Int32} (k0 : Nat) (hs0 : SH[i]? = some (.inl (0, 1, N0))) (hs1 : SH[j]? = some (.inl (0, 1, N1))) (hz : z.toNatClampNeg = k0) (hz0 : ¬ z < 0) (hk0 : k0 ≤ N0) (hk1 : k0 ≤ N1) (hlk : Cond.methodLink own ix arraycopyName ∈ TB) (hnt : Cond.native arraycopyName ∈ TB) (hst : Cond.static arraycopyName ∈ TB) (hin : Cond.initialized "java/lang/System" ∈ TB) (hn : 1 ≤ n) (hw : (st.map fun v => v.category).sum ≤ 8) (hd : bl (cI h i j 0 0 k0) K = some q) (d : decode cc pc = .ok (.invokestatic ix, 3)) (k : ∀ h2 : HS, K h2 = some q → AW SH ad nL res Γ (pc + 3) lv (st) h2) : AW SH ad nL res Γ (pc) lv (.int z :: .int 0 :: .ref (ad j) :: .int 0 :: .ref (ad i) :: st) h := by
  obtain ⟨p, l, e, R, s, m, args, below, meth, c, cy, D⟩ := Γ
  obtain ⟨hx, hb, hml, hown, hts, hlo, hr, hK, hZ, hR, hI⟩ := hG
  intro H locs ls hl hP hS
  subst hR
  subst hz
  have hnw : nativeFrameWords "java/lang/System" "arraycopy" 5 + 11 ≤ 32 := by decide
  refine va_copyi (ty := .int) hx hb (by rw [hl.1]; exact hml) hown (hts _ hlk) (hts _ hnt) (hts _ hst) (hts _ hin) hK hP (wl_D hI cy h s.heap.size) hS i j 1 1 (wl_get hs0) (wl_get hs1) rfl rfl rfl (by decide) (by decide) hz0 (by show 0 + _ ≤ _; omega) (by show 0 + _ ≤ _; omega) (fun _ _ => rfl) hn (by show _ + _ ≤ 40 * n; omega) d (fun H1 locs1 hP1 hD1 hS1 => ?_)
  have e2 := wl_set (ad := ad) (cy := cy) (h := h) (h' := cI h i j 0 0 z.toNatClampNeg) (e := ce ad cy (cI h i j 0 0 z.toNatClampNeg) j (.inl (0, 1, N1))) hs1 (fun j hj => by simp only [cI]; rw [if_neg hj]) (fun _ _ => rfl) rfl
  have e3 : ce ad cy (cI h i j 0 0 z.toNatClampNeg) j (.inl (0, 1, N1)) = .inl (cy 1, N1, .inl (va_cpy (h.1 i) (h.1 j) 0 0 z.toNatClampNeg)) := by simp only [ce, cI, if_true]
  rw [e3] at e2
  exact k _ hd H1 locs1 ls hl (by rw [← e2]; exact hP1) hS1
theorem a_cpL (hG : Cx SH ad wad cc nL own rt n Γ) {α : Type} {q : α} {K : HS → Option α} {i j N0 N1 ix : Nat} {z : Int32} (k0 : Nat) (hs0 : SH[i]? = some (.inl (1, 2, N0))) (hs1 : SH[j]? = some (.inl (1, 2, N1))) (hz : z.toNatClampNeg = k0) (hz0 : ¬ z < 0) (hk0 : k0 ≤ N0) (hk1 : k0 ≤ N1) (hlk : Cond.methodLink own ix arraycopyName ∈ TB) (hnt : Cond.native arraycopyName ∈ TB) (hst : Cond.static arraycopyName ∈ TB) (hin : Cond.initialized "java/lang/System" ∈ TB) (hn : 1 ≤ n) (hw : (st.map fun v => v.category).sum ≤ 8) (hd : bl (cL h i j 0 0 k0) K = some q) (d : decode cc pc = .ok (.invokestatic ix, 3)) (k : ∀ h2 : HS, K h2 = some q → AW SH ad nL res Γ (pc + 3) lv (st) h2) : AW SH ad nL res Γ (pc) lv (.int z :: .int 0 :: .ref (ad j) :: .int 0 :: .ref (ad i) :: st) h := by
  obtain ⟨p, l, e, R, s, m, args, below, meth, c, cy, D⟩ := Γ
  obtain ⟨hx, hb, hml, hown, hts, hlo, hr, hK, hZ, hR, hI⟩ := hG
  intro H locs ls hl hP hS
  subst hR
  subst hz
  have hnw : nativeFrameWords "java/lang/System" "arraycopy" 5 + 11 ≤ 32 := by decide
  refine va_copyl (ty := .long) hx hb (by rw [hl.1]; exact hml) hown (hts _ hlk) (hts _ hnt) (hts _ hst) (hts _ hin) hK hP (wl_D hI cy h s.heap.size) hS i j 2 2 (wl_get hs0) (wl_get hs1) rfl rfl rfl (by decide) (by decide) hz0 (by show 0 + _ ≤ _; omega) (by show 0 + _ ≤ _; omega) (fun _ _ => rfl) hn (by show _ + _ ≤ 40 * n; omega) d (fun H1 locs1 hP1 hD1 hS1 => ?_)
  have e2 := wl_set (ad := ad) (cy := cy) (h := h) (h' := cL h i j 0 0 z.toNatClampNeg) (e := ce ad cy (cL h i j 0 0 z.toNatClampNeg) j (.inl (1, 2, N1))) hs1 (fun _ _ => rfl) (fun j hj => by simp only [cL]; rw [if_neg hj]) rfl
  have e3 : ce ad cy (cL h i j 0 0 z.toNatClampNeg) j (.inl (1, 2, N1)) = .inl (cy 2, N1, .inr (.inl (va_cpy (h.2 i) (h.2 j) 0 0 z.toNatClampNeg))) := by simp only [ce, cL, if_true]
  rw [e3] at e2
  exact k _ hd H1 locs1 ls hl (by rw [← e2]; exact hP1) hS1
theorem a_gsW (hG : Cx SH ad wad cc nL own rt n Γ) {ix : Nat} (w : Nat) (hw : w < 23) (hlk : Cond.fieldLink own ix RX10 (WN.getD w "") WD ∈ TB) (d : decode cc pc = .ok (.getstatic ix, 3)) (k : AW SH ad nL res Γ (pc + 3) lv (.ref (wad w) :: st) h) : AW SH ad nL res Γ (pc) lv (st) h := by
  obtain ⟨p, l, e, R, s, m, args, below, meth, c, cy, D⟩ := Γ
  obtain ⟨hx, hb, hml, hown, hts, hlo, hr, hK, hZ, hR, hI⟩ := hG
  intro H locs ls hl hP hS
  exact va_gets hx hb (hZ.1 w hw).1 hS hown (hts _ hlk) (fun _ z => z) d (k H locs ls hl hP hS)
theorem a_gsA (hG : Cx SH ad wad cc nL own rt n Γ) {ix : Nat} (hlk : Cond.fieldLink own ix RX10 "ALL" WA ∈ TB) (d : decode cc pc = .ok (.getstatic ix, 3)) (k : AW SH ad nL res Γ (pc + 3) lv (.ref (wad 23) :: st) h) : AW SH ad nL res Γ (pc) lv (st) h := by
  obtain ⟨p, l, e, R, s, m, args, below, meth, c, cy, D⟩ := Γ
  obtain ⟨hx, hb, hml, hown, hts, hlo, hr, hK, hZ, hR, hI⟩ := hG
  intro H locs ls hl hP hS
  exact va_gets hx hb hZ.2.1 hS hown (hts _ hlk) (fun _ z => z) d (k H locs ls hl hP hS)
theorem a_lenA (hG : Cx SH ad wad cc nL own rt n Γ) (d : decode cc pc = .ok (.arraylength, 1)) (k : AW SH ad nL res Γ (pc + 1) lv (.int 23 :: st) h) : AW SH ad nL res Γ (pc) lv (.ref (wad 23) :: st) h := by
  obtain ⟨p, l, e, R, s, m, args, below, meth, c, cy, D⟩ := Γ
  obtain ⟨hx, hb, hml, hown, hts, hlo, hr, hK, hZ, hR, hI⟩ := hG
  intro H locs ls hl hP hS
  exact va_tlen hx hb hZ.2.2 hS (v := 23) rfl d (k H locs ls hl hP hS)
theorem a_aldA (hG : Cx SH ad wad cc nL own rt n Γ) {α : Type} {A : Option α} {q : α} {x : Int32} (hd : (if inb x 23 = true then A else none) = some q) (d : decode cc pc = .ok (.aaload, 1)) (k : x.toNatClampNeg < 23 → A = some q → AW SH ad nL res Γ (pc + 1) lv (.ref (wad x.toNatClampNeg) :: st) h) : AW SH ad nL res Γ (pc) lv (.int x :: .ref (wad 23) :: st) h := by
  obtain ⟨h1, h2⟩ := ite_some hd
  have h3 : x.toNatClampNeg < 23 := by
    unfold inb at h1
    simp only [Bool.and_eq_true, decide_eq_true_eq] at h1
    exact h1.2
  have hA := k h3 h2
  obtain ⟨p, l, e, R, s, m, args, below, meth, c, cy, D⟩ := Γ
  obtain ⟨hx, hb, hml, hown, hts, hlo, hr, hK, hZ, hR, hI⟩ := hG
  intro H locs ls hl hP hS
  exact vb_tq hx hb hZ.2.2 hS (inb_in h1) rfl d (hA H locs ls hl hP hS)
theorem a_getW (hG : Cx SH ad wad cc nL own rt n Γ) {ix w : Nat} (hw : w < 23) (hlk : Cond.fieldLink own ix RX10 "letters" "J" ∈ TB) (d : decode cc pc = .ok (.getfield ix, 3)) (k : AW SH ad nL res Γ (pc + 3) lv (.long (WL.getD w 0) :: st) h) : AW SH ad nL res Γ (pc) lv (.ref (wad w) :: st) h := by
  obtain ⟨p, l, e, R, s, m, args, below, meth, c, cy, D⟩ := Γ
  obtain ⟨hx, hb, hml, hown, hts, hlo, hr, hK, hZ, hR, hI⟩ := hG
  intro H locs ls hl hP hS
  obtain ⟨cf, kf, fi, f, cell, h1, h2, h3, h4, h5, h6⟩ := (hZ.1 w hw).2.2.kept hS.2.1
  exact W.getf hx hb hown (hts _ hlk) h1 h2 h3 h4 h5 rfl rfl d (k H locs ls hl hP hS)
theorem a_aldR (hG : Cx SH ad wad cc nL own rt n Γ) {α : Type} {A : Option α} {q : α} {i b N : Nat} (hs : SH[i]? = some (.inl (b + 2, 4, N))) {x : Int32} (hd : (if inb x N = true then A else none) = some q) (d : decode cc pc = .ok (.aaload, 1)) (k : x.toNatClampNeg < N → A = some q → AW SH ad nL res Γ (pc + 1) lv (.ref (ad (b + x.toNatClampNeg)) :: st) h) : AW SH ad nL res Γ (pc) lv (.int x :: .ref (ad i) :: st) h := by
  obtain ⟨h1, h2⟩ := ite_some hd
  have h3 : x.toNatClampNeg < N := by
    unfold inb at h1
    simp only [Bool.and_eq_true, decide_eq_true_eq] at h1
    exact h1.2
  have hA := k h3 h2
  obtain ⟨p, l, e, R, s, m, args, below, meth, c, cy, D⟩ := Γ
  obtain ⟨hx, hb, hml, hown, hts, hlo, hr, hK, hZ, hR, hI⟩ := hG
  intro H locs ls hl hP hS
  have hin := inb_in h1
  exact W.aald (v := va_rf (some (ad (b + x.toNatClampNeg)))) (ty := .array .int) hx hb (hP i _ (wl_get hs)) ((hK.2 4 _ rfl).1 N (fun j => va_rf (some (ad (b + j))))) rfl (fun q => by cases q) (by show ¬ (x < 0 ∨ (arrV _ _ _).slots.size ≤ _); rw [arrV_size]; exact hin) (by show (arrV _ _ _).slots[_]? = _; rw [arrV_read _ _ h3]) rfl rfl d (hA H locs ls hl hP hS)
theorem a_ldc (hG : Cx SH ad wad cc nL own rt n Γ) {ix : Nat} {v : Int32} (hlk : Cond.constant own ix v ∈ TB) (d : decode cc pc = .ok (.ldc ix, 2)) (k : AW SH ad nL res Γ (pc + 2) lv (.int v :: st) h) : AW SH ad nL res Γ (pc) lv (st) h := by
  obtain ⟨p, l, e, R, s, m, args, below, meth, c, cy, D⟩ := Γ
  obtain ⟨hx, hb, hml, hown, hts, hlo, hr, hK, hZ, hR, hI⟩ := hG
  intro H locs ls hl hP hS
  exact lv_ldc hx hb hown (hts _ hlk) d (k H locs ls hl hP hS)
theorem a_ldc_w (hG : Cx SH ad wad cc nL own rt n Γ) {ix : Nat} {v : Int32} (hlk : Cond.constant own ix v ∈ TB) (d : decode cc pc = .ok (.ldc_w ix, 3)) (k : AW SH ad nL res Γ (pc + 3) lv (.int v :: st) h) : AW SH ad nL res Γ (pc) lv (st) h := by
  obtain ⟨p, l, e, R, s, m, args, below, meth, c, cy, D⟩ := Γ
  obtain ⟨hx, hb, hml, hown, hts, hlo, hr, hK, hZ, hR, hI⟩ := hG
  intro H locs ls hl hP hS
  exact lv_ldcw hx hb hown (hts _ hlk) d (k H locs ls hl hP hS)
theorem a_ldc2_w (hG : Cx SH ad wad cc nL own rt n Γ) {ix : Nat} {v : Int64} (hlk : Cond.constantLong own ix v ∈ TB) (d : decode cc pc = .ok (.ldc2_w ix, 3)) (k : AW SH ad nL res Γ (pc + 3) lv (.long v :: st) h) : AW SH ad nL res Γ (pc) lv (st) h := by
  obtain ⟨p, l, e, R, s, m, args, below, meth, c, cy, D⟩ := Γ
  obtain ⟨hx, hb, hml, hown, hts, hlo, hr, hK, hZ, hR, hI⟩ := hG
  intro H locs ls hl hP hS
  exact lv_ldc2 hx hb hown (hts _ hlk) d (k H locs ls hl hP hS)
end AR
