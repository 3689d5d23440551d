/-! ===== new int[8][91]: one outer array, and its eight rows behind it ===== -/
def mo (cA : ClassId) (a i : Nat) : Cell := arrV cA 8 (fun j => if j < i then .ref (a + 1 + j) else .null)
def mi (cB : ClassId) : Cell := arrV cB 91 (fun _ => .int 0)
theorem mo_next (cA : ClassId) (a i : Nat) : (mo cA a i).setSlot i (.ref (a + 1 + i)) = mo cA a (i + 1) := by
  unfold mo
  rw [arrV_store]
  congr 1
  funext j
  unfold updV
  by_cases e : j = i
  · subst e
    rw [if_pos rfl, if_pos (by omega)]
  · rw [if_neg e]
    by_cases h : j < i
    · show (if j < i then Value.ref (a + 1 + j) else Value.null) = _
      rw [if_pos h, if_pos (by omega)]
    · show (if j < i then Value.ref (a + 1 + j) else Value.null) = _
      rw [if_neg h, if_neg (by omega)]
/-- the state behind the outer array and the first i rows -/
def mg (cA cB : ClassId) (S : State) : Nat → State
  | 0 => S.pushCell (mo cA S.heap.size 0)
  | i + 1 => ((mg cA cB S i).pushCell (mi cB)).setCell S.heap.size ((mo cA S.heap.size i).setSlot i (.ref (S.heap.size + 1 + i)))
theorem mg_at (cA cB : ClassId) (S : State) : ∀ i : Nat, (mg cA cB S i).heap.size = S.heap.size + 1 + i ∧ (mg cA cB S i).heap[S.heap.size]? = some (mo cA S.heap.size i) ∧ (∀ j, j < i → (mg cA cB S i).heap[S.heap.size + 1 + j]? = some (mi cB)) ∧ (∀ q, q < S.heap.size → (mg cA cB S i).heap[q]? = S.heap[q]?) ∧ (mg cA cB S i).vm = S.vm ∧ (mg cA cB S i).slotsUsed = S.slotsUsed + 8 + 91 * i
  | 0 => by
    refine ⟨by simp [mg], by simp [mg], fun j hj => absurd hj (Nat.not_lt_zero j), fun q hq => ?_, rfl, ?_⟩
    · show (S.heap.push _)[q]? = _
      rw [Array.getElem?_push, if_neg (Nat.ne_of_lt hq)]
    · show S.slotsUsed + (mo cA S.heap.size 0).slots.size = _
      unfold mo
      rw [arrV_size]
  | i + 1 => by
    obtain ⟨h1, h2, h3, h4, h5, h6⟩ := mg_at cA cB S i
    have hh : ∀ q : Nat, (mg cA cB S (i + 1)).heap[q]? = if S.heap.size = q then some (mo cA S.heap.size (i + 1)) else if q = S.heap.size + 1 + i then some (mi cB) else (mg cA cB S i).heap[q]? := by
      intro q
      show (((mg cA cB S i).heap.push (mi cB)).setIfInBounds S.heap.size ((mo cA S.heap.size i).setSlot i (.ref (S.heap.size + 1 + i))))[q]? = _
      rw [Array.getElem?_setIfInBounds, mo_next, Array.getElem?_push, Array.size_push, h1]
      by_cases e : S.heap.size = q
      · rw [if_pos e, if_pos e, if_pos (by omega)]
      · rw [if_neg e, if_neg e]
    refine ⟨?_, ?_, fun j hj => ?_, fun q hq => ?_, h5, ?_⟩
    · show (((mg cA cB S i).heap.push (mi cB)).setIfInBounds S.heap.size _).size = _
      rw [Array.size_setIfInBounds, Array.size_push, h1]
      omega
    · rw [hh, if_pos rfl]
    · rw [hh, if_neg (by omega)]
      by_cases e : j = i
      · rw [if_pos (by omega)]
      · rw [if_neg (by omega)]
        exact h3 j (by omega)
    · rw [hh, if_neg (by omega), if_neg (by omega)]
      exact h4 q hq
    · show (mg cA cB S i).slotsUsed + (mi cB).slots.size = _
      rw [h6]
      unfold mi
      rw [arrV_size]
      omega
theorem mg_setTop (cA cB : ClassId) (S : State) (f : JFrame) : ∀ i : Nat, mg cA cB (S.setTop f) i = (mg cA cB S i).setTop f
  | 0 => rfl
  | i + 1 => by
    show ((mg cA cB (S.setTop f) i).pushCell (mi cB)).setCell _ _ = _
    rw [mg_setTop cA cB S f i]
    rfl
theorem mg_over {args : Array Value} {s : State} (h : (Cond.arrayOver (.array .int)).before args s = true) : MO s := by
  have h := (show (Cond.arrayOver (.array .int)).holds args s none s [] = true from h)
  simp only [Cond.holds, Cond.value, beq_iff_eq] at h
  cases hc : s.vm.findClass (FieldType.array .int).toString with
  | none => simp [hc] at h
  | some cB =>
    simp only [hc, Option.bind_some, Option.bind_eq_some_iff, Option.map_eq_some_iff] at h
    obtain ⟨cA, hi, kA, hk, hb⟩ := h
    have hp := (Array.findIdx?_eq_some_iff_getElem.mp hi).2.1
    rw [show s.vm.classes[cA]'_ = kA from (Array.getElem?_eq_some_iff.mp hk).2] at hp
    cases hkd : kA.kind with
    | array c2 ty =>
      rw [hkd] at hb hp
      simp at hb hp
      have e0 : (FieldType.array .int).toString = "[I" := by decide +kernel
      refine ⟨cB, cA, kA, by rw [← e0]; exact hc, hb.2, hk, ?_⟩
      rw [hkd, hp, hb.1]
    | _ => rw [hkd] at hb; simp at hb
section MW
variable {E : CtlPost} {e : Env} {d : Bool} {acts : List Action} {S : State}
/-- one array of default values -/
theorem mw_one {c c2 : ClassId} {k : Class} {ty : FieldType} {N : Nat} {v : Value} (hk : S.vm.classes[c]? = some k) (hkd : k.kind = .array c2 ty) (hl : ¬ N > e.platform.arrayLengthLimit) (hb : ¬ N * componentBytes ty > e.platform.maxHeapBytes) (hf : fits ty v = true) (hv : v.isDefault = true) (h1 : S.heap.size < e.platform.maxCells) (h2 : S.slotsUsed + N ≤ e.platform.maxSlots) {Q : Addr → Pre} (hq : Q S.heap.size d acts (S.pushCell (arrV c N (fun _ => v)))) : wp (Jvm.newArray c N v) Q E e d acts S := by
  have hfit : ∀ i x, (Array.replicate N v)[i]? = some x → S.fitsSlot c .none i x = true := fun i x hx => by
    rw [Array.getElem?_replicate] at hx
    split at hx
    · cases hx
      simp [State.fitsSlot, State.slotType?, hk, hkd, hf]
    · cases hx
  have hdef : allocActs (Array.replicate N v) S.heap.size acts = acts := by
    unfold allocActs
    rw [if_pos (by rw [Array.all_replicate]; split <;> simp [hv])]
  rw [← arrV_new] at hq
  simp only [Jvm.newArray, Jvm.arrayFits, wp_bind', W.ask, W.ite, hl, if_false, wp_pure', W.theClass, hk, hkd, hb, W.alloc, W.stop, Option.some.injEq, exists_eq_left', Array.size_replicate, hdef]
  rw [if_neg (by omega)]
  exact ⟨h1, h2, hfit, hq⟩
/-- the loop over the rows -/
theorem mw_loop {cA cB : ClassId} {f : Nat → PUnit → Sem (ForInStep PUnit)} (hf : ∀ (i : Nat), i < 8 → ∀ (d : Bool) (acts : List Action) (Q : ForInStep PUnit → Pre), (∀ d acts, Q (.yield PUnit.unit) d acts (mg cA cB S (i + 1))) → wp (f i PUnit.unit) Q E e d acts (mg cA cB S i)) : ∀ (k i : Nat), i + k = 8 → ∀ (d : Bool) (acts : List Action) (Q : PUnit → Pre), (∀ d acts, Q PUnit.unit d acts (mg cA cB S 8)) → wp (forIn (List.range' i k 1) PUnit.unit f) Q E e d acts (mg cA cB S i)
  | 0, i, h, d, acts, Q, hq => by
    obtain rfl : i = 8 := by omega
    simp only [List.range'_zero, List.forIn_nil, wp_pure']
    exact hq d acts
  | k + 1, i, h, d, acts, Q, hq => by
    rw [List.range'_succ]
    simp only [List.forIn_cons, wp_bind']
    exact hf i (by omega) d acts _ (fun d acts => mw_loop hf k (i + 1) (by omega) d acts Q hq)
theorem mw_make {cA cB cC : ClassId} {kA kB : Class} (hA : S.vm.classes[cA]? = some kA) (hkA : kA.kind = .array cB (.array .int)) (hB : S.vm.classes[cB]? = some kB) (hkB : kB.kind = .array cC .int) (hl : 1000 ≤ e.platform.arrayLengthLimit) (hb : 1000 ≤ e.platform.maxHeapBytes) (h1 : S.heap.size + 9 ≤ e.platform.maxCells) (h2 : S.slotsUsed + 736 ≤ e.platform.maxSlots) {Q : Addr → Pre} (hq : ∀ d acts, Q S.heap.size d acts (mg cA cB S 8)) : wp (multianewarray.make cA [8, 91]) Q E e d acts S := by
  have n8 : Int32.toNatClampNeg 8 = 8 := by decide
  have n91 : Int32.toNatClampNeg 91 = 91 := by decide
  rw [multianewarray.make]
  simp only [wp_bind', W.ite, show ¬ (8 : Int32) < 0 by decide, if_false, wp_pure', W.theClass, hA, hkA, Option.some.injEq, exists_eq_left', n8]
  refine mw_one hA hkA (by omega) (by show ¬ 8 * 4 > _; omega) rfl rfl (by omega) (by omega) ?_
  simp only [show ([(91 : Int32)].find? (· < 0)) = none by decide, show ((8 : Int32) == 0) = false by decide, Bool.false_eq_true, if_false, wp_bind', wp_pure']
  rw [Std.Legacy.Range.forIn_eq_forIn_range', show ([:8] : Std.Legacy.Range).size = 8 by decide]
  refine mw_loop (S := S) (cA := cA) (cB := cB) ?_ 8 0 rfl d acts _ (fun d acts => ?_)
  · intro i hi d acts Q' hn
    obtain ⟨g1, g2, g3, g4, g5, g6⟩ := mg_at cA cB S i
    rw [multianewarray.make]
    simp only [wp_bind', W.ite, show ¬ (91 : Int32) < 0 by decide, if_false, wp_pure', W.theClass, g5, hB, hkB, Option.some.injEq, exists_eq_left', n91]
    refine mw_one (by rw [g5]; exact hB) hkB (by omega) (by show ¬ 91 * 4 > _; omega) rfl rfl (by omega) (by omega) ?_
    simp only [wp_bind', W.writeLoc, wp_pure']
    refine ⟨mo cA S.heap.size i, ?_, by simp [mo, arrV], by unfold mo; rw [arrV_size]; exact hi, ?_, ?_⟩
    · show ((mg cA cB S i).heap.push _)[_]? = _
      rw [Array.getElem?_push, if_neg (by omega)]
      exact g2
    · show State.fitsSlot _ cA .none i _ = true
      simp [State.fitsSlot, State.slotType?, g5, hA, hkA, fits]
    · rw [g1]
      exact hn _ _
  · simp only [wp_pure']
    exact hq d acts
end MW
section MST
variable {p : Program} {l : Launch} {e : Env} {R : Room} {s : State} {m : MethodId} {args : Array Value} {below : List Frame} {meth : Method} {c : Code} {T : State} {locs : List Loc} {cells slots : Nat}
theorem mg_stand (X : Stand p l e R s m args below meth c T locs cells slots) (cA cB : ClassId) : ∀ i : Nat, ∃ L : List Loc, (∀ q ∈ L, q.base = T.heap.size) ∧ Stand p l e R s m args below meth c (mg cA cB T i) (locs ++ L) (cells + 1 + i) (slots + 8 + 91 * i)
  | 0 => by
    have h := X.pushed (mo cA T.heap.size 0)
    rw [show (mo cA T.heap.size 0).slots.size = 8 by unfold mo; rw [arrV_size]] at h
    exact ⟨[], fun q hq => absurd hq List.not_mem_nil, by rw [List.append_nil]; exact h⟩
  | i + 1 => by
    obtain ⟨L, hL, Xi⟩ := mg_stand X cA cB i
    obtain ⟨g1, g2, g3, g4, g5, g6⟩ := mg_at cA cB T i
    have hc : ((mg cA cB T i).pushCell (mi cB)).heap[T.heap.size]? = some (mo cA T.heap.size i) := by
      show ((mg cA cB T i).heap.push _)[_]? = _
      rw [Array.getElem?_push, if_neg (by omega)]
      exact g2
    have h := (Xi.pushed (mi cB)).stored hc i (.ref (T.heap.size + 1 + i))
    rw [show (mi cB).slots.size = 91 by unfold mi; rw [arrV_size], List.append_assoc] at h
    refine ⟨L ++ [⟨T.heap.size, i⟩], fun q hq => ?_, ?_⟩
    · rcases List.mem_append.mp hq with hq | hq
      · exact hL q hq
      · rw [List.mem_singleton.mp hq]
    · rw [show cells + 1 + (i + 1) = cells + 1 + i + 1 by omega, show slots + 8 + 91 * (i + 1) = slots + 8 + 91 * i + 91 by omega]
      exact h
theorem mg_step (X : Stand p l e R s m args below meth c T locs cells slots) (hexec : p.tables.exec = Jvm.exec) {own : String} {index : Nat} (hown : s.vm.findClass own = some m.cls) (hcl : (Cond.classLink own index "[[I").before args s = true) (hov : MO s) (har : (Cond.arrayClass .int).before args s = true)
    {g : JFrame} (hg : g.method = m) (hdg : decode c.code g.pc = .ok (.multianewarray index 2, 4)) {rest : List Value} (hst : g.stack = .int 91 :: .int 8 :: rest) (hcells : cells + 9 ≤ R.cells) (hslots : slots + 736 ≤ R.slots) :
    ∃ (vm1 : Vm) (cA cB : ClassId) (L : List Loc), (∀ q ∈ L, q.base = T.heap.size) ∧ s.vm.findClass "[[I" = some cA ∧ s.vm.findClass "[I" = some cB ∧ ArrOfT s cA (.array .int) ∧ ArrOfT s cB .int ∧ Stand p l e R s m args below meth c (mg cA cB (T.setVm vm1) 8) (locs ++ L) (cells + 9) (slots + 736) ∧
      ∀ target, Steps p.tables e below ((mg cA cB (T.setVm vm1) 8).setTop { g with pc := g.pc + 4, stack := .ref T.heap.size :: rest }) target → Steps p.tables e below (T.setTop g) target := by
  subst hg
  have hpl : e.platform.magicAccessors = ({} : Platform).magicAccessors := by rw [X.admits.platform]
  obtain ⟨cB, cA, kA, hfB, hfA, hA, hkA⟩ := hov
  obtain ⟨cB2, kB, cC, hfB2, hB, hkB⟩ := Cond.arrayClass_spec har
  obtain rfl : cB2 = cB := Option.some.inj (hfB2.symm.trans hfB)
  obtain ⟨c0, hf0, hl0⟩ := Cond.classLink_spec hown hcl e.platform hpl
  obtain rfl : c0 = cA := Option.some.inj (hf0.symm.trans hfA)
  obtain ⟨hg1, hw1, hr1⟩ := State.classEntry (e := e) X.warmed hl0
  generalize T.vm.noted g.method.cls index (.cls c0) = vm1 at hg1 hw1 hr1
  have hal : s.vm.Alike vm1 := hw1.alike
  obtain ⟨kA1, hA1, eA⟩ := hal.2.2 _ _ hA
  obtain ⟨kB1, hB1, eB⟩ := hal.2.2 _ _ hB
  have X1 := X.noted hw1
  obtain ⟨r1, r2⟩ := X.roomAbove hcells hslots
  obtain ⟨L, hL, X8⟩ := mg_stand X1 c0 cB2 8
  refine ⟨vm1, c0, cB2, L, hL, hfA, hfB, fun n z => ⟨fun k h => (by cases h), kA, hA, cB2, hkA⟩, fun n z => ⟨fun k h => (by cases h), kB, hB, cC, hkB⟩, X8, fun target hrest => ?_⟩
  jvm_step X.here [hexec, hdg]
  simp only [multianewarray.sem, wp_bind', W.resolveClassAt_links (State.method?_setTop g X.here.top) hg1]
  rw [W.popN, if_neg (by decide)]
  refine ⟨g, State.topJava?_setTop' (s := T.setVm vm1) g X.here.top, [.int 8, .int 91], rest, rfl, hst, ?_⟩
  simp only [List.mapM_cons, List.mapM_nil, wp_bind', wp_pure']
  refine mw_make (S := ((T.setTop g).setVm vm1).setTop { g with stack := rest }) (kA := kA1) (kB := kB1) (cB := cB2) (cC := cC) hA1 (by rw [eA]; exact hkA) hB1 (by rw [eB]; exact hkB) (by rw [Launch.admits_arrayLengthLimit X.admits]; omega) (by rw [Launch.admits_maxHeapBytes X.admits]; omega) r1 r2 (fun d' acts' => ?_)
  rw [show ((T.setTop g).setVm vm1).setTop { g with stack := rest } = (T.setVm vm1).setTop { g with stack := rest } from by show ((T.setVm vm1).setTop g).setTop _ = _; rw [State.setTop_setTop], mg_setTop]
  simp only [wp_bind', W.mark, W.pushRef, State.topJava?_setTop' _ X8.here.top, Option.some.injEq, exists_eq_left', State.setTop_setTop, State.heap_setTop]
  intro acts
  simp [jvm, X8.here.top]
  exact hrest
end MST
theorem x_multi {R : Room} {cc : ByteArray} {nL pc cells slots : Nat} {own : String} {Q : CtC → State → Prop} {Γ : CtC} {lv : List (Nat × Value)} {st : List Value} {ws : va_W} {tys : List (ClassId × FieldType)} (hG : CX cc nL own Γ) {index : Nat} (hcl : Cond.classLink own index "[[I" ∈ TB) (har : Cond.arrayClass .int ∈ TB) (hcells : cells + 9 ≤ R.cells) (hslots : slots + 736 ≤ R.slots) (d : decode cc pc = .ok (.multianewarray index 2, 4))
    (k : ∀ (q : Nat) (cA cB : ClassId), AC R nL Q Γ (pc + 4) lv (.ref q :: st) (ws ++ [(q, .inl (cA, 8, .inr (.inr (.inr (.inr (fun j => some (q + 1 + j))))))), (q + 1, .inl (cB, 91, .inl (fun _ => 0))), (q + 1 + 1, .inl (cB, 91, .inl (fun _ => 0))), (q + 1 + 2, .inl (cB, 91, .inl (fun _ => 0))), (q + 1 + 3, .inl (cB, 91, .inl (fun _ => 0))), (q + 1 + 4, .inl (cB, 91, .inl (fun _ => 0))), (q + 1 + 5, .inl (cB, 91, .inl (fun _ => 0))), (q + 1 + 6, .inl (cB, 91, .inl (fun _ => 0))), (q + 1 + 7, .inl (cB, 91, .inl (fun _ => 0)))]) (tys ++ [(cA, .array .int), (cB, .int)]) (cells + 9) (slots + 736)) : AC R nL Q Γ pc lv (.int 91 :: .int 8 :: st) ws tys cells slots := by
  obtain ⟨p, l, e, s, m, args, below, meth, c, D, A⟩ := Γ
  obtain ⟨hx, hb, hml, hown, hts, hlo, hr, hin, hA, hMO⟩ := hG
  intro H locs ls hl hP hD hK hS T hT X
  subst hT
  obtain ⟨vm1, cA, cB, L, hL, f1, f2, a1, a2, X8, step⟩ := mg_step X hx hown (hts _ hcl) hMO (hts _ har) (g := F0 m pc ls (.int 91 :: .int 8 :: st)) rfl (by rw [hb]; exact d) rfl hcells hslots
  obtain ⟨g1, g2, g3, g4, g5, g6⟩ := mg_at cA cB (T.setVm vm1) 8
  have eo : mo cA T.heap.size 8 = arrV cA 8 (fun j => va_rf (some (T.heap.size + 1 + j))) := by
    unfold mo arrV
    congr 1
  have g1 : (mg cA cB (T.setVm vm1) 8).heap.size = T.heap.size + 9 := g1
  have g4 : ∀ q, q < T.heap.size → (mg cA cB (T.setVm vm1) 8).heap[q]? = T.heap[q]? := g4
  have hk : ∀ (k : Nat) (x : Nat × va_E), ws[k]? = some x → (mg cA cB (T.setVm vm1) 8).heap[x.1]? = T.heap[x.1]? := fun k x hx => g4 x.1 ((hP k x hx).lt)
  have hlt : ∀ (k : Nat) (x : Nat × va_E), ws[k]? = some x → x.1 < T.heap.size := fun k x hx => (hP k x hx).lt
  have hn : ∀ (k : Nat) (x : Nat × va_E), ([(T.heap.size, .inl (cA, 8, .inr (.inr (.inr (.inr (fun j => some (T.heap.size + 1 + j))))))), (T.heap.size + 1, .inl (cB, 91, .inl (fun _ => 0))), (T.heap.size + 1 + 1, .inl (cB, 91, .inl (fun _ => 0))), (T.heap.size + 1 + 2, .inl (cB, 91, .inl (fun _ => 0))), (T.heap.size + 1 + 3, .inl (cB, 91, .inl (fun _ => 0))), (T.heap.size + 1 + 4, .inl (cB, 91, .inl (fun _ => 0))), (T.heap.size + 1 + 5, .inl (cB, 91, .inl (fun _ => 0))), (T.heap.size + 1 + 6, .inl (cB, 91, .inl (fun _ => 0))), (T.heap.size + 1 + 7, .inl (cB, 91, .inl (fun _ => 0)))] : va_W)[k]? = some x → x.1 = T.heap.size + k ∧ va_at D vwCl x (mg cA cB (T.setVm vm1) 8).heap := by
    intro k x hx
    have hk9 : k < 9 := (List.getElem?_eq_some_iff.mp hx).1
    rcases (show k = 0 ∨ k = 1 ∨ k = 2 ∨ k = 3 ∨ k = 4 ∨ k = 5 ∨ k = 6 ∨ k = 7 ∨ k = 8 by omega) with e | e | e | e | e | e | e | e | e <;> subst e <;> cases hx
    · exact ⟨rfl, by show (mg cA cB (T.setVm vm1) 8).heap[T.heap.size]? = some (vp_cell cA (8, .inr (.inr (.inr (.inr (fun j => some (T.heap.size + 1 + j))))))); rw [vp_cell_q, ← eo]; exact g2⟩
    · exact ⟨rfl, g3 0 (by omega)⟩
    · exact ⟨rfl, g3 1 (by omega)⟩
    · exact ⟨rfl, g3 2 (by omega)⟩
    · exact ⟨rfl, g3 3 (by omega)⟩
    · exact ⟨rfl, g3 4 (by omega)⟩
    · exact ⟨rfl, g3 5 (by omega)⟩
    · exact ⟨rfl, g3 6 (by omega)⟩
    · exact ⟨rfl, g3 7 (by omega)⟩
  refine Exists.imp (fun t ht => ⟨step t ht.1, ht.2⟩) (k T.heap.size cA cB (mg cA cB (T.setVm vm1) 8).heap (locs ++ L) ls hl ((hP.kept hk).app (fun k x hx => (hn k x hx).2)) ⟨fun i j x y hi hj exy => ?_, fun i x hi => ?_⟩ ⟨hK.1, fun i x hi => ?_⟩ ⟨by have := hS.1; omega, fun q h1 h2 => (g4 q (Nat.lt_of_lt_of_le h1 hS.1)).trans (hS.2.1 q h1 h2), fun q hq => ?_⟩ _ rfl X8)
  · by_cases h1 : i < ws.length
    · rw [List.getElem?_append_left h1] at hi
      by_cases h2 : j < ws.length
      · rw [List.getElem?_append_left h2] at hj
        exact hD.1 i j x y hi hj exy
      · rw [List.getElem?_append_right (by omega)] at hj
        have a := hlt i x hi
        have b := (hn _ y hj).1
        omega
    · rw [List.getElem?_append_right (by omega)] at hi
      by_cases h2 : j < ws.length
      · rw [List.getElem?_append_left h2] at hj
        have a := hlt j y hj
        have b := (hn _ x hi).1
        omega
      · rw [List.getElem?_append_right (by omega)] at hj
        have a := (hn _ x hi).1
        have b := (hn _ y hj).1
        omega
  · by_cases h1 : i < ws.length
    · rw [List.getElem?_append_left h1] at hi
      exact hD.2 i x hi
    · rw [List.getElem?_append_right (by omega)] at hi
      have a := (hn _ x hi).1
      have b := hS.1
      exact hA _ (by omega)
  · by_cases h1 : i < tys.length
    · rw [List.getElem?_append_left h1] at hi
      exact hK.2 i x hi
    · rw [List.getElem?_append_right (by omega)] at hi
      have h2 : i - tys.length < 2 := (List.getElem?_eq_some_iff.mp hi).1
      rcases (show i - tys.length = 0 ∨ i - tys.length = 1 by omega) with e | e <;> rw [e] at hi <;> cases hi
      · exact ⟨a1, f1⟩
      · exact ⟨a2, f2⟩
  · rcases List.mem_append.mp hq with h | h
    · exact hS.2.2 q h
    · rw [hL q h]
      exact hA _ hS.1
