def wayB (P : Pl) (A : Ab) (c s : Nat) : Bool := freeB P A c s && safeC P A c s
def ordS (T : Nat → Nat) (s : Nat) : Nat := (if s = 0 then 1 else 0) + (if s.testBit 0 = true then T (s ^^^ 2 ^ 0) else 0) + (if s.testBit 1 = true then T (s ^^^ 2 ^ 1) else 0) + (if s.testBit 2 = true then T (s ^^^ 2 ^ 2) else 0) + (if s.testBit 3 = true then T (s ^^^ 2 ^ 3) else 0) + (if s.testBit 4 = true then T (s ^^^ 2 ^ 4) else 0) + (if s.testBit 5 = true then T (s ^^^ 2 ^ 5) else 0)
def ordT (P : Pl) (A : Ab) (c : Nat) : Nat → Nat → Nat
  | 0 => fun _ => 0
  | n + 1 => fun i => if i = n then (if wayB P A c n = true then ordS (ordT P A c n) n else 0) else ordT P A c n i
def ord (P : Pl) (A : Ab) (c s : Nat) : Nat := ordT P A c 64 s
theorem ordT_st {P : Pl} {A : Ab} {c i s : Nat} (h : i < s) : ∀ j, ordT P A c (s + j) i = ordT P A c s i := by
  intro j
  induction j with
  | zero => rfl
  | succ j ih =>
    show (if i = s + j then _ else ordT P A c (s + j) i) = _
    rw [if_neg (by omega), ih]
theorem ordT_s2 {P : Pl} {A : Ab} {c i s t : Nat} (h : i < s) (h2 : s ≤ t) : ordT P A c t i = ordT P A c s i := by
  obtain ⟨j, rfl⟩ : ∃ j, t = s + j := ⟨t - s, by omega⟩
  exact ordT_st h j
theorem ordS_cg {T U : Nat → Nat} {s : Nat} (hs : s < 64) (h : ∀ i, i < s → T i = U i) : ordS T s = ordS U s := by
  have e : ∀ d, d < 6 → (if s.testBit d = true then T (s ^^^ 2 ^ d) else 0) = (if s.testBit d = true then U (s ^^^ 2 ^ d) else 0) := fun d hd => by
    by_cases q : s.testBit d = true
    · rw [if_pos q, if_pos q, h _ (pop_xor s hs d hd q).2]
    · rw [if_neg q, if_neg q]
  unfold ordS
  rw [e 0 (by omega), e 1 (by omega), e 2 (by omega), e 3 (by omega), e 4 (by omega), e 5 (by omega)]
theorem ord_rec {P : Pl} {A : Ab} {c s : Nat} (hs : s < 64) : ord P A c s = if wayB P A c s = true then ordS (ord P A c) s else 0 := by
  unfold ord
  rw [ordT_s2 (show s < s + 1 by omega) (by omega)]
  show (if s = s then _ else _) = _
  rw [if_pos rfl]
  by_cases q : wayB P A c s = true
  · rw [if_pos q, if_pos q]
    exact ordS_cg hs (fun i hi => (ordT_s2 hi (by omega)).symm)
  · rw [if_neg q, if_neg q]
theorem ord_le {P : Pl} {A : Ab} {c : Nat} : ∀ n s, s ≤ n → s < 64 → ord P A c s ≤ 7 ^ pop s := by
  intro n
  induction n with
  | zero =>
    intro s hs h6
    have : s = 0 := by omega
    subst this
    rw [ord_rec h6]
    split
    · exact Nat.le_refl 1
    · exact Nat.zero_le _
  | succ n ih =>
    intro s hs h6
    rw [ord_rec h6]
    by_cases e : s = 0
    · subst e
      split
      · exact Nat.le_refl 1
      · exact Nat.zero_le _
    split
    · have t : ∀ d, d < 6 → (if s.testBit d = true then ord P A c (s ^^^ 2 ^ d) else 0) ≤ (if s.testBit d = true then 1 else 0) * 7 ^ (pop s - 1) := fun d hd => by
        by_cases q : s.testBit d = true
        · have p := pop_xor s h6 d hd q
          have := ih _ (show s ^^^ 2 ^ d ≤ n by omega) (by omega)
          rw [if_pos q, if_pos q, Nat.one_mul, ← p.1, Nat.add_sub_cancel]
          exact this
        · rw [if_neg q]
          exact Nat.zero_le _
      have t0 := t 0 (by omega)
      have t1 := t 1 (by omega)
      have t2 := t 2 (by omega)
      have t3 := t 3 (by omega)
      have t4 := t 4 (by omega)
      have t5 := t 5 (by omega)
      have hp : 0 < pop s := by
        have := pop_dec s h6 (by omega)
        omega
      have e7 : 7 ^ pop s = 7 * 7 ^ (pop s - 1) := by
        obtain ⟨k, hk⟩ : ∃ k, pop s = k + 1 := ⟨pop s - 1, by omega⟩
        rw [hk, Nat.add_sub_cancel, Nat.pow_succ, Nat.mul_comm]
      rw [e7]
      unfold ordS
      rw [if_neg e]
      generalize 7 ^ (pop s - 1) = z at *
      have u : ∀ b : Bool, (if b = true then 1 else 0) * z ≤ z := fun b => by cases b <;> simp
      have u0 := u (s.testBit 0)
      have u1 := u (s.testBit 1)
      have u2 := u (s.testBit 2)
      have u3 := u (s.testBit 3)
      have u4 := u (s.testBit 4)
      have u5 := u (s.testBit 5)
      omega
    · exact Nat.zero_le _
theorem ord_lt {P : Pl} {A : Ab} {c s : Nat} (h : s < 64) : ord P A c s ≤ 117649 := by
  have h1 := ord_le (P := P) (A := A) (c := c) s s (Nat.le_refl _) h
  have h2 : (7 : Nat) ^ pop s ≤ 7 ^ 6 := Nat.pow_le_pow_right (by omega) (pop_le s)
  have h3 : (7 : Nat) ^ 6 = 117649 := by decide
  omega
theorem C_so1 {F s d a : Nat} {h : HS} {T : Nat → Nat} (hs : s < 64) (hd : d < 6) (ho : ∀ i, i < s → h.1 35 i = nI (T i)) (g : Nat) : l_Ways_sumOfOrders_0 F (nI s) (g + 1) (nI a) (nI d) h = l_Ways_sumOfOrders_0 F (nI s) g (nI (a + (if s.testBit d = true then T (s ^^^ 2 ^ d) else 0))) (nI (d + 1)) h := by
  have h2 : (2 : Nat) ^ d ≤ 2 ^ 5 := Nat.pow_le_pow_right (by omega) (by omega)
  have h3 : 0 < 2 ^ d := Nat.two_pow_pos d
  rw [l_Ways_sumOfOrders_0, ite_leN (by omega) (by omega), if_neg (by omega), bit_sl d (by omega), bl_e, bl_e, b_andsh s hs d hd]
  by_cases e : s.testBit d = true
  · have p := pop_xor s hs d hd e
    rw [if_pos e, if_neg (fun z => by have := nI_inj (by omega) (by omega) (show nI (2 ^ d) = nI 0 from z); omega), b_xorsh s hs d hd, ifin (by omega) (by omega), bl_e, nI_clamp (by omega), ho _ p.2, if_pos e, nI_add]
    dsimp only
    rw [bl_e, nI_add]
  · rw [if_neg e, if_neg e, if_pos (show nI 0 = 0 from rfl)]
    dsimp only
    rw [bl_e, nI_add]
    rfl
theorem C_sumOfOrders {F s : Nat} {h : HS} {T : Nat → Nat} (hF : 7 ≤ F) (hs : s < 64) (ho : ∀ i, i < s → h.1 35 i = nI (T i)) : f_Ways_sumOfOrders F (nI s) h = some (nI (ordS T s), h) := by
  obtain ⟨g, hg⟩ : ∃ g, F = g + 7 := ⟨F - 7, by omega⟩
  have key : ∀ z, l_Ways_sumOfOrders_0 F (nI s) F (nI z) (nI 0) h = some (nI (z + (if s.testBit 0 = true then T (s ^^^ 2 ^ 0) else 0) + (if s.testBit 1 = true then T (s ^^^ 2 ^ 1) else 0) + (if s.testBit 2 = true then T (s ^^^ 2 ^ 2) else 0) + (if s.testBit 3 = true then T (s ^^^ 2 ^ 3) else 0) + (if s.testBit 4 = true then T (s ^^^ 2 ^ 4) else 0) + (if s.testBit 5 = true then T (s ^^^ 2 ^ 5) else 0)), h) := by
    intro z
    have e : ∀ G, l_Ways_sumOfOrders_0 G (nI s) F (nI z) (nI 0) h = l_Ways_sumOfOrders_0 G (nI s) (g + 7) (nI z) (nI 0) h := fun G => by rw [hg]
    rw [e, C_so1 hs (by omega) ho (g + 6), C_so1 hs (by omega) ho (g + 5), C_so1 hs (by omega) ho (g + 4), C_so1 hs (by omega) ho (g + 3), C_so1 hs (by omega) ho (g + 2), C_so1 hs (by omega) ho (g + 1), l_Ways_sumOfOrders_0, ite_leN (by omega) (by omega), if_pos (by omega)]
  rw [f_Ways_sumOfOrders, bl_e, ite_eq0 (by omega)]
  unfold ordS
  by_cases e : s = 0
  · rw [if_pos e, if_pos e]
    dsimp only
    rw [bl_e, bl_e, key]
  · rw [if_neg e, if_neg e]
    dsimp only
    rw [bl_e, bl_e, key]
theorem C_ordL {P : Pl} {A : Ab} {F c : Nat} (hF : 7 ≤ F) (W : WF P A) (hc : c < P 0 3) : ∀ (j s : Nat) (h : HS), s + j = 2 ^ P 0 4 → CR P A h → WYr P h → (∀ i, i < s → h.1 35 i = nI (ord P A c i)) → ∃ f, (∀ i, i < 2 ^ P 0 4 → f i = nI (ord P A c i)) ∧ ∀ g, j < g → l_Ways_countOrders_0 F (nI (fo P A c 0)) (nI (ag P A c 0)) (nI (A.1 3 c)) g (nI s) h = some ((), st h 35 f) := by
  obtain ⟨⟨wN, wNM, wM, wCo, w3, w4, w5, wC, wD, wK⟩, wAc, wAk, wAw, wAf⟩ := id W
  have h64 := p64 w4
  have hh := (wAc c hc).2.1
  intro j
  induction j with
  | zero =>
    intro s h hs R Y ho
    refine ⟨h.1 35, fun i hi => ho i (by omega), fun g hg => ?_⟩
    obtain ⟨g, rfl⟩ : ∃ z, g = z + 1 := ⟨g - 1, by omega⟩
    rw [l_Ways_countOrders_0, Y.1, ite_leN (by omega) (by omega), if_pos (by omega), st_s]
  | succ j ih =>
    intro s h hs R Y ho
    have hsD : s < 2 ^ P 0 4 := by omega
    have hb : ord P A c s ≤ 117649 := ord_lt (by omega)
    have step : ∀ g, l_Ways_countOrders_0 F (nI (fo P A c 0)) (nI (ag P A c 0)) (nI (A.1 3 c)) (g + 1) (nI s) h = l_Ways_countOrders_0 F (nI (fo P A c 0)) (nI (ag P A c 0)) (nI (A.1 3 c)) g (nI (s + 1)) (st h 35 (upd (h.1 35) s (nI (ord P A c s)))) := by
      intro g
      have f1 := fo_le W.1 A c 0
      have f2 := ag_le W.1 A c 0
      have f3 := fo_le W.1 A c s
      have f4 := ag_le W.1 A c s
      have y := Y.2 s hsD
      have hl : s &&& A.1 3 c < 2147483648 := Nat.lt_of_le_of_lt Nat.and_le_left (by omega)
      rw [l_Ways_countOrders_0, Y.1, ite_leN (by omega) (by omega), if_neg (by omega), bl_e, bl_e, b_and s (by omega) _ (by omega), ite_eq0 hl, ord_rec (by omega)]
      have ef : freeB P A c s = decide (s &&& A.1 3 c = 0) := by
        unfold freeB
        by_cases z : s &&& A.1 3 c = 0
        · rw [decide_eq_true ⟨hsD, z⟩, decide_eq_true z]
        · rw [decide_eq_false (fun x => z x.2), decide_eq_false z]
      by_cases z : s &&& A.1 3 c = 0
      · rw [if_pos z, ifin (by omega) (by omega), ifin (by omega) (by omega), nI_clamp (by omega), y.1, y.2.1, nI_add, nI_add, fo_add, ag_add, C_isSafeP W.1 R.1 (by omega) (by omega), bnd_s, ite_b0]
        have ew : wayB P A c s = safeC P A c s := by
          unfold wayB
          rw [ef, decide_eq_true z]
          rfl
        rw [ew]
        by_cases x : safeC P A c s = true
        · rw [if_pos x, if_pos (show safe P (fo P A c s) (ag P A c s) = true from x)]
          dsimp only
          rw [bl_e, bl_e, if_neg (by decide), C_sumOfOrders hF (by omega) ho, bnd_s]
          dsimp only
          rw [ifin (by omega) (by omega), bl_e, bl_e, sI_st, nI_add]
        · rw [if_neg x, if_neg (show ¬ safe P (fo P A c s) (ag P A c s) = true from x)]
          dsimp only
          rw [bl_e, bl_e, if_pos (by decide)]
          dsimp only
          rw [ifin (by omega) (by omega), bl_e, bl_e, sI_st, nI_add]
      · have ew : ¬ wayB P A c s = true := by
          unfold wayB
          rw [ef, decide_eq_false z]
          simp
        rw [if_neg z, if_neg ew]
        dsimp only
        rw [bl_e, bl_e, if_pos (by decide)]
        dsimp only
        rw [ifin (by omega) (by omega), bl_e, bl_e, nI_clamp (by omega), sI_st, nI_add]
    obtain ⟨f, e1, e2⟩ := ih (s + 1) (st h 35 (upd (h.1 35) s (nI (ord P A c s)))) (by omega) (CR_st (by omega) (by omega) R) (WYr_fr Y (st_o (by decide)) (st_o (by decide)) (st_o (by decide)) (st_o (by decide))) (fun i hi => by
      rw [st_e]
      by_cases e : i = s
      · rw [e, upd_e]
      · rw [upd_n e, ho i (by omega)])
    refine ⟨f, e1, fun g hg => ?_⟩
    obtain ⟨g, rfl⟩ : ∃ z, g = z + 1 := ⟨g - 1, by omega⟩
    rw [step, e2 g (by omega), st_st]
theorem C_countOrders {P : Pl} {A : Ab} {h : HS} {F c : Nat} (hF : 70 ≤ F) (W : WF P A) (hc : c < P 0 3) (R : CR P A h) (Y : WYr P h) : ∃ f, (∀ i, i < 2 ^ P 0 4 → f i = nI (ord P A c i)) ∧ f_Ways_countOrders F (nI c) h = some ((), st h 35 f) := by
  obtain ⟨⟨wN, wNM, wM, wCo, w3, w4, w5, wC, wD, wK⟩, wAc, wAk, wAw, wAf⟩ := id W
  have h64 := p64 w4
  obtain ⟨f, e1, e2⟩ := C_ordL (F := F) (by omega) W hc (2 ^ P 0 4) 0 h (by omega) R Y (fun i hi => absurd hi (by omega))
  refine ⟨f, e1, ?_⟩
  rw [f_Ways_countOrders, C_ofCause w3 R hc (by omega), bnd_s, bl_e, C_ofCause w3 R hc (by omega), bnd_s, bl_e, C_ofCause w3 R hc (by omega), bnd_s, bl_e, bl_e]
  exact e2 F (by omega)
