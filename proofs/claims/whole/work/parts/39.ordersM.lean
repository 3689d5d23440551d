theorem MR_st {P : Pl} {A : Ab} {h : HS} {i : Nat} {f : Nat → Int32} (hi : i ≠ 2) (R : MR P A h) : MR P A (st h i f) := MR_fr R (st_o (fun e => hi e.symm)) rfl
theorem M_ord1 {F s d a : Nat} {h : HS} {T f : Nat → Nat} {x1 : Int32} {K : HS → Option (Unit × HS)} {o : Nat → Int32} (hs : s < 64) (hd : d < 6) (ho : ∀ i, i < s → o i = nI (T i)) (g : Nat) : l_M_ordersBy_1 F x1 (nI s) K (g + 1) (nI d) (st h 9 (upd o s (nI a))) = l_M_ordersBy_1 F x1 (nI s) K g (nI (d + 1)) (st h 9 (upd o s (nI (a + (if s.testBit d = true then T (s ^^^ 2 ^ d) else 0))))) := by
  have uu : ∀ v w : Int32, upd (upd o s v) s w = upd o s w := fun v w => by
    funext i
    simp only [upd]
    split <;> rfl
  rw [l_M_ordersBy_1, ite_leN (by omega) (by omega), if_neg (by omega), ifin (by omega) (by omega), M_bitOf hs (by omega), bnd_s, bl_e, ite_b0, bit_sl d (by omega)]
  by_cases e : s.testBit d = true
  · have p := pop_xor s hs d hd e
    rw [if_pos e, if_pos e, b_clr s hs d hd e, ifin (by omega) (by omega), nI_clamp (by omega)]
    dsimp only
    rw [ifin (by omega) (by omega), bl_e, bl_e, nI_clamp (by omega), st_e, upd_e, upd_n (by omega), ho _ p.2, nI_add, sI_stst, uu, nI_add]
  · rw [if_neg e, if_neg e]
    dsimp only
    rw [ifin (by omega) (by omega), bl_e, bl_e, nI_clamp (by omega), st_e, upd_e, nI_add, sI_stst, uu, nI_add]
theorem M_ordJ {F s a : Nat} {h : HS} {T : Nat → Nat} {x1 : Int32} {K : HS → Option (Unit × HS)} {o : Nat → Int32} (hF : 7 ≤ F) (hs : s < 64) (ho : ∀ i, i < s → o i = nI (T i)) : l_M_ordersBy_1 F x1 (nI s) K F (nI 0) (st h 9 (upd o s (nI a))) = K (st h 9 (upd o s (nI (a + (if s.testBit 0 = true then T (s ^^^ 2 ^ 0) else 0) + (if s.testBit 1 = true then T (s ^^^ 2 ^ 1) else 0) + (if s.testBit 2 = true then T (s ^^^ 2 ^ 2) else 0) + (if s.testBit 3 = true then T (s ^^^ 2 ^ 3) else 0) + (if s.testBit 4 = true then T (s ^^^ 2 ^ 4) else 0) + (if s.testBit 5 = true then T (s ^^^ 2 ^ 5) else 0))))) := by
  obtain ⟨g, hg⟩ : ∃ g, F = g + 7 := ⟨F - 7, by omega⟩
  have e : ∀ G, l_M_ordersBy_1 G x1 (nI s) K F (nI 0) (st h 9 (upd o s (nI a))) = l_M_ordersBy_1 G x1 (nI s) K (g + 7) (nI 0) (st h 9 (upd o s (nI a))) := fun G => by rw [hg]
  rw [e, M_ord1 (f := T) hs (by omega) ho (g + 6), M_ord1 (f := T) hs (by omega) ho (g + 5), M_ord1 (f := T) hs (by omega) ho (g + 4), M_ord1 (f := T) hs (by omega) ho (g + 3), M_ord1 (f := T) hs (by omega) ho (g + 2), M_ord1 (f := T) hs (by omega) ho (g + 1), l_M_ordersBy_1, ite_leN (by omega) (by omega), if_pos (by omega)]
theorem M_ordL {P : Pl} {A : Ab} {F c : Nat} (hF : 7 ≤ F) (W : WF P A) (hc : c < P 0 3) : ∀ (j s : Nat) (h : HS), s + j = 64 → MR P A h → (∀ i, i < s → h.1 9 i = nI (ord P A c i)) → ∃ f, (∀ i, i < 64 → f i = nI (ord P A c i)) ∧ ∀ g, j < g → l_M_ordersBy_0 F (nI c) g (nI s) h = some ((), st h 9 f) := by
  obtain ⟨⟨wN, wNM, wM, wCo, w3, w4, w5, wC, wD, wK⟩, wAc, wAk, wAw, wAf⟩ := id W
  have h64 := p64 w4
  have hh := (wAc c hc).2.1
  intro j
  induction j with
  | zero =>
    intro s h hs R ho
    refine ⟨h.1 9, fun i hi => ho i (by omega), fun g hg => ?_⟩
    obtain ⟨g, rfl⟩ : ∃ z, g = z + 1 := ⟨g - 1, by omega⟩
    rw [l_M_ordersBy_0, ite_leN (by omega) (by omega), if_pos (by omega), st_s]
  | succ j ih =>
    intro s h hs R ho
    have hs6 : s < 64 := by omega
    have step : ∀ g, l_M_ordersBy_0 F (nI c) (g + 1) (nI s) h = l_M_ordersBy_0 F (nI c) g (nI (s + 1)) (st h 9 (upd (h.1 9) s (nI (ord P A c s)))) := by
      intro g
      have R1 : MR P A (st h 9 (upd (h.1 9) s (nI 0))) := MR_st (by decide) R
      have uu : ∀ v w : Int32, upd (upd (h.1 9) s v) s w = upd (h.1 9) s w := fun v w => by
        funext i
        simp only [upd]
        split <;> rfl
      rw [l_M_ordersBy_0, ite_leN (by omega) (by omega), if_neg (by omega), ifin (by omega) (by omega), bl_e, nI_clamp (by omega), sI_st, M_free W R1 hc, bnd_s, bl_e, ord_rec hs6]
      have fr := fr_ok (P 0 4) (by omega) (A.1 3 c) (by omega) s hs6
      by_cases z : s < 2 ^ P 0 4 ∧ s &&& A.1 3 c = 0
      · have ew : wayB P A c s = safeC P A c s := by
          unfold wayB freeB
          rw [decide_eq_true z]
          rfl
        rw [if_pos (fr.mpr z), M_isSafe W hF R1 hc z.1, bnd_s, ite_b0, ew]
        by_cases x : safeC P A c s = true
        · rw [if_pos x, if_pos x, bl_e, ite_eq0 (by omega)]
          unfold ordS
          by_cases y : s = 0
          · rw [if_pos y, if_pos y, ifin (by omega) (by omega), bl_e, nI_clamp (by omega)]
            dsimp only
            rw [bl_e, sI_stst, show upd (upd (h.1 9) s (nI 0)) 0 (nI 1) = upd (h.1 9) s (nI 1) by rw [y]; exact (by funext i; simp only [upd]; split <;> rfl), M_ordJ hF hs6 ho]
            rw [bl_e, nI_add]
          · rw [if_neg y, if_neg y]
            dsimp only
            rw [bl_e, M_ordJ hF hs6 ho]
            rw [bl_e, nI_add]
        · rw [if_neg x, if_neg x]
          dsimp only
          rw [bl_e, nI_add]
      · have ew : ¬ wayB P A c s = true := by
          unfold wayB freeB
          rw [decide_eq_false z]
          simp
        rw [if_neg (fun y => z (fr.mp y)), if_neg ew]
        dsimp only
        rw [bl_e, nI_add]
    obtain ⟨f, e1, e2⟩ := ih (s + 1) (st h 9 (upd (h.1 9) s (nI (ord P A c s)))) (by omega) (MR_st (by decide) R) (fun i hi => by
      rw [st_e]
      by_cases e : i = s
      · rw [e, upd_e]
      · rw [upd_n e, ho i (by omega)])
    refine ⟨f, e1, fun g hg => ?_⟩
    obtain ⟨g, rfl⟩ : ∃ z, g = z + 1 := ⟨g - 1, by omega⟩
    rw [step, e2 g (by omega), st_st]
theorem M_ordersBy {P : Pl} {A : Ab} {h : HS} {F c : Nat} (hF : 70 ≤ F) (W : WF P A) (hc : c < P 0 3) (R : MR P A h) : ∃ f, (∀ i, i < 64 → f i = nI (ord P A c i)) ∧ f_M_ordersBy F (nI c) h = some ((), st h 9 f) := by
  obtain ⟨f, e1, e2⟩ := M_ordL (F := F) (by omega) W hc 64 0 h (by omega) R (fun i hi => absurd hi (by omega))
  exact ⟨f, e1, by rw [f_M_ordersBy, bl_e]; exact e2 F (by omega)⟩
/-! the nearest -/
def nrB (P : Pl) (A : Ab) (c s t : Nat) : Bool := if fo P A c s * (fo P A c t + ag P A c t) = fo P A c t * (fo P A c s + ag P A c s) then decide (sm P 9 s < sm P 9 t) else decide (fo P A c t * (fo P A c s + ag P A c s) < fo P A c s * (fo P A c t + ag P A c t))
/-- the nearest of the sets below k by n deeds, and 1; 0: none -/
def nrF (P : Pl) (A : Ab) (c n : Nat) : Nat → Nat
  | 0 => 0
  | k + 1 => if ord P A c k = 0 then nrF P A c n k else (if n < pop k then nrF P A c n k else (if nrF P A c n k = 0 then k + 1 else (if nrB P A c k (nrF P A c n k - 1) = true then k + 1 else nrF P A c n k)))
theorem nrF_le {P : Pl} {A : Ab} {c n : Nat} : ∀ k, nrF P A c n k ≤ k := by
  intro k
  induction k with
  | zero => exact Nat.le_refl 0
  | succ k ih =>
    unfold nrF
    (repeat' split) <;> omega
theorem ord_big {P : Pl} {A : Ab} {c s : Nat} (h : 2 ^ P 0 4 ≤ s) (h6 : s < 64) : ord P A c s = 0 := by
  rw [ord_rec h6, if_neg]
  unfold wayB freeB
  rw [decide_eq_false (by omega)]
  simp
theorem nrF_ord {P : Pl} {A : Ab} {c n : Nat} : ∀ k, nrF P A c n k ≠ 0 → ord P A c (nrF P A c n k - 1) ≠ 0 := by
  intro k
  induction k with
  | zero => intro h; exact absurd rfl h
  | succ k ih =>
    unfold nrF
    (repeat' split) <;> intro h
    · exact ih h
    · exact ih h
    · simpa using ‹¬ ord P A c k = 0›
    · simpa using ‹¬ ord P A c k = 0›
    · exact ih h
theorem nrF_64 {P : Pl} {A : Ab} {c n : Nat} (h64 : 2 ^ P 0 4 ≤ 64) : nrF P A c n 64 = nrF P A c n (2 ^ P 0 4) := by
  have : ∀ j, 2 ^ P 0 4 + j ≤ 64 → nrF P A c n (2 ^ P 0 4 + j) = nrF P A c n (2 ^ P 0 4) := by
    intro j
    induction j with
    | zero => intro _; rfl
    | succ j ih =>
      intro hj
      show nrF P A c n (2 ^ P 0 4 + j + 1) = _
      rw [nrF, if_pos (ord_big (by omega) (by omega)), ih (by omega)]
  have := this (64 - 2 ^ P 0 4) (by omega)
  rw [show 2 ^ P 0 4 + (64 - 2 ^ P 0 4) = 64 by omega] at this
  exact this
theorem nr_ar {P : Pl} {A : Ab} (W : WFP P) (c s t : Nat) : fo P A c s * (fo P A c t + ag P A c t) ≤ 240000 := by
  have f1 := fo_le W A c s
  have f2 := fo_le W A c t
  have f3 := ag_le W A c t
  exact Nat.le_trans (Nat.mul_le_mul f1 (show fo P A c t + ag P A c t ≤ 678 by omega)) (by decide)
theorem C_proBehind {P : Pl} {A : Ab} {h : HS} (W : WF P A) (R : CR P A h) (Y : WYr P h) {c s : Nat} (hc : c < P 0 3) (hs : s < 2 ^ P 0 4) : f_Ways_proBehind (nI c) (nI s) h = some (nI (fo P A c s), h) := by
  obtain ⟨⟨wN, wNM, wM, wCo, w3, w4, w5, wC, wD, wK⟩, wAc, wAk, wAw, wAf⟩ := id W
  have h64 := p64 w4
  rw [f_Ways_proBehind, C_ofCause w3 R hc (by omega), bnd_s, ifin (by omega) (by omega), nI_clamp (by omega), (Y.2 s hs).1]
  show some (nI (fo P A c 0) + _, h) = _
  rw [nI_add, fo_add]
theorem C_contraBehind {P : Pl} {A : Ab} {h : HS} (W : WF P A) (R : CR P A h) (Y : WYr P h) {c s : Nat} (hc : c < P 0 3) (hs : s < 2 ^ P 0 4) : f_Ways_contraBehind (nI c) (nI s) h = some (nI (ag P A c s), h) := by
  obtain ⟨⟨wN, wNM, wM, wCo, w3, w4, w5, wC, wD, wK⟩, wAc, wAk, wAw, wAf⟩ := id W
  have h64 := p64 w4
  rw [f_Ways_contraBehind, C_ofCause w3 R hc (by omega), bnd_s, ifin (by omega) (by omega), nI_clamp (by omega), (Y.2 s hs).2.1]
  show some (nI (ag P A c 0) + _, h) = _
  rw [nI_add, ag_add]
theorem C_isNearer {P : Pl} {A : Ab} {h : HS} (W : WF P A) (R : CR P A h) (Y : WYr P h) {c s t : Nat} (hc : c < P 0 3) (hs : s < 2 ^ P 0 4) (ht : t < 2 ^ P 0 4) : f_Ways_isNearer (nI c) (nI s) (nI t) h = some (bI (nrB P A c s t), h) := by
  obtain ⟨⟨wN, wNM, wM, wCo, w3, w4, w5, wC, wD, wK⟩, wAc, wAk, wAw, wAf⟩ := id W
  have h64 := p64 w4
  have a1 := nr_ar W.1 (A := A) c s t
  have a2 := nr_ar W.1 (A := A) c t s
  have b1 := sm_le W.1 (f := 9) (Or.inr (Or.inr rfl)) s
  have b2 := sm_le W.1 (f := 9) (Or.inr (Or.inr rfl)) t
  rw [f_Ways_isNearer]
  simp (disch := omega) only [C_proBehind W R Y hc hs, C_proBehind W R Y hc ht, C_contraBehind W R Y hc hs, C_contraBehind W R Y hc ht, bl_e, bnd_s, nI_add, nI_mul, ifin, nI_clamp, rZ0, rZ1, rZb, ite_eqN, ite_eq0, ite_ne0, ite_leN, ite_ltN, ite_lt0, ite_le0, ite_ge0, ite_gt0, ite_b0, ite_bn0, (Y.2 s hs).2.2, (Y.2 t ht).2.2]
  unfold nrB
  by_cases e : fo P A c s * (fo P A c t + ag P A c t) = fo P A c t * (fo P A c s + ag P A c s)
  · rw [if_pos e, if_pos e]
    by_cases x : sm P 9 s < sm P 9 t
    · rw [if_neg (by omega), decide_eq_true x]
      rfl
    · rw [if_pos (by omega), decide_eq_false x]
      rfl
  · rw [if_neg e, if_neg e]
    by_cases x : fo P A c t * (fo P A c s + ag P A c s) < fo P A c s * (fo P A c t + ag P A c t)
    · rw [if_neg (by omega), decide_eq_true x]
      rfl
    · rw [if_pos (by omega), decide_eq_false x]
      rfl
