theorem C_nrL {P : Pl} {A : Ab} {F c n : Nat} {h : HS} (hn : n ≤ 100) (W : WF P A) (hc : c < P 0 3) (R : CR P A h) (Y : WYr P h) (ho : ∀ i, i < 2 ^ P 0 4 → h.1 35 i = nI (ord P A c i)) : ∀ (j k : Nat), k + j = 2 ^ P 0 4 → ∀ g, j < g → l_Ways_nearestSet_0 F (nI c) (nI n) g (pI (nrF P A c n k)) (nI k) h = some (pI (nrF P A c n (2 ^ P 0 4)), h) := by
  obtain ⟨⟨wN, wNM, wM, wCo, w3, w4, w5, wC, wD, wK⟩, wAc, wAk, wAw, wAf⟩ := id W
  have h64 := p64 w4
  intro j
  induction j with
  | zero =>
    intro k hk g hg
    obtain ⟨g, rfl⟩ : ∃ z, g = z + 1 := ⟨g - 1, by omega⟩
    rw [l_Ways_nearestSet_0, Y.1, ite_leN (by omega) (by omega), if_pos (by omega), show k = 2 ^ P 0 4 by omega]
  | succ j ih =>
    intro k hk g hg
    obtain ⟨g, rfl⟩ : ∃ z, g = z + 1 := ⟨g - 1, by omega⟩
    have hk6 : k < 64 := by omega
    have hb : ord P A c k ≤ 117649 := ord_lt hk6
    have hp := pop_le k
    have hr := nrF_le (P := P) (A := A) (c := c) (n := n) k
    have ih := ih (k + 1) (by omega) g (by omega)
    rw [← ih, l_Ways_nearestSet_0, Y.1, ite_leN (by omega) (by omega), if_neg (by omega), ifin (by omega) (by omega), bl_e, nI_clamp (by omega), ho k (by omega), ite_le0 (by omega), nrF]
    by_cases e1 : ord P A c k = 0
    · rw [if_pos e1, if_pos e1]
      dsimp only
      rw [bl_e, nI_add]
    · rw [if_neg e1, if_neg e1, E_bitCount hk6, bnd_s, ite_ltN (by omega) (by omega)]
      by_cases e2 : n < pop k
      · rw [if_pos e2, if_pos e2]
        dsimp only
        rw [bl_e, nI_add]
      · rw [if_neg e2, if_neg e2, bl_e, ite_pn (by omega)]
        by_cases e3 : nrF P A c n k = 0
        · rw [if_pos e3, if_pos e3]
          dsimp only
          rw [bl_e, bl_e, nI_add, pI_s]
        · have hne := nrF_ord k e3
          have hlt : nrF P A c n k - 1 < 2 ^ P 0 4 := by omega
          rw [if_neg e3, if_neg e3, pI_p (by omega), C_isNearer W R Y hc (by omega) hlt, bnd_s, ite_b0]
          by_cases e4 : nrB P A c k (nrF P A c n k - 1) = true
          · rw [if_pos e4, if_pos e4]
            dsimp only
            rw [bl_e, bl_e, nI_add, pI_s]
          · rw [if_neg e4, if_neg e4]
            dsimp only
            rw [bl_e, nI_add, pI_p (show 0 < nrF P A c n k by omega)]
theorem C_nearestSet {P : Pl} {A : Ab} {F c n : Nat} {h : HS} (hF : 70 ≤ F) (hn : n ≤ 100) (W : WF P A) (hc : c < P 0 3) (R : CR P A h) (Y : WYr P h) : ∃ f, f_Ways_nearestSet F (nI c) (nI n) h = some (pI (nrF P A c n (2 ^ P 0 4)), st h 35 f) := by
  obtain ⟨⟨wN, wNM, wM, wCo, w3, w4, w5, wC, wD, wK⟩, wAc, wAk, wAw, wAf⟩ := id W
  have h64 := p64 w4
  obtain ⟨f, e1, e2⟩ := C_countOrders hF W hc R Y
  refine ⟨f, ?_⟩
  rw [f_Ways_nearestSet, e2, bnd_s, bl_e, bl_e, ← pI_0]
  exact C_nrL (F := F) hn W hc (CR_st (by omega) (by omega) R) (WYr_fr Y (st_o (by decide)) (st_o (by decide)) (st_o (by decide)) (st_o (by decide))) (fun i hi => by rw [st_e]; exact e1 i hi) (2 ^ P 0 4) 0 (by omega) F (by omega)
theorem sub_sgn {α : Type} {a b : Nat} (ha : a < 1000000000) (hb : b < 1000000000) {X Y Z : α} : (if 0 < nI a - nI b then X else (if nI a - nI b = 0 then Y else Z)) = (if b < a then X else (if a = b then Y else Z)) := by
  have e : (nI a - nI b).toInt = (a : Int) - (b : Int) := by
    rw [Int32.toInt_sub, toInt_nI (by omega), toInt_nI (by omega)]
    exact Int.bmod_eq_of_le (by omega) (by omega)
  have h1 : (0 < nI a - nI b) ↔ b < a := by
    rw [Int32.lt_iff_toInt_lt, e]
    have : (0 : Int32).toInt = 0 := rfl
    omega
  have h2 : (nI a - nI b = 0) ↔ a = b := by
    rw [← Int32.toInt_inj, e]
    have : (0 : Int32).toInt = 0 := rfl
    omega
  by_cases q : b < a
  · rw [if_pos q, if_pos (h1.mpr q)]
  · rw [if_neg q, if_neg (fun z => q (h1.mp z))]
    by_cases x : a = b
    · rw [if_pos x, if_pos (h2.mpr x)]
    · rw [if_neg x, if_neg (fun z => x (h2.mp z))]
theorem ite_pge {α : Type} {n : Nat} {A B : α} (h : n < 2147483648) : (if 0 ≤ pI n then A else B) = (if n = 0 then B else A) := by
  by_cases q : n = 0
  · subst q
    rw [pI_0, if_neg (by decide), if_pos rfl]
  · rw [if_neg q, pI_p (by omega), ite_ge0 (by omega)]
theorem ite_plt {α : Type} {n : Nat} {A B : α} (h : n < 2147483648) : (if pI n < 0 then A else B) = (if n = 0 then A else B) := by
  by_cases q : n = 0
  · subst q
    rw [pI_0, if_pos (by decide), if_pos rfl]
  · rw [if_neg q, pI_p (by omega), ite_lt0 (by omega)]
theorem M_nrL {P : Pl} {A : Ab} {F c n : Nat} {h : HS} (hF : 70 ≤ F) (hn : n ≤ 100) (W : WF P A) (hc : c < P 0 3) (R : MR P A h) (ho : ∀ i, i < 64 → h.1 9 i = nI (ord P A c i)) : ∀ (j k : Nat), k + j = 64 → ∀ g, j < g → l_M_nearestOf_0 F (nI c) (nI n) g (pI (nrF P A c n k)) (nI k) h = some (pI (nrF P A c n 64), h) := by
  obtain ⟨⟨wN, wNM, wM, wCo, w3, w4, w5, wC, wD, wK⟩, wAc, wAk, wAw, wAf⟩ := id W
  have h64 := p64 w4
  intro j
  induction j with
  | zero =>
    intro k hk g hg
    obtain ⟨g, rfl⟩ : ∃ z, g = z + 1 := ⟨g - 1, by omega⟩
    rw [l_M_nearestOf_0, ite_leN (by omega) (by omega), if_pos (by omega), show k = 64 by omega]
  | succ j ih =>
    intro k hk g hg
    obtain ⟨g, rfl⟩ : ∃ z, g = z + 1 := ⟨g - 1, by omega⟩
    have hk6 : k < 64 := by omega
    have hb : ord P A c k ≤ 117649 := ord_lt hk6
    have hp := pop_le k
    have hr := nrF_le (P := P) (A := A) (c := c) (n := n) k
    have ih := ih (k + 1) (by omega) g (by omega)
    rw [← ih, l_M_nearestOf_0, ite_leN (by omega) (by omega), if_neg (by omega), ifin (by omega) (by omega), bl_e, nI_clamp (by omega), ho k (by omega), ite_eq0 (by omega), nrF]
    by_cases e1 : ord P A c k = 0
    · rw [if_pos e1, if_pos e1]
      dsimp only
      rw [bl_e, nI_add]
    · have hkD : k < 2 ^ P 0 4 := by
        rcases Nat.lt_or_ge k (2 ^ P 0 4) with z | z
        · exact z
        · exact absurd (ord_big z hk6) e1
      rw [if_neg e1, if_neg e1, M_bits (by omega) hk6, bnd_s, ite_leN (by omega) (by omega)]
      by_cases e2 : n < pop k
      · rw [if_neg (by omega), if_pos e2]
        dsimp only
        rw [bl_e, nI_add]
      · rw [if_pos (by omega), if_neg e2, bl_e, ite_pge (by omega)]
        by_cases e3 : nrF P A c n k = 0
        · rw [if_pos e3, if_pos e3]
          dsimp only
          rw [bl_e, bl_e, if_pos (by decide)]
          dsimp only
          rw [bl_e, bl_e, nI_add, pI_s]
        · have hne := nrF_ord k e3
          have hlt : nrF P A c n k - 1 < 2 ^ P 0 4 := by
            rcases Nat.lt_or_ge (nrF P A c n k - 1) (2 ^ P 0 4) with z | z
            · exact z
            · exact absurd (ord_big z (by omega)) hne
          have a1 := nr_ar W.1 (A := A) c k (nrF P A c n k - 1)
          have a2 := nr_ar W.1 (A := A) c (nrF P A c n k - 1) k
          have b1 := sm_le W.1 (f := 9) (Or.inr (Or.inr rfl)) k
          have b2 := sm_le W.1 (f := 9) (Or.inr (Or.inr rfl)) (nrF P A c n k - 1)
          rw [if_neg e3, if_neg e3, pI_p (by omega), M_forOf w3 w4 (by omega) R hc hkD, bnd_s, M_allOf w3 w4 (by omega) R hc hlt, bnd_s, M_forOf w3 w4 (by omega) R hc hlt, bnd_s, M_allOf w3 w4 (by omega) R hc hkD, bnd_s]
          dsimp only
          rw [bl_e, bl_e, nI_mul, nI_mul, sub_sgn (by omega) (by omega), M_sum w4 (by omega) (sumAt_9 R) hkD, bnd_s, M_sum w4 (by omega) (sumAt_9 R) hlt, bnd_s, ite_leN (by omega) (by omega)]
          unfold nrB
          by_cases x : fo P A c (nrF P A c n k - 1) * (fo P A c k + ag P A c k) < fo P A c k * (fo P A c (nrF P A c n k - 1) + ag P A c (nrF P A c n k - 1))
          · rw [if_pos x, if_neg (show ¬ fo P A c k * (fo P A c (nrF P A c n k - 1) + ag P A c (nrF P A c n k - 1)) = fo P A c (nrF P A c n k - 1) * (fo P A c k + ag P A c k) by omega), decide_eq_true x, if_pos rfl]
            dsimp only
            rw [bl_e, bl_e, nI_add, pI_s]
          · rw [if_neg x]
            by_cases y : fo P A c k * (fo P A c (nrF P A c n k - 1) + ag P A c (nrF P A c n k - 1)) = fo P A c (nrF P A c n k - 1) * (fo P A c k + ag P A c k)
            · rw [if_pos y, if_pos y]
              by_cases v : sm P 9 k < sm P 9 (nrF P A c n k - 1)
              · rw [if_neg (by omega), decide_eq_true v, if_pos rfl]
                dsimp only
                rw [bl_e, bl_e, nI_add, pI_s]
              · rw [if_pos (by omega), decide_eq_false v, if_neg (by decide), bl_e, nI_add, pI_p (show 0 < nrF P A c n k by omega)]
            · rw [if_neg y, if_neg y, decide_eq_false x, if_neg (by decide), bl_e, nI_add, pI_p (show 0 < nrF P A c n k by omega)]
theorem M_nearestOf {P : Pl} {A : Ab} {F c n : Nat} {h : HS} (hF : 70 ≤ F) (hn : n ≤ 100) (W : WF P A) (hc : c < P 0 3) (R : MR P A h) : ∃ f, f_M_nearestOf F (nI c) (nI n) h = some (pI (nrF P A c n (2 ^ P 0 4)), st h 9 f) := by
  obtain ⟨⟨wN, wNM, wM, wCo, w3, w4, w5, wC, wD, wK⟩, wAc, wAk, wAw, wAf⟩ := id W
  have h64 := p64 w4
  obtain ⟨f, e1, e2⟩ := M_ordersBy hF W hc R
  refine ⟨f, ?_⟩
  rw [f_M_nearestOf, e2, bnd_s, bl_e, bl_e, ← pI_0, ← nrF_64 h64.2]
  exact M_nrL (F := F) hF hn W hc (MR_st (by decide) R) (fun i hi => by rw [st_e]; exact e1 i hi) 64 0 (by omega) F (by omega)
/-- the tables of orders alone become others -/
theorem Rel_tab {P : Pl} {A : Ab} {hc hm : HS} {f f2 : Nat → Int32} (q : Rel P A hc hm) : Rel P A (st hc 35 f) (st hm 9 f2) := by
  have q0 := q
  obtain ⟨c, m, w, -, u, -, -⟩ := q
  exact Rel_mk q0 (CR_st (by omega) (by omega) c) (MR_st (by decide) m) w rfl (UD_fr u (st_o (by decide)) (fun j hj => st_o (by omega)) (st_o (by decide)) (by rw [st_o (by decide)])) (Fr_st (by decide)) (Fr_st (by decide)) (F0r_st (by decide))
theorem C_isDeedNumber (x : Int32) (h : HS) : f_LC_isDeedNumber x h = some (bI (inb x 7), h) := by
  rw [f_LC_isDeedNumber, rZ0, rZ1]
  by_cases q : x < 0
  · rw [if_pos q, show inb x 7 = false by simp [inb, q]]
    rfl
  · obtain ⟨j, hj, rfl⟩ := nI_of q
    rw [if_neg q, ite_ltN (by omega) hj, inb_nI hj]
    by_cases z : 6 < j
    · rw [if_pos z, decide_eq_false (by omega)]
      rfl
    · rw [if_neg z, decide_eq_true (by omega)]
      rfl
theorem M_isIn7 (x : Int32) (h : HS) : f_M_isIn x (nI 0) (nI 6) h = some (bI (inb x 7), h) := M_isInN (n := 7) (by omega) x h
theorem S_nearest {F : Nat} (hF : 20000 ≤ F) (a b : Int32) : Sim (f_LC_nearest F a b) (f_M_nearest F a b) := by
  intro P A hc hm q0
  have q := Rel_th (v := nI 0) q0
  obtain ⟨c, m, W, Y, -⟩ := id q
  obtain ⟨⟨wN, wNM, wM, wCo, w3, w4, w5, wC, wD, wK⟩, wAc, wAk, wAw, wAf⟩ := id W
  rw [f_LC_nearest, C_hasCause w3 c.1, bnd_s, ite_b0, f_M_nearest, bl_e, M_isCause w3 m, bnd_s, ite_b0]
  by_cases ha : inb a (P 0 3) = true
  · rw [if_pos ha, if_pos ha, C_isDeedNumber, bnd_s, ite_b0, M_isIn7, bnd_s, ite_b0]
    by_cases hb : inb b 7 = true
    · rw [if_pos hb, if_pos hb]
      obtain ⟨hk, ek⟩ := inb_ex ha
      obtain ⟨hn, en⟩ := inb_ex hb
      generalize a.toNatClampNeg = k at hk ek
      generalize b.toNatClampNeg = n at hn en
      subst ek en
      obtain ⟨f, e1⟩ := C_nearestSet (F := F) (n := n) (by omega) (by omega) W hk c Y
      obtain ⟨f2, e2⟩ := M_nearestOf (F := F) (n := n) (by omega) (by omega) W hk m
      exact ⟨_, _, _, P, A, by rw [e1, bnd_s], by rw [e2, bnd_s], Rel_tab q⟩
    · rw [if_neg hb, if_neg hb]
      exact ⟨_, _, _, P, A, rfl, rfl, q⟩
  · rw [if_neg ha, if_neg ha]
    exact ⟨_, _, _, P, A, rfl, rfl, q⟩
theorem C_nearnessBehind {P : Pl} {A : Ab} {h : HS} (W : WF P A) (R : CR P A h) (Y : WYr P h) {c s : Nat} (hc : c < P 0 3) (hs : s < 2 ^ P 0 4) : f_Ways_nearnessBehind (nI c) (nI s) h = some (nI (nearC P A c s), h) := by
  have h1 := fo_le W.1 A c s
  have h2 := ag_le W.1 A c s
  rw [f_Ways_nearnessBehind, C_proBehind W R Y hc hs, bnd_s, C_contraBehind W R Y hc hs, bnd_s, C_nearnessP W.1 R.1 (by omega) (by omega) h2.2, bnd_s]
  rfl
theorem free_lt {P : Pl} {A : Ab} {c : Nat} {x : Int32} (h : (inb x 64 && freeB P A c x.toNatClampNeg) = true) : ∃ s, s < 2 ^ P 0 4 ∧ s < 64 ∧ s &&& A.1 3 c = 0 ∧ x = nI s := by
  rw [Bool.and_eq_true] at h
  obtain ⟨h1, h2⟩ := h
  obtain ⟨hk, ek⟩ := inb_ex h1
  unfold freeB at h2
  have h3 := of_decide_eq_true h2
  exact ⟨x.toNatClampNeg, h3.1, hk, h3.2, ek⟩
theorem M_areFree0 {P : Pl} {A : Ab} {h : HS} (W : WF P A) (R : MR P A h) (a x : Int32) (ha : ¬ inb a (P 0 3) = true) : f_M_areFree a x h = some (bI false, h) := by
  obtain ⟨⟨wN, wNM, wM, wCo, w3, w4, w5, wC, wD, wK⟩, wAc, wAk, wAw, wAf⟩ := id W
  rw [f_M_areFree, M_isCause w3 R, bnd_s, ite_b0, if_neg ha, rZ0]
  rfl
theorem S_near {F : Nat} (hF : 20000 ≤ F) (a b : Int32) : Sim (f_LC_near a b) (f_M_near F a b) := by
  intro P A hc hm q0
  have q := Rel_th (v := nI 0) q0
  obtain ⟨c, m, W, Y, -⟩ := id q
  obtain ⟨⟨wN, wNM, wM, wCo, w3, w4, w5, wC, wD, wK⟩, wAc, wAk, wAw, wAf⟩ := id W
  rw [f_LC_near, C_hasCause w3 c.1, bnd_s, ite_b0, f_M_near, bl_e]
  by_cases ha : inb a (P 0 3) = true
  · rw [if_pos ha]
    obtain ⟨hk, ek⟩ := inb_ex ha
    generalize a.toNatClampNeg = k at hk ek
    subst ek
    rw [C_canStillDo W c Y hk, bnd_s, ite_b0, M_areFree W m hk, bnd_s, ite_b0]
    by_cases hb : (inb b 64 && freeB P A k b.toNatClampNeg) = true
    · rw [if_pos hb, if_pos hb]
      obtain ⟨s, s1, s2, s3, rfl⟩ := free_lt hb
      rw [C_nearnessBehind W c Y hk s1, bnd_s, M_nearOf W (by omega) m hk s1, bnd_s]
      exact ⟨_, _, _, P, A, rfl, rfl, q⟩
    · rw [if_neg hb, if_neg hb]
      exact ⟨_, _, _, P, A, rfl, rfl, q⟩
  · rw [if_neg ha, M_areFree0 W m a b ha, bnd_s, ite_b0, if_neg (by decide)]
    exact ⟨_, _, _, P, A, rfl, rfl, q⟩
theorem S_orders {F : Nat} (hF : 20000 ≤ F) (a b : Int32) : Sim (f_LC_orders F a b) (f_M_orders F a b) := by
  intro P A hc hm q0
  have q := Rel_th (v := nI 0) q0
  obtain ⟨c, m, W, Y, -⟩ := id q
  obtain ⟨⟨wN, wNM, wM, wCo, w3, w4, w5, wC, wD, wK⟩, wAc, wAk, wAw, wAf⟩ := id W
  rw [f_LC_orders, C_hasCause w3 c.1, bnd_s, ite_b0, f_M_orders, bl_e]
  by_cases ha : inb a (P 0 3) = true
  · rw [if_pos ha]
    obtain ⟨hk, ek⟩ := inb_ex ha
    generalize a.toNatClampNeg = k at hk ek
    subst ek
    rw [C_canStillDo W c Y hk, bnd_s, ite_b0, M_areFree W m hk, bnd_s, ite_b0]
    by_cases hb : (inb b 64 && freeB P A k b.toNatClampNeg) = true
    · rw [if_pos hb, if_pos hb]
      obtain ⟨s, s1, s2, s3, rfl⟩ := free_lt hb
      obtain ⟨f, x1, x2⟩ := C_countOrders (F := F) (by omega) W hk c Y
      obtain ⟨f2, y1, y2⟩ := M_ordersBy (F := F) (by omega) W hk m
      refine ⟨nI (ord P A k s), _, _, P, A, ?_, ?_, Rel_tab (f := f) (f2 := f2) q⟩
      · rw [f_Ways_ordersOf, x2, bnd_s, ifin (by omega) (by omega), nI_clamp (by omega), st_e, x1 s s1, bnd_s]
      · rw [y2, bnd_s, ifin (by omega) (by omega), nI_clamp (by omega), st_e, y1 s s2]
    · rw [if_neg hb, if_neg hb]
      exact ⟨_, _, _, P, A, rfl, rfl, q⟩
  · rw [if_neg ha, M_areFree0 W m a b ha, bnd_s, ite_b0, if_neg (by decide)]
    exact ⟨_, _, _, P, A, rfl, rfl, q⟩
