/-- how many of the sets below k are ways by n deeds -/
def wyF (P : Pl) (A : Ab) (c n : Nat) : Nat → Nat
  | 0 => 0
  | k + 1 => if ord P A c k = 0 then wyF P A c n k else (if n < pop k then wyF P A c n k else wyF P A c n k + 1)
theorem wyF_64 {P : Pl} {A : Ab} {c n : Nat} (h64 : 2 ^ P 0 4 ≤ 64) : wyF P A c n 64 = wyF P A c n (2 ^ P 0 4) := by
  have : ∀ j, 2 ^ P 0 4 + j ≤ 64 → wyF P A c n (2 ^ P 0 4 + j) = wyF P A c n (2 ^ P 0 4) := by
    intro j
    induction j with
    | zero => intro _; rfl
    | succ j ih =>
      intro hj
      show wyF P A c n (2 ^ P 0 4 + j + 1) = _
      rw [wyF, if_pos (ord_big (by omega) (by omega)), ih (by omega)]
  have := this (64 - 2 ^ P 0 4) (by omega)
  rw [show 2 ^ P 0 4 + (64 - 2 ^ P 0 4) = 64 by omega] at this
  exact this
theorem C_hmL {P : Pl} {A : Ab} {F c n : Nat} {h : HS} (w4 : P 0 4 ≤ 6) (hn : n ≤ 100) (Y : WYr P h) (ho : ∀ i, i < 2 ^ P 0 4 → h.1 35 i = nI (ord P A c i)) : ∀ (j k : Nat), k + j = 2 ^ P 0 4 → ∀ g, j < g → l_Ways_howMany_0 F (nI n) g (nI (wyF P A c n k)) (nI k) h = some (nI (wyF P A c n (2 ^ P 0 4)), h) := by
  have h64 := p64 w4
  intro j
  induction j with
  | zero =>
    intro k hk g hg
    obtain ⟨g, rfl⟩ : ∃ z, g = z + 1 := ⟨g - 1, by omega⟩
    rw [l_Ways_howMany_0, Y.1, ite_leN (by omega) (by omega), if_pos (by omega), show k = 2 ^ P 0 4 by omega]
  | succ j ih =>
    intro k hk g hg
    obtain ⟨g, rfl⟩ : ∃ z, g = z + 1 := ⟨g - 1, by omega⟩
    have hk6 : k < 64 := by omega
    have hb : ord P A c k ≤ 117649 := ord_lt hk6
    have hp := pop_le k
    have ih := ih (k + 1) (by omega) g (by omega)
    rw [← ih, l_Ways_howMany_0, Y.1, ite_leN (by omega) (by omega), if_neg (by omega), ifin (by omega) (by omega), bl_e, nI_clamp (by omega), ho k (by omega), ite_le0 (by omega), wyF]
    by_cases e1 : ord P A c k = 0
    · rw [if_pos e1, if_pos e1]
      dsimp only
      rw [bl_e, nI_add]
    · rw [if_neg e1, if_neg e1, E_bitCount hk6, bnd_s, ite_ltN (by omega) (by omega)]
      by_cases e2 : n < pop k
      · rw [if_pos e2, if_pos e2]
        dsimp only
        rw [bl_e, nI_add]
      · rw [if_neg e2, if_neg e2, bl_e, nI_add]
        dsimp only
        rw [bl_e, nI_add]
theorem M_wyL {P : Pl} {A : Ab} {F c n : Nat} {h : HS} (hF : 70 ≤ F) (hn : n ≤ 100) (ho : ∀ i, i < 64 → h.1 9 i = nI (ord P A c i)) : ∀ (j k : Nat), k + j = 64 → ∀ g, j < g → l_M_ways_0 F (nI n) g (nI (wyF P A c n k)) (nI k) h = some (nI (wyF P A c n 64), h) := by
  intro j
  induction j with
  | zero =>
    intro k hk g hg
    obtain ⟨g, rfl⟩ : ∃ z, g = z + 1 := ⟨g - 1, by omega⟩
    rw [l_M_ways_0, ite_leN (by omega) (by omega), if_pos (by omega), show k = 64 by omega]
  | succ j ih =>
    intro k hk g hg
    obtain ⟨g, rfl⟩ : ∃ z, g = z + 1 := ⟨g - 1, by omega⟩
    have hk6 : k < 64 := by omega
    have hb : ord P A c k ≤ 117649 := ord_lt hk6
    have hp := pop_le k
    have ih := ih (k + 1) (by omega) g (by omega)
    rw [← ih, l_M_ways_0, ite_leN (by omega) (by omega), if_neg (by omega), ifin (by omega) (by omega), bl_e, bl_e, nI_clamp (by omega), ho k (by omega), ite_le0 (by omega), wyF]
    by_cases e1 : ord P A c k = 0
    · rw [if_pos e1, if_pos e1]
      dsimp only
      rw [bl_e, bl_e, nI_add, nI_add]
      rfl
    · rw [if_neg e1, if_neg e1, M_bits (by omega) hk6, bnd_s, ite_ltN (by omega) (by omega)]
      by_cases e2 : n < pop k
      · rw [if_pos e2, if_pos e2]
        dsimp only
        rw [bl_e, bl_e, nI_add, nI_add]
        rfl
      · rw [if_neg e2, if_neg e2]
        dsimp only
        rw [bl_e, bl_e, nI_add, nI_add]
theorem S_ways {F : Nat} (hF : 20000 ≤ F) (a b : Int32) : Sim (f_LC_ways F a b) (f_M_ways F a b) := by
  intro P A hc hm q0
  have q := Rel_th (v := nI 0) q0
  obtain ⟨c, m, W, Y, -⟩ := id q
  obtain ⟨⟨wN, wNM, wM, wCo, w3, w4, w5, wC, wD, wK⟩, wAc, wAk, wAw, wAf⟩ := id W
  have h64 := p64 w4
  rw [f_LC_ways, C_hasCause w3 c.1, bnd_s, ite_b0, f_M_ways, bl_e, M_isCause w3 m, bnd_s, ite_b0]
  by_cases ha : inb a (P 0 3) = true
  · rw [if_pos ha, if_pos ha, C_isDeedNumber, bnd_s, ite_b0, M_isIn7, bnd_s, ite_b0]
    by_cases hb : inb b 7 = true
    · rw [if_pos hb, if_pos hb]
      obtain ⟨hk, ek⟩ := inb_ex ha
      obtain ⟨hn, en⟩ := inb_ex hb
      generalize a.toNatClampNeg = k at hk ek
      generalize b.toNatClampNeg = n at hn en
      subst ek en
      obtain ⟨f, x1, x2⟩ := C_countOrders (F := F) (by omega) W hk c Y
      obtain ⟨f2, y1, y2⟩ := M_ordersBy (F := F) (by omega) W hk m
      refine ⟨nI (wyF P A k n (2 ^ P 0 4)), _, _, P, A, ?_, ?_, Rel_tab (f := f) (f2 := f2) q⟩
      · have e := C_hmL (F := F) (A := A) (c := k) (n := n) w4 (by omega) (WYr_fr (hc2 := st hc 35 f) Y (st_o (by decide)) (st_o (by decide)) (st_o (by decide)) (st_o (by decide))) (fun i hi => by rw [st_e]; exact x1 i hi) (2 ^ P 0 4) 0 (by omega) F (by omega)
        have e : l_Ways_howMany_0 F (nI n) F (nI 0) (nI 0) (st hc 35 f) = _ := e
        rw [f_Ways_howMany, x2, bnd_s, bl_e, bl_e, e, bnd_s]
      · rw [y2, bnd_s, bl_e, bl_e, ← wyF_64 h64.2]
        exact M_wyL (F := F) (by omega) (by omega) (fun i hi => by rw [st_e]; exact y1 i hi) 64 0 (by omega) F (by omega)
    · rw [if_neg hb, if_neg hb]
      exact ⟨_, _, _, P, A, rfl, rfl, q⟩
  · rw [if_neg ha, if_neg ha]
    exact ⟨_, _, _, P, A, rfl, rfl, q⟩
/-- VALUE -/
def valI (P : Pl) (A : Ab) (k c : Nat) : Int32 := if A.1 1 c = 0 then (if safeC P A c 0 = true then nI (P 3 c * nearC P A c (nrF P A c (A.1 5 k) (2 ^ P 0 4) - 1) / 1000) - nI (sm P 9 (nrF P A c (A.1 5 k) (2 ^ P 0 4) - 1)) else nI 0) else nI 0
theorem nrF_pos {P : Pl} {A : Ab} {c n k : Nat} (h0 : ord P A c 0 ≠ 0) (hk : 0 < k) : nrF P A c n k ≠ 0 := by
  induction k with
  | zero => omega
  | succ k ih =>
    unfold nrF
    rcases Nat.eq_zero_or_pos k with e | e
    · subst e
      rw [if_neg h0, if_neg (show ¬ n < pop 0 from Nat.not_lt_zero n), if_pos (show nrF P A c n 0 = 0 from rfl)]
      omega
    · have := ih e
      (repeat' split) <;> first | exact this | omega
theorem ord_0 {P : Pl} {A : Ab} {c : Nat} (h : safeC P A c 0 = true) : ord P A c 0 = 1 := by
  rw [ord_rec (by omega), if_pos]
  · simp [ordS]
  · unfold wayB freeB
    rw [h, decide_eq_true ⟨Nat.two_pow_pos _, Nat.zero_and _⟩]
    rfl
theorem nr_safe {P : Pl} {A : Ab} {c n : Nat} (h64 : 2 ^ P 0 4 ≤ 64) (h0 : nrF P A c n (2 ^ P 0 4) ≠ 0) : safeC P A c (nrF P A c n (2 ^ P 0 4) - 1) = true := by
  have hne := nrF_ord (2 ^ P 0 4) h0
  have hr := nrF_le (P := P) (A := A) (c := c) (n := n) (2 ^ P 0 4)
  rw [ord_rec (by omega)] at hne
  by_cases q : wayB P A c (nrF P A c n (2 ^ P 0 4) - 1) = true
  · unfold wayB at q
    exact (Bool.and_eq_true _ _ ▸ q).2
  · rw [if_neg q] at hne
    exact absurd rfl hne
theorem near_lt {P : Pl} {A : Ab} (W : WFP P) {c s : Nat} (h : safeC P A c s = true) : nearC P A c s < 1000 := by
  have h1 := fo_le W A c s
  have h2 := ag_le W A c s
  have h5 := safe_near W (show fo P A c s ≤ 2000 by omega) (show ag P A c s ≤ 2000 by omega) h2.2
  unfold safeC at h
  rw [h5] at h
  simpa [nearC] using h
theorem C_valueFor {P : Pl} {A : Ab} {F k c : Nat} {h : HS} (hF : 70 ≤ F) (W : WF P A) (hk : k < P 0 5) (hc : c < P 0 3) (R : CR P A h) (Y : WYr P h) : ∃ f, f_Ways_valueFor F (nI k) (nI c) h = some (valI P A k c, st h 35 f) := by
  obtain ⟨⟨wN, wNM, wM, wCo, w3, w4, w5, wC, wD, wK⟩, wAc, wAk, wAw, wAf⟩ := id W
  have h64 := p64 w4
  have hz := (wAk k hk).1
  have hz2 := wK k
  have hpc := wC c
  rw [f_Ways_valueFor, C_isOpenAndSafe W R hc, bnd_s, ite_b0]
  unfold valI
  by_cases e1 : A.1 1 c = 0
  · by_cases e2 : safeC P A c 0 = true
    · rw [if_pos e1, if_pos e2, decide_eq_true e1, e2, if_pos (show (true && true) = true from rfl), C_ofClerk w5 R hk (by omega), bnd_s]
      obtain ⟨f, e3⟩ := C_nearestSet (F := F) (n := A.1 5 k) (c := c) hF (by omega) W hc R Y
      have hne : nrF P A c (A.1 5 k) (2 ^ P 0 4) ≠ 0 := nrF_pos (by rw [ord_0 e2]; omega) h64.1
      have hr := nrF_le (P := P) (A := A) (c := c) (n := A.1 5 k) (2 ^ P 0 4)
      have hs := nr_safe h64.2 hne
      have hl := near_lt W.1 hs
      refine ⟨f, ?_⟩
      have e3 : f_Ways_nearestSet F (nI c) (rkC P A k 0) h = _ := e3
      rw [e3, bnd_s, bl_e, ite_pn (by omega), if_neg hne, pI_p (by omega)]
      have R2 : CR P A (st h 35 f) := CR_st (by omega) (by omega) R
      have Y2 : WYr P (st h 35 f) := WYr_fr Y (st_o (by decide)) (st_o (by decide)) (st_o (by decide)) (st_o (by decide))
      have h7 : P 3 c * nearC P A c (nrF P A c (A.1 5 k) (2 ^ P 0 4) - 1) ≤ 99 * 1000 := Nat.mul_le_mul (by omega) (by omega)
      rw [C_ofCause w3 R2 hc (by omega), bnd_s, C_nearnessBehind W R2 Y2 hc (by omega), bnd_s, ite_ne0 (by omega), if_neg (by omega), ifin (by omega) (by omega), nI_clamp (by omega), (Y2.2 _ (by omega)).2.2]
      show some (nI (P 3 c) * nI (nearC P A c _) / nI 1000 - _, _) = _
      rw [nI_mul, nI_div (by omega) (by omega) (by omega)]
    · have e2 : safeC P A c 0 = false := by simpa using e2
      rw [if_pos e1, e2, Bool.and_false, if_neg (by decide), if_neg (by decide)]
      exact ⟨h.1 35, by rw [st_s]⟩
  · rw [if_neg e1, decide_eq_false e1, Bool.false_and, if_neg (by decide)]
    exact ⟨h.1 35, by rw [st_s]⟩
theorem M_valueOf {P : Pl} {A : Ab} {F k c : Nat} {h : HS} (hF : 70 ≤ F) (W : WF P A) (hk : k < P 0 5) (hc : c < P 0 3) (R : MR P A h) : ∃ f, f_M_valueOf F (nI k) (nI c) h = some (valI P A k c, st h 9 f) := by
  obtain ⟨⟨wN, wNM, wM, wCo, w3, w4, w5, wC, wD, wK⟩, wAc, wAk, wAw, wAf⟩ := id W
  have h64 := p64 w4
  have hz := (wAk k hk).1
  have hz2 := wK k
  have hpc := wC c
  have hst := (wAc c hc).1
  rw [f_M_valueOf, nI_add, ifin (by omega) (by omega), nI_clamp (by omega), m_state R hc, ite_eq0 (by omega)]
  unfold valI
  by_cases e1 : A.1 1 c = 0
  · rw [if_pos e1, if_pos e1, M_isSafe W (by omega) R hc h64.1, bnd_s, ite_b0]
    by_cases e2 : safeC P A c 0 = true
    · rw [if_pos e2, if_pos e2, nI_add, ifin (by omega) (by omega), nI_clamp (by omega), m_zeal R hk]
      obtain ⟨f, e3⟩ := M_nearestOf (F := F) (n := A.1 5 k) (c := c) hF (by omega) W hc R
      have hne : nrF P A c (A.1 5 k) (2 ^ P 0 4) ≠ 0 := nrF_pos (by rw [ord_0 e2]; omega) h64.1
      have hr := nrF_le (P := P) (A := A) (c := c) (n := A.1 5 k) (2 ^ P 0 4)
      have hs := nr_safe h64.2 hne
      have hl := near_lt W.1 hs
      have R2 : MR P A (st h 9 f) := MR_st (by decide) R
      refine ⟨f, ?_⟩
      rw [e3, bnd_s, bl_e, pI_p (by omega), M_payOf W (by omega) R2 hc (by omega) (by omega), bnd_s, M_sum w4 (by omega) (sumAt_9 R2) (by omega), bnd_s]
    · rw [if_neg e2, if_neg e2]
      exact ⟨h.1 9, by rw [st_s]⟩
  · rw [if_neg e1, if_neg e1]
    exact ⟨h.1 9, by rw [st_s]⟩
