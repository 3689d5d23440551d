def rumS (P : Pl) (A : Ab) (c s : Nat) : Bool := safe P (P 5 c + sm P 7 (A.1 3 c) + sm P 7 s) (P 6 c + sm P 8 (A.1 3 c) + sm P 8 s)
def prF (P : Pl) (A : Ab) (c : Nat) : Nat → Nat
  | 0 => 0
  | k + 1 => if freeB P A c k = true then (if rumS P A c k = safeC P A c k then prF P A c k else (if prF P A c k = 0 then k + 1 else (if pop k < pop (prF P A c k - 1) then k + 1 else prF P A c k))) else prF P A c k
theorem prF_le {P : Pl} {A : Ab} {c : Nat} : ∀ k, prF P A c k ≤ k := by
  intro k
  induction k with
  | zero => exact Nat.le_refl 0
  | succ k ih =>
    unfold prF
    (repeat' split) <;> omega
theorem prF_64 {P : Pl} {A : Ab} {c : Nat} (h64 : 2 ^ P 0 4 ≤ 64) : prF P A c 64 = prF P A c (2 ^ P 0 4) := by
  have : ∀ j, 2 ^ P 0 4 + j ≤ 64 → prF P A c (2 ^ P 0 4 + j) = prF P A c (2 ^ P 0 4) := by
    intro j
    induction j with
    | zero => intro _; rfl
    | succ j ih =>
      intro hj
      show prF P A c (2 ^ P 0 4 + j + 1) = _
      rw [prF, if_neg (free_big (by omega)), ih (by omega)]
  have := this (64 - 2 ^ P 0 4) (by omega)
  rw [show 2 ^ P 0 4 + (64 - 2 ^ P 0 4) = 64 by omega] at this
  exact this
theorem sm_disj {P : Pl} {f s a : Nat} (h : s &&& a = 0) : sm P f (s ||| a) = sm P f a + sm P f s := by
  have tb : ∀ d, (s ||| a).testBit d = (s.testBit d || a.testBit d) := fun d => Nat.testBit_or s a d
  have ta : ∀ d, (s.testBit d && a.testBit d) = false := fun d => by
    rw [← Nat.testBit_and, h, Nat.zero_testBit]
  have e : ∀ d z, (if (s ||| a).testBit d = true then z else 0) = (if a.testBit d = true then z else 0) + (if s.testBit d = true then z else 0) := fun d z => by
    rw [tb]
    have := ta d
    cases h1 : s.testBit d <;> cases h2 : a.testBit d <;> simp_all
  unfold sm
  rw [e, e, e, e, e, e]
  omega
theorem b_or : ∀ a, a < 64 → ∀ b, b < 64 → (nI a ||| nI b) = nI (a ||| b) := by decide +kernel
theorem bI_eq {α : Type} {a b : Bool} {X Y : α} : (if bI a = bI b then X else Y) = if a = b then X else Y := by
  cases a <;> cases b <;> first | rfl | exact if_neg (by decide) | (rw [if_neg (by decide)]; exact if_neg (by decide))
theorem C_ofRumour {P : Pl} {h : HS} (w3 : P 0 3 ≤ 6) (hp : PC P h 3) {c w : Nat} (hc : c < P 0 3) (hw : w < 2) (hr : P 6 c ≠ 0) : f_Plan_ofRumour_3 (nI c) (nI w) h = some (nI (P (5 + w) c), h) := by
  simp (disch := omega) only [f_Plan_ofRumour_3, bl_e, bnd_s, nI_add, nI_mul, ifin, nI_clamp, rZ0, rZ1, rZb, ite_eqN, ite_eq0, ite_ne0, ite_leN, ite_ltN, ite_lt0, ite_le0, ite_ge0, ite_gt0, ite_b0, ite_bn0]
  rw [hp.2.2.1 c w (by omega) hw (Or.inr hr)]
theorem C_rum0 {P : Pl} {h : HS} (w3 : P 0 3 ≤ 6) (hp : PC P h 3) {c : Nat} (hc : c < P 0 3) (hr : P 6 c ≠ 0) : f_Plan_ofRumour_3 (nI c) (nI 0) h = some (nI (P 5 c), h) := C_ofRumour w3 hp hc (by omega) hr
theorem C_rum1 {P : Pl} {h : HS} (w3 : P 0 3 ≤ 6) (hp : PC P h 3) {c : Nat} (hc : c < P 0 3) (hr : P 6 c ≠ 0) : f_Plan_ofRumour_3 (nI c) (nI 1) h = some (nI (P 6 c), h) := C_ofRumour w3 hp hc (by omega) hr
theorem C_isNotSmaller {s t : Nat} (hs : s < 64) (ht : t < 64) (h : HS) : f_Ways_isNotSmaller (nI s) (nI t) h = some (bI (decide (pop t ≤ pop s)), h) := by
  have p1 := pop_le s
  have p2 := pop_le t
  rw [f_Ways_isNotSmaller, E_bitCount hs, bnd_s, E_bitCount ht, bnd_s, ite_ltN (by omega) (by omega), rZ0, rZ1]
  by_cases x : pop s < pop t
  · rw [if_pos x, decide_eq_false (by omega)]
    rfl
  · rw [if_neg x, decide_eq_true (by omega)]
    rfl
theorem C_prL {P : Pl} {A : Ab} {F c : Nat} {h : HS} (W : WF P A) (hc : c < P 0 3) (hr6 : P 6 c ≠ 0) (R : CR P A h) (Y : WYr P h) : ∀ (j k : Nat), k + j = 2 ^ P 0 4 → ∀ g, j < g → l_Ways_partingSet_0 F (nI c) (nI (A.1 3 c)) g (pI (prF P A c k)) (nI k) h = some (pI (prF P A c (2 ^ P 0 4)), h) := by
  obtain ⟨⟨wN, wNM, wM, wCo, w3, w4, w5, wC, wD, wK⟩, wAc, wAk, wAw, wAf⟩ := id W
  have h64 := p64 w4
  have hh := (wAc c hc).2.1
  intro j
  induction j with
  | zero =>
    intro k hk g hg
    obtain ⟨g, rfl⟩ : ∃ z, g = z + 1 := ⟨g - 1, by omega⟩
    rw [l_Ways_partingSet_0, Y.1, ite_leN (by omega) (by omega), if_pos (by omega), show k = 2 ^ P 0 4 by omega]
  | succ j ih =>
    intro k hk g hg
    obtain ⟨g, rfl⟩ : ∃ z, g = z + 1 := ⟨g - 1, by omega⟩
    have hr := prF_le (P := P) (A := A) (c := c) k
    have hkD : k < 2 ^ P 0 4 := by omega
    have u1 := sm_le W.1 (f := 7) (Or.inl rfl) (A.1 3 c)
    have u2 := sm_le W.1 (f := 7) (Or.inl rfl) k
    have d1 := sm_le W.1 (f := 8) (Or.inr (Or.inl rfl)) (A.1 3 c)
    have d2 := sm_le W.1 (f := 8) (Or.inr (Or.inl rfl)) k
    have pc := wC c
    have ih := ih (k + 1) (by omega) g (by omega)
    have body : ∀ (X Y2 : HS → Option (Int32 × HS)), (bnd (f_Plan_ofRumour_3 (nI c) (nI 0) h) fun r15 h14 => if inb (nI (A.1 3 c)) 64 = true then (if inb (nI k) 64 = true then bl (r15 + h14.1 32 (nI (A.1 3 c)).toNatClampNeg + h14.1 32 (nI k).toNatClampNeg) fun v16 => bnd (f_Plan_ofRumour_3 (nI c) (nI 1) h14) fun r18 h17 => if inb (nI (A.1 3 c)) 64 = true then (if inb (nI k) 64 = true then bl (r18 + h17.1 33 (nI (A.1 3 c)).toNatClampNeg + h17.1 33 (nI k).toNatClampNeg) fun v19 => bnd (f_Plan_isSafe_3 v16 v19 h17) fun r21 h20 => bnd (f_Ways_isSafeBehind (nI c) (nI k) h20) fun r23 h22 => if r21 = r23 then X h22 else Y2 h22 else none) else none else none) else none) = if rumS P A c k = safeC P A c k then X h else Y2 h := by
      intro X Y2
      rw [C_rum0 w3 R.1 hc hr6, bnd_s, ifin (by omega) (by omega), ifin (by omega) (by omega), bl_e, nI_clamp (by omega), nI_clamp (by omega), (Y.2 _ hh).1, (Y.2 _ hkD).1, C_rum1 w3 R.1 hc hr6, bnd_s, ifin (by omega) (by omega), ifin (by omega) (by omega), bl_e, (Y.2 _ hh).2.1, (Y.2 _ hkD).2.1, nI_add, nI_add, nI_add, nI_add, C_isSafeP W.1 R.1 (by omega) (by omega), bnd_s, C_isSafeBehind W R Y hc hkD, bnd_s, bI_eq]
      rfl
    rw [← ih, l_Ways_partingSet_0, Y.1, ite_leN (by omega) (by omega), if_neg (by omega), C_canN W R Y hc (by omega), bnd_s, bl_e, ite_b0, prF]
    by_cases e1 : freeB P A c k = true
    · rw [if_pos e1, if_pos e1, bl_e, ite_pn (by omega)]
      by_cases e3 : prF P A c k = 0
      · rw [if_pos e3, if_pos e3]
        refine (body (fun h22 => _) (fun h22 => _)).trans ?_
        dsimp only
        rw [bl_e, bl_e, bl_e, nI_add]
        by_cases e2 : rumS P A c k = safeC P A c k
        · rw [if_pos e2, if_pos e2]
        · rw [if_neg e2, if_neg e2, pI_s]
      · rw [if_neg e3, if_neg e3, pI_p (by omega), C_isNotSmaller (by omega) (by omega), bnd_s, ite_b0]
        by_cases x : pop k < pop (prF P A c k - 1)
        · rw [if_neg (by simpa using x), if_pos x]
          refine (body (fun h22 => _) (fun h22 => _)).trans ?_
          dsimp only
          rw [bl_e, bl_e, bl_e, nI_add]
          by_cases e2 : rumS P A c k = safeC P A c k
          · rw [if_pos e2, if_pos e2, pI_p (show 0 < prF P A c k by omega)]
          · rw [if_neg e2, if_neg e2, pI_s]
        · rw [if_pos (by simpa using x), if_neg x, ite_self]
          dsimp only
          rw [bl_e, nI_add, pI_p (show 0 < prF P A c k by omega)]
    · rw [if_neg e1, if_neg e1]
      dsimp only
      rw [bl_e, nI_add]
theorem M_byRumour {P : Pl} {A : Ab} {F c k : Nat} {h : HS} (hF : 70 ≤ F) (W : WF P A) (hc : c < P 0 3) (hr6 : P 6 c ≠ 0) (R : MR P A h) (hk : freeB P A c k = true) : f_M_isSafeByRumour F (nI c) (nI k) h = some (bI (rumS P A c k), h) := by
  obtain ⟨⟨wN, wNM, wM, wCo, w3, w4, w5, wC, wD, wK⟩, wAc, wAk, wAw, wAf⟩ := id W
  have h64 := p64 w4
  have hh := (wAc c hc).2.1
  obtain ⟨k1, k2⟩ := freeB_lt hk
  have r := (m_told R hc).2.2.2.2.2 hr6
  have hor : k ||| A.1 3 c < 2 ^ P 0 4 := Nat.or_lt_two_pow k1 hh
  have u1 := sm_le W.1 (f := 7) (Or.inl rfl) (A.1 3 c)
  have u2 := sm_le W.1 (f := 7) (Or.inl rfl) k
  have d1 := sm_le W.1 (f := 8) (Or.inr (Or.inl rfl)) (A.1 3 c)
  have d2 := sm_le W.1 (f := 8) (Or.inr (Or.inl rfl)) k
  have pc := wC c
  rw [f_M_isSafeByRumour, nI_add, nI_add, nI_add, ifin (by omega) (by omega), ifin (by omega) (by omega), nI_clamp (by omega), nI_clamp (by omega), m_had R hc, r.1, b_or _ (by omega) _ (by omega), M_sum w4 (by omega) (sumAt_7 R) hor, bnd_s, bl_e, ifin (by omega) (by omega), ifin (by omega) (by omega), m_had R hc, b_or _ (by omega) _ (by omega), M_sum w4 (by omega) (sumAt_8 R) hor, bnd_s, nI_clamp (by omega), r.2, sm_disj k2, sm_disj k2, nI_add, nI_add, nI_add, ← Nat.add_assoc]
  have := M_isBelow W.1 R (x := P 5 c + sm P 7 (A.1 3 c) + sm P 7 k) (y := P 6 c + sm P 8 (A.1 3 c) + sm P 8 k) (by omega) (by omega)
  rw [show P 5 c + sm P 7 (A.1 3 c) + sm P 7 k + P 6 c + (sm P 8 (A.1 3 c) + sm P 8 k) = P 5 c + sm P 7 (A.1 3 c) + sm P 7 k + (P 6 c + sm P 8 (A.1 3 c) + sm P 8 k) by omega, this, bnd_s, rZb]
  rfl
theorem M_prL {P : Pl} {A : Ab} {F c : Nat} {h : HS} (hF : 70 ≤ F) (W : WF P A) (hc : c < P 0 3) (hr6 : P 6 c ≠ 0) (R : MR P A h) : ∀ (j k : Nat), k + j = 64 → ∀ g, j < g → l_M_parts_0 F (nI c) g (pI (prF P A c k)) (nI k) h = some (pI (prF P A c 64), h) := by
  obtain ⟨⟨wN, wNM, wM, wCo, w3, w4, w5, wC, wD, wK⟩, wAc, wAk, wAw, wAf⟩ := id W
  have h64 := p64 w4
  intro j
  induction j with
  | zero =>
    intro k hk g hg
    obtain ⟨g, rfl⟩ : ∃ z, g = z + 1 := ⟨g - 1, by omega⟩
    rw [l_M_parts_0, ite_leN (by omega) (by omega), if_pos (by omega), show k = 64 by omega]
  | succ j ih =>
    intro k hk g hg
    obtain ⟨g, rfl⟩ : ∃ z, g = z + 1 := ⟨g - 1, by omega⟩
    have hr := prF_le (P := P) (A := A) (c := c) k
    have ih := ih (k + 1) (by omega) g (by omega)
    rw [← ih, l_M_parts_0, ite_leN (by omega) (by omega), if_neg (by omega), M_free W R hc, bnd_s, bl_e, M_frN W hc (by omega), prF]
    by_cases e1 : freeB P A c k = true
    · have hk2 := (freeB_lt e1).1
      rw [if_pos e1, if_pos e1, M_isSafe W (by omega) R hc hk2, bnd_s, M_byRumour hF W hc hr6 R e1, bnd_s, bI_eq]
      by_cases e2 : rumS P A c k = safeC P A c k
      · rw [if_pos e2.symm, if_pos e2]
        dsimp only
        rw [bl_e, nI_add]
      · rw [if_neg (fun z => e2 z.symm), if_neg e2, bl_e, ite_plt (by omega)]
        by_cases e3 : prF P A c k = 0
        · rw [if_pos e3, if_pos e3]
          dsimp only
          rw [bl_e, bl_e, nI_add, pI_s]
        · have p1 := pop_le k
          have p2 := pop_le (prF P A c k - 1)
          rw [if_neg e3, if_neg e3, pI_p (by omega), M_bits (by omega) (by omega), bnd_s, M_bits (by omega) (by omega), bnd_s, ite_leN (by omega) (by omega)]
          by_cases x : pop k < pop (prF P A c k - 1)
          · rw [if_neg (by omega), if_pos x]
            dsimp only
            rw [bl_e, bl_e, nI_add, pI_s]
          · rw [if_pos (by omega), if_neg x]
            dsimp only
            rw [bl_e, nI_add, pI_p (show 0 < prF P A c k by omega)]
    · rw [if_neg e1, if_neg e1]
      dsimp only
      rw [bl_e, nI_add]
theorem S_parts {F : Nat} (hF : 20000 ≤ F) (a : Int32) : Sim (f_LC_parts F a) (f_M_parts F a) := Sim_rd fun P A hc hm q => by
  obtain ⟨c, m, W, Y, -⟩ := q
  obtain ⟨⟨wN, wNM, wM, wCo, w3, w4, w5, wC, wD, wK⟩, wAc, wAk, wAw, wAf⟩ := id W
  have h64 := p64 w4
  rw [f_LC_parts, C_hasRumour W.1 c.1, bnd_s, ite_b0, f_M_parts, bl_e, M_isCause w3 m, bnd_s, ite_b0]
  by_cases ha : inb a (P 0 3) = true
  · obtain ⟨hk, ek⟩ := inb_ex ha
    rw [if_pos ha, ha, Bool.true_and]
    generalize a.toNatClampNeg = k at hk ek
    subst ek
    rw [nI_add, ifin (by omega) (by omega), nI_clamp (by omega), m_hasr m hk]
    by_cases e6 : P 6 k = 0
    · rw [if_neg (by simpa using e6), if_pos e6, if_pos (by decide)]
      exact ⟨_, rfl, rfl⟩
    · rw [if_pos (by simpa using e6), if_neg e6, if_neg (by decide)]
      have e1 := C_prL (F := F) W hk e6 c Y (2 ^ P 0 4) 0 (by omega) F (by omega)
      have e2 := M_prL (F := F) (by omega) W hk e6 m 64 0 (by omega) F (by omega)
      have e1 : l_Ways_partingSet_0 F (nI k) (nI (A.1 3 k)) F (-1) (nI 0) hc = some (pI (prF P A k (2 ^ P 0 4)), hc) := by rw [← pI_0]; exact e1
      have e2 : l_M_parts_0 F (nI k) F (-1) (nI 0) (sI hm 0 0 (nI 0)) = some (pI (prF P A k 64), sI hm 0 0 (nI 0)) := by rw [← pI_0]; exact e2
      refine ⟨pI (prF P A k (2 ^ P 0 4)), ?_, ?_⟩
      · rw [f_Ways_partingSet, bl_e, C_ofCause w3 c hk (by omega), bnd_s, bl_e, bl_e]
        simp only [rcC]
        rw [e1, bnd_s]
      · rw [bl_e, bl_e, e2, prF_64 h64.2]
  · rw [if_neg ha, if_neg (by
      cases h : inb a (P 0 3)
      · simp
      · exact absurd h ha)]
    exact ⟨_, rfl, rfl⟩
