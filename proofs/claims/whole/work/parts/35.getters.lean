/-! ===== calls that only ask ===== -/
theorem Sim_rd {fc fm : HS → Option (Int32 × HS)} (h : ∀ (P : Pl) (A : Ab) (hc hm : HS), Rel P A hc (sI hm 0 0 (nI 0)) → ∃ v, fc hc = some (v, hc) ∧ fm hm = some (v, sI hm 0 0 (nI 0))) : Sim fc fm := fun P A hc hm q => by
  have q2 := Rel_th (v := nI 0) q
  obtain ⟨v, a, b⟩ := h P A hc hm q2
  exact ⟨v, hc, _, P, A, a, b, q2⟩
theorem S_fault : Sim f_LC_fault f_M_fault := Sim_rd fun P A hc hm q => by
  obtain ⟨-, -, -, -, -, -, -, o, -⟩ := q
  exact ⟨_, rfl, by rw [f_M_fault, bl_e, ← show hc.1 0 15 = _ from o]⟩
theorem S_tried : Sim f_LC_tried f_M_tried := Sim_rd fun P A hc hm q => by
  obtain ⟨-, -, -, -, -, -, -, -, o, -⟩ := q
  refine ⟨_, rfl, ?_⟩
  rw [f_M_tried, bl_e, show hc.1 0 16 = _ from o]
  split <;> rfl
theorem S_booked (a : Int32) : Sim (f_LC_booked a) (f_M_booked a) := Sim_rd fun P A hc hm q => by
  obtain ⟨-, -, -, -, -, -, -, -, -, -, o, -⟩ := q
  unfold f_LC_booked
  have hM : f_M_booked a hm = if (sI hm 0 0 (nI 0)).1 0 34 = 0 then some (-1, sI hm 0 0 (nI 0)) else if inb a 4 = true then (if inb a 4 = true then some ((sI hm 0 0 (nI 0)).1 13 a.toNatClampNeg, sI hm 0 0 (nI 0)) else none) else some (-1, sI hm 0 0 (nI 0)) := by
    rw [f_M_booked, bl_e, show nI 3 = nI 4 - nI 1 from rfl, M_isInN (by omega), bnd_s, ite_b0]
  rw [hM, inb_i2 (by omega)]
  by_cases h : inb a 4 = true
  · have h2 := inb_ex h
    rw [if_pos h, if_pos h, if_pos h, if_pos h, o _ h2.1]
    refine ⟨_, rfl, ?_⟩
    split <;> rfl
  · rw [if_neg h, if_neg h]
    refine ⟨_, rfl, ?_⟩
    split <;> rfl
theorem S_matched (a : Int32) : Sim (f_LC_matched a) (f_M_matched a) := Sim_rd fun P A hc hm q => by
  obtain ⟨-, -, -, -, -, -, -, -, -, ⟨m, m5, hm28, o⟩, -⟩ := q
  have hM : f_M_matched a hm = if inb a m = true then (if inb a 5 = true then some ((sI hm 0 0 (nI 0)).1 12 a.toNatClampNeg, sI hm 0 0 (nI 0)) else none) else some (-1, sI hm 0 0 (nI 0)) := by
    rw [f_M_matched, bl_e]
    rcases hm28 with e | ⟨e0, e⟩
    · rw [e, M_isInN (by omega), bnd_s, ite_b0]
    · rw [e, M_isIn, bnd_s, ite_b0, e0]
      have e1 : (decide (nI 0 ≤ a ∧ a ≤ -1 - nI 1)) = false := by
        apply decide_eq_false
        rintro ⟨x, y⟩
        have z := Int32.le_trans x y
        exact absurd z (by decide)
      have e2 : inb a 0 = false := by
        cases h : inb a 0
        · rfl
        · exact absurd (inb_ex h).1 (by omega)
      rw [e1, e2]
  rw [hM, f_LC_matched, f_Mat_causeOf, inb_i2 (by omega)]
  by_cases h : inb a 5 = true
  · have h2 := inb_ex h
    rw [if_pos h, if_pos h, if_pos h, bnd_s, o _ h2.1, h2.2, inb_nI (by omega), nI_clamp (by omega)]
    by_cases z : a.toNatClampNeg < m
    · rw [if_pos z, if_pos (by simpa using z)]
      exact ⟨_, rfl, rfl⟩
    · rw [if_neg z, if_neg (by simpa using z)]
      exact ⟨_, rfl, rfl⟩
  · have h3 : ¬ inb a m = true := fun z => by
      have z2 := inb_ex z
      apply h
      rw [z2.2, inb_nI (by omega)]
      exact decide_eq_true (by omega)
    rw [if_neg h, if_neg h3, bnd_s]
    exact ⟨_, rfl, rfl⟩
theorem ninb {a : Int32} {n k : Nat} (h : ¬ inb a n = true) (hk : k < n) (hn : n < 2147483648) : ¬ a = nI k := fun e => h (by rw [e, inb_nI (by omega)]; exact decide_eq_true hk)
theorem S_deed (a b : Int32) : Sim (f_LC_deed a b) (f_M_deed a b) := Sim_rd fun P A hc hm q => by
  obtain ⟨c, m, W, -⟩ := q
  obtain ⟨⟨wN, wNM, wM, wCo, w3, w4, w5, wC, wD, wK⟩, wAc, wAk, wAw, wAf⟩ := id W
  have hM : f_M_deed a b hm = if inb a (P 0 4) = true then (if b = 0 then (if inb (nI 49 + a) 332 = true then some ((sI hm 0 0 (nI 0)).1 2 (nI 49 + a).toNatClampNeg, sI hm 0 0 (nI 0)) else none) else (if b = nI 1 then (if inb (nI 55 + a) 332 = true then some ((sI hm 0 0 (nI 0)).1 2 (nI 55 + a).toNatClampNeg, sI hm 0 0 (nI 0)) else none) else (if b = nI 2 then (if inb (nI 61 + a) 332 = true then some ((sI hm 0 0 (nI 0)).1 2 (nI 61 + a).toNatClampNeg, sI hm 0 0 (nI 0)) else none) else some (-1, sI hm 0 0 (nI 0))))) else some (-1, sI hm 0 0 (nI 0)) := by
    rw [f_M_deed, bl_e, M_isDeed w4 m, bnd_s, ite_b0]
  rw [hM, f_LC_deed, C_hasDeed w4 c.1, bnd_s, ite_b0, inb_i2 (by omega)]
  by_cases ha : inb a (P 0 4) = true
  · rw [if_pos ha, if_pos ha]
    obtain ⟨hk, ek⟩ := inb_ex ha
    generalize a.toNatClampNeg = d at hk ek
    subst ek
    by_cases hb : inb b 3 = true
    · rw [if_pos hb]
      obtain ⟨hw, ew⟩ := inb_ex hb
      generalize b.toNatClampNeg = w at hw ew
      subst ew
      rcases (show w = 0 ∨ w = 1 ∨ w = 2 by omega) with e | e | e <;> subst e
      · refine ⟨nI (P 7 d), by rw [C_up w4 c.1 hk, bnd_s], ?_⟩
        simp (disch := omega) only [bl_e, bnd_s, nI_add, nI_mul, ifin, nI_clamp, rZ0, rZ1, rZb, ite_eqN, ite_eq0, ite_ne0, ite_leN, ite_ltN, ite_lt0, ite_le0, ite_ge0, ite_gt0, ite_b0, ite_bn0, if_true, m_up m hk]
      · refine ⟨nI (P 8 d), by rw [C_down w4 c.1 hk, bnd_s], ?_⟩
        simp (disch := omega) only [bl_e, bnd_s, nI_add, nI_mul, ifin, nI_clamp, rZ0, rZ1, rZb, ite_eqN, ite_eq0, ite_ne0, ite_leN, ite_ltN, ite_lt0, ite_le0, ite_ge0, ite_gt0, ite_b0, ite_bn0, if_true, m_down m hk, if_false, Nat.one_ne_zero]
      · refine ⟨nI (P 9 d), by rw [C_cost w4 c.1 hk, bnd_s], ?_⟩
        simp (disch := omega) only [bl_e, bnd_s, nI_add, nI_mul, ifin, nI_clamp, rZ0, rZ1, rZb, ite_eqN, ite_eq0, ite_ne0, ite_leN, ite_ltN, ite_lt0, ite_le0, ite_ge0, ite_gt0, ite_b0, ite_bn0, if_true, m_cost m hk]
        rw [if_neg (by omega), if_neg (by omega)]
    · rw [if_neg hb, if_neg (show ¬ b = (0 : Int32) from ninb (k := 0) hb (by omega) (by omega)), if_neg (ninb hb (by omega) (by omega)), if_neg (ninb hb (by omega) (by omega))]
      exact ⟨_, rfl, rfl⟩
  · rw [if_neg ha, if_neg ha]
    exact ⟨_, rfl, rfl⟩
theorem S_clerk (a b : Int32) : Sim (f_LC_clerk a b) (f_M_clerk a b) := Sim_rd fun P A hc hm q => by
  obtain ⟨c, m, W, -⟩ := q
  obtain ⟨⟨wN, wNM, wM, wCo, w3, w4, w5, wC, wD, wK⟩, wAc, wAk, wAw, wAf⟩ := id W
  have hM : ∀ (k : Nat), k < P 0 5 → f_M_clerk (nI k) b hm = if b = nI 0 then some (nI (A.1 5 k), sI hm 0 0 (nI 0)) else if b = nI 1 then some (nI (P 10 k), sI hm 0 0 (nI 0)) else if b = nI 2 then some (pI (A.1 6 k), sI hm 0 0 (nI 0)) else if b = nI 3 then some (A.2 1 k, sI hm 0 0 (nI 0)) else if b = nI 4 then some (nI (A.1 7 k), sI hm 0 0 (nI 0)) else if b = nI 5 then some (A.2 2 k, sI hm 0 0 (nI 0)) else some (-1, sI hm 0 0 (nI 0)) := by
    intro k hk
    rw [f_M_clerk, bl_e, M_isClerk w5 m, bnd_s, ite_b0, inb_nI (by omega), decide_eq_true hk, if_pos rfl]
    simp (disch := omega) only [nI_add, ifin, nI_clamp, m_zeal m hk, m_ztold m hk, m_has m hk, m_acts m hk, m_acted m hk, m_brought m hk]
    rfl
  rw [f_LC_clerk, C_hasClerk w5 c.1, bnd_s, ite_b0, inb_i2 (by omega)]
  by_cases ha : inb a (P 0 5) = true
  · rw [if_pos ha]
    obtain ⟨hk, ek⟩ := inb_ex ha
    generalize a.toNatClampNeg = k at hk ek
    subst ek
    rw [hM k hk]
    by_cases hb : inb b 6 = true
    · rw [if_pos hb]
      obtain ⟨hw, ew⟩ := inb_ex hb
      generalize b.toNatClampNeg = w at hw ew
      subst ew
      rw [C_ofClerk w5 c hk hw, bnd_s]
      refine ⟨_, rfl, ?_⟩
      simp (disch := omega) only [ite_eqN]
      rcases (show w = 0 ∨ w = 1 ∨ w = 2 ∨ w = 3 ∨ w = 4 ∨ w = 5 by omega) with e | e | e | e | e | e <;> subst e <;> rfl
    · rw [if_neg hb, if_neg (ninb hb (by omega) (by omega)), if_neg (ninb hb (by omega) (by omega)), if_neg (ninb hb (by omega) (by omega)), if_neg (ninb hb (by omega) (by omega)), if_neg (ninb hb (by omega) (by omega)), if_neg (ninb hb (by omega) (by omega))]
      exact ⟨_, rfl, rfl⟩
  · rw [if_neg ha, f_M_clerk, bl_e, M_isClerk w5 m, bnd_s, ite_b0, if_neg ha]
    exact ⟨_, rfl, rfl⟩
theorem S_pay {F : Nat} (hF : 20000 ≤ F) (a : Int32) : Sim (f_LC_pay a) (f_M_pay F a) := Sim_rd fun P A hc hm q => by
  obtain ⟨c, m, W, -⟩ := q
  obtain ⟨⟨wN, wNM, wM, wCo, w3, w4, w5, wC, wD, wK⟩, wAc, wAk, wAw, wAf⟩ := id W
  have h64 := p64 w4
  rw [f_LC_pay, C_hasCause w3 c.1, bnd_s, ite_b0, f_M_pay, bl_e, M_isCause w3 m, bnd_s, ite_b0]
  by_cases ha : inb a (P 0 3) = true
  · rw [if_pos ha, if_pos ha]
    obtain ⟨hk, ek⟩ := inb_ex ha
    generalize a.toNatClampNeg = k at hk ek
    subst ek
    rw [C_payFor W c hk, bnd_s, M_isSafe W (by omega) m hk h64.1, bnd_s, ite_b0]
    refine ⟨_, rfl, ?_⟩
    unfold payN
    by_cases e : safeC P A k 0 = true
    · have := pay_lt W.1 e
      rw [if_pos e, if_pos e, M_payOf W (by omega) m hk h64.1 (by omega), bnd_s]
    · rw [if_neg e, if_neg e]
  · rw [if_neg ha, if_neg ha]
    exact ⟨_, rfl, rfl⟩
theorem S_dies (a : Int32) : Sim (f_LC_dies a) (f_M_dies a) := Sim_rd fun P A hc hm q => by
  obtain ⟨c, m, W, -⟩ := q
  obtain ⟨⟨wN, wNM, wM, wCo, w3, w4, w5, wC, wD, wK⟩, wAc, wAk, wAw, wAf⟩ := id W
  rw [f_LC_dies, C_hasCause w3 c.1, bnd_s, ite_b0]
  by_cases ha : inb a (P 0 3) = true
  · rw [if_pos ha]
    obtain ⟨hk, ek⟩ := inb_ex ha
    generalize a.toNatClampNeg = k at hk ek
    subst ek
    have h1 := (wAc k hk).1
    have hM : f_M_dies (nI k) hm = if A.1 1 k = 0 then some (nI (A.1 0 k), sI hm 0 0 (nI 0)) else if A.1 1 k = 1 then some (-1, sI hm 0 0 (nI 0)) else if A.1 1 k = 2 then some (nI (A.1 0 k), sI hm 0 0 (nI 0)) else if A.1 1 k = 3 then some (-1, sI hm 0 0 (nI 0)) else if A.1 1 k = 4 then some (nI 0, sI hm 0 0 (nI 0)) else some (-1, sI hm 0 0 (nI 0)) := by
      rw [f_M_dies, bl_e, M_isCause w3 m, bnd_s, ite_b0, inb_nI (by omega), decide_eq_true hk, if_pos rfl]
      simp (disch := omega) only [nI_add, ifin, nI_clamp, m_state m hk, m_bel m hk, ite_eqN]
    rw [hM, C_ofCause w3 c hk (by omega), bnd_s, bl_e]
    simp (disch := omega) only [rcC, bl_e, C_ofCause w3 c hk, bnd_s, ite_eqN, ite_eq0]
    rcases (show A.1 1 k = 0 ∨ A.1 1 k = 1 ∨ A.1 1 k = 2 ∨ A.1 1 k = 3 ∨ A.1 1 k = 4 by omega) with e | e | e | e | e <;> rw [e] <;> exact ⟨_, rfl, rfl⟩
  · rw [if_neg ha, f_M_dies, bl_e, M_isCause w3 m, bnd_s, ite_b0, if_neg ha]
    exact ⟨_, rfl, rfl⟩
