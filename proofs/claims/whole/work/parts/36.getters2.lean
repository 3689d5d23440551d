theorem S_end (a : Int32) : Sim (f_LC_end a) (f_M_end a) := fun P A hc hm q0 => by
  have q := Rel_th (v := nI 0) q0
  have qq := q
  obtain ⟨c, m, W, y, U, s, o⟩ := id q
  obtain ⟨⟨n, n9, t1, t2, t3⟩, o2⟩ := id o
  have hM : f_M_end a hm = if inb a (n + 1) = true then some (nI 1, sI (sI hm 0 0 (nI 0)) 0 2 a) else some (nI 0, sI hm 0 0 (nI 0)) := by
    rw [f_M_end, bl_e, t2, rZ0, bl_e, rZ1, ← inb_i2 (by omega)]
    by_cases h : a < 0
    · rw [if_pos h, if_pos h]
    · rw [if_neg h, if_neg h]
      obtain ⟨j, hj, rfl⟩ := nI_of h
      rw [ite_leN hj (by omega), ite_leN (by omega) hj]
      by_cases z : j ≤ n
      · rw [if_pos z, if_neg (by omega)]
      · rw [if_neg z, if_pos (by omega)]
  have hC : f_LC_end a hc = if inb a (n + 1) = true then some (nI 1, sI hc 1 1 a) else some (nI 0, hc) := by
    rw [f_LC_end, f_Tape_cutTo, t1, rZ0, bl_e, rZ1, ← inb_i2 (by omega)]
    by_cases h : a < 0
    · rw [if_pos h, if_pos h, bnd_s, rZ0]
    · rw [if_neg h, if_neg h]
      obtain ⟨j, hj, rfl⟩ := nI_of h
      rw [ite_leN hj (by omega), ite_leN (by omega) hj]
      by_cases z : j ≤ n
      · rw [if_pos z, if_neg (by omega), bnd_s, rZ1]
      · rw [if_neg z, if_pos (by omega), bnd_s, rZ0]
  rw [hM, hC]
  by_cases h : inb a (n + 1) = true
  · rw [if_pos h, if_pos h]
    obtain ⟨hk, ek⟩ := inb_ex h
    generalize a.toNatClampNeg = k at hk ek
    subst ek
    refine ⟨_, _, _, P, A, rfl, rfl, CR_fr c (sI_o (by decide)) (sI_o (by decide)) (sI_o (by decide)) (sI_o (by decide)) (sI_o (by decide)) (sI_o (by decide)) rfl rfl rfl, MR_fr m (sI_o (by decide)) rfl, W, WYr_fr y (sI_o (by decide)) (sI_o (by decide)) (sI_o (by decide)) (sI_o (by decide)), UD_fr U (sI_o (by decide)) (fun j hj => sI_o (by omega)) (sI_o (by decide)) (sI_n (by decide)), SEr_fr s (sI_o (by decide)) (sI_o (by decide)) (sI_o (by decide)) (sI_o (by decide)), ?_⟩
    refine ⟨⟨k, by omega, sI_e, sI_e, fun i hi => ?_⟩, o2⟩
    rw [sI_o (by decide), sI_o (by decide)]
    exact t3 i (by omega)
  · rw [if_neg h, if_neg h]
    exact ⟨_, _, _, P, A, rfl, rfl, qq⟩
/-- the dead causes, as bits -/
def deadB (A : Ab) : Nat → Nat
  | 0 => 0
  | c + 1 => if A.1 1 c = 4 then deadB A c ||| 2 ^ c else deadB A c
theorem deadB_lt (A : Ab) : ∀ n, deadB A n < 2 ^ n := by
  intro n
  induction n with
  | zero => exact Nat.one_pos
  | succ n ih =>
    have h : 2 ^ n < 2 ^ (n + 1) := Nat.pow_lt_pow_right (by omega) (by omega)
    unfold deadB
    split
    · exact or_lt (by omega) (by omega)
    · omega
theorem or_0 : ∀ a, a < 64 → nI a ||| nI 0 = nI a := by decide +kernel
theorem C_deadL {P : Pl} {A : Ab} {h : HS} {F : Nat} (W : WF P A) (R : CR P A h) : ∀ (j c : Nat), c + j = P 0 3 → ∀ g, j < g → l_Desk_deadBits_0 F g (nI (deadB A c)) (nI c) h = some (nI (deadB A (P 0 3)), h) := by
  obtain ⟨⟨wN, wNM, wM, wCo, w3, w4, w5, wC, wD, wK⟩, wAc, wAk, wAw, wAf⟩ := id W
  intro j
  induction j with
  | zero =>
    intro c hc g hg
    obtain ⟨g, rfl⟩ : ∃ z, g = z + 1 := ⟨g - 1, by omega⟩
    rw [l_Desk_deadBits_0, C_causes R.1, bnd_s, ite_leN (by omega) (by omega), if_pos (by omega), show c = P 0 3 by omega]
  | succ j ih =>
    intro c hc g hg
    obtain ⟨g, rfl⟩ : ∃ z, g = z + 1 := ⟨g - 1, by omega⟩
    have h1 := (wAc c (by omega)).1
    have h2 := deadB_lt A c
    have h3 : (2 : Nat) ^ c ≤ 2 ^ 6 := Nat.pow_le_pow_right (by omega) (by omega)
    rw [l_Desk_deadBits_0, C_causes R.1, bnd_s, ite_leN (by omega) (by omega), if_neg (by omega), C_ofCause w3 R (by omega) (by omega), bnd_s]
    simp (disch := omega) only [rcC, bl_e, ite_eqN, nI_add, bit_or]
    rw [← ih (c + 1) (by omega) g (by omega)]
    by_cases e : A.1 1 c = 4
    · rw [if_pos e]
      simp only [deadB, if_pos e]
    · rw [if_neg e]
      simp only [deadB, if_neg e]
theorem M_nowL {P : Pl} {A : Ab} {h : HS} {F : Nat} {x1 : Int32} {K : Int32 → HS → Option (Int32 × HS)} (W : WF P A) (R : MR P A h) : ∀ (j c : Nat), c + j = P 0 3 → ∀ g, j < g → l_M_now_0 F x1 K g (nI (deadB A c)) (nI c) h = K (nI (deadB A (P 0 3))) h := by
  obtain ⟨⟨wN, wNM, wM, wCo, w3, w4, w5, wC, wD, wK⟩, wAc, wAk, wAw, wAf⟩ := id W
  intro j
  induction j with
  | zero =>
    intro c hc g hg
    obtain ⟨g, rfl⟩ : ∃ z, g = z + 1 := ⟨g - 1, by omega⟩
    rw [l_M_now_0]
    simp (disch := omega) only [bl_e, bnd_s, nI_add, nI_mul, ifin, nI_clamp, rZ0, rZ1, rZb, ite_eqN, ite_eq0, ite_ne0, ite_leN, ite_ltN, ite_lt0, ite_le0, ite_ge0, ite_gt0, ite_b0, ite_bn0, m_0 R]
    rw [if_pos (by omega), show c = P 0 3 by omega]
  | succ j ih =>
    intro c hc g hg
    obtain ⟨g, rfl⟩ : ∃ z, g = z + 1 := ⟨g - 1, by omega⟩
    have hc3 : c < P 0 3 := by omega
    have h1 := (wAc c hc3).1
    have h2 := deadB_lt A c
    have h3 : (2 : Nat) ^ c ≤ 2 ^ 6 := Nat.pow_le_pow_right (by omega) (by omega)
    rw [l_M_now_0]
    simp (disch := omega) only [bl_e, bnd_s, nI_add, nI_mul, ifin, nI_clamp, rZ0, rZ1, rZb, ite_eqN, ite_eq0, ite_ne0, ite_leN, ite_ltN, ite_lt0, ite_le0, ite_ge0, ite_gt0, ite_b0, ite_bn0, m_0 R, m_state R hc3, bit_or, or_0]
    rw [if_neg (by omega), ← ih (c + 1) (by omega) g (by omega)]
    by_cases e : A.1 1 c = 4
    · rw [if_pos e]
      simp only [deadB, if_pos e]
    · rw [if_neg e]
      simp only [deadB, if_neg e]
theorem S_now {F : Nat} (hF : 20000 ≤ F) (a : Int32) : Sim (f_LC_now F a) (f_M_now F a) := Sim_rd fun P A hc hm q => by
  obtain ⟨c, m, W, -⟩ := q
  obtain ⟨⟨wN, wNM, wM, wCo, w3, w4, w5, wC, wD, wK⟩, wAc, wAk, wAw, wAf⟩ := id W
  have hM : f_M_now F a hm = if a = nI 0 then some (nI (A.1 8 0), sI hm 0 0 (nI 0)) else if a = nI 1 then some (A.2 3 0, sI hm 0 0 (nI 0)) else if a = nI 2 then some (A.2 4 0, sI hm 0 0 (nI 0)) else if a = nI 3 then some (nI (deadB A (P 0 3)), sI hm 0 0 (nI 0)) else if a = nI 4 then some (A.2 5 0, sI hm 0 0 (nI 0)) else if a = nI 5 then some (pI (A.1 9 0), sI hm 0 0 (nI 0)) else if a = nI 6 then some (A.2 6 0, sI hm 0 0 (nI 0)) else some (-1, sI hm 0 0 (nI 0)) := by
    rw [f_M_now, bl_e, bl_e, bl_e]
    have e := M_nowL (F := F) (x1 := a) W m (P 0 3) 0 (by omega) (K := fun (v9 : Int32) (h10 : HS) => if a = nI 0 then (if inb (nI 72) 332 = true then some (h10.1 2 (nI 72).toNatClampNeg, h10) else none) else if a = nI 1 then (if inb (nI 73) 332 = true then some (h10.1 2 (nI 73).toNatClampNeg, h10) else none) else if a = nI 2 then (if inb (nI 74) 332 = true then some (h10.1 2 (nI 74).toNatClampNeg, h10) else none) else if a = nI 3 then some (v9, h10) else if a = nI 4 then (if inb (nI 77) 332 = true then some (h10.1 2 (nI 77).toNatClampNeg, h10) else none) else if a = nI 5 then (if inb (nI 75) 332 = true then some (h10.1 2 (nI 75).toNatClampNeg - nI 1, h10) else none) else if a = nI 6 then (if inb (nI 76) 332 = true then some (h10.1 2 (nI 76).toNatClampNeg, h10) else none) else some (-1, h10)) F (by omega)
    refine e.trans ?_
    simp (disch := omega) only [ifin, nI_clamp, m_week m, m_coin m, m_disg m, m_deeds m, m_first m, m_flags m]
    rfl
  have hC : f_LC_now F a hc = if inb a 7 = true then (if a = nI 3 then some (nI (deadB A (P 0 3)), hc) else bnd (f_Desk_ofNow a hc) (fun r h => some (r, h))) else some (-1, hc) := by
    have e : f_Desk_deadBits F hc = some (nI (deadB A (P 0 3)), hc) := by
      rw [f_Desk_deadBits, bl_e, bl_e]
      exact C_deadL W c (P 0 3) 0 (by omega) F (by omega)
    rw [f_LC_now, e, ← inb_i2 (by omega)]
    by_cases h : a < 0
    · rw [if_pos h, if_pos h]
    · rw [if_neg h, if_neg h]
      by_cases z : a < nI 7
      · rw [if_pos z, if_neg (Int32.not_le.mpr z), bnd_s]
      · rw [if_neg z, if_pos (Int32.not_lt.mp z)]
  rw [hM, hC]
  by_cases hb : inb a 7 = true
  · rw [if_pos hb]
    obtain ⟨hw, ew⟩ := inb_ex hb
    generalize a.toNatClampNeg = w at hw ew
    subst ew
    rcases (show w = 3 ∨ w ≠ 3 by omega) with e3 | e3
    · subst e3
      exact ⟨_, rfl, rfl⟩
    · rw [if_neg (fun z => e3 (nI_inj (by omega) (by omega) z)), C_ofNow c hw e3, bnd_s]
      refine ⟨_, rfl, ?_⟩
      simp (disch := omega) only [ite_eqN]
      rcases (show w = 0 ∨ w = 1 ∨ w = 2 ∨ w = 3 ∨ w = 4 ∨ w = 5 ∨ w = 6 by omega) with e | e | e | e | e | e | e <;> subst e <;> first | rfl | omega
  · rw [if_neg hb, if_neg (ninb hb (by omega) (by omega)), if_neg (ninb hb (by omega) (by omega)), if_neg (ninb hb (by omega) (by omega)), if_neg (ninb hb (by omega) (by omega)), if_neg (ninb hb (by omega) (by omega)), if_neg (ninb hb (by omega) (by omega)), if_neg (ninb hb (by omega) (by omega))]
    exact ⟨_, rfl, rfl⟩
theorem C_hasRumour {P : Pl} {h : HS} (w : WFP P) (hp : PC P h 3) (x : Int32) : f_Plan_hasRumour_3 x h = some (bI (inb x (P 0 3) && decide (P 6 x.toNatClampNeg ≠ 0)), h) := by
  obtain ⟨wN, wNM, wM, wCo, w3, w4, w5, wC, wD, wK⟩ := w
  rw [f_Plan_hasRumour_3, C_hasCause w3 hp, bnd_s, ite_b0]
  by_cases ha : inb x (P 0 3) = true
  · obtain ⟨hk, ek⟩ := inb_ex ha
    rw [if_pos ha, ha]
    generalize x.toNatClampNeg = c at hk ek
    subst ek
    have r : h.1 8 (c * 2 + 1) = nI (P 6 c) := hp.2.2.1 c 1 (by omega) (by omega) (Or.inl rfl)
    have := wC c
    simp (disch := omega) only [nI_mul, nI_add, ifin, nI_clamp, r, ite_le0, rZ0, rZ1]
    by_cases e : P 6 c = 0
    · simp [e, bI]
    · simp [e, bI]
  · rw [if_neg ha, rZ0]
    cases h2 : inb x (P 0 3)
    · rfl
    · exact absurd h2 ha
theorem C_rumL {P : Pl} {A : Ab} {h : HS} {F : Nat} (W : WF P A) (R : CR P A h) : ∀ (j c : Nat), c + j = P 0 3 → ∀ g, j < g → l_Plan_rumours_3_0 F g (nI (rumN P c)) (nI c) h = some (nI (rumN P (P 0 3)), h) := by
  obtain ⟨⟨wN, wNM, wM, wCo, w3, w4, w5, wC, wD, wK⟩, wAc, wAk, wAw, wAf⟩ := id W
  intro j
  induction j with
  | zero =>
    intro c hc g hg
    obtain ⟨g, rfl⟩ : ∃ z, g = z + 1 := ⟨g - 1, by omega⟩
    rw [l_Plan_rumours_3_0, R.1.1.2.2.2.1, ite_leN (by omega) (by omega), if_pos (by omega), show c = P 0 3 by omega]
  | succ j ih =>
    intro c hc g hg
    obtain ⟨g, rfl⟩ : ∃ z, g = z + 1 := ⟨g - 1, by omega⟩
    have hc3 : c < P 0 3 := by omega
    rw [l_Plan_rumours_3_0, R.1.1.2.2.2.1, ite_leN (by omega) (by omega), if_neg (by omega), C_hasRumour W.1 R.1, bnd_s, inb_nI (by omega), decide_eq_true hc3, nI_clamp (by omega), ← ih (c + 1) (by omega) g (by omega)]
    simp only [bl_e, nI_add, ite_b0, Bool.true_and]
    by_cases e : P 6 c = 0
    · simp [e, rumN]
    · simp [e, rumN]
theorem S_count {F : Nat} (hF : 20000 ≤ F) (a : Int32) : Sim (f_LC_count F a) (f_M_count a) := Sim_rd fun P A hc hm q => by
  obtain ⟨c, m, W, -, -, -, ⟨n, n9, t1, t2, t3⟩, -⟩ := q
  obtain ⟨⟨wN, wNM, wM, wCo, w3, w4, w5, wC, wD, wK⟩, wAc, wAk, wAw, wAf⟩ := id W
  have er : f_Plan_rumours_3 F hc = some (nI (rumN P (P 0 3)), hc) := by
    rw [f_Plan_rumours_3, bl_e, bl_e]
    exact C_rumL W c (P 0 3) 0 (by omega) F (by omega)
  have hM : f_M_count a hm = if a = nI 6 then some (nI n, sI hm 0 0 (nI 0)) else (if inb a 6 = true then (if inb a 332 = true then some ((sI hm 0 0 (nI 0)).1 2 a.toNatClampNeg, sI hm 0 0 (nI 0)) else none) else some (-1, sI hm 0 0 (nI 0))) := by
    rw [f_M_count, bl_e, t2, show nI 5 = nI 6 - nI 1 from rfl, M_isInN (by omega), bnd_s, ite_b0]
  rw [hM, f_LC_count, C_causes c.1, C_deeds c.1, C_clerks c.1, er, f_Plan_lineAbove_3, f_Plan_lineBelow_3, f_Tape_length, c.1.1.1, c.1.1.2.1, t1]
  simp only [bnd_s]
  by_cases hb : inb a 6 = true
  · obtain ⟨hw, ew⟩ := inb_ex hb
    generalize a.toNatClampNeg = w at hw ew
    subst ew
    simp (disch := omega) only [ite_eqN, hb, if_true, ifin, nI_clamp]
    rcases (show w = 0 ∨ w = 1 ∨ w = 2 ∨ w = 3 ∨ w = 4 ∨ w = 5 by omega) with e | e | e | e | e | e <;> subst e <;> first | exact ⟨_, rfl, by rw [if_neg (by omega), m_0 m]⟩ | exact ⟨_, rfl, by rw [if_neg (by omega), m_1 m]⟩ | exact ⟨_, rfl, by rw [if_neg (by omega), m_2 m]⟩ | exact ⟨_, rfl, by rw [if_neg (by omega), m_3 m]⟩ | exact ⟨_, rfl, by rw [if_neg (by omega), m_4 m]⟩ | exact ⟨_, rfl, by rw [if_neg (by omega), m_5 m]⟩
  · rw [if_neg (ninb hb (by omega) (by omega)), if_neg (ninb hb (by omega) (by omega)), if_neg (ninb hb (by omega) (by omega)), if_neg (ninb hb (by omega) (by omega)), if_neg (ninb hb (by omega) (by omega)), if_neg (ninb hb (by omega) (by omega)), if_neg hb]
    by_cases e : a = nI 6
    · rw [if_pos e, if_pos e]
      exact ⟨_, rfl, rfl⟩
    · rw [if_neg e, if_neg e]
      exact ⟨_, rfl, rfl⟩
