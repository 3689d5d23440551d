theorem C_won {P : Pl} {A : Ab} {h : HS} (W : WF P A) (R : CR P A h) {c : Nat} (hc : c < P 0 3) (h1 : A.1 1 c = 1) (hs : ¬ safeC P A c 0 = true) : ∃ r, f_Desk_passTaken (nI c) h = some ((), st h 21 r) ∧ CR P (wonA A c) (st h 21 r) := by
  obtain ⟨⟨wN, wNM, wM, wCo, w3, w4, w5, wC, wD, wK⟩, wAc, wAk, wAw, wAf⟩ := id W
  have q := wAc c hc
  have q2 := q.2.2.2.2.1 h1
  obtain ⟨k, hk⟩ : ∃ k, A.1 2 c = k + 1 := ⟨A.1 2 c - 1, by omega⟩
  have hA : A.1 2 c - 1 = k := by omega
  have hk5 : k < P 0 5 := by omega
  have hR := R.2
  have r5 : h.1 21 (c * 9 + 5) = nI k := by rw [hR.1 c 5 hc (by omega)]; show pI (A.1 2 c) = _; rw [hk, pI_s]
  have n0 : h.1 21 (84 + 0) = nI (A.1 8 0) := hR.2.2 0 (by omega) (by omega)
  have n2 : h.1 21 (84 + 2) = A.2 4 0 := hR.2.2 2 (by omega) (by omega)
  have n5 : h.1 21 (84 + 5) = pI (A.1 9 0) := hR.2.2 5 (by omega) (by omega)
  have hs : safeC P A c 0 = false := by simpa using hs
  have key : f_Desk_passTaken (nI c) h = if A.1 9 0 = 0 then some ((), st h 21 (upd (upd (upd (upd (upd (upd (h.1 21) (54 + k * 6 + 2) (pI 0)) (c * 9 + 4) (nI 3)) (c * 9 + 5) (pI 0)) (84 + 1) (nI 0)) (84 + 2) (A.2 4 0 + nI 1)) (84 + 5) (pI (A.1 8 0 + 1)))) else some ((), st h 21 (upd (upd (upd (upd (upd (h.1 21) (54 + k * 6 + 2) (pI 0)) (c * 9 + 4) (nI 3)) (c * 9 + 5) (pI 0)) (84 + 1) (nI 0)) (84 + 2) (A.2 4 0 + nI 1))) := by
    rw [f_Desk_passTaken, C_isSafe W R hc, bnd_s, hs, ite_b0, if_neg (by decide), E_ofCause (by omega) (by omega), r5, bnd_s, bl_e, C_hasClerk w5 R.1, bnd_s, bl_e, inb_nI (by omega), decide_eq_true hk5, ite_b0, if_pos rfl, E_setClerk (by omega) (by omega), bnd_s]
    dsimp only
    rw [E_setCause (by omega) (by omega), bnd_s, E_setCause (by omega) (by omega), bnd_s, E_setNow (by omega), bnd_s, E_addNow (by omega), bnd_s, E_ofNow (by omega), bnd_s]
    simp (disch := omega) only [st_e, st_st, upd_n, n2, n5]
    rw [ite_pn (by omega), E_ofNow (by omega), bnd_s, st_e]
    simp (disch := omega) only [upd_n, n0]
    rw [E_setNow (by omega), bnd_s, st_e, st_st, ← pI_0, pI_s]
  have qr := RC_disg w3 w5 (RC_coin w3 w5 (RC_hold (RC_state (RC_has w3 hR (k0 := k) (by omega) 0) (c0 := c) (by omega) 3) (c0 := c) (by omega) 0) (nI 0)) (A.2 4 0 + nI 1)
  unfold wonA wonB
  rw [hA]
  by_cases e : A.1 9 0 = 0
  · refine ⟨_, by rw [key, if_pos e], ?_⟩
    rw [if_pos e]
    exact CR_mk R (RC_first w3 w5 qr (A.1 8 0 + 1))
  · refine ⟨_, by rw [key, if_neg e], ?_⟩
    rw [if_neg e]
    exact CR_mk R qr
theorem C_wc1 {P : Pl} {A : Ab} {h : HS} (W : WF P A) (R : CR P A h) {c : Nat} (hc : c < P 0 3) : ∃ r, (∀ F K g, l_Desk_passWeek_1 F K (g + 1) (nI c) h = l_Desk_passWeek_1 F K g (nI (c + 1)) (st h 21 r)) ∧ CR P (wcA P A c) (st h 21 r) := by
  obtain ⟨⟨wN, wNM, wM, wCo, w3, w4, w5, wC, wD, wK⟩, wAc, wAk, wAw, wAf⟩ := id W
  have q := wAc c hc
  have hR := R.2
  have r3 : h.1 21 (c * 9 + 3) = nI (A.1 0 c) := hR.1 c 3 hc (by omega)
  have r4 : h.1 21 (c * 9 + 4) = nI (A.1 1 c) := hR.1 c 4 hc (by omega)
  have r8 : h.1 21 (c * 9 + 8) = nI (A.1 4 c) := hR.1 c 8 hc (by omega)
  have n0 : h.1 21 (84 + 0) = nI (A.1 8 0) := hR.2.2 0 (by omega) (by omega)
  have start : ∀ F K g, l_Desk_passWeek_1 F K (g + 1) (nI c) h = if A.1 1 c = 1 then bnd (f_Desk_passTaken (nI c) h) (fun _ h => l_Desk_passWeek_1 F K g (nI (c + 1)) h) else (if A.1 1 c = 0 ∨ A.1 1 c = 2 then bnd (f_Desk_passLeftAlone (nI c) h) (fun _ h => l_Desk_passWeek_1 F K g (nI (c + 1)) h) else l_Desk_passWeek_1 F K g (nI (c + 1)) h) := by
    intro F K g
    rw [l_Desk_passWeek_1, C_causes R.1, bnd_s, ite_leN (by omega) (by omega), if_neg (by omega), E_ofCause (by omega) (by omega), r4]
    simp (disch := omega) only [bl_e, bnd_s, ite_eqN, ite_eq0, nI_add]
    by_cases e1 : A.1 1 c = 1
    · rw [if_pos e1, if_pos e1]
    · rw [if_neg e1, if_neg e1]
      by_cases e0 : A.1 1 c = 0
      · rw [if_pos e0, if_pos (Or.inl e0)]
      · rw [if_neg e0]
        by_cases e2 : A.1 1 c = 2
        · rw [if_pos e2, if_pos (Or.inr e2)]
        · rw [if_neg e2, if_neg (by omega)]
  unfold wcA
  by_cases e1 : A.1 1 c = 1
  · by_cases hs : safeC P A c 0 = true
    · refine ⟨upd (h.1 21) (c * 9 + 3) (nI (min 20 (A.1 0 c + 1))), fun F K g => ?_, ?_⟩
      · rw [start, if_pos e1, f_Desk_passTaken, C_isSafe W R hc, bnd_s, hs, ite_b0, if_pos rfl, E_ofCause (by omega) (by omega), r3, bnd_s, nI_add, ite_ltN (by omega) (by omega), E_setCause (by omega) (by omega), bnd_s, bnd_s]
        congr 4
        by_cases z : 20 < A.1 0 c + 1
        · rw [if_pos z, show min 20 (A.1 0 c + 1) = 20 by omega]
        · rw [if_neg z, show min 20 (A.1 0 c + 1) = A.1 0 c + 1 by omega]
      · rw [if_pos e1, if_pos hs]
        exact CR_mk R (RC_belief hR (by omega) _)
    · obtain ⟨r, e, R1⟩ := C_won W R hc e1 hs
      refine ⟨r, fun F K g => by rw [start, if_pos e1, e, bnd_s], ?_⟩
      rw [if_pos e1, if_neg hs]
      exact R1
  · by_cases e2 : A.1 1 c = 0 ∨ A.1 1 c = 2
    · have qb := q.2.2.2.1 (by omega)
      have al : f_Desk_passLeftAlone (nI c) h = if A.1 0 c = 1 then some ((), st h 21 (upd (upd (h.1 21) (c * 9 + 3) (nI 0)) (c * 9 + 4) (nI 4))) else (if A.1 1 c = 2 ∧ A.1 4 c + 4 ≤ A.1 8 0 then some ((), st h 21 (upd (upd (h.1 21) (c * 9 + 3) (nI (A.1 0 c - 1))) (c * 9 + 4) (nI 0))) else some ((), st h 21 (upd (h.1 21) (c * 9 + 3) (nI (A.1 0 c - 1))))) := by
        rw [f_Desk_passLeftAlone, E_addCause (by omega) (by omega), r3, nI_m1 (by omega), bnd_s, E_ofCause (by omega) (by omega), st_e, upd_e, bnd_s, ite_gt0 (by omega)]
        by_cases z : A.1 0 c = 1
        · rw [if_pos (by omega), if_pos z, E_setCause (by omega) (by omega), bnd_s, st_e, st_st, z]
        · rw [if_neg (by omega), if_neg z, E_ofNow (by omega), bnd_s, E_ofCause (by omega) (by omega), bnd_s, st_e, upd_n (by omega), upd_n (by omega), n0, r8]
          simp (disch := omega) only [bl_e, nI_add, ite_ltN, E_ofCause, E_setCause, bnd_s, st_e, st_st, upd_n, r4, ite_eqN, ite_eq0]
          by_cases y : A.1 1 c = 2
          · by_cases x : A.1 8 0 < A.1 4 c + 4
            · rw [if_pos x, if_pos y, if_pos trivial, if_neg (by omega)]
            · rw [if_neg x, if_pos y, if_neg (by omega), if_pos (by omega)]
          · simp only [y, if_false, false_and, ite_self]
      have e5 : wcA P A c = aloneA A c := by unfold wcA; rw [if_neg e1, if_pos e2]
      rw [if_neg e1, if_pos e2]
      unfold aloneA
      by_cases z : A.1 0 c = 1
      · refine ⟨_, fun F K g => by rw [start, if_neg e1, if_pos e2, al, if_pos z, bnd_s], ?_⟩
        rw [if_pos z]
        exact CR_mk R (RC_state (RC_belief hR (by omega) 0) (by omega) 4)
      · by_cases y : A.1 1 c = 2 ∧ A.1 4 c + 4 ≤ A.1 8 0
        · refine ⟨_, fun F K g => by rw [start, if_neg e1, if_pos e2, al, if_neg z, if_pos y, bnd_s], ?_⟩
          rw [if_neg z, if_pos y]
          exact CR_mk R (RC_state (RC_belief hR (by omega) _) (by omega) 0)
        · refine ⟨_, fun F K g => by rw [start, if_neg e1, if_pos e2, al, if_neg z, if_neg y, bnd_s], ?_⟩
          rw [if_neg z, if_neg y]
          exact CR_mk R (RC_belief hR (by omega) _)
    · refine ⟨h.1 21, fun F K g => by rw [start, if_neg e1, if_neg e2, st_s], ?_⟩
      rw [if_neg e1, if_neg e2, st_s]
      exact R
theorem M_ends {P : Pl} {A : Ab} {h : HS} (W : WF P A) {F : Nat} (hF : 7 ≤ F) (R : MR P A h) {c : Nat} (hc : c < P 0 3) : ∃ s, f_M_ends F (nI c) h = some ((), st h 2 s) ∧ MR P (wcA P A c) (st h 2 s) := by
  obtain ⟨⟨wN, wNM, wM, wCo, w3, w4, w5, wC, wD, wK⟩, wAc, wAk, wAw, wAf⟩ := id W
  have q := wAc c hc
  have h64 := p64 w4
  by_cases e1 : A.1 1 c = 1
  · have q2 := q.2.2.2.2.1 e1
    obtain ⟨k, hk⟩ : ∃ k, A.1 2 c = k + 1 := ⟨A.1 2 c - 1, by omega⟩
    have hA : A.1 2 c - 1 = k := by omega
    have hk5 : k < P 0 5 := by omega
    have hidx : 131 + (k + 1) - 1 = 131 + k := rfl
    by_cases hs : safeC P A c 0 = true
    · refine ⟨upd (h.1 2) (90 + c) (nI (min 20 (A.1 0 c + 1))), ?_, ?_⟩
      · rw [f_M_ends]
        simp (config := {maxSteps := 4000000}) (disch := omega) only [bl_e, bnd_s, nI_add, nI_mul, ifin, nI_clamp, rZ0, rZ1, rZb, ite_eqN, ite_eq0, ite_ne0, ite_leN, ite_ltN, ite_lt0, ite_le0, ite_ge0, ite_gt0, ite_b0, ite_bn0, m_state R hc, e1, if_true, M_isSafe W hF R hc h64.1, hs, m_bel R hc, M_lesser, sI_st, st_e, st_st]
      · unfold wcA
        rw [if_pos e1, if_pos hs]
        exact MR_mk R (fun i hi => by rw [upd_n (by omega)]) (RM_belief w3 w5 R.2 (by omega) _) W.1
    · have hs : safeC P A c 0 = false := by simpa using hs
      have key : f_M_ends F (nI c) h = if A.1 9 0 = 0 then some ((), st h 2 (upd (upd (upd (upd (upd (upd (h.1 2) (96 + c) (nI 3)) 74 (A.2 4 0 + nI 1)) 73 (nI 0)) 75 (nI (A.1 8 0 + 1))) (131 + k) (nI 0)) (102 + c) (nI 0))) else some ((), st h 2 (upd (upd (upd (upd (upd (h.1 2) (96 + c) (nI 3)) 74 (A.2 4 0 + nI 1)) 73 (nI 0)) (131 + k) (nI 0)) (102 + c) (nI 0))) := by
        rw [f_M_ends]
        simp (config := {maxSteps := 4000000}) (disch := omega) only [bl_e, bnd_s, nI_add, nI_mul, ifin, nI_clamp, rZ0, rZ1, rZb, ite_eqN, ite_eq0, ite_ne0, ite_leN, ite_ltN, ite_lt0, ite_le0, ite_ge0, ite_gt0, ite_b0, ite_bn0, m_state R hc, e1, if_true, M_isSafe W hF R hc h64.1, hs, Bool.false_eq_true, if_false, sI_st, st_e, st_st, upd_n, m_disg R, m_first R, m_week R, m_hold R hc, hk, nI_sb, hidx]
      have e6 : wcA P A c = wonA A c := by
        unfold wcA
        rw [if_pos e1, if_neg (by rw [hs]; decide)]
      rw [e6]
      unfold wonA wonB
      rw [hA]
      by_cases e : A.1 9 0 = 0
      · refine ⟨_, by rw [key, if_pos e], ?_⟩
        rw [if_pos e]
        have qq := RM_hold w3 w5 (RM_has w3 w5 (RM_first w3 w5 (RM_coin w3 w5 (RM_disg w3 w5 (RM_state w3 w5 R.2 (c0 := c) (by omega) 3) (A.2 4 0 + nI 1)) (nI 0)) (A.1 8 0 + 1)) (k0 := k) (by omega) 0) (c0 := c) (by omega) 0
        have ee : sN (sV (sV (sN (sN (sN A 6 k 0) 1 c 3) 2 c 0) 3 0 (nI 0)) 4 0 (A.2 4 0 + nI 1)) 9 0 (A.1 8 0 + 1) = sN (sN (sN (sV (sV (sN A 1 c 3) 4 0 (A.2 4 0 + nI 1)) 3 0 (nI 0)) 9 0 (A.1 8 0 + 1)) 6 k 0) 2 c 0 := by
          unfold sN sV
          refine Prod.ext ?_ ?_
          · show up2 (up2 (up2 (up2 A.1 6 k 0) 1 c 3) 2 c 0) 9 0 (A.1 8 0 + 1) = up2 (up2 (up2 (up2 A.1 1 c 3) 9 0 (A.1 8 0 + 1)) 6 k 0) 2 c 0
            rw [up2_comm _ (show 2 ≠ 9 by omega), up2_comm A.1 (show 6 ≠ 1 by omega), up2_comm _ (show 6 ≠ 9 by omega)]
          · show up2 (up2 A.2 3 0 (nI 0)) 4 0 (A.2 4 0 + nI 1) = up2 (up2 A.2 4 0 (A.2 4 0 + nI 1)) 3 0 (nI 0)
            rw [up2_comm _ (show 3 ≠ 4 by omega)]
        rw [ee]
        exact MR_mk R (fun i hi => by rw [upd_n (by omega), upd_n (by omega), upd_n (by omega), upd_n (by omega), upd_n (by omega), upd_n (by omega)]) qq W.1
      · refine ⟨_, by rw [key, if_neg e], ?_⟩
        rw [if_neg e]
        have qq := RM_hold w3 w5 (RM_has w3 w5 (RM_coin w3 w5 (RM_disg w3 w5 (RM_state w3 w5 R.2 (c0 := c) (by omega) 3) (A.2 4 0 + nI 1)) (nI 0)) (k0 := k) (by omega) 0) (c0 := c) (by omega) 0
        have ee : sV (sV (sN (sN (sN A 6 k 0) 1 c 3) 2 c 0) 3 0 (nI 0)) 4 0 (A.2 4 0 + nI 1) = sN (sN (sV (sV (sN A 1 c 3) 4 0 (A.2 4 0 + nI 1)) 3 0 (nI 0)) 6 k 0) 2 c 0 := by
          unfold sN sV
          refine Prod.ext ?_ ?_
          · show up2 (up2 (up2 A.1 6 k 0) 1 c 3) 2 c 0 = up2 (up2 (up2 A.1 1 c 3) 6 k 0) 2 c 0
            rw [up2_comm A.1 (show 6 ≠ 1 by omega)]
          · show up2 (up2 A.2 3 0 (nI 0)) 4 0 (A.2 4 0 + nI 1) = up2 (up2 A.2 4 0 (A.2 4 0 + nI 1)) 3 0 (nI 0)
            rw [up2_comm _ (show 3 ≠ 4 by omega)]
        rw [ee]
        exact MR_mk R (fun i hi => by rw [upd_n (by omega), upd_n (by omega), upd_n (by omega), upd_n (by omega), upd_n (by omega)]) qq W.1
  · by_cases e2 : A.1 1 c = 0 ∨ A.1 1 c = 2
    · have qb := q.2.2.2.1 (by omega)
      have qd := q.2.2.2.2.2.2.1
      have e5 : wcA P A c = aloneA A c := by unfold wcA; rw [if_neg e1, if_pos e2]
      have key : f_M_ends F (nI c) h = if A.1 0 c = 1 then some ((), st h 2 (upd (upd (h.1 2) (90 + c) (nI 0)) (96 + c) (nI 4))) else (if A.1 1 c = 2 ∧ A.1 4 c + 4 ≤ A.1 8 0 then some ((), st h 2 (upd (upd (h.1 2) (90 + c) (nI (A.1 0 c - 1))) (96 + c) (nI 0))) else some ((), st h 2 (upd (h.1 2) (90 + c) (nI (A.1 0 c - 1))))) := by
        have body : f_M_ends F (nI c) h = if A.1 0 c - 1 = 0 then some ((), st h 2 (upd (upd (h.1 2) (90 + c) (nI (A.1 0 c - 1))) (96 + c) (nI 4))) else (if A.1 1 c = 2 then (if A.1 8 0 = A.1 4 c + 4 then some ((), st h 2 (upd (upd (h.1 2) (90 + c) (nI (A.1 0 c - 1))) (96 + c) (nI 0))) else some ((), st h 2 (upd (h.1 2) (90 + c) (nI (A.1 0 c - 1))))) else some ((), st h 2 (upd (h.1 2) (90 + c) (nI (A.1 0 c - 1))))) := by
          rw [f_M_ends]
          simp (config := {maxSteps := 4000000}) (disch := omega) only [bl_e, bnd_s, nI_add, nI_mul, ifin, nI_clamp, rZ0, rZ1, rZb, ite_eqN, ite_eq0, ite_ne0, ite_leN, ite_ltN, ite_lt0, ite_le0, ite_ge0, ite_gt0, ite_b0, ite_bn0, m_state R hc, e1, if_false, sI_st, st_e, st_st, upd_n, upd_e, m_bel R hc, m_week R, m_drop R hc, nI_sb]
          rcases e2 with e2 | e2
          · rw [if_pos e2]
          · rw [if_neg (by omega), if_pos e2]
        rw [body]
        by_cases z : A.1 0 c = 1
        · rw [if_pos (by omega), if_pos z, show A.1 0 c - 1 = 0 by omega]
        · rw [if_neg (by omega), if_neg z]
          by_cases y : A.1 1 c = 2
          · rw [if_pos y]
            by_cases x : A.1 8 0 = A.1 4 c + 4
            · rw [if_pos x, if_pos ⟨y, by omega⟩]
            · rw [if_neg x, if_neg (fun w => by have := qd y; omega)]
          · rw [if_neg y, if_neg (fun w => y w.1)]
      rw [e5]
      unfold aloneA
      by_cases z : A.1 0 c = 1
      · refine ⟨_, by rw [key, if_pos z], ?_⟩
        rw [if_pos z]
        exact MR_mk R (fun i hi => by rw [upd_n (by omega), upd_n (by omega)]) (RM_state w3 w5 (RM_belief w3 w5 R.2 (c0 := c) (by omega) 0) (c0 := c) (by omega) 4) W.1
      · by_cases y : A.1 1 c = 2 ∧ A.1 4 c + 4 ≤ A.1 8 0
        · refine ⟨_, by rw [key, if_neg z, if_pos y], ?_⟩
          rw [if_neg z, if_pos y]
          exact MR_mk R (fun i hi => by rw [upd_n (by omega), upd_n (by omega)]) (RM_state w3 w5 (RM_belief w3 w5 R.2 (c0 := c) (by omega) _) (c0 := c) (by omega) 0) W.1
        · refine ⟨_, by rw [key, if_neg z, if_neg y], ?_⟩
          rw [if_neg z, if_neg y]
          exact MR_mk R (fun i hi => by rw [upd_n (by omega)]) (RM_belief w3 w5 R.2 (c0 := c) (by omega) _) W.1
    · refine ⟨h.1 2, ?_, ?_⟩
      · rw [f_M_ends]
        simp (config := {maxSteps := 4000000}) (disch := omega) only [bl_e, bnd_s, nI_add, nI_mul, ifin, nI_clamp, rZ0, rZ1, rZb, ite_eqN, ite_eq0, ite_ne0, ite_leN, ite_ltN, ite_lt0, ite_le0, ite_ge0, ite_gt0, ite_b0, ite_bn0, m_state R hc, e1, if_false, st_s]
        rw [if_neg (by omega), if_neg (by omega)]
      · unfold wcA
        rw [if_neg e1, if_neg e2, st_s]
        exact R
