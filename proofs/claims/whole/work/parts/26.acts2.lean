theorem sm_or {P : Pl} {f s d : Nat} (hd : d < 6) (hb : s.testBit d = false) : sm P f (s ||| 2 ^ d) = sm P f s + P f d := by
  have tb : ∀ j, (s ||| 2 ^ d).testBit j = (s.testBit j || decide (d = j)) := fun j => by rw [Nat.testBit_or, Nat.testBit_two_pow]
  simp only [sm, tb]
  rcases (show d = 0 ∨ d = 1 ∨ d = 2 ∨ d = 3 ∨ d = 4 ∨ d = 5 by omega) with e | e | e | e | e | e <;> subst e <;> simp [hb, -Nat.testBit_zero] <;> omega
theorem or_lt {s n d : Nat} (hs : s < 2 ^ n) (hd : d < n) : s ||| 2 ^ d < 2 ^ n := Nat.or_lt_two_pow hs (Nat.pow_lt_pow_right (by omega) hd)
theorem RC_had {P : Pl} {A : Ab} {r : Nat → Int32} {c0 : Nat} (R : RC P A r) (hc : c0 < 6) (s : Nat) : RC P (sN A 3 c0 s) (upd (upd (upd r (c0 * 9 + 0) (nI (fo P (sN A 3 c0 s) c0 0))) (c0 * 9 + 1) (nI (ag P (sN A 3 c0 s) c0 0))) (c0 * 9 + 6) (nI s)) := by
  refine ⟨fun c w h1 h2 => ?_, fun k w h1 h2 => ?_, fun w h1 h2 => ?_⟩
  · by_cases e : c = c0
    · subst e
      rcases (show w = 0 ∨ w = 1 ∨ w = 6 ∨ (w ≠ 0 ∧ w ≠ 1 ∧ w ≠ 6) by omega) with e | e | e | e
      · subst e
        rw [upd_n (by omega), upd_n (by omega), upd_e]
        rfl
      · subst e
        rw [upd_n (by omega), upd_e]
        rfl
      · subst e
        rw [upd_e]
        simp [rcC, sN, up2]
      · rw [upd_n (by omega), upd_n (by omega), upd_n (by omega), R.1 c w h1 h2]
        rcases (show w = 0 ∨ w = 1 ∨ w = 2 ∨ w = 3 ∨ w = 4 ∨ w = 5 ∨ w = 6 ∨ w = 7 ∨ w = 8 by omega) with e | e | e | e | e | e | e | e | e <;> subst e <;> first | omega | simp [rcC, sN, up2]
    · rw [upd_n (by omega), upd_n (by omega), upd_n (by omega), R.1 c w h1 h2]
      rcases (show w = 0 ∨ w = 1 ∨ w = 2 ∨ w = 3 ∨ w = 4 ∨ w = 5 ∨ w = 6 ∨ w = 7 ∨ w = 8 by omega) with e | e | e | e | e | e | e | e | e <;> subst e <;> simp [rcC, sN, up2, fo, ag, e]
  · rw [upd_n (by omega), upd_n (by omega), upd_n (by omega), R.2.1 k w h1 h2]
    rcases (show w = 0 ∨ w = 1 ∨ w = 2 ∨ w = 3 ∨ w = 4 ∨ w = 5 by omega) with e | e | e | e | e | e <;> subst e <;> simp [rkC, sN, up2]
  · rw [upd_n (by omega), upd_n (by omega), upd_n (by omega), R.2.2 w h1 h2]
    rcases (show w = 0 ∨ w = 1 ∨ w = 2 ∨ w = 3 ∨ w = 4 ∨ w = 5 ∨ w = 6 by omega) with e | e | e | e | e | e | e <;> subst e <;> simp [rnC, sN, up2]
theorem RM_had {P : Pl} {A : Ab} {s : Nat → Int32} {c0 : Nat} (h3 : P 0 3 ≤ 6) (h5 : P 0 5 ≤ 5) (R : RM0 P A s) (hc : c0 < 6) (v : Nat) : RM0 P (sN A 3 c0 v) (upd (upd (upd s (78 + c0) (nI (fo P (sN A 3 c0 v) c0 0))) (84 + c0) (nI (ag P (sN A 3 c0 v) c0 0))) (108 + c0) (nI v)) := by
  refine ⟨fun c w h1 h2 hn => ?_, fun k w h1 h2 hn => ?_, fun w h1 h2 => ?_, fun j hj => by rw [upd_n (by omega), upd_n (by omega), upd_n (by omega)]; exact R.2.2.2 j hj⟩
  · by_cases e : c = c0
    · subst e
      rcases (show w = 0 ∨ w = 1 ∨ w = 6 ∨ (w ≠ 0 ∧ w ≠ 1 ∧ w ≠ 6) by omega) with e | e | e | e
      · subst e
        show upd _ _ _ (78 + c) = _
        rw [upd_n (by omega), upd_n (by omega), upd_e]
        rfl
      · subst e
        show upd _ _ _ (84 + c) = _
        rw [upd_n (by omega), upd_e]
        rfl
      · subst e
        show upd _ _ _ (108 + c) = _
        rw [upd_e]
        simp [rcM, rcC, sN, up2]
      · have q := R.1 c w h1 h2 hn
        rcases (show w = 0 ∨ w = 1 ∨ w = 2 ∨ w = 3 ∨ w = 4 ∨ w = 5 ∨ w = 6 ∨ w = 7 ∨ w = 8 by omega) with e | e | e | e | e | e | e | e | e <;> subst e <;> (try omega) <;> simp only [bcM] at q ⊢ <;> rw [upd_n (by omega), upd_n (by omega), upd_n (by omega), q] <;> simp [rcM, rcC, sN, up2]
    · have q := R.1 c w h1 h2 hn
      rcases (show w = 0 ∨ w = 1 ∨ w = 2 ∨ w = 3 ∨ w = 4 ∨ w = 5 ∨ w = 6 ∨ w = 7 ∨ w = 8 by omega) with e | e | e | e | e | e | e | e | e <;> subst e <;> (try omega) <;> simp only [bcM] at q ⊢ <;> rw [upd_n (by omega), upd_n (by omega), upd_n (by omega), q] <;> simp [rcM, rcC, sN, up2, fo, ag, e]
  · have q := R.2.1 k w h1 h2 hn
    rcases (show w = 0 ∨ w = 1 ∨ w = 2 ∨ w = 3 ∨ w = 4 ∨ w = 5 by omega) with e | e | e | e | e | e <;> subst e <;> (try omega) <;> simp only [bkM] at q ⊢ <;> rw [upd_n (by omega), upd_n (by omega), upd_n (by omega), q] <;> simp [rkM, rkC, sN, up2]
  · have q := R.2.2.1 w h1 h2
    rcases (show w = 0 ∨ w = 1 ∨ w = 2 ∨ w = 3 ∨ w = 4 ∨ w = 5 ∨ w = 6 by omega) with e | e | e | e | e | e | e <;> subst e <;> (try omega) <;> simp only [bnM] at q ⊢ <;> rw [upd_n (by omega), upd_n (by omega), upd_n (by omega), q] <;> simp [rnM, rnC, sN, up2]
def actA (P : Pl) (A : Ab) (k d : Nat) : Ab := sV (sV (sN (sV (sN (sN A 3 (A.1 6 k - 1) (A.1 3 (A.1 6 k - 1) ||| 2 ^ d)) 5 k (A.1 5 k - 1)) 1 k (A.2 1 k + nI 1)) 7 k 1) 3 0 (A.2 3 0 + -nI (P 9 d))) 5 0 (A.2 5 0 + nI 1)
theorem whyA_0 {P : Pl} {A : Ab} {k d : Nat} (h0 : whyA P A k d = 0) : A.1 6 k ≠ 0 ∧ (A.1 3 (A.1 6 k - 1)).testBit d = false ∧ A.1 5 k ≠ 0 ∧ A.1 7 k = 0 := by
  unfold whyA at h0
  by_cases e1 : A.1 6 k = 0
  · rw [if_pos e1] at h0; cases h0
  · rw [if_neg e1] at h0
    by_cases e2 : (A.1 3 (A.1 6 k - 1)).testBit d = true
    · rw [if_pos e2] at h0; cases h0
    · rw [if_neg e2] at h0
      by_cases e3 : A.1 5 k = 0
      · rw [if_pos e3] at h0; cases h0
      · rw [if_neg e3] at h0
        by_cases e4 : A.1 7 k = 0
        · exact ⟨e1, by simpa using e2, e3, e4⟩
        · rw [if_neg e4] at h0; cases h0
theorem nI_m1 {a : Nat} (h : 0 < a) : nI a + (-1 : Int32) = nI (a - 1) := by
  obtain ⟨k, rfl⟩ : ∃ k, a = k + 1 := ⟨a - 1, by omega⟩
  rw [Nat.add_sub_cancel, ← nI_pred k, Int32.sub_eq_add_neg]
theorem C_doAct {P : Pl} {A : Ab} {h : HS} (W : WF P A) (R : CR P A h) {k d : Nat} (hk : k < P 0 5) (hd : d < P 0 4) (h0 : whyA P A k d = 0) : ∃ r, f_Desk_doAct (nI k) (nI d) h = some ((), st h 21 r) ∧ CR P (actA P A k d) (st h 21 r) := by
  obtain ⟨⟨wN, wNM, wM, wCo, w3, w4, w5, wC, wD, wK⟩, wAc, wAk, wAw, wAf⟩ := id W
  obtain ⟨e1, e2, e3, e4⟩ := whyA_0 h0
  have q1 := wAk k hk
  obtain ⟨c, hc⟩ : ∃ c, A.1 6 k = c + 1 := ⟨A.1 6 k - 1, by omega⟩
  have hc3 : c < P 0 3 := by omega
  have h64 := p64 w4
  have hA : A.1 6 k - 1 = c := by omega
  rw [hA] at e2
  have q2 := (wAc c hc3).2.1
  have hR := R.2
  have r0 : h.1 21 (c * 9 + 0) = nI (fo P A c 0) := hR.1 c 0 hc3 (by omega)
  have r1 : h.1 21 (c * 9 + 1) = nI (ag P A c 0) := hR.1 c 1 hc3 (by omega)
  have r6 : h.1 21 (c * 9 + 6) = nI (A.1 3 c) := hR.1 c 6 hc3 (by omega)
  have k0 : h.1 21 (54 + k * 6 + 0) = nI (A.1 5 k) := hR.2.1 k 0 hk (by omega)
  have k3 : h.1 21 (54 + k * 6 + 3) = A.2 1 k := hR.2.1 k 3 hk (by omega)
  have n1 : h.1 21 (84 + 1) = A.2 3 0 := hR.2.2 1 (by omega) (by omega)
  have n4 : h.1 21 (84 + 4) = A.2 5 0 := hR.2.2 4 (by omega) (by omega)
  have f0 : fo P (sN A 3 c (A.1 3 c ||| 2 ^ d)) c 0 = fo P A c 0 + P 7 d := by
    simp only [fo, sN_e, sm_or (show d < 6 by omega) e2, sm_z]
    omega
  have f1 : ag P (sN A 3 c (A.1 3 c ||| 2 ^ d)) c 0 = ag P A c 0 + P 8 d := by
    simp only [ag, sN_e, sm_or (show d < 6 by omega) e2, sm_z]
    omega
  have hcl : f_Desk_ofClerk (nI k) (nI 2) h = some (nI c, h) := by
    rw [C_ofClerk w5 R hk (by omega)]
    show some (pI (A.1 6 k), h) = _
    rw [hc, pI_s]
  refine ⟨upd (upd (upd (upd (upd (upd (upd (upd (h.1 21) (c * 9 + 0) (nI (fo P A c 0 + P 7 d))) (c * 9 + 1) (nI (ag P A c 0 + P 8 d))) (c * 9 + 6) (nI (A.1 3 c ||| 2 ^ d))) (54 + k * 6 + 0) (nI (A.1 5 k - 1))) (54 + k * 6 + 3) (A.2 1 k + nI 1)) (54 + k * 6 + 4) (nI 1)) (84 + 1) (A.2 3 0 + -nI (P 9 d))) (84 + 4) (A.2 5 0 + nI 1), ?_, CR_mk R ?_⟩
  · rw [f_Desk_doAct, hcl]
    simp only [bnd_s, bl_e]
    rw [if_neg (nI_nn (by omega)), C_up w4 R.1 hd]
    simp only [bnd_s]
    rw [E_addCause (by omega) (by omega), r0, nI_add]
    simp only [bnd_s]
    rw [C_down w4 (PC_st (by omega) R.1) hd]
    simp only [bnd_s]
    rw [E_addCause (by omega) (by omega), st_e, upd_n (by omega), r1, nI_add, st_st]
    simp only [bnd_s]
    rw [E_ofCause (by omega) (by omega), st_e, upd_n (by omega), upd_n (by omega), r6]
    simp only [bnd_s]
    rw [bit_or _ (by omega) _ (by omega), E_setCause (by omega) (by omega), st_e, st_st]
    simp only [bnd_s]
    rw [E_addClerk (by omega) (by omega), st_e, st_st, upd_n (by omega), upd_n (by omega), upd_n (by omega), k0, nI_m1 (by omega)]
    simp only [bnd_s]
    rw [E_addClerk (by omega) (by omega), st_e, st_st, upd_n (by omega), upd_n (by omega), upd_n (by omega), upd_n (by omega), k3]
    simp only [bnd_s]
    rw [E_setClerk (by omega) (by omega), st_e, st_st]
    simp only [bnd_s]
    rw [C_cost w4 (PC_st (by omega) R.1) hd]
    simp only [bnd_s]
    rw [E_addNow (by omega), st_e, st_st, upd_n (by omega), upd_n (by omega), upd_n (by omega), upd_n (by omega), upd_n (by omega), upd_n (by omega), n1]
    simp only [bnd_s]
    rw [E_addNow (by omega), st_e, st_st, upd_n (by omega), upd_n (by omega), upd_n (by omega), upd_n (by omega), upd_n (by omega), upd_n (by omega), upd_n (by omega), n4]
    simp only [bnd_s]
  · have q := RC_had hR (show c < 6 by omega) (A.1 3 c ||| 2 ^ d)
    rw [f0, f1] at q
    unfold actA
    rw [hA]
    exact RC_deeds w3 w5 (RC_coin w3 w5 (RC_acted w3 (RC_acts w3 (RC_zeal w3 q (k0 := k) (by omega) (A.1 5 k - 1)) (k0 := k) (by omega) (A.2 1 k + nI 1)) (k0 := k) (by omega) 1) (A.2 3 0 + -nI (P 9 d))) (A.2 5 0 + nI 1)
theorem M_acting {P : Pl} {A : Ab} {h : HS} (W : WF P A) (R : MR P A h) {k d : Nat} (hk : k < P 0 5) (hd : d < P 0 4) (h0 : whyA P A k d = 0) : ∃ s, f_M_acting (nI k) (nI d) h = some ((), st h 2 s) ∧ MR P (actA P A k d) (st h 2 s) := by
  obtain ⟨⟨wN, wNM, wM, wCo, w3, w4, w5, wC, wD, wK⟩, wAc, wAk, wAw, wAf⟩ := id W
  obtain ⟨e1, e2, e3, e4⟩ := whyA_0 h0
  have q1 := wAk k hk
  obtain ⟨c, hc⟩ : ∃ c, A.1 6 k = c + 1 := ⟨A.1 6 k - 1, by omega⟩
  have hc3 : c < P 0 3 := by omega
  have h64 := p64 w4
  have hA : A.1 6 k - 1 = c := by omega
  rw [hA] at e2
  have q2 := (wAc c hc3).2.1
  have f0 : fo P (sN A 3 c (A.1 3 c ||| 2 ^ d)) c 0 = fo P A c 0 + P 7 d := by
    simp only [fo, sN_e, sm_or (show d < 6 by omega) e2, sm_z]
    omega
  have f1 : ag P (sN A 3 c (A.1 3 c ||| 2 ^ d)) c 0 = ag P A c 0 + P 8 d := by
    simp only [ag, sN_e, sm_or (show d < 6 by omega) e2, sm_z]
    omega
  refine ⟨upd (upd (upd (upd (upd (upd (upd (upd (h.1 2) (78 + c) (nI (fo P A c 0 + P 7 d))) (84 + c) (nI (ag P A c 0 + P 8 d))) (108 + c) (nI (A.1 3 c ||| 2 ^ d))) 73 (A.2 3 0 + -nI (P 9 d))) (126 + k) (nI (A.1 5 k - 1))) (141 + k) (nI 1)) (136 + k) (A.2 1 k + nI 1)) 77 (A.2 5 0 + nI 1), ?_, MR_mk R (fun i hi => by rw [upd_n (by omega), upd_n (by omega), upd_n (by omega), upd_n (by omega), upd_n (by omega), upd_n (by omega), upd_n (by omega), upd_n (by omega)]) ?_ W.1⟩
  · simp (disch := omega) only [f_M_acting, bl_e, bnd_s, nI_add, nI_mul, ifin, nI_clamp, rZ0, rZ1, rZb, ite_eqN, ite_eq0, ite_ne0, ite_leN, ite_ltN, ite_lt0, ite_le0, ite_ge0, ite_gt0, ite_b0, ite_bn0, sI_st, st_e, st_st, m_has R hk, hc, nI_sb, Nat.add_sub_cancel, m_for R hc3, m_up R hd, upd_n, m_ag R hc3, m_down R hd, m_had R hc3, bit_or, m_coin R, m_cost R hd, m_zeal R hk, m_acts R hk, m_deeds R, Int32.sub_eq_add_neg (A.2 3 0)]
  · have q := RM_had w3 w5 R.2 (show c < 6 by omega) (A.1 3 c ||| 2 ^ d)
    rw [f0, f1] at q
    have q := RM_deeds w3 w5 (RM_acts w3 w5 (RM_acted w3 w5 (RM_zeal w3 w5 (RM_coin w3 w5 q (A.2 3 0 + -nI (P 9 d))) (k0 := k) (by omega) (A.1 5 k - 1)) (k0 := k) (by omega) 1) (k0 := k) (by omega) (A.2 1 k + nI 1)) (A.2 5 0 + nI 1)
    have e : actA P A k d = sV (sV (sN (sN (sV (sN A 3 c (A.1 3 c ||| 2 ^ d)) 3 0 (A.2 3 0 + -nI (P 9 d))) 5 k (A.1 5 k - 1)) 7 k 1) 1 k (A.2 1 k + nI 1)) 5 0 (A.2 5 0 + nI 1) := by
      unfold actA sN sV
      rw [hA]
      refine Prod.ext rfl ?_
      show up2 (up2 (up2 A.2 1 k (A.2 1 k + nI 1)) 3 0 (A.2 3 0 + -nI (P 9 d))) 5 0 (A.2 5 0 + nI 1) = up2 (up2 (up2 A.2 3 0 (A.2 3 0 + -nI (P 9 d))) 1 k (A.2 1 k + nI 1)) 5 0 (A.2 5 0 + nI 1)
      rw [up2_comm A.2 (show 1 ≠ 3 by omega)]
    rw [e]
    exact q
theorem WF_act {P : Pl} {A : Ab} (W : WF P A) {k d : Nat} (hk : k < P 0 5) (hd : d < P 0 4) (h0 : whyA P A k d = 0) : WF P (actA P A k d) := by
  obtain ⟨⟨wN, wNM, wM, wCo, w3, w4, w5, wC, wD, wK⟩, wAc, wAk, wAw, wAf⟩ := id W
  obtain ⟨e1, e2, e3, e4⟩ := whyA_0 h0
  have q1 := wAk k hk
  refine ⟨W.1, fun c' hc' => ?_, fun k' hk' => ?_, wAw, wAf⟩
  · have q := wAc c' hc'
    have q5 := or_lt q.2.1 hd
    by_cases e : c' = A.1 6 k - 1
    · rw [e] at q q5
      simp only [actA, sN, sV, up2, e]
      simp
      exact ⟨q.1, q5, q.2.2.1, q.2.2.2.1, q.2.2.2.2.1, q.2.2.2.2.2.1, q.2.2.2.2.2.2.1, q.2.2.2.2.2.2.2⟩
    · simp only [actA, sN, sV, up2]
      simp [e]
      exact ⟨q.1, q.2.1, q.2.2.1, q.2.2.2.1, q.2.2.2.2.1, q.2.2.2.2.2.1, q.2.2.2.2.2.2.1, q.2.2.2.2.2.2.2⟩
  · have q := wAk k' hk'
    by_cases e : k' = k
    · subst e
      simp only [actA, sN, sV, up2]
      simp
      exact ⟨by omega, q.2.2.1, q.2.2.2⟩
    · simp only [actA, sN, sV, up2]
      simp [e]
      exact q
