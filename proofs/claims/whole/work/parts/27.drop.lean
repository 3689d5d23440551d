def dropA (P : Pl) (A : Ab) (k : Nat) : Ab := sV (sN (sV (sN (sN (sN (sV (sV A 3 0 (A.2 3 0 + nI (payN P A (A.1 6 k - 1)))) 2 k (A.2 2 k + nI (payN P A (A.1 6 k - 1)))) 6 k 0) 1 (A.1 6 k - 1) 2) 2 (A.1 6 k - 1) 0) 0 (A.1 6 k - 1) (nI (nearC P A (A.1 6 k - 1) 0))) 4 (A.1 6 k - 1) (A.1 8 0)) 6 0 (A.2 6 0 + nI 1)
theorem whyD_0 {A : Ab} {k : Nat} (h0 : whyD A k = 0) : A.1 6 k ≠ 0 := fun e => by
  unfold whyD at h0
  rw [if_pos e] at h0
  cases h0
theorem C_doDrop {P : Pl} {A : Ab} {h : HS} (W : WF P A) (R : CR P A h) {k : Nat} (hk : k < P 0 5) (h0 : A.1 6 k ≠ 0) : ∃ r, f_Desk_doDrop (nI k) h = some ((), st h 21 r) ∧ CR P (dropA P A k) (st h 21 r) := by
  obtain ⟨⟨wN, wNM, wM, wCo, w3, w4, w5, wC, wD, wK⟩, wAc, wAk, wAw, wAf⟩ := id W
  have q1 := wAk k hk
  obtain ⟨c, hc⟩ : ∃ c, A.1 6 k = c + 1 := ⟨A.1 6 k - 1, by omega⟩
  have hc3 : c < P 0 3 := by omega
  have hA : A.1 6 k - 1 = c := by omega
  have hR := R.2
  have hcl : f_Desk_ofClerk (nI k) (nI 2) h = some (nI c, h) := by
    rw [C_ofClerk w5 R hk (by omega)]
    show some (pI (A.1 6 k), h) = _
    rw [hc, pI_s]
  have k5 : h.1 21 (54 + k * 6 + 5) = A.2 2 k := hR.2.1 k 5 hk (by omega)
  have n1 : h.1 21 (84 + 1) = A.2 3 0 := hR.2.2 1 (by omega) (by omega)
  have n0 : h.1 21 (84 + 0) = nI (A.1 8 0) := hR.2.2 0 (by omega) (by omega)
  have n6 : h.1 21 (84 + 6) = A.2 6 0 := hR.2.2 6 (by omega) (by omega)
  have r0 : h.1 21 (c * 9 + 0) = nI (fo P A c 0) := hR.1 c 0 hc3 (by omega)
  have r1 : h.1 21 (c * 9 + 1) = nI (ag P A c 0) := hR.1 c 1 hc3 (by omega)
  have h1 := fo_le W.1 A c 0
  have h2 := ag_le W.1 A c 0
  refine ⟨upd (upd (upd (upd (upd (upd (upd (upd (h.1 21) (84 + 1) (A.2 3 0 + nI (payN P A c))) (54 + k * 6 + 5) (A.2 2 k + nI (payN P A c))) (54 + k * 6 + 2) (pI 0)) (c * 9 + 4) (nI 2)) (c * 9 + 5) (pI 0)) (c * 9 + 7) (nI (nearC P A c 0))) (c * 9 + 8) (nI (A.1 8 0))) (84 + 6) (A.2 6 0 + nI 1), ?_, CR_mk R ?_⟩
  · rw [f_Desk_doDrop, hcl]
    simp only [bnd_s, bl_e]
    rw [if_neg (nI_nn (by omega)), C_payFor W R hc3]
    simp only [bnd_s, bl_e]
    rw [E_addNow (by omega), n1]
    simp only [bnd_s]
    rw [E_addClerk (by omega) (by omega), st_e, st_st, upd_n (by omega), k5]
    simp only [bnd_s]
    rw [E_setClerk (by omega) (by omega), st_e, st_st, ← pI_0]
    simp only [bnd_s]
    rw [E_setCause (by omega) (by omega), st_e, st_st]
    simp only [bnd_s]
    rw [E_setCause (by omega) (by omega), st_e, st_st]
    simp only [bnd_s]
    rw [f_Desk_nearness, E_ofCause (by omega) (by omega), st_e, upd_n (by omega), upd_n (by omega), upd_n (by omega), upd_n (by omega), upd_n (by omega), r0]
    simp only [bnd_s]
    rw [E_ofCause (by omega) (by omega), st_e, upd_n (by omega), upd_n (by omega), upd_n (by omega), upd_n (by omega), upd_n (by omega), r1]
    simp only [bnd_s]
    rw [C_nearnessP W.1 (PC_st (by omega) R.1) (by omega) (by omega) h2.2]
    simp only [bnd_s]
    rw [E_setCause (by omega) (by omega), st_e, st_st]
    simp only [bnd_s]
    rw [E_ofNow (by omega), st_e, upd_n (by omega), upd_n (by omega), upd_n (by omega), upd_n (by omega), upd_n (by omega), upd_n (by omega), n0]
    simp only [bnd_s]
    rw [E_setCause (by omega) (by omega), st_e, st_st]
    simp only [bnd_s]
    rw [E_addNow (by omega), st_e, st_st, upd_n (by omega), upd_n (by omega), upd_n (by omega), upd_n (by omega), upd_n (by omega), upd_n (by omega), upd_n (by omega), n6]
    simp only [bnd_s]
    rfl
  · unfold dropA
    rw [hA]
    exact RC_flags w3 w5 (RC_drop (RC_flag (RC_hold (RC_state (RC_has w3 (RC_brought w3 (RC_coin w3 w5 hR (A.2 3 0 + nI (payN P A c))) (k0 := k) (by omega) (A.2 2 k + nI (payN P A c))) (k0 := k) (by omega) 0) (c0 := c) (by omega) 2) (c0 := c) (by omega) 0) (c0 := c) (by omega) (nI (nearC P A c 0))) (c0 := c) (by omega) (A.1 8 0)) (A.2 6 0 + nI 1)
theorem pay_lt {P : Pl} {A : Ab} (W : WFP P) {c : Nat} (h : safeC P A c 0 = true) : nearC P A c 0 < 1000 := by
  have h1 := fo_le W A c 0
  have h2 := ag_le W A c 0
  have h5 := safe_near W (show fo P A c 0 ≤ 2000 by omega) (show ag P A c 0 ≤ 2000 by omega) h2.2
  unfold safeC at h
  rw [h5] at h
  simpa [nearC] using h
theorem M_dropping {P : Pl} {A : Ab} {h : HS} (W : WF P A) {F : Nat} (hF : 7 ≤ F) (R : MR P A h) {k : Nat} (hk : k < P 0 5) (h0 : A.1 6 k ≠ 0) : ∃ s, f_M_dropping F (nI k) h = some ((), st h 2 s) ∧ MR P (dropA P A k) (st h 2 s) := by
  obtain ⟨⟨wN, wNM, wM, wCo, w3, w4, w5, wC, wD, wK⟩, wAc, wAk, wAw, wAf⟩ := id W
  have q1 := wAk k hk
  obtain ⟨c, hc⟩ : ∃ c, A.1 6 k = c + 1 := ⟨A.1 6 k - 1, by omega⟩
  have hc3 : c < P 0 3 := by omega
  have hA : A.1 6 k - 1 = c := by omega
  have h64 := p64 w4
  have hco := wC c
  refine ⟨upd (upd (upd (upd (upd (upd (upd (upd (h.1 2) 73 (A.2 3 0 + nI (payN P A c))) (146 + k) (A.2 2 k + nI (payN P A c))) (114 + c) (nI (nearC P A c 0))) 76 (A.2 6 0 + nI 1)) (96 + c) (nI 2)) (120 + c) (nI (A.1 8 0))) (102 + c) (nI 0)) (131 + k) (nI 0), ?_, MR_mk R (fun i hi => by rw [upd_n (by omega), upd_n (by omega), upd_n (by omega), upd_n (by omega), upd_n (by omega), upd_n (by omega), upd_n (by omega), upd_n (by omega)]) ?_ W.1⟩
  · have hn : ∀ s : Nat → Int32, (∀ i, i < 72 → s i = h.1 2 i) → RM0 P A s → f_M_nearOf F (nI c) (nI 0) (st h 2 s) = some (nI (nearC P A c 0), st h 2 s) := fun s q r => M_nearOf W hF (MR_mk R q r W.1) hc3 h64.1
    rw [f_M_dropping]
    simp (config := {maxSteps := 1000000}) (disch := omega) only [bl_e, bnd_s, nI_add, nI_mul, ifin, nI_clamp, rZ0, rZ1, rZb, ite_eqN, ite_eq0, ite_ne0, ite_leN, ite_ltN, ite_lt0, ite_le0, ite_ge0, ite_gt0, ite_b0, ite_bn0, m_has R hk, hc, nI_sb, Nat.add_sub_cancel, M_isSafe W hF R hc3 h64.1]
    have hpay : payN P A c = if safeC P A c 0 = true then P 3 c * nearC P A c 0 / 1000 else 0 := rfl
    have hs1 : RM0 P (sV (sV A 3 0 (A.2 3 0 + nI (payN P A c))) 2 k (A.2 2 k + nI (payN P A c))) (upd (upd (h.1 2) 73 (A.2 3 0 + nI (payN P A c))) (146 + k) (A.2 2 k + nI (payN P A c))) := RM_brought w3 w5 (RM_coin w3 w5 R.2 _) (by omega) _
    have W2 : WF P (sV (sV A 3 0 (A.2 3 0 + nI (payN P A c))) 2 k (A.2 2 k + nI (payN P A c))) := W
    have hn2 : f_M_nearOf F (nI c) (nI 0) (st h 2 (upd (upd (h.1 2) 73 (A.2 3 0 + nI (payN P A c))) (146 + k) (A.2 2 k + nI (payN P A c)))) = some (nI (nearC P A c 0), (st h 2 (upd (upd (h.1 2) 73 (A.2 3 0 + nI (payN P A c))) (146 + k) (A.2 2 k + nI (payN P A c))))) := M_nearOf W2 hF (MR_mk R (fun i hi => by rw [upd_n (by omega), upd_n (by omega)]) hs1 W.1) hc3 h64.1
    by_cases e : safeC P A c 0 = true
    · have hlt := pay_lt W.1 e
      rw [if_pos e, M_payOf W hF R hc3 h64.1 (by omega)]
      rw [hpay, if_pos e] at hn2 ⊢
      simp (disch := omega) only [bl_e, bnd_s, nI_add, nI_mul, ifin, nI_clamp, rZ0, rZ1, rZb, ite_eqN, ite_eq0, ite_ne0, ite_leN, ite_ltN, ite_lt0, ite_le0, ite_ge0, ite_gt0, ite_b0, ite_bn0, sI_st, st_e, st_st, m_coin R, m_brought R hk, upd_n, hn2, m_flags R, m_week R]
    · rw [if_neg e]
      rw [hpay, if_neg e] at hn2 ⊢
      simp (disch := omega) only [bl_e, bnd_s, nI_add, nI_mul, ifin, nI_clamp, rZ0, rZ1, rZb, ite_eqN, ite_eq0, ite_ne0, ite_leN, ite_ltN, ite_lt0, ite_le0, ite_ge0, ite_gt0, ite_b0, ite_bn0, sI_st, st_e, st_st, m_coin R, m_brought R hk, upd_n, hn2, m_flags R, m_week R]
  · have q := RM_has w3 w5 (RM_hold w3 w5 (RM_drop w3 w5 (RM_state w3 w5 (RM_flags w3 w5 (RM_flag w3 w5 (RM_brought w3 w5 (RM_coin w3 w5 R.2 (A.2 3 0 + nI (payN P A c))) (k0 := k) (by omega) (A.2 2 k + nI (payN P A c))) (c0 := c) (by omega) (nI (nearC P A c 0))) (A.2 6 0 + nI 1)) (c0 := c) (by omega) 2) (c0 := c) (by omega) (A.1 8 0)) (c0 := c) (by omega) 0) (k0 := k) (by omega) 0
    have e : dropA P A k = sN (sN (sN (sN (sV (sV (sV (sV A 3 0 (A.2 3 0 + nI (payN P A c))) 2 k (A.2 2 k + nI (payN P A c))) 0 c (nI (nearC P A c 0))) 6 0 (A.2 6 0 + nI 1)) 1 c 2) 4 c (A.1 8 0)) 2 c 0) 6 k 0 := by
      unfold dropA sN sV
      rw [hA]
      refine Prod.ext ?_ rfl
      show up2 (up2 (up2 (up2 A.1 6 k 0) 1 c 2) 2 c 0) 4 c (A.1 8 0) = up2 (up2 (up2 (up2 A.1 1 c 2) 4 c (A.1 8 0)) 2 c 0) 6 k 0
      rw [up2_comm _ (show 2 ≠ 6 by omega), up2_comm _ (show 4 ≠ 6 by omega), up2_comm A.1 (show 1 ≠ 6 by omega), up2_comm _ (show 4 ≠ 2 by omega)]
    rw [e]
    exact q
theorem WF_drop {P : Pl} {A : Ab} (W : WF P A) {k : Nat} (hk : k < P 0 5) (h0 : A.1 6 k ≠ 0) : WF P (dropA P A k) := by
  obtain ⟨⟨wN, wNM, wM, wCo, w3, w4, w5, wC, wD, wK⟩, wAc, wAk, wAw, wAf⟩ := id W
  have q1 := wAk k hk
  obtain ⟨c, hc⟩ : ∃ c, A.1 6 k = c + 1 := ⟨A.1 6 k - 1, by omega⟩
  have hc3 : c < P 0 3 := by omega
  have hA : A.1 6 k - 1 = c := by omega
  rw [hA] at q1
  have q2 := q1.2.2.2 h0
  refine ⟨W.1, fun c' hc' => ?_, fun k' hk' => ?_, wAw, wAf⟩
  · have q := wAc c' hc'
    by_cases e : c' = c
    · subst e
      simp only [dropA, sN, sV, up2, hA]
      simp
      omega
    · simp only [dropA, sN, sV, up2, hA]
      simp [e]
      refine ⟨q.1, q.2.1, q.2.2.1, q.2.2.2.1, fun z => ?_, q.2.2.2.2.2.1, q.2.2.2.2.2.2.1, q.2.2.2.2.2.2.2⟩
      have q3 := q.2.2.2.2.1 z
      have q4 : ¬ A.1 2 c' - 1 = k := fun y => by rw [y] at q3; omega
      rw [if_neg q4]
      exact q3
  · have q := wAk k' hk'
    by_cases e : k' = k
    · subst e
      simp only [dropA, sN, sV, up2, hA]
      simp
      omega
    · simp only [dropA, sN, sV, up2, hA]
      simp [e]
      refine ⟨q.1, q.2.1, q.2.2.1, fun z => ?_⟩
      have q3 := q.2.2.2 z
      have q4 : ¬ A.1 6 k' - 1 = c := fun y => by rw [y] at q3; omega
      simp [q4]
      exact q3
