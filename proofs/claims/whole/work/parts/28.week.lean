/-! ===== a week, on both sides ===== -/
def itF (f : Ab → Nat → Ab) : Nat → Nat → Ab → Ab
  | 0, _, A => A
  | j + 1, k, A => itF f j (k + 1) (f A k)
def wkA (P : Pl) (A : Ab) (k : Nat) : Ab := if A.1 7 k = 0 then (if P 10 k ≤ A.1 5 k then sN A 7 k 0 else sN (sN A 5 k (A.1 5 k + 1)) 7 k 0) else sN A 7 k 0
def wonB (A : Ab) (c : Nat) : Ab := sV (sV (sN (sN (sN A 6 (A.1 2 c - 1) 0) 1 c 3) 2 c 0) 3 0 (nI 0)) 4 0 (A.2 4 0 + nI 1)
def wonA (A : Ab) (c : Nat) : Ab := if A.1 9 0 = 0 then sN (wonB A c) 9 0 (A.1 8 0 + 1) else wonB A c
def aloneA (A : Ab) (c : Nat) : Ab := if A.1 0 c = 1 then sN (sN A 0 c 0) 1 c 4 else (if A.1 1 c = 2 ∧ A.1 4 c + 4 ≤ A.1 8 0 then sN (sN A 0 c (A.1 0 c - 1)) 1 c 0 else sN A 0 c (A.1 0 c - 1))
def wcA (P : Pl) (A : Ab) (c : Nat) : Ab := if A.1 1 c = 1 then (if safeC P A c 0 = true then sN A 0 c (min 20 (A.1 0 c + 1)) else wonA A c) else (if A.1 1 c = 0 ∨ A.1 1 c = 2 then aloneA A c else A)
def weekB (P : Pl) (A : Ab) : Ab := itF (wcA P) (P 0 3) 0 (itF (wkA P) (P 0 5) 0 A)
def weekA (P : Pl) (A : Ab) : Ab := sN (weekB P A) 8 0 (A.1 8 0 + 1)
theorem CR_st21 {P : Pl} {A : Ab} {h : HS} (R : CR P A h) : ∃ r, st h 21 r = h ∧ CR P A (st h 21 r) := ⟨h.1 21, st_s, by rw [st_s]; exact R⟩
theorem C_wk1 {P : Pl} {A : Ab} {h : HS} (W : WF P A) (R : CR P A h) {k : Nat} (hk : k < P 0 5) : ∃ r, (∀ F K g, l_Desk_passWeek_0 F K (g + 1) (nI k) h = l_Desk_passWeek_0 F K g (nI (k + 1)) (st h 21 r)) ∧ CR P (wkA P A k) (st h 21 r) := by
  obtain ⟨⟨wN, wNM, wM, wCo, w3, w4, w5, wC, wD, wK⟩, wAc, wAk, wAw, wAf⟩ := id W
  have q1 := wAk k hk
  have q2 := wK k
  have hR := R.2
  have k0 : h.1 21 (54 + k * 6 + 0) = nI (A.1 5 k) := hR.2.1 k 0 hk (by omega)
  have key : ∀ F K g, l_Desk_passWeek_0 F K (g + 1) (nI k) h = if A.1 7 k = 0 then (if P 10 k ≤ A.1 5 k then l_Desk_passWeek_0 F K g (nI (k + 1)) (st h 21 (upd (h.1 21) (54 + k * 6 + 4) (nI 0))) else l_Desk_passWeek_0 F K g (nI (k + 1)) (st h 21 (upd (upd (h.1 21) (54 + k * 6 + 0) (nI (A.1 5 k + 1))) (54 + k * 6 + 4) (nI 0)))) else l_Desk_passWeek_0 F K g (nI (k + 1)) (st h 21 (upd (h.1 21) (54 + k * 6 + 4) (nI 0))) := by
    intro F K g
    rw [l_Desk_passWeek_0, C_clerks R.1, bnd_s, ite_leN (by omega) (by omega), if_neg (by omega), C_ofClerk w5 R hk (by omega)]
    simp (disch := omega) only [rkC, bl_e, bnd_s, ite_eq0, C_ofClerk w5 R hk, ite_leN, E_addClerk, E_setClerk, st_e, st_st, nI_add, k0]
  unfold wkA
  by_cases e1 : A.1 7 k = 0
  · by_cases e2 : P 10 k ≤ A.1 5 k
    · refine ⟨_, fun F K g => by rw [key, if_pos e1, if_pos e2], ?_⟩
      rw [if_pos e1, if_pos e2]
      exact CR_mk R (RC_acted w3 hR (by omega) 0)
    · refine ⟨_, fun F K g => by rw [key, if_pos e1, if_neg e2], ?_⟩
      rw [if_pos e1, if_neg e2]
      exact CR_mk R (RC_acted w3 (RC_zeal w3 hR (by omega) _) (by omega) 0)
  · refine ⟨_, fun F K g => by rw [key, if_neg e1], ?_⟩
    rw [if_neg e1]
    exact CR_mk R (RC_acted w3 hR (by omega) 0)
theorem sN_self (A : Ab) (i j : Nat) : sN A i j (A.1 i j) = A := Prod.ext (up2_self _ _ _) rfl
theorem M_wk1 {P : Pl} {A : Ab} {h : HS} (W : WF P A) (R : MR P A h) {k : Nat} (hk : k < P 0 5) : ∃ s, (∀ F K g, l_M_week_0 F K (g + 1) (nI k) h = l_M_week_0 F K g (nI (k + 1)) (st h 2 s)) ∧ MR P (wkA P A k) (st h 2 s) := by
  obtain ⟨⟨wN, wNM, wM, wCo, w3, w4, w5, wC, wD, wK⟩, wAc, wAk, wAw, wAf⟩ := id W
  have q1 := wAk k hk
  have q2 := wK k
  have key : ∀ F K g, l_M_week_0 F K (g + 1) (nI k) h = if A.1 7 k = 0 then l_M_week_0 F K g (nI (k + 1)) (st h 2 (upd (upd (h.1 2) (126 + k) (nI (min (P 10 k) (A.1 5 k + 1)))) (141 + k) (nI 0))) else l_M_week_0 F K g (nI (k + 1)) (st h 2 (upd (h.1 2) (141 + k) (nI 0))) := by
    intro F K g
    rw [l_M_week_0]
    simp (disch := omega) only [bl_e, bnd_s, nI_add, nI_mul, ifin, nI_clamp, rZ0, rZ1, rZb, ite_eqN, ite_eq0, ite_ne0, ite_leN, ite_ltN, ite_lt0, ite_le0, ite_ge0, ite_gt0, ite_b0, ite_bn0, m_2 R, m_acted R hk, m_ztold R hk, m_zeal R hk, M_lesser, sI_st, st_e, st_st]
    rw [if_neg (by omega)]
  unfold wkA
  by_cases e1 : A.1 7 k = 0
  · by_cases e2 : P 10 k ≤ A.1 5 k
    · refine ⟨_, fun F K g => by rw [key, if_pos e1], ?_⟩
      rw [if_pos e1, if_pos e2]
      have e3 : min (P 10 k) (A.1 5 k + 1) = A.1 5 k := by omega
      rw [e3, ← m_zeal R hk, upd_self]
      exact MR_mk R (fun i hi => by rw [upd_n (by omega)]) (RM_acted w3 w5 R.2 (by omega) 0) W.1
    · refine ⟨_, fun F K g => by rw [key, if_pos e1], ?_⟩
      rw [if_pos e1, if_neg e2]
      have e3 : min (P 10 k) (A.1 5 k + 1) = A.1 5 k + 1 := by omega
      rw [e3]
      exact MR_mk R (fun i hi => by rw [upd_n (by omega), upd_n (by omega)]) (RM_acted w3 w5 (RM_zeal w3 w5 R.2 (by omega) _) (by omega) 0) W.1
  · refine ⟨_, fun F K g => by rw [key, if_neg e1], ?_⟩
    rw [if_neg e1]
    exact MR_mk R (fun i hi => by rw [upd_n (by omega)]) (RM_acted w3 w5 R.2 (by omega) 0) W.1
theorem WF_wk {P : Pl} {A : Ab} (W : WF P A) {k : Nat} (hk : k < P 0 5) : WF P (wkA P A k) ∧ (wkA P A k).1 8 0 = A.1 8 0 := by
  obtain ⟨⟨wN, wNM, wM, wCo, w3, w4, w5, wC, wD, wK⟩, wAc, wAk, wAw, wAf⟩ := id W
  have q1 := wAk k hk
  have e0 : ∀ z, z ≤ P 10 k → WF P (sN (sN A 5 k z) 7 k 0) := fun z hz => by
    refine ⟨W.1, fun c' hc' => ?_, fun k' hk' => ?_, wAw, wAf⟩
    · have q := wAc c' hc'
      simp only [sN, up2]
      simp
      exact q
    · have q := wAk k' hk'
      by_cases e : k' = k
      · subst e
        simp only [sN, up2]
        simp
        exact ⟨hz, q.2.2.1, q.2.2.2⟩
      · simp only [sN, up2]
        simp [e]
        exact q
  have e9 : sN A 7 k 0 = sN (sN A 5 k (A.1 5 k)) 7 k 0 := by rw [sN_self]
  unfold wkA
  by_cases e1 : A.1 7 k = 0
  · rw [if_pos e1]
    by_cases e2 : P 10 k ≤ A.1 5 k
    · rw [if_pos e2, e9]
      exact ⟨e0 _ q1.1, rfl⟩
    · rw [if_neg e2]
      exact ⟨e0 _ (by omega), rfl⟩
  · rw [if_neg e1, e9]
    exact ⟨e0 _ q1.1, rfl⟩
theorem C_wkL {P : Pl} : ∀ (j k : Nat) (A : Ab) (h : HS), k + j = P 0 5 → WF P A → CR P A h → ∃ r, (∀ F K g, j < g → l_Desk_passWeek_0 F K g (nI k) h = K (st h 21 r)) ∧ CR P (itF (wkA P) j k A) (st h 21 r) := by
  intro j
  induction j with
  | zero =>
    intro k A h hk W R
    obtain ⟨⟨wN, wNM, wM, wCo, w3, w4, w5, wC, wD, wK⟩, wAc, wAk, wAw, wAf⟩ := id W
    refine ⟨h.1 21, fun F K g hg => ?_, by rw [st_s]; exact R⟩
    obtain ⟨g, rfl⟩ : ∃ z, g = z + 1 := ⟨g - 1, by omega⟩
    rw [l_Desk_passWeek_0, C_clerks R.1, bnd_s, ite_leN (by omega) (by omega), if_pos (by omega), st_s]
  | succ j ih =>
    intro k A h hk W R
    obtain ⟨r, e, R1⟩ := C_wk1 W R (show k < P 0 5 by omega)
    obtain ⟨r2, e2, R2⟩ := ih (k + 1) (wkA P A k) _ (by omega) (WF_wk W (by omega)).1 R1
    refine ⟨r2, fun F K g hg => ?_, by rw [st_st] at R2; exact R2⟩
    obtain ⟨g, rfl⟩ : ∃ z, g = z + 1 := ⟨g - 1, by omega⟩
    rw [e, e2 F K g (by omega), st_st]
theorem M_wkL {P : Pl} : ∀ (j k : Nat) (A : Ab) (h : HS), k + j = P 0 5 → WF P A → MR P A h → ∃ s, (∀ F K g, j < g → l_M_week_0 F K g (nI k) h = K (st h 2 s)) ∧ MR P (itF (wkA P) j k A) (st h 2 s) := by
  intro j
  induction j with
  | zero =>
    intro k A h hk W R
    obtain ⟨⟨wN, wNM, wM, wCo, w3, w4, w5, wC, wD, wK⟩, wAc, wAk, wAw, wAf⟩ := id W
    refine ⟨h.1 2, fun F K g hg => ?_, by rw [st_s]; exact R⟩
    obtain ⟨g, rfl⟩ : ∃ z, g = z + 1 := ⟨g - 1, by omega⟩
    rw [l_M_week_0]
    simp (disch := omega) only [bl_e, bnd_s, nI_add, nI_mul, ifin, nI_clamp, rZ0, rZ1, rZb, ite_eqN, ite_eq0, ite_ne0, ite_leN, ite_ltN, ite_lt0, ite_le0, ite_ge0, ite_gt0, ite_b0, ite_bn0, m_2 R, st_s]
    rw [if_pos (by omega)]
  | succ j ih =>
    intro k A h hk W R
    obtain ⟨r, e, R1⟩ := M_wk1 W R (show k < P 0 5 by omega)
    obtain ⟨r2, e2, R2⟩ := ih (k + 1) (wkA P A k) _ (by omega) (WF_wk W (by omega)).1 R1
    refine ⟨r2, fun F K g hg => ?_, by rw [st_st] at R2; exact R2⟩
    obtain ⟨g, rfl⟩ : ∃ z, g = z + 1 := ⟨g - 1, by omega⟩
    rw [e, e2 F K g (by omega), st_st]
theorem WF_wkL {P : Pl} : ∀ (j k : Nat) (A : Ab), k + j = P 0 5 → WF P A → WF P (itF (wkA P) j k A) ∧ (itF (wkA P) j k A).1 8 0 = A.1 8 0 := by
  intro j
  induction j with
  | zero => intro k A _ W; exact ⟨W, rfl⟩
  | succ j ih =>
    intro k A hk W
    have q := WF_wk W (show k < P 0 5 by omega)
    have q2 := ih (k + 1) _ (by omega) q.1
    exact ⟨q2.1, q2.2.trans q.2⟩
