/-! ===== take, do, drop: what becomes of the row, on both sides ===== -/
theorem up2_comm {α : Type} (f : Nat → Nat → α) {i j i2 j2 : Nat} {v w : α} (h : i ≠ i2) : up2 (up2 f i j v) i2 j2 w = up2 (up2 f i2 j2 w) i j v := by
  funext a b
  simp only [up2]
  (repeat' split) <;> first | rfl | omega
theorem up2_self {α : Type} (f : Nat → Nat → α) (i j : Nat) : up2 f i j (f i j) = f := by
  funext a b
  simp only [up2]
  split
  · next h => rw [h.1, h.2]
  · rfl
theorem upd_self (f : Nat → Int32) (k : Nat) : upd f k (f k) = f := by
  funext j
  simp only [upd]
  split
  · next h => rw [h]
  · rfl
theorem E_ofCause {c w : Nat} (hc : c < 6) (hw : w < 9) (h : HS) : f_Desk_ofCause (nI c) (nI w) h = some (h.1 21 (c * 9 + w), h) := by
  simp (disch := omega) only [f_Desk_ofCause, bl_e, bnd_s, nI_add, nI_mul, ifin, nI_clamp, rZ0, rZ1, rZb, ite_eqN, ite_eq0, ite_ne0, ite_leN, ite_ltN, ite_lt0, ite_le0, ite_ge0, ite_gt0, ite_b0, ite_bn0]
theorem E_ofClerk {k w : Nat} (hk : k < 5) (hw : w < 6) (h : HS) : f_Desk_ofClerk (nI k) (nI w) h = some (h.1 21 (54 + k * 6 + w), h) := by
  simp (disch := omega) only [f_Desk_ofClerk, bl_e, bnd_s, nI_add, nI_mul, ifin, nI_clamp, rZ0, rZ1, rZb, ite_eqN, ite_eq0, ite_ne0, ite_leN, ite_ltN, ite_lt0, ite_le0, ite_ge0, ite_gt0, ite_b0, ite_bn0]
theorem E_ofNow {w : Nat} (hw : w < 7) (h : HS) : f_Desk_ofNow (nI w) h = some (h.1 21 (84 + w), h) := by
  simp (disch := omega) only [f_Desk_ofNow, bl_e, bnd_s, nI_add, nI_mul, ifin, nI_clamp, rZ0, rZ1, rZb, ite_eqN, ite_eq0, ite_ne0, ite_leN, ite_ltN, ite_lt0, ite_le0, ite_ge0, ite_gt0, ite_b0, ite_bn0]
theorem E_setCause {c w : Nat} (hc : c < 6) (hw : w < 9) (v : Int32) (h : HS) : f_Desk_setCause (nI c) (nI w) v h = some ((), st h 21 (upd (h.1 21) (c * 9 + w) v)) := by
  simp (disch := omega) only [f_Desk_setCause, bl_e, bnd_s, nI_add, nI_mul, ifin, nI_clamp, rZ0, rZ1, rZb, ite_eqN, ite_eq0, ite_ne0, ite_leN, ite_ltN, ite_lt0, ite_le0, ite_ge0, ite_gt0, ite_b0, ite_bn0, sI_st]
theorem E_addCause {c w : Nat} (hc : c < 6) (hw : w < 9) (v : Int32) (h : HS) : f_Desk_addCause (nI c) (nI w) v h = some ((), st h 21 (upd (h.1 21) (c * 9 + w) (h.1 21 (c * 9 + w) + v))) := by
  simp (disch := omega) only [f_Desk_addCause, bl_e, bnd_s, nI_add, nI_mul, ifin, nI_clamp, rZ0, rZ1, rZb, ite_eqN, ite_eq0, ite_ne0, ite_leN, ite_ltN, ite_lt0, ite_le0, ite_ge0, ite_gt0, ite_b0, ite_bn0, sI_st]
theorem E_setClerk {k w : Nat} (hk : k < 5) (hw : w < 6) (v : Int32) (h : HS) : f_Desk_setClerk (nI k) (nI w) v h = some ((), st h 21 (upd (h.1 21) (54 + k * 6 + w) v)) := by
  simp (disch := omega) only [f_Desk_setClerk, bl_e, bnd_s, nI_add, nI_mul, ifin, nI_clamp, rZ0, rZ1, rZb, ite_eqN, ite_eq0, ite_ne0, ite_leN, ite_ltN, ite_lt0, ite_le0, ite_ge0, ite_gt0, ite_b0, ite_bn0, sI_st]
theorem E_addClerk {k w : Nat} (hk : k < 5) (hw : w < 6) (v : Int32) (h : HS) : f_Desk_addClerk (nI k) (nI w) v h = some ((), st h 21 (upd (h.1 21) (54 + k * 6 + w) (h.1 21 (54 + k * 6 + w) + v))) := by
  simp (disch := omega) only [f_Desk_addClerk, bl_e, bnd_s, nI_add, nI_mul, ifin, nI_clamp, rZ0, rZ1, rZb, ite_eqN, ite_eq0, ite_ne0, ite_leN, ite_ltN, ite_lt0, ite_le0, ite_ge0, ite_gt0, ite_b0, ite_bn0, sI_st]
theorem E_setNow {w : Nat} (hw : w < 7) (v : Int32) (h : HS) : f_Desk_setNow (nI w) v h = some ((), st h 21 (upd (h.1 21) (84 + w) v)) := by
  simp (disch := omega) only [f_Desk_setNow, bl_e, bnd_s, nI_add, nI_mul, ifin, nI_clamp, rZ0, rZ1, rZb, ite_eqN, ite_eq0, ite_ne0, ite_leN, ite_ltN, ite_lt0, ite_le0, ite_ge0, ite_gt0, ite_b0, ite_bn0, sI_st]
theorem E_addNow {w : Nat} (hw : w < 7) (v : Int32) (h : HS) : f_Desk_addNow (nI w) v h = some ((), st h 21 (upd (h.1 21) (84 + w) (h.1 21 (84 + w) + v))) := by
  simp (disch := omega) only [f_Desk_addNow, bl_e, bnd_s, nI_add, nI_mul, ifin, nI_clamp, rZ0, rZ1, rZb, ite_eqN, ite_eq0, ite_ne0, ite_leN, ite_ltN, ite_lt0, ite_le0, ite_ge0, ite_gt0, ite_b0, ite_bn0, sI_st]
theorem MR_mk {P : Pl} {A A' : Ab} {h : HS} {s : Nat → Int32} (q : MR P A h) (hs : ∀ i, i < 72 → s i = h.1 2 i) (R : RM0 P A' s) (hw : WFP P) : MR P A' (st h 2 s) := by
  obtain ⟨wN, wNM, wM, wCo, w3, w4, w5, -, -, -⟩ := hw
  obtain ⟨⟨⟨a0, a1, a2, a3, a4, a5, a6⟩, b, c, d, e⟩, -⟩ := q
  refine ⟨⟨⟨?_, ?_, ?_, ?_, ?_, ?_, ?_⟩, fun c hc => ?_, fun d hd => ?_, fun k hk => ?_, e⟩, by rw [st_e]; exact R⟩
  all_goals rw [st_e]
  · rw [hs 0 (by omega), a0]
  · rw [hs 1 (by omega), a1]
  · rw [hs 2 (by omega), a2]
  · rw [hs 3 (by omega), a3]
  · rw [hs 4 (by omega), a4]
  · rw [hs 5 (by omega), a5]
  · rw [hs 6 (by omega), a6]
  · rw [hs (7 + c) (by omega), hs (13 + c) (by omega), hs (19 + c) (by omega), hs (25 + c) (by omega), hs (43 + c) (by omega), hs (31 + c) (by omega), hs (37 + c) (by omega)]
    exact b c hc
  · rw [hs (49 + d) (by omega), hs (55 + d) (by omega), hs (61 + d) (by omega)]
    exact c d hd
  · rw [hs (67 + k) (by omega)]
    (first | exact d k hk | exact ‹∀ k, k < P 0 5 → h.1 2 (67 + k) = nI (P 10 k)› k hk)
def takeA (A : Ab) (k c : Nat) : Ab := sN (sN (sN A 1 c 1) 2 c (k + 1)) 6 k (c + 1)
theorem C_doTake {P : Pl} {A : Ab} {h : HS} (W : WF P A) (R : CR P A h) {k c : Nat} (hk : k < P 0 5) (hc : c < P 0 3) : ∃ r, f_Desk_doTake (nI k) (nI c) h = some ((), st h 21 r) ∧ CR P (takeA A k c) (st h 21 r) := by
  obtain ⟨⟨wN, wNM, wM, wCo, w3, w4, w5, wC, wD, wK⟩, wAc, wAk, wAw, wAf⟩ := id W
  refine ⟨upd (upd (upd (h.1 21) (c * 9 + 4) (nI 1)) (c * 9 + 5) (pI (k + 1))) (54 + k * 6 + 2) (pI (c + 1)), ?_, CR_mk R ?_⟩
  · simp (disch := omega) only [f_Desk_doTake, E_setCause, E_setClerk, bnd_s, st_e, st_st, pI_s]
  · exact RC_has w3 (RC_hold (RC_state R.2 (by omega) 1) (by omega) (k + 1)) (by omega) (c + 1)
theorem M_taking {P : Pl} {A : Ab} {h : HS} (W : WF P A) (R : MR P A h) {k c : Nat} (hk : k < P 0 5) (hc : c < P 0 3) : ∃ s, f_M_taking (nI k) (nI c) h = some ((), st h 2 s) ∧ MR P (takeA A k c) (st h 2 s) := by
  obtain ⟨⟨wN, wNM, wM, wCo, w3, w4, w5, wC, wD, wK⟩, wAc, wAk, wAw, wAf⟩ := id W
  refine ⟨upd (upd (upd (h.1 2) (131 + k) (nI (c + 1))) (102 + c) (nI (k + 1))) (96 + c) (nI 1), ?_, MR_mk R (fun i hi => by rw [upd_n (by omega), upd_n (by omega), upd_n (by omega)]) ?_ W.1⟩
  · simp (disch := omega) only [f_M_taking, bl_e, bnd_s, nI_add, nI_mul, ifin, nI_clamp, rZ0, rZ1, rZb, ite_eqN, ite_eq0, ite_ne0, ite_leN, ite_ltN, ite_lt0, ite_le0, ite_ge0, ite_gt0, ite_b0, ite_bn0, sI_st, st_e, st_st]
  · have q := RM_state w3 w5 (RM_hold w3 w5 (RM_has w3 w5 R.2 (k0 := k) (by omega) (c + 1)) (c0 := c) (by omega) (k + 1)) (c0 := c) (by omega) 1
    have e : sN (sN (sN A 6 k (c + 1)) 2 c (k + 1)) 1 c 1 = takeA A k c := by
      unfold takeA sN
      refine Prod.ext ?_ rfl
      show up2 (up2 (up2 A.1 6 k (c + 1)) 2 c (k + 1)) 1 c 1 = up2 (up2 (up2 A.1 1 c 1) 2 c (k + 1)) 6 k (c + 1)
      rw [up2_comm _ (show 6 ≠ 2 by omega), up2_comm _ (show 6 ≠ 1 by omega), up2_comm _ (show 2 ≠ 1 by omega)]
    rw [e] at q
    exact q
theorem WF_take {P : Pl} {A : Ab} (W : WF P A) {k c : Nat} (hk : k < P 0 5) (hc : c < P 0 3) (h0 : whyT P A k c = 0) : WF P (takeA A k c) := by
  obtain ⟨⟨wN, wNM, wM, wCo, w3, w4, w5, wC, wD, wK⟩, wAc, wAk, wAw, wAf⟩ := id W
  have e1 : A.1 6 k = 0 := by
    unfold whyT at h0
    by_cases q : A.1 6 k = 0
    · exact q
    · rw [if_neg q] at h0
      cases h0
  have e2 : A.1 1 c = 0 := by
    unfold whyT at h0
    rw [if_pos e1] at h0
    by_cases q : A.1 1 c = 0
    · exact q
    · rw [if_neg q] at h0
      cases h0
  refine ⟨W.1, fun c' hc' => ?_, fun k' hk' => ?_, wAw, wAf⟩
  · have q := wAc c' hc'
    by_cases e : c' = c
    · subst e
      simp [takeA, sN, up2]
      omega
    · have e3 : ∀ k', k' < P 0 5 → A.1 6 k' = c' + 1 → k' ≠ k := fun k' _ z y => by rw [y, e1] at z; cases z
      simp only [takeA, sN, up2]
      have q2 := e3 (A.1 2 c' - 1)
      simp [e]
      refine ⟨q.1, q.2.1, q.2.2.1, q.2.2.2.1, fun z => ?_, q.2.2.2.2.2.1, q.2.2.2.2.2.2.1, q.2.2.2.2.2.2.2⟩
      have q3 := q.2.2.2.2.1 z
      have q4 := q2 (by omega) q3.2.2
      rw [if_neg q4]
      exact q3
  · have q := wAk k' hk'
    by_cases e : k' = k
    · subst e
      simp [takeA, sN, up2]
      omega
    · simp [takeA, sN, up2, e]
      refine ⟨q.1, q.2.1, q.2.2.1, fun z => ?_⟩
      have q3 := q.2.2.2 z
      have q4 : ¬ A.1 6 k' - 1 = c := fun y => by rw [y, e2] at q3; exact absurd q3.1 (by omega)
      simp [q4]
      exact q3
