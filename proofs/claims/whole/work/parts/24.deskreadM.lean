/-! ===== reading: the reference ===== -/
theorem M_isIn (x a b : Int32) (h : HS) : f_M_isIn x a b h = some (bI (decide (a ≤ x ∧ x ≤ b)), h) := by
  unfold f_M_isIn
  rw [rZ0, rZ1]
  by_cases h1 : x < a
  · have : ¬ a ≤ x := Int32.not_le.mpr h1
    simp [h1, this, bI]
  · have q1 : a ≤ x := Int32.not_lt.mp h1
    by_cases h2 : b < x
    · have : ¬ x ≤ b := Int32.not_le.mpr h2
      simp [h1, h2, this, bI]
    · have q2 : x ≤ b := Int32.not_lt.mp h2
      simp [h1, h2, q1, q2, bI]
theorem M_isInN {n : Nat} (hn : n < 2147483648) (x : Int32) (h : HS) : f_M_isIn x (nI 0) (nI n - nI 1) h = some (bI (inb x n), h) := by
  unfold f_M_isIn
  rw [show nI n - nI 1 = pI n from rfl, inb_i3 hn, rZ0, rZ1]
  exact bI_ite
theorem M_bitOf {a d : Nat} (ha : a < 64) (hd : d < 32) (h : HS) : f_M_bitOf (nI a) (nI d) h = some (bI (a.testBit d), h) := by
  unfold f_M_bitOf
  rw [bit_sh a ha d hd, rZ0, rZ1]
  cases a.testBit d
  · exact if_neg (by decide)
  · exact if_pos rfl
theorem M_lesser (a b : Nat) (ha : a < 2147483648) (hb : b < 2147483648) (h : HS) : f_M_lesser (nI a) (nI b) h = some (nI (min a b), h) := by
  simp (disch := omega) only [f_M_lesser, bl_e, bnd_s, nI_add, nI_mul, ifin, nI_clamp, rZ0, rZ1, rZb, ite_eqN, ite_eq0, ite_ne0, ite_leN, ite_ltN, ite_lt0, ite_le0, ite_ge0, ite_gt0, ite_b0, ite_bn0]
  by_cases q : b ≤ a
  · rw [if_pos q, show min a b = b by omega]
  · rw [if_neg q, show min a b = a by omega]
section MRD
variable {P : Pl} {A : Ab} {h : HS}
theorem m_0 (R : MR P A h) : h.1 2 0 = nI (P 0 3) := R.1.1.1
theorem m_1 (R : MR P A h) : h.1 2 1 = nI (P 0 4) := R.1.1.2.1
theorem m_2 (R : MR P A h) : h.1 2 2 = nI (P 0 5) := R.1.1.2.2.1
theorem m_3 (R : MR P A h) : h.1 2 3 = nI (rumN P (P 0 3)) := R.1.1.2.2.2.1
theorem m_4 (R : MR P A h) : h.1 2 4 = nI (P 0 0) := R.1.1.2.2.2.2.1
theorem m_5 (R : MR P A h) : h.1 2 5 = nI (P 0 1) := R.1.1.2.2.2.2.2.1
theorem m_6 (R : MR P A h) : h.1 2 6 = nI (P 0 2) := R.1.1.2.2.2.2.2.2
theorem m_told (R : MR P A h) {c : Nat} (hc : c < P 0 3) : h.1 2 (7 + c) = nI (P 1 c) ∧ h.1 2 (13 + c) = nI (P 2 c) ∧ h.1 2 (19 + c) = nI (P 3 c) ∧ h.1 2 (25 + c) = nI (P 4 c) ∧ h.1 2 (43 + c) = nI (if P 6 c = 0 then 0 else 1) ∧ (P 6 c ≠ 0 → h.1 2 (31 + c) = nI (P 5 c) ∧ h.1 2 (37 + c) = nI (P 6 c)) := R.1.2.1 c hc
theorem m_ftold (R : MR P A h) {c : Nat} (hc : c < P 0 3) : h.1 2 (7 + c) = nI (P 1 c) := (m_told R hc).1
theorem m_atold (R : MR P A h) {c : Nat} (hc : c < P 0 3) : h.1 2 (13 + c) = nI (P 2 c) := (m_told R hc).2.1
theorem m_purse (R : MR P A h) {c : Nat} (hc : c < P 0 3) : h.1 2 (19 + c) = nI (P 3 c) := (m_told R hc).2.2.1
theorem m_hasr (R : MR P A h) {c : Nat} (hc : c < P 0 3) : h.1 2 (43 + c) = nI (if P 6 c = 0 then 0 else 1) := (m_told R hc).2.2.2.2.1
theorem m_up (R : MR P A h) {d : Nat} (hd : d < P 0 4) : h.1 2 (49 + d) = nI (P 7 d) := (R.1.2.2.1 d hd).1
theorem m_down (R : MR P A h) {d : Nat} (hd : d < P 0 4) : h.1 2 (55 + d) = nI (P 8 d) := (R.1.2.2.1 d hd).2.1
theorem m_cost (R : MR P A h) {d : Nat} (hd : d < P 0 4) : h.1 2 (61 + d) = nI (P 9 d) := (R.1.2.2.1 d hd).2.2
theorem m_ztold (R : MR P A h) {k : Nat} (hk : k < P 0 5) : h.1 2 (67 + k) = nI (P 10 k) := R.1.2.2.2.1 k hk
theorem m_for (R : MR P A h) {c : Nat} (hc : c < P 0 3) : h.1 2 (78 + c) = nI (fo P A c 0) := R.2.1 c 0 hc (by omega) (by omega)
theorem m_ag (R : MR P A h) {c : Nat} (hc : c < P 0 3) : h.1 2 (84 + c) = nI (ag P A c 0) := R.2.1 c 1 hc (by omega) (by omega)
theorem m_bel (R : MR P A h) {c : Nat} (hc : c < P 0 3) : h.1 2 (90 + c) = nI (A.1 0 c) := R.2.1 c 3 hc (by omega) (by omega)
theorem m_state (R : MR P A h) {c : Nat} (hc : c < P 0 3) : h.1 2 (96 + c) = nI (A.1 1 c) := R.2.1 c 4 hc (by omega) (by omega)
theorem m_hold (R : MR P A h) {c : Nat} (hc : c < P 0 3) : h.1 2 (102 + c) = nI (A.1 2 c) := R.2.1 c 5 hc (by omega) (by omega)
theorem m_had (R : MR P A h) {c : Nat} (hc : c < P 0 3) : h.1 2 (108 + c) = nI (A.1 3 c) := R.2.1 c 6 hc (by omega) (by omega)
theorem m_flag (R : MR P A h) {c : Nat} (hc : c < P 0 3) : h.1 2 (114 + c) = A.2 0 c := R.2.1 c 7 hc (by omega) (by omega)
theorem m_drop (R : MR P A h) {c : Nat} (hc : c < P 0 3) : h.1 2 (120 + c) = nI (A.1 4 c) := R.2.1 c 8 hc (by omega) (by omega)
theorem m_zeal (R : MR P A h) {k : Nat} (hk : k < P 0 5) : h.1 2 (126 + k) = nI (A.1 5 k) := R.2.2.1 k 0 hk (by omega) (by omega)
theorem m_has (R : MR P A h) {k : Nat} (hk : k < P 0 5) : h.1 2 (131 + k) = nI (A.1 6 k) := R.2.2.1 k 2 hk (by omega) (by omega)
theorem m_acts (R : MR P A h) {k : Nat} (hk : k < P 0 5) : h.1 2 (136 + k) = A.2 1 k := R.2.2.1 k 3 hk (by omega) (by omega)
theorem m_acted (R : MR P A h) {k : Nat} (hk : k < P 0 5) : h.1 2 (141 + k) = nI (A.1 7 k) := R.2.2.1 k 4 hk (by omega) (by omega)
theorem m_brought (R : MR P A h) {k : Nat} (hk : k < P 0 5) : h.1 2 (146 + k) = A.2 2 k := R.2.2.1 k 5 hk (by omega) (by omega)
theorem m_week (R : MR P A h) : h.1 2 72 = nI (A.1 8 0) := R.2.2.2.1 0 (by omega) (by omega)
theorem m_coin (R : MR P A h) : h.1 2 73 = A.2 3 0 := R.2.2.2.1 1 (by omega) (by omega)
theorem m_disg (R : MR P A h) : h.1 2 74 = A.2 4 0 := R.2.2.2.1 2 (by omega) (by omega)
theorem m_deeds (R : MR P A h) : h.1 2 77 = A.2 5 0 := R.2.2.2.1 4 (by omega) (by omega)
theorem m_first (R : MR P A h) : h.1 2 75 = nI (A.1 9 0) := R.2.2.2.1 5 (by omega) (by omega)
theorem m_flags (R : MR P A h) : h.1 2 76 = A.2 6 0 := R.2.2.2.1 6 (by omega) (by omega)
theorem M_isCause (w3 : P 0 3 ≤ 6) (R : MR P A h) (x : Int32) : f_M_isCause x h = some (bI (inb x (P 0 3)), h) := by
  simp (disch := omega) only [f_M_isCause, bl_e, bnd_s, nI_add, nI_mul, ifin, nI_clamp, rZ0, rZ1, rZb, ite_eqN, ite_eq0, ite_ne0, ite_leN, ite_ltN, ite_lt0, ite_le0, ite_ge0, ite_gt0, ite_b0, ite_bn0, m_0 R, M_isInN]
theorem M_isDeed (w4 : P 0 4 ≤ 6) (R : MR P A h) (x : Int32) : f_M_isDeed x h = some (bI (inb x (P 0 4)), h) := by
  simp (disch := omega) only [f_M_isDeed, bl_e, bnd_s, nI_add, nI_mul, ifin, nI_clamp, rZ0, rZ1, rZb, ite_eqN, ite_eq0, ite_ne0, ite_leN, ite_ltN, ite_lt0, ite_le0, ite_ge0, ite_gt0, ite_b0, ite_bn0, m_1 R, M_isInN]
theorem M_isClerk (w5 : P 0 5 ≤ 5) (R : MR P A h) (x : Int32) : f_M_isClerk x h = some (bI (inb x (P 0 5)), h) := by
  simp (disch := omega) only [f_M_isClerk, bl_e, bnd_s, nI_add, nI_mul, ifin, nI_clamp, rZ0, rZ1, rZb, ite_eqN, ite_eq0, ite_ne0, ite_leN, ite_ltN, ite_lt0, ite_le0, ite_ge0, ite_gt0, ite_b0, ite_bn0, m_2 R, M_isInN]
theorem testBit_lt {s n d : Nat} (hs : s < 2 ^ n) (h : s.testBit d = true) : d < n := by
  rcases Nat.lt_or_ge d n with q | q
  · exact q
  · have h2 : s < 2 ^ d := Nat.lt_of_lt_of_le hs (Nat.pow_le_pow_right (by omega) q)
    rw [Nat.testBit_lt_two_pow h2] at h
    cases h
/-- a sum's places of s -/
def sumAt (P : Pl) (h : HS) (b f : Nat) : Prop := b ≤ 61 ∧ ∀ d, d < P 0 4 → h.1 2 (b + d) = nI (P f d)
theorem sumAt_7 (R : MR P A h) : sumAt P h 49 7 := ⟨by omega, fun d hd => m_up R hd⟩
theorem sumAt_8 (R : MR P A h) : sumAt P h 55 8 := ⟨by omega, fun d hd => m_down R hd⟩
theorem sumAt_9 (R : MR P A h) : sumAt P h 61 9 := ⟨by omega, fun d hd => m_cost R hd⟩
theorem M_sum1 (w4 : P 0 4 ≤ 6) {b f F : Nat} (R : sumAt P h b f) {set d a : Nat} (hs : set < 2 ^ P 0 4) (hd : d < 6) (g : Nat) : l_M_sum_0 F (nI b) (nI set) (g + 1) (nI a) (nI d) h = l_M_sum_0 F (nI b) (nI set) g (nI (a + (if set.testBit d = true then P f d else 0))) (nI (d + 1)) h := by
  have h3 : (2 : Nat) ^ P 0 4 ≤ 2 ^ 6 := Nat.pow_le_pow_right (by omega) w4
  have hb := R.1
  rw [l_M_sum_0]
  simp (disch := omega) only [bl_e, bnd_s, nI_add, nI_mul, ifin, nI_clamp, rZ0, rZ1, rZb, ite_eqN, ite_eq0, ite_ne0, ite_leN, ite_ltN, ite_lt0, ite_le0, ite_ge0, ite_gt0, ite_b0, ite_bn0, M_bitOf]
  rw [if_neg (by omega)]
  by_cases e : set.testBit d = true
  · rw [if_pos e, if_pos e, R.2 d (testBit_lt hs e), nI_add]
  · rw [if_neg e, if_neg e]
theorem M_sum (w4 : P 0 4 ≤ 6) {b f F : Nat} (hF : 7 ≤ F) (R : sumAt P h b f) {set : Nat} (hs : set < 2 ^ P 0 4) : f_M_sum F (nI b) (nI set) h = some (nI (sm P f set), h) := by
  obtain ⟨g, rfl⟩ : ∃ g, F = g + 7 := ⟨F - 7, by omega⟩
  unfold f_M_sum
  rw [bl_e, bl_e, M_sum1 w4 R hs (by omega) (g + 6), M_sum1 w4 R hs (by omega) (g + 5), M_sum1 w4 R hs (by omega) (g + 4), M_sum1 w4 R hs (by omega) (g + 3), M_sum1 w4 R hs (by omega) (g + 2), M_sum1 w4 R hs (by omega) (g + 1), l_M_sum_0]
  simp (disch := omega) only [bl_e, bnd_s, nI_add, nI_mul, ifin, nI_clamp, rZ0, rZ1, rZb, ite_eqN, ite_eq0, ite_ne0, ite_leN, ite_ltN, ite_lt0, ite_le0, ite_ge0, ite_gt0, ite_b0, ite_bn0]
  rw [if_pos (by omega)]
  simp [sm]
theorem fo_add (P : Pl) (A : Ab) (c set : Nat) : fo P A c 0 + sm P 7 set = fo P A c set := by simp [fo, sm_z]
theorem ag_add (P : Pl) (A : Ab) (c set : Nat) : ag P A c 0 + sm P 8 set = ag P A c set := by simp [ag, sm_z]
theorem M_forOf (w3 : P 0 3 ≤ 6) (w4 : P 0 4 ≤ 6) {F : Nat} (hF : 7 ≤ F) (R : MR P A h) {c set : Nat} (hc : c < P 0 3) (hs : set < 2 ^ P 0 4) : f_M_forOf F (nI c) (nI set) h = some (nI (fo P A c set), h) := by
  simp (disch := omega) only [f_M_forOf, M_sum w4 hF (sumAt_7 R) hs, bl_e, bnd_s, nI_add, nI_mul, ifin, nI_clamp, rZ0, rZ1, rZb, ite_eqN, ite_eq0, ite_ne0, ite_leN, ite_ltN, ite_lt0, ite_le0, ite_ge0, ite_gt0, ite_b0, ite_bn0, m_for R hc, fo_add]
theorem M_allOf (w3 : P 0 3 ≤ 6) (w4 : P 0 4 ≤ 6) {F : Nat} (hF : 7 ≤ F) (R : MR P A h) {c set : Nat} (hc : c < P 0 3) (hs : set < 2 ^ P 0 4) : f_M_allOf F (nI c) (nI set) h = some (nI (fo P A c set + ag P A c set), h) := by
  simp (disch := omega) only [f_M_allOf, M_forOf w3 w4 hF R hc hs, M_sum w4 hF (sumAt_8 R) hs, bl_e, bnd_s, nI_add, nI_mul, ifin, nI_clamp, rZ0, rZ1, rZb, ite_eqN, ite_eq0, ite_ne0, ite_leN, ite_ltN, ite_lt0, ite_le0, ite_ge0, ite_gt0, ite_b0, ite_bn0, m_ag R hc]
  rw [Nat.add_assoc, ag_add]
theorem M_isBelow (W : WFP P) (R : MR P A h) {x y : Nat} (hx : x ≤ 2000) (hy : y ≤ 2000) : f_M_isBelow (nI x) (nI (x + y)) h = some (bI (safe P x y), h) := by
  simp (disch := omega) only [f_M_isBelow, bl_e, bnd_s, nI_add, nI_mul, ifin, nI_clamp, rZ0, rZ1, rZb, ite_eqN, ite_eq0, ite_ne0, ite_leN, ite_ltN, ite_lt0, ite_le0, ite_ge0, ite_gt0, ite_b0, ite_bn0, m_4 R, m_5 R]
  have := safe_ar W hx hy (A := some (nI 0, h)) (B := some (nI 1, h))
  simp (disch := omega) only [nI_add, nI_mul] at this
  rw [← bI_ite, ← this]
theorem M_isSafe (W : WF P A) {F : Nat} (hF : 7 ≤ F) (R : MR P A h) {c set : Nat} (hc : c < P 0 3) (hs : set < 2 ^ P 0 4) : f_M_isSafe F (nI c) (nI set) h = some (bI (safeC P A c set), h) := by
  obtain ⟨⟨wN, wNM, wM, wCo, w3, w4, w5, wC, wD, wK⟩, wAc, wAk, wAw, wAf⟩ := id W
  have h1 := fo_le W.1 A c set
  have h2 := ag_le W.1 A c set
  simp (disch := omega) only [f_M_isSafe, M_forOf w3 w4 hF R hc hs, M_allOf w3 w4 hF R hc hs, bnd_s, M_isBelow W.1 R, rZb]
  rfl
theorem M_nearOf (W : WF P A) {F : Nat} (hF : 7 ≤ F) (R : MR P A h) {c set : Nat} (hc : c < P 0 3) (hs : set < 2 ^ P 0 4) : f_M_nearOf F (nI c) (nI set) h = some (nI (nearC P A c set), h) := by
  obtain ⟨⟨wN, wNM, wM, wCo, w3, w4, w5, wC, wD, wK⟩, wAc, wAk, wAw, wAf⟩ := id W
  have h1 := fo_le W.1 A c set
  have h2 := ag_le W.1 A c set
  obtain ⟨q1, q2, q3⟩ := near_ar W.1 (show fo P A c set ≤ 2000 by omega) (show ag P A c set ≤ 2000 by omega) h2.2
  simp (disch := omega) only [f_M_nearOf, M_forOf w3 w4 hF R hc hs, M_allOf w3 w4 hF R hc hs, bl_e, bnd_s, nI_add, nI_mul, ifin, nI_clamp, rZ0, rZ1, rZb, ite_eqN, ite_eq0, ite_ne0, ite_leN, ite_ltN, ite_lt0, ite_le0, ite_ge0, ite_gt0, ite_b0, ite_bn0, m_4 R, m_5 R, nI_div]
  rw [if_neg (by omega)]
  rfl
theorem M_payOf (W : WF P A) {F : Nat} (hF : 7 ≤ F) (R : MR P A h) {c set : Nat} (hc : c < P 0 3) (hs : set < 2 ^ P 0 4) (hn : nearC P A c set < 20000000) : f_M_payOf F (nI c) (nI set) h = some (nI (P 3 c * nearC P A c set / 1000), h) := by
  obtain ⟨⟨wN, wNM, wM, wCo, w3, w4, w5, wC, wD, wK⟩, wAc, wAk, wAw, wAf⟩ := id W
  have h6 := wC c
  have h7 : P 3 c * nearC P A c set ≤ 99 * nearC P A c set := Nat.mul_le_mul_right _ (by omega)
  simp (disch := omega) only [f_M_payOf, M_nearOf W hF R hc hs, bl_e, bnd_s, nI_add, nI_mul, ifin, nI_clamp, rZ0, rZ1, rZb, ite_eqN, ite_eq0, ite_ne0, ite_leN, ite_ltN, ite_lt0, ite_le0, ite_ge0, ite_gt0, ite_b0, ite_bn0, m_purse R hc, nI_div]
  rw [if_neg (by omega)]
theorem M_whyTake (W : WF P A) {F : Nat} (hF : 7 ≤ F) (R : MR P A h) {k c : Nat} (hk : k < P 0 5) (hc : c < P 0 3) : f_M_whyTake F (nI k) (nI c) h = some (nI (whyT P A k c), h) := by
  obtain ⟨⟨wN, wNM, wM, wCo, w3, w4, w5, wC, wD, wK⟩, wAc, wAk, wAw, wAf⟩ := id W
  have h1 := (wAc c hc).1
  have h2 := (wAk k hk).2.2.1
  have h3 := p64 w4
  simp (disch := omega) only [f_M_whyTake, bl_e, bnd_s, nI_add, nI_mul, ifin, nI_clamp, rZ0, rZ1, rZb, ite_eqN, ite_eq0, ite_ne0, ite_leN, ite_ltN, ite_lt0, ite_le0, ite_ge0, ite_gt0, ite_b0, ite_bn0, m_has R hk, m_state R hc, M_isSafe W hF R hc h3.1, m_week R]
  unfold whyT
  by_cases e1 : A.1 6 k = 0 <;> by_cases e2 : A.1 1 c = 0 <;> by_cases e3 : safeC P A c 0 = true <;> by_cases e4 : A.1 8 0 = 200 <;> simp [e1, e2, e3, e4]
theorem M_whyDrop (W : WF P A) (R : MR P A h) {k : Nat} (hk : k < P 0 5) : f_M_whyDrop (nI k) h = some (nI (whyD A k), h) := by
  obtain ⟨⟨wN, wNM, wM, wCo, w3, w4, w5, wC, wD, wK⟩, wAc, wAk, wAw, wAf⟩ := id W
  have h2 := (wAk k hk).2.2.1
  simp (disch := omega) only [f_M_whyDrop, bl_e, bnd_s, nI_add, nI_mul, ifin, nI_clamp, rZ0, rZ1, rZb, ite_eqN, ite_eq0, ite_ne0, ite_leN, ite_ltN, ite_lt0, ite_le0, ite_ge0, ite_gt0, ite_b0, ite_bn0, m_has R hk, m_week R, nI_rem]
  unfold whyD
  by_cases e1 : A.1 6 k = 0 <;> by_cases e2 : A.1 8 0 % 5 = 4 <;> simp [e1, e2]
theorem M_whyAct (W : WF P A) (R : MR P A h) {k d : Nat} (hk : k < P 0 5) (hd : d < P 0 4) : f_M_whyAct (nI k) (nI d) h = some (nI (whyA P A k d), h) := by
  obtain ⟨⟨wN, wNM, wM, wCo, w3, w4, w5, wC, wD, wK⟩, wAc, wAk, wAw, wAf⟩ := id W
  have h1 := wAk k hk
  have h0 := wK k
  simp (disch := omega) only [f_M_whyAct, bl_e, bnd_s, nI_add, nI_mul, ifin, nI_clamp, rZ0, rZ1, rZb, ite_eqN, ite_eq0, ite_ne0, ite_leN, ite_ltN, ite_lt0, ite_le0, ite_ge0, ite_gt0, ite_b0, ite_bn0, m_has R hk]
  unfold whyA
  by_cases e1 : A.1 6 k = 0
  · rw [if_pos e1, show nI (A.1 6 k) - nI 1 = pI (A.1 6 k) from rfl, e1, pI_0]
    rw [if_neg (show ¬ (0 : Int32) ≤ -1 by decide)]
  · have hc : A.1 6 k - 1 < P 0 3 := by omega
    have h2 := (wAc _ hc).2.1
    have h3 := p64 w4
    rw [if_neg e1, nI_sb (by omega)]
    simp (disch := omega) only [m_had R hc, M_bitOf, bl_e, bnd_s, nI_add, nI_mul, ifin, nI_clamp, rZ0, rZ1, rZb, ite_eqN, ite_eq0, ite_ne0, ite_leN, ite_ltN, ite_lt0, ite_le0, ite_ge0, ite_gt0, ite_b0, ite_bn0, m_zeal R hk, m_acted R hk]
    by_cases e2 : (A.1 3 (A.1 6 k - 1)).testBit d = true
    · rw [if_pos e2, if_pos e2]
    · rw [if_neg e2, if_neg e2]
      by_cases e3 : A.1 5 k = 0
      · rw [if_pos e3, if_pos e3]
      · rw [if_neg e3, if_neg e3]
        by_cases e4 : A.1 7 k = 0
        · rw [if_neg (by omega), if_pos e4, m_cost R hd, m_coin R]
          by_cases e5 : nI (P 9 d) ≤ A.2 3 0
          · rw [if_pos e5, if_neg (Int32.not_lt.mpr e5)]
          · rw [if_neg e5, if_pos (Int32.not_le.mp e5)]
        · rw [if_pos (by omega), if_neg e4]
end MRD
