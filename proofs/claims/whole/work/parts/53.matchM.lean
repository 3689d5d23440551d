/-! ===== MATCH: the reference's side ===== -/
theorem M_m1L {P : Pl} {A : Ab} {F k : Nat} (hF : 70 ≤ F) (W : WF P A) (hk : k < P 0 5) : ∀ (j c : Nat) (h : HS), c + j = P 0 3 → MR P A h → ∃ h2, (∀ K g, j < g → l_M_match_1 F (nI k) K g (nI c) h = K h2) ∧ (∀ x, c ≤ x → x < P 0 3 → h2.1 10 (6 * k + x) = valI P A k x) ∧ (∀ i, i < 6 * k + c ∨ 6 * k + P 0 3 ≤ i → h2.1 10 i = h.1 10 i) ∧ Fr [9, 10] h h2 := by
  obtain ⟨⟨wN, wNM, wM, wCo, w3, w4, w5, wC, wD, wK⟩, wAc, wAk, wAw, wAf⟩ := id W
  intro j
  induction j with
  | zero =>
    intro c h hc R
    refine ⟨h, fun K g hg => ?_, fun x h1 h2 => by omega, fun _ _ => rfl, Fr_rf⟩
    obtain ⟨g, rfl⟩ : ∃ z, g = z + 1 := ⟨g - 1, by omega⟩
    rw [l_M_match_1, ifin (by omega) (by omega), nI_clamp (by omega), m_0 R, ite_leN (by omega) (by omega), if_pos (by omega)]
  | succ j ih =>
    intro c h hc R
    obtain ⟨f, e1⟩ := M_valueOf (F := F) (k := k) (c := c) hF W hk (by omega) R
    have f1 : Fr [9, 10] h (sI (st h 9 f) 10 (6 * k + c) (valI P A k c)) := Fr_t (Fr_st (by decide)) (Fr_sI (by decide))
    have R2 := MR_F R f1 (by decide)
    obtain ⟨h2, a1, a2, a3, a4⟩ := ih (c + 1) _ (by omega) R2
    refine ⟨h2, fun K g hg => ?_, fun x h1 h3 => ?_, fun i hi => ?_, Fr_t f1 a4⟩
    · obtain ⟨g, rfl⟩ : ∃ z, g = z + 1 := ⟨g - 1, by omega⟩
      rw [l_M_match_1, ifin (by omega) (by omega), nI_clamp (by omega), m_0 R, ite_leN (by omega) (by omega), if_neg (by omega), e1, bnd_s, nI_mul, nI_add, ifin (by omega) (by omega), nI_clamp (by omega), bl_e, bl_e, nI_add, a1 K g (by omega)]
    · by_cases z : x = c
      · rw [z, a3 _ (Or.inl (by omega)), sI_e]
      · exact a2 x (by omega) h3
    · rw [a3 i (by omega), sI_n (by omega), st_o (by decide)]
theorem M_m0L {P : Pl} {A : Ab} {F : Nat} (hF : 70 ≤ F) (W : WF P A) : ∀ (j k : Nat) (h : HS), k + j = P 0 5 → MR P A h → ∃ h2, (∀ K g, j < g → l_M_match_0 F K g (nI k) h = K h2) ∧ (∀ i, k ≤ i → i < P 0 5 → h2.1 11 i = nI 0) ∧ (∀ i, i < k → h2.1 11 i = h.1 11 i) ∧ (∀ x c, k ≤ x → x < P 0 5 → c < P 0 3 → h2.1 10 (6 * x + c) = valI P A x c) ∧ (∀ i, i < 6 * k → h2.1 10 i = h.1 10 i) ∧ Fr [9, 10, 11] h h2 := by
  obtain ⟨⟨wN, wNM, wM, wCo, w3, w4, w5, wC, wD, wK⟩, wAc, wAk, wAw, wAf⟩ := id W
  intro j
  induction j with
  | zero =>
    intro k h hk R
    refine ⟨h, fun K g hg => ?_, fun i h1 h2 => by omega, fun _ _ => rfl, fun x c h1 h2 h3 => by omega, fun _ _ => rfl, Fr_rf⟩
    obtain ⟨g, rfl⟩ : ∃ z, g = z + 1 := ⟨g - 1, by omega⟩
    rw [l_M_match_0, ifin (by omega) (by omega), nI_clamp (by omega), m_2 R, ite_leN (by omega) (by omega), if_pos (by omega)]
  | succ j ih =>
    intro k h hk R
    have f1 : Fr [9, 10, 11] h (sI h 11 k (nI 0)) := Fr_sI (by decide)
    have R1 := MR_F R f1 (by decide)
    obtain ⟨h3, b1, b2, b3, b4⟩ := M_m1L (F := F) (k := k) hF W (by omega) (P 0 3) 0 _ (by omega) R1
    have R3 := MR_F R1 b4 (by decide)
    obtain ⟨h2, a1, a2, a3, a4, a5, a6⟩ := ih (k + 1) h3 (by omega) R3
    have b11 := (b4 11 (by decide)).1
    refine ⟨h2, fun K g hg => ?_, fun i h4 h5 => ?_, fun i hi => ?_, fun x c h4 h5 h6 => ?_, fun i hi => ?_, Fr_t f1 (Fr_t (Fr_mo (by decide) b4) a6)⟩
    · obtain ⟨g, rfl⟩ : ∃ z, g = z + 1 := ⟨g - 1, by omega⟩
      rw [l_M_match_0, ifin (by omega) (by omega), nI_clamp (by omega), m_2 R, ite_leN (by omega) (by omega), if_neg (by omega), ifin (by omega) (by omega), nI_clamp (by omega), bl_e, bl_e, b1 _ F (by omega), bl_e, nI_add, a1 K g (by omega)]
    · by_cases e : i = k
      · rw [e, a3 k (by omega), b11, sI_e]
      · exact a2 i (by omega) h5
    · rw [a3 i (by omega), b11, sI_n (by omega)]
    · by_cases e : x = k
      · rw [e, a5 _ (by omega)]
        exact b2 c (by omega) h6
      · exact a4 x c (by omega) h5 h6
    · rw [a5 i (by omega), b3 i (Or.inl (by omega)), sI_o (by decide)]
def RSw (P : Pl) (p : Nat → Nat) (h : HS) : Prop := ∀ i, i < P 0 5 → h.1 11 i = nI (p i)
def VSw (P : Pl) (A : Ab) (h : HS) : Prop := ∀ x c, x < P 0 5 → c < P 0 3 → h.1 10 (6 * x + c) = valI P A x c
theorem M_rvL {P : Pl} {A : Ab} {F : Nat} {h : HS} {p : Nat → Nat} (W : WF P A) (R : MR P A h) (hv : VSw P A h) (hr : RSw P p h) (hp : ∀ i, p i ≤ P 0 3) : ∀ (j k u : Nat) (s : Int), k + j = P 0 5 → u < 64 → ∀ g, j < g → l_M_rowValue_0 F g (nI u) (zI s) (nI k) h = some (zI (rvF (hsF A) (valZ P A) p j k u s), h) := by
  obtain ⟨⟨wN, wNM, wM, wCo, w3, w4, w5, wC, wD, wK⟩, wAc, wAk, wAw, wAf⟩ := id W
  intro j
  induction j with
  | zero =>
    intro k u s hk hu g hg
    obtain ⟨g, rfl⟩ : ∃ z, g = z + 1 := ⟨g - 1, by omega⟩
    rw [l_M_rowValue_0, ifin (by omega) (by omega), nI_clamp (by omega), m_2 R, ite_leN (by omega) (by omega), if_pos (by omega), rvF]
  | succ j ih =>
    intro k u s hk hu g hg
    obtain ⟨g, rfl⟩ : ∃ z, g = z + 1 := ⟨g - 1, by omega⟩
    have hpk := hp k
    have h6 := (wAk k (by omega)).2.2.1
    rw [l_M_rowValue_0, ifin (by omega) (by omega), nI_clamp (by omega), m_2 R, ite_leN (by omega) (by omega), if_neg (by omega), ifin (by omega) (by omega), nI_clamp (by omega), hr k (by omega), rvF]
    dsimp only [bl]
    rw [ite_eq0 (by omega)]
    by_cases e : p k = 0
    · rw [if_pos e, if_pos e, nI_add, ih (k + 1) u s (by omega) hu g (by omega)]
    · have e1 : nI (p k) - nI 1 = nI (p k - 1) := nI_sb (by omega)
      rw [if_neg e, if_neg e, ifin (by omega) (by omega), nI_add, ifin (by omega) (by omega), nI_clamp (by omega), m_has R (by omega), ite_gt0 (by omega)]
      by_cases e2 : A.1 6 k = 0
      · rw [if_pos e2, e1, M_bitOf hu (by omega), bnd_s, ite_b0]
        have hh : ¬ hsF A k = true := by unfold hsF; simpa using e2
        by_cases e3 : u.testBit (p k - 1) = true
        · rw [if_pos e3, if_pos (Or.inr e3)]
          rfl
        · rw [if_neg e3, if_neg (show ¬ (hsF A k = true ∨ u.testBit (p k - 1) = true) from fun q => q.elim hh e3), nI_mul, nI_add, ifin (by omega) (by omega), nI_clamp (by omega), hv k _ (by omega) (by omega), valZ_e, zI_add, bit_or u hu _ (by omega), nI_add, ih (k + 1) _ _ (by omega) (or_lt (n := 6) hu (by omega)) g (by omega)]
      · rw [if_neg e2, if_pos (Or.inl (by unfold hsF; simpa using e2))]
        rfl
theorem M_rowValue {P : Pl} {A : Ab} {F : Nat} {h : HS} {p : Nat → Nat} (hF : 70 ≤ F) (W : WF P A) (R : MR P A h) (hv : VSw P A h) (hr : RSw P p h) (hp : ∀ i, p i ≤ P 0 3) : f_M_rowValue F h = some (zI (rvF (hsF A) (valZ P A) p (P 0 5) 0 0 0), h) := by
  obtain ⟨⟨wN, wNM, wM, wCo, w3, w4, w5, wC, wD, wK⟩, wAc, wAk, wAw, wAf⟩ := id W
  rw [f_M_rowValue, bl_e, bl_e, bl_e]
  exact M_rvL W R hv hr hp (P 0 5) 0 0 0 (by omega) (by omega) F (by omega)
def fillR (p : Nat → Nat) (k v : Nat) : Nat → Nat := fun i => if i < k then p i else v
theorem M_nwL {P : Pl} {A : Ab} {F k : Nat} (W : WF P A) : ∀ (n : Nat) (h : HS), k + n ≤ P 0 5 → MR P A h → (∀ x, k ≤ x → x < k + n → h.1 11 x = nI (P 0 3)) → ∃ h2, (∀ g, l_M_nextRow_0 F (g + n) (pI (k + n)) h = l_M_nextRow_0 F g (pI k) h2) ∧ (∀ x, x < k ∨ k + n ≤ x → h2.1 11 x = h.1 11 x) ∧ (∀ x, k ≤ x → x < k + n → h2.1 11 x = nI 0) ∧ Fr [11] h h2 := by
  obtain ⟨⟨wN, wNM, wM, wCo, w3, w4, w5, wC, wD, wK⟩, wAc, wAk, wAw, wAf⟩ := id W
  intro n
  induction n with
  | zero => intro h hk R hx; exact ⟨h, fun _ => rfl, fun _ _ => rfl, fun x h1 h2 => by omega, Fr_rf⟩
  | succ n ih =>
    intro h hk R hx
    have f1 : Fr [11] h (sI (sI h 11 (k + n) (nI (P 0 3) + nI 1)) 11 (k + n) (nI 0)) := Fr_t (Fr_sI (by decide)) (Fr_sI (by decide))
    have R1 : MR P A (sI h 11 (k + n) (nI (P 0 3) + nI 1)) := MR_F (S := [11]) R (Fr_sI (by decide)) (by decide)
    have R2 := MR_F R f1 (by decide)
    obtain ⟨h2, a1, a2, a3, a4⟩ := ih _ (by omega) R2 (fun x h1 h2 => by rw [sI_n (by omega), sI_n (by omega)]; exact hx x h1 (by omega))
    refine ⟨h2, fun g => ?_, fun x h1 => ?_, fun x h1 h3 => ?_, Fr_t f1 a4⟩
    · rw [← a1 g, ← Nat.add_assoc, ← Nat.add_assoc, pI_s, l_M_nextRow_0, if_neg (nI_pos (by omega)), ifin (by omega) (by omega), ifin (by omega) (by omega), nI_clamp (by omega), hx _ (by omega) (by omega)]
      dsimp only [bl]
      rw [ifin (by omega) (by omega), ifin (by omega) (by omega), nI_clamp (by omega), m_0 R1, sI_e, nI_add, ite_ltN (by omega) (by omega), if_pos (by omega), ifin (by omega) (by omega), pI_m1]
    · rw [a2 x (by omega), sI_n (by omega), sI_n (by omega)]
    · by_cases e : x = k + n
      · rw [e, a2 _ (Or.inr (Nat.le_refl _)), sI_e]
      · exact a3 x h1 (by omega)
theorem M_nextRow0 {P : Pl} {A : Ab} {F : Nat} {h : HS} {p : Nat → Nat} (hF : 70 ≤ F) (W : WF P A) (R : MR P A h) (hr : RSw P (fillR p 0 (P 0 3)) h) : ∃ h2, f_M_nextRow F h = some (nI 0, h2) ∧ Fr [11] h h2 := by
  obtain ⟨⟨wN, wNM, wM, wCo, w3, w4, w5, wC, wD, wK⟩, wAc, wAk, wAw, wAf⟩ := id W
  obtain ⟨h2, a1, a2, a3, a4⟩ := M_nwL (F := F) (k := 0) W (P 0 5) h (by omega) R (fun x _ hx => hr x (by omega))
  refine ⟨h2, ?_, a4⟩
  have a1 := a1 (F - P 0 5 - 1 + 1)
  rw [Nat.zero_add, show F - P 0 5 - 1 + 1 + P 0 5 = F by omega] at a1
  rw [f_M_nextRow, ifin (by omega) (by omega), nI_clamp (by omega), m_2 R, bl_e, show nI (P 0 5) - nI 1 = pI (P 0 5) from rfl, a1, l_M_nextRow_0, pI_0, if_pos (by decide), rZ0]
theorem M_nextRow1 {P : Pl} {A : Ab} {F k d : Nat} {h : HS} {p : Nat → Nat} (hF : 70 ≤ F) (W : WF P A) (R : MR P A h) (hk : k < P 0 5) (hr : RSw P (fillR (up1 p k d) (k + 1) (P 0 3)) h) (hd : d < P 0 3) : ∃ h2, f_M_nextRow F h = some (nI 1, h2) ∧ Fr [11] h h2 ∧ RSw P (fillR (up1 p k (d + 1)) (k + 1) 0) h2 := by
  obtain ⟨⟨wN, wNM, wM, wCo, w3, w4, w5, wC, wD, wK⟩, wAc, wAk, wAw, wAf⟩ := id W
  obtain ⟨h2, a1, a2, a3, a4⟩ := M_nwL (F := F) (k := k + 1) W (P 0 5 - (k + 1)) h (by omega) R (fun x h1 hx => by rw [hr x (by omega)]; exact congrArg nI (if_neg (by omega)))
  have R2 := MR_F R a4 (by decide)
  have e2 : h2.1 11 k = nI d := by
    rw [a2 k (Or.inl (by omega)), hr k hk]
    exact congrArg nI ((if_pos (by omega)).trans up1_e)
  have R3 : MR P A (sI h2 11 k (nI d + nI 1)) := MR_F (S := [11]) R2 (Fr_sI (by decide)) (by decide)
  refine ⟨sI h2 11 k (nI d + nI 1), ?_, Fr_t a4 (Fr_sI (by decide)), fun x hx => ?_⟩
  · have a1 := a1 (F - (P 0 5 - (k + 1)) - 1 + 1)
    rw [show k + 1 + (P 0 5 - (k + 1)) = P 0 5 by omega, show F - (P 0 5 - (k + 1)) - 1 + 1 + (P 0 5 - (k + 1)) = F by omega] at a1
    rw [f_M_nextRow, ifin (by omega) (by omega), nI_clamp (by omega), m_2 R, bl_e, show nI (P 0 5) - nI 1 = pI (P 0 5) from rfl, a1, l_M_nextRow_0, pI_s, if_neg (nI_pos (by omega)), ifin (by omega) (by omega), ifin (by omega) (by omega), nI_clamp (by omega), e2]
    dsimp only [bl]
    rw [ifin (by omega) (by omega), ifin (by omega) (by omega), nI_clamp (by omega), m_0 R3, sI_e, nI_add, ite_ltN (by omega) (by omega), if_neg (by omega), rZ1]
  · by_cases e : x = k
    · rw [e, sI_e, nI_add]
      exact congrArg nI ((if_pos (by omega)).trans up1_e).symm
    · rw [sI_n e]
      by_cases z : x < k
      · rw [a2 x (Or.inl (by omega)), hr x hx]
        unfold fillR
        rw [if_pos (by omega), if_pos (by omega), up1_n e, up1_n e]
      · rw [a3 x (by omega) (by omega)]
        unfold fillR
        rw [if_neg (by omega)]
theorem M_m3L {P : Pl} {A : Ab} {F : Nat} {p : Nat → Nat} {b : Int32} (W : WF P A) : ∀ (j k : Nat) (h : HS), k + j = P 0 5 → MR P A h → RSw P p h → ∃ h2, (∀ K g, j < g → l_M_match_3 F b K g (nI k) h = K h2) ∧ (∀ i, k ≤ i → i < P 0 5 → h2.1 12 i = pI (p i)) ∧ (∀ i, i < k → h2.1 12 i = h.1 12 i) ∧ Fr [12] h h2 := by
  obtain ⟨⟨wN, wNM, wM, wCo, w3, w4, w5, wC, wD, wK⟩, wAc, wAk, wAw, wAf⟩ := id W
  intro j
  induction j with
  | zero =>
    intro k h hk R hr
    refine ⟨h, fun K g hg => ?_, fun i h1 h2 => by omega, fun _ _ => rfl, Fr_rf⟩
    obtain ⟨g, rfl⟩ : ∃ z, g = z + 1 := ⟨g - 1, by omega⟩
    rw [l_M_match_3, ifin (by omega) (by omega), nI_clamp (by omega), m_2 R, ite_leN (by omega) (by omega), if_pos (by omega)]
  | succ j ih =>
    intro k h hk R hr
    have f1 : Fr [12] h (sI h 12 k (pI (p k))) := Fr_sI (by decide)
    have R1 := MR_F R f1 (by decide)
    obtain ⟨h2, a1, a2, a3, a4⟩ := ih (k + 1) _ (by omega) R1 (fun i hi => by rw [sI_o (by decide)]; exact hr i hi)
    refine ⟨h2, fun K g hg => ?_, fun i h1 h3 => ?_, fun i hi => by rw [a3 i (by omega), sI_n (by omega)], Fr_t f1 a4⟩
    · obtain ⟨g, rfl⟩ : ∃ z, g = z + 1 := ⟨g - 1, by omega⟩
      rw [l_M_match_3, ifin (by omega) (by omega), nI_clamp (by omega), m_2 R, ite_leN (by omega) (by omega), if_neg (by omega), ifin (by omega) (by omega), ifin (by omega) (by omega), nI_clamp (by omega), hr k (by omega), show nI (p k) - nI 1 = pI (p k) from rfl, bl_e, bl_e, nI_add, a1 K g (by omega)]
    · by_cases e : i = k
      · rw [e, a3 k (by omega), sI_e]
      · exact a2 i (by omega) h3
def MSw (P : Pl) (B : Mb) (h : HS) : Prop := B.1 = -1 ∨ ∀ i, i < P 0 5 → h.1 12 i = pI (B.2 i)
theorem fillR_up {p : Nat → Nat} {k d : Nat} : up1 (fillR p k 0) k d = fillR (up1 p k d) (k + 1) 0 := by
  funext i
  show (if i = k then d else (if i < k then p i else 0)) = (if i < k + 1 then (if i = k then d else p i) else 0)
  by_cases e : i = k
  · rw [if_pos e, if_pos (by omega), if_pos e]
  · rw [if_neg e]
    by_cases z : i < k
    · rw [if_pos z, if_pos (by omega), if_neg e]
    · rw [if_neg z, if_neg (by omega)]
theorem fillR_C {p : Nat → Nat} {k C : Nat} : fillR (up1 p k C) (k + 1) C = fillR p k C := by
  funext i
  show (if i < k + 1 then (if i = k then C else p i) else C) = (if i < k then p i else C)
  by_cases e : i = k
  · rw [if_pos (by omega), if_pos e, if_neg (by omega)]
  · by_cases z : i < k
    · rw [if_pos (by omega), if_neg e, if_pos z]
    · rw [if_neg (by omega), if_neg z]
theorem fillR_0 {p : Nat → Nat} {k : Nat} : fillR (up1 p k 0) (k + 1) 0 = fillR p k 0 := fillR_C
def rvA (P : Pl) (A : Ab) (p : Nat → Nat) : Int := rvF (hsF A) (valZ P A) p (P 0 5) 0 0 0
theorem rvA_le {P : Pl} {A : Ab} (W : WFP P) (p : Nat → Nat) : -1000000 ≤ rvA P A p ∧ rvA P A p ≤ 600 := by
  have w5 := W.2.2.2.2.2.2.1
  exact rvF_rg (valZ_rg W) (P 0 5) 0 0 0 (by omega) (by omega) (by omega)
theorem M_matL {P : Pl} {A : Ab} {F : Nat} (hF : 70 ≤ F) (W : WF P A) : ∀ (j k : Nat), k + j = P 0 5 → ∀ (p : Nat → Nat) (B : Mb) (h : HS), (∀ i, p i ≤ P 0 3) → MR P A h → VSw P A h → RSw P (fillR p k 0) h → MSw P B h → -1 ≤ B.1 → B.1 ≤ 600 → ∃ h2, RSw P (fillR p k (P 0 3)) h2 ∧ MSw P (EM (P 0 3) (rvA P A) j k (fillR p k 0) B) h2 ∧ Fr [11, 12] h h2 ∧ ∀ K0 g, l_M_match_2 F K0 (g + (P 0 3 + 1) ^ j) (zI B.1) (nI 1) h = bnd (f_M_nextRow F h2) (fun r h3 => l_M_match_2 F K0 g (zI (EM (P 0 3) (rvA P A) j k (fillR p k 0) B).1) r h3) := by
  obtain ⟨⟨wN, wNM, wM, wCo, w3, w4, w5, wC, wD, wK⟩, wAc, wAk, wAw, wAf⟩ := id W
  intro j
  induction j with
  | zero =>
    intro k hk p B h hp R hv hr hm hB1 hB6
    have hp0 : ∀ i, fillR p k 0 i ≤ P 0 3 := fun i => by unfold fillR; split; exact hp i; omega
    have hr2 := rvA_le W.1 (A := A) (fillR p k 0)
    have eR := M_rowValue (F := F) hF W R hv hr hp0
    have eR : f_M_rowValue F h = some (zI (rvA P A (fillR p k 0)), h) := eR
    have hrC : RSw P (fillR p k (P 0 3)) h := fun i hi => by
      rw [hr i hi]
      unfold fillR
      rw [if_pos (by omega), if_pos (by omega)]
    unfold EM
    by_cases z : B.1 < rvA P A (fillR p k 0)
    · obtain ⟨h2, a1, a2, a3, a4⟩ := M_m3L (F := F) (p := fillR p k 0) (b := zI (rvA P A (fillR p k 0))) W (P 0 5) 0 h (by omega) R hr
      rw [if_pos z]
      refine ⟨h2, fun i hi => by rw [(a4 11 (by decide)).1]; exact hrC i hi, Or.inr (fun i hi => a2 i (by omega) hi), Fr_mo (by decide) a4, fun K0 g => ?_⟩
      rw [Nat.pow_zero, l_M_match_2, if_neg (show ¬ nI 1 = 0 by decide), eR, bnd_s]
      dsimp only [bl]
      rw [zI_le (by omega) (by omega) (by omega) (by omega), if_pos z, a1 _ F (by omega)]
    · rw [if_neg z]
      refine ⟨h, hrC, hm, Fr_rf, fun K0 g => ?_⟩
      rw [Nat.pow_zero, l_M_match_2, if_neg (show ¬ nI 1 = 0 by decide), eR, bnd_s]
      dsimp only [bl]
      rw [zI_le (by omega) (by omega) (by omega) (by omega), if_neg z]
  | succ j ih =>
    intro k hk p B h hp R hv hr hm hB1 hB6
    have bd : ∀ n, (fC (fun d B => EM (P 0 3) (rvA P A) j (k + 1) (up1 (fillR p k 0) k d) B) n B).1 ≤ 600 ∧ B.1 ≤ (fC (fun d B => EM (P 0 3) (rvA P A) j (k + 1) (up1 (fillR p k 0) k d) B) n B).1 := fun n => fC_ind (fun X : Mb => X.1 ≤ 600 ∧ B.1 ≤ X.1) ⟨hB6, Int.le_refl _⟩ n (fun d X _ hX => by
      have := EM_le (C := P 0 3) (rv := rvA P A) (fun r => (rvA_le W.1 r).2) j (k + 1) (up1 (fillR p k 0) k d) X hX.1
      exact ⟨this.1, Int.le_trans hX.2 this.2⟩)
    have hpu : ∀ d, d ≤ P 0 3 → ∀ i, up1 p k d i ≤ P 0 3 := fun d hd i => by unfold up1; split; exact hd; exact hp i
    have key : ∀ d, d ≤ P 0 3 → ∃ h2, RSw P (fillR (up1 p k d) (k + 1) (P 0 3)) h2 ∧ MSw P (fC (fun d B => EM (P 0 3) (rvA P A) j (k + 1) (up1 (fillR p k 0) k d) B) (d + 1) B) h2 ∧ Fr [11, 12] h h2 ∧ ∀ K0 g, l_M_match_2 F K0 (g + (d + 1) * (P 0 3 + 1) ^ j) (zI B.1) (nI 1) h = bnd (f_M_nextRow F h2) (fun r h3 => l_M_match_2 F K0 g (zI (fC (fun d B => EM (P 0 3) (rvA P A) j (k + 1) (up1 (fillR p k 0) k d) B) (d + 1) B).1) r h3) := by
      intro d
      induction d with
      | zero =>
        intro hd
        obtain ⟨h2, a1, a2, a3, a4⟩ := ih (k + 1) (by omega) (up1 p k 0) B h (hpu 0 (by omega)) R hv (by rw [fillR_0]; exact hr) hm hB1 hB6
        rw [← fillR_up] at a2 a4
        refine ⟨h2, a1, a2, a3, fun K0 g => ?_⟩
        rw [Nat.zero_add, Nat.one_mul]
        exact a4 K0 g
      | succ d ihd =>
        intro hd
        obtain ⟨h2, a1, a2, a3, a4⟩ := ihd (by omega)
        have bb := bd (d + 1)
        have R2 := MR_F R a3 (by decide)
        obtain ⟨h3, b1, b2, b3⟩ := M_nextRow1 (F := F) (k := k) (d := d) (p := p) hF W R2 (by omega) a1 (by omega)
        have R3 := MR_F R2 b2 (by decide)
        have v3 : VSw P A h3 := fun x c hx hc => by rw [(b2 10 (by decide)).1, (a3 10 (by decide)).1]; exact hv x c hx hc
        have m3 : MSw P (fC (fun d B => EM (P 0 3) (rvA P A) j (k + 1) (up1 (fillR p k 0) k d) B) (d + 1) B) h3 := a2.imp id (fun q i hi => by rw [(b2 12 (by decide)).1]; exact q i hi)
        obtain ⟨h4, c1, c2, c3, c4⟩ := ih (k + 1) (by omega) (up1 p k (d + 1)) (fC (fun d B => EM (P 0 3) (rvA P A) j (k + 1) (up1 (fillR p k 0) k d) B) (d + 1) B) h3 (hpu _ hd) R3 v3 b3 m3 (by omega) bb.1
        rw [← fillR_up] at c2 c4
        refine ⟨h4, c1, c2, Fr_t a3 (Fr_t (Fr_mo (by decide) b2) c3), fun K0 g => ?_⟩
        rw [show g + (d + 1 + 1) * (P 0 3 + 1) ^ j = (g + (P 0 3 + 1) ^ j) + (d + 1) * (P 0 3 + 1) ^ j by rw [Nat.succ_mul (d + 1)]; omega, a4, b1, bnd_s]
        exact c4 K0 g
    obtain ⟨h2, a1, a2, a3, a4⟩ := key (P 0 3) (Nat.le_refl _)
    rw [fillR_C] at a1
    unfold EM
    refine ⟨h2, a1, a2, a3, fun K0 g => ?_⟩
    rw [Nat.pow_succ, Nat.mul_comm]
    exact a4 K0 g
