/-! ===== MATCH: the class's side ===== -/
theorem CY_F {P : Pl} {A : Ab} {h h2 : HS} {S : List Nat} (R : CR P A h) (Y : WYr P h) (f : Fr S h h2) (hS : ∀ x, x ∈ [3, 4, 5, 6, 7, 8, 9, 10, 21, 31, 32, 33, 34] → x ∉ S) : CR P A h2 ∧ WYr P h2 := ⟨CR_fr R (f 3 (hS 3 (by decide))).1 (f 7 (hS 7 (by decide))).1 (f 8 (hS 8 (by decide))).1 (f 9 (hS 9 (by decide))).1 (f 10 (hS 10 (by decide))).1 (f 21 (hS 21 (by decide))).1 (f 4 (hS 4 (by decide))).2 (f 5 (hS 5 (by decide))).2 (f 6 (hS 6 (by decide))).2, WYr_fr Y (f 31 (hS 31 (by decide))).1 (f 32 (hS 32 (by decide))).1 (f 33 (hS 33 (by decide))).1 (f 34 (hS 34 (by decide))).1⟩
theorem MR_F {P : Pl} {A : Ab} {h h2 : HS} {S : List Nat} (R : MR P A h) (f : Fr S h h2) (hS : ∀ x, x ∈ [2, 5] → x ∉ S) : MR P A h2 := MR_fr R (f 2 (hS 2 (by decide))).1 (f 5 (hS 5 (by decide))).2
def valZ (P : Pl) (A : Ab) (k c : Nat) : Int := if A.1 1 c = 0 then (if safeC P A c 0 = true then ((P 3 c * nearC P A c (nrF P A c (A.1 5 k) (2 ^ P 0 4) - 1) / 1000 : Nat) : Int) - ((sm P 9 (nrF P A c (A.1 5 k) (2 ^ P 0 4) - 1) : Nat) : Int) else 0) else 0
theorem valZ_e {P : Pl} {A : Ab} {k c : Nat} : valI P A k c = zI (valZ P A k c) := by
  unfold valI valZ
  by_cases h1 : A.1 1 c = 0
  · rw [if_pos h1, if_pos h1]
    by_cases h2 : safeC P A c 0 = true
    · rw [if_pos h2, if_pos h2, ← zI_n, ← zI_n]
      exact (Int32.ofInt_sub _ _).symm
    · rw [if_neg h2, if_neg h2]
      rfl
  · rw [if_neg h1, if_neg h1]
    rfl
theorem valZ_rg {P : Pl} {A : Ab} (W : WFP P) (k c : Nat) : -120 ≤ valZ P A k c ∧ valZ P A k c ≤ 120 := by
  obtain ⟨wN, wNM, wM, wCo, w3, w4, w5, wC, wD, wK⟩ := id W
  unfold valZ
  split
  · split
    · next h2 =>
      have h64 := p64 w4
      have hn : nrF P A c (A.1 5 k) (2 ^ P 0 4) ≠ 0 := nrF_pos (by rw [ord_0 h2]; decide) h64.1
      have h3 := near_lt W (nr_safe (n := A.1 5 k) h64.2 hn)
      have h4 := sm_le W (f := 9) (Or.inr (Or.inr rfl)) (nrF P A c (A.1 5 k) (2 ^ P 0 4) - 1)
      have h5 := (wC c).2.2.2.2.1
      generalize nearC P A c (nrF P A c (A.1 5 k) (2 ^ P 0 4) - 1) = x at h3 ⊢
      generalize sm P 9 (nrF P A c (A.1 5 k) (2 ^ P 0 4) - 1) = y at h4 ⊢
      have h6 : P 3 c * x ≤ 99 * 1000 := Nat.mul_le_mul h5 (by omega)
      generalize P 3 c * x = z at h6 ⊢
      omega
    · omega
  · omega
def hsF (A : Ab) (k : Nat) : Bool := decide (A.1 6 k ≠ 0)
theorem C_fvL {P : Pl} {A : Ab} {F k : Nat} (hF : 70 ≤ F) (W : WF P A) (hk : k < P 0 5) : ∀ (j c : Nat) (h : HS), c + j = P 0 3 → CR P A h → WYr P h → ∃ h2, (∀ g, j < g → l_Mat_fillValues_0 F (nI k) g (nI c) h = some ((), h2)) ∧ (∀ x, c ≤ x → x < P 0 3 → h2.1 51 (k * 6 + x) = valI P A k x) ∧ (∀ i, i < k * 6 + c ∨ k * 6 + P 0 3 ≤ i → h2.1 51 i = h.1 51 i) ∧ Fr [35, 51] h h2 := by
  obtain ⟨⟨wN, wNM, wM, wCo, w3, w4, w5, wC, wD, wK⟩, wAc, wAk, wAw, wAf⟩ := id W
  intro j
  induction j with
  | zero =>
    intro c h hc R Y
    refine ⟨h, fun g hg => ?_, fun x h1 h2 => by omega, fun _ _ => rfl, Fr_rf⟩
    obtain ⟨g, rfl⟩ : ∃ z, g = z + 1 := ⟨g - 1, by omega⟩
    rw [l_Mat_fillValues_0, C_causes R.1, bnd_s, ite_leN (by omega) (by omega), if_pos (by omega)]
  | succ j ih =>
    intro c h hc R Y
    obtain ⟨f, e1⟩ := C_valueFor (F := F) (k := k) (c := c) hF W hk (by omega) R Y
    have f1 : Fr [35, 51] h (sI (st h 35 f) 51 (k * 6 + c) (valI P A k c)) := Fr_t (Fr_st (by decide)) (Fr_sI (by decide))
    obtain ⟨R2, Y2⟩ := CY_F R Y f1 (by decide)
    obtain ⟨h2, a1, a2, a3, a4⟩ := ih (c + 1) _ (by omega) R2 Y2
    refine ⟨h2, fun g hg => ?_, fun x h1 h3 => ?_, fun i hi => ?_, Fr_t f1 a4⟩
    · obtain ⟨g, rfl⟩ : ∃ z, g = z + 1 := ⟨g - 1, by omega⟩
      rw [l_Mat_fillValues_0, C_causes R.1, bnd_s, ite_leN (by omega) (by omega), if_neg (by omega), e1, bnd_s, nI_mul, nI_add, ifin (by omega) (by omega), nI_clamp (by omega), bl_e, bl_e, nI_add, a1 g (by omega)]
    · by_cases z : x = c
      · rw [z, a3 _ (Or.inl (by omega)), sI_e]
      · exact a2 x (by omega) h3
    · rw [a3 i (by omega), sI_n (by omega), st_o (by decide)]
theorem C_fill {P : Pl} {A : Ab} {F k : Nat} {h : HS} (hF : 70 ≤ F) (W : WF P A) (hk : k < P 0 5) (R : CR P A h) (Y : WYr P h) : ∃ h2, f_Mat_fillValues F (nI k) h = some ((), h2) ∧ (∀ x, x < P 0 3 → h2.1 51 (k * 6 + x) = valI P A k x) ∧ (∀ i, i < k * 6 → h2.1 51 i = h.1 51 i) ∧ Fr [35, 51] h h2 := by
  obtain ⟨⟨wN, wNM, wM, wCo, w3, w4, w5, wC, wD, wK⟩, wAc, wAk, wAw, wAf⟩ := id W
  obtain ⟨h2, a1, a2, a3, a4⟩ := C_fvL hF W hk (P 0 3) 0 h (by omega) R Y
  refine ⟨h2, ?_, fun x hx => a2 x (by omega) hx, fun i hi => a3 i (Or.inl (by omega)), a4⟩
  rw [f_Mat_fillValues, bl_e]
  exact a1 F (by omega)
theorem C_maL {P : Pl} {A : Ab} {F : Nat} (hF : 70 ≤ F) (W : WF P A) : ∀ (j k : Nat) (h : HS), k + j = 5 → CR P A h → WYr P h → ∃ h2, (∀ K g, j < g → l_Mat_matchAll_0 F K g (nI k) h = K h2) ∧ (∀ i, k ≤ i → i < 5 → h2.1 52 i = -1 ∧ h2.1 53 i = -1) ∧ (∀ i, i < k → h2.1 52 i = h.1 52 i ∧ h2.1 53 i = h.1 53 i) ∧ (∀ x c, k ≤ x → x < P 0 5 → c < P 0 3 → h2.1 51 (x * 6 + c) = valI P A x c) ∧ (∀ i, i < k * 6 → h2.1 51 i = h.1 51 i) ∧ Fr [35, 51, 52, 53] h h2 := by
  obtain ⟨⟨wN, wNM, wM, wCo, w3, w4, w5, wC, wD, wK⟩, wAc, wAk, wAw, wAf⟩ := id W
  intro j
  induction j with
  | zero =>
    intro k h hk R Y
    refine ⟨h, fun K g hg => ?_, fun i h1 h2 => by omega, fun _ _ => ⟨rfl, rfl⟩, fun x c h1 h2 h3 => by omega, fun _ _ => rfl, Fr_rf⟩
    obtain ⟨g, rfl⟩ : ∃ z, g = z + 1 := ⟨g - 1, by omega⟩
    rw [l_Mat_matchAll_0, ite_leN (by omega) (by omega), if_pos (by omega)]
  | succ j ih =>
    intro k h hk R Y
    have f1 : Fr [35, 51, 52, 53] h (sI (sI h 52 k (-1)) 53 k (-1)) := Fr_t (Fr_sI (by decide)) (Fr_sI (by decide))
    obtain ⟨R1, Y1⟩ := CY_F R Y f1 (by decide)
    have g1 : (sI (sI h 52 k (-1)) 53 k (-1)).1 52 k = -1 ∧ (sI (sI h 52 k (-1)) 53 k (-1)).1 53 k = -1 := ⟨by rw [sI_o (by decide), sI_e], sI_e⟩
    have g2 : ∀ i, i ≠ k → (sI (sI h 52 k (-1)) 53 k (-1)).1 52 i = h.1 52 i ∧ (sI (sI h 52 k (-1)) 53 k (-1)).1 53 i = h.1 53 i := fun i hi => ⟨by rw [sI_o (by decide), sI_n hi], by rw [sI_n hi, sI_o (by decide)]⟩
    have g3 : (sI (sI h 52 k (-1)) 53 k (-1)).1 51 = h.1 51 := by rw [sI_o (by decide), sI_o (by decide)]
    generalize hh : sI (sI h 52 k (-1)) 53 k (-1) = h1 at *
    have hL : ∀ K g, l_Mat_matchAll_0 F K (g + 1) (nI k) h = (if P 0 5 ≤ k then l_Mat_matchAll_0 F K g (nI (k + 1)) h1 else bnd (f_Mat_fillValues F (nI k) h1) (fun _ h9 => l_Mat_matchAll_0 F K g (nI (k + 1)) h9)) := fun K g => by
      rw [l_Mat_matchAll_0, ite_leN (by omega) (by omega), if_neg (by omega), ifin (by omega) (by omega), nI_clamp (by omega), bl_e, ifin (by omega) (by omega), bl_e, hh, C_clerks R1.1, bnd_s]
      dsimp only [bl]
      rw [ite_leN (by omega) (by omega), nI_add]
    by_cases z : P 0 5 ≤ k
    · obtain ⟨h2, a1, a2, a3, a4, a5, a6⟩ := ih (k + 1) h1 (by omega) R1 Y1
      refine ⟨h2, fun K g hg => ?_, fun i h3 h4 => ?_, fun i hi => ?_, fun x c h3 h4 h5 => by omega, fun i hi => ?_, Fr_t f1 a6⟩
      · obtain ⟨g, rfl⟩ : ∃ z, g = z + 1 := ⟨g - 1, by omega⟩
        rw [hL, if_pos z, a1 K g (by omega)]
      · by_cases e : i = k
        · rw [e, (a3 k (by omega)).1, (a3 k (by omega)).2]
          exact g1
        · exact a2 i (by omega) h4
      · rw [(a3 i (by omega)).1, (a3 i (by omega)).2]
        exact g2 i (by omega)
      · rw [a5 i (by omega), g3]
    · obtain ⟨h3, b1, b2, b3, b4⟩ := C_fill (F := F) (k := k) hF W (by omega) R1 Y1
      obtain ⟨R3, Y3⟩ := CY_F R1 Y1 b4 (by decide)
      obtain ⟨h2, a1, a2, a3, a4, a5, a6⟩ := ih (k + 1) h3 (by omega) R3 Y3
      have b52 := (b4 52 (by decide)).1
      have b53 := (b4 53 (by decide)).1
      refine ⟨h2, fun K g hg => ?_, fun i h4 h5 => ?_, fun i hi => ?_, fun x c h4 h5 h6 => ?_, fun i hi => ?_, Fr_t f1 (Fr_t (Fr_mo (by decide) b4) a6)⟩
      · obtain ⟨g, rfl⟩ : ∃ z, g = z + 1 := ⟨g - 1, by omega⟩
        rw [hL, if_neg z, b1, bnd_s, a1 K g (by omega)]
      · by_cases e : i = k
        · rw [e, (a3 k (by omega)).1, (a3 k (by omega)).2, b52, b53]
          exact g1
        · exact a2 i (by omega) h5
      · rw [(a3 i (by omega)).1, (a3 i (by omega)).2, b52, b53]
        exact g2 i (by omega)
      · by_cases e : x = k
        · rw [e, a5 _ (by omega)]
          exact b2 c h6
        · exact a4 x c (by omega) h5 h6
      · rw [a5 i (by omega), b3 i (by omega), g3]
def PS (p : Nat → Nat) (B : Mb) (h : HS) : Prop := (∀ i, i < 5 → h.1 52 i = pI (p i)) ∧ h.1 50 6 = zI B.1 ∧ ∀ i, i < 5 → h.1 53 i = pI (B.2 i)
theorem PS_up {p : Nat → Nat} {B : Mb} {h : HS} {k d : Nat} (q : PS p B h) : PS (up1 p k d) B (sI h 52 k (pI d)) := by
  refine ⟨fun i hi => ?_, by rw [sI_o (by decide)]; exact q.2.1, fun i hi => by rw [sI_o (by decide)]; exact q.2.2 i hi⟩
  by_cases e : i = k
  · rw [e, sI_e, up1_e]
  · rw [sI_n e, up1_n e]
    exact q.1 i hi
theorem up1_up1 {p : Nat → Nat} {k d e : Nat} : up1 (up1 p k d) k e = up1 p k e := by
  funext i
  unfold up1
  split <;> rfl
theorem up1_id {p : Nat → Nat} {k : Nat} (h : p k = 0) : up1 p k 0 = p := by
  funext i
  unfold up1
  split
  · next e => rw [e, h]
  · rfl
theorem C_pkL {P : Pl} {A : Ab} {F k u : Nat} {s : Int} {p : Nat → Nat} {rc : Int32 → Int32 → Int32 → HS → Option (Unit × HS)} {ec : Nat → Nat → Int → Mb → Mb} (W : WF P A) (hk : k < P 0 5) (hu : u < 64) (hs1 : s ≤ 120 * k) (hs2 : -(120 * (k : Int)) ≤ s)
  (hrc : ∀ c X h, c < P 0 3 → u.testBit c = false → 0 < valZ P A k c → CR P A h → (∀ x c, x < P 0 5 → c < P 0 3 → h.1 51 (x * 6 + c) = valI P A x c) → 0 ≤ X.1 → X.1 ≤ 600 → PS (up1 p k (c + 1)) X h → ∃ h2, rc (nI (k + 1)) (nI (u ||| 2 ^ c)) (zI (s + valZ P A k c)) h = some ((), h2) ∧ PS (up1 p k (c + 1)) (ec c (u ||| 2 ^ c) (s + valZ P A k c) X) h2 ∧ Fr [50, 52, 53] h h2)
  (hec : ∀ c w t X, t ≤ 120 * ((k : Int) + 1) → X.1 ≤ 600 → (ec c w t X).1 ≤ 600 ∧ X.1 ≤ (ec c w t X).1) : ∀ (j c : Nat) (X : Mb) (h : HS) (d : Nat), c + j = P 0 3 → CR P A h → (∀ x c, x < P 0 5 → c < P 0 3 → h.1 51 (x * 6 + c) = valI P A x c) → 0 ≤ X.1 → X.1 ≤ 600 → PS (up1 p k d) X h → fC (fun c B => if 0 < valZ P A k c ∧ u.testBit c = false then ec c (u ||| 2 ^ c) (s + valZ P A k c) B else B) c = fC (fun c B => if 0 < valZ P A k c ∧ u.testBit c = false then ec c (u ||| 2 ^ c) (s + valZ P A k c) B else B) c → ∀ B0, fC (fun c B => if 0 < valZ P A k c ∧ u.testBit c = false then ec c (u ||| 2 ^ c) (s + valZ P A k c) B else B) c B0 = X → ∃ h2 d2, (∀ K g, j < g → l_Mat_pickFrom_0 F rc (nI k) (nI u) (zI s) K g (nI c) h = K h2) ∧ PS (up1 p k d2) (fC (fun c B => if 0 < valZ P A k c ∧ u.testBit c = false then ec c (u ||| 2 ^ c) (s + valZ P A k c) B else B) (P 0 3) B0) h2 ∧ Fr [50, 52, 53] h h2 := by
  obtain ⟨⟨wN, wNM, wM, wCo, w3, w4, w5, wC, wD, wK⟩, wAc, wAk, wAw, wAf⟩ := id W
  intro j
  induction j with
  | zero =>
    intro c X h d hc R hv h0 h6 q _ B0 hB
    refine ⟨h, d, fun K g hg => ?_, by rw [show P 0 3 = c by omega, hB]; exact q, Fr_rf⟩
    obtain ⟨g, rfl⟩ : ∃ z, g = z + 1 := ⟨g - 1, by omega⟩
    rw [l_Mat_pickFrom_0, C_causes R.1, bnd_s, ite_leN (by omega) (by omega), if_pos (by omega)]
  | succ j ih =>
    intro c X h d hc R hv h0 h6 q _ B0 hB
    have hz := valZ_rg W.1 (A := A) k c
    have z0 : (0 : Int32) = zI 0 := rfl
    by_cases e : 0 < valZ P A k c ∧ u.testBit c = false
    · have q1 : PS (up1 p k (c + 1)) X (sI h 52 k (nI c)) := by
        have := PS_up (k := k) (d := c + 1) q
        rw [up1_up1, pI_s] at this
        exact this
      have f1 : Fr [50, 52, 53] h (sI h 52 k (nI c)) := Fr_sI (by decide)
      have R1 : CR P A (sI h 52 k (nI c)) := by rw [sI_st]; exact CR_st (by omega) (by omega) R
      obtain ⟨h1, a1, a2, a3⟩ := hrc c X _ (by omega) e.2 e.1 R1 (fun x y hx hy => by rw [sI_o (by decide)]; exact hv x y hx hy) h0 h6 q1
      have hX := hec c (u ||| 2 ^ c) (s + valZ P A k c) X (by omega) h6
      have R2 : CR P A h1 := CR_fr R1 (a3 3 (by decide)).1 (a3 7 (by decide)).1 (a3 8 (by decide)).1 (a3 9 (by decide)).1 (a3 10 (by decide)).1 (a3 21 (by decide)).1 (a3 4 (by decide)).2 (a3 5 (by decide)).2 (a3 6 (by decide)).2
      obtain ⟨h2, d2, b1, b2, b3⟩ := ih (c + 1) _ h1 (c + 1) (by omega) R2 (fun x y hx hy => by rw [(a3 51 (by decide)).1, sI_o (by decide)]; exact hv x y hx hy) (by omega) hX.1 a2 rfl B0 (by rw [fC, hB]; exact if_pos e)
      refine ⟨h2, d2, fun K g hg => ?_, b2, Fr_t f1 (Fr_t a3 b3)⟩
      obtain ⟨g, rfl⟩ : ∃ z, g = z + 1 := ⟨g - 1, by omega⟩
      rw [l_Mat_pickFrom_0, C_causes R.1, bnd_s, ite_leN (by omega) (by omega), if_neg (by omega), nI_mul, nI_add, ifin (by omega) (by omega), nI_clamp (by omega), hv k c hk (by omega), valZ_e]
      dsimp only [bl]
      rw [z0, zI_le (by omega) (by omega) (by omega) (by omega), if_pos e.1, bit_sh u hu c (by omega), ← z0, ite_b0, if_neg (by rw [e.2]; decide), ifin (by omega) (by omega), nI_clamp (by omega), nI_add, bit_or u hu c (by omega), zI_add, a1, bnd_s, nI_add, b1 K g (by omega)]
    · obtain ⟨h2, d2, b1, b2, b3⟩ := ih (c + 1) X h d (by omega) R hv h0 h6 q rfl B0 (by rw [fC, hB]; exact if_neg e)
      refine ⟨h2, d2, fun K g hg => ?_, b2, b3⟩
      obtain ⟨g, rfl⟩ : ∃ z, g = z + 1 := ⟨g - 1, by omega⟩
      rw [l_Mat_pickFrom_0, C_causes R.1, bnd_s, ite_leN (by omega) (by omega), if_neg (by omega), nI_mul, nI_add, ifin (by omega) (by omega), nI_clamp (by omega), hv k c hk (by omega), valZ_e]
      dsimp only [bl]
      rw [z0, zI_le (by omega) (by omega) (by omega) (by omega), bit_sh u hu c (by omega), ← z0, ite_b0, nI_add]
      by_cases e1 : 0 < valZ P A k c
      · have e2 : u.testBit c = true := by
          cases y : u.testBit c
          · exact absurd ⟨e1, y⟩ e
          · rfl
        rw [if_pos e1, if_pos e2, b1 K g (by omega)]
      · rw [if_neg e1, b1 K g (by omega)]
theorem C_pick {P : Pl} {A : Ab} {F : Nat} (hF : 70 ≤ F) (W : WF P A) : ∀ (j k g : Nat) (p : Nat → Nat) (u : Nat) (s : Int) (B : Mb) (h : HS), k + j = P 0 5 → j < g → p k = 0 → (∀ i, k ≤ i → p i = 0) → CR P A h → (∀ x c, x < P 0 5 → c < P 0 3 → h.1 51 (x * 6 + c) = valI P A x c) → u < 64 → s ≤ 120 * k → -(120 * (k : Int)) ≤ s → 0 ≤ B.1 → B.1 ≤ 600 → PS p B h → ∃ h2, f_Mat_pickFrom F g (nI k) (nI u) (zI s) h = some ((), h2) ∧ PS p (EC (hsF A) (valZ P A) (P 0 3) j k p u s B) h2 ∧ Fr [50, 52, 53] h h2 := by
  obtain ⟨⟨wN, wNM, wM, wCo, w3, w4, w5, wC, wD, wK⟩, wAc, wAk, wAw, wAf⟩ := id W
  intro j
  induction j with
  | zero =>
    intro k g p u s B h hk hg hp0 hp R hv hu hs1 hs2 hB0 hB6 q
    obtain ⟨g, rfl⟩ : ∃ z, g = z + 1 := ⟨g - 1, by omega⟩
    have e : f_Mat_pickFrom F (g + 1) (nI k) (nI u) (zI s) h = bnd (f_Mat_keepIfMore (zI s) h) (fun _ h5 => some ((), h5)) := by
      rw [f_Mat_pickFrom, C_clerks R.1, bnd_s]
      dsimp only [bl]
      rw [ite_leN (by omega) (by omega), if_pos (by omega)]
    rw [e, f_Mat_keepIfMore, q.2.1, zI_le (by omega) (by omega) (by omega) (by omega), EC]
    by_cases z : B.1 < s
    · rw [if_pos z, if_pos z, bl_e, bl_e, bnd_s, cI_st]
      refine ⟨_, rfl, ⟨fun i hi => ?_, ?_, fun i hi => ?_⟩, Fr_t (Fr_sI (by decide)) (Fr_st (by decide))⟩
      · rw [st_o (by decide), sI_o (by decide)]
        exact q.1 i hi
      · rw [st_o (by decide), sI_e]
      · rw [st_e, cpy_in hi, sI_o (by decide)]
        exact q.1 i hi
    · rw [if_neg z, if_neg z, bnd_s]
      exact ⟨h, rfl, q, Fr_rf⟩
  | succ j ih =>
    intro k g p u s B h hk hg hp0 hp R hv hu hs1 hs2 hB0 hB6 q
    obtain ⟨g, rfl⟩ : ∃ z, g = z + 1 := ⟨g - 1, by omega⟩
    have kk : k < P 0 5 := by omega
    have q1 : PS (up1 p k 0) B (sI h 52 k (-1)) := by
      have := PS_up (k := k) (d := 0) q
      rw [pI_0] at this
      exact this
    have R1 : CR P A (sI h 52 k (-1)) := by rw [sI_st]; exact CR_st (by omega) (by omega) R
    obtain ⟨h1, a1, a2, a3⟩ := ih (k + 1) g (up1 p k 0) u s B _ (by omega) (by omega) (by rw [up1_n (by omega)]; exact hp _ (by omega)) (fun i hi => by rw [up1_n (by omega)]; exact hp _ (by omega)) R1 (fun x y hx hy => by rw [sI_o (by decide)]; exact hv x y hx hy) hu (by omega) (by omega) hB0 hB6 q1
    have f1 : Fr [50, 52, 53] h (sI h 52 k (-1)) := Fr_sI (by decide)
    have R2 : CR P A h1 := CR_fr R1 (a3 3 (by decide)).1 (a3 7 (by decide)).1 (a3 8 (by decide)).1 (a3 9 (by decide)).1 (a3 10 (by decide)).1 (a3 21 (by decide)).1 (a3 4 (by decide)).2 (a3 5 (by decide)).2 (a3 6 (by decide)).2
    have hE := EC_A (hs := hsF A) (V := valZ P A) (C := P 0 3) j (k + 1) (up1 p k 0) u s B
    have hL := EC_le (hs := hsF A) (V := valZ P A) (C := P 0 3) (fun k c => (valZ_rg W.1 k c).2) j (k + 1) (up1 p k 0) u s B (by omega) (by omega) hB6
    have e : f_Mat_pickFrom F (g + 1) (nI k) (nI u) (zI s) h = (if A.1 6 k = 0 then l_Mat_pickFrom_0 F (f_Mat_pickFrom F g) (nI k) (nI u) (zI s) (fun h19 => some ((), sI h19 52 k (-1))) F (nI 0) h1 else some ((), h1)) := by
      rw [f_Mat_pickFrom, C_clerks R.1, bnd_s]
      dsimp only [bl]
      rw [ite_leN (by omega) (by omega), if_neg (by omega), ite_ltN (by omega) (by omega), if_pos (by omega), ifin (by omega) (by omega), nI_clamp (by omega), nI_add, a1, bnd_s, C_isFree W R2 kk, bnd_s, ite_b0]
      by_cases z : A.1 6 k = 0
      · rw [if_pos z, if_pos (decide_eq_true z)]
        congr 1
        funext h19
        rw [ifin (by omega) (by omega)]
      · rw [if_neg z, if_neg (by simpa using z)]
    rw [e, EC]
    by_cases z : A.1 6 k = 0
    · rw [if_pos z, if_neg (show ¬ hsF A k = true by unfold hsF; simpa using z)]
      obtain ⟨h2, d2, b1, b2, b3⟩ := C_pkL (F := F) (k := k) (u := u) (s := s) (p := p) (rc := f_Mat_pickFrom F g) (ec := fun c w t X => EC (hsF A) (valZ P A) (P 0 3) j (k + 1) (up1 p k (c + 1)) w t X) W kk hu hs1 hs2 (fun c X h' hc hu' hz R' hv' h0' h6' q' => by
        have hz2 := valZ_rg W.1 (A := A) k c
        exact ih (k + 1) g (up1 p k (c + 1)) (u ||| 2 ^ c) (s + valZ P A k c) X h' (by omega) (by omega) (by rw [up1_n (by omega)]; exact hp _ (by omega)) (fun i hi => by rw [up1_n (by omega)]; exact hp _ (by omega)) R' hv' (or_lt (n := 6) hu (by omega)) (by omega) (by omega) h0' h6' q') (fun c w t X ht hX => ⟨EC_le (fun k c => (valZ_rg W.1 k c).2) _ _ _ _ _ _ (by omega) (by omega) hX, (EC_A _ _ _ _ _ _).1⟩) (P 0 3) 0 _ h1 0 (by omega) R2 (fun x y hx hy => by rw [(a3 51 (by decide)).1, sI_o (by decide)]; exact hv x y hx hy) (Int.le_trans hB0 hE.1) hL a2 rfl _ rfl
      rw [b1 _ F (by omega)]
      refine ⟨_, rfl, ?_, Fr_t f1 (Fr_t a3 (Fr_t b3 (Fr_sI (by decide))))⟩
      have := PS_up (k := k) (d := 0) b2
      rw [up1_up1, pI_0, up1_id hp0] at this
      rw [up1_id hp0]
      exact this
    · rw [if_neg z, if_pos (show hsF A k = true by unfold hsF; simpa using z)]
      rw [up1_id hp0] at a2 ⊢
      exact ⟨h1, rfl, a2, Fr_t f1 a3⟩
