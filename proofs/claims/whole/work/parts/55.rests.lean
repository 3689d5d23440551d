/-! ===== rests ===== -/
theorem M_rs0L {P : Pl} {A : Ab} {F : Nat} {x1 : Int32} (hF : 70 ≤ F) (W : WF P A) (hk : 0 < P 0 5) : ∀ (j c : Nat) (h : HS), c + j = P 0 3 → MR P A h → ∃ h2, (∀ K g, j < g → l_M_rests_0 F x1 K g (nI c) h = K h2) ∧ (∀ x, c ≤ x → x < P 0 3 → h2.1 10 x = valI P A 0 x) ∧ (∀ i, i < c → h2.1 10 i = h.1 10 i) ∧ Fr [9, 10] h h2 := by
  obtain ⟨⟨wN, wNM, wM, wCo, w3, w4, w5, wC, wD, wK⟩, wAc, wAk, wAw, wAf⟩ := id W
  intro j
  induction j with
  | zero =>
    intro c h hc R
    refine ⟨h, fun K g hg => ?_, fun x h1 h2 => by omega, fun _ _ => rfl, Fr_rf⟩
    obtain ⟨g, rfl⟩ : ∃ z, g = z + 1 := ⟨g - 1, by omega⟩
    rw [l_M_rests_0, ifin (by omega) (by omega), nI_clamp (by omega), m_0 R, ite_leN (by omega) (by omega), if_pos (by omega)]
  | succ j ih =>
    intro c h hc R
    obtain ⟨f, e1⟩ := M_valueOf (F := F) (k := 0) (c := c) hF W hk (by omega) R
    have f1 : Fr [9, 10] h (sI (st h 9 f) 10 c (valI P A 0 c)) := Fr_t (Fr_st (by decide)) (Fr_sI (by decide))
    have R2 := MR_F R f1 (by decide)
    obtain ⟨h2, a1, a2, a3, a4⟩ := ih (c + 1) _ (by omega) R2
    refine ⟨h2, fun K g hg => ?_, fun x h1 h3 => ?_, fun i hi => ?_, Fr_t f1 a4⟩
    · obtain ⟨g, rfl⟩ : ∃ z, g = z + 1 := ⟨g - 1, by omega⟩
      rw [l_M_rests_0, ifin (by omega) (by omega), nI_clamp (by omega), m_0 R, ite_leN (by omega) (by omega), if_neg (by omega), e1, bnd_s, ifin (by omega) (by omega), nI_clamp (by omega), bl_e, bl_e, nI_add, a1 K g (by omega)]
    · by_cases z : x = c
      · rw [z, a3 _ (by omega), sI_e]
      · exact a2 x (by omega) h3
    · rw [a3 i (by omega), sI_n (by omega), st_o (by decide)]
def osF (P : Pl) (A : Ab) (c : Nat) : Bool := decide (A.1 1 c = 0) && safeC P A c 0
def gnF (P : Pl) (A : Ab) (x o : Nat) : Int32 := if x = o then valI P A 0 x / nI 2 else valI P A 0 x
theorem C_gain {P : Pl} {A : Ab} {h : HS} {x o : Nat} (hv : h.1 51 x = valI P A 0 x) (hx : x < 6) (ho : o < 6) : f_Mat_gainOf (nI x) (nI o) h = some (gnF P A x o, h) := by
  rw [f_Mat_gainOf, ite_eqN (by omega) (by omega), ifin (by omega) (by omega), ifin (by omega) (by omega), nI_clamp (by omega), hv, if_pos (show ¬ nI 2 = 0 by decide), gnF]
  split <;> rfl
theorem M_shared {P : Pl} {A : Ab} {h : HS} {x o : Nat} (hv : h.1 10 x = valI P A 0 x) (hx : x < 6) (ho : o < 6) : f_M_shared (nI x) (nI o) h = some (gnF P A x o, h) := by
  rw [f_M_shared, ite_eqN (by omega) (by omega), ifin (by omega) (by omega), ifin (by omega) (by omega), nI_clamp (by omega), hv, if_pos (show ¬ nI 2 = 0 by decide), gnF]
  split <;> rfl
theorem M_canRival {P : Pl} {A : Ab} {F c : Nat} {h : HS} (hF : 70 ≤ F) (W : WF P A) (R : MR P A h) (hc : c < P 0 3) : f_M_canRival F (nI c) h = some (bI (osF P A c), h) := by
  obtain ⟨⟨wN, wNM, wM, wCo, w3, w4, w5, wC, wD, wK⟩, wAc, wAk, wAw, wAf⟩ := id W
  have h64 := p64 w4
  have hs := (wAc c hc).1
  rw [f_M_canRival, nI_add, ifin (by omega) (by omega), nI_clamp (by omega), m_state R hc, ite_eq0 (by omega), M_isSafe W (by omega) R hc h64.1, bnd_s, ite_b0, osF]
  by_cases e : A.1 1 c = 0
  · rw [if_pos e, decide_eq_true e, Bool.true_and]
    by_cases e2 : safeC P A c 0 = true
    · rw [if_pos e2, e2, rZ1]
      rfl
    · rw [if_neg e2, show safeC P A c 0 = false by simpa using e2, rZ0]
      rfl
  · rw [if_neg e, decide_eq_false e, Bool.false_and, rZ0]
    rfl
def bsF (P : Pl) (A : Ab) (x o : Nat) : Nat → Nat → Bool
  | 0, _ => true
  | j + 1, c => if osF P A c = true then (if gnF P A c o ≤ gnF P A x o then bsF P A x o j (c + 1) else false) else bsF P A x o j (c + 1)
theorem C_bsL {P : Pl} {A : Ab} {F x o : Nat} {h : HS} (W : WF P A) (R : CR P A h) (hv : ∀ x, x < P 0 3 → h.1 51 x = valI P A 0 x) (hx : x < P 0 3) (ho : o < P 0 3) : ∀ (j c : Nat), c + j = P 0 3 → ∀ g, j < g → l_Mat_isBestAgainst_0 F (nI x) (nI o) g (nI c) h = some (bI (bsF P A x o j c), h) := by
  obtain ⟨⟨wN, wNM, wM, wCo, w3, w4, w5, wC, wD, wK⟩, wAc, wAk, wAw, wAf⟩ := id W
  intro j
  induction j with
  | zero =>
    intro c hc g hg
    obtain ⟨g, rfl⟩ : ∃ z, g = z + 1 := ⟨g - 1, by omega⟩
    rw [l_Mat_isBestAgainst_0, C_causes R.1, bnd_s, ite_leN (by omega) (by omega), if_pos (by omega), rZ1]
    rfl
  | succ j ih =>
    intro c hc g hg
    obtain ⟨g, rfl⟩ : ∃ z, g = z + 1 := ⟨g - 1, by omega⟩
    rw [l_Mat_isBestAgainst_0, C_causes R.1, bnd_s, ite_leN (by omega) (by omega), if_neg (by omega), C_isOpenAndSafe W R (by omega), bnd_s, bsF]
    dsimp only [bl]
    rw [ite_b0, C_gain (hv c (by omega)) (by omega) (by omega), bnd_s, C_gain (hv x (by omega)) (by omega) (by omega), bnd_s, nI_add, ih (c + 1) (by omega) g (by omega)]
    show (if osF P A c = true then _ else _) = _
    by_cases e : osF P A c = true
    · rw [if_pos e, if_pos e]
      by_cases e2 : gnF P A c o ≤ gnF P A x o
      · rw [if_pos e2, if_pos e2]
      · rw [if_neg e2, if_neg e2, rZ0]
        rfl
    · rw [if_neg e, if_neg e]
theorem M_bsL {P : Pl} {A : Ab} {F x o : Nat} {h : HS} (hF : 70 ≤ F) (W : WF P A) (R : MR P A h) (hv : ∀ x, x < P 0 3 → h.1 10 x = valI P A 0 x) (hx : x < P 0 3) (ho : o < P 0 3) : ∀ (j c : Nat), c + j = P 0 3 → ∀ g, j < g → l_M_isBestAgainst_0 F (nI x) (nI o) g (nI c) h = some (bI (bsF P A x o j c), h) := by
  obtain ⟨⟨wN, wNM, wM, wCo, w3, w4, w5, wC, wD, wK⟩, wAc, wAk, wAw, wAf⟩ := id W
  intro j
  induction j with
  | zero =>
    intro c hc g hg
    obtain ⟨g, rfl⟩ : ∃ z, g = z + 1 := ⟨g - 1, by omega⟩
    rw [l_M_isBestAgainst_0, ifin (by omega) (by omega), nI_clamp (by omega), m_0 R, ite_leN (by omega) (by omega), if_pos (by omega), rZ1]
    rfl
  | succ j ih =>
    intro c hc g hg
    obtain ⟨g, rfl⟩ : ∃ z, g = z + 1 := ⟨g - 1, by omega⟩
    rw [l_M_isBestAgainst_0, ifin (by omega) (by omega), nI_clamp (by omega), m_0 R, ite_leN (by omega) (by omega), if_neg (by omega), M_canRival hF W R (by omega), bnd_s, bsF]
    dsimp only [bl]
    rw [ite_b0, M_shared (hv c (by omega)) (by omega) (by omega), bnd_s, M_shared (hv x (by omega)) (by omega) (by omega), bnd_s, nI_add, ih (c + 1) (by omega) g (by omega)]
    by_cases e : osF P A c = true
    · rw [if_pos e, if_pos e]
      by_cases e2 : gnF P A c o ≤ gnF P A x o
      · rw [if_pos e2, if_pos e2]
      · rw [if_neg e2, if_neg e2, rZ0]
        rfl
    · rw [if_neg e, if_neg e]
def bsT (P : Pl) (A : Ab) (x o : Nat) : Bool := bsF P A x o (P 0 3) 0
theorem C_best1 {P : Pl} {A : Ab} {F x o : Nat} {h : HS} (hF : 70 ≤ F) (W : WF P A) (R : CR P A h) (hv : ∀ x, x < P 0 3 → h.1 51 x = valI P A 0 x) (hx : x < P 0 3) (ho : o < P 0 3) : f_Mat_isBestAgainst F (nI x) (nI o) h = some (bI (bsT P A x o), h) := by
  obtain ⟨⟨wN, wNM, wM, wCo, w3, w4, w5, wC, wD, wK⟩, wAc, wAk, wAw, wAf⟩ := id W
  rw [f_Mat_isBestAgainst, bl_e]
  exact C_bsL W R hv hx ho (P 0 3) 0 (by omega) F (by omega)
theorem M_best1 {P : Pl} {A : Ab} {F x o : Nat} {h : HS} (hF : 70 ≤ F) (W : WF P A) (R : MR P A h) (hv : ∀ x, x < P 0 3 → h.1 10 x = valI P A 0 x) (hx : x < P 0 3) (ho : o < P 0 3) : f_M_isBestAgainst F (nI x) (nI o) h = some (bI (bsT P A x o), h) := by
  obtain ⟨⟨wN, wNM, wM, wCo, w3, w4, w5, wC, wD, wK⟩, wAc, wAk, wAw, wAf⟩ := id W
  rw [f_M_isBestAgainst, bl_e]
  exact M_bsL hF W R hv hx ho (P 0 3) 0 (by omega) F (by omega)
def rsT (P : Pl) (A : Ab) (a b : Nat) : Bool := osF P A a && osF P A b && bsT P A a b && bsT P A b a
theorem C_atRest {P : Pl} {A : Ab} {F a b : Nat} {h : HS} (hF : 70 ≤ F) (W : WF P A) (R : CR P A h) (hv : ∀ x, x < P 0 3 → h.1 51 x = valI P A 0 x) (hx : a < P 0 3) (ho : b < P 0 3) : f_Mat_isAtRest F (nI a) (nI b) h = some (bI (rsT P A a b), h) := by
  rw [f_Mat_isAtRest, C_isOpenAndSafe W R hx, bnd_s, ite_b0, C_isOpenAndSafe W R ho, bnd_s, ite_b0, C_best1 hF W R hv hx ho, bnd_s, ite_b0, C_best1 hF W R hv ho hx, bnd_s, ite_b0, rZ0, rZ1]
  show (if osF P A a = true then (if osF P A b = true then _ else _) else _) = _
  unfold rsT
  cases osF P A a <;> cases osF P A b <;> cases bsT P A a b <;> cases bsT P A b a <;> rfl
theorem C_prL1 {P : Pl} {A : Ab} {F a : Nat} {hc hm : HS} {x1 : Int32} (hF : 70 ≤ F) (W : WF P A) (R : CR P A hc) (M : MR P A hm) (hv : ∀ x, x < P 0 3 → hc.1 51 x = valI P A 0 x) (hw : ∀ x, x < P 0 3 → hm.1 10 x = valI P A 0 x) (ha : a < P 0 3) : ∀ (j b n : Nat), b + j = P 0 3 → ∃ r : Sum Nat Nat, (∀ K0 K1 g, j < g → l_Mat_pairAtRest_1 F x1 (nI a) K0 K1 g (nI n) (nI b) hc = Sum.elim (fun n => K0 (nI n) hc) (fun b => K1 (nI b) hc) r) ∧ (∀ K0 K1 g, j < g → l_M_rests_2 F x1 (nI a) K0 K1 g (nI n) (nI b) hm = Sum.elim (fun n => K0 (nI n) hm) (fun b => K1 (nI b) hm) r) := by
  obtain ⟨⟨wN, wNM, wM, wCo, w3, w4, w5, wC, wD, wK⟩, wAc, wAk, wAw, wAf⟩ := id W
  intro j
  induction j with
  | zero =>
    intro b n hb
    refine ⟨.inl n, fun K0 K1 g hg => ?_, fun K0 K1 g hg => ?_⟩
    · obtain ⟨g, rfl⟩ : ∃ z, g = z + 1 := ⟨g - 1, by omega⟩
      rw [l_Mat_pairAtRest_1, C_causes R.1, bnd_s, ite_leN (by omega) (by omega), if_pos (by omega)]
      rfl
    · obtain ⟨g, rfl⟩ : ∃ z, g = z + 1 := ⟨g - 1, by omega⟩
      rw [l_M_rests_2, ifin (by omega) (by omega), nI_clamp (by omega), m_0 M, ite_leN (by omega) (by omega), if_pos (by omega)]
      rfl
  | succ j ih =>
    intro b n hb
    have eC : ∀ K0 K1 g, l_Mat_pairAtRest_1 F x1 (nI a) K0 K1 (g + 1) (nI n) (nI b) hc = if rsT P A a b = true then (if nI n = x1 then K1 (nI b) hc else l_Mat_pairAtRest_1 F x1 (nI a) K0 K1 g (nI (n + 1)) (nI (b + 1)) hc) else l_Mat_pairAtRest_1 F x1 (nI a) K0 K1 g (nI n) (nI (b + 1)) hc := fun K0 K1 g => by
      rw [l_Mat_pairAtRest_1, C_causes R.1, bnd_s, ite_leN (by omega) (by omega), if_neg (by omega), C_atRest hF W R hv ha (by omega), bnd_s]
      dsimp only [bl]
      rw [ite_b0, nI_add, nI_add]
    have eM : ∀ K0 K1 g, l_M_rests_2 F x1 (nI a) K0 K1 (g + 1) (nI n) (nI b) hm = if rsT P A a b = true then (if nI n = x1 then K1 (nI b) hm else l_M_rests_2 F x1 (nI a) K0 K1 g (nI (n + 1)) (nI (b + 1)) hm) else l_M_rests_2 F x1 (nI a) K0 K1 g (nI n) (nI (b + 1)) hm := fun K0 K1 g => by
      rw [l_M_rests_2, ifin (by omega) (by omega), nI_clamp (by omega), m_0 M, ite_leN (by omega) (by omega), if_neg (by omega), M_canRival hF W M ha, bnd_s]
      dsimp only [bl]
      rw [ite_b0, M_canRival hF W M (show b < P 0 3 by omega), bnd_s, ite_b0, M_best1 hF W M hw ha (by omega), bnd_s, ite_b0, M_best1 hF W M hw (by omega) ha, bnd_s, ite_b0, nI_add, nI_add]
      unfold rsT
      cases osF P A a <;> cases osF P A b <;> cases bsT P A a b <;> cases bsT P A b a <;> rfl
    by_cases z : rsT P A a b = true
    · by_cases y : nI n = x1
      · refine ⟨.inr b, fun K0 K1 g hg => ?_, fun K0 K1 g hg => ?_⟩
        · obtain ⟨g, rfl⟩ : ∃ z, g = z + 1 := ⟨g - 1, by omega⟩
          rw [eC, if_pos z, if_pos y]
          rfl
        · obtain ⟨g, rfl⟩ : ∃ z, g = z + 1 := ⟨g - 1, by omega⟩
          rw [eM, if_pos z, if_pos y]
          rfl
      · obtain ⟨r, h1, h2⟩ := ih (b + 1) (n + 1) (by omega)
        refine ⟨r, fun K0 K1 g hg => ?_, fun K0 K1 g hg => ?_⟩
        · obtain ⟨g, rfl⟩ : ∃ z, g = z + 1 := ⟨g - 1, by omega⟩
          rw [eC, if_pos z, if_neg y, h1 K0 K1 g (by omega)]
        · obtain ⟨g, rfl⟩ : ∃ z, g = z + 1 := ⟨g - 1, by omega⟩
          rw [eM, if_pos z, if_neg y, h2 K0 K1 g (by omega)]
    · obtain ⟨r, h1, h2⟩ := ih (b + 1) n (by omega)
      refine ⟨r, fun K0 K1 g hg => ?_, fun K0 K1 g hg => ?_⟩
      · obtain ⟨g, rfl⟩ : ∃ z, g = z + 1 := ⟨g - 1, by omega⟩
        rw [eC, if_neg z, h1 K0 K1 g (by omega)]
      · obtain ⟨g, rfl⟩ : ∃ z, g = z + 1 := ⟨g - 1, by omega⟩
        rw [eM, if_neg z, h2 K0 K1 g (by omega)]
theorem C_prL0 {P : Pl} {A : Ab} {F : Nat} {hc hm : HS} {x1 : Int32} (hF : 70 ≤ F) (W : WF P A) (R : CR P A hc) (M : MR P A hm) (hv : ∀ x, x < P 0 3 → hc.1 51 x = valI P A 0 x) (hw : ∀ x, x < P 0 3 → hm.1 10 x = valI P A 0 x) : ∀ (j a n : Nat), a + j = P 0 3 → ∃ r : Sum Nat (Nat × Nat), (∀ K0 K1 g, j < g → l_Mat_pairAtRest_0 F x1 K0 K1 g (nI n) (nI a) hc = Sum.elim (fun n => K0 (nI n) hc) (fun z => K1 (nI z.1) (nI z.2) hc) r) ∧ (∀ K0 K1 g, j < g → l_M_rests_1 F x1 K0 K1 g (nI n) (nI a) hm = Sum.elim (fun n => K0 (nI n) hm) (fun z => K1 (nI z.1) (nI z.2) hm) r) := by
  obtain ⟨⟨wN, wNM, wM, wCo, w3, w4, w5, wC, wD, wK⟩, wAc, wAk, wAw, wAf⟩ := id W
  intro j
  induction j with
  | zero =>
    intro a n ha
    refine ⟨.inl n, fun K0 K1 g hg => ?_, fun K0 K1 g hg => ?_⟩
    · obtain ⟨g, rfl⟩ : ∃ z, g = z + 1 := ⟨g - 1, by omega⟩
      rw [l_Mat_pairAtRest_0, C_causes R.1, bnd_s, ite_leN (by omega) (by omega), if_pos (by omega)]
      rfl
    · obtain ⟨g, rfl⟩ : ∃ z, g = z + 1 := ⟨g - 1, by omega⟩
      rw [l_M_rests_1, ifin (by omega) (by omega), nI_clamp (by omega), m_0 M, ite_leN (by omega) (by omega), if_pos (by omega)]
      rfl
  | succ j ih =>
    intro a n ha
    obtain ⟨r, h1, h2⟩ := C_prL1 (x1 := x1) hF W R M hv hw (show a < P 0 3 by omega) (P 0 3) 0 n (by omega)
    have eC : ∀ K0 K1 g, l_Mat_pairAtRest_0 F x1 K0 K1 (g + 1) (nI n) (nI a) hc = Sum.elim (fun n => l_Mat_pairAtRest_0 F x1 K0 K1 g (nI n) (nI (a + 1)) hc) (fun b => K1 (nI a) (nI b) hc) r := fun K0 K1 g => by
      rw [l_Mat_pairAtRest_0, C_causes R.1, bnd_s, ite_leN (by omega) (by omega), if_neg (by omega), bl_e, h1 _ _ F (by omega)]
      cases r <;> simp only [Sum.elim_inl, Sum.elim_inr, bl_e, nI_add]
    have eM : ∀ K0 K1 g, l_M_rests_1 F x1 K0 K1 (g + 1) (nI n) (nI a) hm = Sum.elim (fun n => l_M_rests_1 F x1 K0 K1 g (nI n) (nI (a + 1)) hm) (fun b => K1 (nI a) (nI b) hm) r := fun K0 K1 g => by
      rw [l_M_rests_1, ifin (by omega) (by omega), nI_clamp (by omega), m_0 M, ite_leN (by omega) (by omega), if_neg (by omega), bl_e, h2 _ _ F (by omega)]
      cases r <;> simp only [Sum.elim_inl, Sum.elim_inr, bl_e, nI_add]
    cases r with
    | inl n2 =>
      obtain ⟨r, k1, k2⟩ := ih (a + 1) n2 (by omega)
      refine ⟨r, fun K0 K1 g hg => ?_, fun K0 K1 g hg => ?_⟩
      · obtain ⟨g, rfl⟩ : ∃ z, g = z + 1 := ⟨g - 1, by omega⟩
        rw [eC]
        exact k1 K0 K1 g (by omega)
      · obtain ⟨g, rfl⟩ : ∃ z, g = z + 1 := ⟨g - 1, by omega⟩
        rw [eM]
        exact k2 K0 K1 g (by omega)
    | inr b =>
      refine ⟨.inr (a, b), fun K0 K1 g hg => ?_, fun K0 K1 g hg => ?_⟩
      · obtain ⟨g, rfl⟩ : ∃ z, g = z + 1 := ⟨g - 1, by omega⟩
        rw [eC]
        rfl
      · obtain ⟨g, rfl⟩ : ∃ z, g = z + 1 := ⟨g - 1, by omega⟩
        rw [eM]
        rfl
theorem S_rests {F : Nat} (hF : 20000 ≤ F) (a : Int32) : Sim (f_LC_rests F a) (f_M_rests F a) := by
  intro P A hc hm q0
  have q := Rel_th (v := nI 0) q0
  obtain ⟨c, m, W, Y, -⟩ := id q
  obtain ⟨⟨wN, wNM, wM, wCo, w3, w4, w5, wC, wD, wK⟩, wAc, wAk, wAw, wAf⟩ := id W
  rw [f_LC_rests, f_Mat_pairAtRest, C_clerks c.1, bnd_s, ite_eq0 (by omega), f_M_rests, bl_e, ifin (by omega) (by omega), nI_clamp (by omega), m_2 m, ite_eq0 (by omega)]
  by_cases z : P 0 5 = 0
  · rw [if_pos z, if_pos z, bnd_s]
    exact ⟨_, _, _, P, A, rfl, rfl, q⟩
  · rw [if_neg z, if_neg z]
    by_cases y : (-1 : Int32) ≤ a
    · rw [if_pos y, if_pos y]
      obtain ⟨hc1, a1, a2, a3, a4⟩ := C_fill (F := F) (k := 0) (by omega) W (by omega) c Y
      obtain ⟨hm1, b1, b2, b3, b4⟩ := M_rs0L (F := F) (x1 := a) (by omega) W (by omega) (P 0 3) 0 _ (by omega) m
      obtain ⟨c1, Y1⟩ := CY_F c Y a4 (by decide)
      have m1 := MR_F m b4 (by decide)
      obtain ⟨r, d1, d2⟩ := C_prL0 (F := F) (x1 := a) (by omega) W c1 m1 (fun x hx => by rw [← a2 x hx, Nat.zero_mul, Nat.zero_add]) (fun x hx => b2 x (by omega) hx) (P 0 3) 0 0 (by omega)
      rw [a1, bnd_s, bl_e, bl_e, d1 _ _ F (by omega), bl_e, b1 _ F (by omega), bl_e, bl_e, d2 _ _ F (by omega)]
      have hR : Rel P A hc1 hm1 := by
        refine Rel_mat q (Fr_mo (by decide) a4) (Fr_mo (by decide) b4) (fun k _ => by rw [(b4 0 (by decide)).1]) ?_
        have k := q.2.2.2.2.2.2.2.2.2.1
        unfold MAr at k ⊢
        rw [(a4 53 (by decide)).1, (b4 0 (by decide)).1, (b4 12 (by decide)).1]
        exact k
      cases r with
      | inl n =>
        by_cases x : a = -1
        · refine ⟨nI n, hc1, hm1, P, A, ?_, ?_, hR⟩
          · show bnd (if a = -1 then some (nI n, hc1) else some (-1, hc1)) _ = _
            rw [if_pos x, bnd_s]
          · show (if a = -1 then some (nI n, hm1) else some (-1, hm1)) = _
            rw [if_pos x]
        · refine ⟨-1, hc1, hm1, P, A, ?_, ?_, hR⟩
          · show bnd (if a = -1 then some (nI n, hc1) else some (-1, hc1)) _ = _
            rw [if_neg x, bnd_s]
          · show (if a = -1 then some (nI n, hm1) else some (-1, hm1)) = _
            rw [if_neg x]
      | inr ab => exact ⟨_, hc1, hm1, P, A, rfl, rfl, hR⟩
    · rw [if_neg y, if_neg y, bnd_s]
      exact ⟨_, _, _, P, A, rfl, rfl, q⟩
