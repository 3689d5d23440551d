def PRv (A : Ab) (c : Nat) : Prop := A.1 1 c = 2 → A.1 8 0 + 1 ≤ A.1 4 c + 4
theorem WF_wc {P : Pl} {A : Ab} (W : WF P A) (hw : A.1 8 0 < 200) {c : Nat} (hc : c < P 0 3) : WF P (wcA P A c) ∧ (wcA P A c).1 8 0 = A.1 8 0 ∧ PRv (wcA P A c) c ∧ ∀ c', c' ≠ c → PRv A c' → PRv (wcA P A c) c' := by
  obtain ⟨⟨wN, wNM, wM, wCo, w3, w4, w5, wC, wD, wK⟩, wAc, wAk, wAw, wAf⟩ := id W
  have q := wAc c hc
  -- belief and state of c alone
  have two : ∀ b s, s ≤ 4 → b ≤ 20 → (s ≤ 2 → 1 ≤ b) → (s = 2 → A.1 1 c = 2) → s ≠ 1 → A.1 1 c ≠ 1 → WF P (sN (sN A 0 c b) 1 c s) := by
    intro b s hs hb hsb h2 hn hn2
    refine ⟨W.1, fun c' hc' => ?_, fun k' hk' => ?_, wAw, wAf⟩
    · have q' := wAc c' hc'
      by_cases e : c' = c
      · subst e
        simp only [sN, up2]
        simp
        refine ⟨hs, q'.2.1, hb, hsb, fun z => absurd z hn, fun _ => q'.2.2.2.2.2.1 hn2, fun z => q'.2.2.2.2.2.2.1 (h2 z), q'.2.2.2.2.2.2.2⟩
      · simp only [sN, up2]
        simp [e]
        exact q'
    · have q' := wAk k' hk'
      simp only [sN, up2]
      simp
      refine ⟨q'.1, q'.2.1, q'.2.2.1, fun z => ?_⟩
      have q3 := q'.2.2.2 z
      have q4 : ¬ A.1 6 k' - 1 = c := fun y => by rw [y] at q3; exact hn2 q3.1
      simp [q4]
      exact q3
  have one : ∀ b, b ≤ 20 → 1 ≤ b → WF P (sN A 0 c b) := by
    intro b hb h1
    refine ⟨W.1, fun c' hc' => ?_, fun k' hk' => ?_, wAw, wAf⟩
    · have q' := wAc c' hc'
      by_cases e : c' = c
      · subst e
        simp only [sN, up2]
        simp
        exact ⟨q'.1, q'.2.1, hb, fun _ => h1, q'.2.2.2.2⟩
      · simp only [sN, up2]
        simp [e]
        exact q'
    · have q' := wAk k' hk'
      simp only [sN, up2]
      simp
      exact q'
  unfold wcA
  by_cases e1 : A.1 1 c = 1
  · rw [if_pos e1]
    have q2 := q.2.2.2.2.1 e1
    by_cases hs : safeC P A c 0 = true
    · rw [if_pos hs]
      refine ⟨one _ (by omega) (by omega), rfl, fun z => ?_, fun c' _ z => z⟩
      exact absurd (show A.1 1 c = 2 from z) (by omega)
    · rw [if_neg hs]
      obtain ⟨k, hk⟩ : ∃ k, A.1 2 c = k + 1 := ⟨A.1 2 c - 1, by omega⟩
      have hA : A.1 2 c - 1 = k := by omega
      have wB : WFA P (wonB A c) := by
        refine ⟨fun c' hc' => ?_, fun k' hk' => ?_, wAw, wAf⟩
        · have q' := wAc c' hc'
          by_cases e : c' = c
          · subst e
            simp only [wonB, sN, sV, up2, hA]
            simp
            exact ⟨q'.2.1, q'.2.2.1, q'.2.2.2.2.2.2.2⟩
          · simp only [wonB, sN, sV, up2, hA]
            simp [e]
            refine ⟨q'.1, q'.2.1, q'.2.2.1, q'.2.2.2.1, fun z => ?_, q'.2.2.2.2.2.1, q'.2.2.2.2.2.2.1, q'.2.2.2.2.2.2.2⟩
            have q3 := q'.2.2.2.2.1 z
            have q4 : ¬ A.1 2 c' - 1 = k := fun y => by rw [y] at q3; rw [hA] at q2; omega
            rw [if_neg q4]
            exact q3
        · have q' := wAk k' hk'
          by_cases e : k' = k
          · subst e
            simp only [wonB, sN, sV, up2, hA]
            simp
            exact ⟨q'.1, q'.2.1⟩
          · simp only [wonB, sN, sV, up2, hA]
            simp [e]
            refine ⟨q'.1, q'.2.1, q'.2.2.1, fun z => ?_⟩
            have q3 := q'.2.2.2 z
            have q4 : ¬ A.1 6 k' - 1 = c := fun y => by rw [y, hk] at q3; omega
            simp [q4]
            exact q3
      have pB : PRv (wonB A c) c := fun z => by
        have : (wonB A c).1 1 c = 3 := by simp [wonB, sN, sV, up2]
        rw [this] at z
        cases z
      have pC : ∀ c', c' ≠ c → PRv A c' → PRv (wonB A c) c' := fun c' hn z => by
        have x1 : (wonB A c).1 1 c' = A.1 1 c' := by simp [wonB, sN, sV, up2, hn]
        have x2 : (wonB A c).1 8 0 = A.1 8 0 := by simp [wonB, sN, sV, up2]
        have x3 : (wonB A c).1 4 c' = A.1 4 c' := by simp [wonB, sN, sV, up2]
        unfold PRv
        rw [x1, x2, x3]
        exact z
      unfold wonA
      by_cases e9 : A.1 9 0 = 0
      · rw [if_pos e9]
        refine ⟨⟨W.1, ?_⟩, by simp [wonB, sN, sV, up2], pB, pC⟩
        obtain ⟨a, b, c1, d⟩ := wB
        refine ⟨fun c' hc' => ?_, fun k' hk' => ?_, c1, ?_⟩
        · exact a c' hc'
        · exact b k' hk'
        · show (if 9 = 9 ∧ 0 = 0 then A.1 8 0 + 1 else (wonB A c).1 9 0) ≤ 200
          rw [if_pos ⟨rfl, rfl⟩]
          omega
      · rw [if_neg e9]
        exact ⟨⟨W.1, wB⟩, by simp [wonB, sN, sV, up2], pB, pC⟩
  · rw [if_neg e1]
    by_cases e2 : A.1 1 c = 0 ∨ A.1 1 c = 2
    · rw [if_pos e2]
      have qb := q.2.2.2.1 (by omega)
      have qd := q.2.2.2.2.2.2.1
      unfold aloneA
      by_cases z : A.1 0 c = 1
      · rw [if_pos z]
        refine ⟨two 0 4 (by omega) (by omega) (by omega) (by omega) (by omega) e1, rfl, fun y => ?_, fun c' hn y => ?_⟩
        · have : (sN (sN A 0 c 0) 1 c 4).1 1 c = 4 := sN_e
          rw [this] at y
          cases y
        · unfold PRv at y ⊢
          rw [sN_n hn, sN_o (by omega)]
          exact y
      · rw [if_neg z]
        by_cases y : A.1 1 c = 2 ∧ A.1 4 c + 4 ≤ A.1 8 0
        · rw [if_pos y]
          refine ⟨two _ 0 (by omega) (by omega) (by omega) (by omega) (by omega) e1, rfl, fun y => ?_, fun c' hn y => ?_⟩
          · have : (sN (sN A 0 c (A.1 0 c - 1)) 1 c 0).1 1 c = 0 := sN_e
            rw [this] at y
            cases y
          · unfold PRv at y ⊢
            rw [sN_n hn, sN_o (by omega)]
            exact y
        · rw [if_neg y]
          refine ⟨one _ (by omega) (by omega), rfl, fun x => ?_, fun c' hn x => x⟩
          have x : A.1 1 c = 2 := x
          show A.1 8 0 + 1 ≤ A.1 4 c + 4
          have := fun w => y ⟨x, w⟩
          omega
    · rw [if_neg e2]
      exact ⟨W, rfl, fun z => absurd z (by omega), fun c' _ z => z⟩
theorem C_wcL {P : Pl} : ∀ (j k : Nat) (A : Ab) (h : HS), k + j = P 0 3 → WF P A → A.1 8 0 < 200 → CR P A h → ∃ r, (∀ F K g, j < g → l_Desk_passWeek_1 F K g (nI k) h = K (st h 21 r)) ∧ CR P (itF (wcA P) j k A) (st h 21 r) := by
  intro j
  induction j with
  | zero =>
    intro k A h hk W hw R
    obtain ⟨⟨wN, wNM, wM, wCo, w3, w4, w5, wC, wD, wK⟩, wAc, wAk, wAw, wAf⟩ := id W
    refine ⟨h.1 21, fun F K g hg => ?_, by rw [st_s]; exact R⟩
    obtain ⟨g, rfl⟩ : ∃ z, g = z + 1 := ⟨g - 1, by omega⟩
    rw [l_Desk_passWeek_1, C_causes R.1, bnd_s, ite_leN (by omega) (by omega), if_pos (by omega), st_s]
  | succ j ih =>
    intro k A h hk W hw R
    obtain ⟨r, e, R1⟩ := C_wc1 W R (show k < P 0 3 by omega)
    have w := WF_wc W hw (show k < P 0 3 by omega)
    obtain ⟨r2, e2, R2⟩ := ih (k + 1) (wcA P A k) _ (by omega) w.1 (by rw [w.2.1]; exact hw) R1
    refine ⟨r2, fun F K g hg => ?_, by rw [st_st] at R2; exact R2⟩
    obtain ⟨g, rfl⟩ : ∃ z, g = z + 1 := ⟨g - 1, by omega⟩
    rw [e, e2 F K g (by omega), st_st]
theorem M_wcL {P : Pl} {F : Nat} (hF : 7 ≤ F) : ∀ (j k : Nat) (A : Ab) (h : HS), k + j = P 0 3 → WF P A → A.1 8 0 < 200 → MR P A h → ∃ s, (∀ K g, j < g → l_M_week_1 F K g (nI k) h = K (st h 2 s)) ∧ MR P (itF (wcA P) j k A) (st h 2 s) := by
  intro j
  induction j with
  | zero =>
    intro k A h hk W hw R
    obtain ⟨⟨wN, wNM, wM, wCo, w3, w4, w5, wC, wD, wK⟩, wAc, wAk, wAw, wAf⟩ := id W
    refine ⟨h.1 2, fun K g hg => ?_, by rw [st_s]; exact R⟩
    obtain ⟨g, rfl⟩ : ∃ z, g = z + 1 := ⟨g - 1, by omega⟩
    rw [l_M_week_1]
    simp (disch := omega) only [bl_e, bnd_s, nI_add, nI_mul, ifin, nI_clamp, rZ0, rZ1, rZb, ite_eqN, ite_eq0, ite_ne0, ite_leN, ite_ltN, ite_lt0, ite_le0, ite_ge0, ite_gt0, ite_b0, ite_bn0, m_0 R, st_s]
    rw [if_pos (by omega)]
  | succ j ih =>
    intro k A h hk W hw R
    have hk3 : k < P 0 3 := by omega
    obtain ⟨r, e, R1⟩ := M_ends W hF R hk3
    have w := WF_wc W hw hk3
    obtain ⟨r2, e2, R2⟩ := ih (k + 1) (wcA P A k) _ (by omega) w.1 (by rw [w.2.1]; exact hw) R1
    refine ⟨r2, fun K g hg => ?_, by rw [st_st] at R2; exact R2⟩
    obtain ⟨g, rfl⟩ : ∃ z, g = z + 1 := ⟨g - 1, by omega⟩
    obtain ⟨⟨wN, wNM, wM, wCo, w3, w4, w5, wC, wD, wK⟩, wAc, wAk, wAw, wAf⟩ := id W
    rw [l_M_week_1]
    simp (disch := omega) only [bl_e, bnd_s, nI_add, nI_mul, ifin, nI_clamp, rZ0, rZ1, rZb, ite_eqN, ite_eq0, ite_ne0, ite_leN, ite_ltN, ite_lt0, ite_le0, ite_ge0, ite_gt0, ite_b0, ite_bn0, m_0 R, e]
    rw [if_neg (by omega), e2 K g (by omega), st_st]
theorem WF_wcL {P : Pl} : ∀ (j k : Nat) (A : Ab), k + j = P 0 3 → WF P A → A.1 8 0 < 200 → (∀ c, c < k → PRv A c) → WF P (itF (wcA P) j k A) ∧ (itF (wcA P) j k A).1 8 0 = A.1 8 0 ∧ ∀ c, c < P 0 3 → PRv (itF (wcA P) j k A) c := by
  intro j
  induction j with
  | zero => intro k A hk W _ hp; exact ⟨W, rfl, fun c hc => hp c (by omega)⟩
  | succ j ih =>
    intro k A hk W hw hp
    have q := WF_wc W hw (show k < P 0 3 by omega)
    have q2 := ih (k + 1) _ (by omega) q.1 (by rw [q.2.1]; exact hw) (fun c hc => by
      by_cases e : c = k
      · rw [e]; exact q.2.2.1
      · exact q.2.2.2 c e (hp c (by omega)))
    exact ⟨q2.1, q2.2.1.trans q.2.1, q2.2.2⟩
theorem C_passWeek {P : Pl} {A : Ab} {h : HS} {F : Nat} (hF : 7 ≤ F) (W : WF P A) (hw : A.1 8 0 < 200) (R : CR P A h) : ∃ r, f_Desk_passWeek F h = some ((), st h 21 r) ∧ CR P (weekA P A) (st h 21 r) := by
  obtain ⟨⟨wN, wNM, wM, wCo, w3, w4, w5, wC, wD, wK⟩, wAc, wAk, wAw, wAf⟩ := id W
  obtain ⟨r1, e1, R1⟩ := C_wkL (P 0 5) 0 A h (by omega) W R
  have w1 := WF_wkL (P 0 5) 0 A (by omega) W
  obtain ⟨r2, e2, R2⟩ := C_wcL (P 0 3) 0 _ _ (by omega) w1.1 (by rw [w1.2]; exact hw) R1
  have w2 := WF_wcL (P 0 3) 0 _ (by omega) w1.1 (by rw [w1.2]; exact hw) (fun c hc => absurd hc (Nat.not_lt_zero _))
  rw [st_st] at R2
  have hr : (st h 21 r2).1 21 (84 + 0) = nI (A.1 8 0) := by
    rw [R2.2.2.2 0 (by omega) (by omega)]
    show nI ((itF (wcA P) (P 0 3) 0 (itF (wkA P) (P 0 5) 0 A)).1 8 0) = _
    rw [w2.2.1, w1.2]
  refine ⟨upd r2 (84 + 0) (nI (A.1 8 0 + 1)), ?_, CR_mk R ?_⟩
  · rw [f_Desk_passWeek, bl_e, e1 _ _ _ (by omega), bl_e, e2 _ _ _ (by omega), st_st, E_addNow (by omega), bnd_s, hr, st_e, st_st, nI_add]
  · rw [CR, st_e] at R2
    exact RC_week w3 w5 R2.2 (A.1 8 0 + 1)
theorem M_week {P : Pl} {A : Ab} {h : HS} {F : Nat} (hF : 7 ≤ F) (W : WF P A) (hw : A.1 8 0 < 200) (R : MR P A h) : ∃ s, f_M_week F h = some ((), st h 2 s) ∧ MR P (weekA P A) (st h 2 s) := by
  obtain ⟨⟨wN, wNM, wM, wCo, w3, w4, w5, wC, wD, wK⟩, wAc, wAk, wAw, wAf⟩ := id W
  obtain ⟨r1, e1, R1⟩ := M_wkL (P 0 5) 0 A h (by omega) W R
  have w1 := WF_wkL (P 0 5) 0 A (by omega) W
  obtain ⟨r2, e2, R2⟩ := M_wcL hF (P 0 3) 0 _ _ (by omega) w1.1 (by rw [w1.2]; exact hw) R1
  have w2 := WF_wcL (P 0 3) 0 _ (by omega) w1.1 (by rw [w1.2]; exact hw) (fun c hc => absurd hc (Nat.not_lt_zero _))
  rw [st_st] at R2
  have hr : (st h 2 r2).1 2 72 = nI (A.1 8 0) := by
    rw [m_week R2, w2.2.1, w1.2]
  refine ⟨upd r2 72 (nI (A.1 8 0 + 1)), ?_, ?_⟩
  · rw [f_M_week, bl_e, e1 _ _ _ (by omega), bl_e, e2 _ _ (by omega), st_st]
    simp (disch := omega) only [bl_e, bnd_s, nI_add, nI_mul, ifin, nI_clamp, rZ0, rZ1, rZb, ite_eqN, ite_eq0, ite_ne0, ite_leN, ite_ltN, ite_lt0, ite_le0, ite_ge0, ite_gt0, ite_b0, ite_bn0, hr, sI_st, st_e, st_st]
  · have q := RM_week w3 w5 R2.2 (A.1 8 0 + 1)
    have q2 := MR_mk (s := upd ((st h 2 r2).1 2) 72 (nI (A.1 8 0 + 1))) R2 (fun i hi => by rw [upd_n (by omega)]) q W.1
    rw [st_st, st_e] at q2
    exact q2
theorem WF_week {P : Pl} {A : Ab} (W : WF P A) (hw : A.1 8 0 < 200) : WF P (weekA P A) ∧ (weekA P A).1 8 0 = A.1 8 0 + 1 := by
  have w1 := WF_wkL (P 0 5) 0 A (by omega) W
  have w2 := WF_wcL (P 0 3) 0 _ (by omega) w1.1 (by rw [w1.2]; exact hw) (fun c hc => absurd hc (Nat.not_lt_zero _))
  refine ⟨⟨W.1, ?_⟩, sN_e⟩
  have hB : (weekB P A).1 8 0 = A.1 8 0 := w2.2.1.trans w1.2
  obtain ⟨-, a, b, c1, d⟩ := w2.1
  have pr := w2.2.2
  refine ⟨fun c hc => ?_, fun k hk => b k hk, ?_, d⟩
  · have q := a c hc
    have p := pr c hc
    change PRv (weekB P A) c at p
    unfold PRv at p
    rw [hB] at p
    have q8 : (weekA P A).1 8 0 = A.1 8 0 + 1 := sN_e
    have qo : ∀ i j, i ≠ 8 → (weekA P A).1 i j = (weekB P A).1 i j := fun i j hi => sN_o hi
    simp only [qo _ _ (show (1 : Nat) ≠ 8 by omega), qo _ _ (show (3 : Nat) ≠ 8 by omega), qo _ _ (show (0 : Nat) ≠ 8 by omega), qo _ _ (show (2 : Nat) ≠ 8 by omega), qo _ _ (show (6 : Nat) ≠ 8 by omega), qo _ _ (show (4 : Nat) ≠ 8 by omega), q8]
    refine ⟨q.1, q.2.1, q.2.2.1, q.2.2.2.1, q.2.2.2.2.1, q.2.2.2.2.2.1, fun z => ?_, q.2.2.2.2.2.2.2⟩
    have x := q.2.2.2.2.2.2.1 z
    have y := p z
    change (weekB P A).1 4 c ≤ (weekB P A).1 8 0 ∧ _ at x
    rw [hB] at x
    omega
  · show (weekA P A).1 8 0 ≤ 200
    rw [show (weekA P A).1 8 0 = A.1 8 0 + 1 from sN_e]
    omega
