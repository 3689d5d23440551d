def wkN (P : Pl) : Nat → Ab → Ab
  | 0, A => A
  | n + 1, A => wkN P n (weekA P A)
theorem WF_wkN {P : Pl} : ∀ (n : Nat) (A : Ab), WF P A → A.1 8 0 + n ≤ 200 → WF P (wkN P n A) ∧ (wkN P n A).1 8 0 = A.1 8 0 + n ∧ (wkN P n A).2 7 = A.2 7 := by
  intro n
  induction n with
  | zero => intro A W _; exact ⟨W, rfl, rfl⟩
  | succ n ih =>
    intro A W hw
    have w := WF_week W (by omega)
    obtain ⟨a, b, c⟩ := ih (weekA P A) w.1 (by rw [w.2]; omega)
    exact ⟨a, by rw [show wkN P (n + 1) A = wkN P n (weekA P A) from rfl, b, w.2]; omega, c.trans e7_week⟩
theorem C_pwL {P : Pl} {F m : Nat} (hF : 7 ≤ F) : ∀ (j i : Nat) (A : Ab) (h : HS), i + j = m → m ≤ 200 → WF P A → A.1 8 0 + j ≤ 200 → CR P A h → ∃ r, (∀ g, j < g → l_Desk_passWeeks_0 F (nI m) g (nI i) h = some (nI m, st h 21 r)) ∧ CR P (wkN P j A) (st h 21 r) := by
  intro j
  induction j with
  | zero =>
    intro i A h hi hm W hw R
    refine ⟨h.1 21, fun g hg => ?_, by rw [st_s]; exact R⟩
    obtain ⟨g, rfl⟩ : ∃ z, g = z + 1 := ⟨g - 1, by omega⟩
    rw [l_Desk_passWeeks_0, ite_leN (by omega) (by omega), if_pos (by omega), st_s]
  | succ j ih =>
    intro i A h hi hm W hw R
    obtain ⟨r, e, R1⟩ := C_passWeek hF W (by omega) R
    have w := WF_week W (by omega)
    obtain ⟨r2, e2, R2⟩ := ih (i + 1) _ _ (by omega) hm w.1 (by rw [w.2]; omega) R1
    refine ⟨r2, fun g hg => ?_, by rw [st_st] at R2; exact R2⟩
    obtain ⟨g, rfl⟩ : ∃ z, g = z + 1 := ⟨g - 1, by omega⟩
    rw [l_Desk_passWeeks_0, ite_leN (by omega) (by omega), if_neg (by omega), e, bnd_s, nI_add, bl_e, e2 g (by omega), st_st]
theorem C_passWeeks {P : Pl} {A : Ab} {h : HS} {F n : Nat} (hF : 300 ≤ F) (W : WF P A) (hn : n ≤ 50) (R : CR P A h) : ∃ r, f_Desk_passWeeks F (nI n) h = some (nI (min n (200 - A.1 8 0)), st h 21 r) ∧ CR P (wkN P (min n (200 - A.1 8 0)) A) (st h 21 r) := by
  obtain ⟨⟨wN, wNM, wM, wCo, w3, w4, w5, wC, wD, wK⟩, wAc, wAk, wAw, wAf⟩ := id W
  obtain ⟨r, e, R2⟩ := C_pwL (F := F) (m := min n (200 - A.1 8 0)) (by omega) (min n (200 - A.1 8 0)) 0 A h (by omega) (by omega) W (by omega) R
  refine ⟨r, ?_, R2⟩
  rw [f_Desk_passWeeks, C_weeksLeft W R, bnd_s, ite_ltN (by omega) (by omega), bl_e, bl_e]
  have e3 : (if 200 - A.1 8 0 < n then nI (200 - A.1 8 0) else nI n) = nI (min n (200 - A.1 8 0)) := by
    by_cases q : 200 - A.1 8 0 < n
    · rw [if_pos q, show min n (200 - A.1 8 0) = 200 - A.1 8 0 by omega]
    · rw [if_neg q, show min n (200 - A.1 8 0) = n by omega]
  rw [e3, e F (by omega)]
theorem M_pwL {P : Pl} {F m : Nat} (hF : 7 ≤ F) : ∀ (j i : Nat) (A : Ab) (h : HS), i + j = m → m ≤ 200 → WF P A → A.1 8 0 + j ≤ 200 → MR P A h → ∃ s, (∀ g, j < g → l_M_weeks_0 F (nI m) g (nI i) h = some (nI m, st h 2 s)) ∧ (∀ g, j < g → l_M_books_0 F (nI m) g (nI i) h = some (nI 0, st h 2 s)) ∧ MR P (wkN P j A) (st h 2 s) := by
  intro j
  induction j with
  | zero =>
    intro i A h hi hm W hw R
    refine ⟨h.1 2, fun g hg => ?_, fun g hg => ?_, by rw [st_s]; exact R⟩
    · obtain ⟨g, rfl⟩ : ∃ z, g = z + 1 := ⟨g - 1, by omega⟩
      rw [l_M_weeks_0, ite_leN (by omega) (by omega), if_pos (by omega), st_s]
    · obtain ⟨g, rfl⟩ : ∃ z, g = z + 1 := ⟨g - 1, by omega⟩
      rw [l_M_books_0, ite_leN (by omega) (by omega), if_pos (by omega), st_s]
  | succ j ih =>
    intro i A h hi hm W hw R
    obtain ⟨r, e, R1⟩ := M_week hF W (by omega) R
    have w := WF_week W (by omega)
    obtain ⟨r2, e2, e3, R2⟩ := ih (i + 1) _ _ (by omega) hm w.1 (by rw [w.2]; omega) R1
    refine ⟨r2, fun g hg => ?_, fun g hg => ?_, by rw [st_st] at R2; exact R2⟩
    · obtain ⟨g, rfl⟩ : ∃ z, g = z + 1 := ⟨g - 1, by omega⟩
      rw [l_M_weeks_0, ite_leN (by omega) (by omega), if_neg (by omega), e, bnd_s, nI_add, bl_e, e2 g (by omega), st_st]
    · obtain ⟨g, rfl⟩ : ∃ z, g = z + 1 := ⟨g - 1, by omega⟩
      rw [l_M_books_0, ite_leN (by omega) (by omega), if_neg (by omega), e, bnd_s, nI_add, bl_e, e3 g (by omega), st_st]
/-- an int from 1 (or 0) to a written number is one of those -/
theorem rg_ex {x : Int32} {b : Nat} (hb : b < 2147483648) (a : Nat) (h1 : nI a ≤ x) (h2 : x ≤ nI b) (ha : a < 2147483648) : ∃ n, a ≤ n ∧ n ≤ b ∧ x = nI n := by
  have h0 : ¬ x < 0 := by
    have q : (0 : Int32) ≤ nI a := by rw [nI_zero]; exact (nI_leI (by decide) ha).mpr (Nat.zero_le _)
    exact Int32.not_lt.mpr (Int32.le_trans q h1)
  obtain ⟨j, hj, rfl⟩ := nI_of h0
  exact ⟨j, (nI_leI ha hj).mp h1, (nI_leI hj hb).mp h2, rfl⟩
theorem S_weeks {F : Nat} (hF : 20000 ≤ F) (a : Int32) : Sim (f_LC_weeks F a) (f_M_weeks F a) := by
  intro P A hc hm q0
  have q := Rel_th (v := nI 0) q0
  obtain ⟨c, m, W, -⟩ := id q
  obtain ⟨⟨wN, wNM, wM, wCo, w3, w4, w5, wC, wD, wK⟩, wAc, wAk, wAw, wAf⟩ := id W
  unfold f_LC_weeks f_M_weeks
  rw [bl_e, M_isIn, bnd_s, ite_b0]
  by_cases h1 : nI 1 ≤ a
  · by_cases h2 : a ≤ nI 50
    · obtain ⟨n, n1, n2, rfl⟩ := rg_ex (by omega) 1 h1 h2 (by omega)
      rw [if_neg (Int32.not_lt.mpr h1), if_pos h2, if_pos (by simp [h1, h2]), C_weeksLeft W c, bnd_s, ite_eq0 (by omega)]
      simp (disch := omega) only [bl_e, bnd_s, nI_add, nI_mul, ifin, nI_clamp, rZ0, rZ1, rZb, ite_eqN, ite_eq0, ite_ne0, ite_leN, ite_ltN, ite_lt0, ite_le0, ite_ge0, ite_gt0, ite_b0, ite_bn0, m_week m, nI_sb, M_lesser]
      by_cases e : 200 - A.1 8 0 = 0
      · rw [if_pos e, if_pos (by omega)]
        refine ⟨nI 0, _, _, P, A, rfl, ?_, q⟩
        rw [show min n (200 - A.1 8 0) = 0 by omega]
        obtain ⟨g, hg⟩ : ∃ z, F = z + 1 := ⟨F - 1, by omega⟩
        conv => lhs; arg 3; rw [hg]
        rw [l_M_weeks_0, if_pos (by decide)]
      · rw [if_neg e, if_neg (by omega)]
        obtain ⟨hc2, hm2, k1, k2, q2⟩ := Rel_keep (F := F) (by omega) q
        obtain ⟨c2, m2, -⟩ := id q2
        obtain ⟨r, k3, c3⟩ := C_passWeeks (F := F) (n := n) (by omega) W (by omega) c2
        obtain ⟨s, k4, -, m3⟩ := M_pwL (F := F) (m := min n (200 - A.1 8 0)) (by omega) (min n (200 - A.1 8 0)) 0 A hm2 (by omega) (by omega) W (by omega) m2
        have w := WF_wkN (min n (200 - A.1 8 0)) A W (by omega)
        exact ⟨_, _, _, P, _, by rw [k1, bnd_s, k3, bnd_s], by rw [k2, bnd_s, k4 F (by omega)], Rel_row q2 c3 m3 w.1 w.2.2⟩
    · have h3 : ¬ a < nI 1 := Int32.not_lt.mpr h1
      rw [if_neg h3, if_neg h2, if_neg (by simp [h2])]
      exact ⟨_, _, _, P, A, rfl, rfl, q⟩
  · rw [if_pos (Int32.not_le.mp h1), if_neg (by simp [h1])]
    exact ⟨_, _, _, P, A, rfl, rfl, q⟩
/-- a row that was kept, with the reference's other places as they are now -/
def mxA (A B : Ab) : Ab := (B.1, fun a b => if a = 7 then A.2 7 b else B.2 a b)
theorem RC_mx {P : Pl} {A B : Ab} {r r2 : Nat → Int32} (w3 : P 0 3 ≤ 6) (w5 : P 0 5 ≤ 5) (R : RC P B r) (h : ∀ x, x < 91 → r2 x = r x) : RC P (mxA A B) r2 := by
  refine ⟨fun c w hc hw => ?_, fun k w hk hw => ?_, fun w hw hn => ?_⟩
  · rw [h _ (by omega), R.1 c w hc hw]
    rcases (show w = 0 ∨ w = 1 ∨ w = 2 ∨ w = 3 ∨ w = 4 ∨ w = 5 ∨ w = 6 ∨ w = 7 ∨ w = 8 by omega) with e | e | e | e | e | e | e | e | e <;> subst e <;> rfl
  · rw [h _ (by omega), R.2.1 k w hk hw]
    rcases (show w = 0 ∨ w = 1 ∨ w = 2 ∨ w = 3 ∨ w = 4 ∨ w = 5 by omega) with e | e | e | e | e | e <;> subst e <;> rfl
  · rw [h _ (by omega), R.2.2 w hw hn]
    rcases (show w = 0 ∨ w = 1 ∨ w = 2 ∨ w = 3 ∨ w = 4 ∨ w = 5 ∨ w = 6 by omega) with e | e | e | e | e | e | e <;> subst e <;> rfl
theorem RM0_mx {P : Pl} {A B : Ab} {s s2 : Nat → Int32} (w3 : P 0 3 ≤ 6) (w5 : P 0 5 ≤ 5) (R : RM0 P B s) (h : ∀ i, 72 ≤ i → i < 151 → s2 i = s i) (h2 : ∀ i, 151 ≤ i → s2 i = A.2 7 i) : RM0 P (mxA A B) s2 := by
  refine ⟨fun c w hc hw hn => ?_, fun k w hk hw hn => ?_, fun w hw hn => ?_, fun i hi => ?_⟩
  · have q := R.1 c w hc hw hn
    have b : 72 ≤ bcM c w ∧ bcM c w < 151 := by
      rcases (show w = 0 ∨ w = 1 ∨ w = 2 ∨ w = 3 ∨ w = 4 ∨ w = 5 ∨ w = 6 ∨ w = 7 ∨ w = 8 by omega) with e | e | e | e | e | e | e | e | e <;> subst e <;> (try omega) <;> simp only [bcM] <;> omega
    rw [h _ b.1 b.2, q]
    rcases (show w = 0 ∨ w = 1 ∨ w = 2 ∨ w = 3 ∨ w = 4 ∨ w = 5 ∨ w = 6 ∨ w = 7 ∨ w = 8 by omega) with e | e | e | e | e | e | e | e | e <;> subst e <;> rfl
  · have q := R.2.1 k w hk hw hn
    have b : 72 ≤ bkM k w ∧ bkM k w < 151 := by
      rcases (show w = 0 ∨ w = 1 ∨ w = 2 ∨ w = 3 ∨ w = 4 ∨ w = 5 by omega) with e | e | e | e | e | e <;> subst e <;> (try omega) <;> simp only [bkM] <;> omega
    rw [h _ b.1 b.2, q]
    rcases (show w = 0 ∨ w = 1 ∨ w = 2 ∨ w = 3 ∨ w = 4 ∨ w = 5 by omega) with e | e | e | e | e | e <;> subst e <;> rfl
  · have q := R.2.2.1 w hw hn
    have b : 72 ≤ bnM w ∧ bnM w < 151 := by
      rcases (show w = 0 ∨ w = 1 ∨ w = 2 ∨ w = 3 ∨ w = 4 ∨ w = 5 ∨ w = 6 by omega) with e | e | e | e | e | e | e <;> subst e <;> (try omega) <;> simp only [bnM] <;> omega
    rw [h _ b.1 b.2, q]
    rcases (show w = 0 ∨ w = 1 ∨ w = 2 ∨ w = 3 ∨ w = 4 ∨ w = 5 ∨ w = 6 by omega) with e | e | e | e | e | e | e <;> subst e <;> rfl
  · rw [h2 i hi]
    rfl
theorem M_un0 {F u : Nat} (hu : u ≤ 7) : ∀ (j x : Nat) (h : HS), x + j = 79 → h.1 0 23 = nI u → ∀ g, j < g → l_M_undo_0 F g (nI x) h = some (nI u, st h 2 (rg (h.1 2) (72 + x) 151 (fun i => h.1 7 (79 * u + (i - 72))))) := by
  intro j
  induction j with
  | zero =>
    intro x h hx h0 g hg
    obtain ⟨g, rfl⟩ : ∃ z, g = z + 1 := ⟨g - 1, by omega⟩
    rw [l_M_undo_0, ite_leN (by omega) (by omega), if_pos (by omega), show 72 + x = 151 by omega, rg_0, st_s, h0]
  | succ j ih =>
    intro x h hx h0 g hg
    obtain ⟨g, rfl⟩ : ∃ z, g = z + 1 := ⟨g - 1, by omega⟩
    rw [l_M_undo_0, ite_leN (by omega) (by omega), if_neg (by omega)]
    simp (disch := omega) only [bl_e, bnd_s, nI_add, nI_mul, ifin, nI_clamp, rZ0, rZ1, rZb, ite_eqN, ite_eq0, ite_ne0, ite_leN, ite_ltN, ite_lt0, ite_le0, ite_ge0, ite_gt0, ite_b0, ite_bn0, h0, sI_st]
    have hv : h.1 7 (79 * u + x) = (fun i => h.1 7 (79 * u + (i - 72))) (72 + x) := congrArg (h.1 7) (show 79 * u + x = 79 * u + (72 + x - 72) by omega)
    rw [ih (x + 1) _ (by omega) (by rw [st_o (show (0 : Nat) ≠ 2 by decide)]; exact h0) g (by omega), st_st, st_e, st_o (show (7 : Nat) ≠ 2 by decide), ← Nat.add_assoc, rg_s (show 72 + x < 151 by omega) hv]
theorem S_undo {F : Nat} (hF : 20000 ≤ F) : Sim f_LC_undo (f_M_undo F) := by
  intro P A hc hm q0
  have q := Rel_th (v := nI 0) q0
  have qq := q
  obtain ⟨c, m, W, -, U, -⟩ := id q
  obtain ⟨⟨wN, wNM, wM, wCo, w3, w4, w5, wC, wD, wK⟩, wAc, wAk, wAw, wAf⟩ := id W
  obtain ⟨u, f, ps, h1, h2, h3, h4, h5, h6⟩ := id U
  by_cases e : u = 0
  · refine ⟨-1, _, _, P, A, ?_, ?_, q⟩
    · rw [f_LC_undo, f_Desk_takeBack, h4, ite_eq0 (by omega), if_pos e, bnd_s]
    · rw [f_M_undo, bl_e, h5, ite_eq0 (by omega), if_pos e]
  · have hb : (f + (u - 1)) % 8 < 8 := Nat.mod_lt _ (by omega)
    have p := h6 (u - 1) (by omega)
    have hcv : f_LC_undo hc = some (nI (u - 1), st (sI hc 20 4 (nI (u - 1))) 21 (va_cpy (hc.1 (23 + (f + (u - 1)) % 8)) (hc.1 21) 0 0 91)) := by
      rw [f_LC_undo, f_Desk_takeBack, h4, ite_eq0 (by omega), if_neg e, nI_sb (by omega), bl_e, ite_ne0 (by omega), if_neg (by omega), sI_e, sI_n (by omega), h3, nI_add, nI_rem (by omega) (by omega) (by omega), ifin (by omega) (by omega), nI_clamp (by omega), f_Desk_loadFrom, if_pos rfl, bl_e, bnd_s, cI_st, bnd_s, st_o (show (20 : Nat) ≠ 21 by decide), sI_e, sI_o (show 23 + (f + (u - 1)) % 8 ≠ 20 by omega), sI_o (show (21 : Nat) ≠ 20 by decide)]
    have hmv : f_M_undo F hm = some (nI (u - 1), st (sI (sI hm 0 0 (nI 0)) 0 23 (nI (u - 1))) 2 (rg (hm.1 2) (72 + 0) 151 (fun i => hm.1 7 (79 * (u - 1) + (i - 72))))) := by
      rw [f_M_undo, bl_e, h5, ite_eq0 (by omega), if_neg e, nI_sb (by omega), bl_e, bl_e, M_un0 (u := u - 1) (by omega) 79 0 _ (by omega) (by rw [sI_e]) F (by omega)]
      rfl
    refine ⟨nI (u - 1), _, _, P, mxA A (ps (u - 1)), hcv, hmv, ?_⟩
    have W2 : WF P (mxA A (ps (u - 1))) := p.1
    have c2 : CR P A (sI hc 20 4 (nI (u - 1))) := CR_fr c (sI_o (by decide)) (sI_o (by decide)) (sI_o (by decide)) (sI_o (by decide)) (sI_o (by decide)) (sI_o (by decide)) rfl rfl rfl
    have m2 : MR P A (sI (sI hm 0 0 (nI 0)) 0 23 (nI (u - 1))) := MR_fr m (sI_o (by decide)) rfl
    have r2 : RC P (mxA A (ps (u - 1))) (va_cpy (hc.1 (23 + (f + (u - 1)) % 8)) (hc.1 21) 0 0 91) := RC_mx w3 w5 p.2.1 (fun x hx => cpy_in hx)
    have s2 : RM0 P (mxA A (ps (u - 1))) (rg (hm.1 2) (72 + 0) 151 (fun i => hm.1 7 (79 * (u - 1) + (i - 72)))) := RM0_mx w3 w5 p.2.2 (fun i hi hi2 => by
      simp only [rg, seg]
      rw [if_pos (by omega), if_pos hi2]
      rfl) (fun i hi => by
      simp only [rg]
      rw [if_neg (by omega)]
      exact m.2.2.2.2 i hi)
    refine Rel_mk qq (CR_mk c2 r2) (MR_mk m2 (fun i hi => ?_) s2 W.1) W2 rfl ?_ (Fr_t (Fr_sI (by decide)) (Fr_st (by decide))) (Fr_t (Fr_sI (by decide)) (Fr_st (by decide))) (F0r_t (F0r_sI (by decide)) (F0r_st (by decide)))
    · simp only [rg]
      rw [if_neg (by omega)]
      rfl
    · refine ⟨u - 1, f, ps, by omega, h2, ?_, ?_, ?_, fun j hj => ?_⟩
      · rw [st_o (by decide), sI_n (by decide), h3]
      · rw [st_o (by decide), sI_e]
      · rw [st_o (by decide), sI_e]
      · have x := h6 j (by omega)
        unfold UD1 at x ⊢
        rw [st_o (by omega), sI_o (by omega), st_o (by decide), sI_o (by decide)]
        exact x
