theorem R_sch1 {P : Pl} {F s : Nat} (hF : 20000 ≤ F) (hs : s ≤ 2) : ∀ (j k : Nat) (A : Ab) (hc hm : HS), k + j = P 0 5 → Rl0 P A hc hm → ∃ A2 hc2 hm2, (∀ x3 x4 K g, j < g → l_Runs_coinBySchool_1 F (nI s) x3 x4 K g (nI k) hc = K hc2) ∧ (∀ x2 x3 K g, j < g → l_M_schoolOf_1 F (nI s) x2 x3 K g (nI k) hm = K hm2) ∧ Rl0 P A2 hc2 hm2 ∧ Kp hc hm hc2 hm2 ∧ A2.1 8 0 = A.1 8 0 := by
  intro j
  induction j with
  | zero =>
    intro k A hc hm hk q
    obtain ⟨cc, m, W, -⟩ := id q
    obtain ⟨⟨wN, wNM, wM, wCo, w3, w4, w5, wC, wD, wK⟩, wAc, wAk, wAw, wAf⟩ := id W
    refine ⟨A, hc, hm, fun x3 x4 K g hg => ?_, fun x2 x3 K g hg => ?_, q, Kp_rf, rfl⟩
    · obtain ⟨g, rfl⟩ : ∃ z, g = z + 1 := ⟨g - 1, by omega⟩
      rw [l_Runs_coinBySchool_1, C_clerks cc.1, bnd_s, ite_leN (by omega) (by omega), if_pos (by omega)]
    · obtain ⟨g, rfl⟩ : ∃ z, g = z + 1 := ⟨g - 1, by omega⟩
      rw [l_M_schoolOf_1, ifin (by omega) (by omega), nI_clamp (by omega), m_2 m, ite_leN (by omega) (by omega), if_pos (by omega)]
  | succ j ih =>
    intro k A hc hm hk q
    obtain ⟨cc, m, W, -⟩ := id q
    obtain ⟨⟨wN, wNM, wM, wCo, w3, w4, w5, wC, wD, wK⟩, wAc, wAk, wAw, wAf⟩ := id W
    obtain ⟨A1, hc1, hm1, a1, a2, a3, a4, a5⟩ := R_school hF q (show k < P 0 5 by omega) hs
    obtain ⟨A2, hc2, hm2, b1, b2, b3, b4, b5⟩ := ih (k + 1) A1 hc1 hm1 (by omega) a3
    refine ⟨A2, hc2, hm2, fun x3 x4 K g hg => ?_, fun x2 x3 K g hg => ?_, b3, Kp_t a4 b4, b5.trans a5⟩
    · obtain ⟨g, rfl⟩ : ∃ z, g = z + 1 := ⟨g - 1, by omega⟩
      rw [l_Runs_coinBySchool_1, C_clerks cc.1, bnd_s, ite_leN (by omega) (by omega), if_neg (by omega), a1, bnd_s, bl_e, nI_add, b1 _ _ _ g (by omega)]
    · obtain ⟨g, rfl⟩ : ∃ z, g = z + 1 := ⟨g - 1, by omega⟩
      rw [l_M_schoolOf_1, ifin (by omega) (by omega), nI_clamp (by omega), m_2 m, ite_leN (by omega) (by omega), if_neg (by omega), a2, bnd_s, bl_e, nI_add, b2 _ _ _ g (by omega)]
theorem R_sch0 {P : Pl} {F s n m w : Nat} (hF : 20000 ≤ F) (hs : s ≤ 2) (hn : n ≤ 50) (hm0 : m = min n (200 - w)) (hw : w ≤ 200) : ∀ (j i : Nat) (A : Ab) (hc hm : HS), i + j = m → A.1 8 0 = w + i → Rl0 P A hc hm → ∃ A2 hc2 hm2, (∀ K g, j < g → l_Runs_coinBySchool_0 F (nI s) (nI m) K g (nI i) hc = K hc2) ∧ (∀ K g, j < g → l_M_schoolOf_0 F (nI s) (nI n) K g (nI i) hm = K hm2) ∧ Rl0 P A2 hc2 hm2 ∧ Kp hc hm hc2 hm2 := by
  intro j
  induction j with
  | zero =>
    intro i A hc hm hi hA q
    obtain ⟨cc, mm, W, -⟩ := id q
    obtain ⟨⟨wN, wNM, wM, wCo, w3, w4, w5, wC, wD, wK⟩, wAc, wAk, wAw, wAf⟩ := id W
    refine ⟨A, hc, hm, fun K g hg => ?_, fun K g hg => ?_, q, Kp_rf⟩
    · obtain ⟨g, rfl⟩ : ∃ z, g = z + 1 := ⟨g - 1, by omega⟩
      rw [l_Runs_coinBySchool_0, ite_leN (by omega) (by omega), if_pos (by omega)]
    · obtain ⟨g, rfl⟩ : ∃ z, g = z + 1 := ⟨g - 1, by omega⟩
      rw [l_M_schoolOf_0, ite_leN (by omega) (by omega), ifin (by omega) (by omega), nI_clamp (by omega), m_week mm, ite_leN (by omega) (by omega)]
      by_cases z : n ≤ i
      · rw [if_pos z]
      · rw [if_neg z, if_pos (by omega)]
  | succ j ih =>
    intro i A hc hm hi hA q
    obtain ⟨cc, mm, W, -⟩ := id q
    obtain ⟨⟨wN, wNM, wM, wCo, w3, w4, w5, wC, wD, wK⟩, wAc, wAk, wAw, wAf⟩ := id W
    obtain ⟨A1, hc1, hm1, a1, a2, a3, a4, a5⟩ := R_sch1 (F := F) (s := s) hF hs (P 0 5) 0 A hc hm (by omega) q
    obtain ⟨hc2, hm2, b1, b2, b3, b4⟩ := R_week (F := F) (by omega) a3 (by rw [a5]; omega)
    have w2 := (WF_week a3.2.2.1 (by rw [a5]; omega)).2
    obtain ⟨A3, hc3, hm3, c1, c2, c3, c4⟩ := ih (i + 1) _ hc2 hm2 (by omega) (by rw [w2, a5]; omega) b3
    refine ⟨A3, hc3, hm3, fun K g hg => ?_, fun K g hg => ?_, c3, Kp_t a4 (Kp_t b4 c4)⟩
    · obtain ⟨g, rfl⟩ : ∃ z, g = z + 1 := ⟨g - 1, by omega⟩
      rw [l_Runs_coinBySchool_0, ite_leN (by omega) (by omega), if_neg (by omega), bl_e, a1 _ _ _ F (by omega), b1, bnd_s, bl_e, nI_add, c1 _ g (by omega)]
    · obtain ⟨g, rfl⟩ : ∃ z, g = z + 1 := ⟨g - 1, by omega⟩
      rw [l_M_schoolOf_0, ite_leN (by omega) (by omega), ifin (by omega) (by omega), nI_clamp (by omega), m_week mm, ite_leN (by omega) (by omega), if_neg (by omega), if_neg (by omega), bl_e, a2 _ _ _ F (by omega), b2, bnd_s, bl_e, nI_add, c2 _ g (by omega)]
theorem M_trL {F : Nat} : ∀ (j x : Nat) (h : HS), x + j = 79 → ∀ g, j < g → l_M_tries_0 F g (nI x) h = some ((), st h 8 (rg (h.1 8) x 79 (fun i => h.1 2 (72 + i)))) := by
  intro j
  induction j with
  | zero =>
    intro x h hx g hg
    obtain ⟨g, rfl⟩ : ∃ z, g = z + 1 := ⟨g - 1, by omega⟩
    rw [l_M_tries_0, ite_leN (by omega) (by omega), if_pos (by omega), show x = 79 by omega, rg_0, st_s]
  | succ j ih =>
    intro x h hx g hg
    obtain ⟨g, rfl⟩ : ∃ z, g = z + 1 := ⟨g - 1, by omega⟩
    rw [l_M_tries_0, ite_leN (by omega) (by omega), if_neg (by omega)]
    simp (disch := omega) only [bl_e, bnd_s, nI_add, nI_mul, ifin, nI_clamp, rZ0, rZ1, rZb, ite_eqN, ite_eq0, ite_ne0, ite_leN, ite_ltN, ite_lt0, ite_le0, ite_ge0, ite_gt0, ite_b0, ite_bn0, sI_st]
    have hv : h.1 2 (72 + x) = (fun i => h.1 2 (72 + i)) x := rfl
    rw [ih (x + 1) _ (by omega) g (by omega), st_st, st_e, st_o (show (2 : Nat) ≠ 8 by decide), rg_s (show x < 79 by omega) hv]
theorem M_tries {F : Nat} (hF : 100 ≤ F) (h : HS) : f_M_tries F h = some ((), st h 8 (rg (h.1 8) 0 79 (fun i => h.1 2 (72 + i)))) := by
  rw [f_M_tries, bl_e]
  exact M_trL 79 0 h (by omega) F (by omega)
theorem M_bkL {F : Nat} : ∀ (j x : Nat) (h : HS), x + j = 79 → ∀ g, j < g → l_M_back_0 F g (nI x) h = some ((), st h 2 (rg (h.1 2) (72 + x) 151 (fun i => h.1 8 (i - 72)))) := by
  intro j
  induction j with
  | zero =>
    intro x h hx g hg
    obtain ⟨g, rfl⟩ : ∃ z, g = z + 1 := ⟨g - 1, by omega⟩
    rw [l_M_back_0, ite_leN (by omega) (by omega), if_pos (by omega), show 72 + x = 151 by omega, rg_0, st_s]
  | succ j ih =>
    intro x h hx g hg
    obtain ⟨g, rfl⟩ : ∃ z, g = z + 1 := ⟨g - 1, by omega⟩
    rw [l_M_back_0, ite_leN (by omega) (by omega), if_neg (by omega)]
    simp (disch := omega) only [bl_e, bnd_s, nI_add, nI_mul, ifin, nI_clamp, rZ0, rZ1, rZb, ite_eqN, ite_eq0, ite_ne0, ite_leN, ite_ltN, ite_lt0, ite_le0, ite_ge0, ite_gt0, ite_b0, ite_bn0, sI_st]
    have hv : h.1 8 x = (fun i => h.1 8 (i - 72)) (72 + x) := congrArg (h.1 8) (show x = 72 + x - 72 by omega)
    rw [ih (x + 1) _ (by omega) g (by omega), st_st, st_e, st_o (show (8 : Nat) ≠ 2 by decide), ← Nat.add_assoc, rg_s (show 72 + x < 151 by omega) hv]
theorem M_back {F : Nat} (hF : 100 ≤ F) (h : HS) : f_M_back F h = some ((), st h 2 (rg (h.1 2) 72 151 (fun i => h.1 8 (i - 72)))) := by
  rw [f_M_back, bl_e]
  exact M_bkL 79 0 h (by omega) F (by omega)
theorem C_saveTo (j : Nat) (h : HS) : f_Desk_saveTo j h = some ((), st h j (va_cpy (h.1 21) (h.1 j) 0 0 91)) := by
  rw [f_Desk_saveTo, if_pos rfl, bl_e, cI_st]
theorem C_loadFrom (j : Nat) (h : HS) : f_Desk_loadFrom j h = some ((), st h 21 (va_cpy (h.1 j) (h.1 21) 0 0 91)) := by
  rw [f_Desk_loadFrom, if_pos rfl, bl_e, cI_st]
/-- the row that was kept comes back, on both sides -/
theorem Rl0_back {P : Pl} {A A2 : Ab} {hc hm : HS} {r0 s0 : Nat → Int32} {j : Nat} (q : Rl0 P A2 hc hm) (W : WF P A) (hr : RC P A r0) (hs : RM0 P A s0) (e1 : ∀ x, x < 91 → hc.1 j x = r0 x) (e2 : ∀ x, x < 79 → hm.1 8 x = s0 (72 + x)) : Rl0 P (mxA A2 A) (st hc 21 (va_cpy (hc.1 j) (hc.1 21) 0 0 91)) (st hm 2 (rg (hm.1 2) 72 151 (fun i => hm.1 8 (i - 72)))) := by
  have q0 := q
  obtain ⟨c, m, w, -⟩ := q
  obtain ⟨⟨wN, wNM, wM, wCo, w3, w4, w5, wC, wD, wK⟩, wAc, wAk, wAw, wAf⟩ := id W
  have r2 : RC P (mxA A2 A) (va_cpy (hc.1 j) (hc.1 21) 0 0 91) := RC_mx w3 w5 hr (fun x hx => by rw [cpy_in hx, e1 x hx])
  have s2 : RM0 P (mxA A2 A) (rg (hm.1 2) 72 151 (fun i => hm.1 8 (i - 72))) := RM0_mx w3 w5 hs (fun i hi hi2 => by
    simp only [rg]
    rw [if_pos (by omega), e2 _ (by omega)]
    exact congrArg s0 (by omega)) (fun i hi => by
    simp only [rg]
    rw [if_neg (by omega)]
    exact m.2.2.2.2 i hi)
  exact Rl0_row q0 (CR_mk c r2) (MR_mk m (fun i hi => by simp only [rg]; rw [if_neg (by omega)]) s2 W.1) W
theorem CR_fA {P : Pl} {A B : Ab} {h : HS} (R : CR P (mxA A B) h) : CR P B h := by
  refine ⟨R.1, fun c w hc hw => ?_, fun k w hk hw => ?_, fun w hw hn => ?_⟩
  · rw [R.2.1 c w hc hw]
    rcases (show w = 0 ∨ w = 1 ∨ w = 2 ∨ w = 3 ∨ w = 4 ∨ w = 5 ∨ w = 6 ∨ w = 7 ∨ w = 8 by omega) with e | e | e | e | e | e | e | e | e <;> subst e <;> rfl
  · rw [R.2.2.1 k w hk hw]
    rcases (show w = 0 ∨ w = 1 ∨ w = 2 ∨ w = 3 ∨ w = 4 ∨ w = 5 by omega) with e | e | e | e | e | e <;> subst e <;> rfl
  · rw [R.2.2.2 w hw hn]
    rcases (show w = 0 ∨ w = 1 ∨ w = 2 ∨ w = 3 ∨ w = 4 ∨ w = 5 ∨ w = 6 by omega) with e | e | e | e | e | e | e <;> subst e <;> rfl
theorem MR_fA {P : Pl} {A B : Ab} {h : HS} (R : MR P (mxA A B) h) (h7 : ∀ i, 151 ≤ i → h.1 2 i = B.2 7 i) : MR P B h := by
  refine ⟨R.1, fun c w hc hw hn => ?_, fun k w hk hw hn => ?_, fun w hw hn => ?_, h7⟩
  · rw [R.2.1 c w hc hw hn]
    rcases (show w = 0 ∨ w = 1 ∨ w = 2 ∨ w = 3 ∨ w = 4 ∨ w = 5 ∨ w = 6 ∨ w = 7 ∨ w = 8 by omega) with e | e | e | e | e | e | e | e | e <;> subst e <;> rfl
  · rw [R.2.2.1 k w hk hw hn]
    rcases (show w = 0 ∨ w = 1 ∨ w = 2 ∨ w = 3 ∨ w = 4 ∨ w = 5 by omega) with e | e | e | e | e | e <;> subst e <;> rfl
  · rw [R.2.2.2.1 w hw hn]
    rcases (show w = 0 ∨ w = 1 ∨ w = 2 ∨ w = 3 ∨ w = 4 ∨ w = 5 ∨ w = 6 by omega) with e | e | e | e | e | e | e <;> subst e <;> rfl
theorem R_coin {P : Pl} {A : Ab} {hc hm : HS} {F s n : Nat} (hF : 20000 ≤ F) (hs : s ≤ 2) (hn : n ≤ 50) (q : Rl0 P A hc hm) : ∃ v hc2 hm2, f_Runs_coinBySchool F (nI s) (nI n) hc = some (v, hc2) ∧ f_M_schoolOf F (nI s) (nI n) hm = some (v, hm2) ∧ Rl0 P A hc2 hm2 ∧ Fr [21, 35, 36, 37] hc hc2 ∧ Fr [0, 2, 8, 9] hm hm2 ∧ F0r [31] hm hm2 ∧ ∀ i, 151 ≤ i → hm2.1 2 i = hm.1 2 i := by
  obtain ⟨c, m, W, -⟩ := id q
  obtain ⟨⟨wN, wNM, wM, wCo, w3, w4, w5, wC, wD, wK⟩, wAc, wAk, wAw, wAf⟩ := id W
  have q2 := Rl0_save (j := 37) (f := va_cpy (hc.1 21) (hc.1 37) 0 0 91) (f2 := rg (hm.1 8) 0 79 (fun i => hm.1 2 (72 + i))) (Or.inl rfl) q
  obtain ⟨A2, hc2, hm2, a1, a2, a3, a4⟩ := R_sch0 (F := F) (s := s) (n := n) (m := min n (200 - A.1 8 0)) (w := A.1 8 0) hF hs hn rfl wAw (min n (200 - A.1 8 0)) 0 A _ _ (by omega) rfl q2
  have c2 := q2.1
  obtain ⟨cc, mm, -⟩ := id a3
  have hb := Rl0_back (j := 37) a3 W c.2 m.2 (fun x hx => by rw [(a4.1 37 (by decide)).1, st_e, cpy_in hx]) (fun x hx => by rw [(a4.2.1 8 (by decide)).1, st_e]; simp only [rg]; rw [if_pos (by omega)])
  have e3 : (if 200 - A.1 8 0 < n then nI (200 - A.1 8 0) else nI n) = nI (min n (200 - A.1 8 0)) := by
    by_cases z : 200 - A.1 8 0 < n
    · rw [if_pos z, show min n (200 - A.1 8 0) = 200 - A.1 8 0 by omega]
    · rw [if_neg z, show min n (200 - A.1 8 0) = n by omega]
  have hA : Rl0 P A _ _ := ⟨CR_fA hb.1, MR_fA hb.2.1 (fun i hi => ?_), W, hb.2.2.2⟩
  refine ⟨A2.2 3 0, _, _, ?_, ?_, hA, Fr_t (Fr_t (Fr_st (by decide)) (Fr_mo (by decide) a4.1)) (Fr_st (by decide)), Fr_t (Fr_t (Fr_st (by decide)) (Fr_mo (by decide) a4.2.1)) (Fr_st (by decide)), F0r_t (F0r_t (F0r_st (by decide)) a4.2.2.1) (F0r_st (by decide)), fun i hi => ?_⟩
  · rw [f_Runs_coinBySchool, C_saveTo, bnd_s, C_weeksLeft W c2, bnd_s, ite_ltN (by omega) (by omega), e3, bl_e, bl_e, a1 _ F (by omega), C_ofNow cc (by omega) (by omega), bnd_s, bl_e, C_loadFrom, bnd_s]
    rfl
  · rw [f_M_schoolOf, M_tries (by omega), bnd_s, bl_e, a2 _ F (by omega), ifin (by omega) (by omega), bl_e, nI_clamp (by omega), m_coin mm, M_back (by omega), bnd_s]
  · rw [st_e]
    simp only [rg]
    rw [if_neg (by omega), a4.2.2.2 i hi, st_o (by decide)]
  · rw [st_e]
    simp only [rg]
    rw [if_neg (by omega), a4.2.2.2 i hi, st_o (by decide)]
    exact m.2.2.2.2 i hi
theorem ite_gtN {α : Type} {n a : Nat} {X Y : α} (hn : n < 2147483648) (ha : a < 2147483648) : (if nI n < nI a then X else Y) = if a ≤ n then Y else X := by
  rw [ite_ltN hn ha]
  by_cases z : n < a
  · rw [if_pos z, if_neg (by omega)]
  · rw [if_neg z, if_pos (by omega)]
theorem S_school {F : Nat} (hF : 20000 ≤ F) (a b : Int32) : Sim (f_LC_school F a b) (f_M_school F a b) := by
  intro P A hc hm q0
  have q := Rel_th (v := nI 0) q0
  have hC : f_LC_school F a b hc = if inb a 3 = true then (if nI 1 ≤ b ∧ b ≤ nI 50 then bnd (f_Runs_coinBySchool F a b hc) (fun r h => some (r, h)) else some (-1, hc)) else some (-1, hc) := by
    rw [f_LC_school]
    by_cases h1 : a < 0
    · rw [if_pos h1, if_neg (by simp [inb, h1])]
    · obtain ⟨j, hj, rfl⟩ := nI_of h1
      rw [if_neg h1, ite_gtN (by omega) hj, inb_nI hj]
      by_cases z : j ≤ 2
      · rw [if_pos z, if_pos (decide_eq_true (show j < 3 by omega))]
        by_cases x : b < nI 1
        · rw [if_pos x, if_neg (fun y => Int32.not_le.mpr x y.1)]
        · rw [if_neg x]
          by_cases y : b ≤ nI 50
          · rw [if_pos y, if_pos ⟨Int32.not_lt.mp x, y⟩]
          · rw [if_neg y, if_neg (fun w => y w.2)]
      · rw [if_neg z, if_neg (by simp; omega)]
  have hM : f_M_school F a b hm = if inb a 3 = true then (if nI 1 ≤ b ∧ b ≤ nI 50 then bnd (f_M_schoolOf F a b (sI hm 0 0 (nI 0))) (fun r h => some (r, h)) else some (-1, sI hm 0 0 (nI 0))) else some (-1, sI hm 0 0 (nI 0)) := by
    rw [f_M_school, bl_e, show nI 2 = nI 3 - nI 1 from rfl, M_isInN (by omega), bnd_s, ite_b0, M_isIn, bnd_s, ite_b0]
    by_cases z : inb a 3 = true
    · rw [if_pos z, if_pos z]
      by_cases y : nI 1 ≤ b ∧ b ≤ nI 50
      · rw [if_pos (decide_eq_true y), if_pos y]
      · rw [if_neg (by simpa using y), if_neg y]
    · rw [if_neg z, if_neg z]
  rw [hC, hM]
  by_cases z : inb a 3 = true
  · rw [if_pos z, if_pos z]
    by_cases y : nI 1 ≤ b ∧ b ≤ nI 50
    · rw [if_pos y, if_pos y]
      obtain ⟨hk, ek⟩ := inb_ex z
      generalize a.toNatClampNeg = s at hk ek
      subst ek
      obtain ⟨n, n1, n2, rfl⟩ := rg_ex (by omega) 1 y.1 y.2 (by omega)
      obtain ⟨v, hc2, hm2, a1, a2, a3, a4, a5, a6, a7⟩ := R_coin hF (show s ≤ 2 by omega) n2 (Rl0_of q)
      exact ⟨v, hc2, hm2, P, A, by rw [a1, bnd_s], by rw [a2, bnd_s], Rel_of0 q a3 a4 (by decide) a5 (by decide) a6 a7⟩
    · rw [if_neg y, if_neg y]
      exact ⟨_, _, _, P, A, rfl, rfl, q⟩
  · rw [if_neg z, if_neg z]
    exact ⟨_, _, _, P, A, rfl, rfl, q⟩
