/-! ===== risk ===== -/
theorem R_rskL {P : Pl} {A : Ab} {F n : Nat} {b : Int32} {r0 s0 : Nat → Int32} (hF : 20000 ≤ F) (hn : n ≤ 40) (W : WF P A) (hr : RC P A r0) (hs : RM0 P A s0) : ∀ (j i : Nat) (cnt : Int32) (hc hm : HS), i + j = n → Rl0 P A hc hm → (∀ x, x < 91 → hc.1 82 x = r0 x) → (∀ x, x < 79 → hm.1 8 x = s0 (72 + x)) → ∃ v hc2 hm2, (∀ g, j < g → l_LC_risk_0 F (nI n) b (A.2 4 0) g cnt (nI i) hc = some (v, hc2)) ∧ (∀ g, j < g → l_M_risk_0 F (nI n) b g cnt (nI i) hm = some (v, hm2)) ∧ Rl0 P A hc2 hm2 ∧ Fr [21, 35, 36] hc hc2 ∧ Fr [0, 2, 9] hm hm2 ∧ F0r [31] hm hm2 ∧ ∀ i, 151 ≤ i → hm2.1 2 i = hm.1 2 i := by
  intro j
  induction j with
  | zero =>
    intro i cnt hc hm hi q _ _
    refine ⟨cnt, hc, hm, fun g hg => ?_, fun g hg => ?_, q, Fr_rf, Fr_rf, F0r_rf, fun _ _ => rfl⟩
    · obtain ⟨g, rfl⟩ : ∃ z, g = z + 1 := ⟨g - 1, by omega⟩
      rw [l_LC_risk_0, ite_leN (by omega) (by omega), if_pos (by omega)]
    · obtain ⟨g, rfl⟩ : ∃ z, g = z + 1 := ⟨g - 1, by omega⟩
      rw [l_M_risk_0, ite_leN (by omega) (by omega), if_pos (by omega)]
  | succ j ih =>
    intro i cnt hc hm hi q e1 e2
    obtain ⟨A2, hc1, hm1, a1, a2, a3, a4⟩ := R_drawn (F := F) (n := 20) hF (by omega) (b + nI i) q
    have f1 : ∀ x, x < 91 → hc1.1 82 x = r0 x := fun x hx => by rw [(a4.1 82 (by decide)).1]; exact e1 x hx
    have f2 : ∀ x, x < 79 → hm1.1 8 x = s0 (72 + x) := fun x hx => by rw [(a4.2.1 8 (by decide)).1]; exact e2 x hx
    have hb := Rl0_back (j := 82) a3 W hr hs f1 f2
    have k7 : ∀ i, 151 ≤ i → (st hm1 2 (rg (hm1.1 2) 72 151 (fun i => hm1.1 8 (i - 72)))).1 2 i = hm.1 2 i := fun i hi => by
      rw [st_e]
      simp only [rg]
      rw [if_neg (by omega), a4.2.2.2 i hi]
    have hA : Rl0 P A _ _ := ⟨CR_fA hb.1, MR_fA hb.2.1 (fun i hi => by rw [k7 i hi]; exact q.2.1.2.2.2.2 i hi), W, hb.2.2.2⟩
    have z1 : ∀ x, x < 91 → (st hc1 21 (va_cpy (hc1.1 82) (hc1.1 21) 0 0 91)).1 82 x = r0 x := fun x hx => by rw [st_o (by decide)]; exact f1 x hx
    have z2 : ∀ x, x < 79 → (st hm1 2 (rg (hm1.1 2) 72 151 (fun i => hm1.1 8 (i - 72)))).1 8 x = s0 (72 + x) := fun x hx => by rw [st_o (by decide)]; exact f2 x hx
    obtain ⟨v, hc2, hm2, b1, b2, b3, b4, b5, b6, b7⟩ := ih (i + 1) (if A2.2 4 0 ≤ A.2 4 0 then cnt else cnt + nI 1) _ _ (by omega) hA z1 z2
    refine ⟨v, hc2, hm2, fun g hg => ?_, fun g hg => ?_, b3, Fr_t a4.1 (Fr_t (Fr_st (by decide)) b4), Fr_t a4.2.1 (Fr_t (Fr_st (by decide)) b5), F0r_t a4.2.2.1 (F0r_t (F0r_st (by decide)) b6), fun i hi => by rw [b7 i hi, k7 i hi]⟩
    · obtain ⟨g, rfl⟩ : ∃ z, g = z + 1 := ⟨g - 1, by omega⟩
      have b1 := b1 g (by omega)
      rw [l_LC_risk_0, ite_leN (by omega) (by omega), if_neg (by omega), a1, bnd_s, C_ofNow a3.1 (by omega) (by omega), bnd_s]
      dsimp only [bl]
      show (if A2.2 4 0 ≤ A.2 4 0 then _ else _) = _
      by_cases z : A2.2 4 0 ≤ A.2 4 0
      · rw [if_pos z] at b1 ⊢
        rw [C_loadFrom, bnd_s, nI_add]
        exact b1
      · rw [if_neg z] at b1 ⊢
        rw [C_loadFrom, bnd_s, nI_add]
        exact b1
    · obtain ⟨g, rfl⟩ : ∃ z, g = z + 1 := ⟨g - 1, by omega⟩
      have b2 := b2 g (by omega)
      rw [l_M_risk_0, ite_leN (by omega) (by omega), if_neg (by omega), ifin (by omega) (by omega), nI_clamp (by omega), m_disg q.2.1, a2]
      dsimp only [bl]
      rw [bnd_s, ifin (by omega) (by omega), m_disg a3.2.1]
      by_cases z : A2.2 4 0 ≤ A.2 4 0
      · rw [if_pos z] at b2 ⊢
        rw [M_back (by omega), bnd_s, nI_add, show cnt + nI 0 = cnt from Int32.add_zero cnt]
        exact b2
      · rw [if_neg z] at b2 ⊢
        rw [M_back (by omega), bnd_s, nI_add]
        exact b2
theorem S_risk {F : Nat} (hF : 20000 ≤ F) (a b : Int32) : Sim (f_LC_risk F a b) (f_M_risk F a b) := by
  intro P A hc hm q0
  have q := Rel_th (v := nI 0) q0
  obtain ⟨c, m, W, -⟩ := id q
  obtain ⟨⟨wN, wNM, wM, wCo, w3, w4, w5, wC, wD, wK⟩, wAc, wAk, wAw, wAf⟩ := id W
  rw [f_LC_risk, f_M_risk, bl_e, M_isIn, bnd_s, ite_b0]
  by_cases x : a < nI 1
  · rw [if_pos x, if_neg (fun y => Int32.not_le.mpr x (of_decide_eq_true y).1)]
    exact ⟨_, _, _, P, A, rfl, rfl, q⟩
  · rw [if_neg x]
    by_cases y : a ≤ nI 40
    · rw [if_neg (Int32.not_lt.mpr y), if_pos (decide_eq_true ⟨Int32.not_lt.mp x, y⟩), C_clerks c.1, bnd_s, ite_eq0 (by omega), ifin (by omega) (by omega), nI_clamp (by omega), m_2 m, ite_eq0 (by omega)]
      obtain ⟨n, n1, n2, rfl⟩ := rg_ex (by omega) 1 (Int32.not_lt.mp x) y (by omega)
      by_cases z : P 0 5 = 0
      · rw [if_pos z, if_pos z]
        exact ⟨_, _, _, P, A, rfl, rfl, q⟩
      · rw [if_neg z, if_neg z, C_saveTo, bnd_s, M_tries (by omega), bnd_s]
        have q2 := Rl0_save (j := 82) (f := va_cpy (hc.1 21) (hc.1 82) 0 0 91) (f2 := rg ((sI hm 0 0 (nI 0)).1 8) 0 79 (fun i => (sI hm 0 0 (nI 0)).1 2 (72 + i))) (Or.inr rfl) (Rl0_of q)
        obtain ⟨v, hc2, hm2, b1, b2, b3, b4, b5, b6, b7⟩ := R_rskL (F := F) (n := n) (b := b) hF n2 W c.2 m.2 n 0 (nI 0) _ _ (by omega) q2 (fun x hx => by rw [st_e, cpy_in hx]) (fun x hx => by rw [st_e]; simp only [rg]; rw [if_pos (by omega)])
        rw [C_ofNow q2.1 (by omega) (by omega), bnd_s]
        dsimp only [bl]
        have b1 := b1 F (by omega)
        have b2 := b2 F (by omega)
        refine ⟨v, hc2, hm2, P, A, b1, b2, Rel_of0 q b3 (Fr_t (Fr_st (S := [21, 35, 36, 82]) (by decide)) (Fr_mo (by decide) b4)) (by decide) (Fr_t (Fr_st (S := [0, 2, 8, 9]) (by decide)) (Fr_mo (by decide) b5)) (by decide) (F0r_t (F0r_st (by decide)) b6) (fun i hi => by rw [b7 i hi, st_o (by decide)])⟩
    · rw [if_pos (Int32.not_le.mp y), if_neg (fun w => y (of_decide_eq_true w).2)]
      exact ⟨_, _, _, P, A, rfl, rfl, q⟩
