/-! ===== said ===== -/
theorem Rel_m15 {P : Pl} {A : Ab} {hc hm : HS} {f2 : Nat → Int32} (q : Rel P A hc hm) : Rel P A hc (st hm 15 f2) := by
  have q0 := q
  obtain ⟨c, m, w, -, u, -, -⟩ := q
  exact Rel_mk q0 c (MR_st (by decide) m) w rfl (UD_fr u rfl (fun j hj => rfl) (st_o (by decide)) (by rw [st_o (by decide)])) Fr_rf (Fr_st (by decide)) (F0r_st (by decide))
theorem T_holds {P : Pl} {A : Ab} {F c m : Nat} {hc hm : HS} (hF : 20000 ≤ F) (W : WF P A) (R : CR P A hc) (S : MR P A hm) (hk : c < P 0 3) (hm4 : m ≤ 40) (h0 : 0 < m) (e1 : hc.1 42 3 = nI m) (e2 : hm.1 2 151 = nI m) (co : ∀ i, i < m → cdOK (hc.1 43 i) (hc.1 44 i) (hc.1 45 i) (hm.1 2 (152 + 3 * i)) (hm.1 2 (153 + 3 * i)) (hm.1 2 (154 + 3 * i))) (dp : dpOK (hc.1 43) m) (f : Nat → Int32) : ∃ b f2, b < 2 ∧ f_Sent_holdsOf_42 F (nI c) hc = some (nI b, hc) ∧ f_M_isSaid F (nI c) (st hm 15 f) = some (nI b, st hm 15 f2) := by
  obtain ⟨b, f2, a1, a2, a3⟩ := T_sdL hF W R S hk hm4 h0 e1 e2 co dp m 0 (by omega) f [] rfl trivial
  refine ⟨b, f2, a1, ?_, ?_⟩
  · rw [f_Sent_holdsOf_42, bl_e, bl_e]
    show l_Sent_holdsOf_42_0 F (nI c) _ F (nI (tv [])) (nI 0) hc = _
    rw [a2 _ F (by omega)]
    rcases (show b = 0 ∨ b = 1 by omega) with e | e <;> subst e
    · rw [show (nI 0 &&& nI 1) = 0 by decide, if_pos rfl, rZ0]
    · rw [show (nI 1 &&& nI 1) = nI 1 by decide, if_neg (show ¬ nI 1 = 0 by decide), rZ1]
  · rw [f_M_isSaid, bl_e, bl_e]
    exact a3 F (by omega)
theorem T_saidL {P : Pl} {A : Ab} {F m : Nat} {a : Int32} {hc hm : HS} {K : Int32 → HS → Option (Int32 × HS)} (hF : 20000 ≤ F) (hK : ∀ v h, ∃ w, K v h = some (w, h) ∧ ∀ h2, K v h2 = some (w, h2)) (W : WF P A) (R : CR P A hc) (S : MR P A hm) (hm4 : m ≤ 40) (h0 : 0 < m) (e1 : hc.1 42 3 = nI m) (e2 : hm.1 2 151 = nI m) (co : ∀ i, i < m → cdOK (hc.1 43 i) (hc.1 44 i) (hc.1 45 i) (hm.1 2 (152 + 3 * i)) (hm.1 2 (153 + 3 * i)) (hm.1 2 (154 + 3 * i))) (dp : dpOK (hc.1 43) m) : ∀ (j i : Nat), i + j = P 0 3 → ∀ (f : Nat → Int32) (cnt : Int32), ∃ v f2, (∀ g, j < g → l_LC_said_0 F a K g cnt (nI i) hc = some (v, hc)) ∧ (∀ g, j < g → l_M_said_0 F a K g cnt (nI i) (st hm 15 f) = some (v, st hm 15 f2)) := by
  obtain ⟨⟨wN, wNM, wM, wCo, w3, w4, w5, wC, wD, wK⟩, wAc, wAk, wAw, wAf⟩ := id W
  have e0 : ∀ f, (st hm 15 f).1 2 0 = nI (P 0 3) := fun f => by rw [st_o (by decide)]; exact S.1.1.1
  intro j
  induction j with
  | zero =>
    intro i hi f cnt
    obtain ⟨w, k1, k2⟩ := hK cnt hc
    refine ⟨w, f, fun g hg => ?_, fun g hg => ?_⟩
    · obtain ⟨g, rfl⟩ : ∃ z, g = z + 1 := ⟨g - 1, by omega⟩
      rw [l_LC_said_0, C_causes R.1, bnd_s, ite_leN (by omega) (by omega), if_pos (by omega), k1]
    · obtain ⟨g, rfl⟩ : ∃ z, g = z + 1 := ⟨g - 1, by omega⟩
      rw [l_M_said_0, ifin (by omega) (by omega), nI_clamp (by omega), e0, ite_leN (by omega) (by omega), if_pos (by omega), k2]
  | succ j ih =>
    intro i hi f cnt
    obtain ⟨b, f2, hb, b1, b2⟩ := T_holds hF W R S (show i < P 0 3 by omega) hm4 h0 e1 e2 co dp f
    have C : ∀ g, l_LC_said_0 F a K (g + 1) cnt (nI i) hc = (if nI b = 0 then l_LC_said_0 F a K g cnt (nI (i + 1)) hc else if cnt = a then some (nI i, hc) else l_LC_said_0 F a K g (cnt + nI 1) (nI (i + 1)) hc) := fun g => by
      rw [l_LC_said_0, C_causes R.1, bnd_s, ite_leN (by omega) (by omega), if_neg (by omega), b1, bnd_s]
      dsimp only [bl]
      rw [nI_add]
    have M : ∀ g, l_M_said_0 F a K (g + 1) cnt (nI i) (st hm 15 f) = (if nI b = 0 then l_M_said_0 F a K g cnt (nI (i + 1)) (st hm 15 f2) else if cnt = a then some (nI i, st hm 15 f2) else l_M_said_0 F a K g (cnt + nI 1) (nI (i + 1)) (st hm 15 f2)) := fun g => by
      rw [l_M_said_0, ifin (by omega) (by omega), nI_clamp (by omega), e0, ite_leN (by omega) (by omega), if_neg (by omega), b2, bnd_s]
      dsimp only [bl]
      rw [nI_add]
    by_cases h1 : nI b = 0
    · obtain ⟨v, f3, a1, a2⟩ := ih (i + 1) (by omega) f2 cnt
      refine ⟨v, f3, fun g hg => ?_, fun g hg => ?_⟩
      · obtain ⟨g, rfl⟩ : ∃ z, g = z + 1 := ⟨g - 1, by omega⟩
        rw [C, if_pos h1, a1 g (by omega)]
      · obtain ⟨g, rfl⟩ : ∃ z, g = z + 1 := ⟨g - 1, by omega⟩
        rw [M, if_pos h1, a2 g (by omega)]
    · by_cases h2 : cnt = a
      · refine ⟨nI i, f2, fun g hg => ?_, fun g hg => ?_⟩
        · obtain ⟨g, rfl⟩ : ∃ z, g = z + 1 := ⟨g - 1, by omega⟩
          rw [C, if_neg h1, if_pos h2]
        · obtain ⟨g, rfl⟩ : ∃ z, g = z + 1 := ⟨g - 1, by omega⟩
          rw [M, if_neg h1, if_pos h2]
      · obtain ⟨v, f3, a1, a2⟩ := ih (i + 1) (by omega) f2 (cnt + nI 1)
        refine ⟨v, f3, fun g hg => ?_, fun g hg => ?_⟩
        · obtain ⟨g, rfl⟩ : ∃ z, g = z + 1 := ⟨g - 1, by omega⟩
          rw [C, if_neg h1, if_neg h2, a1 g (by omega)]
        · obtain ⟨g, rfl⟩ : ∃ z, g = z + 1 := ⟨g - 1, by omega⟩
          rw [M, if_neg h1, if_neg h2, a2 g (by omega)]
theorem S_said {F : Nat} (hF : 20000 ≤ F) (a : Int32) : Sim (f_LC_said F a) (f_M_said F a) := by
  intro P A hc hm q0
  have q := Rel_th (v := nI 0) q0
  obtain ⟨c, m, W, Y, U, s, o⟩ := id q
  obtain ⟨n, n1, n2, n3, n4, n5⟩ := s
  rw [f_M_said, bl_e]
  generalize sI hm 0 0 (nI 0) = hm' at *
  have e2 : hm'.1 2 151 = nI n := (m.2.2.2.2 151 (by omega)).trans n3
  have co : ∀ i, i < n → cdOK (hc.1 43 i) (hc.1 44 i) (hc.1 45 i) (hm'.1 2 (152 + 3 * i)) (hm'.1 2 (153 + 3 * i)) (hm'.1 2 (154 + 3 * i)) := fun i hi => by
    rw [m.2.2.2.2 _ (by omega), m.2.2.2.2 _ (by omega), m.2.2.2.2 _ (by omega)]
    exact n4 i hi
  rw [f_LC_said, f_Sent_isEmpty_42, n2, ifin (by omega) (by omega), nI_clamp (by omega), e2, ite_eq0 (by omega), ite_eq0 (by omega)]
  by_cases h : n = 0
  · rw [if_pos h, if_pos h, rZ1, bnd_s, if_neg (show ¬ nI 1 = 0 by decide)]
    exact ⟨_, _, _, P, A, rfl, rfl, q⟩
  · rw [if_neg h, if_neg h, rZ0, bnd_s, if_pos (show nI 0 = 0 from rfl)]
    by_cases h1 : (-1 : Int32) ≤ a
    · rw [if_pos h1, if_pos h1, bl_e, bl_e, bl_e, bl_e]
      obtain ⟨v, f2, a1, a2⟩ := T_saidL (F := F) (a := a) (K := fun v11 h12 => if a = (-1 : Int32) then some (v11, h12) else some ((-1 : Int32), h12)) hF (fun v h => by
        by_cases z : a = -1
        · exact ⟨v, by rw [if_pos z], fun h2 => by rw [if_pos z]⟩
        · exact ⟨-1, by rw [if_neg z], fun h2 => by rw [if_neg z]⟩) W c m n1 (by omega) n2 e2 co n5 (P 0 3) 0 (by omega) (hm'.1 15) (nI 0)
      rw [st_s] at a2
      have w3 := W.1.2.2.2.2.1
      exact ⟨v, _, _, P, A, a1 F (by omega), a2 F (by omega), Rel_m15 q⟩
    · rw [if_neg h1, if_neg h1]
      exact ⟨_, _, _, P, A, rfl, rfl, q⟩
