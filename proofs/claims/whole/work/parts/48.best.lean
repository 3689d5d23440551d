/-! ===== best, saddest ===== -/
def coinV (F n : Nat) (h : HS) (s : Nat) : Int32 := match f_Runs_coinBySchool F (nI s) (nI n) h with
  | some z => z.1
  | none => 0
theorem coinV_e {F n s : Nat} {h h2 : HS} {v : Int32} (e : f_Runs_coinBySchool F (nI s) (nI n) h = some (v, h2)) : coinV F n h s = v := by
  unfold coinV
  rw [e]
theorem R_coinS {P : Pl} {A : Ab} {hc0 hm0 : HS} {F n : Nat} (hF : 20000 ≤ F) (hn : n ≤ 50) (q : Rl0 P A hc0 hm0) : (∀ s hc, s ≤ 2 → CR P A hc → WYr P hc → ∃ hc2, f_Runs_coinBySchool F (nI s) (nI n) hc = some (coinV F n hc0 s, hc2) ∧ CR P A hc2 ∧ WYr P hc2 ∧ Fr [21, 35, 36, 37] hc hc2) ∧ (∀ s hm, s ≤ 2 → MR P A hm → ∃ hm2, f_M_schoolOf F (nI s) (nI n) hm = some (coinV F n hc0 s, hm2) ∧ MR P A hm2 ∧ Fr [0, 2, 8, 9] hm hm2 ∧ F0r [31] hm hm2 ∧ ∀ i, 151 ≤ i → hm2.1 2 i = hm.1 2 i) := by
  refine ⟨fun s hc hs c Y => ?_, fun s hm hs m => ?_⟩
  · obtain ⟨v, a, b, e1, e2, -⟩ := R_coin hF hs hn q
    obtain ⟨v2, a2, b2, e3, e4, r, f1, -⟩ := R_coin hF hs hn (show Rl0 P A hc hm0 from ⟨c, q.2.1, q.2.2.1, Y⟩)
    rw [e2] at e4
    have e5 : v = v2 := congrArg Prod.fst (Option.some.inj e4)
    rw [coinV_e e1, e5]
    exact ⟨a2, e3, r.1, r.2.2.2, f1⟩
  · obtain ⟨v, a, b, e1, e2, r, -, f1, f2, f3⟩ := R_coin hF hs hn (show Rl0 P A hc0 hm from ⟨q.1, m, q.2.2.1, q.2.2.2⟩)
    rw [coinV_e e1]
    exact ⟨b, e2, r.2.1, f1, f2, f3⟩
theorem S_best {F : Nat} (hF : 20000 ≤ F) (a : Int32) : Sim (f_LC_best F a) (f_M_best F a) := by
  intro P A hc hm q0
  have q := Rel_th (v := nI 0) q0
  rw [f_LC_best, f_M_best, bl_e, M_isIn, bnd_s, ite_b0]
  by_cases x : a < nI 1
  · rw [if_pos x, if_neg (fun y => Int32.not_le.mpr x (of_decide_eq_true y).1)]
    exact ⟨_, _, _, P, A, rfl, rfl, q⟩
  · rw [if_neg x]
    by_cases y : a ≤ nI 50
    · rw [if_pos y, if_pos (decide_eq_true ⟨Int32.not_lt.mp x, y⟩)]
      obtain ⟨n, n1, n2, rfl⟩ := rg_ex (by omega) 1 (Int32.not_lt.mp x) y (by omega)
      obtain ⟨kc, km⟩ := R_coinS hF n2 (Rl0_of q)
      generalize hv : coinV F n hc = v at kc km
      obtain ⟨hc1, a1, b1, c1, d1⟩ := kc 0 hc (by omega) q.1 q.2.2.2.1
      obtain ⟨hc2, a2, b2, c2, d2⟩ := kc 1 hc1 (by omega) b1 c1
      obtain ⟨hc3, a3, b3, c3, d3⟩ := kc 2 hc2 (by omega) b2 c2
      obtain ⟨hm1, e1, f1, g1, i1, j1⟩ := km 1 _ (by omega) q.2.1
      obtain ⟨hm2, e2, f2, g2, i2, j2⟩ := km 0 hm1 (by omega) f1
      obtain ⟨hm3, e3, f3, g3, i3, j3⟩ := km 2 hm2 (by omega) f2
      obtain ⟨t, ht, ht2⟩ : ∃ t, t ≤ 1 ∧ t = if v 1 ≤ v 0 then 0 else 1 := ⟨_, by split <;> omega, rfl⟩
      obtain ⟨hm4, e4, f4, g4, i4, j4⟩ := km t hm3 (by omega) f3
      obtain ⟨g, hg⟩ : ∃ g, F = g + 1 + 1 + 1 := ⟨F - 3, by omega⟩
      have hM : l_M_best_0 F (nI n) F (nI 0) (nI 1) (sI hm 0 0 (nI 0)) = some ((if v 2 ≤ v t then nI t else nI 2), hm4) := by
        have fin : ∀ X h, l_M_best_0 F (nI n) (g + 1) X (nI 3) h = some (X, h) := fun X h => by rw [l_M_best_0, if_pos (by decide)]
        have sec : l_M_best_0 F (nI n) (g + 1 + 1) (nI t) (nI 2) hm2 = some ((if v 2 ≤ v t then nI t else nI 2), hm4) := by
          rw [l_M_best_0, if_neg (by decide), e3, bnd_s, e4, bnd_s, bl_e]
          by_cases z : v 2 ≤ v t
          · rw [if_pos z, if_pos z]
            exact fin _ _
          · rw [if_neg z, if_neg z]
            exact fin _ _
        have fst : l_M_best_0 F (nI n) (g + 1 + 1 + 1) (nI 0) (nI 1) (sI hm 0 0 (nI 0)) = l_M_best_0 F (nI n) (g + 1 + 1) (nI t) (nI 2) hm2 := by
          rw [l_M_best_0, if_neg (by decide), e1, bnd_s, e2, bnd_s, bl_e]
          by_cases z : v 1 ≤ v 0
          · rw [if_pos z, ht2, if_pos z]
            rfl
          · rw [if_neg z, ht2, if_neg z]
            rfl
        rw [← sec, ← fst, ← hg]
      rw [a1, bnd_s, bl_e, a2, bnd_s, bl_e, a3, bnd_s, bl_e, bl_e, bl_e, bl_e, hM]
      have hR : Rel P A hc3 hm4 := Rel_of0 q ⟨b3, f4, q.2.2.1, c3⟩ (Fr_t (Fr_t d1 d2) d3) (by decide) (Fr_t (Fr_t (Fr_t g1 g2) g3) g4) (by decide) (F0r_t (F0r_t (F0r_t i1 i2) i3) i4) (fun i hi => by rw [j4 i hi, j3 i hi, j2 i hi, j1 i hi])
      refine ⟨if v 2 ≤ v t then nI t else nI 2, hc3, hm4, P, A, ?_, rfl, hR⟩
      dsimp only
      by_cases z : v 1 ≤ v 0
      · rw [if_pos z] at ht2
        subst ht2
        rw [if_neg (Int32.not_lt.mpr z)]
        by_cases w : v 2 ≤ v 0
        · rw [if_neg (Int32.not_lt.mpr w), if_pos w]
        · have w2 := Int32.not_le.mp w
          rw [if_pos w2, if_neg w, if_pos (show v 1 < v 2 from Int32.lt_of_le_of_lt z w2)]
      · rw [if_neg z] at ht2
        subst ht2
        rw [if_pos (Int32.not_le.mp z)]
        by_cases w : v 2 ≤ v 1
        · rw [if_neg (Int32.not_lt.mpr w), if_pos w]
        · rw [if_pos (Int32.not_le.mp w), if_neg w]
    · rw [if_neg y, if_neg (fun w => y (of_decide_eq_true w).2)]
      exact ⟨_, _, _, P, A, rfl, rfl, q⟩
/-- the saddest of the first k, and 1 -/
def sdF (P : Pl) (A : Ab) : Nat → Nat
  | 0 => 0
  | k + 1 => if 3 ≤ A.1 1 k then sdF P A k else (if safeC P A k 0 = true then (if sdF P A k = 0 then k + 1 else (if nearC P A k 0 ≤ nearC P A (sdF P A k - 1) 0 then sdF P A k else k + 1)) else sdF P A k)
theorem sdF_le {P : Pl} {A : Ab} : ∀ k, sdF P A k ≤ k := by
  intro k
  induction k with
  | zero => exact Nat.le_refl _
  | succ k ih => unfold sdF; (repeat' split) <;> omega
theorem nearC_lt {P : Pl} {A : Ab} (W : WFP P) (c s : Nat) : nearC P A c s < 2147483648 := by
  have h1 := fo_le W A c s
  have h2 := ag_le W A c s
  have := near_le W (x := fo P A c s) (y := ag P A c s) (by omega) (by omega) h2.2
  unfold nearC
  omega
theorem C_sdL {P : Pl} {A : Ab} {F : Nat} {h : HS} (W : WF P A) (R : CR P A h) : ∀ (j k : Nat), k + j = P 0 3 → ∀ g, j < g → l_LC_saddest_0 F g (pI (sdF P A k)) (nI k) h = some (pI (sdF P A (P 0 3)), h) := by
  obtain ⟨⟨wN, wNM, wM, wCo, w3, w4, w5, wC, wD, wK⟩, wAc, wAk, wAw, wAf⟩ := id W
  intro j
  induction j with
  | zero =>
    intro k hk g hg
    obtain ⟨g, rfl⟩ : ∃ z, g = z + 1 := ⟨g - 1, by omega⟩
    rw [l_LC_saddest_0, C_causes R.1, bnd_s, ite_leN (by omega) (by omega), if_pos (by omega), show k = P 0 3 by omega]
  | succ j ih =>
    intro k hk g hg
    obtain ⟨g, rfl⟩ : ∃ z, g = z + 1 := ⟨g - 1, by omega⟩
    have ih := ih (k + 1) (by omega) g (by omega)
    have hs := (wAc k (by omega)).1
    have hl := sdF_le (P := P) (A := A) k
    have hn := fun s => nearC_lt W.1 (A := A) s 0
    rw [← ih, l_LC_saddest_0, C_causes R.1, bnd_s, ite_leN (by omega) (by omega), if_neg (by omega), C_ofCause w3 R (by omega) (by omega), bnd_s, bl_e, bl_e]
    show (if nI (A.1 1 k) = nI 3 then _ else (if nI (A.1 1 k) = nI 4 then _ else _)) = _
    rw [ite_eqN (by omega) (by omega), ite_eqN (by omega) (by omega), C_isSafe W R (by omega), bnd_s, ite_b0, bl_e, ite_pn (by omega), sdF]
    by_cases e1 : A.1 1 k = 3
    · rw [if_pos e1, if_pos (by omega)]
      dsimp only [bl]
      rw [nI_add]
    · rw [if_neg e1]
      by_cases e2 : A.1 1 k = 4
      · rw [if_pos e2, if_pos (by omega)]
        dsimp only [bl]
        rw [nI_add]
      · rw [if_neg e2, if_neg (show ¬ 3 ≤ A.1 1 k by omega)]
        by_cases e3 : safeC P A k 0 = true
        · rw [if_pos e3, if_pos e3]
          by_cases e4 : sdF P A k = 0
          · rw [if_pos e4, if_pos e4]
            dsimp only [bl]
            rw [nI_add, pI_s]
          · rw [if_neg e4, if_neg e4, C_nearness W R (by omega), bnd_s, pI_p (by omega), C_nearness W R (by omega), bnd_s, ite_leN (hn _) (hn _)]
            by_cases e5 : nearC P A k 0 ≤ nearC P A (sdF P A k - 1) 0
            · rw [if_pos e5, if_pos e5]
              dsimp only [bl]
              rw [nI_add, pI_p (by omega)]
            · rw [if_neg e5, if_neg e5]
              dsimp only [bl]
              rw [nI_add, pI_s]
        · rw [if_neg e3, if_neg e3]
          dsimp only [bl]
          rw [nI_add]
theorem M_sdL {P : Pl} {A : Ab} {F : Nat} {h : HS} (hF : 20000 ≤ F) (W : WF P A) (R : MR P A h) : ∀ (j k : Nat), k + j = P 0 3 → ∀ g, j < g → l_M_saddest_0 F g (pI (sdF P A k)) (nI k) h = some (pI (sdF P A (P 0 3)), h) := by
  obtain ⟨⟨wN, wNM, wM, wCo, w3, w4, w5, wC, wD, wK⟩, wAc, wAk, wAw, wAf⟩ := id W
  have h64 := p64 w4
  intro j
  induction j with
  | zero =>
    intro k hk g hg
    obtain ⟨g, rfl⟩ : ∃ z, g = z + 1 := ⟨g - 1, by omega⟩
    rw [l_M_saddest_0, ifin (by omega) (by omega), nI_clamp (by omega), m_0 R, ite_leN (by omega) (by omega), if_pos (by omega), show k = P 0 3 by omega]
  | succ j ih =>
    intro k hk g hg
    obtain ⟨g, rfl⟩ : ∃ z, g = z + 1 := ⟨g - 1, by omega⟩
    have ih := ih (k + 1) (by omega) g (by omega)
    have hs := (wAc k (by omega)).1
    have hl := sdF_le (P := P) (A := A) k
    have hn := fun s => nearC_lt W.1 (A := A) s 0
    rw [← ih, l_M_saddest_0, ifin (by omega) (by omega), nI_clamp (by omega), m_0 R, ite_leN (by omega) (by omega), if_neg (by omega), nI_add, ifin (by omega) (by omega), nI_clamp (by omega), m_state R (by omega), bl_e, ite_leN (by omega) (by omega), M_isSafe W (by omega) R (by omega) h64.1, bnd_s, ite_b0, bl_e, ite_plt (by omega), sdF]
    by_cases e1 : 3 ≤ A.1 1 k
    · rw [if_pos e1, if_pos e1]
      dsimp only [bl]
      rw [nI_add]
    · rw [if_neg e1, if_neg e1]
      by_cases e3 : safeC P A k 0 = true
      · rw [if_pos e3, if_pos e3]
        by_cases e4 : sdF P A k = 0
        · rw [if_pos e4, if_pos e4]
          dsimp only [bl]
          rw [nI_add, pI_s]
        · rw [if_neg e4, if_neg e4, M_nearOf W (by omega) R (by omega) h64.1, bnd_s, pI_p (by omega), M_nearOf W (by omega) R (by omega) h64.1, bnd_s, ite_leN (hn _) (hn _)]
          by_cases e5 : nearC P A k 0 ≤ nearC P A (sdF P A k - 1) 0
          · rw [if_pos e5, if_pos e5]
            dsimp only [bl]
            rw [nI_add, pI_p (by omega)]
          · rw [if_neg e5, if_neg e5]
            dsimp only [bl]
            rw [nI_add, pI_s]
      · rw [if_neg e3, if_neg e3]
        dsimp only [bl]
        rw [nI_add]
theorem S_saddest {F : Nat} (hF : 20000 ≤ F) : Sim (f_LC_saddest F) (f_M_saddest F) := Sim_rd fun P A hc hm q => by
  obtain ⟨c, m, W, -⟩ := id q
  obtain ⟨⟨wN, wNM, wM, wCo, w3, w4, w5, wC, wD, wK⟩, wAc, wAk, wAw, wAf⟩ := id W
  refine ⟨pI (sdF P A (P 0 3)), ?_, ?_⟩
  · rw [f_LC_saddest, bl_e, bl_e, ← pI_0]
    exact C_sdL W c (P 0 3) 0 (by omega) F (by omega)
  · rw [f_M_saddest, bl_e, bl_e, bl_e, ← pI_0]
    exact M_sdL hF W m (P 0 3) 0 (by omega) F (by omega)
