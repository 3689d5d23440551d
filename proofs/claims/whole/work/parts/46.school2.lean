theorem M_w0N {F s : Nat} {x1 x3 x4 : Int32} {h : HS} {K : Int32 → HS → Option (Unit × HS)} (hs : s < 2) : ∀ g, 0 < g → l_M_works_0 F x1 (nI s) x4 K g x3 (nI 5) h = K x3 h := by
  intro g hg
  obtain ⟨g, rfl⟩ : ∃ z, g = z + 1 := ⟨g - 1, by omega⟩
  rw [l_M_works_0, ite_lt0 (by omega), if_neg (fun z => by have := nI_inj (by omega) (by omega) z; omega)]
theorem lt_pI {α : Type} {b : Nat} (hb : b < 2147483648) {X Y : α} : (if 0 < pI b then X else Y) = if 2 ≤ b then X else Y := by
  rcases Nat.eq_zero_or_pos b with e | e
  · subst e
    rw [pI_0, if_neg (by decide), if_neg (by omega)]
  · rw [pI_p e, ite_gt0 (by omega)]
    by_cases z : b = 1
    · rw [if_pos (by omega), if_neg (by omega)]
    · rw [if_neg (by omega), if_pos (by omega)]
theorem R_schoolB {P : Pl} {A : Ab} {hc hm : HS} {F k s : Nat} (hF : 20000 ≤ F) (q : Rl0 P A hc hm) (hk : k < P 0 5) (hs : s ≤ 2) (h0 : A.1 6 k ≠ 0) : StpR P A hc hm (f_Runs_followSchool F (nI s) (nI k) hc) (f_M_works F (nI k) (nI s) hm) := by
  obtain ⟨cc, m, W, Y⟩ := id q
  obtain ⟨⟨wN, wNM, wM, wCo, w3, w4, w5, wC, wD, wK⟩, wAc, wAk, wAw, wAf⟩ := id W
  have h64 := p64 w4
  have q1 := wAk k hk
  have hz2 := wK k
  obtain ⟨c, hcc⟩ : ∃ c, A.1 6 k = c + 1 := ⟨A.1 6 k - 1, by omega⟩
  have hc3 : c < P 0 3 := by omega
  have hcl : f_Desk_ofClerk (nI k) (nI 2) hc = some (nI c, hc) := by
    rw [C_ofClerk w5 cc hk (by omega)]
    show some (pI (A.1 6 k), hc) = _
    rw [hcc, pI_s]
  rw [f_Runs_followSchool, C_isFree W cc hk, bnd_s, bl_e, ite_b0, if_neg (by simpa using h0)]
  dsimp only
  rw [hcl, bnd_s, bl_e, if_neg (nI_nn (by omega)), ite_eq0 (by omega)]
  rw [f_M_works, nI_add, ifin (by omega) (by omega), nI_clamp (by omega), m_has m hk, bl_e, ite_eq0 (by omega), if_neg h0]
  dsimp only
  rw [bl_e, bl_e, bl_e]
  rcases (show s = 0 ∨ s = 1 ∨ s = 2 by omega) with e | e | e
  · subst e
    rw [if_pos rfl, if_neg (show ¬ nI 0 = nI 1 by decide)]
    dsimp only
    rw [bl_e, M_w0N (by omega) F (by omega), if_pos (show nI 0 = 0 from rfl), if_pos (show (-1 : Int32) < 0 by decide)]
    obtain ⟨A2, hc2, hm2, a, b, d⟩ := R_dropIf (F := F) (by omega) q hk
    exact ⟨A2, hc2, hm2, by rw [a, bnd_s], b, d⟩
  · subst e
    rw [if_neg (by omega), if_pos (show nI 1 = nI 1 from rfl), if_pos (show nI 1 = nI 1 from rfl), C_ofClerk w5 cc hk (by omega), bnd_s, nI_add, ifin (by omega) (by omega), ifin (by omega) (by omega), nI_clamp (by omega), m_zeal m hk, m_has m hk, hcc, nI_sb (by omega), Nat.add_sub_cancel]
    obtain ⟨f, e1⟩ := C_nearestSet (F := F) (n := A.1 5 k) (by omega) (by omega) W hc3 cc Y
    obtain ⟨f2, e2⟩ := M_nearestOf (F := F) (n := A.1 5 k) (by omega) (by omega) W hc3 m
    have e1 : f_Ways_nearestSet F (nI c) (rkC P A k 0) hc = _ := e1
    have hr := nrF_le (P := P) (A := A) (c := c) (n := A.1 5 k) (2 ^ P 0 4)
    have q2 : Rl0 P A (st hc 35 f) (st hm 9 f2) := Rl0_tab q
    have m2 := q2.2.1
    rw [e1, bnd_s, bl_e, lt_pI (by omega), e2, bnd_s, bl_e, bl_e]
    generalize hb : nrF P A c (A.1 5 k) (2 ^ P 0 4) = b at *
    by_cases b2 : 2 ≤ b
    · have hbit := E_ntz (a := b - 1) (by omega) (by omega) (st hc 35 f)
      obtain ⟨t1, t2, t3, t4⟩ := hbit
      have hd : lsF (b - 1) 6 - 1 < P 0 4 := testBit_lt (show b - 1 < 2 ^ P 0 4 by omega) t4
      have hwl := whyA_lt P A k (lsF (b - 1) 6 - 1)
      have e5 : (nI 5 : Int32) = pI 6 := (pI_s 5).symm
      rw [if_pos b2, pI_p (by omega), t1, bnd_s, e5]
      have w1 := fun K => M_w1L (F := F) (k := k) (s := b - 1) (h := st hm 9 f2) (x2 := nI 1) (K := K) (by omega) (by omega) 6 (by omega) F (by omega)
      have w1 : ∀ K, l_M_works_1 F (nI k) (nI 1) (nI (b - 1)) K F (-1) (pI 6) (st hm 9 f2) = K (pI (lsF (b - 1) 6)) (st hm 9 f2) := fun K => by rw [← pI_0]; exact w1 K
      rw [w1, bl_e, bl_e, ite_plt (by omega), if_neg (by omega), pI_p (by omega), M_whyAct W m2 hk hd, bnd_s, ite_le0 (by omega)]
      obtain ⟨A2, hc2, hm2, a, b3, d1, d2, d3, d4⟩ := R_actIf q2 hk hd
      rw [a, bnd_s]
      by_cases e0 : whyA P A k (lsF (b - 1) 6 - 1) = 0
      · rw [if_pos e0] at b3
        rw [if_pos e0]
        dsimp only
        rw [bl_e, bl_e, ← e5, M_w0N (by omega) F (by omega), if_pos (show nI 0 = 0 from rfl), ite_lt0 (by omega), b3, bnd_s]
        exact ⟨A2, hc2, hm2, rfl, rfl, d1, Kp_t Kp_tab d2, d3⟩
      · rw [if_neg e0] at b3
        rw [if_neg e0]
        dsimp only
        rw [bl_e, bl_e, ← e5, M_w0N (by omega) F (by omega), if_neg (show ¬ nI 1 = 0 by decide), b3]
        exact ⟨A2, hc2, hm2, rfl, rfl, d1, Kp_t Kp_tab d2, d3⟩
    · rw [if_neg b2]
      have w1 : ∀ K, l_M_works_1 F (nI k) (nI 1) (pI b) K F (-1) (nI 5) (st hm 9 f2) = K (-1) (st hm 9 f2) := fun K => by
        have e5 : (nI 5 : Int32) = pI 6 := (pI_s 5).symm
        rw [e5]
        rcases (show b = 0 ∨ b = 1 by omega) with z | z
        · rw [z, pI_0]
          exact M_w1Lm 6 (by omega) F (by omega)
        · rw [z, show pI 1 = nI 0 from pI_s 0]
          exact M_w1L0 6 (by omega) F (by omega)
      rw [w1, bl_e, bl_e, if_pos (show (-1 : Int32) < 0 by decide)]
      dsimp only
      rw [bl_e, bl_e, M_w0N (by omega) F (by omega), if_pos (show nI 0 = 0 from rfl), if_pos (show (-1 : Int32) < 0 by decide)]
      obtain ⟨A2, hc2, hm2, a, b3, d1, d2, d3⟩ := R_dropIf (F := F) (by omega) q2 hk
      exact ⟨A2, hc2, hm2, by rw [a, bnd_s], b3, d1, Kp_t Kp_tab d2, d3⟩
  · subst e
    rw [if_neg (by omega), if_neg (show ¬ nI 2 = nI 1 by decide), if_neg (show ¬ nI 2 = nI 1 by decide)]
    dsimp only
    rw [bl_e]
    have e5 : (nI 5 : Int32) = pI 6 := (pI_s 5).symm
    have w0 : ∀ K, l_M_works_0 F (nI k) (nI 2) (nI 0) K F (-1) (pI 6) hm = K (pI (ldF P A k 6)) hm := fun K => by
      rw [← pI_0]
      exact M_w0L W m hk 6 (by omega) F (by omega)
    have hl6 := ldF_le (P := P) (A := A) (k := k) 6
    rw [e5, w0, if_pos (show nI 0 = 0 from rfl), ite_plt (by omega)]
    obtain ⟨A2, hc2, hm2, a1, a2, a3, a4, a5, a6⟩ := C_afL (F := F) q hk
    have a7 := a6 6 (by omega) (fun j _ _ => by
      by_cases z : j = 6
      · exact Or.inl (by rw [z])
      · exact Or.inr z) rfl F (by omega)
    rw [f_Runs_actFirst, bl_e, show l_Runs_actFirst_0 F (nI k) F (nI 0) hc = _ from a7, bnd_s, ite_b0]
    by_cases e0 : ldF P A k 6 = 0
    · obtain ⟨x1, x2⟩ := a5 e0
      subst x1 x2
      rw [if_pos e0, if_neg (by simpa using e0)]
      obtain ⟨A3, hc3, hm3, b1, b2, b3⟩ := R_dropIf (F := F) (by omega) q hk
      exact ⟨A3, hc3, hm3, by rw [b1, bnd_s], b2, b3⟩
    · rw [if_neg e0] at a1
      rw [if_neg e0, if_pos (by simpa using e0), pI_p (by omega), a1, bnd_s]
      exact ⟨A2, hc2, hm2, rfl, rfl, a2, a3, a4⟩
theorem R_school {P : Pl} {A : Ab} {hc hm : HS} {F k s : Nat} (hF : 20000 ≤ F) (q : Rl0 P A hc hm) (hk : k < P 0 5) (hs : s ≤ 2) : StpR P A hc hm (f_Runs_followSchool F (nI s) (nI k) hc) (f_M_works F (nI k) (nI s) hm) := by
  by_cases h0 : A.1 6 k = 0
  · obtain ⟨cc, m, W, Y⟩ := id q
    obtain ⟨⟨wN, wNM, wM, wCo, w3, w4, w5, wC, wD, wK⟩, wAc, wAk, wAw, wAf⟩ := id W
    have q1 := wAk k hk
    have hfl := fndT_le (P := P) (A := A) (k := k) (P 0 3) 0
    have tf : f_Runs_takeFirst F (nI k) hc = if fndT P A k (P 0 3) 0 = P 0 3 then some ((), hc) else bnd (f_Desk_doTake (nI k) (nI (fndT P A k (P 0 3) 0)) hc) (fun _ h => some ((), h)) := by
      rw [f_Runs_takeFirst, bl_e]
      exact C_tfL W cc hk (P 0 3) 0 (by omega) F (by omega)
    have mt : ∀ K, l_M_works_2 F (nI k) (nI s) K F (nI 0) hm = K (nI (fndT P A k (P 0 3) 0)) hm := fun K => M_tfL (by omega) W m hk (P 0 3) 0 (by omega) F (by omega)
    by_cases hn : fndT P A k (P 0 3) 0 = P 0 3
    · have e1 : f_Runs_followSchool F (nI s) (nI k) hc = some ((), hc) := by
        rw [f_Runs_followSchool, C_isFree W cc hk, bnd_s, bl_e, ite_b0, if_pos (by simpa using h0), tf, if_pos hn, bnd_s]
        dsimp only
        rw [C_ofClerk w5 cc hk (by omega), bnd_s, bl_e]
        show (if pI (A.1 6 k) = -1 then _ else _) = _
        rw [h0, pI_0, if_pos rfl]
      have e2 : f_M_works F (nI k) (nI s) hm = some ((), hm) := by
        rw [f_M_works, nI_add, ifin (by omega) (by omega), nI_clamp (by omega), m_has m hk, bl_e, ite_eq0 (by omega), if_pos h0, bl_e, mt, ifin (by omega) (by omega), nI_clamp (by omega), m_0 m, hn, if_pos rfl]
      exact ⟨A, hc, hm, e1, e2, q, Kp_rf, rfl⟩
    · have hlt : fndT P A k (P 0 3) 0 < P 0 3 := by omega
      have hw := fndT_ok (P := P) (A := A) (k := k) (P 0 3) 0 (by omega)
      obtain ⟨hc2, hm2, t1, t2, q2, t3⟩ := R_take q hk hlt hw
      have h1 : (takeA A k (fndT P A k (P 0 3) 0)).1 6 k ≠ 0 := by simp [takeA, sN, up2]
      obtain ⟨A3, hc3, hm3, b1, b2, b3, b4, b5⟩ := R_schoolB hF q2 hk hs h1
      have h8 : (takeA A k (fndT P A k (P 0 3) 0)).1 8 0 = A.1 8 0 := by simp [takeA, sN, up2]
      obtain ⟨cc2, m2, W2, -⟩ := id q2
      refine ⟨A3, hc3, hm3, ?_, ?_, b3, Kp_t t3 b4, b5.trans h8⟩
      · rw [← b1, f_Runs_followSchool, C_isFree W cc hk, bnd_s, bl_e, ite_b0, if_pos (by simpa using h0), tf, if_neg hn, t1, bnd_s, bnd_s]
        symm
        rw [f_Runs_followSchool, C_isFree W2 cc2 hk, bnd_s, bl_e, ite_b0, if_neg (by simpa using h1)]
      · have k2 := (W2.2.2.1 k hk).2.2.1
        rw [← b2, f_M_works, nI_add, ifin (by omega) (by omega), nI_clamp (by omega), m_has m hk, bl_e, ite_eq0 (by omega), if_pos h0, bl_e, mt, ifin (by omega) (by omega), nI_clamp (by omega), m_0 m, if_neg (fun z => hn (nI_inj (by omega) (by omega) z)), t2, bnd_s]
        symm
        rw [f_M_works, nI_add, ifin (by omega) (by omega), nI_clamp (by omega), m_has m2 hk, bl_e, ite_eq0 (by omega), if_neg h1]
  · exact R_schoolB hF q hk hs h0
