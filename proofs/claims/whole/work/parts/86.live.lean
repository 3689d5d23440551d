/-! ===== a LEDGER is lived, on both sides ===== -/
theorem Rl0_38 {P : Pl} {A : Ab} {hc hm : HS} {k : Nat} {v : Int32} (q : Rl0 P A hc hm) : Rl0 P A (sI hc 38 k v) hm := ⟨CR_fr q.1 (sI_o (by decide)) (sI_o (by decide)) (sI_o (by decide)) (sI_o (by decide)) (sI_o (by decide)) (sI_o (by decide)) rfl rfl rfl, q.2.1, q.2.2.1, WYr_fr q.2.2.2 (sI_o (by decide)) (sI_o (by decide)) (sI_o (by decide)) (sI_o (by decide))⟩
theorem Rl0_m {P : Pl} {A : Ab} {hc hm hm2 : HS} (q : Rl0 P A hc hm) (c2 : hm2.1 2 = hm.1 2) (c5 : hm2.2 5 = hm.2 5) : Rl0 P A hc hm2 := ⟨q.1, MR_fr q.2.1 c2 c5, q.2.2.1, q.2.2.2⟩
theorem T_live1 {P : Pl} {A : Ab} {F i : Nat} {hc hm : HS} (hF : 20000 ≤ F) (q : Rl0 P A hc hm) (hi : i < 40) (lr : lnOK P (hc.1 39 i) (hc.1 40 i) (hc.1 41 i) (hm.1 4 (3 * i)) (hm.1 4 (3 * i + 1)) (hm.1 4 (3 * i + 2))) : ∃ r, r < 100 ∧ f_Ledger_whyNot (nI i) hc = some (nI r, hc) ∧ (r = 0 → ∀ v, ∃ A2 hc2 hm2, f_Ledger_liveLine F (nI i) (sI hc 38 6 v) = some ((), hc2) ∧ f_M_books F (nI (3 * i)) hm = some (nI 0, hm2) ∧ Rl0 P A2 hc2 hm2 ∧ Kp (sI hc 38 6 v) hm hc2 hm2) ∧ (r ≠ 0 → f_M_books F (nI (3 * i)) hm = some (nI r, hm)) := by
  obtain ⟨cc, m, W, Y⟩ := id q
  obtain ⟨⟨wN, wNM, wM, wCo, w3, w4, w5, wC, wD, wK⟩, wAc, wAk, wAw, wAf⟩ := id W
  have mw := m_week m
  have C : f_Ledger_whyNot (nI i) hc = (if hc.1 39 i = nI 3 then bnd (f_Desk_weeksLeft hc) (fun r15 h14 => if h14.1 41 i ≤ r15 then some (nI 0, h14) else some (nI 31, h14)) else if hc.1 39 i = 0 then bnd (f_Desk_whyNotTake (hc.1 40 i) (hc.1 41 i) hc) (fun r12 h11 => if r12 = 0 then some (nI 0, h11) else some (r12 + nI 10 * hc.1 39 i, h11)) else if hc.1 39 i = nI 1 then bnd (f_Desk_whyNotAct (hc.1 40 i) (hc.1 41 i) hc) (fun r9 h8 => if r9 = 0 then some (nI 0, h8) else some (r9 + nI 10 * hc.1 39 i, h8)) else bnd (f_Desk_whyNotDrop (hc.1 40 i) hc) (fun r6 h5 => if r6 = 0 then some (nI 0, h5) else some (r6 + nI 10 * hc.1 39 i, h5))) := by
    have b : inb (nI i) 40 = true := by rw [inb_nI (by omega)]; exact decide_eq_true hi
    unfold f_Ledger_whyNot
    rw [nI_clamp (by omega)]
    dsimp only [bl]
    simp only [if_pos b]
  have D : ∀ v, f_Ledger_liveLine F (nI i) (sI hc 38 6 v) = (if hc.1 39 i = nI 3 then bnd (f_Desk_passWeeks F (hc.1 41 i) (sI hc 38 6 v)) (fun _ h5 => some ((), h5)) else if hc.1 39 i = 0 then bnd (f_Desk_doTake (hc.1 40 i) (hc.1 41 i) (sI hc 38 6 v)) (fun _ h4 => some ((), h4)) else if hc.1 39 i = nI 1 then bnd (f_Desk_doAct (hc.1 40 i) (hc.1 41 i) (sI hc 38 6 v)) (fun _ h3 => some ((), h3)) else bnd (f_Desk_doDrop (hc.1 40 i) (sI hc 38 6 v)) (fun _ h2 => some ((), h2))) := fun v => by
    have b : inb (nI i) 40 = true := by rw [inb_nI (by omega)]; exact decide_eq_true hi
    unfold f_Ledger_liveLine
    rw [nI_clamp (by omega)]
    dsimp only [bl]
    simp only [if_pos b]
    rw [sI_o (show (39 : Nat) ≠ 38 by decide), sI_o (show (40 : Nat) ≠ 38 by decide), sI_o (show (41 : Nat) ≠ 38 by decide)]
  have M : f_M_books F (nI (3 * i)) hm = (if hm.1 4 (3 * i) = nI 0 then bnd (f_M_whyTake F (hm.1 4 (3 * i + 1)) (hm.1 4 (3 * i + 2)) hm) (fun r5 h4 => if r5 = 0 then bnd (f_M_taking (hm.1 4 (3 * i + 1)) (hm.1 4 (3 * i + 2)) h4) (fun _ h7 => some (r5, h7)) else some (r5, h4)) else if hm.1 4 (3 * i) = nI 1 then bnd (f_M_whyAct (hm.1 4 (3 * i + 1)) (hm.1 4 (3 * i + 2)) hm) (fun r9 h8 => if r9 = 0 then bnd (f_M_acting (hm.1 4 (3 * i + 1)) (hm.1 4 (3 * i + 2)) h8) (fun _ h13 => if r9 = 0 then some (nI 0, h13) else some (nI 10 + r9, h13)) else (if r9 = 0 then some (nI 0, h8) else some (nI 10 + r9, h8))) else if hm.1 4 (3 * i) = nI 2 then bnd (f_M_whyDrop (hm.1 4 (3 * i + 1)) hm) (fun r15 h14 => if r15 = 0 then bnd (f_M_dropping F (hm.1 4 (3 * i + 1)) h14) (fun _ h19 => if r15 = 0 then some (nI 0, h19) else some (nI 20 + r15, h19)) else (if r15 = 0 then some (nI 0, h14) else some (nI 20 + r15, h14))) else (if hm.1 2 72 + hm.1 4 (3 * i + 1) ≤ nI 200 then l_M_books_0 F (hm.1 4 (3 * i + 1)) F (nI 0) hm else some (nI 31, hm))) := by
    unfold f_M_books
    rw [nI_add, nI_add, ifin (by omega) (by omega), nI_clamp (by omega), nI_clamp (by omega), nI_clamp (by omega), bl_e, ifin (by omega) (by omega), bl_e, bl_e, ifin (by omega) (by omega), nI_clamp (show 72 < 2147483648 by omega)]
    dsimp only [bl]
    rw [ifin (show 72 < 332 by omega) (by omega)]
  rcases lr with ⟨k, x, hk, hx, e1, e2, e3, e4, e5, e6⟩ | ⟨k, x, hk, hx, e1, e2, e3, e4, e5, e6⟩ | ⟨k, hk, e1, e2, e4, e5⟩ | ⟨w, w1, w2, e1, e3, e4, e5⟩
  · rw [e1, if_neg (show ¬ nI 0 = nI 3 by decide), if_pos (show nI 0 = 0 from rfl), e2, e3, C_whyNotTake W cc hk hx, bnd_s, ite_eq0 (by have := whyT_lt P A k x; omega)] at C
    rw [e4, if_pos rfl, e5, e6, M_whyTake W (by omega) m hk hx, bnd_s, ite_eq0 (by have := whyT_lt P A k x; omega)] at M
    by_cases e0 : whyT P A k x = 0
    · rw [if_pos e0] at C M
      refine ⟨0, by omega, C, fun _ v => ?_, fun h => absurd rfl h⟩
      obtain ⟨hc2, hm2, a, b, c, d⟩ := R_take (Rl0_38 (k := 6) (v := v) q) hk hx e0
      refine ⟨_, hc2, hm2, ?_, ?_, c, d⟩
      · rw [D, e1, if_neg (show ¬ nI 0 = nI 3 by decide), if_pos (show nI 0 = 0 from rfl), e2, e3, a, bnd_s]
      · rw [M, b, bnd_s, e0]
    · rw [if_neg e0] at C M
      exact ⟨whyT P A k x, by have := whyT_lt P A k x; omega, by rw [C, nI_mul, nI_add, Nat.mul_zero, Nat.add_zero], fun h => absurd h e0, fun _ => M⟩
  · rw [e1, if_neg (show ¬ nI 1 = nI 3 by decide), if_neg (show ¬ nI 1 = 0 by decide), if_pos rfl, e2, e3, C_whyNotAct W cc hk hx, bnd_s, ite_eq0 (by have := whyA_lt P A k x; omega)] at C
    rw [e4, if_neg (show ¬ nI 1 = nI 0 by decide), if_pos rfl, e5, e6, M_whyAct W m hk hx, bnd_s, ite_eq0 (by have := whyA_lt P A k x; omega)] at M
    by_cases e0 : whyA P A k x = 0
    · rw [if_pos e0] at C M
      refine ⟨0, by omega, C, fun _ v => ?_, fun h => absurd rfl h⟩
      obtain ⟨hc2, hm2, a, b, c, d⟩ := R_act (Rl0_38 (k := 6) (v := v) q) hk hx e0
      refine ⟨_, hc2, hm2, ?_, ?_, c, d⟩
      · rw [D, e1, if_neg (show ¬ nI 1 = nI 3 by decide), if_neg (show ¬ nI 1 = 0 by decide), if_pos rfl, e2, e3, a, bnd_s]
      · rw [M, b, bnd_s, e0, if_pos (show nI 0 = 0 from rfl)]
    · rw [if_neg e0] at C M
      exact ⟨whyA P A k x + 10, by have := whyA_lt P A k x; omega, by rw [C, nI_mul, nI_add], fun h => absurd h (by omega), fun _ => by rw [M, ite_eq0 (by have := whyA_lt P A k x; omega), if_neg e0, nI_add, Nat.add_comm]⟩
  · rw [e1, if_neg (show ¬ nI 2 = nI 3 by decide), if_neg (show ¬ nI 2 = 0 by decide), if_neg (show ¬ nI 2 = nI 1 by decide), e2, C_whyNotDrop W cc hk, bnd_s, ite_eq0 (by have := whyD_lt A k; omega)] at C
    rw [e4, if_neg (show ¬ nI 2 = nI 0 by decide), if_neg (show ¬ nI 2 = nI 1 by decide), if_pos rfl, e5, M_whyDrop W m hk, bnd_s, ite_eq0 (by have := whyD_lt A k; omega)] at M
    by_cases e0 : whyD A k = 0
    · rw [if_pos e0] at C M
      refine ⟨0, by omega, C, fun _ v => ?_, fun h => absurd rfl h⟩
      obtain ⟨hc2, hm2, a, b, c, d⟩ := R_drop (F := F) (by omega) (Rl0_38 (k := 6) (v := v) q) hk (whyD_0 e0)
      refine ⟨_, hc2, hm2, ?_, ?_, c, d⟩
      · rw [D, e1, if_neg (show ¬ nI 2 = nI 3 by decide), if_neg (show ¬ nI 2 = 0 by decide), if_neg (show ¬ nI 2 = nI 1 by decide), e2, a, bnd_s]
      · rw [M, b, bnd_s, e0, if_pos (show nI 0 = 0 from rfl)]
    · rw [if_neg e0] at C M
      exact ⟨whyD A k + 20, by have := whyD_lt A k; omega, by rw [C, nI_mul, nI_add], fun h => absurd h (by omega), fun _ => by rw [M, ite_eq0 (by have := whyD_lt A k; omega), if_neg e0, nI_add, Nat.add_comm]⟩
  · have w200 := wAw
    rw [e1, if_pos rfl, C_weeksLeft W cc, bnd_s, e3, ite_leN (by omega) (by omega)] at C
    rw [e4, if_neg (show ¬ nI 3 = nI 0 by decide), if_neg (show ¬ nI 3 = nI 1 by decide), if_neg (show ¬ nI 3 = nI 2 by decide), e5, mw, nI_add, ite_leN (by omega) (by omega)] at M
    by_cases e0 : w ≤ 200 - A.1 8 0
    · rw [if_pos e0] at C
      rw [if_pos (by omega)] at M
      refine ⟨0, by omega, C, fun _ v => ?_, fun h => absurd rfl h⟩
      obtain ⟨r, k3, c3⟩ := C_passWeeks (F := F) (n := w) (by omega) W w2 (Rl0_38 (k := 6) (v := v) q).1
      rw [show min w (200 - A.1 8 0) = w by omega] at k3 c3
      obtain ⟨s, -, k4, m3⟩ := M_pwL (F := F) (m := w) (by omega) w 0 A hm (by omega) (by omega) W (by omega) m
      obtain ⟨W3, -, e7⟩ := WF_wkN w A W (by omega)
      refine ⟨_, _, _, ?_, ?_, Rl0_row (Rl0_38 (k := 6) (v := v) q) c3 m3 W3, Kp_row m m3 e7⟩
      · rw [D, e1, if_pos rfl, e3, k3, bnd_s]
      · rw [M, k4 F (by omega)]
    · rw [if_neg e0] at C
      rw [if_neg (by omega)] at M
      exact ⟨31, by omega, C, fun h => absurd h (by omega), fun _ => M⟩
theorem T_liveL {P : Pl} {F L : Nat} (hF : 20000 ≤ F) (hL : L ≤ 40) : ∀ (j i : Nat) (A : Ab) (hc hm : HS), i + j = L → Rl0 P A hc hm → LR P L hc hm → hc.1 38 5 = nI L → hm.1 0 32 = nI L → hc.1 38 6 = hm.1 13 0 → hm.1 13 1 = nI i → ∃ n A2 hc2 hm2, n ≤ L ∧ (∀ g, j < g → l_Ledger_live_0 F g (nI i) hc = some (nI n, hc2)) ∧ (∀ a v K g, j + 1 < g → l_M_ledger_2 F a v K g (-1) (nI i) hm = K (if n < L then nI n else -1) hm2) ∧ Rl0 P A2 hc2 hm2 ∧ hc2.1 38 6 = hm2.1 13 0 ∧ hm2.1 13 1 = nI n ∧ hc2.1 38 5 = nI L ∧ Fr [21, 35, 36, 38] hc hc2 ∧ Fr [0, 2, 9, 13] hm hm2 ∧ F0r [31] hm hm2 ∧ ∀ i, 151 ≤ i → hm2.1 2 i = hm.1 2 i := by
  intro j
  induction j with
  | zero =>
    intro i A hc hm hi q lr s1 s2 s3 s4
    refine ⟨L, A, hc, hm, Nat.le_refl _, fun g hg => ?_, fun a v K g hg => ?_, q, s3, by rw [s4]; exact congrArg nI (by omega), s1, Fr_rf, Fr_rf, F0r_rf, fun _ _ => rfl⟩
    · obtain ⟨g, rfl⟩ : ∃ z, g = z + 1 := ⟨g - 1, by omega⟩
      rw [l_Ledger_live_0, s1, ite_leN (by omega) (by omega), if_pos (by omega)]
    · obtain ⟨g, rfl⟩ : ∃ z, g = z + 1 := ⟨g - 1, by omega⟩
      rw [l_M_ledger_2, s2, ite_leN (by omega) (by omega), if_pos (by omega), if_neg (by omega)]
  | succ j ih =>
    intro i A hc hm hi q lr s1 s2 s3 s4
    obtain ⟨r, r1, c1, c2, c3⟩ := T_live1 hF q (show i < 40 by omega) (lr i (by omega))
    by_cases e : r = 0
    · obtain ⟨A2, hc2, hm2, d1, d2, d3, d4⟩ := c2 e (nI 0)
      subst e
      have q2 : Rl0 P A2 hc2 (sI (sI hm2 13 0 (nI 0)) 13 1 (nI (i + 1))) := Rl0_m d3 (by rw [sI_o (by decide), sI_o (by decide)]) rfl
      have g1 : ∀ k, hc2.1 38 k = (sI hc 38 6 (nI 0)).1 38 k := fun k => by rw [(d4.1 38 (by decide)).1]
      have m1 : hm2.1 13 1 = nI i := by rw [(d4.2.1 13 (by decide)).1]; exact s4
      have m32 : hm2.1 0 32 = nI L := by rw [d4.2.2.1 32 (by decide)]; exact s2
      obtain ⟨n, A3, hc3, hm3, x1, x2, x3, x4, x5, x6, x7, x8, x9, x10, x11⟩ := ih (i + 1) A2 hc2 (sI (sI hm2 13 0 (nI 0)) 13 1 (nI (i + 1))) (by omega) q2 (fun y hy => by
        rw [(d4.1 39 (by decide)).1, (d4.1 40 (by decide)).1, (d4.1 41 (by decide)).1, sI_o (by decide), sI_o (by decide), sI_o (by decide), sI_o (by decide), sI_o (by decide), (d4.2.1 4 (by decide)).1]
        exact lr y hy) (by rw [g1, sI_n (by decide)]; exact s1) (by rw [sI_o (by decide), sI_o (by decide)]; exact m32) (by rw [g1, sI_e, sI_n (by decide), sI_e]) sI_e
      refine ⟨n, A3, hc3, hm3, x1, fun g hg => ?_, fun a v K g hg => ?_, x4, x5, x6, x7, Fr_t (Fr_sI (by decide)) (Fr_t (Fr_mo (by decide) d4.1) x8), Fr_t (Fr_mo (by decide) d4.2.1) (Fr_t (Fr_t (Fr_sI (by decide)) (Fr_sI (by decide))) x9), F0r_t d4.2.2.1 (F0r_t (fun k _ => by rw [sI_o (by decide), sI_o (by decide)]) x10), fun y hy => by rw [x11 y hy, sI_o (by decide), sI_o (by decide), d4.2.2.2 y hy]⟩
      · obtain ⟨g, rfl⟩ : ∃ z, g = z + 1 := ⟨g - 1, by omega⟩
        rw [l_Ledger_live_0, s1, ite_leN (by omega) (by omega), if_neg (by omega), c1, bnd_s, bl_e, sI_e, if_pos (show nI 0 = 0 from rfl), d1, bnd_s, bl_e, nI_add, x2 g (by omega)]
      · obtain ⟨g, rfl⟩ : ∃ z, g = z + 1 := ⟨g - 1, by omega⟩
        rw [l_M_ledger_2, s2, ite_leN (by omega) (by omega), if_neg (by omega), if_neg (show ¬ (0 : Int32) ≤ -1 by decide), nI_mul, d2, bnd_s, ifin (by omega) (by omega), nI_clamp (show 0 < 2147483648 by omega), bl_e, ifin (by omega) (by omega), bl_e, sI_e, if_pos (show nI 0 ≤ 0 by decide), ifin (by omega) (by omega), ifin (by omega) (by omega), nI_clamp (by omega), sI_n (show (1 : Nat) ≠ 0 by decide), m1, nI_add, bl_e]
        show bl (nI (i + 1)) _ = _
        rw [bl_e, x3 a v K g (by omega)]
    · refine ⟨i, A, sI hc 38 6 (nI r), sI hm 13 0 (nI r), by omega, fun g hg => ?_, fun a v K g hg => ?_, Rl0_m (Rl0_38 q) (sI_o (by decide)) rfl, by rw [sI_e, sI_e], by rw [sI_n (by decide)]; exact s4, by rw [sI_n (by decide)]; exact s1, Fr_sI (by decide), Fr_sI (by decide), fun k _ => by rw [sI_o (by decide)], fun y hy => by rw [sI_o (by decide)]⟩
      · obtain ⟨g, rfl⟩ : ∃ z, g = z + 1 := ⟨g - 1, by omega⟩
        rw [l_Ledger_live_0, s1, ite_leN (by omega) (by omega), if_neg (by omega), c1, bnd_s, bl_e, sI_e, ite_eq0 (by omega), if_neg e]
      · obtain ⟨g, rfl⟩ : ∃ z, g = z + 1 + 1 := ⟨g - 2, by omega⟩
        rw [l_M_ledger_2, s2, ite_leN (by omega) (by omega), if_neg (by omega), if_neg (show ¬ (0 : Int32) ≤ -1 by decide), nI_mul, c3 e, bnd_s, ifin (by omega) (by omega), nI_clamp (show 0 < 2147483648 by omega), bl_e, ifin (by omega) (by omega), bl_e, sI_e, ite_le0 (by omega), if_neg e, bl_e]
        show bl (nI i + nI 1) _ = _
        rw [bl_e, nI_add, l_M_ledger_2, ite_ge0 (by omega), if_pos (show i < L by omega), ite_self]
