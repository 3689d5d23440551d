/-! ===== draws ===== -/
def drX (x : Int32) : Int32 := x * nI 1103515245 + nI 12345
def drN (x : Int32) : Nat := x.toBitVec.toNat / 2 ^ 8
theorem drN_lt (x : Int32) : drN x < 16777216 := by
  have hb : x.toBitVec.toNat < 4294967296 := x.toBitVec.isLt
  unfold drN
  omega
theorem dr_e (x : Int32) : (Int32.toUInt32 x >>> (Int32.toUInt32 (nI 8) &&& Int32.toUInt32 31)).toInt32 = nI (drN x) := by
  have e := pk_ushr x (nI 8) 8 (by decide)
  have hb := drN_lt x
  apply Int32.toBitVec_inj.mp
  apply BitVec.eq_of_toNat_eq
  rw [e]
  show drN x = (BitVec.ofNat 32 (drN x)).toNat
  rw [BitVec.toNat_ofNat, Nat.mod_eq_of_lt (by omega)]
theorem Rl0_dr {P : Pl} {A : Ab} {hc hm : HS} {x : Int32} (q : Rl0 P A hc hm) : Rl0 P A (sI hc 36 4 x) (sI hm 0 31 x) := by
  rw [sI_st, sI_st]
  exact ⟨CR_st (by omega) (by omega) q.1, MR_st (by decide) q.2.1, q.2.2.1, WYr_fr q.2.2.2 (st_o (by decide)) (st_o (by decide)) (st_o (by decide)) (st_o (by decide))⟩
theorem Kp_dr {hc hm : HS} {x : Int32} : Kp hc hm (sI hc 36 4 x) (sI hm 0 31 x) := ⟨Fr_sI (by decide), Fr_sI (by decide), F0r_sI (by decide), fun i _ => by rw [sI_o (by decide)]⟩
theorem D_draw {P : Pl} {A : Ab} {hc hm : HS} {n : Nat} (q : Rl0 P A hc hm) (s : hc.1 36 4 = hm.1 0 31) (h0 : 0 < n) (hn : n < 2147483648) : ∃ d hc1 hm1, d < n ∧ f_Runs_nextDraw (nI n) hc = some (nI d, hc1) ∧ f_M_draw (nI n) hm = some (nI d, hm1) ∧ Rl0 P A hc1 hm1 ∧ Kp hc hm hc1 hm1 ∧ hc1.1 36 4 = hm1.1 0 31 := by
  have hb := drN_lt (drX (hc.1 36 4))
  refine ⟨drN (drX (hc.1 36 4)) % n, sI hc 36 4 (drX (hc.1 36 4)), sI hm 0 31 (drX (hc.1 36 4)), Nat.mod_lt _ h0, ?_, ?_, Rl0_dr q, Kp_dr, by rw [sI_e, sI_e]⟩
  · rw [f_Runs_nextDraw, bl_e, sI_e, ite_le0 hn, if_neg (by omega), ite_ne0 hn, if_neg (by omega), dr_e, show hc.1 36 4 * nI 1103515245 + nI 12345 = drX (hc.1 36 4) from rfl, nI_rem (by omega) hn h0]
  · rw [f_M_draw, bl_e, sI_e, ite_ne0 hn, if_neg (by omega), dr_e, ← s, show hc.1 36 4 * nI 1103515245 + nI 12345 = drX (hc.1 36 4) from rfl, nI_rem (by omega) hn h0]
theorem D_take {P : Pl} {A : Ab} {hc hm : HS} (q : Rl0 P A hc hm) {k c : Nat} (hk : k < P 0 5) (hcc : c < P 0 3) (h0 : whyT P A k c = 0) : ∃ r s, f_Desk_doTake (nI k) (nI c) hc = some ((), st hc 21 r) ∧ f_M_taking (nI k) (nI c) hm = some ((), st hm 2 s) ∧ Rl0 P (takeA A k c) (st hc 21 r) (st hm 2 s) ∧ Kp hc hm (st hc 21 r) (st hm 2 s) := by
  obtain ⟨cc, m, W, -⟩ := id q
  obtain ⟨r, k3, c3⟩ := C_doTake W cc hk hcc
  obtain ⟨s, k4, m3⟩ := M_taking W m hk hcc
  exact ⟨_, _, k3, k4, Rl0_row q c3 m3 (WF_take W hk hcc h0), Kp_row m m3 rfl⟩
theorem D_act {P : Pl} {A : Ab} {hc hm : HS} (q : Rl0 P A hc hm) {k d : Nat} (hk : k < P 0 5) (hd : d < P 0 4) (h0 : whyA P A k d = 0) : ∃ r s, f_Desk_doAct (nI k) (nI d) hc = some ((), st hc 21 r) ∧ f_M_acting (nI k) (nI d) hm = some ((), st hm 2 s) ∧ Rl0 P (actA P A k d) (st hc 21 r) (st hm 2 s) ∧ Kp hc hm (st hc 21 r) (st hm 2 s) := by
  obtain ⟨cc, m, W, -⟩ := id q
  obtain ⟨r, k3, c3⟩ := C_doAct W cc hk hd h0
  obtain ⟨s, k4, m3⟩ := M_acting W m hk hd h0
  exact ⟨_, _, k3, k4, Rl0_row q c3 m3 (WF_act W hk hd h0), Kp_row m m3 e7_act⟩
theorem D_drop {P : Pl} {A : Ab} {hc hm : HS} {F : Nat} (hF : 7 ≤ F) (q : Rl0 P A hc hm) {k : Nat} (hk : k < P 0 5) (h0 : A.1 6 k ≠ 0) : ∃ r s, f_Desk_doDrop (nI k) hc = some ((), st hc 21 r) ∧ f_M_dropping F (nI k) hm = some ((), st hm 2 s) ∧ Rl0 P (dropA P A k) (st hc 21 r) (st hm 2 s) ∧ Kp hc hm (st hc 21 r) (st hm 2 s) := by
  obtain ⟨cc, m, W, -⟩ := id q
  obtain ⟨r, k3, c3⟩ := C_doDrop W cc hk h0
  obtain ⟨s, k4, m3⟩ := M_dropping W hF m hk h0
  exact ⟨_, _, k3, k4, Rl0_row q c3 m3 (WF_drop W hk h0), Kp_row m m3 e7_drop⟩
theorem D_week {P : Pl} {A : Ab} {hc hm : HS} {F : Nat} (hF : 7 ≤ F) (q : Rl0 P A hc hm) (hw : A.1 8 0 < 200) : ∃ r s, f_Desk_passWeek F hc = some ((), st hc 21 r) ∧ f_M_week F hm = some ((), st hm 2 s) ∧ Rl0 P (weekA P A) (st hc 21 r) (st hm 2 s) ∧ Kp hc hm (st hc 21 r) (st hm 2 s) := by
  obtain ⟨cc, m, W, -⟩ := id q
  obtain ⟨r, k3, c3⟩ := C_passWeek hF W hw cc
  obtain ⟨s, k4, m3⟩ := M_week hF W hw m
  exact ⟨_, _, k3, k4, Rl0_row q c3 m3 (WF_week W hw).1, Kp_row m m3 e7_week⟩
theorem sd_st {hc hm : HS} {r s : Nat → Int32} (q : hc.1 36 4 = hm.1 0 31) : (st hc 21 r).1 36 4 = (st hm 2 s).1 0 31 := by
  rw [st_o (by decide), st_o (by decide)]
  exact q
theorem R_draw1 {P : Pl} {A : Ab} {hc hm : HS} {F k : Nat} (hF : 7 ≤ F) (q : Rl0 P A hc hm) (s : hc.1 36 4 = hm.1 0 31) (hk : k < P 0 5) : ∃ A2 hc2 hm2, f_Runs_followDraw (nI k) hc = some ((), hc2) ∧ (∀ x1 x3 K g, l_M_draws_1 F x1 x3 K (g + 1) (nI k) hm = l_M_draws_1 F x1 x3 K g (nI (k + 1)) hm2) ∧ Rl0 P A2 hc2 hm2 ∧ Kp hc hm hc2 hm2 ∧ hc2.1 36 4 = hm2.1 0 31 ∧ A2.1 8 0 = A.1 8 0 := by
  obtain ⟨cc, m, W, Y⟩ := id q
  obtain ⟨⟨wN, wNM, wM, wCo, w3, w4, w5, wC, wD, wK⟩, wAc, wAk, wAw, wAf⟩ := id W
  obtain ⟨d, hc1, hm1, hd, eC, eM, q1, t1, s1⟩ := D_draw q s (n := 3) (by omega) (by omega)
  have c1 := q1.1
  have m1 := q1.2.1
  rcases (show d = 0 ∨ d = 1 ∨ d = 2 by omega) with e | e | e <;> subst e
  · by_cases z : P 0 3 = 0
    · refine ⟨A, hc1, hm1, ?_, fun x1 x3 K g => ?_, q1, t1, s1, rfl⟩
      · rw [f_Runs_followDraw, eC, bnd_s]
        dsimp only [bl]
        rw [if_pos (show nI 0 = 0 from rfl), C_causes c1.1, bnd_s, ite_le0 (by omega), if_pos z, if_neg (show ¬ nI 0 = nI 1 by decide), if_neg (show ¬ nI 0 = nI 2 by decide)]
      · rw [l_M_draws_1, ifin (by omega) (by omega), nI_clamp (by omega), m_2 m, ite_leN (by omega) (by omega), if_neg (by omega), eM, bnd_s]
        dsimp only [bl]
        rw [if_pos (show nI 0 = 0 from rfl), ifin (by omega) (by omega), nI_clamp (by omega), m_0 m1, ite_le0 (by omega), if_pos z, if_neg (show ¬ nI 0 = nI 1 by decide), if_neg (show ¬ nI 0 = nI 2 by decide), nI_add]
    · obtain ⟨c, hc2, hm2, hcl, eC2, eM2, q2, t2, s2⟩ := D_draw q1 s1 (n := P 0 3) (by omega) (by omega)
      have c2 := q2.1
      have m2 := q2.2.1
      have hl := whyT_lt P A k c
      by_cases e0 : whyT P A k c = 0
      · obtain ⟨r, s3, a1, a2, a3, a4⟩ := D_take q2 hk hcl e0
        refine ⟨takeA A k c, _, _, ?_, fun x1 x3 K g => ?_, a3, Kp_t t1 (Kp_t t2 a4), sd_st s2, by simp [takeA, sN, up2]⟩
        · rw [f_Runs_followDraw, eC, bnd_s]
          dsimp only [bl]
          rw [if_pos (show nI 0 = 0 from rfl), C_causes c1.1, bnd_s, ite_le0 (by omega), if_neg z, C_causes c1.1, bnd_s, eC2, bnd_s, C_whyNotTake W c2 hk hcl, bnd_s, ite_eq0 (by omega), if_pos e0, a1, bnd_s]
        · rw [l_M_draws_1, ifin (by omega) (by omega), nI_clamp (by omega), m_2 m, ite_leN (by omega) (by omega), if_neg (by omega), eM, bnd_s]
          dsimp only [bl]
          rw [if_pos (show nI 0 = 0 from rfl), ifin (by omega) (by omega), nI_clamp (by omega), m_0 m1, ite_le0 (by omega), if_neg z, ifin (by omega) (by omega), eM2, bnd_s, M_whyTake W hF m2 hk hcl, bnd_s, ite_eq0 (by omega), if_pos e0, a2, bnd_s, nI_add]
      · refine ⟨A, hc2, hm2, ?_, fun x1 x3 K g => ?_, q2, Kp_t t1 t2, s2, rfl⟩
        · rw [f_Runs_followDraw, eC, bnd_s]
          dsimp only [bl]
          rw [if_pos (show nI 0 = 0 from rfl), C_causes c1.1, bnd_s, ite_le0 (by omega), if_neg z, C_causes c1.1, bnd_s, eC2, bnd_s, C_whyNotTake W c2 hk hcl, bnd_s, ite_eq0 (by omega), if_neg e0]
        · rw [l_M_draws_1, ifin (by omega) (by omega), nI_clamp (by omega), m_2 m, ite_leN (by omega) (by omega), if_neg (by omega), eM, bnd_s]
          dsimp only [bl]
          rw [if_pos (show nI 0 = 0 from rfl), ifin (by omega) (by omega), nI_clamp (by omega), m_0 m1, ite_le0 (by omega), if_neg z, ifin (by omega) (by omega), eM2, bnd_s, M_whyTake W hF m2 hk hcl, bnd_s, ite_eq0 (by omega), if_neg e0, nI_add]
  · by_cases z : P 0 4 = 0
    · refine ⟨A, hc1, hm1, ?_, fun x1 x3 K g => ?_, q1, t1, s1, rfl⟩
      · rw [f_Runs_followDraw, eC, bnd_s]
        dsimp only [bl]
        rw [if_neg (show ¬ nI 1 = 0 by decide), if_pos (show nI 1 = nI 1 from rfl), C_deeds c1.1, bnd_s, ite_le0 (by omega), if_pos z, if_neg (show ¬ nI 1 = nI 2 by decide)]
      · rw [l_M_draws_1, ifin (by omega) (by omega), nI_clamp (by omega), m_2 m, ite_leN (by omega) (by omega), if_neg (by omega), eM, bnd_s]
        dsimp only [bl]
        rw [if_neg (show ¬ nI 1 = 0 by decide), if_pos (show nI 1 = nI 1 from rfl), ifin (by omega) (by omega), nI_clamp (by omega), m_1 m1, ite_le0 (by omega), if_pos z, if_neg (show ¬ nI 1 = nI 2 by decide), nI_add]
    · obtain ⟨c, hc2, hm2, hcl, eC2, eM2, q2, t2, s2⟩ := D_draw q1 s1 (n := P 0 4) (by omega) (by omega)
      have c2 := q2.1
      have m2 := q2.2.1
      have hl := whyA_lt P A k c
      by_cases e0 : whyA P A k c = 0
      · obtain ⟨r, s3, a1, a2, a3, a4⟩ := D_act q2 hk hcl e0
        refine ⟨actA P A k c, _, _, ?_, fun x1 x3 K g => ?_, a3, Kp_t t1 (Kp_t t2 a4), sd_st s2, by simp [actA, sN, sV, up2]⟩
        · rw [f_Runs_followDraw, eC, bnd_s]
          dsimp only [bl]
          rw [if_neg (show ¬ nI 1 = 0 by decide), if_pos (show nI 1 = nI 1 from rfl), C_deeds c1.1, bnd_s, ite_le0 (by omega), if_neg z, C_deeds c1.1, bnd_s, eC2, bnd_s, f_Runs_actIfCan, C_whyNotAct W c2 hk hcl, bnd_s, ite_eq0 (by omega), if_pos e0, a1, bnd_s, rZ1, bnd_s]
        · rw [l_M_draws_1, ifin (by omega) (by omega), nI_clamp (by omega), m_2 m, ite_leN (by omega) (by omega), if_neg (by omega), eM, bnd_s]
          dsimp only [bl]
          rw [if_neg (show ¬ nI 1 = 0 by decide), if_pos (show nI 1 = nI 1 from rfl), ifin (by omega) (by omega), nI_clamp (by omega), m_1 m1, ite_le0 (by omega), if_neg z, ifin (by omega) (by omega), eM2, bnd_s, M_whyAct W m2 hk hcl, bnd_s, ite_eq0 (by omega), if_pos e0, a2, bnd_s, nI_add]
      · refine ⟨A, hc2, hm2, ?_, fun x1 x3 K g => ?_, q2, Kp_t t1 t2, s2, rfl⟩
        · rw [f_Runs_followDraw, eC, bnd_s]
          dsimp only [bl]
          rw [if_neg (show ¬ nI 1 = 0 by decide), if_pos (show nI 1 = nI 1 from rfl), C_deeds c1.1, bnd_s, ite_le0 (by omega), if_neg z, C_deeds c1.1, bnd_s, eC2, bnd_s, f_Runs_actIfCan, C_whyNotAct W c2 hk hcl, bnd_s, ite_eq0 (by omega), if_neg e0, rZ0, bnd_s]
        · rw [l_M_draws_1, ifin (by omega) (by omega), nI_clamp (by omega), m_2 m, ite_leN (by omega) (by omega), if_neg (by omega), eM, bnd_s]
          dsimp only [bl]
          rw [if_neg (show ¬ nI 1 = 0 by decide), if_pos (show nI 1 = nI 1 from rfl), ifin (by omega) (by omega), nI_clamp (by omega), m_1 m1, ite_le0 (by omega), if_neg z, ifin (by omega) (by omega), eM2, bnd_s, M_whyAct W m2 hk hcl, bnd_s, ite_eq0 (by omega), if_neg e0, nI_add]
  · have hl := whyD_lt A k
    by_cases e0 : whyD A k = 0
    · obtain ⟨r, s3, a1, a2, a3, a4⟩ := D_drop hF q1 hk (whyD_0 e0)
      refine ⟨dropA P A k, _, _, ?_, fun x1 x3 K g => ?_, a3, Kp_t t1 a4, sd_st s1, by simp [dropA, sN, sV, up2]⟩
      · rw [f_Runs_followDraw, eC, bnd_s]
        dsimp only [bl]
        rw [if_neg (show ¬ nI 2 = 0 by decide), if_neg (show ¬ nI 2 = nI 1 by decide), if_pos (show nI 2 = nI 2 from rfl), f_Runs_dropIfCan, C_whyNotDrop W c1 hk, bnd_s, ite_eq0 (by omega), if_pos e0, a1, bnd_s, bnd_s]
      · rw [l_M_draws_1, ifin (by omega) (by omega), nI_clamp (by omega), m_2 m, ite_leN (by omega) (by omega), if_neg (by omega), eM, bnd_s]
        dsimp only [bl]
        rw [if_neg (show ¬ nI 2 = 0 by decide), if_neg (show ¬ nI 2 = nI 1 by decide), if_pos (show nI 2 = nI 2 from rfl), M_whyDrop W m1 hk, bnd_s, ite_eq0 (by omega), if_pos e0, a2, bnd_s, nI_add]
    · refine ⟨A, hc1, hm1, ?_, fun x1 x3 K g => ?_, q1, t1, s1, rfl⟩
      · rw [f_Runs_followDraw, eC, bnd_s]
        dsimp only [bl]
        rw [if_neg (show ¬ nI 2 = 0 by decide), if_neg (show ¬ nI 2 = nI 1 by decide), if_pos (show nI 2 = nI 2 from rfl), f_Runs_dropIfCan, C_whyNotDrop W c1 hk, bnd_s, ite_eq0 (by omega), if_neg e0, bnd_s]
      · rw [l_M_draws_1, ifin (by omega) (by omega), nI_clamp (by omega), m_2 m, ite_leN (by omega) (by omega), if_neg (by omega), eM, bnd_s]
        dsimp only [bl]
        rw [if_neg (show ¬ nI 2 = 0 by decide), if_neg (show ¬ nI 2 = nI 1 by decide), if_pos (show nI 2 = nI 2 from rfl), M_whyDrop W m1 hk, bnd_s, ite_eq0 (by omega), if_neg e0, nI_add]
theorem R_drwL {P : Pl} {F : Nat} (hF : 7 ≤ F) : ∀ (j k : Nat) (A : Ab) (hc hm : HS), k + j = P 0 5 → Rl0 P A hc hm → hc.1 36 4 = hm.1 0 31 → ∃ A2 hc2 hm2, (∀ x3 x4 K g, j < g → l_Runs_passDrawn_1 F x3 x4 K g (nI k) hc = K hc2) ∧ (∀ x2 x3 K g, j < g → l_M_draws_1 F x2 x3 K g (nI k) hm = K hm2) ∧ Rl0 P A2 hc2 hm2 ∧ Kp hc hm hc2 hm2 ∧ hc2.1 36 4 = hm2.1 0 31 ∧ A2.1 8 0 = A.1 8 0 := by
  intro j
  induction j with
  | zero =>
    intro k A hc hm hk q s
    obtain ⟨cc, m, W, -⟩ := id q
    obtain ⟨⟨wN, wNM, wM, wCo, w3, w4, w5, wC, wD, wK⟩, wAc, wAk, wAw, wAf⟩ := id W
    refine ⟨A, hc, hm, fun x3 x4 K g hg => ?_, fun x2 x3 K g hg => ?_, q, Kp_rf, s, rfl⟩
    · obtain ⟨g, rfl⟩ : ∃ z, g = z + 1 := ⟨g - 1, by omega⟩
      rw [l_Runs_passDrawn_1, C_clerks cc.1, bnd_s, ite_leN (by omega) (by omega), if_pos (by omega)]
    · obtain ⟨g, rfl⟩ : ∃ z, g = z + 1 := ⟨g - 1, by omega⟩
      rw [l_M_draws_1, ifin (by omega) (by omega), nI_clamp (by omega), m_2 m, ite_leN (by omega) (by omega), if_pos (by omega)]
  | succ j ih =>
    intro k A hc hm hk q s
    obtain ⟨cc, m, W, -⟩ := id q
    obtain ⟨⟨wN, wNM, wM, wCo, w3, w4, w5, wC, wD, wK⟩, wAc, wAk, wAw, wAf⟩ := id W
    obtain ⟨A1, hc1, hm1, a1, a2, a3, a4, a5, a6⟩ := R_draw1 hF q s (show k < P 0 5 by omega)
    obtain ⟨A2, hc2, hm2, b1, b2, b3, b4, b5, b6⟩ := ih (k + 1) A1 hc1 hm1 (by omega) a3 a5
    refine ⟨A2, hc2, hm2, fun x3 x4 K g hg => ?_, fun x2 x3 K g hg => ?_, b3, Kp_t a4 b4, b5, b6.trans a6⟩
    · obtain ⟨g, rfl⟩ : ∃ z, g = z + 1 := ⟨g - 1, by omega⟩
      rw [l_Runs_passDrawn_1, C_clerks cc.1, bnd_s, ite_leN (by omega) (by omega), if_neg (by omega), a1, bnd_s, bl_e, nI_add, b1 _ _ _ g (by omega)]
    · obtain ⟨g, rfl⟩ : ∃ z, g = z + 1 := ⟨g - 1, by omega⟩
      rw [a2, b2 _ _ _ g (by omega)]
theorem R_drw0 {P : Pl} {F n m w : Nat} (hF : 20000 ≤ F) (hn : n ≤ 50) (hm0 : m = min n (200 - w)) (hw : w ≤ 200) : ∀ (j i : Nat) (A : Ab) (hc hm : HS), i + j = m → A.1 8 0 = w + i → Rl0 P A hc hm → hc.1 36 4 = hm.1 0 31 → ∃ A2 hc2 hm2, (∀ g, j < g → l_Runs_passDrawn_0 F (nI m) g (nI i) hc = some (nI m, hc2)) ∧ (∀ g, j < g → l_M_draws_0 F (nI n) g (nI i) hm = some (nI m, hm2)) ∧ Rl0 P A2 hc2 hm2 ∧ Kp hc hm hc2 hm2 := by
  intro j
  induction j with
  | zero =>
    intro i A hc hm hi hA q s
    obtain ⟨cc, mm, W, -⟩ := id q
    obtain ⟨⟨wN, wNM, wM, wCo, w3, w4, w5, wC, wD, wK⟩, wAc, wAk, wAw, wAf⟩ := id W
    refine ⟨A, hc, hm, fun g hg => ?_, fun g hg => ?_, q, Kp_rf⟩
    · obtain ⟨g, rfl⟩ : ∃ z, g = z + 1 := ⟨g - 1, by omega⟩
      rw [l_Runs_passDrawn_0, ite_leN (by omega) (by omega), if_pos (by omega)]
    · obtain ⟨g, rfl⟩ : ∃ z, g = z + 1 := ⟨g - 1, by omega⟩
      rw [l_M_draws_0, ite_leN (by omega) (by omega), ifin (by omega) (by omega), nI_clamp (by omega), m_week mm, ite_leN (by omega) (by omega), show i = m by omega]
      by_cases z : n ≤ m
      · rw [if_pos z]
      · rw [if_neg z, if_pos (by omega)]
  | succ j ih =>
    intro i A hc hm hi hA q s
    obtain ⟨cc, mm, W, -⟩ := id q
    obtain ⟨⟨wN, wNM, wM, wCo, w3, w4, w5, wC, wD, wK⟩, wAc, wAk, wAw, wAf⟩ := id W
    obtain ⟨A1, hc1, hm1, a1, a2, a3, a4, a5, a6⟩ := R_drwL (F := F) (by omega) (P 0 5) 0 A hc hm (by omega) q s
    obtain ⟨r, s2, b1, b2, b3, b4⟩ := D_week (F := F) (by omega) a3 (by rw [a6]; omega)
    have w2 := (WF_week a3.2.2.1 (by rw [a6]; omega)).2
    obtain ⟨A3, hc3, hm3, c1, c2, c3, c4⟩ := ih (i + 1) _ _ _ (by omega) (by rw [w2, a6]; omega) b3 (sd_st a5)
    refine ⟨A3, hc3, hm3, fun g hg => ?_, fun g hg => ?_, c3, Kp_t a4 (Kp_t b4 c4)⟩
    · obtain ⟨g, rfl⟩ : ∃ z, g = z + 1 := ⟨g - 1, by omega⟩
      rw [l_Runs_passDrawn_0, ite_leN (by omega) (by omega), if_neg (by omega), bl_e, a1 _ _ _ F (by omega), b1, bnd_s, bl_e, nI_add, c1 g (by omega)]
    · obtain ⟨g, rfl⟩ : ∃ z, g = z + 1 := ⟨g - 1, by omega⟩
      rw [l_M_draws_0, ite_leN (by omega) (by omega), ifin (by omega) (by omega), nI_clamp (by omega), m_week mm, ite_leN (by omega) (by omega), if_neg (by omega), if_neg (by omega), bl_e, a2 _ _ _ F (by omega), b2, bnd_s, bl_e, nI_add, c2 g (by omega)]
theorem R_drawn {P : Pl} {A : Ab} {hc hm : HS} {F n : Nat} (hF : 20000 ≤ F) (hn : n ≤ 50) (x : Int32) (q : Rl0 P A hc hm) : ∃ A2 hc2 hm2, f_Runs_passDrawn F (nI n) x hc = some (nI (min n (200 - A.1 8 0)), hc2) ∧ f_M_draws F (nI n) x hm = some (nI (min n (200 - A.1 8 0)), hm2) ∧ Rl0 P A2 hc2 hm2 ∧ Kp hc hm hc2 hm2 := by
  obtain ⟨c, m, W, -⟩ := id q
  obtain ⟨⟨wN, wNM, wM, wCo, w3, w4, w5, wC, wD, wK⟩, wAc, wAk, wAw, wAf⟩ := id W
  have q2 := Rl0_dr (x := x) q
  have t2 := Kp_dr (hc := hc) (hm := hm) (x := x)
  obtain ⟨A2, hc2, hm2, a1, a2, a3, a4⟩ := R_drw0 (F := F) (n := n) (m := min n (200 - A.1 8 0)) (w := A.1 8 0) hF hn rfl wAw (min n (200 - A.1 8 0)) 0 A _ _ (by omega) rfl q2 (by rw [sI_e, sI_e])
  have e3 : (if 200 - A.1 8 0 < n then nI (200 - A.1 8 0) else nI n) = nI (min n (200 - A.1 8 0)) := by
    by_cases z : 200 - A.1 8 0 < n
    · rw [if_pos z, show min n (200 - A.1 8 0) = 200 - A.1 8 0 by omega]
    · rw [if_neg z, show min n (200 - A.1 8 0) = n by omega]
  refine ⟨A2, hc2, hm2, ?_, ?_, a3, Kp_t t2 a4⟩
  · rw [f_Runs_passDrawn, bl_e, C_weeksLeft W q2.1, bnd_s, ite_ltN (by omega) (by omega), e3, bl_e, bl_e, a1 F (by omega)]
  · rw [f_M_draws, bl_e, bl_e, a2 F (by omega)]
theorem S_drawn {F : Nat} (hF : 20000 ≤ F) (a b : Int32) : Sim (f_LC_drawn F a b) (f_M_drawn F a b) := by
  intro P A hc hm q0
  have q := Rel_th (v := nI 0) q0
  obtain ⟨c, m, W, -⟩ := id q
  obtain ⟨⟨wN, wNM, wM, wCo, w3, w4, w5, wC, wD, wK⟩, wAc, wAk, wAw, wAf⟩ := id W
  rw [f_LC_drawn, f_M_drawn, bl_e, M_isIn, bnd_s, ite_b0]
  by_cases x : a < nI 1
  · rw [if_pos x, if_neg (fun y => Int32.not_le.mpr x (of_decide_eq_true y).1)]
    exact ⟨_, _, _, P, A, rfl, rfl, q⟩
  · rw [if_neg x]
    by_cases y : a ≤ nI 50
    · rw [if_neg (Int32.not_lt.mpr y), if_pos (decide_eq_true ⟨Int32.not_lt.mp x, y⟩), C_clerks c.1, bnd_s, ite_eq0 (by omega), ifin (by omega) (by omega), nI_clamp (by omega), m_2 m, ite_eq0 (by omega)]
      obtain ⟨n, n1, n2, rfl⟩ := rg_ex (by omega) 1 (Int32.not_lt.mp x) y (by omega)
      by_cases z : P 0 5 = 0
      · rw [if_pos z, if_pos z]
        exact ⟨_, _, _, P, A, rfl, rfl, q⟩
      · rw [if_neg z, if_neg z, C_weeksLeft W c, bnd_s, ite_eq0 (by omega), ifin (by omega) (by omega), nI_clamp (by omega), m_week m, bl_e, ite_leN (by omega) (by omega)]
        by_cases w : A.1 8 0 = 200
        · obtain ⟨A2, hc2, hm2, a1, a2, a3, a4⟩ := R_drawn (F := F) hF n2 b (Rl0_of q)
          rw [if_pos (by omega), if_pos (by omega)]
          dsimp only
          rw [a2, bnd_s, show min n (200 - A.1 8 0) = 0 by omega]
          refine ⟨nI 0, hc, hm2, P, A, rfl, rfl, ?_⟩
          have e1 : f_M_draws F (nI n) b (sI hm 0 0 (nI 0)) = some (nI 0, sI (sI hm 0 0 (nI 0)) 0 31 b) := by
            obtain ⟨g, hg⟩ : ∃ z, F = z + 1 := ⟨F - 1, by omega⟩
            have m2 : MR P A (sI (sI hm 0 0 (nI 0)) 0 31 b) := by rw [sI_st]; exact MR_st (by decide) m
            rw [f_M_draws, bl_e, bl_e]
            conv => lhs; arg 3; rw [hg]
            rw [l_M_draws_0, ite_leN (by omega) (by omega), if_neg (by omega), ifin (by omega) (by omega), nI_clamp (by omega), m_week m2, ite_leN (by omega) (by omega), if_pos (by omega)]
          rw [a2] at e1
          rw [show hm2 = _ from congrArg Prod.snd (Option.some.inj e1)]
          dsimp only
          have k := Kp_dr (hc := hc) (hm := sI hm 0 0 (nI 0)) (x := b)
          refine Rel_of0 q ⟨c, ?_, W, q.2.2.2.1⟩ (Fr_rf (S := [])) (by decide) k.2.1 (by decide) k.2.2.1 k.2.2.2
          rw [sI_st]
          exact MR_st (by decide) m
        · rw [if_neg (by omega), if_neg (by omega)]
          obtain ⟨hc2, hm2, k1, k2, q2⟩ := Rel_keep (F := F) (by omega) q
          obtain ⟨A2, hc3, hm3, a1, a2, a3, a4⟩ := R_drawn (F := F) hF n2 b (Rl0_of q2)
          dsimp only
          rw [k1, bnd_s, a1, bnd_s, k2, bnd_s, a2, bnd_s]
          exact ⟨_, hc3, hm3, P, A2, rfl, rfl, Rel_of0 q2 a3 a4.1 (by decide) a4.2.1 (by decide) a4.2.2.1 a4.2.2.2⟩
    · rw [if_pos (Int32.not_le.mp y), if_neg (fun w => y (of_decide_eq_true w).2)]
      exact ⟨_, _, _, P, A, rfl, rfl, q⟩
