/-! ===== a LEDGER: any LINE; all LINES ===== -/
theorem wx_8 {t : Nat × Nat} (h : isW t 8 = true) : isW t 6 = false ∧ isW t 7 = false := by
  obtain ⟨h1, h2⟩ := of_decide_eq_true h
  have e : t = (1, WNs.getD 8 0) := Prod.ext h1 h2
  rw [e]
  decide +kernel
theorem T_bkN {F n p a L : Nat} {P : Pl} {t : Nat × Nat} {B : Nat → Nat} {hc hm : HS} (hF : 2000 ≤ F) (q : LGS P n p a t B L hc hm) (h9 : isW t 9 = false) : LOK P n a B L hc hm (f_Ledger_readLine F hc) (f_M_bookLine F hm) ∨ BAD hc hm (f_Ledger_readLine F hc) (f_M_bookLine F hm) := by
  obtain ⟨r, s1, s2, hL, lr, sd⟩ := q
  have TK := r.2.2.2.2.2.2.2.2.2.2.2.2.2
  obtain ⟨⟨⟨i0, i1, i2, i3, i4, i5⟩, j1, j2, j3, j4, j5, j6, j7⟩, ⟨⟨n0, n1, n2, n3, n4, n5, n6⟩, k1, k2, k3, k4, k5, k6⟩, wp, rs⟩ := id sd
  obtain ⟨-, -, -, -, w3, w4, w5, -⟩ := id wp
  have TB : TABm 12 (P 0 5) (P 13) hm := fun i hi => ⟨by
    have := k6 i hi
    rw [Nat.zero_add] at this
    exact this, (j7 i hi).2⟩
  have TC : TABc 6 (P 0 5) (P 13) hc := fun i hi => j7 i hi
  have hl := fnI_le (f := P 13) (x := t.2) (P 0 5) 0
  have eC : f_Ledger_readLine F hc = if nmB t = true then (if fnI (P 13) t.2 (P 0 5) 0 = 0 then bnd (f_Tape_fail (nI 3) hc) (fun r h => rZ r h) else if L < 40 then bnd (f_Tape_advance F hc) (fun _ h12 => if inb (h12.1 38 5) 40 = true then bnd (f_Ledger_readVerb F (sI h12 40 (h12.1 38 5).toNatClampNeg (nI (fnI (P 13) t.2 (P 0 5) 0 - 1)))) (fun r15 h14 => rZ r15 h14) else none) else bnd (f_Tape_fail (nI 4) hc) (fun r h => rZ r h)) else bnd (f_Tape_fail (nI 1) hc) (fun r h => rZ r h) := by
    rw [f_Ledger_readLine, C_isW TK (by decide), bnd_s, h9]
    dsimp only [bl]
    rw [if_pos (show bI false = 0 from rfl), C_isN hF TK, bnd_s, ite_b0]
    by_cases z : nmB t = true
    · obtain ⟨y1, y2, y3⟩ := (TK_k1 TK).2.2.2.2.2.2.2.1 (nmB_1 z)
      rw [if_pos z, if_pos z, if_pos (show bI false = 0 from rfl), f_Tape_letters, bnd_s, y1, f_Plan_clerkNamed_3, i5, C_po6 hF y3 TC (by omega), bnd_s, bnd_s, if_pos (show bI false = 0 from rfl), ite_pn (by omega)]
      by_cases y : fnI (P 13) t.2 (P 0 5) 0 = 0
      · rw [if_pos y, if_pos y]
      · rw [if_neg y, if_neg y, pI_p (by omega), s1, ite_ltN (by omega) (by omega)]
        by_cases x : L < 40
        · rw [if_pos x, if_pos x]
          rfl
        · rw [if_neg x, if_neg x]
    · rw [if_neg z, if_neg z]
  have eM : f_M_bookLine F hm = if nmB t = true then (if fnI (P 13) t.2 (P 0 5) 0 = 0 then bnd (f_M_bad (nI 3) (sI hm 0 18 (-1))) (fun r h => rZ (nI 0) h) else if L < 40 then bnd (f_M_next F (sI (sI hm 0 18 (nI (fnI (P 13) t.2 (P 0 5) 0 - 1))) 4 (3 * L + 1) (nI (fnI (P 13) t.2 (P 0 5) 0 - 1)))) (fun _ h7 => vbM F L h7) else bnd (f_M_bad (nI 4) (sI hm 0 18 (nI (fnI (P 13) t.2 (P 0 5) 0 - 1)))) (fun r h => rZ r h)) else bnd (f_M_bad (nI 1) hm) (fun r h => rZ (nI 0) h) := by
    rw [f_M_bookLine, s2, nI_mul, bl_e, M_isW TK (w := 9) (by decide) (by decide +kernel), bnd_s, h9, if_pos (show bI false = 0 from rfl), ifin (by omega) (by omega), nI_clamp (by omega), n2, M_look hF TK rs TB (by omega)]
    by_cases z : nmB t = true
    · rw [if_pos z, if_pos z]
      by_cases y : fnI (P 13) t.2 (P 0 5) 0 = 0
      · rw [if_pos y, if_pos y, f_M_bad, bl_e, bl_e, rZ0, bnd_s, if_pos (show nI 0 = 0 from rfl), bnd_s, if_pos (show nI 0 = 0 from rfl), bnd_s]
      · rw [if_neg y, if_neg y, bnd_s, if_neg (show ¬ nI 1 = 0 by decide), sI_n (show (32 : Nat) ≠ 18 by decide), s2, ite_eqN (by omega) (by omega)]
        by_cases x : L < 40
        · rw [if_neg (by omega), if_pos x, nI_add, ifin (by omega) (by omega), nI_clamp (by omega), sI_e, bl_e]
          rfl
        · rw [if_pos (by omega), if_neg x]
    · rw [if_neg z, if_neg z, f_M_bad, bl_e, bl_e, rZ0, bnd_s, rZ0, bnd_s, if_pos (show nI 0 = 0 from rfl), bnd_s]
  rw [eC, eM]
  by_cases z : nmB t = true
  · rw [if_pos z, if_pos z]
    by_cases y : fnI (P 13) t.2 (P 0 5) 0 = 0
    · rw [if_pos y, if_pos y]
      exact Or.inr (BAD_of FX_18 (T_fail 3 (by decide) (RD_18 (v := -1) r)) (fun h e => by rw [e, bnd_s, rZ0]) (fun h e => by rw [e, bnd_s, rZ0]))
    · rw [if_neg y, if_neg y]
      generalize hk : fnI (P 13) t.2 (P 0 5) 0 - 1 = k
      have hkk : k < P 0 5 := by omega
      by_cases x : L < 40
      · rw [if_pos x, if_pos x]
        obtain ⟨p2, a2, t2, hc2, hm2, b1, b2, b3, b4, b5, -, -⟩ := T_adv hF (RD_4 (i := 0) (k := 3 * L + 1) (v := nI k) (RD_18' (v := nI k) r)) (Or.inl (nmB_1 z))
        have c38 : hc2.1 38 5 = nI L := by rw [(b5.1 38 (by decide)).1]; exact s1
        rw [b1, b2, bnd_s, bnd_s, c38, ifin (by omega) (by omega), nI_clamp (by omega)]
        have r3 : RD n 400 p2 a2 t2 B (sI hc2 40 L (nI k)) hm2 := RD_c (by omega) b3
        have fx3 : FX hc hm (sI hc2 40 L (nI k)) hm2 := FX_t FX_18 (FX_t FX_4 (FX_t (TS_fx b5) (FX_cc (by decide))))
        have sd3 := SD_fx sd fx3
        have TK3 := r3.2.2.2.2.2.2.2.2.2.2.2.2.2
        have e38 : (sI hc2 40 L (nI k)).1 38 5 = nI L := by rw [sI_o (by decide)]; exact c38
        have e39 : (sI hc2 40 L (nI k)).1 39 = hc.1 39 := by rw [sI_o (by decide), (b5.1 39 (by decide)).1]
        have e41 : (sI hc2 40 L (nI k)).1 41 = hc.1 41 := by rw [sI_o (by decide), (b5.1 41 (by decide)).1]
        have e40 : (sI hc2 40 L (nI k)).1 40 = upd (hc.1 40) L (nI k) := by rw [sI_u, (b5.1 40 (by decide)).1]
        have e4 : hm2.1 4 = upd (hm.1 4) (3 * L + 1) (nI k) := by rw [(b5.2.1 4 (by decide)).1, sI_u, sI_o (by decide)]
        rw [C_verb TK3 e38 x, vb_e TK3 x]
        generalize sI hc2 40 L (nI k) = hcA at *
        have fin : ∀ (v m : Nat) (hc4 hm4 : HS) (w : Nat), (v = 0 ∧ m = P 0 3 ∨ v = 1 ∧ m = P 0 4) → w < m → hc4.1 40 = hcA.1 40 → hc4.1 39 = upd (hcA.1 39) L (nI v) → hc4.1 41 = upd (hcA.1 41) L (nI w) → hm4.1 4 = upd (upd (hm2.1 4) (3 * L) (nI v)) (3 * L + 2) (nI w) → LR P (L + 1) hc4 hm4 := fun v m hc4 hm4 w hv hw g40 g39 g41 g4 => by
          refine LR_new lr (fun i hi => by rw [g39, upd_n hi, e39]) (fun i hi => by rw [g40, e40, upd_n hi]) (fun i hi => by rw [g41, upd_n hi, e41]) (fun i hi => by rw [g4, upd_n (by omega), upd_n (by omega), e4, upd_n (by omega)]) ?_
          rw [g39, g40, g41, g4, e40, upd_e, upd_e, upd_e, upd_n (show 3 * L ≠ 3 * L + 2 by omega), upd_e, upd_n (show 3 * L + 1 ≠ 3 * L + 2 by omega), upd_n (show 3 * L + 1 ≠ 3 * L by omega), e4, upd_e, upd_e]
          rcases hv with ⟨e1, e2⟩ | ⟨e1, e2⟩ <;> subst e1 e2
          · exact Or.inl ⟨k, w, hkk, hw, rfl, rfl, rfl, rfl, rfl, rfl⟩
          · exact Or.inr (Or.inl ⟨k, w, hkk, hw, rfl, rfl, rfl, rfl, rfl, rfl⟩)
        by_cases h8 : isW t2 8 = true
        · obtain ⟨h6, h7⟩ := wx_8 h8
          rw [if_pos h8, h6, h7, if_neg (show ¬ false = true by decide), if_neg (show ¬ false = true by decide), if_pos h8]
          obtain ⟨p4, a4, t4, hc4, hm4, d1, d2, d3, d4, d5, -, -⟩ := T_adv hF (RD_4 (i := 0) (k := 3 * L) (v := nI 2) r3) (Or.inl (isW_1 h8))
          have g38 : hc4.1 38 5 = nI L := by rw [(d5.1 38 (by decide)).1]; exact e38
          rw [d1, d2, bnd_s, bnd_s, g38, ifin (by omega) (by omega), nI_clamp (by omega), bl_e, sI_o (show (38 : Nat) ≠ 39 by decide), g38, ifin (by omega) (by omega), nI_clamp (by omega), bl_e, rZ1, bnd_s, rZ1]
          refine Or.inl ⟨p4, a4, t4, _, _, rfl, rfl, RD_c (by omega) (RD_c (by omega) d3), by omega, FX_t fx3 (FX_t FX_4 (FX_t (TS_fx d5) (FX_t (FX_cc (i := 39) (by decide)) (FX_cc (i := 41) (by decide))))), by rw [sI_o (by decide), sI_o (by decide)]; exact g38, x, LR_new lr (fun i hi => ?_) (fun i hi => ?_) (fun i hi => ?_) (fun i hi => ?_) (Or.inr (Or.inr (Or.inl ⟨k, hkk, ?_, ?_, ?_, ?_⟩)))⟩
          · rw [sI_o (by decide), sI_n hi, (d5.1 39 (by decide)).1, e39]
          · rw [sI_o (by decide), sI_o (by decide), (d5.1 40 (by decide)).1, e40, upd_n hi]
          · rw [sI_n hi, sI_o (by decide), (d5.1 41 (by decide)).1, e41]
          · rw [(d5.2.1 4 (by decide)).1, sI_n (by omega), e4, upd_n (by omega)]
          · rw [sI_o (by decide), sI_e]
          · rw [sI_o (by decide), sI_o (by decide), (d5.1 40 (by decide)).1, e40, upd_e]
          · rw [(d5.2.1 4 (by decide)).1, sI_e]
          · rw [(d5.2.1 4 (by decide)).1, sI_n (by omega), e4, upd_e]
        · rw [if_neg h8]
          by_cases h6 : isW t2 6 = true
          · rw [if_pos h6, if_pos h6]
            rcases T_ob (v := 0) (off := 0) (cell := 0) (m := P 0 3) (f := P 11) (nm := f_Plan_causeNamed_3 F) (L := L) hF r3 sd3 e38 x (isW_1 h6) (fun x h hx pc => by rw [f_Plan_causeNamed_3, pc.1.2.2.2.1, C_po4 hF hx (fun i hi => pc.2.2.2.2.2.1 i hi) (by omega), bnd_s]) (fun hc2 hm2 sd => ⟨fun i hi => ⟨by
                have := sd.2.1.2.2.2.2.1 i hi
                exact this, (sd.1.2.2.2.2.2.1 i hi).2⟩, sd.2.1.1.1⟩) (by omega) (by omega) with ⟨w, p4, a4, t4, hc4, hm4, d1, d2, d3, d4, d5, d6, ⟨d7, d8, d9, d10⟩, d11⟩ | bad
            · rw [d2, d3, bnd_s, rZ1]
              exact Or.inl ⟨p4, a4, t4, hc4, hm4, rfl, rfl, d4, by omega, FX_t fx3 d6, by rw [d7]; exact e38, x, fin 0 (P 0 3) hc4 hm4 w (Or.inl ⟨rfl, rfl⟩) d1 d8 d9 d10 d11⟩
            · exact Or.inr (BAD_of fx3 bad (fun h e => by rw [e, bnd_s, rZ0]) (fun h e => e))
          · rw [if_neg h6, if_neg h6]
            by_cases h7 : isW t2 7 = true
            · rw [if_pos h7, if_pos h7]
              rcases T_ob (v := 1) (off := 6) (cell := 1) (m := P 0 4) (f := P 12) (nm := f_Plan_deedNamed_3 F) (L := L) hF r3 sd3 e38 x (isW_1 h7) (fun x h hx pc => by rw [f_Plan_deedNamed_3, pc.1.2.2.2.2.1, C_po5 hF hx (fun i hi => pc.2.2.2.2.2.2.1 i hi) (by omega), bnd_s]) (fun hc2 hm2 sd => ⟨fun i hi => ⟨by
                  have := sd.2.1.2.2.2.2.2.1 i hi
                  rw [Nat.zero_add] at this
                  exact this, (sd.1.2.2.2.2.2.2.1 i hi).2⟩, sd.2.1.1.2.1⟩) (by omega) (by omega) with ⟨w, p4, a4, t4, hc4, hm4, d1, d2, d3, d4, d5, d6, ⟨d7, d8, d9, d10⟩, d11⟩ | bad
              · rw [d2, d3, bnd_s, rZ1]
                exact Or.inl ⟨p4, a4, t4, hc4, hm4, rfl, rfl, d4, by omega, FX_t fx3 d6, by rw [d7]; exact e38, x, fin 1 (P 0 4) hc4 hm4 w (Or.inr ⟨rfl, rfl⟩) d1 d8 d9 d10 d11⟩
              · exact Or.inr (BAD_of fx3 bad (fun h e => by rw [e, bnd_s, rZ0]) (fun h e => e))
            · rw [if_neg h7, if_neg h7, if_neg h8]
              exact Or.inr (BAD_of fx3 (T_fail 1 (by decide) r3) (fun h e => by rw [e, bnd_s, rZ0, bnd_s, rZ0]) (fun h e => by rw [e, bnd_s, rZ0]))
      · rw [if_neg x, if_neg x]
        exact Or.inr (BAD_of FX_18 (T_fail 4 (by decide) (RD_18 (v := nI k) r)) (fun h e => by rw [e, bnd_s, rZ0]) (fun h e => by rw [e, bnd_s, rZ0]))
  · rw [if_neg z, if_neg z]
    exact Or.inr (BAD_of FX_rf (T_fail 1 (by decide) r) (fun h e => by rw [e, bnd_s, rZ0]) (fun h e => by rw [e, bnd_s, rZ0]))
theorem T_bk {F n p a L : Nat} {P : Pl} {t : Nat × Nat} {B : Nat → Nat} {hc hm : HS} (hF : 2000 ≤ F) (q : LGS P n p a t B L hc hm) : LOK P n a B L hc hm (f_Ledger_readLine F hc) (f_M_bookLine F hm) ∨ BAD hc hm (f_Ledger_readLine F hc) (f_M_bookLine F hm) := by
  by_cases h : isW t 9 = true
  · exact T_bkW hF q h
  · exact T_bkN hF q (by cases e : isW t 9 <;> first | rfl | exact absurd e h)
