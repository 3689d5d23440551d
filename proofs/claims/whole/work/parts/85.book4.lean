/-! ===== a LEDGER: all LINES ===== -/
theorem T_bkL {F n : Nat} {P : Pl} {B : Nat → Nat} (hF : 2000 ≤ F) : ∀ (j L p a : Nat) (t : Nat × Nat) (hc hm : HS), 41 ≤ L + j → LGS P n p a t B L hc hm → (∃ L2 hc2 hm2, (∀ g, j < g → l_Ledger_read_0 F g (nI L) hc = some (nI 1, hc2)) ∧ (∀ K x1 g, j < g → l_M_ledger_0 F x1 K g hm = K hm2) ∧ hc2.1 38 5 = nI L2 ∧ hm2.1 0 32 = nI L2 ∧ L2 ≤ 40 ∧ LR P L2 hc2 hm2 ∧ FX2 hc hm hc2 hm2 ∧ hc2.1 1 9 = nI 0 ∧ hm2.1 0 15 = nI 0) ∨ (∃ hc2 hm2, (∀ g, j < g → l_Ledger_read_0 F g (nI L) hc = some (nI 0, hc2)) ∧ (∀ K x1 g, j < g → l_M_ledger_0 F x1 K g hm = some ((-2 : Int32) - hm2.1 0 16, hm2)) ∧ FL hc2 hm2 ∧ FX2 hc hm hc2 hm2) := by
  intro j
  induction j with
  | zero =>
    intro L p a t hc hm hj q
    have := q.2.2.2.1
    omega
  | succ j ih =>
    intro L p a t hc hm hj q
    have q0 := q
    obtain ⟨r, s1, s2, hL, lr, sd⟩ := q
    have TK := r.2.2.2.2.2.2.2.2.2.2.2.2.2
    have k := TK_k1 TK
    have C : ∀ g, l_Ledger_read_0 F (g + 1) (nI L) hc = if t.1 = 0 then some (nI 1, hc) else bnd (f_Ledger_readLine F hc) (fun r7 h6 => if r7 = 0 then rZ (nI 0) h6 else bnd (f_Tape_takeSign F (nI 59) h6) (fun r9 h8 => if r9 = 0 then rZ (nI 0) h8 else l_Ledger_read_0 F g (nI (L + 1)) (sI h8 38 5 (h8.1 38 5 + nI 1)))) := fun g => by
      rw [l_Ledger_read_0, ite_ltN (by omega) (by omega), if_neg (by omega), f_Tape_isAtEnd, ite_iff (show hc.1 1 5 = 0 ↔ t.1 = 0 from k.2.2.2.2.1)]
      by_cases z : t.1 = 0
      · rw [if_pos z, if_pos z, rZ1, bnd_s, if_neg (show ¬ nI 1 = 0 by decide), rZ1]
      · rw [if_neg z, if_neg z, rZ0, bnd_s, if_pos (show nI 0 = 0 from rfl)]
        congr 1
        funext r7 h6
        congr 1
        congr 1
        funext r9 h8
        rw [bl_e, bl_e, nI_add]
    have M : ∀ K x1 g, l_M_ledger_0 F x1 K (g + 1) hm = if t.1 = 0 then K hm else bnd (f_M_bookLine F hm) (fun r9 h8 => if r9 = 0 then some (((-2 : Int32) - (h8.1 0 16)), h8) else bnd (f_M_sign F (nI 59) h8) (fun r11 h10 => if r11 = 0 then some (((-2 : Int32) - (h10.1 0 16)), h10) else l_M_ledger_0 F x1 K g (sI h10 0 32 (h10.1 0 32 + nI 1)))) := fun K x1 g => by
      rw [l_M_ledger_0, ite_iff (show hm.1 0 11 = 0 ↔ t.1 = 0 from k.2.2.2.2.2.1)]
      rfl
    by_cases z : t.1 = 0
    · refine Or.inl ⟨L, hc, hm, fun g hg => ?_, fun K x1 g hg => ?_, s1, s2, hL, lr, FX_2 FX_rf, r.2.2.2.2.2.2.2.2.2.2.2.1, r.2.2.2.2.2.2.2.2.2.2.2.2.1⟩
      · obtain ⟨g, rfl⟩ : ∃ z, g = z + 1 := ⟨g - 1, by omega⟩
        rw [C, if_pos z]
      · obtain ⟨g, rfl⟩ : ∃ z, g = z + 1 := ⟨g - 1, by omega⟩
        rw [M, if_pos z]
    · rcases T_bk hF q0 with ⟨p2, a2, t2, hc2, hm2, b1, b2, b3, b4, b5, b6, b7, b8⟩ | ⟨hc2, hm2, b1, b2, b3, b4⟩
      · rcases T_sign (c := 59) hF (by omega) b3 with ⟨p3, a3, t3, hc3, hm3, -, d1, d2, d3, d4, d5, -⟩ | ⟨-, hc3, hm3, d1, d2, d3, d4⟩
        · have g38 : hc3.1 38 5 = nI L := by rw [(d5.1 38 (by decide)).1]; exact b6
          have g32 : hm3.1 0 32 = nI L := by rw [d5.2.2 32 (by decide), b5.2.2.1 32 (by decide)]; exact s2
          have fx3 : FX2 hc hm (sI hc3 38 5 (nI (L + 1))) (sI hm3 0 32 (nI (L + 1))) := FX2_t (FX_2 (FX_t b5 (FX_t (TS_fx d5) (FX_cc (i := 38) (k := 5) (v := nI (L + 1)) (by decide))))) (FX2_0 (by decide))
          have q3 : LGS P n p3 a3 t3 B (L + 1) (sI hc3 38 5 (nI (L + 1))) (sI hm3 0 32 (nI (L + 1))) := by
            refine ⟨RD_fr d3 (sI_o (by decide)) (sI_o (by decide)) rfl (fun i hi => sI_n ?_) (sI_o (by decide)) rfl, sI_e, sI_e, by omega, fun i hi => ?_, ?_⟩
            · have : ∀ x, x ∈ [3, 4, 5, 11, 12, 14, 15] → x ≠ 32 := by decide
              exact this i hi
            · rw [sI_o (by decide), sI_o (by decide), sI_o (by decide), sI_o (by decide), (d5.1 39 (by decide)).1, (d5.1 40 (by decide)).1, (d5.1 41 (by decide)).1, (d5.2.1 4 (by decide)).1]
              exact b8 i hi
            · have sd3 := SD_fx (SD_fx sd b5) (TS_fx d5)
              exact SD_fx (hm := hm3) (hc := hc3) sd3 ⟨Fr_sI (by decide), Fr_rf, F0r_rf, fun _ _ => rfl⟩ |> fun x => ⟨x.1, by rw [sI_o (by decide)]; exact x.2.1, x.2.2.1, x.2.2.2⟩
          have eC : ∀ g, l_Ledger_read_0 F (g + 1) (nI L) hc = l_Ledger_read_0 F g (nI (L + 1)) (sI hc3 38 5 (nI (L + 1))) := fun g => by
            rw [C, if_neg z, b1, bnd_s, if_neg (show ¬ nI 1 = 0 by decide), d1, bnd_s, if_neg (show ¬ nI 1 = 0 by decide), g38, nI_add]
          have eM : ∀ K x1 g, l_M_ledger_0 F x1 K (g + 1) hm = l_M_ledger_0 F x1 K g (sI hm3 0 32 (nI (L + 1))) := fun K x1 g => by
            rw [M, if_neg z, b2, bnd_s, if_neg (show ¬ nI 1 = 0 by decide), d2, bnd_s, if_neg (show ¬ nI 1 = 0 by decide), g32, nI_add]
          rcases ih (L + 1) p3 a3 t3 _ _ (by omega) q3 with ⟨L2, hc4, hm4, e1, e2, e3, e4, e5, e6, e7, e8, e9⟩ | ⟨hc4, hm4, e1, e2, e3, e4⟩
          · refine Or.inl ⟨L2, hc4, hm4, fun g hg => ?_, fun K x1 g hg => ?_, e3, e4, e5, e6, FX2_t fx3 e7, e8, e9⟩
            · obtain ⟨g, rfl⟩ : ∃ z, g = z + 1 := ⟨g - 1, by omega⟩
              rw [eC, e1 g (by omega)]
            · obtain ⟨g, rfl⟩ : ∃ z, g = z + 1 := ⟨g - 1, by omega⟩
              rw [eM, e2 K x1 g (by omega)]
          · refine Or.inr ⟨hc4, hm4, fun g hg => ?_, fun K x1 g hg => ?_, e3, FX2_t fx3 e4⟩
            · obtain ⟨g, rfl⟩ : ∃ z, g = z + 1 := ⟨g - 1, by omega⟩
              rw [eC, e1 g (by omega)]
            · obtain ⟨g, rfl⟩ : ∃ z, g = z + 1 := ⟨g - 1, by omega⟩
              rw [eM, e2 K x1 g (by omega)]
        · refine Or.inr ⟨hc3, hm3, fun g hg => ?_, fun K x1 g hg => ?_, d3, FX_2 (FX_t b5 d4)⟩
          · obtain ⟨g, rfl⟩ : ∃ z, g = z + 1 := ⟨g - 1, by omega⟩
            rw [C, if_neg z, b1, bnd_s, if_neg (show ¬ nI 1 = 0 by decide), d1, bnd_s, if_pos (show nI 0 = 0 from rfl), rZ0]
          · obtain ⟨g, rfl⟩ : ∃ z, g = z + 1 := ⟨g - 1, by omega⟩
            rw [M, if_neg z, b2, bnd_s, if_neg (show ¬ nI 1 = 0 by decide), d2, bnd_s, if_pos (show nI 0 = 0 from rfl)]
      · refine Or.inr ⟨hc2, hm2, fun g hg => ?_, fun K x1 g hg => ?_, b3, FX_2 b4⟩
        · obtain ⟨g, rfl⟩ : ∃ z, g = z + 1 := ⟨g - 1, by omega⟩
          rw [C, if_neg z, b1, bnd_s, if_pos (show nI 0 = 0 from rfl), rZ0]
        · obtain ⟨g, rfl⟩ : ∃ z, g = z + 1 := ⟨g - 1, by omega⟩
          rw [M, if_neg z, b2, bnd_s, if_pos (show nI 0 = 0 from rfl)]
