/-! ===== a LEDGER: one LINE, on both sides ===== -/
def lnOK (P : Pl) (s c o z0 z1 z2 : Int32) : Prop := (∃ k x, k < P 0 5 ∧ x < P 0 3 ∧ s = nI 0 ∧ c = nI k ∧ o = nI x ∧ z0 = nI 0 ∧ z1 = nI k ∧ z2 = nI x) ∨ (∃ k x, k < P 0 5 ∧ x < P 0 4 ∧ s = nI 1 ∧ c = nI k ∧ o = nI x ∧ z0 = nI 1 ∧ z1 = nI k ∧ z2 = nI x) ∨ (∃ k, k < P 0 5 ∧ s = nI 2 ∧ c = nI k ∧ z0 = nI 2 ∧ z1 = nI k) ∨ (∃ w, 1 ≤ w ∧ w ≤ 50 ∧ s = nI 3 ∧ o = nI w ∧ z0 = nI 3 ∧ z1 = nI w)
def LR (P : Pl) (m : Nat) (hc hm : HS) : Prop := ∀ i, i < m → lnOK P (hc.1 39 i) (hc.1 40 i) (hc.1 41 i) (hm.1 4 (3 * i)) (hm.1 4 (3 * i + 1)) (hm.1 4 (3 * i + 2))
def LGS (P : Pl) (n p a : Nat) (t : Nat × Nat) (B : Nat → Nat) (L : Nat) (hc hm : HS) : Prop := RD n 400 p a t B hc hm ∧ hc.1 38 5 = nI L ∧ hm.1 0 32 = nI L ∧ L ≤ 40 ∧ LR P L hc hm ∧ SD P hc hm
/-- a LINE was read -/
def LOK (P : Pl) (n a : Nat) (B : Nat → Nat) (L : Nat) (hc hm : HS) (rc rm : Option (Int32 × HS)) : Prop := ∃ p2 a2 t2 hc2 hm2, rc = some (nI 1, hc2) ∧ rm = some (nI 1, hm2) ∧ RD n 400 p2 a2 t2 B hc2 hm2 ∧ a < a2 ∧ FX hc hm hc2 hm2 ∧ hc2.1 38 5 = nI L ∧ L < 40 ∧ LR P (L + 1) hc2 hm2
theorem BAD_of {hc hm hc1 hm1 : HS} {rc rm rc0 rm0 : Option (Int32 × HS)} (x : FX hc hm hc1 hm1) (y : BAD hc1 hm1 rc0 rm0) (h1 : ∀ h, rc0 = some (nI 0, h) → rc = some (nI 0, h)) (h2 : ∀ h, rm0 = some (nI 0, h) → rm = some (nI 0, h)) : BAD hc hm rc rm := by
  obtain ⟨hc2, hm2, y1, y2, y3, y4⟩ := y
  exact ⟨hc2, hm2, h1 hc2 y1, h2 hm2 y2, y3, FX_t x y4⟩
theorem RD_4 {n p a : Nat} {t : Nat × Nat} {B : Nat → Nat} {hc hm : HS} {i k : Nat} {v : Int32} (r : RD n 400 p a t B hc hm) : RD n 400 p a t B hc (sI hm 4 k v) := RD_fr r rfl rfl rfl (fun _ _ => by rw [sI_o (by decide)]) (sI_o (by decide)) rfl
theorem RD_c {n p a : Nat} {t : Nat × Nat} {B : Nat → Nat} {hc hm : HS} {i k : Nat} {v : Int32} (hi : 3 ≤ i) (r : RD n 400 p a t B hc hm) : RD n 400 p a t B (sI hc i k v) hm := RD_fr r (sI_o (by omega)) (sI_o (by omega)) rfl (fun _ _ => rfl) rfl rfl
theorem RD_18' {n p a : Nat} {t : Nat × Nat} {B : Nat → Nat} {hc hm : HS} {v : Int32} (q : RD n 400 p a t B hc hm) : RD n 400 p a t B hc (sI hm 0 18 v) := RD_18 q
theorem FX_4 {hc hm : HS} {k : Nat} {v : Int32} : FX hc hm hc (sI hm 4 k v) := ⟨Fr_rf, Fr_sI (by decide), fun x _ => by rw [sI_o (by decide)], fun _ _ => rfl⟩
theorem FX_cc {hc hm : HS} {i k : Nat} {v : Int32} (hi : i ∈ fxc) : FX hc hm (sI hc i k v) hm := ⟨Fr_sI hi, Fr_rf, F0r_rf, fun _ _ => rfl⟩
/-- the new row, and the rows ahead of it -/
theorem LR_new {P : Pl} {L : Nat} {hc hm hc2 hm2 : HS} (q : LR P L hc hm) (h39 : ∀ i, i ≠ L → hc2.1 39 i = hc.1 39 i) (h40 : ∀ i, i ≠ L → hc2.1 40 i = hc.1 40 i) (h41 : ∀ i, i ≠ L → hc2.1 41 i = hc.1 41 i) (m4 : ∀ i, i < 3 * L → hm2.1 4 i = hm.1 4 i) (h : lnOK P (hc2.1 39 L) (hc2.1 40 L) (hc2.1 41 L) (hm2.1 4 (3 * L)) (hm2.1 4 (3 * L + 1)) (hm2.1 4 (3 * L + 2))) : LR P (L + 1) hc2 hm2 := fun i hi => by
  by_cases e : i = L
  · rw [e]; exact h
  · rw [h39 i e, h40 i e, h41 i e, m4 _ (by omega), m4 _ (by omega), m4 _ (by omega)]
    exact q i (by omega)
theorem T_bkW {F n p a L : Nat} {P : Pl} {t : Nat × Nat} {B : Nat → Nat} {hc hm : HS} (hF : 2000 ≤ F) (q : LGS P n p a t B L hc hm) (h9 : isW t 9 = true) : LOK P n a B L hc hm (f_Ledger_readLine F hc) (f_M_bookLine F hm) ∨ BAD hc hm (f_Ledger_readLine F hc) (f_M_bookLine F hm) := by
  obtain ⟨r, s1, s2, hL, lr, sd⟩ := q
  have TK := r.2.2.2.2.2.2.2.2.2.2.2.2.2
  have eC : f_Ledger_readLine F hc = if L < 40 then bnd (f_Tape_advance F hc) (fun _ h12 => if inb (h12.1 38 5) 40 = true then bnd (f_Ledger_readWeeks F (sI h12 40 (h12.1 38 5).toNatClampNeg (-1))) (fun r17 h16 => rZ r17 h16) else none) else bnd (f_Tape_fail (nI 4) hc) (fun r19 h18 => rZ r19 h18) := by
    rw [f_Ledger_readLine, C_isW TK (by decide), bnd_s, h9]
    dsimp only [bl]
    rw [if_neg (show ¬ bI true = 0 by decide), if_neg (show ¬ bI true = 0 by decide), if_neg (show ¬ bI true = 0 by decide), s1, ite_ltN (by omega) (by omega)]
    by_cases z : L < 40
    · rw [if_pos z, if_pos z]
      congr 1
    · rw [if_neg z, if_neg z]
  have eM : f_M_bookLine F hm = if L = 40 then bnd (f_M_bad (nI 4) hm) (fun r40 h39 => rZ r40 h39) else bnd (f_M_next F hm) (fun _ h34 => bnd (f_M_takes F (nI 1) (nI 50) h34) (fun r36 h35 => if r36 = 0 then rZ (nI 0) h35 else rZ (nI 1) (sI (sI h35 4 (3 * L) (nI 3)) 4 (3 * L + 1) (h35.1 0 18)))) := by
    rw [f_M_bookLine, s2, nI_mul, bl_e, M_isW TK (w := 9) (by decide) (by decide +kernel), bnd_s, h9, if_neg (show ¬ bI true = 0 by decide), s2, ite_eqN (by omega) (by omega)]
    by_cases z : L = 40
    · rw [if_pos z, if_pos z]
    · rw [if_neg z, if_neg z]
      congr 1
      funext _ h34
      congr 1
      funext r36 h35
      rw [ifin (by omega) (by omega), nI_clamp (by omega), bl_e, nI_add, ifin (by omega) (by omega), nI_clamp (by omega), bl_e, sI_o (show (0 : Nat) ≠ 4 by decide)]
  rw [eC, eM]
  by_cases z : L = 40
  · rw [if_neg (by omega), if_pos z]
    exact Or.inr (BAD_of FX_rf (T_fail 4 (by decide) r) (fun h e => by rw [e, bnd_s, rZ0]) (fun h e => by rw [e, bnd_s, rZ0]))
  · obtain ⟨p2, a2, t2, hc2, hm2, b1, b2, b3, b4, b5, -, -⟩ := T_adv hF r (Or.inl (isW_1 h9))
    have c38 : hc2.1 38 5 = nI L := by rw [(b5.1 38 (by decide)).1]; exact s1
    rw [if_pos (by omega), if_neg z, b1, b2, bnd_s, bnd_s, c38, ifin (by omega) (by omega), nI_clamp (by omega), f_Ledger_readWeeks]
    have r3 : RD n 400 p2 a2 t2 B (sI hc2 40 L (-1)) hm2 := RD_c (by omega) b3
    have fx3 : FX hc hm (sI hc2 40 L (-1)) hm2 := FX_t (TS_fx b5) (FX_cc (by decide))
    rcases T_num hF 1 50 (by decide) (by decide) r3 with ⟨w, p4, a4, t4, hc4, hm4, d1, d2, d3, d4, d5, d6, d7, d8, d9⟩ | bad
    · have e38 : hc4.1 38 5 = nI L := by rw [(d7.1 38 (by decide)).1, sI_o (by decide)]; exact c38
      rw [d3, d4, bnd_s, bnd_s, if_neg (show ¬ nI 1 = 0 by decide), if_neg (show ¬ nI 1 = 0 by decide), e38, ifin (by omega) (by omega), nI_clamp (by omega), bl_e, f_Tape_taken, bnd_s, sI_o (show (1 : Nat) ≠ 39 by decide), d8, sI_o (show (38 : Nat) ≠ 39 by decide), e38, ifin (by omega) (by omega), nI_clamp (by omega), bl_e, rZ1, bnd_s, rZ1, rZ1, d9]
      refine Or.inl ⟨p4, a4, t4, _, _, rfl, rfl, RD_4 (i := 0) (RD_4 (i := 0) (RD_c (by omega) (RD_c (by omega) d5))), by omega, FX_t fx3 (FX_t (TS_fx d7) (FX_t (FX_cc (i := 39) (by decide)) (FX_t (FX_cc (i := 41) (by decide)) (FX_t FX_4 FX_4)))), by rw [sI_o (by decide), sI_o (by decide)]; exact e38, by omega, LR_new lr (fun i hi => ?_) (fun i hi => ?_) (fun i hi => ?_) (fun i hi => ?_) (Or.inr (Or.inr (Or.inr ⟨w, d1, d2, ?_, ?_, ?_, ?_⟩)))⟩
      · rw [sI_o (by decide), sI_n hi, (d7.1 39 (by decide)).1, sI_o (by decide), (b5.1 39 (by decide)).1]
      · rw [sI_o (by decide), sI_o (by decide), (d7.1 40 (by decide)).1, sI_n hi, (b5.1 40 (by decide)).1]
      · rw [sI_n hi, sI_o (by decide), (d7.1 41 (by decide)).1, sI_o (by decide), (b5.1 41 (by decide)).1]
      · rw [sI_n (by omega), sI_n (by omega), (d7.2.1 4 (by decide)).1, (b5.2.1 4 (by decide)).1]
      · rw [sI_o (by decide), sI_e]
      · rw [sI_e]
      · rw [sI_n (by omega), sI_e]
      · rw [sI_e]
    · exact Or.inr (BAD_of fx3 bad (fun h e => by rw [e, bnd_s, if_pos (show nI 0 = 0 from rfl), rZ0, bnd_s, rZ0]) (fun h e => by rw [e, bnd_s, if_pos (show nI 0 = 0 from rfl), rZ0]))
