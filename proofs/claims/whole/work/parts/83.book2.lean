/-! ===== a LEDGER: LINES of a CLERK, on both sides ===== -/
def jcM (F L : Nat) (v17 v20 : Int32) (h21 : HS) : Option (Int32 × HS) := if inb v20 332 = true then bnd (f_M_looksAt F v17 (h21.1 2 v20.toNatClampNeg) h21) (fun (r23 : Int32) (h22 : HS) => (if r23 = 0 then rZ (nI 0) h22 else (if inb ((nI (3 * L)) + (nI 2)) 135 = true then bl (sI h22 4 ((nI (3 * L)) + (nI 2)).toNatClampNeg (h22.1 0 18)) (fun (h24 : HS) => bnd (f_M_next F  h24) (fun (_ : Unit) (h25 : HS) => rZ (nI 1) h25)) else none))) else none
def jbM (F L : Nat) (v13 : Int32) (h12 : HS) : Option (Int32 × HS) := if 0 ≤ v13 then (if inb (nI (3 * L)) 135 = true then bl (sI h12 4 (nI (3 * L)).toNatClampNeg v13) (fun (h14 : HS) => bnd (f_M_next F  h14) (fun (_ : Unit) (h15 : HS) => (if v13 = (nI 2) then rZ (nI 1) h15 else if v13 = 0 then (if v13 = 0 then jcM F L (nI 0) (nI 0) h15 else jcM F L (nI 0) (nI 1) h15) else (if v13 = 0 then jcM F L (nI 6) (nI 0) h15 else jcM F L (nI 6) (nI 1) h15)))) else none) else bnd (f_M_bad (nI 1) h12) (fun (r27 : Int32) (h26 : HS) => rZ r27 h26)
def vbM (F L : Nat) (h7 : HS) : Option (Int32 × HS) := bnd (f_M_isWord (499850634611 : Int64) h7) (fun (r9 : Int32) (h8 : HS) => if r9 = 0 then bnd (f_M_isWord (1685022067 : Int64) h8) (fun (r29 : Int32) (h28 : HS) => (if r29 = 0 then bnd (f_M_isWord (431416635507 : Int64) h28) (fun (r31 : Int32) (h30 : HS) => (if r31 = 0 then jbM F L (-1 : Int32) h30 else jbM F L (nI 2) h30)) else jbM F L (nI 1) h28)) else jbM F L (nI 0) h8)
def obM (F L v off cell : Nat) (h7 : HS) : Option (Int32 × HS) := bnd (f_M_next F (sI h7 4 (3 * L) (nI v))) (fun _ h15 => bnd (f_M_looksAt F (nI off) (h15.1 2 cell) h15) (fun r23 h22 => if r23 = 0 then rZ (nI 0) h22 else bnd (f_M_next F (sI h22 4 (3 * L + 2) (h22.1 0 18))) (fun _ h25 => rZ (nI 1) h25)))
theorem vb_e {F L : Nat} {t : Nat × Nat} {hc hm : HS} (q : TKr t hc hm) (hL : L < 40) : vbM F L hm = if isW t 6 = true then obM F L 0 0 0 hm else if isW t 7 = true then obM F L 1 6 1 hm else if isW t 8 = true then bnd (f_M_next F (sI hm 4 (3 * L) (nI 2))) (fun _ h15 => rZ (nI 1) h15) else bnd (f_M_bad (nI 1) hm) (fun r h => rZ r h) := by
  rw [vbM, M_isW q (w := 6) (by decide) (by decide +kernel), bnd_s, ite_b0]
  by_cases h6 : isW t 6 = true
  · rw [if_pos h6, if_pos h6, jbM, if_pos (show (0 : Int32) ≤ nI 0 by decide), ifin (by omega) (by omega), nI_clamp (by omega), bl_e, obM]
    congr 1
    funext _ h15
    rw [if_neg (show ¬ nI 0 = nI 2 by decide), if_pos (show nI 0 = 0 from rfl), if_pos (show nI 0 = 0 from rfl), jcM, ifin (by omega) (by omega), nI_clamp (by omega)]
    congr 1
    funext r23 h22
    rw [nI_add, ifin (by omega) (by omega), nI_clamp (by omega), bl_e]
  · rw [if_neg h6, if_neg h6, M_isW q (w := 7) (by decide) (by decide +kernel), bnd_s, ite_b0]
    by_cases h7 : isW t 7 = true
    · rw [if_pos h7, if_pos h7, jbM, if_pos (show (0 : Int32) ≤ nI 1 by decide), ifin (by omega) (by omega), nI_clamp (by omega), bl_e, obM]
      congr 1
      funext _ h15
      rw [if_neg (show ¬ nI 1 = nI 2 by decide), if_neg (show ¬ nI 1 = 0 by decide), if_neg (show ¬ nI 1 = 0 by decide), jcM, ifin (by omega) (by omega), nI_clamp (by omega)]
      congr 1
      funext r23 h22
      rw [nI_add, ifin (by omega) (by omega), nI_clamp (by omega), bl_e]
    · rw [if_neg h7, if_neg h7, M_isW q (w := 8) (by decide) (by decide +kernel), bnd_s, ite_b0]
      by_cases h8 : isW t 8 = true
      · rw [if_pos h8, if_pos h8, jbM, if_pos (show (0 : Int32) ≤ nI 2 by decide), ifin (by omega) (by omega), nI_clamp (by omega), bl_e]
        congr 1
      · rw [if_neg h8, if_neg h8, jbM, if_neg (show ¬ (0 : Int32) ≤ -1 by decide)]
def obC (F v : Nat) (nm : Int64 → HS → Option (Int32 × HS)) (h7 : HS) : Option (Int32 × HS) := bnd (f_Tape_advance F h7) (fun _ h8 => bnd (f_Tape_isName F h8) (fun r10 h9 => if r10 = 0 then bnd (f_Tape_fail (nI 1) h9) (fun r31 h30 => rZ r31 h30) else bnd (f_Tape_letters h9) (fun r12 h11 => bnd (nm r12 h11) (fun v17 h16 => if v17 = (-1 : Int32) then bnd (f_Tape_fail (nI 3) h16) (fun r25 h24 => rZ r25 h24) else if inb (h16.1 38 5) 40 = true then bl (sI h16 39 (h16.1 38 5).toNatClampNeg (nI v)) (fun h21 => if inb (h21.1 38 5) 40 = true then bl (sI h21 41 (h21.1 38 5).toNatClampNeg v17) (fun h22 => bnd (f_Tape_advance F h22) (fun _ h23 => rZ (nI 1) h23)) else none) else none))))
theorem C_verb {F L : Nat} {t : Nat × Nat} {hc hm : HS} (q : TKr t hc hm) (s1 : hc.1 38 5 = nI L) (hL : L < 40) : f_Ledger_readVerb F hc = if isW t 8 = true then bnd (f_Tape_advance F hc) (fun _ h1 => if inb (h1.1 38 5) 40 = true then bl (sI h1 39 (h1.1 38 5).toNatClampNeg (nI 2)) (fun h36 => if inb (h36.1 38 5) 40 = true then bl (sI h36 41 (h36.1 38 5).toNatClampNeg (-1)) (fun h37 => rZ (nI 1) h37) else none) else none) else if isW t 6 = true then obC F 0 (f_Plan_causeNamed_3 F) hc else if isW t 7 = true then obC F 1 (f_Plan_deedNamed_3 F) hc else bnd (f_Tape_fail (nI 1) hc) (fun r h => rZ r h) := by
  rw [f_Ledger_readVerb, f_Tape_takeWord, C_isW q (by decide), bnd_s, ite_b0]
  by_cases h8 : isW t 8 = true
  · rw [if_pos h8, if_pos h8]
    cases f_Tape_advance F hc with
    | none => rfl
    | some z =>
      obtain ⟨u, h2⟩ := z
      rw [bnd_s, rZ1, bnd_s, bnd_s, if_neg (show ¬ nI 1 = 0 by decide)]
  · rw [if_neg h8, if_neg h8, rZ0, bnd_s, if_pos (show nI 0 = 0 from rfl), C_isW q (by decide), bnd_s, bl_e, bl_e, ite_b0]
    by_cases h6 : isW t 6 = true
    · rw [if_pos h6, if_pos h6, h6, obC]
      rfl
    · rw [if_neg h6, if_neg h6, C_isW q (by decide), bnd_s, ite_b0]
      by_cases h7 : isW t 7 = true
      · rw [if_pos h7, if_pos h7, show isW t 6 = false by (cases h : isW t 6 <;> first | rfl | exact absurd h h6), obC]
        rfl
      · rw [if_neg h7, if_neg h7]
/-- the object of 'takes' or 'does' -/
theorem T_ob {F n p a L v off cell m : Nat} {nm : Int64 → HS → Option (Int32 × HS)} {f : Nat → Nat} {P : Pl} {t : Nat × Nat} {B : Nat → Nat} {hc hm : HS} (hF : 2000 ≤ F) (r : RD n 400 p a t B hc hm) (sd : SD P hc hm) (s1 : hc.1 38 5 = nI L) (hL : L < 40) (ht : t.1 = 1) (hnm : ∀ x h, x < 32 ^ 7 → PC P h 3 → nm (lN x) h = some (pI (fnI f x m 0), h)) (hT : ∀ hc2 hm2, SD P hc2 hm2 → TABm off m f hm2 ∧ hm2.1 2 cell = nI m) (hm6 : m ≤ 6) (hoff : off ≤ 6) : (∃ x p2 a2 t2 hc2 hm2, x < m ∧ obC F v nm hc = some (nI 1, hc2) ∧ obM F L v off cell hm = some (nI 1, hm2) ∧ RD n 400 p2 a2 t2 B hc2 hm2 ∧ a < a2 ∧ FX hc hm hc2 hm2 ∧ (hc2.1 38 = hc.1 38 ∧ hc2.1 40 = hc.1 40 ∧ hc2.1 39 = upd (hc.1 39) L (nI v) ∧ hc2.1 41 = upd (hc.1 41) L (nI x)) ∧ hm2.1 4 = upd (upd (hm.1 4) (3 * L) (nI v)) (3 * L + 2) (nI x)) ∨ BAD hc hm (obC F v nm hc) (obM F L v off cell hm) := by
  obtain ⟨p2, a2, t2, hc2, hm2, b1, b2, b3, b4, b5, -, -⟩ := T_adv hF (RD_4 (i := 0) (k := 3 * L) (v := nI v) r) (Or.inl ht)
  have fx2 : FX hc hm hc2 hm2 := FX_t FX_4 (TS_fx b5)
  have sd2 := SD_fx sd fx2
  obtain ⟨T1, T2⟩ := hT hc2 hm2 sd2
  have TK2 := b3.2.2.2.2.2.2.2.2.2.2.2.2.2
  have hl := fnI_le (f := f) (x := t2.2) m 0
  rw [obC, obM, b1, b2, bnd_s, bnd_s, C_isN hF TK2, bnd_s, ite_b0, T2, M_look hF TK2 sd2.2.2.2 T1 (by omega)]
  by_cases z : nmB t2 = true
  · have z1 := nmB_1 z
    obtain ⟨y1, y2, y3⟩ := (TK_k1 TK2).2.2.2.2.2.2.2.1 z1
    rw [if_pos z, if_pos z, f_Tape_letters, bnd_s, y1, hnm _ _ y3 sd2.1, bnd_s, ite_pn (by omega)]
    by_cases y : fnI f t2.2 m 0 = 0
    · rw [if_pos y, if_pos y]
      exact Or.inr (BAD_of (FX_t fx2 FX_18) (T_fail 3 (by decide) (RD_18 (v := -1) b3)) (fun h e => by rw [e, bnd_s, rZ0]) (fun h e => by rw [e, bnd_s, if_pos (show nI 0 = 0 from rfl), bnd_s, if_pos (show nI 0 = 0 from rfl), rZ0]))
    · rw [if_neg y, if_neg y, pI_p (by omega), bnd_s, if_neg (show ¬ nI 1 = 0 by decide), sI_e]
      generalize hk : fnI f t2.2 m 0 - 1 = x
      have c38 : hc2.1 38 5 = nI L := by rw [(b5.1 38 (by decide)).1]; exact s1
      rw [c38, ifin (by omega) (by omega), nI_clamp (by omega), bl_e, sI_o (show (38 : Nat) ≠ 39 by decide), c38, ifin (by omega) (by omega), nI_clamp (by omega), bl_e]
      have r3 : RD n 400 p2 a2 t2 B (sI (sI hc2 39 L (nI v)) 41 L (nI x)) (sI (sI hm2 0 18 (nI x)) 4 (3 * L + 2) (nI x)) := RD_4 (i := 0) (RD_18' (RD_c (by omega) (RD_c (by omega) b3)))
      obtain ⟨p3, a3, t3, hc3, hm3, d1, d2, d3, d4, d5, -, -⟩ := T_adv hF r3 (Or.inl z1)
      rw [d1, d2, bnd_s, bnd_s, rZ1, rZ1]
      refine Or.inl ⟨x, p3, a3, t3, hc3, hm3, by omega, rfl, rfl, d3, by omega, FX_t fx2 (FX_t (FX_cc (i := 39) (by decide)) (FX_t (FX_cc (i := 41) (by decide)) (FX_t FX_18 (FX_t FX_4 (TS_fx d5))))), ⟨?_, ?_, ?_, ?_⟩, ?_⟩
      · rw [(d5.1 38 (by decide)).1, sI_o (by decide), sI_o (by decide), (b5.1 38 (by decide)).1]
      · rw [(d5.1 40 (by decide)).1, sI_o (by decide), sI_o (by decide), (b5.1 40 (by decide)).1]
      · rw [(d5.1 39 (by decide)).1, sI_o (by decide), sI_u, (b5.1 39 (by decide)).1]
      · rw [(d5.1 41 (by decide)).1, sI_u, sI_o (by decide), (b5.1 41 (by decide)).1]
      · rw [(d5.2.1 4 (by decide)).1, sI_u, sI_o (by decide), (b5.2.1 4 (by decide)).1, sI_u]
  · rw [if_neg z, if_neg z]
    exact Or.inr (BAD_of fx2 (T_fail 1 (by decide) b3) (fun h e => by rw [e, bnd_s, rZ0]) (fun h e => by rw [e, bnd_s, rZ0, bnd_s, if_pos (show nI 0 = 0 from rfl), rZ0]))
