/-! ===== a SENTENCE: one step of the reference; a ONE on both sides, but for NOT and brackets ===== -/
def kB : HS → Option (Int32 × HS) := fun h25 => some (((-1 : Int32) - (h25.1 0 16)), h25)
def kE : HS → Option (Int32 × HS) := fun h26 => bnd (f_M_bad (nI 1) h26) (fun (_ : Int32) (h27 : HS) => some (((-1 : Int32) - (h27.1 0 16)), h27))
def LM (F : Nat) (K0 : HS → Option (Int32 × HS)) (g : Nat) (h : HS) : Option (Int32 × HS) := l_M_sentence_0 F K0 kB kE g (nI 1) h
theorem LM_0 {F g : Nat} {K0 : HS → Option (Int32 × HS)} {h : HS} (e : h.1 0 40 = nI 0) : LM F K0 (g + 1) h = bnd (f_M_operand F h) (fun r h13 => if r = 0 then kB h13 else LM F K0 g h13) := by
  unfold LM
  rw [l_M_sentence_0, if_neg (show ¬ nI 1 = 0 by decide)]
  dsimp only [bl]
  rw [e, if_pos (show nI 0 = 0 from rfl), if_pos (show nI 0 = 0 from rfl)]
  rfl
theorem LM_1 {F g : Nat} {K0 : HS → Option (Int32 × HS)} {h : HS} (e : h.1 0 40 = nI 1) (e2 : ¬ h.1 0 11 = nI 0) : LM F K0 (g + 1) h = bnd (f_M_behind F h) (fun r h15 => if r = 0 then kB h15 else LM F K0 g h15) := by
  unfold LM
  rw [l_M_sentence_0, if_neg (show ¬ nI 1 = 0 by decide)]
  dsimp only [bl]
  rw [e, if_neg (show ¬ nI 1 = 0 by decide), if_neg (show ¬ h.1 0 11 = 0 from e2), if_neg (show ¬ nI 1 = 0 by decide)]
theorem LM_e {F g : Nat} {K0 : HS → Option (Int32 × HS)} {h : HS} (e : h.1 0 40 = nI 1) (e2 : h.1 0 11 = nI 0) : LM F K0 (g + 1) h = bnd (f_M_nots F h) (fun _ h17 => bnd (f_M_joins F (nI 22) h17) (fun _ h18 => if h18.1 0 38 ≤ 0 then l_M_sentence_0 F K0 kB kE g (nI 0) h18 else kE h18)) := by
  unfold LM
  rw [l_M_sentence_0, if_neg (show ¬ nI 1 = 0 by decide)]
  dsimp only [bl]
  rw [e, if_neg (show ¬ nI 1 = 0 by decide), if_pos (show h.1 0 11 = 0 from e2)]
def pshM (b : Nat) (h19 : HS) : Option (Int32 × HS) := if inb (h19.1 0 38) 45 = true then bl (sI h19 14 (h19.1 0 38).toNatClampNeg (nI b)) (fun (h23 : HS) => bl (sI h23 0 38 ((h23.1 0 38) + (nI 1))) (fun (h24 : HS) => bl (sI h24 0 39 ((h24.1 0 39) + (nI 1))) (fun (h25 : HS) => rZ (nI 1) h25))) else none
def leafM (F : Nat) (v9 : Int32) (h17 : HS) : Option (Int32 × HS) := bl (sI h17 0 40 (nI 1)) (fun (h26 : HS) => (if (nI 5) ≤ v9 then (if v9 = (nI 5) then (if inb (nI 1) 332 = true then bnd (f_M_looksAt F (nI 6) (h26.1 2 (nI 1).toNatClampNeg) h26) (fun (r38 : Int32) (h37 : HS) => (if r38 = 0 then rZ (nI 0) h37 else bnd (f_M_code v9 (nI 0) (h37.1 0 18) h37) (fun (_ : Unit) (h39 : HS) => bnd (f_M_next F  h39) (fun (_ : Unit) (h40 : HS) => rZ (nI 1) h40)))) else none) else (if (h26.1 0 11) = (nI 3) then (if (h26.1 0 14) < (nI 60) then bnd (f_M_bad (nI 1) h26) (fun (r30 : Int32) (h29 : HS) => rZ r30 h29) else (if (h26.1 0 14) ≤ (nI 62) then bnd (f_M_next F  h26) (fun (_ : Unit) (h32 : HS) => (if (h32.1 0 11) = (nI 2) then bnd (f_M_code v9 (h26.1 0 14) (h32.1 0 14) h32) (fun (_ : Unit) (h33 : HS) => bnd (f_M_next F  h33) (fun (_ : Unit) (h34 : HS) => rZ (nI 1) h34)) else bnd (f_M_bad (nI 1) h32) (fun (r36 : Int32) (h35 : HS) => rZ r36 h35))) else bnd (f_M_bad (nI 1) h26) (fun (r30 : Int32) (h29 : HS) => rZ r30 h29))) else bnd (f_M_bad (nI 1) h26) (fun (r30 : Int32) (h29 : HS) => rZ r30 h29))) else bnd (f_M_code v9 (nI 0) (nI 0) h26) (fun (_ : Unit) (h41 : HS) => rZ (nI 1) h41)))
def opM (F : Nat) (K : HS → Option (Int32 × HS)) (h11 : HS) : Option (Int32 × HS) := if (h11.1 0 37) = (nI 20) then bnd (f_M_bad (nI 4) h11) (fun (r15 : Int32) (h14 : HS) => rZ r15 h14) else (if (h11.1 0 39) ≤ (nI 8) then bnd (f_M_next F (sI h11 0 37 ((h11.1 0 37) + (nI 1)))) (fun (_ : Unit) (h17 : HS) => K h17) else bnd (f_M_bad (nI 4) h11) (fun (r15 : Int32) (h14 : HS) => rZ r15 h14))
theorem M_oper0 {F : Nat} {t : Nat × Nat} {hc hm : HS} (q : TKr t hc hm) (h12 : isW t 12 = false) (h3 : t ≠ (3, 40)) (hz : ¬ 0 ≤ lfo t) : f_M_operand F hm = bnd (f_M_bad (nI 1) hm) (fun (r : Int32) (h : HS) => rZ r h) := by
  rw [f_M_operand, M_isW q (w := 12) (by decide) (by decide +kernel), bnd_s, bl_e, M_sg q (by omega), bnd_s, bl_e, M_leafOf q, bnd_s, h12, decide_eq_false h3]
  generalize lfo t = z at hz
  dsimp only [bl]
  simp only [ite_b0, Bool.false_eq_true, if_false, if_neg hz]
theorem M_operL {F : Nat} {t : Nat × Nat} {hc hm : HS} (q : TKr t hc hm) (h12 : isW t 12 = false) (h3 : t ≠ (3, 40)) (hz : 0 ≤ lfo t) : f_M_operand F hm = opM F (leafM F (lfo t)) hm := by
  rw [f_M_operand, M_isW q (w := 12) (by decide) (by decide +kernel), bnd_s, bl_e, M_sg q (by omega), bnd_s, bl_e, M_leafOf q, bnd_s, h12, decide_eq_false h3]
  generalize lfo t = z at hz
  unfold opM leafM
  dsimp only [bl]
  simp only [ite_b0, Bool.false_eq_true, if_false, if_pos hz]
theorem M_operN {F : Nat} {t : Nat × Nat} {hc hm : HS} (q : TKr t hc hm) (h12 : isW t 12 = true) : f_M_operand F hm = opM F (pshM 20) hm := by
  rw [f_M_operand, M_isW q (w := 12) (by decide) (by decide +kernel), bnd_s, bl_e, M_sg q (by omega), bnd_s, bl_e, M_leafOf q, bnd_s, h12]
  generalize lfo t = z
  generalize decide (t = (3, 40)) = y
  unfold opM pshM
  dsimp only [bl]
  simp only [ite_b0, if_true]
theorem M_operP {F : Nat} {t : Nat × Nat} {hc hm : HS} (q : TKr t hc hm) (h12 : isW t 12 = false) (h3 : t = (3, 40)) : f_M_operand F hm = opM F (pshM 23) hm := by
  rw [f_M_operand, M_isW q (w := 12) (by decide) (by decide +kernel), bnd_s, bl_e, M_sg q (by omega), bnd_s, bl_e, M_leafOf q, bnd_s, h12, decide_eq_true h3]
  generalize lfo t = z
  unfold opM pshM
  dsimp only [bl]
  simp only [ite_b0, Bool.false_eq_true, if_false, if_true]
def swC (F g : Nat) (a2 v3 v11 : Int32) (h12 : HS) : Option (Int32 × HS) := if v3 = (nI 0) then (bnd ((f_Sent_rd F g false) (a2 + (nI 1)) h12) (fun (r18 : Int32) (h17 : HS) => (if r18 = 0 then rZ (nI 0) h17 else bnd (f_Sent_add_46 (nI 0) (nI 0) (nI 0) h17) (fun (r20 : Int32) (h19 : HS) => (if r20 = 0 then rZ (nI 0) h19 else rZ (nI 1) h19))))) else if v3 = (nI 1) then (bnd (f_Sent_readMeasure_46 F v3 h12) (fun (r16 : Int32) (h15 : HS) => rZ r16 h15)) else if v3 = (nI 2) then (bnd (f_Sent_readMeasure_46 F v3 h12) (fun (r16 : Int32) (h15 : HS) => rZ r16 h15)) else if v3 = (nI 3) then (bnd (f_Sent_add_46 (nI 3) v11 (nI 0) h12) (fun (r22 : Int32) (h21 : HS) => rZ r22 h21)) else if v3 = (nI 4) then (bnd (f_Sent_readHad_46 F  h12) (fun (r24 : Int32) (h23 : HS) => rZ r24 h23)) else if v3 = (nI 5) then (bnd (f_Sent_readMeasure_46 F v3 h12) (fun (r16 : Int32) (h15 : HS) => rZ r16 h15)) else if v3 = (nI 6) then (bnd (f_Sent_readMeasure_46 F v3 h12) (fun (r16 : Int32) (h15 : HS) => rZ r16 h15)) else if v3 = (nI 7) then (bnd (f_Sent_readMeasure_46 F v3 h12) (fun (r16 : Int32) (h15 : HS) => rZ r16 h15)) else if v3 = (nI 8) then (bnd (f_Sent_readMeasure_46 F v3 h12) (fun (r16 : Int32) (h15 : HS) => rZ r16 h15)) else if v3 = (nI 9) then (bnd ((f_Sent_rd F g true) (a2 + (nI 1)) h12) (fun (r26 : Int32) (h25 : HS) => (if r26 = 0 then rZ (nI 0) h25 else bnd (f_Tape_takeSign F (nI 41) h25) (fun (r28 : Int32) (h27 : HS) => (if r28 = 0 then rZ (nI 0) h27 else rZ (nI 1) h27))))) else (bnd (f_Sent_readMeasure_46 F v3 h12) (fun (r16 : Int32) (h15 : HS) => rZ r16 h15))
theorem C_one0 {F g : Nat} {a2 : Int32} {t : Nat × Nat} {hc hm : HS} (q : TKr t hc hm) (h : stp t = -1) : f_Sent_rd F (g + 1) false a2 hc = bnd (f_Tape_fail (nI 1) hc) (fun (r30 : Int32) (h29 : HS) => rZ r30 h29) := by
  rw [f_Sent_rd, C_stepHere q, bnd_s, bl_e, if_pos h]
theorem C_oneL {F g : Nat} {a2 : Int32} {t : Nat × Nat} {hc hm : HS} (q : TKr t hc hm) (q2 : TKr t (sI hc 46 4 (hc.1 46 4 + nI 1)) hm) (h : ¬ stp t = -1) : f_Sent_rd F (g + 1) false a2 hc = if nI 20 ≤ hc.1 46 4 then bnd (f_Tape_fail (nI 4) hc) (fun (r7 : Int32) (h6 : HS) => rZ r7 h6) else if a2 ≤ nI 8 then bnd (f_Tape_advance F (sI hc 46 4 (hc.1 46 4 + nI 1))) (fun (_ : Unit) (h12 : HS) => swC F g a2 (stp t) (sth t) h12) else bnd (f_Tape_fail (nI 4) hc) (fun (r7 : Int32) (h6 : HS) => rZ r7 h6) := by
  rw [f_Sent_rd, C_stepHere q, bnd_s, bl_e, if_neg h]
  generalize stp t = y
  dsimp only [bl]
  rw [C_stateHere q2, bnd_s]
  unfold swC
  rfl
theorem SS_leaf {P : Pl} {n p a p2 a2 m o v w : Nat} {t t2 : Nat × Nat} {B : Nat → Nat} {L : List Nat} {hc hm hc1 hm2 : HS} {a0 a1 a9 z0 z1 z2 : Int32} (q : SS P n p a t B m o v w [] L hc hm) (hv : v + 1 ≤ o) (h40 : m < 40) (k : TS hc (cdW hm m z0 z1 z2) hc1 hm2) (r2 : RD n 200 p2 a2 t2 B hc1 hm2) (lf : lfOK a0 a1 a9 z0 z1 z2) : ∃ hc2, f_Sent_add_46 a0 a1 a9 hc1 = some (nI 1, hc2) ∧ SS P n p2 a2 t2 B (m + 1) o (v + 1) w [] L hc2 hm2 ∧ FX hc hm hc2 hm2 := by
  obtain ⟨r, ms, c, p1, s1, s2, d, o1, l1, l2, sd⟩ := q
  obtain ⟨hc2, b1, b2, b3, b4, b5, b6⟩ := T_leafadd (hc1 := hc1) (hm2 := hm2) c s1 d hv o1 h40 k.1 (k.2.1 4 (by decide)).1 lf
  obtain ⟨f1, f2, f3, f4, f5⟩ := cdW_f (h := hm) (m := m) (a0 := z0) (a1 := z1) (a2 := z2)
  have fx : FX hc hm hc2 hm2 := ⟨Fr_t (Fr_mo (by decide) k.1) (Fr_mo (by decide) b6), Fr_t (Fr_mo (by decide) f1) (Fr_mo (by decide) k.2.1), F0r_t (F0r_mo (by decide) f2) (F0r_mo (by decide) k.2.2), fun i _ => by rw [(k.2.1 5 (by decide)).2, f5]⟩
  refine ⟨hc2, b1, ⟨RD_fr r2 (b6 1 (by decide)).1 (b6 2 (by decide)).1 (b6 1 (by decide)).2 (fun _ _ => rfl) rfl rfl, MS_fr (MS_code ms) k.2.1 k.2.2, b4, trivial, b2, by rw [b3]; exact s2, b5, o1, h40, l2, SD_fx sd fx⟩, fx⟩
