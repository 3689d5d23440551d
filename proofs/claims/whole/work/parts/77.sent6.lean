/-! ===== a SENTENCE: had, measures ===== -/
theorem SS_18 {P : Pl} {n p a m o v w : Nat} {t : Nat × Nat} {B : Nat → Nat} {Q S : List Nat} {hc hm : HS} {x : Int32} (q : SS P n p a t B m o v w Q S hc hm) : SS P n p a t B m o v w Q S hc (sI hm 0 18 x) := SS_ts q (RD_18 q.1) ⟨Fr_rf, Fr_sI (by decide), F0r_sI (by decide)⟩
theorem RD_cdW {n p a m : Nat} {t : Nat × Nat} {B : Nat → Nat} {hc hm : HS} {z0 z1 z2 : Int32} (r : RD n 200 p a t B hc hm) : RD n 200 p a t B hc (cdW hm m z0 z1 z2) := by
  obtain ⟨f1, f2, f3, f4, f5⟩ := cdW_f (h := hm) (m := m) (a0 := z0) (a1 := z1) (a2 := z2)
  exact RD_fr r rfl rfl rfl (fun i hi => f2 i (by
    have : ∀ x, x ∈ [3, 4, 5, 11, 12, 14, 15] → x ∉ [36] := by decide
    exact this i hi)) (f1 1 (by decide)).1 (by rw [f5])
theorem T_oneH {F g n p a m o v d : Nat} {K0 : HS → Option (Int32 × HS)} {P : Pl} {t : Nat × Nat} {B : Nat → Nat} {S : List Nat} {hc hm : HS} (hF : 2000 ≤ F) (q : SS P n p a t B m o v 0 [] S hc hm) (hd : d = 1 + dc S) (ho : o < 20) (h8 : d ≤ 8) (ht : t.1 = 1) (h3 : t ≠ (3, 40)) (h12 : isW t 12 = false) (e1 : stp t = nI 4) (e3 : lfo t = nI 5) (hm38 : m ≤ 2 * o) : BADL F a K0 hc hm (f_Sent_rd F (g + 1) false (nI d) hc) ∨ OKO F K0 P n a B m o v S hc hm (f_Sent_rd F (g + 1) false (nI d) hc) := by
  have r := q.1
  have TK := r.2.2.2.2.2.2.2.2.2.2.2.2.2
  have ha := r.2.2.2.2.2.2.2.1
  have e40 := q.2.1.2.2.2.2.1
  have ov : v ≤ o := q.2.2.2.2.2.2.1.2.2
  obtain ⟨p2, a2, t2, hc2, hm2, b1, b2, b3, b4, b5⟩ := T_oneK (g := g) hF q hd (by rw [e1]; decide) (Or.inl ht) (M_operL TK h12 h3 (by rw [e3]; decide)) ho h8
  obtain ⟨c1, c2⟩ := w1_mv b3
  have r2 := c1.1
  have TK2 := r2.2.2.2.2.2.2.2.2.2.2.2.2.2
  have sd := c1.2.2.2.2.2.2.2.2.2.2
  obtain ⟨⟨⟨i0, i1, i2, i3, i4, i5⟩, j1, j2, j3, j4, j5, j6, j7⟩, ⟨⟨s0, s1, s2, s3, s4, s5, s6⟩, k1, k2, k3, k4, k5, k6⟩, wp, rs⟩ := id sd
  have w4 := wp.2.2.2.2.2.1
  have TB : TABm 6 (P 0 4) (P 12) (sI hm2 0 40 (nI 1)) := fun i hi => ⟨by
    have := k5 i hi
    rw [Nat.zero_add] at this
    exact this, (j6 i hi).2⟩
  have TC : TABc 5 (P 0 4) (P 12) hc2 := fun i hi => j6 i hi
  have fx2 := FX_t b4 c2
  have eM : f_M_operand F hm = if nmB t2 = true then (if fnI (P 12) t2.2 (P 0 4) 0 = 0 then bnd (f_M_bad (nI 3) (sI (sI hm2 0 40 (nI 1)) 0 18 (-1))) (fun r h => rZ (nI 0) h) else bnd (f_M_next F (cdW (sI (sI hm2 0 40 (nI 1)) 0 18 (nI (fnI (P 12) t2.2 (P 0 4) 0 - 1))) m (nI 5) (nI 0) (nI (fnI (P 12) t2.2 (P 0 4) 0 - 1)))) (fun _ h => rZ (nI 1) h)) else bnd (f_M_bad (nI 1) (sI hm2 0 40 (nI 1))) (fun r h => rZ (nI 0) h) := by
    rw [b2, leafM, bl_e, e3, ite_leN (by omega) (by omega), if_pos (by omega), if_pos (show nI 5 = nI 5 from rfl), ifin (by omega) (by omega), nI_clamp (by omega), s1, M_look hF TK2 rs TB (by omega)]
    by_cases z : nmB t2 = true
    · rw [if_pos z, if_pos z]
      by_cases y : fnI (P 12) t2.2 (P 0 4) 0 = 0
      · rw [if_pos y, if_pos y, f_M_bad, bl_e, bl_e, rZ0, bnd_s, if_pos (show nI 0 = 0 from rfl), bnd_s, if_pos (show nI 0 = 0 from rfl), bnd_s]
      · rw [if_neg y, if_neg y, bnd_s, if_neg (show ¬ nI 1 = 0 by decide), sI_e, E_code (m := m) (by rw [sI_n (by decide)]; exact c1.2.1.1) (by omega), bnd_s]
        rfl
    · rw [if_neg z, if_neg z, f_M_bad, bl_e, bl_e, rZ0, bnd_s, rZ0, bnd_s, if_pos (show nI 0 = 0 from rfl), bnd_s]
  have eC : f_Sent_rd F (g + 1) false (nI d) hc = bnd (f_Sent_readHad_46 F hc2) (fun (r24 : Int32) (h23 : HS) => rZ r24 h23) := by
    rw [b1, swC, e1, if_neg (show ¬ nI 4 = nI 0 by decide), if_neg (show ¬ nI 4 = nI 1 by decide), if_neg (show ¬ nI 4 = nI 2 by decide), if_neg (show ¬ nI 4 = nI 3 by decide), if_pos rfl]
  rw [f_Sent_readHad_46, C_isN hF TK2, bnd_s, ite_b0] at eC
  by_cases z : nmB t2 = true
  · have z1 := nmB_1 z
    obtain ⟨y1, y2, y3⟩ := (TK_k1 TK2).2.2.2.2.2.2.2.1 z1
    have hl := fnI_le (f := P 12) (x := t2.2) (P 0 4) 0
    rw [if_pos z, f_Tape_letters, bnd_s, y1, f_Plan_deedNamed_3, i4, C_po5 hF y3 TC (by omega), bnd_s, bnd_s, bl_e, ite_pn (by omega)] at eC
    rw [if_pos z] at eM
    by_cases y : fnI (P 12) t2.2 (P 0 4) 0 = 0
    · rw [if_pos y] at eC eM
      refine Or.inl (BADL_of (FX_t fx2 FX_18) (T_fail 3 (by decide) (RD_18 (v := -1) r2)) (fun h e => ?_) (fun h e => ?_))
      · rw [eC, e, bnd_s, rZ0, bnd_s, rZ0]
      · refine LM_bad ha e40 ?_
        rw [eM, e, bnd_s, rZ0]
    · rw [if_neg y] at eC eM
      rw [pI_p (by omega)] at eC
      generalize hk : fnI (P 12) t2.2 (P 0 4) 0 - 1 = x at *
      have c3 := SS_18 (x := nI x) c1
      obtain ⟨p3, a3, t3, hc3, hm3, d1, d2, d3, d4, d5, -, -⟩ := T_adv hF (RD_cdW (m := m) (z0 := nI 5) (z1 := nI 0) (z2 := nI x) c3.1) (Or.inl z1)
      obtain ⟨hc4, u1, u2, u3⟩ := SS_leaf (a0 := nI 4) (a1 := nI x) (a9 := nI 0) c3 (by omega) (by omega) d5 d3 (Or.inr (Or.inl ⟨x, by omega, rfl, rfl, rfl, rfl⟩))
      rw [d1, bnd_s, u1, bnd_s, rZ1, bnd_s, rZ1] at eC
      rw [d2, bnd_s, rZ1] at eM
      exact Or.inr ⟨p3, a3, t3, m + 1, o + 1, [], hc4, hm3, eC, fun b hb => absurd hb (List.not_mem_nil), u2, FX_t fx2 (FX_t FX_18 u3), by omega, by omega, by show m + 1 + 0 + 1 + 2 * o ≤ _; omega, LM_ok ha (by omega) e40 eM⟩
  · rw [if_neg z] at eC eM
    refine Or.inl (BADL_of fx2 (T_fail 1 (by decide) r2) (fun h e => ?_) (fun h e => ?_))
    · rw [eC, e, bnd_s, rZ0, bnd_s, rZ0]
    · refine LM_bad ha e40 ?_
      rw [eM, e, bnd_s, rZ0]
theorem C_tk {F : Nat} {t : Nat × Nat} {hc hm : HS} (q : TKr t hc hm) {c : Nat} (hc6 : c = 40 ∨ c = 41 ∨ c = 59 ∨ c = 60 ∨ c = 61 ∨ c = 62) : f_Tape_takeSign F (nI c) hc = if t = (3, c) then bnd (f_Tape_advance F hc) (fun _ h => rZ (nI 1) h) else bnd (f_Tape_fail (nI 1) hc) (fun r h => rZ r h) := by
  have e := C_sg q hc6
  rw [f_Tape_isSign, rZ0, rZ1] at e
  rw [f_Tape_takeSign]
  by_cases z : t = (3, c)
  · rw [decide_eq_true z] at e
    by_cases y : hc.1 1 5 = nI c
    · rw [if_pos y, if_pos z]
    · rw [if_neg y] at e
      exact absurd (show nI 0 = bI true from congrArg Prod.fst (Option.some.inj e)) (by decide)
  · rw [decide_eq_false z] at e
    by_cases y : hc.1 1 5 = nI c
    · rw [if_pos y] at e
      exact absurd (show nI 1 = bI false from congrArg Prod.fst (Option.some.inj e)) (by decide)
    · rw [if_neg y, if_neg z]
theorem C_num {F : Nat} {t : Nat × Nat} {hc hm : HS} (q : TKr t hc hm) : f_Tape_takeNumber F (nI 0) (nI 999) hc = if t.1 = 2 then bnd (f_Tape_advance F (sI hc 1 8 (nI t.2))) (fun _ h => rZ (nI 1) h) else bnd (f_Tape_fail (nI 1) hc) (fun r h => rZ r h) := by
  have k := TK_k1 q
  rw [f_Tape_takeNumber, ite_iff k.2.2.1]
  by_cases z : t.1 = 2
  · obtain ⟨e1, e2, e3⟩ := k.2.2.2.2.2.2.2.2.1 z
    rw [if_pos z, if_pos z, e1]
    dsimp only [bl]
    rw [ite_ltN (by omega) (by omega), ite_leN (by omega) (by omega), if_neg (by omega), if_pos e3]
  · rw [if_neg z, if_neg z]
def sgn (t : Nat × Nat) : Nat := if t = (3, 60) then 60 else if t = (3, 62) then 62 else 61
theorem sgn_c (t : Nat × Nat) : sgn t = 60 ∨ sgn t = 61 ∨ sgn t = 62 := by
  unfold sgn
  split
  · exact Or.inl rfl
  · split
    · exact Or.inr (Or.inr rfl)
    · exact Or.inr (Or.inl rfl)
theorem C_meas {F : Nat} {y : Int32} {t : Nat × Nat} {hc hm : HS} (q : TKr t hc hm) : f_Sent_readMeasure_46 F y hc = bnd (f_Tape_takeSign F (nI (sgn t)) hc) (fun r8 h7 => if r8 = 0 then rZ (nI 0) h7 else bnd (f_Tape_takeNumber F (nI 0) (nI 999) h7) (fun r10 h9 => if r10 = 0 then rZ (nI 0) h9 else bnd (f_Tape_taken h9) (fun r12 h11 => bnd (f_Sent_add_46 y (nI (sgn t)) r12 h11) (fun r14 h13 => if r14 = 0 then rZ (nI 0) h13 else rZ (nI 1) h13)))) := by
  rw [f_Sent_readMeasure_46, C_sg q (by omega), bnd_s, bl_e, ite_b0]
  unfold sgn
  by_cases z : t = (3, 60)
  · rw [if_pos (decide_eq_true z), if_pos z]
    rfl
  · rw [if_neg (show ¬ decide (t = (3, 60)) = true by simpa using z), if_neg z, C_sg q (by omega), bnd_s, ite_b0]
    by_cases z : t = (3, 62)
    · rw [if_pos (decide_eq_true z), if_pos z]
      rfl
    · rw [if_neg (show ¬ decide (t = (3, 62)) = true by simpa using z), if_neg z]
      rfl
theorem T_oneM {F g n p a m o v d k : Nat} {K0 : HS → Option (Int32 × HS)} {P : Pl} {t : Nat × Nat} {B : Nat → Nat} {S : List Nat} {hc hm : HS} (hF : 2000 ≤ F) (q : SS P n p a t B m o v 0 [] S hc hm) (hd : d = 1 + dc S) (ho : o < 20) (h8 : d ≤ 8) (hk1 : 1 ≤ k) (hk : k ≤ 4) (ht : t.1 = 1) (h3 : t ≠ (3, 40)) (h12 : isW t 12 = false) (e1 : stp t = nI (4 + k)) (e3 : lfo t = nI (5 + k)) (hm38 : m ≤ 2 * o) : BADL F a K0 hc hm (f_Sent_rd F (g + 1) false (nI d) hc) ∨ OKO F K0 P n a B m o v S hc hm (f_Sent_rd F (g + 1) false (nI d) hc) := by
  have r := q.1
  have TK := r.2.2.2.2.2.2.2.2.2.2.2.2.2
  have ha := r.2.2.2.2.2.2.2.1
  have e40 := q.2.1.2.2.2.2.1
  have ov : v ≤ o := q.2.2.2.2.2.2.1.2.2
  have ne : ∀ x, x < 100 → x ≠ 4 + k → ¬ nI (4 + k) = nI x := fun x hx hh e => hh (nI_inj (by omega) (by omega) e).symm
  obtain ⟨p2, a2, t2, hc2, hm2, b1, b2, b3, b4, b5⟩ := T_oneK (g := g) hF q hd (by rw [e1]; rcases (show k = 1 ∨ k = 2 ∨ k = 3 ∨ k = 4 by omega) with e | e | e | e <;> subst e <;> decide) (Or.inl ht) (M_operL TK h12 h3 (by rw [e3, nI_zero]; exact (nI_leI (by omega) (by omega)).mpr (Nat.zero_le _))) ho h8
  obtain ⟨c1, c2⟩ := w1_mv b3
  have r2 := c1.1
  have TK2 := r2.2.2.2.2.2.2.2.2.2.2.2.2.2
  have fx2 := FX_t b4 c2
  have kk := TK_k1 TK2
  have sc := sgn_c t2
  have eC : f_Sent_rd F (g + 1) false (nI d) hc = bnd (f_Sent_readMeasure_46 F (nI (4 + k)) hc2) (fun (r16 : Int32) (h15 : HS) => rZ r16 h15) := by
    rw [b1, swC, e1, if_neg (ne 0 (by omega) (by omega)), if_neg (ne 1 (by omega) (by omega)), if_neg (ne 2 (by omega) (by omega)), if_neg (ne 3 (by omega) (by omega)), if_neg (ne 4 (by omega) (by omega))]
    rcases (show k = 1 ∨ k = 2 ∨ k = 3 ∨ k = 4 by omega) with e | e | e | e <;> subst e
    · rw [if_pos (show nI (4 + 1) = nI 5 from rfl)]
    · rw [if_neg (show ¬ nI (4 + 2) = nI 5 by decide), if_pos (show nI (4 + 2) = nI 6 from rfl)]
    · rw [if_neg (show ¬ nI (4 + 3) = nI 5 by decide), if_neg (show ¬ nI (4 + 3) = nI 6 by decide), if_pos (show nI (4 + 3) = nI 7 from rfl)]
    · rw [if_neg (show ¬ nI (4 + 4) = nI 5 by decide), if_neg (show ¬ nI (4 + 4) = nI 6 by decide), if_neg (show ¬ nI (4 + 4) = nI 7 by decide), if_pos (show nI (4 + 4) = nI 8 from rfl)]
  rw [C_meas TK2, C_tk TK2 (by omega)] at eC
  have ne6 : ¬ nI (5 + k) = nI 5 := fun e => by have := nI_inj (by omega) (by omega) e; omega
  by_cases z : t2 = (3, sgn t2)
  · have z1 : t2.1 = 3 := by rw [z]
    have z2 : t2.2 = sgn t2 := by
      have := congrArg Prod.snd z
      exact this
    obtain ⟨y1, y2, y3⟩ := kk.2.2.2.2.2.2.2.2.2.1 z1
    generalize hs : sgn t2 = s at *
    obtain ⟨p3, a3, t3, hc3, hm3, d1, d2, d3, d4, d5, -, -⟩ := T_adv hF r2 (Or.inr (Or.inr z1))
    have c3 := SS_ts c1 d3 d5
    have TK3 := d3.2.2.2.2.2.2.2.2.2.2.2.2.2
    have k3 := TK_k1 TK3
    have eM : f_M_operand F hm = if t3.1 = 2 then bnd (f_M_next F (cdW hm3 m (nI (5 + k)) (nI s) (nI t3.2))) (fun _ h => rZ (nI 1) h) else bnd (f_M_bad (nI 1) hm3) (fun r h => rZ r h) := by
      rw [b2, leafM, bl_e, e3, ite_leN (by omega) (by omega), if_pos (by omega), if_neg ne6, ite_iff kk.2.2.2.2.2.2.1, if_pos z1, y2, z2, ite_ltN (by omega) (by omega), if_neg (by omega), ite_leN (by omega) (by omega), if_pos (by omega), d2, bnd_s, ite_iff k3.2.2.2.1]
      by_cases x : t3.1 = 2
      · obtain ⟨x1, x2, x3⟩ := k3.2.2.2.2.2.2.2.2.1 x
        rw [if_pos x, if_pos x, x2, E_code c3.2.1.1 (by omega), bnd_s]
        rfl
      · rw [if_neg x, if_neg x]
    rw [if_pos z, d1, bnd_s, rZ1, bnd_s, if_neg (show ¬ nI 1 = 0 by decide), C_num TK3] at eC
    by_cases x : t3.1 = 2
    · obtain ⟨x1, x2, x3⟩ := k3.2.2.2.2.2.2.2.2.1 x
      rw [if_pos x] at eC eM
      have r4 : RD n 200 p3 a3 t3 B (sI hc3 1 8 (nI t3.2)) (cdW hm3 m (nI (5 + k)) (nI s) (nI t3.2)) := by
        obtain ⟨Y, q1, q2, q3, q4, q5, q6, q7, q8, q9, q10, q11, q12, q13⟩ := RD_cdW (m := m) (z0 := nI (5 + k)) (z1 := nI s) (z2 := nI t3.2) d3
        refine ⟨BYn_fr Y (sI_n (by decide)) (sI_o (by decide)) rfl rfl, q1, by rw [sI_n (by decide)]; exact q2, q3, by rw [sI_n (by decide)]; exact q4, q5, q6, q7, q8, by rw [sI_n (by decide)]; exact q9, q10, by rw [sI_n (by decide)]; exact q11, q12, ?_⟩
        unfold TKr at q13 ⊢
        rw [sI_n (show (5 : Nat) ≠ 8 by decide), sI_n (show (7 : Nat) ≠ 8 by decide)]
        exact q13
      obtain ⟨p4, a4, t4, hc4, hm4, u1, u2, u3, u4, u5, u6, -⟩ := T_adv hF r4 (Or.inr (Or.inl x))
      obtain ⟨hc5, w1, w2, w3⟩ := SS_leaf (a0 := nI (4 + k)) (a1 := nI s) (a9 := nI t3.2) c3 (by omega) (by omega) (TS_t ⟨Fr_sI (by decide), Fr_rf, F0r_rf⟩ u5) u3 (Or.inr (Or.inr ⟨k, s, t3.2, hk1, hk, sc, x3, rfl, rfl, rfl, rfl, rfl, rfl⟩))
      rw [u1, bnd_s, rZ1, bnd_s, if_neg (show ¬ nI 1 = 0 by decide), f_Tape_taken, bnd_s, u6, sI_e, w1, bnd_s, if_neg (show ¬ nI 1 = 0 by decide), rZ1, bnd_s, rZ1] at eC
      rw [u2, bnd_s, rZ1] at eM
      exact Or.inr ⟨p4, a4, t4, m + 1, o + 1, [], hc5, hm4, eC, fun b hb => absurd hb (List.not_mem_nil), w2, FX_t fx2 (FX_t (TS_fx d5) w3), by omega, by omega, by show m + 1 + 0 + 1 + 2 * o ≤ _; omega, LM_ok ha (by omega) e40 eM⟩
    · rw [if_neg x] at eC eM
      refine Or.inl (BADL_of (FX_t fx2 (TS_fx d5)) (T_fail 1 (by decide) d3) (fun h e => ?_) (fun h e => ?_))
      · rw [eC, e, bnd_s, rZ0, bnd_s, if_pos (show nI 0 = 0 from rfl), rZ0, bnd_s, rZ0]
      · refine LM_bad ha e40 ?_
        rw [eM, e, bnd_s, rZ0]
  · rw [if_neg z] at eC
    have eM : f_M_operand F hm = bnd (f_M_bad (nI 1) (sI hm2 0 40 (nI 1))) (fun r h => rZ r h) := by
      rw [b2, leafM, bl_e, e3, ite_leN (by omega) (by omega), if_pos (by omega), if_neg ne6, ite_iff kk.2.2.2.2.2.2.1]
      by_cases x : t2.1 = 3
      · obtain ⟨y1, y2, y3⟩ := kk.2.2.2.2.2.2.2.2.2.1 x
        rw [if_pos x, y2, ite_ltN (by omega) (by omega), ite_leN (by omega) (by omega)]
        by_cases y : t2.2 < 60
        · rw [if_pos y]
        · exfalso
          have ee : t2 = (3, t2.2) := Prod.ext x rfl
          rcases (show t2.2 = 60 ∨ t2.2 = 61 ∨ t2.2 = 62 by omega) with e | e | e
          · rw [e] at ee; exact z (by rw [ee]; rfl)
          · rw [e] at ee; exact z (by rw [ee]; rfl)
          · rw [e] at ee; exact z (by rw [ee]; rfl)
      · rw [if_neg x]
    refine Or.inl (BADL_of fx2 (T_fail 1 (by decide) r2) (fun h e => ?_) (fun h e => ?_))
    · rw [eC, e, bnd_s, rZ0, bnd_s, if_pos (show nI 0 = 0 from rfl), rZ0, bnd_s, rZ0]
    · refine LM_bad ha e40 ?_
      rw [eM, e, bnd_s, rZ0]
