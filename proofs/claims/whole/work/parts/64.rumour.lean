/-! ===== an OFFICE: a rumour; a LINE ===== -/
def prP (P : Pl) (c v0 v1 : Nat) : Pl := fun a b => match a with
  | 5 => if b = c then v0 else P 5 b
  | 6 => if b = c then v1 else P 6 b
  | a => P a b
theorem rumN_up {P : Pl} {c v0 v1 : Nat} (h0 : P 6 c = 0) (h1 : v1 ≠ 0) : ∀ n, rumN (prP P c v0 v1) n = rumN P n + (if c < n then 1 else 0) := by
  intro n
  induction n with
  | zero => rfl
  | succ n ih =>
    show rumN (prP P c v0 v1) n + (if (if n = c then v1 else P 6 n) = 0 then 0 else 1) = rumN P n + (if P 6 n = 0 then 0 else 1) + (if c < n + 1 then 1 else 0)
    rw [ih]
    by_cases e : n = c
    · subst e
      rw [if_pos (rfl : n = n), if_neg h1, if_neg (Nat.lt_irrefl n), if_pos h0, if_pos (Nat.lt_succ_self n)]
    · simp only [if_neg e]
      by_cases z : c < n
      · simp only [if_pos z, if_pos (show c < n + 1 by omega)]
        omega
      · simp only [if_neg z, if_neg (show ¬ c < n + 1 by omega)]
        omega
theorem M_look {F o m : Nat} {t : Nat × Nat} {f : Nat → Nat} {hc hm : HS} (hF : 2000 ≤ F) (q : TKr t hc hm) (R : RSr hm) (T : TABm o m f hm) (ho : o + m ≤ 34) : f_M_looksAt F (nI o) (nI m) hm = if nmB t = true then (if fnI f t.2 m 0 = 0 then bnd (f_M_bad (nI 3) (sI hm 0 18 (-1))) (fun r h => if r = 0 then some (nI 0, h) else some (nI 1, h)) else some (nI 1, sI hm 0 18 (nI (fnI f t.2 m 0 - 1)))) else bnd (f_M_bad (nI 1) hm) (fun r h => rZ r h) := by
  have k := TK_k1 q
  have hl := fnI_le (f := f) (x := t.2) m 0
  rw [f_M_looksAt, M_isN hF q R, bnd_s, ite_b0]
  by_cases z : nmB t = true
  · have z1 : t.1 = 1 := by
      have : decide (t.1 = 1) = true := by
        unfold nmB at z
        cases e : decide (t.1 = 1)
        · rw [e] at z; cases z
        · rfl
      exact of_decide_eq_true this
    obtain ⟨e1, e2, e3⟩ := k.2.2.2.2.2.2.2.1 z1
    rw [if_pos z, if_pos z, M_find hF e3 e2 T ho, bnd_s, bl_e, sI_e, ite_pge (by omega)]
    by_cases y : fnI f t.2 m 0 = 0
    · rw [if_pos y, if_pos y, y, pI_0]
      congr 1
    · rw [if_neg y, if_neg y, pI_p (by omega), rZ1]
  · rw [if_neg z, if_neg z]
theorem nmB_1 {t : Nat × Nat} (z : nmB t = true) : t.1 = 1 := by
  have : decide (t.1 = 1) = true := by
    unfold nmB at z
    cases e : decide (t.1 = 1)
    · rw [e] at z; cases z
    · rfl
  exact of_decide_eq_true this
theorem RD_18 {n most p a : Nat} {t : Nat × Nat} {B : Nat → Nat} {hc hm : HS} {v : Int32} (q : RD n most p a t B hc hm) : RD n most p a t B hc (sI hm 0 18 v) := RD_fr q rfl rfl rfl (fun i hi => sI_n (by
  have : ∀ x, x ∈ [3, 4, 5, 11, 12, 14, 15] → x ≠ 18 := by decide
  exact this i hi)) (sI_o (by decide)) rfl
theorem FX_18 {hc hm : HS} {v : Int32} : FX hc hm hc (sI hm 0 18 v) := ⟨Fr_rf, Fr_sI (by decide), F0r_sI (by decide), fun _ _ => rfl⟩
theorem L_rumour {F n p a : Nat} {t : Nat × Nat} {B : Nat → Nat} {l c : Bool} {P : Pl} {hc hm : HS} (hF : 2000 ≤ F) (q : LNs n p a t B l c P hc hm) (ht : t.1 = 1) : LNo n a B hc hm (f_OffR_readRumour F hc) (bnd (f_M_next F hm) (fun (_ : Unit) (h37 : HS) => (if inb (nI 0) 72 = true then bnd (f_M_looksAt F (nI 17) (h37.1 3 (nI 0).toNatClampNeg) h37) (fun (r39 : Int32) (h38 : HS) => (if r39 = 0 then rZ (nI 0) h38 else bl (h38.1 0 18) (fun (v40 : Int32) => (if inb ((nI 43) + v40) 72 = true then (if (h38.1 3 ((nI 43) + v40).toNatClampNeg) = (nI 1) then bnd (f_M_bad (nI 3) h38) (fun (r49 : Int32) (h48 : HS) => rZ r49 h48) else bnd (f_M_next F h38) (fun (_ : Unit) (h41 : HS) => (if inb ((nI 43) + v40) 72 = true then bl (sI h41 3 ((nI 43) + v40).toNatClampNeg (nI 1)) (fun (h42 : HS) => (if inb (nI 3) 72 = true then (if inb (nI 3) 72 = true then bl (sI h42 3 (nI 3).toNatClampNeg ((h42.1 3 (nI 3).toNatClampNeg) + (nI 1))) (fun (h43 : HS) => bnd (f_M_puts F ((nI 31) + v40) (nI 0) (nI 99) h43) (fun (r45 : Int32) (h44 : HS) => (if r45 = 0 then rZ (nI 0) h44 else bnd (f_M_puts F ((nI 37) + v40) (nI 1) (nI 99) h44) (fun (r47 : Int32) (h46 : HS) => (if r47 = 0 then rZ (nI 0) h46 else rZ (nI 1) h46))))) else none) else none)) else none))) else none)))) else none))) := by
  obtain ⟨q1, q2, q3, q4, q5, q6⟩ := q
  obtain ⟨⟨⟨e0, e1, e2, e3, e4, e5⟩, g1, g2, g3, g4, g5, g6, g7⟩, ⟨⟨s0, s1, s2, s3, s4, s5, s6⟩, r1, r2, r3, r4, r5, r6⟩, ⟨w0, w1, w2, wc, w3, w4, w5, wC, wD, wK⟩, z⟩ := id q2
  obtain ⟨p2, a2, t2, hc2, hm2, b1, b2, b3, b4, b5, -, -⟩ := T_adv hF q1 (Or.inl ht)
  have fx2 := TS_fx b5
  have D2 := DR_ts q2 b5
  have R2 : RSr hm2 := fun i hi => by rw [(b5.2.1 6 (by decide)).2]; exact q6 i hi
  have x2 : ∀ y, y ≠ 1 → hc2.1 y = hc.1 y ∧ hc2.2 y = hc.2 y := fun y hy => b5.1 y (by simpa using hy)
  have y2 : ∀ y, y ≠ 0 → hm2.1 y = hm.1 y ∧ hm2.2 y = hm.2 y := fun y hy => b5.2.1 y (by simpa using hy)
  have TK := b3.2.2.2.2.2.2.2.2.2.2.2.2.2
  have k := TK_k1 TK
  rw [f_OffR_readRumour, b1, b2, bnd_s, bnd_s, C_isN hF TK, bnd_s, ite_b0, ifin (by omega) (by omega), nI_clamp (by omega), (y2 3 (by decide)).1, s0, M_look hF TK R2 (DR_t1 D2).2 (by omega)]
  by_cases hn : nmB t2 = true
  · have z1 := nmB_1 hn
    obtain ⟨k1, k2, k3⟩ := k.2.2.2.2.2.2.2.1 z1
    have hl := fnI_le (f := P 11) (x := t2.2) (P 0 3) 0
    rw [if_pos hn, if_pos hn, f_Tape_letters, bnd_s, k1, C_named11 hF k3 D2, bnd_s]
    dsimp only [bl]
    rw [ite_pn (by omega)]
    by_cases hf : fnI (P 11) t2.2 (P 0 3) 0 = 0
    · rw [if_pos hf, if_pos hf]
      have bad := T_fail 3 (by decide) (RD_18 (v := -1) b3)
      refine LNo_bad (FX_t fx2 FX_18) bad (fun h e => ?_) (fun h e => ?_)
      · rw [e, bnd_s, rZ0]
      · rw [e, bnd_s, if_pos (show nI 0 = 0 from rfl), bnd_s, if_pos (show nI 0 = 0 from rfl), rZ0]
    · rw [if_neg hf, if_neg hf, pI_p (by omega), bnd_s, if_neg (show ¬ nI 1 = 0 by decide), sI_e]
      generalize hk : fnI (P 11) t2.2 (P 0 3) 0 - 1 = x
      have hx : x < P 0 3 := by omega
      obtain ⟨y1', y2', y3', y4', y5, y6⟩ := r1 x hx
      have b3' : RD n 900 p2 a2 t2 B hc2 (sI hm2 0 18 (nI x)) := RD_18 b3
      have fx2' := FX_t fx2 (FX_18 (hc := hc2) (hm := hm2) (v := nI x))
      have eH : f_Plan_hasRumour_11 (nI x) hc2 = some (bI (decide (P 6 x ≠ 0)), hc2) := by
        have hw := (wC x).2.2.2.2.2.2.2.2
        rw [f_Plan_hasRumour_11, f_Plan_hasCause_11, (x2 11 (by decide)).1, e3, ite_lt0 (by omega), ite_leN (by omega) (by omega), if_neg (by omega), rZ1, bnd_s, if_neg (show ¬ nI 1 = 0 by decide), nI_mul, nI_add, ifin (by omega) (by omega), nI_clamp (by omega), (x2 16 (by decide)).1, g2 x 1 (by omega) (by omega) (Or.inl rfl), show P (5 + 1) x = P 6 x from rfl, ite_le0 (by omega), rZ0, rZ1]
        by_cases y : P 6 x = 0
        · rw [if_pos y, decide_eq_false (by simpa using y)]; rfl
        · rw [if_neg y, decide_eq_true y]; rfl
      rw [eH, bnd_s, ite_b0, nI_add, ifin (by omega) (by omega), nI_clamp (by omega), sI_o (show (3 : Nat) ≠ 0 by decide), (y2 3 (by decide)).1, y5]
      by_cases h6 : P 6 x = 0
      · rw [if_neg (show ¬ decide (P 6 x ≠ 0) = true by simpa using h6), if_pos h6, if_neg (show ¬ nI 0 = nI 1 by decide)]
        obtain ⟨p3, a3, t3, hc3, hm3, c1, c2, c3, c4, c5, -, -⟩ := T_adv hF b3' (Or.inl z1)
        rw [c1, c2, bnd_s, bnd_s, ifin (by omega) (by omega), ifin (by omega) (by omega), ifin (by omega) (by omega), nI_clamp (by omega)]
        have fx3 := FX_t fx2' (TS_fx c5)
        have x3 : ∀ y, y ≠ 1 → hc3.1 y = hc2.1 y ∧ hc3.2 y = hc2.2 y := fun y hy => c5.1 y (by simpa using hy)
        have y3 : ∀ y, y ≠ 0 → hm3.1 y = hm2.1 y ∧ hm3.2 y = hm2.2 y := fun y hy => ⟨by rw [(c5.2.1 y (by simpa using hy)).1, sI_o hy], by rw [(c5.2.1 y (by simpa using hy)).2]; rfl⟩
        have e3' : (sI hm3 3 (43 + x) (nI 1)).1 3 3 = nI (rumN P (P 0 3)) := by rw [sI_n (by omega), (y3 3 (by decide)).1, (y2 3 (by decide)).1, s3]
        rw [e3', nI_add (rumN P (P 0 3)) 1]
        have K3 : ∀ i, (sI (sI hm3 3 (43 + x) (nI 1)) 3 3 (nI (rumN P (P 0 3) + 1))).1 3 i = if i = 3 then nI (rumN P (P 0 3) + 1) else if i = 43 + x then nI 1 else hm.1 3 i := fun i => by
          rw [sI_u, sI_u]
          show (if i = 3 then _ else if i = 43 + x then _ else hm3.1 3 i) = _
          rw [(y3 3 (by decide)).1, (y2 3 (by decide)).1]
        have q3n : RD n 900 p3 a3 t3 B hc3 (sI (sI hm3 3 (43 + x) (nI 1)) 3 3 (nI (rumN P (P 0 3) + 1))) := RD_fr c3 rfl rfl rfl (fun _ _ => by rw [sI_o (by decide), sI_o (by decide)]) (by rw [sI_o (by decide), sI_o (by decide)]) rfl
        have fx3n := FX_t fx3 (show FX hc3 hm3 hc3 (sI (sI hm3 3 (43 + x) (nI 1)) 3 3 (nI (rumN P (P 0 3) + 1))) from ⟨Fr_rf, Fr_t (Fr_sI (by decide)) (Fr_sI (by decide)), fun k _ => by rw [sI_o (by decide), sI_o (by decide)], fun _ _ => rfl⟩)
        have t20_3 : (sI (sI hm3 3 (43 + x) (nI 1)) 3 3 (nI (rumN P (P 0 3) + 1))).1 0 20 = hm.1 0 20 := by rw [sI_o (by decide), sI_o (by decide), c5.2.2 20 (by decide), sI_n (by decide), b5.2.2 20 (by decide)]
        have m2_3 : ∀ y, y ≠ 0 → (sI (sI hm3 3 (43 + x) (nI 1)) 3 3 (nI (rumN P (P 0 3) + 1))).2 y = hm.2 y := fun y hy => by rw [sI_2, sI_2, (y3 y hy).2, (y2 y hy).2]
        generalize sI (sI hm3 3 (43 + x) (nI 1)) 3 3 (nI (rumN P (P 0 3) + 1)) = hmA at q3n fx3n t20_3 m2_3 K3 ⊢
        obtain ⟨G, hG⟩ : ∃ G, F = G + 1 + 1 + 1 := ⟨F - 3, by omega⟩
        have hG0 : ∀ h, l_OffR_readRumour_0 F (nI x) F (nI 0) h = l_OffR_readRumour_0 F (nI x) (G + 1 + 1 + 1) (nI 0) h := fun h => by rw [← hG]
        have st0 : ∀ g h, l_OffR_readRumour_0 F (nI x) (g + 1) (nI 0) h = bnd (f_Tape_takeNumber F (nI 0) (nI 99) h) (fun r h => if r = 0 then rZ (nI 0) h else bnd (f_Tape_taken h) (fun r23 h22 => bnd (f_Plan_tellRumour_11 (nI x) (nI 0) r23 h22) (fun _ h24 => l_OffR_readRumour_0 F (nI x) g (nI 0 + nI 1) h24))) := fun g h => by
          rw [l_OffR_readRumour_0, if_neg (show ¬ nI 1 < nI 0 by decide)]
          dsimp only [bl]
          rw [if_pos (show nI 0 = 0 from rfl)]
        have st1 : ∀ g h, l_OffR_readRumour_0 F (nI x) (g + 1) (nI 1) h = bnd (f_Tape_takeNumber F (nI 1) (nI 99) h) (fun r h => if r = 0 then rZ (nI 0) h else bnd (f_Tape_taken h) (fun r23 h22 => bnd (f_Plan_tellRumour_11 (nI x) (nI 1) r23 h22) (fun _ h24 => l_OffR_readRumour_0 F (nI x) g (nI 1 + nI 1) h24))) := fun g h => by
          rw [l_OffR_readRumour_0, if_neg (show ¬ nI 1 < nI 1 by decide)]
          dsimp only [bl]
          rw [if_neg (show ¬ nI 1 = 0 by decide)]
        have st2 : ∀ g h, l_OffR_readRumour_0 F (nI x) (g + 1) (nI 2) h = some (nI 1, h) := fun g h => by
          rw [l_OffR_readRumour_0, if_pos (show nI 1 < nI 2 by decide), rZ1]
        rw [hG0, st0, nI_add 31 x]
        rcases T_put hF (31 + x) 0 99 (by omega) (by decide) (by decide) q3n with ⟨v0, p4, a4, t4, hc4, hm4, d1, d2, d3, d4, d5, d6, d7, d8⟩ | bad
        · rw [d3, d4, bnd_s, bnd_s, if_neg (show ¬ nI 1 = 0 by decide), if_neg (show ¬ nI 1 = 0 by decide), f_Tape_taken, bnd_s, d8, f_Plan_tellRumour_11, nI_mul x 2, nI_add (x * 2) 0, ifin (by omega) (by omega), nI_clamp (show x * 2 + 0 < 2147483648 by omega), bl_e, bnd_s, show nI 0 + nI 1 = nI 1 from nI_add 0 1, st1, nI_add 37 x]
          have x4 : ∀ y, y ≠ 1 → hc4.1 y = hc3.1 y ∧ hc4.2 y = hc3.2 y := fun y hy => d7.1 y (by simpa using hy)
          have y4 : ∀ y, y ≠ 0 → hm4.1 y = hmA.1 y ∧ hm4.2 y = hmA.2 y := fun y hy => d7.2.1 y (by simpa using hy)
          have q4n : RD n 900 p4 a4 t4 B (sI hc4 16 (x * 2 + 0) (nI v0)) (sI hm4 3 (31 + x) (nI v0)) := RD_s3 (by decide) d5
          have fx4n := FX_t (FX_t fx3n (TS_fx d7)) (show FX hc4 hm4 (sI hc4 16 (x * 2 + 0) (nI v0)) (sI hm4 3 (31 + x) (nI v0)) from ⟨Fr_sI (by decide), Fr_sI (by decide), fun k _ => by rw [sI_o (by decide)], fun _ _ => rfl⟩)
          rcases T_put hF (37 + x) 1 99 (by omega) (by decide) (by decide) q4n with ⟨v1, p5, a5, t5, hc5, hm5, f1, f2, f3, f4, f5, f6, f7, f8⟩ | bad
          · rw [f3, f4, bnd_s, bnd_s, if_neg (show ¬ nI 1 = 0 by decide), if_neg (show ¬ nI 1 = 0 by decide), f_Tape_taken, bnd_s, f8, f_Plan_tellRumour_11, nI_mul x 2, nI_add (x * 2) 1, ifin (by omega) (by omega), nI_clamp (show x * 2 + 1 < 2147483648 by omega), bl_e, bnd_s, show nI 1 + nI 1 = nI 2 from nI_add 1 1, st2, rZ1]
            have x5 : ∀ y, y ≠ 1 → hc5.1 y = (sI hc4 16 (x * 2 + 0) (nI v0)).1 y ∧ hc5.2 y = (sI hc4 16 (x * 2 + 0) (nI v0)).2 y := fun y hy => f7.1 y (by simpa using hy)
            have y5' : ∀ y, y ≠ 0 → hm5.1 y = (sI hm4 3 (31 + x) (nI v0)).1 y ∧ hm5.2 y = (sI hm4 3 (31 + x) (nI v0)).2 y := fun y hy => f7.2.1 y (by simpa using hy)
            have q5n : RD n 900 p5 a5 t5 B (sI hc5 16 (x * 2 + 1) (nI v1)) (sI hm5 3 (37 + x) (nI v1)) := RD_s3 (by decide) f5
            have fx5n := FX_t (FX_t fx4n (TS_fx f7)) (show FX hc5 hm5 (sI hc5 16 (x * 2 + 1) (nI v1)) (sI hm5 3 (37 + x) (nI v1)) from ⟨Fr_sI (by decide), Fr_sI (by decide), fun k _ => by rw [sI_o (by decide)], fun _ _ => rfl⟩)
            have C16 : ∀ i, (sI hc5 16 (x * 2 + 1) (nI v1)).1 16 i = if i = x * 2 + 1 then nI v1 else if i = x * 2 + 0 then nI v0 else hc.1 16 i := fun i => by
              rw [sI_u]
              show (if i = x * 2 + 1 then _ else hc5.1 16 i) = _
              rw [(x5 16 (by decide)).1, sI_u]
              show (if i = x * 2 + 1 then _ else if i = x * 2 + 0 then _ else hc4.1 16 i) = _
              rw [(x4 16 (by decide)).1, (x3 16 (by decide)).1, (x2 16 (by decide)).1]
            have Co : ∀ y, y ≠ 1 → y ≠ 16 → (sI hc5 16 (x * 2 + 1) (nI v1)).1 y = hc.1 y := fun y i1 i2 => by rw [sI_o i2, (x5 y i1).1, sI_o i2, (x4 y i1).1, (x3 y i1).1, (x2 y i1).1]
            have Cl : ∀ y, y ≠ 1 → (sI hc5 16 (x * 2 + 1) (nI v1)).2 y = hc.2 y := fun y i1 => by rw [sI_2, (x5 y i1).2, sI_2, (x4 y i1).2, (x3 y i1).2, (x2 y i1).2]
            have M3 : ∀ i, (sI hm5 3 (37 + x) (nI v1)).1 3 i = if i = 37 + x then nI v1 else if i = 31 + x then nI v0 else if i = 3 then nI (rumN P (P 0 3) + 1) else if i = 43 + x then nI 1 else hm.1 3 i := fun i => by
              rw [sI_u]
              show (if i = 37 + x then _ else hm5.1 3 i) = _
              rw [(y5' 3 (by decide)).1, sI_u]
              show (if i = 37 + x then _ else if i = 31 + x then _ else hm4.1 3 i) = _
              rw [(y4 3 (by decide)).1, K3]
            have Mo : ∀ i, i ≠ 37 + x → i ≠ 31 + x → i ≠ 3 → i ≠ 43 + x → (sI hm5 3 (37 + x) (nI v1)).1 3 i = hm.1 3 i := fun i i1 i2 i3 i4 => by rw [M3, if_neg i1, if_neg i2, if_neg i3, if_neg i4]
            have Ml : ∀ y, y ≠ 0 → (sI hm5 3 (37 + x) (nI v1)).2 y = hm.2 y := fun y i1 => by rw [sI_2, (y5' y i1).2, sI_2, (y4 y i1).2, m2_3 y i1]
            refine Or.inl ⟨p5, a5, t5, l, c, prP P x v0 v1, _, _, rfl, rfl, ⟨q5n, ⟨⟨⟨?_, ?_, ?_, ?_, ?_, ?_⟩, ?_, ?_, ?_, ?_, ?_, ?_, ?_⟩, ⟨⟨?_, ?_, ?_, ?_, ?_, ?_, ?_⟩, ?_, ?_, ?_, ?_, ?_, ?_⟩, ⟨w0, w1, w2, wc, w3, w4, w5, ?_, wD, wK⟩, ?_⟩, ?_, ?_, ?_, ?_⟩, by omega, fx5n⟩
            · rw [Co 11 (by decide) (by decide)]; exact e0
            · rw [Co 11 (by decide) (by decide)]; exact e1
            · rw [Co 11 (by decide) (by decide)]; exact e2
            · rw [Co 11 (by decide) (by decide)]; exact e3
            · rw [Co 11 (by decide) (by decide)]; exact e4
            · rw [Co 11 (by decide) (by decide)]; exact e5
            · intro y w hy hw
              rw [Co 15 (by decide) (by decide), g1 y w hy hw]
              rcases (show w = 0 ∨ w = 1 ∨ w = 2 ∨ w = 3 by omega) with e | e | e | e <;> subst e <;> rfl
            · intro y w hy hw hz
              rw [C16]
              by_cases ek : y = x
              · subst ek
                rcases (show w = 0 ∨ w = 1 by omega) with e | e <;> subst e
                · rw [if_neg (by omega), if_pos rfl]; exact congrArg nI (if_pos rfl).symm
                · rw [if_pos rfl]; exact congrArg nI (if_pos rfl).symm
              · have hz2 : w = 1 ∨ P 6 y ≠ 0 := by
                  rcases hz with e | e
                  · exact Or.inl e
                  · right
                    have e : ¬ (if y = x then v1 else P 6 y) = 0 := e
                    rw [if_neg ek] at e
                    exact e
                rw [if_neg (by omega), if_neg (by omega), g2 y w hy hw hz2]
                rcases (show w = 0 ∨ w = 1 by omega) with e | e <;> subst e <;> exact congrArg nI (if_neg ek).symm
            · intro y w hy hw
              rw [Co 17 (by decide) (by decide), g3 y w hy hw]
              rcases (show w = 0 ∨ w = 1 ∨ w = 2 by omega) with e | e | e <;> subst e <;> rfl
            · intro y hy
              rw [Co 18 (by decide) (by decide)]; exact g4 y hy
            · intro y hy
              rw [Cl 12 (by decide)]; exact g5 y hy
            · intro y hy
              rw [Cl 13 (by decide)]; exact g6 y hy
            · intro y hy
              rw [Cl 14 (by decide)]; exact g7 y hy
            · rw [Mo 0 (by omega) (by omega) (by omega) (by omega)]; exact s0
            · rw [Mo 1 (by omega) (by omega) (by omega) (by omega)]; exact s1
            · rw [Mo 2 (by omega) (by omega) (by omega) (by omega)]; exact s2
            · rw [M3, if_neg (by omega), if_neg (by omega), if_pos rfl]
              show nI (rumN P (P 0 3) + 1) = nI (rumN (prP P x v0 v1) (P 0 3))
              rw [rumN_up h6 (by omega), if_pos hx]
            · rw [Mo 4 (by omega) (by omega) (by omega) (by omega)]; exact s4
            · rw [Mo 5 (by omega) (by omega) (by omega) (by omega)]; exact s5
            · rw [Mo 6 (by omega) (by omega) (by omega) (by omega)]; exact s6
            · intro y hy
              have hy : y < P 0 3 := hy
              obtain ⟨j1, j2, j3, j4, j5, j6⟩ := r1 y hy
              refine ⟨by rw [Mo (7 + y) (by omega) (by omega) (by omega) (by omega)]; exact j1, by rw [Mo (13 + y) (by omega) (by omega) (by omega) (by omega)]; exact j2, by rw [Mo (19 + y) (by omega) (by omega) (by omega) (by omega)]; exact j3, by rw [Mo (25 + y) (by omega) (by omega) (by omega) (by omega)]; exact j4, ?_, ?_⟩
              · show _ = nI (if (if y = x then v1 else P 6 y) = 0 then 0 else 1)
                by_cases ek : y = x
                · rw [M3, if_neg (by omega), if_neg (by omega), if_neg (by omega), if_pos (by omega), if_pos ek, if_neg (by omega)]
                · rw [Mo (43 + y) (by omega) (by omega) (by omega) (by omega), if_neg ek]; exact j5
              · show ¬ (if y = x then v1 else P 6 y) = 0 → _ = nI (if y = x then v0 else P 5 y) ∧ _ = nI (if y = x then v1 else P 6 y)
                by_cases ek : y = x
                · intro _
                  rw [if_pos ek, if_pos ek, M3, M3, if_neg (by omega), if_pos (by omega), if_pos (by omega)]
                  exact ⟨rfl, rfl⟩
                · rw [if_neg ek, if_neg ek, Mo (31 + y) (by omega) (by omega) (by omega) (by omega), Mo (37 + y) (by omega) (by omega) (by omega) (by omega)]
                  exact j6
            · intro y hy
              have hy : y < P 0 4 := hy
              obtain ⟨j1, j2, j3⟩ := r2 y hy
              rw [Mo (49 + y) (by omega) (by omega) (by omega) (by omega), Mo (55 + y) (by omega) (by omega) (by omega) (by omega), Mo (61 + y) (by omega) (by omega) (by omega) (by omega)]
              exact ⟨j1, j2, j3⟩
            · intro y hy
              have hy : y < P 0 5 := hy
              rw [Mo (67 + y) (by omega) (by omega) (by omega) (by omega)]; exact r3 y hy
            · intro y hy
              rw [Ml 5 (by decide)]; exact r4 y hy
            · intro y hy
              rw [Ml 5 (by decide)]; exact r5 y hy
            · intro y hy
              rw [Ml 5 (by decide)]; exact r6 y hy
            · intro y
              have := wC y
              show P 1 y ≤ 99 ∧ 1 ≤ P 2 y ∧ P 2 y ≤ 99 ∧ 1 ≤ P 3 y ∧ P 3 y ≤ 99 ∧ 1 ≤ P 4 y ∧ P 4 y ≤ 20 ∧ (if y = x then v0 else P 5 y) ≤ 99 ∧ (if y = x then v1 else P 6 y) ≤ 99
              by_cases ek : y = x
              · simp only [if_pos ek]; omega
              · simp only [if_neg ek]; omega
            · intro y hy hy6
              have hy : P 0 3 ≤ y := hy
              have ek : ¬ y = x := by omega
              show (if y = x then v1 else P 6 y) = 0 ∧ _
              rw [if_neg ek, Mo (43 + y) (by omega) (by omega) (by omega) (by omega)]
              exact z y hy hy6
            · rw [Co 19 (by decide) (by decide), q3]
            · rw [Co 19 (by decide) (by decide), q4]
            · rw [sI_o (by decide), f7.2.2 20 (by decide), sI_o (by decide), d7.2.2 20 (by decide), t20_3, q5]
            · intro i hi
              rw [Ml 6 (by decide)]; exact q6 i hi
          · refine LNo_bad fx4n bad (fun h e => ?_) (fun h e => ?_)
            · rw [e, bnd_s, if_pos (show nI 0 = 0 from rfl), rZ0]
            · rw [e, bnd_s, if_pos (show nI 0 = 0 from rfl), rZ0]
        · refine LNo_bad fx3n bad (fun h e => ?_) (fun h e => ?_)
          · rw [e, bnd_s, if_pos (show nI 0 = 0 from rfl), rZ0]
          · rw [e, bnd_s, if_pos (show nI 0 = 0 from rfl), rZ0]
      · rw [if_pos (show decide (P 6 x ≠ 0) = true from decide_eq_true h6), if_neg h6, if_pos (show nI 1 = nI 1 from rfl)]
        refine LNo_bad fx2' (T_fail 3 (by decide) b3') (fun h e => ?_) (fun h e => ?_)
        · rw [e, bnd_s, rZ0]
        · rw [e, bnd_s, rZ0]
  · rw [if_neg hn, if_neg hn]
    refine LNo_bad fx2 (T_fail 1 (by decide) b3) (fun h e => ?_) (fun h e => ?_)
    · rw [e, bnd_s, rZ0]
    · rw [e, bnd_s, rZ0, bnd_s, if_pos (show nI 0 = 0 from rfl), rZ0]
theorem isW_1 {t : Nat × Nat} {w : Nat} (h : isW t w = true) : t.1 = 1 := (of_decide_eq_true h).1
theorem LNo_e {n a : Nat} {B : Nat → Nat} {hc hm : HS} {rc rm rc2 rm2 : Option (Int32 × HS)} (h : LNo n a B hc hm rc rm) (e1 : ∀ v x, (v = nI 0 ∨ v = nI 1) → rc = some (v, x) → rc2 = some (v, x)) (e2 : ∀ v x, (v = nI 0 ∨ v = nI 1) → rm = some (v, x) → rm2 = some (v, x)) : LNo n a B hc hm rc2 rm2 := by
  rcases h with ⟨p2, a2, t2, l2, c2, P2, hc2, hm2, b1, b2, b3⟩ | ⟨hc2, hm2, b1, b2, b3⟩
  · exact Or.inl ⟨p2, a2, t2, l2, c2, P2, hc2, hm2, e1 _ _ (Or.inr rfl) b1, e2 _ _ (Or.inr rfl) b2, b3⟩
  · exact Or.inr ⟨hc2, hm2, e1 _ _ (Or.inl rfl) b1, e2 _ _ (Or.inl rfl) b2, b3⟩
theorem rZ_id {v : Int32} {x : HS} (h : v = nI 0 ∨ v = nI 1) : rZ v x = some (v, x) := by
  rcases h with h | h <;> subst h
  · exact rZ0 x
  · exact rZ1 x
theorem L_any {F n p a : Nat} {t : Nat × Nat} {B : Nat → Nat} {l c : Bool} {P : Pl} {hc hm : HS} (hF : 2000 ≤ F) (q : LNs n p a t B l c P hc hm) : LNo n a B hc hm (f_OffR_readLine F hc) (f_M_line F hm) := by
  have TK := q.1.2.2.2.2.2.2.2.2.2.2.2.2.2
  rw [f_OffR_readLine, f_M_line, C_isW TK (by decide), M_isW TK (w := 0) (by decide) (by decide +kernel), bnd_s, bnd_s, ite_b0, ite_b0]
  by_cases h0 : isW t 0 = true
  · rw [if_pos h0, if_pos h0]
    exact LNo_e (L_line hF q (isW_1 h0)) (fun v x hv e => by rw [e, bnd_s, rZ_id hv]) (fun v x hv e => e)
  · rw [if_neg h0, if_neg h0, C_isW TK (by decide), M_isW TK (w := 1) (by decide) (by decide +kernel), bnd_s, bnd_s, ite_b0, ite_b0]
    by_cases h1 : isW t 1 = true
    · rw [if_pos h1, if_pos h1]
      exact LNo_e (L_coin hF q (isW_1 h1)) (fun v x hv e => by rw [e, bnd_s, rZ_id hv]) (fun v x hv e => e)
    · rw [if_neg h1, if_neg h1, C_isW TK (by decide), M_isW TK (w := 2) (by decide) (by decide +kernel), bnd_s, bnd_s, ite_b0, ite_b0]
      by_cases h2 : isW t 2 = true
      · rw [if_pos h2, if_pos h2]
        exact LNo_e (L_cause hF q (isW_1 h2)) (fun v x hv e => by rw [e, bnd_s, rZ_id hv]) (fun v x hv e => e)
      · rw [if_neg h2, if_neg h2, C_isW TK (by decide), M_isW TK (w := 3) (by decide) (by decide +kernel), bnd_s, bnd_s, ite_b0, ite_b0]
        by_cases h3 : isW t 3 = true
        · rw [if_pos h3, if_pos h3]
          exact LNo_e (L_rumour hF q (isW_1 h3)) (fun v x hv e => by rw [e, bnd_s, rZ_id hv]) (fun v x hv e => e)
        · rw [if_neg h3, if_neg h3, C_isW TK (by decide), M_isW TK (w := 4) (by decide) (by decide +kernel), bnd_s, bnd_s, ite_b0, ite_b0]
          by_cases h4 : isW t 4 = true
          · rw [if_pos h4, if_pos h4]
            exact LNo_e (L_deed hF q (isW_1 h4)) (fun v x hv e => by rw [e, bnd_s, rZ_id hv]) (fun v x hv e => e)
          · rw [if_neg h4, if_neg h4, C_isW TK (by decide), M_isW TK (w := 5) (by decide) (by decide +kernel), bnd_s, bnd_s, ite_b0, ite_b0]
            by_cases h5 : isW t 5 = true
            · rw [if_pos h5, if_pos h5]
              exact LNo_e (L_clerk hF q (isW_1 h5)) (fun v x hv e => by rw [e, bnd_s, rZ_id hv]) (fun v x hv e => e)
            · rw [if_neg h5, if_neg h5]
              refine LNo_bad FX_rf (T_fail 1 (by decide) q.1) (fun h e => ?_) (fun h e => ?_)
              · rw [e, bnd_s, rZ0]
              · rw [e, bnd_s, rZ0]
