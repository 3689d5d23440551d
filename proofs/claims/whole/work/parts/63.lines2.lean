/-! ===== an OFFICE, LINE by LINE: causes, deeds, clerks ===== -/
def pcP (P : Pl) (k x v0 v1 v2 v3 : Nat) : Pl := fun a b => match a with
  | 0 => if b = 3 then k + 1 else P 0 b
  | 1 => if b = k then v0 else P 1 b
  | 2 => if b = k then v1 else P 2 b
  | 3 => if b = k then v2 else P 3 b
  | 4 => if b = k then v3 else P 4 b
  | 11 => if b = k then x else P 11 b
  | a => P a b
def pdP (P : Pl) (k x v0 v1 v2 : Nat) : Pl := fun a b => match a with
  | 0 => if b = 4 then k + 1 else P 0 b
  | 7 => if b = k then v0 else P 7 b
  | 8 => if b = k then v1 else P 8 b
  | 9 => if b = k then v2 else P 9 b
  | 12 => if b = k then x else P 12 b
  | a => P a b
def pkP (P : Pl) (k x v0 : Nat) : Pl := fun a b => match a with
  | 0 => if b = 5 then k + 1 else P 0 b
  | 10 => if b = k then v0 else P 10 b
  | 13 => if b = k then x else P 13 b
  | a => P a b
theorem C_rdCause0 (F g : Nat) (h : HS) : l_OffR_readCause_0 F (g + 1) (nI 0) h = bnd (f_Tape_takeNumber F (nI 0) (nI 99) h) (fun r18 h17 => if r18 = 0 then rZ (nI 0) h17 else bnd (f_Tape_taken h17) (fun r20 h19 => bnd (f_Plan_tellLastCause_11 (nI 0) r20 h19) (fun _ h21 => l_OffR_readCause_0 F g (nI 0 + nI 1) h21))) := by
  rw [l_OffR_readCause_0, if_neg (show ¬ nI 3 < nI 0 by decide)]
  dsimp only [bl]
  rw [if_pos (show nI 0 = 0 from rfl), if_neg (show ¬ nI 0 = nI 3 by decide)]
theorem C_rdCause1 (F g : Nat) (h : HS) : l_OffR_readCause_0 F (g + 1) (nI 1) h = bnd (f_Tape_takeNumber F (nI 1) (nI 99) h) (fun r18 h17 => if r18 = 0 then rZ (nI 0) h17 else bnd (f_Tape_taken h17) (fun r20 h19 => bnd (f_Plan_tellLastCause_11 (nI 1) r20 h19) (fun _ h21 => l_OffR_readCause_0 F g (nI 1 + nI 1) h21))) := by
  rw [l_OffR_readCause_0, if_neg (show ¬ nI 3 < nI 1 by decide)]
  dsimp only [bl]
  rw [if_neg (show ¬ nI 1 = 0 by decide), if_neg (show ¬ nI 1 = nI 3 by decide)]
theorem C_rdCause2 (F g : Nat) (h : HS) : l_OffR_readCause_0 F (g + 1) (nI 2) h = bnd (f_Tape_takeNumber F (nI 1) (nI 99) h) (fun r18 h17 => if r18 = 0 then rZ (nI 0) h17 else bnd (f_Tape_taken h17) (fun r20 h19 => bnd (f_Plan_tellLastCause_11 (nI 2) r20 h19) (fun _ h21 => l_OffR_readCause_0 F g (nI 2 + nI 1) h21))) := by
  rw [l_OffR_readCause_0, if_neg (show ¬ nI 3 < nI 2 by decide)]
  dsimp only [bl]
  rw [if_neg (show ¬ nI 2 = 0 by decide), if_neg (show ¬ nI 2 = nI 3 by decide)]
theorem C_rdCause3 (F g : Nat) (h : HS) : l_OffR_readCause_0 F (g + 1) (nI 3) h = bnd (f_Tape_takeNumber F (nI 1) (nI 20) h) (fun r18 h17 => if r18 = 0 then rZ (nI 0) h17 else bnd (f_Tape_taken h17) (fun r20 h19 => bnd (f_Plan_tellLastCause_11 (nI 3) r20 h19) (fun _ h21 => l_OffR_readCause_0 F g (nI 3 + nI 1) h21))) := by
  rw [l_OffR_readCause_0, if_neg (show ¬ nI 3 < nI 3 by decide)]
  dsimp only [bl]
  rw [if_neg (show ¬ nI 3 = 0 by decide), if_pos (show nI 3 = nI 3 from rfl)]
theorem C_rdCause4 (F g : Nat) (h : HS) : l_OffR_readCause_0 F (g + 1) (nI 4) h = some (nI 1, h) := by
  rw [l_OffR_readCause_0, if_pos (show nI 3 < nI 4 by decide), rZ1]
theorem C_rdDeed0 (F g : Nat) (h : HS) : l_OffR_readDeed_0 F (g + 1) (nI 0) h = bnd (f_Tape_takeNumber F (nI 0) (nI 20) h) (fun r18 h17 => if r18 = 0 then rZ (nI 0) h17 else bnd (f_Tape_taken h17) (fun r20 h19 => bnd (f_Plan_tellLastDeed_11 (nI 0) r20 h19) (fun _ h21 => l_OffR_readDeed_0 F g (nI 0 + nI 1) h21))) := by
  rw [l_OffR_readDeed_0, if_neg (show ¬ nI 2 < nI 0 by decide)]
  dsimp only [bl]
theorem C_rdDeed1 (F g : Nat) (h : HS) : l_OffR_readDeed_0 F (g + 1) (nI 1) h = bnd (f_Tape_takeNumber F (nI 0) (nI 20) h) (fun r18 h17 => if r18 = 0 then rZ (nI 0) h17 else bnd (f_Tape_taken h17) (fun r20 h19 => bnd (f_Plan_tellLastDeed_11 (nI 1) r20 h19) (fun _ h21 => l_OffR_readDeed_0 F g (nI 1 + nI 1) h21))) := by
  rw [l_OffR_readDeed_0, if_neg (show ¬ nI 2 < nI 1 by decide)]
  dsimp only [bl]
theorem C_rdDeed2 (F g : Nat) (h : HS) : l_OffR_readDeed_0 F (g + 1) (nI 2) h = bnd (f_Tape_takeNumber F (nI 0) (nI 20) h) (fun r18 h17 => if r18 = 0 then rZ (nI 0) h17 else bnd (f_Tape_taken h17) (fun r20 h19 => bnd (f_Plan_tellLastDeed_11 (nI 2) r20 h19) (fun _ h21 => l_OffR_readDeed_0 F g (nI 2 + nI 1) h21))) := by
  rw [l_OffR_readDeed_0, if_neg (show ¬ nI 2 < nI 2 by decide)]
  dsimp only [bl]
theorem C_rdDeed3 (F g : Nat) (h : HS) : l_OffR_readDeed_0 F (g + 1) (nI 3) h = some (nI 1, h) := by
  rw [l_OffR_readDeed_0, if_pos (show nI 2 < nI 3 by decide), rZ1]
theorem L_cause {F n p a : Nat} {t : Nat × Nat} {B : Nat → Nat} {l c : Bool} {P : Pl} {hc hm : HS} (hF : 2000 ≤ F) (q : LNs n p a t B l c P hc hm) (ht : t.1 = 1) : LNo n a B hc hm (f_OffR_readCause F hc) (if inb (nI 0) 72 = true then bl (hm.1 3 (nI 0).toNatClampNeg) (fun (v50 : Int32) => (if v50 = (nI 6) then bnd (f_M_bad (nI 4) hm) (fun (r64 : Int32) (h63 : HS) => rZ r64 h63) else bnd (f_M_next F hm) (fun (_ : Unit) (h51 : HS) => bnd (f_M_fresh F ((nI 17) + v50) h51) (fun (r53 : Int32) (h52 : HS) => (if r53 = 0 then rZ (nI 0) h52 else bnd (f_M_puts F ((nI 7) + v50) (nI 0) (nI 99) h52) (fun (q0 : Int32) (g0 : HS) => (if q0 = 0 then rZ (nI 0) g0 else bnd (f_M_puts F ((nI 13) + v50) (nI 1) (nI 99) g0) (fun (q1 : Int32) (g1 : HS) => (if q1 = 0 then rZ (nI 0) g1 else bnd (f_M_puts F ((nI 19) + v50) (nI 1) (nI 99) g1) (fun (q2 : Int32) (g2 : HS) => (if q2 = 0 then rZ (nI 0) g2 else bnd (f_M_puts F ((nI 25) + v50) (nI 1) (nI 20) g2) (fun (q3 : Int32) (g3 : HS) => (if q3 = 0 then rZ (nI 0) g3 else (if inb (nI 0) 72 = true then (if inb (nI 0) 72 = true then bl (sI g3 3 (nI 0).toNatClampNeg ((g3.1 3 (nI 0).toNatClampNeg) + (nI 1))) (fun (hz : HS) => rZ (nI 1) hz) else none) else none)))))))))))))) else none) := by
  obtain ⟨q1, q2, q3, q4, q5, q6⟩ := q
  obtain ⟨⟨⟨e0, e1, e2, e3, e4, e5⟩, g1, g2, g3, g4, g5, g6, g7⟩, ⟨⟨s0, s1, s2, s3, s4, s5, s6⟩, r1, r2, r3, r4, r5, r6⟩, ⟨w0, w1, w2, wc, w3, w4, w5, wC, wD, wK⟩, z⟩ := id q2
  rw [f_OffR_readCause, f_Plan_causes_11, bnd_s, e3, ite_ltN (by omega) (by omega), ifin (by omega) (by omega), nI_clamp (by omega), s0, bl_e, ite_eqN (by omega) (by omega)]
  by_cases hk : P 0 3 = 6
  · rw [if_neg (by omega), if_pos hk]
    refine LNo_bad FX_rf (T_fail 4 (by decide) q1) (fun h e => ?_) (fun h e => ?_)
    · rw [e, bnd_s, rZ0]
    · rw [e, bnd_s, rZ0]
  · generalize hkk : P 0 3 = k at *
    rw [if_pos (show k < 6 by omega), if_neg hk]
    obtain ⟨p2, a2, t2, hc2, hm2, b1, b2, b3, b4, b5, -, -⟩ := T_adv hF q1 (Or.inl ht)
    rw [b1, b2, bnd_s, bnd_s, nI_add]
    have fx2 := TS_fx b5
    have D2 := DR_ts q2 b5
    have R2 : RSr hm2 := fun i hi => by rw [(b5.2.1 6 (by decide)).2]; exact q6 i hi
    have x2 : ∀ y, y ≠ 1 → hc2.1 y = hc.1 y ∧ hc2.2 y = hc.2 y := fun y hy => b5.1 y (by simpa using hy)
    have y2 : ∀ y, y ≠ 0 → hm2.1 y = hm.1 y ∧ hm2.2 y = hm.2 y := fun y hy => b5.2.1 y (by simpa using hy)
    rcases T_new hF b3 D2 R2 (17 + k) (by omega) with ⟨u1, u2, u3, u4, u5, u6⟩ | bad
    · rw [u5, u6, bnd_s, if_neg (show ¬ nI 1 = 0 by decide), f_Tape_letters, bnd_s, u3]
      generalize t2.2 = x at u2 u3 u4 u6
      have eA : f_Plan_addCause_11 (lN x) hc2 = some ((), sI (sL hc2 12 k (lN x)) 11 3 (nI (k + 1))) := by
        rw [f_Plan_addCause_11, (x2 11 (by decide)).1, e3, ite_leN (by omega) (by omega), if_neg (by omega), ifin (by omega) (by omega), nI_clamp (by omega), bl_e, sL_1, (x2 11 (by decide)).1, e3, bl_e, nI_add]
      rw [eA, bnd_s]
      have qA : RD n 900 p2 a2 t2 B (sI (sL hc2 12 k (lN x)) 11 3 (nI (k + 1))) (sL hm2 5 (17 + k) (lN (cv x))) := RD_fr b3 (by rw [sI_o (by decide)]; rfl) (by rw [sI_o (by decide)]; rfl) (by rw [sI_2, sL_o (by decide)]) (fun _ _ => rfl) rfl (sL_o (by decide))
      have fxA : FX hc2 hm2 (sI (sL hc2 12 k (lN x)) 11 3 (nI (k + 1))) (sL hm2 5 (17 + k) (lN (cv x))) := ⟨Fr_t (Fr_sL (by decide)) (Fr_sI (by decide)), Fr_sL (by decide), fun _ _ => rfl, fun i hi => sL_n (by omega)⟩
      have A11 : ∀ i, (sI (sL hc2 12 k (lN x)) 11 3 (nI (k + 1))).1 11 i = if i = 3 then nI (k + 1) else hc.1 11 i := fun i => by
        rw [sI_u]
        show (if i = 3 then _ else hc2.1 11 i) = _
        rw [(x2 11 (by decide)).1]
      have Ao : ∀ y, y ≠ 1 → y ≠ 11 → (sI (sL hc2 12 k (lN x)) 11 3 (nI (k + 1))).1 y = hc.1 y := fun y y1 y2 => by rw [sI_o y2, sL_1, (x2 y y1).1]
      have AN : ∀ i, (sI (sL hc2 12 k (lN x)) 11 3 (nI (k + 1))).2 12 i = if i = k then lN x else hc.2 12 i := fun i => by
        rw [sI_2, ← (x2 12 (by decide)).2]
        show (if 12 = 12 ∧ i = k then lN x else hc2.2 12 i) = _
        by_cases y : i = k
        · rw [if_pos ⟨rfl, y⟩, if_pos y]
        · rw [if_neg (fun w => y w.2), if_neg y]
      have Ap : ∀ y, y ≠ 1 → y ≠ 12 → (sI (sL hc2 12 k (lN x)) 11 3 (nI (k + 1))).2 y = hc.2 y := fun y y1 y2 => by rw [sI_2, sL_o y2, (x2 y y1).2]
      have M3 : (sL hm2 5 (17 + k) (lN (cv x))).1 3 = hm.1 3 := by rw [sL_1, (y2 3 (by decide)).1]
      have M5 : ∀ i, (sL hm2 5 (17 + k) (lN (cv x))).2 5 i = if i = 17 + k then lN (cv x) else hm.2 5 i := fun i => by
        rw [← (y2 5 (by decide)).2]
        show (if 5 = 5 ∧ i = 17 + k then lN (cv x) else hm2.2 5 i) = _
        by_cases y : i = 17 + k
        · rw [if_pos ⟨rfl, y⟩, if_pos y]
        · rw [if_neg (fun w => y w.2), if_neg y]
      have M6 : (sL hm2 5 (17 + k) (lN (cv x))).2 6 = hm.2 6 := by rw [sL_o (by decide), (y2 6 (by decide)).2]
      have M20 : (sL hm2 5 (17 + k) (lN (cv x))).1 0 20 = hm.1 0 20 := by rw [sL_1, b5.2.2 20 (by decide)]
      have fxB := FX_t fx2 fxA
      generalize sI (sL hc2 12 k (lN x)) 11 3 (nI (k + 1)) = hcA at qA fxA fxB A11 Ao AN Ap
      generalize sL hm2 5 (17 + k) (lN (cv x)) = hmA at qA fxA fxB M3 M5 M6 M20 u6
      obtain ⟨p3, a3, t3, hc3, hm3, c1, c2, c3, c4, c5, -, -⟩ := T_adv hF qA (Or.inl u1)
      rw [c1, c2, bnd_s, bnd_s, bnd_s, if_neg (show ¬ nI 1 = 0 by decide)]
      have fx3 := FX_t fxB (TS_fx c5)
      have x3 : ∀ y, y ≠ 1 → hc3.1 y = hcA.1 y ∧ hc3.2 y = hcA.2 y := fun y hy => c5.1 y (by simpa using hy)
      have y3 : ∀ y, y ≠ 0 → hm3.1 y = hmA.1 y ∧ hm3.2 y = hmA.2 y := fun y hy => c5.2.1 y (by simpa using hy)
      have z3 : ∀ y, y ≠ 1 → y ≠ 15 → hc3.1 y = hcA.1 y := fun y y1 _ => (x3 y y1).1
      have t20_3 : hm3.1 0 20 = hmA.1 0 20 := c5.2.2 20 (by decide)
      obtain ⟨G, hG⟩ : ∃ G, F = G + 1 + 1 + 1 + 1 + 1 := ⟨F - 5, by omega⟩
      have hG0 : ∀ h, l_OffR_readCause_0 F F (nI 0) h = l_OffR_readCause_0 F (G + 1 + 1 + 1 + 1 + 1) (nI 0) h := fun h => by rw [← hG]
      rw [bl_e, hG0]
      rw [C_rdCause0, nI_add 7 k]
      rcases T_put hF (7 + k) 0 99 (by omega) (by decide) (by decide) c3 with ⟨v0, p4, a4, t4, hc4, hm4, d41, d42, d43, d44, d45, d46, d47, d48⟩ | bad
      · rw [d43, d44, bnd_s, bnd_s, if_neg (show ¬ nI 1 = 0 by decide), if_neg (show ¬ nI 1 = 0 by decide), f_Tape_taken, bnd_s, d48]
        have x4 : ∀ y, y ≠ 1 → hc4.1 y = hc3.1 y ∧ hc4.2 y = hc3.2 y := fun y hy => d47.1 y (by simpa using hy)
        have y4 : ∀ y, y ≠ 0 → hm4.1 y = hm3.1 y ∧ hm4.2 y = hm3.2 y := fun y hy => d47.2.1 y (by simpa using hy)
        have n4 : hc4.1 11 3 = nI (k + 1) := by rw [(x4 11 (by decide)).1, z3 11 (by decide) (by decide), A11, if_pos rfl]
        rw [f_Plan_tellLastCause_11, n4, ite_le0 (by omega), if_neg (by omega), nI_sb (by omega), nI_mul, nI_add, Nat.add_sub_cancel, ifin (by omega) (by omega), nI_clamp (by omega), bl_e, bnd_s, show nI 0 + nI 1 = nI 1 from nI_add 0 1]
        have q4n : RD n 900 p4 a4 t4 B (sI hc4 15 (k * 4 + 0) (nI v0)) (sI hm4 3 (7 + k) (nI v0)) := RD_s3 (by decide) d45
        have fx4 := FX_t (FX_t fx3 (TS_fx d47)) (show FX hc4 hm4 (sI hc4 15 (k * 4 + 0) (nI v0)) (sI hm4 3 (7 + k) (nI v0)) from ⟨Fr_sI (by decide), Fr_sI (by decide), fun k _ => by rw [sI_o (by decide)], fun _ _ => rfl⟩)
        have N4 : ∀ i, (sI hc4 15 (k * 4 + 0) (nI v0)).1 15 i = if i = (k * 4 + 0) then nI v0 else hc3.1 15 i := fun i => by rw [sI_u]; show (if i = (k * 4 + 0) then _ else hc4.1 15 i) = _; rw [(x4 15 (by decide)).1]
        have K4 : ∀ i, (sI hm4 3 (7 + k) (nI v0)).1 3 i = if i = 7 + k then nI v0 else hm3.1 3 i := fun i => by rw [sI_u]; show (if i = 7 + k then _ else hm4.1 3 i) = _; rw [(y4 3 (by decide)).1]
        have z4 : ∀ y, y ≠ 1 → y ≠ 15 → (sI hc4 15 (k * 4 + 0) (nI v0)).1 y = hcA.1 y := fun y y1 y2 => by rw [sI_o y2, (x4 y y1).1, z3 y y1 y2]
        have u4c : ∀ y, y ≠ 1 → (sI hc4 15 (k * 4 + 0) (nI v0)).2 y = hcA.2 y := fun y y1 => by rw [sI_2, (x4 y y1).2, (x3 y y1).2]
        have u4m : ∀ y, y ≠ 0 → (sI hm4 3 (7 + k) (nI v0)).2 y = hmA.2 y := fun y y1 => by rw [sI_2, (y4 y y1).2, (y3 y y1).2]
        have t20_4 : (sI hm4 3 (7 + k) (nI v0)).1 0 20 = hmA.1 0 20 := by rw [sI_o (by decide), d47.2.2 20 (by decide), t20_3]
        generalize (sI hc4 15 (k * 4 + 0) (nI v0)) = hcS4 at q4n fx4 N4 z4 u4c ⊢
        generalize (sI hm4 3 (7 + k) (nI v0)) = hmS4 at q4n fx4 K4 u4m t20_4 ⊢
        rw [C_rdCause1, nI_add 13 k]
        rcases T_put hF (13 + k) 1 99 (by omega) (by decide) (by decide) q4n with ⟨v1, p5, a5, t5, hc5, hm5, d51, d52, d53, d54, d55, d56, d57, d58⟩ | bad
        · rw [d53, d54, bnd_s, bnd_s, if_neg (show ¬ nI 1 = 0 by decide), if_neg (show ¬ nI 1 = 0 by decide), f_Tape_taken, bnd_s, d58]
          have x5 : ∀ y, y ≠ 1 → hc5.1 y = hcS4.1 y ∧ hc5.2 y = hcS4.2 y := fun y hy => d57.1 y (by simpa using hy)
          have y5 : ∀ y, y ≠ 0 → hm5.1 y = hmS4.1 y ∧ hm5.2 y = hmS4.2 y := fun y hy => d57.2.1 y (by simpa using hy)
          have n5 : hc5.1 11 3 = nI (k + 1) := by rw [(x5 11 (by decide)).1, z4 11 (by decide) (by decide), A11, if_pos rfl]
          rw [f_Plan_tellLastCause_11, n5, ite_le0 (by omega), if_neg (by omega), nI_sb (by omega), nI_mul, nI_add, Nat.add_sub_cancel, ifin (by omega) (by omega), nI_clamp (by omega), bl_e, bnd_s, show nI 1 + nI 1 = nI 2 from nI_add 1 1]
          have q5n : RD n 900 p5 a5 t5 B (sI hc5 15 (k * 4 + 1) (nI v1)) (sI hm5 3 (13 + k) (nI v1)) := RD_s3 (by decide) d55
          have fx5 := FX_t (FX_t fx4 (TS_fx d57)) (show FX hc5 hm5 (sI hc5 15 (k * 4 + 1) (nI v1)) (sI hm5 3 (13 + k) (nI v1)) from ⟨Fr_sI (by decide), Fr_sI (by decide), fun k _ => by rw [sI_o (by decide)], fun _ _ => rfl⟩)
          have N5 : ∀ i, (sI hc5 15 (k * 4 + 1) (nI v1)).1 15 i = if i = (k * 4 + 1) then nI v1 else hcS4.1 15 i := fun i => by rw [sI_u]; show (if i = (k * 4 + 1) then _ else hc5.1 15 i) = _; rw [(x5 15 (by decide)).1]
          have K5 : ∀ i, (sI hm5 3 (13 + k) (nI v1)).1 3 i = if i = 13 + k then nI v1 else hmS4.1 3 i := fun i => by rw [sI_u]; show (if i = 13 + k then _ else hm5.1 3 i) = _; rw [(y5 3 (by decide)).1]
          have z5 : ∀ y, y ≠ 1 → y ≠ 15 → (sI hc5 15 (k * 4 + 1) (nI v1)).1 y = hcA.1 y := fun y y1 y2 => by rw [sI_o y2, (x5 y y1).1, z4 y y1 y2]
          have u5c : ∀ y, y ≠ 1 → (sI hc5 15 (k * 4 + 1) (nI v1)).2 y = hcA.2 y := fun y y1 => by rw [sI_2, (x5 y y1).2, u4c y y1]
          have u5m : ∀ y, y ≠ 0 → (sI hm5 3 (13 + k) (nI v1)).2 y = hmA.2 y := fun y y1 => by rw [sI_2, (y5 y y1).2, u4m y y1]
          have t20_5 : (sI hm5 3 (13 + k) (nI v1)).1 0 20 = hmA.1 0 20 := by rw [sI_o (by decide), d57.2.2 20 (by decide), t20_4]
          generalize (sI hc5 15 (k * 4 + 1) (nI v1)) = hcS5 at q5n fx5 N5 z5 u5c ⊢
          generalize (sI hm5 3 (13 + k) (nI v1)) = hmS5 at q5n fx5 K5 u5m t20_5 ⊢
          rw [C_rdCause2, nI_add 19 k]
          rcases T_put hF (19 + k) 1 99 (by omega) (by decide) (by decide) q5n with ⟨v2, p6, a6, t6, hc6, hm6, d61, d62, d63, d64, d65, d66, d67, d68⟩ | bad
          · rw [d63, d64, bnd_s, bnd_s, if_neg (show ¬ nI 1 = 0 by decide), if_neg (show ¬ nI 1 = 0 by decide), f_Tape_taken, bnd_s, d68]
            have x6 : ∀ y, y ≠ 1 → hc6.1 y = hcS5.1 y ∧ hc6.2 y = hcS5.2 y := fun y hy => d67.1 y (by simpa using hy)
            have y6 : ∀ y, y ≠ 0 → hm6.1 y = hmS5.1 y ∧ hm6.2 y = hmS5.2 y := fun y hy => d67.2.1 y (by simpa using hy)
            have n6 : hc6.1 11 3 = nI (k + 1) := by rw [(x6 11 (by decide)).1, z5 11 (by decide) (by decide), A11, if_pos rfl]
            rw [f_Plan_tellLastCause_11, n6, ite_le0 (by omega), if_neg (by omega), nI_sb (by omega), nI_mul, nI_add, Nat.add_sub_cancel, ifin (by omega) (by omega), nI_clamp (by omega), bl_e, bnd_s, show nI 2 + nI 1 = nI 3 from nI_add 2 1]
            have q6n : RD n 900 p6 a6 t6 B (sI hc6 15 (k * 4 + 2) (nI v2)) (sI hm6 3 (19 + k) (nI v2)) := RD_s3 (by decide) d65
            have fx6 := FX_t (FX_t fx5 (TS_fx d67)) (show FX hc6 hm6 (sI hc6 15 (k * 4 + 2) (nI v2)) (sI hm6 3 (19 + k) (nI v2)) from ⟨Fr_sI (by decide), Fr_sI (by decide), fun k _ => by rw [sI_o (by decide)], fun _ _ => rfl⟩)
            have N6 : ∀ i, (sI hc6 15 (k * 4 + 2) (nI v2)).1 15 i = if i = (k * 4 + 2) then nI v2 else hcS5.1 15 i := fun i => by rw [sI_u]; show (if i = (k * 4 + 2) then _ else hc6.1 15 i) = _; rw [(x6 15 (by decide)).1]
            have K6 : ∀ i, (sI hm6 3 (19 + k) (nI v2)).1 3 i = if i = 19 + k then nI v2 else hmS5.1 3 i := fun i => by rw [sI_u]; show (if i = 19 + k then _ else hm6.1 3 i) = _; rw [(y6 3 (by decide)).1]
            have z6 : ∀ y, y ≠ 1 → y ≠ 15 → (sI hc6 15 (k * 4 + 2) (nI v2)).1 y = hcA.1 y := fun y y1 y2 => by rw [sI_o y2, (x6 y y1).1, z5 y y1 y2]
            have u6c : ∀ y, y ≠ 1 → (sI hc6 15 (k * 4 + 2) (nI v2)).2 y = hcA.2 y := fun y y1 => by rw [sI_2, (x6 y y1).2, u5c y y1]
            have u6m : ∀ y, y ≠ 0 → (sI hm6 3 (19 + k) (nI v2)).2 y = hmA.2 y := fun y y1 => by rw [sI_2, (y6 y y1).2, u5m y y1]
            have t20_6 : (sI hm6 3 (19 + k) (nI v2)).1 0 20 = hmA.1 0 20 := by rw [sI_o (by decide), d67.2.2 20 (by decide), t20_5]
            generalize (sI hc6 15 (k * 4 + 2) (nI v2)) = hcS6 at q6n fx6 N6 z6 u6c ⊢
            generalize (sI hm6 3 (19 + k) (nI v2)) = hmS6 at q6n fx6 K6 u6m t20_6 ⊢
            rw [C_rdCause3, nI_add 25 k]
            rcases T_put hF (25 + k) 1 20 (by omega) (by decide) (by decide) q6n with ⟨v3, p7, a7, t7, hc7, hm7, d71, d72, d73, d74, d75, d76, d77, d78⟩ | bad
            · rw [d73, d74, bnd_s, bnd_s, if_neg (show ¬ nI 1 = 0 by decide), if_neg (show ¬ nI 1 = 0 by decide), f_Tape_taken, bnd_s, d78]
              have x7 : ∀ y, y ≠ 1 → hc7.1 y = hcS6.1 y ∧ hc7.2 y = hcS6.2 y := fun y hy => d77.1 y (by simpa using hy)
              have y7 : ∀ y, y ≠ 0 → hm7.1 y = hmS6.1 y ∧ hm7.2 y = hmS6.2 y := fun y hy => d77.2.1 y (by simpa using hy)
              have n7 : hc7.1 11 3 = nI (k + 1) := by rw [(x7 11 (by decide)).1, z6 11 (by decide) (by decide), A11, if_pos rfl]
              rw [f_Plan_tellLastCause_11, n7, ite_le0 (by omega), if_neg (by omega), nI_sb (by omega), nI_mul, nI_add, Nat.add_sub_cancel, ifin (by omega) (by omega), nI_clamp (by omega), bl_e, bnd_s, show nI 3 + nI 1 = nI 4 from nI_add 3 1]
              have q7n : RD n 900 p7 a7 t7 B (sI hc7 15 (k * 4 + 3) (nI v3)) (sI hm7 3 (25 + k) (nI v3)) := RD_s3 (by decide) d75
              have fx7 := FX_t (FX_t fx6 (TS_fx d77)) (show FX hc7 hm7 (sI hc7 15 (k * 4 + 3) (nI v3)) (sI hm7 3 (25 + k) (nI v3)) from ⟨Fr_sI (by decide), Fr_sI (by decide), fun k _ => by rw [sI_o (by decide)], fun _ _ => rfl⟩)
              have N7 : ∀ i, (sI hc7 15 (k * 4 + 3) (nI v3)).1 15 i = if i = (k * 4 + 3) then nI v3 else hcS6.1 15 i := fun i => by rw [sI_u]; show (if i = (k * 4 + 3) then _ else hc7.1 15 i) = _; rw [(x7 15 (by decide)).1]
              have K7 : ∀ i, (sI hm7 3 (25 + k) (nI v3)).1 3 i = if i = 25 + k then nI v3 else hmS6.1 3 i := fun i => by rw [sI_u]; show (if i = 25 + k then _ else hm7.1 3 i) = _; rw [(y7 3 (by decide)).1]
              have z7 : ∀ y, y ≠ 1 → y ≠ 15 → (sI hc7 15 (k * 4 + 3) (nI v3)).1 y = hcA.1 y := fun y y1 y2 => by rw [sI_o y2, (x7 y y1).1, z6 y y1 y2]
              have u7c : ∀ y, y ≠ 1 → (sI hc7 15 (k * 4 + 3) (nI v3)).2 y = hcA.2 y := fun y y1 => by rw [sI_2, (x7 y y1).2, u6c y y1]
              have u7m : ∀ y, y ≠ 0 → (sI hm7 3 (25 + k) (nI v3)).2 y = hmA.2 y := fun y y1 => by rw [sI_2, (y7 y y1).2, u6m y y1]
              have t20_7 : (sI hm7 3 (25 + k) (nI v3)).1 0 20 = hmA.1 0 20 := by rw [sI_o (by decide), d77.2.2 20 (by decide), t20_6]
              generalize (sI hc7 15 (k * 4 + 3) (nI v3)) = hcS7 at q7n fx7 N7 z7 u7c ⊢
              generalize (sI hm7 3 (25 + k) (nI v3)) = hmS7 at q7n fx7 K7 u7m t20_7 ⊢
              rw [C_rdCause4]
              have MX : ∀ i, hmS7.1 3 i = if i = 25 + k then nI v3 else if i = 19 + k then nI v2 else if i = 13 + k then nI v1 else if i = 7 + k then nI v0 else hm.1 3 i := fun i => by rw [K7, K6, K5, K4, (y3 3 (by decide)).1, M3]
              have CX : ∀ i, hcS7.1 15 i = if i = k * 4 + 3 then nI v3 else if i = k * 4 + 2 then nI v2 else if i = k * 4 + 1 then nI v1 else if i = k * 4 + 0 then nI v0 else hc.1 15 i := fun i => by rw [N7, N6, N5, N4, (x3 15 (by decide)).1, Ao 15 (by decide) (by decide)]
              have ec : hmS7.1 3 0 = nI k := by rw [MX, if_neg (by omega), if_neg (by omega), if_neg (by omega), if_neg (by omega), s0]
              rw [ifin (by omega) (by omega), ifin (by omega) (by omega), ec, nI_add, bl_e, rZ1]
              have FZ : ∀ i, (sI hmS7 3 0 (nI (k + 1))).1 3 i = if i = 0 then nI (k + 1) else hmS7.1 3 i := fun i => by rw [sI_u]; rfl
              have FO : ∀ i, i ≠ 0 → i ≠ 7 + k → i ≠ 13 + k → i ≠ 19 + k → i ≠ 25 + k → (sI hmS7 3 0 (nI (k + 1))).1 3 i = hm.1 3 i := fun i i0 j0 j1 j2 j3 => by rw [FZ, if_neg i0, MX, if_neg j3, if_neg j2, if_neg j1, if_neg j0]
              have F0 : (sI hmS7 3 0 (nI (k + 1))).1 3 (7 + k) = nI v0 := by rw [FZ, if_neg (by omega), MX, if_neg (by omega), if_neg (by omega), if_neg (by omega), if_pos rfl]
              have F1 : (sI hmS7 3 0 (nI (k + 1))).1 3 (13 + k) = nI v1 := by rw [FZ, if_neg (by omega), MX, if_neg (by omega), if_neg (by omega), if_pos rfl]
              have F2 : (sI hmS7 3 0 (nI (k + 1))).1 3 (19 + k) = nI v2 := by rw [FZ, if_neg (by omega), MX, if_neg (by omega), if_pos rfl]
              have F3 : (sI hmS7 3 0 (nI (k + 1))).1 3 (25 + k) = nI v3 := by rw [FZ, if_neg (by omega), MX, if_pos rfl]
              refine Or.inl ⟨p7, a7, t7, l, c, pcP P k x v0 v1 v2 v3, _, _, rfl, rfl, ⟨RD_fr q7n rfl rfl rfl (fun _ _ => by rw [sI_o (by decide)]) (sI_o (by decide)) rfl, ⟨⟨⟨?_, ?_, ?_, ?_, ?_, ?_⟩, ?_, ?_, ?_, ?_, ?_, ?_, ?_⟩, ⟨⟨?_, ?_, ?_, ?_, ?_, ?_, ?_⟩, ?_, ?_, ?_, ?_, ?_, ?_⟩, ⟨w0, w1, w2, wc, ?_, ?_, ?_, ?_, ?_, ?_⟩, ?_⟩, ?_, ?_, ?_, ?_⟩, by omega, FX_t fx7 ⟨Fr_rf, Fr_sI (by decide), fun k _ => by rw [sI_o (by decide)], fun _ _ => rfl⟩⟩
              · rw [z7 11 (by decide) (by decide), A11, if_neg (by decide)]; exact e0
              · rw [z7 11 (by decide) (by decide), A11, if_neg (by decide)]; exact e1
              · rw [z7 11 (by decide) (by decide), A11, if_neg (by decide)]; exact e2
              · rw [z7 11 (by decide) (by decide), A11, if_pos rfl]; rfl
              · rw [z7 11 (by decide) (by decide), A11, if_neg (by decide)]; exact e4
              · rw [z7 11 (by decide) (by decide), A11, if_neg (by decide)]; exact e5
              · intro y w hx hw
                have hx : y < k + 1 := hx
                rw [CX]
                by_cases ek : y = k
                · subst ek
                  rcases (show w = 0 ∨ w = 1 ∨ w = 2 ∨ w = 3 by omega) with e | e | e | e <;> subst e
                  · rw [if_neg (by omega), if_neg (by omega), if_neg (by omega), if_pos rfl]; exact congrArg nI (if_pos rfl).symm
                  · rw [if_neg (by omega), if_neg (by omega), if_pos rfl]; exact congrArg nI (if_pos rfl).symm
                  · rw [if_neg (by omega), if_pos rfl]; exact congrArg nI (if_pos rfl).symm
                  · rw [if_pos rfl]; exact congrArg nI (if_pos rfl).symm
                · rw [if_neg (by omega), if_neg (by omega), if_neg (by omega), if_neg (by omega), g1 y w (by omega) hw]
                  rcases (show w = 0 ∨ w = 1 ∨ w = 2 ∨ w = 3 by omega) with e | e | e | e <;> subst e <;> exact congrArg nI (if_neg ek).symm
              · intro y w hx hw hz
                rw [z7 16 (by decide) (by decide), Ao 16 (by decide) (by decide)]
                rcases (show w = 0 ∨ w = 1 by omega) with e | e <;> subst e
                · rw [g2 y 0 hx hw hz]; rfl
                · rw [g2 y 1 hx hw hz]; rfl
              · intro y w hx hw
                rw [z7 17 (by decide) (by decide), Ao 17 (by decide) (by decide)]
                rw [g3 y w hx hw]
                rcases (show w = 0 ∨ w = 1 ∨ w = 2 by omega) with e | e | e <;> subst e <;> rfl
              · intro y hx
                rw [z7 18 (by decide) (by decide), Ao 18 (by decide) (by decide)]
                exact g4 y hx
              · intro y hx
                have hx : y < k + 1 := hx
                rw [u7c 12 (by decide), AN]
                show _ = lN (if y = k then x else P 11 y) ∧ (if y = k then x else P 11 y) < 2 ^ 35
                by_cases ek : y = k
                · rw [if_pos ek, if_pos ek]; exact ⟨rfl, by omega⟩
                · rw [if_neg ek, if_neg ek]; exact g5 y (by omega)
              · intro y hx
                rw [u7c 13 (by decide), Ap 13 (by decide) (by decide)]
                exact g6 y hx
              · intro y hx
                rw [u7c 14 (by decide), Ap 14 (by decide) (by decide)]
                exact g7 y hx
              · rw [FZ, if_pos rfl]; rfl
              · rw [FO 1 (by omega) (by omega) (by omega) (by omega) (by omega)]; exact s1
              · rw [FO 2 (by omega) (by omega) (by omega) (by omega) (by omega)]; exact s2
              · rw [FO 3 (by omega) (by omega) (by omega) (by omega) (by omega), s3]
                show nI (rumN P k) = nI (rumN (pcP P k x v0 v1 v2 v3) (k + 1))
                rw [rumN_cg (P := P) (Q := (pcP P k x v0 v1 v2 v3)) (fun _ => rfl), rumN, if_pos (z k (Nat.le_refl _) (by omega)).1]
                rfl
              · rw [FO 4 (by omega) (by omega) (by omega) (by omega) (by omega)]; exact s4
              · rw [FO 5 (by omega) (by omega) (by omega) (by omega) (by omega)]; exact s5
              · rw [FO 6 (by omega) (by omega) (by omega) (by omega) (by omega)]; exact s6
              · intro y hx
                have hx : y < k + 1 := hx
                by_cases ek : y = k
                · subst ek
                  have z0 := z y (Nat.le_refl _) (by omega)
                  refine ⟨by rw [F0]; exact congrArg nI (if_pos rfl).symm, by rw [F1]; exact congrArg nI (if_pos rfl).symm, by rw [F2]; exact congrArg nI (if_pos rfl).symm, by rw [F3]; exact congrArg nI (if_pos rfl).symm, ?_, fun h => absurd z0.1 h⟩
                  rw [FO (43 + y) (by omega) (by omega) (by omega) (by omega) (by omega), z0.2]
                  exact congrArg nI (if_pos z0.1).symm
                · obtain ⟨y1, y2, y3, y4, y5, y6⟩ := r1 y (by omega)
                  refine ⟨?_, ?_, ?_, ?_, ?_, fun h => ⟨?_, ?_⟩⟩
                  · rw [FO (7 + y) (by omega) (by omega) (by omega) (by omega) (by omega), y1]; exact congrArg nI (if_neg ek).symm
                  · rw [FO (13 + y) (by omega) (by omega) (by omega) (by omega) (by omega), y2]; exact congrArg nI (if_neg ek).symm
                  · rw [FO (19 + y) (by omega) (by omega) (by omega) (by omega) (by omega), y3]; exact congrArg nI (if_neg ek).symm
                  · rw [FO (25 + y) (by omega) (by omega) (by omega) (by omega) (by omega), y4]; exact congrArg nI (if_neg ek).symm
                  · rw [FO (43 + y) (by omega) (by omega) (by omega) (by omega) (by omega)]; exact y5
                  · rw [FO (31 + y) (by omega) (by omega) (by omega) (by omega) (by omega)]; exact (y6 h).1
                  · rw [FO (37 + y) (by omega) (by omega) (by omega) (by omega) (by omega)]; exact (y6 h).2
              · intro y hx
                have hx : y < P 0 4 := hx
                obtain ⟨y1, y2, y3⟩ := r2 y hx
                rw [FO (49 + y) (by omega) (by omega) (by omega) (by omega) (by omega), FO (55 + y) (by omega) (by omega) (by omega) (by omega) (by omega), FO (61 + y) (by omega) (by omega) (by omega) (by omega) (by omega)]
                exact ⟨y1, y2, y3⟩
              · intro y hx
                have hx : y < P 0 5 := hx
                rw [FO (67 + y) (by omega) (by omega) (by omega) (by omega) (by omega)]; exact r3 y hx
              · intro y hx
                have hx : y < k + 1 := hx
                rw [sI_2, u7m 5 (by decide), M5]
                show _ = lN (cv (if y = k then x else P 11 y))
                by_cases ek : y = k
                · rw [if_pos (by omega), if_pos ek]
                · rw [if_neg (by omega), if_neg ek]; exact r4 y (by omega)
              · intro y hx
                have hx : y < P 0 4 := hx
                rw [sI_2, u7m 5 (by decide), M5, if_neg (by omega)]; exact r5 y hx
              · intro y hx
                have hx : y < P 0 5 := hx
                rw [sI_2, u7m 5 (by decide), M5, if_neg (by omega)]; exact r6 y hx
              · show k + 1 ≤ 6; omega
              · exact w4
              · exact w5
              · intro y
                have := wC y
                show (if y = k then v0 else P 1 y) ≤ 99 ∧ 1 ≤ (if y = k then v1 else P 2 y) ∧ (if y = k then v1 else P 2 y) ≤ 99 ∧ 1 ≤ (if y = k then v2 else P 3 y) ∧ (if y = k then v2 else P 3 y) ≤ 99 ∧ 1 ≤ (if y = k then v3 else P 4 y) ∧ (if y = k then v3 else P 4 y) ≤ 20 ∧ P 5 y ≤ 99 ∧ P 6 y ≤ 99
                by_cases ek : y = k
                · simp only [if_pos ek]; omega
                · simp only [if_neg ek]; omega
              · exact wD
              · exact wK
              · intro y hx hx6
                have hx : k + 1 ≤ y := hx
                rw [FO (43 + y) (by omega) (by omega) (by omega) (by omega) (by omega)]; exact z y (by omega) hx6
              · rw [z7 19 (by decide) (by decide), Ao 19 (by decide) (by decide), q3]
              · rw [z7 19 (by decide) (by decide), Ao 19 (by decide) (by decide), q4]
              · rw [sI_o (by decide), t20_7, M20, q5]
              · intro i hi
                rw [sI_2, u7m 6 (by decide), M6]; exact q6 i hi
            · refine LNo_bad fx6 bad (fun h e => ?_) (fun h e => ?_)
              · rw [e, bnd_s, if_pos (show nI 0 = 0 from rfl), rZ0]
              · rw [e, bnd_s, if_pos (show nI 0 = 0 from rfl), rZ0]
          · refine LNo_bad fx5 bad (fun h e => ?_) (fun h e => ?_)
            · rw [e, bnd_s, if_pos (show nI 0 = 0 from rfl), rZ0]
            · rw [e, bnd_s, if_pos (show nI 0 = 0 from rfl), rZ0]
        · refine LNo_bad fx4 bad (fun h e => ?_) (fun h e => ?_)
          · rw [e, bnd_s, if_pos (show nI 0 = 0 from rfl), rZ0]
          · rw [e, bnd_s, if_pos (show nI 0 = 0 from rfl), rZ0]
      · refine LNo_bad fx3 bad (fun h e => ?_) (fun h e => ?_)
        · rw [e, bnd_s, if_pos (show nI 0 = 0 from rfl), rZ0]
        · rw [e, bnd_s, if_pos (show nI 0 = 0 from rfl), rZ0]
    · refine LNo_bad fx2 bad (fun h e => ?_) (fun h e => ?_)
      · rw [e, bnd_s, if_pos (show nI 0 = 0 from rfl), rZ0]
      · rw [e, bnd_s, if_pos (show nI 0 = 0 from rfl), rZ0]
theorem L_deed {F n p a : Nat} {t : Nat × Nat} {B : Nat → Nat} {l c : Bool} {P : Pl} {hc hm : HS} (hF : 2000 ≤ F) (q : LNs n p a t B l c P hc hm) (ht : t.1 = 1) : LNo n a B hc hm (f_OffR_readDeed F hc) (if inb (nI 1) 72 = true then bl (hm.1 3 (nI 1).toNatClampNeg) (fun (v50 : Int32) => (if v50 = (nI 6) then bnd (f_M_bad (nI 4) hm) (fun (r64 : Int32) (h63 : HS) => rZ r64 h63) else bnd (f_M_next F hm) (fun (_ : Unit) (h51 : HS) => bnd (f_M_fresh F ((nI 23) + v50) h51) (fun (r53 : Int32) (h52 : HS) => (if r53 = 0 then rZ (nI 0) h52 else bnd (f_M_puts F ((nI 49) + v50) (nI 0) (nI 20) h52) (fun (q0 : Int32) (g0 : HS) => (if q0 = 0 then rZ (nI 0) g0 else bnd (f_M_puts F ((nI 55) + v50) (nI 0) (nI 20) g0) (fun (q1 : Int32) (g1 : HS) => (if q1 = 0 then rZ (nI 0) g1 else bnd (f_M_puts F ((nI 61) + v50) (nI 0) (nI 20) g1) (fun (q2 : Int32) (g2 : HS) => (if q2 = 0 then rZ (nI 0) g2 else (if inb (nI 1) 72 = true then (if inb (nI 1) 72 = true then bl (sI g2 3 (nI 1).toNatClampNeg ((g2.1 3 (nI 1).toNatClampNeg) + (nI 1))) (fun (hz : HS) => rZ (nI 1) hz) else none) else none)))))))))))) else none) := by
  obtain ⟨q1, q2, q3, q4, q5, q6⟩ := q
  obtain ⟨⟨⟨e0, e1, e2, e3, e4, e5⟩, g1, g2, g3, g4, g5, g6, g7⟩, ⟨⟨s0, s1, s2, s3, s4, s5, s6⟩, r1, r2, r3, r4, r5, r6⟩, ⟨w0, w1, w2, wc, w3, w4, w5, wC, wD, wK⟩, z⟩ := id q2
  rw [f_OffR_readDeed, f_Plan_deeds_11, bnd_s, e4, ite_ltN (by omega) (by omega), ifin (by omega) (by omega), nI_clamp (by omega), s1, bl_e, ite_eqN (by omega) (by omega)]
  by_cases hk : P 0 4 = 6
  · rw [if_neg (by omega), if_pos hk]
    refine LNo_bad FX_rf (T_fail 4 (by decide) q1) (fun h e => ?_) (fun h e => ?_)
    · rw [e, bnd_s, rZ0]
    · rw [e, bnd_s, rZ0]
  · generalize hkk : P 0 4 = k at *
    rw [if_pos (show k < 6 by omega), if_neg hk]
    obtain ⟨p2, a2, t2, hc2, hm2, b1, b2, b3, b4, b5, -, -⟩ := T_adv hF q1 (Or.inl ht)
    rw [b1, b2, bnd_s, bnd_s, nI_add]
    have fx2 := TS_fx b5
    have D2 := DR_ts q2 b5
    have R2 : RSr hm2 := fun i hi => by rw [(b5.2.1 6 (by decide)).2]; exact q6 i hi
    have x2 : ∀ y, y ≠ 1 → hc2.1 y = hc.1 y ∧ hc2.2 y = hc.2 y := fun y hy => b5.1 y (by simpa using hy)
    have y2 : ∀ y, y ≠ 0 → hm2.1 y = hm.1 y ∧ hm2.2 y = hm.2 y := fun y hy => b5.2.1 y (by simpa using hy)
    rcases T_new hF b3 D2 R2 (23 + k) (by omega) with ⟨u1, u2, u3, u4, u5, u6⟩ | bad
    · rw [u5, u6, bnd_s, if_neg (show ¬ nI 1 = 0 by decide), f_Tape_letters, bnd_s, u3]
      generalize t2.2 = x at u2 u3 u4 u6
      have eA : f_Plan_addDeed_11 (lN x) hc2 = some ((), sI (sL hc2 13 k (lN x)) 11 4 (nI (k + 1))) := by
        rw [f_Plan_addDeed_11, (x2 11 (by decide)).1, e4, ite_leN (by omega) (by omega), if_neg (by omega), ifin (by omega) (by omega), nI_clamp (by omega), bl_e, sL_1, (x2 11 (by decide)).1, e4, bl_e, nI_add]
      rw [eA, bnd_s]
      have qA : RD n 900 p2 a2 t2 B (sI (sL hc2 13 k (lN x)) 11 4 (nI (k + 1))) (sL hm2 5 (23 + k) (lN (cv x))) := RD_fr b3 (by rw [sI_o (by decide)]; rfl) (by rw [sI_o (by decide)]; rfl) (by rw [sI_2, sL_o (by decide)]) (fun _ _ => rfl) rfl (sL_o (by decide))
      have fxA : FX hc2 hm2 (sI (sL hc2 13 k (lN x)) 11 4 (nI (k + 1))) (sL hm2 5 (23 + k) (lN (cv x))) := ⟨Fr_t (Fr_sL (by decide)) (Fr_sI (by decide)), Fr_sL (by decide), fun _ _ => rfl, fun i hi => sL_n (by omega)⟩
      have A11 : ∀ i, (sI (sL hc2 13 k (lN x)) 11 4 (nI (k + 1))).1 11 i = if i = 4 then nI (k + 1) else hc.1 11 i := fun i => by
        rw [sI_u]
        show (if i = 4 then _ else hc2.1 11 i) = _
        rw [(x2 11 (by decide)).1]
      have Ao : ∀ y, y ≠ 1 → y ≠ 11 → (sI (sL hc2 13 k (lN x)) 11 4 (nI (k + 1))).1 y = hc.1 y := fun y y1 y2 => by rw [sI_o y2, sL_1, (x2 y y1).1]
      have AN : ∀ i, (sI (sL hc2 13 k (lN x)) 11 4 (nI (k + 1))).2 13 i = if i = k then lN x else hc.2 13 i := fun i => by
        rw [sI_2, ← (x2 13 (by decide)).2]
        show (if 13 = 13 ∧ i = k then lN x else hc2.2 13 i) = _
        by_cases y : i = k
        · rw [if_pos ⟨rfl, y⟩, if_pos y]
        · rw [if_neg (fun w => y w.2), if_neg y]
      have Ap : ∀ y, y ≠ 1 → y ≠ 13 → (sI (sL hc2 13 k (lN x)) 11 4 (nI (k + 1))).2 y = hc.2 y := fun y y1 y2 => by rw [sI_2, sL_o y2, (x2 y y1).2]
      have M3 : (sL hm2 5 (23 + k) (lN (cv x))).1 3 = hm.1 3 := by rw [sL_1, (y2 3 (by decide)).1]
      have M5 : ∀ i, (sL hm2 5 (23 + k) (lN (cv x))).2 5 i = if i = 23 + k then lN (cv x) else hm.2 5 i := fun i => by
        rw [← (y2 5 (by decide)).2]
        show (if 5 = 5 ∧ i = 23 + k then lN (cv x) else hm2.2 5 i) = _
        by_cases y : i = 23 + k
        · rw [if_pos ⟨rfl, y⟩, if_pos y]
        · rw [if_neg (fun w => y w.2), if_neg y]
      have M6 : (sL hm2 5 (23 + k) (lN (cv x))).2 6 = hm.2 6 := by rw [sL_o (by decide), (y2 6 (by decide)).2]
      have M20 : (sL hm2 5 (23 + k) (lN (cv x))).1 0 20 = hm.1 0 20 := by rw [sL_1, b5.2.2 20 (by decide)]
      have fxB := FX_t fx2 fxA
      generalize sI (sL hc2 13 k (lN x)) 11 4 (nI (k + 1)) = hcA at qA fxA fxB A11 Ao AN Ap
      generalize sL hm2 5 (23 + k) (lN (cv x)) = hmA at qA fxA fxB M3 M5 M6 M20 u6
      obtain ⟨p3, a3, t3, hc3, hm3, c1, c2, c3, c4, c5, -, -⟩ := T_adv hF qA (Or.inl u1)
      rw [c1, c2, bnd_s, bnd_s, bnd_s, if_neg (show ¬ nI 1 = 0 by decide)]
      have fx3 := FX_t fxB (TS_fx c5)
      have x3 : ∀ y, y ≠ 1 → hc3.1 y = hcA.1 y ∧ hc3.2 y = hcA.2 y := fun y hy => c5.1 y (by simpa using hy)
      have y3 : ∀ y, y ≠ 0 → hm3.1 y = hmA.1 y ∧ hm3.2 y = hmA.2 y := fun y hy => c5.2.1 y (by simpa using hy)
      have z3 : ∀ y, y ≠ 1 → y ≠ 17 → hc3.1 y = hcA.1 y := fun y y1 _ => (x3 y y1).1
      have t20_3 : hm3.1 0 20 = hmA.1 0 20 := c5.2.2 20 (by decide)
      obtain ⟨G, hG⟩ : ∃ G, F = G + 1 + 1 + 1 + 1 := ⟨F - 4, by omega⟩
      have hG0 : ∀ h, l_OffR_readDeed_0 F F (nI 0) h = l_OffR_readDeed_0 F (G + 1 + 1 + 1 + 1) (nI 0) h := fun h => by rw [← hG]
      rw [bl_e, hG0]
      rw [C_rdDeed0, nI_add 49 k]
      rcases T_put hF (49 + k) 0 20 (by omega) (by decide) (by decide) c3 with ⟨v0, p4, a4, t4, hc4, hm4, d41, d42, d43, d44, d45, d46, d47, d48⟩ | bad
      · rw [d43, d44, bnd_s, bnd_s, if_neg (show ¬ nI 1 = 0 by decide), if_neg (show ¬ nI 1 = 0 by decide), f_Tape_taken, bnd_s, d48]
        have x4 : ∀ y, y ≠ 1 → hc4.1 y = hc3.1 y ∧ hc4.2 y = hc3.2 y := fun y hy => d47.1 y (by simpa using hy)
        have y4 : ∀ y, y ≠ 0 → hm4.1 y = hm3.1 y ∧ hm4.2 y = hm3.2 y := fun y hy => d47.2.1 y (by simpa using hy)
        have n4 : hc4.1 11 4 = nI (k + 1) := by rw [(x4 11 (by decide)).1, z3 11 (by decide) (by decide), A11, if_pos rfl]
        rw [f_Plan_tellLastDeed_11, n4, ite_le0 (by omega), if_neg (by omega), nI_sb (by omega), nI_mul, nI_add, Nat.add_sub_cancel, ifin (by omega) (by omega), nI_clamp (by omega), bl_e, bnd_s, show nI 0 + nI 1 = nI 1 from nI_add 0 1]
        have q4n : RD n 900 p4 a4 t4 B (sI hc4 17 (k * 3 + 0) (nI v0)) (sI hm4 3 (49 + k) (nI v0)) := RD_s3 (by decide) d45
        have fx4 := FX_t (FX_t fx3 (TS_fx d47)) (show FX hc4 hm4 (sI hc4 17 (k * 3 + 0) (nI v0)) (sI hm4 3 (49 + k) (nI v0)) from ⟨Fr_sI (by decide), Fr_sI (by decide), fun k _ => by rw [sI_o (by decide)], fun _ _ => rfl⟩)
        have N4 : ∀ i, (sI hc4 17 (k * 3 + 0) (nI v0)).1 17 i = if i = (k * 3 + 0) then nI v0 else hc3.1 17 i := fun i => by rw [sI_u]; show (if i = (k * 3 + 0) then _ else hc4.1 17 i) = _; rw [(x4 17 (by decide)).1]
        have K4 : ∀ i, (sI hm4 3 (49 + k) (nI v0)).1 3 i = if i = 49 + k then nI v0 else hm3.1 3 i := fun i => by rw [sI_u]; show (if i = 49 + k then _ else hm4.1 3 i) = _; rw [(y4 3 (by decide)).1]
        have z4 : ∀ y, y ≠ 1 → y ≠ 17 → (sI hc4 17 (k * 3 + 0) (nI v0)).1 y = hcA.1 y := fun y y1 y2 => by rw [sI_o y2, (x4 y y1).1, z3 y y1 y2]
        have u4c : ∀ y, y ≠ 1 → (sI hc4 17 (k * 3 + 0) (nI v0)).2 y = hcA.2 y := fun y y1 => by rw [sI_2, (x4 y y1).2, (x3 y y1).2]
        have u4m : ∀ y, y ≠ 0 → (sI hm4 3 (49 + k) (nI v0)).2 y = hmA.2 y := fun y y1 => by rw [sI_2, (y4 y y1).2, (y3 y y1).2]
        have t20_4 : (sI hm4 3 (49 + k) (nI v0)).1 0 20 = hmA.1 0 20 := by rw [sI_o (by decide), d47.2.2 20 (by decide), t20_3]
        generalize (sI hc4 17 (k * 3 + 0) (nI v0)) = hcS4 at q4n fx4 N4 z4 u4c ⊢
        generalize (sI hm4 3 (49 + k) (nI v0)) = hmS4 at q4n fx4 K4 u4m t20_4 ⊢
        rw [C_rdDeed1, nI_add 55 k]
        rcases T_put hF (55 + k) 0 20 (by omega) (by decide) (by decide) q4n with ⟨v1, p5, a5, t5, hc5, hm5, d51, d52, d53, d54, d55, d56, d57, d58⟩ | bad
        · rw [d53, d54, bnd_s, bnd_s, if_neg (show ¬ nI 1 = 0 by decide), if_neg (show ¬ nI 1 = 0 by decide), f_Tape_taken, bnd_s, d58]
          have x5 : ∀ y, y ≠ 1 → hc5.1 y = hcS4.1 y ∧ hc5.2 y = hcS4.2 y := fun y hy => d57.1 y (by simpa using hy)
          have y5 : ∀ y, y ≠ 0 → hm5.1 y = hmS4.1 y ∧ hm5.2 y = hmS4.2 y := fun y hy => d57.2.1 y (by simpa using hy)
          have n5 : hc5.1 11 4 = nI (k + 1) := by rw [(x5 11 (by decide)).1, z4 11 (by decide) (by decide), A11, if_pos rfl]
          rw [f_Plan_tellLastDeed_11, n5, ite_le0 (by omega), if_neg (by omega), nI_sb (by omega), nI_mul, nI_add, Nat.add_sub_cancel, ifin (by omega) (by omega), nI_clamp (by omega), bl_e, bnd_s, show nI 1 + nI 1 = nI 2 from nI_add 1 1]
          have q5n : RD n 900 p5 a5 t5 B (sI hc5 17 (k * 3 + 1) (nI v1)) (sI hm5 3 (55 + k) (nI v1)) := RD_s3 (by decide) d55
          have fx5 := FX_t (FX_t fx4 (TS_fx d57)) (show FX hc5 hm5 (sI hc5 17 (k * 3 + 1) (nI v1)) (sI hm5 3 (55 + k) (nI v1)) from ⟨Fr_sI (by decide), Fr_sI (by decide), fun k _ => by rw [sI_o (by decide)], fun _ _ => rfl⟩)
          have N5 : ∀ i, (sI hc5 17 (k * 3 + 1) (nI v1)).1 17 i = if i = (k * 3 + 1) then nI v1 else hcS4.1 17 i := fun i => by rw [sI_u]; show (if i = (k * 3 + 1) then _ else hc5.1 17 i) = _; rw [(x5 17 (by decide)).1]
          have K5 : ∀ i, (sI hm5 3 (55 + k) (nI v1)).1 3 i = if i = 55 + k then nI v1 else hmS4.1 3 i := fun i => by rw [sI_u]; show (if i = 55 + k then _ else hm5.1 3 i) = _; rw [(y5 3 (by decide)).1]
          have z5 : ∀ y, y ≠ 1 → y ≠ 17 → (sI hc5 17 (k * 3 + 1) (nI v1)).1 y = hcA.1 y := fun y y1 y2 => by rw [sI_o y2, (x5 y y1).1, z4 y y1 y2]
          have u5c : ∀ y, y ≠ 1 → (sI hc5 17 (k * 3 + 1) (nI v1)).2 y = hcA.2 y := fun y y1 => by rw [sI_2, (x5 y y1).2, u4c y y1]
          have u5m : ∀ y, y ≠ 0 → (sI hm5 3 (55 + k) (nI v1)).2 y = hmA.2 y := fun y y1 => by rw [sI_2, (y5 y y1).2, u4m y y1]
          have t20_5 : (sI hm5 3 (55 + k) (nI v1)).1 0 20 = hmA.1 0 20 := by rw [sI_o (by decide), d57.2.2 20 (by decide), t20_4]
          generalize (sI hc5 17 (k * 3 + 1) (nI v1)) = hcS5 at q5n fx5 N5 z5 u5c ⊢
          generalize (sI hm5 3 (55 + k) (nI v1)) = hmS5 at q5n fx5 K5 u5m t20_5 ⊢
          rw [C_rdDeed2, nI_add 61 k]
          rcases T_put hF (61 + k) 0 20 (by omega) (by decide) (by decide) q5n with ⟨v2, p6, a6, t6, hc6, hm6, d61, d62, d63, d64, d65, d66, d67, d68⟩ | bad
          · rw [d63, d64, bnd_s, bnd_s, if_neg (show ¬ nI 1 = 0 by decide), if_neg (show ¬ nI 1 = 0 by decide), f_Tape_taken, bnd_s, d68]
            have x6 : ∀ y, y ≠ 1 → hc6.1 y = hcS5.1 y ∧ hc6.2 y = hcS5.2 y := fun y hy => d67.1 y (by simpa using hy)
            have y6 : ∀ y, y ≠ 0 → hm6.1 y = hmS5.1 y ∧ hm6.2 y = hmS5.2 y := fun y hy => d67.2.1 y (by simpa using hy)
            have n6 : hc6.1 11 4 = nI (k + 1) := by rw [(x6 11 (by decide)).1, z5 11 (by decide) (by decide), A11, if_pos rfl]
            rw [f_Plan_tellLastDeed_11, n6, ite_le0 (by omega), if_neg (by omega), nI_sb (by omega), nI_mul, nI_add, Nat.add_sub_cancel, ifin (by omega) (by omega), nI_clamp (by omega), bl_e, bnd_s, show nI 2 + nI 1 = nI 3 from nI_add 2 1]
            have q6n : RD n 900 p6 a6 t6 B (sI hc6 17 (k * 3 + 2) (nI v2)) (sI hm6 3 (61 + k) (nI v2)) := RD_s3 (by decide) d65
            have fx6 := FX_t (FX_t fx5 (TS_fx d67)) (show FX hc6 hm6 (sI hc6 17 (k * 3 + 2) (nI v2)) (sI hm6 3 (61 + k) (nI v2)) from ⟨Fr_sI (by decide), Fr_sI (by decide), fun k _ => by rw [sI_o (by decide)], fun _ _ => rfl⟩)
            have N6 : ∀ i, (sI hc6 17 (k * 3 + 2) (nI v2)).1 17 i = if i = (k * 3 + 2) then nI v2 else hcS5.1 17 i := fun i => by rw [sI_u]; show (if i = (k * 3 + 2) then _ else hc6.1 17 i) = _; rw [(x6 17 (by decide)).1]
            have K6 : ∀ i, (sI hm6 3 (61 + k) (nI v2)).1 3 i = if i = 61 + k then nI v2 else hmS5.1 3 i := fun i => by rw [sI_u]; show (if i = 61 + k then _ else hm6.1 3 i) = _; rw [(y6 3 (by decide)).1]
            have z6 : ∀ y, y ≠ 1 → y ≠ 17 → (sI hc6 17 (k * 3 + 2) (nI v2)).1 y = hcA.1 y := fun y y1 y2 => by rw [sI_o y2, (x6 y y1).1, z5 y y1 y2]
            have u6c : ∀ y, y ≠ 1 → (sI hc6 17 (k * 3 + 2) (nI v2)).2 y = hcA.2 y := fun y y1 => by rw [sI_2, (x6 y y1).2, u5c y y1]
            have u6m : ∀ y, y ≠ 0 → (sI hm6 3 (61 + k) (nI v2)).2 y = hmA.2 y := fun y y1 => by rw [sI_2, (y6 y y1).2, u5m y y1]
            have t20_6 : (sI hm6 3 (61 + k) (nI v2)).1 0 20 = hmA.1 0 20 := by rw [sI_o (by decide), d67.2.2 20 (by decide), t20_5]
            generalize (sI hc6 17 (k * 3 + 2) (nI v2)) = hcS6 at q6n fx6 N6 z6 u6c ⊢
            generalize (sI hm6 3 (61 + k) (nI v2)) = hmS6 at q6n fx6 K6 u6m t20_6 ⊢
            rw [C_rdDeed3]
            have MX : ∀ i, hmS6.1 3 i = if i = 61 + k then nI v2 else if i = 55 + k then nI v1 else if i = 49 + k then nI v0 else hm.1 3 i := fun i => by rw [K6, K5, K4, (y3 3 (by decide)).1, M3]
            have CX : ∀ i, hcS6.1 17 i = if i = k * 3 + 2 then nI v2 else if i = k * 3 + 1 then nI v1 else if i = k * 3 + 0 then nI v0 else hc.1 17 i := fun i => by rw [N6, N5, N4, (x3 17 (by decide)).1, Ao 17 (by decide) (by decide)]
            have ec : hmS6.1 3 1 = nI k := by rw [MX, if_neg (by omega), if_neg (by omega), if_neg (by omega), s1]
            rw [ifin (by omega) (by omega), ifin (by omega) (by omega), ec, nI_add, bl_e, rZ1]
            have FZ : ∀ i, (sI hmS6 3 1 (nI (k + 1))).1 3 i = if i = 1 then nI (k + 1) else hmS6.1 3 i := fun i => by rw [sI_u]; rfl
            have FO : ∀ i, i ≠ 1 → i ≠ 49 + k → i ≠ 55 + k → i ≠ 61 + k → (sI hmS6 3 1 (nI (k + 1))).1 3 i = hm.1 3 i := fun i i0 j0 j1 j2 => by rw [FZ, if_neg i0, MX, if_neg j2, if_neg j1, if_neg j0]
            have F0 : (sI hmS6 3 1 (nI (k + 1))).1 3 (49 + k) = nI v0 := by rw [FZ, if_neg (by omega), MX, if_neg (by omega), if_neg (by omega), if_pos rfl]
            have F1 : (sI hmS6 3 1 (nI (k + 1))).1 3 (55 + k) = nI v1 := by rw [FZ, if_neg (by omega), MX, if_neg (by omega), if_pos rfl]
            have F2 : (sI hmS6 3 1 (nI (k + 1))).1 3 (61 + k) = nI v2 := by rw [FZ, if_neg (by omega), MX, if_pos rfl]
            refine Or.inl ⟨p6, a6, t6, l, c, pdP P k x v0 v1 v2, _, _, rfl, rfl, ⟨RD_fr q6n rfl rfl rfl (fun _ _ => by rw [sI_o (by decide)]) (sI_o (by decide)) rfl, ⟨⟨⟨?_, ?_, ?_, ?_, ?_, ?_⟩, ?_, ?_, ?_, ?_, ?_, ?_, ?_⟩, ⟨⟨?_, ?_, ?_, ?_, ?_, ?_, ?_⟩, ?_, ?_, ?_, ?_, ?_, ?_⟩, ⟨w0, w1, w2, wc, ?_, ?_, ?_, ?_, ?_, ?_⟩, ?_⟩, ?_, ?_, ?_, ?_⟩, by omega, FX_t fx6 ⟨Fr_rf, Fr_sI (by decide), fun k _ => by rw [sI_o (by decide)], fun _ _ => rfl⟩⟩
            · rw [z6 11 (by decide) (by decide), A11, if_neg (by decide)]; exact e0
            · rw [z6 11 (by decide) (by decide), A11, if_neg (by decide)]; exact e1
            · rw [z6 11 (by decide) (by decide), A11, if_neg (by decide)]; exact e2
            · rw [z6 11 (by decide) (by decide), A11, if_neg (by decide)]; exact e3
            · rw [z6 11 (by decide) (by decide), A11, if_pos rfl]; rfl
            · rw [z6 11 (by decide) (by decide), A11, if_neg (by decide)]; exact e5
            · intro y w hx hw
              rw [z6 15 (by decide) (by decide), Ao 15 (by decide) (by decide)]
              rw [g1 y w hx hw]
              rcases (show w = 0 ∨ w = 1 ∨ w = 2 ∨ w = 3 by omega) with e | e | e | e <;> subst e <;> rfl
            · intro y w hx hw hz
              rw [z6 16 (by decide) (by decide), Ao 16 (by decide) (by decide)]
              rcases (show w = 0 ∨ w = 1 by omega) with e | e <;> subst e
              · rw [g2 y 0 hx hw hz]; rfl
              · rw [g2 y 1 hx hw hz]; rfl
            · intro y w hx hw
              have hx : y < k + 1 := hx
              rw [CX]
              by_cases ek : y = k
              · subst ek
                rcases (show w = 0 ∨ w = 1 ∨ w = 2 by omega) with e | e | e <;> subst e
                · rw [if_neg (by omega), if_neg (by omega), if_pos rfl]; exact congrArg nI (if_pos rfl).symm
                · rw [if_neg (by omega), if_pos rfl]; exact congrArg nI (if_pos rfl).symm
                · rw [if_pos rfl]; exact congrArg nI (if_pos rfl).symm
              · rw [if_neg (by omega), if_neg (by omega), if_neg (by omega), g3 y w (by omega) hw]
                rcases (show w = 0 ∨ w = 1 ∨ w = 2 by omega) with e | e | e <;> subst e <;> exact congrArg nI (if_neg ek).symm
            · intro y hx
              rw [z6 18 (by decide) (by decide), Ao 18 (by decide) (by decide)]
              exact g4 y hx
            · intro y hx
              rw [u6c 12 (by decide), Ap 12 (by decide) (by decide)]
              exact g5 y hx
            · intro y hx
              have hx : y < k + 1 := hx
              rw [u6c 13 (by decide), AN]
              show _ = lN (if y = k then x else P 12 y) ∧ (if y = k then x else P 12 y) < 2 ^ 35
              by_cases ek : y = k
              · rw [if_pos ek, if_pos ek]; exact ⟨rfl, by omega⟩
              · rw [if_neg ek, if_neg ek]; exact g6 y (by omega)
            · intro y hx
              rw [u6c 14 (by decide), Ap 14 (by decide) (by decide)]
              exact g7 y hx
            · rw [FO 0 (by omega) (by omega) (by omega) (by omega)]; exact s0
            · rw [FZ, if_pos rfl]; rfl
            · rw [FO 2 (by omega) (by omega) (by omega) (by omega)]; exact s2
            · rw [FO 3 (by omega) (by omega) (by omega) (by omega), s3]
              exact congrArg nI (rumN_cg (P := P) (Q := (pdP P k x v0 v1 v2)) (fun _ => rfl) _).symm
            · rw [FO 4 (by omega) (by omega) (by omega) (by omega)]; exact s4
            · rw [FO 5 (by omega) (by omega) (by omega) (by omega)]; exact s5
            · rw [FO 6 (by omega) (by omega) (by omega) (by omega)]; exact s6
            · intro y hx
              have hx : y < P 0 3 := hx
              obtain ⟨y1, y2, y3, y4, y5, y6⟩ := r1 y hx
              rw [FO (7 + y) (by omega) (by omega) (by omega) (by omega), FO (13 + y) (by omega) (by omega) (by omega) (by omega), FO (19 + y) (by omega) (by omega) (by omega) (by omega), FO (25 + y) (by omega) (by omega) (by omega) (by omega), FO (43 + y) (by omega) (by omega) (by omega) (by omega), FO (31 + y) (by omega) (by omega) (by omega) (by omega), FO (37 + y) (by omega) (by omega) (by omega) (by omega)]
              exact ⟨y1, y2, y3, y4, y5, y6⟩
            · intro y hx
              have hx : y < k + 1 := hx
              by_cases ek : y = k
              · subst ek
                exact ⟨by rw [F0]; exact congrArg nI (if_pos rfl).symm, by rw [F1]; exact congrArg nI (if_pos rfl).symm, by rw [F2]; exact congrArg nI (if_pos rfl).symm⟩
              · obtain ⟨y1, y2, y3⟩ := r2 y (by omega)
                exact ⟨by rw [FO (49 + y) (by omega) (by omega) (by omega) (by omega), y1]; exact congrArg nI (if_neg ek).symm, by rw [FO (55 + y) (by omega) (by omega) (by omega) (by omega), y2]; exact congrArg nI (if_neg ek).symm, by rw [FO (61 + y) (by omega) (by omega) (by omega) (by omega), y3]; exact congrArg nI (if_neg ek).symm⟩
            · intro y hx
              have hx : y < P 0 5 := hx
              rw [FO (67 + y) (by omega) (by omega) (by omega) (by omega)]; exact r3 y hx
            · intro y hx
              have hx : y < P 0 3 := hx
              rw [sI_2, u6m 5 (by decide), M5, if_neg (by omega)]; exact r4 y hx
            · intro y hx
              have hx : y < k + 1 := hx
              rw [sI_2, u6m 5 (by decide), M5]
              show _ = lN (cv (if y = k then x else P 12 y))
              by_cases ek : y = k
              · rw [if_pos (by omega), if_pos ek]
              · rw [if_neg (by omega), if_neg ek]; exact r5 y (by omega)
            · intro y hx
              have hx : y < P 0 5 := hx
              rw [sI_2, u6m 5 (by decide), M5, if_neg (by omega)]; exact r6 y hx
            · exact w3
            · show k + 1 ≤ 6; omega
            · exact w5
            · exact wC
            · intro y
              have := wD y
              show (if y = k then v0 else P 7 y) ≤ 20 ∧ (if y = k then v1 else P 8 y) ≤ 20 ∧ (if y = k then v2 else P 9 y) ≤ 20
              by_cases ek : y = k
              · simp only [if_pos ek]; omega
              · simp only [if_neg ek]; omega
            · exact wK
            · intro y hx hx6
              have hx : P 0 3 ≤ y := hx
              rw [FO (43 + y) (by omega) (by omega) (by omega) (by omega)]; exact z y hx hx6
            · rw [z6 19 (by decide) (by decide), Ao 19 (by decide) (by decide), q3]
            · rw [z6 19 (by decide) (by decide), Ao 19 (by decide) (by decide), q4]
            · rw [sI_o (by decide), t20_6, M20, q5]
            · intro i hi
              rw [sI_2, u6m 6 (by decide), M6]; exact q6 i hi
          · refine LNo_bad fx5 bad (fun h e => ?_) (fun h e => ?_)
            · rw [e, bnd_s, if_pos (show nI 0 = 0 from rfl), rZ0]
            · rw [e, bnd_s, if_pos (show nI 0 = 0 from rfl), rZ0]
        · refine LNo_bad fx4 bad (fun h e => ?_) (fun h e => ?_)
          · rw [e, bnd_s, if_pos (show nI 0 = 0 from rfl), rZ0]
          · rw [e, bnd_s, if_pos (show nI 0 = 0 from rfl), rZ0]
      · refine LNo_bad fx3 bad (fun h e => ?_) (fun h e => ?_)
        · rw [e, bnd_s, if_pos (show nI 0 = 0 from rfl), rZ0]
        · rw [e, bnd_s, if_pos (show nI 0 = 0 from rfl), rZ0]
    · refine LNo_bad fx2 bad (fun h e => ?_) (fun h e => ?_)
      · rw [e, bnd_s, if_pos (show nI 0 = 0 from rfl), rZ0]
      · rw [e, bnd_s, if_pos (show nI 0 = 0 from rfl), rZ0]
theorem L_clerk {F n p a : Nat} {t : Nat × Nat} {B : Nat → Nat} {l c : Bool} {P : Pl} {hc hm : HS} (hF : 2000 ≤ F) (q : LNs n p a t B l c P hc hm) (ht : t.1 = 1) : LNo n a B hc hm (f_OffR_readClerk F hc) (if inb (nI 2) 72 = true then bl (hm.1 3 (nI 2).toNatClampNeg) (fun (v50 : Int32) => (if v50 = (nI 5) then bnd (f_M_bad (nI 4) hm) (fun (r64 : Int32) (h63 : HS) => rZ r64 h63) else bnd (f_M_next F hm) (fun (_ : Unit) (h51 : HS) => bnd (f_M_fresh F ((nI 29) + v50) h51) (fun (r53 : Int32) (h52 : HS) => (if r53 = 0 then rZ (nI 0) h52 else bnd (f_M_puts F ((nI 67) + v50) (nI 1) (nI 9) h52) (fun (q0 : Int32) (g0 : HS) => (if q0 = 0 then rZ (nI 0) g0 else (if inb (nI 2) 72 = true then (if inb (nI 2) 72 = true then bl (sI g0 3 (nI 2).toNatClampNeg ((g0.1 3 (nI 2).toNatClampNeg) + (nI 1))) (fun (hz : HS) => rZ (nI 1) hz) else none) else none)))))))) else none) := by
  obtain ⟨q1, q2, q3, q4, q5, q6⟩ := q
  obtain ⟨⟨⟨e0, e1, e2, e3, e4, e5⟩, g1, g2, g3, g4, g5, g6, g7⟩, ⟨⟨s0, s1, s2, s3, s4, s5, s6⟩, r1, r2, r3, r4, r5, r6⟩, ⟨w0, w1, w2, wc, w3, w4, w5, wC, wD, wK⟩, z⟩ := id q2
  rw [f_OffR_readClerk, f_Plan_clerks_11, bnd_s, e5, ite_ltN (by omega) (by omega), ifin (by omega) (by omega), nI_clamp (by omega), s2, bl_e, ite_eqN (by omega) (by omega)]
  by_cases hk : P 0 5 = 5
  · rw [if_neg (by omega), if_pos hk]
    refine LNo_bad FX_rf (T_fail 4 (by decide) q1) (fun h e => ?_) (fun h e => ?_)
    · rw [e, bnd_s, rZ0]
    · rw [e, bnd_s, rZ0]
  · generalize hkk : P 0 5 = k at *
    rw [if_pos (show k < 5 by omega), if_neg hk]
    obtain ⟨p2, a2, t2, hc2, hm2, b1, b2, b3, b4, b5, -, -⟩ := T_adv hF q1 (Or.inl ht)
    rw [b1, b2, bnd_s, bnd_s, nI_add]
    have fx2 := TS_fx b5
    have D2 := DR_ts q2 b5
    have R2 : RSr hm2 := fun i hi => by rw [(b5.2.1 6 (by decide)).2]; exact q6 i hi
    have x2 : ∀ y, y ≠ 1 → hc2.1 y = hc.1 y ∧ hc2.2 y = hc.2 y := fun y hy => b5.1 y (by simpa using hy)
    have y2 : ∀ y, y ≠ 0 → hm2.1 y = hm.1 y ∧ hm2.2 y = hm.2 y := fun y hy => b5.2.1 y (by simpa using hy)
    rcases T_new hF b3 D2 R2 (29 + k) (by omega) with ⟨u1, u2, u3, u4, u5, u6⟩ | bad
    · rw [u5, u6, bnd_s, if_neg (show ¬ nI 1 = 0 by decide), f_Tape_letters, bnd_s, u3]
      generalize t2.2 = x at u2 u3 u4 u6
      have eA : f_Plan_addClerk_11 (lN x) hc2 = some ((), sI (sL hc2 14 k (lN x)) 11 5 (nI (k + 1))) := by
        rw [f_Plan_addClerk_11, (x2 11 (by decide)).1, e5, ite_leN (by omega) (by omega), if_neg (by omega), ifin (by omega) (by omega), nI_clamp (by omega), bl_e, sL_1, (x2 11 (by decide)).1, e5, bl_e, nI_add]
      rw [eA, bnd_s]
      have qA : RD n 900 p2 a2 t2 B (sI (sL hc2 14 k (lN x)) 11 5 (nI (k + 1))) (sL hm2 5 (29 + k) (lN (cv x))) := RD_fr b3 (by rw [sI_o (by decide)]; rfl) (by rw [sI_o (by decide)]; rfl) (by rw [sI_2, sL_o (by decide)]) (fun _ _ => rfl) rfl (sL_o (by decide))
      have fxA : FX hc2 hm2 (sI (sL hc2 14 k (lN x)) 11 5 (nI (k + 1))) (sL hm2 5 (29 + k) (lN (cv x))) := ⟨Fr_t (Fr_sL (by decide)) (Fr_sI (by decide)), Fr_sL (by decide), fun _ _ => rfl, fun i hi => sL_n (by omega)⟩
      have A11 : ∀ i, (sI (sL hc2 14 k (lN x)) 11 5 (nI (k + 1))).1 11 i = if i = 5 then nI (k + 1) else hc.1 11 i := fun i => by
        rw [sI_u]
        show (if i = 5 then _ else hc2.1 11 i) = _
        rw [(x2 11 (by decide)).1]
      have Ao : ∀ y, y ≠ 1 → y ≠ 11 → (sI (sL hc2 14 k (lN x)) 11 5 (nI (k + 1))).1 y = hc.1 y := fun y y1 y2 => by rw [sI_o y2, sL_1, (x2 y y1).1]
      have AN : ∀ i, (sI (sL hc2 14 k (lN x)) 11 5 (nI (k + 1))).2 14 i = if i = k then lN x else hc.2 14 i := fun i => by
        rw [sI_2, ← (x2 14 (by decide)).2]
        show (if 14 = 14 ∧ i = k then lN x else hc2.2 14 i) = _
        by_cases y : i = k
        · rw [if_pos ⟨rfl, y⟩, if_pos y]
        · rw [if_neg (fun w => y w.2), if_neg y]
      have Ap : ∀ y, y ≠ 1 → y ≠ 14 → (sI (sL hc2 14 k (lN x)) 11 5 (nI (k + 1))).2 y = hc.2 y := fun y y1 y2 => by rw [sI_2, sL_o y2, (x2 y y1).2]
      have M3 : (sL hm2 5 (29 + k) (lN (cv x))).1 3 = hm.1 3 := by rw [sL_1, (y2 3 (by decide)).1]
      have M5 : ∀ i, (sL hm2 5 (29 + k) (lN (cv x))).2 5 i = if i = 29 + k then lN (cv x) else hm.2 5 i := fun i => by
        rw [← (y2 5 (by decide)).2]
        show (if 5 = 5 ∧ i = 29 + k then lN (cv x) else hm2.2 5 i) = _
        by_cases y : i = 29 + k
        · rw [if_pos ⟨rfl, y⟩, if_pos y]
        · rw [if_neg (fun w => y w.2), if_neg y]
      have M6 : (sL hm2 5 (29 + k) (lN (cv x))).2 6 = hm.2 6 := by rw [sL_o (by decide), (y2 6 (by decide)).2]
      have M20 : (sL hm2 5 (29 + k) (lN (cv x))).1 0 20 = hm.1 0 20 := by rw [sL_1, b5.2.2 20 (by decide)]
      have fxB := FX_t fx2 fxA
      generalize sI (sL hc2 14 k (lN x)) 11 5 (nI (k + 1)) = hcA at qA fxA fxB A11 Ao AN Ap
      generalize sL hm2 5 (29 + k) (lN (cv x)) = hmA at qA fxA fxB M3 M5 M6 M20 u6
      obtain ⟨p3, a3, t3, hc3, hm3, c1, c2, c3, c4, c5, -, -⟩ := T_adv hF qA (Or.inl u1)
      rw [c1, c2, bnd_s, bnd_s, bnd_s, if_neg (show ¬ nI 1 = 0 by decide)]
      have fx3 := FX_t fxB (TS_fx c5)
      have x3 : ∀ y, y ≠ 1 → hc3.1 y = hcA.1 y ∧ hc3.2 y = hcA.2 y := fun y hy => c5.1 y (by simpa using hy)
      have y3 : ∀ y, y ≠ 0 → hm3.1 y = hmA.1 y ∧ hm3.2 y = hmA.2 y := fun y hy => c5.2.1 y (by simpa using hy)
      have z3 : ∀ y, y ≠ 1 → y ≠ 18 → hc3.1 y = hcA.1 y := fun y y1 _ => (x3 y y1).1
      have t20_3 : hm3.1 0 20 = hmA.1 0 20 := c5.2.2 20 (by decide)
      rw [nI_add 67 k]
      rcases T_put hF (67 + k) 1 9 (by omega) (by decide) (by decide) c3 with ⟨v0, p4, a4, t4, hc4, hm4, d41, d42, d43, d44, d45, d46, d47, d48⟩ | bad
      · rw [d43, d44, bnd_s, bnd_s, if_neg (show ¬ nI 1 = 0 by decide), if_neg (show ¬ nI 1 = 0 by decide), f_Tape_taken, bnd_s, d48]
        have x4 : ∀ y, y ≠ 1 → hc4.1 y = hc3.1 y ∧ hc4.2 y = hc3.2 y := fun y hy => d47.1 y (by simpa using hy)
        have y4 : ∀ y, y ≠ 0 → hm4.1 y = hm3.1 y ∧ hm4.2 y = hm3.2 y := fun y hy => d47.2.1 y (by simpa using hy)
        have n4 : hc4.1 11 5 = nI (k + 1) := by rw [(x4 11 (by decide)).1, z3 11 (by decide) (by decide), A11, if_pos rfl]
        rw [f_Plan_tellLastClerk_11, n4, ite_le0 (by omega), if_neg (by omega), nI_sb (by omega), Nat.add_sub_cancel, ifin (by omega) (by omega), nI_clamp (by omega), bl_e, bnd_s, rZ1]
        have q4n : RD n 900 p4 a4 t4 B (sI hc4 18 k (nI v0)) (sI hm4 3 (67 + k) (nI v0)) := RD_s3 (by decide) d45
        have fx4 := FX_t (FX_t fx3 (TS_fx d47)) (show FX hc4 hm4 (sI hc4 18 k (nI v0)) (sI hm4 3 (67 + k) (nI v0)) from ⟨Fr_sI (by decide), Fr_sI (by decide), fun k _ => by rw [sI_o (by decide)], fun _ _ => rfl⟩)
        have N4 : ∀ i, (sI hc4 18 k (nI v0)).1 18 i = if i = k then nI v0 else hc3.1 18 i := fun i => by rw [sI_u]; show (if i = k then _ else hc4.1 18 i) = _; rw [(x4 18 (by decide)).1]
        have K4 : ∀ i, (sI hm4 3 (67 + k) (nI v0)).1 3 i = if i = 67 + k then nI v0 else hm3.1 3 i := fun i => by rw [sI_u]; show (if i = 67 + k then _ else hm4.1 3 i) = _; rw [(y4 3 (by decide)).1]
        have z4 : ∀ y, y ≠ 1 → y ≠ 18 → (sI hc4 18 k (nI v0)).1 y = hcA.1 y := fun y y1 y2 => by rw [sI_o y2, (x4 y y1).1, z3 y y1 y2]
        have u4c : ∀ y, y ≠ 1 → (sI hc4 18 k (nI v0)).2 y = hcA.2 y := fun y y1 => by rw [sI_2, (x4 y y1).2, (x3 y y1).2]
        have u4m : ∀ y, y ≠ 0 → (sI hm4 3 (67 + k) (nI v0)).2 y = hmA.2 y := fun y y1 => by rw [sI_2, (y4 y y1).2, (y3 y y1).2]
        have t20_4 : (sI hm4 3 (67 + k) (nI v0)).1 0 20 = hmA.1 0 20 := by rw [sI_o (by decide), d47.2.2 20 (by decide), t20_3]
        generalize (sI hc4 18 k (nI v0)) = hcS4 at q4n fx4 N4 z4 u4c ⊢
        generalize (sI hm4 3 (67 + k) (nI v0)) = hmS4 at q4n fx4 K4 u4m t20_4 ⊢
        have MX : ∀ i, hmS4.1 3 i = if i = 67 + k then nI v0 else hm.1 3 i := fun i => by rw [K4, (y3 3 (by decide)).1, M3]
        have CX : ∀ i, hcS4.1 18 i = if i = k then nI v0 else hc.1 18 i := fun i => by rw [N4, (x3 18 (by decide)).1, Ao 18 (by decide) (by decide)]
        have ec : hmS4.1 3 2 = nI k := by rw [MX, if_neg (by omega), s2]
        rw [ifin (by omega) (by omega), ifin (by omega) (by omega), ec, nI_add, bl_e, rZ1]
        have FZ : ∀ i, (sI hmS4 3 2 (nI (k + 1))).1 3 i = if i = 2 then nI (k + 1) else hmS4.1 3 i := fun i => by rw [sI_u]; rfl
        have FO : ∀ i, i ≠ 2 → i ≠ 67 + k → (sI hmS4 3 2 (nI (k + 1))).1 3 i = hm.1 3 i := fun i i0 j0 => by rw [FZ, if_neg i0, MX, if_neg j0]
        have F0 : (sI hmS4 3 2 (nI (k + 1))).1 3 (67 + k) = nI v0 := by rw [FZ, if_neg (by omega), MX, if_pos rfl]
        refine Or.inl ⟨p4, a4, t4, l, c, pkP P k x v0, _, _, rfl, rfl, ⟨RD_fr q4n rfl rfl rfl (fun _ _ => by rw [sI_o (by decide)]) (sI_o (by decide)) rfl, ⟨⟨⟨?_, ?_, ?_, ?_, ?_, ?_⟩, ?_, ?_, ?_, ?_, ?_, ?_, ?_⟩, ⟨⟨?_, ?_, ?_, ?_, ?_, ?_, ?_⟩, ?_, ?_, ?_, ?_, ?_, ?_⟩, ⟨w0, w1, w2, wc, ?_, ?_, ?_, ?_, ?_, ?_⟩, ?_⟩, ?_, ?_, ?_, ?_⟩, by omega, FX_t fx4 ⟨Fr_rf, Fr_sI (by decide), fun k _ => by rw [sI_o (by decide)], fun _ _ => rfl⟩⟩
        · rw [z4 11 (by decide) (by decide), A11, if_neg (by decide)]; exact e0
        · rw [z4 11 (by decide) (by decide), A11, if_neg (by decide)]; exact e1
        · rw [z4 11 (by decide) (by decide), A11, if_neg (by decide)]; exact e2
        · rw [z4 11 (by decide) (by decide), A11, if_neg (by decide)]; exact e3
        · rw [z4 11 (by decide) (by decide), A11, if_neg (by decide)]; exact e4
        · rw [z4 11 (by decide) (by decide), A11, if_pos rfl]; rfl
        · intro y w hx hw
          rw [z4 15 (by decide) (by decide), Ao 15 (by decide) (by decide)]
          rw [g1 y w hx hw]
          rcases (show w = 0 ∨ w = 1 ∨ w = 2 ∨ w = 3 by omega) with e | e | e | e <;> subst e <;> rfl
        · intro y w hx hw hz
          rw [z4 16 (by decide) (by decide), Ao 16 (by decide) (by decide)]
          rcases (show w = 0 ∨ w = 1 by omega) with e | e <;> subst e
          · rw [g2 y 0 hx hw hz]; rfl
          · rw [g2 y 1 hx hw hz]; rfl
        · intro y w hx hw
          rw [z4 17 (by decide) (by decide), Ao 17 (by decide) (by decide)]
          rw [g3 y w hx hw]
          rcases (show w = 0 ∨ w = 1 ∨ w = 2 by omega) with e | e | e <;> subst e <;> rfl
        · intro y hx
          have hx : y < k + 1 := hx
          rw [CX]
          by_cases ek : y = k
          · rw [if_pos ek]; exact congrArg nI (if_pos ek).symm
          · rw [if_neg ek, g4 y (by omega)]; exact congrArg nI (if_neg ek).symm
        · intro y hx
          rw [u4c 12 (by decide), Ap 12 (by decide) (by decide)]
          exact g5 y hx
        · intro y hx
          rw [u4c 13 (by decide), Ap 13 (by decide) (by decide)]
          exact g6 y hx
        · intro y hx
          have hx : y < k + 1 := hx
          rw [u4c 14 (by decide), AN]
          show _ = lN (if y = k then x else P 13 y) ∧ (if y = k then x else P 13 y) < 2 ^ 35
          by_cases ek : y = k
          · rw [if_pos ek, if_pos ek]; exact ⟨rfl, by omega⟩
          · rw [if_neg ek, if_neg ek]; exact g7 y (by omega)
        · rw [FO 0 (by omega) (by omega)]; exact s0
        · rw [FO 1 (by omega) (by omega)]; exact s1
        · rw [FZ, if_pos rfl]; rfl
        · rw [FO 3 (by omega) (by omega), s3]
          exact congrArg nI (rumN_cg (P := P) (Q := (pkP P k x v0)) (fun _ => rfl) _).symm
        · rw [FO 4 (by omega) (by omega)]; exact s4
        · rw [FO 5 (by omega) (by omega)]; exact s5
        · rw [FO 6 (by omega) (by omega)]; exact s6
        · intro y hx
          have hx : y < P 0 3 := hx
          obtain ⟨y1, y2, y3, y4, y5, y6⟩ := r1 y hx
          rw [FO (7 + y) (by omega) (by omega), FO (13 + y) (by omega) (by omega), FO (19 + y) (by omega) (by omega), FO (25 + y) (by omega) (by omega), FO (43 + y) (by omega) (by omega), FO (31 + y) (by omega) (by omega), FO (37 + y) (by omega) (by omega)]
          exact ⟨y1, y2, y3, y4, y5, y6⟩
        · intro y hx
          have hx : y < P 0 4 := hx
          obtain ⟨y1, y2, y3⟩ := r2 y hx
          rw [FO (49 + y) (by omega) (by omega), FO (55 + y) (by omega) (by omega), FO (61 + y) (by omega) (by omega)]
          exact ⟨y1, y2, y3⟩
        · intro y hx
          have hx : y < k + 1 := hx
          by_cases ek : y = k
          · subst ek
            rw [F0]; exact congrArg nI (if_pos rfl).symm
          · rw [FO (67 + y) (by omega) (by omega), r3 y (by omega)]; exact congrArg nI (if_neg ek).symm
        · intro y hx
          have hx : y < P 0 3 := hx
          rw [sI_2, u4m 5 (by decide), M5, if_neg (by omega)]; exact r4 y hx
        · intro y hx
          have hx : y < P 0 4 := hx
          rw [sI_2, u4m 5 (by decide), M5, if_neg (by omega)]; exact r5 y hx
        · intro y hx
          have hx : y < k + 1 := hx
          rw [sI_2, u4m 5 (by decide), M5]
          show _ = lN (cv (if y = k then x else P 13 y))
          by_cases ek : y = k
          · rw [if_pos (by omega), if_pos ek]
          · rw [if_neg (by omega), if_neg ek]; exact r6 y (by omega)
        · exact w3
        · exact w4
        · show k + 1 ≤ 5; omega
        · exact wC
        · exact wD
        · intro y
          have := wK y
          show 1 ≤ (if y = k then v0 else P 10 y) ∧ (if y = k then v0 else P 10 y) ≤ 9
          by_cases ek : y = k
          · simp only [if_pos ek]; omega
          · simp only [if_neg ek]; omega
        · intro y hx hx6
          have hx : P 0 3 ≤ y := hx
          rw [FO (43 + y) (by omega) (by omega)]; exact z y hx hx6
        · rw [z4 19 (by decide) (by decide), Ao 19 (by decide) (by decide), q3]
        · rw [z4 19 (by decide) (by decide), Ao 19 (by decide) (by decide), q4]
        · rw [sI_o (by decide), t20_4, M20, q5]
        · intro i hi
          rw [sI_2, u4m 6 (by decide), M6]; exact q6 i hi
      · refine LNo_bad fx3 bad (fun h e => ?_) (fun h e => ?_)
        · rw [e, bnd_s, if_pos (show nI 0 = 0 from rfl), rZ0]
        · rw [e, bnd_s, if_pos (show nI 0 = 0 from rfl), rZ0]
    · refine LNo_bad fx2 bad (fun h e => ?_) (fun h e => ?_)
      · rw [e, bnd_s, if_pos (show nI 0 = 0 from rfl), rZ0]
      · rw [e, bnd_s, if_pos (show nI 0 = 0 from rfl), rZ0]
