/-! ===== a SENTENCE: the call ===== -/
def cts : List Nat := [0, 1, 2, 11, 12, 13, 14, 15, 16, 17, 18, 19, 38, 39, 40, 41, 42, 43, 44, 45, 46, 47, 48, 49]
theorem Rel_sen {P : Pl} {A : Ab} {hc hm hc2 hm2 : HS} (q : Rel P A hc hm) (fc : Fr cts hc hc2) (fm : Fr [0, 1, 2, 3, 4, 5, 14] hm hm2) (n5 : ∀ i, i < 17 → hm2.2 5 i = hm.2 5 i) (f0 : F0r ftx hm hm2) (h2 : ∀ i, i < 151 → hm2.1 2 i = hm.1 2 i) (s : SEr 42 hc2 (hm2.1 2)) (t : TPr hc2 hm2) (ff : FTr hc2 hm2) (tr : TRr hc2 hm2) : Rel P (wzA A (hm2.1 2)) hc2 hm2 := by
  obtain ⟨c, m, W, Y, U, -, o⟩ := q
  obtain ⟨c2, Y2⟩ := CY_F c Y fc (by decide)
  have w3 := W.1.2.2.2.2.1
  have w5 := W.1.2.2.2.2.2.2.1
  refine ⟨⟨c2.1, RC_mx w3 w5 c2.2 (fun _ _ => rfl)⟩, ⟨PM_cp W.1 m.1 (fun i hi => h2 i (by omega)) (fun i hi => by rw [Nat.zero_add, n5 i hi]), RM0_mx w3 w5 m.2 (fun i h1 h3 => h2 i h3) (fun _ _ => rfl)⟩, WF_wz W, Y2, UD_fr U (fc 20 (by decide)).1 (fun j hj => (fc _ (by
    have : ∀ j, j < 8 → 23 + j ∉ cts := by decide
    exact this j hj)).1) (fm 7 (by decide)).1 (f0 23 (by decide)), s, ?_⟩
  obtain ⟨o1, o2, o3, o4, o5, o6, o7, o8⟩ := o
  refine ⟨t, ff, tr, ?_, ?_, IM1_fr o6 (fun x hx => fc _ ?_) (fun i hi => by rw [(fm 16 (by decide)).1]) (fun i hi => by rw [(fm 17 (by decide)).2]) (by rw [(fm 18 (by decide)).1]), IM1_fr o7 (fun x hx => fc _ ?_) (fun i hi => by rw [(fm 16 (by decide)).1]) (fun i hi => by rw [(fm 17 (by decide)).2]) (by rw [(fm 18 (by decide)).1]), ?_⟩
  · unfold MAr at o4 ⊢
    rw [(fc 53 (by decide)).1, f0 28 (by decide), (fm 12 (by decide)).1]
    exact o4
  · unfold BKr at o5 ⊢
    rw [(fc 83 (by decide)).1, f0 34 (by decide), (fm 13 (by decide)).1]
    exact o5
  · have : ∀ x, x < 14 → 54 + x ∉ cts := by decide
    exact this x hx
  · have : ∀ x, x < 14 → 68 + x ∉ cts := by decide
    exact this x hx
  · unfold RSr at o8 ⊢
    rw [(fm 6 (by decide)).2]
    exact o8
theorem M_cpL {F m : Nat} (hm4 : m ≤ 40) : ∀ (j x : Nat) (h : HS), x + j = 3 * m → h.1 0 36 = nI m → ∃ f, (∀ g, j < g → l_M_sentence_1 F g (nI x) h = some (h.1 0 37, st h 2 f)) ∧ (∀ i, x ≤ i → i < 3 * m → f (152 + i) = h.1 4 i) ∧ ∀ i, i < 152 + x → f i = h.1 2 i := by
  intro j
  induction j with
  | zero =>
    intro x h hx e
    refine ⟨h.1 2, fun g hg => ?_, fun i h1 h2 => by omega, fun _ _ => rfl⟩
    obtain ⟨g, rfl⟩ : ∃ z, g = z + 1 := ⟨g - 1, by omega⟩
    rw [l_M_sentence_1, e, nI_mul, ite_leN (by omega) (by omega), if_pos (by omega), st_s]
  | succ j ih =>
    intro x h hx e
    obtain ⟨f, a1, a2, a3⟩ := ih (x + 1) (sI h 2 (152 + x) (h.1 4 x)) (by omega) (by rw [sI_o (by decide)]; exact e)
    refine ⟨f, fun g hg => ?_, fun i h1 h2 => ?_, fun i hi => ?_⟩
    · obtain ⟨g, rfl⟩ : ∃ z, g = z + 1 := ⟨g - 1, by omega⟩
      rw [l_M_sentence_1, e, nI_mul, ite_leN (by omega) (by omega), if_neg (by omega), ifin (by omega) (by omega), nI_add, ifin (by omega) (by omega), nI_clamp (by omega), nI_clamp (by omega), bl_e, bl_e, nI_add, a1 g (by omega), sI_o (show (0 : Nat) ≠ 2 by decide), sI_st, st_st]
    · by_cases ei : i = x
      · rw [ei, a3 _ (by omega), sI_e]
      · rw [a2 i (by omega) h2, sI_o (by decide)]
    · rw [a3 i (by omega), sI_n (by omega)]
/-- the reading, on both sides: where the reference's copying begins, or a FAULT -/
theorem X_read {F n : Nat} {P : Pl} {B : Nat → Nat} {hc hm : HS} {K0 : HS → Option (Int32 × HS)} (hF : 20000 ≤ F) (Y : BYn n B hc hm) (sd : SD P hc hm) (m4 : hm.1 0 4 = nI 0) (m5 : hm.1 0 5 = nI 200) : ∃ hmB, f_M_next F (sI (sI (sI (sI (sI (sI hm 0 15 (nI 0)) 0 36 (nI 0)) 0 37 (nI 0)) 0 38 (nI 0)) 0 39 (nI 1)) 0 40 (nI 0)) = some ((), hmB) ∧ ((∃ m o hc2 hm2, f_Sent_read_46 F hc = some (nI o, hc2) ∧ o ≤ 20 ∧ LM F K0 F hmB = K0 hm2 ∧ FX hc hm hc2 hm2 ∧ m ≤ 40 ∧ CO m hc2 hm2 ∧ hc2.1 46 3 = nI m ∧ hm2.1 0 36 = nI m ∧ hm2.1 0 37 = nI o ∧ dpOK (hc2.1 47) m ∧ hc2.1 1 9 = nI 0 ∧ hm2.1 0 15 = nI 0) ∨ (∃ hc2 hm2, f_Sent_read_46 F hc = some (-1, hc2) ∧ LM F K0 F hmB = kB hm2 ∧ FL hc2 hm2 ∧ FX hc hm hc2 hm2)) := by
  have fxA : FX hc hm (sI (sI hc 46 3 (nI 0)) 46 4 (nI 0)) (sI (sI (sI (sI (sI (sI hm 0 15 (nI 0)) 0 36 (nI 0)) 0 37 (nI 0)) 0 38 (nI 0)) 0 39 (nI 1)) 0 40 (nI 0)) := ⟨Fr_t (Fr_sI (by decide)) (Fr_sI (by decide)), Fr_t (Fr_t (Fr_t (Fr_t (Fr_t (Fr_sI (by decide)) (Fr_sI (by decide))) (Fr_sI (by decide))) (Fr_sI (by decide))) (Fr_sI (by decide))) (Fr_sI (by decide)), F0r_t (F0r_t (F0r_t (F0r_t (F0r_t (F0r_sI (by decide)) (F0r_sI (by decide))) (F0r_sI (by decide))) (F0r_sI (by decide))) (F0r_sI (by decide))) (F0r_sI (by decide)), fun _ _ => rfl⟩
  have g0 : ∀ k, k ∉ [15, 36, 37, 38, 39, 40] → (sI (sI (sI (sI (sI (sI hm 0 15 (nI 0)) 0 36 (nI 0)) 0 37 (nI 0)) 0 38 (nI 0)) 0 39 (nI 1)) 0 40 (nI 0)).1 0 k = hm.1 0 k := fun k hk => by
    have h : k ≠ 15 ∧ k ≠ 36 ∧ k ≠ 37 ∧ k ≠ 38 ∧ k ≠ 39 ∧ k ≠ 40 := by simpa using hk
    obtain ⟨x1, x2, x3, x4, x5, x6⟩ := h
    rw [sI_n x6, sI_n x5, sI_n x4, sI_n x3, sI_n x2, sI_n x1]
  have Y1 : BYn n B (sI (sI hc 46 3 (nI 0)) 46 4 (nI 0)) (sI (sI (sI (sI (sI (sI hm 0 15 (nI 0)) 0 36 (nI 0)) 0 37 (nI 0)) 0 38 (nI 0)) 0 39 (nI 1)) 0 40 (nI 0)) := BYn_fr Y (by rw [sI_o (by decide), sI_o (by decide)]) (fxA.1 2 (by decide)).1 (g0 3 (by decide)) (fxA.2.1 1 (by decide)).1
  obtain ⟨p2, a2, t2, hc2, hm2, b1, b2, b3, b4⟩ := T_begin (F := F) (most := 200) (by omega) Y1 (by omega) ((g0 5 (by decide)).trans m5) ((g0 4 (by decide)).trans m4) (by rw [sI_n (by decide), sI_n (by decide), sI_n (by decide), sI_n (by decide), sI_n (by decide), sI_e])
  have fx2 := FX_t fxA (TS_fx b4)
  have ha2 := b3.2.2.2.2.2.2.2.1
  have ms : MS 0 0 0 [] (sI (sI (sI (sI (sI (sI hm 0 15 (nI 0)) 0 36 (nI 0)) 0 37 (nI 0)) 0 38 (nI 0)) 0 39 (nI 1)) 0 40 (nI 0)) := by
    refine ⟨?_, ?_, ?_, ?_, sI_e, trivial⟩
    · rw [sI_n (by decide), sI_n (by decide), sI_n (by decide), sI_n (by decide), sI_e]
    · rw [sI_n (by decide), sI_n (by decide), sI_n (by decide), sI_e]
    · rw [sI_n (by decide), sI_n (by decide), sI_e]; rfl
    · rw [sI_n (by decide), sI_e]; rfl
  have q2 : SS P n p2 a2 t2 B 0 0 0 0 [] [] hc2 hm2 := by
    refine ⟨b3, MS_fr ms b4.2.1 b4.2.2, fun i hi => absurd hi (Nat.not_lt_zero _), trivial, ?_, ?_, ⟨fun i hi => absurd hi (Nat.not_lt_zero _), rfl, Nat.le_refl _⟩, by omega, Nat.zero_le _, Nat.zero_le _, SD_fx sd fx2⟩
    · rw [(b4.1 46 (by decide)).1, sI_n (by decide), sI_e]; rfl
    · rw [(b4.1 46 (by decide)).1, sI_e]
  refine ⟨hm2, b2, ?_⟩
  rw [f_Sent_read_46, bl_e, bl_e, b1, bnd_s]
  rcases (T_rd (F := F) (n := n) (K0 := K0) (P := P) (B := B) (by omega) 24 1 (by omega) (by omega)).2 (by omega) p2 a2 t2 0 0 0 [] hc2 hm2 q2 rfl (Nat.zero_le _) (fun b M e => by cases e) (Nat.le_refl _) with ⟨hc3, hm3, c1, c2, c3, c4⟩ | ⟨p3, a3, t3, m3, o3, N, J, hc3, hm3, d1, dN, dJ, d2, d3, d4, d5, d6, d7, d8, d9⟩
  · rw [c1, bnd_s, if_pos (show nI 0 = 0 from rfl)]
    exact Or.inr ⟨hc3, hm3, rfl, c4 F (by omega), c2, FX_t fx2 c3⟩
  · have TK3 := d2.1.2.2.2.2.2.2.2.2.2.2.2.2.2
    have f40 := d2.2.1.2.2.2.2.1
    have ha3 := d2.1.2.2.2.2.2.2.2.1
    have o20 := d2.2.2.2.2.2.2.2.1
    obtain ⟨g2, e1, e2⟩ := d9 F (by omega)
    obtain ⟨g2, rfl⟩ : ∃ z, g2 = z + 1 := ⟨g2 - 1, by omega⟩
    obtain ⟨hm5, hm6, u1, u2, u3, u4, u5⟩ := T_nj (F := F) (x := 22) (Q := []) (L := []) (by omega) (Or.inr rfl) dN (fun b hb => by
      rcases dJ b hb with h | h
      · exact Or.inl h
      · exact Or.inr ⟨h, rfl⟩) (fun b M e => by cases e) (SS_eq d2 (by rw [List.append_nil]) rfl)
    have u4' := u4
    obtain ⟨r6, ⟨m1, m2', m3', m4', m5', m6'⟩, cc, p1, s1, s2, dd, oo1, l1, l2, sd6⟩ := u4'
    have m3'' : hm6.1 0 38 = nI 0 := m3'
    rw [d1, bnd_s, if_neg (show ¬ nI 1 = 0 by decide), f_Tape_isAtEnd, ite_iff (show hc3.1 1 5 = 0 ↔ t3.1 = 0 from (TK_k1 TK3).2.2.2.2.1)]
    by_cases z0 : t3.1 = 0
    · rw [if_pos z0, rZ1, bnd_s, if_neg (show ¬ nI 1 = 0 by decide), s2]
      refine Or.inl ⟨m3 + N.length + J.length, o3, hc3, hm6, rfl, o20, ?_, FX_t fx2 (FX_t d3 u5), l1, cc, s1, m1, m2', ⟨dd.1, fun _ => dd.2.1⟩, r6.2.2.2.2.2.2.2.2.2.2.2.1, r6.2.2.2.2.2.2.2.2.2.2.2.2.1⟩
      obtain ⟨g2, rfl⟩ : ∃ z, g2 = z + 1 := ⟨g2 - 1, by omega⟩
      rw [e2, LM_e f40 ((TK_k1 TK3).2.2.2.2.2.1.mpr z0), u1, bnd_s, u2, bnd_s, m3'', if_pos (show nI 0 ≤ 0 by decide), l_M_sentence_0, if_pos (show nI 0 = 0 from rfl)]
    · rw [if_neg z0, rZ0, bnd_s, if_pos (show nI 0 = 0 from rfl)]
      obtain ⟨hc7, hm7, y1, y2, y3, y4⟩ := T_fail 1 (by decide) r6
      have eB := M_behX u1 u3 u2 r6.2.2.2.2.2.2.2.2.2.2.2.2.2 d7 d8
      rw [m3'', if_pos (show nI 0 = 0 from rfl), y2, bnd_s, rZ0, ite_self] at eB
      rw [y1, bnd_s]
      refine Or.inr ⟨hc7, hm7, rfl, ?_, y3, FX_t fx2 (FX_t d3 (FX_t u5 y4))⟩
      rw [e2, LM_1 f40 (k11 TK3 z0), eB, bnd_s, if_pos (show nI 0 = 0 from rfl)]
theorem S_sentence {F : Nat} (hF : 20000 ≤ F) : Sim (f_LC_sentence F) (f_M_sentence F) := by
  intro P A hc hm q0
  have q := Rel_th (v := nI 0) q0
  obtain ⟨n, B, hm1, a1, a2, a3, a4, a5, a6, a7⟩ := TX_in q (nI 200)
  obtain ⟨c0, m0, W0, Y0, ⟨u0, fq, ps0, -, -, uf, -⟩, -, o⟩ := id q
  have sd : SD P hc hm1 := ⟨c0.1, by rw [(a6 2 (by decide)).1, (a6 5 (by decide)).2]; exact m0.1, W0.1, fun i hi => by rw [(a6 6 (by decide)).2]; exact o.2.2.2.2.2.2.2 i hi⟩
  obtain ⟨hmB, x0, x⟩ := X_read (F := F) (K0 := fun (h20 : HS) => (if inb (nI 151) 332 = true then bl (sI h20 2 (nI 151).toNatClampNeg (h20.1 0 36)) (fun (h21 : HS) => bl (nI 0) (fun (v22 : Int32) => l_M_sentence_1 F F v22 h21)) else none)) hF a2 sd a4 a5
  have eM : f_M_sentence F hm = LM F (fun (h20 : HS) => (if inb (nI 151) 332 = true then bl (sI h20 2 (nI 151).toNatClampNeg (h20.1 0 36)) (fun (h21 : HS) => bl (nI 0) (fun (v22 : Int32) => l_M_sentence_1 F F v22 h21)) else none)) F hmB := by
    rw [f_M_sentence, bl_e, a1, bnd_s, bl_e, bl_e, bl_e, bl_e, bl_e, bl_e, x0, bnd_s]
    rfl
  rw [f_LC_sentence, eM]
  have f0 : ∀ hc2 hm2, FX hc hm1 hc2 hm2 → F0r ftx (sI hm 0 0 (nI 0)) hm2 := fun hc2 hm2 b4 k hk => by
    rw [b4.2.2.1 k (fun e => hk (by
        have : ∀ x, x ∈ fxm → x ∈ ftx := by decide
        exact this k e)), a7 k (fun e => hk (by
        have : ∀ x, x ∈ [2, 3, 4, 5] → x ∈ ftx := by decide
        exact this k e))]
  rcases x with ⟨m, ones, hc2, hm2, x1, x2, x3, b4, x5, x6, x7, x8, x9, x10, x11, x12⟩ | ⟨hc2, hm2, b1, b2, ⟨kk, aa, k1, k2, k3, k4, k5, k6⟩, b4⟩
  · rw [x1, bnd_s, bl_e, x3]
    have e0 : f_Tape_empty hc2 = some ((), sI hc2 1 1 (nI 0)) := by rw [f_Tape_empty, bl_e]
    have e1 : f_Tape_faultKind (sI hc2 1 1 (nI 0)) = some (nI 0, sI hc2 1 1 (nI 0)) := by rw [f_Tape_faultKind, sI_n (by decide), x11]
    rw [e0, bnd_s, e1, bnd_s, bl_e, if_neg (nI_nn (by omega)), ifin (by omega) (by omega), nI_clamp (by omega), x8, bl_e, bl_e]
    have fc3 : Fr (0 :: fxc) hc (sI (sI hc2 1 1 (nI 0)) 0 15 (nI 0)) := Fr_t (Fr_mo (by decide) b4.1) (Fr_t (Fr_sI (by decide)) (Fr_sI (by decide)))
    obtain ⟨hc4, c1, c2, c3⟩ := C_cs42_46 (sI (sI hc2 1 1 (nI 0)) 0 15 (nI 0))
    obtain ⟨f, d1, d2, d3⟩ := M_cpL (F := F) x5 (3 * m) 0 (sI hm2 2 151 (nI m)) (by omega) (by rw [sI_o (by decide)]; exact x8)
    have z151 : f 151 = nI m := by rw [d3 151 (by omega), sI_e]
    have s46 : SEr 46 (sI (sI hc2 1 1 (nI 0)) 0 15 (nI 0)) f := by
      refine ⟨m, x5, ?_, z151, fun i hi => ?_, ?_⟩
      · rw [sI_o (by decide), sI_o (by decide)]; exact x7
      · show cdOK ((sI (sI hc2 1 1 (nI 0)) 0 15 (nI 0)).1 47 i) ((sI (sI hc2 1 1 (nI 0)) 0 15 (nI 0)).1 48 i) ((sI (sI hc2 1 1 (nI 0)) 0 15 (nI 0)).1 49 i) _ _ _
        rw [sI_o (by decide), sI_o (by decide), sI_o (by decide), sI_o (by decide), sI_o (by decide), sI_o (by decide), d2 (3 * i) (by omega) (by omega), show 153 + 3 * i = 152 + (3 * i + 1) by omega, d2 (3 * i + 1) (by omega) (by omega), show 154 + 3 * i = 152 + (3 * i + 2) by omega, d2 (3 * i + 2) (by omega) (by omega), sI_o (by decide)]
        exact x6 i hi
      · show dpOK ((sI (sI hc2 1 1 (nI 0)) 0 15 (nI 0)).1 47) m
        rw [sI_o (by decide), sI_o (by decide)]
        exact x10
    rw [c1, bnd_s, d1 F (by omega), sI_o (show (0 : Nat) ≠ 2 by decide), x9]
    have fm : Fr [0, 1, 2, 3, 4, 5, 14] (sI hm 0 0 (nI 0)) (st (sI hm2 2 151 (nI m)) 2 f) := Fr_t (Fr_t (Fr_mo (by decide) a6) (Fr_mo (by decide) b4.2.1)) (Fr_t (Fr_sI (by decide)) (Fr_st (by decide)))
    have z0 : ∀ k, hc4.1 0 k = (sI (sI hc2 1 1 (nI 0)) 0 15 (nI 0)).1 0 k := fun k => by rw [(c3 0 (by decide)).1]
    have w0 : ∀ k, (st (sI hm2 2 151 (nI m)) 2 f).1 0 k = hm2.1 0 k := fun k => by rw [st_o (by decide), sI_o (by decide)]
    refine ⟨nI ones, _, _, P, _, rfl, rfl, Rel_sen q (Fr_t (Fr_mo (by decide) fc3) (Fr_mo (by decide) c3)) fm (fun i hi => ?_) (fun k hk => ?_) (fun i hi => ?_) ?_ ⟨0, by omega, ?_, ?_, fun i hi => absurd hi (Nat.not_lt_zero _)⟩ ?_ (TRr_fr o.2.2.1 ?_ ?_ ?_)⟩
    · rw [st_2, sI_2, b4.2.2.2 i hi, (a6 5 (by decide)).2]
    · rw [w0]
      exact f0 _ _ b4 k hk
    · rw [st_e, d3 i (by omega), sI_n (by omega), (b4.2.1 2 (by decide)).1, (a6 2 (by decide)).1]
    · rw [st_e]
      exact c2 _ s46
    · rw [(c3 1 (by decide)).1, sI_o (by decide), sI_e]
    · rw [w0, b4.2.2.1 2 (by decide), a3]
    · unfold FTr
      rw [z0, sI_e, w0, x12]
    · rw [z0, sI_n (by decide), sI_o (by decide), (b4.1 0 (by decide)).1]
    · rw [w0, b4.2.2.1 29 (by decide), a7 29 (by decide)]
    · rw [w0, b4.2.2.1 30 (by decide), a7 30 (by decide)]
  · rw [b1, bnd_s, bl_e, b2]
    have e0 : f_Tape_empty hc2 = some ((), sI hc2 1 1 (nI 0)) := by rw [f_Tape_empty, bl_e]
    have e1 : f_Tape_faultKind (sI hc2 1 1 (nI 0)) = some (nI kk, sI hc2 1 1 (nI 0)) := by rw [f_Tape_faultKind, sI_n (by decide), k3]
    rw [e0, bnd_s, e1, bnd_s, bl_e, if_pos rfl, f_Tape_faultPlace, bnd_s, sI_o (by decide), sI_n (by decide), k5, kB, k6]
    have fc3 : Fr (0 :: fxc) hc (sI (sI hc2 1 1 (nI 0)) 0 15 (nI kk)) := Fr_t (Fr_mo (by decide) b4.1) (Fr_t (Fr_sI (by decide)) (Fr_sI (by decide)))
    refine ⟨_, _, hm2, P, A, rfl, rfl, Rel_txt q (Fr_mo (by decide) fc3) (Fr_t (Fr_mo (by decide) a6) (Fr_mo (by decide) b4.2.1)) (fun i hi => by rw [b4.2.2.2 i hi, (a6 5 (by decide)).2]) (f0 _ _ b4) ⟨0, by omega, by rw [sI_o (by decide), sI_e], by rw [b4.2.2.1 2 (by decide), a3], fun i hi => absurd hi (Nat.not_lt_zero _)⟩ ?_ (TRr_fr o.2.2.1 ?_ ?_ ?_)⟩
    · unfold FTr
      rw [sI_e, k4]
    · rw [sI_n (by decide), sI_o (by decide), (b4.1 0 (by decide)).1]
    · rw [b4.2.2.1 29 (by decide), a7 29 (by decide)]
    · rw [b4.2.2.1 30 (by decide), a7 30 (by decide)]
