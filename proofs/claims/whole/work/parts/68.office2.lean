/-! ===== office ===== -/
theorem PM_cp {P : Pl} {s t : Nat → Int32} {m n : Nat → Int64} {o c : Nat} (W : WFP P) (q : PM P s m o) (hs : ∀ i, i < 72 → t i = s i) (hn : ∀ i, i < 17 → n (c + i) = m (o + i)) : PM P t n c := by
  obtain ⟨wN, wNM, wM, wCo, w3, w4, w5, wC, wD, wK⟩ := W
  obtain ⟨⟨s0, s1, s2, s3, s4, s5, s6⟩, r1, r2, r3, r4, r5, r6⟩ := q
  refine ⟨⟨by rw [hs _ (by omega), s0], by rw [hs _ (by omega), s1], by rw [hs _ (by omega), s2], by rw [hs _ (by omega), s3], by rw [hs _ (by omega), s4], by rw [hs _ (by omega), s5], by rw [hs _ (by omega), s6]⟩, fun x hx => ?_, fun x hx => ?_, fun x hx => ?_, fun x hx => ?_, fun x hx => ?_, fun x hx => ?_⟩
  · rw [hs _ (by omega), hs _ (by omega), hs _ (by omega), hs _ (by omega), hs _ (by omega), hs _ (by omega), hs _ (by omega)]
    exact r1 x hx
  · rw [hs _ (by omega), hs _ (by omega), hs _ (by omega)]
    exact r2 x hx
  · rw [hs _ (by omega)]
    exact r3 x hx
  · rw [hn x (by omega)]
    exact r4 x hx
  · rw [Nat.add_assoc, hn (6 + x) (by omega), ← Nat.add_assoc]
    exact r5 x hx
  · rw [Nat.add_assoc, hn (12 + x) (by omega), ← Nat.add_assoc]
    exact r6 x hx
/-- the frames of a call that tells all anew -/
def nwc : List Nat := [0, 1, 3, 4, 5, 6, 7, 8, 9, 10, 11, 12, 13, 14, 15, 16, 17, 18, 19, 20, 21, 31, 32, 33, 34, 38, 39, 40, 41, 42, 43, 44, 45, 46, 47, 48, 49]
def nwm0 : List Nat := [0, 2, 3, 4, 5, 11, 12, 13, 14, 15, 16, 18, 19, 20, 23, 32, 36, 37, 38, 39, 40]
theorem Rel_new {P P2 : Pl} {A A2 : Ab} {hc hm hc2 hm2 : HS} (q : Rel P A hc hm) (c : CR P2 A2 hc2) (m : MR P2 A2 hm2) (W : WF P2 A2) (Y : WYr P2 hc2) (u1 : hc2.1 20 4 = nI 0) (u3 : hc2.1 20 3 = hc.1 20 3) (u2 : hm2.1 0 23 = nI 0) (s : SEr 42 hc2 (A2.2 7)) (fc : Fr nwc hc hc2) (fm : Fr [0, 2, 3, 4, 5, 14] hm hm2) (f0 : F0r nwm0 hm hm2) (g16 : hc2.1 0 16 = hc.1 0 16) (t : TPr hc2 hm2) (ff : FTr hc2 hm2) : Rel P2 A2 hc2 hm2 := by
  obtain ⟨-, -, -, -, ⟨u, f, ps, h1, h2, h3, h4, h5, h6⟩, -, o⟩ := q
  refine ⟨c, m, W, Y, ⟨0, f, ps, by omega, h2, by rw [u3, h3], u1, u2, fun j hj => by omega⟩, s, ?_⟩
  obtain ⟨o1, o2, o3, o4, o5, o6, o7, o8⟩ := o
  refine ⟨t, ff, TRr_fr o3 g16 (f0 29 (by decide)) (f0 30 (by decide)), ?_, ?_, ?_, ?_, ?_⟩
  · unfold MAr at o4 ⊢
    rw [(fc 53 (by decide)).1, f0 28 (by decide), (fm 12 (by decide)).1]
    exact o4
  · unfold BKr at o5 ⊢
    rw [(fc 83 (by decide)).1, f0 34 (by decide), (fm 13 (by decide)).1]
    exact o5
  · unfold IM1 SEr PC at o6 ⊢
    simp only [Nat.reduceAdd] at o6 ⊢
    rw [(fc 54 (by decide)).1, (fc 55 (by decide)).1, (fc 59 (by decide)).1, (fc 60 (by decide)).1, (fc 61 (by decide)).1, (fc 62 (by decide)).1, (fc 63 (by decide)).1, (fc 64 (by decide)).1, (fc 65 (by decide)).1, (fc 66 (by decide)).1, (fc 67 (by decide)).1, (fc 56 (by decide)).2, (fc 57 (by decide)).2, (fc 58 (by decide)).2, (fm 18 (by decide)).1, (fm 16 (by decide)).1, (fm 17 (by decide)).2]
    exact o6
  · unfold IM1 SEr PC at o7 ⊢
    simp only [Nat.reduceAdd] at o7 ⊢
    rw [(fc 68 (by decide)).1, (fc 69 (by decide)).1, (fc 73 (by decide)).1, (fc 74 (by decide)).1, (fc 75 (by decide)).1, (fc 76 (by decide)).1, (fc 77 (by decide)).1, (fc 78 (by decide)).1, (fc 79 (by decide)).1, (fc 80 (by decide)).1, (fc 81 (by decide)).1, (fc 70 (by decide)).2, (fc 71 (by decide)).2, (fc 72 (by decide)).2, (fm 18 (by decide)).1, (fm 16 (by decide)).1, (fm 17 (by decide)).2]
    exact o7
  · unfold RSr at o8 ⊢
    rw [(fm 6 (by decide)).2]
    exact o8
theorem dpOK_0 (s : Nat → Int32) : dpOK s 0 := ⟨fun i hi => absurd hi (Nat.not_lt_zero _), fun h => absurd h (Nat.lt_irrefl _)⟩
/-- the state ahead of a text's reading, behind the reference's taken() -/
theorem TX_in {P : Pl} {A : Ab} {hc hm : HS} (q : Rel P A hc hm) (v : Int32) : ∃ n B hm1, f_M_taken v hm = some ((), hm1) ∧ BYn n B hc hm1 ∧ hm1.1 0 2 = nI 0 ∧ hm1.1 0 4 = nI 0 ∧ hm1.1 0 5 = v ∧ Fr [0] hm hm1 ∧ F0r [2, 3, 4, 5] hm hm1 := by
  obtain ⟨-, -, -, -, -, -, ⟨⟨n, n9, t1, t2, t3⟩, -⟩⟩ := q
  have fm : Fr [0] hm (sI (sI (sI (sI hm 0 3 (nI n)) 0 2 (nI 0)) 0 4 (nI 0)) 0 5 v) := Fr_t (Fr_t (Fr_t (Fr_sI (by decide)) (Fr_sI (by decide))) (Fr_sI (by decide))) (Fr_sI (by decide))
  refine ⟨n, _, _, by rw [M_taken, t2], BYn_of n9 t1 ?_ (fun i hi => ?_), ?_, ?_, sI_e, fm, F0r_t (F0r_t (F0r_t (F0r_sI (by decide)) (F0r_sI (by decide))) (F0r_sI (by decide))) (F0r_sI (by decide))⟩
  · rw [sI_n (by decide), sI_n (by decide), sI_n (by decide), sI_e]
  · rw [(fm 1 (by decide)).1]
    exact t3 i hi
  · rw [sI_n (by decide), sI_n (by decide), sI_e]
  · rw [sI_n (by decide), sI_e]
theorem S_office {F : Nat} (hF : 20000 ≤ F) : Sim (f_LC_office F) (f_M_office F) := by
  intro P A hc hm q0
  have q := Rel_th (v := nI 0) q0
  obtain ⟨n, B, hm1, a1, a2, a3, a4, a5, a6, a7⟩ := TX_in q (nI 900)
  obtain ⟨-, -, W0, Y0, ⟨u0, fq, ps0, -, -, uf, -⟩, -, o⟩ := id q
  have RS : RSr hm1 := fun i hi => by rw [(a6 6 (by decide)).2]; exact o.2.2.2.2.2.2.2 i hi
  rw [f_LC_office, f_M_office, bl_e, a1, bnd_s]
  rcases O_read (F := F) (by omega) a2 RS a4 a5 with ⟨lines, P2, hc2, hm2, b1, b2, b3, b4, b5, b6, b7, b8⟩ | ⟨hc2, hm2, b1, b2, ⟨kk, aa, k1, k2, k3, k4, k5, k6⟩, b4⟩
  · rw [b1, bnd_s, b2]
    dsimp only [bl]
    obtain ⟨d1, d2, d3, d4⟩ := id b3
    obtain ⟨wN, wNM, wM, wCo, w3, w4, w5, wC, wD, wK⟩ := id d3
    -- the class
    have e0 : f_Tape_empty hc2 = some ((), sI hc2 1 1 (nI 0)) := by rw [f_Tape_empty, bl_e]
    have e1 : f_Tape_faultKind (sI hc2 1 1 (nI 0)) = some (nI 0, sI hc2 1 1 (nI 0)) := by rw [f_Tape_faultKind, sI_n (by decide), b6]
    rw [e0, bnd_s, e1, bnd_s, if_neg (nI_nn (by omega))]
    have fc3 : Fr (0 :: fxc) hc (sI (sI hc2 1 1 (nI 0)) 0 15 (nI 0)) := Fr_t (Fr_mo (by decide) b4.1) (Fr_t (Fr_sI (by decide)) (Fr_sI (by decide)))
    have p3 : PC P2 (sI (sI hc2 1 1 (nI 0)) 0 15 (nI 0)) 11 := PC_fr d1 (by rw [sI_o (by decide), sI_o (by decide)]) (by rw [sI_o (by decide), sI_o (by decide)]) (by rw [sI_o (by decide), sI_o (by decide)]) (by rw [sI_o (by decide), sI_o (by decide)]) (by rw [sI_o (by decide), sI_o (by decide)]) rfl rfl rfl
    have t3 : (sI (sI hc2 1 1 (nI 0)) 0 15 (nI 0)).1 1 1 = nI 0 := by rw [sI_o (by decide), sI_e]
    have g3 : (sI (sI hc2 1 1 (nI 0)) 0 15 (nI 0)).1 0 15 = nI 0 := sI_e
    have g4 : (sI (sI hc2 1 1 (nI 0)) 0 15 (nI 0)).1 0 16 = hc.1 0 16 := by rw [sI_n (by decide), sI_o (by decide), (b4.1 0 (by decide)).1]
    generalize sI (sI hc2 1 1 (nI 0)) 0 15 (nI 0) = hc3 at fc3 p3 t3 g3 g4
    obtain ⟨hc4, c1, c2, c3⟩ := C_cp3_11 d3 p3
    have us : hc4.1 32 0 = nI 0 ∧ hc4.1 33 0 = nI 0 ∧ hc4.1 34 0 = nI 0 := by
      have z := Y0.2 0 (Nat.two_pow_pos _)
      rw [sm_z, sm_z, sm_z] at z
      rw [(c3 32 (by decide)).1, (c3 33 (by decide)).1, (c3 34 (by decide)).1, (fc3 32 (by decide)).1, (fc3 33 (by decide)).1, (fc3 34 (by decide)).1]
      exact z
    obtain ⟨hc5, c4, c5, c6⟩ := C_sumUp (F := F) (by omega) d3 c2 us
    have p5 : PC P2 hc5 3 := PC_fr c2 (c6 3 (by decide)).1 (c6 7 (by decide)).1 (c6 8 (by decide)).1 (c6 9 (by decide)).1 (c6 10 (by decide)).1 (c6 4 (by decide)).2 (c6 5 (by decide)).2 (c6 6 (by decide)).2
    -- the reference
    obtain ⟨s1, m1, m2, m3⟩ := M_of1 (F := F) 332 0 hm2 (by omega)
    obtain ⟨hm4, m4, m5, m6, m7, m8⟩ := M_of2 (F := F) 17 0 (st hm2 2 s1) (by omega)
    have ms : hm4.1 2 = s1 := by rw [m7, st_e]
    have q4 : PM P2 (hm4.1 2) (hm4.2 5) 0 := PM_cp d3 d2 (fun i hi => by rw [ms, m2 i (by omega) (by omega), if_pos hi]) (fun i hi => by rw [Nat.zero_add, m5 i (by omega) hi]; rfl)
    obtain ⟨s5, m9, m10⟩ := M_begins (F := F) (by omega) d3 q4 (fun i hi hi2 => by rw [ms, m2 i (by omega) hi2, if_neg (by omega)])
    obtain ⟨r, c7, c8⟩ := C_begin (F := F) (zz := hm4.1 2) (by omega) d3 p5
    rw [c1, bnd_s, c4, bnd_s, c7, bnd_s, f_Sent_empty_42, bl_e, bnd_s, f_Desk_forget, bl_e, bnd_s, m1 _ F (by omega), m4 _ F (by omega), m9, bnd_s]
    have e19 : (sI (st hm4 2 s5) 0 23 (nI 0)).1 0 19 = nI lines := by rw [sI_n (by decide), st_o (by decide), m7, st_o (by decide), b5]
    rw [e19]
    have fm5 : Fr [0, 2, 3, 4, 5, 14] (sI hm 0 0 (nI 0)) (sI (st hm4 2 s5) 0 23 (nI 0)) := by
      refine Fr_t (Fr_t (Fr_mo (by decide) a6) (Fr_mo (by decide) b4.2.1)) (Fr_t (fun a ha => ⟨?_, ?_⟩) (Fr_t (Fr_st (by decide)) (Fr_sI (by decide))))
      · rw [m7, st_o (fun e => ha (by rw [e]; decide))]
      · rw [m8 a (fun e => ha (by rw [e]; decide))]; rfl
    have f05 : F0r nwm0 (sI hm 0 0 (nI 0)) (sI (st hm4 2 s5) 0 23 (nI 0)) := fun k hk => by
      have h23 : k ≠ 23 := fun e => hk (by rw [e]; decide)
      rw [sI_n h23, st_o (by decide), m7, st_o (by decide), b4.2.2.1 k (fun e => hk (by
        have : ∀ x, x ∈ [4, 11, 12, 13, 14, 15, 16, 18, 19, 20, 32, 36, 37, 38, 39, 40] → x ∈ nwm0 := by decide
        exact this k e)), a7 k (fun e => hk (by
        have : ∀ x, x ∈ [2, 3, 4, 5] → x ∈ nwm0 := by decide
        exact this k e))]
    have fcz : Fr nwc hc (sI (sI (st hc5 21 r) 42 3 (nI 0)) 20 4 (nI 0)) := Fr_t (Fr_t (Fr_t (Fr_mo (by decide) fc3) (Fr_mo (by decide) c3)) (Fr_mo (by decide) c6)) (Fr_t (Fr_t (Fr_st (by decide)) (Fr_sI (by decide))) (Fr_sI (by decide)))
    have z0 : ∀ k, (sI (sI (st hc5 21 r) 42 3 (nI 0)) 20 4 (nI 0)).1 0 k = hc3.1 0 k := fun k => by rw [sI_o (by decide), sI_o (by decide), st_o (by decide), (c6 0 (by decide)).1, (c3 0 (by decide)).1]
    refine ⟨nI lines, _, _, P2, A0 P2 (hm4.1 2), rfl, rfl, Rel_new q ⟨?_, ?_⟩ ?_ (WF_0 d3) ?_ sI_e ?_ sI_e ⟨0, by omega, ?_, ?_, fun i hi => absurd hi (Nat.not_lt_zero _), dpOK_0 _⟩ fcz fm5 f05 (by rw [z0, g4]) ⟨0, by omega, ?_, ?_, fun i hi => absurd hi (Nat.not_lt_zero _)⟩ ?_⟩
    · exact PC_fr p5 (by rw [sI_o (by decide), sI_o (by decide), st_o (by decide)]) (by rw [sI_o (by decide), sI_o (by decide), st_o (by decide)]) (by rw [sI_o (by decide), sI_o (by decide), st_o (by decide)]) (by rw [sI_o (by decide), sI_o (by decide), st_o (by decide)]) (by rw [sI_o (by decide), sI_o (by decide), st_o (by decide)]) rfl rfl rfl
    · rw [sI_o (by decide), sI_o (by decide), st_e]
      exact c8
    · exact MR_fr m10 (sI_o (by decide)) rfl
    · exact WYr_fr c5 (by rw [sI_o (by decide), sI_o (by decide), st_o (by decide)]) (by rw [sI_o (by decide), sI_o (by decide), st_o (by decide)]) (by rw [sI_o (by decide), sI_o (by decide), st_o (by decide)]) (by rw [sI_o (by decide), sI_o (by decide), st_o (by decide)])
    · rw [sI_n (by decide), sI_o (by decide), st_o (by decide), (c6 20 (by decide)).1, (c3 20 (by decide)).1, (fc3 20 (by decide)).1]
    · rw [sI_o (by decide), sI_e]
    · show hm4.1 2 151 = nI 0
      rw [ms, m2 151 (by omega) (by omega), if_neg (by omega)]
    · rw [sI_o (by decide), sI_o (by decide), st_o (by decide), (c6 1 (by decide)).1, (c3 1 (by decide)).1, t3]
    · rw [sI_n (by decide), st_o (by decide), m7, st_o (by decide), b4.2.2.1 2 (by decide), a3]
    · unfold FTr
      rw [z0, g3, sI_n (by decide), st_o (by decide), m7, st_o (by decide), b7]
  · rw [b1, bnd_s, bl_e, b2]
    have e0 : f_Tape_empty hc2 = some ((), sI hc2 1 1 (nI 0)) := by rw [f_Tape_empty, bl_e]
    have e1 : f_Tape_faultKind (sI hc2 1 1 (nI 0)) = some (nI kk, sI hc2 1 1 (nI 0)) := by rw [f_Tape_faultKind, sI_n (by decide), k3]
    rw [e0, bnd_s, e1, bnd_s, bl_e, if_pos rfl, f_Tape_faultPlace, bnd_s, sI_o (by decide), sI_n (by decide), k5, k6]
    have fc3 : Fr (0 :: fxc) hc (sI (sI hc2 1 1 (nI 0)) 0 15 (nI kk)) := Fr_t (Fr_mo (by decide) b4.1) (Fr_t (Fr_sI (by decide)) (Fr_sI (by decide)))
    refine ⟨_, _, hm2, P, A, rfl, rfl, Rel_txt q (Fr_mo (by decide) fc3) (Fr_t (Fr_mo (by decide) a6) (Fr_mo (by decide) b4.2.1)) (fun i hi => by rw [b4.2.2.2 i hi, (a6 5 (by decide)).2]) (fun k hk => ?_) ⟨0, by omega, by rw [sI_o (by decide), sI_e], by rw [b4.2.2.1 2 (by decide), a3], fun i hi => absurd hi (Nat.not_lt_zero _)⟩ ?_ (TRr_fr o.2.2.1 ?_ ?_ ?_)⟩
    · rw [b4.2.2.1 k (fun e => hk (by
        have : ∀ x, x ∈ [4, 11, 12, 13, 14, 15, 16, 18, 19, 20, 32, 36, 37, 38, 39, 40] → x ∈ ftx := by decide
        exact this k e)), a7 k (fun e => hk (by
        have : ∀ x, x ∈ [2, 3, 4, 5] → x ∈ ftx := by decide
        exact this k e))]
    · unfold FTr
      rw [sI_e, k4]
    · rw [sI_n (by decide), sI_o (by decide), (b4.1 0 (by decide)).1]
    · rw [b4.2.2.1 29 (by decide), a7 29 (by decide)]
    · rw [b4.2.2.1 30 (by decide), a7 30 (by decide)]
