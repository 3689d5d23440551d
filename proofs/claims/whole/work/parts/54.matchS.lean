/-! ===== match, rests ===== -/
theorem pw_le {P : Pl} (w3 : P 0 3 ≤ 6) (w5 : P 0 5 ≤ 5) : (P 0 3 + 1) ^ P 0 5 ≤ 16807 := Nat.le_trans (Nat.pow_le_pow_left (show P 0 3 + 1 ≤ 7 by omega) _) (Nat.pow_le_pow_right (by omega) w5)
theorem Rel_mat {P : Pl} {A : Ab} {hc hm hc2 hm2 : HS} (q : Rel P A hc hm) (fc : Fr [35, 50, 51, 52, 53] hc hc2) (fm : Fr [0, 9, 10, 11, 12] hm hm2) (f0 : F0r [28] hm hm2) (k : MAr hc2 hm2) : Rel P A hc2 hm2 := by
  obtain ⟨c, m, W, Y, U, s, o⟩ := q
  obtain ⟨c2, Y2⟩ := CY_F c Y fc (by decide)
  refine ⟨c2, MR_F m fm (by decide), W, Y2, UD_fr U (fc 20 (by decide)).1 (fun j hj => (fc _ (by
    have : ∀ j, j < 8 → 23 + j ∉ [35, 50, 51, 52, 53] := by decide
    exact this j hj)).1) (fm 7 (by decide)).1 (f0 23 (by decide)), SEr_fr s (fc 42 (by decide)).1 (fc 43 (by decide)).1 (fc 44 (by decide)).1 (fc 45 (by decide)).1, ?_⟩
  obtain ⟨o1, o2, o3, o4, o5, o6, o7, o8⟩ := o
  refine ⟨?_, ?_, ?_, k, ?_, ?_, ?_, ?_⟩
  · unfold TPr at o1 ⊢
    rw [(fc 1 (by decide)).1, (fc 2 (by decide)).1, (fm 1 (by decide)).1, f0 2 (by decide)]
    exact o1
  · unfold FTr at o2 ⊢
    rw [(fc 0 (by decide)).1, f0 15 (by decide)]
    exact o2
  · unfold TRr at o3 ⊢
    rw [(fc 0 (by decide)).1, f0 30 (by decide), f0 29 (by decide)]
    exact o3
  · unfold BKr at o5 ⊢
    rw [(fc 83 (by decide)).1, f0 34 (by decide), (fm 13 (by decide)).1]
    exact o5
  · unfold IM1 SEr PC at o6 ⊢
    simp only [Nat.reduceAdd] at o6 ⊢
    rw [(fc 54 (by decide)).1, (fc 55 (by decide)).1, (fc 59 (by decide)).1, (fc 60 (by decide)).1, (fc 61 (by decide)).1, (fc 62 (by decide)).1, (fc 63 (by decide)).1, (fc 64 (by decide)).1, (fc 65 (by decide)).1, (fc 66 (by decide)).1, (fc 67 (by decide)).1, (fc 56 (by decide)).2, (fc 57 (by decide)).2, (fc 58 (by decide)).2, (fm 18 (by decide)).1, (fm 16 (by decide)).1, (fm 17 (by decide)).2]
    exact o6
  · unfold IM1 SEr PC at o7 ⊢
    simp only [Nat.reduceAdd] at o7 ⊢
    rw [(fc 68 (by decide)).1, (fc 69 (by decide)).1, (fc 73 (by decide)).1, (fc 74 (by decide)).1, (fc 75 (by decide)).1, (fc 76 (by decide)).1, (fc 77 (by decide)).1, (fc 78 (by decide)).1, (fc 79 (by decide)).1, (fc 80 (by decide)).1, (fc 81 (by decide)).1, (fc 70 (by decide)).2, (fc 71 (by decide)).2, (fc 72 (by decide)).2, (fm 18 (by decide)).1, (fm 16 (by decide)).1, (fm 17 (by decide)).2]
    exact o7
  · unfold RSr at o8 ⊢
    rw [(fm 6 (by decide)).2]
    exact o8
theorem EC_z {hs : Nat → Bool} {V : Nat → Nat → Int} {C n : Nat} : ∀ (j k : Nat) (p : Nat → Nat) (u : Nat) (s : Int) (B : Mb), k + j ≤ n → (∀ i, n ≤ i → p i = 0) → (∀ i, n ≤ i → B.2 i = 0) → ∀ i, n ≤ i → (EC hs V C j k p u s B).2 i = 0 := by
  intro j
  induction j with
  | zero =>
    intro k p u s B hk hp hB i hi
    unfold EC
    split
    · exact hp i hi
    · exact hB i hi
  | succ j ih =>
    intro k p u s B hk hp hB
    unfold EC
    have up : ∀ d i, n ≤ i → up1 p k d i = 0 := fun d i hi => by rw [up1_n (by omega)]; exact hp i hi
    have a := ih (k + 1) (up1 p k 0) u s B (by omega) (up 0) hB
    split
    · exact a
    · refine fC_ind (fun X : Mb => ∀ i, n ≤ i → X.2 i = 0) a C (fun c X _ hX => ?_)
      show ∀ i, n ≤ i → (if 0 < V k c ∧ u.testBit c = false then EC hs V C j (k + 1) (up1 p k (c + 1)) (u ||| 2 ^ c) (s + V k c) X else X).2 i = 0
      split
      · exact ih _ _ _ _ _ (by omega) (up _) hX
      · exact hX
theorem S_match {F : Nat} (hF : 20000 ≤ F) : Sim (f_LC_match F) (f_M_match F) := by
  intro P A hc hm q0
  have q := Rel_th (v := nI 0) q0
  obtain ⟨c, m, W, Y, -⟩ := id q
  obtain ⟨⟨wN, wNM, wM, wCo, w3, w4, w5, wC, wD, wK⟩, wAc, wAk, wAw, wAf⟩ := id W
  obtain ⟨hc1, a1, a2, -, a4, -, a6⟩ := C_maL (F := F) (by omega) W 5 0 hc (by omega) c Y
  obtain ⟨c1, Y1⟩ := CY_F c Y a6 (by decide)
  have z0 : PS (fun _ => 0) (0, fun _ => 0) (sI hc1 50 6 (nI 0)) := ⟨fun i hi => by rw [sI_o (by decide), (a2 i (by omega) hi).1]; rfl, by rw [sI_e]; rfl, fun i hi => by rw [sI_o (by decide), (a2 i (by omega) hi).2]; rfl⟩
  have c2 : CR P A (sI hc1 50 6 (nI 0)) := by rw [sI_st]; exact CR_st (by omega) (by omega) c1
  obtain ⟨hc2, b1, b2, b3⟩ := C_pick (F := F) (by omega) W (P 0 5) 0 8 (fun _ => 0) 0 0 (0, fun _ => 0) _ (by omega) (by omega) rfl (fun _ _ => rfl) c2 (fun x y hx hy => by rw [sI_o (by decide)]; exact a4 x y (by omega) hx hy) (by omega) (by omega) (by omega) (by decide) (by decide) z0
  obtain ⟨hm1, d1, d2, -, d4, -, d6⟩ := M_m0L (F := F) (by omega) W (P 0 5) 0 _ (by omega) m
  have m1 := MR_F m d6 (by decide)
  have hrz : rvA P A (fun _ => 0) = 0 := by
    have : ∀ (j k u : Nat) (s : Int), rvF (hsF A) (valZ P A) (fun _ => 0) j k u s = s := by
      intro j
      induction j with
      | zero => intro k u s; rfl
      | succ j ih => intro k u s; rw [rvF, if_pos rfl, ih]
    exact this _ _ _ _
  have hf0 : fillR (fun _ => 0) 0 0 = fun _ => 0 := by
    funext i
    unfold fillR
    split <;> rfl
  obtain ⟨hm2, e1, e2, e3, e4⟩ := M_matL (F := F) (by omega) W (P 0 5) 0 (by omega) (fun _ => 0) (-1, fun _ => 0) hm1 (fun _ => Nat.zero_le _) m1 (fun x y hx hy => d4 x y (by omega) hx hy) (fun i hi => by rw [hf0]; exact d2 i (by omega) hi) (Or.inl rfl) (by decide) (by decide)
  have m2 := MR_F m1 e3 (by decide)
  obtain ⟨hm3, g1, g2⟩ := M_nextRow0 (F := F) (by omega) W m2 e1
  have m3 := MR_F m2 g2 (by decide)
  rw [hf0, EM_first hrz, EM_EC (rv := rvA P A) (hs := hsF A) (V := valZ P A) (P 0 5) 0 _ 0 0 _ (fun r _ => rfl) (by decide)] at e2 e4
  have hE := EC_A (hs := hsF A) (V := valZ P A) (C := P 0 3) (P 0 5) 0 (fun _ => 0) 0 0 (0, fun _ => 0)
  have hZ := EC_z (hs := hsF A) (V := valZ P A) (C := P 0 3) (n := P 0 5) (P 0 5) 0 (fun _ => 0) 0 0 (0, fun _ => 0) (by omega) (fun _ _ => rfl) (fun _ _ => rfl)
  generalize EC (hsF A) (valZ P A) (P 0 3) (P 0 5) 0 (fun _ => 0) 0 0 (0, fun _ => 0) = E at b2 e2 e4 hE hZ
  have hw := pw_le (P := P) w3 w5
  have e5 : ∀ K0, l_M_match_2 F K0 F (zI (-1)) (nI 1) hm1 = K0 (zI E.1) hm3 := fun K0 => by
    have := e4 K0 (F - (P 0 3 + 1) ^ P 0 5 - 1 + 1)
    rw [show F - (P 0 3 + 1) ^ P 0 5 - 1 + 1 + (P 0 3 + 1) ^ P 0 5 = F by omega] at this
    rw [this, g1, bnd_s, l_M_match_2, if_pos (show nI 0 = 0 from rfl)]
  have e2 : ∀ i, i < P 0 5 → hm2.1 12 i = pI (E.2 i) := e2.resolve_left (fun z => by
    have : (0 : Int) ≤ E.1 := hE.1
    omega)
  refine ⟨zI E.1, hc2, sI hm3 0 28 (nI (P 0 5)), P, A, ?_, ?_, ?_⟩
  · rw [f_LC_match, f_Mat_matchAll, bl_e, a1 _ F (by omega), bl_e]
    have b1 : f_Mat_pickFrom F 8 (nI 0) (nI 0) (nI 0) (sI hc1 50 6 (nI 0)) = some ((), hc2) := b1
    rw [b1, bnd_s, bnd_s, b2.2.1]
  · rw [f_M_match, bl_e, bl_e, d1 _ F (by omega), bl_e, bl_e]
    have e6 := e5 (fun v28 h29 => if inb (nI 2) 332 = true then bl (sI h29 0 28 (h29.1 2 (nI 2).toNatClampNeg)) (fun h30 => some (v28, h30)) else none)
    rw [ifin (by omega) (by omega), nI_clamp (by omega), m_2 m3, bl_e] at e6
    exact e6
  · refine Rel_mat q (Fr_t (Fr_mo (by decide) a6) (Fr_t (Fr_sI (by decide)) (Fr_mo (by decide) b3))) (Fr_t (Fr_mo (by decide) d6) (Fr_t (Fr_mo (by decide) e3) (Fr_t (Fr_mo (by decide) g2) (Fr_sI (by decide))))) (fun k hk => ?_) ⟨P 0 5, w5, Or.inl sI_e, fun k hk => ?_⟩
    · rw [sI_n (fun z => hk (by rw [z]; decide)), (g2 0 (by decide)).1, (e3 0 (by decide)).1, (d6 0 (by decide)).1]
    · rw [sI_o (by decide), (g2 12 (by decide)).1, b2.2.2 k hk]
      by_cases z : k < P 0 5
      · rw [if_pos z, e2 k z]
      · rw [if_neg z, hZ k (by omega), pI_0]
