/-! ===== ledger ===== -/
theorem CR_83 {P : Pl} {A : Ab} {h : HS} {k : Nat} {v : Int32} (q : CR P A h) : CR P A (sI h 83 k v) := CR_fr q (sI_o (by decide)) (sI_o (by decide)) (sI_o (by decide)) (sI_o (by decide)) (sI_o (by decide)) (sI_o (by decide)) rfl rfl rfl
theorem S_ledger {F : Nat} (hF : 20000 ≤ F) (a : Int32) : Sim (f_LC_ledger F a) (f_M_ledger F a) := by
  intro P A hc hm q0
  have q := Rel_th (v := nI 0) q0
  obtain ⟨n, B, hm1, a1, a2, a3, a4, a5, a6, a7⟩ := TX_in q (nI 400)
  obtain ⟨c0, m0, W0, Y0, -, -, o⟩ := id q
  have sd : SD P hc hm1 := ⟨c0.1, by rw [(a6 2 (by decide)).1, (a6 5 (by decide)).2]; exact m0.1, W0.1, fun i hi => by rw [(a6 6 (by decide)).2]; exact o.2.2.2.2.2.2.2 i hi⟩
  rw [f_LC_ledger, f_M_ledger, bl_e, bl_e, M_isIn1, bnd_s, ite_b0]
  by_cases hb : inb a 2 = true
  · obtain ⟨hk, ek⟩ := inb_ex hb
    generalize a.toNatClampNeg = k at hk ek
    subst ek
    obtain ⟨hmB, x0, x⟩ := X_book (F := F) hF a2 sd a4 a5
    rw [if_pos hb, a1, bnd_s, bl_e, bl_e, x0, bnd_s]
    have eK : ∀ X Y : Option (Int32 × HS), (if nI k = 0 then X else if nI k = nI 1 then X else Y) = X := fun X Y => by
      rw [ite_eq0 (by omega), ite_eqN (by omega) (by omega)]
      by_cases z : k = 0
      · rw [if_pos z]
      · rw [if_neg z, if_pos (by omega)]
    rw [eK]
    dsimp only
    have f0 : ∀ hc2 hm2, FX2 hc hm1 hc2 hm2 → F0r ftx (sI hm 0 0 (nI 0)) hm2 := fun hc2 hm2 b4 k hk => by
      rw [b4.2.2.1 k (fun e => hk (by
          have : ∀ x, x ∈ [4, 11, 12, 13, 14, 15, 16, 18, 19, 20, 32, 36, 37, 38, 39, 40] → x ∈ ftx := by decide
          exact this k e)), a7 k (fun e => hk (by
          have : ∀ x, x ∈ [2, 3, 4, 5] → x ∈ ftx := by decide
          exact this k e))]
    have RT : ∀ (hc2 hm2 : HS) (kk : Nat), FX2 hc hm1 hc2 hm2 → hm2.1 0 15 = nI kk → Rel P A (sI (sI hc2 1 1 (nI 0)) 0 15 (nI kk)) hm2 := fun hc2 hm2 kk b4 k4 => by
      have fc3 : Fr (0 :: fxc) hc (sI (sI hc2 1 1 (nI 0)) 0 15 (nI kk)) := Fr_t (Fr_mo (by decide) b4.1) (Fr_t (Fr_sI (by decide)) (Fr_sI (by decide)))
      refine Rel_txt q (Fr_mo (by decide) fc3) (Fr_t (Fr_mo (by decide) a6) (Fr_mo (by decide) b4.2.1)) (fun i hi => by rw [b4.2.2.2 i hi, (a6 5 (by decide)).2]) (f0 _ _ b4) ⟨0, by omega, by rw [sI_o (by decide), sI_e], by rw [b4.2.2.1 2 (by decide), a3], fun i hi => absurd hi (Nat.not_lt_zero _)⟩ ?_ (TRr_fr o.2.2.1 ?_ ?_ ?_)
      · unfold FTr
        rw [sI_e, k4]
      · rw [sI_n (by decide), sI_o (by decide), (b4.1 0 (by decide)).1]
      · rw [b4.2.2.1 29 (by decide), a7 29 (by decide)]
      · rw [b4.2.2.1 30 (by decide), a7 30 (by decide)]
    rcases x with ⟨L2, hc2, hm2, x1, x2, x3, x4, x5, x6, b4, x11, x12⟩ | ⟨hc2, hm2, b1, b2, ⟨kk, aa, k1, k2, k3, k4, k5, k6⟩, b4⟩
    · have q4 := RT hc2 hm2 0 b4 x12
      have e0 : f_Tape_empty hc2 = some ((), sI hc2 1 1 (nI 0)) := by rw [f_Tape_empty, bl_e]
      have e1 : f_Tape_faultKind (sI hc2 1 1 (nI 0)) = some (nI 0, sI hc2 1 1 (nI 0)) := by rw [f_Tape_faultKind, sI_n (by decide), x11]
      rw [x1, bnd_s, bl_e, e0, bnd_s, e1, bnd_s, bl_e, if_neg (show ¬ nI 1 = 0 by decide), x2]
      have y38 : (sI (sI hc2 1 1 (nI 0)) 0 15 (nI 0)).1 38 5 = nI L2 := by rw [sI_o (by decide), sI_o (by decide)]; exact x3
      have lr : LR P L2 (sI (sI hc2 1 1 (nI 0)) 0 15 (nI 0)) hm2 := fun i hi => by
        rw [sI_o (by decide), sI_o (by decide), sI_o (by decide), sI_o (by decide), sI_o (by decide), sI_o (by decide)]
        exact x6 i hi
      generalize sI (sI hc2 1 1 (nI 0)) 0 15 (nI 0) = hc4 at q4 y38 lr
      obtain ⟨c4, m4, W4, Y4, U4, s4, o4⟩ := id q4
      rw [C_saveTo, bnd_s, M_tries (by omega), bnd_s, bl_e]
      have q5 := Rl0_save (j := 82) (f := va_cpy (hc4.1 21) (hc4.1 82) 0 0 91) (f2 := rg (hm2.1 8) 0 79 (fun i => hm2.1 2 (72 + i))) (Or.inr rfl) (Rl0_of q4)
      have z82 : ∀ x, x < 91 → (st hc4 82 (va_cpy (hc4.1 21) (hc4.1 82) 0 0 91)).1 82 x = hc4.1 21 x := fun x hx => by rw [st_e, cpy_in hx]
      have z8 : ∀ x, x < 79 → (st hm2 8 (rg (hm2.1 8) 0 79 (fun i => hm2.1 2 (72 + i)))).1 8 x = hm2.1 2 (72 + x) := fun x hx => by
        rw [st_e]; simp only [rg]; rw [if_pos (by omega)]
      have fcA : Fr bkc hc4 (st hc4 82 (va_cpy (hc4.1 21) (hc4.1 82) 0 0 91)) := Fr_st (by decide)
      have fmA : Fr [0, 2, 7, 8, 9, 13] hm2 (st hm2 8 (rg (hm2.1 8) 0 79 (fun i => hm2.1 2 (72 + i)))) := Fr_st (by decide)
      have yA : ∀ y, y ∈ [20, 23, 24, 25, 26, 27, 28, 29, 30] → (st hc4 82 (va_cpy (hc4.1 21) (hc4.1 82) 0 0 91)).1 y = hc4.1 y := fun y hy => st_o (by
        have : ∀ x, x ∈ [20, 23, 24, 25, 26, 27, 28, 29, 30] → x ≠ 82 := by decide
        exact this y hy)
      have w38 : (st hc4 82 (va_cpy (hc4.1 21) (hc4.1 82) 0 0 91)).1 38 5 = nI L2 := by rw [st_o (by decide)]; exact y38
      have lr5 : LR P L2 (st hc4 82 (va_cpy (hc4.1 21) (hc4.1 82) 0 0 91)) (st hm2 8 (rg (hm2.1 8) 0 79 (fun i => hm2.1 2 (72 + i)))) := fun i hi => by
        rw [st_o (by decide), st_o (by decide), st_o (by decide), st_o (by decide)]
        exact lr i hi
      have w32 : (st hm2 8 (rg (hm2.1 8) 0 79 (fun i => hm2.1 2 (72 + i)))).1 0 32 = nI L2 := by rw [st_o (by decide)]; exact x4
      have v8 : ∀ y, y ≠ 8 → (st hm2 8 (rg (hm2.1 8) 0 79 (fun i => hm2.1 2 (72 + i)))).1 y = hm2.1 y := fun y hy => st_o hy
      generalize st hc4 82 (va_cpy (hc4.1 21) (hc4.1 82) 0 0 91) = hc5 at q5 z82 fcA yA w38 lr5 ⊢
      generalize st hm2 8 (rg (hm2.1 8) 0 79 (fun i => hm2.1 2 (72 + i))) = hm5 at q5 z8 fmA w32 lr5 v8 ⊢
      obtain ⟨f13, g1, g2, g3⟩ := M_l1 (F := F) (a := nI k) (K := fun (h18 : HS) => (if inb (nI 74) 332 = true then bl (h18.1 2 (nI 74).toNatClampNeg) (fun (v19 : Int32) => bl (-1 : Int32) (fun (v20 : Int32) => bl (nI 0) (fun (v21 : Int32) => l_M_ledger_2 F (nI k) v19 (fun (v31 : Int32) (h32 : HS) => (if inb (nI 73) 332 = true then (if inb (nI 2) 4 = true then bl (sI h32 13 (nI 2).toNatClampNeg (h32.1 2 (nI 73).toNatClampNeg)) (fun (h33 : HS) => (if inb (nI 74) 332 = true then (if inb (nI 3) 4 = true then bl (sI h33 13 (nI 3).toNatClampNeg ((h33.1 2 (nI 74).toNatClampNeg) - v19)) (fun (h34 : HS) => bl (sI h34 0 34 (nI 1)) (fun (h35 : HS) => bl (fun  (h37 : HS) => ((if nI k = 0 then bnd (f_M_back F  h37) (fun (_ : Unit) (h38 : HS) => some (v31, h38)) else some (v31, h37)) : Option (Int32 × HS))) (fun J36 => (if nI k = (nI 1) then (if inb (nI 1) 4 = true then (if (h35.1 13 (nI 1).toNatClampNeg) ≤ 0 then J36  h35 else bnd (f_M_keep F  h35) (fun (_ : Unit) (h39 : HS) => bl (nI 0) (fun (v40 : Int32) => l_M_ledger_3 F (nI k) v31 (fun (h43 : HS) => J36  h43) F v40 h39))) else none) else J36  h35)))) else none) else none)) else none) else none)) F v20 v21 h18))) else none)) hF hm5
      rw [g1, C_ofNow q5.1 (by omega) (by omega), bnd_s, bl_e]
      have m5' := m_disg q5.2.1
      have q6 : Rl0 P A (sI hc5 38 6 (nI 0)) (st hm5 13 f13) := Rl0_m (Rl0_38 q5) (st_o (by decide)) rfl
      obtain ⟨nn, A2, hc7, hm7, l1, l2, l3, l4, l5, l6, l7, l8, l9, l10, l11⟩ := T_liveL (F := F) hF x5 L2 0 A (sI hc5 38 6 (nI 0)) (st hm5 13 f13) (by omega) q6 (fun i hi => by
        rw [sI_o (by decide), sI_o (by decide), sI_o (by decide), st_o (by decide)]
        exact lr5 i hi) (by rw [sI_n (by decide)]; exact w38) (by rw [st_o (by decide)]; exact w32) (by rw [sI_e, st_e, g2]) (by rw [st_e, g3])
      rw [f_Ledger_live, bl_e, bl_e, l2 F (by omega), bnd_s, bl_e, f_Ledger_whyWrong, bnd_s]
      have r1 : rnC A2 1 = A2.2 3 0 := rfl
      have r2 : rnC A2 2 = A2.2 4 0 := rfl
      have r3 : rnC A 2 = A.2 4 0 := rfl
      rw [ifin (show 0 < 4 by omega) (by omega), nI_clamp (show 0 < 2147483648 by omega), bl_e, ifin (show 1 < 4 by omega) (by omega), nI_clamp (show 1 < 2147483648 by omega), bl_e, C_ofNow (CR_83 (CR_83 l4.1)) (by omega) (by omega), bnd_s, ifin (show 2 < 4 by omega) (by omega), nI_clamp (show 2 < 2147483648 by omega), bl_e, C_ofNow (CR_83 (CR_83 (CR_83 l4.1))) (by omega) (by omega), bnd_s, ifin (show 3 < 4 by omega) (by omega), nI_clamp (show 3 < 2147483648 by omega), bl_e, bl_e, r1, r2, r3]
      rw [ifin (show 74 < 332 by omega) (by omega), nI_clamp (show 74 < 2147483648 by omega), bl_e, bl_e, bl_e, l3 _ _ _ F (by omega), st_o (show (2 : Nat) ≠ 13 by decide), m5']
      dsimp only
      rw [ifin (show 73 < 332 by omega) (by omega), nI_clamp (show 73 < 2147483648 by omega), ifin (show 2 < 4 by omega) (by omega), m_coin l4.2.1, bl_e, ifin (show 74 < 332 by omega) (by omega), ifin (show 3 < 4 by omega) (by omega), sI_o (show (2 : Nat) ≠ 13 by decide), m_disg l4.2.1, bl_e, bl_e, bl_e]
      have q8 : Rl0 P A2 (sI (sI (sI (sI hc7 83 0 (hc7.1 38 6)) 83 1 (nI nn)) 83 2 (A2.2 3 0)) 83 3 (A2.2 4 0 - A.2 4 0)) (sI (sI (sI hm7 13 2 (A2.2 3 0)) 13 3 (A2.2 4 0 - A.2 4 0)) 0 34 (nI 1)) := ⟨CR_83 (CR_83 (CR_83 (CR_83 l4.1))), MR_fr l4.2.1 (by rw [sI_o (by decide), sI_o (by decide), sI_o (by decide)]) rfl, l4.2.2.1, WYr_fr l4.2.2.2 (by rw [sI_o (by decide), sI_o (by decide), sI_o (by decide), sI_o (by decide)]) (by rw [sI_o (by decide), sI_o (by decide), sI_o (by decide), sI_o (by decide)]) (by rw [sI_o (by decide), sI_o (by decide), sI_o (by decide), sI_o (by decide)]) (by rw [sI_o (by decide), sI_o (by decide), sI_o (by decide), sI_o (by decide)])⟩
      have bk : BKr (sI (sI (sI (sI hc7 83 0 (hc7.1 38 6)) 83 1 (nI nn)) 83 2 (A2.2 3 0)) 83 3 (A2.2 4 0 - A.2 4 0)) (sI (sI (sI hm7 13 2 (A2.2 3 0)) 13 3 (A2.2 4 0 - A.2 4 0)) 0 34 (nI 1)) := fun w hw => by
        rw [sI_e, if_neg (show ¬ nI 1 = 0 by decide), sI_o (show (13 : Nat) ≠ 0 by decide)]
        rcases (show w = 0 ∨ w = 1 ∨ w = 2 ∨ w = 3 by omega) with e | e | e | e <;> subst e
        · rw [sI_n (by decide), sI_n (by decide), sI_n (by decide), sI_e, sI_n (by decide), sI_n (by decide)]; exact l5
        · rw [sI_n (by decide), sI_n (by decide), sI_e, sI_n (by decide), sI_n (by decide)]; exact l6.symm
        · rw [sI_n (by decide), sI_e, sI_n (by decide), sI_e]
        · rw [sI_e, sI_e]
      have fc8 : Fr bkc hc4 (sI (sI (sI (sI hc7 83 0 (hc7.1 38 6)) 83 1 (nI nn)) 83 2 (A2.2 3 0)) 83 3 (A2.2 4 0 - A.2 4 0)) := Fr_t fcA (Fr_t (Fr_sI (by decide)) (Fr_t (Fr_mo (by decide) l8) (Fr_t (Fr_t (Fr_t (Fr_sI (by decide)) (Fr_sI (by decide))) (Fr_sI (by decide))) (Fr_sI (by decide)))))
      have fm8 : Fr [0, 2, 7, 8, 9, 13] hm2 (sI (sI (sI hm7 13 2 (A2.2 3 0)) 13 3 (A2.2 4 0 - A.2 4 0)) 0 34 (nI 1)) := Fr_t fmA (Fr_t (Fr_st (by decide)) (Fr_t (Fr_mo (by decide) l9) (Fr_t (Fr_t (Fr_sI (by decide)) (Fr_sI (by decide))) (Fr_sI (by decide)))))
      have f08 : F0r [23, 31, 34] hm2 (sI (sI (sI hm7 13 2 (A2.2 3 0)) 13 3 (A2.2 4 0 - A.2 4 0)) 0 34 (nI 1)) := fun y hy => by
        rw [sI_n (fun e => hy (by rw [e]; decide)), sI_o (by decide), sI_o (by decide), l10 y (fun e => hy (by rw [List.mem_singleton.mp e]; decide)), st_o (by decide), v8 0 (by decide)]
      have h28 : ∀ i, 151 ≤ i → (sI (sI (sI hm7 13 2 (A2.2 3 0)) 13 3 (A2.2 4 0 - A.2 4 0)) 0 34 (nI 1)).1 2 i = hm2.1 2 i := fun i hi => by
        rw [sI_o (by decide), sI_o (by decide), sI_o (by decide), l11 i hi, st_o (by decide), v8 2 (by decide)]
      have y82 : ∀ x, x < 91 → (sI (sI (sI (sI hc7 83 0 (hc7.1 38 6)) 83 1 (nI nn)) 83 2 (A2.2 3 0)) 83 3 (A2.2 4 0 - A.2 4 0)).1 82 x = hc4.1 21 x := fun x hx => by
        rw [sI_o (by decide), sI_o (by decide), sI_o (by decide), sI_o (by decide), (l8 82 (by decide)).1, sI_o (by decide), z82 x hx]
      have y8 : ∀ x, x < 79 → (sI (sI (sI hm7 13 2 (A2.2 3 0)) 13 3 (A2.2 4 0 - A.2 4 0)) 0 34 (nI 1)).1 8 x = hm2.1 2 (72 + x) := fun x hx => by
        rw [sI_o (by decide), sI_o (by decide), sI_o (by decide), (l9 8 (by decide)).1, st_o (by decide), z8 x hx]
      have y5 : (sI (sI (sI (sI hc7 83 0 (hc7.1 38 6)) 83 1 (nI nn)) 83 2 (A2.2 3 0)) 83 3 (A2.2 4 0 - A.2 4 0)).1 38 5 = nI L2 := by
        rw [sI_o (by decide), sI_o (by decide), sI_o (by decide), sI_o (by decide)]; exact l7
      have y131 : (sI (sI (sI hm7 13 2 (A2.2 3 0)) 13 3 (A2.2 4 0 - A.2 4 0)) 0 34 (nI 1)).1 13 1 = nI nn := by
        rw [sI_o (by decide), sI_n (by decide), sI_n (by decide)]; exact l6
      have y23 : (sI (sI (sI hm7 13 2 (A2.2 3 0)) 13 3 (A2.2 4 0 - A.2 4 0)) 0 34 (nI 1)).1 0 23 = hm2.1 0 23 := by
        rw [sI_n (by decide), sI_o (by decide), sI_o (by decide), l10 23 (by decide), st_o (by decide), v8 0 (by decide)]
      have y7 : (sI (sI (sI hm7 13 2 (A2.2 3 0)) 13 3 (A2.2 4 0 - A.2 4 0)) 0 34 (nI 1)).1 7 = hm2.1 7 := by
        rw [sI_o (by decide), sI_o (by decide), sI_o (by decide), (l9 7 (by decide)).1, st_o (by decide), v8 7 (by decide)]
      have yc : ∀ y, y ∈ [20, 23, 24, 25, 26, 27, 28, 29, 30] → (sI (sI (sI (sI hc7 83 0 (hc7.1 38 6)) 83 1 (nI nn)) 83 2 (A2.2 3 0)) 83 3 (A2.2 4 0 - A.2 4 0)).1 y = hc4.1 y := fun y hy => by
        have h1 : ∀ x, x ∈ [20, 23, 24, 25, 26, 27, 28, 29, 30] → x ≠ 83 ∧ x ≠ 38 ∧ x ∉ [21, 35, 36, 38] := by decide
        obtain ⟨h2, h3, h4⟩ := h1 y hy
        rw [sI_o h2, sI_o h2, sI_o h2, sI_o h2, (l8 y h4).1, sI_o h3, yA y hy]
      generalize sI (sI (sI (sI hc7 83 0 (hc7.1 38 6)) 83 1 (nI nn)) 83 2 (A2.2 3 0)) 83 3 (A2.2 4 0 - A.2 4 0) = hc8 at *
      generalize sI (sI (sI hm7 13 2 (A2.2 3 0)) 13 3 (A2.2 4 0 - A.2 4 0)) 0 34 (nI 1) = hm8 at *
      have U8 : UD P hc8 hm8 := UD_fr U4 (yc 20 (by decide)) (fun j hj => yc _ (by
        have : ∀ j, j < 8 → 23 + j ∈ [20, 23, 24, 25, 26, 27, 28, 29, 30] := by decide
        exact this j hj)) y7 y23
      have fin : ∀ h : HS, h.1 38 5 = nI L2 → bnd (f_Ledger_size h) (fun r30 h29 => if r30 ≤ nI nn then some ((-1 : Int32), h29) else some (nI nn, h29)) = some (if nn < L2 then nI nn else -1, h) := fun h e => by
        rw [f_Ledger_size, bnd_s, e, ite_leN (by omega) (by omega)]
        by_cases z : nn < L2
        · rw [if_neg (by omega), if_pos z]
        · rw [if_pos (by omega), if_neg z]
      rcases (show k = 0 ∨ k = 1 by omega) with e | e <;> subst e
      · rw [if_pos (show nI 0 = 0 from rfl), if_neg (show ¬ nI 0 = nI 1 by decide)]
        dsimp only
        rw [if_pos (show nI 0 = 0 from rfl), C_loadFrom, bnd_s, M_back (by omega), bnd_s, fin _ (by rw [st_o (by decide)]; exact y5)]
        have q9 := Rl0_back q8 W4 c4.2 m4.2 y82 y8
        refine ⟨_, _, _, P, _, rfl, rfl, Rel_bk q4 q9 (UD_fr U8 (st_o (by decide)) (fun j hj => st_o (by omega)) (st_o (by decide)) (by rw [st_o (by decide)])) (Fr_t fc8 (Fr_st (by decide))) (Fr_t fm8 (Fr_st (by decide))) (fun y hy => by rw [st_o (by decide)]; exact f08 y hy) (fun i hi => ?_) (fun w hw => ?_)⟩
        · rw [st_e]
          simp only [rg]
          rw [if_neg (by omega)]
          exact h28 i hi
        · rw [st_o (by decide), st_o (by decide), st_o (by decide)]
          exact bk w hw
      · rw [if_neg (show ¬ nI 1 = 0 by decide), if_pos (show nI 1 = nI 1 from rfl), ifin (show 1 < 4 by omega) (by omega), y131, ite_le0 (by omega), ite_le0 (by omega)]
        by_cases z : nn = 0
        · rw [if_pos z, if_pos z]
          dsimp only
          rw [if_neg (show ¬ nI 1 = 0 by decide), fin _ y5]
          exact ⟨_, _, _, P, _, rfl, rfl, Rel_bk q4 q8 U8 fc8 fm8 f08 h28 bk⟩
        · rw [if_neg z, if_neg z]
          obtain ⟨u, fq, ps, u1, u2, u3, u4, u5, u6⟩ := U8
          obtain ⟨hmK, b1, b2, b3, b4', b5, b6⟩ := M_keep (F := F) (by omega) u1 u5
          obtain ⟨f7, t1, t2, t3⟩ := M_l3 (F := F) (u := if u = 8 then 7 else u) (a := nI 1) (v := if nn < L2 then nI nn else -1) (by split <;> omega) 79 0 hmK (by omega) (by rw [b4']; exact congrArg nI (by split <;> omega))
          have w3 := W4.1.2.2.2.2.1
          have w5 := W4.1.2.2.2.2.2.2.1
          obtain ⟨hc9, p1, p2, p3⟩ := UD_kp (A := mxA A A) (hm2 := st hmK 7 f7) (s := hm2.1 2) (hm := hm8) W4 u1 u2 u3 u4 u6 (RC_mx w3 w5 c4.2 (fun x hx => y82 x hx)) (RM0_mx w3 w5 m4.2 (fun _ _ _ => rfl) (fun i hi => m4.2.2.2.2 i hi)) (by rw [st_o (by decide)]; exact b4') (fun i x hi hx => by rw [st_e, t3 _ (Or.inl (by omega)), b5 i x hi hx]) (fun x hx => by rw [st_e, t2 x (by omega) hx, (b2 8 (by decide)).1, y8 x hx])
          rw [p1, bnd_s, b1, bnd_s, bl_e, t1 _ F (by omega)]
          dsimp only
          rw [if_neg (show ¬ nI 1 = 0 by decide), fin hc9 (by rw [(p2 38 (by decide)).1]; exact y5)]
          refine ⟨_, _, _, P, _, rfl, rfl, Rel_bk q4 (A2 := A2) ⟨CR_fr q8.1 (p2 3 (by decide)).1 (p2 7 (by decide)).1 (p2 8 (by decide)).1 (p2 9 (by decide)).1 (p2 10 (by decide)).1 (p2 21 (by decide)).1 (p2 4 (by decide)).2 (p2 5 (by decide)).2 (p2 6 (by decide)).2, MR_fr q8.2.1 (by rw [st_o (by decide), (b2 2 (by decide)).1]) (by rw [st_2, (b2 5 (by decide)).2]), q8.2.2.1, WYr_fr q8.2.2.2 (p2 31 (by decide)).1 (p2 32 (by decide)).1 (p2 33 (by decide)).1 (p2 34 (by decide)).1⟩ p3 (Fr_t fc8 (Fr_mo (by decide) p2)) (Fr_t fm8 (Fr_t (Fr_mo (by decide) b2) (Fr_st (by decide)))) (fun y hy => ?_) (fun i hi => ?_) (fun w hw => ?_)⟩
          · rw [st_o (by decide), b3 y (fun e => hy (by rw [List.mem_singleton.mp e]; decide))]
            exact f08 y hy
          · rw [st_o (by decide), (b2 2 (by decide)).1]
            exact h28 i hi
          · rw [(p2 83 (by decide)).1, st_o (by decide), st_o (by decide), b3 34 (by decide), (b2 13 (by decide)).1]
            exact bk w hw
    · rw [b1, bnd_s, bl_e, b2]
      have e0 : f_Tape_empty hc2 = some ((), sI hc2 1 1 (nI 0)) := by rw [f_Tape_empty, bl_e]
      have e1 : f_Tape_faultKind (sI hc2 1 1 (nI 0)) = some (nI kk, sI hc2 1 1 (nI 0)) := by rw [f_Tape_faultKind, sI_n (by decide), k3]
      rw [e0, bnd_s, e1, bnd_s, bl_e, if_pos (show nI 0 = 0 from rfl), f_Tape_faultPlace, bnd_s, sI_o (by decide), sI_n (by decide), k5, k6]
      exact ⟨_, _, hm2, P, A, rfl, rfl, RT hc2 hm2 kk b4 k4⟩
  · rw [if_neg hb, if_neg (show ¬ a = 0 from ninb (k := 0) hb (by decide) (by decide)), if_neg (ninb (k := 1) hb (by decide) (by decide))]
    exact ⟨_, _, _, P, A, rfl, rfl, q⟩
