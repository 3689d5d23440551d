/-! ===== a LEDGER: what is kept behind it ===== -/
def bkc : List Nat := [20, 21, 23, 24, 25, 26, 27, 28, 29, 30, 35, 36, 37, 38, 82, 83]
theorem Rel_bk {P : Pl} {A A2 : Ab} {hc hm hc2 hm2 : HS} (q : Rel P A hc hm) (q2 : Rl0 P A2 hc2 hm2) (U2 : UD P hc2 hm2) (fc : Fr bkc hc hc2) (fm : Fr [0, 2, 7, 8, 9, 13] hm hm2) (f0 : F0r [23, 31, 34] hm hm2) (h2 : ∀ i, 151 ≤ i → hm2.1 2 i = hm.1 2 i) (bk : BKr hc2 hm2) : Rel P A2 hc2 hm2 := by
  obtain ⟨c, m, W, Y, U, s, o⟩ := q
  refine ⟨q2.1, q2.2.1, q2.2.2.1, q2.2.2.2, U2, ?_, ?_⟩
  · refine SEr_cg (SEr_fr s (fc 42 (by decide)).1 (fc 43 (by decide)).1 (fc 44 (by decide)).1 (fc 45 (by decide)).1) (fun i hi => ?_)
    rw [← q2.2.1.2.2.2.2 i hi, ← m.2.2.2.2 i hi, h2 i hi]
  · obtain ⟨o1, o2, o3, o4, o5, o6, o7, o8⟩ := o
    refine ⟨?_, ?_, ?_, ?_, bk, IM1_fr o6 (fun x hx => fc _ ?_) (fun i hi => by rw [(fm 16 (by decide)).1]) (fun i hi => by rw [(fm 17 (by decide)).2]) (by rw [(fm 18 (by decide)).1]), IM1_fr o7 (fun x hx => fc _ ?_) (fun i hi => by rw [(fm 16 (by decide)).1]) (fun i hi => by rw [(fm 17 (by decide)).2]) (by rw [(fm 18 (by decide)).1]), ?_⟩
    · unfold TPr at o1 ⊢
      rw [(fc 1 (by decide)).1, (fc 2 (by decide)).1, f0 2 (by decide), (fm 1 (by decide)).1]
      exact o1
    · unfold FTr at o2 ⊢
      rw [(fc 0 (by decide)).1, f0 15 (by decide)]
      exact o2
    · exact TRr_fr o3 (by rw [(fc 0 (by decide)).1]) (f0 29 (by decide)) (f0 30 (by decide))
    · unfold MAr at o4 ⊢
      rw [(fc 53 (by decide)).1, f0 28 (by decide), (fm 12 (by decide)).1]
      exact o4
    · have : ∀ x, x < 14 → 54 + x ∉ bkc := by decide
      exact this x hx
    · have : ∀ x, x < 14 → 68 + x ∉ bkc := by decide
      exact this x hx
    · unfold RSr at o8 ⊢
      rw [(fm 6 (by decide)).2]
      exact o8
/-- one more kept row -/
theorem UD_kp {P : Pl} {A : Ab} {hc hm hm2 : HS} {s : Nat → Int32} {u f : Nat} {ps : Nat → Ab} (W : WF P A) (h1 : u ≤ 8) (h2 : f < 8) (h3 : hc.1 20 3 = nI f) (h4 : hc.1 20 4 = nI u) (h6 : ∀ j, j < u → UD1 P hc hm f ps j) (Rc : RC P A (hc.1 82)) (Rm : RM0 P A s) (b4 : hm2.1 0 23 = nI (min (u + 1) 8)) (b5 : ∀ i x, i < (if u = 8 then 7 else u) → x < 79 → hm2.1 7 (79 * i + x) = hm.1 7 (79 * (i + (if u = 8 then 1 else 0)) + x)) (b6 : ∀ x, x < 79 → hm2.1 7 (79 * (if u = 8 then 7 else u) + x) = s (72 + x)) : ∃ hc2, f_Desk_rememberRow 82 hc = some ((), hc2) ∧ Fr [20, 23, 24, 25, 26, 27, 28, 29, 30] hc hc2 ∧ UD P hc2 hm2 := by
  obtain ⟨⟨wN, wNM, wM, wCo, w3, w4, w5, wC, wD, wK⟩, wAc, wAk, wAw, wAf⟩ := id W
  obtain ⟨hc2, f2, a1, a2, a3, a4, a5, a6, a7⟩ := C_remRow (Or.inr rfl) h1 h2 h3 h4
  refine ⟨hc2, a1, a2, min (u + 1) 8, f2, fun i => if i < (if u = 8 then 7 else u) then ps (i + (if u = 8 then 1 else 0)) else zA A, by omega, a3, a4, a5, b4, fun i hi => ?_⟩
  unfold UD1
  by_cases e : i < (if u = 8 then 7 else u)
  · have q := h6 (i + (if u = 8 then 1 else 0)) (by split at e <;> split <;> omega)
    simp only [if_pos e]
    rw [a6 i e]
    refine ⟨q.1, q.2.1, ?_⟩
    have es : seg (hm2.1 7) (79 * i) = seg (hm.1 7) (79 * (i + (if u = 8 then 1 else 0))) := by
      funext x
      simp only [seg]
      by_cases y : x < 151
      · rw [if_pos y, if_pos y, b5 i (x - 72) e (by omega)]
      · rw [if_neg y, if_neg y]
    rw [es]
    exact q.2.2
  · have ei : i = (if u = 8 then 7 else u) := by split at e <;> split <;> omega
    simp only [if_neg e]
    rw [ei]
    refine ⟨W, RC_zA w3 w5 Rc (fun x hx => a7 x hx), RM0_seg w3 w5 Rm (fun x hx hx2 => ?_) (fun x hx => ?_)⟩
    · simp only [seg]
      rw [if_pos hx2, b6 (x - 72) (by omega)]
      exact congrArg s (show 72 + (x - 72) = x by omega)
    · simp only [seg]
      exact if_neg (by omega)
theorem M_l3 {F u : Nat} {a v : Int32} (hu : u < 8) : ∀ (j x : Nat) (h : HS), x + j = 79 → h.1 0 23 = nI (u + 1) → ∃ f, (∀ K g, j < g → l_M_ledger_3 F a v K g (nI x) h = K (st h 7 f)) ∧ (∀ i, x ≤ i → i < 79 → f (79 * u + i) = h.1 8 i) ∧ ∀ i, i < 79 * u + x ∨ 79 * u + 79 ≤ i → f i = h.1 7 i := by
  intro j
  induction j with
  | zero =>
    intro x h hx e
    refine ⟨h.1 7, fun K g hg => ?_, fun i h1 h2 => by omega, fun _ _ => rfl⟩
    obtain ⟨g, rfl⟩ : ∃ z, g = z + 1 := ⟨g - 1, by omega⟩
    rw [l_M_ledger_3, ite_leN (by omega) (by omega), if_pos (by omega), st_s]
  | succ j ih =>
    intro x h hx e
    obtain ⟨f, a1, a2, a3⟩ := ih (x + 1) (sI h 7 (79 * u + x) (h.1 8 x)) (by omega) (by rw [sI_o (by decide)]; exact e)
    refine ⟨f, fun K g hg => ?_, fun i h1 h2 => ?_, fun i hi => ?_⟩
    · obtain ⟨g, rfl⟩ : ∃ z, g = z + 1 := ⟨g - 1, by omega⟩
      rw [l_M_ledger_3, ite_leN (by omega) (by omega), if_neg (by omega), ifin (by omega) (by omega), e, nI_sb (by omega), Nat.add_sub_cancel, nI_mul, nI_add, ifin (by omega) (by omega), nI_clamp (by omega), nI_clamp (by omega), bl_e, bl_e, nI_add, a1 K g (by omega), sI_st, st_st]
    · by_cases ei : i = x
      · rw [ei, a3 _ (Or.inl (by omega)), sI_e]
      · rw [a2 i (by omega) h2, sI_o (by decide)]
    · rw [a3 i (by omega), sI_n (by omega)]
theorem M_l1 {F : Nat} {a : Int32} {K : HS → Option (Int32 × HS)} (hF : 20000 ≤ F) (h : HS) : ∃ f, l_M_ledger_1 F a K F (nI 0) h = K (st h 13 f) ∧ f 0 = nI 0 ∧ f 1 = nI 0 := by
  obtain ⟨G, rfl⟩ : ∃ G, F = G + 1 + 1 + 1 + 1 + 1 := ⟨F - 5, by omega⟩
  have S : ∀ g x h, x < 4 → l_M_ledger_1 (G + 1 + 1 + 1 + 1 + 1) a K (g + 1) (nI x) h = l_M_ledger_1 (G + 1 + 1 + 1 + 1 + 1) a K g (nI (x + 1)) (sI h 13 x (nI 0)) := fun g x h hx => by
    rw [l_M_ledger_1, ite_leN (by omega) (by omega), if_neg (by omega), ifin (by omega) (by omega), nI_clamp (by omega), bl_e, bl_e, nI_add]
  refine ⟨(sI (sI (sI (sI h 13 0 (nI 0)) 13 1 (nI 0)) 13 2 (nI 0)) 13 3 (nI 0)).1 13, ?_, ?_, ?_⟩
  · rw [S _ _ _ (by omega), S _ _ _ (by omega), S _ _ _ (by omega), S _ _ _ (by omega), l_M_ledger_1, if_pos (show nI 4 ≤ nI (0 + 1 + 1 + 1 + 1) by decide)]
    congr 1
    rw [sI_st (h := h) (i := 13) (k := 0) (v := nI 0), sI_stst, sI_stst, sI_stst, st_e]
  · rw [sI_n (by decide), sI_n (by decide), sI_n (by decide), sI_e]
  · rw [sI_n (by decide), sI_n (by decide), sI_e]
/-- the reading of a LEDGER -/
theorem X_book {F n : Nat} {P : Pl} {B : Nat → Nat} {hc hm : HS} (hF : 20000 ≤ F) (Y : BYn n B hc hm) (sd : SD P hc hm) (m4 : hm.1 0 4 = nI 0) (m5 : hm.1 0 5 = nI 400) : ∃ hmB, f_M_next F (sI (sI hm 0 15 (nI 0)) 0 32 (nI 0)) = some ((), hmB) ∧ ((∃ L2 hc2 hm2, f_Ledger_read F hc = some (nI 1, hc2) ∧ (∀ K x1, l_M_ledger_0 F x1 K F hmB = K hm2) ∧ hc2.1 38 5 = nI L2 ∧ hm2.1 0 32 = nI L2 ∧ L2 ≤ 40 ∧ LR P L2 hc2 hm2 ∧ FX2 hc hm hc2 hm2 ∧ hc2.1 1 9 = nI 0 ∧ hm2.1 0 15 = nI 0) ∨ (∃ hc2 hm2, f_Ledger_read F hc = some (nI 0, hc2) ∧ (∀ K x1, l_M_ledger_0 F x1 K F hmB = some ((-2 : Int32) - hm2.1 0 16, hm2)) ∧ FL hc2 hm2 ∧ FX2 hc hm hc2 hm2)) := by
  have fxA : FX2 hc hm (sI hc 38 5 (nI 0)) (sI (sI hm 0 15 (nI 0)) 0 32 (nI 0)) := ⟨Fr_sI (by decide), Fr_t (Fr_sI (by decide)) (Fr_sI (by decide)), F0r_t (F0r_sI (by decide)) (F0r_sI (by decide)), fun _ _ => rfl⟩
  have g0 : ∀ k, k ≠ 15 → k ≠ 32 → (sI (sI hm 0 15 (nI 0)) 0 32 (nI 0)).1 0 k = hm.1 0 k := fun k h1 h2 => by rw [sI_n h2, sI_n h1]
  have Y1 : BYn n B (sI hc 38 5 (nI 0)) (sI (sI hm 0 15 (nI 0)) 0 32 (nI 0)) := BYn_fr Y (by rw [sI_o (by decide)]) (sI_o (by decide)) (g0 3 (by decide) (by decide)) (by rw [sI_o (by decide), sI_o (by decide)])
  obtain ⟨p2, a2, t2, hc2, hm2, b1, b2, b3, b4⟩ := T_begin (F := F) (most := 400) (by omega) Y1 (by omega) ((g0 5 (by decide) (by decide)).trans m5) ((g0 4 (by decide) (by decide)).trans m4) (by rw [sI_n (by decide), sI_e])
  have fx2 : FX2 hc hm hc2 hm2 := FX2_t fxA (FX_2 (TS_fx b4))
  have sd1 : SD P (sI hc 38 5 (nI 0)) (sI (sI hm 0 15 (nI 0)) 0 32 (nI 0)) := by
    have x := SD_fx (hm2 := hm) sd (show FX hc hm (sI hc 38 5 (nI 0)) hm from FX_cc (by decide))
    refine ⟨x.1, ?_, x.2.2.1, x.2.2.2⟩
    rw [sI_o (by decide), sI_o (by decide)]
    exact x.2.1
  have q2 : LGS P n p2 a2 t2 B 0 hc2 hm2 := ⟨b3, by rw [(b4.1 38 (by decide)).1, sI_e], by rw [b4.2.2 32 (by decide), sI_e], by omega, fun i hi => absurd hi (Nat.not_lt_zero _), SD_fx sd1 (TS_fx b4)⟩
  refine ⟨hm2, b2, ?_⟩
  rw [f_Ledger_read, bl_e, b1, bnd_s, bl_e]
  rcases T_bkL (F := F) (by omega) 41 0 p2 a2 t2 hc2 hm2 (by omega) q2 with ⟨L2, hc4, hm4, e1, e2, e3, e4, e5, e6, e7, e8, e9⟩ | ⟨hc4, hm4, e1, e2, e3, e4⟩
  · exact Or.inl ⟨L2, hc4, hm4, e1 F (by omega), fun K x1 => e2 K x1 F (by omega), e3, e4, e5, e6, FX2_t fx2 e7, e8, e9⟩
  · exact Or.inr ⟨hc4, hm4, e1 F (by omega), fun K x1 => e2 K x1 F (by omega), e3, FX2_t fx2 e4⟩
