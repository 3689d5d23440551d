/-! ===== an OFFICE: all LINES; the draft ahead of them ===== -/
/-- what a whole text's reading leaves alone -/
def FX2 (hc hm hc2 hm2 : HS) : Prop := Fr fxc hc hc2 ∧ Fr [0, 3, 4, 5, 14] hm hm2 ∧ F0r [4, 11, 12, 13, 14, 15, 16, 18, 19, 20, 32, 36, 37, 38, 39, 40] hm hm2 ∧ ∀ i, i < 17 → hm2.2 5 i = hm.2 5 i
theorem FX_2 {a b a1 b1 : HS} (x : FX a b a1 b1) : FX2 a b a1 b1 := ⟨x.1, x.2.1, F0r_mo (by decide) x.2.2.1, x.2.2.2⟩
theorem FX2_t {a b a1 b1 a2 b2 : HS} (x : FX2 a b a1 b1) (y : FX2 a1 b1 a2 b2) : FX2 a b a2 b2 := ⟨Fr_t x.1 y.1, Fr_t x.2.1 y.2.1, F0r_t x.2.2.1 y.2.2.1, fun i hi => (y.2.2.2 i hi).trans (x.2.2.2 i hi)⟩
theorem FX2_0 {hc hm : HS} {k : Nat} {v : Int32} (hk : k ∈ [4, 11, 12, 13, 14, 15, 16, 18, 19, 20, 32, 36, 37, 38, 39, 40]) : FX2 hc hm hc (sI hm 0 k v) := ⟨Fr_rf, Fr_sI (by decide), F0r_sI hk, fun _ _ => rfl⟩
theorem LNs_19 {n p a : Nat} {t : Nat × Nat} {B : Nat → Nat} {l c : Bool} {P : Pl} {hc hm : HS} {v : Int32} (q : LNs n p a t B l c P hc hm) : LNs n p a t B l c P hc (sI hm 0 19 v) := by
  obtain ⟨q1, ⟨d1, d2, d3, d4⟩, q3, q4, q5, q6⟩ := q
  exact ⟨RD_fr q1 rfl rfl rfl (fun i hi => sI_n (by
    have : ∀ x, x ∈ [3, 4, 5, 11, 12, 14, 15] → x ≠ 19 := by decide
    exact this i hi)) (sI_o (by decide)) rfl, ⟨d1, by rw [sI_o (by decide)]; exact d2, d3, by rw [sI_o (by decide)]; exact d4⟩, q3, q4, by rw [sI_n (by decide)]; exact q5, q6⟩
theorem O_loop {F n : Nat} {B : Nat → Nat} (hF : 2000 ≤ F) : ∀ (m p a : Nat) (t : Nat × Nat) (l c : Bool) (P : Pl) (hc hm : HS) (lines : Nat), 941 ≤ a + m → LNs n p a t B l c P hc hm → 2 * lines ≤ a → hm.1 0 19 = nI lines → (∃ lines2 P2 hc2 hm2, (∀ g, m < g → l_OffR_read_0 F g (nI lines) hc = some (nI lines2, hc2)) ∧ (∀ K g, m < g → l_M_office_0 F K g hm = K hm2) ∧ DR P2 hc2 hm2 ∧ FX2 hc hm hc2 hm2 ∧ hm2.1 0 19 = nI lines2 ∧ hc2.1 1 9 = nI 0 ∧ hm2.1 0 15 = nI 0 ∧ lines2 < 900) ∨ (∃ hc2 hm2, (∀ g, m < g → l_OffR_read_0 F g (nI lines) hc = some ((-1 : Int32), hc2)) ∧ (∀ K g, m < g → l_M_office_0 F K g hm = some ((-1 : Int32) - hm2.1 0 16, hm2)) ∧ FL hc2 hm2 ∧ FX2 hc hm hc2 hm2) := by
  intro m
  induction m with
  | zero =>
    intro p a t l c P hc hm lines ha q hl h19
    have : a ≤ 940 := q.1.2.2.2.2.2.2.2.1
    omega
  | succ m ih =>
    intro p a t l c P hc hm lines ha q hl h19
    have ha9 : a ≤ 940 := q.1.2.2.2.2.2.2.2.1
    have TK := q.1.2.2.2.2.2.2.2.2.2.2.2.2.2
    have k := TK_k1 TK
    by_cases t0 : t.1 = 0
    · refine Or.inl ⟨lines, P, hc, hm, fun g hg => ?_, fun K g hg => ?_, q.2.1, FX_2 FX_rf, h19, q.1.2.2.2.2.2.2.2.2.2.2.2.1, q.1.2.2.2.2.2.2.2.2.2.2.2.2.1, by omega⟩
      · obtain ⟨g, rfl⟩ : ∃ z, g = z + 1 := ⟨g - 1, by omega⟩
        rw [l_OffR_read_0, ite_leN (by omega) (by omega), if_neg (by omega), f_Tape_isAtEnd, if_pos (show hc.1 1 5 = 0 from k.2.2.2.2.1.mpr t0), rZ1, bnd_s, if_neg (show ¬ nI 1 = 0 by decide)]
      · obtain ⟨g, rfl⟩ : ∃ z, g = z + 1 := ⟨g - 1, by omega⟩
        rw [l_M_office_0, if_pos (show hm.1 0 11 = 0 from k.2.2.2.2.2.1.mpr t0)]
    · have eC : ∀ g, l_OffR_read_0 F (g + 1) (nI lines) hc = bnd (f_OffR_readLine F hc) (fun r9 h8 => if r9 = 0 then some ((-1 : Int32), h8) else bnd (f_Tape_takeSign F (nI 59) h8) (fun r11 h10 => if r11 = 0 then some ((-1 : Int32), h10) else l_OffR_read_0 F g (nI (lines + 1)) h10)) := fun g => by
        rw [l_OffR_read_0, ite_leN (by omega) (by omega), if_neg (by omega), f_Tape_isAtEnd, if_neg (show ¬ hc.1 1 5 = 0 from fun e => t0 (k.2.2.2.2.1.mp e)), rZ0, bnd_s, if_pos (show nI 0 = 0 from rfl)]
        dsimp only [bl]
        rw [nI_add]
      have eM : ∀ K g, l_M_office_0 F K (g + 1) hm = bnd (f_M_line F hm) (fun r9 h8 => if r9 = 0 then some (((-1 : Int32) - (h8.1 0 16)), h8) else bnd (f_M_sign F (nI 59) h8) (fun r11 h10 => if r11 = 0 then some (((-1 : Int32) - (h10.1 0 16)), h10) else l_M_office_0 F K g (sI h10 0 19 ((h10.1 0 19) + (nI 1))))) := fun K g => by
        rw [l_M_office_0, if_neg (show ¬ hm.1 0 11 = 0 from fun e => t0 (k.2.2.2.2.2.1.mp e))]
        rfl
      rcases L_any hF q with ⟨p2, a2, t2, l2, c2, P2, hc2, hm2, b1, b2, b3, b4, b5⟩ | ⟨hc2, hm2, b1, b2, b3, b4⟩
      · rcases T_sign hF (show 59 = 40 ∨ 59 = 41 ∨ 59 = 59 ∨ 59 = 60 ∨ 59 = 61 ∨ 59 = 62 by decide) b3.1 with ⟨p3, a3, t3, hc3, hm3, c1, c2', c3, c4, c5, c6, c7⟩ | ⟨-, hc3, hm3, c1, c2', c3, c4⟩
        · have b19 : hm3.1 0 19 = nI lines := by
            rw [c6.2.2 19 (by decide), b5.2.2.1 19 (by decide), h19]
          have D3 := DR_ts b3.2.1 c6
          have q3 : LNs n p3 a3 t3 B l2 c2 P2 hc3 hm3 := ⟨c4, D3, by rw [(c6.1 19 (by decide)).1]; exact b3.2.2.1, by rw [(c6.1 19 (by decide)).1]; exact b3.2.2.2.1, by rw [c6.2.2 20 (by decide)]; exact b3.2.2.2.2.1, fun i hi => by rw [(c6.2.1 6 (by decide)).2]; exact b3.2.2.2.2.2 i hi⟩
          have fx : FX2 hc hm hc3 (sI hm3 0 19 (nI (lines + 1))) := FX2_t (FX_2 (FX_t b5 (TS_fx c6))) (FX2_0 (by decide))
          have e1 : ∀ g, l_OffR_read_0 F (g + 1) (nI lines) hc = l_OffR_read_0 F g (nI (lines + 1)) hc3 := fun g => by
            rw [eC, b1, bnd_s, if_neg (show ¬ nI 1 = 0 by decide), c2', bnd_s, if_neg (show ¬ nI 1 = 0 by decide)]
          have e2 : ∀ K g, l_M_office_0 F K (g + 1) hm = l_M_office_0 F K g (sI hm3 0 19 (nI (lines + 1))) := fun K g => by
            rw [eM, b2, bnd_s, if_neg (show ¬ nI 1 = 0 by decide), c3, bnd_s, if_neg (show ¬ nI 1 = 0 by decide), b19, nI_add]
          rcases ih p3 a3 t3 l2 c2 P2 hc3 _ (lines + 1) (by omega) (LNs_19 q3) (by omega) sI_e with ⟨ln, P4, hc4, hm4, d1, d2, d3, d4, d5, d6, d7, d8⟩ | ⟨hc4, hm4, d1, d2, d3, d4⟩
          · refine Or.inl ⟨ln, P4, hc4, hm4, fun g hg => ?_, fun K g hg => ?_, d3, FX2_t fx d4, d5, d6, d7, d8⟩
            · obtain ⟨g, rfl⟩ : ∃ z, g = z + 1 := ⟨g - 1, by omega⟩
              rw [e1, d1 g (by omega)]
            · obtain ⟨g, rfl⟩ : ∃ z, g = z + 1 := ⟨g - 1, by omega⟩
              rw [e2, d2 K g (by omega)]
          · refine Or.inr ⟨hc4, hm4, fun g hg => ?_, fun K g hg => ?_, d3, FX2_t fx d4⟩
            · obtain ⟨g, rfl⟩ : ∃ z, g = z + 1 := ⟨g - 1, by omega⟩
              rw [e1, d1 g (by omega)]
            · obtain ⟨g, rfl⟩ : ∃ z, g = z + 1 := ⟨g - 1, by omega⟩
              rw [e2, d2 K g (by omega)]
        · refine Or.inr ⟨hc3, hm3, fun g hg => ?_, fun K g hg => ?_, c3, FX_2 (FX_t b5 c4)⟩
          · obtain ⟨g, rfl⟩ : ∃ z, g = z + 1 := ⟨g - 1, by omega⟩
            rw [eC, b1, bnd_s, if_neg (show ¬ nI 1 = 0 by decide), c1, bnd_s, if_pos (show nI 0 = 0 from rfl)]
          · obtain ⟨g, rfl⟩ : ∃ z, g = z + 1 := ⟨g - 1, by omega⟩
            rw [eM, b2, bnd_s, if_neg (show ¬ nI 1 = 0 by decide), c2', bnd_s, if_pos (show nI 0 = 0 from rfl)]
      · refine Or.inr ⟨hc2, hm2, fun g hg => ?_, fun K g hg => ?_, b3, FX_2 b4⟩
        · obtain ⟨g, rfl⟩ : ∃ z, g = z + 1 := ⟨g - 1, by omega⟩
          rw [eC, b1, bnd_s, if_pos (show nI 0 = 0 from rfl)]
        · obtain ⟨g, rfl⟩ : ∃ z, g = z + 1 := ⟨g - 1, by omega⟩
          rw [eM, b2, bnd_s, if_pos (show nI 0 = 0 from rfl)]
/-! the draft ahead of any LINE -/
def Pz : Pl := fun a b => match a with
  | 0 => (match b with | 0 => 1 | 1 => 9 | 2 => 50 | _ => 0)
  | 2 => 1
  | 3 => 1
  | 4 => 1
  | 10 => 1
  | _ => 0
theorem C_peL {F : Nat} : ∀ (j x : Nat) (h : HS), x + j = 12 → ∀ g, j < g → l_Plan_empty_11_0 F g (nI x) h = some ((), st h 16 (rg (h.1 16) x 12 (fun _ => nI 0))) := by
  intro j
  induction j with
  | zero =>
    intro x h hx g hg
    obtain ⟨g, rfl⟩ : ∃ z, g = z + 1 := ⟨g - 1, by omega⟩
    rw [l_Plan_empty_11_0, ite_leN (by omega) (by omega), if_pos (by omega), show x = 12 by omega, rg_0, st_s]
  | succ j ih =>
    intro x h hx g hg
    obtain ⟨g, rfl⟩ : ∃ z, g = z + 1 := ⟨g - 1, by omega⟩
    rw [l_Plan_empty_11_0, ite_leN (by omega) (by omega), if_neg (by omega), ifin (by omega) (by omega), nI_clamp (by omega), bl_e, bl_e, nI_add, sI_st, ih (x + 1) _ (by omega) g (by omega), st_st, st_e, rg_s (g := fun _ => nI 0) (show x < 12 by omega) rfl]
theorem M_clL {F : Nat} {K : HS → Option (Unit × HS)} : ∀ (j x : Nat) (h : HS), x + j = 72 → ∀ g, j < g → l_M_clears_0 F K g (nI x) h = K (st h 3 (rg (h.1 3) x 72 (fun _ => nI 0))) := by
  intro j
  induction j with
  | zero =>
    intro x h hx g hg
    obtain ⟨g, rfl⟩ : ∃ z, g = z + 1 := ⟨g - 1, by omega⟩
    rw [l_M_clears_0, ite_leN (by omega) (by omega), if_pos (by omega), show x = 72 by omega, rg_0, st_s]
  | succ j ih =>
    intro x h hx g hg
    obtain ⟨g, rfl⟩ : ∃ z, g = z + 1 := ⟨g - 1, by omega⟩
    rw [l_M_clears_0, ite_leN (by omega) (by omega), if_neg (by omega), ifin (by omega) (by omega), nI_clamp (by omega), bl_e, bl_e, nI_add, sI_st, ih (x + 1) _ (by omega) g (by omega), st_st, st_e, rg_s (g := fun _ => nI 0) (show x < 72 by omega) rfl]
theorem C_pempty {F : Nat} (hF : 2000 ≤ F) (h : HS) : ∃ h2, f_Plan_empty_11 F h = some ((), h2) ∧ h2.1 11 0 = nI 1 ∧ h2.1 11 1 = nI 9 ∧ h2.1 11 2 = nI 50 ∧ h2.1 11 3 = nI 0 ∧ h2.1 11 4 = nI 0 ∧ h2.1 11 5 = nI 0 ∧ (∀ i, i < 12 → h2.1 16 i = nI 0) ∧ Fr [11, 16] h h2 ∧ h2.2 = h.2 := by
  refine ⟨st (sI (sI (sI (sI (sI (sI h 11 0 (nI 1)) 11 1 (nI 9)) 11 2 (nI 50)) 11 3 (nI 0)) 11 4 (nI 0)) 11 5 (nI 0)) 16 (rg ((sI (sI (sI (sI (sI (sI h 11 0 (nI 1)) 11 1 (nI 9)) 11 2 (nI 50)) 11 3 (nI 0)) 11 4 (nI 0)) 11 5 (nI 0)).1 16) 0 12 (fun _ => nI 0)), by rw [f_Plan_empty_11, bl_e, bl_e, bl_e, bl_e, bl_e, bl_e, bl_e, C_peL 12 0 _ (by omega) F (by omega)], ?_, ?_, ?_, ?_, ?_, ?_, fun i hi => ?_, ?_, rfl⟩
  · rw [st_o (by decide), sI_n (by decide), sI_n (by decide), sI_n (by decide), sI_n (by decide), sI_n (by decide), sI_e]
  · rw [st_o (by decide), sI_n (by decide), sI_n (by decide), sI_n (by decide), sI_n (by decide), sI_e]
  · rw [st_o (by decide), sI_n (by decide), sI_n (by decide), sI_n (by decide), sI_e]
  · rw [st_o (by decide), sI_n (by decide), sI_n (by decide), sI_e]
  · rw [st_o (by decide), sI_n (by decide), sI_e]
  · rw [st_o (by decide), sI_e]
  · rw [st_e]
    show (if 0 ≤ i ∧ i < 12 then nI 0 else _) = nI 0
    rw [if_pos ⟨Nat.zero_le _, hi⟩]
  · exact Fr_t (Fr_t (Fr_t (Fr_t (Fr_t (Fr_t (Fr_sI (by decide)) (Fr_sI (by decide))) (Fr_sI (by decide))) (Fr_sI (by decide))) (Fr_sI (by decide))) (Fr_sI (by decide))) (Fr_st (by decide))
theorem M_clears {F : Nat} (hF : 2000 ≤ F) (h : HS) : ∃ h2, f_M_clears F h = some ((), h2) ∧ (∀ i, i < 72 → h2.1 3 i = if i = 4 then nI 1 else if i = 5 then nI 9 else if i = 6 then nI 50 else nI 0) ∧ Fr [3] h h2 ∧ h2.2 = h.2 := by
  refine ⟨sI (sI (sI (st h 3 (rg (h.1 3) 0 72 (fun _ => nI 0))) 3 4 (nI 1)) 3 5 (nI 9)) 3 6 (nI 50), by rw [f_M_clears, bl_e, M_clL 72 0 h (by omega) F (by omega), ifin (by omega) (by omega), bl_e, ifin (by omega) (by omega), bl_e, ifin (by omega) (by omega), bl_e, nI_clamp (by omega), nI_clamp (by omega), nI_clamp (by omega)], fun i hi => ?_, Fr_t (Fr_t (Fr_t (Fr_st (by decide)) (Fr_sI (by decide))) (Fr_sI (by decide))) (Fr_sI (by decide)), rfl⟩
  rw [sI_u, sI_u, sI_u, st_e]
  show (if i = 6 then nI 50 else if i = 5 then nI 9 else if i = 4 then nI 1 else if 0 ≤ i ∧ i < 72 then nI 0 else _) = _
  rw [if_pos (show 0 ≤ i ∧ i < 72 from ⟨Nat.zero_le _, hi⟩)]
  by_cases e4 : i = 4
  · subst e4; rfl
  · by_cases e5 : i = 5
    · subst e5; rfl
    · by_cases e6 : i = 6
      · subst e6; rfl
      · simp only [if_neg e4, if_neg e5, if_neg e6]
theorem rumN_0 : ∀ n, rumN Pz n = 0 := by
  intro n
  induction n with
  | zero => rfl
  | succ n ih => unfold rumN; rw [ih]; rfl
theorem DR_z {hc hm : HS} (c0 : hc.1 11 0 = nI 1) (c1 : hc.1 11 1 = nI 9) (c2 : hc.1 11 2 = nI 50) (c3 : hc.1 11 3 = nI 0) (c4 : hc.1 11 4 = nI 0) (c5 : hc.1 11 5 = nI 0) (c6 : ∀ i, i < 12 → hc.1 16 i = nI 0) (m : ∀ i, i < 72 → hm.1 3 i = if i = 4 then nI 1 else if i = 5 then nI 9 else if i = 6 then nI 50 else nI 0) : DR Pz hc hm := by
  refine ⟨⟨⟨c0, c1, c2, c3, c4, c5⟩, fun c w h => absurd h (Nat.not_lt_zero _), fun c w hc hw _ => ?_, fun c w h => absurd h (Nat.not_lt_zero _), fun c h => absurd h (Nat.not_lt_zero _), fun c h => absurd h (Nat.not_lt_zero _), fun c h => absurd h (Nat.not_lt_zero _), fun c h => absurd h (Nat.not_lt_zero _)⟩, ⟨⟨m 0 (by omega), m 1 (by omega), m 2 (by omega), ?_, m 4 (by omega), m 5 (by omega), m 6 (by omega)⟩, fun c h => absurd h (Nat.not_lt_zero _), fun c h => absurd h (Nat.not_lt_zero _), fun c h => absurd h (Nat.not_lt_zero _), fun c h => absurd h (Nat.not_lt_zero _), fun c h => absurd h (Nat.not_lt_zero _), fun c h => absurd h (Nat.not_lt_zero _)⟩, ?_, fun c _ h6 => ⟨rfl, ?_⟩⟩
  · rw [c6 _ (by omega)]
    rcases (show w = 0 ∨ w = 1 by omega) with e | e <;> subst e <;> rfl
  · rw [m 3 (by omega), rumN_0]; rfl
  · refine ⟨by decide, by decide, by decide, by decide, by decide, by decide, by decide, fun c => ?_, fun d => ?_, fun k => ?_⟩
    · show 0 ≤ 99 ∧ 1 ≤ 1 ∧ 1 ≤ 99 ∧ 1 ≤ 1 ∧ 1 ≤ 99 ∧ 1 ≤ 1 ∧ 1 ≤ 20 ∧ 0 ≤ 99 ∧ 0 ≤ 99
      decide
    · show 0 ≤ 20 ∧ 0 ≤ 20 ∧ 0 ≤ 20
      decide
    · show 1 ≤ 1 ∧ 1 ≤ 9
      decide
  · rw [m _ (by omega), if_neg (by omega), if_neg (by omega), if_neg (by omega)]
/-- the whole text of an OFFICE is read, or a FAULT -/
theorem O_read {F n : Nat} {B : Nat → Nat} {hc hm : HS} (hF : 2000 ≤ F) (Y : BYn n B hc hm) (R : RSr hm) (m4 : hm.1 0 4 = nI 0) (m5 : hm.1 0 5 = nI 900) : (∃ lines P2 hc2 hm2, f_OffR_read F hc = some (nI lines, hc2) ∧ (∀ K : HS → Option (Int32 × HS), bl (sI hm 0 15 (nI 0)) (fun h3 => bl (sI h3 0 19 (nI 0)) (fun h4 => bl (sI h4 0 20 (nI 0)) (fun h5 => bnd (f_M_clears F h5) (fun _ h6 => bnd (f_M_next F h6) (fun _ h7 => l_M_office_0 F K F h7))))) = K hm2) ∧ DR P2 hc2 hm2 ∧ FX2 hc hm hc2 hm2 ∧ hm2.1 0 19 = nI lines ∧ hc2.1 1 9 = nI 0 ∧ hm2.1 0 15 = nI 0 ∧ lines < 900) ∨ (∃ hc2 hm2, f_OffR_read F hc = some ((-1 : Int32), hc2) ∧ (∀ K : HS → Option (Int32 × HS), bl (sI hm 0 15 (nI 0)) (fun h3 => bl (sI h3 0 19 (nI 0)) (fun h4 => bl (sI h4 0 20 (nI 0)) (fun h5 => bnd (f_M_clears F h5) (fun _ h6 => bnd (f_M_next F h6) (fun _ h7 => l_M_office_0 F K F h7))))) = some ((-1 : Int32) - hm2.1 0 16, hm2)) ∧ FL hc2 hm2 ∧ FX2 hc hm hc2 hm2) := by
  obtain ⟨hc1, a1, a2, a3, a4, a5, a6, a7, a8, a9, a10⟩ := C_pempty hF hc
  obtain ⟨hm1, b1, b2, b3, b4⟩ := M_clears hF (sI (sI (sI hm 0 15 (nI 0)) 0 19 (nI 0)) 0 20 (nI 0))
  have g0 : ∀ k, hm1.1 0 k = (sI (sI (sI hm 0 15 (nI 0)) 0 19 (nI 0)) 0 20 (nI 0)).1 0 k := fun k => by rw [(b3 0 (by decide)).1]
  have gk : ∀ k, k ≠ 15 → k ≠ 19 → k ≠ 20 → hm1.1 0 k = hm.1 0 k := fun k h1 h2 h3 => by rw [g0, sI_n h3, sI_n h2, sI_n h1]
  have fx1 : FX2 hc hm (sI (sI hc1 19 2 (nI 0)) 19 3 (nI 0)) hm1 := by
    refine ⟨Fr_t (Fr_mo (by decide) a9) (Fr_t (Fr_sI (by decide)) (Fr_sI (by decide))), Fr_t (Fr_t (Fr_t (Fr_sI (by decide)) (Fr_sI (by decide))) (Fr_sI (by decide))) (Fr_mo (by decide) b3), fun k hk => gk k (fun e => hk (by rw [e]; decide)) (fun e => hk (by rw [e]; decide)) (fun e => hk (by rw [e]; decide)), fun i _ => by rw [b4]; rfl⟩
  have D1 : DR Pz (sI (sI hc1 19 2 (nI 0)) 19 3 (nI 0)) hm1 := by
    have e : ∀ x, x ≠ 19 → (sI (sI hc1 19 2 (nI 0)) 19 3 (nI 0)).1 x = hc1.1 x := fun x hx => by rw [sI_o hx, sI_o hx]
    exact DR_z (by rw [e 11 (by decide)]; exact a2) (by rw [e 11 (by decide)]; exact a3) (by rw [e 11 (by decide)]; exact a4) (by rw [e 11 (by decide)]; exact a5) (by rw [e 11 (by decide)]; exact a6) (by rw [e 11 (by decide)]; exact a7) (fun i hi => by rw [e 16 (by decide)]; exact a8 i hi) b2
  have Y1 : BYn n B (sI (sI hc1 19 2 (nI 0)) 19 3 (nI 0)) hm1 := BYn_fr Y (by rw [sI_o (by decide), sI_o (by decide), (a9 1 (by decide)).1]) (fx1.1 2 (by decide)).1 (gk 3 (by decide) (by decide) (by decide)) (fx1.2.1 1 (by decide)).1
  obtain ⟨p2, a2', t2, hc2, hm2, d1, d2, d3, d4⟩ := T_begin hF Y1 (by decide) (show hm1.1 0 5 = nI 900 by rw [gk 5 (by decide) (by decide) (by decide), m5]) (show hm1.1 0 4 = nI 0 by rw [gk 4 (by decide) (by decide) (by decide), m4]) (show hm1.1 0 15 = nI 0 by rw [g0, sI_n (by decide), sI_n (by decide), sI_e])
  have fx2 := FX2_t fx1 (FX_2 (TS_fx d4))
  have L2 : LNs n p2 a2' t2 B false false Pz hc2 hm2 := ⟨d3, DR_ts D1 d4, by rw [(d4.1 19 (by decide)).1, sI_n (by decide), sI_e]; rfl, by rw [(d4.1 19 (by decide)).1, sI_e]; rfl, by rw [d4.2.2 20 (by decide), g0, sI_e]; rfl, fun i hi => by rw [(fx2.2.1 6 (by decide)).2]; exact R i hi⟩
  have e19 : hm2.1 0 19 = nI 0 := by rw [d4.2.2 19 (by decide), g0, sI_n (by decide), sI_e]
  have eC : f_OffR_read F hc = l_OffR_read_0 F F (nI 0) hc2 := by
    rw [f_OffR_read, a1, bnd_s, bl_e, bl_e, d1, bnd_s, bl_e]
  have eM : ∀ K : HS → Option (Int32 × HS), bl (sI hm 0 15 (nI 0)) (fun h3 => bl (sI h3 0 19 (nI 0)) (fun h4 => bl (sI h4 0 20 (nI 0)) (fun h5 => bnd (f_M_clears F h5) (fun _ h6 => bnd (f_M_next F h6) (fun _ h7 => l_M_office_0 F K F h7))))) = l_M_office_0 F K F hm2 := fun K => by
    rw [bl_e, bl_e, bl_e, b1, bnd_s, d2, bnd_s]
  rcases O_loop hF 941 p2 a2' t2 false false Pz hc2 hm2 0 (by omega) L2 (by omega) e19 with ⟨ln, P4, hc4, hm4, x1, x2, x3, x4, x5, x6, x7, x8⟩ | ⟨hc4, hm4, x1, x2, x3, x4⟩
  · exact Or.inl ⟨ln, P4, hc4, hm4, by rw [eC, x1 F (by omega)], fun K => by rw [eM, x2 K F (by omega)], x3, FX2_t fx2 x4, x5, x6, x7, x8⟩
  · exact Or.inr ⟨hc4, hm4, by rw [eC, x1 F (by omega)], fun K => by rw [eM, x2 K F (by omega)], x3, FX2_t fx2 x4⟩
