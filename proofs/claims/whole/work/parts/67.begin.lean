/-! ===== the bureau's beginning, on both sides ===== -/
def A0 (P : Pl) (zz : Nat → Int32) : Ab := (fun a b => match a with
  | 0 => P 4 b
  | 5 => P 10 b
  | _ => 0, fun a b => match a with
  | 0 => -1
  | 3 => nI (P 0 2)
  | 7 => zz b
  | _ => 0)
theorem WF_0 {P : Pl} {zz : Nat → Int32} (W : WFP P) : WF P (A0 P zz) := by
  obtain ⟨wN, wNM, wM, wCo, w3, w4, w5, wC, wD, wK⟩ := id W
  refine ⟨W, fun c hc => ⟨Nat.zero_le _, Nat.two_pow_pos _, (wC c).2.2.2.2.2.2.1, fun _ => (wC c).2.2.2.2.2.1, fun h => absurd h (by show ¬ (0 : Nat) = 1; decide), fun _ => rfl, fun h => absurd h (by show ¬ (0 : Nat) = 2; decide), Nat.zero_le _⟩, fun k hk => ⟨Nat.le_refl _, Nat.zero_le _, Nat.zero_le _, fun h => absurd rfl h⟩, Nat.zero_le _, Nat.zero_le _⟩
theorem fo_0 (P : Pl) (zz : Nat → Int32) (c : Nat) : fo P (A0 P zz) c 0 = P 1 c ∧ ag P (A0 P zz) c 0 = P 2 c := by
  unfold fo ag
  show P 1 c + sm P 7 0 + sm P 7 0 = P 1 c ∧ P 2 c + sm P 8 0 + sm P 8 0 = P 2 c
  rw [sm_z, sm_z]
  exact ⟨rfl, rfl⟩
theorem C_bg0 {F : Nat} {K : HS → Option (Unit × HS)} : ∀ (j x : Nat) (h : HS), x + j = 91 → ∀ g, j < g → l_Desk_begin_0 F K g (nI x) h = K (st h 21 (rg (h.1 21) x 91 (fun _ => nI 0))) := by
  intro j
  induction j with
  | zero =>
    intro x h hx g hg
    obtain ⟨g, rfl⟩ : ∃ z, g = z + 1 := ⟨g - 1, by omega⟩
    rw [l_Desk_begin_0, ite_leN (by omega) (by omega), if_pos (by omega), show x = 91 by omega, rg_0, st_s]
  | succ j ih =>
    intro x h hx g hg
    obtain ⟨g, rfl⟩ : ∃ z, g = z + 1 := ⟨g - 1, by omega⟩
    rw [l_Desk_begin_0, ite_leN (by omega) (by omega), if_neg (by omega), ifin (by omega) (by omega), nI_clamp (by omega), bl_e, bl_e, nI_add, sI_st, ih (x + 1) _ (by omega) g (by omega), st_st, st_e, rg_s (g := fun _ => nI 0) (show x < 91 by omega) rfl]
theorem C_bg2 {P : Pl} {F c : Nat} {K : HS → Option (Unit × HS)} {h : HS} (W : WFP P) (q : PC P h 3) (hc : c < P 0 3) : ∀ g, 4 < g → l_Desk_begin_2 F (nI c) K g (nI 0) h = K (st h 21 (upd (upd (upd (upd (h.1 21) (c * 9 + 0) (nI (P 1 c))) (c * 9 + 1) (nI (P 2 c))) (c * 9 + 2) (nI (P 3 c))) (c * 9 + 3) (nI (P 4 c)))) := by
  obtain ⟨wN, wNM, wM, wCo, w3, w4, w5, wC, wD, wK⟩ := id W
  have step : ∀ (w : Nat) (r : Nat → Int32) (g : Nat), w < 4 → l_Desk_begin_2 F (nI c) K (g + 1) (nI w) (st h 21 r) = l_Desk_begin_2 F (nI c) K g (nI (w + 1)) (st h 21 (upd r (c * 9 + w) (nI (P (1 + w) c)))) := fun w r g hw => by
    rw [l_Desk_begin_2, ite_ltN (by omega) (by omega), if_neg (by omega), C_ofCauseP w3 (PC_st (by omega) q) hc hw, bnd_s, E_setCause (by omega) (by omega), bnd_s, bl_e, nI_add, st_st, st_e]
  intro g hg
  obtain ⟨g, rfl⟩ : ∃ z, g = z + 1 + 1 + 1 + 1 + 1 := ⟨g - 5, by omega⟩
  have s0 := step 0 (h.1 21) (g + 1 + 1 + 1 + 1) (by omega)
  rw [st_s] at s0
  rw [s0, step 1 _ _ (by omega), step 2 _ _ (by omega), step 3 _ _ (by omega), l_Desk_begin_2, if_pos (show nI 3 < nI (3 + 1) by decide)]
def R1 (P : Pl) (zz : Nat → Int32) (c : Nat) (r : Nat → Int32) : Prop := (∀ x w, x < c → w < 9 → r (x * 9 + w) = rcC P (A0 P zz) x w) ∧ ∀ i, c * 9 ≤ i → i < 91 → r i = nI 0
theorem C_bg1 {P : Pl} {zz : Nat → Int32} {F : Nat} {K : HS → Option (Unit × HS)} (hF : 2000 ≤ F) (W : WFP P) : ∀ (j c : Nat) (h : HS) (r : Nat → Int32), c + j = P 0 3 → PC P h 3 → R1 P zz c r → ∃ r2, R1 P zz (P 0 3) r2 ∧ ∀ g, j < g → l_Desk_begin_1 F K g (nI c) (st h 21 r) = K (st h 21 r2) := by
  obtain ⟨wN, wNM, wM, wCo, w3, w4, w5, wC, wD, wK⟩ := id W
  intro j
  induction j with
  | zero =>
    intro c h r hc q R
    refine ⟨r, by rw [show P 0 3 = c by omega]; exact R, fun g hg => ?_⟩
    obtain ⟨g, rfl⟩ : ∃ z, g = z + 1 := ⟨g - 1, by omega⟩
    rw [l_Desk_begin_1, C_causes (PC_st (by omega) q), bnd_s, ite_leN (by omega) (by omega), if_pos (by omega)]
  | succ j ih =>
    intro c h r hc q R
    have hcc : c < P 0 3 := by omega
    obtain ⟨ra, rb⟩ := R
    have fz := fo_0 P zz c
    obtain ⟨r2, a1, a2⟩ := ih (c + 1) h (upd (upd (upd (upd (upd (upd (upd r (c * 9 + 0) (nI (P 1 c))) (c * 9 + 1) (nI (P 2 c))) (c * 9 + 2) (nI (P 3 c))) (c * 9 + 3) (nI (P 4 c))) (c * 9 + 4) (nI 0)) (c * 9 + 5) (-1)) (c * 9 + 7) (-1)) (by omega) q (by
      refine ⟨fun x w hx hw => ?_, fun i hi hi2 => ?_⟩
      · by_cases e : x = c
        · subst e
          have z := rb (x * 9 + w) (by omega) (by omega)
          rcases (show w = 0 ∨ w = 1 ∨ w = 2 ∨ w = 3 ∨ w = 4 ∨ w = 5 ∨ w = 6 ∨ w = 7 ∨ w = 8 by omega) with e | e | e | e | e | e | e | e | e <;> subst e
          · rw [upd_n (by omega), upd_n (by omega), upd_n (by omega), upd_n (by omega), upd_n (by omega), upd_n (by omega), upd_e]
            show _ = nI (fo P (A0 P zz) x 0)
            rw [fz.1]
          · rw [upd_n (by omega), upd_n (by omega), upd_n (by omega), upd_n (by omega), upd_n (by omega), upd_e]
            show _ = nI (ag P (A0 P zz) x 0)
            rw [fz.2]
          · rw [upd_n (by omega), upd_n (by omega), upd_n (by omega), upd_n (by omega), upd_e]; rfl
          · rw [upd_n (by omega), upd_n (by omega), upd_n (by omega), upd_e]; rfl
          · rw [upd_n (by omega), upd_n (by omega), upd_e]; rfl
          · rw [upd_n (by omega), upd_e]; exact pI_0.symm
          · rw [upd_n (by omega), upd_n (by omega), upd_n (by omega), upd_n (by omega), upd_n (by omega), upd_n (by omega), upd_n (by omega), z]; rfl
          · rw [upd_e]; rfl
          · rw [upd_n (by omega), upd_n (by omega), upd_n (by omega), upd_n (by omega), upd_n (by omega), upd_n (by omega), upd_n (by omega), z]; rfl
        · rw [upd_n (by omega), upd_n (by omega), upd_n (by omega), upd_n (by omega), upd_n (by omega), upd_n (by omega), upd_n (by omega)]
          exact ra x w (by omega) hw
      · rw [upd_n (by omega), upd_n (by omega), upd_n (by omega), upd_n (by omega), upd_n (by omega), upd_n (by omega), upd_n (by omega)]
        exact rb i (by omega) hi2)
    refine ⟨r2, a1, fun g hg => ?_⟩
    obtain ⟨g, rfl⟩ : ∃ z, g = z + 1 := ⟨g - 1, by omega⟩
    rw [l_Desk_begin_1, C_causes (PC_st (by omega) q), bnd_s, ite_leN (by omega) (by omega), if_neg (by omega), bl_e, C_bg2 W (PC_st (by omega) q) hcc F (by omega), st_st, st_e, E_setCause (by omega) (by omega), bnd_s, st_st, st_e, E_setCause (by omega) (by omega), bnd_s, st_st, st_e, E_setCause (by omega) (by omega), bnd_s, st_st, st_e, bl_e, nI_add, a2 g (by omega)]
def R3 (P : Pl) (zz : Nat → Int32) (k : Nat) (r : Nat → Int32) : Prop := (∀ x w, x < P 0 3 → w < 9 → r (x * 9 + w) = rcC P (A0 P zz) x w) ∧ (∀ x w, x < k → w < 6 → r (54 + x * 6 + w) = rkC P (A0 P zz) x w) ∧ ∀ i, 54 + k * 6 ≤ i → i < 91 → r i = nI 0
theorem C_bg3 {P : Pl} {zz : Nat → Int32} {F : Nat} {K : HS → Option (Unit × HS)} (hF : 2000 ≤ F) (W : WFP P) : ∀ (j k : Nat) (h : HS) (r : Nat → Int32), k + j = P 0 5 → PC P h 3 → R3 P zz k r → ∃ r2, R3 P zz (P 0 5) r2 ∧ ∀ g, j < g → l_Desk_begin_3 F K g (nI k) (st h 21 r) = K (st h 21 r2) := by
  obtain ⟨wN, wNM, wM, wCo, w3, w4, w5, wC, wD, wK⟩ := id W
  intro j
  induction j with
  | zero =>
    intro c h r hc q R
    refine ⟨r, by rw [show P 0 5 = c by omega]; exact R, fun g hg => ?_⟩
    obtain ⟨g, rfl⟩ : ∃ z, g = z + 1 := ⟨g - 1, by omega⟩
    rw [l_Desk_begin_3, C_clerks (PC_st (by omega) q), bnd_s, ite_leN (by omega) (by omega), if_pos (by omega)]
  | succ j ih =>
    intro c h r hc q R
    have hcc : c < P 0 5 := by omega
    obtain ⟨ra, rb, rc⟩ := R
    have ez : ∀ r, f_Plan_zealOf_3 (nI c) (st h 21 r) = some (nI (P 10 c), st h 21 r) := fun r => by
      rw [f_Plan_zealOf_3, ifin (by omega) (by omega), nI_clamp (by omega), (PC_st (by omega) q).2.2.2.2.1 c hcc]
    obtain ⟨r2, a1, a2⟩ := ih (c + 1) h (upd (upd (upd r (54 + c * 6 + 0) (nI (P 10 c))) (54 + c * 6 + 1) (nI (P 10 c))) (54 + c * 6 + 2) (-1)) (by omega) q (by
      refine ⟨fun x w hx hw => ?_, fun x w hx hw => ?_, fun i hi hi2 => ?_⟩
      · rw [upd_n (by omega), upd_n (by omega), upd_n (by omega)]
        exact ra x w hx hw
      · by_cases e : x = c
        · subst e
          have z := rc (54 + x * 6 + w) (by omega) (by omega)
          rcases (show w = 0 ∨ w = 1 ∨ w = 2 ∨ w = 3 ∨ w = 4 ∨ w = 5 by omega) with e | e | e | e | e | e <;> subst e
          · rw [upd_n (by omega), upd_n (by omega), upd_e]; rfl
          · rw [upd_n (by omega), upd_e]; rfl
          · rw [upd_e]; exact pI_0.symm
          · rw [upd_n (by omega), upd_n (by omega), upd_n (by omega), z]; rfl
          · rw [upd_n (by omega), upd_n (by omega), upd_n (by omega), z]; rfl
          · rw [upd_n (by omega), upd_n (by omega), upd_n (by omega), z]; rfl
        · rw [upd_n (by omega), upd_n (by omega), upd_n (by omega)]
          exact rb x w (by omega) hw
      · rw [upd_n (by omega), upd_n (by omega), upd_n (by omega)]
        exact rc i (by omega) hi2)
    refine ⟨r2, a1, fun g hg => ?_⟩
    obtain ⟨g, rfl⟩ : ∃ z, g = z + 1 := ⟨g - 1, by omega⟩
    rw [l_Desk_begin_3, C_clerks (PC_st (by omega) q), bnd_s, ite_leN (by omega) (by omega), if_neg (by omega), ez, bnd_s, E_setClerk (by omega) (by omega), bnd_s, st_st, st_e, ez, bnd_s, E_setClerk (by omega) (by omega), bnd_s, st_st, st_e, E_setClerk (by omega) (by omega), bnd_s, st_st, st_e, bl_e, nI_add, a2 g (by omega)]
theorem C_begin {P : Pl} {zz : Nat → Int32} {F : Nat} {h : HS} (hF : 2000 ≤ F) (W : WFP P) (q : PC P h 3) : ∃ r, f_Desk_begin F h = some ((), st h 21 r) ∧ RC P (A0 P zz) r := by
  obtain ⟨wN, wNM, wM, wCo, w3, w4, w5, wC, wD, wK⟩ := id W
  have z0 : ∀ i, i < 91 → (rg (h.1 21) 0 91 (fun _ => nI 0)) i = nI 0 := fun i hi => if_pos ⟨Nat.zero_le _, hi⟩
  obtain ⟨r2, a1, a2⟩ := C_bg1 (F := F) (zz := zz) (K := fun h18 => bl (nI 0) (fun v19 => l_Desk_begin_3 F (fun h30 => bnd (f_Plan_coin_3 h30) (fun r32 h31 => bnd (f_Desk_setNow (nI 1) r32 h31) (fun _ h33 => bnd (f_Desk_setNow (nI 5) (-1 : Int32) h33) (fun _ h34 => some ((), h34))))) F v19 h18)) hF W (P 0 3) 0 h (rg (h.1 21) 0 91 (fun _ => nI 0)) (by omega) q ⟨fun x w hx => absurd hx (Nat.not_lt_zero _), fun i _ hi => z0 i hi⟩
  obtain ⟨r3, b1, b2⟩ := C_bg3 (F := F) (zz := zz) (K := fun h30 => bnd (f_Plan_coin_3 h30) (fun r32 h31 => bnd (f_Desk_setNow (nI 1) r32 h31) (fun _ h33 => bnd (f_Desk_setNow (nI 5) (-1 : Int32) h33) (fun _ h34 => some ((), h34))))) hF W (P 0 5) 0 h r2 (by omega) q ⟨a1.1, fun x w hx => absurd hx (Nat.not_lt_zero _), fun i hi hi2 => a1.2 i (by omega) hi2⟩
  refine ⟨upd (upd r3 (84 + 1) (nI (P 0 2))) (84 + 5) (-1), ?_, fun x w hx hw => ?_, fun x w hx hw => ?_, fun w hw hn => ?_⟩
  · rw [f_Desk_begin, bl_e, C_bg0 91 0 h (by omega) F (by omega), bl_e, a2 F (by omega), bl_e, b2 F (by omega), f_Plan_coin_3, bnd_s, (PC_st (by omega) q).1.2.2.1, E_setNow (by omega), bnd_s, st_st, st_e, E_setNow (by omega), bnd_s, st_st, st_e]
  · rw [upd_n (by omega), upd_n (by omega)]
    exact b1.1 x w hx hw
  · rw [upd_n (by omega), upd_n (by omega)]
    exact b1.2.1 x w hx hw
  · have z := b1.2.2 (84 + w) (by omega) (by omega)
    rcases (show w = 0 ∨ w = 1 ∨ w = 2 ∨ w = 4 ∨ w = 5 ∨ w = 6 by omega) with e | e | e | e | e | e <;> subst e
    · rw [upd_n (by omega), upd_n (by omega), z]; rfl
    · rw [upd_n (by omega), upd_e]; rfl
    · rw [upd_n (by omega), upd_n (by omega), z]; rfl
    · rw [upd_n (by omega), upd_n (by omega), z]; rfl
    · rw [upd_e]; exact pI_0.symm
    · rw [upd_n (by omega), upd_n (by omega), z]; rfl
/-! the reference -/
theorem M_of1 {F : Nat} : ∀ (j x : Nat) (h : HS), x + j = 332 → ∃ s, (∀ K g, j < g → l_M_office_1 F K g (nI x) h = K (st h 2 s)) ∧ (∀ i, x ≤ i → i < 332 → s i = if i < 72 then h.1 3 i else nI 0) ∧ ∀ i, i < x ∨ 332 ≤ i → s i = h.1 2 i := by
  intro j
  induction j with
  | zero =>
    intro x h hx
    refine ⟨h.1 2, fun K g hg => ?_, fun i h1 h2 => by omega, fun _ _ => rfl⟩
    obtain ⟨g, rfl⟩ : ∃ z, g = z + 1 := ⟨g - 1, by omega⟩
    rw [l_M_office_1, ite_leN (by omega) (by omega), if_pos (by omega), st_s]
  | succ j ih =>
    intro x h hx
    obtain ⟨s, a1, a2, a3⟩ := ih (x + 1) (sI h 2 x (if x < 72 then h.1 3 x else nI 0)) (by omega)
    refine ⟨s, fun K g hg => ?_, fun i h1 h2 => ?_, fun i hi => ?_⟩
    · obtain ⟨g, rfl⟩ : ∃ z, g = z + 1 := ⟨g - 1, by omega⟩
      have a1 := a1 K g (by omega)
      rw [sI_st, st_st] at a1
      rw [l_M_office_1, ite_leN (by omega) (by omega), if_neg (by omega)]
      dsimp only [bl]
      rw [ite_leN (by omega) (by omega), ifin (by omega) (by omega), nI_clamp (by omega), nI_add, ← a1]
      by_cases z : x < 72
      · rw [if_neg (by omega), ifin (by omega) (by omega), ifin (by omega) (by omega), if_pos z, sI_st]
      · rw [if_pos (by omega), if_neg z, sI_st]
    · by_cases e : i = x
      · rw [e, a3 x (Or.inl (by omega)), sI_e]
      · rw [a2 i (by omega) h2, sI_o (by decide)]
    · rw [a3 i (by omega), sI_n (by omega)]
theorem M_of2 {F : Nat} : ∀ (j x : Nat) (h : HS), x + j = 17 → ∃ h2, (∀ K g, j < g → l_M_office_2 F K g (nI x) h = K h2) ∧ (∀ i, x ≤ i → i < 17 → h2.2 5 i = h.2 5 (17 + i)) ∧ (∀ i, i < x ∨ 17 ≤ i → h2.2 5 i = h.2 5 i) ∧ h2.1 = h.1 ∧ ∀ a, a ≠ 5 → h2.2 a = h.2 a := by
  intro j
  induction j with
  | zero =>
    intro x h hx
    refine ⟨h, fun K g hg => ?_, fun i h1 h2 => by omega, fun _ _ => rfl, rfl, fun _ _ => rfl⟩
    obtain ⟨g, rfl⟩ : ∃ z, g = z + 1 := ⟨g - 1, by omega⟩
    rw [l_M_office_2, ite_leN (by omega) (by omega), if_pos (by omega)]
  | succ j ih =>
    intro x h hx
    obtain ⟨h2, a1, a2, a3, a4, a5⟩ := ih (x + 1) (sL h 5 x (h.2 5 (17 + x))) (by omega)
    refine ⟨h2, fun K g hg => ?_, fun i h1 h2 => ?_, fun i hi => ?_, a4, fun a ha => by rw [a5 a ha, sL_o ha]⟩
    · obtain ⟨g, rfl⟩ : ∃ z, g = z + 1 := ⟨g - 1, by omega⟩
      rw [l_M_office_2, ite_leN (by omega) (by omega), if_neg (by omega), nI_add, ifin (by omega) (by omega), ifin (by omega) (by omega), nI_clamp (by omega), nI_clamp (by omega), bl_e, bl_e, nI_add, a1 K g (by omega)]
    · by_cases e : i = x
      · rw [e, a3 x (Or.inl (by omega)), sL_e]
      · rw [a2 i (by omega) h2, sL_n (by omega)]
    · rw [a3 i (by omega), sL_n (by omega)]
def bgS (s : Nat → Int32) (k i : Nat) : Int32 := if 78 + k ≤ i ∧ i < 84 then s (i - 71) else if 84 + k ≤ i ∧ i < 90 then s (i - 71) else if 90 + k ≤ i ∧ i < 96 then s (i - 65) else if 114 + k ≤ i ∧ i < 120 then -1 else s i
theorem M_bg0 {F : Nat} : ∀ (j k : Nat) (h : HS), k + j = 6 → ∃ s, (∀ K g, j < g → l_M_begins_0 F K g (nI k) h = K (st h 2 s)) ∧ ∀ i, s i = bgS (h.1 2) k i := by
  intro j
  induction j with
  | zero =>
    intro k h hk
    refine ⟨h.1 2, fun K g hg => ?_, fun i => ?_⟩
    · obtain ⟨g, rfl⟩ : ∃ z, g = z + 1 := ⟨g - 1, by omega⟩
      rw [l_M_begins_0, ite_leN (by omega) (by omega), if_pos (by omega), st_s]
    · unfold bgS
      rw [if_neg (by omega), if_neg (by omega), if_neg (by omega), if_neg (by omega)]
  | succ j ih =>
    intro k h hk
    obtain ⟨s, a1, a2⟩ := ih (k + 1) (sI (sI (sI (sI h 2 (78 + k) (h.1 2 (7 + k))) 2 (84 + k) (h.1 2 (13 + k))) 2 (90 + k) (h.1 2 (25 + k))) 2 (114 + k) (-1)) (by omega)
    refine ⟨s, fun K g hg => ?_, fun i => ?_⟩
    · obtain ⟨g, rfl⟩ : ∃ z, g = z + 1 := ⟨g - 1, by omega⟩
      have a1 := a1 K g (by omega)
      rw [l_M_begins_0, ite_leN (by omega) (by omega), if_neg (by omega), nI_add, nI_add, ifin (by omega) (by omega), ifin (by omega) (by omega), nI_clamp (by omega), nI_clamp (by omega), bl_e, nI_add, nI_add, ifin (by omega) (by omega), ifin (by omega) (by omega), nI_clamp (by omega), nI_clamp (by omega), sI_n (show 13 + k ≠ 78 + k by omega), bl_e, nI_add, nI_add, ifin (by omega) (by omega), ifin (by omega) (by omega), nI_clamp (by omega), nI_clamp (by omega), sI_n (show 25 + k ≠ 84 + k by omega), sI_n (show 25 + k ≠ 78 + k by omega), bl_e, nI_add, ifin (by omega) (by omega), nI_clamp (by omega), bl_e, bl_e, nI_add, a1]
      rw [sI_st, sI_st, sI_st, sI_st, st_st, st_st, st_st, st_st]
    · rw [a2 i, sI_u, sI_u, sI_u, sI_u]
      have e : ∀ i, upd (upd (upd (upd (h.1 2) (78 + k) (h.1 2 (7 + k))) (84 + k) (h.1 2 (13 + k))) (90 + k) (h.1 2 (25 + k))) (114 + k) (-1) i = if i = 114 + k then -1 else if i = 90 + k then h.1 2 (25 + k) else if i = 84 + k then h.1 2 (13 + k) else if i = 78 + k then h.1 2 (7 + k) else h.1 2 i := fun i => rfl
      unfold bgS
      rw [e, e, e]
      by_cases x1 : 78 + k ≤ i ∧ i < 84
      · rw [if_pos x1]
        by_cases y : i = 78 + k
        · rw [if_neg (by omega), if_neg (by omega), if_neg (by omega), if_neg (by omega), if_neg (by omega), if_neg (by omega), if_neg (by omega), if_pos y]
          exact congrArg (h.1 2) (by omega)
        · rw [if_pos (by omega), if_neg (by omega), if_neg (by omega), if_neg (by omega), if_neg (by omega)]
      · rw [if_neg x1, if_neg (show ¬ (78 + (k + 1) ≤ i ∧ i < 84) by omega)]
        by_cases x2 : 84 + k ≤ i ∧ i < 90
        · rw [if_pos x2]
          by_cases y : i = 84 + k
          · rw [if_neg (by omega), if_neg (by omega), if_neg (by omega), if_neg (by omega), if_neg (by omega), if_pos y]
            exact congrArg (h.1 2) (by omega)
          · rw [if_pos (by omega), if_neg (by omega), if_neg (by omega), if_neg (by omega), if_neg (by omega)]
        · rw [if_neg x2, if_neg (show ¬ (84 + (k + 1) ≤ i ∧ i < 90) by omega)]
          by_cases x3 : 90 + k ≤ i ∧ i < 96
          · rw [if_pos x3]
            by_cases y : i = 90 + k
            · rw [if_neg (by omega), if_neg (by omega), if_neg (by omega), if_pos y]
              exact congrArg (h.1 2) (by omega)
            · rw [if_pos (by omega), if_neg (by omega), if_neg (by omega), if_neg (by omega), if_neg (by omega)]
          · rw [if_neg x3, if_neg (show ¬ (90 + (k + 1) ≤ i ∧ i < 96) by omega)]
            by_cases x4 : 114 + k ≤ i ∧ i < 120
            · rw [if_pos x4]
              by_cases y : i = 114 + k
              · rw [if_neg (by omega), if_pos y]
              · rw [if_pos (by omega)]
            · rw [if_neg x4, if_neg (by omega), if_neg (by omega), if_neg (by omega), if_neg (by omega), if_neg (by omega)]
theorem M_bg1 {F : Nat} : ∀ (j k : Nat) (h : HS), k + j = 5 → ∃ s, (∀ g, j < g → l_M_begins_1 F g (nI k) h = some ((), st h 2 s)) ∧ (∀ i, 126 + k ≤ i → i < 131 → s i = h.1 2 (i - 59)) ∧ ∀ i, i < 126 + k ∨ 131 ≤ i → s i = h.1 2 i := by
  intro j
  induction j with
  | zero =>
    intro k h hk
    refine ⟨h.1 2, fun g hg => ?_, fun i h1 h2 => by omega, fun _ _ => rfl⟩
    obtain ⟨g, rfl⟩ : ∃ z, g = z + 1 := ⟨g - 1, by omega⟩
    rw [l_M_begins_1, ite_leN (by omega) (by omega), if_pos (by omega), st_s]
  | succ j ih =>
    intro k h hk
    obtain ⟨s, a1, a2, a3⟩ := ih (k + 1) (sI h 2 (126 + k) (h.1 2 (67 + k))) (by omega)
    refine ⟨s, fun g hg => ?_, fun i h1 h2 => ?_, fun i hi => ?_⟩
    · obtain ⟨g, rfl⟩ : ∃ z, g = z + 1 := ⟨g - 1, by omega⟩
      have a1 := a1 g (by omega)
      rw [l_M_begins_1, ite_leN (by omega) (by omega), if_neg (by omega), nI_add, nI_add, ifin (by omega) (by omega), ifin (by omega) (by omega), nI_clamp (by omega), nI_clamp (by omega), bl_e, bl_e, nI_add, a1, sI_st, st_st]
    · by_cases e : i = 126 + k
      · rw [a3 i (Or.inl (by omega)), e, sI_e]
        exact congrArg (h.1 2) (by omega)
      · rw [a2 i (by omega) h2, sI_n (by omega)]
    · rw [a3 i (by omega), sI_n (by omega)]
theorem M_begins {P : Pl} {F : Nat} {h : HS} (hF : 2000 ≤ F) (W : WFP P) (q : PM P (h.1 2) (h.2 5) 0) (hz : ∀ i, 72 ≤ i → i < 332 → h.1 2 i = nI 0) : ∃ s, f_M_begins F h = some ((), st h 2 s) ∧ MR P (A0 P (h.1 2)) (st h 2 s) := by
  obtain ⟨wN, wNM, wM, wCo, w3, w4, w5, wC, wD, wK⟩ := id W
  obtain ⟨⟨s0, s1, s2, s3, s4, s5, s6⟩, r1, r2, r3, r4, r5, r6⟩ := id q
  obtain ⟨t, a1, a2⟩ := M_bg0 (F := F) 6 0 (sI h 2 73 (h.1 2 6)) (by omega)
  obtain ⟨s, b1, b2, b3⟩ := M_bg1 (F := F) 5 0 (st (sI h 2 73 (h.1 2 6)) 2 t) (by omega)
  have b2 : ∀ i, 126 ≤ i → i < 131 → s i = t (i - 59) := fun i h1 h2 => by rw [b2 i (by omega) h2, st_e]
  have b3 : ∀ i, i < 126 ∨ 131 ≤ i → s i = t i := fun i hi => by rw [b3 i (by omega), st_e]
  have u : ∀ i, (sI h 2 73 (h.1 2 6)).1 2 i = if i = 73 then h.1 2 6 else h.1 2 i := fun i => by rw [sI_u]; rfl
  have lo : ∀ i, i < 72 → s i = h.1 2 i := fun i hi => by
    rw [b3 i (by omega), a2]
    unfold bgS
    rw [if_neg (by omega), if_neg (by omega), if_neg (by omega), if_neg (by omega), u, if_neg (by omega)]
  have z : ∀ i, 72 ≤ i → (i = 72 ∨ (74 ≤ i ∧ i < 78) ∨ (96 ≤ i ∧ i < 114) ∨ (120 ≤ i ∧ i < 126) ∨ (131 ≤ i ∧ i < 332)) → s i = nI 0 := fun i h1 h2 => by
    rw [b3 i (by omega), a2]
    unfold bgS
    rw [if_neg (by omega), if_neg (by omega), if_neg (by omega), if_neg (by omega), u, if_neg (by omega), hz i h1 (by omega)]
  have p1 : ∀ c, c < 6 → s (78 + c) = h.1 2 (7 + c) ∧ s (84 + c) = h.1 2 (13 + c) ∧ s (90 + c) = h.1 2 (25 + c) ∧ s (114 + c) = -1 := fun c hc => by
    refine ⟨?_, ?_, ?_, ?_⟩
    · rw [b3 _ (by omega), a2]
      unfold bgS
      rw [if_pos (by omega), u, if_neg (by omega)]
      exact congrArg (h.1 2) (by omega)
    · rw [b3 _ (by omega), a2]
      unfold bgS
      rw [if_neg (by omega), if_pos (by omega), u, if_neg (by omega)]
      exact congrArg (h.1 2) (by omega)
    · rw [b3 _ (by omega), a2]
      unfold bgS
      rw [if_neg (by omega), if_neg (by omega), if_pos (by omega), u, if_neg (by omega)]
      exact congrArg (h.1 2) (by omega)
    · rw [b3 _ (by omega), a2]
      unfold bgS
      rw [if_neg (by omega), if_neg (by omega), if_neg (by omega), if_pos (by omega)]
  have p2 : s 73 = h.1 2 6 := by
    rw [b3 _ (by omega), a2]
    unfold bgS
    rw [if_neg (by omega), if_neg (by omega), if_neg (by omega), if_neg (by omega), u, if_pos rfl]
  have p3 : ∀ k, k < 5 → s (126 + k) = h.1 2 (67 + k) := fun k hk => by
    rw [b2 _ (by omega) (by omega), a2]
    unfold bgS
    rw [if_neg (by omega), if_neg (by omega), if_neg (by omega), if_neg (by omega), u, if_neg (by omega)]
    exact congrArg (h.1 2) (by omega)
  refine ⟨s, ?_, ?_, ?_⟩
  · rw [f_M_begins, ifin (by omega) (by omega), ifin (by omega) (by omega), nI_clamp (by omega), nI_clamp (by omega), bl_e, bl_e, a1 _ F (by omega), bl_e, b1 F (by omega), st_st]
    rw [sI_st, st_st]
  · rw [st_e, st_2]
    refine ⟨⟨?_, ?_, ?_, ?_, ?_, ?_, ?_⟩, fun c hc => ?_, fun d hd => ?_, fun k hk => ?_, r4, r5, r6⟩
    · rw [lo _ (by omega)]; exact s0
    · rw [lo _ (by omega)]; exact s1
    · rw [lo _ (by omega)]; exact s2
    · rw [lo _ (by omega)]; exact s3
    · rw [lo _ (by omega)]; exact s4
    · rw [lo _ (by omega)]; exact s5
    · rw [lo _ (by omega)]; exact s6
    · rw [lo _ (by omega), lo _ (by omega), lo _ (by omega), lo _ (by omega), lo _ (by omega), lo _ (by omega), lo _ (by omega)]; exact r1 c hc
    · rw [lo _ (by omega), lo _ (by omega), lo _ (by omega)]; exact r2 d hd
    · rw [lo _ (by omega)]; exact r3 k hk
  · rw [st_e]
    refine ⟨fun c w hc hw hn => ?_, fun k w hk hw hn => ?_, fun w hw hn => ?_, fun i hi => ?_⟩
    · obtain ⟨e1, e2, e3, e4⟩ := p1 c (by omega)
      obtain ⟨f1, f2, f3, f4, -⟩ := r1 c hc
      have fz := fo_0 P (h.1 2) c
      rcases (show w = 0 ∨ w = 1 ∨ w = 3 ∨ w = 4 ∨ w = 5 ∨ w = 6 ∨ w = 7 ∨ w = 8 by omega) with e | e | e | e | e | e | e | e <;> subst e
      · show s (78 + c) = nI (fo P (A0 P (h.1 2)) c 0)
        rw [e1, f1, fz.1]
      · show s (84 + c) = nI (ag P (A0 P (h.1 2)) c 0)
        rw [e2, f2, fz.2]
      · show s (90 + c) = nI (P 4 c)
        rw [e3, f4]
      · exact z (96 + c) (by omega) (by omega)
      · exact z (102 + c) (by omega) (by omega)
      · exact z (108 + c) (by omega) (by omega)
      · exact e4
      · exact z (120 + c) (by omega) (by omega)
    · rcases (show w = 0 ∨ w = 2 ∨ w = 3 ∨ w = 4 ∨ w = 5 by omega) with e | e | e | e | e <;> subst e
      · show s (126 + k) = nI (P 10 k)
        rw [p3 k (by omega), r3 k hk]
      · exact z (131 + k) (by omega) (by omega)
      · exact z (136 + k) (by omega) (by omega)
      · exact z (141 + k) (by omega) (by omega)
      · exact z (146 + k) (by omega) (by omega)
    · rcases (show w = 0 ∨ w = 1 ∨ w = 2 ∨ w = 4 ∨ w = 5 ∨ w = 6 by omega) with e | e | e | e | e | e <;> subst e
      · exact z 72 (by omega) (by omega)
      · show s 73 = nI (P 0 2)
        rw [p2, s6]
      · exact z 74 (by omega) (by omega)
      · exact z 77 (by omega) (by omega)
      · exact z 75 (by omega) (by omega)
      · exact z 76 (by omega) (by omega)
    · show s i = h.1 2 i
      rw [b3 i (by omega), a2]
      unfold bgS
      rw [if_neg (by omega), if_neg (by omega), if_neg (by omega), if_neg (by omega), u, if_neg (by omega)]
