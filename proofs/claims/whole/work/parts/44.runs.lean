/-! ===== schools and draws: both sides step by step ===== -/
/-- what a run needs of both sides -/
def Rl0 (P : Pl) (A : Ab) (hc hm : HS) : Prop := CR P A hc ∧ MR P A hm ∧ WF P A ∧ WYr P hc
theorem Rl0_of {P : Pl} {A : Ab} {hc hm : HS} (q : Rel P A hc hm) : Rl0 P A hc hm := ⟨q.1, q.2.1, q.2.2.1, q.2.2.2.1⟩
/-- what a step of a run leaves alone -/
def Kp (hc hm hc2 hm2 : HS) : Prop := Fr [21, 35, 36] hc hc2 ∧ Fr [0, 2, 9] hm hm2 ∧ F0r [31] hm hm2 ∧ ∀ i, 151 ≤ i → hm2.1 2 i = hm.1 2 i
theorem Kp_rf {hc hm : HS} : Kp hc hm hc hm := ⟨Fr_rf, Fr_rf, F0r_rf, fun _ _ => rfl⟩
theorem Kp_t {a b a1 b1 a2 b2 : HS} (x : Kp a b a1 b1) (y : Kp a1 b1 a2 b2) : Kp a b a2 b2 := ⟨Fr_t x.1 y.1, Fr_t x.2.1 y.2.1, F0r_t x.2.2.1 y.2.2.1, fun i hi => (y.2.2.2 i hi).trans (x.2.2.2 i hi)⟩
theorem Kp_row {P : Pl} {A A2 : Ab} {hc hm : HS} {r s : Nat → Int32} (m : MR P A hm) (m2 : MR P A2 (st hm 2 s)) (e7 : A2.2 7 = A.2 7) : Kp hc hm (st hc 21 r) (st hm 2 s) := ⟨Fr_st (by decide), Fr_st (by decide), F0r_st (by decide), fun i hi => by rw [m2.2.2.2.2 i hi, e7, ← m.2.2.2.2 i hi]⟩
theorem Kp_tab {hc hm : HS} {f f2 : Nat → Int32} : Kp hc hm (st hc 35 f) (st hm 9 f2) := ⟨Fr_st (by decide), Fr_st (by decide), F0r_st (by decide), fun i _ => by rw [st_o (by decide)]⟩
theorem Rl0_row {P : Pl} {A A2 : Ab} {hc hm : HS} {r s : Nat → Int32} (q : Rl0 P A hc hm) (C : CR P A2 (st hc 21 r)) (M : MR P A2 (st hm 2 s)) (W : WF P A2) : Rl0 P A2 (st hc 21 r) (st hm 2 s) := ⟨C, M, W, WYr_fr q.2.2.2 (st_o (by decide)) (st_o (by decide)) (st_o (by decide)) (st_o (by decide))⟩
theorem Rl0_tab {P : Pl} {A : Ab} {hc hm : HS} {f f2 : Nat → Int32} (q : Rl0 P A hc hm) : Rl0 P A (st hc 35 f) (st hm 9 f2) := ⟨CR_st (by omega) (by omega) q.1, MR_st (by decide) q.2.1, q.2.2.1, WYr_fr q.2.2.2 (st_o (by decide)) (st_o (by decide)) (st_o (by decide)) (st_o (by decide))⟩
theorem Rl0_save {P : Pl} {A : Ab} {hc hm : HS} {j : Nat} {f f2 : Nat → Int32} (hj : j = 37 ∨ j = 82) (q : Rl0 P A hc hm) : Rl0 P A (st hc j f) (st hm 8 f2) := ⟨CR_st (by omega) (by omega) q.1, MR_st (by decide) q.2.1, q.2.2.1, WYr_fr q.2.2.2 (st_o (by omega)) (st_o (by omega)) (st_o (by omega)) (st_o (by omega))⟩
theorem SEr_cg {b : Nat} {hc : HS} {z z2 : Nat → Int32} (q : SEr b hc z) (h : ∀ i, 151 ≤ i → z2 i = z i) : SEr b hc z2 := by
  obtain ⟨m, a1, a2, a3, a4, a5⟩ := q
  refine ⟨m, a1, a2, by rw [h _ (by omega)]; exact a3, fun i hi => ?_, a5⟩
  rw [h _ (by omega), h _ (by omega), h _ (by omega)]
  exact a4 i hi
/-- behind a run all the rest still holds -/
theorem Rel_of0 {P : Pl} {A A2 : Ab} {hc hm hc2 hm2 : HS} {S : List Nat} {T : List Nat} (q : Rel P A hc hm) (q2 : Rl0 P A2 hc2 hm2) (fc : Fr S hc hc2) (hS : ∀ x, x ∈ S → x ∈ [21, 35, 36, 37, 82]) (fm : Fr T hm hm2) (hT : ∀ x, x ∈ T → x ∈ [0, 2, 8, 9]) (f0 : F0r [31] hm hm2) (h2 : ∀ i, 151 ≤ i → hm2.1 2 i = hm.1 2 i) : Rel P A2 hc2 hm2 := by
  have fc := Fr_mo hS fc
  have fm := Fr_mo hT fm
  obtain ⟨c, m, W, Y, U, s, o⟩ := q
  refine ⟨q2.1, q2.2.1, q2.2.2.1, q2.2.2.2, UD_fr U (fc 20 (by decide)).1 (fun j hj => (fc _ (by
    have : ∀ j, j < 8 → 23 + j ∉ [21, 35, 36, 37, 82] := by decide
    exact this j hj)).1) (fm 7 (by decide)).1 (f0 23 (by decide)), ?_, OT_F o (Fr_mo (by decide) fc) (Fr_mo (by decide) fm) (fun k hk => f0 k (fun z => hk (by rw [List.mem_singleton.mp z]; decide)))⟩
  refine SEr_cg (SEr_fr s (fc 42 (by decide)).1 (fc 43 (by decide)).1 (fc 44 (by decide)).1 (fc 45 (by decide)).1) (fun i hi => ?_)
  rw [← q2.2.1.2.2.2.2 i hi, ← m.2.2.2.2 i hi, h2 i hi]
theorem R_take {P : Pl} {A : Ab} {hc hm : HS} (q : Rl0 P A hc hm) {k c : Nat} (hk : k < P 0 5) (hcc : c < P 0 3) (h0 : whyT P A k c = 0) : ∃ hc2 hm2, f_Desk_doTake (nI k) (nI c) hc = some ((), hc2) ∧ f_M_taking (nI k) (nI c) hm = some ((), hm2) ∧ Rl0 P (takeA A k c) hc2 hm2 ∧ Kp hc hm hc2 hm2 := by
  obtain ⟨cc, m, W, -⟩ := id q
  obtain ⟨r, k3, c3⟩ := C_doTake W cc hk hcc
  obtain ⟨s, k4, m3⟩ := M_taking W m hk hcc
  exact ⟨_, _, k3, k4, Rl0_row q c3 m3 (WF_take W hk hcc h0), Kp_row m m3 rfl⟩
theorem R_act {P : Pl} {A : Ab} {hc hm : HS} (q : Rl0 P A hc hm) {k d : Nat} (hk : k < P 0 5) (hd : d < P 0 4) (h0 : whyA P A k d = 0) : ∃ hc2 hm2, f_Desk_doAct (nI k) (nI d) hc = some ((), hc2) ∧ f_M_acting (nI k) (nI d) hm = some ((), hm2) ∧ Rl0 P (actA P A k d) hc2 hm2 ∧ Kp hc hm hc2 hm2 := by
  obtain ⟨cc, m, W, -⟩ := id q
  obtain ⟨r, k3, c3⟩ := C_doAct W cc hk hd h0
  obtain ⟨s, k4, m3⟩ := M_acting W m hk hd h0
  exact ⟨_, _, k3, k4, Rl0_row q c3 m3 (WF_act W hk hd h0), Kp_row m m3 e7_act⟩
theorem R_drop {P : Pl} {A : Ab} {hc hm : HS} {F : Nat} (hF : 7 ≤ F) (q : Rl0 P A hc hm) {k : Nat} (hk : k < P 0 5) (h0 : A.1 6 k ≠ 0) : ∃ hc2 hm2, f_Desk_doDrop (nI k) hc = some ((), hc2) ∧ f_M_dropping F (nI k) hm = some ((), hm2) ∧ Rl0 P (dropA P A k) hc2 hm2 ∧ Kp hc hm hc2 hm2 := by
  obtain ⟨cc, m, W, -⟩ := id q
  obtain ⟨r, k3, c3⟩ := C_doDrop W cc hk h0
  obtain ⟨s, k4, m3⟩ := M_dropping W hF m hk h0
  exact ⟨_, _, k3, k4, Rl0_row q c3 m3 (WF_drop W hk h0), Kp_row m m3 e7_drop⟩
theorem R_week {P : Pl} {A : Ab} {hc hm : HS} {F : Nat} (hF : 7 ≤ F) (q : Rl0 P A hc hm) (hw : A.1 8 0 < 200) : ∃ hc2 hm2, f_Desk_passWeek F hc = some ((), hc2) ∧ f_M_week F hm = some ((), hm2) ∧ Rl0 P (weekA P A) hc2 hm2 ∧ Kp hc hm hc2 hm2 := by
  obtain ⟨cc, m, W, -⟩ := id q
  obtain ⟨r, k3, c3⟩ := C_passWeek hF W hw cc
  obtain ⟨s, k4, m3⟩ := M_week hF W hw m
  exact ⟨_, _, k3, k4, Rl0_row q c3 m3 (WF_week W hw).1, Kp_row m m3 e7_week⟩
/-- a step of both sides; the week stays -/
def StpR (P : Pl) (A : Ab) (hc hm : HS) (fc fm : Option (Unit × HS)) : Prop := ∃ A2 hc2 hm2, fc = some ((), hc2) ∧ fm = some ((), hm2) ∧ Rl0 P A2 hc2 hm2 ∧ Kp hc hm hc2 hm2 ∧ A2.1 8 0 = A.1 8 0
theorem whyD_lt (A : Ab) (k : Nat) : whyD A k < 3 := by unfold whyD; (repeat' split) <;> omega
theorem whyA_lt (P : Pl) (A : Ab) (k d : Nat) : whyA P A k d < 6 := by unfold whyA; (repeat' split) <;> omega
theorem whyT_lt (P : Pl) (A : Ab) (k c : Nat) : whyT P A k c < 5 := by unfold whyT; (repeat' split) <;> omega
/-- he drops, if he can -/
theorem R_dropIf {P : Pl} {A : Ab} {hc hm : HS} {F : Nat} (hF : 7 ≤ F) (q : Rl0 P A hc hm) {k : Nat} (hk : k < P 0 5) : StpR P A hc hm (f_Runs_dropIfCan (nI k) hc) (bnd (f_M_whyDrop (nI k) hm) (fun r h => if r = 0 then bnd (f_M_dropping F (nI k) h) (fun _ h2 => some ((), h2)) else some ((), h))) := by
  obtain ⟨cc, m, W, -⟩ := id q
  have hl := whyD_lt A k
  rw [f_Runs_dropIfCan, C_whyNotDrop W cc hk, M_whyDrop W m hk, bnd_s, bnd_s, ite_eq0 (by omega), ite_eq0 (by omega)]
  by_cases e0 : whyD A k = 0
  · obtain ⟨hc2, hm2, a, b, c, d⟩ := R_drop hF q hk (whyD_0 e0)
    rw [if_pos e0, if_pos e0, a, b, bnd_s, bnd_s]
    exact ⟨_, _, _, rfl, rfl, c, d, by simp [dropA, sN, sV, up2]⟩
  · rw [if_neg e0, if_neg e0]
    exact ⟨_, _, _, rfl, rfl, q, Kp_rf, rfl⟩
theorem R_actIf {P : Pl} {A : Ab} {hc hm : HS} (q : Rl0 P A hc hm) {k d : Nat} (hk : k < P 0 5) (hd : d < P 0 4) : ∃ A2 hc2 hm2, f_Runs_actIfCan (nI k) (nI d) hc = some (bI (decide (whyA P A k d = 0)), hc2) ∧ (if whyA P A k d = 0 then f_M_acting (nI k) (nI d) hm else some ((), hm)) = some ((), hm2) ∧ Rl0 P A2 hc2 hm2 ∧ Kp hc hm hc2 hm2 ∧ A2.1 8 0 = A.1 8 0 ∧ (whyA P A k d ≠ 0 → hc2 = hc) := by
  obtain ⟨cc, m, W, -⟩ := id q
  have hl := whyA_lt P A k d
  rw [f_Runs_actIfCan, C_whyNotAct W cc hk hd, bnd_s, ite_eq0 (by omega)]
  by_cases e0 : whyA P A k d = 0
  · obtain ⟨hc2, hm2, a, b, c, e⟩ := R_act q hk hd e0
    rw [if_pos e0, if_pos e0, a, b, bnd_s, rZ1, decide_eq_true e0]
    exact ⟨_, _, _, rfl, rfl, c, e, by simp [actA, sN, sV, up2], fun z => absurd e0 z⟩
  · rw [if_neg e0, if_neg e0, rZ0, decide_eq_false e0]
    exact ⟨_, _, _, rfl, rfl, q, Kp_rf, rfl, fun _ => rfl⟩
/-- the first cause from c on that k can take; if there is none: c and j -/
def fndT (P : Pl) (A : Ab) (k : Nat) : Nat → Nat → Nat
  | 0, c => c
  | j + 1, c => if whyT P A k c = 0 then c else fndT P A k j (c + 1)
theorem fndT_le {P : Pl} {A : Ab} {k : Nat} : ∀ j c, fndT P A k j c ≤ c + j := by
  intro j
  induction j with
  | zero => intro c; exact Nat.le_refl _
  | succ j ih =>
    intro c
    unfold fndT
    split
    · omega
    · have := ih (c + 1)
      omega
theorem fndT_ok {P : Pl} {A : Ab} {k : Nat} : ∀ j c, fndT P A k j c < c + j → whyT P A k (fndT P A k j c) = 0 := by
  intro j
  induction j with
  | zero => intro c h; exact absurd h (Nat.lt_irrefl _)
  | succ j ih =>
    intro c h
    unfold fndT at h ⊢
    by_cases e : whyT P A k c = 0
    · rw [if_pos e]
      exact e
    · rw [if_neg e] at h ⊢
      exact ih (c + 1) (by omega)
theorem C_tfL {P : Pl} {A : Ab} {F k : Nat} {h : HS} {K : Int32 → HS → Option (Unit × HS)} (W : WF P A) (R : CR P A h) (hk : k < P 0 5) : ∀ (j c : Nat), c + j = P 0 3 → ∀ g, j < g → l_Runs_takeFirst_0 F (nI k) K g (nI c) h = if fndT P A k j c = P 0 3 then some ((), h) else K (nI (fndT P A k j c)) h := by
  obtain ⟨⟨wN, wNM, wM, wCo, w3, w4, w5, wC, wD, wK⟩, wAc, wAk, wAw, wAf⟩ := id W
  intro j
  induction j with
  | zero =>
    intro c hc g hg
    obtain ⟨g, rfl⟩ : ∃ z, g = z + 1 := ⟨g - 1, by omega⟩
    rw [l_Runs_takeFirst_0, C_causes R.1, bnd_s, ite_leN (by omega) (by omega), if_pos (by omega), if_pos (show fndT P A k 0 c = P 0 3 from hc)]
  | succ j ih =>
    intro c hc g hg
    obtain ⟨g, rfl⟩ : ∃ z, g = z + 1 := ⟨g - 1, by omega⟩
    have hl := whyT_lt P A k c
    rw [l_Runs_takeFirst_0, C_causes R.1, bnd_s, ite_leN (by omega) (by omega), if_neg (by omega), C_whyNotTake W R hk (by omega), bnd_s, ite_eq0 (by omega), fndT]
    by_cases e : whyT P A k c = 0
    · rw [if_pos e, if_pos e, if_neg (by omega)]
    · rw [if_neg e, if_neg e, bl_e, nI_add]
      exact ih (c + 1) (by omega) g (by omega)
theorem M_tfL {P : Pl} {A : Ab} {F k : Nat} {h : HS} {x2 : Int32} {K : Int32 → HS → Option (Unit × HS)} (hF : 7 ≤ F) (W : WF P A) (R : MR P A h) (hk : k < P 0 5) : ∀ (j c : Nat), c + j = P 0 3 → ∀ g, j < g → l_M_works_2 F (nI k) x2 K g (nI c) h = K (nI (fndT P A k j c)) h := by
  obtain ⟨⟨wN, wNM, wM, wCo, w3, w4, w5, wC, wD, wK⟩, wAc, wAk, wAw, wAf⟩ := id W
  intro j
  induction j with
  | zero =>
    intro c hc g hg
    obtain ⟨g, rfl⟩ : ∃ z, g = z + 1 := ⟨g - 1, by omega⟩
    rw [l_M_works_2, ifin (by omega) (by omega), nI_clamp (by omega), m_0 R, ite_leN (by omega) (by omega), if_pos (by omega)]
    rfl
  | succ j ih =>
    intro c hc g hg
    obtain ⟨g, rfl⟩ : ∃ z, g = z + 1 := ⟨g - 1, by omega⟩
    have hl := whyT_lt P A k c
    rw [l_M_works_2, ifin (by omega) (by omega), nI_clamp (by omega), m_0 R, ite_leN (by omega) (by omega), if_neg (by omega), M_whyTake W hF R hk (by omega), bnd_s, ite_le0 (by omega), fndT]
    by_cases e : whyT P A k c = 0
    · rw [if_pos e, if_pos e]
    · rw [if_neg e, if_neg e, bl_e, nI_add]
      exact ih (c + 1) (by omega) g (by omega)
/-- the least deed from 6 - j on that k can do, and 1; 0: none -/
def ldF (P : Pl) (A : Ab) (k : Nat) : Nat → Nat
  | 0 => 0
  | j + 1 => if 5 - j < P 0 4 ∧ whyA P A k (5 - j) = 0 then 5 - j + 1 else ldF P A k j
theorem ldF_ok {P : Pl} {A : Ab} {k : Nat} : ∀ j, ldF P A k j ≠ 0 → ldF P A k j - 1 < P 0 4 ∧ whyA P A k (ldF P A k j - 1) = 0 := by
  intro j
  induction j with
  | zero => intro h; exact absurd rfl h
  | succ j ih =>
    unfold ldF
    by_cases e : 5 - j < P 0 4 ∧ whyA P A k (5 - j) = 0
    · rw [if_pos e]
      intro _
      rw [Nat.add_sub_cancel]
      exact e
    · rw [if_neg e]
      exact ih
theorem ldF_le {P : Pl} {A : Ab} {k : Nat} : ∀ j, ldF P A k j ≤ 6 := by
  intro j
  induction j with
  | zero => exact Nat.zero_le _
  | succ j ih => unfold ldF; split <;> omega
theorem ldF_0 {P : Pl} {A : Ab} {k : Nat} (w4 : P 0 4 ≤ 6) : ∀ j, j + P 0 4 ≤ 6 → ldF P A k j = 0 := by
  intro j
  induction j with
  | zero => intro _; rfl
  | succ j ih =>
    intro h
    unfold ldF
    rw [if_neg (by omega), ih (by omega)]
theorem pI_m1 (n : Nat) : nI n + (-1 : Int32) = pI n := by
  unfold pI
  rw [Int32.sub_eq_add_neg]
  rfl
theorem M_w0L {P : Pl} {A : Ab} {F k : Nat} {h : HS} {x4 : Int32} {K : Int32 → HS → Option (Unit × HS)} (W : WF P A) (R : MR P A h) (hk : k < P 0 5) : ∀ (n : Nat), n ≤ 6 → ∀ g, n < g → l_M_works_0 F (nI k) (nI 2) x4 K g (pI (ldF P A k (6 - n))) (pI n) h = K (pI (ldF P A k 6)) h := by
  obtain ⟨⟨wN, wNM, wM, wCo, w3, w4, w5, wC, wD, wK⟩, wAc, wAk, wAw, wAf⟩ := id W
  intro n
  induction n with
  | zero =>
    intro hn g hg
    obtain ⟨g, rfl⟩ : ∃ z, g = z + 1 := ⟨g - 1, by omega⟩
    rw [l_M_works_0, ite_plt (by omega), if_pos rfl]
  | succ n ih =>
    intro hn g hg
    obtain ⟨g, rfl⟩ : ∃ z, g = z + 1 := ⟨g - 1, by omega⟩
    have hl := whyA_lt P A k n
    have ih := ih (by omega) g (by omega)
    rw [← ih, l_M_works_0, ite_plt (by omega), if_neg (by omega), if_pos rfl, pI_s, M_isDeed w4 R, bnd_s, bl_e, ite_b0, inb_nI (by omega), pI_m1, show 6 - n = (6 - (n + 1)) + 1 by omega, ldF, show 5 - (6 - (n + 1)) = n by omega]
    by_cases e1 : n < P 0 4
    · rw [if_pos (decide_eq_true e1), M_whyAct W R hk e1, bnd_s, ite_eq0 (by omega)]
      by_cases e2 : whyA P A k n = 0
      · rw [if_pos e2, if_pos ⟨e1, e2⟩, bl_e, pI_s]
        dsimp only
        rw [bl_e]
      · rw [if_neg e2, if_neg (fun z => e2 z.2)]
        dsimp only
        rw [bl_e]
    · rw [if_neg (by simpa using e1), if_neg (fun z => e1 z.1)]
      dsimp only
      rw [bl_e]
