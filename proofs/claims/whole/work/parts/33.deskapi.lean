/-! ===== take, act, drop, weeks, undo: both sides answer alike ===== -/
def Sim (fc fm : HS → Option (Int32 × HS)) : Prop := ∀ (P : Pl) (A : Ab) (hc hm : HS), Rel P A hc hm → ∃ (v : Int32) (hc2 hm2 : HS) (P2 : Pl) (A2 : Ab), fc hc = some (v, hc2) ∧ fm hm = some (v, hm2) ∧ Rel P2 A2 hc2 hm2
def dsc : List Nat := [20, 21, 22, 23, 24, 25, 26, 27, 28, 29, 30, 35, 36, 37, 38, 39, 40, 41, 46, 47, 48, 49, 50, 51, 52, 82]
theorem MR_fr {P : Pl} {A : Ab} {h h2 : HS} (R : MR P A h) (c2 : h2.1 2 = h.1 2) (c5 : h2.2 5 = h.2 5) : MR P A h2 := by
  unfold MR
  rw [c2, c5]
  exact R
theorem CR_fr {P : Pl} {A : Ab} {h h2 : HS} (R : CR P A h) (c3 : h2.1 3 = h.1 3) (c7 : h2.1 7 = h.1 7) (c8 : h2.1 8 = h.1 8) (c9 : h2.1 9 = h.1 9) (c10 : h2.1 10 = h.1 10) (c21 : h2.1 21 = h.1 21) (d4 : h2.2 4 = h.2 4) (d5 : h2.2 5 = h.2 5) (d6 : h2.2 6 = h.2 6) : CR P A h2 := by
  unfold CR PC at R ⊢
  simp only [Nat.reduceAdd] at R ⊢
  rw [c3, c7, c8, c9, c10, c21, d4, d5, d6]
  exact R
theorem Rel_mk {P : Pl} {A A2 : Ab} {hc hm hc2 hm2 : HS} (q : Rel P A hc hm) (C : CR P A2 hc2) (M : MR P A2 hm2) (W : WF P A2) (e7 : A2.2 7 = A.2 7) (U : UD P hc2 hm2) (fc : Fr dsc hc hc2) (fm : Fr csm hm hm2) (f0 : F0r cf0 hm hm2) : Rel P A2 hc2 hm2 := by
  obtain ⟨-, -, -, w, -, s, o⟩ := q
  refine ⟨C, M, W, WYr_fr w (fc 31 (by decide)).1 (fc 32 (by decide)).1 (fc 33 (by decide)).1 (fc 34 (by decide)).1, U, ?_, OT_F o (Fr_mo (by decide) fc) fm f0⟩
  rw [e7]
  exact SEr_fr s (fc 42 (by decide)).1 (fc 43 (by decide)).1 (fc 44 (by decide)).1 (fc 45 (by decide)).1
theorem UD_F {P : Pl} {hc hc2 hm hm2 : HS} {S : List Nat} (q : UD P hc hm) (fc : Fr S hc hc2) (hS : 20 ∉ S ∧ ∀ j, j < 8 → 23 + j ∉ S) (m7 : hm2.1 7 = hm.1 7) (k23 : hm2.1 0 23 = hm.1 0 23) : UD P hc2 hm2 := UD_fr q (fc 20 hS.1).1 (fun j hj => (fc _ (hS.2 j hj)).1) m7 k23
theorem Rel_th {P : Pl} {A : Ab} {hc hm : HS} {v : Int32} (q : Rel P A hc hm) : Rel P A hc (sI hm 0 0 v) := by
  have q0 := q
  obtain ⟨c, m, w, -, u, -, -⟩ := q
  refine Rel_mk q0 c (MR_fr m (sI_o (by decide)) rfl) w rfl (UD_fr u rfl (fun _ _ => rfl) (sI_o (by decide)) (sI_n (by decide))) Fr_rf (Fr_sI (by decide)) (F0r_sI (by decide))
theorem Rel_keep {P : Pl} {A : Ab} {hc hm : HS} {F : Nat} (hF : 600 ≤ F) (q : Rel P A hc hm) : ∃ hc2 hm2, f_Desk_remember hc = some ((), hc2) ∧ f_M_keep F hm = some ((), hm2) ∧ Rel P A hc2 hm2 := by
  have q0 := q
  obtain ⟨c, m, w, -, u, -, -⟩ := q
  obtain ⟨hc2, hm2, a1, a2, a3, a4, a5, a6⟩ := UD_keep hF (Or.inl rfl) w u c.2 m.2
  refine ⟨hc2, hm2, by rw [f_Desk_remember, a1, bnd_s], a2, ?_⟩
  exact Rel_mk q0 (CR_fr c (a3 3 (by decide)).1 (a3 7 (by decide)).1 (a3 8 (by decide)).1 (a3 9 (by decide)).1 (a3 10 (by decide)).1 (a3 21 (by decide)).1 (a3 4 (by decide)).2 (a3 5 (by decide)).2 (a3 6 (by decide)).2) (MR_fr m (a4 2 (by decide)).1 (a4 5 (by decide)).2) w rfl a6 (Fr_mo (by decide) a3) (Fr_mo (by decide) a4) (fun k hk => a5 k (fun z => hk (by rw [List.mem_singleton.mp z]; decide)))
/-- the rows alone become others -/
theorem Rel_row {P : Pl} {A A2 : Ab} {hc hm : HS} {r s : Nat → Int32} (q : Rel P A hc hm) (C : CR P A2 (st hc 21 r)) (M : MR P A2 (st hm 2 s)) (W : WF P A2) (e7 : A2.2 7 = A.2 7) : Rel P A2 (st hc 21 r) (st hm 2 s) := by
  have q0 := q
  obtain ⟨c, m, w, -, u, -, -⟩ := q
  exact Rel_mk q0 C M W e7 (UD_fr u (st_o (by decide)) (fun j hj => st_o (by omega)) (st_o (by decide)) (by rw [st_o (by decide)])) (Fr_st (by decide)) (Fr_st (by decide)) (F0r_st (by decide))
theorem e7_act {P : Pl} {A : Ab} {k d : Nat} : (actA P A k d).2 7 = A.2 7 := by
  funext i
  simp [actA, sN, sV, up2]
theorem e7_drop {P : Pl} {A : Ab} {k : Nat} : (dropA P A k).2 7 = A.2 7 := by
  funext i
  simp [dropA, sN, sV, up2]
theorem e7_wk {P : Pl} {A : Ab} {k : Nat} : (wkA P A k).2 7 = A.2 7 := by
  funext i
  unfold wkA
  (repeat' split) <;> simp [sN]
theorem e7_wc {P : Pl} {A : Ab} {c : Nat} : (wcA P A c).2 7 = A.2 7 := by
  funext i
  unfold wcA wonA aloneA wonB
  (repeat' split) <;> simp [sN, sV, up2]
theorem e7_itk {P : Pl} : ∀ (j k : Nat) (A : Ab), (itF (wkA P) j k A).2 7 = A.2 7 := by
  intro j
  induction j with
  | zero => intro k A; rfl
  | succ j ih => intro k A; exact (ih (k + 1) _).trans e7_wk
theorem e7_itc {P : Pl} : ∀ (j k : Nat) (A : Ab), (itF (wcA P) j k A).2 7 = A.2 7 := by
  intro j
  induction j with
  | zero => intro k A; rfl
  | succ j ih => intro k A; exact (ih (k + 1) _).trans e7_wc
theorem e7_week {P : Pl} {A : Ab} : (weekA P A).2 7 = A.2 7 := (e7_itc _ _ _).trans (e7_itk _ _ _)
theorem S_take {F : Nat} (hF : 20000 ≤ F) (a b : Int32) : Sim (f_LC_take a b) (f_M_take F a b) := by
  intro P A hc hm q0
  have q := Rel_th (v := nI 0) q0
  obtain ⟨c, m, W, -⟩ := id q
  obtain ⟨⟨wN, wNM, wM, wCo, w3, w4, w5, wC, wD, wK⟩, wAc, wAk, wAw, wAf⟩ := id W
  unfold f_LC_take f_M_take
  rw [C_hasClerk w5 c.1, bnd_s, ite_b0, bl_e, M_isClerk w5 m, bnd_s, ite_b0]
  by_cases ha : inb a (P 0 5) = true
  · rw [if_pos ha, if_pos ha, C_hasCause w3 c.1, bnd_s, ite_b0, M_isCause w3 m, bnd_s, ite_b0]
    by_cases hb : inb b (P 0 3) = true
    · rw [if_pos hb, if_pos hb]
      obtain ⟨hk, ek⟩ := inb_ex ha
      obtain ⟨hcs, ec⟩ := inb_ex hb
      generalize a.toNatClampNeg = k at hk ek
      generalize b.toNatClampNeg = cc at hcs ec
      subst ek ec
      have hy : whyT P A k cc < 5 := by unfold whyT; (repeat' split) <;> omega
      rw [C_whyNotTake W c hk hcs, M_whyTake W (by omega) m hk hcs, bnd_s, bnd_s, bl_e, bl_e, ite_eq0 (by omega), ite_le0 (by omega)]
      by_cases e0 : whyT P A k cc = 0
      · rw [if_pos e0, if_pos e0]
        obtain ⟨hc2, hm2, k1, k2, q2⟩ := Rel_keep (F := F) (by omega) q
        obtain ⟨c2, m2, -⟩ := id q2
        obtain ⟨r, k3, c3⟩ := C_doTake W c2 hk hcs
        obtain ⟨s, k4, m3⟩ := M_taking W m2 hk hcs
        exact ⟨nI 0, _, _, P, _, by rw [k1, bnd_s, k3, bnd_s, e0], by rw [k2, bnd_s, k4, bnd_s], Rel_row q2 c3 m3 (WF_take W hk hcs e0) rfl⟩
      · rw [if_neg e0, if_neg e0]
        exact ⟨_, _, _, P, A, rfl, rfl, q⟩
    · rw [if_neg hb, if_neg hb]
      exact ⟨_, _, _, P, A, rfl, rfl, q⟩
  · rw [if_neg ha, if_neg ha]
    exact ⟨_, _, _, P, A, rfl, rfl, q⟩
theorem S_act {F : Nat} (hF : 20000 ≤ F) (a b : Int32) : Sim (f_LC_act a b) (f_M_act F a b) := by
  intro P A hc hm q0
  have q := Rel_th (v := nI 0) q0
  obtain ⟨c, m, W, -⟩ := id q
  obtain ⟨⟨wN, wNM, wM, wCo, w3, w4, w5, wC, wD, wK⟩, wAc, wAk, wAw, wAf⟩ := id W
  unfold f_LC_act f_M_act
  rw [C_hasClerk w5 c.1, bnd_s, ite_b0, bl_e, M_isClerk w5 m, bnd_s, ite_b0]
  by_cases ha : inb a (P 0 5) = true
  · rw [if_pos ha, if_pos ha, C_hasDeed w4 c.1, bnd_s, ite_b0, M_isDeed w4 m, bnd_s, ite_b0]
    by_cases hb : inb b (P 0 4) = true
    · rw [if_pos hb, if_pos hb]
      obtain ⟨hk, ek⟩ := inb_ex ha
      obtain ⟨hcs, ec⟩ := inb_ex hb
      generalize a.toNatClampNeg = k at hk ek
      generalize b.toNatClampNeg = d at hcs ec
      subst ek ec
      have hy : whyA P A k d < 6 := by unfold whyA; (repeat' split) <;> omega
      rw [C_whyNotAct W c hk hcs, M_whyAct W m hk hcs, bnd_s, bnd_s, bl_e, bl_e, ite_eq0 (by omega), ite_le0 (by omega)]
      by_cases e0 : whyA P A k d = 0
      · rw [if_pos e0, if_pos e0]
        obtain ⟨hc2, hm2, k1, k2, q2⟩ := Rel_keep (F := F) (by omega) q
        obtain ⟨c2, m2, -⟩ := id q2
        obtain ⟨r, k3, c3⟩ := C_doAct W c2 hk hcs e0
        obtain ⟨s, k4, m3⟩ := M_acting W m2 hk hcs e0
        exact ⟨nI 0, _, _, P, _, by rw [k1, bnd_s, k3, bnd_s, e0], by rw [k2, bnd_s, k4, bnd_s], Rel_row q2 c3 m3 (WF_act W hk hcs e0) e7_act⟩
      · rw [if_neg e0, if_neg e0]
        exact ⟨_, _, _, P, A, rfl, rfl, q⟩
    · rw [if_neg hb, if_neg hb]
      exact ⟨_, _, _, P, A, rfl, rfl, q⟩
  · rw [if_neg ha, if_neg ha]
    exact ⟨_, _, _, P, A, rfl, rfl, q⟩
theorem S_drop {F : Nat} (hF : 20000 ≤ F) (a : Int32) : Sim (f_LC_drop a) (f_M_drop F a) := by
  intro P A hc hm q0
  have q := Rel_th (v := nI 0) q0
  obtain ⟨c, m, W, -⟩ := id q
  obtain ⟨⟨wN, wNM, wM, wCo, w3, w4, w5, wC, wD, wK⟩, wAc, wAk, wAw, wAf⟩ := id W
  unfold f_LC_drop f_M_drop
  rw [C_hasClerk w5 c.1, bnd_s, ite_b0, bl_e, M_isClerk w5 m, bnd_s, ite_b0]
  by_cases ha : inb a (P 0 5) = true
  · rw [if_pos ha, if_pos ha]
    obtain ⟨hk, ek⟩ := inb_ex ha
    generalize a.toNatClampNeg = k at hk ek
    subst ek
    have hy : whyD A k < 3 := by unfold whyD; (repeat' split) <;> omega
    rw [C_whyNotDrop W c hk, M_whyDrop W m hk, bnd_s, bnd_s, bl_e, bl_e, ite_eq0 (by omega), ite_le0 (by omega)]
    by_cases e0 : whyD A k = 0
    · rw [if_pos e0, if_pos e0]
      obtain ⟨hc2, hm2, k1, k2, q2⟩ := Rel_keep (F := F) (by omega) q
      obtain ⟨c2, m2, -⟩ := id q2
      obtain ⟨r, k3, c3⟩ := C_doDrop W c2 hk (whyD_0 e0)
      obtain ⟨s, k4, m3⟩ := M_dropping W (F := F) (by omega) m2 hk (whyD_0 e0)
      exact ⟨nI 0, _, _, P, _, by rw [k1, bnd_s, k3, bnd_s, e0], by rw [k2, bnd_s, k4, bnd_s], Rel_row q2 c3 m3 (WF_drop W hk (whyD_0 e0)) e7_drop⟩
    · rw [if_neg e0, if_neg e0]
      exact ⟨_, _, _, P, A, rfl, rfl, q⟩
  · rw [if_neg ha, if_neg ha]
    exact ⟨_, _, _, P, A, rfl, rfl, q⟩
