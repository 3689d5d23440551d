/-! ===== image, restore ===== -/
theorem SEr_cb {b : Nat} {hc : HS} {z z2 : Nat → Int32} (q : SEr b hc z) (h : ∀ i, 151 ≤ i → i < 332 → z2 i = z i) : SEr b hc z2 := by
  obtain ⟨m, a1, a2, a3, a4, a5⟩ := q
  refine ⟨m, a1, a2, by rw [h _ (by omega) (by omega)]; exact a3, fun i hi => ?_, a5⟩
  rw [h _ (by omega) (by omega), h _ (by omega) (by omega), h _ (by omega) (by omega)]
  exact a4 i hi
def wzA (A : Ab) (z : Nat → Int32) : Ab := mxA (A.1, fun _ b => z b) A
theorem WF_wz {P : Pl} {A : Ab} {z : Nat → Int32} (W : WF P A) : WF P (wzA A z) := W
theorem M_im0 {F k : Nat} (hk : k ≤ 1) : ∀ (j x : Nat) (h : HS), x + j = 332 → ∃ f, (∀ K g, j < g → l_M_image_0 F (nI k) K g (nI x) h = K (st h 16 f)) ∧ (∀ i, x ≤ i → i < 332 → f (332 * k + i) = h.1 2 i) ∧ ∀ i, i < 332 * k + x ∨ 332 * k + 332 ≤ i → f i = h.1 16 i := by
  intro j
  induction j with
  | zero =>
    intro x h hx
    refine ⟨h.1 16, fun K g hg => ?_, fun i h1 h2 => by omega, fun _ _ => rfl⟩
    obtain ⟨g, rfl⟩ : ∃ z, g = z + 1 := ⟨g - 1, by omega⟩
    rw [l_M_image_0, ite_leN (by omega) (by omega), if_pos (by omega), st_s]
  | succ j ih =>
    intro x h hx
    obtain ⟨f, a1, a2, a3⟩ := ih (x + 1) (sI h 16 (332 * k + x) (h.1 2 x)) (by omega)
    refine ⟨f, fun K g hg => ?_, fun i h1 h2 => ?_, fun i hi => ?_⟩
    · obtain ⟨g, rfl⟩ : ∃ z, g = z + 1 := ⟨g - 1, by omega⟩
      rw [l_M_image_0, ite_leN (by omega) (by omega), if_neg (by omega), ifin (by omega) (by omega), nI_mul, nI_add, ifin (by omega) (by omega), nI_clamp (by omega), nI_clamp (by omega), bl_e, bl_e, nI_add, a1 K g (by omega), sI_st, st_st]
    · by_cases e : i = x
      · rw [e, a3 _ (Or.inl (by omega)), sI_e]
      · rw [a2 i (by omega) h2, sI_o (by decide)]
    · rw [a3 i (by omega), sI_n (by omega)]
theorem M_im1 {F k : Nat} (hk : k ≤ 1) : ∀ (j x : Nat) (h : HS), x + j = 17 → ∃ h2, (∀ K g, j < g → l_M_image_1 F (nI k) K g (nI x) h = K h2) ∧ (∀ i, x ≤ i → i < 17 → h2.2 17 (17 * k + i) = h.2 5 i) ∧ (∀ i, i < 17 * k + x ∨ 17 * k + 17 ≤ i → h2.2 17 i = h.2 17 i) ∧ h2.1 = h.1 ∧ ∀ a, a ≠ 17 → h2.2 a = h.2 a := by
  intro j
  induction j with
  | zero =>
    intro x h hx
    refine ⟨h, fun K g hg => ?_, fun i h1 h2 => by omega, fun _ _ => rfl, rfl, fun _ _ => rfl⟩
    obtain ⟨g, rfl⟩ : ∃ z, g = z + 1 := ⟨g - 1, by omega⟩
    rw [l_M_image_1, ite_leN (by omega) (by omega), if_pos (by omega)]
  | succ j ih =>
    intro x h hx
    obtain ⟨h2, a1, a2, a3, a4, a5⟩ := ih (x + 1) (sL h 17 (17 * k + x) (h.2 5 x)) (by omega)
    refine ⟨h2, fun K g hg => ?_, fun i h1 h2 => ?_, fun i hi => ?_, a4, fun a ha => by rw [a5 a ha, sL_o ha]⟩
    · obtain ⟨g, rfl⟩ : ∃ z, g = z + 1 := ⟨g - 1, by omega⟩
      rw [l_M_image_1, ite_leN (by omega) (by omega), if_neg (by omega), ifin (by omega) (by omega), nI_mul, nI_add, ifin (by omega) (by omega), nI_clamp (by omega), nI_clamp (by omega), bl_e, bl_e, nI_add, a1 K g (by omega)]
    · by_cases e : i = x
      · rw [e, a3 _ (Or.inl (by omega)), sL_e]
      · rw [a2 i (by omega) h2, sL_o (by decide)]
    · rw [a3 i (by omega), sL_n (by omega)]
theorem M_re0 {F k : Nat} (hk : k ≤ 1) : ∀ (j x : Nat) (h : HS), x + j = 332 → ∃ f, (∀ K g, j < g → l_M_restore_0 F (nI k) K g (nI x) h = K (st h 2 f)) ∧ (∀ i, x ≤ i → i < 332 → f i = h.1 16 (332 * k + i)) ∧ ∀ i, i < x ∨ 332 ≤ i → f i = h.1 2 i := by
  intro j
  induction j with
  | zero =>
    intro x h hx
    refine ⟨h.1 2, fun K g hg => ?_, fun i h1 h2 => by omega, fun _ _ => rfl⟩
    obtain ⟨g, rfl⟩ : ∃ z, g = z + 1 := ⟨g - 1, by omega⟩
    rw [l_M_restore_0, ite_leN (by omega) (by omega), if_pos (by omega), st_s]
  | succ j ih =>
    intro x h hx
    obtain ⟨f, a1, a2, a3⟩ := ih (x + 1) (sI h 2 x (h.1 16 (332 * k + x))) (by omega)
    refine ⟨f, fun K g hg => ?_, fun i h1 h2 => ?_, fun i hi => ?_⟩
    · obtain ⟨g, rfl⟩ : ∃ z, g = z + 1 := ⟨g - 1, by omega⟩
      rw [l_M_restore_0, ite_leN (by omega) (by omega), if_neg (by omega), nI_mul, nI_add, ifin (by omega) (by omega), ifin (by omega) (by omega), nI_clamp (by omega), nI_clamp (by omega), bl_e, bl_e, nI_add, a1 K g (by omega), sI_st, st_st]
    · by_cases e : i = x
      · rw [e, a3 _ (Or.inl (by omega)), sI_e]
      · rw [a2 i (by omega) h2, sI_o (by decide)]
    · rw [a3 i (by omega), sI_n (by omega)]
theorem M_re1 {F k : Nat} (hk : k ≤ 1) : ∀ (j x : Nat) (h : HS), x + j = 17 → ∃ h2, (∀ K g, j < g → l_M_restore_1 F (nI k) K g (nI x) h = K h2) ∧ (∀ i, x ≤ i → i < 17 → h2.2 5 i = h.2 17 (17 * k + i)) ∧ (∀ i, i < x ∨ 17 ≤ i → h2.2 5 i = h.2 5 i) ∧ h2.1 = h.1 ∧ ∀ a, a ≠ 5 → h2.2 a = h.2 a := by
  intro j
  induction j with
  | zero =>
    intro x h hx
    refine ⟨h, fun K g hg => ?_, fun i h1 h2 => by omega, fun _ _ => rfl, rfl, fun _ _ => rfl⟩
    obtain ⟨g, rfl⟩ : ∃ z, g = z + 1 := ⟨g - 1, by omega⟩
    rw [l_M_restore_1, ite_leN (by omega) (by omega), if_pos (by omega)]
  | succ j ih =>
    intro x h hx
    obtain ⟨h2, a1, a2, a3, a4, a5⟩ := ih (x + 1) (sL h 5 x (h.2 17 (17 * k + x))) (by omega)
    refine ⟨h2, fun K g hg => ?_, fun i h1 h2 => ?_, fun i hi => ?_, a4, fun a ha => by rw [a5 a ha, sL_o ha]⟩
    · obtain ⟨g, rfl⟩ : ∃ z, g = z + 1 := ⟨g - 1, by omega⟩
      rw [l_M_restore_1, ite_leN (by omega) (by omega), if_neg (by omega), nI_mul, nI_add, ifin (by omega) (by omega), ifin (by omega) (by omega), nI_clamp (by omega), nI_clamp (by omega), bl_e, bl_e, nI_add, a1 K g (by omega)]
    · by_cases e : i = x
      · rw [e, a3 _ (Or.inl (by omega)), sL_e]
      · rw [a2 i (by omega) h2, sL_o (by decide)]
    · rw [a3 i (by omega), sL_n (by omega)]
theorem IM1_fr {hc hm hc2 hm2 : HS} {b k : Nat} (q : IM1 hc hm b k) (fc : ∀ x, x < 14 → hc2.1 (b + x) = hc.1 (b + x) ∧ hc2.2 (b + x) = hc.2 (b + x)) (m16 : ∀ i, i < 332 → hm2.1 16 (332 * k + i) = hm.1 16 (332 * k + i)) (n17 : ∀ i, i < 17 → hm2.2 17 (17 * k + i) = hm.2 17 (17 * k + i)) (m18 : hm2.1 18 k = hm.1 18 k) : IM1 hc2 hm2 b k := by
  have e0 := (fc 0 (by omega)).1
  rw [Nat.add_zero] at e0
  unfold IM1 at q ⊢
  rw [e0, m18]
  rcases q with q | ⟨q1, q2, P, A, W, q3, q4, q5, q6, q7⟩
  · exact Or.inl q
  · have c := fun x hx => (fc x hx).1
    have d := fun x hx => (fc x hx).2
    refine Or.inr ⟨q1, q2, P, wzA A (shf (hm2.1 16) (332 * k)), WF_wz W, ?_, RC_mx W.1.2.2.2.2.1 W.1.2.2.2.2.2.2.1 q4 (fun x _ => by rw [c 9 (by omega)]), PM_cp W.1 q5 (fun i hi => ?_) n17, RM0_mx W.1.2.2.2.2.1 W.1.2.2.2.2.2.2.1 q6 (fun i h1 h2 => ?_) (fun _ _ => rfl), ?_⟩
    · exact PC_fr q3 (c 1 (by omega)) (c 5 (by omega)) (c 6 (by omega)) (c 7 (by omega)) (c 8 (by omega)) (d 2 (by omega)) (d 3 (by omega)) (d 4 (by omega))
    · exact m16 i (by omega)
    · exact m16 i (by omega)
    · refine SEr_cb (SEr_fr q7 (c 10 (by omega)) (c 11 (by omega)) (c 12 (by omega)) (c 13 (by omega))) (fun i h1 h2 => ?_)
      show hm2.1 16 (332 * k + i) = A.2 7 i
      rw [m16 i h2, ← q6.2.2.2 i h1]
      rfl
theorem G_keep54 {P : Pl} {A : Ab} {F : Nat} {hc hm : HS} (hF : 20000 ≤ F) (q : Rel P A hc hm) : ∃ hc2 hm2, f_Image_keep_54_42 hc = some ((), hc2) ∧ (∀ K : HS → Option (Int32 × HS), l_M_image_0 F (nI 0) (fun h7 => bl (nI 0) (fun v8 => l_M_image_1 F (nI 0) (fun h11 => if inb (nI 0) 2 = true then bl (sI h11 18 0 (vp_nar .boolean (nI 1))) (fun h12 => K h12) else none) F v8 h7)) F (nI 0) hm = K hm2) ∧ Rel P A hc2 hm2 := by
  obtain ⟨c, m, W, Y, U, s, o⟩ := id q
  obtain ⟨⟨wN, wNM, wM, wCo, w3, w4, w5, wC, wD, wK⟩, -⟩ := id W
  obtain ⟨hc1, a1, a2, a3⟩ := C_cp55 W.1 c.1
  obtain ⟨hc3, b1, b2, b3⟩ := C_cs64_42 (st hc1 63 (va_cpy (hc1.1 21) (hc1.1 63) 0 0 91))
  have s1 : SEr 42 (st hc1 63 (va_cpy (hc1.1 21) (hc1.1 63) 0 0 91)) (A.2 7) := SEr_fr s (by rw [st_o (by decide), (a3 42 (by decide)).1]) (by rw [st_o (by decide), (a3 43 (by decide)).1]) (by rw [st_o (by decide), (a3 44 (by decide)).1]) (by rw [st_o (by decide), (a3 45 (by decide)).1])
  obtain ⟨f, d1, d2, d3⟩ := M_im0 (F := F) (k := 0) (by omega) 332 0 hm (by omega)
  obtain ⟨hm2, e1, e2, e3, e4, e5⟩ := M_im1 (F := F) (k := 0) (by omega) 17 0 (st hm 16 f) (by omega)
  have nb : vp_nar .boolean (nI 1) = nI 1 := by decide
  have FC : Fr [54, 55, 56, 57, 58, 59, 60, 61, 62, 63, 64, 65, 66, 67] hc (sI hc3 54 3 (nI 1)) := Fr_t (Fr_mo (by decide) a3) (Fr_t (Fr_st (by decide)) (Fr_t (Fr_mo (by decide) b3) (Fr_sI (by decide))))
  have FM : Fr [16, 17, 18] hm (sI hm2 18 0 (nI 1)) := Fr_t (Fr_st (i := 16) (f := f) (by decide)) (Fr_t (S := [16, 17, 18]) (fun a ha => ⟨by rw [e4], by rw [e5 a (fun z => ha (by rw [z]; decide))]⟩) (Fr_sI (by decide)))
  have m2 : ∀ i, (sI hm2 18 0 (nI 1)).1 16 i = f i := fun i => by rw [sI_o (by decide), e4, st_e]
  have n2 : ∀ i, (sI hm2 18 0 (nI 1)).2 17 i = hm2.2 17 i := fun i => rfl
  refine ⟨sI hc3 54 3 (nI 1), sI hm2 18 0 (nI 1), ?_, fun K => ?_, ?_⟩
  · have sv : f_Desk_saveTo 63 hc1 = some ((), st hc1 63 (va_cpy (hc1.1 21) (hc1.1 63) 0 0 91)) := C_saveTo 63 hc1
    rw [f_Image_keep_54_42, a1, bnd_s, sv, bnd_s, b1, bnd_s, bl_e]
  · rw [d1 _ F (by omega), bl_e, e1 _ F (by omega), ifin (by omega) (by omega), nb, bl_e]
  · obtain ⟨c2, Y2⟩ := CY_F c Y FC (by decide)
    refine ⟨c2, MR_F m FM (by decide), W, Y2, UD_fr U (FC 20 (by decide)).1 (fun j hj => (FC _ (by
      have : ∀ j, j < 8 → 23 + j ∉ [54, 55, 56, 57, 58, 59, 60, 61, 62, 63, 64, 65, 66, 67] := by decide
      exact this j hj)).1) (FM 7 (by decide)).1 (by rw [(FM 0 (by decide)).1]), SEr_fr s (FC 42 (by decide)).1 (FC 43 (by decide)).1 (FC 44 (by decide)).1 (FC 45 (by decide)).1, ?_⟩
    obtain ⟨o1, o2, o3, o4, o5, o6, o7, o8⟩ := o
    have new : IM1 (sI hc3 54 3 (nI 1)) (sI hm2 18 0 (nI 1)) 54 0 := by
      refine Or.inr ⟨sI_e, sI_e, P, wzA A (shf ((sI hm2 18 0 (nI 1)).1 16) (332 * 0)), WF_wz W, ?_, ?_, ?_, ?_, ?_⟩
      · exact PC_fr a2 (by rw [sI_o (by decide), (b3 55 (by decide)).1, st_o (by decide)]) (by rw [sI_o (by decide), (b3 59 (by decide)).1, st_o (by decide)]) (by rw [sI_o (by decide), (b3 60 (by decide)).1, st_o (by decide)]) (by rw [sI_o (by decide), (b3 61 (by decide)).1, st_o (by decide)]) (by rw [sI_o (by decide), (b3 62 (by decide)).1, st_o (by decide)]) (by rw [sI_2, (b3 56 (by decide)).2, st_2]) (by rw [sI_2, (b3 57 (by decide)).2, st_2]) (by rw [sI_2, (b3 58 (by decide)).2, st_2])
      · refine RC_mx w3 w5 c.2 (fun x hx => ?_)
        rw [sI_o (by decide), (b3 63 (by decide)).1, st_e, cpy_in hx, (a3 21 (by decide)).1]
      · refine PM_cp W.1 m.1 (fun i hi => ?_) (fun i hi => ?_)
        · show (sI hm2 18 0 (nI 1)).1 16 (332 * 0 + i) = _
          rw [m2, d2 i (by omega) (by omega)]
        · rw [n2, e2 i (by omega) hi]
          exact congrArg (hm.2 5) (by omega)
      · refine RM0_mx w3 w5 m.2 (fun i h1 h2 => ?_) (fun _ _ => rfl)
        show (sI hm2 18 0 (nI 1)).1 16 (332 * 0 + i) = _
        rw [m2, d2 i (by omega) (by omega)]
      · refine SEr_cb (SEr_fr (b2 _ s1) (sI_o (by decide)) (sI_o (by decide)) (sI_o (by decide)) (sI_o (by decide))) (fun i h1 h2 => ?_)
        show (sI hm2 18 0 (nI 1)).1 16 (332 * 0 + i) = A.2 7 i
        rw [m2, d2 i (by omega) h2, ← m.2.2.2.2 i h1]
    have old : IM1 (sI hc3 54 3 (nI 1)) (sI hm2 18 0 (nI 1)) 68 1 := by
      refine IM1_fr (by first | exact o6 | exact o7) (fun x hx => FC _ ?_) (fun i hi => ?_) (fun i hi => ?_) ?_
      · have : ∀ x, x < 14 → 68 + x ∉ [54, 55, 56, 57, 58, 59, 60, 61, 62, 63, 64, 65, 66, 67] := by decide
        exact this x hx
      · rw [m2, d3 _ (by omega)]
      · rw [n2, e3 _ (by omega)]
        rfl
      · rw [sI_n (by decide), e4, st_o (by decide)]
    refine ⟨?_, ?_, ?_, ?_, ?_, by first | exact new | exact old, by first | exact new | exact old, ?_⟩
    · unfold TPr at o1 ⊢
      rw [(FC 1 (by decide)).1, (FC 2 (by decide)).1, (FM 1 (by decide)).1, (FM 0 (by decide)).1]
      exact o1
    · unfold FTr at o2 ⊢
      rw [(FC 0 (by decide)).1, (FM 0 (by decide)).1]
      exact o2
    · unfold TRr at o3 ⊢
      rw [(FC 0 (by decide)).1, (FM 0 (by decide)).1]
      exact o3
    · unfold MAr at o4 ⊢
      rw [(FC 53 (by decide)).1, (FM 0 (by decide)).1, (FM 12 (by decide)).1]
      exact o4
    · unfold BKr at o5 ⊢
      rw [(FC 83 (by decide)).1, (FM 0 (by decide)).1, (FM 13 (by decide)).1]
      exact o5
    · unfold RSr at o8 ⊢
      rw [(FM 6 (by decide)).2]
      exact o8
theorem G_back54 {P : Pl} {A : Ab} {F : Nat} {hc hm : HS} (hF : 20000 ≤ F) (q : Rel P A hc hm) (hk : hc.1 54 3 = nI 1) : ∃ hc2 hm2 P2 A2, (∀ K : HS → Option (Int32 × HS), bnd (f_Image_giveBack_54_42 hc) (fun _ h5 => bnd (f_Ways_sumUp F h5) (fun _ h6 => bnd (f_Desk_forget h6) (fun _ h7 => K h7))) = K hc2) ∧ (∀ K : HS → Option (Int32 × HS), l_M_restore_0 F (nI 0) (fun h7 => bl (nI 0) (fun v8 => l_M_restore_1 F (nI 0) (fun h11 => bl (sI h11 0 23 (nI 0)) (fun h12 => K h12)) F v8 h7)) F (nI 0) hm = K hm2) ∧ Rel P2 A2 hc2 hm2 := by
  obtain ⟨c, m, W0, Y, U, s, o⟩ := id q
  have im : IM1 hc hm 54 0 := by first | exact o.2.2.2.2.2.1 | exact o.2.2.2.2.2.2.1
  rcases im with ⟨x1, -⟩ | ⟨x1, x2, P2, A2, W, x3, x4, x5, x6, x7⟩
  · rw [hk] at x1
    exact absurd x1 (by decide)
  · obtain ⟨⟨wN, wNM, wM, wCo, w3, w4, w5, wC, wD, wK⟩, -⟩ := id W
    obtain ⟨hc1, a1, a2, a3⟩ := C_cp3_55 W.1 x3
    obtain ⟨hc3, b1, b2, b3⟩ := C_cs42_64 (st hc1 21 (va_cpy (hc1.1 63) (hc1.1 21) 0 0 91))
    have s1 : SEr 64 (st hc1 21 (va_cpy (hc1.1 63) (hc1.1 21) 0 0 91)) (A2.2 7) := SEr_fr x7 (by rw [st_o (by decide), (a3 64 (by decide)).1]) (by rw [st_o (by decide), (a3 65 (by decide)).1]) (by rw [st_o (by decide), (a3 66 (by decide)).1]) (by rw [st_o (by decide), (a3 67 (by decide)).1])
    have F3 : Fr [3, 4, 5, 6, 7, 8, 9, 10, 21, 42, 43, 44, 45] hc hc3 := Fr_t (Fr_mo (by decide) a3) (Fr_t (Fr_st (by decide)) (Fr_mo (by decide) b3))
    have p3 : PC P2 hc3 3 := PC_fr a2 (by rw [(b3 3 (by decide)).1, st_o (by decide)]) (by rw [(b3 7 (by decide)).1, st_o (by decide)]) (by rw [(b3 8 (by decide)).1, st_o (by decide)]) (by rw [(b3 9 (by decide)).1, st_o (by decide)]) (by rw [(b3 10 (by decide)).1, st_o (by decide)]) (by rw [(b3 4 (by decide)).2, st_2]) (by rw [(b3 5 (by decide)).2, st_2]) (by rw [(b3 6 (by decide)).2, st_2])
    have us : hc3.1 32 0 = nI 0 ∧ hc3.1 33 0 = nI 0 ∧ hc3.1 34 0 = nI 0 := by
      have z := Y.2 0 (Nat.two_pow_pos _)
      rw [sm_z, sm_z, sm_z] at z
      rw [(F3 32 (by decide)).1, (F3 33 (by decide)).1, (F3 34 (by decide)).1]
      exact z
    obtain ⟨hc5, c4, c5, c6⟩ := C_sumUp (F := F) (by omega) W.1 p3 us
    have p5 : PC P2 hc5 3 := PC_fr p3 (c6 3 (by decide)).1 (c6 7 (by decide)).1 (c6 8 (by decide)).1 (c6 9 (by decide)).1 (c6 10 (by decide)).1 (c6 4 (by decide)).2 (c6 5 (by decide)).2 (c6 6 (by decide)).2
    obtain ⟨f, d1, d2, d3⟩ := M_re0 (F := F) (k := 0) (by omega) 332 0 hm (by omega)
    obtain ⟨hm2, e1, e2, e3, e4, e5⟩ := M_re1 (F := F) (k := 0) (by omega) 17 0 (st hm 2 f) (by omega)
    have ms : (sI hm2 0 23 (nI 0)).1 2 = f := by rw [sI_o (by decide), e4, st_e]
    refine ⟨sI hc5 20 4 (nI 0), sI hm2 0 23 (nI 0), P2, wzA A2 f, fun K => ?_, fun K => ?_, ?_⟩
    · have lv : f_Desk_loadFrom 63 hc1 = some ((), st hc1 21 (va_cpy (hc1.1 63) (hc1.1 21) 0 0 91)) := C_loadFrom 63 hc1
      rw [f_Image_giveBack_54_42, a1, bnd_s, lv, bnd_s, b1, bnd_s, bnd_s, c4, bnd_s, f_Desk_forget, bl_e, bnd_s]
    · rw [d1 _ F (by omega), bl_e, e1 _ F (by omega), bl_e]
    · have fcz : Fr nwc hc (sI hc5 20 4 (nI 0)) := Fr_t (Fr_mo (by decide) F3) (Fr_t (Fr_mo (by decide) c6) (Fr_sI (by decide)))
      have z0 : ∀ y, y ∉ [3, 4, 5, 6, 7, 8, 9, 10, 20, 21, 31, 32, 33, 34, 42, 43, 44, 45] → (sI hc5 20 4 (nI 0)).1 y = hc.1 y := fun y hy => by
        have hh : Fr [3, 4, 5, 6, 7, 8, 9, 10, 20, 21, 31, 32, 33, 34, 42, 43, 44, 45] hc (sI hc5 20 4 (nI 0)) := Fr_t (Fr_mo (by decide) F3) (Fr_t (Fr_mo (by decide) c6) (Fr_sI (by decide)))
        exact (hh y hy).1
      have y0 : ∀ y, y ≠ 23 → (sI hm2 0 23 (nI 0)).1 0 y = hm.1 0 y := fun y hy => by rw [sI_n hy, e4, st_o (by decide)]
      obtain ⟨o1, o2, -⟩ := o
      refine Rel_new q ⟨?_, ?_⟩ ⟨?_, ?_⟩ (WF_wz W) ?_ sI_e ?_ sI_e ?_ fcz (Fr_t (Fr_st (i := 2) (f := f) (by decide)) (Fr_t (S := [0, 2, 3, 4, 5, 14]) (fun a ha => ⟨by rw [e4], by rw [e5 a (fun z => ha (by rw [z]; decide))]⟩) (Fr_sI (by decide)))) (fun x hx => y0 x (fun e => hx (by rw [e]; decide))) (by rw [z0 0 (by decide)]) ?_ ?_
      · exact PC_fr p5 (sI_o (by decide)) (sI_o (by decide)) (sI_o (by decide)) (sI_o (by decide)) (sI_o (by decide)) rfl rfl rfl
      · rw [sI_o (by decide), (c6 21 (by decide)).1, (b3 21 (by decide)).1, st_e]
        exact RC_mx w3 w5 x4 (fun x hx => by rw [cpy_in hx, (a3 63 (by decide)).1])
      · rw [ms]
        refine PM_cp W.1 x5 (fun i hi => ?_) (fun i hi => ?_)
        · rw [d2 i (by omega) (by omega)]
          rfl
        · rw [Nat.zero_add, sI_2, e2 i (by omega) hi]
          exact congrArg (hm.2 17) (by omega)
      · rw [ms]
        exact RM0_mx w3 w5 x6 (fun i h1 h2 => by rw [d2 i (by omega) (by omega)]; rfl) (fun _ _ => rfl)
      · exact WYr_fr c5 (sI_o (by decide)) (sI_o (by decide)) (sI_o (by decide)) (sI_o (by decide))
      · rw [sI_n (by decide), (c6 20 (by decide)).1, (F3 20 (by decide)).1]
      · refine SEr_cb (SEr_fr (b2 _ s1) (by rw [sI_o (by decide), (c6 42 (by decide)).1]) (by rw [sI_o (by decide), (c6 43 (by decide)).1]) (by rw [sI_o (by decide), (c6 44 (by decide)).1]) (by rw [sI_o (by decide), (c6 45 (by decide)).1])) (fun i h1 h2 => ?_)
        show f i = A2.2 7 i
        rw [d2 i (by omega) h2, ← x6.2.2.2 i h1]
        rfl
      · unfold TPr at o1 ⊢
        rw [z0 1 (by decide), z0 2 (by decide), y0 2 (by decide), sI_o (show (1 : Nat) ≠ 0 by decide), e4, st_o (show (1 : Nat) ≠ 2 by decide)]
        exact o1
      · unfold FTr at o2 ⊢
        rw [z0 0 (by decide), y0 15 (by decide)]
        exact o2
theorem G_keep68 {P : Pl} {A : Ab} {F : Nat} {hc hm : HS} (hF : 20000 ≤ F) (q : Rel P A hc hm) : ∃ hc2 hm2, f_Image_keep_68_42 hc = some ((), hc2) ∧ (∀ K : HS → Option (Int32 × HS), l_M_image_0 F (nI 1) (fun h7 => bl (nI 0) (fun v8 => l_M_image_1 F (nI 1) (fun h11 => if inb (nI 1) 2 = true then bl (sI h11 18 1 (vp_nar .boolean (nI 1))) (fun h12 => K h12) else none) F v8 h7)) F (nI 0) hm = K hm2) ∧ Rel P A hc2 hm2 := by
  obtain ⟨c, m, W, Y, U, s, o⟩ := id q
  obtain ⟨⟨wN, wNM, wM, wCo, w3, w4, w5, wC, wD, wK⟩, -⟩ := id W
  obtain ⟨hc1, a1, a2, a3⟩ := C_cp69 W.1 c.1
  obtain ⟨hc3, b1, b2, b3⟩ := C_cs78_42 (st hc1 77 (va_cpy (hc1.1 21) (hc1.1 77) 0 0 91))
  have s1 : SEr 42 (st hc1 77 (va_cpy (hc1.1 21) (hc1.1 77) 0 0 91)) (A.2 7) := SEr_fr s (by rw [st_o (by decide), (a3 42 (by decide)).1]) (by rw [st_o (by decide), (a3 43 (by decide)).1]) (by rw [st_o (by decide), (a3 44 (by decide)).1]) (by rw [st_o (by decide), (a3 45 (by decide)).1])
  obtain ⟨f, d1, d2, d3⟩ := M_im0 (F := F) (k := 1) (by omega) 332 0 hm (by omega)
  obtain ⟨hm2, e1, e2, e3, e4, e5⟩ := M_im1 (F := F) (k := 1) (by omega) 17 0 (st hm 16 f) (by omega)
  have nb : vp_nar .boolean (nI 1) = nI 1 := by decide
  have FC : Fr [68, 69, 70, 71, 72, 73, 74, 75, 76, 77, 78, 79, 80, 81] hc (sI hc3 68 3 (nI 1)) := Fr_t (Fr_mo (by decide) a3) (Fr_t (Fr_st (by decide)) (Fr_t (Fr_mo (by decide) b3) (Fr_sI (by decide))))
  have FM : Fr [16, 17, 18] hm (sI hm2 18 1 (nI 1)) := Fr_t (Fr_st (i := 16) (f := f) (by decide)) (Fr_t (S := [16, 17, 18]) (fun a ha => ⟨by rw [e4], by rw [e5 a (fun z => ha (by rw [z]; decide))]⟩) (Fr_sI (by decide)))
  have m2 : ∀ i, (sI hm2 18 1 (nI 1)).1 16 i = f i := fun i => by rw [sI_o (by decide), e4, st_e]
  have n2 : ∀ i, (sI hm2 18 1 (nI 1)).2 17 i = hm2.2 17 i := fun i => rfl
  refine ⟨sI hc3 68 3 (nI 1), sI hm2 18 1 (nI 1), ?_, fun K => ?_, ?_⟩
  · have sv : f_Desk_saveTo 77 hc1 = some ((), st hc1 77 (va_cpy (hc1.1 21) (hc1.1 77) 0 0 91)) := C_saveTo 77 hc1
    rw [f_Image_keep_68_42, a1, bnd_s, sv, bnd_s, b1, bnd_s, bl_e]
  · rw [d1 _ F (by omega), bl_e, e1 _ F (by omega), ifin (by omega) (by omega), nb, bl_e]
  · obtain ⟨c2, Y2⟩ := CY_F c Y FC (by decide)
    refine ⟨c2, MR_F m FM (by decide), W, Y2, UD_fr U (FC 20 (by decide)).1 (fun j hj => (FC _ (by
      have : ∀ j, j < 8 → 23 + j ∉ [68, 69, 70, 71, 72, 73, 74, 75, 76, 77, 78, 79, 80, 81] := by decide
      exact this j hj)).1) (FM 7 (by decide)).1 (by rw [(FM 0 (by decide)).1]), SEr_fr s (FC 42 (by decide)).1 (FC 43 (by decide)).1 (FC 44 (by decide)).1 (FC 45 (by decide)).1, ?_⟩
    obtain ⟨o1, o2, o3, o4, o5, o6, o7, o8⟩ := o
    have new : IM1 (sI hc3 68 3 (nI 1)) (sI hm2 18 1 (nI 1)) 68 1 := by
      refine Or.inr ⟨sI_e, sI_e, P, wzA A (shf ((sI hm2 18 1 (nI 1)).1 16) (332 * 1)), WF_wz W, ?_, ?_, ?_, ?_, ?_⟩
      · exact PC_fr a2 (by rw [sI_o (by decide), (b3 69 (by decide)).1, st_o (by decide)]) (by rw [sI_o (by decide), (b3 73 (by decide)).1, st_o (by decide)]) (by rw [sI_o (by decide), (b3 74 (by decide)).1, st_o (by decide)]) (by rw [sI_o (by decide), (b3 75 (by decide)).1, st_o (by decide)]) (by rw [sI_o (by decide), (b3 76 (by decide)).1, st_o (by decide)]) (by rw [sI_2, (b3 70 (by decide)).2, st_2]) (by rw [sI_2, (b3 71 (by decide)).2, st_2]) (by rw [sI_2, (b3 72 (by decide)).2, st_2])
      · refine RC_mx w3 w5 c.2 (fun x hx => ?_)
        rw [sI_o (by decide), (b3 77 (by decide)).1, st_e, cpy_in hx, (a3 21 (by decide)).1]
      · refine PM_cp W.1 m.1 (fun i hi => ?_) (fun i hi => ?_)
        · show (sI hm2 18 1 (nI 1)).1 16 (332 * 1 + i) = _
          rw [m2, d2 i (by omega) (by omega)]
        · rw [n2, e2 i (by omega) hi]
          exact congrArg (hm.2 5) (by omega)
      · refine RM0_mx w3 w5 m.2 (fun i h1 h2 => ?_) (fun _ _ => rfl)
        show (sI hm2 18 1 (nI 1)).1 16 (332 * 1 + i) = _
        rw [m2, d2 i (by omega) (by omega)]
      · refine SEr_cb (SEr_fr (b2 _ s1) (sI_o (by decide)) (sI_o (by decide)) (sI_o (by decide)) (sI_o (by decide))) (fun i h1 h2 => ?_)
        show (sI hm2 18 1 (nI 1)).1 16 (332 * 1 + i) = A.2 7 i
        rw [m2, d2 i (by omega) h2, ← m.2.2.2.2 i h1]
    have old : IM1 (sI hc3 68 3 (nI 1)) (sI hm2 18 1 (nI 1)) 54 0 := by
      refine IM1_fr (by first | exact o6 | exact o7) (fun x hx => FC _ ?_) (fun i hi => ?_) (fun i hi => ?_) ?_
      · have : ∀ x, x < 14 → 54 + x ∉ [68, 69, 70, 71, 72, 73, 74, 75, 76, 77, 78, 79, 80, 81] := by decide
        exact this x hx
      · rw [m2, d3 _ (by omega)]
      · rw [n2, e3 _ (by omega)]
        rfl
      · rw [sI_n (by decide), e4, st_o (by decide)]
    refine ⟨?_, ?_, ?_, ?_, ?_, by first | exact new | exact old, by first | exact new | exact old, ?_⟩
    · unfold TPr at o1 ⊢
      rw [(FC 1 (by decide)).1, (FC 2 (by decide)).1, (FM 1 (by decide)).1, (FM 0 (by decide)).1]
      exact o1
    · unfold FTr at o2 ⊢
      rw [(FC 0 (by decide)).1, (FM 0 (by decide)).1]
      exact o2
    · unfold TRr at o3 ⊢
      rw [(FC 0 (by decide)).1, (FM 0 (by decide)).1]
      exact o3
    · unfold MAr at o4 ⊢
      rw [(FC 53 (by decide)).1, (FM 0 (by decide)).1, (FM 12 (by decide)).1]
      exact o4
    · unfold BKr at o5 ⊢
      rw [(FC 83 (by decide)).1, (FM 0 (by decide)).1, (FM 13 (by decide)).1]
      exact o5
    · unfold RSr at o8 ⊢
      rw [(FM 6 (by decide)).2]
      exact o8
theorem G_back68 {P : Pl} {A : Ab} {F : Nat} {hc hm : HS} (hF : 20000 ≤ F) (q : Rel P A hc hm) (hk : hc.1 68 3 = nI 1) : ∃ hc2 hm2 P2 A2, (∀ K : HS → Option (Int32 × HS), bnd (f_Image_giveBack_68_42 hc) (fun _ h5 => bnd (f_Ways_sumUp F h5) (fun _ h6 => bnd (f_Desk_forget h6) (fun _ h7 => K h7))) = K hc2) ∧ (∀ K : HS → Option (Int32 × HS), l_M_restore_0 F (nI 1) (fun h7 => bl (nI 0) (fun v8 => l_M_restore_1 F (nI 1) (fun h11 => bl (sI h11 0 23 (nI 0)) (fun h12 => K h12)) F v8 h7)) F (nI 0) hm = K hm2) ∧ Rel P2 A2 hc2 hm2 := by
  obtain ⟨c, m, W0, Y, U, s, o⟩ := id q
  have im : IM1 hc hm 68 1 := by first | exact o.2.2.2.2.2.1 | exact o.2.2.2.2.2.2.1
  rcases im with ⟨x1, -⟩ | ⟨x1, x2, P2, A2, W, x3, x4, x5, x6, x7⟩
  · rw [hk] at x1
    exact absurd x1 (by decide)
  · obtain ⟨⟨wN, wNM, wM, wCo, w3, w4, w5, wC, wD, wK⟩, -⟩ := id W
    obtain ⟨hc1, a1, a2, a3⟩ := C_cp3_69 W.1 x3
    obtain ⟨hc3, b1, b2, b3⟩ := C_cs42_78 (st hc1 21 (va_cpy (hc1.1 77) (hc1.1 21) 0 0 91))
    have s1 : SEr 78 (st hc1 21 (va_cpy (hc1.1 77) (hc1.1 21) 0 0 91)) (A2.2 7) := SEr_fr x7 (by rw [st_o (by decide), (a3 78 (by decide)).1]) (by rw [st_o (by decide), (a3 79 (by decide)).1]) (by rw [st_o (by decide), (a3 80 (by decide)).1]) (by rw [st_o (by decide), (a3 81 (by decide)).1])
    have F3 : Fr [3, 4, 5, 6, 7, 8, 9, 10, 21, 42, 43, 44, 45] hc hc3 := Fr_t (Fr_mo (by decide) a3) (Fr_t (Fr_st (by decide)) (Fr_mo (by decide) b3))
    have p3 : PC P2 hc3 3 := PC_fr a2 (by rw [(b3 3 (by decide)).1, st_o (by decide)]) (by rw [(b3 7 (by decide)).1, st_o (by decide)]) (by rw [(b3 8 (by decide)).1, st_o (by decide)]) (by rw [(b3 9 (by decide)).1, st_o (by decide)]) (by rw [(b3 10 (by decide)).1, st_o (by decide)]) (by rw [(b3 4 (by decide)).2, st_2]) (by rw [(b3 5 (by decide)).2, st_2]) (by rw [(b3 6 (by decide)).2, st_2])
    have us : hc3.1 32 0 = nI 0 ∧ hc3.1 33 0 = nI 0 ∧ hc3.1 34 0 = nI 0 := by
      have z := Y.2 0 (Nat.two_pow_pos _)
      rw [sm_z, sm_z, sm_z] at z
      rw [(F3 32 (by decide)).1, (F3 33 (by decide)).1, (F3 34 (by decide)).1]
      exact z
    obtain ⟨hc5, c4, c5, c6⟩ := C_sumUp (F := F) (by omega) W.1 p3 us
    have p5 : PC P2 hc5 3 := PC_fr p3 (c6 3 (by decide)).1 (c6 7 (by decide)).1 (c6 8 (by decide)).1 (c6 9 (by decide)).1 (c6 10 (by decide)).1 (c6 4 (by decide)).2 (c6 5 (by decide)).2 (c6 6 (by decide)).2
    obtain ⟨f, d1, d2, d3⟩ := M_re0 (F := F) (k := 1) (by omega) 332 0 hm (by omega)
    obtain ⟨hm2, e1, e2, e3, e4, e5⟩ := M_re1 (F := F) (k := 1) (by omega) 17 0 (st hm 2 f) (by omega)
    have ms : (sI hm2 0 23 (nI 0)).1 2 = f := by rw [sI_o (by decide), e4, st_e]
    refine ⟨sI hc5 20 4 (nI 0), sI hm2 0 23 (nI 0), P2, wzA A2 f, fun K => ?_, fun K => ?_, ?_⟩
    · have lv : f_Desk_loadFrom 77 hc1 = some ((), st hc1 21 (va_cpy (hc1.1 77) (hc1.1 21) 0 0 91)) := C_loadFrom 77 hc1
      rw [f_Image_giveBack_68_42, a1, bnd_s, lv, bnd_s, b1, bnd_s, bnd_s, c4, bnd_s, f_Desk_forget, bl_e, bnd_s]
    · rw [d1 _ F (by omega), bl_e, e1 _ F (by omega), bl_e]
    · have fcz : Fr nwc hc (sI hc5 20 4 (nI 0)) := Fr_t (Fr_mo (by decide) F3) (Fr_t (Fr_mo (by decide) c6) (Fr_sI (by decide)))
      have z0 : ∀ y, y ∉ [3, 4, 5, 6, 7, 8, 9, 10, 20, 21, 31, 32, 33, 34, 42, 43, 44, 45] → (sI hc5 20 4 (nI 0)).1 y = hc.1 y := fun y hy => by
        have hh : Fr [3, 4, 5, 6, 7, 8, 9, 10, 20, 21, 31, 32, 33, 34, 42, 43, 44, 45] hc (sI hc5 20 4 (nI 0)) := Fr_t (Fr_mo (by decide) F3) (Fr_t (Fr_mo (by decide) c6) (Fr_sI (by decide)))
        exact (hh y hy).1
      have y0 : ∀ y, y ≠ 23 → (sI hm2 0 23 (nI 0)).1 0 y = hm.1 0 y := fun y hy => by rw [sI_n hy, e4, st_o (by decide)]
      obtain ⟨o1, o2, -⟩ := o
      refine Rel_new q ⟨?_, ?_⟩ ⟨?_, ?_⟩ (WF_wz W) ?_ sI_e ?_ sI_e ?_ fcz (Fr_t (Fr_st (i := 2) (f := f) (by decide)) (Fr_t (S := [0, 2, 3, 4, 5, 14]) (fun a ha => ⟨by rw [e4], by rw [e5 a (fun z => ha (by rw [z]; decide))]⟩) (Fr_sI (by decide)))) (fun x hx => y0 x (fun e => hx (by rw [e]; decide))) (by rw [z0 0 (by decide)]) ?_ ?_
      · exact PC_fr p5 (sI_o (by decide)) (sI_o (by decide)) (sI_o (by decide)) (sI_o (by decide)) (sI_o (by decide)) rfl rfl rfl
      · rw [sI_o (by decide), (c6 21 (by decide)).1, (b3 21 (by decide)).1, st_e]
        exact RC_mx w3 w5 x4 (fun x hx => by rw [cpy_in hx, (a3 77 (by decide)).1])
      · rw [ms]
        refine PM_cp W.1 x5 (fun i hi => ?_) (fun i hi => ?_)
        · rw [d2 i (by omega) (by omega)]
          rfl
        · rw [Nat.zero_add, sI_2, e2 i (by omega) hi]
          exact congrArg (hm.2 17) (by omega)
      · rw [ms]
        exact RM0_mx w3 w5 x6 (fun i h1 h2 => by rw [d2 i (by omega) (by omega)]; rfl) (fun _ _ => rfl)
      · exact WYr_fr c5 (sI_o (by decide)) (sI_o (by decide)) (sI_o (by decide)) (sI_o (by decide))
      · rw [sI_n (by decide), (c6 20 (by decide)).1, (F3 20 (by decide)).1]
      · refine SEr_cb (SEr_fr (b2 _ s1) (by rw [sI_o (by decide), (c6 42 (by decide)).1]) (by rw [sI_o (by decide), (c6 43 (by decide)).1]) (by rw [sI_o (by decide), (c6 44 (by decide)).1]) (by rw [sI_o (by decide), (c6 45 (by decide)).1])) (fun i h1 h2 => ?_)
        show f i = A2.2 7 i
        rw [d2 i (by omega) h2, ← x6.2.2.2 i h1]
        rfl
      · unfold TPr at o1 ⊢
        rw [z0 1 (by decide), z0 2 (by decide), y0 2 (by decide), sI_o (show (1 : Nat) ≠ 0 by decide), e4, st_o (show (1 : Nat) ≠ 2 by decide)]
        exact o1
      · unfold FTr at o2 ⊢
        rw [z0 0 (by decide), y0 15 (by decide)]
        exact o2
theorem S_image {F : Nat} (hF : 20000 ≤ F) (a : Int32) : Sim (f_LC_image a) (f_M_image F a) := by
  intro P A hc hm q0
  have q := Rel_th (v := nI 0) q0
  rw [f_LC_image, f_M_image, bl_e, bl_e]
  dsimp only
  rw [M_isIn1, bnd_s, ite_b0]
  by_cases h : inb a 2 = true
  · obtain ⟨hk, ek⟩ := inb_ex h
    generalize a.toNatClampNeg = k at hk ek
    rw [if_pos h, ek]
    rcases (show k = 0 ∨ k = 1 by omega) with e | e <;> subst e
    · obtain ⟨hc2, hm2, a1, a2, a3⟩ := G_keep54 (F := F) hF q
      refine ⟨nI 1, hc2, hm2, P, A, ?_, ?_, a3⟩
      · rw [if_pos (show nI 0 = 0 from rfl), if_pos (show nI 0 = 0 from rfl), a1, bnd_s, rZ1]
      · rw [bl_e, a2, rZ1]
    · obtain ⟨hc2, hm2, a1, a2, a3⟩ := G_keep68 (F := F) hF q
      refine ⟨nI 1, hc2, hm2, P, A, ?_, ?_, a3⟩
      · rw [if_neg (show ¬ nI 1 = 0 by decide), if_pos (show nI 1 = nI 1 from rfl), if_neg (show ¬ nI 1 = 0 by decide), a1, bnd_s, rZ1]
      · rw [bl_e, a2, rZ1]
  · rw [if_neg h, if_neg (show ¬ a = 0 from ninb (k := 0) h (by decide) (by decide)), if_neg (ninb (k := 1) h (by decide) (by decide)), rZ0, rZ0]
    exact ⟨_, _, _, P, A, rfl, rfl, q⟩
theorem S_restore {F : Nat} (hF : 20000 ≤ F) (a : Int32) : Sim (f_LC_restore F a) (f_M_restore F a) := by
  intro P A hc hm q0
  have q := Rel_th (v := nI 0) q0
  obtain ⟨-, -, -, -, -, -, o⟩ := id q
  rw [f_LC_restore, f_M_restore, bl_e, bl_e]
  dsimp only
  rw [M_isIn1, bnd_s, ite_b0]
  by_cases h : inb a 2 = true
  · obtain ⟨hk, ek⟩ := inb_ex h
    generalize a.toNatClampNeg = k at hk ek
    rw [if_pos h, ek, ifin (by omega) (by omega)]
    rcases (show k = 0 ∨ k = 1 by omega) with e | e <;> subst e
    · have im := o.2.2.2.2.2.1
      by_cases z : hc.1 54 3 = nI 1
      · obtain ⟨hc2, hm2, P2, A2, a1, a2, a3⟩ := G_back54 (F := F) hF q z
        have z2 : (sI hm 0 0 (nI 0)).1 18 0 = nI 1 := by
          rcases im with ⟨x1, -⟩ | ⟨-, x2, -⟩
          · rw [z] at x1; exact absurd x1 (by decide)
          · exact x2
        refine ⟨nI 1, hc2, hm2, P2, A2, ?_, ?_, a3⟩
        · rw [if_pos (show nI 0 = 0 from rfl), if_pos (show nI 0 = 0 from rfl), f_Image_isKept_54, z, rZ1, bnd_s, if_neg (show ¬ nI 1 = 0 by decide), if_pos (show nI 0 = 0 from rfl), a1, rZ1]
        · rw [z2, if_neg (show ¬ nI 1 = 0 by decide), bl_e, a2, rZ1]
      · have z1 : hc.1 54 3 = nI 0 ∧ (sI hm 0 0 (nI 0)).1 18 0 = nI 0 := by
          rcases im with x | ⟨x1, -⟩
          · exact x
          · exact absurd x1 z
        refine ⟨nI 0, hc, _, P, A, ?_, ?_, q⟩
        · rw [if_pos (show nI 0 = 0 from rfl), if_pos (show nI 0 = 0 from rfl), f_Image_isKept_54, z1.1, rZ0, bnd_s, if_pos (show nI 0 = 0 from rfl), rZ0]
        · rw [z1.2, if_pos (show nI 0 = 0 from rfl), rZ0]
    · have im := o.2.2.2.2.2.2.1
      by_cases z : hc.1 68 3 = nI 1
      · obtain ⟨hc2, hm2, P2, A2, a1, a2, a3⟩ := G_back68 (F := F) hF q z
        have z2 : (sI hm 0 0 (nI 0)).1 18 1 = nI 1 := by
          rcases im with ⟨x1, -⟩ | ⟨-, x2, -⟩
          · rw [z] at x1; exact absurd x1 (by decide)
          · exact x2
        refine ⟨nI 1, hc2, hm2, P2, A2, ?_, ?_, a3⟩
        · rw [if_neg (show ¬ nI 1 = 0 by decide), if_pos (show nI 1 = nI 1 from rfl), if_neg (show ¬ nI 1 = 0 by decide), f_Image_isKept_68, z, rZ1, bnd_s, if_neg (show ¬ nI 1 = 0 by decide), if_neg (show ¬ nI 1 = 0 by decide), a1, rZ1]
        · rw [z2, if_neg (show ¬ nI 1 = 0 by decide), bl_e, a2, rZ1]
      · have z1 : hc.1 68 3 = nI 0 ∧ (sI hm 0 0 (nI 0)).1 18 1 = nI 0 := by
          rcases im with x | ⟨x1, -⟩
          · exact x
          · exact absurd x1 z
        refine ⟨nI 0, hc, _, P, A, ?_, ?_, q⟩
        · rw [if_neg (show ¬ nI 1 = 0 by decide), if_pos (show nI 1 = nI 1 from rfl), if_neg (show ¬ nI 1 = 0 by decide), f_Image_isKept_68, z1.1, rZ0, bnd_s, if_pos (show nI 0 = 0 from rfl), rZ0]
        · rw [z1.2, if_pos (show nI 0 = 0 from rfl), rZ0]
  · rw [if_neg h, if_neg (show ¬ a = 0 from ninb (k := 0) h (by decide) (by decide)), if_neg (ninb (k := 1) h (by decide) (by decide)), rZ0, rZ0]
    exact ⟨_, _, _, P, A, rfl, rfl, q⟩
