/-! ===== copies; sums over sets; the bureau's beginning ===== -/
theorem cI_o {h : HS} {i j n a : Nat} (q : a ≠ j) : (cI h i j 0 0 n).1 a = h.1 a := if_neg q
theorem cI_e {h : HS} {i j n : Nat} : (cI h i j 0 0 n).1 j = va_cpy (h.1 i) (h.1 j) 0 0 n := if_pos rfl
theorem cI_2 {h : HS} {i j n : Nat} : (cI h i j 0 0 n).2 = h.2 := rfl
theorem cL_1 {h : HS} {i j n : Nat} : (cL h i j 0 0 n).1 = h.1 := rfl
theorem cL_o {h : HS} {i j n a : Nat} (q : a ≠ j) : (cL h i j 0 0 n).2 a = h.2 a := if_neg q
theorem cL_e {h : HS} {i j n : Nat} : (cL h i j 0 0 n).2 j = va_cpy (h.2 i) (h.2 j) 0 0 n := if_pos rfl
theorem Fr_cI {S : List Nat} {h : HS} {i j n : Nat} (hj : j ∈ S) : Fr S h (cI h i j 0 0 n) := fun a ha => ⟨cI_o (fun e => ha (e ▸ hj)), rfl⟩
theorem Fr_cL {S : List Nat} {h : HS} {i j n : Nat} (hj : j ∈ S) : Fr S h (cL h i j 0 0 n) := fun a ha => ⟨rfl, cL_o (fun e => ha (e ▸ hj))⟩
theorem PC_cp {P : Pl} {h h2 : HS} {b c : Nat} (W : WFP P) (q : PC P h b) (c0 : ∀ x, x < 6 → h2.1 c x = h.1 b x) (c4 : ∀ x, x < 24 → h2.1 (c + 4) x = h.1 (b + 4) x) (c5 : ∀ x, x < 12 → h2.1 (c + 5) x = h.1 (b + 5) x) (c6 : ∀ x, x < 18 → h2.1 (c + 6) x = h.1 (b + 6) x) (c7 : ∀ x, x < 5 → h2.1 (c + 7) x = h.1 (b + 7) x) (d1 : ∀ x, x < 6 → h2.2 (c + 1) x = h.2 (b + 1) x) (d2 : ∀ x, x < 6 → h2.2 (c + 2) x = h.2 (b + 2) x) (d3 : ∀ x, x < 5 → h2.2 (c + 3) x = h.2 (b + 3) x) : PC P h2 c := by
  obtain ⟨wN, wNM, wM, wCo, w3, w4, w5, wC, wD, wK⟩ := W
  obtain ⟨⟨a0, a1, a2, a3, a4, a5⟩, b1, b2, b3, b4, b5, b6, b7⟩ := q
  refine ⟨⟨by rw [c0 0 (by omega), a0], by rw [c0 1 (by omega), a1], by rw [c0 2 (by omega), a2], by rw [c0 3 (by omega), a3], by rw [c0 4 (by omega), a4], by rw [c0 5 (by omega), a5]⟩, fun x w hx hw => ?_, fun x w hx hw hz => ?_, fun x w hx hw => ?_, fun x hx => ?_, fun x hx => ?_, fun x hx => ?_, fun x hx => ?_⟩
  · rw [c4 _ (by omega)]; exact b1 x w hx hw
  · rw [c5 _ (by omega)]; exact b2 x w hx hw hz
  · rw [c6 _ (by omega)]; exact b3 x w hx hw
  · rw [c7 _ (by omega)]; exact b4 x hx
  · rw [d1 _ (by omega)]; exact b5 x hx
  · rw [d2 _ (by omega)]; exact b6 x hx
  · rw [d3 _ (by omega)]; exact b7 x hx
theorem C_cp3_11 {P : Pl} {h : HS} (W : WFP P) (q : PC P h 11) : ∃ h2, f_Plan_copyFrom_3_11 h = some ((), h2) ∧ PC P h2 3 ∧ Fr [3, 4, 5, 6, 7, 8, 9, 10] h h2 := by
  obtain ⟨h6, e6, f6, v6⟩ : ∃ h6, (∀ K : HS → Option (Unit × HS), bl (sI h 3 0 (h.1 11 0)) (fun h1 => bl (sI h1 3 1 (h1.1 11 1)) (fun h2 => bl (sI h2 3 2 (h2.1 11 2)) (fun h3 => bl (sI h3 3 3 (h3.1 11 3)) (fun h4 => bl (sI h4 3 4 (h4.1 11 4)) (fun h5 => bl (sI h5 3 5 (h5.1 11 5)) (fun h6 => K h6)))))) = K h6) ∧ Fr [3] h h6 ∧ ∀ x, x < 6 → h6.1 3 x = h.1 11 x := by
    refine ⟨sI (sI (sI (sI (sI (sI h 3 0 (h.1 11 0)) 3 1 (h.1 11 1)) 3 2 (h.1 11 2)) 3 3 (h.1 11 3)) 3 4 (h.1 11 4)) 3 5 (h.1 11 5), fun K => ?_, Fr_t (Fr_t (Fr_t (Fr_t (Fr_t (Fr_sI (by decide)) (Fr_sI (by decide))) (Fr_sI (by decide))) (Fr_sI (by decide))) (Fr_sI (by decide))) (Fr_sI (by decide)), fun x hx => ?_⟩
    · rw [bl_e, bl_e, bl_e, bl_e, bl_e, bl_e]
      simp only [sI_o (show (11 : Nat) ≠ 3 by decide)]
    · rw [sI_u, sI_u, sI_u, sI_u, sI_u, sI_u]
      rcases (show x = 0 ∨ x = 1 ∨ x = 2 ∨ x = 3 ∨ x = 4 ∨ x = 5 by omega) with e | e | e | e | e | e <;> subst e <;> rfl
  refine ⟨_, by rw [f_Plan_copyFrom_3_11]; exact e6 _, ?_, ?_⟩
  · refine PC_cp W q (fun x hx => ?_) (fun x hx => ?_) (fun x hx => ?_) (fun x hx => ?_) (fun x hx => ?_) (fun x hx => ?_) (fun x hx => ?_) (fun x hx => ?_)
    · rw [cI_o (by decide), cI_o (by decide), cI_o (by decide), cI_o (by decide)]
      exact v6 x hx
    · rw [cI_o (by decide), cI_o (by decide), cI_o (by decide), cI_e, cpy_in hx]
      exact congrFun (f6 15 (by decide)).1 x
    · rw [cI_o (by decide), cI_o (by decide), cI_e, cpy_in hx, cI_o (by decide)]
      exact congrFun (f6 16 (by decide)).1 x
    · rw [cI_o (by decide), cI_e, cpy_in hx, cI_o (by decide), cI_o (by decide)]
      exact congrFun (f6 17 (by decide)).1 x
    · rw [cI_e, cpy_in hx, cI_o (by decide), cI_o (by decide), cI_o (by decide)]
      exact congrFun (f6 18 (by decide)).1 x
    · rw [cI_2, cI_2, cI_2, cI_2, cL_o (by decide), cL_o (by decide), cL_e, cpy_in hx]
      exact congrFun (f6 12 (by decide)).2 x
    · rw [cI_2, cI_2, cI_2, cI_2, cL_o (by decide), cL_e, cpy_in hx, cL_o (by decide)]
      exact congrFun (f6 13 (by decide)).2 x
    · rw [cI_2, cI_2, cI_2, cI_2, cL_e, cpy_in hx, cL_o (by decide), cL_o (by decide)]
      exact congrFun (f6 14 (by decide)).2 x
  · exact Fr_t (Fr_mo (by decide) f6) (Fr_t (Fr_t (Fr_t (Fr_t (Fr_t (Fr_t (Fr_cL (by decide)) (Fr_cL (by decide))) (Fr_cL (by decide))) (Fr_cI (by decide))) (Fr_cI (by decide))) (Fr_cI (by decide))) (Fr_cI (by decide)))
theorem C_cp55 {P : Pl} {h : HS} (W : WFP P) (q : PC P h 3) : ∃ h2, f_Plan_copyFrom_55 h = some ((), h2) ∧ PC P h2 55 ∧ Fr [55, 56, 57, 58, 59, 60, 61, 62] h h2 := by
  obtain ⟨h6, e6, f6, v6⟩ : ∃ h6, (∀ K : HS → Option (Unit × HS), bl (sI h 55 0 (h.1 3 0)) (fun h1 => bl (sI h1 55 1 (h1.1 3 1)) (fun h2 => bl (sI h2 55 2 (h2.1 3 2)) (fun h3 => bl (sI h3 55 3 (h3.1 3 3)) (fun h4 => bl (sI h4 55 4 (h4.1 3 4)) (fun h5 => bl (sI h5 55 5 (h5.1 3 5)) (fun h6 => K h6)))))) = K h6) ∧ Fr [55] h h6 ∧ ∀ x, x < 6 → h6.1 55 x = h.1 3 x := by
    refine ⟨sI (sI (sI (sI (sI (sI h 55 0 (h.1 3 0)) 55 1 (h.1 3 1)) 55 2 (h.1 3 2)) 55 3 (h.1 3 3)) 55 4 (h.1 3 4)) 55 5 (h.1 3 5), fun K => ?_, Fr_t (Fr_t (Fr_t (Fr_t (Fr_t (Fr_sI (by decide)) (Fr_sI (by decide))) (Fr_sI (by decide))) (Fr_sI (by decide))) (Fr_sI (by decide))) (Fr_sI (by decide)), fun x hx => ?_⟩
    · rw [bl_e, bl_e, bl_e, bl_e, bl_e, bl_e]
      simp only [sI_o (show (3 : Nat) ≠ 55 by decide)]
    · rw [sI_u, sI_u, sI_u, sI_u, sI_u, sI_u]
      rcases (show x = 0 ∨ x = 1 ∨ x = 2 ∨ x = 3 ∨ x = 4 ∨ x = 5 by omega) with e | e | e | e | e | e <;> subst e <;> rfl
  refine ⟨_, by rw [f_Plan_copyFrom_55]; exact e6 _, ?_, ?_⟩
  · refine PC_cp W q (fun x hx => ?_) (fun x hx => ?_) (fun x hx => ?_) (fun x hx => ?_) (fun x hx => ?_) (fun x hx => ?_) (fun x hx => ?_) (fun x hx => ?_)
    · rw [cI_o (by decide), cI_o (by decide), cI_o (by decide), cI_o (by decide)]
      exact v6 x hx
    · rw [cI_o (by decide), cI_o (by decide), cI_o (by decide), cI_e, cpy_in hx]
      exact congrFun (f6 7 (by decide)).1 x
    · rw [cI_o (by decide), cI_o (by decide), cI_e, cpy_in hx, cI_o (by decide)]
      exact congrFun (f6 8 (by decide)).1 x
    · rw [cI_o (by decide), cI_e, cpy_in hx, cI_o (by decide), cI_o (by decide)]
      exact congrFun (f6 9 (by decide)).1 x
    · rw [cI_e, cpy_in hx, cI_o (by decide), cI_o (by decide), cI_o (by decide)]
      exact congrFun (f6 10 (by decide)).1 x
    · rw [cI_2, cI_2, cI_2, cI_2, cL_o (by decide), cL_o (by decide), cL_e, cpy_in hx]
      exact congrFun (f6 4 (by decide)).2 x
    · rw [cI_2, cI_2, cI_2, cI_2, cL_o (by decide), cL_e, cpy_in hx, cL_o (by decide)]
      exact congrFun (f6 5 (by decide)).2 x
    · rw [cI_2, cI_2, cI_2, cI_2, cL_e, cpy_in hx, cL_o (by decide), cL_o (by decide)]
      exact congrFun (f6 6 (by decide)).2 x
  · exact Fr_t (Fr_mo (by decide) f6) (Fr_t (Fr_t (Fr_t (Fr_t (Fr_t (Fr_t (Fr_cL (by decide)) (Fr_cL (by decide))) (Fr_cL (by decide))) (Fr_cI (by decide))) (Fr_cI (by decide))) (Fr_cI (by decide))) (Fr_cI (by decide)))
theorem C_cp69 {P : Pl} {h : HS} (W : WFP P) (q : PC P h 3) : ∃ h2, f_Plan_copyFrom_69 h = some ((), h2) ∧ PC P h2 69 ∧ Fr [69, 70, 71, 72, 73, 74, 75, 76] h h2 := by
  obtain ⟨h6, e6, f6, v6⟩ : ∃ h6, (∀ K : HS → Option (Unit × HS), bl (sI h 69 0 (h.1 3 0)) (fun h1 => bl (sI h1 69 1 (h1.1 3 1)) (fun h2 => bl (sI h2 69 2 (h2.1 3 2)) (fun h3 => bl (sI h3 69 3 (h3.1 3 3)) (fun h4 => bl (sI h4 69 4 (h4.1 3 4)) (fun h5 => bl (sI h5 69 5 (h5.1 3 5)) (fun h6 => K h6)))))) = K h6) ∧ Fr [69] h h6 ∧ ∀ x, x < 6 → h6.1 69 x = h.1 3 x := by
    refine ⟨sI (sI (sI (sI (sI (sI h 69 0 (h.1 3 0)) 69 1 (h.1 3 1)) 69 2 (h.1 3 2)) 69 3 (h.1 3 3)) 69 4 (h.1 3 4)) 69 5 (h.1 3 5), fun K => ?_, Fr_t (Fr_t (Fr_t (Fr_t (Fr_t (Fr_sI (by decide)) (Fr_sI (by decide))) (Fr_sI (by decide))) (Fr_sI (by decide))) (Fr_sI (by decide))) (Fr_sI (by decide)), fun x hx => ?_⟩
    · rw [bl_e, bl_e, bl_e, bl_e, bl_e, bl_e]
      simp only [sI_o (show (3 : Nat) ≠ 69 by decide)]
    · rw [sI_u, sI_u, sI_u, sI_u, sI_u, sI_u]
      rcases (show x = 0 ∨ x = 1 ∨ x = 2 ∨ x = 3 ∨ x = 4 ∨ x = 5 by omega) with e | e | e | e | e | e <;> subst e <;> rfl
  refine ⟨_, by rw [f_Plan_copyFrom_69]; exact e6 _, ?_, ?_⟩
  · refine PC_cp W q (fun x hx => ?_) (fun x hx => ?_) (fun x hx => ?_) (fun x hx => ?_) (fun x hx => ?_) (fun x hx => ?_) (fun x hx => ?_) (fun x hx => ?_)
    · rw [cI_o (by decide), cI_o (by decide), cI_o (by decide), cI_o (by decide)]
      exact v6 x hx
    · rw [cI_o (by decide), cI_o (by decide), cI_o (by decide), cI_e, cpy_in hx]
      exact congrFun (f6 7 (by decide)).1 x
    · rw [cI_o (by decide), cI_o (by decide), cI_e, cpy_in hx, cI_o (by decide)]
      exact congrFun (f6 8 (by decide)).1 x
    · rw [cI_o (by decide), cI_e, cpy_in hx, cI_o (by decide), cI_o (by decide)]
      exact congrFun (f6 9 (by decide)).1 x
    · rw [cI_e, cpy_in hx, cI_o (by decide), cI_o (by decide), cI_o (by decide)]
      exact congrFun (f6 10 (by decide)).1 x
    · rw [cI_2, cI_2, cI_2, cI_2, cL_o (by decide), cL_o (by decide), cL_e, cpy_in hx]
      exact congrFun (f6 4 (by decide)).2 x
    · rw [cI_2, cI_2, cI_2, cI_2, cL_o (by decide), cL_e, cpy_in hx, cL_o (by decide)]
      exact congrFun (f6 5 (by decide)).2 x
    · rw [cI_2, cI_2, cI_2, cI_2, cL_e, cpy_in hx, cL_o (by decide), cL_o (by decide)]
      exact congrFun (f6 6 (by decide)).2 x
  · exact Fr_t (Fr_mo (by decide) f6) (Fr_t (Fr_t (Fr_t (Fr_t (Fr_t (Fr_t (Fr_cL (by decide)) (Fr_cL (by decide))) (Fr_cL (by decide))) (Fr_cI (by decide))) (Fr_cI (by decide))) (Fr_cI (by decide))) (Fr_cI (by decide)))
theorem C_cp3_55 {P : Pl} {h : HS} (W : WFP P) (q : PC P h 55) : ∃ h2, f_Plan_copyFrom_3_55 h = some ((), h2) ∧ PC P h2 3 ∧ Fr [3, 4, 5, 6, 7, 8, 9, 10] h h2 := by
  obtain ⟨h6, e6, f6, v6⟩ : ∃ h6, (∀ K : HS → Option (Unit × HS), bl (sI h 3 0 (h.1 55 0)) (fun h1 => bl (sI h1 3 1 (h1.1 55 1)) (fun h2 => bl (sI h2 3 2 (h2.1 55 2)) (fun h3 => bl (sI h3 3 3 (h3.1 55 3)) (fun h4 => bl (sI h4 3 4 (h4.1 55 4)) (fun h5 => bl (sI h5 3 5 (h5.1 55 5)) (fun h6 => K h6)))))) = K h6) ∧ Fr [3] h h6 ∧ ∀ x, x < 6 → h6.1 3 x = h.1 55 x := by
    refine ⟨sI (sI (sI (sI (sI (sI h 3 0 (h.1 55 0)) 3 1 (h.1 55 1)) 3 2 (h.1 55 2)) 3 3 (h.1 55 3)) 3 4 (h.1 55 4)) 3 5 (h.1 55 5), fun K => ?_, Fr_t (Fr_t (Fr_t (Fr_t (Fr_t (Fr_sI (by decide)) (Fr_sI (by decide))) (Fr_sI (by decide))) (Fr_sI (by decide))) (Fr_sI (by decide))) (Fr_sI (by decide)), fun x hx => ?_⟩
    · rw [bl_e, bl_e, bl_e, bl_e, bl_e, bl_e]
      simp only [sI_o (show (55 : Nat) ≠ 3 by decide)]
    · rw [sI_u, sI_u, sI_u, sI_u, sI_u, sI_u]
      rcases (show x = 0 ∨ x = 1 ∨ x = 2 ∨ x = 3 ∨ x = 4 ∨ x = 5 by omega) with e | e | e | e | e | e <;> subst e <;> rfl
  refine ⟨_, by rw [f_Plan_copyFrom_3_55]; exact e6 _, ?_, ?_⟩
  · refine PC_cp W q (fun x hx => ?_) (fun x hx => ?_) (fun x hx => ?_) (fun x hx => ?_) (fun x hx => ?_) (fun x hx => ?_) (fun x hx => ?_) (fun x hx => ?_)
    · rw [cI_o (by decide), cI_o (by decide), cI_o (by decide), cI_o (by decide)]
      exact v6 x hx
    · rw [cI_o (by decide), cI_o (by decide), cI_o (by decide), cI_e, cpy_in hx]
      exact congrFun (f6 59 (by decide)).1 x
    · rw [cI_o (by decide), cI_o (by decide), cI_e, cpy_in hx, cI_o (by decide)]
      exact congrFun (f6 60 (by decide)).1 x
    · rw [cI_o (by decide), cI_e, cpy_in hx, cI_o (by decide), cI_o (by decide)]
      exact congrFun (f6 61 (by decide)).1 x
    · rw [cI_e, cpy_in hx, cI_o (by decide), cI_o (by decide), cI_o (by decide)]
      exact congrFun (f6 62 (by decide)).1 x
    · rw [cI_2, cI_2, cI_2, cI_2, cL_o (by decide), cL_o (by decide), cL_e, cpy_in hx]
      exact congrFun (f6 56 (by decide)).2 x
    · rw [cI_2, cI_2, cI_2, cI_2, cL_o (by decide), cL_e, cpy_in hx, cL_o (by decide)]
      exact congrFun (f6 57 (by decide)).2 x
    · rw [cI_2, cI_2, cI_2, cI_2, cL_e, cpy_in hx, cL_o (by decide), cL_o (by decide)]
      exact congrFun (f6 58 (by decide)).2 x
  · exact Fr_t (Fr_mo (by decide) f6) (Fr_t (Fr_t (Fr_t (Fr_t (Fr_t (Fr_t (Fr_cL (by decide)) (Fr_cL (by decide))) (Fr_cL (by decide))) (Fr_cI (by decide))) (Fr_cI (by decide))) (Fr_cI (by decide))) (Fr_cI (by decide)))
theorem C_cp3_69 {P : Pl} {h : HS} (W : WFP P) (q : PC P h 69) : ∃ h2, f_Plan_copyFrom_3_69 h = some ((), h2) ∧ PC P h2 3 ∧ Fr [3, 4, 5, 6, 7, 8, 9, 10] h h2 := by
  obtain ⟨h6, e6, f6, v6⟩ : ∃ h6, (∀ K : HS → Option (Unit × HS), bl (sI h 3 0 (h.1 69 0)) (fun h1 => bl (sI h1 3 1 (h1.1 69 1)) (fun h2 => bl (sI h2 3 2 (h2.1 69 2)) (fun h3 => bl (sI h3 3 3 (h3.1 69 3)) (fun h4 => bl (sI h4 3 4 (h4.1 69 4)) (fun h5 => bl (sI h5 3 5 (h5.1 69 5)) (fun h6 => K h6)))))) = K h6) ∧ Fr [3] h h6 ∧ ∀ x, x < 6 → h6.1 3 x = h.1 69 x := by
    refine ⟨sI (sI (sI (sI (sI (sI h 3 0 (h.1 69 0)) 3 1 (h.1 69 1)) 3 2 (h.1 69 2)) 3 3 (h.1 69 3)) 3 4 (h.1 69 4)) 3 5 (h.1 69 5), fun K => ?_, Fr_t (Fr_t (Fr_t (Fr_t (Fr_t (Fr_sI (by decide)) (Fr_sI (by decide))) (Fr_sI (by decide))) (Fr_sI (by decide))) (Fr_sI (by decide))) (Fr_sI (by decide)), fun x hx => ?_⟩
    · rw [bl_e, bl_e, bl_e, bl_e, bl_e, bl_e]
      simp only [sI_o (show (69 : Nat) ≠ 3 by decide)]
    · rw [sI_u, sI_u, sI_u, sI_u, sI_u, sI_u]
      rcases (show x = 0 ∨ x = 1 ∨ x = 2 ∨ x = 3 ∨ x = 4 ∨ x = 5 by omega) with e | e | e | e | e | e <;> subst e <;> rfl
  refine ⟨_, by rw [f_Plan_copyFrom_3_69]; exact e6 _, ?_, ?_⟩
  · refine PC_cp W q (fun x hx => ?_) (fun x hx => ?_) (fun x hx => ?_) (fun x hx => ?_) (fun x hx => ?_) (fun x hx => ?_) (fun x hx => ?_) (fun x hx => ?_)
    · rw [cI_o (by decide), cI_o (by decide), cI_o (by decide), cI_o (by decide)]
      exact v6 x hx
    · rw [cI_o (by decide), cI_o (by decide), cI_o (by decide), cI_e, cpy_in hx]
      exact congrFun (f6 73 (by decide)).1 x
    · rw [cI_o (by decide), cI_o (by decide), cI_e, cpy_in hx, cI_o (by decide)]
      exact congrFun (f6 74 (by decide)).1 x
    · rw [cI_o (by decide), cI_e, cpy_in hx, cI_o (by decide), cI_o (by decide)]
      exact congrFun (f6 75 (by decide)).1 x
    · rw [cI_e, cpy_in hx, cI_o (by decide), cI_o (by decide), cI_o (by decide)]
      exact congrFun (f6 76 (by decide)).1 x
    · rw [cI_2, cI_2, cI_2, cI_2, cL_o (by decide), cL_o (by decide), cL_e, cpy_in hx]
      exact congrFun (f6 70 (by decide)).2 x
    · rw [cI_2, cI_2, cI_2, cI_2, cL_o (by decide), cL_e, cpy_in hx, cL_o (by decide)]
      exact congrFun (f6 71 (by decide)).2 x
    · rw [cI_2, cI_2, cI_2, cI_2, cL_e, cpy_in hx, cL_o (by decide), cL_o (by decide)]
      exact congrFun (f6 72 (by decide)).2 x
  · exact Fr_t (Fr_mo (by decide) f6) (Fr_t (Fr_t (Fr_t (Fr_t (Fr_t (Fr_t (Fr_cL (by decide)) (Fr_cL (by decide))) (Fr_cL (by decide))) (Fr_cI (by decide))) (Fr_cI (by decide))) (Fr_cI (by decide))) (Fr_cI (by decide)))
theorem dpn_cg {s t : Nat → Int32} {m : Nat} (h : ∀ i, i < m → t i = s i) : ∀ i, i ≤ m → dpn t i = dpn s i := by
  intro i
  induction i with
  | zero => intro _; rfl
  | succ i ih =>
    intro hi
    unfold dpn
    rw [ih (by omega), h i (by omega)]
theorem SEr_cp {b c : Nat} {h h2 : HS} {z : Nat → Int32} (q : SEr b h z) (c0 : h2.1 c 3 = h.1 b 3) (c1 : ∀ i, i < 40 → h2.1 (c + 1) i = h.1 (b + 1) i) (c2 : ∀ i, i < 40 → h2.1 (c + 2) i = h.1 (b + 2) i) (c3 : ∀ i, i < 40 → h2.1 (c + 3) i = h.1 (b + 3) i) : SEr c h2 z := by
  obtain ⟨m, m1, m2, m3, m4, m5, m6⟩ := q
  refine ⟨m, m1, by rw [c0, m2], m3, fun i hi => ?_, fun i hi => ?_, fun hm => ?_⟩
  · rw [c1 i (by omega), c2 i (by omega), c3 i (by omega)]
    exact m4 i hi
  · rw [c1 i (by omega), dpn_cg (fun i hi => c1 i (by omega)) i (show i ≤ m by omega), dpn_cg (fun i hi => c1 i (by omega)) (i + 1) (show i + 1 ≤ m by omega)]
    exact m5 i hi
  · rw [dpn_cg (fun i hi => c1 i (by omega)) m (Nat.le_refl _)]
    exact m6 hm
theorem C_cs42_46 (h : HS) : ∃ h2, f_Sent_copyFrom_42_46 h = some ((), h2) ∧ (∀ z, SEr 46 h z → SEr 42 h2 z) ∧ Fr [42, 43, 44, 45] h h2 := by
  refine ⟨_, rfl, fun z q => SEr_cp q ?_ (fun i hi => ?_) (fun i hi => ?_) (fun i hi => ?_), Fr_t (Fr_t (Fr_t (Fr_sI (by decide)) (Fr_cI (by decide))) (Fr_cI (by decide))) (Fr_cI (by decide))⟩
  · rw [cI_o (by decide), cI_o (by decide), cI_o (by decide), sI_e]
  · rw [cI_o (by decide), cI_o (by decide), cI_e, cpy_in hi, sI_o (by decide)]
  · rw [cI_o (by decide), cI_e, cpy_in hi, cI_o (by decide), sI_o (by decide)]
  · rw [cI_e, cpy_in hi, cI_o (by decide), cI_o (by decide), sI_o (by decide)]
theorem C_cs64_42 (h : HS) : ∃ h2, f_Sent_copyFrom_64_42 h = some ((), h2) ∧ (∀ z, SEr 42 h z → SEr 64 h2 z) ∧ Fr [64, 65, 66, 67] h h2 := by
  refine ⟨_, rfl, fun z q => SEr_cp q ?_ (fun i hi => ?_) (fun i hi => ?_) (fun i hi => ?_), Fr_t (Fr_t (Fr_t (Fr_sI (by decide)) (Fr_cI (by decide))) (Fr_cI (by decide))) (Fr_cI (by decide))⟩
  · rw [cI_o (by decide), cI_o (by decide), cI_o (by decide), sI_e]
  · rw [cI_o (by decide), cI_o (by decide), cI_e, cpy_in hi, sI_o (by decide)]
  · rw [cI_o (by decide), cI_e, cpy_in hi, cI_o (by decide), sI_o (by decide)]
  · rw [cI_e, cpy_in hi, cI_o (by decide), cI_o (by decide), sI_o (by decide)]
theorem C_cs78_42 (h : HS) : ∃ h2, f_Sent_copyFrom_78_42 h = some ((), h2) ∧ (∀ z, SEr 42 h z → SEr 78 h2 z) ∧ Fr [78, 79, 80, 81] h h2 := by
  refine ⟨_, rfl, fun z q => SEr_cp q ?_ (fun i hi => ?_) (fun i hi => ?_) (fun i hi => ?_), Fr_t (Fr_t (Fr_t (Fr_sI (by decide)) (Fr_cI (by decide))) (Fr_cI (by decide))) (Fr_cI (by decide))⟩
  · rw [cI_o (by decide), cI_o (by decide), cI_o (by decide), sI_e]
  · rw [cI_o (by decide), cI_o (by decide), cI_e, cpy_in hi, sI_o (by decide)]
  · rw [cI_o (by decide), cI_e, cpy_in hi, cI_o (by decide), sI_o (by decide)]
  · rw [cI_e, cpy_in hi, cI_o (by decide), cI_o (by decide), sI_o (by decide)]
theorem C_cs42_64 (h : HS) : ∃ h2, f_Sent_copyFrom_42_64 h = some ((), h2) ∧ (∀ z, SEr 64 h z → SEr 42 h2 z) ∧ Fr [42, 43, 44, 45] h h2 := by
  refine ⟨_, rfl, fun z q => SEr_cp q ?_ (fun i hi => ?_) (fun i hi => ?_) (fun i hi => ?_), Fr_t (Fr_t (Fr_t (Fr_sI (by decide)) (Fr_cI (by decide))) (Fr_cI (by decide))) (Fr_cI (by decide))⟩
  · rw [cI_o (by decide), cI_o (by decide), cI_o (by decide), sI_e]
  · rw [cI_o (by decide), cI_o (by decide), cI_e, cpy_in hi, sI_o (by decide)]
  · rw [cI_o (by decide), cI_e, cpy_in hi, cI_o (by decide), sI_o (by decide)]
  · rw [cI_e, cpy_in hi, cI_o (by decide), cI_o (by decide), sI_o (by decide)]
theorem C_cs42_78 (h : HS) : ∃ h2, f_Sent_copyFrom_42_78 h = some ((), h2) ∧ (∀ z, SEr 78 h z → SEr 42 h2 z) ∧ Fr [42, 43, 44, 45] h h2 := by
  refine ⟨_, rfl, fun z q => SEr_cp q ?_ (fun i hi => ?_) (fun i hi => ?_) (fun i hi => ?_), Fr_t (Fr_t (Fr_t (Fr_sI (by decide)) (Fr_cI (by decide))) (Fr_cI (by decide))) (Fr_cI (by decide))⟩
  · rw [cI_o (by decide), cI_o (by decide), cI_o (by decide), sI_e]
  · rw [cI_o (by decide), cI_o (by decide), cI_e, cpy_in hi, sI_o (by decide)]
  · rw [cI_o (by decide), cI_e, cpy_in hi, cI_o (by decide), sI_o (by decide)]
  · rw [cI_e, cpy_in hi, cI_o (by decide), cI_o (by decide), sI_o (by decide)]
/-! sums over all sets of DEEDS -/
theorem or_hi {s d : Nat} (h : s < 2 ^ d) : s ||| 2 ^ d = 2 ^ d + s := by
  have := Nat.two_pow_add_eq_or_of_lt h 1
  rw [Nat.mul_one] at this
  rw [this, Nat.or_comm]
def SU (P : Pl) (h : HS) (n : Nat) : Prop := ∀ s, s < n → h.1 32 s = nI (sm P 7 s) ∧ h.1 33 s = nI (sm P 8 s) ∧ h.1 34 s = nI (sm P 9 s)
theorem C_su1 {P : Pl} {F d : Nat} (W : WFP P) (hd : d < P 0 4) : ∀ (j s : Nat) (h : HS), s + j = 2 ^ d → PC P h 3 → SU P h (2 ^ d + s) → ∃ h2, (∀ K g, j < g → l_Ways_sumUp_1 F (nI d) (nI (2 ^ d)) K g (nI s) h = K h2) ∧ SU P h2 (2 ^ (d + 1)) ∧ Fr [32, 33, 34] h h2 := by
  obtain ⟨wN, wNM, wM, wCo, w3, w4, w5, wC, wD, wK⟩ := id W
  have h64 : 2 ^ (d + 1) ≤ 64 := Nat.pow_le_pow_right (by decide) (show d + 1 ≤ 6 by omega)
  rw [Nat.pow_succ] at h64 ⊢
  intro j
  induction j with
  | zero =>
    intro s h hs q u
    refine ⟨h, fun K g hg => ?_, by rw [show 2 ^ d * 2 = 2 ^ d + s by omega]; exact u, Fr_rf⟩
    obtain ⟨g, rfl⟩ : ∃ z, g = z + 1 := ⟨g - 1, by omega⟩
    rw [l_Ways_sumUp_1, ite_leN (by omega) (by omega), if_pos (by omega)]
  | succ j ih =>
    intro s h hs q u
    obtain ⟨u1, u2, u3⟩ := u s (by omega)
    have hb : s.testBit d = false := Nat.testBit_lt_two_pow (by omega)
    have o := or_hi (show s < 2 ^ d by omega)
    have k1 := sm_or (P := P) (f := 7) (show d < 6 by omega) hb
    have k2 := sm_or (P := P) (f := 8) (show d < 6 by omega) hb
    have k3 := sm_or (P := P) (f := 9) (show d < 6 by omega) hb
    have q1 : PC P (sI h 32 (2 ^ d + s) (nI (sm P 7 s + P 7 d))) 3 := by rw [sI_st]; exact PC_st (by omega) q
    have q2 : PC P (sI (sI h 32 (2 ^ d + s) (nI (sm P 7 s + P 7 d))) 33 (2 ^ d + s) (nI (sm P 8 s + P 8 d))) 3 := by rw [sI_st]; exact PC_st (by omega) q1
    have q3 : PC P (sI (sI (sI h 32 (2 ^ d + s) (nI (sm P 7 s + P 7 d))) 33 (2 ^ d + s) (nI (sm P 8 s + P 8 d))) 34 (2 ^ d + s) (nI (sm P 9 s + P 9 d))) 3 := by rw [sI_st]; exact PC_st (by omega) q2
    have fr : Fr [32, 33, 34] h (sI (sI (sI h 32 (2 ^ d + s) (nI (sm P 7 s + P 7 d))) 33 (2 ^ d + s) (nI (sm P 8 s + P 8 d))) 34 (2 ^ d + s) (nI (sm P 9 s + P 9 d))) := Fr_t (Fr_t (Fr_sI (by decide)) (Fr_sI (by decide))) (Fr_sI (by decide))
    have uu : SU P (sI (sI (sI h 32 (2 ^ d + s) (nI (sm P 7 s + P 7 d))) 33 (2 ^ d + s) (nI (sm P 8 s + P 8 d))) 34 (2 ^ d + s) (nI (sm P 9 s + P 9 d))) (2 ^ d + (s + 1)) := fun x hx => by
      rw [sI_o (show (32 : Nat) ≠ 34 by decide), sI_o (show (32 : Nat) ≠ 33 by decide), sI_o (show (33 : Nat) ≠ 34 by decide)]
      by_cases e : x = 2 ^ d + s
      · subst e
        rw [sI_e, sI_e, sI_e, ← o, k1, k2, k3]
        exact ⟨rfl, rfl, rfl⟩
      · rw [sI_n e, sI_n e, sI_n e, sI_o (show (33 : Nat) ≠ 32 by decide), sI_o (show (34 : Nat) ≠ 33 by decide), sI_o (show (34 : Nat) ≠ 32 by decide)]
        exact u x (by omega)
    obtain ⟨h2, a1, a2, a3⟩ := ih (s + 1) _ (by omega) q3 uu
    refine ⟨h2, fun K g hg => ?_, a2, Fr_t fr a3⟩
    obtain ⟨g, rfl⟩ : ∃ z, g = z + 1 := ⟨g - 1, by omega⟩
    rw [← a1 K g (by omega), l_Ways_sumUp_1, ite_leN (by omega) (by omega), if_neg (by omega), ifin (by omega) (by omega), nI_clamp (by omega), u1, C_up w4 q hd, bnd_s, b_or s (by omega) (2 ^ d) (by omega), o, ifin (by omega) (by omega), nI_clamp (by omega), nI_add, bl_e, ifin (by omega) (by omega), sI_o (show (33 : Nat) ≠ 32 by decide), u2, C_down w4 q1 hd, bnd_s, ifin (by omega) (by omega), nI_add, bl_e, ifin (by omega) (by omega), sI_o (show (34 : Nat) ≠ 33 by decide), sI_o (show (34 : Nat) ≠ 32 by decide), u3, C_cost w4 q2 hd, bnd_s, ifin (by omega) (by omega), nI_add, bl_e, bl_e, nI_add]
theorem C_su0 {P : Pl} {F : Nat} (hF : 2000 ≤ F) (W : WFP P) : ∀ (j d : Nat) (h : HS), d + j = P 0 4 → PC P h 3 → SU P h (2 ^ d) → ∃ h2, (∀ g, j < g → l_Ways_sumUp_0 F g (nI d) h = some ((), h2)) ∧ SU P h2 (2 ^ P 0 4) ∧ Fr [32, 33, 34] h h2 := by
  obtain ⟨wN, wNM, wM, wCo, w3, w4, w5, wC, wD, wK⟩ := id W
  intro j
  induction j with
  | zero =>
    intro d h hd q u
    refine ⟨h, fun g hg => ?_, by rw [show P 0 4 = d by omega]; exact u, Fr_rf⟩
    obtain ⟨g, rfl⟩ : ∃ z, g = z + 1 := ⟨g - 1, by omega⟩
    rw [l_Ways_sumUp_0, C_deeds q, bnd_s, ite_leN (by omega) (by omega), if_pos (by omega)]
  | succ j ih =>
    intro d h hd q u
    have h64 : 2 ^ d ≤ 64 := Nat.pow_le_pow_right (by decide) (show d ≤ 6 by omega)
    obtain ⟨h1, a1, a2, a3⟩ := C_su1 (F := F) (d := d) W (by omega) (2 ^ d) 0 h (by omega) q u
    have q1 : PC P h1 3 := PC_fr q (a3 3 (by decide)).1 (a3 7 (by decide)).1 (a3 8 (by decide)).1 (a3 9 (by decide)).1 (a3 10 (by decide)).1 (a3 4 (by decide)).2 (a3 5 (by decide)).2 (a3 6 (by decide)).2
    obtain ⟨h2, b1, b2, b3⟩ := ih (d + 1) h1 (by omega) q1 a2
    refine ⟨h2, fun g hg => ?_, b2, Fr_t a3 b3⟩
    obtain ⟨g, rfl⟩ : ∃ z, g = z + 1 := ⟨g - 1, by omega⟩
    have b1 := b1 g (by omega)
    rw [l_Ways_sumUp_0, C_deeds q, bnd_s, ite_leN (by omega) (by omega), if_neg (by omega), bit_sl d (by omega), bl_e, bl_e, a1 _ F (by omega), bl_e, nI_add]
    exact b1
theorem C_sumUp {P : Pl} {F : Nat} {h : HS} (hF : 2000 ≤ F) (W : WFP P) (q : PC P h 3) (u : h.1 32 0 = nI 0 ∧ h.1 33 0 = nI 0 ∧ h.1 34 0 = nI 0) : ∃ h2, f_Ways_sumUp F h = some ((), h2) ∧ WYr P h2 ∧ Fr [31, 32, 33, 34] h h2 := by
  obtain ⟨wN, wNM, wM, wCo, w3, w4, w5, wC, wD, wK⟩ := id W
  have q1 : PC P (sI h 31 6 (nI (2 ^ P 0 4))) 3 := by rw [sI_st]; exact PC_st (by omega) q
  obtain ⟨h2, a1, a2, a3⟩ := C_su0 (F := F) hF W (P 0 4) 0 _ (by omega) q1 (fun s hs => by
    rw [show s = 0 by omega, sI_o (by decide), sI_o (by decide), sI_o (by decide), sm_z, sm_z, sm_z]
    exact u)
  refine ⟨h2, by rw [f_Ways_sumUp, C_deeds q, bnd_s, bit_sl _ (by omega), bl_e, bl_e, a1 F (by omega)], ⟨by rw [(a3 31 (by decide)).1, sI_e], a2⟩, Fr_t (Fr_sI (by decide)) (Fr_mo (by decide) a3)⟩
