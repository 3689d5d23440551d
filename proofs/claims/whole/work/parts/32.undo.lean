/-! ===== what was so: the ring of the class, the long row of the reference ===== -/
def rg (f : Nat → Int32) (a b : Nat) (g : Nat → Int32) : Nat → Int32 := fun i => if a ≤ i ∧ i < b then g i else f i
theorem rg_0 {f g : Nat → Int32} {a : Nat} : rg f a a g = f := by
  funext i
  exact if_neg (by omega)
theorem rg_s {f g : Nat → Int32} {a b : Nat} (h : a < b) {v : Int32} (hv : v = g a) : rg (upd f a v) (a + 1) b g = rg f a b g := by
  funext i
  simp only [rg, upd]
  by_cases e : i = a
  · subst e
    rw [if_neg (by omega), if_pos rfl, if_pos (by omega), hv]
  · by_cases q : a ≤ i ∧ i < b
    · rw [if_pos (by omega), if_pos q]
    · rw [if_neg (by omega), if_neg e, if_neg q]
theorem M_kp0 {F u : Nat} (hu : u ≤ 7) : ∀ (j x : Nat) (h : HS), x + j = 79 → h.1 0 23 = nI u → ∀ K g, j < g → l_M_keep_0 F K g (nI x) h = K (st h 7 (rg (h.1 7) (79 * u + x) (79 * u + 79) (fun i => h.1 2 (72 + (i - 79 * u))))) := by
  intro j
  induction j with
  | zero =>
    intro x h hx h0 K g hg
    obtain ⟨g, rfl⟩ : ∃ z, g = z + 1 := ⟨g - 1, by omega⟩
    rw [l_M_keep_0, ite_leN (by omega) (by omega), if_pos (by omega), show 79 * u + x = 79 * u + 79 by omega, rg_0, st_s]
  | succ j ih =>
    intro x h hx h0 K g hg
    obtain ⟨g, rfl⟩ : ∃ z, g = z + 1 := ⟨g - 1, by omega⟩
    rw [l_M_keep_0, ite_leN (by omega) (by omega), if_neg (by omega)]
    simp (disch := omega) only [bl_e, bnd_s, nI_add, nI_mul, ifin, nI_clamp, rZ0, rZ1, rZb, ite_eqN, ite_eq0, ite_ne0, ite_leN, ite_ltN, ite_lt0, ite_le0, ite_ge0, ite_gt0, ite_b0, ite_bn0, h0, sI_st]
    have hv : h.1 2 (72 + x) = (fun i => h.1 2 (72 + (i - 79 * u))) (79 * u + x) := congrArg (h.1 2) (show 72 + x = 72 + (79 * u + x - 79 * u) by omega)
    rw [ih (x + 1) _ (by omega) (by rw [st_o (show (0 : Nat) ≠ 7 by decide)]; exact h0) K g (by omega), st_st, st_e, st_o (show (2 : Nat) ≠ 7 by decide), ← Nat.add_assoc, rg_s (show 79 * u + x < 79 * u + 79 by omega) hv]
theorem M_kp1 {F : Nat} : ∀ (j x : Nat) (h : HS), x + j = 553 → ∀ K g, j < g → l_M_keep_1 F K g (nI x) h = K (st h 7 (rg (h.1 7) x 553 (fun i => h.1 7 (i + 79)))) := by
  intro j
  induction j with
  | zero =>
    intro x h hx K g hg
    obtain ⟨g, rfl⟩ : ∃ z, g = z + 1 := ⟨g - 1, by omega⟩
    rw [l_M_keep_1, ite_leN (by omega) (by omega), if_pos (by omega), show x = 553 by omega, rg_0, st_s]
  | succ j ih =>
    intro x h hx K g hg
    obtain ⟨g, rfl⟩ : ∃ z, g = z + 1 := ⟨g - 1, by omega⟩
    rw [l_M_keep_1, ite_leN (by omega) (by omega), if_neg (by omega)]
    simp (disch := omega) only [bl_e, bnd_s, nI_add, nI_mul, ifin, nI_clamp, rZ0, rZ1, rZb, ite_eqN, ite_eq0, ite_ne0, ite_leN, ite_ltN, ite_lt0, ite_le0, ite_ge0, ite_gt0, ite_b0, ite_bn0, sI_st]
    rw [ih (x + 1) _ (by omega) K g (by omega), st_st, st_e]
    congr 2
    funext i
    simp only [rg, upd]
    by_cases e : i = x
    · subst e
      rw [if_neg (by omega), if_pos rfl, if_pos (by omega)]
    · by_cases q : x ≤ i ∧ i < 553
      · rw [if_pos (by omega), if_pos q, if_neg (by omega)]
      · rw [if_neg (by omega), if_neg e, if_neg q]
theorem M_keep {F u : Nat} (hF : 600 ≤ F) {h : HS} (hu : u ≤ 8) (h0 : h.1 0 23 = nI u) : ∃ h2, f_M_keep F h = some ((), h2) ∧ Fr [0, 7] h h2 ∧ F0r [23] h h2 ∧ h2.1 0 23 = nI (min (u + 1) 8) ∧ (∀ i x, i < (if u = 8 then 7 else u) → x < 79 → h2.1 7 (79 * i + x) = h.1 7 (79 * (i + (if u = 8 then 1 else 0)) + x)) ∧ ∀ x, x < 79 → h2.1 7 (79 * (if u = 8 then 7 else u) + x) = h.1 2 (72 + x) := by
  by_cases e : u = 8
  · subst e
    refine ⟨sI (st (sI (st h 7 (rg (h.1 7) 0 553 (fun i => h.1 7 (i + 79)))) 0 23 (nI 7)) 7 (rg (rg (h.1 7) 0 553 (fun i => h.1 7 (i + 79))) 553 632 (fun i => h.1 2 (72 + (i - 553))))) 0 23 (nI 8), ?_, ?_, ?_, ?_, ?_, ?_⟩
    · rw [f_M_keep, bl_e, h0, if_pos rfl, bl_e, M_kp1 553 0 h (by omega) _ F (by omega), bl_e]
      dsimp only
      rw [bl_e, M_kp0 (u := 7) (by omega) 79 0 _ (by omega) (by rw [sI_e]) _ F (by omega), bl_e]
      simp only [st_o (show (0 : Nat) ≠ 7 by decide), sI_e, nI_add]
      rw [show (sI (st h 7 (rg (h.1 7) 0 553 fun i => h.1 7 (i + 79))) 0 23 (nI 7)).1 7 = rg (h.1 7) 0 553 (fun i => h.1 7 (i + 79)) by rw [sI_o (by omega), st_e], show (sI (st h 7 (rg (h.1 7) 0 553 fun i => h.1 7 (i + 79))) 0 23 (nI 7)).1 2 = h.1 2 by rw [sI_o (by omega), st_o (by omega)]]
    · exact Fr_t (Fr_t (Fr_t (Fr_st (by decide)) (Fr_sI (by decide))) (Fr_st (by decide))) (Fr_sI (by decide))
    · exact F0r_t (F0r_t (F0r_t (F0r_st (by decide)) (F0r_sI (by decide))) (F0r_st (by decide))) (F0r_sI (by decide))
    · rw [sI_e]
      rfl
    · intro i x hi hx
      rw [if_pos rfl] at hi ⊢
      rw [sI_o (by omega), st_e]
      simp only [rg]
      rw [if_neg (by omega), if_pos (by omega)]
      exact congrArg (h.1 7) (show 79 * i + x + 79 = 79 * (i + (if (8 : Nat) = 8 then 1 else 0)) + x by rw [if_pos rfl]; omega)
    · intro x hx
      rw [if_pos rfl, sI_o (by omega), st_e]
      simp only [rg]
      rw [if_pos (by omega)]
      exact congrArg (h.1 2) (show 72 + (79 * 7 + x - 553) = 72 + x by omega)
  · refine ⟨sI (st h 7 (rg (h.1 7) (79 * u) (79 * u + 79) (fun i => h.1 2 (72 + (i - 79 * u))))) 0 23 (nI (u + 1)), ?_, ?_, ?_, ?_, ?_, ?_⟩
    · rw [f_M_keep, bl_e, h0, if_neg (fun z => e (nI_inj (by omega) (by omega) z))]
      dsimp only
      rw [bl_e, M_kp0 (u := u) (by omega) 79 0 h (by omega) h0 _ F (by omega), bl_e]
      rw [st_o (show (0 : Nat) ≠ 7 by decide), h0, nI_add]
      rfl
    · exact Fr_t (Fr_st (by decide)) (Fr_sI (by decide))
    · exact F0r_t (F0r_st (by decide)) (F0r_sI (by decide))
    · rw [sI_e]
      congr 1
      omega
    · intro i x hi hx
      rw [if_neg e] at hi ⊢
      rw [sI_o (by omega), st_e]
      simp only [rg]
      rw [if_neg (by omega)]
      rfl
    · intro x hx
      rw [if_neg e, sI_o (by omega), st_e]
      simp only [rg]
      rw [if_pos (by omega)]
      exact congrArg (h.1 2) (show 72 + (79 * u + x - 79 * u) = 72 + x by omega)
theorem C_remRow {u f j : Nat} {h : HS} (hj : j = 21 ∨ j = 82) (hu : u ≤ 8) (hf : f < 8) (h3 : h.1 20 3 = nI f) (h4 : h.1 20 4 = nI u) : ∃ h2 f2, f_Desk_rememberRow j h = some ((), h2) ∧ Fr [20, 23, 24, 25, 26, 27, 28, 29, 30] h h2 ∧ f2 < 8 ∧ h2.1 20 3 = nI f2 ∧ h2.1 20 4 = nI (min (u + 1) 8) ∧ (∀ i, i < (if u = 8 then 7 else u) → h2.1 (23 + (f2 + i) % 8) = h.1 (23 + (f + (i + (if u = 8 then 1 else 0))) % 8)) ∧ ∀ x, x < 91 → h2.1 (23 + (f2 + (if u = 8 then 7 else u)) % 8) x = h.1 j x := by
  have hin : ∀ k, k < 8 → 23 + k ∈ [20, 23, 24, 25, 26, 27, 28, 29, 30] := by decide
  by_cases e : u = 8
  · subst e
    have hm : (f + 1) % 8 < 8 := Nat.mod_lt _ (by omega)
    have hm2 : ((f + 1) % 8 + 7) % 8 < 8 := Nat.mod_lt _ (by omega)
    refine ⟨sI (st (sI (sI h 20 3 (nI ((f + 1) % 8))) 20 4 (nI 7)) (23 + ((f + 1) % 8 + 7) % 8) (va_cpy (h.1 j) (h.1 (23 + ((f + 1) % 8 + 7) % 8)) 0 0 91)) 20 4 (nI 8), (f + 1) % 8, ?_, ?_, hm, ?_, ?_, ?_, ?_⟩
    · rw [f_Desk_rememberRow, bl_e, h4, if_pos rfl, ite_ne0 (by omega), if_neg (by omega), bl_e, h3, nI_add, nI_rem (by omega) (by omega) (by omega), bl_e]
      rw [sI_n (show (4 : Nat) ≠ 3 by decide), h4, nI_sb (by omega)]
      dsimp only
      rw [if_pos rfl, ite_ne0 (by omega), if_neg (by omega)]
      simp only [sI_e, sI_n (show (3 : Nat) ≠ 4 by decide), nI_add]
      rw [nI_rem (by omega) (by omega) (by omega), ifin (by omega) (by omega), bl_e, bl_e, nI_clamp (by omega), cI_st, st_o (show (20 : Nat) ≠ 23 + ((f + 1) % 8 + 7) % 8 by omega), sI_e, nI_add]
      rw [show (sI (sI h 20 3 (nI ((f + 1) % 8))) 20 4 (nI (8 - 1))).1 j = h.1 j by rw [sI_o (by omega), sI_o (by omega)], show (sI (sI h 20 3 (nI ((f + 1) % 8))) 20 4 (nI (8 - 1))).1 (23 + ((f + 1) % 8 + 7) % 8) = h.1 (23 + ((f + 1) % 8 + 7) % 8) by rw [sI_o (by omega), sI_o (by omega)]]
    · exact Fr_t (Fr_t (Fr_t (Fr_sI (by decide)) (Fr_sI (by decide))) (Fr_st (hin _ hm2))) (Fr_sI (by decide))
    · rw [sI_n (by omega), st_o (by omega), sI_n (by omega), sI_e]
    · rw [sI_e]
      rfl
    · intro i hi
      rw [if_pos rfl] at hi ⊢
      rw [sI_o (by omega), st_o (by omega), sI_o (by omega), sI_o (by omega)]
      exact congrArg h.1 (show 23 + ((f + 1) % 8 + i) % 8 = 23 + (f + (i + (if (8 : Nat) = 8 then 1 else 0))) % 8 by rw [if_pos rfl]; omega)
    · intro x hx
      rw [if_pos rfl, sI_o (by omega), st_e, cpy_in hx]
  · have hm2 : (f + u) % 8 < 8 := Nat.mod_lt _ (by omega)
    refine ⟨sI (st h (23 + (f + u) % 8) (va_cpy (h.1 j) (h.1 (23 + (f + u) % 8)) 0 0 91)) 20 4 (nI (u + 1)), f, ?_, ?_, hf, ?_, ?_, ?_, ?_⟩
    · rw [f_Desk_rememberRow, bl_e, h4, if_neg (fun z => e (nI_inj (by omega) (by omega) z))]
      dsimp only
      rw [if_pos rfl, ite_ne0 (by omega), if_neg (by omega), h3, h4, nI_add, nI_rem (by omega) (by omega) (by omega), ifin (by omega) (by omega), bl_e, bl_e, nI_clamp (by omega), cI_st, st_o (show (20 : Nat) ≠ 23 + (f + u) % 8 by omega), h4, nI_add]
    · exact Fr_t (Fr_st (hin _ hm2)) (Fr_sI (by decide))
    · rw [sI_n (by omega), st_o (by omega), h3]
    · rw [sI_e]
      congr 1
      omega
    · intro i hi
      rw [if_neg e] at hi ⊢
      rw [sI_o (by omega), st_o (by omega)]
      rfl
    · intro x hx
      rw [if_neg e, sI_o (by omega), st_e, cpy_in hx]
theorem RM0_seg {P : Pl} {A : Ab} {s s2 : Nat → Int32} (w3 : P 0 3 ≤ 6) (w5 : P 0 5 ≤ 5) (R : RM0 P A s) (h : ∀ i, 72 ≤ i → i < 151 → s2 i = s i) (h2 : ∀ i, 151 ≤ i → s2 i = 0) : RM0 P (zA A) s2 := by
  refine ⟨fun c w hc hw hn => ?_, fun k w hk hw hn => ?_, fun w hw hn => ?_, fun i hi => ?_⟩
  · have q := R.1 c w hc hw hn
    have b : 72 ≤ bcM c w ∧ bcM c w < 151 := by
      rcases (show w = 0 ∨ w = 1 ∨ w = 2 ∨ w = 3 ∨ w = 4 ∨ w = 5 ∨ w = 6 ∨ w = 7 ∨ w = 8 by omega) with e | e | e | e | e | e | e | e | e <;> subst e <;> (try omega) <;> simp only [bcM] <;> omega
    rw [h _ b.1 b.2, q]
    rcases (show w = 0 ∨ w = 1 ∨ w = 2 ∨ w = 3 ∨ w = 4 ∨ w = 5 ∨ w = 6 ∨ w = 7 ∨ w = 8 by omega) with e | e | e | e | e | e | e | e | e <;> subst e <;> rfl
  · have q := R.2.1 k w hk hw hn
    have b : 72 ≤ bkM k w ∧ bkM k w < 151 := by
      rcases (show w = 0 ∨ w = 1 ∨ w = 2 ∨ w = 3 ∨ w = 4 ∨ w = 5 by omega) with e | e | e | e | e | e <;> subst e <;> (try omega) <;> simp only [bkM] <;> omega
    rw [h _ b.1 b.2, q]
    rcases (show w = 0 ∨ w = 1 ∨ w = 2 ∨ w = 3 ∨ w = 4 ∨ w = 5 by omega) with e | e | e | e | e | e <;> subst e <;> rfl
  · have q := R.2.2.1 w hw hn
    have b : 72 ≤ bnM w ∧ bnM w < 151 := by
      rcases (show w = 0 ∨ w = 1 ∨ w = 2 ∨ w = 3 ∨ w = 4 ∨ w = 5 ∨ w = 6 by omega) with e | e | e | e | e | e | e <;> subst e <;> (try omega) <;> simp only [bnM] <;> omega
    rw [h _ b.1 b.2, q]
    rcases (show w = 0 ∨ w = 1 ∨ w = 2 ∨ w = 3 ∨ w = 4 ∨ w = 5 ∨ w = 6 by omega) with e | e | e | e | e | e | e <;> subst e <;> rfl
  · rw [h2 i hi]
    rfl
theorem RC_zA {P : Pl} {A : Ab} {r r2 : Nat → Int32} (w3 : P 0 3 ≤ 6) (w5 : P 0 5 ≤ 5) (R : RC P A r) (h : ∀ x, x < 91 → r2 x = r x) : RC P (zA A) r2 := by
  refine ⟨fun c w hc hw => ?_, fun k w hk hw => ?_, fun w hw hn => ?_⟩
  · rw [h _ (by omega), R.1 c w hc hw]
    rcases (show w = 0 ∨ w = 1 ∨ w = 2 ∨ w = 3 ∨ w = 4 ∨ w = 5 ∨ w = 6 ∨ w = 7 ∨ w = 8 by omega) with e | e | e | e | e | e | e | e | e <;> subst e <;> rfl
  · rw [h _ (by omega), R.2.1 k w hk hw]
    rcases (show w = 0 ∨ w = 1 ∨ w = 2 ∨ w = 3 ∨ w = 4 ∨ w = 5 by omega) with e | e | e | e | e | e <;> subst e <;> rfl
  · rw [h _ (by omega), R.2.2 w hw hn]
    rcases (show w = 0 ∨ w = 1 ∨ w = 2 ∨ w = 3 ∨ w = 4 ∨ w = 5 ∨ w = 6 by omega) with e | e | e | e | e | e | e <;> subst e <;> rfl
/-- the ring with one more, on both sides: what was so is A -/
theorem UD_keep {P : Pl} {A : Ab} {hc hm : HS} {F j : Nat} (hF : 600 ≤ F) (hj : j = 21 ∨ j = 82) (W : WF P A) (U : UD P hc hm) (Rc : RC P A (hc.1 j)) (Rm : RM0 P A (hm.1 2)) : ∃ hc2 hm2, f_Desk_rememberRow j hc = some ((), hc2) ∧ f_M_keep F hm = some ((), hm2) ∧ Fr [20, 23, 24, 25, 26, 27, 28, 29, 30] hc hc2 ∧ Fr [0, 7] hm hm2 ∧ F0r [23] hm hm2 ∧ UD P hc2 hm2 := by
  obtain ⟨⟨wN, wNM, wM, wCo, w3, w4, w5, wC, wD, wK⟩, wAc, wAk, wAw, wAf⟩ := id W
  obtain ⟨u, f, ps, h1, h2, h3, h4, h5, h6⟩ := U
  obtain ⟨hc2, f2, a1, a2, a3, a4, a5, a6, a7⟩ := C_remRow hj h1 h2 h3 h4
  obtain ⟨hm2, b1, b2, b3, b4, b5, b6⟩ := M_keep hF h1 h5
  refine ⟨hc2, hm2, a1, b1, a2, b2, b3, min (u + 1) 8, f2, fun i => if i < (if u = 8 then 7 else u) then ps (i + (if u = 8 then 1 else 0)) else zA A, by omega, a3, a4, a5, b4, fun i hi => ?_⟩
  unfold UD1
  by_cases e : i < (if u = 8 then 7 else u)
  · have q := h6 (i + (if u = 8 then 1 else 0)) (by split at e <;> split <;> omega)
    simp only [if_pos e]
    rw [a6 i e]
    refine ⟨q.1, q.2.1, ?_⟩
    have es : seg (hm2.1 7) (79 * i) = seg (hm.1 7) (79 * (i + (if u = 8 then 1 else 0))) := by
      funext x
      simp only [seg]
      by_cases y : x < 151
      · rw [if_pos y, if_pos y, b5 i (x - 72) e (by omega)]
      · rw [if_neg y, if_neg y]
    rw [es]
    exact q.2.2
  · have ei : i = (if u = 8 then 7 else u) := by split at e <;> split <;> omega
    simp only [if_neg e]
    rw [ei]
    refine ⟨W, RC_zA w3 w5 Rc (fun x hx => a7 x hx), RM0_seg w3 w5 Rm (fun x hx hx2 => ?_) (fun x hx => ?_)⟩
    · simp only [seg]
      rw [if_pos hx2, b6 (x - 72) (by omega)]
      exact congrArg (hm.1 2) (show 72 + (x - 72) = x by omega)
    · simp only [seg]
      exact if_neg (by omega)
