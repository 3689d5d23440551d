/-! ===== PLOT, PARTS ===== -/
def ltB (P : Pl) (s t : Nat) : Bool := if pop s = pop t then decide (sm P 9 s < sm P 9 t) else decide (pop s < pop t)
def plF (P : Pl) (A : Ab) (c : Nat) : Nat → Nat
  | 0 => 0
  | k + 1 => if freeB P A c k = true then (if safeC P A c k = true then plF P A c k else (if plF P A c k = 0 then k + 1 else (if ltB P k (plF P A c k - 1) = true then k + 1 else plF P A c k))) else plF P A c k
theorem plF_le {P : Pl} {A : Ab} {c : Nat} : ∀ k, plF P A c k ≤ k := by
  intro k
  induction k with
  | zero => exact Nat.le_refl 0
  | succ k ih =>
    unfold plF
    (repeat' split) <;> omega
theorem plF_lt {P : Pl} {A : Ab} {c : Nat} : ∀ k, plF P A c k ≤ 2 ^ P 0 4 := by
  intro k
  induction k with
  | zero => exact Nat.zero_le _
  | succ k ih =>
    unfold plF
    by_cases q : freeB P A c k = true
    · have h := q
      unfold freeB at h
      have h3 := (of_decide_eq_true h).1
      (repeat' split) <;> omega
    · rw [if_neg q]
      exact ih
theorem free_big {P : Pl} {A : Ab} {c s : Nat} (h : 2 ^ P 0 4 ≤ s) : ¬ freeB P A c s = true := by
  unfold freeB
  rw [decide_eq_false (by omega)]
  decide
theorem plF_64 {P : Pl} {A : Ab} {c : Nat} (h64 : 2 ^ P 0 4 ≤ 64) : plF P A c 64 = plF P A c (2 ^ P 0 4) := by
  have : ∀ j, 2 ^ P 0 4 + j ≤ 64 → plF P A c (2 ^ P 0 4 + j) = plF P A c (2 ^ P 0 4) := by
    intro j
    induction j with
    | zero => intro _; rfl
    | succ j ih =>
      intro hj
      show plF P A c (2 ^ P 0 4 + j + 1) = _
      rw [plF, if_neg (free_big (by omega)), ih (by omega)]
  have := this (64 - 2 ^ P 0 4) (by omega)
  rw [show 2 ^ P 0 4 + (64 - 2 ^ P 0 4) = 64 by omega] at this
  exact this
theorem C_canN {P : Pl} {A : Ab} {h : HS} (W : WF P A) (R : CR P A h) (Y : WYr P h) {c s : Nat} (hc : c < P 0 3) (hs : s < 64) : f_Ways_canStillDo (nI c) (nI s) h = some (bI (freeB P A c s), h) := by
  rw [C_canStillDo W R Y hc, nI_clamp (by omega), inb_nI (by omega), decide_eq_true hs, Bool.true_and]
theorem C_isSafeBehind {P : Pl} {A : Ab} {h : HS} (W : WF P A) (R : CR P A h) (Y : WYr P h) {c s : Nat} (hc : c < P 0 3) (hs : s < 2 ^ P 0 4) : f_Ways_isSafeBehind (nI c) (nI s) h = some (bI (safeC P A c s), h) := by
  have h1 := fo_le W.1 A c s
  have h2 := ag_le W.1 A c s
  rw [f_Ways_isSafeBehind, C_proBehind W R Y hc hs, bnd_s, C_contraBehind W R Y hc hs, bnd_s, C_isSafeP W.1 R.1 (by omega) (by omega), bnd_s, rZb]
  rfl
theorem C_isLighter {P : Pl} {A : Ab} {h : HS} (W : WF P A) (Y : WYr P h) {s t : Nat} (hs : s < 2 ^ P 0 4) (ht : t < 2 ^ P 0 4) : f_Ways_isLighter (nI s) (nI t) h = some (bI (ltB P s t), h) := by
  obtain ⟨⟨wN, wNM, wM, wCo, w3, w4, w5, wC, wD, wK⟩, wAc, wAk, wAw, wAf⟩ := id W
  have h64 := p64 w4
  have b1 := sm_le W.1 (f := 9) (Or.inr (Or.inr rfl)) s
  have b2 := sm_le W.1 (f := 9) (Or.inr (Or.inr rfl)) t
  have p1 := pop_le s
  have p2 := pop_le t
  rw [f_Ways_isLighter, E_bitCount (by omega), bnd_s, bl_e, E_bitCount (by omega), bnd_s, bl_e, ite_eqN (by omega) (by omega), ifin (by omega) (by omega), ifin (by omega) (by omega), nI_clamp (by omega), nI_clamp (by omega), (Y.2 s hs).2.2, (Y.2 t ht).2.2, ite_leN (by omega) (by omega), ite_leN (by omega) (by omega), rZ0, rZ1]
  unfold ltB
  by_cases e : pop s = pop t
  · rw [if_pos e, if_pos e]
    by_cases x : sm P 9 s < sm P 9 t
    · rw [if_neg (by omega), decide_eq_true x]
      rfl
    · rw [if_pos (by omega), decide_eq_false x]
      rfl
  · rw [if_neg e, if_neg e]
    by_cases x : pop s < pop t
    · rw [if_neg (by omega), decide_eq_true x]
      rfl
    · rw [if_pos (by omega), decide_eq_false x]
      rfl
theorem C_plL {P : Pl} {A : Ab} {F c : Nat} {h : HS} (W : WF P A) (hc : c < P 0 3) (R : CR P A h) (Y : WYr P h) : ∀ (j k : Nat), k + j = 2 ^ P 0 4 → ∀ g, j < g → l_Ways_plotSet_0 F (nI c) g (pI (plF P A c k)) (nI k) h = some (pI (plF P A c (2 ^ P 0 4)), h) := by
  obtain ⟨⟨wN, wNM, wM, wCo, w3, w4, w5, wC, wD, wK⟩, wAc, wAk, wAw, wAf⟩ := id W
  have h64 := p64 w4
  intro j
  induction j with
  | zero =>
    intro k hk g hg
    obtain ⟨g, rfl⟩ : ∃ z, g = z + 1 := ⟨g - 1, by omega⟩
    rw [l_Ways_plotSet_0, Y.1, ite_leN (by omega) (by omega), if_pos (by omega), show k = 2 ^ P 0 4 by omega]
  | succ j ih =>
    intro k hk g hg
    obtain ⟨g, rfl⟩ : ∃ z, g = z + 1 := ⟨g - 1, by omega⟩
    have hr := plF_le (P := P) (A := A) (c := c) k
    have ih := ih (k + 1) (by omega) g (by omega)
    rw [← ih, l_Ways_plotSet_0, Y.1, ite_leN (by omega) (by omega), if_neg (by omega), C_canN W R Y hc (by omega), bnd_s, bl_e, ite_b0, plF]
    by_cases e1 : freeB P A c k = true
    · rw [if_pos e1, if_pos e1, C_isSafeBehind W R Y hc (by omega), bnd_s, ite_b0]
      by_cases e2 : safeC P A c k = true
      · rw [if_pos e2, if_pos e2]
        dsimp only
        rw [bl_e, nI_add]
      · rw [if_neg e2, if_neg e2, bl_e, ite_pn (by omega)]
        by_cases e3 : plF P A c k = 0
        · rw [if_pos e3, if_pos e3]
          dsimp only
          rw [bl_e, bl_e, nI_add, pI_s]
        · rw [if_neg e3, if_neg e3, pI_p (by omega), C_isLighter W Y (by omega) (by omega), bnd_s, ite_b0]
          by_cases e4 : ltB P k (plF P A c k - 1) = true
          · rw [if_pos e4, if_pos e4]
            dsimp only
            rw [bl_e, bl_e, nI_add, pI_s]
          · rw [if_neg e4, if_neg e4]
            dsimp only
            rw [bl_e, nI_add, pI_p (show 0 < plF P A c k by omega)]
    · rw [if_neg e1, if_neg e1]
      dsimp only
      rw [bl_e, nI_add]
theorem M_frN {P : Pl} {A : Ab} (W : WF P A) {c s : Nat} (hc : c < P 0 3) (hs : s < 64) {α : Type} {X Y : α} : (if (nI s &&& (nI ((2 ^ P 0 4 - 1) &&& (63 - A.1 3 c)) ^^^ (-1 : Int32))) = 0 then X else Y) = if freeB P A c s = true then X else Y := by
  obtain ⟨⟨wN, wNM, wM, wCo, w3, w4, w5, wC, wD, wK⟩, wAc, wAk, wAw, wAf⟩ := id W
  have h64 := p64 w4
  have h1 := (wAc c hc).2.1
  have q := fr_ok (P 0 4) (by omega) (A.1 3 c) (by omega) s hs
  unfold freeB
  by_cases z : s < 2 ^ P 0 4 ∧ s &&& A.1 3 c = 0
  · rw [if_pos (q.mpr z), if_pos (decide_eq_true z)]
  · rw [if_neg (fun y => z (q.mp y)), if_neg (fun y => z (of_decide_eq_true y))]
theorem freeB_lt {P : Pl} {A : Ab} {c s : Nat} (h : freeB P A c s = true) : s < 2 ^ P 0 4 ∧ s &&& A.1 3 c = 0 := by
  unfold freeB at h
  exact of_decide_eq_true h
theorem M_plL {P : Pl} {A : Ab} {F c : Nat} {h : HS} (hF : 70 ≤ F) (W : WF P A) (hc : c < P 0 3) (R : MR P A h) : ∀ (j k : Nat), k + j = 64 → ∀ g, j < g → l_M_plot_0 F (nI c) g (pI (plF P A c k)) (nI k) h = some (pI (plF P A c 64), h) := by
  obtain ⟨⟨wN, wNM, wM, wCo, w3, w4, w5, wC, wD, wK⟩, wAc, wAk, wAw, wAf⟩ := id W
  have h64 := p64 w4
  intro j
  induction j with
  | zero =>
    intro k hk g hg
    obtain ⟨g, rfl⟩ : ∃ z, g = z + 1 := ⟨g - 1, by omega⟩
    rw [l_M_plot_0, ite_leN (by omega) (by omega), if_pos (by omega), show k = 64 by omega]
  | succ j ih =>
    intro k hk g hg
    obtain ⟨g, rfl⟩ : ∃ z, g = z + 1 := ⟨g - 1, by omega⟩
    have hr := plF_le (P := P) (A := A) (c := c) k
    have hrl := plF_lt (P := P) (A := A) (c := c) k
    have ih := ih (k + 1) (by omega) g (by omega)
    rw [← ih, l_M_plot_0, ite_leN (by omega) (by omega), if_neg (by omega), M_free W R hc, bnd_s, bl_e, M_frN W hc (by omega), plF]
    by_cases e1 : freeB P A c k = true
    · have hk2 := (freeB_lt e1).1
      rw [if_pos e1, if_pos e1, M_isSafe W (by omega) R hc hk2, bnd_s, ite_b0]
      by_cases e2 : safeC P A c k = true
      · rw [if_pos e2, if_pos e2]
        dsimp only
        rw [bl_e, nI_add]
      · rw [if_neg e2, if_neg e2, bl_e, ite_pge (by omega)]
        by_cases e3 : plF P A c k = 0
        · rw [if_pos e3, if_pos e3]
          dsimp only
          rw [bl_e, bl_e, if_pos (by decide)]
          dsimp only
          rw [bl_e, bl_e, nI_add, pI_s]
        · have p1 := pop_le k
          have p2 := pop_le (plF P A c k - 1)
          have b1 := sm_le W.1 (f := 9) (Or.inr (Or.inr rfl)) k
          have b2 := sm_le W.1 (f := 9) (Or.inr (Or.inr rfl)) (plF P A c k - 1)
          rw [if_neg e3, if_neg e3, pI_p (by omega), M_bits (by omega) (by omega), bnd_s, M_bits (by omega) (by omega), bnd_s]
          dsimp only
          rw [bl_e, bl_e, sub_sgn (by omega) (by omega), M_sum w4 (by omega) (sumAt_9 R) hk2, bnd_s, M_sum w4 (by omega) (sumAt_9 R) (by omega), bnd_s, ite_leN (by omega) (by omega)]
          unfold ltB
          by_cases x : pop k < pop (plF P A c k - 1)
          · rw [if_pos x, if_neg (show ¬ pop k = pop (plF P A c k - 1) by omega), decide_eq_true x, if_pos rfl]
            dsimp only
            rw [bl_e, bl_e, nI_add, pI_s]
          · rw [if_neg x]
            by_cases y : pop (plF P A c k - 1) = pop k
            · rw [if_pos y, if_pos y.symm]
              by_cases v : sm P 9 k < sm P 9 (plF P A c k - 1)
              · rw [if_neg (by omega), decide_eq_true v, if_pos rfl]
                dsimp only
                rw [bl_e, bl_e, nI_add, pI_s]
              · rw [if_pos (by omega), decide_eq_false v, if_neg (by decide), bl_e, nI_add, pI_p (show 0 < plF P A c k by omega)]
            · rw [if_neg y, if_neg (show ¬ pop k = pop (plF P A c k - 1) from fun z => y z.symm), decide_eq_false x, if_neg (by decide), bl_e, nI_add, pI_p (show 0 < plF P A c k by omega)]
    · rw [if_neg e1, if_neg e1]
      dsimp only
      rw [bl_e, nI_add]
theorem S_plot {F : Nat} (hF : 20000 ≤ F) (a : Int32) : Sim (f_LC_plot F a) (f_M_plot F a) := Sim_rd fun P A hc hm q => by
  obtain ⟨c, m, W, Y, -⟩ := q
  obtain ⟨⟨wN, wNM, wM, wCo, w3, w4, w5, wC, wD, wK⟩, wAc, wAk, wAw, wAf⟩ := id W
  have h64 := p64 w4
  rw [f_LC_plot, C_hasCause w3 c.1, bnd_s, ite_b0, f_M_plot, bl_e, M_isCause w3 m, bnd_s, ite_b0]
  by_cases ha : inb a (P 0 3) = true
  · rw [if_pos ha, if_pos ha]
    obtain ⟨hk, ek⟩ := inb_ex ha
    generalize a.toNatClampNeg = k at hk ek
    subst ek
    have e1 := C_plL (F := F) W hk c Y (2 ^ P 0 4) 0 (by omega) F (by omega)
    have e2 := M_plL (F := F) (by omega) W hk m 64 0 (by omega) F (by omega)
    have e1 : l_Ways_plotSet_0 F (nI k) F (-1) (nI 0) hc = some (pI (plF P A k (2 ^ P 0 4)), hc) := by rw [← pI_0]; exact e1
    have e2 : l_M_plot_0 F (nI k) F (-1) (nI 0) (sI hm 0 0 (nI 0)) = some (pI (plF P A k 64), sI hm 0 0 (nI 0)) := by rw [← pI_0]; exact e2
    rw [f_Ways_plotSet, bl_e, bl_e, e1, bnd_s, bl_e, bl_e, e2, plF_64 h64.2]
    exact ⟨_, rfl, rfl⟩
  · rw [if_neg ha, if_neg ha]
    exact ⟨_, rfl, rfl⟩
