theorem C_afL {P : Pl} {A : Ab} {hc hm : HS} {F k : Nat} (q : Rl0 P A hc hm) (hk : k < P 0 5) : ∃ A2 hc2 hm2, (if ldF P A k 6 = 0 then some ((), hm) else f_M_acting (nI k) (nI (ldF P A k 6 - 1)) hm) = some ((), hm2) ∧ Rl0 P A2 hc2 hm2 ∧ Kp hc hm hc2 hm2 ∧ A2.1 8 0 = A.1 8 0 ∧ (ldF P A k 6 = 0 → hc2 = hc ∧ A2 = A) ∧ ∀ (n : Nat), n ≤ 6 → (∀ j, 6 - n ≤ j → j ≤ 6 → ldF P A k j = ldF P A k 6 ∨ j ≠ n) → ldF P A k n = ldF P A k 6 → ∀ g, n + 1 < g → l_Runs_actFirst_0 F (nI k) g (nI (6 - n)) hc = some (bI (decide (ldF P A k 6 ≠ 0)), hc2) := by
  obtain ⟨cc, m, W, -⟩ := id q
  obtain ⟨⟨wN, wNM, wM, wCo, w3, w4, w5, wC, wD, wK⟩, wAc, wAk, wAw, wAf⟩ := id W
  have loop : ∀ (X : Int32 × HS), (∀ d, d < P 0 4 → whyA P A k d = 0 → d + 1 = ldF P A k 6 → f_Runs_actIfCan (nI k) (nI d) hc = some (nI 1, X.2)) → (ldF P A k 6 = 0 → X.2 = hc) → X.1 = bI (decide (ldF P A k 6 ≠ 0)) → ∀ (n : Nat), n ≤ 6 → ldF P A k n = ldF P A k 6 → ∀ g, n + 1 < g → l_Runs_actFirst_0 F (nI k) g (nI (6 - n)) hc = some X := by
    intro X hX hX0 hX1 n
    induction n with
    | zero =>
      intro hn he g hg
      obtain ⟨g, rfl⟩ : ∃ z, g = z + 1 := ⟨g - 1, by omega⟩
      have he : 0 = ldF P A k 6 := he
      rw [l_Runs_actFirst_0, C_deeds cc.1, bnd_s, ite_leN (by omega) (by omega), if_pos (by omega), rZ0, show X = (X.1, X.2) from rfl, hX1, hX0 he.symm, ← he]
      rfl
    | succ n ih =>
      intro hn he g hg
      obtain ⟨g, rfl⟩ : ∃ z, g = z + 1 := ⟨g - 1, by omega⟩
      have hl := whyA_lt P A k (6 - (n + 1))
      rw [l_Runs_actFirst_0, C_deeds cc.1, bnd_s, ite_leN (by omega) (by omega)]
      by_cases e1 : P 0 4 ≤ 6 - (n + 1)
      · have z0 : ldF P A k (n + 1) = 0 := ldF_0 w4 _ (by omega)
        rw [z0] at he
        rw [if_pos e1, rZ0, show X = (X.1, X.2) from rfl, hX1, hX0 he.symm, ← he]
        rfl
      · have hd : 6 - (n + 1) < P 0 4 := by omega
        have he2 : (if 5 - n < P 0 4 ∧ whyA P A k (5 - n) = 0 then 5 - n + 1 else ldF P A k n) = ldF P A k 6 := he
        rw [show 5 - n = 6 - (n + 1) by omega] at he2
        rw [if_neg e1]
        by_cases e2 : whyA P A k (6 - (n + 1)) = 0
        · rw [if_pos ⟨hd, e2⟩] at he2
          rw [hX _ hd e2 he2, bnd_s, if_neg (by decide), rZ1]
          rw [decide_eq_true (show ldF P A k 6 ≠ 0 by omega)] at hX1
          exact congrArg some (Prod.ext hX1.symm rfl)
        · rw [if_neg (fun z => e2 z.2)] at he2
          rw [f_Runs_actIfCan, C_whyNotAct W cc hk hd, bnd_s, ite_eq0 (by omega), if_neg e2, rZ0, bnd_s, if_pos (show nI 0 = 0 from rfl), bl_e, nI_add, show 6 - (n + 1) + 1 = 6 - n by omega]
          exact ih (by omega) he2 g (by omega)
  by_cases e : ldF P A k 6 = 0
  · refine ⟨A, hc, hm, if_pos e, q, Kp_rf, rfl, fun _ => ⟨rfl, rfl⟩, fun n hn _ he g hg => ?_⟩
    exact loop (bI (decide (ldF P A k 6 ≠ 0)), hc) (fun d _ _ z => by omega) (fun _ => rfl) rfl n hn he g hg
  · have o := ldF_ok 6 e
    obtain ⟨A2, hc2, hm2, a, b, c, d, f, -⟩ := R_actIf q hk o.1
    rw [if_pos o.2] at b
    rw [decide_eq_true o.2] at a
    refine ⟨A2, hc2, hm2, by rw [if_neg e]; exact b, c, d, f, fun z => absurd z e, fun n hn _ he g hg => ?_⟩
    exact loop (bI (decide (ldF P A k 6 ≠ 0)), hc2) (fun d _ _ z => by rw [show d = ldF P A k 6 - 1 by omega]; exact a) (fun z => absurd z e) rfl n hn he g hg
/-- the least bit, and 1 -/
def lsF (s : Nat) : Nat → Nat
  | 0 => 0
  | j + 1 => if s.testBit (5 - j) = true then 5 - j + 1 else lsF s j
theorem M_w1L {F k s : Nat} {h : HS} {x2 : Int32} {K : Int32 → HS → Option (Unit × HS)} (hs : s < 64) (h0 : 0 < s) : ∀ (n : Nat), n ≤ 6 → ∀ g, n < g → l_M_works_1 F (nI k) x2 (nI s) K g (pI (lsF s (6 - n))) (pI n) h = K (pI (lsF s 6)) h := by
  intro n
  induction n with
  | zero =>
    intro hn g hg
    obtain ⟨g, rfl⟩ : ∃ z, g = z + 1 := ⟨g - 1, by omega⟩
    rw [l_M_works_1, ite_plt (by omega), if_pos rfl]
  | succ n ih =>
    intro hn g hg
    obtain ⟨g, rfl⟩ : ∃ z, g = z + 1 := ⟨g - 1, by omega⟩
    have ih := ih (by omega) g (by omega)
    rw [← ih, l_M_works_1, ite_plt (by omega), if_neg (by omega), bl_e, ite_le0 (by omega), if_neg (by omega), pI_s, M_bitOf hs (by omega), bnd_s, ite_b0, pI_m1, show 6 - n = (6 - (n + 1)) + 1 by omega, lsF, show 5 - (6 - (n + 1)) = n by omega]
    by_cases e1 : s.testBit n = true
    · rw [if_pos e1, if_pos e1, bl_e, pI_s]
      dsimp only
      rw [bl_e]
    · rw [if_neg e1, if_neg e1]
      dsimp only
      rw [bl_e]
theorem M_w1L0 {F k : Nat} {h : HS} {x2 : Int32} {K : Int32 → HS → Option (Unit × HS)} : ∀ (n : Nat), n ≤ 6 → ∀ g, n < g → l_M_works_1 F (nI k) x2 (nI 0) K g (-1) (pI n) h = K (-1) h := by
  intro n
  induction n with
  | zero =>
    intro hn g hg
    obtain ⟨g, rfl⟩ : ∃ z, g = z + 1 := ⟨g - 1, by omega⟩
    rw [l_M_works_1, ite_plt (by omega), if_pos rfl]
  | succ n ih =>
    intro hn g hg
    obtain ⟨g, rfl⟩ : ∃ z, g = z + 1 := ⟨g - 1, by omega⟩
    have ih := ih (by omega) g (by omega)
    rw [← ih, l_M_works_1, ite_plt (by omega), if_neg (by omega), bl_e, ite_le0 (by omega), if_pos rfl, pI_s]
    dsimp only
    rw [bl_e, pI_m1]
theorem M_w1Lm {F k : Nat} {h : HS} {x2 : Int32} {K : Int32 → HS → Option (Unit × HS)} : ∀ (n : Nat), n ≤ 6 → ∀ g, n < g → l_M_works_1 F (nI k) x2 (-1) K g (-1) (pI n) h = K (-1) h := by
  intro n
  induction n with
  | zero =>
    intro hn g hg
    obtain ⟨g, rfl⟩ : ∃ z, g = z + 1 := ⟨g - 1, by omega⟩
    rw [l_M_works_1, ite_plt (by omega), if_pos rfl]
  | succ n ih =>
    intro hn g hg
    obtain ⟨g, rfl⟩ : ∃ z, g = z + 1 := ⟨g - 1, by omega⟩
    have ih := ih (by omega) g (by omega)
    rw [← ih, l_M_works_1, ite_plt (by omega), if_neg (by omega), bl_e, if_pos (by decide), pI_s]
    dsimp only
    rw [bl_e, pI_m1]
theorem ntz_h (x : Int32) (h h0 : HS) : f_Int_numberOfTrailingZeros_0f7a4 x h = (match f_Int_numberOfTrailingZeros_0f7a4 x h0 with
  | some z => some (z.1, h)
  | none => none) := by
  unfold f_Int_numberOfTrailingZeros_0f7a4
  simp only [bl_e]
  (repeat' split) <;> first | (rename_i e; cases e; rfl) | (exfalso; simp_all; done) | (simp_all; done)
theorem ntz_val : ∀ a, a < 64 → 0 < a → (match f_Int_numberOfTrailingZeros_0f7a4 (nI a) ((fun _ _ => 0), (fun _ _ => 0)) with
  | some z => decide (z.1 = nI (lsF a 6 - 1) ∧ 0 < lsF a 6 ∧ lsF a 6 ≤ 6 ∧ a.testBit (lsF a 6 - 1) = true)
  | none => false) = true := by decide +kernel
theorem E_ntz {a : Nat} (ha : a < 64) (h0 : 0 < a) (h : HS) : f_Int_numberOfTrailingZeros_0f7a4 (nI a) h = some (nI (lsF a 6 - 1), h) ∧ 0 < lsF a 6 ∧ lsF a 6 ≤ 6 ∧ a.testBit (lsF a 6 - 1) = true := by
  have q := ntz_val a ha h0
  rw [ntz_h _ h ((fun _ _ => 0), (fun _ _ => 0))]
  cases e : f_Int_numberOfTrailingZeros_0f7a4 (nI a) ((fun _ _ => 0), (fun _ _ => 0)) with
  | none => rw [e] at q; cases q
  | some z =>
    rw [e] at q
    have q := of_decide_eq_true q
    exact ⟨by rw [← q.1], q.2⟩
