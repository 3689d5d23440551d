/-! ===== MATCH: all rows in their order against the search that leaves out what cannot be more ===== -/
abbrev Mb : Type := Int × (Nat → Nat)
def fC {B : Type} (f : Nat → B → B) : Nat → B → B
  | 0, b => b
  | n + 1, b => f n (fC f n b)
theorem fC_s {B : Type} (f : Nat → B → B) : ∀ n b, fC f (n + 1) b = fC (fun c => f (c + 1)) n (f 0 b) := by
  intro n
  induction n with
  | zero => intro b; rfl
  | succ n ih => intro b; exact congrArg (f (n + 1)) (ih b)
theorem fC_fix {B : Type} {f : Nat → B → B} {b : B} : ∀ n, (∀ i, i < n → f i b = b) → fC f n b = b := by
  intro n
  induction n with
  | zero => intro _; rfl
  | succ n ih =>
    intro h
    show f n (fC f n b) = b
    rw [ih (fun i hi => h i (by omega))]
    exact h n (by omega)
theorem fC_ind {B : Type} {f : Nat → B → B} {b : B} (Q : B → Prop) (h0 : Q b) : ∀ n, (∀ i x, i < n → Q x → Q (f i x)) → Q (fC f n b) := by
  intro n
  induction n with
  | zero => intro _; exact h0
  | succ n ih => intro h; exact h n _ (by omega) (ih (fun i x hi hx => h i x (by omega) hx))
def up1 (p : Nat → Nat) (k d : Nat) : Nat → Nat := fun i => if i = k then d else p i
theorem up1_e {p : Nat → Nat} {k d : Nat} : up1 p k d k = d := if_pos rfl
theorem up1_n {p : Nat → Nat} {k d i : Nat} (h : i ≠ k) : up1 p k d i = p i := if_neg h
def rvF (hs : Nat → Bool) (V : Nat → Nat → Int) (p : Nat → Nat) : Nat → Nat → Nat → Int → Int
  | 0, _, _, s => s
  | j + 1, k, u, s => if p k = 0 then rvF hs V p j (k + 1) u s else (if hs k = true ∨ u.testBit (p k - 1) = true then -1000000 else rvF hs V p j (k + 1) (u ||| 2 ^ (p k - 1)) (s + V k (p k - 1)))
def EM (C : Nat) (rv : (Nat → Nat) → Int) : Nat → Nat → (Nat → Nat) → Mb → Mb
  | 0, _, p, B => if B.1 < rv p then (rv p, p) else B
  | j + 1, k, p, B => fC (fun d B => EM C rv j (k + 1) (up1 p k d) B) (C + 1) B
def EC (hs : Nat → Bool) (V : Nat → Nat → Int) (C : Nat) : Nat → Nat → (Nat → Nat) → Nat → Int → Mb → Mb
  | 0, _, p, _, s, B => if B.1 < s then (s, p) else B
  | j + 1, k, p, u, s, B => if hs k = true then EC hs V C j (k + 1) (up1 p k 0) u s B else fC (fun c B => if 0 < V k c ∧ u.testBit c = false then EC hs V C j (k + 1) (up1 p k (c + 1)) (u ||| 2 ^ c) (s + V k c) B else B) C (EC hs V C j (k + 1) (up1 p k 0) u s B)
def Ub (hs : Nat → Bool) (V : Nat → Nat → Int) (C : Nat) : Nat → Nat → Nat → Int → Int → Prop
  | 0, _, _, s, b => s ≤ b
  | j + 1, k, u, s, b => Ub hs V C j (k + 1) u s b ∧ (hs k = false → ∀ c, c < C → u.testBit c = false → Ub hs V C j (k + 1) (u ||| 2 ^ c) (s + V k c) b)
theorem sub_or {u w : Nat} (h : ∀ i, u.testBit i = true → w.testBit i = true) (x : Nat) : ∀ i, (u ||| x).testBit i = true → (w ||| x).testBit i = true := by
  intro i hi
  rw [Nat.testBit_or] at hi ⊢
  cases hu : u.testBit i
  · rw [hu, Bool.false_or] at hi
    rw [hi, Bool.or_true]
  · rw [h i hu, Bool.true_or]
theorem Ub_mo {hs : Nat → Bool} {V : Nat → Nat → Int} {C : Nat} : ∀ (j k u w : Nat) (s t b d : Int), (∀ i, u.testBit i = true → w.testBit i = true) → t ≤ s → b ≤ d → Ub hs V C j k u s b → Ub hs V C j k w t d := by
  intro j
  induction j with
  | zero => intro k u w s t b d _ h1 h2 h3; exact Int.le_trans h1 (Int.le_trans h3 h2)
  | succ j ih =>
    intro k u w s t b d h0 h1 h2 h3
    refine ⟨ih _ _ _ _ _ _ _ h0 h1 h2 h3.1, fun hk c hc hw => ?_⟩
    have hu : u.testBit c = false := by
      cases e : u.testBit c
      · rfl
      · rw [h0 c e] at hw; exact hw
    exact ih _ _ _ _ _ _ _ (sub_or h0 _) (by omega) h2 (h3.2 hk c hc hu)
theorem EC_A {hs : Nat → Bool} {V : Nat → Nat → Int} {C : Nat} : ∀ (j k : Nat) (p : Nat → Nat) (u : Nat) (s : Int) (B : Mb), B.1 ≤ (EC hs V C j k p u s B).1 ∧ Ub hs V C j k u s (EC hs V C j k p u s B).1 := by
  intro j
  induction j with
  | zero =>
    intro k p u s B
    show B.1 ≤ (if B.1 < s then ((s, p) : Mb) else B).1 ∧ s ≤ (if B.1 < s then ((s, p) : Mb) else B).1
    by_cases h : B.1 < s
    · rw [if_pos h]
      exact ⟨Int.le_of_lt h, Int.le_refl _⟩
    · rw [if_neg h]
      exact ⟨Int.le_refl _, Int.not_lt.mp h⟩
  | succ j ih =>
    intro k p u s B
    obtain ⟨a1, a2⟩ := ih (k + 1) (up1 p k 0) u s B
    unfold EC
    by_cases h : hs k = true
    · rw [if_pos h]
      exact ⟨a1, a2, fun z => absurd h (by rw [z]; decide)⟩
    · rw [if_neg h]
      have key : ∀ n, n ≤ C → (EC hs V C j (k + 1) (up1 p k 0) u s B).1 ≤ (fC (fun c B => if 0 < V k c ∧ u.testBit c = false then EC hs V C j (k + 1) (up1 p k (c + 1)) (u ||| 2 ^ c) (s + V k c) B else B) n (EC hs V C j (k + 1) (up1 p k 0) u s B)).1 ∧ ∀ c, c < n → u.testBit c = false → Ub hs V C j (k + 1) (u ||| 2 ^ c) (s + V k c) (fC (fun c B => if 0 < V k c ∧ u.testBit c = false then EC hs V C j (k + 1) (up1 p k (c + 1)) (u ||| 2 ^ c) (s + V k c) B else B) n (EC hs V C j (k + 1) (up1 p k 0) u s B)).1 := by
        intro n
        induction n with
        | zero => intro _; exact ⟨Int.le_refl _, fun c hc => absurd hc (Nat.not_lt_zero _)⟩
        | succ n ihn =>
          intro hn
          obtain ⟨b1, b2⟩ := ihn (by omega)
          rw [fC]
          generalize hX : fC (fun c B => if 0 < V k c ∧ u.testBit c = false then EC hs V C j (k + 1) (up1 p k (c + 1)) (u ||| 2 ^ c) (s + V k c) B else B) n (EC hs V C j (k + 1) (up1 p k 0) u s B) = X at b1 b2 ⊢
          by_cases e : 0 < V k n ∧ u.testBit n = false
          · rw [if_pos e]
            obtain ⟨c1, c2⟩ := ih (k + 1) (up1 p k (n + 1)) (u ||| 2 ^ n) (s + V k n) X
            refine ⟨Int.le_trans b1 c1, fun c hc hu => ?_⟩
            by_cases z : c = n
            · subst z
              exact c2
            · exact Ub_mo _ _ _ _ _ _ _ _ (fun _ h => h) (Int.le_refl _) c1 (b2 c (by omega) hu)
          · rw [if_neg e]
            refine ⟨b1, fun c hc hu => ?_⟩
            by_cases z : c = n
            · subst z
              have hv : ¬ 0 < V k c := fun q => e ⟨q, hu⟩
              exact Ub_mo j (k + 1) u _ s _ _ _ (fun i hi => by rw [Nat.testBit_or, hi, Bool.true_or]) (by omega) b1 a2
            · exact b2 c (by omega) hu
      obtain ⟨b1, b2⟩ := key C (Nat.le_refl _)
      exact ⟨Int.le_trans a1 b1, Ub_mo _ _ _ _ _ _ _ _ (fun _ h => h) (Int.le_refl _) b1 a2, fun _ => b2⟩
theorem EC_B {hs : Nat → Bool} {V : Nat → Nat → Int} {C : Nat} : ∀ (j k : Nat) (p : Nat → Nat) (u : Nat) (s : Int) (B : Mb), Ub hs V C j k u s B.1 → EC hs V C j k p u s B = B := by
  intro j
  induction j with
  | zero => intro k p u s B h; exact if_neg (Int.not_lt.mpr h)
  | succ j ih =>
    intro k p u s B h
    unfold EC
    rw [ih _ _ _ _ _ h.1]
    by_cases z : hs k = true
    · rw [if_pos z]
    · rw [if_neg z]
      refine fC_fix C (fun c hc => ?_)
      by_cases e : 0 < V k c ∧ u.testBit c = false
      · rw [if_pos e]
        exact ih _ _ _ _ _ (h.2 (by simpa using z) c hc e.2)
      · rw [if_neg e]
theorem EM_bad {C : Nat} {rv : (Nat → Nat) → Int} : ∀ (j k : Nat) (p : Nat → Nat) (B : Mb), (∀ r, (∀ i, i < k → r i = p i) → rv r = -1000000) → -1 ≤ B.1 → EM C rv j k p B = B := by
  intro j
  induction j with
  | zero =>
    intro k p B h hB
    exact if_neg (by rw [h p (fun _ _ => rfl)]; omega)
  | succ j ih =>
    intro k p B h hB
    unfold EM
    exact fC_fix _ (fun d _ => ih _ _ _ (fun r hr => h r (fun i hi => by rw [hr i (by omega), up1_n (by omega)])) hB)
theorem EM_EC {hs : Nat → Bool} {V : Nat → Nat → Int} {C : Nat} {rv : (Nat → Nat) → Int} : ∀ (j k : Nat) (p : Nat → Nat) (u : Nat) (s : Int) (B : Mb), (∀ r, (∀ i, i < k → r i = p i) → rv r = rvF hs V r j k u s) → 0 ≤ B.1 → EM C rv j k p B = EC hs V C j k p u s B := by
  intro j
  induction j with
  | zero =>
    intro k p u s B h hB
    unfold EM EC
    rw [show rv p = s from h p (fun _ _ => rfl)]
  | succ j ih =>
    intro k p u s B h hB
    have e0 : EM C rv j (k + 1) (up1 p k 0) B = EC hs V C j (k + 1) (up1 p k 0) u s B := ih _ _ _ _ _ (fun r hr => by
      rw [h r (fun i hi => by rw [hr i (by omega), up1_n (by omega)]), rvF, if_pos (by rw [hr k (by omega), up1_e])]) hB
    obtain ⟨a1, a2⟩ := EC_A (hs := hs) (V := V) (C := C) j (k + 1) (up1 p k 0) u s B
    unfold EM EC
    rw [fC_s, e0]
    generalize EC hs V C j (k + 1) (up1 p k 0) u s B = B0 at a1 a2
    have h0 : 0 ≤ B0.1 := Int.le_trans hB a1
    have bad : ∀ c X, 0 ≤ X → (hs k = true ∨ u.testBit c = true) → ∀ Y : Mb, Y.1 = X → EM C rv j (k + 1) (up1 p k (c + 1)) Y = Y := fun c X hX hc Y hY => EM_bad _ _ _ _ (fun r hr => by
      have er : r k = c + 1 := by rw [hr k (by omega), up1_e]
      rw [h r (fun i hi => by rw [hr i (by omega), up1_n (by omega)]), rvF, if_neg (by omega), er, Nat.add_sub_cancel, if_pos hc]) (by omega)
    by_cases z : hs k = true
    · rw [if_pos z]
      exact fC_fix C (fun c _ => bad c _ h0 (Or.inl z) _ rfl)
    · rw [if_neg z]
      have key : ∀ n, n ≤ C → fC (fun c B => EM C rv j (k + 1) (up1 p k (c + 1)) B) n B0 = fC (fun c B => if 0 < V k c ∧ u.testBit c = false then EC hs V C j (k + 1) (up1 p k (c + 1)) (u ||| 2 ^ c) (s + V k c) B else B) n B0 ∧ B0.1 ≤ (fC (fun c B => if 0 < V k c ∧ u.testBit c = false then EC hs V C j (k + 1) (up1 p k (c + 1)) (u ||| 2 ^ c) (s + V k c) B else B) n B0).1 := by
        intro n
        induction n with
        | zero => intro _; exact ⟨rfl, Int.le_refl _⟩
        | succ n ihn =>
          intro hn
          obtain ⟨b1, b2⟩ := ihn (by omega)
          rw [fC, fC, b1]
          generalize fC (fun c B => if 0 < V k c ∧ u.testBit c = false then EC hs V C j (k + 1) (up1 p k (c + 1)) (u ||| 2 ^ c) (s + V k c) B else B) n B0 = X at b1 b2 ⊢
          have hX : 0 ≤ X.1 := Int.le_trans h0 b2
          cases hu : u.testBit n
          · have e1 : EM C rv j (k + 1) (up1 p k (n + 1)) X = EC hs V C j (k + 1) (up1 p k (n + 1)) (u ||| 2 ^ n) (s + V k n) X := ih _ _ _ _ _ (fun r hr => by
              have er : r k = n + 1 := by rw [hr k (by omega), up1_e]
              rw [h r (fun i hi => by rw [hr i (by omega), up1_n (by omega)]), rvF, if_neg (by omega), er, Nat.add_sub_cancel, if_neg (fun q => by
                rcases q with q | q
                · exact z q
                · rw [hu] at q; cases q)]) hX
            rw [e1]
            by_cases v : 0 < V k n
            · rw [if_pos ⟨v, rfl⟩]
              exact ⟨rfl, Int.le_trans b2 (EC_A _ _ _ _ _ _).1⟩
            · rw [if_neg (fun q => v q.1)]
              exact ⟨EC_B _ _ _ _ _ _ (Ub_mo j (k + 1) u _ s _ _ _ (fun i hi => by rw [Nat.testBit_or, hi, Bool.true_or]) (by omega) b2 a2), b2⟩
          · rw [bad n _ hX (Or.inr hu) X rfl, if_neg (fun q => by cases q.2)]
            exact ⟨rfl, b2⟩
      exact (key C (Nat.le_refl _)).1
theorem up1_z {k : Nat} : up1 (fun _ => 0) k 0 = fun _ => 0 := by
  funext i
  unfold up1
  split <;> rfl
theorem EM_first {C : Nat} {rv : (Nat → Nat) → Int} {m : Nat → Nat} (h : rv (fun _ => 0) = 0) : ∀ (j k : Nat), EM C rv j k (fun _ => 0) (-1, m) = EM C rv j k (fun _ => 0) (0, fun _ => 0) := by
  intro j
  induction j with
  | zero =>
    intro k
    unfold EM
    rw [h, if_pos (show (-1 : Int) < 0 by decide), if_neg (show ¬ (0 : Int) < 0 by decide)]
  | succ j ih =>
    intro k
    unfold EM
    rw [fC_s, fC_s, up1_z, ih]
theorem EC_le {hs : Nat → Bool} {V : Nat → Nat → Int} {C : Nat} (hV : ∀ k c, V k c ≤ 120) : ∀ (j k : Nat) (p : Nat → Nat) (u : Nat) (s : Int) (B : Mb), k + j ≤ 5 → s ≤ 120 * k → B.1 ≤ 600 → (EC hs V C j k p u s B).1 ≤ 600 := by
  intro j
  induction j with
  | zero =>
    intro k p u s B hk h1 h2
    unfold EC
    split
    · show s ≤ 600
      omega
    · exact h2
  | succ j ih =>
    intro k p u s B hk h1 h2
    unfold EC
    have a := ih (k + 1) (up1 p k 0) u s B (by omega) (by omega) h2
    by_cases z : hs k = true
    · rw [if_pos z]
      exact a
    · rw [if_neg z]
      refine fC_ind (fun X : Mb => X.1 ≤ 600) a C (fun c X hc hX => ?_)
      have := hV k c
      show (if 0 < V k c ∧ u.testBit c = false then _ else X).1 ≤ 600
      split
      · exact ih _ _ _ _ _ (by omega) (by omega) hX
      · exact hX
theorem EM_le {C : Nat} {rv : (Nat → Nat) → Int} (h : ∀ r, rv r ≤ 600) : ∀ (j k : Nat) (p : Nat → Nat) (B : Mb), B.1 ≤ 600 → (EM C rv j k p B).1 ≤ 600 ∧ B.1 ≤ (EM C rv j k p B).1 := by
  intro j
  induction j with
  | zero =>
    intro k p B hB
    unfold EM
    split
    · next q => exact ⟨h p, Int.le_of_lt q⟩
    · exact ⟨hB, Int.le_refl _⟩
  | succ j ih =>
    intro k p B hB
    unfold EM
    refine fC_ind (fun X : Mb => X.1 ≤ 600 ∧ B.1 ≤ X.1) ⟨hB, Int.le_refl _⟩ (C + 1) (fun d X _ hX => ?_)
    have := ih (k + 1) (up1 p k d) X hX.1
    exact ⟨this.1, Int.le_trans hX.2 this.2⟩
theorem rvF_rg {hs : Nat → Bool} {V : Nat → Nat → Int} {p : Nat → Nat} (hV : ∀ k c, -120 ≤ V k c ∧ V k c ≤ 120) : ∀ (j k u : Nat) (s : Int), k + j ≤ 5 → s ≤ 120 * k → -(120 * (k : Int)) ≤ s → -1000000 ≤ rvF hs V p j k u s ∧ rvF hs V p j k u s ≤ 600 := by
  intro j
  induction j with
  | zero =>
    intro k u s hk h1 h2
    unfold rvF
    omega
  | succ j ih =>
    intro k u s hk h1 h2
    unfold rvF
    have := hV k (p k - 1)
    split
    · exact ih _ _ _ (by omega) (by omega) (by omega)
    · split
      · omega
      · exact ih _ _ _ (by omega) (by omega) (by omega)
/-! numbers with a sign -/
def zI (z : Int) : Int32 := Int32.ofInt z
theorem zI_t {z : Int} (h1 : -2000000000 ≤ z) (h2 : z ≤ 2000000000) : (zI z).toInt = z := Int32.toInt_ofInt_of_le (by omega) (by omega)
theorem zI_add (a b : Int) : zI a + zI b = zI (a + b) := (Int32.ofInt_add a b).symm
theorem zI_n (n : Nat) : zI (n : Int) = nI n := Int32.ofInt_eq_ofNat
theorem zI_le {α : Type} {a b : Int} {X Y : α} (h1 : -2000000000 ≤ a) (h2 : a ≤ 2000000000) (h3 : -2000000000 ≤ b) (h4 : b ≤ 2000000000) : (if zI a ≤ zI b then X else Y) = if b < a then Y else X := by
  have e : zI a ≤ zI b ↔ a ≤ b := by rw [Int32.le_iff_toInt_le, zI_t h1 h2, zI_t h3 h4]
  by_cases z : a ≤ b
  · rw [if_pos (e.mpr z), if_neg (by omega)]
  · rw [if_neg (fun q => z (e.mp q)), if_pos (by omega)]
