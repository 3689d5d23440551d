/-! ===== what a plan and a row ARE, apart from both sides ===== -/
/-- P 0: 0 N, 1 M, 2 coin, 3 causes, 4 deeds, 5 clerks; by cause: P 1 FOR, 2 AGAINST, 3 PURSE, 4 BELIEF, 5, 6 the rumour (6: 0 none); by deed: P 7 UP, 8 DOWN, 9 COST; by clerk: P 10 ZEAL; names: 11, 12, 13 -/
abbrev Pl : Type := Nat → Nat → Nat
/-- A.1: by cause: 0 belief, 1 state, 2 holder and 1, 3 had, 4 dropped in; by clerk: 5 zeal, 6 has and 1, 7 acted; 8 the week, 9 first disgrace and 1. A.2: 0 flag (cause), 1 acts, 2 brought (clerk), 3 coin, 4 disgraces, 5 deeds, 6 flags; 7: the reference's places from 151 on (the SENTENCE) -/
abbrev Ab : Type := (Nat → Nat → Nat) × (Nat → Nat → Int32)
def up2 {α : Type} (f : Nat → Nat → α) (i j : Nat) (v : α) : Nat → Nat → α := fun a b => if a = i ∧ b = j then v else f a b
def sN (A : Ab) (i j : Nat) (v : Nat) : Ab := (up2 A.1 i j v, A.2)
def sV (A : Ab) (i j : Nat) (v : Int32) : Ab := (A.1, up2 A.2 i j v)
theorem sN_e {A : Ab} {i j v : Nat} : (sN A i j v).1 i j = v := if_pos ⟨rfl, rfl⟩
theorem sN_n {A : Ab} {i j b v : Nat} (q : b ≠ j) : (sN A i j v).1 i b = A.1 i b := if_neg (fun z => q z.2)
theorem sN_o {A : Ab} {i j a b v : Nat} (q : a ≠ i) : (sN A i j v).1 a b = A.1 a b := if_neg (fun z => q z.1)
theorem sN_2 {A : Ab} {i j v : Nat} : (sN A i j v).2 = A.2 := rfl
theorem sV_e {A : Ab} {i j : Nat} {v : Int32} : (sV A i j v).2 i j = v := if_pos ⟨rfl, rfl⟩
theorem sV_n {A : Ab} {i j b : Nat} {v : Int32} (q : b ≠ j) : (sV A i j v).2 i b = A.2 i b := if_neg (fun z => q z.2)
theorem sV_o {A : Ab} {i j a b : Nat} {v : Int32} (q : a ≠ i) : (sV A i j v).2 a b = A.2 a b := if_neg (fun z => q z.1)
theorem sV_1 {A : Ab} {i j : Nat} {v : Int32} : (sV A i j v).1 = A.1 := rfl
def sm (P : Pl) (f set : Nat) : Nat := (if set.testBit 0 then P f 0 else 0) + (if set.testBit 1 then P f 1 else 0) + (if set.testBit 2 then P f 2 else 0) + (if set.testBit 3 then P f 3 else 0) + (if set.testBit 4 then P f 4 else 0) + (if set.testBit 5 then P f 5 else 0)
/-- FOR, AGAINST of the cause c behind a set -/
def fo (P : Pl) (A : Ab) (c set : Nat) : Nat := P 1 c + sm P 7 (A.1 3 c) + sm P 7 set
def ag (P : Pl) (A : Ab) (c set : Nat) : Nat := P 2 c + sm P 8 (A.1 3 c) + sm P 8 set
def safe (P : Pl) (x y : Nat) : Bool := decide (x * P 0 1 < P 0 0 * (x + y))
def near (P : Pl) (x y : Nat) : Nat := 1000 * x * P 0 1 / ((x + y) * P 0 0)
def safeC (P : Pl) (A : Ab) (c set : Nat) : Bool := safe P (fo P A c set) (ag P A c set)
def nearC (P : Pl) (A : Ab) (c set : Nat) : Nat := near P (fo P A c set) (ag P A c set)
def WFP (P : Pl) : Prop := 1 ≤ P 0 0 ∧ P 0 0 < P 0 1 ∧ P 0 1 ≤ 99 ∧ P 0 2 ≤ 999 ∧ P 0 3 ≤ 6 ∧ P 0 4 ≤ 6 ∧ P 0 5 ≤ 5 ∧ (∀ c, P 1 c ≤ 99 ∧ 1 ≤ P 2 c ∧ P 2 c ≤ 99 ∧ 1 ≤ P 3 c ∧ P 3 c ≤ 99 ∧ 1 ≤ P 4 c ∧ P 4 c ≤ 20 ∧ P 5 c ≤ 99 ∧ P 6 c ≤ 99) ∧ (∀ d, P 7 d ≤ 20 ∧ P 8 d ≤ 20 ∧ P 9 d ≤ 20) ∧ (∀ k, 1 ≤ P 10 k ∧ P 10 k ≤ 9)
def WFA (P : Pl) (A : Ab) : Prop := (∀ c, c < P 0 3 → A.1 1 c ≤ 4 ∧ A.1 3 c < 2 ^ P 0 4 ∧ A.1 0 c ≤ 20 ∧ (A.1 1 c ≤ 2 → 1 ≤ A.1 0 c) ∧ (A.1 1 c = 1 → 1 ≤ A.1 2 c ∧ A.1 2 c ≤ P 0 5 ∧ A.1 6 (A.1 2 c - 1) = c + 1) ∧ (A.1 1 c ≠ 1 → A.1 2 c = 0) ∧ (A.1 1 c = 2 → A.1 4 c ≤ A.1 8 0 ∧ A.1 8 0 ≤ A.1 4 c + 4) ∧ A.1 4 c ≤ 200) ∧ (∀ k, k < P 0 5 → A.1 5 k ≤ P 10 k ∧ A.1 7 k ≤ 1 ∧ A.1 6 k ≤ P 0 3 ∧ (A.1 6 k ≠ 0 → A.1 1 (A.1 6 k - 1) = 1 ∧ A.1 2 (A.1 6 k - 1) = k + 1)) ∧ A.1 8 0 ≤ 200 ∧ A.1 9 0 ≤ 200
theorem sm_le {P : Pl} (W : WFP P) {f : Nat} (hf : f = 7 ∨ f = 8 ∨ f = 9) (set : Nat) : sm P f set ≤ 120 := by
  obtain ⟨-, -, -, -, -, -, -, -, hd, -⟩ := W
  have h0 := hd 0
  have h1 := hd 1
  have h2 := hd 2
  have h3 := hd 3
  have h4 := hd 4
  have h5 := hd 5
  unfold sm
  rcases hf with e | e | e <;> subst e <;> (repeat' split) <;> omega
theorem sm_z (P : Pl) (f : Nat) : sm P f 0 = 0 := by simp [sm]
theorem fo_le {P : Pl} (W : WFP P) (A : Ab) (c set : Nat) : fo P A c set ≤ 339 := by
  have h1 := sm_le W (f := 7) (Or.inl rfl) (A.1 3 c)
  have h2 := sm_le W (f := 7) (Or.inl rfl) set
  have h3 := (W.2.2.2.2.2.2.2.1 c).1
  unfold fo
  omega
theorem ag_le {P : Pl} (W : WFP P) (A : Ab) (c set : Nat) : ag P A c set ≤ 339 ∧ 1 ≤ ag P A c set := by
  have h1 := sm_le W (f := 8) (Or.inr (Or.inl rfl)) (A.1 3 c)
  have h2 := sm_le W (f := 8) (Or.inr (Or.inl rfl)) set
  have h3 := (W.2.2.2.2.2.2.2.1 c)
  unfold ag
  omega
/-! ===== the class's cells of them ===== -/
def rcC (P : Pl) (A : Ab) (c : Nat) : Nat → Int32
  | 0 => nI (fo P A c 0)
  | 1 => nI (ag P A c 0)
  | 2 => nI (P 3 c)
  | 3 => nI (A.1 0 c)
  | 4 => nI (A.1 1 c)
  | 5 => pI (A.1 2 c)
  | 6 => nI (A.1 3 c)
  | 7 => A.2 0 c
  | _ => nI (A.1 4 c)
def rkC (P : Pl) (A : Ab) (k : Nat) : Nat → Int32
  | 0 => nI (A.1 5 k)
  | 1 => nI (P 10 k)
  | 2 => pI (A.1 6 k)
  | 3 => A.2 1 k
  | 4 => nI (A.1 7 k)
  | _ => A.2 2 k
def rnC (A : Ab) : Nat → Int32
  | 0 => nI (A.1 8 0)
  | 1 => A.2 3 0
  | 2 => A.2 4 0
  | 3 => 0
  | 4 => A.2 5 0
  | 5 => pI (A.1 9 0)
  | _ => A.2 6 0
def RC (P : Pl) (A : Ab) (r : Nat → Int32) : Prop := (∀ c w, c < P 0 3 → w < 9 → r (c * 9 + w) = rcC P A c w) ∧ (∀ k w, k < P 0 5 → w < 6 → r (54 + k * 6 + w) = rkC P A k w) ∧ (∀ w, w < 7 → w ≠ 3 → r (84 + w) = rnC A w)
def PC (P : Pl) (h : HS) (b : Nat) : Prop := (h.1 b 0 = nI (P 0 0) ∧ h.1 b 1 = nI (P 0 1) ∧ h.1 b 2 = nI (P 0 2) ∧ h.1 b 3 = nI (P 0 3) ∧ h.1 b 4 = nI (P 0 4) ∧ h.1 b 5 = nI (P 0 5)) ∧ (∀ c w, c < P 0 3 → w < 4 → h.1 (b + 4) (c * 4 + w) = nI (P (1 + w) c)) ∧ (∀ c w, c < 6 → w < 2 → (w = 1 ∨ P 6 c ≠ 0) → h.1 (b + 5) (c * 2 + w) = nI (P (5 + w) c)) ∧ (∀ d w, d < P 0 4 → w < 3 → h.1 (b + 6) (d * 3 + w) = nI (P (7 + w) d)) ∧ (∀ k, k < P 0 5 → h.1 (b + 7) k = nI (P 10 k)) ∧ (∀ c, c < P 0 3 → h.2 (b + 1) c = Int64.ofNat (P 11 c) ∧ P 11 c < 2 ^ 35) ∧ (∀ d, d < P 0 4 → h.2 (b + 2) d = Int64.ofNat (P 12 d) ∧ P 12 d < 2 ^ 35) ∧ (∀ k, k < P 0 5 → h.2 (b + 3) k = Int64.ofNat (P 13 k) ∧ P 13 k < 2 ^ 35)
/-! ===== the reference's ===== -/
def bcM (c : Nat) : Nat → Nat
  | 0 => 78 + c
  | 1 => 84 + c
  | 2 => 19 + c
  | 3 => 90 + c
  | 4 => 96 + c
  | 5 => 102 + c
  | 6 => 108 + c
  | 7 => 114 + c
  | _ => 120 + c
def rcM (P : Pl) (A : Ab) (c : Nat) : Nat → Int32
  | 5 => nI (A.1 2 c)
  | w => rcC P A c w
def bkM (k : Nat) : Nat → Nat
  | 0 => 126 + k
  | 1 => 67 + k
  | 2 => 131 + k
  | 3 => 136 + k
  | 4 => 141 + k
  | _ => 146 + k
def rkM (P : Pl) (A : Ab) (k : Nat) : Nat → Int32
  | 2 => nI (A.1 6 k)
  | w => rkC P A k w
def bnM : Nat → Nat
  | 0 => 72
  | 1 => 73
  | 2 => 74
  | 3 => 0
  | 4 => 77
  | 5 => 75
  | _ => 76
def rnM (A : Ab) : Nat → Int32
  | 5 => nI (A.1 9 0)
  | w => rnC A w
/-- the row's own places of s (72 to 150) -/
def RM0 (P : Pl) (A : Ab) (s : Nat → Int32) : Prop := (∀ c w, c < P 0 3 → w < 9 → w ≠ 2 → s (bcM c w) = rcM P A c w) ∧ (∀ k w, k < P 0 5 → w < 6 → w ≠ 1 → s (bkM k w) = rkM P A k w) ∧ (∀ w, w < 7 → w ≠ 3 → s (bnM w) = rnM A w) ∧ (∀ i, 151 ≤ i → s i = A.2 7 i)
def rumN (P : Pl) : Nat → Nat
  | 0 => 0
  | c + 1 => rumN P c + (if P 6 c = 0 then 0 else 1)
/-- a word's letters, by 32 to the power, as the reference packs them (by 256) -/
def cv (w : Nat) : Nat := if w = 0 then 0 else cv (w / 32) * 256 + (w % 32 + 96)
  termination_by w
  decreasing_by omega
def PM (P : Pl) (s : Nat → Int32) (nm : Nat → Int64) (o : Nat) : Prop := (s 0 = nI (P 0 3) ∧ s 1 = nI (P 0 4) ∧ s 2 = nI (P 0 5) ∧ s 3 = nI (rumN P (P 0 3)) ∧ s 4 = nI (P 0 0) ∧ s 5 = nI (P 0 1) ∧ s 6 = nI (P 0 2)) ∧ (∀ c, c < P 0 3 → s (7 + c) = nI (P 1 c) ∧ s (13 + c) = nI (P 2 c) ∧ s (19 + c) = nI (P 3 c) ∧ s (25 + c) = nI (P 4 c) ∧ s (43 + c) = nI (if P 6 c = 0 then 0 else 1) ∧ (P 6 c ≠ 0 → s (31 + c) = nI (P 5 c) ∧ s (37 + c) = nI (P 6 c))) ∧ (∀ d, d < P 0 4 → s (49 + d) = nI (P 7 d) ∧ s (55 + d) = nI (P 8 d) ∧ s (61 + d) = nI (P 9 d)) ∧ (∀ k, k < P 0 5 → s (67 + k) = nI (P 10 k)) ∧ (∀ c, c < P 0 3 → nm (o + c) = Int64.ofNat (cv (P 11 c))) ∧ (∀ d, d < P 0 4 → nm (o + 6 + d) = Int64.ofNat (cv (P 12 d))) ∧ (∀ k, k < P 0 5 → nm (o + 12 + k) = Int64.ofNat (cv (P 13 k)))
def CR (P : Pl) (A : Ab) (h : HS) : Prop := PC P h 3 ∧ RC P A (h.1 21)
def MR (P : Pl) (A : Ab) (h : HS) : Prop := PM P (h.1 2) (h.2 5) 0 ∧ RM0 P A (h.1 2)
def WF (P : Pl) (A : Ab) : Prop := WFP P ∧ WFA P A
/-! ===== arithmetic of both ===== -/
theorem safe_ar {P : Pl} (W : WFP P) {x y : Nat} (hx : x ≤ 2000) (hy : y ≤ 2000) {α : Type} {A B : α} : (if nI (P 0 0) * (nI x + nI y) ≤ nI x * nI (P 0 1) then A else B) = (if safe P x y = true then B else A) := by
  obtain ⟨h1, h2, h3, -⟩ := W
  have q1 : P 0 0 * (x + y) ≤ 99 * 4000 := Nat.mul_le_mul (by omega) (by omega)
  have q2 : x * P 0 1 ≤ 2000 * 99 := Nat.mul_le_mul (by omega) (by omega)
  rw [nI_add, nI_mul, nI_mul, ite_leN (by omega) (by omega)]
  unfold safe
  by_cases e : x * P 0 1 < P 0 0 * (x + y)
  · rw [if_neg (by omega), if_pos (by simpa using e)]
  · rw [if_pos (by omega), if_neg (by simpa using e)]
