/-! ===== numbers ===== -/
theorem nI_mul (a b : Nat) : nI a * nI b = nI (a * b) := (Int32.ofNat_mul a b).symm
theorem nI_sb {a b : Nat} (h : b ≤ a) : nI a - nI b = nI (a - b) := by
  have e : nI a = nI (a - b) + nI b := by rw [nI_add]; congr 1; omega
  rw [e, Int32.add_sub_cancel]
theorem nI_inj {a b : Nat} (ha : a < 2147483648) (hb : b < 2147483648) (h : nI a = nI b) : a = b := (nI_eq ha hb).mp h
theorem nI_zero : (0 : Int32) = nI 0 := rfl
def bI (b : Bool) : Int32 := if b = true then nI 1 else nI 0
theorem bI_t : bI true = nI 1 := rfl
theorem bI_f : bI false = nI 0 := rfl
theorem bl_e {α β : Type} (a : α) (f : α → β) : bl a f = f a := rfl
theorem bnd_s {α β : Type} (x : α) (h : HS) (K : α → HS → Option β) : bnd (some (x, h)) K = K x h := rfl
theorem rZ1 (h : HS) : rZ (nI 1) h = some (nI 1, h) := if_pos (Or.inr rfl)
theorem rZ0 (h : HS) : rZ (nI 0) h = some (nI 0, h) := if_pos (Or.inl rfl)
theorem rZb (b : Bool) (h : HS) : rZ (bI b) h = some (bI b, h) := by cases b <;> first | exact rZ0 h | exact rZ1 h
theorem ifin {α : Type} {a n : Nat} {A : Option α} (h : a < n) (hn : n < 2147483648) : (if inb (nI a) n = true then A else none) = A := by
  apply if_pos
  unfold inb
  rw [nI_clamp (by omega)]
  simp only [Bool.and_eq_true, Bool.not_eq_true', decide_eq_false_iff_not, decide_eq_true_eq]
  exact ⟨nI_pos (by omega), h⟩
theorem inb_nI {a n : Nat} (h : a < 2147483648) : inb (nI a) n = decide (a < n) := by
  unfold inb
  rw [nI_clamp (by omega)]
  simp [nI_pos (show a < 2 ^ 31 by omega)]
theorem inb_ex {x : Int32} {n : Nat} (h : inb x n = true) : x.toNatClampNeg < n ∧ x = nI x.toNatClampNeg := by
  unfold inb at h
  simp only [Bool.and_eq_true, Bool.not_eq_true', decide_eq_false_iff_not, decide_eq_true_eq] at h
  refine ⟨h.2, ?_⟩
  obtain ⟨j, hj, e⟩ := nI_of h.1
  rw [e, nI_clamp hj]
theorem ite_eqN {α : Type} {a b : Nat} {A B : α} (ha : a < 2147483648) (hb : b < 2147483648) : (if nI a = nI b then A else B) = (if a = b then A else B) := by
  by_cases h : a = b
  · rw [if_pos h, if_pos (by rw [h])]
  · rw [if_neg h, if_neg (fun e => h (nI_inj ha hb e))]
theorem ite_eq0 {α : Type} {a : Nat} {A B : α} (ha : a < 2147483648) : (if nI a = 0 then A else B) = (if a = 0 then A else B) := ite_eqN ha (by decide)
theorem ite_ne0 {α : Type} {a : Nat} {A B : α} (ha : a < 2147483648) : (if ¬ nI a = 0 then A else B) = (if a = 0 then B else A) := by
  by_cases h : a = 0
  · rw [if_pos h, if_neg (fun q => q (by rw [h]; rfl))]
  · rw [if_neg h]
    exact if_pos (fun e => h (nI_inj ha (by decide) e))
theorem ite_leN {α : Type} {a b : Nat} {A B : α} (ha : a < 2147483648) (hb : b < 2147483648) : (if nI a ≤ nI b then A else B) = (if a ≤ b then A else B) := by
  by_cases h : a ≤ b
  · rw [if_pos h, if_pos ((nI_leI ha hb).mpr h)]
  · rw [if_neg h, if_neg (fun e => h ((nI_leI ha hb).mp e))]
theorem ite_ltN {α : Type} {a b : Nat} {A B : α} (ha : a < 2147483648) (hb : b < 2147483648) : (if nI a < nI b then A else B) = (if a < b then A else B) := by
  by_cases h : a < b
  · rw [if_pos h, if_pos ((nI_ltI ha hb).mpr h)]
  · rw [if_neg h, if_neg (fun e => h ((nI_ltI ha hb).mp e))]
theorem ite_lt0 {α : Type} {a : Nat} {A B : α} (ha : a < 2147483648) : (if nI a < 0 then A else B) = B := if_neg (nI_pos ha)
theorem ite_le0 {α : Type} {a : Nat} {A B : α} (ha : a < 2147483648) : (if nI a ≤ 0 then A else B) = (if a = 0 then A else B) := by
  rw [nI_zero, ite_leN ha (by decide)]
  congr 1
  exact propext Nat.le_zero
theorem ite_ge0 {α : Type} {a : Nat} {A B : α} (ha : a < 2147483648) : (if 0 ≤ nI a then A else B) = A := by
  rw [nI_zero, ite_leN (by decide) ha, if_pos (Nat.zero_le a)]
theorem ite_gt0 {α : Type} {a : Nat} {A B : α} (ha : a < 2147483648) : (if 0 < nI a then A else B) = (if a = 0 then B else A) := by
  rw [nI_zero, ite_ltN (by decide) ha]
  by_cases h : a = 0
  · rw [if_pos h, if_neg (by omega)]
  · rw [if_neg h, if_pos (by omega)]
theorem ite_b0 {α : Type} {b : Bool} {A B : α} : (if bI b = 0 then A else B) = (if b = true then B else A) := by
  cases b
  · rfl
  · exact if_neg (by decide)
theorem ite_bn0 {α : Type} {b : Bool} {A B : α} : (if ¬ bI b = 0 then A else B) = (if b = true then A else B) := by
  cases b
  · exact if_neg (fun q => q rfl)
  · exact if_pos (by decide)
theorem some_ite {α : Type} {c : Prop} [Decidable c] {a b : α} : (if c then some a else some b) = some (if c then a else b) := by split <;> rfl
theorem bI_ite {b : Bool} {h : HS} : (if b = true then (some (nI 1, h) : Option (Int32 × HS)) else some (nI 0, h)) = some (bI b, h) := by cases b <;> rfl
theorem bI_dec {c : Prop} [Decidable c] {h : HS} : (if c then (some (nI 1, h) : Option (Int32 × HS)) else some (nI 0, h)) = some (bI (decide c), h) := by by_cases q : c <;> simp [q, bI]
theorem bI_decn {c : Prop} [Decidable c] {h : HS} : (if c then (some (nI 0, h) : Option (Int32 × HS)) else some (nI 1, h)) = some (bI (!decide c), h) := by by_cases q : c <;> simp [q, bI]
/-- n less 1, -1 for 0 -/
def pI (n : Nat) : Int32 := nI n - nI 1
theorem pI_0 : pI 0 = -1 := by decide
theorem pI_s (n : Nat) : pI (n + 1) = nI n := nI_pred n
theorem pI_p {n : Nat} (h : 0 < n) : pI n = nI (n - 1) := by
  obtain ⟨k, rfl⟩ : ∃ k, n = k + 1 := ⟨n - 1, by omega⟩
  exact pI_s k
theorem pI_add (n : Nat) : pI n + nI 1 = nI n := Int32.sub_add_cancel _ _
theorem nI_nn {a : Nat} (ha : a < 2147483648) : nI a ≠ -1 := fun e => by
  have := nI_pos (show a < 2 ^ 31 from ha)
  rw [e] at this
  exact this (by decide)
theorem pI_n {n : Nat} (h : n < 2147483648) : pI n = -1 ↔ n = 0 := by
  refine ⟨fun e => ?_, fun e => by rw [e, pI_0]⟩
  rcases Nat.eq_zero_or_pos n with q | q
  · exact q
  · rw [pI_p q] at e
    exact absurd e (nI_nn (by omega))
theorem ite_pn {α : Type} {n : Nat} {A B : α} (h : n < 2147483648) : (if pI n = -1 then A else B) = (if n = 0 then A else B) := by
  by_cases q : n = 0
  · rw [if_pos q, if_pos ((pI_n h).mpr q)]
  · rw [if_neg q, if_neg (fun e => q ((pI_n h).mp e))]
theorem toInt_nI {a : Nat} (h : a < 2147483648) : (nI a).toInt = (a : Int) := nI_toInt h
theorem nI_div {a b : Nat} (ha : a < 2147483648) (hb : b < 2147483648) (h0 : 0 < b) : nI a / nI b = nI (a / b) := by
  have hq : a / b ≤ a := Nat.div_le_self a b
  apply Int32.toInt_inj.mp
  rw [toInt_nI (by omega), Int32.toInt_div_of_ne_right _ _ (fun e => by
    have := congrArg Int32.toInt e
    rw [toInt_nI hb] at this
    have h2 : ((-1 : Int32)).toInt = -1 := by decide
    rw [h2] at this
    omega), toInt_nI ha, toInt_nI hb]
  exact (Int.ofNat_tdiv a b).symm
theorem nI_rem {a b : Nat} (ha : a < 2147483648) (hb : b < 2147483648) (h0 : 0 < b) : nI a - nI a / nI b * nI b = nI (a % b) := by
  have h1 : a / b * b ≤ a := Nat.div_mul_le_self a b
  rw [nI_div ha hb h0, nI_mul, nI_sb h1]
  congr 1
  have := Nat.div_add_mod a b
  rw [Nat.mul_comm] at this
  omega
/-! ===== cells ===== -/
theorem sI_g {h : HS} {i k a b : Nat} {v : Int32} : (sI h i k v).1 a b = if a = i ∧ b = k then v else h.1 a b := rfl
theorem sI_e {h : HS} {i k : Nat} {v : Int32} : (sI h i k v).1 i k = v := if_pos ⟨rfl, rfl⟩
theorem sI_n {h : HS} {i k b : Nat} {v : Int32} (q : b ≠ k) : (sI h i k v).1 i b = h.1 i b := if_neg (fun z => q z.2)
theorem sI_o {h : HS} {i k a : Nat} {v : Int32} (q : a ≠ i) : (sI h i k v).1 a = h.1 a := by funext b; exact if_neg (fun z => q z.1)
theorem sI_2 {h : HS} {i k : Nat} {v : Int32} : (sI h i k v).2 = h.2 := rfl
theorem sL_1 {h : HS} {i k : Nat} {v : Int64} : (sL h i k v).1 = h.1 := rfl
theorem sL_e {h : HS} {i k : Nat} {v : Int64} : (sL h i k v).2 i k = v := if_pos ⟨rfl, rfl⟩
theorem sL_n {h : HS} {i k b : Nat} {v : Int64} (q : b ≠ k) : (sL h i k v).2 i b = h.2 i b := if_neg (fun z => q z.2)
theorem sL_o {h : HS} {i k a : Nat} {v : Int64} (q : a ≠ i) : (sL h i k v).2 a = h.2 a := by funext b; exact if_neg (fun z => q z.1)
theorem sI_u {h : HS} {i k : Nat} {v : Int32} : (sI h i k v).1 i = upd (h.1 i) k v := by
  funext b
  simp [upd, sI]
/-- the cell i's ints are f now -/
def st (h : HS) (i : Nat) (f : Nat → Int32) : HS := (fun a => if a = i then f else h.1 a, h.2)
theorem st_e {h : HS} {i : Nat} {f : Nat → Int32} : (st h i f).1 i = f := if_pos rfl
theorem st_o {h : HS} {i a : Nat} {f : Nat → Int32} (q : a ≠ i) : (st h i f).1 a = h.1 a := if_neg q
theorem st_2 {h : HS} {i : Nat} {f : Nat → Int32} : (st h i f).2 = h.2 := rfl
theorem st_s {h : HS} {i : Nat} : st h i (h.1 i) = h := by
  refine Prod.ext ?_ rfl
  funext a
  show (if a = i then h.1 i else h.1 a) = h.1 a
  split
  · next e => rw [e]
  · rfl
theorem st_st {h : HS} {i : Nat} {f g : Nat → Int32} : st (st h i f) i g = st h i g := by
  refine Prod.ext ?_ rfl
  funext a
  show (if a = i then g else (if a = i then f else h.1 a)) = (if a = i then g else h.1 a)
  split <;> rfl
theorem sI_st {h : HS} {i k : Nat} {v : Int32} : sI h i k v = st h i (upd (h.1 i) k v) := by
  refine Prod.ext ?_ rfl
  funext a b
  show (if a = i ∧ b = k then v else h.1 a b) = (if a = i then upd (h.1 i) k v else h.1 a) b
  by_cases e : a = i
  · subst e
    simp [upd]
  · simp [e]
theorem sI_stst {h : HS} {i k : Nat} {f : Nat → Int32} {v : Int32} : sI (st h i f) i k v = st h i (upd f k v) := by
  rw [sI_st, st_e, st_st]
theorem cI_st {h : HS} {i j n : Nat} : cI h i j 0 0 n = st h j (va_cpy (h.1 i) (h.1 j) 0 0 n) := by
  refine Prod.ext ?_ rfl
  funext a
  show (if a = j then va_cpy (h.1 i) (h.1 j) 0 0 n else h.1 a) = (if a = j then va_cpy (h.1 i) (h.1 j) 0 0 n else h.1 a)
  rfl
theorem upd_e {f : Nat → Int32} {k : Nat} {v : Int32} : upd f k v k = v := if_pos rfl
theorem upd_n {f : Nat → Int32} {k j : Nat} {v : Int32} (q : j ≠ k) : upd f k v j = f j := if_neg q
theorem cpy_in {α : Type} {f g : Nat → α} {n k : Nat} (h : k < n) : va_cpy f g 0 0 n k = f k := by simp [va_cpy, h]
theorem cpy_out {α : Type} {f g : Nat → α} {n k : Nat} (h : n ≤ k) : va_cpy f g 0 0 n k = g k := by simp [va_cpy, Nat.not_lt.mpr h]
/-! ===== bits ===== -/
theorem bit_sh : ∀ a, a < 64 → ∀ d, d < 32 → ((nI a >>> (nI d &&& 31)) &&& nI 1) = bI (a.testBit d) := by decide +kernel
theorem bit_or : ∀ a, a < 64 → ∀ d, d < 6 → (nI a ||| (nI 1 <<< (nI d &&& 31))) = nI (a ||| 2 ^ d) := by decide +kernel
theorem bit_sl : ∀ d, d < 31 → (nI 1 <<< (nI d &&& 31)) = nI (2 ^ d) := by decide +kernel
