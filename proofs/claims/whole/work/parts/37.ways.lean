/-! ===== sets of deeds: bits, orders, the nearest ===== -/
def pop (n : Nat) : Nat := (if n.testBit 0 then 1 else 0) + (if n.testBit 1 then 1 else 0) + (if n.testBit 2 then 1 else 0) + (if n.testBit 3 then 1 else 0) + (if n.testBit 4 then 1 else 0) + (if n.testBit 5 then 1 else 0)
theorem pop_le (n : Nat) : pop n ≤ 6 := by
  unfold pop
  (repeat' split) <;> omega
theorem b_and : ∀ a, a < 64 → ∀ b, b < 64 → (nI a &&& nI b) = nI (a &&& b) := by decide +kernel
theorem b_andsh : ∀ a, a < 64 → ∀ d, d < 6 → (nI a &&& nI (2 ^ d)) = (if a.testBit d = true then nI (2 ^ d) else nI 0) := by decide +kernel
theorem b_xorsh : ∀ a, a < 64 → ∀ d, d < 6 → (nI a ^^^ nI (2 ^ d)) = nI (a ^^^ 2 ^ d) := by decide +kernel
theorem b_clr : ∀ a, a < 64 → ∀ d, d < 6 → a.testBit d = true → (nI a &&& (nI (2 ^ d) ^^^ (-1 : Int32))) = nI (a ^^^ 2 ^ d) := by decide +kernel
theorem b_dec : ∀ a, a < 64 → 0 < a → (nI a &&& (nI a - nI 1)) = nI (a &&& (a - 1)) := by decide +kernel
theorem pop_dec : ∀ a, a < 64 → 0 < a → pop (a &&& (a - 1)) + 1 = pop a ∧ (a &&& (a - 1)) < a := by decide +kernel
theorem pop_xor : ∀ a, a < 64 → ∀ d, d < 6 → a.testBit d = true → pop (a ^^^ 2 ^ d) + 1 = pop a ∧ (a ^^^ 2 ^ d) < a := by decide +kernel
theorem bc_val : ∀ a, a < 64 → (match f_Int_bitCount_0f7a4 (nI a) ((fun _ _ => 0), (fun _ _ => 0)) with
  | some z => decide (z.1 = nI (pop a))
  | none => false) = true := by decide +kernel
theorem E_bitCount {a : Nat} (ha : a < 64) (h : HS) : f_Int_bitCount_0f7a4 (nI a) h = some (nI (pop a), h) := by
  have q := bc_val a ha
  unfold f_Int_bitCount_0f7a4 at q ⊢
  simp only [bl_e] at q ⊢
  rw [of_decide_eq_true q]
theorem M_bitsL {F : Nat} (h : HS) : ∀ (n v : Nat), v ≤ n → v < 64 → ∀ g x, v < g → l_M_bits_0 F g (nI x) (nI v) h = some (nI (x + pop v), h) := by
  intro n
  induction n with
  | zero =>
    intro v hv h6 g x hg
    obtain ⟨g, rfl⟩ : ∃ z, g = z + 1 := ⟨g - 1, by omega⟩
    have : v = 0 := by omega
    subst this
    rw [l_M_bits_0, ite_eq0 (by omega), if_pos rfl]
    rfl
  | succ n ih =>
    intro v hv h6 g x hg
    obtain ⟨g, rfl⟩ : ∃ z, g = z + 1 := ⟨g - 1, by omega⟩
    rw [l_M_bits_0, ite_eq0 (by omega)]
    by_cases e : v = 0
    · subst e
      rw [if_pos rfl]
      rfl
    · have p := pop_dec v h6 (by omega)
      rw [if_neg e, bl_e, bl_e, b_dec v h6 (by omega), nI_add, ih _ (by omega) (by omega) g (x + 1) (by omega), ← p.1, show x + 1 + pop (v &&& (v - 1)) = x + (pop (v &&& (v - 1)) + 1) by omega]
theorem M_bits {F v : Nat} (hF : 64 ≤ F) (hv : v < 64) (h : HS) : f_M_bits F (nI v) h = some (nI (pop v), h) := by
  rw [f_M_bits, bl_e, bl_e, M_bitsL h v v (Nat.le_refl _) hv F 0 (by omega), Nat.zero_add]
theorem nI_pow (D : Nat) (hD : D ≤ 6) : (nI 1 <<< (nI D &&& 31)) - nI 1 = nI (2 ^ D - 1) := by
  rw [bit_sl D (by omega), nI_sb (Nat.two_pow_pos _)]
theorem fr_val : ∀ D, D < 7 → ∀ a, a < 64 → (nI (2 ^ D - 1) &&& (nI a ^^^ (-1 : Int32))) = nI ((2 ^ D - 1) &&& (63 - a)) := by decide +kernel
theorem fr_ok : ∀ D, D < 7 → ∀ a, a < 64 → ∀ s, s < 64 → ((nI s &&& (nI ((2 ^ D - 1) &&& (63 - a)) ^^^ (-1 : Int32))) = 0 ↔ (s < 2 ^ D ∧ s &&& a = 0)) := by decide +kernel
theorem fr_big {j m : Nat} (hj : j < 2147483648) (hm : m < 64) (h : (nI j &&& (nI m ^^^ (-1 : Int32))) = 0) : j < 64 := by
  rcases Nat.lt_or_ge j 64 with q | q
  · exact q
  · exfalso
    have e1 : (nI m ^^^ (-1 : Int32)).toBitVec.toNat = 2 ^ 32 - (m + 1) := by
      have : ∀ m, m < 64 → (nI m ^^^ (-1 : Int32)).toBitVec.toNat = 2 ^ 32 - (m + 1) := by decide +kernel
      exact this m hm
    have e2 : (nI j).toBitVec.toNat = j := by
      show (BitVec.ofNat 32 j).toNat = j
      rw [BitVec.toNat_ofNat]
      exact Nat.mod_eq_of_lt (by omega)
    have e3 : j &&& (2 ^ 32 - (m + 1)) = 0 := by
      have := congrArg (fun x : Int32 => x.toBitVec.toNat) h
      simp only [Int32.toBitVec_and, BitVec.toNat_and] at this
      rw [e1, e2] at this
      exact this
    obtain ⟨i, hi, hb⟩ := Nat.exists_ge_and_testBit_of_ge_two_pow (n := 6) (x := j) (by omega)
    have hi32 : i < 32 := testBit_lt (n := 32) (by omega) hb
    have e4 := congrArg (fun x => x.testBit i) e3
    simp only [Nat.testBit_and, hb, Bool.true_and, Nat.zero_testBit] at e4
    rw [Nat.testBit_two_pow_sub_succ (by omega)] at e4
    have e5 : m.testBit i = false := Nat.testBit_lt_two_pow (Nat.lt_of_lt_of_le hm (Nat.pow_le_pow_right (n := 2) (by omega) hi))
    simp [hi32, e5] at e4
/-- a set of deeds of the plan, none of them done for c -/
def freeB (P : Pl) (A : Ab) (c s : Nat) : Bool := decide (s < 2 ^ P 0 4 ∧ s &&& A.1 3 c = 0)
theorem M_free {P : Pl} {A : Ab} {h : HS} (W : WF P A) (R : MR P A h) {c : Nat} (hc : c < P 0 3) : f_M_free (nI c) h = some (nI ((2 ^ P 0 4 - 1) &&& (63 - A.1 3 c)), h) := by
  obtain ⟨⟨wN, wNM, wM, wCo, w3, w4, w5, wC, wD, wK⟩, wAc, wAk, wAw, wAf⟩ := id W
  have h64 := p64 w4
  have h1 := (wAc c hc).2.1
  simp (disch := omega) only [f_M_free, bl_e, bnd_s, nI_add, nI_mul, ifin, nI_clamp, rZ0, rZ1, rZb, ite_eqN, ite_eq0, ite_ne0, ite_leN, ite_ltN, ite_lt0, ite_le0, ite_ge0, ite_gt0, ite_b0, ite_bn0, m_1 R, m_had R hc]
  rw [nI_pow _ w4, fr_val _ (by omega) _ (by omega)]
theorem M_areFree {P : Pl} {A : Ab} {h : HS} (W : WF P A) (R : MR P A h) {c : Nat} (hc : c < P 0 3) (x : Int32) : f_M_areFree (nI c) x h = some (bI (inb x 64 && freeB P A c x.toNatClampNeg), h) := by
  obtain ⟨⟨wN, wNM, wM, wCo, w3, w4, w5, wC, wD, wK⟩, wAc, wAk, wAw, wAf⟩ := id W
  have h64 := p64 w4
  have h1 := (wAc c hc).2.1
  have hm : (2 ^ P 0 4 - 1) &&& (63 - A.1 3 c) < 64 := Nat.lt_of_le_of_lt Nat.and_le_left (by omega)
  rw [f_M_areFree, M_isCause w3 R, bnd_s, ite_b0, inb_nI (by omega), decide_eq_true hc, if_pos rfl, M_free W R hc, bnd_s, rZ0, rZ1]
  by_cases hx : x < 0
  · have : inb x 64 = false := by simp [inb, hx]
    rw [if_pos hx, this]
    rfl
  · obtain ⟨j, hj, rfl⟩ := nI_of hx
    rw [if_neg hx, nI_clamp hj, inb_nI (by omega)]
    by_cases q : j < 64
    · have := fr_ok (P 0 4) (by omega) (A.1 3 c) (by omega) j q
      unfold freeB
      by_cases z : j < 2 ^ P 0 4 ∧ j &&& A.1 3 c = 0
      · rw [if_pos (this.mpr z), decide_eq_true q, decide_eq_true z]
        rfl
      · rw [if_neg (fun y => z (this.mp y)), decide_eq_true q, decide_eq_false z]
        rfl
    · rw [if_neg (fun y => q (fr_big hj hm y)), decide_eq_false q]
      rfl
theorem C_canStillDo {P : Pl} {A : Ab} {h : HS} (W : WF P A) (R : CR P A h) (Y : WYr P h) {c : Nat} (hc : c < P 0 3) (x : Int32) : f_Ways_canStillDo (nI c) x h = some (bI (inb x 64 && freeB P A c x.toNatClampNeg), h) := by
  obtain ⟨⟨wN, wNM, wM, wCo, w3, w4, w5, wC, wD, wK⟩, wAc, wAk, wAw, wAf⟩ := id W
  have h64 := p64 w4
  have h1 := (wAc c hc).2.1
  rw [f_Ways_canStillDo, Y.1, inb_i2 (by omega), C_ofCause w3 R hc (by omega), bnd_s, rZ0, rZ1]
  by_cases hx : inb x (2 ^ P 0 4) = true
  · obtain ⟨hk, ek⟩ := inb_ex hx
    generalize x.toNatClampNeg = j at hk ek
    subst ek
    rw [if_pos hx]
    simp only [rcC]
    rw [b_and j (by omega) _ (by omega), inb_nI (by omega), decide_eq_true (show j < 64 by omega)]
    have hl : j &&& A.1 3 c < 2147483648 := Nat.lt_of_le_of_lt Nat.and_le_left (by omega)
    rw [ite_eq0 hl]
    unfold freeB
    by_cases z : j &&& A.1 3 c = 0
    · rw [if_pos z, decide_eq_true ⟨hk, z⟩]
      rfl
    · rw [if_neg z, decide_eq_false (fun y => z y.2)]
      rfl
  · rw [if_neg hx]
    have : (inb x 64 && freeB P A c x.toNatClampNeg) = false := by
      cases h2 : inb x 64
      · rfl
      · obtain ⟨hk, ek⟩ := inb_ex h2
        unfold freeB
        rw [decide_eq_false]
        · rfl
        · rintro ⟨y, -⟩
          apply hx
          rw [ek, inb_nI (by omega)]
          exact decide_eq_true y
    rw [this]
    rfl
