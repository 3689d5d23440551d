/-! ===== TOKENS: a run of letters and digits on both sides ===== -/
theorem wb_tb (n : Nat) : (lN n).toBitVec = BitVec.ofNat 64 n := rfl
theorem wb_inj {a b : Int64} (h : a.toBitVec = b.toBitVec) : a = b := Int64.toBitVec_inj.mp h
theorem wb_c : ∀ k, k < 64 → ((nI k).toInt64 &&& 63) = lN k := by decide +kernel
theorem wb_sm : ∀ k, k < 64 → (BitVec.ofNat 64 k).smod 64 = BitVec.ofNat 64 k := by decide +kernel
theorem wb_shl (n : Nat) {k : Nat} (hk : k < 64) : lN n <<< ((nI k).toInt64 &&& 63) = lN (n * 2 ^ k) := by
  rw [wb_c k hk]
  apply wb_inj
  rw [Int64.toBitVec_shiftLeft, wb_tb, wb_tb, wb_tb, wb_sm k hk]
  apply BitVec.eq_of_toNat_eq
  rw [BitVec.shiftLeft_eq', BitVec.toNat_shiftLeft, BitVec.toNat_ofNat, BitVec.toNat_ofNat, BitVec.toNat_ofNat, Nat.mod_eq_of_lt (show k < 2 ^ 64 by omega), Nat.shiftLeft_eq, Nat.mul_mod, Nat.mod_mod, ← Nat.mul_mod]
theorem wb_or {a b : Nat} (ha : a < 2 ^ 64) (hb : b < 2 ^ 64) : lN a ||| lN b = lN (a ||| b) := by
  apply wb_inj
  rw [Int64.toBitVec_or, wb_tb, wb_tb, wb_tb]
  apply BitVec.eq_of_toNat_eq
  rw [BitVec.toNat_or, BitVec.toNat_ofNat, BitVec.toNat_ofNat, BitVec.toNat_ofNat, Nat.mod_eq_of_lt ha, Nat.mod_eq_of_lt hb, Nat.mod_eq_of_lt (Nat.or_lt_two_pow ha hb)]
theorem w_M {x b : Nat} (hx : x < 2 ^ 55) (hb : b < 256) : ((lN x) <<< (Int32.toInt64 (nI 8) &&& 63)) ||| (Int32.toInt64 (nI b)) = lN (x * 256 + b) := by
  rw [wb_shl x (by omega), nI_l (by omega), wb_or (by omega) (by omega)]
  have := Nat.two_pow_add_eq_or_of_lt (i := 8) (show b < 2 ^ 8 by omega) x
  rw [Nat.mul_comm x, ← this, Nat.mul_comm]
theorem w_C {w b : Nat} (hb : 97 ≤ b) (hb2 : b ≤ 122) : (lN w) * (32 : Int64) + (Int32.toInt64 ((nI b - nI 97) + nI 1)) = lN (w * 32 + (b - 96)) := by
  rw [nI_sb hb, nI_add, nI_l (by omega), show (32 : Int64) = lN 32 from rfl, lN_mul, lN_add, show b - 97 + 1 = b - 96 by omega]
theorem cv_0 : cv 0 = 0 := by rw [cv, if_pos rfl]
theorem cv_s {w c : Nat} (h1 : 1 ≤ c) (h2 : c < 32) : cv (w * 32 + c) = cv w * 256 + (c + 96) := by
  rw [cv, if_neg (by omega), show (w * 32 + c) / 32 = w by omega, show (w * 32 + c) % 32 = c by omega]
theorem cv_lt : ∀ (n w : Nat), w < 32 ^ n → cv w < 256 ^ n := by
  intro n
  induction n with
  | zero => intro w hw; rw [show w = 0 by omega, cv_0]; decide
  | succ n ih =>
    intro w hw
    rw [Nat.pow_succ] at hw ⊢
    rw [cv]
    have hp : 0 < 256 ^ n := Nat.pow_pos (by decide)
    split
    · omega
    · have := ih (w / 32) (by omega)
      omega
theorem cv_inj : ∀ (n a b : Nat), a ≤ n → cv a = cv b → a = b := by
  intro n
  induction n with
  | zero =>
    intro a b ha h
    rw [show a = 0 by omega, cv_0] at h
    rw [cv] at h
    split at h
    · omega
    · omega
  | succ n ih =>
    intro a b ha h
    rw [cv, cv.eq_1 b] at h
    by_cases x : a = 0
    · rw [if_pos x] at h
      split at h <;> omega
    · rw [if_neg x] at h
      by_cases y : b = 0
      · rw [if_pos y] at h
        omega
      · rw [if_neg y] at h
        have h1 : cv (a / 32) = cv (b / 32) := by omega
        have h2 := ih _ _ (by omega) h1
        omega
def smB (b : Nat) : Bool := decide (97 ≤ b ∧ b ≤ 122)
def dgB (b : Nat) : Bool := decide (48 ≤ b ∧ b ≤ 57)
theorem M_isSmall {b : Nat} (hb : b < 256) (h : HS) : f_M_isSmall (nI b) h = some (bI (smB b), h) := by
  rw [f_M_isSmall, ite_ltN (by omega) (by omega), ite_ltN (by omega) (by omega), rZ0, rZ1, smB]
  by_cases h1 : b < 97
  · rw [if_pos h1, decide_eq_false (by omega)]; rfl
  · rw [if_neg h1]
    by_cases h2 : 122 < b
    · rw [if_pos h2, decide_eq_false (by omega)]; rfl
    · rw [if_neg h2, decide_eq_true (by omega)]; rfl
theorem M_isDigit {b : Nat} (hb : b < 256) (h : HS) : f_M_isDigit (nI b) h = some (bI (dgB b), h) := by
  rw [f_M_isDigit, ite_ltN (by omega) (by omega), ite_ltN (by omega) (by omega), rZ0, rZ1, dgB]
  by_cases h1 : b < 48
  · rw [if_pos h1, decide_eq_false (by omega)]; rfl
  · rw [if_neg h1]
    by_cases h2 : 57 < b
    · rw [if_pos h2, decide_eq_false (by omega)]; rfl
    · rw [if_neg h2, decide_eq_true (by omega)]; rfl
theorem M_isSmallm (h : HS) : f_M_isSmall (-1) h = some (bI false, h) := by
  rw [f_M_isSmall, if_pos (by decide), rZ0]
  rfl
theorem M_isDigitm (h : HS) : f_M_isDigit (-1) h = some (bI false, h) := by
  rw [f_M_isDigit, if_pos (by decide), rZ0]
  rfl
/-- the bytes of the tape, as they stand on both sides -/
def BYn (n : Nat) (B : Nat → Nat) (hc hm : HS) : Prop := n ≤ 940 ∧ hc.1 1 1 = nI n ∧ hm.1 0 3 = nI n ∧ ∀ i, i < n → hc.1 2 i = hm.1 1 i ∧ (hm.1 1 i &&& nI 255) = nI (B i) ∧ B i < 256 ∧ ((B i < 128 ∧ hm.1 1 i = nI (B i)) ∨ (128 ≤ B i ∧ hm.1 1 i < 0))
theorem by_all : ∀ k, k < 256 → (Int8.toInt32 (Int8.ofNat k) &&& nI 255) = nI k ∧ ((k < 128 ∧ Int8.toInt32 (Int8.ofNat k) = nI k) ∨ (128 ≤ k ∧ Int8.toInt32 (Int8.ofNat k) < 0)) := by decide +kernel
theorem by_ex (x : Int8) : ∃ k, k < 256 ∧ (Int8.toInt32 x &&& nI 255) = nI k ∧ ((k < 128 ∧ Int8.toInt32 x = nI k) ∨ (128 ≤ k ∧ Int8.toInt32 x < 0)) := by
  have e : x = Int8.ofNat x.toBitVec.toNat := Int8.toBitVec_inj.mp (by
    apply BitVec.eq_of_toNat_eq
    show x.toBitVec.toNat = (BitVec.ofNat 8 x.toBitVec.toNat).toNat
    rw [BitVec.toNat_ofNat, Nat.mod_eq_of_lt x.toBitVec.isLt])
  have hl : x.toBitVec.toNat < 256 := x.toBitVec.isLt
  have := by_all _ hl
  rw [← e] at this
  exact ⟨_, hl, this⟩
theorem BYn_of {n : Nat} {hc hm : HS} (hn : n ≤ 940) (h1 : hc.1 1 1 = nI n) (h2 : hm.1 0 3 = nI n) (h3 : ∀ i, i < n → hc.1 2 i = hm.1 1 i ∧ ∃ x : Int8, hm.1 1 i = Int8.toInt32 x) : BYn n (fun i => (hm.1 1 i &&& nI 255).toNatClampNeg) hc hm := by
  refine ⟨hn, h1, h2, fun i hi => ?_⟩
  obtain ⟨e, x, ex⟩ := h3 i hi
  obtain ⟨k, k1, k2, k3⟩ := by_ex x
  have e2 : (hm.1 1 i &&& nI 255).toNatClampNeg = k := by rw [ex, k2, nI_clamp (by omega)]
  refine ⟨e, ?_⟩
  show _ = nI ((hm.1 1 i &&& nI 255).toNatClampNeg) ∧ (hm.1 1 i &&& nI 255).toNatClampNeg < 256 ∧ (((hm.1 1 i &&& nI 255).toNatClampNeg < 128 ∧ _ = nI ((hm.1 1 i &&& nI 255).toNatClampNeg)) ∨ (128 ≤ (hm.1 1 i &&& nI 255).toNatClampNeg ∧ _))
  rw [e2, ex]
  exact ⟨k2, k1, k3⟩
theorem BYn_fr {n : Nat} {B : Nat → Nat} {hc hm hc2 hm2 : HS} (q : BYn n B hc hm) (c1 : hc2.1 1 1 = hc.1 1 1) (c2 : hc2.1 2 = hc.1 2) (m1 : hm2.1 0 3 = hm.1 0 3) (m2 : hm2.1 1 = hm.1 1) : BYn n B hc2 hm2 := by
  unfold BYn
  rw [c1, c2, m1, m2]
  exact q
theorem M_peek {n p : Nat} {B : Nat → Nat} {hc hm : HS} (q : BYn n B hc hm) (hp : hm.1 0 4 = nI p) (hpn : p ≤ n) : f_M_peek hm = some (if p < n then nI (B p) else -1, hm) := by
  obtain ⟨q0, -, q2, q3⟩ := q
  rw [f_M_peek, q2, hp, ite_leN (by omega) (by omega)]
  by_cases z : p < n
  · rw [if_neg (by omega), if_pos z, ifin (by omega) (by omega), nI_clamp (by omega), (q3 p z).2.1]
  · rw [if_pos (by omega), if_neg z]
/-! one byte of a run -/
theorem neg_lt {x : Int32} {n : Nat} (h : x < 0) (hn : n < 2147483648) (h0 : 0 < n) : x < nI n := Int32.lt_trans h (by rw [nI_zero]; exact (nI_ltI (by decide) hn).mpr h0)
theorem C_run1 {n q L D : Nat} {B : Nat → Nat} {hc hm : HS} {F : Nat} {K : Int32 → Int32 → HS → Option (Unit × HS)} (Y : BYn n B hc hm) (hq : hc.1 1 3 = nI q) (hqn : q < n) (g : Nat) : l_Tape_readRun_0 F K (g + 1) (nI L) (nI D) hc = if smB (B q) = true then l_Tape_readRun_0 F K g (nI (L + 1)) (nI D) (sI (sL hc 1 6 (((hc.2 1 6) * (32 : Int64)) + (Int32.toInt64 ((nI (B q) - (nI 97)) + (nI 1))))) 1 3 (nI (q + 1))) else (if dgB (B q) = true then l_Tape_readRun_0 F K g (nI L) (nI (D + 1)) (sI (sI hc 1 7 (((hc.1 1 7) * (nI 10)) + (nI (B q) - (nI 48)))) 1 3 (nI (q + 1))) else K (nI L) (nI D) hc) := by
  obtain ⟨y0, y1, y2, y3⟩ := Y
  obtain ⟨z1, z2, z3, z4⟩ := y3 q hqn
  rw [l_Tape_readRun_0, y1, hq, ite_leN (by omega) (by omega), if_neg (by omega), ite_leN (by omega) (by omega), if_neg (by omega), ifin (by omega) (by omega), nI_clamp (by omega), z1]
  dsimp only [bl]
  rw [sI_n (show (3 : Nat) ≠ 7 by decide), sL_1, hq, nI_add, nI_add, nI_add]
  rcases z4 with ⟨a1, a2⟩ | ⟨a1, a2⟩
  · rw [a2, ite_ltN (by omega) (by omega), ite_ltN (by omega) (by omega), ite_ltN (by omega) (by omega), ite_ltN (by omega) (by omega)]
    by_cases s1 : 97 ≤ B q ∧ B q ≤ 122
    · rw [if_neg (show ¬ B q < 97 by omega), if_neg (show ¬ 122 < B q by omega), if_pos (show smB (B q) = true from decide_eq_true s1)]
    · have e1 : ¬ smB (B q) = true := fun h => s1 (of_decide_eq_true h)
      have e2 : ∀ (X Z : Option (Unit × HS)), (if B q < 97 then X else if 122 < B q then X else Z) = X := fun X Z => by
        by_cases h : B q < 97
        · rw [if_pos h]
        · rw [if_neg h, if_pos (by omega)]
      rw [if_neg e1, e2]
      by_cases s2 : 48 ≤ B q ∧ B q ≤ 57
      · rw [if_neg (show ¬ B q < 48 by omega), if_neg (show ¬ 57 < B q by omega), if_pos (show dgB (B q) = true from decide_eq_true s2)]
      · rw [if_neg (show ¬ dgB (B q) = true from fun h => s2 (of_decide_eq_true h))]
        by_cases h : B q < 48
        · rw [if_pos h]
        · rw [if_neg h, if_pos (by omega)]
  · rw [if_pos (neg_lt a2 (by decide) (by decide)), if_pos (neg_lt a2 (by decide) (by decide)), if_neg (show ¬ smB (B q) = true from fun h => by have := of_decide_eq_true h; omega), if_neg (show ¬ dgB (B q) = true from fun h => by have := of_decide_eq_true h; omega)]
theorem C_run0 {n q L D : Nat} {B : Nat → Nat} {hc hm : HS} {F : Nat} {K : Int32 → Int32 → HS → Option (Unit × HS)} (Y : BYn n B hc hm) (hq : hc.1 1 3 = nI q) (hqn : q = n) (g : Nat) : l_Tape_readRun_0 F K (g + 1) (nI L) (nI D) hc = K (nI L) (nI D) hc := by
  obtain ⟨y0, y1, y2, y3⟩ := Y
  rw [l_Tape_readRun_0, y1, hq, ite_leN (by omega) (by omega), if_pos (by omega)]
/-! the reference's run, in pieces -/
def nxC (F : Nat) (x2 : Int32) (K : Int32 → HS → Option (Unit × HS)) (g : Nat) (v : Int32) (h : HS) : Option (Unit × HS) := l_M_next_1 F x2 K g v (sI (sI h 0 13 (h.1 0 13 + nI 1)) 0 4 ((sI h 0 13 (h.1 0 13 + nI 1)).1 0 4 + nI 1))
def nxB (F : Nat) (x2 : Int32) (K : Int32 → HS → Option (Unit × HS)) (g : Nat) (v : Int32) (h : HS) : Option (Unit × HS) := if nI 3 ≤ h.1 0 13 then nxC F x2 K g v h else bnd (f_M_peek h) (fun r h2 => nxC F x2 K g v (sI h2 0 14 ((((nI 10) * (h.1 0 14)) + r) - (nI 48))))
def nxA (F : Nat) (x2 : Int32) (K : Int32 → HS → Option (Unit × HS)) (g : Nat) (v : Int32) (h : HS) : Option (Unit × HS) := if nI 7 ≤ h.1 0 13 then nxB F x2 K g v h else bnd (f_M_peek h) (fun r h2 => nxB F x2 K g v (sL h2 0 17 (((h.2 0 17) <<< (Int32.toInt64 (nI 8) &&& 63)) ||| (Int32.toInt64 r))))
def nxD (F : Nat) (x2 : Int32) (K : Int32 → HS → Option (Unit × HS)) (g : Nat) (x3 : Int32) (h : HS) : Option (Unit × HS) := if x3 = 0 then nxA F x2 K g (nI 0) h else bnd (f_M_peek h) (fun r h2 => bnd (f_M_isSmall r h2) (fun r2 h3 => if r2 = x2 then nxA F x2 K g (nI 1) h3 else nxA F x2 K g (nI 0) h3))
theorem nx_e (F : Nat) (x2 : Int32) (K : Int32 → HS → Option (Unit × HS)) (g : Nat) (x3 : Int32) (h : HS) : l_M_next_1 F x2 K (g + 1) x3 h = bnd (f_M_peek h) (fun r27 h26 => bnd (f_M_isSmall r27 h26) (fun r29 h28 => if r29 = 0 then bnd (f_M_peek h28) (fun r55 h54 => bnd (f_M_isDigit r55 h54) (fun r57 h56 => if r57 = 0 then K x3 h56 else nxD F x2 K g x3 h56)) else nxD F x2 K g x3 h28)) := rfl
theorem M_run1 {n q p : Nat} {B : Nat → Nat} {hc hm : HS} {F : Nat} (f al : Bool) (Y : BYn n B hc hm) (hq : hm.1 0 4 = nI q) (hqn : q < n) (hs : hm.1 0 13 = nI p) (hp : p < 1000) (hB : smB (B q) = true ∨ dgB (B q) = true) : ∃ hm2, (∀ K g, l_M_next_1 F (bI f) K (g + 1) (bI al) hm = l_M_next_1 F (bI f) K g (bI (al && (smB (B q) == f))) hm2) ∧ hm2.1 0 13 = nI (p + 1) ∧ hm2.1 0 4 = nI (q + 1) ∧ (p < 7 → hm2.2 0 17 = ((hm.2 0 17) <<< (Int32.toInt64 (nI 8) &&& 63)) ||| (Int32.toInt64 (nI (B q)))) ∧ (p < 3 → hm2.1 0 14 = (((nI 10) * (hm.1 0 14)) + nI (B q)) - (nI 48)) ∧ Fr [0] hm hm2 ∧ F0r [4, 13, 14] hm hm2 := by
  have hb := (Y.2.2.2 q hqn).2.2.1
  have P0 := M_peek Y hq (by omega)
  rw [if_pos hqn] at P0
  have eD : ∀ K g, l_M_next_1 F (bI f) K (g + 1) (bI al) hm = nxA F (bI f) K g (bI (al && (smB (B q) == f))) hm := fun K g => by
    have e1 : nxD F (bI f) K g (bI al) hm = nxA F (bI f) K g (bI (al && (smB (B q) == f))) hm := by
      unfold nxD
      rw [ite_b0, P0, bnd_s, M_isSmall hb, bnd_s, bI_eq]
      cases al
      · rfl
      · cases smB (B q) <;> cases f <;> rfl
    rw [nx_e, P0, bnd_s, M_isSmall hb, bnd_s, ite_b0, e1, P0, bnd_s, M_isDigit hb, bnd_s, ite_b0]
    by_cases z : smB (B q) = true
    · rw [if_pos z]
    · rw [if_neg z, if_pos (hB.resolve_left z)]
      exact e1
  have eC : ∀ (h : HS), h.1 0 13 = nI p → h.1 0 4 = nI q → ∀ K g v, nxC F (bI f) K g v h = l_M_next_1 F (bI f) K g v (sI (sI h 0 13 (nI (p + 1))) 0 4 (nI (q + 1))) := fun h h1 h2 K g v => by
    unfold nxC
    rw [sI_n (by decide), h1, h2, nI_add, nI_add]
  have fr : ∀ (h : HS), Fr [0] h (sI (sI h 0 13 (nI (p + 1))) 0 4 (nI (q + 1))) ∧ F0r [4, 13, 14] h (sI (sI h 0 13 (nI (p + 1))) 0 4 (nI (q + 1))) := fun h => ⟨Fr_t (Fr_sI (by decide)) (Fr_sI (by decide)), F0r_t (F0r_sI (by decide)) (F0r_sI (by decide))⟩
  by_cases z3 : p < 3
  · have ha : (sL hm 0 17 (((hm.2 0 17) <<< (Int32.toInt64 (nI 8) &&& 63)) ||| (Int32.toInt64 (nI (B q))))).1 = hm.1 := rfl
    generalize hA : sL hm 0 17 (((hm.2 0 17) <<< (Int32.toInt64 (nI 8) &&& 63)) ||| (Int32.toInt64 (nI (B q)))) = hmA at ha
    have YA : BYn n B hc hmA := BYn_fr Y rfl rfl (by rw [ha]) (by rw [ha])
    have PA := M_peek YA (show hmA.1 0 4 = nI q by rw [ha, hq]) (by omega)
    rw [if_pos hqn] at PA
    have e2 : hmA.2 0 17 = ((hm.2 0 17) <<< (Int32.toInt64 (nI 8) &&& 63)) ||| (Int32.toInt64 (nI (B q))) := by rw [← hA, sL_e]
    have fA : Fr [0] hm hmA := fun a ha' => ⟨by rw [ha], by rw [← hA, sL_o (fun e => ha' (by rw [e]; decide))]⟩
    have f0A : F0r [4, 13, 14] hm hmA := fun k _ => by rw [ha]
    obtain ⟨f1, f2⟩ := fr (sI hmA 0 14 ((((nI 10) * (hmA.1 0 14)) + nI (B q)) - (nI 48)))
    refine ⟨_, fun K g => ?_, ?_, sI_e, fun _ => ?_, fun _ => ?_, Fr_t fA (Fr_t (Fr_sI (by decide)) f1), F0r_t f0A (F0r_t (F0r_sI (by decide)) f2)⟩
    · rw [eD, nxA, hs, ite_leN (by omega) (by omega), if_neg (by omega), P0, bnd_s, hA, nxB, ha, hs, ite_leN (by omega) (by omega), if_neg (by omega), PA, bnd_s, ← ha, eC _ (by rw [sI_n (by decide), ha, hs]) (by rw [sI_n (by decide), ha, hq])]
    · rw [sI_n (by decide), sI_e]
    · rw [sI_2, sI_2, sI_2, e2]
    · rw [sI_n (by decide), sI_n (by decide), sI_e, ha]
  · by_cases z7 : p < 7
    · have ha : (sL hm 0 17 (((hm.2 0 17) <<< (Int32.toInt64 (nI 8) &&& 63)) ||| (Int32.toInt64 (nI (B q))))).1 = hm.1 := rfl
      generalize hA : sL hm 0 17 (((hm.2 0 17) <<< (Int32.toInt64 (nI 8) &&& 63)) ||| (Int32.toInt64 (nI (B q)))) = hmA at ha
      have e2 : hmA.2 0 17 = ((hm.2 0 17) <<< (Int32.toInt64 (nI 8) &&& 63)) ||| (Int32.toInt64 (nI (B q))) := by rw [← hA, sL_e]
      have fA : Fr [0] hm hmA := fun a ha' => ⟨by rw [ha], by rw [← hA, sL_o (fun e => ha' (by rw [e]; decide))]⟩
      have f0A : F0r [4, 13, 14] hm hmA := fun k _ => by rw [ha]
      obtain ⟨f1, f2⟩ := fr hmA
      refine ⟨_, fun K g => ?_, ?_, sI_e, fun _ => ?_, fun h => absurd h z3, Fr_t fA f1, F0r_t f0A f2⟩
      · rw [eD, nxA, hs, ite_leN (by omega) (by omega), if_neg (by omega), P0, bnd_s, hA, nxB, ha, hs, ite_leN (by omega) (by omega), if_pos (by omega), eC _ (by rw [ha, hs]) (by rw [ha, hq])]
      · rw [sI_n (by decide), sI_e]
      · rw [sI_2, sI_2, e2]
    · obtain ⟨f1, f2⟩ := fr hm
      refine ⟨_, fun K g => ?_, ?_, sI_e, fun h => absurd h z7, fun h => absurd h z3, f1, f2⟩
      · rw [eD, nxA, hs, ite_leN (by omega) (by omega), if_pos (by omega), nxB, hs, ite_leN (by omega) (by omega), if_pos (by omega), eC _ hs hq]
      · rw [sI_n (by decide), sI_e]
theorem M_run0 {n q : Nat} {B : Nat → Nat} {hc hm : HS} {F : Nat} {x2 x3 : Int32} {K : Int32 → HS → Option (Unit × HS)} (Y : BYn n B hc hm) (hq : hm.1 0 4 = nI q) (hqn : q ≤ n) (hB : q = n ∨ (smB (B q) = false ∧ dgB (B q) = false)) (g : Nat) : l_M_next_1 F x2 K (g + 1) x3 hm = K x3 hm := by
  have P0 := M_peek Y hq hqn
  by_cases z : q < n
  · have hb := (Y.2.2.2 q z).2.2.1
    have hB2 := hB.resolve_left (by omega)
    rw [if_pos z] at P0
    rw [nx_e, P0, bnd_s, M_isSmall hb, bnd_s, hB2.1, if_pos (show bI false = 0 from rfl), P0, bnd_s, M_isDigit hb, bnd_s, hB2.2, if_pos (show bI false = 0 from rfl)]
  · rw [if_neg z] at P0
    rw [nx_e, P0, bnd_s, M_isSmallm, bnd_s, if_pos (show bI false = 0 from rfl), P0, bnd_s, M_isDigitm, bnd_s, if_pos (show bI false = 0 from rfl)]
/-- what a run has come to: L letters, D digits -/
def RUN (q L D : Nat) (hc hm : HS) : Prop := hc.1 1 3 = nI q ∧ hm.1 0 4 = nI q ∧ hm.1 0 13 = nI (L + D) ∧ (D = 0 → L ≤ 7 → ∃ w, w < 32 ^ L ∧ hc.2 1 6 = lN w ∧ hm.2 0 17 = lN (cv w)) ∧ (L = 0 → D ≤ 3 → ∃ v, v < 10 ^ D ∧ hc.1 1 7 = nI v ∧ hm.1 0 14 = nI v)
def alB (f : Bool) (L D : Nat) : Bool := if f = true then decide (D = 0) else decide (L = 0)
def F1r (S : List Nat) (h h' : HS) : Prop := ∀ k, k ∉ S → h'.1 1 k = h.1 1 k
theorem F1r_t {S : List Nat} {h h1 h2 : HS} (a : F1r S h h1) (b : F1r S h1 h2) : F1r S h h2 := fun x hx => (b x hx).trans (a x hx)
theorem F1r_sI {S : List Nat} {h : HS} {k : Nat} {v : Int32} (hk : k ∈ S) : F1r S h (sI h 1 k v) := fun x hx => sI_n (fun e => hx (e ▸ hk))
theorem F1r_sL {S : List Nat} {h : HS} {i k : Nat} {v : Int64} : F1r S h (sL h i k v) := fun _ _ => rfl
theorem F1r_rf {S : List Nat} {h : HS} : F1r S h h := fun _ _ => rfl
theorem Fr_sL {S : List Nat} {h : HS} {i k : Nat} {v : Int64} (hi : i ∈ S) : Fr S h (sL h i k v) := fun a ha => ⟨rfl, sL_o (fun e => ha (e ▸ hi))⟩
theorem RUN_go {n : Nat} {B : Nat → Nat} {F : Nat} (f : Bool) : ∀ (j q L D : Nat) (hc hm : HS), q + j = n → L + D ≤ q → BYn n B hc hm → RUN q L D hc hm → ∃ q2 L2 D2 hc2 hm2, q ≤ q2 ∧ q2 ≤ n ∧ L ≤ L2 ∧ D ≤ D2 ∧ L2 + D2 + q = L + D + q2 ∧ (∀ i, q ≤ i → i < q2 → smB (B i) = true ∨ dgB (B i) = true) ∧ (q < n → (smB (B q) = true → L < L2) ∧ (dgB (B q) = true → D < D2)) ∧ RUN q2 L2 D2 hc2 hm2 ∧ BYn n B hc2 hm2 ∧ (∀ K g, j < g → l_Tape_readRun_0 F K g (nI L) (nI D) hc = K (nI L2) (nI D2) hc2) ∧ (∀ K g, j < g → l_M_next_1 F (bI f) K g (bI (alB f L D)) hm = K (bI (alB f L2 D2)) hm2) ∧ Fr [1] hc hc2 ∧ F1r [3, 7] hc hc2 ∧ Fr [0] hm hm2 ∧ F0r [4, 13, 14] hm hm2 := by
  intro j
  induction j with
  | zero =>
    intro q L D hc hm hq hl Y R
    obtain ⟨r1, r2, -⟩ := id R
    refine ⟨q, L, D, hc, hm, Nat.le_refl _, by omega, Nat.le_refl _, Nat.le_refl _, rfl, fun i h1 h2 => by omega, fun h => by omega, R, Y, fun K g hg => ?_, fun K g hg => ?_, Fr_rf, F1r_rf, Fr_rf, F0r_rf⟩
    · obtain ⟨g, rfl⟩ : ∃ z, g = z + 1 := ⟨g - 1, by omega⟩
      exact C_run0 Y r1 (by omega) g
    · obtain ⟨g, rfl⟩ : ∃ z, g = z + 1 := ⟨g - 1, by omega⟩
      exact M_run0 Y r2 (by omega) (Or.inl (by omega)) g
  | succ j ih =>
    intro q L D hc hm hq hl Y R
    obtain ⟨r1, r2, r3, r4, r5⟩ := id R
    have y0 := Y.1
    by_cases s1 : smB (B q) = true
    · have s2 : ¬ dgB (B q) = true := fun h => by
        have h1 := of_decide_eq_true s1
        have h2 := of_decide_eq_true h
        omega
      have hb := of_decide_eq_true s1
      obtain ⟨hm1, a1, a2, a3, a4, a5, a6, a7⟩ := M_run1 (F := F) f (alB f L D) Y r2 (by omega) r3 (by omega) (Or.inl s1)
      have fc : Fr [1] hc (sI (sL hc 1 6 (((hc.2 1 6) * (32 : Int64)) + (Int32.toInt64 ((nI (B q) - (nI 97)) + (nI 1))))) 1 3 (nI (q + 1))) := Fr_t (Fr_sL (by decide)) (Fr_sI (by decide))
      have f1 : F1r [3, 7] hc (sI (sL hc 1 6 (((hc.2 1 6) * (32 : Int64)) + (Int32.toInt64 ((nI (B q) - (nI 97)) + (nI 1))))) 1 3 (nI (q + 1))) := F1r_t F1r_sL (F1r_sI (by decide))
      have Y1 := BYn_fr Y (f1 1 (by decide)) (fc 2 (by decide)).1 (a7 3 (by decide)) (a6 1 (by decide)).1
      have R1 : RUN (q + 1) (L + 1) D (sI (sL hc 1 6 (((hc.2 1 6) * (32 : Int64)) + (Int32.toInt64 ((nI (B q) - (nI 97)) + (nI 1))))) 1 3 (nI (q + 1))) hm1 := by
        refine ⟨sI_e, a3, by rw [a2]; congr 1; omega, fun hD hL => ?_, fun hL => by omega⟩
        obtain ⟨w, w1, w2, w3⟩ := r4 hD (by omega)
        have w4 := cv_lt L w w1
        have w5 : 256 ^ L ≤ 256 ^ 6 := Nat.pow_le_pow_right (by decide) (by omega)
        refine ⟨w * 32 + (B q - 96), by rw [Nat.pow_succ]; omega, ?_, ?_⟩
        · rw [sI_2, sL_e, w2, w_C hb.1 hb.2]
        · rw [a4 (by omega), w3, w_M (by omega) (by omega), cv_s (by omega) (by omega), show B q - 96 + 96 = B q by omega]
      obtain ⟨q2, L2, D2, hc2, hm2, b1, b2, b3, b4, b5, b6, -, b8, b9, b10, b11, b12, b13, b14, b15⟩ := ih (q + 1) (L + 1) D _ hm1 (by omega) (by omega) Y1 R1
      refine ⟨q2, L2, D2, hc2, hm2, by omega, b2, by omega, b4, by omega, fun i h1 h2 => ?_, fun _ => ⟨fun _ => by omega, fun h => absurd h s2⟩, b8, b9, fun K g hg => ?_, fun K g hg => ?_, Fr_t fc b12, F1r_t f1 b13, Fr_t a6 b14, F0r_t a7 b15⟩
      · by_cases e : i = q
        · rw [e]; exact Or.inl s1
        · exact b6 i (by omega) h2
      · obtain ⟨g, rfl⟩ : ∃ z, g = z + 1 := ⟨g - 1, by omega⟩
        rw [C_run1 Y r1 (by omega), if_pos s1, b10 K g (by omega)]
      · obtain ⟨g, rfl⟩ : ∃ z, g = z + 1 := ⟨g - 1, by omega⟩
        have e : (alB f L D && (smB (B q) == f)) = alB f (L + 1) D := by
          rw [s1]
          cases f
          · show (decide (L = 0) && false) = decide (L + 1 = 0)
            rw [Bool.and_false, decide_eq_false (by omega)]
          · show (decide (D = 0) && true) = decide (D = 0)
            rw [Bool.and_true]
        rw [a1, e, b11 K g (by omega)]
    · by_cases s2 : dgB (B q) = true
      · have hb := of_decide_eq_true s2
        obtain ⟨hm1, a1, a2, a3, a4, a5, a6, a7⟩ := M_run1 (F := F) f (alB f L D) Y r2 (by omega) r3 (by omega) (Or.inr s2)
        have fc : Fr [1] hc (sI (sI hc 1 7 (((hc.1 1 7) * (nI 10)) + (nI (B q) - (nI 48)))) 1 3 (nI (q + 1))) := Fr_t (Fr_sI (by decide)) (Fr_sI (by decide))
        have f1 : F1r [3, 7] hc (sI (sI hc 1 7 (((hc.1 1 7) * (nI 10)) + (nI (B q) - (nI 48)))) 1 3 (nI (q + 1))) := F1r_t (F1r_sI (by decide)) (F1r_sI (by decide))
        have Y1 := BYn_fr Y (f1 1 (by decide)) (fc 2 (by decide)).1 (a7 3 (by decide)) (a6 1 (by decide)).1
        have R1 : RUN (q + 1) L (D + 1) (sI (sI hc 1 7 (((hc.1 1 7) * (nI 10)) + (nI (B q) - (nI 48)))) 1 3 (nI (q + 1))) hm1 := by
          refine ⟨sI_e, a3, by rw [a2, Nat.add_assoc], fun hD => by omega, fun hL hD => ?_⟩
          obtain ⟨w, w1, w2, w3⟩ := r5 hL (by omega)
          have w5 : 10 ^ D ≤ 10 ^ 2 := Nat.pow_le_pow_right (by decide) (by omega)
          refine ⟨w * 10 + (B q - 48), by rw [Nat.pow_succ]; omega, ?_, ?_⟩
          · rw [sI_n (by decide), sI_e, w2, nI_mul, nI_sb (by omega), nI_add]
          · rw [a5 (by omega), w3, nI_mul, nI_add, nI_sb (by omega)]
            congr 1
            omega
        obtain ⟨q2, L2, D2, hc2, hm2, b1, b2, b3, b4, b5, b6, -, b8, b9, b10, b11, b12, b13, b14, b15⟩ := ih (q + 1) L (D + 1) _ hm1 (by omega) (by omega) Y1 R1
        refine ⟨q2, L2, D2, hc2, hm2, by omega, b2, b3, by omega, by omega, fun i h1 h2 => ?_, fun _ => ⟨fun h => absurd h s1, fun _ => by omega⟩, b8, b9, fun K g hg => ?_, fun K g hg => ?_, Fr_t fc b12, F1r_t f1 b13, Fr_t a6 b14, F0r_t a7 b15⟩
        · by_cases e : i = q
          · rw [e]; exact Or.inr s2
          · exact b6 i (by omega) h2
        · obtain ⟨g, rfl⟩ : ∃ z, g = z + 1 := ⟨g - 1, by omega⟩
          rw [C_run1 Y r1 (by omega), if_neg s1, if_pos s2, b10 K g (by omega)]
        · obtain ⟨g, rfl⟩ : ∃ z, g = z + 1 := ⟨g - 1, by omega⟩
          have e : (alB f L D && (smB (B q) == f)) = alB f L (D + 1) := by
            rw [show smB (B q) = false by simpa using s1]
            cases f
            · show (decide (L = 0) && true) = decide (L = 0)
              rw [Bool.and_true]
            · show (decide (D = 0) && false) = decide (D + 1 = 0)
              rw [Bool.and_false, decide_eq_false (by omega)]
          rw [a1, e, b11 K g (by omega)]
      · refine ⟨q, L, D, hc, hm, Nat.le_refl _, by omega, Nat.le_refl _, Nat.le_refl _, rfl, fun i h1 h2 => by omega, fun _ => ⟨fun h => absurd h s1, fun h => absurd h s2⟩, R, Y, fun K g hg => ?_, fun K g hg => ?_, Fr_rf, F1r_rf, Fr_rf, F0r_rf⟩
        · obtain ⟨g, rfl⟩ : ∃ z, g = z + 1 := ⟨g - 1, by omega⟩
          rw [C_run1 Y r1 (by omega), if_neg s1, if_neg s2]
        · obtain ⟨g, rfl⟩ : ∃ z, g = z + 1 := ⟨g - 1, by omega⟩
          exact M_run0 Y r2 (by omega) (Or.inr ⟨by simpa using s1, by simpa using s2⟩) g
