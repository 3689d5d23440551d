/-! ===== what may be said ===== -/
theorem i_ext {x y : Int32} (h : ∀ i, i < 32 → xb x i = xb y i) : x = y := Int32.toBitVec_inj.mp (BitVec.eq_of_getLsbD_eq h)
theorem xb_land (x y : Int32) (i : Nat) : xb (x &&& y) i = (xb x i && xb y i) := by
  unfold xb
  rw [Int32.toBitVec_and, BitVec.getLsbD_and]
theorem xb_lor (x y : Int32) (i : Nat) : xb (x ||| y) i = (xb x i || xb y i) := by
  unfold xb
  rw [Int32.toBitVec_or, BitVec.getLsbD_or]
theorem xb_lxor (x y : Int32) (i : Nat) : xb (x ^^^ y) i = (xb x i ^^ xb y i) := by
  unfold xb
  rw [Int32.toBitVec_xor, BitVec.getLsbD_xor]
theorem xb_nI (n : Nat) {i : Nat} (hi : i < 32) : xb (nI n) i = n.testBit i := by
  show (BitVec.ofNat 32 n).getLsbD i = _
  rw [BitVec.getLsbD_ofNat, decide_eq_true hi, Bool.true_and]
theorem xb_0 {b : Nat} (hb : b < 2) (u : Nat) : xb (nI (b + 2 * u)) 0 = decide (b = 1) := by
  rw [xb_nI _ (by omega), Nat.testBit_zero]
  congr 1
  exact propext ⟨fun h => by omega, fun h => by omega⟩
theorem xb_S {b : Nat} (hb : b < 2) (u : Nat) {i : Nat} (hi : i + 1 < 32) : xb (nI (b + 2 * u)) (i + 1) = u.testBit i := by
  rw [xb_nI _ hi, Nat.testBit_succ, show (b + 2 * u) / 2 = u by omega]
theorem xb_m2 : ∀ i, i < 32 → xb (-2 : Int32) i = decide (0 < i) := by decide +kernel
theorem xb_lo {b : Nat} (hb : b < 2) : nI b = nI (b + 2 * 0) := rfl
theorem z_tb (i : Nat) : (0 : Nat).testBit i = false := Nat.zero_testBit i
theorem v_not {b u : Nat} (hb : b < 2) : nI (b + 2 * u) ^^^ nI 1 = nI ((1 - b) + 2 * u) := i_ext fun i hi => by
  rw [xb_lxor, xb_lo (show 1 < 2 by omega)]
  cases i with
  | zero =>
    rw [xb_0 hb, xb_0 (by omega), xb_0 (by omega)]
    rcases (show b = 0 ∨ b = 1 by omega) with e | e <;> subst e <;> rfl
  | succ i => rw [xb_S hb _ hi, xb_S (by omega) _ hi, xb_S (by omega) _ hi, z_tb, Bool.xor_false]
theorem v_and1 {b u : Nat} (hb : b < 2) : nI (b + 2 * u) &&& nI 1 = nI b := i_ext fun i hi => by
  rw [xb_land, xb_lo (show 1 < 2 by omega), xb_lo hb]
  cases i with
  | zero =>
    rw [xb_0 hb, xb_0 (by omega), xb_0 (by omega)]
    rcases (show b = 0 ∨ b = 1 by omega) with e | e <;> subst e <;> rfl
  | succ i => rw [xb_S hb _ hi, xb_S (by omega) _ hi, xb_S (by omega) _ hi, z_tb, Bool.and_false]
theorem v_shr {b u : Nat} (hb : b < 2) (hu : u < 2 ^ 24) : nI (b + 2 * u) >>> (nI 1 &&& 31) = nI u := i_ext fun i hi => by
  rw [xb_sshr 1 (by omega) _ hi, xb_nI u hi]
  by_cases h : 1 + i < 32
  · rw [if_pos h, Nat.add_comm 1 i, xb_S hb _ (by omega)]
  · rw [if_neg h, show (31 : Nat) = 30 + 1 from rfl, xb_S hb _ (by omega), Nat.testBit_lt_two_pow (Nat.lt_of_lt_of_le hu (by decide)), Nat.testBit_lt_two_pow (Nat.lt_of_lt_of_le hu (Nat.pow_le_pow_right (by omega) (by omega)))]
theorem v_and {b c u : Nat} (hb : b < 2) (hc : c < 2) : nI (c + 2 * u) &&& (nI b ||| (-2 : Int32)) = nI (b * c + 2 * u) := i_ext fun i hi => by
  have hm : b * c < 2 := by
    rcases (show b = 0 ∨ b = 1 by omega) with e | e <;> subst e <;> omega
  rw [xb_land, xb_lor, xb_m2 i hi, xb_lo hb]
  cases i with
  | zero =>
    rw [xb_0 hb, xb_0 hc, xb_0 hm]
    rcases (show b = 0 ∨ b = 1 by omega) with e | e <;> subst e <;> rcases (show c = 0 ∨ c = 1 by omega) with e | e <;> subst e <;> rfl
  | succ i => rw [xb_S hb _ hi, xb_S hc _ hi, xb_S hm _ hi, z_tb, decide_eq_true (Nat.succ_pos i), Bool.false_or, Bool.and_true]
def orN (b c : Nat) : Nat := if b = 0 then c else 1
theorem orN_lt {b c : Nat} (hc : c < 2) : orN b c < 2 := by
  unfold orN
  split
  · exact hc
  · omega
theorem v_or {b c u : Nat} (hb : b < 2) (hc : c < 2) : nI (c + 2 * u) ||| nI b = nI (orN b c + 2 * u) := i_ext fun i hi => by
  rw [xb_lor, xb_lo hb]
  cases i with
  | zero =>
    rw [xb_0 hb, xb_0 hc, xb_0 (orN_lt hc)]
    rcases (show b = 0 ∨ b = 1 by omega) with e | e <;> subst e <;> rcases (show c = 0 ∨ c = 1 by omega) with e | e <;> subst e <;> rfl
  | succ i => rw [xb_S hb _ hi, xb_S hc _ hi, xb_S (orN_lt hc) _ hi, z_tb, Bool.or_false]
theorem xs_1 : ((nI 1 &&& 31).toBitVec.smod 32) = 1 := by decide +kernel
theorem v_shl (u : Nat) : nI u <<< (nI 1 &&& 31) = nI (0 + 2 * u) := by
  apply Int32.toBitVec_inj.mp
  rw [Int32.toBitVec_shiftLeft]
  show (BitVec.ofNat 32 u) <<< ((nI 1 &&& 31).toBitVec.smod 32) = BitVec.ofNat 32 (0 + 2 * u)
  rw [xs_1]
  apply BitVec.eq_of_toNat_eq
  rw [BitVec.shiftLeft_eq', BitVec.toNat_shiftLeft, BitVec.toNat_ofNat, BitVec.toNat_ofNat, Nat.shiftLeft_eq, Nat.mul_mod, Nat.mod_mod, ← Nat.mul_mod, Nat.zero_add, Nat.mul_comm]
  rfl
theorem v_psh {b u : Nat} (hb : b < 2) : (nI u <<< (nI 1 &&& 31)) ||| nI b = nI (b + 2 * u) := by
  rw [v_shl, v_or hb (by omega)]
  unfold orN
  rcases (show b = 0 ∨ b = 1 by omega) with e | e <;> subst e <;> rfl
/-! the truths, the newest first -/
def tv : List Nat → Nat
  | [] => 0
  | b :: L => b + 2 * tv L
def stk (f : Nat → Int32) : List Nat → Prop
  | [] => True
  | b :: L => f L.length = nI b ∧ b < 2 ∧ stk f L
theorem tv_lt {f : Nat → Int32} : ∀ L : List Nat, stk f L → tv L < 2 ^ L.length
  | [], _ => Nat.two_pow_pos 0
  | b :: L, q => by
    have := tv_lt L q.2.2
    have := q.2.1
    show b + 2 * tv L < 2 ^ (L.length + 1)
    rw [Nat.pow_succ]
    omega
theorem tv_24 {f : Nat → Int32} {L : List Nat} (q : stk f L) (h : L.length ≤ 24) : tv L < 2 ^ 24 := Nat.lt_of_lt_of_le (tv_lt L q) (Nat.pow_le_pow_right (by omega) h)
theorem stk_up {f : Nat → Int32} {k : Nat} {v : Int32} : ∀ {L : List Nat}, L.length ≤ k → stk f L → stk (upd f k v) L
  | [], _, _ => trivial
  | b :: L, h, q => by
    have h' : L.length + 1 ≤ k := h
    exact ⟨by rw [upd_n (by omega)]; exact q.1, q.2.1, stk_up (by omega) q.2.2⟩
theorem nb_id {b : Nat} (hb : b < 2) : vp_nar .boolean (nI b) = nI b := by
  rcases (show b = 0 ∨ b = 1 by omega) with e | e <;> subst e <;> decide
def soN (g x m : Nat) : Nat := if g = 60 then (if m ≤ x then 0 else 1) else if g = 62 then (if x ≤ m then 0 else 1) else if x = m then 1 else 0
theorem soN_lt {g x m : Nat} : soN g x m < 2 := by
  unfold soN
  repeat' split
  all_goals omega
theorem C_isSo {g x m i : Nat} {h : HS} (hi : i < 40) (hx : x < 2147483648) (hm : m ≤ 999) (hg : g = 60 ∨ g = 61 ∨ g = 62) (e1 : h.1 44 i = nI g) (e2 : h.1 45 i = nI m) : f_Sent_isSo_42 (nI x) (nI i) h = some (nI (soN g x m), h) := by
  unfold f_Sent_isSo_42 soN
  have b : inb (nI i) 40 = true := by rw [inb_nI (by omega)]; exact decide_eq_true hi
  rw [nI_clamp (by omega), e1, e2]
  simp only [if_pos b, rZ0, rZ1]
  rw [ite_eqN (by omega) (by omega), ite_eqN (by omega) (by omega), ite_leN (by omega) (by omega), ite_leN (by omega) (by omega), ite_eqN (by omega) (by omega)]
  rcases hg with e | e | e <;> subst e
  · rw [if_pos rfl, if_pos rfl]
    split <;> rfl
  · rw [if_neg (show ¬ (61 : Nat) = 60 by omega), if_neg (show ¬ (61 : Nat) = 62 by omega), if_neg (show ¬ (61 : Nat) = 60 by omega), if_neg (show ¬ (61 : Nat) = 62 by omega)]
    split <;> rfl
  · rw [if_neg (show ¬ (62 : Nat) = 60 by omega), if_pos rfl, if_neg (show ¬ (62 : Nat) = 60 by omega), if_pos rfl]
    split <;> rfl
theorem M_isSo {g x m : Nat} {h : HS} (hx : x < 2147483648) (hm : m ≤ 999) (hg : g = 60 ∨ g = 61 ∨ g = 62) : (if nI g = nI 60 then (if nI m ≤ nI x then rZ (nI 0) h else rZ (nI 1) h) else (if nI g = nI 61 then (if nI x = nI m then rZ (nI 1) h else rZ (nI 0) h) else (if nI x ≤ nI m then rZ (nI 0) h else rZ (nI 1) h))) = some (nI (soN g x m), h) := by
  unfold soN
  rw [rZ0, rZ1, ite_eqN (by omega) (by omega), ite_eqN (by omega) (by omega), ite_leN (by omega) (by omega), ite_leN (by omega) (by omega), ite_eqN (by omega) (by omega)]
  rcases hg with e | e | e <;> subst e
  · rw [if_pos rfl, if_pos rfl]
    split <;> rfl
  · rw [if_neg (show ¬ (61 : Nat) = 60 by omega), if_pos rfl, if_neg (show ¬ (61 : Nat) = 60 by omega), if_neg (show ¬ (61 : Nat) = 62 by omega)]
    split <;> rfl
  · rw [if_neg (show ¬ (62 : Nat) = 60 by omega), if_neg (show ¬ (62 : Nat) = 61 by omega), if_neg (show ¬ (62 : Nat) = 60 by omega), if_pos rfl]
    split <;> rfl
def lfOK (s f n z0 z1 z2 : Int32) : Prop := (∃ t, t ≤ 4 ∧ s = nI 3 ∧ f = nI t ∧ z0 = nI t) ∨ (∃ d, d < 6 ∧ s = nI 4 ∧ f = nI d ∧ z0 = nI 5 ∧ z2 = nI d) ∨ (∃ t g m, 1 ≤ t ∧ t ≤ 4 ∧ (g = 60 ∨ g = 61 ∨ g = 62) ∧ m ≤ 999 ∧ s = nI (4 + t) ∧ f = nI g ∧ n = nI m ∧ z0 = nI (5 + t) ∧ z1 = nI g ∧ z2 = nI m)
theorem lf_s {s f n z0 z1 z2 : Int32} (q : lfOK s f n z0 z1 z2) : ∃ a b, 3 ≤ a ∧ a < 9 ∧ s = nI a ∧ b ≤ 9 ∧ z0 = nI b := by
  rcases q with ⟨t, h1, h2, h3, h4⟩ | ⟨d, h1, h2, h3, h4, h5⟩ | ⟨t, g, m, h1, h2, h3, h4, h5, h6, h7, h8, h9, h10⟩
  · exact ⟨3, t, by omega, by omega, h2, by omega, h4⟩
  · exact ⟨4, 5, by omega, by omega, h2, by omega, h4⟩
  · exact ⟨4 + t, 5 + t, by omega, by omega, h5, by omega, h8⟩
theorem bI_n (b : Bool) : ∃ k, k < 2 ∧ bI b = nI k := by
  cases b
  · exact ⟨0, by omega, rfl⟩
  · exact ⟨1, by omega, rfl⟩
theorem T_leaf {P : Pl} {A : Ab} {F c i : Nat} {hc hm : HS} {z0 z1 z2 : Int32} (hF : 7 ≤ F) (W : WF P A) (R : CR P A hc) (S : MR P A hm) (hk : c < P 0 3) (hi : i < 40) (q : lfOK (hc.1 43 i) (hc.1 44 i) (hc.1 45 i) z0 z1 z2) : ∃ b, b < 2 ∧ f_Sent_isTrue_42 (nI i) (nI c) hc = some (nI b, hc) ∧ f_M_isLeaf F (nI c) z0 z1 z2 hm = some (nI b, hm) := by
  obtain ⟨⟨wN, wNM, wM, wCo, w3, w4, w5, wC, wD, wK⟩, wAc, wAk, wAw, wAf⟩ := id W
  have wa := wAc c hk
  have n0 := nearC_lt W.1 (A := A) c 0
  rw [f_Sent_isTrue_42, f_M_isLeaf, ifin (by omega) (by omega), nI_clamp (by omega)]
  rcases q with ⟨t, h1, h2, h3, h4⟩ | ⟨d, h1, h2, h3, h4, h5⟩ | ⟨t, g, m, h1, h2, h3, h4, h5, h6, h7, h8, h9, h10⟩
  · refine ⟨if A.1 1 c = t then 1 else 0, by split <;> omega, ?_, ?_⟩
    · rw [h2, if_pos rfl, C_ofCause w3 R hk (by omega), bnd_s, ifin (by omega) (by omega), h3]
      show (if nI (A.1 1 c) = nI t then rZ (nI 1) hc else rZ (nI 0) hc) = _
      rw [ite_eqN (by omega) (by omega), rZ0, rZ1]
      split <;> rfl
    · rw [h4, ite_leN (by omega) (by omega), if_neg (by omega), nI_add, ifin (by omega) (by omega), nI_clamp (by omega), m_state S hk, ite_eqN (by omega) (by omega), rZ0, rZ1]
      split <;> rfl
  · have h6 : A.1 3 c < 64 := Nat.lt_of_lt_of_le wa.2.1 (Nat.le_trans (Nat.pow_le_pow_right (by omega) w4) (by decide))
    obtain ⟨b, b1, b2⟩ := bI_n ((A.1 3 c).testBit d)
    refine ⟨b, b1, ?_, ?_⟩
    · rw [h2, if_neg (show ¬ nI 4 = nI 3 by decide), if_pos rfl, C_ofCause w3 R hk (by omega), bnd_s, ifin (by omega) (by omega), h3]
      show (if ((nI (A.1 3 c) >>> (nI d &&& 31)) &&& (nI 1)) = 0 then rZ (nI 0) hc else rZ (nI 1) hc) = _
      rw [bit_sh _ h6 d (by omega), ite_b0, rZ0, rZ1, bI_ite, b2]
    · rw [h4, h5, ite_leN (by omega) (by omega), if_pos (by omega), if_pos rfl, nI_add, ifin (by omega) (by omega), nI_clamp (by omega), m_had S hk, M_bitOf h6 (by omega), bnd_s, rZb, b2]
  · have pu : h1 = h1 := rfl
    rw [h5, h8, h9, h10]
    have zb : ∀ x, rZ (nI (soN g x m)) hc = some (nI (soN g x m), hc) := fun x => by
      rcases (show soN g x m = 0 ∨ soN g x m = 1 by have := soN_lt (g := g) (x := x) (m := m); omega) with e | e <;> rw [e]
      · exact rZ0 hc
      · exact rZ1 hc
    have wp := (wC c).2.2.2.2.1
    rcases (show t = 1 ∨ t = 2 ∨ t = 3 ∨ t = 4 by omega) with e | e | e | e <;> subst e
    · refine ⟨soN g (nearC P A c 0) m, soN_lt, ?_, ?_⟩
      · rw [if_neg (show ¬ nI (4 + 1) = nI 3 by decide), if_neg (show ¬ nI (4 + 1) = nI 4 by decide), if_pos (show nI (4 + 1) = nI 5 from rfl), C_nearness W R hk, bnd_s, C_isSo hi (by omega) h4 h3 h6 h7, bnd_s, zb]
      · rw [ite_leN (by omega) (by omega), if_pos (show 5 ≤ 5 + 1 by omega), if_neg (show ¬ nI (5 + 1) = nI 5 by decide), bl_e, if_pos (show nI (5 + 1) = nI 6 from rfl), M_nearOf W (by omega) S hk (Nat.two_pow_pos _), bnd_s]
        exact M_isSo (by omega) h4 h3
    · refine ⟨soN g (P 3 c) m, soN_lt, ?_, ?_⟩
      · rw [if_neg (show ¬ nI (4 + 2) = nI 3 by decide), if_neg (show ¬ nI (4 + 2) = nI 4 by decide), if_neg (show ¬ nI (4 + 2) = nI 5 by decide), if_pos (show nI (4 + 2) = nI 6 from rfl), C_ofCause w3 R hk (by omega), bnd_s]
        show bnd (f_Sent_isSo_42 (nI (P 3 c)) (nI i) hc) _ = _
        rw [C_isSo hi (by omega) h4 h3 h6 h7, bnd_s, zb]
      · rw [ite_leN (by omega) (by omega), if_pos (show 5 ≤ 5 + 2 by omega), if_neg (show ¬ nI (5 + 2) = nI 5 by decide), bl_e, if_neg (show ¬ nI (5 + 2) = nI 6 by decide), if_pos (show nI (5 + 2) = nI 7 from rfl), nI_add, ifin (by omega) (by omega), nI_clamp (by omega), m_purse S hk]
        exact M_isSo (by omega) h4 h3
    · refine ⟨soN g (A.1 0 c) m, soN_lt, ?_, ?_⟩
      · rw [if_neg (show ¬ nI (4 + 3) = nI 3 by decide), if_neg (show ¬ nI (4 + 3) = nI 4 by decide), if_neg (show ¬ nI (4 + 3) = nI 5 by decide), if_neg (show ¬ nI (4 + 3) = nI 6 by decide), if_pos (show nI (4 + 3) = nI 7 from rfl), C_ofCause w3 R hk (by omega), bnd_s]
        show bnd (f_Sent_isSo_42 (nI (A.1 0 c)) (nI i) hc) _ = _
        rw [C_isSo hi (by omega) h4 h3 h6 h7, bnd_s, zb]
      · rw [ite_leN (by omega) (by omega), if_pos (show 5 ≤ 5 + 3 by omega), if_neg (show ¬ nI (5 + 3) = nI 5 by decide), bl_e, if_neg (show ¬ nI (5 + 3) = nI 6 by decide), if_neg (show ¬ nI (5 + 3) = nI 7 by decide), if_pos (show nI (5 + 3) = nI 8 from rfl), nI_add, ifin (by omega) (by omega), nI_clamp (by omega), m_bel S hk]
        exact M_isSo (by omega) h4 h3
    · refine ⟨soN g c m, soN_lt, ?_, ?_⟩
      · rw [if_neg (show ¬ nI (4 + 4) = nI 3 by decide), if_neg (show ¬ nI (4 + 4) = nI 4 by decide), if_neg (show ¬ nI (4 + 4) = nI 5 by decide), if_neg (show ¬ nI (4 + 4) = nI 6 by decide), if_neg (show ¬ nI (4 + 4) = nI 7 by decide), C_isSo hi (by omega) h4 h3 h6 h7, bnd_s, zb]
      · rw [ite_leN (by omega) (by omega), if_pos (show 5 ≤ 5 + 4 by omega), if_neg (show ¬ nI (5 + 4) = nI 5 by decide), bl_e, if_neg (show ¬ nI (5 + 4) = nI 6 by decide), if_neg (show ¬ nI (5 + 4) = nI 7 by decide), if_neg (show ¬ nI (5 + 4) = nI 8 by decide)]
        exact M_isSo (by omega) h4 h3
theorem am1 {n : Nat} (h : 0 < n) : nI n + (-1 : Int32) = nI (n - 1) := by
  rw [← nI_sb (show 1 ≤ n by omega), Int32.sub_eq_add_neg]
  rfl
theorem dpn_le {s : Nat → Int32} {m : Nat} (q : dpOK s m) : ∀ i, i ≤ m → dpn s i ≤ 20
  | 0, _ => Nat.zero_le _
  | i + 1, h => (q.1 i (by omega)).2.2
theorem len1 {L : List Nat} (h : L.length = 1) : ∃ b, L = [b] := by
  cases L with
  | nil => exact absurd h (by decide)
  | cons b M =>
    cases M with
    | nil => exact ⟨b, rfl⟩
    | cons c N => exact absurd h (by simp)
theorem len_c {L : List Nat} {n : Nat} (h : L.length = n) (p : 1 ≤ n) : ∃ b M, L = b :: M ∧ M.length + 1 = n := by
  cases L with
  | nil => exact absurd (show 0 = n from h) (by omega)
  | cons b M => exact ⟨b, M, rfl, h⟩
theorem T_sdL {P : Pl} {A : Ab} {F c m : Nat} {hc hm : HS} (hF : 20000 ≤ F) (W : WF P A) (R : CR P A hc) (S : MR P A hm) (hk : c < P 0 3) (hm4 : m ≤ 40) (h0 : 0 < m) (e1 : hc.1 42 3 = nI m) (e2 : hm.1 2 151 = nI m) (co : ∀ i, i < m → cdOK (hc.1 43 i) (hc.1 44 i) (hc.1 45 i) (hm.1 2 (152 + 3 * i)) (hm.1 2 (153 + 3 * i)) (hm.1 2 (154 + 3 * i))) (dp : dpOK (hc.1 43) m) : ∀ (j i : Nat), i + j = m → ∀ (f : Nat → Int32) (L : List Nat), L.length = dpn (hc.1 43) i → stk f L → ∃ b f2, b < 2 ∧ (∀ K g, j < g → l_Sent_holdsOf_42_0 F (nI c) K g (nI (tv L)) (nI i) hc = K (nI b) hc) ∧ (∀ g, j < g → l_M_isSaid_0 F (nI c) g (nI L.length) (nI i) (st hm 15 f) = some (nI b, st hm 15 f2)) := by
  intro j
  induction j with
  | zero =>
    intro i hi f L hL q
    have hi' : i = m := by omega
    subst hi'
    obtain ⟨b, rfl⟩ := len1 (hL.trans (dp.2 h0))
    have hb : b < 2 := q.2.1
    have hf : f 0 = nI b := q.1
    refine ⟨b, f, hb, fun K g hg => ?_, fun g hg => ?_⟩
    · obtain ⟨g, rfl⟩ : ∃ z, g = z + 1 := ⟨g - 1, by omega⟩
      rw [l_Sent_holdsOf_42_0, e1, ite_leN (by omega) (by omega), if_pos (by omega)]
      rfl
    · obtain ⟨g, rfl⟩ : ∃ z, g = z + 1 := ⟨g - 1, by omega⟩
      rw [l_M_isSaid_0, ifin (by omega) (by omega), nI_clamp (by omega), st_o (by decide), e2, ite_leN (by omega) (by omega), if_pos (by omega), ifin (by omega) (by omega), nI_clamp (by omega), st_e, hf]
      rcases (show b = 0 ∨ b = 1 by omega) with e | e <;> subst e
      · exact rZ0 _
      · exact rZ1 _
  | succ j ih =>
    intro i hi f L hL q
    have hi' : i < m := by omega
    have d := dp.1 i hi'
    have dl := dpn_le dp i (by omega)
    have hd : dpn (hc.1 43) (i + 1) = if hc.1 43 i = nI 0 then dpn (hc.1 43) i else (if hc.1 43 i = nI 1 ∨ hc.1 43 i = nI 2 then dpn (hc.1 43) i - 1 else dpn (hc.1 43) i + 1) := rfl
    have C : ∀ K g x, l_Sent_holdsOf_42_0 F (nI c) K (g + 1) x (nI i) hc = (if (hc.1 43 i) = 0 then l_Sent_holdsOf_42_0 F (nI c) K g (x ^^^ (nI 1)) (nI (i + 1)) hc else (if (hc.1 43 i) = (nI 1) then l_Sent_holdsOf_42_0 F (nI c) K g ((x >>> ((nI 1) &&& 31)) &&& ((x &&& (nI 1)) ||| (-2 : Int32))) (nI (i + 1)) hc else (if (hc.1 43 i) = (nI 2) then l_Sent_holdsOf_42_0 F (nI c) K g ((x >>> ((nI 1) &&& 31)) ||| (x &&& (nI 1))) (nI (i + 1)) hc else bnd (f_Sent_isTrue_42 (nI i) (nI c) hc) (fun r10 h9 => if r10 = 0 then l_Sent_holdsOf_42_0 F (nI c) K g ((x <<< ((nI 1) &&& 31)) ||| (nI 0)) (nI (i + 1)) h9 else l_Sent_holdsOf_42_0 F (nI c) K g ((x <<< ((nI 1) &&& 31)) ||| (nI 1)) (nI (i + 1)) h9)))) := fun K g x => by
      rw [l_Sent_holdsOf_42_0, e1, ite_leN (by omega) (by omega), if_neg (show ¬ m ≤ i by omega), ifin (by omega) (by omega), nI_clamp (by omega)]
      dsimp only [bl]
      rw [nI_add]
    rcases co i hi' with ⟨s1, s2⟩ | ⟨s1, s2⟩ | ⟨s1, s2⟩ | lf
    · rw [s1, if_pos rfl] at hd
      obtain ⟨b, M, rfl, hM⟩ := len_c hL (d.1 s1)
      obtain ⟨q1, hb, q3⟩ := q
      obtain ⟨b2, f2, a1, a2, a3⟩ := ih (i + 1) (by omega) (upd f M.length (nI (1 - b))) ((1 - b) :: M) (by rw [hd, ← hM]; rfl) ⟨upd_e, by omega, stk_up (Nat.le_refl _) q3⟩
      refine ⟨b2, f2, a1, fun K g hg => ?_, fun g hg => ?_⟩
      · obtain ⟨g, rfl⟩ : ∃ z, g = z + 1 := ⟨g - 1, by omega⟩
        rw [C, s1, if_pos (show nI 0 = 0 from rfl), ← a2 K g (by omega)]
        show l_Sent_holdsOf_42_0 F (nI c) K g (nI (b + 2 * tv M) ^^^ nI 1) (nI (i + 1)) hc = l_Sent_holdsOf_42_0 F (nI c) K g (nI ((1 - b) + 2 * tv M)) (nI (i + 1)) hc
        rw [v_not hb]
      · obtain ⟨g, rfl⟩ : ∃ z, g = z + 1 := ⟨g - 1, by omega⟩
        rw [← a3 g (by omega), l_M_isSaid_0, ifin (by omega) (by omega), nI_clamp (by omega), st_o (show (2 : Nat) ≠ 15 by decide), e2, ite_leN (by omega) (by omega), if_neg (show ¬ m ≤ i by omega), nI_mul, nI_add]
        dsimp only [bl]
        rw [ifin (by omega) (by omega), nI_clamp (by omega), s2, if_pos rfl, show (b :: M).length = M.length + 1 from rfl, nI_sb (by omega), Nat.add_sub_cancel, ifin (by omega) (by omega), nI_clamp (by omega), st_e, q1]
        rcases (show b = 0 ∨ b = 1 by omega) with e | e <;> subst e
        · rw [if_pos (show nI 0 = 0 from rfl), ifin (by omega) (by omega), nb_id (by omega), sI_stst, nI_add]
          rfl
        · rw [if_neg (show ¬ nI 1 = 0 by decide), ifin (by omega) (by omega), nb_id (by omega), sI_stst, nI_add]
          rfl
    · rw [s1, if_neg (show ¬ nI 1 = nI 0 by decide), if_pos (by first | exact Or.inl rfl | exact Or.inr rfl)] at hd
      obtain ⟨b, M, rfl, hM⟩ := len_c hL (by have := d.2.1 (Or.inl s1); omega)
      obtain ⟨b1, N, rfl, hN⟩ := len_c (L := M) rfl (by have := d.2.1 (Or.inl s1); omega)
      obtain ⟨q1, hb, q3, hb1, q4⟩ := q
      have hbb : b * b1 < 2 := by
        rcases (show b = 0 ∨ b = 1 by omega) with e | e <;> subst e <;> omega
      have q1' : f (N.length + 1) = nI b := q1
      have hM' : N.length + 1 + 1 = dpn (hc.1 43) i := hM
      obtain ⟨b2, f2, a1, a2, a3⟩ := ih (i + 1) (by omega) (upd f N.length (nI (b * b1))) ((b * b1) :: N) (by rw [hd, ← hM]; rfl) ⟨upd_e, hbb, stk_up (Nat.le_refl _) q4⟩
      refine ⟨b2, f2, a1, fun K g hg => ?_, fun g hg => ?_⟩
      · obtain ⟨g, rfl⟩ : ∃ z, g = z + 1 := ⟨g - 1, by omega⟩
        have u24 := tv_24 q4 (by omega)
        have u25 : b1 + 2 * tv N < 2 ^ 24 := by
          have := tv_lt (f := f) N q4
          have h20 : 2 ^ N.length ≤ 2 ^ 20 := Nat.pow_le_pow_right (by omega) (by omega)
          have : (2 : Nat) ^ 20 = 1048576 := by decide
          have : (2 : Nat) ^ 24 = 16777216 := by decide
          omega
        rw [C, s1, if_neg (show ¬ nI 1 = 0 by decide), if_pos rfl, ← a2 K g (by omega)]
        show l_Sent_holdsOf_42_0 F (nI c) K g ((nI (b + 2 * (b1 + 2 * tv N)) >>> (nI 1 &&& 31)) &&& ((nI (b + 2 * (b1 + 2 * tv N)) &&& nI 1) ||| (-2 : Int32))) (nI (i + 1)) hc = l_Sent_holdsOf_42_0 F (nI c) K g (nI ((b * b1) + 2 * tv N)) (nI (i + 1)) hc
        rw [v_shr hb u25, v_and1 hb, v_and hb hb1]
      · obtain ⟨g, rfl⟩ : ∃ z, g = z + 1 := ⟨g - 1, by omega⟩
        rw [← a3 g (by omega), l_M_isSaid_0, ifin (by omega) (by omega), nI_clamp (by omega), st_o (show (2 : Nat) ≠ 15 by decide), e2, ite_leN (by omega) (by omega), if_neg (show ¬ m ≤ i by omega), nI_mul, nI_add]
        dsimp only [bl]
        rw [ifin (by omega) (by omega), nI_clamp (by omega), s2, if_neg (show ¬ nI 21 = nI 20 by decide), if_pos (show nI 21 = nI 21 from rfl)]
        try rw [ifin (by omega) (by omega)]
        try rw [if_neg (show ¬ nI 22 = nI 21 by decide)]
        try rw [ifin (by omega) (by omega)]
        try rw [if_pos (show nI 22 = nI 22 from rfl)]
        rw [show (b :: b1 :: N).length = N.length + 1 + 1 from rfl, am1 (by omega), Nat.add_sub_cancel]
        try rw [ifin (by omega) (by omega)]
        try rw [if_pos (show nI 21 = nI 21 from rfl)]
        try rw [if_neg (show ¬ nI 22 = nI 21 by decide)]
        rw [nI_sb (show 1 ≤ N.length + 1 by omega), Nat.add_sub_cancel, ifin (by omega) (by omega), nI_clamp (show N.length < 2147483648 by omega), nI_clamp (show N.length + 1 < 2147483648 by omega), st_e, q3, q1']
        rcases (show b = 0 ∨ b = 1 by omega) with e | e <;> subst e <;> rcases (show b1 = 0 ∨ b1 = 1 by omega) with e | e <;> subst e
        all_goals
          simp only [if_neg (show ¬ nI 1 = 0 by decide), if_pos (show nI 0 = 0 from rfl)]
          rw [if_pos (show (st hm 15 f).1 2 (152 + 3 * i) = nI 21 by rw [st_o (by decide)]; exact s2)]
          repeat rw [ifin (by omega) (by omega)]
          try rw [if_neg (show ¬ nI 1 = 0 by decide)]
          try rw [if_pos (show nI 0 = 0 from rfl)]
          repeat rw [ifin (by omega) (by omega)]
          rw [nb_id (by omega), sI_stst, nI_add]
          rfl
    · rw [s1, if_neg (show ¬ nI 2 = nI 0 by decide), if_pos (by first | exact Or.inl rfl | exact Or.inr rfl)] at hd
      obtain ⟨b, M, rfl, hM⟩ := len_c hL (by have := d.2.1 (Or.inr s1); omega)
      obtain ⟨b1, N, rfl, hN⟩ := len_c (L := M) rfl (by have := d.2.1 (Or.inr s1); omega)
      obtain ⟨q1, hb, q3, hb1, q4⟩ := q
      have hbb : b * b1 < 2 := by
        rcases (show b = 0 ∨ b = 1 by omega) with e | e <;> subst e <;> omega
      have q1' : f (N.length + 1) = nI b := q1
      have hM' : N.length + 1 + 1 = dpn (hc.1 43) i := hM
      obtain ⟨b2, f2, a1, a2, a3⟩ := ih (i + 1) (by omega) (upd f N.length (nI (orN b b1))) ((orN b b1) :: N) (by rw [hd, ← hM]; rfl) ⟨upd_e, orN_lt hb1, stk_up (Nat.le_refl _) q4⟩
      refine ⟨b2, f2, a1, fun K g hg => ?_, fun g hg => ?_⟩
      · obtain ⟨g, rfl⟩ : ∃ z, g = z + 1 := ⟨g - 1, by omega⟩
        have u24 := tv_24 q4 (by omega)
        have u25 : b1 + 2 * tv N < 2 ^ 24 := by
          have := tv_lt (f := f) N q4
          have h20 : 2 ^ N.length ≤ 2 ^ 20 := Nat.pow_le_pow_right (by omega) (by omega)
          have : (2 : Nat) ^ 20 = 1048576 := by decide
          have : (2 : Nat) ^ 24 = 16777216 := by decide
          omega
        rw [C, s1, if_neg (show ¬ nI 2 = 0 by decide), if_neg (show ¬ nI 2 = nI 1 by decide), if_pos rfl, ← a2 K g (by omega)]
        show l_Sent_holdsOf_42_0 F (nI c) K g ((nI (b + 2 * (b1 + 2 * tv N)) >>> (nI 1 &&& 31)) ||| (nI (b + 2 * (b1 + 2 * tv N)) &&& nI 1)) (nI (i + 1)) hc = l_Sent_holdsOf_42_0 F (nI c) K g (nI ((orN b b1) + 2 * tv N)) (nI (i + 1)) hc
        rw [v_shr hb u25, v_and1 hb, v_or hb hb1]
      · obtain ⟨g, rfl⟩ : ∃ z, g = z + 1 := ⟨g - 1, by omega⟩
        rw [← a3 g (by omega), l_M_isSaid_0, ifin (by omega) (by omega), nI_clamp (by omega), st_o (show (2 : Nat) ≠ 15 by decide), e2, ite_leN (by omega) (by omega), if_neg (show ¬ m ≤ i by omega), nI_mul, nI_add]
        dsimp only [bl]
        rw [ifin (by omega) (by omega), nI_clamp (by omega), s2, if_neg (show ¬ nI 22 = nI 20 by decide)]
        try rw [ifin (by omega) (by omega)]
        try rw [if_neg (show ¬ nI 22 = nI 21 by decide)]
        try rw [ifin (by omega) (by omega)]
        try rw [if_pos (show nI 22 = nI 22 from rfl)]
        rw [show (b :: b1 :: N).length = N.length + 1 + 1 from rfl, am1 (by omega), Nat.add_sub_cancel]
        try rw [ifin (by omega) (by omega)]
        try rw [if_pos (show nI 21 = nI 21 from rfl)]
        try rw [if_neg (show ¬ nI 22 = nI 21 by decide)]
        rw [nI_sb (show 1 ≤ N.length + 1 by omega), Nat.add_sub_cancel, ifin (by omega) (by omega), nI_clamp (show N.length < 2147483648 by omega), nI_clamp (show N.length + 1 < 2147483648 by omega), st_e, q3, q1']
        rcases (show b = 0 ∨ b = 1 by omega) with e | e <;> subst e <;> rcases (show b1 = 0 ∨ b1 = 1 by omega) with e | e <;> subst e
        all_goals
          simp only [if_neg (show ¬ nI 1 = 0 by decide), if_pos (show nI 0 = 0 from rfl)]
          rw [if_neg (show ¬ (st hm 15 f).1 2 (152 + 3 * i) = nI 21 by rw [st_o (by decide), s2]; decide)]
          repeat rw [ifin (by omega) (by omega)]
          try rw [if_neg (show ¬ nI 1 = 0 by decide)]
          try rw [if_pos (show nI 0 = 0 from rfl)]
          repeat rw [ifin (by omega) (by omega)]
          rw [nb_id (by omega), sI_stst, nI_add]
          rfl
    · obtain ⟨sa, sb, t1, t2, t3, t4, t5⟩ := lf_s lf
      rw [t3, if_neg (show ¬ nI sa = nI 0 from fun e => by have := nI_inj (by omega) (by omega) e; omega), if_neg (show ¬ (nI sa = nI 1 ∨ nI sa = nI 2) from fun e => by rcases e with e | e <;> (have := nI_inj (by omega) (by omega) e; omega))] at hd
      have S2 : MR P A (st hm 15 f) := MR_fr S (st_o (by decide)) rfl
      obtain ⟨b, hb, l1, l2⟩ := T_leaf (F := F) (by omega) W R S2 hk (show i < 40 by omega) lf
      obtain ⟨b2, f2, a1, a2, a3⟩ := ih (i + 1) (by omega) (upd f L.length (nI b)) (b :: L) (by rw [hd, ← hL]; rfl) ⟨upd_e, hb, stk_up (Nat.le_refl _) q⟩
      refine ⟨b2, f2, a1, fun K g hg => ?_, fun g hg => ?_⟩
      · obtain ⟨g, rfl⟩ : ∃ z, g = z + 1 := ⟨g - 1, by omega⟩
        rw [C, t3, if_neg (show ¬ nI sa = 0 from fun e => by have := nI_inj (b := 0) (by omega) (by omega) e; omega), if_neg (show ¬ nI sa = nI 1 from fun e => by have := nI_inj (by omega) (by omega) e; omega), if_neg (show ¬ nI sa = nI 2 from fun e => by have := nI_inj (by omega) (by omega) e; omega), l1, bnd_s, ← a2 K g (by omega)]
        rcases (show b = 0 ∨ b = 1 by omega) with e | e <;> subst e
        · rw [if_pos (show nI 0 = 0 from rfl), v_psh (by omega)]
          rfl
        · rw [if_neg (show ¬ nI 1 = 0 by decide), v_psh (by omega)]
          rfl
      · obtain ⟨g, rfl⟩ : ∃ z, g = z + 1 := ⟨g - 1, by omega⟩
        rw [← a3 g (by omega), l_M_isSaid_0, ifin (by omega) (by omega), nI_clamp (by omega), st_o (show (2 : Nat) ≠ 15 by decide), e2, ite_leN (by omega) (by omega), if_neg (show ¬ m ≤ i by omega), nI_mul, nI_add]
        dsimp only [bl]
        have z1 : hm.1 2 (152 + 3 * i + 1) = hm.1 2 (153 + 3 * i) := congrArg _ (by omega)
        have z2 : hm.1 2 (152 + 3 * i + 2) = hm.1 2 (154 + 3 * i) := congrArg _ (by omega)
        rw [ifin (by omega) (by omega), nI_clamp (show 152 + 3 * i < 2147483648 by omega), if_neg (show ¬ hm.1 2 (152 + 3 * i) = nI 20 from fun e => by rw [t5] at e; have := nI_inj (by omega) (by omega) e; omega), ifin (by omega) (by omega), if_neg (show ¬ hm.1 2 (152 + 3 * i) = nI 21 from fun e => by rw [t5] at e; have := nI_inj (by omega) (by omega) e; omega), ifin (by omega) (by omega), if_neg (show ¬ hm.1 2 (152 + 3 * i) = nI 22 from fun e => by rw [t5] at e; have := nI_inj (by omega) (by omega) e; omega), ifin (by omega) (by omega), nI_add, ifin (by omega) (by omega), nI_add, ifin (by omega) (by omega), nI_clamp (by omega), nI_clamp (by omega), z1, z2, l2, bnd_s, ifin (by omega) (by omega), nI_clamp (by omega), nb_id hb, sI_stst, nI_add, nI_add]
        rfl
