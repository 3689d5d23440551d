/-! ===== the four that throw: alike where they do not, told where they do ===== -/
def SimT (fc fm : HS → Option (Int32 × HS)) (cond : Pl → Ab → Bool) : Prop := ∀ (P : Pl) (A : Ab) (hc hm : HS), Rel P A hc hm → (cond P A = true → ∃ (v : Int32) (hc2 hm2 : HS) (P2 : Pl) (A2 : Ab), fc hc = some (v, hc2) ∧ fm hm = some (v, hm2) ∧ hm2.1 0 0 = nI 0 ∧ Rel P2 A2 hc2 hm2) ∧ (cond P A = false → ∃ (v : Int32) (hm2 : HS), fm hm = some (v, hm2) ∧ hm2.1 0 0 = nI 1 ∧ Rel P A hc hm2)
theorem M_thr (b : Bool) (h : HS) : f_M_throwsIf (bI b) h = some (bI b, sI h 0 0 (bI b)) := by
  rw [f_M_throwsIf]
  dsimp only [bl]
  rw [ite_b0]
  cases b
  · exact rZ0 _
  · exact rZ1 _
theorem gcd_st {x y : Nat} : Nat.gcd x y = Nat.gcd y (x % y) := by
  rw [Nat.gcd_comm x y, Nat.gcd_rec, Nat.gcd_comm]
theorem M_ptL {F : Nat} {x0 x1 x2 : Int32} {K : Int32 → HS → Option (Int32 × HS)} {h : HS} : ∀ (n x y : Nat), y ≤ n → x < 100000 → y < 100000 → ∀ g, n < g → l_M_part_0 F x0 x1 x2 K g (nI x) (nI y) h = K (nI (Nat.gcd x y)) h := by
  intro n
  induction n with
  | zero =>
    intro x y hy hx _ g hg
    obtain ⟨g, rfl⟩ : ∃ z, g = z + 1 := ⟨g - 1, by omega⟩
    rw [show y = 0 by omega, l_M_part_0, if_pos (show nI 0 = 0 from rfl), Nat.gcd_zero_right]
  | succ n ih =>
    intro x y hy hx hy2 g hg
    obtain ⟨g, rfl⟩ : ∃ z, g = z + 1 := ⟨g - 1, by omega⟩
    rw [l_M_part_0, ite_eq0 (by omega)]
    by_cases e : y = 0
    · rw [if_pos e, e, Nat.gcd_zero_right]
    · have hl := Nat.mod_lt x (Nat.pos_of_ne_zero e)
      rw [if_neg e, ite_ne0 (by omega), if_neg e, nI_rem (by omega) (by omega) (by omega), bl_e, bl_e, bl_e, ih y (x % y) (by omega) hy2 (by omega) g (by omega), ← gcd_st]
theorem M_part {F x y : Nat} {w : Int32} {h : HS} (hF : 2000 ≤ F) (hx : x < 1000) (hy : y < 1000) (hg : 0 < Nat.gcd x y) : f_M_part F (nI x) (nI y) w h = some (if w = 0 then nI (x / Nat.gcd x y) else nI (y / Nat.gcd x y), h) := by
  have hg2 : Nat.gcd x y < 100000 := by
    rcases Nat.eq_zero_or_pos x with e | e
    · subst e
      rw [Nat.gcd_zero_left]
      omega
    · have := Nat.gcd_le_left y e
      omega
  rw [f_M_part, bl_e, bl_e, M_ptL y x y (Nat.le_refl _) (by omega) (by omega) F (by omega)]
  show (if w = 0 then _ else _) = _
  rw [ite_ne0 (by omega), if_neg (show ¬ Nat.gcd x y = 0 by omega), ite_ne0 (by omega), if_neg (show ¬ Nat.gcd x y = 0 by omega), nI_div (by omega) (by omega) hg, nI_div (by omega) (by omega) hg]
  split <;> rfl
theorem bI_inj {a b : Bool} : bI a = bI b → a = b := by
  cases a <;> cases b <;> first | (intro _; rfl) | (intro h; exact absurd h (by decide))
theorem M_isIn1 (x : Int32) (h : HS) : f_M_isIn x (nI 0) (nI 1) h = some (bI (inb x 2), h) := M_isInN (n := 2) (by omega) x h
theorem M_isIn8 (x : Int32) (h : HS) : f_M_isIn x (nI 0) (nI 8) h = some (bI (inb x 9), h) := M_isInN (n := 9) (by omega) x h
theorem C_gdL {F : Nat} {h : HS} : ∀ (n x y t : Nat), y < 2 ^ n → x < 100000 → y < 100000 → t + 2 * n < 64 → ∀ g, 2 * n < g → l_LC_greatestDivisor_0 F g (nI x) (nI y) (nI t) h = some (nI (Nat.gcd x y), h) := by
  have z : ∀ (x t g : Nat), x < 100000 → t < 64 → 0 < g → l_LC_greatestDivisor_0 F g (nI x) (nI 0) (nI t) h = some (nI x, h) := fun x t g hx ht hg => by
    obtain ⟨g, rfl⟩ : ∃ z, g = z + 1 := ⟨g - 1, by omega⟩
    rw [l_LC_greatestDivisor_0, ite_leN (by omega) (by omega), if_neg (by omega), if_pos (by decide)]
  have s : ∀ (x y t g : Nat), 0 < y → x < 100000 → y < 100000 → t < 64 → l_LC_greatestDivisor_0 F (g + 1) (nI x) (nI y) (nI t) h = l_LC_greatestDivisor_0 F g (nI y) (nI (x % y)) (nI (t + 1)) h := fun x y t g h0 hx hy ht => by
    rw [l_LC_greatestDivisor_0, ite_leN (by omega) (by omega), if_neg (by omega), ite_le0 (by omega), if_neg (by omega), ite_ne0 (by omega), if_neg (by omega), nI_rem (by omega) (by omega) h0, bl_e, bl_e, bl_e, bl_e, nI_add]
  intro n
  induction n with
  | zero =>
    intro x y t hy hx _ ht g hg
    rw [show y = 0 by omega, z x t g hx (by omega) (by omega), Nat.gcd_zero_right]
  | succ n ih =>
    intro x y t hy hx hy2 ht g hg
    rcases Nat.eq_zero_or_pos y with e | e
    · rw [e, z x t g hx (by omega) (by omega), Nat.gcd_zero_right]
    · obtain ⟨g, rfl⟩ : ∃ z, g = z + 1 := ⟨g - 1, by omega⟩
      have hl := Nat.mod_lt x e
      rw [s x y t g e hx hy2 (by omega), gcd_st]
      generalize x % y = r at hl
      rcases Nat.eq_zero_or_pos r with e2 | e2
      · rw [e2, z y (t + 1) g hy2 (by omega) (by omega), Nat.gcd_zero_right]
      · obtain ⟨g, rfl⟩ : ∃ z, g = z + 1 := ⟨g - 1, by omega⟩
        have hl2 := Nat.mod_lt y e2
        have h2 : 2 * (y % r) < y := by
          have h3 := Nat.div_add_mod y r
          have h4 : 1 ≤ y / r := Nat.div_pos (by omega) e2
          have h5 : r * 1 ≤ r * (y / r) := Nat.mul_le_mul_left r h4
          omega
        rw [s y r (t + 1) g e2 hy2 (by omega) (by omega), gcd_st]
        exact ih r (y % r) (t + 1 + 1) (by rw [Nat.pow_succ] at hy; omega) (by omega) (by omega) (by omega) g (by omega)
theorem C_least {F x y : Nat} {w : Int32} {h : HS} (hF : 2000 ≤ F) (hx : x < 1000) (hy : y < 1000) (hg : 0 < Nat.gcd x y) : f_LC_leastTerm F (nI x) (nI y) w h = some (if w = 0 then nI (x / Nat.gcd x y) else nI (y / Nat.gcd x y), h) := by
  have hg2 : Nat.gcd x y < 100000 := by
    rcases Nat.eq_zero_or_pos x with e | e
    · subst e
      rw [Nat.gcd_zero_left]
      omega
    · have := Nat.gcd_le_left y e
      omega
  rw [f_LC_leastTerm, f_LC_greatestDivisor, bl_e, bl_e, bl_e, C_gdL 10 x y 0 (by omega) (by omega) (by omega) (by omega) F (by omega), bnd_s]
  dsimp only [bl]
  have gn : ¬ Nat.gcd x y = 0 := by omega
  rw [ite_le0 (by omega), if_neg gn, ite_ne0 (by omega), if_neg gn, ite_le0 (by omega), if_neg gn, ite_ne0 (by omega), if_neg gn, nI_div (by omega) (by omega) hg, nI_div (by omega) (by omega) hg]
  split <;> rfl
theorem th0 {h : HS} {v : Int32} : (sI h 0 0 v).1 0 0 = v := sI_e
theorem inb_i4 {α : Type} {x : Int32} {n : Nat} {A B : α} (hn : n + 1 < 2147483648) : (if x < 0 then A else (if x ≤ nI n then B else A)) = (if inb x (n + 1) = true then B else A) := by
  by_cases h1 : x < 0
  · rw [if_pos h1, if_neg (by simp [inb, h1])]
  · obtain ⟨j, hj, rfl⟩ := nI_of h1
    rw [if_neg h1, ite_leN hj (by omega), inb_nI hj]
    by_cases z : j ≤ n
    · rw [if_pos z, if_pos (decide_eq_true (by omega))]
    · rw [if_neg z, if_neg (by simpa using (by omega : n + 1 ≤ j))]
theorem T_cause {F : Nat} (hF : 20000 ≤ F) (a b : Int32) : SimT (f_LC_cause a b) (f_M_cause F a b) (fun P _ => inb a (P 0 3) && inb b 9) := by
  intro P A hc hm q
  obtain ⟨c, m, W, Y, -⟩ := id q
  obtain ⟨⟨wN, wNM, wM, wCo, w3, w4, w5, wC, wD, wK⟩, wAc, wAk, wAw, wAf⟩ := id W
  have h64 := p64 w4
  have eM : ∀ K : Int32 → HS → Option (Int32 × HS), bnd (f_M_isCause a hm) (fun r2 h1 => bl K (fun J3 => bl (fun h11 => J3 (nI 1) h11) (fun J10 => if r2 = 0 then J10 h1 else bnd (f_M_isIn b (nI 0) (nI 8) h1) (fun r13 h12 => if r13 = 0 then J10 h12 else J3 (nI 0) h12)))) = K (bI (!(inb a (P 0 3) && inb b 9))) hm := fun K => by
    dsimp only [bl]
    rw [M_isCause w3 m, bnd_s, ite_b0, M_isIn8, bnd_s, ite_b0]
    cases inb a (P 0 3) <;> cases inb b 9 <;> rfl
  refine ⟨fun hq => ?_, fun hq => ?_⟩
  · have hq : inb a (P 0 3) = true ∧ inb b 9 = true := by simpa using hq
    obtain ⟨ha, ea⟩ := inb_ex hq.1
    obtain ⟨hb, eb⟩ := inb_ex hq.2
    have q2 := Rel_th (v := nI 0) q
    obtain ⟨-, m2, -⟩ := id q2
    generalize a.toNatClampNeg = k at ha ea
    generalize b.toNatClampNeg = w at hb eb
    have eC : f_LC_cause a b hc = if b = nI 8 then some (nI (nearC P A k 0), hc) else some (rcC P A k w, hc) := by
      rw [f_LC_cause, C_hasCause w3 c.1, bnd_s]
      dsimp only [bl]
      rw [ite_b0, if_pos hq.1, inb_i4 (by omega), if_pos hq.2, ea, C_nearness W c ha, bnd_s, eb, C_ofCause w3 c ha hb, bnd_s]
    subst ea eb
    refine ⟨if nI w = nI 8 then nI (nearC P A k 0) else rcC P A k w, hc, sI hm 0 0 (nI 0), P, A, ?_, ?_, sI_e, q2⟩
    · rw [eC]
      split <;> rfl
    · rw [f_M_cause, eM, hq.1, hq.2]
      show bnd (f_M_throwsIf (bI false) hm) _ = _
      rw [M_thr, bnd_s, if_pos (show bI false = 0 from rfl), show bI false = nI 0 from rfl]
      rcases (show w = 0 ∨ w = 1 ∨ w = 2 ∨ w = 3 ∨ w = 4 ∨ w = 5 ∨ w = 6 ∨ w = 7 ∨ w = 8 by omega) with e | e | e | e | e | e | e | e | e <;> subst e
      · rw [if_pos rfl, nI_add, ifin (by omega) (by omega), nI_clamp (by omega), m_for m2 ha, if_neg (show ¬ nI 0 = nI 8 by decide)]
        rfl
      · rw [if_neg (by decide), if_pos rfl, nI_add, ifin (by omega) (by omega), nI_clamp (by omega), m_ag m2 ha, if_neg (show ¬ nI 1 = nI 8 by decide)]
        rfl
      · rw [if_neg (by decide), if_neg (by decide), if_pos rfl, nI_add, ifin (by omega) (by omega), nI_clamp (by omega), m_purse m2 ha, if_neg (show ¬ nI 2 = nI 8 by decide)]
        rfl
      · rw [if_neg (by decide), if_neg (by decide), if_neg (by decide), if_pos rfl, nI_add, ifin (by omega) (by omega), nI_clamp (by omega), m_bel m2 ha, if_neg (show ¬ nI 3 = nI 8 by decide)]
        rfl
      · rw [if_neg (by decide), if_neg (by decide), if_neg (by decide), if_neg (by decide), if_pos rfl, nI_add, ifin (by omega) (by omega), nI_clamp (by omega), m_state m2 ha, if_neg (show ¬ nI 4 = nI 8 by decide)]
        rfl
      · rw [if_neg (by decide), if_neg (by decide), if_neg (by decide), if_neg (by decide), if_neg (by decide), if_pos rfl, nI_add, ifin (by omega) (by omega), nI_clamp (by omega), m_hold m2 ha, if_neg (show ¬ nI 5 = nI 8 by decide)]
        rfl
      · rw [if_neg (by decide), if_neg (by decide), if_neg (by decide), if_neg (by decide), if_neg (by decide), if_neg (by decide), if_pos rfl, nI_add, ifin (by omega) (by omega), nI_clamp (by omega), m_had m2 ha, if_neg (show ¬ nI 6 = nI 8 by decide)]
        rfl
      · rw [if_neg (by decide), if_neg (by decide), if_neg (by decide), if_neg (by decide), if_neg (by decide), if_neg (by decide), if_neg (by decide), if_pos rfl, nI_add, ifin (by omega) (by omega), nI_clamp (by omega), m_flag m2 ha, if_neg (show ¬ nI 7 = nI 8 by decide)]
        rfl
      · rw [if_neg (by decide), if_neg (by decide), if_neg (by decide), if_neg (by decide), if_neg (by decide), if_neg (by decide), if_neg (by decide), if_neg (by decide), if_pos rfl, M_nearOf W (by omega) m2 ha h64.1, bnd_s]
  · have hq : (inb a (P 0 3) && inb b 9) = false := hq
    refine ⟨nI 0, sI hm 0 0 (nI 1), ?_, sI_e, Rel_th q⟩
    rw [f_M_cause, eM, hq]
    show bnd (f_M_throwsIf (bI true) hm) _ = _
    rw [M_thr, bnd_s, if_neg (show ¬ bI true = 0 by decide)]
    rfl
theorem T_odds {F : Nat} (hF : 20000 ≤ F) (a b : Int32) : SimT (f_LC_odds F a b) (f_M_odds F a b) (fun P _ => inb a (P 0 3) && inb b 2) := by
  intro P A hc hm q
  obtain ⟨c, m, W, Y, -⟩ := id q
  obtain ⟨⟨wN, wNM, wM, wCo, w3, w4, w5, wC, wD, wK⟩, wAc, wAk, wAw, wAf⟩ := id W
  have h64 := p64 w4
  have eM : ∀ K : Int32 → HS → Option (Int32 × HS), bnd (f_M_isCause a hm) (fun r2 h1 => bl K (fun J3 => bl (fun h11 => J3 (nI 1) h11) (fun J10 => if r2 = 0 then J10 h1 else bnd (f_M_isIn b (nI 0) (nI 1) h1) (fun r13 h12 => if r13 = 0 then J10 h12 else J3 (nI 0) h12)))) = K (bI (!(inb a (P 0 3) && inb b 2))) hm := fun K => by
    dsimp only [bl]
    rw [M_isCause w3 m, bnd_s, ite_b0, M_isIn1, bnd_s, ite_b0]
    cases inb a (P 0 3) <;> cases inb b 2 <;> rfl
  refine ⟨fun hq => ?_, fun hq => ?_⟩
  · have hq : inb a (P 0 3) = true ∧ inb b 2 = true := by simpa using hq
    obtain ⟨ha, ea⟩ := inb_ex hq.1
    have q2 := Rel_th (v := nI 0) q
    obtain ⟨-, m2, -⟩ := id q2
    generalize a.toNatClampNeg = k at ha ea
    have h1 := fo_le W.1 A k 0
    have h2 := ag_le W.1 A k 0
    have hg : 0 < Nat.gcd (fo P A k 0) (fo P A k 0 + ag P A k 0) := Nat.gcd_pos_of_pos_right _ (by omega)
    refine ⟨if b = 0 then nI (fo P A k 0 / Nat.gcd (fo P A k 0) (fo P A k 0 + ag P A k 0)) else nI ((fo P A k 0 + ag P A k 0) / Nat.gcd (fo P A k 0) (fo P A k 0 + ag P A k 0)), hc, sI hm 0 0 (nI 0), P, A, ?_, ?_, sI_e, q2⟩
    · rw [f_LC_odds, C_hasCause w3 c.1, bnd_s]
      dsimp only [bl]
      rw [ite_b0, if_pos hq.1, inb_i4 (by omega), if_pos hq.2, ea, C_ofCause w3 c ha (by omega), bnd_s, C_ofCause w3 c ha (by omega), bnd_s]
      show bnd (f_LC_leastTerm F (nI (fo P A k 0)) (nI (fo P A k 0) + nI (ag P A k 0)) b hc) _ = _
      rw [nI_add, C_least (by omega) (by omega) (by omega) hg, bnd_s]
    · rw [f_M_odds, eM, hq.1, hq.2]
      show bnd (f_M_throwsIf (bI false) hm) _ = _
      rw [M_thr, bnd_s, if_pos (show bI false = 0 from rfl), show bI false = nI 0 from rfl, ea, M_forOf w3 w4 (by omega) m2 ha h64.1, bnd_s, M_allOf w3 w4 (by omega) m2 ha h64.1, bnd_s, M_part (by omega) (by omega) (by omega) hg, bnd_s]
  · have hq : (inb a (P 0 3) && inb b 2) = false := hq
    refine ⟨nI 0, sI hm 0 0 (nI 1), ?_, sI_e, Rel_th q⟩
    rw [f_M_odds, eM, hq]
    show bnd (f_M_throwsIf (bI true) hm) _ = _
    rw [M_thr, bnd_s, if_neg (show ¬ bI true = 0 by decide)]
    rfl
theorem T_value {F : Nat} (hF : 20000 ≤ F) (a b : Int32) : SimT (f_LC_value F a b) (f_M_value F a b) (fun P _ => inb a (P 0 5) && inb b (P 0 3)) := by
  intro P A hc hm q
  obtain ⟨c, m, W, Y, -⟩ := id q
  obtain ⟨⟨wN, wNM, wM, wCo, w3, w4, w5, wC, wD, wK⟩, wAc, wAk, wAw, wAf⟩ := id W
  have eM : ∀ K : Int32 → HS → Option (Int32 × HS), bnd (f_M_isClerk a hm) (fun r2 h1 => bl K (fun J3 => bl (fun h11 => J3 (nI 1) h11) (fun J10 => if r2 = 0 then J10 h1 else bnd (f_M_isCause b h1) (fun r13 h12 => if r13 = 0 then J10 h12 else J3 (nI 0) h12)))) = K (bI (!(inb a (P 0 5) && inb b (P 0 3)))) hm := fun K => by
    dsimp only [bl]
    rw [M_isClerk w5 m, bnd_s, ite_b0, M_isCause w3 m, bnd_s, ite_b0]
    cases inb a (P 0 5) <;> cases inb b (P 0 3) <;> rfl
  refine ⟨fun hq => ?_, fun hq => ?_⟩
  · have hq : inb a (P 0 5) = true ∧ inb b (P 0 3) = true := by simpa using hq
    obtain ⟨ha, ea⟩ := inb_ex hq.1
    obtain ⟨hb, eb⟩ := inb_ex hq.2
    have q2 := Rel_th (v := nI 0) q
    obtain ⟨-, m2, -⟩ := id q2
    generalize a.toNatClampNeg = k at ha ea
    generalize b.toNatClampNeg = w at hb eb
    obtain ⟨f, e1⟩ := C_valueFor (F := F) (by omega) W ha hb c Y
    obtain ⟨f2, e2⟩ := M_valueOf (F := F) (by omega) W ha hb m2
    refine ⟨valI P A k w, st hc 35 f, st (sI hm 0 0 (nI 0)) 9 f2, P, A, ?_, ?_, by rw [st_o (by decide)]; exact sI_e, Rel_tab q2⟩
    · rw [f_LC_value, C_hasClerk w5 c.1, bnd_s]
      dsimp only [bl]
      rw [ite_b0, if_pos hq.1, C_hasCause w3 c.1, bnd_s, ite_b0, if_pos hq.2, ea, eb, e1, bnd_s]
    · rw [f_M_value, eM, hq.1, hq.2]
      show bnd (f_M_throwsIf (bI false) hm) _ = _
      rw [M_thr, bnd_s, if_pos (show bI false = 0 from rfl), show bI false = nI 0 from rfl, ea, eb, e2, bnd_s]
  · have hq : (inb a (P 0 5) && inb b (P 0 3)) = false := hq
    refine ⟨nI 0, sI hm 0 0 (nI 1), ?_, sI_e, Rel_th q⟩
    rw [f_M_value, eM, hq]
    show bnd (f_M_throwsIf (bI true) hm) _ = _
    rw [M_thr, bnd_s, if_neg (show ¬ bI true = 0 by decide)]
    rfl
theorem T_fair {F : Nat} (hF : 20000 ≤ F) (a b : Int32) : SimT (f_LC_fair F a b) (f_M_fair F a b) (fun P A => inb a (P 0 3) && (inb b 2 && decide (fo P A a.toNatClampNeg 0 ≠ 0))) := by
  intro P A hc hm q
  obtain ⟨c, m, W, Y, -⟩ := id q
  obtain ⟨⟨wN, wNM, wM, wCo, w3, w4, w5, wC, wD, wK⟩, wAc, wAk, wAw, wAf⟩ := id W
  have h64 := p64 w4
  have eM : ∀ K : Int32 → HS → Option (Int32 × HS), bnd (f_M_isCause a hm) (fun r2 h1 => bl K (fun J3 => bl (fun h11 => J3 (nI 1) h11) (fun J10 => if r2 = 0 then J10 h1 else bnd (f_M_isIn b (nI 0) (nI 1) h1) (fun r13 h12 => if r13 = 0 then J10 h12 else (if inb ((nI 78) + a) 332 = true then (if (h12.1 2 ((nI 78) + a).toNatClampNeg) = 0 then J10 h12 else J3 (nI 0) h12) else none))))) = K (bI (!(inb a (P 0 3) && (inb b 2 && decide (fo P A a.toNatClampNeg 0 ≠ 0))))) hm := fun K => by
    dsimp only [bl]
    rw [M_isCause w3 m, bnd_s, ite_b0]
    by_cases z : inb a (P 0 3) = true
    · obtain ⟨ha, ea⟩ := inb_ex z
      have h1 := fo_le W.1 A a.toNatClampNeg 0
      rw [if_pos z, M_isIn1, bnd_s, ite_b0, z]
      generalize a.toNatClampNeg = k at ha ea h1 ⊢
      rw [ea, nI_add, ifin (by omega) (by omega), nI_clamp (by omega), m_for m ha, ite_eq0 (by omega)]
      cases inb b 2
      · rfl
      · rw [if_pos rfl, Bool.true_and, Bool.true_and]
        by_cases y : fo P A k 0 = 0
        · rw [if_pos y, decide_eq_false (by simpa using y)]
          rfl
        · rw [if_neg y, decide_eq_true (by simpa using y)]
          rfl
    · rw [if_neg z, show inb a (P 0 3) = false by simpa using z]
      rfl
  refine ⟨fun hq => ?_, fun hq => ?_⟩
  · have hq : inb a (P 0 3) = true ∧ inb b 2 = true ∧ ¬ fo P A a.toNatClampNeg 0 = 0 := by simpa using hq
    obtain ⟨ha, ea⟩ := inb_ex hq.1
    have q2 := Rel_th (v := nI 0) q
    obtain ⟨-, m2, -⟩ := id q2
    have hq0 := hq.2.2
    have h1 := fo_le W.1 A a.toNatClampNeg 0
    have h2 := ag_le W.1 A a.toNatClampNeg 0
    have hd : decide (fo P A a.toNatClampNeg 0 ≠ 0) = true := decide_eq_true hq0
    have eM2 := fun K => eM K
    rw [hd, hq.1, hq.2.1] at eM2
    generalize a.toNatClampNeg = k at ha ea h1 h2 hq0
    have hg : 0 < Nat.gcd (ag P A k 0) (fo P A k 0) := Nat.gcd_pos_of_pos_right _ (by omega)
    refine ⟨if b = 0 then nI (ag P A k 0 / Nat.gcd (ag P A k 0) (fo P A k 0)) else nI (fo P A k 0 / Nat.gcd (ag P A k 0) (fo P A k 0)), hc, sI hm 0 0 (nI 0), P, A, ?_, ?_, sI_e, q2⟩
    · rw [f_LC_fair, C_hasCause w3 c.1, bnd_s]
      dsimp only [bl]
      have e3 : ∀ (X Y : Option (Int32 × HS)), (if b < 0 then X else (if nI 1 < b then X else Y)) = Y := fun X Y => by
        obtain ⟨hb, eb⟩ := inb_ex hq.2.1
        generalize b.toNatClampNeg = w at hb eb
        rw [eb, ite_lt0 (by omega), ite_ltN (by omega) (by omega), if_neg (by omega)]
      rw [ite_b0, if_pos hq.1, e3, ea, C_ofCause w3 c ha (by omega), bnd_s]
      show (if nI (fo P A k 0) = 0 then _ else _) = _
      rw [ite_eq0 (by omega), if_neg hq0, C_ofCause w3 c ha (by omega), bnd_s, C_ofCause w3 c ha (by omega), bnd_s]
      show bnd (f_LC_leastTerm F (nI (ag P A k 0)) (nI (fo P A k 0)) b hc) _ = _
      rw [C_least (by omega) (by omega) (by omega) hg, bnd_s]
    · rw [f_M_fair, eM2]
      show bnd (f_M_throwsIf (bI false) hm) _ = _
      rw [M_thr, bnd_s, if_pos (show bI false = 0 from rfl), show bI false = nI 0 from rfl, ea, nI_add, nI_add, ifin (by omega) (by omega), ifin (by omega) (by omega), nI_clamp (by omega), nI_clamp (by omega), m_ag m2 ha, m_for m2 ha, M_part (by omega) (by omega) (by omega) hg, bnd_s]
  · have hq : (inb a (P 0 3) && (inb b 2 && decide (fo P A a.toNatClampNeg 0 ≠ 0))) = false := hq
    refine ⟨nI 0, sI hm 0 0 (nI 1), ?_, sI_e, Rel_th q⟩
    rw [f_M_fair, eM, hq]
    show bnd (f_M_throwsIf (bI true) hm) _ = _
    rw [M_thr, bnd_s, if_neg (show ¬ bI true = 0 by decide)]
    rfl
