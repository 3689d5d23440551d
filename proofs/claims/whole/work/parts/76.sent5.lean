/-! ===== a SENTENCE: a ONE that holds no other ===== -/
def BADL (F a : Nat) (K0 : HS → Option (Int32 × HS)) (hc hm : HS) (rc : Option (Int32 × HS)) : Prop := ∃ hc2 hm2, rc = some (nI 0, hc2) ∧ FL hc2 hm2 ∧ FX hc hm hc2 hm2 ∧ ∀ g, 942 ≤ g + a → LM F K0 g hm = kB hm2
/-- a ONE was read: the NOTs ahead of it wait in the reference's stack -/
def OKO (F : Nat) (K0 : HS → Option (Int32 × HS)) (P : Pl) (n a : Nat) (B : Nat → Nat) (m o v : Nat) (S : List Nat) (hc hm : HS) (rc : Option (Int32 × HS)) : Prop := ∃ p2 a2 t2 m2 o2 N hc2 hm2, rc = some (nI 1, hc2) ∧ (∀ b, b ∈ N → b = 20) ∧ SS P n p2 a2 t2 B m2 o2 (v + 1) 1 N (N ++ S) hc2 hm2 ∧ FX hc hm hc2 hm2 ∧ a < a2 ∧ o < o2 ∧ m2 + N.length + 1 + 2 * o ≤ m + 2 * o2 ∧ ∀ g, 942 ≤ g + a → ∃ g2, 942 ≤ g2 + a2 ∧ LM F K0 g hm = LM F K0 g2 hm2
theorem BADL_of {F a : Nat} {K0 : HS → Option (Int32 × HS)} {hc hm hc1 hm1 : HS} {rc rc0 rm0 : Option (Int32 × HS)} (x : FX hc hm hc1 hm1) (y : BAD hc1 hm1 rc0 rm0) (h1 : ∀ h, rc0 = some (nI 0, h) → rc = some (nI 0, h)) (h2 : ∀ h, rm0 = some (nI 0, h) → ∀ g, 942 ≤ g + a → LM F K0 g hm = kB h) : BADL F a K0 hc hm rc := by
  obtain ⟨hc2, hm2, y1, y2, y3, y4⟩ := y
  exact ⟨hc2, hm2, h1 hc2 y1, y3, FX_t x y4, h2 hm2 y2⟩
/-- a step of the reference that fails -/
theorem LM_bad {F a : Nat} {K0 : HS → Option (Int32 × HS)} {hm h : HS} (ha : a ≤ 940) (e : hm.1 0 40 = nI 0) (eo : f_M_operand F hm = some (nI 0, h)) : ∀ g, 942 ≤ g + a → LM F K0 g hm = kB h := fun g hg => by
  obtain ⟨g, rfl⟩ : ∃ z, g = z + 1 := ⟨g - 1, by omega⟩
  rw [LM_0 e, eo, bnd_s, if_pos (show nI 0 = 0 from rfl)]
theorem LM_ok {F a a2 : Nat} {K0 : HS → Option (Int32 × HS)} {hm h : HS} (ha : a ≤ 940) (h2 : a < a2) (e : hm.1 0 40 = nI 0) (eo : f_M_operand F hm = some (nI 1, h)) : ∀ g, 942 ≤ g + a → ∃ g2, 942 ≤ g2 + a2 ∧ LM F K0 g hm = LM F K0 g2 h := fun g hg => by
  obtain ⟨g, rfl⟩ : ∃ z, g = z + 1 := ⟨g - 1, by omega⟩
  exact ⟨g, by omega, by rw [LM_0 e, eo, bnd_s, if_neg (show ¬ nI 1 = 0 by decide)]⟩
theorem T_one0 {F g n p a m o v : Nat} {K0 : HS → Option (Int32 × HS)} {P : Pl} {t : Nat × Nat} {B : Nat → Nat} {S : List Nat} {hc hm : HS} {a2 : Int32} (q : SS P n p a t B m o v 0 [] S hc hm) (h12 : isW t 12 = false) (h3 : t ≠ (3, 40)) (h1 : stp t = -1) (hz : ¬ 0 ≤ lfo t) : BADL F a K0 hc hm (f_Sent_rd F (g + 1) false a2 hc) := by
  obtain ⟨r, ms, -⟩ := q
  have TK := r.2.2.2.2.2.2.2.2.2.2.2.2.2
  have ha := r.2.2.2.2.2.2.2.1
  refine BADL_of FX_rf (T_fail 1 (by decide) r) (fun h e => ?_) (fun h e => ?_)
  · rw [C_one0 TK h1, e, bnd_s, rZ0]
  · refine LM_bad ha ms.2.2.2.2.1 ?_
    rw [M_oper0 TK h12 h3 hz, e, bnd_s, rZ0]
/-- too many, or too deep -/
theorem T_oneX {F g n p a m o v d : Nat} {K0 : HS → Option (Int32 × HS)} {P : Pl} {t : Nat × Nat} {B : Nat → Nat} {S : List Nat} {hc hm : HS} {K : HS → Option (Int32 × HS)} (q : SS P n p a t B m o v 0 [] S hc hm) (hd : d = 1 + dc S) (h1 : ¬ stp t = -1) (hop : f_M_operand F hm = opM F K hm) (hx : o = 20 ∨ 8 < d) : BADL F a K0 hc hm (f_Sent_rd F (g + 1) false (nI d) hc) := by
  have q0 := q
  obtain ⟨r, ms, c, p1, s1, s2, dd, o1, l1, l2, sd⟩ := q
  have TK := r.2.2.2.2.2.2.2.2.2.2.2.2.2
  have ha := r.2.2.2.2.2.2.2.1
  have dl : dc S ≤ S.length := by
    have : ∀ L : List Nat, dc L ≤ L.length := fun L => by
      induction L with
      | nil => exact Nat.le_refl _
      | cons b M ih =>
        show dc M + (if b = 20 ∨ b = 23 then 1 else 0) ≤ M.length + 1
        split <;> omega
    exact this S
  have TK2 : TKr t (sI hc 46 4 (hc.1 46 4 + nI 1)) hm := by
    unfold TKr at TK ⊢
    rw [sI_o (show (1 : Nat) ≠ 46 by decide)]
    exact TK
  refine BADL_of FX_rf (T_fail 4 (by decide) r) (fun h e => ?_) (fun h e => ?_)
  · rw [C_oneL TK TK2 h1, s2, ite_leN (by omega) (by omega), ite_leN (by omega) (by omega), e, bnd_s, rZ0]
    by_cases z : 20 ≤ o
    · rw [if_pos z]
    · rw [if_neg z, if_neg (by omega)]
  · refine LM_bad ha ms.2.2.2.2.1 ?_
    rw [hop, opM, ms.2.1, ms.2.2.2.1, ite_eqN (by omega) (by omega), ite_leN (by omega) (by omega), e, bnd_s, rZ0]
    by_cases z : o = 20
    · rw [if_pos z]
    · rw [if_neg z, if_neg (by omega)]
/-- the ONE is counted, and its first TOKEN left behind -/
theorem T_oneK {F g n p a m o v d : Nat} {P : Pl} {t : Nat × Nat} {B : Nat → Nat} {S : List Nat} {hc hm : HS} {K : HS → Option (Int32 × HS)} (hF : 2000 ≤ F) (q : SS P n p a t B m o v 0 [] S hc hm) (hd : d = 1 + dc S) (h1 : ¬ stp t = -1) (ht : t.1 = 1 ∨ t.1 = 2 ∨ t.1 = 3) (hop : f_M_operand F hm = opM F K hm) (ho : o < 20) (h8 : d ≤ 8) : ∃ p2 a2 t2 hc2 hm2, f_Sent_rd F (g + 1) false (nI d) hc = swC F g (nI d) (stp t) (sth t) hc2 ∧ f_M_operand F hm = K hm2 ∧ SS P n p2 a2 t2 B m (o + 1) v 0 [] S hc2 hm2 ∧ FX hc hm hc2 hm2 ∧ a < a2 := by
  obtain ⟨q1, fx⟩ := T_ones q ho
  obtain ⟨r, ms, c, p1, s1, s2, dd, o1, l1, l2, sd⟩ := q
  have TK := r.2.2.2.2.2.2.2.2.2.2.2.2.2
  have TK2 : TKr t (sI hc 46 4 (hc.1 46 4 + nI 1)) hm := by
    unfold TKr at TK ⊢
    rw [sI_o (show (1 : Nat) ≠ 46 by decide)]
    exact TK
  obtain ⟨p2, a2, t2, hc2, hm2, b1, b2, b3, b4, b5, -, -⟩ := T_adv hF q1.1 ht
  refine ⟨p2, a2, t2, hc2, hm2, ?_, ?_, SS_ts q1 b3 b5, FX_t fx (TS_fx b5), b4⟩
  · rw [C_oneL TK TK2 h1, s2, ite_leN (by omega) (by omega), ite_leN (by omega) (by omega), if_neg (show ¬ 20 ≤ o by omega), if_pos h8, nI_add, b1, bnd_s]
  · rw [hop, opM, ms.2.1, ms.2.2.2.1, ite_eqN (by omega) (by omega), ite_leN (by omega) (by omega), if_neg (show ¬ o = 20 by omega), if_pos (by omega), nI_add, b2, bnd_s]
theorem w1_mv {P : Pl} {n p a m o v : Nat} {t : Nat × Nat} {B : Nat → Nat} {S : List Nat} {hc hm : HS} (q : SS P n p a t B m o v 0 [] S hc hm) : SS P n p a t B m o v 1 [] S hc (sI hm 0 40 (nI 1)) ∧ FX hc hm hc (sI hm 0 40 (nI 1)) := by
  have q0 := q
  obtain ⟨r, ⟨m1, m2, m3, m4, m5, m6⟩, c, p1, s1, s2, dd, o1, l1, l2, sd⟩ := q
  exact SS_mv q0 (Fr_sI (by decide)) (F0r_sI (by decide)) (by rw [sI_n (by decide)]; exact m3) (by rw [sI_n (by decide)]; exact m4) sI_e (by rw [sI_o (by decide)]; exact m6) rfl l2
theorem T_oneS {F g n p a m o v d k : Nat} {K0 : HS → Option (Int32 × HS)} {P : Pl} {t : Nat × Nat} {B : Nat → Nat} {S : List Nat} {hc hm : HS} (hF : 2000 ≤ F) (q : SS P n p a t B m o v 0 [] S hc hm) (hd : d = 1 + dc S) (ho : o < 20) (h8 : d ≤ 8) (hk : k ≤ 4) (ht : t.1 = 1) (h3 : t ≠ (3, 40)) (h12 : isW t 12 = false) (e1 : stp t = nI 3) (e2 : sth t = nI k) (e3 : lfo t = nI k) (hm38 : m ≤ 2 * o) : OKO F K0 P n a B m o v S hc hm (f_Sent_rd F (g + 1) false (nI d) hc) := by
  have r := q.1
  have TK := r.2.2.2.2.2.2.2.2.2.2.2.2.2
  have ha := r.2.2.2.2.2.2.2.1
  have e40 := q.2.1.2.2.2.2.1
  obtain ⟨p2, a2, t2, hc2, hm2, b1, b2, b3, b4, b5⟩ := T_oneK (g := g) hF q hd (by rw [e1]; decide) (Or.inl ht) (M_operL TK h12 h3 (by rw [e3, nI_zero]; exact (nI_leI (by omega) (by omega)).mpr (Nat.zero_le _))) ho h8
  obtain ⟨c1, c2⟩ := w1_mv b3
  have r2 := c1.1
  obtain ⟨f1, f2, f3, f4, f5⟩ := cdW_f (h := sI hm2 0 40 (nI 1)) (m := m) (a0 := nI k) (a1 := nI 0) (a2 := nI 0)
  have r3 : RD n 200 p2 a2 t2 B hc2 (cdW (sI hm2 0 40 (nI 1)) m (nI k) (nI 0) (nI 0)) := RD_fr r2 rfl rfl rfl (fun i hi => f2 i (by
    have : ∀ x, x ∈ [3, 4, 5, 11, 12, 14, 15] → x ∉ [36] := by decide
    exact this i hi)) (f1 1 (by decide)).1 (by rw [f5])
  obtain ⟨hc3, d1, d2, d3⟩ := SS_leaf (a0 := nI 3) (a1 := nI k) (a9 := nI 0) (z0 := nI k) (z1 := nI 0) (z2 := nI 0) c1 (by have := c1.2.2.2.2.2.2.1.2.2; have := q.2.2.2.2.2.2.1.2.2; omega) (by omega) TS_rf r3 (Or.inl ⟨k, hk, rfl, rfl, rfl⟩)
  have eM : f_M_operand F hm = some (nI 1, cdW (sI hm2 0 40 (nI 1)) m (nI k) (nI 0) (nI 0)) := by
    rw [b2, leafM, bl_e, e3, ite_leN (by omega) (by omega), if_neg (by omega), E_code c1.2.1.1 (by omega), bnd_s, rZ1]
    rfl
  refine ⟨p2, a2, t2, m + 1, o + 1, [], hc3, _, ?_, fun b hb => absurd hb (List.not_mem_nil), d2, FX_t b4 (FX_t c2 d3), b5, by omega, by show m + 1 + 0 + 1 + 2 * o ≤ _; omega, LM_ok ha b5 e40 eM⟩
  rw [b1, swC, e1, e2, if_neg (show ¬ nI 3 = nI 0 by decide), if_neg (show ¬ nI 3 = nI 1 by decide), if_neg (show ¬ nI 3 = nI 2 by decide), if_pos rfl, d1, bnd_s, rZ1]
