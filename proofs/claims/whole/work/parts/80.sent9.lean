/-! ===== a SENTENCE: any condition, on both sides ===== -/
def HCOND (F g0 : Nat) (K0 : HS → Option (Int32 × HS)) (P : Pl) (n : Nat) (B : Nat → Nat) (d : Nat) : Prop := ∀ (p a : Nat) (t : Nat × Nat) (m o v : Nat) (S : List Nat) (hc hm : HS), SS P n p a t B m o v 0 [] S hc hm → d = 1 + dc S → S.length ≤ 3 * dc S → (∀ b M, S = b :: M → b = 23) → m ≤ 2 * o → BADL F a K0 hc hm (f_Sent_rd F g0 true (nI d) hc) ∨ OKC F K0 P n a B m o v S hc hm (f_Sent_rd F g0 true (nI d) hc)
theorem LM_b1 {F a : Nat} {K0 : HS → Option (Int32 × HS)} {hm h : HS} (ha : a ≤ 940) (e : hm.1 0 40 = nI 1) (e2 : ¬ hm.1 0 11 = nI 0) (eo : f_M_behind F hm = some (nI 0, h)) : ∀ g, 942 ≤ g + a → LM F K0 g hm = kB h := fun g hg => by
  obtain ⟨g, rfl⟩ : ∃ z, g = z + 1 := ⟨g - 1, by omega⟩
  rw [LM_1 e e2, eo, bnd_s, if_pos (show nI 0 = 0 from rfl)]
theorem OKO_t {F a a1 n m o m1 o1 v : Nat} {K0 : HS → Option (Int32 × HS)} {P : Pl} {B : Nat → Nat} {S S1 : List Nat} {hc hm hc1 hm1 : HS} {rc : Option (Int32 × HS)} (x : FX hc hm hc1 hm1) (ha : a ≤ a1) (l : ∀ g, 942 ≤ g + a → ∃ g2, 942 ≤ g2 + a1 ∧ LM F K0 g hm = LM F K0 g2 hm1) (y : ∃ p2 a2 t2 m2 o2 N hc2 hm2, rc = some (nI 1, hc2) ∧ (∀ b, b ∈ N → b = 20) ∧ SS P n p2 a2 t2 B m2 o2 (v + 1) 1 N (N ++ S) hc2 hm2 ∧ FX hc1 hm1 hc2 hm2 ∧ a1 ≤ a2 ∧ a < a2 ∧ o < o2 ∧ m2 + N.length + 1 + 2 * o ≤ m + 2 * o2 ∧ ∀ g, 942 ≤ g + a1 → ∃ g2, 942 ≤ g2 + a2 ∧ LM F K0 g hm1 = LM F K0 g2 hm2) : OKO F K0 P n a B m o v S hc hm rc := by
  obtain ⟨p2, a2, t2, m2, o2, N, hc2, hm2, y1, y2, y3, y4, y5, y6, y7, y8, y9⟩ := y
  exact ⟨p2, a2, t2, m2, o2, N, hc2, hm2, y1, y2, y3, FX_t x y4, y6, y7, y8, LM_tr l y9⟩
/-- a NOT -/
theorem T_oneN {F g n p a m o v d : Nat} {K0 : HS → Option (Int32 × HS)} {P : Pl} {t : Nat × Nat} {B : Nat → Nat} {S : List Nat} {hc hm : HS} (hF : 2000 ≤ F) (H : HONE F g K0 P n B (d + 1)) (q : SS P n p a t B m o v 0 [] S hc hm) (hd : d = 1 + dc S) (hS : S.length ≤ 3 * dc S + 2) (ho : o < 20) (h8 : d ≤ 8) (ht : t.1 = 1) (h12 : isW t 12 = true) (e1 : stp t = nI 0) (hm38 : m ≤ 2 * o) : BADL F a K0 hc hm (f_Sent_rd F (g + 1) false (nI d) hc) ∨ OKO F K0 P n a B m o v S hc hm (f_Sent_rd F (g + 1) false (nI d) hc) := by
  have r := q.1
  have TK := r.2.2.2.2.2.2.2.2.2.2.2.2.2
  have ha := r.2.2.2.2.2.2.2.1
  have e40 := q.2.1.2.2.2.2.1
  obtain ⟨p2, a2, t2, hc2, hm2, b1, b2, b3, b4, b5⟩ := T_oneK (g := g) hF q hd (by rw [e1]; decide) (Or.inl ht) (M_operN TK h12) ho h8
  obtain ⟨hm3, c1, c2, c3⟩ := T_pshM (b := 20) (Or.inl rfl) b3 (by omega)
  have L1 := LM_ok (F := F) (K0 := K0) ha b5 e40 (b2.trans c1)
  have fx := FX_t b4 c3
  have eC : f_Sent_rd F (g + 1) false (nI d) hc = bnd (f_Sent_rd F g false (nI (d + 1)) hc2) (fun (r18 : Int32) (h17 : HS) => (if r18 = 0 then rZ (nI 0) h17 else bnd (f_Sent_add_46 (nI 0) (nI 0) (nI 0) h17) (fun (r20 : Int32) (h19 : HS) => (if r20 = 0 then rZ (nI 0) h19 else rZ (nI 1) h19)))) := by
    rw [b1, swC, e1, if_pos rfl, nI_add]
  rcases H p2 a2 t2 m (o + 1) v (20 :: S) hc2 hm3 c2 (by rw [dc_20 (Or.inl rfl)]; omega) (by show S.length + 1 ≤ _; rw [dc_20 (Or.inl rfl)]; omega) (by omega) with bad | ⟨p3, a3, t3, m3, o3, N3, hc3, hm4, d1, d2, d3, d4, d5, d6, d7, d8⟩
  · refine Or.inl (BADL_t fx L1 bad (fun h e => ?_))
    rw [eC, e, bnd_s, if_pos (show nI 0 = 0 from rfl), rZ0]
  · obtain ⟨hc4, u1, u2, u3⟩ := T_addq (b := 20) (v2 := v + 1) d3 (Or.inl ⟨rfl, by omega, rfl⟩) (by have := d3.2.2.2.2.2.2.2.1; omega)
    rw [d1, bnd_s, if_neg (show ¬ nI 1 = 0 by decide), show f_Sent_add_46 (nI 0) (nI 0) (nI 0) hc3 = _ from u1, bnd_s, if_neg (show ¬ nI 1 = 0 by decide), rZ1] at eC
    refine Or.inr ⟨p3, a3, t3, m3, o3, N3 ++ [20], hc4, hm4, eC, fun b hb => ?_, SS_eq u2 rfl (by rw [List.append_assoc]; rfl), FX_t fx (FX_t d4 u3), by omega, by omega, by rw [List.length_append]; show m3 + (N3.length + 1) + 1 + 2 * o ≤ _; omega, LM_tr L1 d8⟩
    rcases List.mem_append.mp hb with h | h
    · exact d2 b h
    · simpa using h
/-- a bracket -/
theorem T_oneP {F g n p a m o v d : Nat} {K0 : HS → Option (Int32 × HS)} {P : Pl} {t : Nat × Nat} {B : Nat → Nat} {S : List Nat} {hc hm : HS} (hF : 2000 ≤ F) (H : HCOND F g K0 P n B (d + 1)) (q : SS P n p a t B m o v 0 [] S hc hm) (hd : d = 1 + dc S) (hS : S.length ≤ 3 * dc S + 2) (ho : o < 20) (h8 : d ≤ 8) (ht : t = (3, 40)) (h12 : isW t 12 = false) (e1 : stp t = nI 9) (hm38 : m ≤ 2 * o) : BADL F a K0 hc hm (f_Sent_rd F (g + 1) false (nI d) hc) ∨ OKO F K0 P n a B m o v S hc hm (f_Sent_rd F (g + 1) false (nI d) hc) := by
  have r := q.1
  have TK := r.2.2.2.2.2.2.2.2.2.2.2.2.2
  have ha := r.2.2.2.2.2.2.2.1
  have e40 := q.2.1.2.2.2.2.1
  obtain ⟨p2, a2, t2, hc2, hm2, b1, b2, b3, b4, b5⟩ := T_oneK (g := g) hF q hd (by rw [e1]; decide) (Or.inr (Or.inr (by rw [ht]))) (M_operP TK h12 ht) ho h8
  obtain ⟨hm3, c1, c2, c3⟩ := T_pshM (b := 23) (Or.inr rfl) b3 (by omega)
  have L1 := LM_ok (F := F) (K0 := K0) ha b5 e40 (b2.trans c1)
  have fx := FX_t b4 c3
  have eC : f_Sent_rd F (g + 1) false (nI d) hc = bnd (f_Sent_rd F g true (nI (d + 1)) hc2) (fun (r26 : Int32) (h25 : HS) => (if r26 = 0 then rZ (nI 0) h25 else bnd (f_Tape_takeSign F (nI 41) h25) (fun (r28 : Int32) (h27 : HS) => (if r28 = 0 then rZ (nI 0) h27 else rZ (nI 1) h27)))) := by
    rw [b1, swC, e1, if_neg (show ¬ nI 9 = nI 0 by decide), if_neg (show ¬ nI 9 = nI 1 by decide), if_neg (show ¬ nI 9 = nI 2 by decide), if_neg (show ¬ nI 9 = nI 3 by decide), if_neg (show ¬ nI 9 = nI 4 by decide), if_neg (show ¬ nI 9 = nI 5 by decide), if_neg (show ¬ nI 9 = nI 6 by decide), if_neg (show ¬ nI 9 = nI 7 by decide), if_neg (show ¬ nI 9 = nI 8 by decide), if_pos rfl, nI_add]
  rcases H p2 a2 t2 m (o + 1) v (23 :: S) hc2 hm3 c2 (by rw [dc_20 (Or.inr rfl)]; omega) (by show S.length + 1 ≤ _; rw [dc_20 (Or.inr rfl)]; omega) (fun b M e => (List.cons.inj e).1.symm) (by omega) with bad | ⟨p3, a3, t3, m3, o3, N, J, hc3, hm4, d1, dN, dJ, d2, d3, d4, d5, d6, d7, d8, d9⟩
  · refine Or.inl (BADL_t fx L1 bad (fun h e => ?_))
    rw [eC, e, bnd_s, if_pos (show nI 0 = 0 from rfl), rZ0]
  · have TK3 := d2.1.2.2.2.2.2.2.2.2.2.2.2.2.2
    have ha3 := d2.1.2.2.2.2.2.2.2.1
    have f40 := d2.2.1.2.2.2.2.1
    have fx3 := FX_t fx d3
    have L3 := LM_tr L1 d9
    rw [d1, bnd_s, if_neg (show ¬ nI 1 = 0 by decide), C_tk TK3 (by omega)] at eC
    obtain ⟨hm5, hm6, u1, u2, u3, u4, u5⟩ := T_nj (x := 22) (Q := []) (L := 23 :: S) hF (Or.inr rfl) dN (fun b hb => by
      rcases dJ b hb with h | h
      · exact Or.inl h
      · exact Or.inr ⟨h, rfl⟩) (fun b M e => by
      have := (List.cons.inj e).1
      omega) (SS_eq d2 (by rw [List.append_nil]) rfl)
    have u4' := u4
    obtain ⟨r6, ⟨m1, m2', m3', m4, m5, m6⟩, cc, p1, s1, s2, dd, oo1, l1, l2, sd⟩ := u4'
    have m3'' : hm6.1 0 38 = nI (S.length + 1) := m3'
    have TK6 := r6.2.2.2.2.2.2.2.2.2.2.2.2.2
    by_cases z0 : t3.1 = 0
    · have zn : t3 ≠ (3, 41) := fun e => by rw [e] at z0; exact absurd z0 (by decide)
      rw [if_neg zn] at eC
      refine Or.inl (BADL_t fx3 L3 (rc1 := bnd (f_Tape_fail (nI 1) hc3) (fun r h => rZ r h)) (BADL_of u5 (T_fail 1 (by decide) r6) (fun h e => ?_) (fun h e => ?_)) (fun h e => ?_))
      · rw [e, bnd_s, rZ0]
      · intro g2 hg2
        obtain ⟨g2, rfl⟩ : ∃ z, g2 = z + 1 := ⟨g2 - 1, by omega⟩
        rw [LM_e f40 ((TK_k1 TK3).2.2.2.2.2.1.mpr z0), u1, bnd_s, u2, bnd_s, m3'', ite_le0 (by have : S.length + 1 ≤ 40 := l2; omega), if_neg (by omega), kE, e, bnd_s]
        rfl
      · rw [eC, e, bnd_s, if_pos (show nI 0 = 0 from rfl), rZ0]
    · have eB := M_behX u1 u3 u2 TK6 d7 d8
      by_cases zz : t3 = (3, 41)
      · rw [if_pos zz] at eC eB
        obtain ⟨w1, w2⟩ := SS_mv (w2 := 1) (L2 := S) (hm2 := sI (sI hm6 0 38 (nI S.length)) 0 39 (nI (1 + dc S))) u4 (Fr_t (Fr_sI (by decide)) (Fr_sI (by decide))) (F0r_t (F0r_sI (by decide)) (F0r_sI (by decide))) (by rw [sI_n (by decide), sI_e]) sI_e (by rw [sI_n (by decide), sI_n (by decide)]; exact m5) (by
          rw [sI_o (by decide), sI_o (by decide)]
          exact m6.2.2) rfl (by have : S.length + 1 ≤ 40 := l2; omega)
        obtain ⟨p4, a4, t4, hc4, hm7, y1, y2, y3, y4, y5, -, -⟩ := T_adv hF w1.1 (Or.inr (Or.inr (by rw [zz])))
        rw [m3'', ite_eq0 (by have : S.length + 1 ≤ 40 := l2; omega), if_neg (by omega), nI_sb (by omega), Nat.add_sub_cancel, bl_e, sI_n (show (39 : Nat) ≠ 38 by decide), m4, dc_20 (Or.inr rfl), nI_sb (by omega), show 1 + (dc S + 1) - 1 = 1 + dc S by omega, bl_e, y2, bnd_s, rZ1] at eB
        rw [y1, bnd_s, rZ1, bnd_s, if_neg (show ¬ nI 1 = 0 by decide), rZ1] at eC
        have L4 := LM_k1 (F := F) (K0 := K0) ha3 y4 f40 (k11 TK3 z0) eB
        exact Or.inr ⟨p4, a4, t4, m3 + N.length + J.length, o3, [], hc4, hm7, eC, fun b hb => absurd hb (List.not_mem_nil), SS_ts w1 y3 y5, FX_t fx3 (FX_t u5 (FX_t w2 (TS_fx y5))), by omega, by omega, by show m3 + N.length + J.length + 0 + 1 + 2 * o ≤ _; omega, LM_tr L3 L4⟩
      · rw [if_neg zz] at eC eB
        refine Or.inl (BADL_t fx3 L3 (rc1 := bnd (f_Tape_fail (nI 1) hc3) (fun r h => rZ r h)) (BADL_of u5 (T_fail 1 (by decide) r6) (fun h e => ?_) (fun h e => ?_)) (fun h e => ?_))
        · rw [e, bnd_s, rZ0]
        · refine LM_b1 ha3 f40 (k11 TK3 z0) ?_
          rw [eB, e, bnd_s, rZ0]
        · rw [eC, e, bnd_s, if_pos (show nI 0 = 0 from rfl), rZ0]
theorem T_rd {F n : Nat} {K0 : HS → Option (Int32 × HS)} {P : Pl} {B : Nat → Nat} (hF : 2000 ≤ F) : ∀ (g d : Nat), 1 ≤ d → d ≤ 9 → (2 * (9 - d) + 1 ≤ g → HONE F g K0 P n B d) ∧ (2 * (9 - d) + 2 ≤ g → HCOND F g K0 P n B d) := by
  intro g
  induction g with
  | zero => exact fun d _ _ => ⟨fun h => by omega, fun h => by omega⟩
  | succ g ih =>
    intro d hd1 hd9
    refine ⟨fun hg => ?_, fun hg => ?_⟩
    · intro p a t m o v S hc hm q hd hS hm38
      have TK := q.1.2.2.2.2.2.2.2.2.2.2.2.2.2
      have o20 := q.2.2.2.2.2.2.2.1
      have lim : (o = 20 ∨ 8 < d) ∨ (o < 20 ∧ d ≤ 8) := by omega
      rcases OPC t with ⟨x1, x2, x3⟩ | ⟨x1, x2, x3, x4⟩ | ⟨k, hk, x1, x2, x3, x4, x5, x6⟩ | ⟨x1, x2, x3, x4, x5⟩ | ⟨k, hk1, hk, x1, x2, x3, x4, x5⟩ | ⟨x1, x2, x3, x4⟩
      · rcases lim with l | ⟨l1, l2⟩
        · exact Or.inl (T_oneX q hd (by rw [x3]; decide) (M_operP TK x2 x1) l)
        · exact T_oneP hF ((ih (d + 1) (by omega) (by omega)).2 (by omega)) q hd hS l1 l2 x1 x2 x3 hm38
      · rcases lim with l | ⟨l1, l2⟩
        · exact Or.inl (T_oneX q hd (by rw [x4]; decide) (M_operN TK x3) l)
        · exact T_oneN hF ((ih (d + 1) (by omega) (by omega)).1 (by omega)) q hd hS l1 l2 x1 x3 x4 hm38
      · rcases lim with l | ⟨l1, l2⟩
        · exact Or.inl (T_oneX q hd (by rw [x4]; decide) (M_operL TK x3 x2 (by rw [x6, nI_zero]; exact (nI_leI (by omega) (by omega)).mpr (Nat.zero_le _))) l)
        · exact Or.inr (T_oneS hF q hd l1 l2 hk x1 x2 x3 x4 x5 x6 hm38)
      · rcases lim with l | ⟨l1, l2⟩
        · exact Or.inl (T_oneX q hd (by rw [x4]; decide) (M_operL TK x3 x2 (by rw [x5]; decide)) l)
        · exact T_oneH hF q hd l1 l2 x1 x2 x3 x4 x5 hm38
      · rcases lim with l | ⟨l1, l2⟩
        · exact Or.inl (T_oneX q hd (by rw [x4]; rcases (show k = 1 ∨ k = 2 ∨ k = 3 ∨ k = 4 by omega) with e | e | e | e <;> subst e <;> decide) (M_operL TK x3 x2 (by rw [x5, nI_zero]; exact (nI_leI (by omega) (by omega)).mpr (Nat.zero_le _))) l)
        · exact T_oneM hF q hd l1 l2 hk1 hk x1 x2 x3 x4 x5 hm38
      · exact Or.inl (T_one0 q x2 x1 x3 x4)
    · intro p a t m o v S hc hm q hd hS hdS hm38
      have H := (ih d hd1 hd9).1 (by omega)
      have eC : f_Sent_rd F (g + 1) true (nI d) hc = bnd (f_Sent_rd F g false (nI d) hc) (fun r2 h1 => if r2 = 0 then rZ (nI 0) h1 else CLp F g d F (nI 0) (nI 0) h1) := by
        rw [f_Sent_rd]
        rfl
      rcases H p a t m o v S hc hm q hd (by omega) hm38 with bad | ⟨p3, a3, t3, m3, o3, N3, hc3, hm4, d1, d2, d3, d4, d5, d6, d7, d8⟩
      · refine Or.inl (BADL_t FX_rf (fun g hg => ⟨g, hg, rfl⟩) bad (fun h e => ?_))
        rw [eC, e, bnd_s, if_pos (show nI 0 = 0 from rfl), rZ0]
      · rw [d1, bnd_s, if_neg (show ¬ nI 1 = 0 by decide)] at eC
        rcases T_condL (S := S) hF H hd hd9 hS hdS hm38 21 m3 o3 0 0 N3 [] [] p3 a3 t3 hc3 hm4 (by omega) (by omega) (by omega) d2 (fun b hb => absurd hb (List.not_mem_nil)) (Or.inl ⟨rfl, rfl⟩) (SS_eq d3 (by rw [List.append_nil]) rfl) (by show m3 + N3.length + 0 + 0 + 1 + 2 * o ≤ _; omega) F (by omega) with bad | ok
        · exact Or.inl (BADL_t d4 d8 bad (fun h e => eC.trans e))
        · exact Or.inr (OKC_t d4 (by omega) d8 ok eC)
