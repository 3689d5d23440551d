/-! ===== a SENTENCE: ONES joined, on both sides ===== -/
def HONE (F g0 : Nat) (K0 : HS → Option (Int32 × HS)) (P : Pl) (n : Nat) (B : Nat → Nat) (d : Nat) : Prop := ∀ (p a : Nat) (t : Nat × Nat) (m o v : Nat) (S : List Nat) (hc hm : HS), SS P n p a t B m o v 0 [] S hc hm → d = 1 + dc S → S.length ≤ 3 * dc S + 2 → m ≤ 2 * o → BADL F a K0 hc hm (f_Sent_rd F g0 false (nI d) hc) ∨ OKO F K0 P n a B m o v S hc hm (f_Sent_rd F g0 false (nI d) hc)
theorem LM_k1 {F a a2 : Nat} {K0 : HS → Option (Int32 × HS)} {hm h : HS} (ha : a ≤ 940) (h2 : a < a2) (e : hm.1 0 40 = nI 1) (e2 : ¬ hm.1 0 11 = nI 0) (eo : f_M_behind F hm = some (nI 1, h)) : ∀ g, 942 ≤ g + a → ∃ g2, 942 ≤ g2 + a2 ∧ LM F K0 g hm = LM F K0 g2 h := fun g hg => by
  obtain ⟨g, rfl⟩ : ∃ z, g = z + 1 := ⟨g - 1, by omega⟩
  exact ⟨g, by omega, by rw [LM_1 e e2, eo, bnd_s, if_neg (show ¬ nI 1 = 0 by decide)]⟩
theorem OKC_t {F a a1 n m o v : Nat} {K0 : HS → Option (Int32 × HS)} {P : Pl} {B : Nat → Nat} {S : List Nat} {hc hm hc1 hm1 : HS} {rc rc1 : Option (Int32 × HS)} (x : FX hc hm hc1 hm1) (ha : a ≤ a1) (l : ∀ g, 942 ≤ g + a → ∃ g2, 942 ≤ g2 + a1 ∧ LM F K0 g hm = LM F K0 g2 hm1) (y : OKC F K0 P n a1 B m o v S hc1 hm1 rc1) (h1 : rc = rc1) : OKC F K0 P n a B m o v S hc hm rc := by
  obtain ⟨p2, a2, t2, m2, o2, N, J, hc2, hm2, y1, y2, y3, y4, y5, y6, y7, y8, y9, y10, y11⟩ := y
  refine ⟨p2, a2, t2, m2, o2, N, J, hc2, hm2, h1.trans y1, y2, y3, y4, FX_t x y5, by omega, y7, y8, y9, y10, fun g hg => ?_⟩
  obtain ⟨g2, u1, u2⟩ := l g hg
  obtain ⟨g3, u3, u4⟩ := y11 g2 u1
  exact ⟨g3, u3, u2.trans u4⟩
theorem LM_tr {F a a1 a2 : Nat} {K0 : HS → Option (Int32 × HS)} {h h1 h2 : HS} (x : ∀ g, 942 ≤ g + a → ∃ g2, 942 ≤ g2 + a1 ∧ LM F K0 g h = LM F K0 g2 h1) (y : ∀ g, 942 ≤ g + a1 → ∃ g2, 942 ≤ g2 + a2 ∧ LM F K0 g h1 = LM F K0 g2 h2) : ∀ g, 942 ≤ g + a → ∃ g2, 942 ≤ g2 + a2 ∧ LM F K0 g h = LM F K0 g2 h2 := fun g hg => by
  obtain ⟨g2, u1, u2⟩ := x g hg
  obtain ⟨g3, u3, u4⟩ := y g2 u1
  exact ⟨g3, u3, u2.trans u4⟩
theorem SS_eq {P : Pl} {n p a m o v w : Nat} {t : Nat × Nat} {B : Nat → Nat} {Q L Q2 L2 : List Nat} {hc hm : HS} (q : SS P n p a t B m o v w Q L hc hm) (e1 : Q = Q2) (e2 : L = L2) : SS P n p a t B m o v w Q2 L2 hc hm := by
  subst e1 e2
  exact q
theorem k11 {t : Nat × Nat} {hc hm : HS} (q : TKr t hc hm) (h : t.1 ≠ 0) : ¬ hm.1 0 11 = nI 0 := fun e => h ((TK_k1 q).2.2.2.2.2.1.mp e)
theorem T_condL {F g0 n d m0 o0 v0 : Nat} {K0 : HS → Option (Int32 × HS)} {P : Pl} {B : Nat → Nat} {S : List Nat} (hF : 2000 ≤ F) (H : HONE F g0 K0 P n B d) (hd : d = 1 + dc S) (h9 : d ≤ 9) (hS : S.length ≤ 3 * dc S) (hdS : ∀ b M, S = b :: M → b = 23) (hm0 : m0 ≤ 2 * o0) : ∀ (j m o c w : Nat) (N J1 V : List Nat) (p a : Nat) (t : Nat × Nat) (hc hm : HS), 21 ≤ o + j → c < o → o0 < o → (∀ b, b ∈ N → b = 20) → (∀ b, b ∈ J1 → b = 21) → ((w = 0 ∧ V = []) ∨ (w = 1 ∧ V = [22])) → SS P n p a t B m o (v0 + 1 + w) 1 (N ++ J1) (N ++ (J1 ++ (V ++ S))) hc hm → m + N.length + J1.length + w + 1 + 2 * o0 ≤ m0 + 2 * o → ∀ g, j < g → BADL F a K0 hc hm (CLp F g0 d g (nI w) (nI c) hc) ∨ OKC F K0 P n a B m0 o0 v0 S hc hm (CLp F g0 d g (nI w) (nI c) hc) := by
  intro j
  induction j with
  | zero =>
    intro m o c w N J1 V p a t hc hm h1 h2 h3 hN hJ hV q hb g hg
    have := q.2.2.2.2.2.2.2.1
    omega
  | succ j ih =>
    intro m o c w N J1 V p a t hc hm h1 h2 h3 hN hJ hV q hb g hg
    obtain ⟨g, rfl⟩ : ∃ z, g = z + 1 := ⟨g - 1, by omega⟩
    have r := q.1
    have TK := r.2.2.2.2.2.2.2.2.2.2.2.2.2
    have ha := r.2.2.2.2.2.2.2.1
    have e40 := q.2.1.2.2.2.2.1
    have o20 := q.2.2.2.2.2.2.2.1
    have hVl : V.length = w := by rcases hV with ⟨x, y⟩ | ⟨x, y⟩ <;> subst x y <;> rfl
    have hVd : dc (V ++ S) = dc S := by rcases hV with ⟨x, y⟩ | ⟨x, y⟩ <;> subst x y <;> rfl
    have hw1 : w ≤ 1 := by rcases hV with ⟨x, y⟩ | ⟨x, y⟩ <;> omega
    have lVS : (V ++ S).length ≤ 1 + 3 * dc S := by rw [List.length_append]; omega
    by_cases hA : isW t 11 = true
    · have t1 := isW_1 hA
      obtain ⟨hm2, hm3, a1, a2, a3, a4, a5⟩ := T_nj (x := 21) (Q := []) (L := V ++ S) hF (Or.inl rfl) hN (fun b hb => Or.inl (hJ b hb)) (fun b M e => by
        rcases hV with ⟨x, y⟩ | ⟨x, y⟩
        · subst y
          have := hdS b M e
          omega
        · subst y
          have := (List.cons.inj e).1
          omega) (SS_eq q (by rw [List.append_nil]) rfl)
      have eB := M_behA a1 a3 a2 a4.1.2.2.2.2.2.2.2.2.2.2.2.2.2 hA
      obtain ⟨p2, b2, t2, hc2, hm4, b3, b4, b5, b6, b7⟩ := T_pshJ (b := 21) hF (Or.inl rfl) a4 t1 (by omega)
      have L1 := LM_k1 (F := F) (K0 := K0) (a2 := b2) ha b7 e40 (k11 TK (by omega)) (eB.trans b4)
      have fx := FX_t a5 b6
      have cl := CL_and (F := F) (g0 := g0) (d := d) (g := g) (x4 := nI w) TK (show c < 20 by omega) hA
      rw [b3, bnd_s] at cl
      rcases H p2 b2 t2 _ o _ _ hc2 hm4 b5 (by rw [dc_21 (Or.inl rfl), hVd]; exact hd) (by show (V ++ S).length + 1 ≤ _; rw [dc_21 (Or.inl rfl), hVd]; omega) (by omega) with bad | ⟨p3, c2, t3, m3, o3, N3, hc3, hm5, c3, c4, c5, c6, c7, c8, c9, c10⟩
      · refine Or.inl (BADL_t fx L1 bad (fun h e => ?_))
        rw [cl, e, bnd_s, if_pos (show nI 0 = 0 from rfl), rZ0]
      · obtain ⟨hc4, d1, d2, d3⟩ := T_addq (b := 21) (v2 := v0 + 1 + w) c5 (Or.inr ⟨Or.inl rfl, by omega, rfl⟩) (by have := c5.2.2.2.2.2.2.2.1; omega)
        rw [c3, bnd_s, if_neg (show ¬ nI 1 = 0 by decide), show f_Sent_add_46 (nI 1) (nI 0) (nI 0) hc3 = _ from d1, bnd_s] at cl
        have fx2 := FX_t fx (FX_t c6 d3)
        have L2 := LM_tr L1 c10
        rcases ih m3 o3 (c + 1) w N3 [21] V p3 c2 t3 hc4 hm5 (by omega) (by omega) (by omega) c4 (fun b hb => by simpa using hb) hV d2 (by show m3 + N3.length + 1 + w + 1 + 2 * o0 ≤ _; omega) g (by omega) with bad | ok
        · exact Or.inl (BADL_t fx2 L2 bad (fun h e => cl.trans e))
        · exact Or.inr (OKC_t fx2 (by omega) L2 ok cl)
    · have hA : isW t 11 = false := by cases h : isW t 11 <;> first | rfl | exact absurd h hA
      have KK : ∃ hcA, CLp F g0 d (g + 1) (nI w) (nI c) hc = bnd (f_Tape_takeWord F 10 hcA) (fun r21 h20 => if r21 = 0 then rZ (nI 1) h20 else bnd (f_Sent_rd F g0 false (nI d) h20) (fun r12 h11 => if r12 = 0 then rZ (nI 0) h11 else CLp F g0 d g r21 (nI (c + 1)) h11)) ∧ SS P n p a t B m o (v0 + 1) 1 (N ++ (J1 ++ V)) (N ++ ((J1 ++ V) ++ S)) hcA hm ∧ FX hc hm hcA hm := by
        rcases hV with ⟨x, y⟩ | ⟨x, y⟩
        · subst x y
          exact ⟨hc, CL_n0 TK (by omega) hA, SS_eq q (by rw [List.append_nil]) (by rw [List.append_nil]; rfl), FX_rf⟩
        · subst x y
          obtain ⟨hcA, d1, d2, d3⟩ := T_addq (b := 22) (v2 := v0 + 1) q (Or.inr ⟨Or.inr rfl, by omega, rfl⟩) (by rw [List.length_append]; omega)
          refine ⟨hcA, ?_, SS_eq d2 (by rw [List.append_assoc]) (by rw [List.append_assoc]), d3⟩
          rw [CL_n1 TK (by omega) hA, show f_Sent_add_46 (nI 2) (nI 0) (nI 0) hc = _ from d1, bnd_s]
      obtain ⟨hcA, cl, qA, fxA⟩ := KK
      have TKA := qA.1.2.2.2.2.2.2.2.2.2.2.2.2.2
      have hJV : ∀ b, b ∈ J1 ++ V → b = 21 ∨ b = 22 := fun b hb => by
        rcases List.mem_append.mp hb with h | h
        · exact Or.inl (hJ b h)
        · rcases hV with ⟨x, y⟩ | ⟨x, y⟩
          · subst y; exact absurd h (List.not_mem_nil)
          · subst y; exact Or.inr (by simpa using h)
      rw [f_Tape_takeWord, C_isW TKA (by decide), bnd_s] at cl
      by_cases hO : isW t 10 = true
      · have t1 := isW_1 hO
        rw [hO, if_neg (show ¬ bI true = 0 by decide)] at cl
        obtain ⟨hm2, hm3, a1, a2, a3, a4, a5⟩ := T_nj (x := 22) (Q := []) (L := S) (J := J1 ++ V) hF (Or.inr rfl) hN (fun b hb => by
          rcases hJV b hb with h | h
          · exact Or.inl h
          · exact Or.inr ⟨h, rfl⟩) (fun b M e => by
          have := hdS b M e
          omega) (SS_eq qA (by rw [List.append_nil]) rfl)
        have eB := M_behO a1 a3 a2 a4.1.2.2.2.2.2.2.2.2.2.2.2.2.2 hA hO
        obtain ⟨p2, b2, t2, hc2, hm4, b3, b4, b5, b6, b7⟩ := T_pshJ (b := 22) hF (Or.inr rfl) a4 t1 (by omega)
        have L1 := LM_k1 (F := F) (K0 := K0) (a2 := b2) ha b7 e40 (k11 TK (by omega)) (eB.trans b4)
        have fx := FX_t fxA (FX_t a5 b6)
        have lJ : (J1 ++ V).length = J1.length + w := by rw [List.length_append, hVl]
        rw [b3, bnd_s, rZ1, bnd_s, if_neg (show ¬ nI 1 = 0 by decide)] at cl
        rcases H p2 b2 t2 _ o _ _ hc2 hm4 b5 (by rw [dc_21 (Or.inr rfl)]; exact hd) (by show S.length + 1 ≤ _; rw [dc_21 (Or.inr rfl)]; omega) (by omega) with bad | ⟨p3, c2, t3, m3, o3, N3, hc3, hm5, c3, c4, c5, c6, c7, c8, c9, c10⟩
        · refine Or.inl (BADL_t fx L1 bad (fun h e => ?_))
          rw [cl, e, bnd_s, if_pos (show nI 0 = 0 from rfl), rZ0]
        · rw [c3, bnd_s, if_neg (show ¬ nI 1 = 0 by decide)] at cl
          have fx2 := FX_t fx c6
          have L2 := LM_tr L1 c10
          rcases ih m3 o3 (c + 1) 1 N3 [] [22] p3 c2 t3 hc3 hm5 (by omega) (by omega) (by omega) c4 (fun b hb => absurd hb (List.not_mem_nil)) (Or.inr ⟨rfl, rfl⟩) (SS_eq c5 (by rw [List.append_nil]) rfl) (by show m3 + N3.length + 0 + 1 + 1 + 2 * o0 ≤ _; omega) g (by omega) with bad | ok
          · exact Or.inl (BADL_t fx2 L2 bad (fun h e => cl.trans e))
          · exact Or.inr (OKC_t fx2 (by omega) L2 ok cl)
      · have hO : isW t 10 = false := by cases h : isW t 10 <;> first | rfl | exact absurd h hO
        rw [hO, if_pos (show bI false = 0 from rfl), rZ0, bnd_s, if_pos (show nI 0 = 0 from rfl), rZ1] at cl
        exact Or.inr ⟨p, a, t, m, o, N, J1 ++ V, hcA, hm, cl, hN, hJV, qA, fxA, Nat.le_refl _, h3, by rw [List.length_append, hVl]; omega, hA, hO, fun g hg => ⟨g, hg, rfl⟩⟩
