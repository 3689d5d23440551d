/-! ===== a SENTENCE: what stands behind a ONE; ONES joined ===== -/
def pshJ (F x : Nat) (h11 : HS) : Option (Int32 × HS) := if inb (h11.1 0 38) 45 = true then bl (sI h11 14 (h11.1 0 38).toNatClampNeg (nI x)) (fun (h17 : HS) => bl (sI h17 0 38 ((h17.1 0 38) + (nI 1))) (fun (h18 : HS) => bl (sI h18 0 40 (nI 0)) (fun (h19 : HS) => bnd (f_M_next F h19) (fun (_ : Unit) (h20 : HS) => rZ (nI 1) h20)))) else none
theorem M_behA {F : Nat} {t : Nat × Nat} {hc hm hm2 hm3 : HS} (hn : f_M_nots F hm = some ((), hm2)) (k2 : TKr t hc hm2) (hj : f_M_joins F (nI 21) hm2 = some ((), hm3)) (k3 : TKr t hc hm3) (h : isW t 11 = true) : f_M_behind F hm = pshJ F 21 hm3 := by
  rw [f_M_behind, hn, bnd_s, M_isW k2 (w := 11) (by decide) (by decide +kernel), bnd_s, bl_e, h, if_neg (show ¬ bI true = 0 by decide)]
  show bnd (f_M_isWord (6385252 : Int64) hm2) _ = _
  rw [M_isW k2 (w := 11) (by decide) (by decide +kernel), bnd_s, bl_e, h, if_neg (show ¬ bI true = 0 by decide)]
  show bnd (f_M_joins F (nI 21) hm2) _ = _
  rw [hj, bnd_s, M_isW k3 (w := 11) (by decide) (by decide +kernel), bnd_s, bl_e, h, if_neg (show ¬ bI true = 0 by decide)]
  rfl
theorem M_behO {F : Nat} {t : Nat × Nat} {hc hm hm2 hm3 : HS} (hn : f_M_nots F hm = some ((), hm2)) (k2 : TKr t hc hm2) (hj : f_M_joins F (nI 22) hm2 = some ((), hm3)) (k3 : TKr t hc hm3) (h : isW t 11 = false) (h2 : isW t 10 = true) : f_M_behind F hm = pshJ F 22 hm3 := by
  rw [f_M_behind, hn, bnd_s, M_isW k2 (w := 11) (by decide) (by decide +kernel), bnd_s, bl_e, h, if_pos (show bI false = 0 from rfl), M_isW k2 (w := 10) (by decide) (by decide +kernel), bnd_s, h2, if_neg (show ¬ bI true = 0 by decide)]
  show bnd (f_M_isWord (6385252 : Int64) hm2) _ = _
  rw [M_isW k2 (w := 11) (by decide) (by decide +kernel), bnd_s, bl_e, h, if_pos (show bI false = 0 from rfl)]
  show bnd (f_M_joins F (nI 22) hm2) _ = _
  rw [hj, bnd_s, M_isW k3 (w := 11) (by decide) (by decide +kernel), bnd_s, bl_e, h, if_pos (show bI false = 0 from rfl)]
  rfl
theorem M_behX {F : Nat} {t : Nat × Nat} {hc hm hm2 hm3 : HS} (hn : f_M_nots F hm = some ((), hm2)) (k2 : TKr t hc hm2) (hj : f_M_joins F (nI 22) hm2 = some ((), hm3)) (k3 : TKr t hc hm3) (h : isW t 11 = false) (h2 : isW t 10 = false) : f_M_behind F hm = if t = (3, 41) then (if (hm3.1 0 38) = 0 then bnd (f_M_bad (nI 1) hm3) (fun (r29 : Int32) (h28 : HS) => rZ r29 h28) else bl (sI hm3 0 38 ((hm3.1 0 38) - (nI 1))) (fun (h30 : HS) => bl (sI h30 0 39 ((h30.1 0 39) - (nI 1))) (fun (h31 : HS) => bnd (f_M_next F h31) (fun (_ : Unit) (h32 : HS) => rZ (nI 1) h32)))) else bnd (f_M_bad (nI 1) hm3) (fun (r29 : Int32) (h28 : HS) => rZ r29 h28) := by
  rw [f_M_behind, hn, bnd_s, M_isW k2 (w := 11) (by decide) (by decide +kernel), bnd_s, bl_e, h, if_pos (show bI false = 0 from rfl), M_isW k2 (w := 10) (by decide) (by decide +kernel), bnd_s, h2, if_pos (show bI false = 0 from rfl), hj, bnd_s, M_sg k3 (by omega), bnd_s, bl_e, ite_b0]
  by_cases z : t = (3, 41)
  · rw [if_pos (decide_eq_true z), if_pos z]
  · rw [if_neg (show ¬ decide (t = (3, 41)) = true by simpa using z), if_neg z]
theorem T_nj {P : Pl} {F n p a m o v w x : Nat} {t : Nat × Nat} {B : Nat → Nat} {hc hm : HS} {N J Q L : List Nat} (hF : 2000 ≤ F) (hx : x = 21 ∨ x = 22) (hN : ∀ b, b ∈ N → b = 20) (hJ : ∀ b, b ∈ J → b = 21 ∨ (b = 22 ∧ x = 22)) (hd : ∀ b M, L = b :: M → b ≠ 20 ∧ b ≠ 21 ∧ (b = 22 → x ≠ 22)) (q : SS P n p a t B m o v w (N ++ (J ++ Q)) (N ++ (J ++ L)) hc hm) : ∃ hm2 hm3, f_M_nots F hm = some ((), hm2) ∧ f_M_joins F (nI x) hm2 = some ((), hm3) ∧ TKr t hc hm2 ∧ SS P n p a t B (m + N.length + J.length) o v w Q L hc hm3 ∧ FX hc hm hc hm3 := by
  have ln : (N ++ (J ++ L)).length ≤ 40 := q.2.2.2.2.2.2.2.2.2.1
  rw [List.length_append, List.length_append] at ln
  obtain ⟨hm2, a1, a2, a3⟩ := T_nots (F := F) (Q := J ++ Q) (L := J ++ L) (fun b M e => by
    cases J with
    | nil => exact (hd b M e).1
    | cons c J =>
      have := (List.cons.inj e).1
      have := hJ c (List.mem_cons_self ..)
      omega) N m hm hN q
  obtain ⟨hm3, b1, b2, b3⟩ := T_joins (F := F) (Q := Q) (L := L) hx (fun b M e => (hd b M e).2) J (m + N.length) hm2 hJ a2
  exact ⟨hm2, hm3, a1 F (by omega), b1 F (by omega), a2.1.2.2.2.2.2.2.2.2.2.2.2.2.2, b2, FX_t a3 b3⟩
/-- a join is laid on the stack -/
theorem T_pshJ {P : Pl} {F n p a m o v b : Nat} {t : Nat × Nat} {B : Nat → Nat} {hc hm : HS} {L : List Nat} (hF : 2000 ≤ F) (hb : b = 21 ∨ b = 22) (q : SS P n p a t B m o v 1 [] L hc hm) (ht : t.1 = 1) (hl : L.length < 40) : ∃ p2 a2 t2 hc2 hm2, f_Tape_advance F hc = some ((), hc2) ∧ pshJ F b hm = some (nI 1, hm2) ∧ SS P n p2 a2 t2 B m o v 0 [] (b :: L) hc2 hm2 ∧ FX hc hm hc2 hm2 ∧ a < a2 := by
  have q0 := q
  obtain ⟨r, ⟨m1, m2, m3, m4, m5, m6⟩, c, p1, s1, s2, dd, o1, l1, l2, sd⟩ := q
  obtain ⟨c1, c2⟩ := SS_mv (w2 := 0) (L2 := b :: L) (hm2 := sI (sI (sI hm 14 L.length (nI b)) 0 38 (nI (L.length + 1))) 0 40 (nI 0)) q0 (Fr_t (Fr_t (Fr_sI (by decide)) (Fr_sI (by decide))) (Fr_sI (by decide))) (fun k hk => by rw [sI_n (fun e => hk (by rw [e]; decide)), sI_n (fun e => hk (by rw [e]; decide)), sI_o (by decide)]) (by rw [sI_n (by decide), sI_e]; rfl) (by rw [sI_n (by decide), sI_n (by decide), sI_o (by decide), m4, dc_21 hb]) sI_e (by
    rw [sI_o (by decide), sI_o (by decide), sI_u]
    exact ⟨upd_e, by omega, stq_up (Nat.le_refl _) m6⟩) rfl hl
  obtain ⟨p2, a2, t2, hc2, hm2, d1, d2, d3, d4, d5, -, -⟩ := T_adv hF c1.1 (Or.inl ht)
  refine ⟨p2, a2, t2, hc2, hm2, d1, ?_, SS_ts c1 d3 d5, FX_t c2 (TS_fx d5), d4⟩
  rw [pshJ, m3, ifin (by omega) (by omega), nI_clamp (by omega), bl_e, sI_o (show (0 : Nat) ≠ 14 by decide), m3, nI_add, bl_e, bl_e, d2, bnd_s, rZ1]
/-- a NOT or a bracket is laid on the stack -/
theorem T_pshM {P : Pl} {n p a m o v b : Nat} {t : Nat × Nat} {B : Nat → Nat} {hc hm : HS} {L : List Nat} (hb : b = 20 ∨ b = 23) (q : SS P n p a t B m o v 0 [] L hc hm) (hl : L.length < 40) : ∃ hm2, pshM b hm = some (nI 1, hm2) ∧ SS P n p a t B m o v 0 [] (b :: L) hc hm2 ∧ FX hc hm hc hm2 := by
  have q0 := q
  obtain ⟨r, ⟨m1, m2, m3, m4, m5, m6⟩, c, p1, s1, s2, dd, o1, l1, l2, sd⟩ := q
  obtain ⟨c1, c2⟩ := SS_mv (w2 := 0) (L2 := b :: L) (hm2 := sI (sI (sI hm 14 L.length (nI b)) 0 38 (nI (L.length + 1))) 0 39 (nI (1 + dc L + 1))) q0 (Fr_t (Fr_t (Fr_sI (by decide)) (Fr_sI (by decide))) (Fr_sI (by decide))) (fun k hk => by rw [sI_n (fun e => hk (by rw [e]; decide)), sI_n (fun e => hk (by rw [e]; decide)), sI_o (by decide)]) (by rw [sI_n (by decide), sI_e]; rfl) (by rw [sI_e, dc_20 hb]; rfl) (by rw [sI_n (by decide), sI_n (by decide), sI_o (by decide)]; exact m5) (by
    rw [sI_o (by decide), sI_o (by decide), sI_u]
    exact ⟨upd_e, by omega, stq_up (Nat.le_refl _) m6⟩) rfl hl
  refine ⟨_, ?_, c1, c2⟩
  rw [pshM, m3, ifin (by omega) (by omega), nI_clamp (by omega), bl_e, sI_o (show (0 : Nat) ≠ 14 by decide), m3, nI_add, bl_e, sI_n (show (39 : Nat) ≠ 38 by decide), sI_o (show (0 : Nat) ≠ 14 by decide), m4, nI_add, bl_e, rZ1]
theorem BADL_t {F a a1 : Nat} {K0 : HS → Option (Int32 × HS)} {hc hm hc1 hm1 : HS} {rc rc1 : Option (Int32 × HS)} (x : FX hc hm hc1 hm1) (l : ∀ g, 942 ≤ g + a → ∃ g2, 942 ≤ g2 + a1 ∧ LM F K0 g hm = LM F K0 g2 hm1) (y : BADL F a1 K0 hc1 hm1 rc1) (h1 : ∀ h, rc1 = some (nI 0, h) → rc = some (nI 0, h)) : BADL F a K0 hc hm rc := by
  obtain ⟨hc2, hm2, y1, y2, y3, y4⟩ := y
  refine ⟨hc2, hm2, h1 hc2 y1, y2, FX_t x y3, fun g hg => ?_⟩
  obtain ⟨g2, u1, u2⟩ := l g hg
  rw [u2, y4 g2 u1]
/-- ONES joined were read -/
def OKC (F : Nat) (K0 : HS → Option (Int32 × HS)) (P : Pl) (n a : Nat) (B : Nat → Nat) (m o v : Nat) (S : List Nat) (hc hm : HS) (rc : Option (Int32 × HS)) : Prop := ∃ p2 a2 t2 m2 o2 N J hc2 hm2, rc = some (nI 1, hc2) ∧ (∀ b, b ∈ N → b = 20) ∧ (∀ b, b ∈ J → b = 21 ∨ b = 22) ∧ SS P n p2 a2 t2 B m2 o2 (v + 1) 1 (N ++ J) (N ++ (J ++ S)) hc2 hm2 ∧ FX hc hm hc2 hm2 ∧ a ≤ a2 ∧ o < o2 ∧ m2 + N.length + J.length + 1 + 2 * o ≤ m + 2 * o2 ∧ isW t2 11 = false ∧ isW t2 10 = false ∧ ∀ g, 942 ≤ g + a → ∃ g2, 942 ≤ g2 + a2 ∧ LM F K0 g hm = LM F K0 g2 hm2
def CLp (F g0 d g : Nat) (x4 x5 : Int32) (h : HS) : Option (Int32 × HS) := l_Sent_readCond_46_0 F (f_Sent_rd F g0 true) (f_Sent_rd F g0 false) (nI d) (fun (h25 : HS) => bnd (f_Tape_fail (nI 4) h25) (fun (r27 : Int32) (h26 : HS) => rZ r27 h26)) g x4 x5 h
theorem CL_and {F g0 d g c : Nat} {x4 : Int32} {t : Nat × Nat} {hc hm : HS} (q : TKr t hc hm) (hc20 : c < 20) (h : isW t 11 = true) : CLp F g0 d (g + 1) x4 (nI c) hc = bnd (f_Tape_advance F hc) (fun _ h10 => bnd (f_Sent_rd F g0 false (nI d) h10) (fun r12 h11 => if r12 = 0 then rZ (nI 0) h11 else bnd (f_Sent_add_46 (nI 1) (nI 0) (nI 0) h11) (fun _ h16 => CLp F g0 d g x4 (nI (c + 1)) h16))) := by
  unfold CLp
  rw [l_Sent_readCond_46_0, ite_leN (by omega) (by omega), if_neg (by omega), f_Tape_takeWord, C_isW q (by decide), bnd_s, h, if_neg (show ¬ bI true = 0 by decide)]
  cases f_Tape_advance F hc with
  | none => rfl
  | some z =>
    obtain ⟨u, h2⟩ := z
    rw [bnd_s, rZ1, bnd_s, bnd_s]
    dsimp only [bl]
    rw [if_neg (show ¬ nI 1 = 0 by decide)]
    congr 1
    funext r12 h11
    rw [nI_add, if_neg (show ¬ nI 1 = 0 by decide)]
theorem CL_n0 {F g0 d g c : Nat} {t : Nat × Nat} {hc hm : HS} (q : TKr t hc hm) (hc20 : c < 20) (h : isW t 11 = false) : CLp F g0 d (g + 1) (nI 0) (nI c) hc = bnd (f_Tape_takeWord F 10 hc) (fun r21 h20 => if r21 = 0 then rZ (nI 1) h20 else bnd (f_Sent_rd F g0 false (nI d) h20) (fun r12 h11 => if r12 = 0 then rZ (nI 0) h11 else CLp F g0 d g r21 (nI (c + 1)) h11)) := by
  unfold CLp
  rw [l_Sent_readCond_46_0, ite_leN (by omega) (by omega), if_neg (by omega), f_Tape_takeWord, C_isW q (by decide), bnd_s, h, if_pos (show bI false = 0 from rfl), rZ0, bnd_s]
  dsimp only [bl]
  rw [if_pos (show nI 0 = 0 from rfl), if_pos (show nI 0 = 0 from rfl)]
  congr 1
  funext r21 h20
  rw [nI_add]
  congr 1
theorem CL_n1 {F g0 d g c : Nat} {t : Nat × Nat} {hc hm : HS} (q : TKr t hc hm) (hc20 : c < 20) (h : isW t 11 = false) : CLp F g0 d (g + 1) (nI 1) (nI c) hc = bnd (f_Sent_add_46 (nI 2) (nI 0) (nI 0) hc) (fun _ h23 => bnd (f_Tape_takeWord F 10 h23) (fun r21 h20 => if r21 = 0 then rZ (nI 1) h20 else bnd (f_Sent_rd F g0 false (nI d) h20) (fun r12 h11 => if r12 = 0 then rZ (nI 0) h11 else CLp F g0 d g r21 (nI (c + 1)) h11))) := by
  unfold CLp
  rw [l_Sent_readCond_46_0, ite_leN (by omega) (by omega), if_neg (by omega), f_Tape_takeWord, C_isW q (by decide), bnd_s, h, if_pos (show bI false = 0 from rfl), rZ0, bnd_s]
  dsimp only [bl]
  rw [if_pos (show nI 0 = 0 from rfl), if_neg (show ¬ nI 1 = 0 by decide)]
  congr 1
  funext _ h23
  congr 1
  funext r21 h20
  rw [nI_add]
  congr 1
