/-! ===== a SENTENCE: codes, NOTs and joins of the reference, codes of the class ===== -/
theorem E_code {h : HS} {m : Nat} {a0 a1 a2 : Int32} (e : h.1 0 36 = nI m) (hm : m < 45) : f_M_code a0 a1 a2 h = some ((), sI (sI (sI (sI h 4 (3 * m) a0) 4 (3 * m + 1) a1) 4 (3 * m + 2) a2) 0 36 (nI (m + 1))) := by
  have e1 : ∀ (x : Nat) (v : Int32), (sI h 4 x v).1 0 36 = nI m := fun x v => by rw [sI_o (by decide), e]
  rw [f_M_code, e, nI_mul, ifin (by omega) (by omega), nI_clamp (by omega), bl_e, e1, nI_mul, nI_add, ifin (by omega) (by omega), nI_clamp (by omega), bl_e, sI_o (show (0 : Nat) ≠ 4 by decide), e1, nI_mul, nI_add, ifin (by omega) (by omega), nI_clamp (by omega), bl_e, sI_o (show (0 : Nat) ≠ 4 by decide), sI_o (show (0 : Nat) ≠ 4 by decide), e1, nI_add, bl_e]
def popW (hm : HS) (m b : Nat) (L : List Nat) : HS := sI (sI (sI (sI (sI (sI hm 0 38 (nI L.length)) 0 39 (nI (1 + dc L))) 4 (3 * m) (nI b)) 4 (3 * m + 1) (nI 0)) 4 (3 * m + 2) (nI 0)) 0 36 (nI (m + 1))
theorem T_pop {P : Pl} {n p a m o v w b : Nat} {t : Nat × Nat} {B : Nat → Nat} {Q L : List Nat} {hc hm : HS} (q : SS P n p a t B m o v w (b :: Q) (b :: L) hc hm) : SS P n p a t B (m + 1) o v w Q L hc (popW hm m b L) ∧ FX hc hm hc (popW hm m b L) := by
  obtain ⟨r, ⟨m1, m2, m3, m4, m5, m6⟩, c, ⟨pb, p1, p2⟩, s1, s2, d, o1, l1, l2, sd⟩ := q
  have l1' : m + (Q.length + 1) ≤ 40 := l1
  have l2' : L.length + 1 ≤ 40 := l2
  have z0 : ∀ k, k ≠ 36 → k ≠ 38 → k ≠ 39 → (popW hm m b L).1 0 k = hm.1 0 k := fun k h1 h2 h3 => by
    unfold popW
    rw [sI_n h1, sI_o (by decide), sI_o (by decide), sI_o (by decide), sI_n h3, sI_n h2]
  have fx : FX hc hm hc (popW hm m b L) := ⟨Fr_rf, Fr_t (Fr_t (Fr_t (Fr_t (Fr_t (Fr_sI (by decide)) (Fr_sI (by decide))) (Fr_sI (by decide))) (Fr_sI (by decide))) (Fr_sI (by decide))) (Fr_sI (by decide)), fun k hk => z0 k (fun e => hk (by rw [e]; decide)) (fun e => hk (by rw [e]; decide)) (fun e => hk (by rw [e]; decide)), fun _ _ => rfl⟩
  have z4 : ∀ k, (popW hm m b L).1 4 k = if k = 3 * m + 2 then nI 0 else if k = 3 * m + 1 then nI 0 else if k = 3 * m then nI b else hm.1 4 k := fun k => by
    unfold popW
    rw [sI_o (by decide), sI_u, sI_u, sI_u, sI_o (by decide), sI_o (by decide)]
    rfl
  refine ⟨⟨RD_fr r rfl rfl rfl (fun i hi => ?_) ?_ rfl, ⟨?_, ?_, ?_, ?_, ?_, ?_⟩, fun i hi => ?_, p2, ?_, s2, ?_, o1, by omega, by omega, SD_fx sd fx⟩, fx⟩
  · have : ∀ x, x ∈ [3, 4, 5, 11, 12, 14, 15] → x ≠ 36 ∧ x ≠ 38 ∧ x ≠ 39 := by decide
    exact z0 i (this i hi).1 (this i hi).2.1 (this i hi).2.2
  · unfold popW
    rw [sI_o (by decide), sI_o (by decide), sI_o (by decide), sI_o (by decide), sI_o (by decide), sI_o (by decide)]
  · exact sI_e
  · rw [z0 37 (by decide) (by decide) (by decide)]; exact m2
  · unfold popW
    rw [sI_n (by decide), sI_o (by decide), sI_o (by decide), sI_o (by decide), sI_n (by decide), sI_e]
  · unfold popW
    rw [sI_n (by decide), sI_o (by decide), sI_o (by decide), sI_o (by decide), sI_e]
  · rw [z0 40 (by decide) (by decide) (by decide)]; exact m5
  · unfold popW
    rw [sI_o (by decide), sI_o (by decide), sI_o (by decide), sI_o (by decide), sI_o (by decide), sI_o (by decide)]
    exact m6.2.2
  · by_cases e : i = m
    · rw [e, z4, z4, z4, if_neg (by omega), if_neg (by omega), if_pos rfl, p1]
      rcases (show b = 20 ∨ b = 21 ∨ b = 22 by omega) with e | e | e <;> subst e
      · exact Or.inl ⟨rfl, rfl⟩
      · exact Or.inr (Or.inl ⟨rfl, rfl⟩)
      · exact Or.inr (Or.inr (Or.inl ⟨rfl, rfl⟩))
    · rw [z4, z4, z4, if_neg (by omega), if_neg (by omega), if_neg (by omega), if_neg (by omega), if_neg (by omega), if_neg (by omega), if_neg (by omega), if_neg (by omega), if_neg (by omega)]
      exact c i (by omega)
  · rw [s1]
    exact congrArg nI (show m + (Q.length + 1) = m + 1 + Q.length by omega)
  · rw [show m + 1 + Q.length = m + (b :: Q).length from (show m + 1 + Q.length = m + (Q.length + 1) by omega)]
    exact d
theorem dc_21 {b : Nat} {L : List Nat} (h : b = 21 ∨ b = 22) : dc (b :: L) = dc L := by
  show dc L + (if b = 20 ∨ b = 23 then 1 else 0) = _
  rw [if_neg (by omega), Nat.add_zero]
theorem dc_20 {b : Nat} {L : List Nat} (h : b = 20 ∨ b = 23) : dc (b :: L) = dc L + 1 := by
  show dc L + (if b = 20 ∨ b = 23 then 1 else 0) = _
  rw [if_pos h]
theorem T_nots {P : Pl} {F n p a o v w : Nat} {t : Nat × Nat} {B : Nat → Nat} {hc : HS} {Q L : List Nat} (hd : ∀ b M, L = b :: M → b ≠ 20) : ∀ (N : List Nat) (m : Nat) (hm : HS), (∀ b, b ∈ N → b = 20) → SS P n p a t B m o v w (N ++ Q) (N ++ L) hc hm → ∃ hm2, (∀ g, N.length < g → l_M_nots_0 F g hm = some ((), hm2)) ∧ SS P n p a t B (m + N.length) o v w Q L hc hm2 ∧ FX hc hm hc hm2
  | [], m, hm, _, q => by
    refine ⟨hm, fun g hg => ?_, q, FX_rf⟩
    obtain ⟨g, rfl⟩ : ∃ z, g = z + 1 := ⟨g - 1, by have : 0 < g := hg; omega⟩
    obtain ⟨r, ⟨m1, m2, m3, m4, m5, m6⟩, c, p1, s1, s2, d, o1, l1, l2, sd⟩ := q
    have l2' : L.length ≤ 40 := l2
    have m3 : hm.1 0 38 = nI L.length := m3
    have m6 : stq (hm.1 14) L := m6
    rw [l_M_nots_0, m3, ite_le0 (by omega)]
    cases L with
    | nil => exact if_pos rfl
    | cons b M =>
      have l3 : M.length + 1 ≤ 40 := l2'
      have e1 : hm.1 14 M.length = nI b := m6.1
      have e2 := m6.2.1
      rw [if_neg (show ¬ (b :: M).length = 0 by simp), show (b :: M).length = M.length + 1 from rfl, nI_sb (by omega), Nat.add_sub_cancel, ifin (by omega) (by omega), nI_clamp (by omega), e1, ite_eqN (by omega) (by omega), if_neg (hd b M rfl)]
  | b :: N, m, hm, hN, q => by
    have hb : b = 20 := hN b (List.mem_cons_self ..)
    subst hb
    have q' : SS P n p a t B m o v w (20 :: (N ++ Q)) (20 :: (N ++ L)) hc hm := q
    obtain ⟨q2, fx⟩ := T_pop q'
    obtain ⟨hm2, a1, a2, a3⟩ := T_nots (F := F) hd N (m + 1) _ (fun b hb => hN b (List.mem_cons_of_mem _ hb)) q2
    refine ⟨hm2, fun g hg => ?_, by rw [show m + (20 :: N).length = m + 1 + N.length from (show m + (N.length + 1) = m + 1 + N.length by omega)]; exact a2, FX_t fx a3⟩
    obtain ⟨g, rfl⟩ : ∃ z, g = z + 1 := ⟨g - 1, by have : N.length + 1 < g := hg; omega⟩
    obtain ⟨r, ⟨m1, m2, m3, m4, m5, m6⟩, c, p1, s1, s2, d, o1, l1, l2, sd⟩ := q'
    have l2' : (N ++ L).length + 1 ≤ 40 := l2
    have l1' : m + ((N ++ Q).length + 1) ≤ 40 := l1
    have m3 : hm.1 0 38 = nI ((N ++ L).length + 1) := m3
    have m4 : hm.1 0 39 = nI (1 + (dc (N ++ L) + 1)) := by rw [m4, dc_20 (Or.inl rfl)]
    have e1 : hm.1 14 (N ++ L).length = nI 20 := m6.1
    have dl : dc (N ++ L) < 1000 := by
      have : ∀ L : List Nat, dc L ≤ L.length := fun L => by
        induction L with
        | nil => exact Nat.le_refl _
        | cons b M ih =>
          show dc M + (if b = 20 ∨ b = 23 then 1 else 0) ≤ M.length + 1
          split <;> omega
      have := this (N ++ L)
      omega
    rw [← a1 g (by have : N.length + 1 < g + 1 := hg; omega), l_M_nots_0, m3, ite_le0 (by omega), if_neg (show ¬ (N ++ L).length + 1 = 0 by omega), nI_sb (by omega), Nat.add_sub_cancel, ifin (by omega) (by omega), nI_clamp (by omega), e1, if_pos rfl, bl_e, sI_n (show (39 : Nat) ≠ 38 by decide), m4, nI_sb (by omega), bl_e, E_code (m := m) (by rw [sI_n (by decide), sI_n (by decide)]; exact m1) (by omega), bnd_s]
    rfl
theorem T_joins {P : Pl} {F n p a o v w x : Nat} {t : Nat × Nat} {B : Nat → Nat} {hc : HS} {Q L : List Nat} (hx : x = 21 ∨ x = 22) (hd : ∀ b M, L = b :: M → b ≠ 21 ∧ (b = 22 → x ≠ 22)) : ∀ (J : List Nat) (m : Nat) (hm : HS), (∀ b, b ∈ J → b = 21 ∨ (b = 22 ∧ x = 22)) → SS P n p a t B m o v w (J ++ Q) (J ++ L) hc hm → ∃ hm2, (∀ g, J.length < g → l_M_joins_0 F (nI x) g hm = some ((), hm2)) ∧ SS P n p a t B (m + J.length) o v w Q L hc hm2 ∧ FX hc hm hc hm2
  | [], m, hm, _, q => by
    refine ⟨hm, fun g hg => ?_, q, FX_rf⟩
    obtain ⟨g, rfl⟩ : ∃ z, g = z + 1 := ⟨g - 1, by have : 0 < g := hg; omega⟩
    obtain ⟨r, ⟨m1, m2, m3, m4, m5, m6⟩, c, p1, s1, s2, d, o1, l1, l2, sd⟩ := q
    have l2' : L.length ≤ 40 := l2
    have m3 : hm.1 0 38 = nI L.length := m3
    have m6 : stq (hm.1 14) L := m6
    rw [l_M_joins_0, m3, ite_le0 (by omega)]
    cases L with
    | nil => exact if_pos rfl
    | cons b M =>
      have l3 : M.length + 1 ≤ 40 := l2'
      have e1 : hm.1 14 M.length = nI b := m6.1
      have e2 := m6.2.1
      obtain ⟨h1, h2⟩ := hd b M rfl
      rw [if_neg (show ¬ (b :: M).length = 0 by simp), show (b :: M).length = M.length + 1 from rfl, nI_sb (by omega), Nat.add_sub_cancel, ifin (by omega) (by omega), nI_clamp (by omega), e1]
      dsimp only [bl]
      rw [ite_eqN (by omega) (by omega), if_neg h1, ifin (by omega) (by omega), ite_eqN (by omega) (by omega)]
      by_cases h3 : b = 22
      · rw [if_pos h3, ite_eqN (by omega) (by omega), if_neg (h2 h3)]
      · rw [if_neg h3]
  | b :: J, m, hm, hJ, q => by
    have hb := hJ b (List.mem_cons_self ..)
    have q' : SS P n p a t B m o v w (b :: (J ++ Q)) (b :: (J ++ L)) hc hm := q
    obtain ⟨q2, fx⟩ := T_pop q'
    obtain ⟨hm2, a1, a2, a3⟩ := T_joins (F := F) hx hd J (m + 1) _ (fun b hb => hJ b (List.mem_cons_of_mem _ hb)) q2
    refine ⟨hm2, fun g hg => ?_, by rw [show m + (b :: J).length = m + 1 + J.length from (show m + (J.length + 1) = m + 1 + J.length by omega)]; exact a2, FX_t fx a3⟩
    obtain ⟨g, rfl⟩ : ∃ z, g = z + 1 := ⟨g - 1, by have : J.length + 1 < g := hg; omega⟩
    obtain ⟨r, ⟨m1, m2, m3, m4, m5, m6⟩, c, p1, s1, s2, d, o1, l1, l2, sd⟩ := q'
    have l2' : (J ++ L).length + 1 ≤ 40 := l2
    have l1' : m + ((J ++ Q).length + 1) ≤ 40 := l1
    have m3 : hm.1 0 38 = nI ((J ++ L).length + 1) := m3
    have m4 : hm.1 0 39 = nI (1 + dc (J ++ L)) := by rw [m4, dc_21 (by omega)]
    have e1 : hm.1 14 (J ++ L).length = nI b := m6.1
    have T : bl (sI hm 0 38 ((hm.1 0 38) - (nI 1))) (fun (h3 : HS) => (if inb (h3.1 0 38) 45 = true then bnd (f_M_code (h3.1 14 (h3.1 0 38).toNatClampNeg) (nI 0) (nI 0) h3) (fun (_ : Unit) (h4 : HS) => l_M_joins_0 F (nI x) g h4) else none)) = l_M_joins_0 F (nI x) g (popW hm m b (J ++ L)) := by
      rw [bl_e, m3, nI_sb (by omega), Nat.add_sub_cancel, sI_e, ifin (by omega) (by omega), nI_clamp (by omega), sI_o (show (14 : Nat) ≠ 0 by decide), e1, E_code (m := m) (by rw [sI_n (by decide)]; exact m1) (by omega), bnd_s, popW, sI_id (h := sI hm 0 38 (nI (J ++ L).length)) (i := 0) (k := 39) (v := nI (1 + dc (J ++ L))) (by rw [sI_n (by decide)]; exact m4)]
    rw [← a1 g (by have : J.length + 1 < g + 1 := hg; omega), l_M_joins_0, m3, ite_le0 (by omega), if_neg (show ¬ (J ++ L).length + 1 = 0 by omega), nI_sb (by omega), Nat.add_sub_cancel, ifin (by omega) (by omega), nI_clamp (by omega), e1, bl_e]
    rcases hb with e | ⟨e, e'⟩
    · rw [ite_eqN (by omega) (by omega), if_pos e]
      exact T
    · rw [ite_eqN (by omega) (by omega), if_neg (show ¬ b = 21 by omega), ifin (by omega) (by omega), ite_eqN (by omega) (by omega), if_pos e, ite_eqN (by omega) (by omega), if_pos e']
      exact T
theorem E_add {hc : HS} {s : Nat} {a0 a1 a2 : Int32} (e : hc.1 46 3 = nI s) (hs : s < 40) : f_Sent_add_46 a0 a1 a2 hc = some (nI 1, sI (sI (sI (sI hc 47 s a0) 48 s a1) 49 s a2) 46 3 (nI (s + 1))) := by
  rw [f_Sent_add_46, e, ite_ltN (by omega) (by omega), if_pos hs, ifin (by omega) (by omega), nI_clamp (by omega), bl_e, sI_o (show (46 : Nat) ≠ 47 by decide), e, ifin (by omega) (by omega), nI_clamp (by omega), bl_e, sI_o (show (46 : Nat) ≠ 48 by decide), sI_o (show (46 : Nat) ≠ 47 by decide), e, ifin (by omega) (by omega), nI_clamp (by omega), bl_e, sI_o (show (46 : Nat) ≠ 49 by decide), sI_o (show (46 : Nat) ≠ 48 by decide), sI_o (show (46 : Nat) ≠ 47 by decide), e, nI_add, bl_e, rZ1]
