/-! ===== a SENTENCE: what is added, pushed, counted ===== -/
theorem PQ_fr {hc hc2 : HS} : ∀ (Q : List Nat) (m : Nat), (∀ i, i < m + Q.length → hc2.1 47 i = hc.1 47 i) → PQ hc m Q → PQ hc2 m Q
  | [], _, _, _ => trivial
  | b :: Q, m, h, q => by
    have h : ∀ i, i < m + (Q.length + 1) → hc2.1 47 i = hc.1 47 i := h
    exact ⟨q.1, by rw [h m (by omega)]; exact q.2.1, PQ_fr Q (m + 1) (fun i hi => h i (by omega)) q.2.2⟩
theorem PQ_app {hc : HS} {b : Nat} (hb : 20 ≤ b ∧ b ≤ 22) : ∀ (Q : List Nat) (m : Nat), PQ hc m Q → hc.1 47 (m + Q.length) = nI (b - 20) → PQ hc m (Q ++ [b])
  | [], m, _, e => ⟨hb, e, trivial⟩
  | c :: Q, m, q, e => ⟨q.1, q.2.1, PQ_app hb Q (m + 1) q.2.2 (by
      have e : hc.1 47 (m + (Q.length + 1)) = nI (b - 20) := e
      rw [show m + 1 + Q.length = m + (Q.length + 1) by omega]
      exact e)⟩
theorem dpS_add {s s2 : Nat → Int32} {n v o v2 : Nat} (d : dpS s n v o) (h : ∀ i, i < n → s2 i = s i) (o2 : o ≤ 20) (k : (s2 n = nI 0 ∧ 1 ≤ v ∧ v2 = v) ∨ ((s2 n = nI 1 ∨ s2 n = nI 2) ∧ 2 ≤ v ∧ v2 + 1 = v) ∨ ((∃ a, 3 ≤ a ∧ a < 9 ∧ s2 n = nI a) ∧ v2 = v + 1 ∧ v2 ≤ o)) : dpS s2 (n + 1) v2 o := by
  obtain ⟨d1, d2, d3⟩ := d
  have cg : ∀ i, i ≤ n → dpn s2 i = dpn s i := fun i hi => by
    induction i with
    | zero => rfl
    | succ i ih =>
      show (if s2 i = nI 0 then dpn s2 i else (if s2 i = nI 1 ∨ s2 i = nI 2 then dpn s2 i - 1 else dpn s2 i + 1)) = (if s i = nI 0 then dpn s i else (if s i = nI 1 ∨ s i = nI 2 then dpn s i - 1 else dpn s i + 1))
      rw [h i (by omega), ih (by omega)]
  have e0 : dpn s2 n = v := by rw [cg n (Nat.le_refl _), d2]
  have e1 : dpn s2 (n + 1) = if s2 n = nI 0 then v else (if s2 n = nI 1 ∨ s2 n = nI 2 then v - 1 else v + 1) := by rw [← e0]; rfl
  have e2 : dpn s2 (n + 1) = v2 ∧ v2 ≤ o ∧ (s2 n = nI 0 → 1 ≤ v) ∧ ((s2 n = nI 1 ∨ s2 n = nI 2) → 2 ≤ v) := by
    rcases k with ⟨k1, k2, k3⟩ | ⟨k1, k2, k3⟩ | ⟨⟨x, x1, x2, k1⟩, k2, k3⟩
    · rw [e1, if_pos k1]
      refine ⟨by omega, by omega, fun _ => k2, fun z => ?_⟩
      rcases z with z | z <;> (rw [k1] at z; exact absurd z (by decide))
    · have k0 : ¬ s2 n = nI 0 := fun z => by
        rcases k1 with y | y <;> (rw [y] at z; exact absurd z (by decide))
      rw [e1, if_neg k0, if_pos k1]
      exact ⟨by omega, by omega, fun z => absurd z k0, fun _ => k2⟩
    · have k0 : ¬ s2 n = nI 0 := fun z => by rw [k1] at z; have := nI_inj (by omega) (by omega) z; omega
      have k00 : ¬ (s2 n = nI 1 ∨ s2 n = nI 2) := fun z => by
        rcases z with z | z <;> (rw [k1] at z; have := nI_inj (by omega) (by omega) z; omega)
      rw [e1, if_neg k0, if_neg k00]
      exact ⟨by omega, k3, fun z => absurd z k0, fun z => absurd z k00⟩
  refine ⟨fun i hi => ?_, e2.1, e2.2.1⟩
  by_cases e : i = n
  · rw [e, e0, e2.1]
    exact ⟨e2.2.2.1, e2.2.2.2, by omega⟩
  · rw [h i (by omega), cg i (by omega), cg (i + 1) (by omega)]
    exact d1 i (by omega)
def adW (hc : HS) (s : Nat) (a0 a1 a2 : Int32) : HS := sI (sI (sI (sI hc 47 s a0) 48 s a1) 49 s a2) 46 3 (nI (s + 1))
theorem ad47 {hc : HS} {s : Nat} {a0 a1 a2 : Int32} : (adW hc s a0 a1 a2).1 47 = upd (hc.1 47) s a0 ∧ (adW hc s a0 a1 a2).1 48 = upd (hc.1 48) s a1 ∧ (adW hc s a0 a1 a2).1 49 = upd (hc.1 49) s a2 ∧ (adW hc s a0 a1 a2).1 46 3 = nI (s + 1) ∧ (adW hc s a0 a1 a2).1 46 4 = hc.1 46 4 ∧ Fr [46, 47, 48, 49] hc (adW hc s a0 a1 a2) := by
  unfold adW
  refine ⟨?_, ?_, ?_, sI_e, ?_, Fr_t (Fr_t (Fr_t (Fr_sI (by decide)) (Fr_sI (by decide))) (Fr_sI (by decide))) (Fr_sI (by decide))⟩
  · rw [sI_o (by decide), sI_o (by decide), sI_o (by decide), sI_u]
  · rw [sI_o (by decide), sI_o (by decide), sI_u, sI_o (by decide)]
  · rw [sI_o (by decide), sI_u, sI_o (by decide), sI_o (by decide)]
  · rw [sI_n (by decide), sI_o (by decide), sI_o (by decide), sI_o (by decide)]
theorem FX_c {hc hm hc2 : HS} (f : Fr [46, 47, 48, 49] hc hc2) : FX hc hm hc2 hm := ⟨Fr_mo (by decide) f, Fr_rf, F0r_rf, fun _ _ => rfl⟩
theorem T_addq {P : Pl} {n p a m o v v2 w b : Nat} {t : Nat × Nat} {B : Nat → Nat} {Q L : List Nat} {hc hm : HS} (q : SS P n p a t B m o v w Q L hc hm) (hb : (b = 20 ∧ 1 ≤ v ∧ v2 = v) ∨ ((b = 21 ∨ b = 22) ∧ 2 ≤ v ∧ v2 + 1 = v)) (h40 : m + Q.length < 40) : ∃ hc2, f_Sent_add_46 (nI (b - 20)) (nI 0) (nI 0) hc = some (nI 1, hc2) ∧ SS P n p a t B m o v2 w (Q ++ [b]) L hc2 hm ∧ FX hc hm hc2 hm := by
  obtain ⟨r, ms, c, p1, s1, s2, d, o1, l1, l2, sd⟩ := q
  obtain ⟨g1, g2, g3, g4, g5, g6⟩ := ad47 (hc := hc) (s := m + Q.length) (a0 := nI (b - 20)) (a1 := nI 0) (a2 := nI 0)
  have fx := FX_c (hm := hm) g6
  have u : ∀ i, i < m + Q.length → (adW hc (m + Q.length) (nI (b - 20)) (nI 0) (nI 0)).1 47 i = hc.1 47 i := fun i hi => by rw [g1, upd_n (by omega)]
  refine ⟨adW hc (m + Q.length) (nI (b - 20)) (nI 0) (nI 0), E_add s1 h40, ⟨RD_fr r (g6 1 (by decide)).1 (g6 2 (by decide)).1 (g6 1 (by decide)).2 (fun _ _ => rfl) rfl rfl, ms, fun i hi => ?_, PQ_app (by omega) Q m (PQ_fr Q m u p1) (by rw [g1, upd_e]), ?_, by rw [g5]; exact s2, ?_, o1, ?_, l2, SD_fx sd fx⟩, fx⟩
  · rw [g1, g2, g3, upd_n (by omega), upd_n (by omega), upd_n (by omega)]
    exact c i hi
  · rw [g4, List.length_append]
    rfl
  · rw [List.length_append]
    refine dpS_add (n := m + Q.length) d u o1 ?_
    rw [g1, upd_e]
    rcases hb with ⟨e, e1, e2⟩ | ⟨e, e1, e2⟩
    · subst e; exact Or.inl ⟨rfl, e1, e2⟩
    · refine Or.inr (Or.inl ⟨?_, e1, e2⟩)
      rcases e with e | e <;> subst e
      · exact Or.inl rfl
      · exact Or.inr rfl
  · rw [List.length_append]
    show m + (Q.length + 1) ≤ 40
    omega
theorem MS_fr {m o w : Nat} {L : List Nat} {h h2 : HS} (q : MS m o w L h) (f : Fr [0] h h2) (g : F0r [4, 11, 12, 13, 14, 18] h h2) : MS m o w L h2 := by
  unfold MS at q ⊢
  rw [g 36 (by decide), g 37 (by decide), g 38 (by decide), g 39 (by decide), g 40 (by decide), (f 14 (by decide)).1]
  exact q
def cdW (h : HS) (m : Nat) (a0 a1 a2 : Int32) : HS := sI (sI (sI (sI h 4 (3 * m) a0) 4 (3 * m + 1) a1) 4 (3 * m + 2) a2) 0 36 (nI (m + 1))
theorem cdW_f {h : HS} {m : Nat} {a0 a1 a2 : Int32} : Fr [0, 4] h (cdW h m a0 a1 a2) ∧ F0r [36] h (cdW h m a0 a1 a2) ∧ (cdW h m a0 a1 a2).1 0 36 = nI (m + 1) ∧ (∀ k, (cdW h m a0 a1 a2).1 4 k = if k = 3 * m + 2 then a2 else if k = 3 * m + 1 then a1 else if k = 3 * m then a0 else h.1 4 k) ∧ (cdW h m a0 a1 a2).2 = h.2 := by
  unfold cdW
  refine ⟨Fr_t (Fr_t (Fr_t (Fr_sI (by decide)) (Fr_sI (by decide))) (Fr_sI (by decide))) (Fr_sI (by decide)), fun k hk => ?_, sI_e, fun k => ?_, rfl⟩
  · rw [sI_n (fun e => hk (by rw [e]; decide)), sI_o (by decide), sI_o (by decide), sI_o (by decide)]
  · rw [sI_o (by decide), sI_u, sI_u, sI_u]
    rfl
theorem MS_code {m o w : Nat} {L : List Nat} {h : HS} {a0 a1 a2 : Int32} (q : MS m o w L h) : MS (m + 1) o w L (cdW h m a0 a1 a2) := by
  obtain ⟨f1, f2, f3, f4, f5⟩ := cdW_f (h := h) (m := m) (a0 := a0) (a1 := a1) (a2 := a2)
  obtain ⟨q1, q2, q3, q4, q5, q6⟩ := q
  refine ⟨f3, ?_, ?_, ?_, ?_, ?_⟩
  · rw [f2 37 (by decide)]; exact q2
  · rw [f2 38 (by decide)]; exact q3
  · rw [f2 39 (by decide)]; exact q4
  · rw [f2 40 (by decide)]; exact q5
  · rw [(f1 14 (by decide)).1]; exact q6
theorem T_leafadd {m v o : Nat} {hc hm hc1 hm2 : HS} {a0 a1 a2 z0 z1 z2 : Int32} (c : CO m hc hm) (s : hc.1 46 3 = nI m) (d : dpS (hc.1 47) m v o) (hv : v + 1 ≤ o) (ho : o ≤ 20) (h40 : m < 40) (k : Fr [1] hc hc1) (e4 : hm2.1 4 = (cdW hm m z0 z1 z2).1 4) (lf : lfOK a0 a1 a2 z0 z1 z2) : ∃ hc2, f_Sent_add_46 a0 a1 a2 hc1 = some (nI 1, hc2) ∧ hc2.1 46 3 = nI (m + 1) ∧ hc2.1 46 4 = hc.1 46 4 ∧ CO (m + 1) hc2 hm2 ∧ dpS (hc2.1 47) (m + 1) (v + 1) o ∧ Fr [46, 47, 48, 49] hc1 hc2 := by
  obtain ⟨g1, g2, g3, g4, g5, g6⟩ := ad47 (hc := hc1) (s := m) (a0 := a0) (a1 := a1) (a2 := a2)
  obtain ⟨f1, f2, f3, f4, f5⟩ := cdW_f (h := hm) (m := m) (a0 := z0) (a1 := z1) (a2 := z2)
  have k47 := (k 47 (by decide)).1
  have k48 := (k 48 (by decide)).1
  have k49 := (k 49 (by decide)).1
  have k46 := (k 46 (by decide)).1
  refine ⟨adW hc1 m a0 a1 a2, E_add (by rw [k46, s]) h40, g4, by rw [g5, k46], fun i hi => ?_, ?_, g6⟩
  · show cdOK ((adW hc1 m a0 a1 a2).1 47 i) ((adW hc1 m a0 a1 a2).1 48 i) ((adW hc1 m a0 a1 a2).1 49 i) _ _ _
    rw [g1, g2, g3, e4, f4, f4, f4]
    by_cases e : i = m
    · rw [e, upd_e, upd_e, upd_e, if_neg (by omega), if_neg (by omega), if_pos rfl, if_neg (by omega), if_pos rfl, if_pos rfl]
      exact Or.inr (Or.inr (Or.inr lf))
    · rw [upd_n e, upd_n e, upd_n e, if_neg (by omega), if_neg (by omega), if_neg (by omega), if_neg (by omega), if_neg (by omega), if_neg (by omega), if_neg (by omega), if_neg (by omega), if_neg (by omega), k47, k48, k49]
      exact c i (by omega)
  · show dpS ((adW hc1 m a0 a1 a2).1 47) _ _ _
    rw [g1, k47]
    refine dpS_add d (fun i hi => upd_n (by omega)) ho (Or.inr (Or.inr ⟨?_, rfl, hv⟩))
    obtain ⟨x, y, x1, x2, x3, -⟩ := lf_s lf
    exact ⟨x, x1, x2, by rw [upd_e]; exact x3⟩
theorem T_ones {P : Pl} {n p a m o v w : Nat} {t : Nat × Nat} {B : Nat → Nat} {Q L : List Nat} {hc hm : HS} (q : SS P n p a t B m o v w Q L hc hm) (ho : o < 20) : SS P n p a t B m (o + 1) v w Q L (sI hc 46 4 (nI (o + 1))) (sI hm 0 37 (nI (o + 1))) ∧ FX hc hm (sI hc 46 4 (nI (o + 1))) (sI hm 0 37 (nI (o + 1))) := by
  have fx : FX hc hm (sI hc 46 4 (nI (o + 1))) (sI hm 0 37 (nI (o + 1))) := ⟨Fr_sI (by decide), Fr_sI (by decide), F0r_sI (by decide), fun _ _ => rfl⟩
  obtain ⟨r, ⟨m1, m2, m3, m4, m5, m6⟩, c, p1, s1, s2, d, o1, l1, l2, sd⟩ := q
  refine ⟨⟨RD_fr r (sI_o (by decide)) (sI_o (by decide)) rfl (fun i hi => sI_n ?_) (sI_o (by decide)) rfl, ⟨?_, sI_e, ?_, ?_, ?_, ?_⟩, fun i hi => ?_, PQ_fr Q m (fun i _ => by rw [sI_o (by decide)]) p1, ?_, sI_e, ?_, by omega, l1, l2, SD_fx sd fx⟩, fx⟩
  · have : ∀ x, x ∈ [3, 4, 5, 11, 12, 14, 15] → x ≠ 37 := by decide
    exact this i hi
  · rw [sI_n (by decide)]; exact m1
  · rw [sI_n (by decide)]; exact m3
  · rw [sI_n (by decide)]; exact m4
  · rw [sI_n (by decide)]; exact m5
  · rw [sI_o (by decide)]; exact m6
  · rw [sI_o (by decide), sI_o (by decide), sI_o (by decide), sI_o (by decide)]; exact c i hi
  · rw [sI_n (by decide)]; exact s1
  · rw [sI_o (by decide)]; exact ⟨d.1, d.2.1, by have := d.2.2; omega⟩
theorem SS_ts {P : Pl} {n p a p2 a2 m o v w : Nat} {t t2 : Nat × Nat} {B : Nat → Nat} {Q L : List Nat} {hc hm hc2 hm2 : HS} (q : SS P n p a t B m o v w Q L hc hm) (r2 : RD n 200 p2 a2 t2 B hc2 hm2) (k : TS hc hm hc2 hm2) : SS P n p2 a2 t2 B m o v w Q L hc2 hm2 := by
  obtain ⟨r, ms, c, p1, s1, s2, d, o1, l1, l2, sd⟩ := q
  have e4 := (k.2.1 4 (by decide)).1
  refine ⟨r2, MS_fr ms k.2.1 k.2.2, fun i hi => ?_, PQ_fr Q m (fun i _ => by rw [(k.1 47 (by decide)).1]) p1, ?_, ?_, ?_, o1, l1, l2, SD_fx sd (TS_fx k)⟩
  · rw [(k.1 47 (by decide)).1, (k.1 48 (by decide)).1, (k.1 49 (by decide)).1, e4]; exact c i hi
  · rw [(k.1 46 (by decide)).1]; exact s1
  · rw [(k.1 46 (by decide)).1]; exact s2
  · rw [(k.1 47 (by decide)).1]; exact d
/-- changes of the reference's stack and of its whole-or-not -/
theorem SS_mv {P : Pl} {n p a m o v w w2 : Nat} {t : Nat × Nat} {B : Nat → Nat} {Q L L2 : List Nat} {hc hm hm2 : HS} (q : SS P n p a t B m o v w Q L hc hm) (f : Fr [0, 14] hm hm2) (g : F0r [38, 39, 40] hm hm2) (e1 : hm2.1 0 38 = nI L2.length) (e2 : hm2.1 0 39 = nI (1 + dc L2)) (e3 : hm2.1 0 40 = nI w2) (e4 : stq (hm2.1 14) L2) (e5 : hm2.2 = hm.2) (l : L2.length ≤ 40) : SS P n p a t B m o v w2 Q L2 hc hm2 ∧ FX hc hm hc hm2 := by
  have fx : FX hc hm hc hm2 := ⟨Fr_rf, Fr_mo (by decide) f, F0r_mo (by decide) g, fun _ _ => by rw [(f 5 (by decide)).2]⟩
  obtain ⟨r, ⟨m1, m2, m3, m4, m5, m6⟩, c, p1, s1, s2, d, o1, l1, l2, sd⟩ := q
  refine ⟨⟨RD_fr r rfl rfl rfl (fun i hi => g i ?_) (f 1 (by decide)).1 ?_, ⟨by rw [g 36 (by decide)]; exact m1, by rw [g 37 (by decide)]; exact m2, e1, e2, e3, e4⟩, fun i hi => by rw [(f 4 (by decide)).1]; exact c i hi, p1, s1, s2, d, o1, l1, l, SD_fx sd fx⟩, fx⟩
  · have : ∀ x, x ∈ [3, 4, 5, 11, 12, 14, 15] → x ∉ [38, 39, 40] := by decide
    exact this i hi
  · rw [e5]
