/-! ===== what holds between the two sides, between calls ===== -/
def zA (A : Ab) : Ab := (A.1, fun a b => if a = 7 then 0 else A.2 a b)
def seg (f : Nat → Int32) (o : Nat) : Nat → Int32 := fun i => if i < 151 then f (o + (i - 72)) else 0
def shf {α : Type} (f : Nat → α) (o : Nat) : Nat → α := fun i => f (o + i)
def UD1 (P : Pl) (hc hm : HS) (f : Nat) (ps : Nat → Ab) (j : Nat) : Prop := WF P (ps j) ∧ RC P (ps j) (hc.1 (23 + (f + j) % 8)) ∧ RM0 P (ps j) (seg (hm.1 7) (79 * j))
def UD (P : Pl) (hc hm : HS) : Prop := ∃ (u f : Nat) (ps : Nat → Ab), u ≤ 8 ∧ f < 8 ∧ hc.1 20 3 = nI f ∧ hc.1 20 4 = nI u ∧ hm.1 0 23 = nI u ∧ ∀ j, j < u → UD1 P hc hm f ps j
def TPr (hc hm : HS) : Prop := ∃ n, n ≤ 940 ∧ hc.1 1 1 = nI n ∧ hm.1 0 2 = nI n ∧ ∀ i, i < n → hc.1 2 i = hm.1 1 i ∧ ∃ x : Int8, hm.1 1 i = Int8.toInt32 x
def FTr (hc hm : HS) : Prop := hc.1 0 15 = hm.1 0 15
def TRr (hc hm : HS) : Prop := hc.1 0 16 = if hm.1 0 30 = 0 then -1 else hm.1 0 29
def WYr (P : Pl) (hc : HS) : Prop := hc.1 31 6 = nI (2 ^ P 0 4) ∧ ∀ set, set < 2 ^ P 0 4 → hc.1 32 set = nI (sm P 7 set) ∧ hc.1 33 set = nI (sm P 8 set) ∧ hc.1 34 set = nI (sm P 9 set)
def MAr (hc hm : HS) : Prop := ∃ m, m ≤ 5 ∧ (hm.1 0 28 = nI m ∨ (m = 0 ∧ hm.1 0 28 = -1)) ∧ ∀ k, k < 5 → hc.1 53 k = if k < m then hm.1 12 k else -1
def BKr (hc hm : HS) : Prop := ∀ w, w < 4 → hc.1 83 w = if hm.1 0 34 = 0 then -1 else hm.1 13 w
def cdOK (s f n z0 z1 z2 : Int32) : Prop := (s = nI 0 ∧ z0 = nI 20) ∨ (s = nI 1 ∧ z0 = nI 21) ∨ (s = nI 2 ∧ z0 = nI 22) ∨ (∃ t, t ≤ 4 ∧ s = nI 3 ∧ f = nI t ∧ z0 = nI t) ∨ (∃ d, d < 6 ∧ s = nI 4 ∧ f = nI d ∧ z0 = nI 5 ∧ z2 = nI d) ∨ (∃ t g m, 1 ≤ t ∧ t ≤ 4 ∧ (g = 60 ∨ g = 61 ∨ g = 62) ∧ m ≤ 999 ∧ s = nI (4 + t) ∧ f = nI g ∧ n = nI m ∧ z0 = nI (5 + t) ∧ z1 = nI g ∧ z2 = nI m)
def dpn (s : Nat → Int32) : Nat → Nat
  | 0 => 0
  | i + 1 => if s i = nI 0 then dpn s i else (if s i = nI 1 ∨ s i = nI 2 then dpn s i - 1 else dpn s i + 1)
def dpOK (s : Nat → Int32) (m : Nat) : Prop := (∀ i, i < m → (s i = nI 0 → 1 ≤ dpn s i) ∧ ((s i = nI 1 ∨ s i = nI 2) → 2 ≤ dpn s i) ∧ dpn s (i + 1) ≤ 20) ∧ (0 < m → dpn s m = 1)
def SEr (b : Nat) (hc : HS) (z : Nat → Int32) : Prop := ∃ m, m ≤ 40 ∧ hc.1 b 3 = nI m ∧ z 151 = nI m ∧ (∀ i, i < m → cdOK (hc.1 (b + 1) i) (hc.1 (b + 2) i) (hc.1 (b + 3) i) (z (152 + 3 * i)) (z (153 + 3 * i)) (z (154 + 3 * i))) ∧ dpOK (hc.1 (b + 1)) m
def IM1 (hc hm : HS) (b k : Nat) : Prop := (hc.1 b 3 = nI 0 ∧ hm.1 18 k = nI 0) ∨ (hc.1 b 3 = nI 1 ∧ hm.1 18 k = nI 1 ∧ ∃ (P : Pl) (A : Ab), WF P A ∧ PC P hc (b + 1) ∧ RC P A (hc.1 (b + 9)) ∧ PM P (shf (hm.1 16) (332 * k)) (hm.2 17) (17 * k) ∧ RM0 P A (shf (hm.1 16) (332 * k)) ∧ SEr (b + 10) hc (A.2 7))
def RSr (hm : HS) : Prop := ∀ j, j < 23 → hm.2 6 j = Int64.ofNat (cv ([402885, 113966, 3200613, 626441906, 136356, 3544651, 21015731, 146611, 4800019, 758955, 498, 1476, 14836, 508078, 21015726, 4915216548, 24046, 136228, 8228, 463922, 17484389, 72754342, 492210354].getD j 0))
def OT (hc hm : HS) : Prop := TPr hc hm ∧ FTr hc hm ∧ TRr hc hm ∧ MAr hc hm ∧ BKr hc hm ∧ IM1 hc hm 54 0 ∧ IM1 hc hm 68 1 ∧ RSr hm
def Rel (P : Pl) (A : Ab) (hc hm : HS) : Prop := CR P A hc ∧ MR P A hm ∧ WF P A ∧ WYr P hc ∧ UD P hc hm ∧ SEr 42 hc (A.2 7) ∧ OT hc hm
/-! frames: what a call leaves alone -/
def Fr (S : List Nat) (h h' : HS) : Prop := ∀ a, a ∉ S → h'.1 a = h.1 a ∧ h'.2 a = h.2 a
def F0r (S : List Nat) (h h' : HS) : Prop := ∀ k, k ∉ S → h'.1 0 k = h.1 0 k
theorem Fr_rf {S : List Nat} {h : HS} : Fr S h h := fun _ _ => ⟨rfl, rfl⟩
theorem Fr_st {S : List Nat} {h : HS} {i : Nat} {f : Nat → Int32} (hi : i ∈ S) : Fr S h (st h i f) := fun a ha => ⟨st_o (fun e => ha (e ▸ hi)), rfl⟩
theorem Fr_sI {S : List Nat} {h : HS} {i k : Nat} {v : Int32} (hi : i ∈ S) : Fr S h (sI h i k v) := fun a ha => ⟨sI_o (fun e => ha (e ▸ hi)), rfl⟩
theorem Fr_tr {S T : List Nat} {h h1 h2 : HS} (a : Fr S h h1) (b : Fr T h1 h2) : Fr (S ++ T) h h2 := fun x hx => by
  have q1 := a x (fun z => hx (List.mem_append_left _ z))
  have q2 := b x (fun z => hx (List.mem_append_right _ z))
  exact ⟨q2.1.trans q1.1, q2.2.trans q1.2⟩
theorem Fr_t {S : List Nat} {h h1 h2 : HS} (a : Fr S h h1) (b : Fr S h1 h2) : Fr S h h2 := fun x hx => ⟨(b x hx).1.trans (a x hx).1, (b x hx).2.trans (a x hx).2⟩
theorem Fr_mo {S T : List Nat} {h h' : HS} (q : ∀ x, x ∈ S → x ∈ T) (a : Fr S h h') : Fr T h h' := fun x hx => a x (fun z => hx (q x z))
theorem F0r_rf {S : List Nat} {h : HS} : F0r S h h := fun _ _ => rfl
theorem F0r_t {S : List Nat} {h h1 h2 : HS} (a : F0r S h h1) (b : F0r S h1 h2) : F0r S h h2 := fun x hx => (b x hx).trans (a x hx)
theorem F0r_st {S : List Nat} {h : HS} {i : Nat} {f : Nat → Int32} (hi : i ≠ 0) : F0r S h (st h i f) := fun k _ => by rw [st_o (fun e => hi e.symm)]
theorem F0r_sI {S : List Nat} {h : HS} {k : Nat} {v : Int32} (hk : k ∈ S) : F0r S h (sI h 0 k v) := fun x hx => sI_n (fun e => hx (e ▸ hk))
theorem OT_fr {hc hc2 hm hm2 : HS} (q : OT hc hm) (c0 : hc2.1 0 = hc.1 0) (c1 : hc2.1 1 = hc.1 1) (c2 : hc2.1 2 = hc.1 2) (c53 : hc2.1 53 = hc.1 53) (c83 : hc2.1 83 = hc.1 83) (c54 : hc2.1 54 = hc.1 54) (c55 : hc2.1 55 = hc.1 55) (c56 : hc2.1 56 = hc.1 56) (c57 : hc2.1 57 = hc.1 57) (c58 : hc2.1 58 = hc.1 58) (c59 : hc2.1 59 = hc.1 59) (c60 : hc2.1 60 = hc.1 60) (c61 : hc2.1 61 = hc.1 61) (c62 : hc2.1 62 = hc.1 62) (c63 : hc2.1 63 = hc.1 63) (c64 : hc2.1 64 = hc.1 64) (c65 : hc2.1 65 = hc.1 65) (c66 : hc2.1 66 = hc.1 66) (c67 : hc2.1 67 = hc.1 67) (c68 : hc2.1 68 = hc.1 68) (c69 : hc2.1 69 = hc.1 69) (c70 : hc2.1 70 = hc.1 70) (c71 : hc2.1 71 = hc.1 71) (c72 : hc2.1 72 = hc.1 72) (c73 : hc2.1 73 = hc.1 73) (c74 : hc2.1 74 = hc.1 74) (c75 : hc2.1 75 = hc.1 75) (c76 : hc2.1 76 = hc.1 76) (c77 : hc2.1 77 = hc.1 77) (c78 : hc2.1 78 = hc.1 78) (c79 : hc2.1 79 = hc.1 79) (c80 : hc2.1 80 = hc.1 80) (c81 : hc2.1 81 = hc.1 81) (d56 : hc2.2 56 = hc.2 56) (d57 : hc2.2 57 = hc.2 57) (d58 : hc2.2 58 = hc.2 58) (d70 : hc2.2 70 = hc.2 70) (d71 : hc2.2 71 = hc.2 71) (d72 : hc2.2 72 = hc.2 72) (m1 : hm2.1 1 = hm.1 1) (m12 : hm2.1 12 = hm.1 12) (m13 : hm2.1 13 = hm.1 13) (m16 : hm2.1 16 = hm.1 16) (m18 : hm2.1 18 = hm.1 18) (n6 : hm2.2 6 = hm.2 6) (n17 : hm2.2 17 = hm.2 17) (k2 : hm2.1 0 2 = hm.1 0 2) (k15 : hm2.1 0 15 = hm.1 0 15) (k28 : hm2.1 0 28 = hm.1 0 28) (k29 : hm2.1 0 29 = hm.1 0 29) (k30 : hm2.1 0 30 = hm.1 0 30) (k34 : hm2.1 0 34 = hm.1 0 34) : OT hc2 hm2 := by
  unfold OT TPr FTr TRr MAr BKr IM1 RSr SEr PC at q ⊢
  simp only [Nat.reduceAdd] at q ⊢
  simp only [c0, c1, c2, c53, c83, c54, c55, c56, c57, c58, c59, c60, c61, c62, c63, c64, c65, c66, c67, c68, c69, c70, c71, c72, c73, c74, c75, c76, c77, c78, c79, c80, c81, d56, d57, d58, d70, d71, d72, m1, m12, m13, m16, m18, n6, n17, k2, k15, k28, k29, k30, k34]
  exact q
/-- the cells that the other parts do not look at -/
def csc : List Nat := [3, 4, 5, 6, 7, 8, 9, 10, 11, 12, 13, 14, 15, 16, 17, 18, 19, 20, 21, 22, 23, 24, 25, 26, 27, 28, 29, 30, 31, 32, 33, 34, 35, 36, 37, 38, 39, 40, 41, 42, 43, 44, 45, 46, 47, 48, 49, 50, 51, 52, 82]
def csm : List Nat := [0, 2, 3, 4, 5, 7, 8, 9, 10, 11, 14, 15]
def cf0 : List Nat := [0, 1, 3, 4, 5, 6, 7, 8, 9, 10, 11, 12, 13, 14, 16, 17, 18, 19, 20, 21, 22, 23, 24, 25, 26, 27, 31, 32, 33, 35, 36, 37, 38, 39, 40, 41, 42, 43, 44]
theorem OT_F {hc hc2 hm hm2 : HS} (q : OT hc hm) (a : Fr csc hc hc2) (b : Fr csm hm hm2) (c : F0r cf0 hm hm2) : OT hc2 hm2 := OT_fr q (a 0 (by decide)).1 (a 1 (by decide)).1 (a 2 (by decide)).1 (a 53 (by decide)).1 (a 83 (by decide)).1 (a 54 (by decide)).1 (a 55 (by decide)).1 (a 56 (by decide)).1 (a 57 (by decide)).1 (a 58 (by decide)).1 (a 59 (by decide)).1 (a 60 (by decide)).1 (a 61 (by decide)).1 (a 62 (by decide)).1 (a 63 (by decide)).1 (a 64 (by decide)).1 (a 65 (by decide)).1 (a 66 (by decide)).1 (a 67 (by decide)).1 (a 68 (by decide)).1 (a 69 (by decide)).1 (a 70 (by decide)).1 (a 71 (by decide)).1 (a 72 (by decide)).1 (a 73 (by decide)).1 (a 74 (by decide)).1 (a 75 (by decide)).1 (a 76 (by decide)).1 (a 77 (by decide)).1 (a 78 (by decide)).1 (a 79 (by decide)).1 (a 80 (by decide)).1 (a 81 (by decide)).1 (a 56 (by decide)).2 (a 57 (by decide)).2 (a 58 (by decide)).2 (a 70 (by decide)).2 (a 71 (by decide)).2 (a 72 (by decide)).2 (b 1 (by decide)).1 (b 12 (by decide)).1 (b 13 (by decide)).1 (b 16 (by decide)).1 (b 18 (by decide)).1 (b 6 (by decide)).2 (b 17 (by decide)).2 (c 2 (by decide)) (c 15 (by decide)) (c 28 (by decide)) (c 29 (by decide)) (c 30 (by decide)) (c 34 (by decide))
theorem UD_fr {P : Pl} {hc hc2 hm hm2 : HS} (q : UD P hc hm) (c20 : hc2.1 20 = hc.1 20) (c : ∀ j, j < 8 → hc2.1 (23 + j) = hc.1 (23 + j)) (m7 : hm2.1 7 = hm.1 7) (k23 : hm2.1 0 23 = hm.1 0 23) : UD P hc2 hm2 := by
  obtain ⟨u, f, ps, h1, h2, h3, h4, h5, h6⟩ := q
  refine ⟨u, f, ps, h1, h2, by rw [c20, h3], by rw [c20, h4], by rw [k23, h5], fun j hj => ?_⟩
  unfold UD1
  rw [c _ (Nat.mod_lt _ (by omega)), m7]
  exact h6 j hj
theorem WYr_fr {P : Pl} {hc hc2 : HS} (q : WYr P hc) (c1 : hc2.1 31 = hc.1 31) (c2 : hc2.1 32 = hc.1 32) (c3 : hc2.1 33 = hc.1 33) (c4 : hc2.1 34 = hc.1 34) : WYr P hc2 := by
  unfold WYr
  rw [c1, c2, c3, c4]
  exact q
theorem SEr_fr {b : Nat} {hc hc2 : HS} {z : Nat → Int32} (q : SEr b hc z) (c1 : hc2.1 b = hc.1 b) (c2 : hc2.1 (b + 1) = hc.1 (b + 1)) (c3 : hc2.1 (b + 2) = hc.1 (b + 2)) (c4 : hc2.1 (b + 3) = hc.1 (b + 3)) : SEr b hc2 z := by
  unfold SEr
  rw [c1, c2, c3, c4]
  exact q
