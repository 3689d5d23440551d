/-! ===== names: the same one is found on both sides ===== -/
def fnI (f : Nat → Nat) (x : Nat) : Nat → Nat → Nat
  | 0, _ => 0
  | j + 1, k => if f k = x then k + 1 else fnI f x j (k + 1)
theorem fnI_le {f : Nat → Nat} {x : Nat} : ∀ j k, fnI f x j k ≤ k + j := by
  intro j
  induction j with
  | zero => intro k; exact Nat.zero_le _
  | succ j ih =>
    intro k
    unfold fnI
    have := ih (k + 1)
    split <;> omega
theorem fnI_cg {f g : Nat → Nat} {x : Nat} : ∀ j k, (∀ i, k ≤ i → i < k + j → f i = g i) → fnI f x j k = fnI g x j k := by
  intro j
  induction j with
  | zero => intro k _; rfl
  | succ j ih =>
    intro k h
    unfold fnI
    rw [h k (by omega) (by omega), ih (k + 1) (fun i h1 h2 => h i (by omega) (by omega))]
def TABc (cell m : Nat) (f : Nat → Nat) (hc : HS) : Prop := ∀ i, i < m → hc.2 cell i = lN (f i) ∧ f i < 2 ^ 35
def TABm (o m : Nat) (f : Nat → Nat) (hm : HS) : Prop := ∀ i, i < m → hm.2 5 (o + i) = lN (cv (f i)) ∧ f i < 2 ^ 35
theorem M_fdL {F o m x : Nat} {f : Nat → Nat} {hm : HS} (hx : x < 32 ^ 7) (hw : hm.2 0 17 = lN (cv x)) (R : TABm o m f hm) (ho : o + m ≤ 34) : ∀ (j k : Nat), k + j = m → ∀ g, j < g → l_M_find_0 F (nI o) (nI m) g (nI k) hm = some (pI (fnI f x j k), hm) := by
  have b1 := cv_lt 7 _ hx
  intro j
  induction j with
  | zero =>
    intro k hk g hg
    obtain ⟨g, rfl⟩ : ∃ z, g = z + 1 := ⟨g - 1, by omega⟩
    rw [l_M_find_0, ite_leN (by omega) (by omega), if_pos (by omega), fnI, pI_0]
  | succ j ih =>
    intro k hk g hg
    obtain ⟨g, rfl⟩ : ∃ z, g = z + 1 := ⟨g - 1, by omega⟩
    obtain ⟨r1, r2⟩ := R k (by omega)
    have b2 := cv_lt 7 (f k) (by omega)
    rw [l_M_find_0, ite_leN (by omega) (by omega), if_neg (by omega), nI_add, ifin (by omega) (by omega), nI_clamp (by omega), r1, hw, bl_e, nI_add, ih (k + 1) (by omega) g (by omega), fnI]
    by_cases z : f k = x
    · rw [if_pos ((lg_cmp_eq _ _).mpr (by rw [z])), if_pos z, pI_s]
    · rw [if_neg (fun h => z (cv_inj _ _ _ (Nat.le_refl _) (lN_inj (by omega) (by omega) ((lg_cmp_eq _ _).mp h)))), if_neg z]
theorem M_find {F o m x : Nat} {f : Nat → Nat} {hm : HS} (hF : 2000 ≤ F) (hx : x < 32 ^ 7) (hw : hm.2 0 17 = lN (cv x)) (R : TABm o m f hm) (ho : o + m ≤ 34) : f_M_find F (nI o) (nI m) hm = some (pI (fnI f x m 0), hm) := by
  rw [f_M_find, bl_e]
  exact M_fdL hx hw R ho m 0 (by omega) F (by omega)
theorem C_po12 {F m x : Nat} {f : Nat → Nat} {hc : HS} (hF : 2000 ≤ F) (hx : x < 32 ^ 7) (R : TABc 12 m f hc) (hm : m ≤ 6) : f_Plan_placeOf_12 F (nI m) (lN x) hc = some (pI (fnI f x m 0), hc) := by
  have loop : ∀ (j k : Nat), k + j = m → ∀ g, j < g → l_Plan_placeOf_12_0 F (nI m) (lN x) g (nI k) hc = some (pI (fnI f x j k), hc) := by
    intro j
    induction j with
    | zero =>
      intro k hk g hg
      obtain ⟨g, rfl⟩ : ∃ z, g = z + 1 := ⟨g - 1, by omega⟩
      rw [l_Plan_placeOf_12_0, ite_leN (by omega) (by omega), if_pos (by omega), fnI, pI_0]
    | succ j ih =>
      intro k hk g hg
      obtain ⟨g, rfl⟩ : ∃ z, g = z + 1 := ⟨g - 1, by omega⟩
      obtain ⟨r1, r2⟩ := R k (by omega)
      rw [l_Plan_placeOf_12_0, ite_leN (by omega) (by omega), if_neg (by omega), ifin (by omega) (by omega), nI_clamp (by omega), r1, bl_e, nI_add, ih (k + 1) (by omega) g (by omega), fnI]
      by_cases z : f k = x
      · rw [if_pos ((lg_cmp_eq _ _).mpr (by rw [z])), if_pos z, pI_s]
      · rw [if_neg (fun h => z (lN_inj (by omega) (by omega) ((lg_cmp_eq _ _).mp h))), if_neg z]
  rw [f_Plan_placeOf_12, bl_e]
  exact loop m 0 (by omega) F (by omega)
theorem C_po13 {F m x : Nat} {f : Nat → Nat} {hc : HS} (hF : 2000 ≤ F) (hx : x < 32 ^ 7) (R : TABc 13 m f hc) (hm : m ≤ 6) : f_Plan_placeOf_13 F (nI m) (lN x) hc = some (pI (fnI f x m 0), hc) := by
  have loop : ∀ (j k : Nat), k + j = m → ∀ g, j < g → l_Plan_placeOf_13_0 F (nI m) (lN x) g (nI k) hc = some (pI (fnI f x j k), hc) := by
    intro j
    induction j with
    | zero =>
      intro k hk g hg
      obtain ⟨g, rfl⟩ : ∃ z, g = z + 1 := ⟨g - 1, by omega⟩
      rw [l_Plan_placeOf_13_0, ite_leN (by omega) (by omega), if_pos (by omega), fnI, pI_0]
    | succ j ih =>
      intro k hk g hg
      obtain ⟨g, rfl⟩ : ∃ z, g = z + 1 := ⟨g - 1, by omega⟩
      obtain ⟨r1, r2⟩ := R k (by omega)
      rw [l_Plan_placeOf_13_0, ite_leN (by omega) (by omega), if_neg (by omega), ifin (by omega) (by omega), nI_clamp (by omega), r1, bl_e, nI_add, ih (k + 1) (by omega) g (by omega), fnI]
      by_cases z : f k = x
      · rw [if_pos ((lg_cmp_eq _ _).mpr (by rw [z])), if_pos z, pI_s]
      · rw [if_neg (fun h => z (lN_inj (by omega) (by omega) ((lg_cmp_eq _ _).mp h))), if_neg z]
  rw [f_Plan_placeOf_13, bl_e]
  exact loop m 0 (by omega) F (by omega)
theorem C_po14 {F m x : Nat} {f : Nat → Nat} {hc : HS} (hF : 2000 ≤ F) (hx : x < 32 ^ 7) (R : TABc 14 m f hc) (hm : m ≤ 5) : f_Plan_placeOf_14 F (nI m) (lN x) hc = some (pI (fnI f x m 0), hc) := by
  have loop : ∀ (j k : Nat), k + j = m → ∀ g, j < g → l_Plan_placeOf_14_0 F (nI m) (lN x) g (nI k) hc = some (pI (fnI f x j k), hc) := by
    intro j
    induction j with
    | zero =>
      intro k hk g hg
      obtain ⟨g, rfl⟩ : ∃ z, g = z + 1 := ⟨g - 1, by omega⟩
      rw [l_Plan_placeOf_14_0, ite_leN (by omega) (by omega), if_pos (by omega), fnI, pI_0]
    | succ j ih =>
      intro k hk g hg
      obtain ⟨g, rfl⟩ : ∃ z, g = z + 1 := ⟨g - 1, by omega⟩
      obtain ⟨r1, r2⟩ := R k (by omega)
      rw [l_Plan_placeOf_14_0, ite_leN (by omega) (by omega), if_neg (by omega), ifin (by omega) (by omega), nI_clamp (by omega), r1, bl_e, nI_add, ih (k + 1) (by omega) g (by omega), fnI]
      by_cases z : f k = x
      · rw [if_pos ((lg_cmp_eq _ _).mpr (by rw [z])), if_pos z, pI_s]
      · rw [if_neg (fun h => z (lN_inj (by omega) (by omega) ((lg_cmp_eq _ _).mp h))), if_neg z]
  rw [f_Plan_placeOf_14, bl_e]
  exact loop m 0 (by omega) F (by omega)
theorem C_po4 {F m x : Nat} {f : Nat → Nat} {hc : HS} (hF : 2000 ≤ F) (hx : x < 32 ^ 7) (R : TABc 4 m f hc) (hm : m ≤ 6) : f_Plan_placeOf_4 F (nI m) (lN x) hc = some (pI (fnI f x m 0), hc) := by
  have loop : ∀ (j k : Nat), k + j = m → ∀ g, j < g → l_Plan_placeOf_4_0 F (nI m) (lN x) g (nI k) hc = some (pI (fnI f x j k), hc) := by
    intro j
    induction j with
    | zero =>
      intro k hk g hg
      obtain ⟨g, rfl⟩ : ∃ z, g = z + 1 := ⟨g - 1, by omega⟩
      rw [l_Plan_placeOf_4_0, ite_leN (by omega) (by omega), if_pos (by omega), fnI, pI_0]
    | succ j ih =>
      intro k hk g hg
      obtain ⟨g, rfl⟩ : ∃ z, g = z + 1 := ⟨g - 1, by omega⟩
      obtain ⟨r1, r2⟩ := R k (by omega)
      rw [l_Plan_placeOf_4_0, ite_leN (by omega) (by omega), if_neg (by omega), ifin (by omega) (by omega), nI_clamp (by omega), r1, bl_e, nI_add, ih (k + 1) (by omega) g (by omega), fnI]
      by_cases z : f k = x
      · rw [if_pos ((lg_cmp_eq _ _).mpr (by rw [z])), if_pos z, pI_s]
      · rw [if_neg (fun h => z (lN_inj (by omega) (by omega) ((lg_cmp_eq _ _).mp h))), if_neg z]
  rw [f_Plan_placeOf_4, bl_e]
  exact loop m 0 (by omega) F (by omega)
theorem C_po5 {F m x : Nat} {f : Nat → Nat} {hc : HS} (hF : 2000 ≤ F) (hx : x < 32 ^ 7) (R : TABc 5 m f hc) (hm : m ≤ 6) : f_Plan_placeOf_5 F (nI m) (lN x) hc = some (pI (fnI f x m 0), hc) := by
  have loop : ∀ (j k : Nat), k + j = m → ∀ g, j < g → l_Plan_placeOf_5_0 F (nI m) (lN x) g (nI k) hc = some (pI (fnI f x j k), hc) := by
    intro j
    induction j with
    | zero =>
      intro k hk g hg
      obtain ⟨g, rfl⟩ : ∃ z, g = z + 1 := ⟨g - 1, by omega⟩
      rw [l_Plan_placeOf_5_0, ite_leN (by omega) (by omega), if_pos (by omega), fnI, pI_0]
    | succ j ih =>
      intro k hk g hg
      obtain ⟨g, rfl⟩ : ∃ z, g = z + 1 := ⟨g - 1, by omega⟩
      obtain ⟨r1, r2⟩ := R k (by omega)
      rw [l_Plan_placeOf_5_0, ite_leN (by omega) (by omega), if_neg (by omega), ifin (by omega) (by omega), nI_clamp (by omega), r1, bl_e, nI_add, ih (k + 1) (by omega) g (by omega), fnI]
      by_cases z : f k = x
      · rw [if_pos ((lg_cmp_eq _ _).mpr (by rw [z])), if_pos z, pI_s]
      · rw [if_neg (fun h => z (lN_inj (by omega) (by omega) ((lg_cmp_eq _ _).mp h))), if_neg z]
  rw [f_Plan_placeOf_5, bl_e]
  exact loop m 0 (by omega) F (by omega)
theorem C_po6 {F m x : Nat} {f : Nat → Nat} {hc : HS} (hF : 2000 ≤ F) (hx : x < 32 ^ 7) (R : TABc 6 m f hc) (hm : m ≤ 5) : f_Plan_placeOf_6 F (nI m) (lN x) hc = some (pI (fnI f x m 0), hc) := by
  have loop : ∀ (j k : Nat), k + j = m → ∀ g, j < g → l_Plan_placeOf_6_0 F (nI m) (lN x) g (nI k) hc = some (pI (fnI f x j k), hc) := by
    intro j
    induction j with
    | zero =>
      intro k hk g hg
      obtain ⟨g, rfl⟩ : ∃ z, g = z + 1 := ⟨g - 1, by omega⟩
      rw [l_Plan_placeOf_6_0, ite_leN (by omega) (by omega), if_pos (by omega), fnI, pI_0]
    | succ j ih =>
      intro k hk g hg
      obtain ⟨g, rfl⟩ : ∃ z, g = z + 1 := ⟨g - 1, by omega⟩
      obtain ⟨r1, r2⟩ := R k (by omega)
      rw [l_Plan_placeOf_6_0, ite_leN (by omega) (by omega), if_neg (by omega), ifin (by omega) (by omega), nI_clamp (by omega), r1, bl_e, nI_add, ih (k + 1) (by omega) g (by omega), fnI]
      by_cases z : f k = x
      · rw [if_pos ((lg_cmp_eq _ _).mpr (by rw [z])), if_pos z, pI_s]
      · rw [if_neg (fun h => z (lN_inj (by omega) (by omega) ((lg_cmp_eq _ _).mp h))), if_neg z]
  rw [f_Plan_placeOf_6, bl_e]
  exact loop m 0 (by omega) F (by omega)
/-! ===== the draft of an OFFICE ===== -/
/-- FOR a LINE: what both drafts hold -/
def DR (P : Pl) (hc hm : HS) : Prop := PC P hc 11 ∧ PM P (hm.1 3) (hm.2 5) 17 ∧ WFP P ∧ ∀ c, P 0 3 ≤ c → c < 6 → P 6 c = 0 ∧ hm.1 3 (43 + c) = nI 0
theorem PC_fr {P : Pl} {h h2 : HS} {b : Nat} (q : PC P h b) (c0 : h2.1 b = h.1 b) (c4 : h2.1 (b + 4) = h.1 (b + 4)) (c5 : h2.1 (b + 5) = h.1 (b + 5)) (c6 : h2.1 (b + 6) = h.1 (b + 6)) (c7 : h2.1 (b + 7) = h.1 (b + 7)) (d1 : h2.2 (b + 1) = h.2 (b + 1)) (d2 : h2.2 (b + 2) = h.2 (b + 2)) (d3 : h2.2 (b + 3) = h.2 (b + 3)) : PC P h2 b := by
  unfold PC
  rw [c0, c4, c5, c6, c7, d1, d2, d3]
  exact q
theorem DR_ts {P : Pl} {hc hm hc2 hm2 : HS} (q : DR P hc hm) (k : TS hc hm hc2 hm2) : DR P hc2 hm2 := by
  obtain ⟨q1, q2, q3, q4⟩ := q
  obtain ⟨k1, k2, -⟩ := k
  refine ⟨PC_fr q1 (k1 11 (by decide)).1 (k1 15 (by decide)).1 (k1 16 (by decide)).1 (k1 17 (by decide)).1 (k1 18 (by decide)).1 (k1 12 (by decide)).2 (k1 13 (by decide)).2 (k1 14 (by decide)).2, ?_, q3, ?_⟩
  · rw [(k2 3 (by decide)).1, (k2 5 (by decide)).2]
    exact q2
  · rw [(k2 3 (by decide)).1]
    exact q4
theorem DR_t1 {P : Pl} {hc hm : HS} (q : DR P hc hm) : TABc 12 (P 0 3) (P 11) hc ∧ TABm 17 (P 0 3) (P 11) hm := ⟨q.1.2.2.2.2.2.1, fun i hi => ⟨q.2.1.2.2.2.2.1 i hi, (q.1.2.2.2.2.2.1 i hi).2⟩⟩
theorem DR_t2 {P : Pl} {hc hm : HS} (q : DR P hc hm) : TABc 13 (P 0 4) (P 12) hc ∧ TABm 23 (P 0 4) (P 12) hm := ⟨q.1.2.2.2.2.2.2.1, fun i hi => ⟨q.2.1.2.2.2.2.2.1 i hi, (q.1.2.2.2.2.2.2.1 i hi).2⟩⟩
theorem DR_t3 {P : Pl} {hc hm : HS} (q : DR P hc hm) : TABc 14 (P 0 5) (P 13) hc ∧ TABm 29 (P 0 5) (P 13) hm := ⟨q.1.2.2.2.2.2.2.2, fun i hi => ⟨q.2.1.2.2.2.2.2.2 i hi, (q.1.2.2.2.2.2.2.2 i hi).2⟩⟩
/-- a NAME that is told in none of the three -/
def newB (P : Pl) (x : Nat) : Bool := decide (fnI (P 11) x (P 0 3) 0 = 0) && (decide (fnI (P 12) x (P 0 4) 0 = 0) && decide (fnI (P 13) x (P 0 5) 0 = 0))
theorem C_named11 {F x : Nat} {P : Pl} {hc hm : HS} (hF : 2000 ≤ F) (hx : x < 32 ^ 7) (q : DR P hc hm) : f_Plan_causeNamed_11 F (lN x) hc = some (pI (fnI (P 11) x (P 0 3) 0), hc) := by
  have w3 := q.2.2.1.2.2.2.2.1
  rw [f_Plan_causeNamed_11, q.1.1.2.2.2.1, C_po12 hF hx (DR_t1 q).1 w3, bnd_s]
theorem C_isToldName {F x : Nat} {P : Pl} {hc hm : HS} (hF : 2000 ≤ F) (hx : x < 32 ^ 7) (q : DR P hc hm) : f_Plan_isToldName_11 F (lN x) hc = some (bI (!newB P x), hc) := by
  have w3 := q.2.2.1.2.2.2.2.1
  have w4 := q.2.2.1.2.2.2.2.2.1
  have w5 := q.2.2.1.2.2.2.2.2.2.1
  have l1 := fnI_le (f := P 11) (x := x) (P 0 3) 0
  have l2 := fnI_le (f := P 12) (x := x) (P 0 4) 0
  have l3 := fnI_le (f := P 13) (x := x) (P 0 5) 0
  rw [f_Plan_isToldName_11, C_named11 hF hx q, bnd_s, ite_pn (by omega), f_Plan_deedNamed_11, q.1.1.2.2.2.2.1, C_po13 hF hx (DR_t2 q).1 w4, bnd_s, bnd_s, ite_pn (by omega), f_Plan_clerkNamed_11, q.1.1.2.2.2.2.2, C_po14 hF hx (DR_t3 q).1 w5, bnd_s, bnd_s, ite_pn (by omega), rZ0, rZ1, newB]
  by_cases z1 : fnI (P 11) x (P 0 3) 0 = 0
  · rw [if_pos z1, decide_eq_true z1]
    by_cases z2 : fnI (P 12) x (P 0 4) 0 = 0
    · rw [if_pos z2, decide_eq_true z2]
      by_cases z3 : fnI (P 13) x (P 0 5) 0 = 0
      · rw [if_pos z3, decide_eq_true z3]; rfl
      · rw [if_neg z3, decide_eq_false z3]; rfl
    · rw [if_neg z2, decide_eq_false z2]; rfl
  · rw [if_neg z1, decide_eq_false z1]; rfl
/-- a new NAME stands here (it is not taken yet), or a FAULT; the reference takes it -/
theorem T_new {F n most p a : Nat} {t : Nat × Nat} {B : Nat → Nat} {P : Pl} {hc hm : HS} (hF : 2000 ≤ F) (q : RD n most p a t B hc hm) (D : DR P hc hm) (R : RSr hm) (o : Nat) (ho : o < 34) : (t.1 = 1 ∧ t.2 < 32 ^ 7 ∧ hc.2 1 6 = lN t.2 ∧ hm.2 0 17 = lN (cv t.2) ∧ f_OffR_isNewName F hc = some (nI 1, hc) ∧ f_M_fresh F (nI o) hm = bnd (f_M_next F (sL hm 5 o (lN (cv t.2)))) (fun _ h => some (nI 1, h))) ∨ BAD hc hm (f_OffR_isNewName F hc) (f_M_fresh F (nI o) hm) := by
  have TK := q.2.2.2.2.2.2.2.2.2.2.2.2.2
  have k := TK_k1 TK
  have w3 := D.2.2.1.2.2.2.2.1
  have w4 := D.2.2.1.2.2.2.2.2.1
  have w5 := D.2.2.1.2.2.2.2.2.2.1
  have m0 : hm.1 3 0 = nI (P 0 3) := D.2.1.1.1
  have m1 : hm.1 3 1 = nI (P 0 4) := D.2.1.1.2.1
  have m2 : hm.1 3 2 = nI (P 0 5) := D.2.1.1.2.2.1
  rw [f_OffR_isNewName, C_isN hF TK, bnd_s, ite_b0, f_M_fresh, M_isN hF TK R, bnd_s, ite_b0]
  by_cases z : nmB t = true
  · have z1 : t.1 = 1 := by
      have : decide (t.1 = 1) = true := by
        unfold nmB at z
        cases e : decide (t.1 = 1)
        · rw [e] at z; cases z
        · rfl
      exact of_decide_eq_true this
    obtain ⟨e1, e2, e3⟩ := k.2.2.2.2.2.2.2.1 z1
    have l1 := fnI_le (f := P 11) (x := t.2) (P 0 3) 0
    have l2 := fnI_le (f := P 12) (x := t.2) (P 0 4) 0
    have l3 := fnI_le (f := P 13) (x := t.2) (P 0 5) 0
    rw [if_pos z, if_pos z, f_Tape_letters, bnd_s, e1, C_isToldName hF e3 D, bnd_s, ite_b0, ifin (by omega) (by omega), nI_clamp (by omega), m0, M_find hF e3 e2 (DR_t1 D).2 (by omega), bnd_s]
    dsimp only [bl]
    rw [ite_pge (by omega), ifin (by omega) (by omega), nI_clamp (by omega), m1, M_find hF e3 e2 (DR_t2 D).2 (by omega), bnd_s, ite_pge (by omega), ifin (by omega) (by omega), nI_clamp (by omega), m2, M_find hF e3 e2 (DR_t3 D).2 (by omega), bnd_s, ite_plt (by omega), ifin ho (by omega), nI_clamp (by omega), e2, rZ1]
    have eM : ∀ (X Z : Option (Int32 × HS)), (if fnI (P 11) t.2 (P 0 3) 0 = 0 then (if fnI (P 12) t.2 (P 0 4) 0 = 0 then (if fnI (P 13) t.2 (P 0 5) 0 = 0 then X else Z) else Z) else Z) = if newB P t.2 = true then X else Z := fun X Z => by
      unfold newB
      by_cases z1 : fnI (P 11) t.2 (P 0 3) 0 = 0
      · rw [if_pos z1, decide_eq_true z1]
        by_cases z2 : fnI (P 12) t.2 (P 0 4) 0 = 0
        · rw [if_pos z2, decide_eq_true z2]
          by_cases z3 : fnI (P 13) t.2 (P 0 5) 0 = 0
          · rw [if_pos z3, decide_eq_true z3]; rfl
          · rw [if_neg z3, decide_eq_false z3]; rfl
        · rw [if_neg z2, decide_eq_false z2]; rfl
      · rw [if_neg z1, decide_eq_false z1]; rfl
    rw [eM]
    cases hn : newB P t.2
    · right
      obtain ⟨hc2, hm2, g1, g2, g3, g4⟩ := T_fail 3 (by decide) q
      rw [if_pos (show (!false) = true from rfl), if_neg (show ¬ false = true by decide), g1, g2, bnd_s, bnd_s, if_pos (show nI 0 = 0 from rfl), rZ0, rZ0]
      exact ⟨hc2, hm2, rfl, rfl, g3, g4⟩
    · left
      rw [if_neg (show ¬ (!true) = true by decide), if_pos (show true = true from rfl)]
      refine ⟨z1, e3, rfl, rfl, rfl, ?_⟩
      congr 1
  · right
    obtain ⟨hc2, hm2, g1, g2, g3, g4⟩ := T_fail 1 (by decide) q
    rw [if_neg z, if_neg z, g1, g2, bnd_s, bnd_s, rZ0, rZ0]
    exact ⟨hc2, hm2, rfl, rfl, g3, g4⟩
