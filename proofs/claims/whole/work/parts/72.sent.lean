/-! ===== a SENTENCE: words, signs, codes on both sides ===== -/
theorem C_sg {t : Nat × Nat} {hc hm : HS} (q : TKr t hc hm) {c : Nat} (hc6 : c = 40 ∨ c = 41 ∨ c = 59 ∨ c = 60 ∨ c = 61 ∨ c = 62) : f_Tape_isSign (nI c) hc = some (bI (decide (t = (3, c))), hc) := by
  have k := TK_k1 q
  have eC : hc.1 1 5 = nI c ↔ t = (3, c) := by
    obtain ⟨k1, -, k2, -, k3, -, -, -, -, k4, k5, k6⟩ := k
    constructor
    · intro h
      rcases k6 with z | z | z | z | z
      · have := k3.mpr z; rw [h] at this; have := nI_inj (by omega) (by omega) this; omega
      · have := k1.mpr z; rw [h] at this; have := nI_inj (by omega) (by omega) this; omega
      · have := k2.mpr z; rw [h] at this; have := nI_inj (by omega) (by omega) this; omega
      · obtain ⟨e1, e2, e3⟩ := k4 z
        rw [h] at e1
        have := nI_inj (by omega) (by omega) e1
        exact Prod.ext z this.symm
      · rcases k5 z with e | e
        · rw [h] at e; have := nI_inj (by omega) (by omega) e; omega
        · rw [h] at e; have := nI_inj (by omega) (by omega) e; omega
    · intro h
      have := (k4 (by rw [h])).1
      rw [this, h]
  rw [f_Tape_isSign, ite_iff eC, rZ0, rZ1]
  by_cases z : t = (3, c)
  · rw [if_pos z, decide_eq_true z]; rfl
  · rw [if_neg z, decide_eq_false z]; rfl
theorem M_sg {t : Nat × Nat} {hc hm : HS} (q : TKr t hc hm) {c : Nat} (hc6 : c = 40 ∨ c = 41 ∨ c = 59 ∨ c = 60 ∨ c = 61 ∨ c = 62) : f_M_isSign (nI c) hm = some (bI (decide (t = (3, c))), hm) := by
  have k := TK_k1 q
  rw [f_M_isSign, ite_iff k.2.2.2.2.2.2.1, rZ0, rZ1]
  by_cases z : t.1 = 3
  · obtain ⟨e1, e2, e3⟩ := k.2.2.2.2.2.2.2.2.2.1 z
    rw [if_pos z, e2, ite_eqN (by omega) (by omega)]
    by_cases y : t.2 = c
    · rw [if_pos y, decide_eq_true (Prod.ext z y)]; rfl
    · rw [if_neg y, decide_eq_false (fun h => y (by rw [h]))]; rfl
  · rw [if_neg z, decide_eq_false (fun h => z (by rw [h]))]; rfl
def sth (t : Nat × Nat) : Int32 := if isW t 13 = true then nI 0 else if isW t 14 = true then nI 1 else if isW t 15 = true then nI 2 else if isW t 16 = true then nI 3 else if isW t 17 = true then nI 4 else -1
def stp (t : Nat × Nat) : Int32 := if decide (t = (3, 40)) = true then nI 9 else if isW t 12 = true then nI 0 else if isW t 18 = true then nI 4 else if isW t 19 = true then nI 5 else if isW t 20 = true then nI 6 else if isW t 21 = true then nI 7 else if isW t 22 = true then nI 8 else if sth t = -1 then -1 else nI 3
def lfo (t : Nat × Nat) : Int32 := if isW t 13 = true then nI 0 else if isW t 14 = true then nI 1 else if isW t 15 = true then nI 2 else if isW t 16 = true then nI 3 else if isW t 17 = true then nI 4 else if isW t 18 = true then nI 5 else if isW t 19 = true then nI 6 else if isW t 20 = true then nI 7 else if isW t 21 = true then nI 8 else if isW t 22 = true then nI 9 else -1
theorem so_ite {c : Prop} [Decidable c] {x y : Int32} {h : HS} : (if c then (some (x, h) : Option (Int32 × HS)) else some (y, h)) = some (if c then x else y, h) := by split <;> rfl
theorem C_stateHere {t : Nat × Nat} {hc hm : HS} (q : TKr t hc hm) : f_Sent_stateHere hc = some (sth t, hc) := by
  unfold f_Sent_stateHere sth
  rw [C_isW q (by decide), bnd_s, C_isW q (by decide), bnd_s, C_isW q (by decide), bnd_s, C_isW q (by decide), bnd_s, C_isW q (by decide), bnd_s]
  rw [ite_b0, ite_b0, ite_b0, ite_b0, ite_b0, so_ite, so_ite, so_ite, so_ite, so_ite]
theorem C_stepHere {t : Nat × Nat} {hc hm : HS} (q : TKr t hc hm) : f_Sent_stepHere hc = some (stp t, hc) := by
  unfold f_Sent_stepHere stp
  rw [C_sg q (by omega), bnd_s, C_isW q (by decide), bnd_s, C_isW q (by decide), bnd_s, C_isW q (by decide), bnd_s, C_isW q (by decide), bnd_s, C_isW q (by decide), bnd_s, C_isW q (by decide), bnd_s, C_stateHere q, bnd_s]
  rw [ite_b0, ite_b0, ite_b0, ite_b0, ite_b0, ite_b0, ite_b0, so_ite, so_ite, so_ite, so_ite, so_ite, so_ite, so_ite, so_ite]
theorem M_leafOf {t : Nat × Nat} {hc hm : HS} (q : TKr t hc hm) : f_M_leafOf hm = some (lfo t, hm) := by
  unfold f_M_leafOf lfo
  rw [M_isW q (w := 13) (by decide) (by decide +kernel), bnd_s, M_isW q (w := 14) (by decide) (by decide +kernel), bnd_s, M_isW q (w := 15) (by decide) (by decide +kernel), bnd_s, M_isW q (w := 16) (by decide) (by decide +kernel), bnd_s, M_isW q (w := 17) (by decide) (by decide +kernel), bnd_s, M_isW q (w := 18) (by decide) (by decide +kernel), bnd_s, M_isW q (w := 19) (by decide) (by decide +kernel), bnd_s, M_isW q (w := 20) (by decide) (by decide +kernel), bnd_s, M_isW q (w := 21) (by decide) (by decide +kernel), bnd_s, M_isW q (w := 22) (by decide) (by decide +kernel), bnd_s]
  rw [ite_b0, ite_b0, ite_b0, ite_b0, ite_b0, ite_b0, ite_b0, ite_b0, ite_b0, ite_b0, so_ite, so_ite, so_ite, so_ite, so_ite, so_ite, so_ite, so_ite, so_ite, so_ite]
theorem OPC (t : Nat × Nat) : (t = (3, 40) ∧ isW t 12 = false ∧ stp t = nI 9) ∨ (t.1 = 1 ∧ t ≠ (3, 40) ∧ isW t 12 = true ∧ stp t = nI 0) ∨ (∃ k, k ≤ 4 ∧ t.1 = 1 ∧ t ≠ (3, 40) ∧ isW t 12 = false ∧ stp t = nI 3 ∧ sth t = nI k ∧ lfo t = nI k) ∨ (t.1 = 1 ∧ t ≠ (3, 40) ∧ isW t 12 = false ∧ stp t = nI 4 ∧ lfo t = nI 5) ∨ (∃ k, 1 ≤ k ∧ k ≤ 4 ∧ t.1 = 1 ∧ t ≠ (3, 40) ∧ isW t 12 = false ∧ stp t = nI (4 + k) ∧ lfo t = nI (5 + k)) ∨ (t ≠ (3, 40) ∧ isW t 12 = false ∧ stp t = -1 ∧ ¬ 0 ≤ lfo t) := by
  obtain ⟨x, y⟩ := t
  by_cases h1 : x = 1
  · subst h1
    have n3 : ((1, y) : Nat × Nat) ≠ (3, 40) := fun e => by cases e
    by_cases e12 : y = WNs.getD 12 0
    · subst e12; exact Or.inr (Or.inl ⟨rfl, n3, by decide +kernel, by decide +kernel⟩)
    by_cases e13 : y = WNs.getD 13 0
    · subst e13; exact Or.inr (Or.inr (Or.inl ⟨0, by decide, rfl, n3, by decide +kernel, by decide +kernel, by decide +kernel, by decide +kernel⟩))
    by_cases e14 : y = WNs.getD 14 0
    · subst e14; exact Or.inr (Or.inr (Or.inl ⟨1, by decide, rfl, n3, by decide +kernel, by decide +kernel, by decide +kernel, by decide +kernel⟩))
    by_cases e15 : y = WNs.getD 15 0
    · subst e15; exact Or.inr (Or.inr (Or.inl ⟨2, by decide, rfl, n3, by decide +kernel, by decide +kernel, by decide +kernel, by decide +kernel⟩))
    by_cases e16 : y = WNs.getD 16 0
    · subst e16; exact Or.inr (Or.inr (Or.inl ⟨3, by decide, rfl, n3, by decide +kernel, by decide +kernel, by decide +kernel, by decide +kernel⟩))
    by_cases e17 : y = WNs.getD 17 0
    · subst e17; exact Or.inr (Or.inr (Or.inl ⟨4, by decide, rfl, n3, by decide +kernel, by decide +kernel, by decide +kernel, by decide +kernel⟩))
    by_cases e18 : y = WNs.getD 18 0
    · subst e18; exact Or.inr (Or.inr (Or.inr (Or.inl ⟨rfl, n3, by decide +kernel, by decide +kernel, by decide +kernel⟩)))
    by_cases e19 : y = WNs.getD 19 0
    · subst e19; exact Or.inr (Or.inr (Or.inr (Or.inr (Or.inl ⟨1, by decide, by decide, rfl, n3, by decide +kernel, by decide +kernel, by decide +kernel⟩))))
    by_cases e20 : y = WNs.getD 20 0
    · subst e20; exact Or.inr (Or.inr (Or.inr (Or.inr (Or.inl ⟨2, by decide, by decide, rfl, n3, by decide +kernel, by decide +kernel, by decide +kernel⟩))))
    by_cases e21 : y = WNs.getD 21 0
    · subst e21; exact Or.inr (Or.inr (Or.inr (Or.inr (Or.inl ⟨3, by decide, by decide, rfl, n3, by decide +kernel, by decide +kernel, by decide +kernel⟩))))
    by_cases e22 : y = WNs.getD 22 0
    · subst e22; exact Or.inr (Or.inr (Or.inr (Or.inr (Or.inl ⟨4, by decide, by decide, rfl, n3, by decide +kernel, by decide +kernel, by decide +kernel⟩))))
    have f : ∀ w, y ≠ WNs.getD w 0 → isW (1, y) w = false := fun w h => decide_eq_false (fun e => h e.2)
    have s : sth (1, y) = -1 := by unfold sth; rw [f 13 e13, f 14 e14, f 15 e15, f 16 e16, f 17 e17]; rfl
    refine Or.inr (Or.inr (Or.inr (Or.inr (Or.inr ⟨n3, f 12 e12, ?_, ?_⟩))))
    · unfold stp; rw [f 12 e12, f 18 e18, f 19 e19, f 20 e20, f 21 e21, f 22 e22, s, decide_eq_false n3]; rfl
    · unfold lfo; rw [f 13 e13, f 14 e14, f 15 e15, f 16 e16, f 17 e17, f 18 e18, f 19 e19, f 20 e20, f 21 e21, f 22 e22]; decide
  · have f : ∀ w, isW (x, y) w = false := fun w => decide_eq_false (fun e => h1 e.1)
    have s : sth (x, y) = -1 := by unfold sth; rw [f, f, f, f, f]; rfl
    by_cases h3 : ((x, y) : Nat × Nat) = (3, 40)
    · exact Or.inl ⟨h3, f 12, by unfold stp; rw [decide_eq_true h3]; rfl⟩
    · refine Or.inr (Or.inr (Or.inr (Or.inr (Or.inr ⟨h3, f 12, ?_, ?_⟩))))
      · unfold stp; rw [f, f, f, f, f, f, s, decide_eq_false h3]; rfl
      · unfold lfo; rw [f, f, f, f, f, f, f, f, f, f]; decide
/-! the stack of the reference, the codes not yet there -/
def dc : List Nat → Nat
  | [] => 0
  | b :: L => dc L + (if b = 20 ∨ b = 23 then 1 else 0)
def jc : List Nat → Nat
  | [] => 0
  | b :: L => jc L + (if b = 23 then 0 else 1)
def stq (f : Nat → Int32) : List Nat → Prop
  | [] => True
  | b :: L => f L.length = nI b ∧ b ≤ 23 ∧ stq f L
theorem stq_up {f : Nat → Int32} {k : Nat} {v : Int32} : ∀ {L : List Nat}, L.length ≤ k → stq f L → stq (upd f k v) L
  | [], _, _ => trivial
  | b :: L, h, q => by
    have h' : L.length + 1 ≤ k := h
    exact ⟨by rw [upd_n (by omega)]; exact q.1, q.2.1, stq_up (by omega) q.2.2⟩
def MS (m o w : Nat) (L : List Nat) (hm : HS) : Prop := hm.1 0 36 = nI m ∧ hm.1 0 37 = nI o ∧ hm.1 0 38 = nI L.length ∧ hm.1 0 39 = nI (1 + dc L) ∧ hm.1 0 40 = nI w ∧ stq (hm.1 14) L
def CO (m : Nat) (hc hm : HS) : Prop := ∀ i, i < m → cdOK (hc.1 47 i) (hc.1 48 i) (hc.1 49 i) (hm.1 4 (3 * i)) (hm.1 4 (3 * i + 1)) (hm.1 4 (3 * i + 2))
def PQ (hc : HS) : Nat → List Nat → Prop
  | _, [] => True
  | m, b :: Q => (20 ≤ b ∧ b ≤ 22) ∧ hc.1 47 m = nI (b - 20) ∧ PQ hc (m + 1) Q
def dpS (s : Nat → Int32) (n v o : Nat) : Prop := (∀ i, i < n → (s i = nI 0 → 1 ≤ dpn s i) ∧ ((s i = nI 1 ∨ s i = nI 2) → 2 ≤ dpn s i) ∧ dpn s (i + 1) ≤ 20) ∧ dpn s n = v ∧ v ≤ o
/-- what the office tells, on both sides, while a SENTENCE is read -/
def SD (P : Pl) (hc hm : HS) : Prop := PC P hc 3 ∧ PM P (hm.1 2) (hm.2 5) 0 ∧ WFP P ∧ RSr hm
def SS (P : Pl) (n p a : Nat) (t : Nat × Nat) (B : Nat → Nat) (m o v w : Nat) (Q L : List Nat) (hc hm : HS) : Prop := RD n 200 p a t B hc hm ∧ MS m o w L hm ∧ CO m hc hm ∧ PQ hc m Q ∧ hc.1 46 3 = nI (m + Q.length) ∧ hc.1 46 4 = nI o ∧ dpS (hc.1 47) (m + Q.length) v o ∧ o ≤ 20 ∧ m + Q.length ≤ 40 ∧ L.length ≤ 40 ∧ SD P hc hm
theorem SD_fx {P : Pl} {hc hm hc2 hm2 : HS} (q : SD P hc hm) (k : FX hc hm hc2 hm2) : SD P hc2 hm2 := by
  obtain ⟨q1, ⟨p1, p2, p3, p4, p5, p6, p7⟩, q3, q4⟩ := q
  have e2 := (k.2.1 2 (by decide)).1
  have w3 := q3.2.2.2.2.1
  have w4 := q3.2.2.2.2.2.1
  have w5 := q3.2.2.2.2.2.2.1
  refine ⟨PC_fr q1 (k.1 3 (by decide)).1 (k.1 7 (by decide)).1 (k.1 8 (by decide)).1 (k.1 9 (by decide)).1 (k.1 10 (by decide)).1 (k.1 4 (by decide)).2 (k.1 5 (by decide)).2 (k.1 6 (by decide)).2, ⟨?_, ?_, ?_, ?_, fun x hx => ?_, fun x hx => ?_, fun x hx => ?_⟩, q3, fun i hi => ?_⟩
  · rw [e2]; exact p1
  · rw [e2]; exact p2
  · rw [e2]; exact p3
  · rw [e2]; exact p4
  · rw [k.2.2.2 _ (by omega)]; exact p5 x hx
  · rw [k.2.2.2 _ (by omega)]; exact p6 x hx
  · rw [k.2.2.2 _ (by omega)]; exact p7 x hx
  · rw [(k.2.1 6 (by decide)).2]; exact q4 i hi
