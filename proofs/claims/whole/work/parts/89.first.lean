/-! ===== the first state: what both constructors' ends come to ===== -/
theorem WFP_z : WFP Pz := by
  refine ⟨by decide, by decide, by decide, by decide, by decide, by decide, by decide, fun c => ?_, fun d => ?_, fun k => ?_⟩
  · show 0 ≤ 99 ∧ 1 ≤ 1 ∧ 1 ≤ 99 ∧ 1 ≤ 1 ∧ 1 ≤ 99 ∧ 1 ≤ 1 ∧ 1 ≤ 20 ∧ 0 ≤ 99 ∧ 0 ≤ 99
    decide
  · show 0 ≤ 20 ∧ 0 ≤ 20 ∧ 0 ≤ 20
    decide
  · show 1 ≤ 1 ∧ 1 ≤ 9
    decide
/-- the class's cells where its constructor begins the desk -/
def ICc (hc : HS) : Prop := (hc.1 3 0 = nI 1 ∧ hc.1 3 1 = nI 9 ∧ hc.1 3 2 = nI 50 ∧ hc.1 3 3 = nI 0 ∧ hc.1 3 4 = nI 0 ∧ hc.1 3 5 = nI 0 ∧ ∀ i, i < 12 → hc.1 8 i = nI 0) ∧ (hc.1 32 0 = nI 0 ∧ hc.1 33 0 = nI 0 ∧ hc.1 34 0 = nI 0) ∧ hc.1 0 15 = nI 0 ∧ hc.1 0 16 = -1 ∧ hc.1 1 1 = nI 0 ∧ hc.1 20 3 = nI 0 ∧ hc.1 20 4 = nI 0 ∧ hc.1 42 3 = nI 0 ∧ (∀ k, k < 5 → hc.1 53 k = -1) ∧ (∀ w, w < 4 → hc.1 83 w = -1) ∧ hc.1 54 3 = nI 0 ∧ hc.1 68 3 = nI 0
/-- the reference's cells where its constructor comes to begins() -/
def ICm (hm : HS) : Prop := (∀ i, i < 332 → hm.1 2 i = if i = 4 then nI 1 else if i = 5 then nI 9 else if i = 6 then nI 50 else nI 0) ∧ hm.1 0 2 = nI 0 ∧ hm.1 0 15 = nI 0 ∧ hm.1 0 23 = nI 0 ∧ hm.1 0 28 = -1 ∧ hm.1 0 30 = nI 0 ∧ hm.1 0 34 = nI 0 ∧ hm.1 18 0 = nI 0 ∧ hm.1 18 1 = nI 0 ∧ RSr hm
theorem Rel_first {F : Nat} {hc hm : HS} (hF : 20000 ≤ F) (C : ICc hc) (M : ICm hm) : ∃ hc1 hc2 hm2, f_Desk_begin F hc = some ((), hc1) ∧ f_Ways_sumUp F hc1 = some ((), hc2) ∧ f_M_begins F hm = some ((), hm2) ∧ Rel Pz (A0 Pz (hm.1 2)) hc2 hm2 := by
  obtain ⟨⟨p0, p1, p2, p3, p4, p5, p8⟩, us, c15, c16, c11, c203, c204, c42, c53, c83, c54, c68⟩ := C
  obtain ⟨m2, m02, m015, m023, m028, m030, m034, m180, m181, rs⟩ := M
  have pc : PC Pz hc 3 := by
    refine ⟨⟨p0, p1, p2, p3, p4, p5⟩, fun c w h => absurd h (Nat.not_lt_zero _), fun c w h hw _ => ?_, fun c w h => absurd h (Nat.not_lt_zero _), fun c h => absurd h (Nat.not_lt_zero _), fun c h => absurd h (Nat.not_lt_zero _), fun c h => absurd h (Nat.not_lt_zero _), fun c h => absurd h (Nat.not_lt_zero _)⟩
    show hc.1 8 (c * 2 + w) = _
    rw [p8 _ (by omega)]
    rcases (show w = 0 ∨ w = 1 by omega) with e | e <;> subst e <;> rfl
  have pm : PM Pz (hm.1 2) (hm.2 5) 0 := ⟨⟨m2 0 (by omega), m2 1 (by omega), m2 2 (by omega), m2 3 (by omega), m2 4 (by omega), m2 5 (by omega), m2 6 (by omega)⟩, fun c h => absurd h (Nat.not_lt_zero _), fun c h => absurd h (Nat.not_lt_zero _), fun c h => absurd h (Nat.not_lt_zero _), fun c h => absurd h (Nat.not_lt_zero _), fun c h => absurd h (Nat.not_lt_zero _), fun c h => absurd h (Nat.not_lt_zero _)⟩
  obtain ⟨r, a1, a2⟩ := C_begin (F := F) (zz := hm.1 2) (by omega) WFP_z pc
  have pc1 : PC Pz (st hc 21 r) 3 := PC_fr pc (st_o (by decide)) (st_o (by decide)) (st_o (by decide)) (st_o (by decide)) (st_o (by decide)) rfl rfl rfl
  obtain ⟨hc2, b1, b2, b3⟩ := C_sumUp (F := F) (by omega) WFP_z pc1 (by rw [st_o (by decide), st_o (by decide), st_o (by decide)]; exact us)
  have pc2 : PC Pz hc2 3 := PC_fr pc1 (b3 3 (by decide)).1 (b3 7 (by decide)).1 (b3 8 (by decide)).1 (b3 9 (by decide)).1 (b3 10 (by decide)).1 (b3 4 (by decide)).2 (b3 5 (by decide)).2 (b3 6 (by decide)).2
  obtain ⟨s5, d1, d2⟩ := M_begins (F := F) (by omega) WFP_z pm (fun i h1 h2 => by rw [m2 i h2, if_neg (by omega), if_neg (by omega), if_neg (by omega)])
  have x : ∀ y, y ∉ [31, 32, 33, 34, 21] → hc2.1 y = hc.1 y := fun y hy => by
    rw [(b3 y (fun e => hy (by
      have : ∀ z, z ∈ [31, 32, 33, 34] → z ∈ [31, 32, 33, 34, 21] := by decide
      exact this y e))).1, st_o (fun e => hy (by rw [e]; decide))]
  refine ⟨st hc 21 r, hc2, st hm 2 s5, a1, b1, d1, ⟨pc2, by rw [(b3 21 (by decide)).1, st_e]; exact a2⟩, d2, WF_0 WFP_z, b2, ⟨0, 0, fun _ => A0 Pz (hm.1 2), by omega, by omega, ?_, ?_, ?_, fun j hj => absurd hj (Nat.not_lt_zero _)⟩, ⟨0, by omega, ?_, ?_, fun i hi => absurd hi (Nat.not_lt_zero _), dpOK_0 _⟩, ⟨0, by omega, ?_, ?_, fun i hi => absurd hi (Nat.not_lt_zero _)⟩, ?_, ?_, ⟨0, by omega, Or.inr ⟨rfl, ?_⟩, fun k hk => ?_⟩, fun w hw => ?_, Or.inl ⟨?_, ?_⟩, Or.inl ⟨?_, ?_⟩, fun j hj => ?_⟩
  · rw [x 20 (by decide)]; exact c203
  · rw [x 20 (by decide)]; exact c204
  · rw [st_o (by decide)]; exact m023
  · rw [x 42 (by decide)]; exact c42
  · show hm.1 2 151 = nI 0
    rw [m2 151 (by omega), if_neg (by omega), if_neg (by omega), if_neg (by omega)]
  · rw [x 1 (by decide)]; exact c11
  · rw [st_o (by decide)]; exact m02
  · unfold FTr
    rw [x 0 (by decide), st_o (by decide), c15, m015]
  · unfold TRr
    rw [x 0 (by decide), st_o (by decide), c16, if_pos (show hm.1 0 30 = 0 from m030)]
  · rw [st_o (by decide)]; exact m028
  · rw [x 53 (by decide), c53 k hk, if_neg (Nat.not_lt_zero _)]
  · rw [x 83 (by decide), c83 w hw, st_o (by decide), if_pos (show hm.1 0 34 = 0 from m034)]
  · rw [x 54 (by decide)]; exact c54
  · rw [st_o (by decide)]; exact m180
  · rw [x 68 (by decide)]; exact c68
  · rw [st_o (by decide)]; exact m181
  · exact rs j hj
