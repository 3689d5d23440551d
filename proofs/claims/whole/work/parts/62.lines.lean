/-! ===== an OFFICE, LINE by LINE: steps ===== -/
theorem RD_fr {n most p a : Nat} {t : Nat × Nat} {B : Nat → Nat} {hc hm hc2 hm2 : HS} (q : RD n most p a t B hc hm) (c1 : hc2.1 1 = hc.1 1) (c2 : hc2.1 2 = hc.1 2) (d1 : hc2.2 1 = hc.2 1) (m0 : ∀ i, i ∈ [3, 4, 5, 11, 12, 14, 15] → hm2.1 0 i = hm.1 0 i) (m1 : hm2.1 1 = hm.1 1) (n0 : hm2.2 0 = hm.2 0) : RD n most p a t B hc2 hm2 := by
  unfold RD BYn TKr at q ⊢
  rw [c1, c2, d1, m1, n0, m0 3 (by decide), m0 4 (by decide), m0 5 (by decide), m0 11 (by decide), m0 12 (by decide), m0 14 (by decide), m0 15 (by decide)]
  exact q
theorem T_put {F n most p a : Nat} {t : Nat × Nat} {B : Nat → Nat} {hc hm : HS} (hF : 2000 ≤ F) (o lo hi : Nat) (ho : o < 72) (hlo : lo < 1000) (hhi : hi < 1000) (q : RD n most p a t B hc hm) : (∃ v p2 a2 t2 hc2 hm2, lo ≤ v ∧ v ≤ hi ∧ f_Tape_takeNumber F (nI lo) (nI hi) hc = some (nI 1, hc2) ∧ f_M_puts F (nI o) (nI lo) (nI hi) hm = some (nI 1, sI hm2 3 o (nI v)) ∧ RD n most p2 a2 t2 B hc2 hm2 ∧ a < a2 ∧ TS hc hm hc2 hm2 ∧ hc2.1 1 8 = nI v) ∨ BAD hc hm (f_Tape_takeNumber F (nI lo) (nI hi) hc) (f_M_puts F (nI o) (nI lo) (nI hi) hm) := by
  rcases T_num hF lo hi hlo hhi q with ⟨v, p2, a2, t2, hc2, hm2, b1, b2, b3, b4, b5, b6, b7, b8, b9⟩ | ⟨hc2, hm2, b1, b2, b3, b4⟩
  · refine Or.inl ⟨v, p2, a2, t2, hc2, hm2, b1, b2, b3, ?_, b5, b6, b7, b8⟩
    rw [f_M_puts, b4, bnd_s, if_neg (show ¬ nI 1 = 0 by decide), ifin ho (by omega), nI_clamp (by omega), b9, bl_e, rZ1]
  · refine Or.inr ⟨hc2, hm2, b1, ?_, b3, b4⟩
    rw [f_M_puts, b2, bnd_s, if_pos (show nI 0 = 0 from rfl), rZ0]
theorem RD_s3 {n most p a : Nat} {t : Nat × Nat} {B : Nat → Nat} {hc hm : HS} {c o k : Nat} {v w : Int32} (hcc : 11 ≤ c) (q : RD n most p a t B hc hm) : RD n most p a t B (sI hc c o v) (sI hm 3 k w) := RD_fr q (sI_o (by omega)) (sI_o (by omega)) rfl (fun _ _ => by rw [sI_o (by decide)]) (sI_o (by decide)) rfl
theorem rumN_cg {P Q : Pl} (h : ∀ c, Q 6 c = P 6 c) : ∀ n, rumN Q n = rumN P n := by
  intro n
  induction n with
  | zero => rfl
  | succ n ih => unfold rumN; rw [ih, h]
def LNs (n p a : Nat) (t : Nat × Nat) (B : Nat → Nat) (l c : Bool) (P : Pl) (hc hm : HS) : Prop := RD n 900 p a t B hc hm ∧ DR P hc hm ∧ hc.1 19 2 = bI l ∧ hc.1 19 3 = bI c ∧ hm.1 0 20 = nI ((if l = true then 1 else 0) + (if c = true then 2 else 0)) ∧ RSr hm
/-- a LINE is read, or a FAULT -/
def LNo (n a : Nat) (B : Nat → Nat) (hc hm : HS) (rc rm : Option (Int32 × HS)) : Prop := (∃ p2 a2 t2 l2 c2 P2 hc2 hm2, rc = some (nI 1, hc2) ∧ rm = some (nI 1, hm2) ∧ LNs n p2 a2 t2 B l2 c2 P2 hc2 hm2 ∧ a < a2 ∧ FX hc hm hc2 hm2) ∨ BAD hc hm rc rm
theorem LNo_t {n a a1 : Nat} {B : Nat → Nat} {hc hm hc1 hm1 : HS} {rc rm : Option (Int32 × HS)} (ha : a ≤ a1) (x : FX hc hm hc1 hm1) (y : LNo n a1 B hc1 hm1 rc rm) : LNo n a B hc hm rc rm := by
  rcases y with ⟨p2, a2, t2, l2, c2, P2, hc2, hm2, b1, b2, b3, b4, b5⟩ | b
  · exact Or.inl ⟨p2, a2, t2, l2, c2, P2, hc2, hm2, b1, b2, b3, by omega, FX_t x b5⟩
  · exact Or.inr (BAD_t x b)
theorem LNo_bad {n a : Nat} {B : Nat → Nat} {hc hm hc1 hm1 : HS} {rc rm rc2 rm2 : Option (Int32 × HS)} (x : FX hc hm hc1 hm1) (y : BAD hc1 hm1 rc rm) (e1 : ∀ h, rc = some (nI 0, h) → rc2 = some (nI 0, h)) (e2 : ∀ h, rm = some (nI 0, h) → rm2 = some (nI 0, h)) : LNo n a B hc hm rc2 rm2 := by
  obtain ⟨hc2, hm2, b1, b2, b3, b4⟩ := y
  exact Or.inr ⟨hc2, hm2, e1 _ b1, e2 _ b2, b3, FX_t x b4⟩
theorem M_once {F n most p a k : Nat} {t : Nat × Nat} {B : Nat → Nat} {hc hm : HS} {x : Nat} (hF : 2000 ≤ F) (hk : k < 2) (hx : x < 4) (h20 : hm.1 0 20 = nI x) (q : RD n most p a t B hc hm) : f_M_isOnce F (nI k) hm = if x.testBit k = true then f_M_bad (nI 3) hm else bnd (f_M_next F (sI hm 0 20 (nI (x ||| 2 ^ k)))) (fun _ h => some (nI 1, h)) := by
  rw [f_M_isOnce, h20, M_bitOf (by omega) (by omega), bnd_s, ite_b0, h20, bit_or x (by omega) k (by omega)]
  by_cases z : x.testBit k = true
  · rw [if_pos z, if_pos z]
    rw [f_M_bad, bl_e, bl_e, rZ0, bnd_s, rZ0]
  · rw [if_neg z, if_neg z, bl_e]
    congr 1
def plP (P : Pl) (v w : Nat) : Pl := fun a b => if a = 0 ∧ b = 0 then v else (if a = 0 ∧ b = 1 then w else P a b)
def pcoP (P : Pl) (v : Nat) : Pl := fun a b => if a = 0 ∧ b = 2 then v else P a b
theorem L_line {F n p a : Nat} {t : Nat × Nat} {B : Nat → Nat} {l c : Bool} {P : Pl} {hc hm : HS} (hF : 2000 ≤ F) (q : LNs n p a t B l c P hc hm) (ht : t.1 = 1) : LNo n a B hc hm (f_OffR_readBounds F hc) (bnd (f_M_isOnce F (nI 0) hm) (fun (r70 : Int32) (h69 : HS) => (if r70 = 0 then rZ (nI 0) h69 else bnd (f_M_puts F (nI 4) (nI 1) (nI 98) h69) (fun (r72 : Int32) (h71 : HS) => (if r72 = 0 then rZ (nI 0) h71 else (if inb (nI 4) 72 = true then bnd (f_M_puts F (nI 5) ((h71.1 3 (nI 4).toNatClampNeg) + (nI 1)) (nI 99) h71) (fun (r74 : Int32) (h73 : HS) => rZ r74 h73) else none)))))) := by
  obtain ⟨q1, q2, q3, q4, q5, q6⟩ := q
  have hx : (if l = true then 1 else 0) + (if c = true then 2 else 0) < 4 := by split <;> split <;> decide
  rw [f_OffR_readBounds, q3, ite_b0, M_once hF (by decide) hx q5 q1]
  cases l
  · rw [if_neg (show ¬ false = true by decide)]
    have e0 : ¬ ((if false = true then 1 else 0) + (if c = true then 2 else 0) : Nat).testBit 0 = true := by cases c <;> decide
    rw [if_neg e0, bl_e]
    have q1' : RD n 900 p a t B (sI hc 19 2 (nI 1)) (sI hm 0 20 (nI (((if false = true then 1 else 0) + (if c = true then 2 else 0) : Nat) ||| 2 ^ 0))) := RD_fr q1 (sI_o (by decide)) (sI_o (by decide)) rfl (fun i hi => sI_n (by
      have : ∀ x, x ∈ [3, 4, 5, 11, 12, 14, 15] → x ≠ 20 := by decide
      exact this i hi)) (sI_o (by decide)) rfl
    have fx1 : FX hc hm (sI hc 19 2 (nI 1)) (sI hm 0 20 (nI (((if false = true then 1 else 0) + (if c = true then 2 else 0) : Nat) ||| 2 ^ 0))) := ⟨Fr_sI (by decide), Fr_sI (by decide), F0r_sI (by decide), fun _ _ => rfl⟩
    obtain ⟨p2, a2, t2, hc2, hm2, b1, b2, b3, b4, b5, -, -⟩ := T_adv hF q1' (Or.inl ht)
    rw [b1, b2, bnd_s, bnd_s, bnd_s, if_neg (show ¬ nI 1 = 0 by decide)]
    have fx2 := FX_t fx1 (TS_fx b5)
    rcases T_put hF 4 1 98 (by decide) (by decide) (by decide) b3 with ⟨v, p3, a3, t3, hc3, hm3, c1, c2, c3, c4, c5, c6, c7, c8⟩ | bad
    · rw [c3, c4, bnd_s, bnd_s, if_neg (show ¬ nI 1 = 0 by decide), if_neg (show ¬ nI 1 = 0 by decide), f_Tape_taken, bnd_s, bl_e, c8, ifin (by omega) (by omega), nI_clamp (by omega), sI_e, nI_add]
      have r3 : RD n 900 p3 a3 t3 B hc3 (sI hm3 3 4 (nI v)) := RD_fr c5 rfl rfl rfl (fun _ _ => by rw [sI_o (by decide)]) (sI_o (by decide)) rfl
      have fx3 := FX_t (FX_t fx2 (TS_fx c7)) (show FX hc3 hm3 hc3 (sI hm3 3 4 (nI v)) from ⟨Fr_rf, Fr_sI (by decide), fun k _ => by rw [sI_o (by decide)], fun _ _ => rfl⟩)
      rcases T_put hF 5 (v + 1) 99 (by decide) (by omega) (by decide) r3 with ⟨w, p4, a4, t4, hc4, hm4, d1, d2, d3, d4, d5, d6, d7, d8⟩ | bad
      · rw [d3, d4, bnd_s, bnd_s, if_neg (show ¬ nI 1 = 0 by decide), f_Tape_taken, bnd_s, d8, f_Plan_tellLine_11, bl_e, bl_e, bnd_s, rZ1, rZ1]
        have fx4 := FX_t (FX_t fx3 (TS_fx d7)) (show FX hc4 hm4 (sI (sI hc4 11 0 (nI v)) 11 1 (nI w)) (sI hm4 3 5 (nI w)) from ⟨Fr_t (Fr_sI (by decide)) (Fr_sI (by decide)), Fr_sI (by decide), fun k _ => by rw [sI_o (by decide)], fun _ _ => rfl⟩)
        have D1 : DR P (sI hc 19 2 (nI 1)) (sI hm 0 20 (nI (((if false = true then 1 else 0) + (if c = true then 2 else 0) : Nat) ||| 2 ^ 0))) := by
          obtain ⟨e1, e2, e3, e4⟩ := q2
          exact ⟨PC_fr e1 (sI_o (by decide)) (sI_o (by decide)) (sI_o (by decide)) (sI_o (by decide)) (sI_o (by decide)) rfl rfl rfl, by rw [sI_o (by decide)]; exact e2, e3, by rw [sI_o (by decide)]; exact e4⟩
        have D3 := DR_ts (DR_ts D1 b5) c7
        have k4 : ∀ i, hm4.1 3 i = if i = 4 then nI v else hm3.1 3 i := fun i => by rw [(d7.2.1 3 (by decide)).1, sI_u]; rfl
        have f4 : ∀ x, x ≠ 1 → hc4.1 x = hc3.1 x ∧ hc4.2 x = hc3.2 x := fun x hx => d7.1 x (by simpa using hx)
        refine Or.inl ⟨p4, a4, t4, true, c, plP P v w, _, _, rfl, rfl, ⟨RD_fr d5 (by rw [sI_o (by decide), sI_o (by decide)]) (by rw [sI_o (by decide), sI_o (by decide)]) rfl (fun _ _ => by rw [sI_o (by decide)]) (sI_o (by decide)) rfl, ?_, ?_, ?_, ?_, ?_⟩, by omega, fx4⟩
        · obtain ⟨⟨⟨e0, e1, e2, e3, e4, e5⟩, g1, g2, g3, g4, g5, g6, g7⟩, ⟨⟨s0, s1, s2, s3, s4, s5, s6⟩, r1, r2, r3, r4, r5, r6⟩, ⟨w0, w1, w2, w3, w4, w5, w6, w7⟩, z⟩ := D3
          have h5 : ∀ i, (sI hm4 3 5 (nI w)).1 3 i = if i = 5 then nI w else if i = 4 then nI v else hm3.1 3 i := fun i => by rw [sI_u]; show (if i = 5 then nI w else hm4.1 3 i) = _; rw [k4]
          have n5 : (sI hm4 3 5 (nI w)).2 5 = hm3.2 5 := by rw [sI_2, (d7.2.1 5 (by decide)).2]; rfl
          refine ⟨⟨⟨?_, sI_e, ?_, ?_, ?_, ?_⟩, ?_, ?_, ?_, ?_, ?_, ?_, ?_⟩, ⟨⟨?_, ?_, ?_, ?_, ?_, ?_, ?_⟩, ?_, ?_, ?_, ?_, ?_, ?_⟩, ⟨?_, ?_, ?_, w3, w4, w5, w6, w7⟩, ?_⟩
          · rw [sI_n (by decide), sI_e]; rfl
          · rw [sI_n (by decide), sI_n (by decide), (f4 11 (by decide)).1, e2]; rfl
          · rw [sI_n (by decide), sI_n (by decide), (f4 11 (by decide)).1, e3]; rfl
          · rw [sI_n (by decide), sI_n (by decide), (f4 11 (by decide)).1, e4]; rfl
          · rw [sI_n (by decide), sI_n (by decide), (f4 11 (by decide)).1, e5]; rfl
          · intro x y hx hy
            rw [sI_o (by decide), sI_o (by decide), (f4 15 (by decide)).1, g1 x y hx hy]
            unfold plP
            rw [if_neg (by omega), if_neg (by omega)]
          · intro x y hx hy hz
            rw [sI_o (by decide), sI_o (by decide), (f4 16 (by decide)).1, g2 x y hx hy hz]
            unfold plP
            rw [if_neg (by omega), if_neg (by omega)]
          · intro x y hx hy
            rw [sI_o (by decide), sI_o (by decide), (f4 17 (by decide)).1, g3 x y hx hy]
            unfold plP
            rw [if_neg (by omega), if_neg (by omega)]
          · intro x hx
            rw [sI_o (by decide), sI_o (by decide), (f4 18 (by decide)).1]
            exact g4 x hx
          · intro x hx
            rw [sI_2, sI_2, (f4 12 (by decide)).2]
            exact g5 x hx
          · intro x hx
            rw [sI_2, sI_2, (f4 13 (by decide)).2]
            exact g6 x hx
          · intro x hx
            rw [sI_2, sI_2, (f4 14 (by decide)).2]
            exact g7 x hx
          · rw [h5]; exact s0
          · rw [h5]; exact s1
          · rw [h5]; exact s2
          · rw [h5, if_neg (by decide), if_neg (by decide), s3]
            exact congrArg nI (rumN_cg (P := P) (Q := plP P v w) (fun _ => rfl) _).symm
          · rw [h5]; rfl
          · rw [h5]; rfl
          · rw [h5]; exact s6
          · intro x hx
            have hx : x < P 0 3 := hx
            obtain ⟨y1, y2, y3, y4, y5, y6⟩ := r1 x hx
            have h5n : ∀ i, i ≠ 5 → i ≠ 4 → (sI hm4 3 5 (nI w)).1 3 i = hm3.1 3 i := fun i i1 i2 => by rw [h5, if_neg i1, if_neg i2]
            rw [h5n _ (by omega) (by omega), h5n _ (by omega) (by omega), h5n _ (by omega) (by omega), h5n _ (by omega) (by omega), h5n _ (by omega) (by omega), h5n _ (by omega) (by omega), h5n _ (by omega) (by omega)]
            exact ⟨y1, y2, y3, y4, y5, y6⟩
          · intro x hx
            obtain ⟨y1, y2, y3⟩ := r2 x hx
            rw [h5, h5, h5, if_neg (by omega), if_neg (by omega), if_neg (by omega), if_neg (by omega), if_neg (by omega), if_neg (by omega)]
            exact ⟨y1, y2, y3⟩
          · intro x hx
            rw [h5, if_neg (by omega), if_neg (by omega)]
            exact r3 x hx
          · rw [n5]; exact r4
          · rw [n5]; exact r5
          · rw [n5]; exact r6
          · show 1 ≤ v; omega
          · show v < w; omega
          · show w ≤ 99; omega
          · intro x hx hx6
            rw [h5, if_neg (by omega), if_neg (by omega)]
            exact z x hx hx6
        · rw [sI_o (by decide), sI_o (by decide), (f4 19 (by decide)).1, (c7.1 19 (by decide)).1, (b5.1 19 (by decide)).1, sI_e]
          rfl
        · rw [sI_o (by decide), sI_o (by decide), (f4 19 (by decide)).1, (c7.1 19 (by decide)).1, (b5.1 19 (by decide)).1, sI_n (by decide), q4]
        · rw [sI_o (by decide), d7.2.2 20 (by decide), sI_o (by decide), c7.2.2 20 (by decide), b5.2.2 20 (by decide), sI_e]
          cases c <;> rfl
        · intro j hj
          rw [sI_2, (d7.2.1 6 (by decide)).2, sI_2, (c7.2.1 6 (by decide)).2, (b5.2.1 6 (by decide)).2, sI_2]
          exact q6 j hj
      · refine LNo_bad fx3 bad (fun h e => ?_) (fun h e => ?_)
        · rw [e, bnd_s, if_pos (show nI 0 = 0 from rfl), rZ0]
        · rw [e, bnd_s, rZ0]
    · refine LNo_bad fx2 bad (fun h e => ?_) (fun h e => ?_)
      · rw [e, bnd_s, if_pos (show nI 0 = 0 from rfl), rZ0]
      · rw [e, bnd_s, if_pos (show nI 0 = 0 from rfl), rZ0]
  · have e0 : ((if true = true then 1 else 0) + (if c = true then 2 else 0) : Nat).testBit 0 = true := by cases c <;> decide
    rw [if_pos e0]
    refine LNo_bad FX_rf (T_fail 3 (by decide) q1) (fun h e => ?_) (fun h e => ?_)
    · rw [if_pos rfl, e, bnd_s, rZ0]
    · rw [e, bnd_s, if_pos (show nI 0 = 0 from rfl), rZ0]
theorem L_coin {F n p a : Nat} {t : Nat × Nat} {B : Nat → Nat} {l c : Bool} {P : Pl} {hc hm : HS} (hF : 2000 ≤ F) (q : LNs n p a t B l c P hc hm) (ht : t.1 = 1) : LNo n a B hc hm (f_OffR_readCoin F hc) (bnd (f_M_isOnce F (nI 1) hm) (fun (r66 : Int32) (h65 : HS) => (if r66 = 0 then rZ (nI 0) h65 else bnd (f_M_puts F (nI 6) (nI 0) (nI 999) h65) (fun (r68 : Int32) (h67 : HS) => (if r68 = 0 then rZ (nI 0) h67 else rZ (nI 1) h67))))) := by
  obtain ⟨q1, q2, q3, q4, q5, q6⟩ := q
  have hx : (if l = true then 1 else 0) + (if c = true then 2 else 0) < 4 := by split <;> split <;> decide
  rw [f_OffR_readCoin, q4, ite_b0, M_once hF (by decide) hx q5 q1]
  cases c
  · rw [if_neg (show ¬ false = true by decide)]
    have e0 : ¬ ((if l = true then 1 else 0) + (if false = true then 2 else 0) : Nat).testBit 1 = true := by cases l <;> decide
    rw [if_neg e0, bl_e]
    have q1' : RD n 900 p a t B (sI hc 19 3 (nI 1)) (sI hm 0 20 (nI (((if l = true then 1 else 0) + (if false = true then 2 else 0) : Nat) ||| 2 ^ 1))) := RD_fr q1 (sI_o (by decide)) (sI_o (by decide)) rfl (fun i hi => sI_n (by
      have : ∀ x, x ∈ [3, 4, 5, 11, 12, 14, 15] → x ≠ 20 := by decide
      exact this i hi)) (sI_o (by decide)) rfl
    have fx1 : FX hc hm (sI hc 19 3 (nI 1)) (sI hm 0 20 (nI (((if l = true then 1 else 0) + (if false = true then 2 else 0) : Nat) ||| 2 ^ 1))) := ⟨Fr_sI (by decide), Fr_sI (by decide), F0r_sI (by decide), fun _ _ => rfl⟩
    obtain ⟨p2, a2, t2, hc2, hm2, b1, b2, b3, b4, b5, -, -⟩ := T_adv hF q1' (Or.inl ht)
    rw [b1, b2, bnd_s, bnd_s, bnd_s, if_neg (show ¬ nI 1 = 0 by decide)]
    have fx2 := FX_t fx1 (TS_fx b5)
    rcases T_put hF 6 0 999 (by decide) (by decide) (by decide) b3 with ⟨v, p4, a4, t4, hc4, hm4, d1, d2, d3, d4, d5, d6, d7, d8⟩ | bad
    · rw [d3, d4, bnd_s, bnd_s, if_neg (show ¬ nI 1 = 0 by decide), if_neg (show ¬ nI 1 = 0 by decide), f_Tape_taken, bnd_s, d8, f_Plan_tellCoin_11, bl_e, bnd_s, rZ1, rZ1]
      have fx4 := FX_t (FX_t fx2 (TS_fx d7)) (show FX hc4 hm4 (sI hc4 11 2 (nI v)) (sI hm4 3 6 (nI v)) from ⟨Fr_sI (by decide), Fr_sI (by decide), fun k _ => by rw [sI_o (by decide)], fun _ _ => rfl⟩)
      have D1 : DR P (sI hc 19 3 (nI 1)) (sI hm 0 20 (nI (((if l = true then 1 else 0) + (if false = true then 2 else 0) : Nat) ||| 2 ^ 1))) := by
        obtain ⟨e1, e2, e3, e4⟩ := q2
        exact ⟨PC_fr e1 (sI_o (by decide)) (sI_o (by decide)) (sI_o (by decide)) (sI_o (by decide)) (sI_o (by decide)) rfl rfl rfl, by rw [sI_o (by decide)]; exact e2, e3, by rw [sI_o (by decide)]; exact e4⟩
      have D3 := DR_ts (DR_ts D1 b5) d7
      refine Or.inl ⟨p4, a4, t4, l, true, pcoP P v, _, _, rfl, rfl, ⟨RD_fr d5 (by rw [sI_o (by decide)]) (by rw [sI_o (by decide)]) rfl (fun _ _ => by rw [sI_o (by decide)]) (sI_o (by decide)) rfl, ?_, ?_, ?_, ?_, ?_⟩, by omega, fx4⟩
      · obtain ⟨⟨⟨e0, e1, e2, e3, e4, e5⟩, g1, g2, g3, g4, g5, g6, g7⟩, ⟨⟨s0, s1, s2, s3, s4, s5, s6⟩, r1, r2, r3, r4, r5, r6⟩, ⟨w0, w1, w2, w3, w4, w5, w6, w7⟩, z⟩ := D3
        have h5 : ∀ i, (sI hm4 3 6 (nI v)).1 3 i = if i = 6 then nI v else hm4.1 3 i := fun i => by rw [sI_u]; rfl
        refine ⟨⟨⟨?_, ?_, sI_e, ?_, ?_, ?_⟩, ?_, ?_, ?_, ?_, g5, g6, g7⟩, ⟨⟨?_, ?_, ?_, ?_, ?_, ?_, ?_⟩, ?_, ?_, ?_, r4, r5, r6⟩, ⟨w0, w1, w2, ?_, w4, w5, w6, w7⟩, ?_⟩
        · rw [sI_n (by decide), e0]; rfl
        · rw [sI_n (by decide), e1]; rfl
        · rw [sI_n (by decide), e3]; rfl
        · rw [sI_n (by decide), e4]; rfl
        · rw [sI_n (by decide), e5]; rfl
        · intro x y hx hy
          rw [sI_o (by decide), g1 x y hx hy]
          unfold pcoP
          rw [if_neg (by omega)]
        · intro x y hx hy hz
          rw [sI_o (by decide), g2 x y hx hy hz]
          unfold pcoP
          rw [if_neg (by omega)]
        · intro x y hx hy
          rw [sI_o (by decide), g3 x y hx hy]
          unfold pcoP
          rw [if_neg (by omega)]
        · intro x hx
          rw [sI_o (by decide)]
          exact g4 x hx
        · rw [h5]; exact s0
        · rw [h5]; exact s1
        · rw [h5]; exact s2
        · rw [h5, if_neg (by decide), s3]
          exact congrArg nI (rumN_cg (P := P) (Q := pcoP P v) (fun _ => rfl) _).symm
        · rw [h5]; exact s4
        · rw [h5]; exact s5
        · rw [h5]; rfl
        · intro x hx
          have hx : x < P 0 3 := hx
          obtain ⟨y1, y2, y3, y4, y5, y6⟩ := r1 x hx
          have h5n : ∀ i, i ≠ 6 → (sI hm4 3 6 (nI v)).1 3 i = hm4.1 3 i := fun i i1 => by rw [h5, if_neg i1]
          rw [h5n _ (by omega), h5n _ (by omega), h5n _ (by omega), h5n _ (by omega), h5n _ (by omega), h5n _ (by omega), h5n _ (by omega)]
          exact ⟨y1, y2, y3, y4, y5, y6⟩
        · intro x hx
          obtain ⟨y1, y2, y3⟩ := r2 x hx
          rw [h5, h5, h5, if_neg (by omega), if_neg (by omega), if_neg (by omega)]
          exact ⟨y1, y2, y3⟩
        · intro x hx
          rw [h5, if_neg (by omega)]
          exact r3 x hx
        · show v ≤ 999; omega
        · intro x hx hx6
          rw [h5, if_neg (by omega)]
          exact z x hx hx6
      · rw [sI_o (by decide), (d7.1 19 (by decide)).1, (b5.1 19 (by decide)).1, sI_n (by decide), q3]
      · rw [sI_o (by decide), (d7.1 19 (by decide)).1, (b5.1 19 (by decide)).1, sI_e]
        rfl
      · rw [sI_o (by decide), d7.2.2 20 (by decide), b5.2.2 20 (by decide), sI_e]
        cases l <;> rfl
      · intro j hj
        rw [sI_2, (d7.2.1 6 (by decide)).2, (b5.2.1 6 (by decide)).2, sI_2]
        exact q6 j hj
    · refine LNo_bad fx2 bad (fun h e => ?_) (fun h e => ?_)
      · rw [e, bnd_s, if_pos (show nI 0 = 0 from rfl), rZ0]
      · rw [e, bnd_s, if_pos (show nI 0 = 0 from rfl), rZ0]
  · have e0 : ((if l = true then 1 else 0) + (if true = true then 2 else 0) : Nat).testBit 1 = true := by cases l <;> decide
    rw [if_pos e0]
    refine LNo_bad FX_rf (T_fail 3 (by decide) q1) (fun h e => ?_) (fun h e => ?_)
    · rw [if_pos rfl, e, bnd_s, rZ0]
    · rw [e, bnd_s, if_pos (show nI 0 = 0 from rfl), rZ0]
