/-! ===== the tape: feed, flags ===== -/
def xb (x : Int32) (i : Nat) : Bool := x.toBitVec.getLsbD i
theorem xs_l : ∀ n, n < 32 → ((nI n &&& 31).toBitVec.smod 32).toNat = n := by decide +kernel
theorem xs_u : ∀ n, n < 32 → (((nI n).toUInt32 &&& Int32.toUInt32 31).toBitVec % 32).toNat = n := by decide +kernel
theorem xb_ushr (n : Nat) (hn : n < 32) (x : Int32) (i : Nat) : xb ((x.toUInt32 >>> ((nI n).toUInt32 &&& Int32.toUInt32 31)).toInt32) i = xb x (n + i) := by
  show (x.toUInt32 >>> ((nI n).toUInt32 &&& Int32.toUInt32 31)).toBitVec.getLsbD i = x.toUInt32.toBitVec.getLsbD (n + i)
  rw [UInt32.toBitVec_shiftRight]
  show (x.toUInt32.toBitVec >>> (((nI n).toUInt32 &&& Int32.toUInt32 31).toBitVec % 32).toNat).getLsbD i = _
  rw [xs_u n hn, BitVec.getLsbD_ushiftRight]
theorem xb_sshr (n : Nat) (hn : n < 32) (x : Int32) {i : Nat} (hi : i < 32) : xb (x >>> (nI n &&& 31)) i = if n + i < 32 then xb x (n + i) else xb x 31 := by
  unfold xb
  rw [Int32.toBitVec_shiftRight]
  show (x.toBitVec.sshiftRight ((nI n &&& 31).toBitVec.smod 32).toNat).getLsbD i = _
  rw [xs_l n hn, BitVec.getLsbD_sshiftRight, BitVec.msb_eq_getLsbD_last]
  simp [hi]
theorem by_ext {x y : Int32} (h : ∀ i, i < 8 → xb x i = xb y i) : Int32.toInt8 x = Int32.toInt8 y := by
  apply Int8.toBitVec_inj.mp
  apply BitVec.eq_of_getLsbD_eq
  intro i hi
  rw [Int32.toBitVec_toInt8, Int32.toBitVec_toInt8, BitVec.getLsbD_signExtend, BitVec.getLsbD_signExtend, if_pos (show i < 32 by omega), if_pos (show i < 32 by omega)]
  exact congrArg (fun b => decide (i < 8) && b) (h i hi)
theorem by_sh (n : Nat) (hn : n ≤ 24) (x : Int32) : Int32.toInt8 ((x.toUInt32 >>> ((nI n).toUInt32 &&& Int32.toUInt32 31)).toInt32) = Int32.toInt8 (x >>> (nI n &&& 31)) := by_ext fun i hi => by
  rw [xb_ushr n (by omega), xb_sshr n (by omega) x (show i < 32 by omega), if_pos (by omega)]
theorem by_s0 (x : Int32) : Int32.toInt8 x = Int32.toInt8 (x >>> (nI 0 &&& 31)) := by_ext fun i hi => by
  rw [xb_sshr 0 (by omega) x (show i < 32 by omega), if_pos (by omega), Nat.zero_add]
def TPn (n : Nat) (hc hm : HS) : Prop := hc.1 1 1 = nI n ∧ hm.1 0 2 = nI n ∧ ∀ i, i < n → hc.1 2 i = hm.1 1 i ∧ ∃ x : Int8, hm.1 1 i = Int8.toInt32 x
def bv8 (x : Int32) : Int32 := vp_nar .byte (Int8.toInt32 (Int32.toInt8 x))
theorem bv8_x (x : Int32) : ∃ z : Int8, bv8 x = Int8.toInt32 z := ⟨_, pk_vb x⟩
theorem TPn_s {n : Nat} {hc hm : HS} (x y : Int32) (q : TPn n hc hm) (e : Int32.toInt8 x = Int32.toInt8 y) : TPn (n + 1) (sI (sI hc 2 n (bv8 x)) 1 1 (nI (n + 1))) (sI (sI hm 1 n (bv8 y)) 0 2 (nI (n + 1))) := by
  refine ⟨sI_e, sI_e, fun i hi => ?_⟩
  rw [sI_o (show (2 : Nat) ≠ 1 by decide), sI_o (show (1 : Nat) ≠ 0 by decide)]
  by_cases z : i = n
  · subst z
    rw [sI_e, sI_e]
    refine ⟨?_, bv8_x y⟩
    unfold bv8
    rw [e]
  · rw [sI_n z, sI_n z]
    exact q.2.2 i (by omega)
theorem C_addByte {n : Nat} {h : HS} {x : Int32} (h1 : h.1 1 1 = nI n) (hn : n < 940) : f_Tape_addByte x h = some ((), sI (sI h 2 n (bv8 x)) 1 1 (nI (n + 1))) := by
  rw [f_Tape_addByte, h1, ite_leN (by omega) (by omega), if_neg (by omega), ifin hn (by omega), nI_clamp (by omega), bl_e, bl_e, sI_o (by decide), h1, nI_add]
  rfl
theorem M_four1 {F n : Nat} {h : HS} {x k : Int32} (h1 : h.1 0 2 = nI n) (hn : n < 940) (hk : ¬ k < 0) (g : Nat) : l_M_four_0 F x (g + 1) k h = l_M_four_0 F x g (k + (-8 : Int32)) (sI (sI h 1 n (bv8 (x >>> (k &&& 31)))) 0 2 (nI (n + 1))) := by
  rw [l_M_four_0, if_neg hk, h1, ifin hn (by omega), nI_clamp (by omega), bl_e, bl_e, bl_e, sI_o (by decide), h1, nI_add]
  rfl
theorem FD_four {F n : Nat} {hc hm : HS} (hF : 10 ≤ F) (a : Int32) (q : TPn n hc hm) (hn : n + 4 ≤ 940) : ∃ hc2 hm2, f_Tape_addNumber a hc = some ((), hc2) ∧ f_M_four F a hm = some ((), hm2) ∧ TPn (n + 4) hc2 hm2 ∧ Fr [1, 2] hc hc2 ∧ Fr [0, 1] hm hm2 ∧ F0r [2] hm hm2 := by
  have q1 := TPn_s _ _ q (by_sh 24 (by omega) a)
  have q2 := TPn_s _ _ q1 (by_sh 16 (by omega) a)
  have q3 := TPn_s _ _ q2 (by_sh 8 (by omega) a)
  have q4 := TPn_s _ _ q3 (by_s0 a)
  have fc : ∀ (h : HS) x n m, Fr [1, 2] h (sI (sI h 2 n x) 1 1 m) := fun h x n m => Fr_t (Fr_sI (by decide)) (Fr_sI (by decide))
  have fm : ∀ (h : HS) x n m, Fr [0, 1] h (sI (sI h 1 n x) 0 2 m) := fun h x n m => Fr_t (Fr_sI (by decide)) (Fr_sI (by decide))
  have f0 : ∀ (h : HS) x n m, F0r [2] h (sI (sI h 1 n x) 0 2 m) := fun h x n m k hk => by
    rw [sI_n (fun e => hk (by rw [e]; decide)), sI_o (by decide)]
  refine ⟨_, _, ?_, ?_, q4, Fr_t (Fr_t (Fr_t (fc _ _ _ _) (fc _ _ _ _)) (fc _ _ _ _)) (fc _ _ _ _), Fr_t (Fr_t (Fr_t (fm _ _ _ _) (fm _ _ _ _)) (fm _ _ _ _)) (fm _ _ _ _), F0r_t (F0r_t (F0r_t (f0 _ _ _ _) (f0 _ _ _ _)) (f0 _ _ _ _)) (f0 _ _ _ _)⟩
  · rw [f_Tape_addNumber, C_addByte q.1 (by omega), bnd_s, C_addByte q1.1 (by omega), bnd_s, C_addByte q2.1 (by omega), bnd_s, C_addByte q3.1 (by omega), bnd_s]
  · obtain ⟨g, rfl⟩ : ∃ g, F = g + 1 + 1 + 1 + 1 + 1 := ⟨F - 5, by omega⟩
    rw [f_M_four, bl_e, M_four1 q.2.1 (by omega) (by decide), show nI 24 + (-8 : Int32) = nI 16 by decide, M_four1 q1.2.1 (by omega) (by decide), show nI 16 + (-8 : Int32) = nI 8 by decide, M_four1 q2.2.1 (by omega) (by decide), show nI 8 + (-8 : Int32) = nI 0 by decide, M_four1 q3.2.1 (by omega) (by decide), l_M_four_0, if_pos (by decide)]
/-- behind a call that reads or writes the tape -/
def ftx : List Nat := [0, 2, 3, 4, 5, 11, 12, 13, 14, 15, 16, 17, 18, 19, 20, 29, 30, 32, 36, 37, 38, 39, 40]
def ctx : List Nat := [0, 1, 2, 11, 12, 13, 14, 15, 16, 17, 18, 19, 38, 39, 40, 41, 46, 47, 48, 49]
theorem Rel_txt {P : Pl} {A : Ab} {hc hm hc2 hm2 : HS} (q : Rel P A hc hm) (fc : Fr ctx hc hc2) (fm : Fr [0, 1, 3, 4, 5, 14] hm hm2) (n5 : ∀ i, i < 17 → hm2.2 5 i = hm.2 5 i) (f0 : F0r ftx hm hm2) (t : TPr hc2 hm2) (ff : FTr hc2 hm2) (tr : TRr hc2 hm2) : Rel P A hc2 hm2 := by
  obtain ⟨c, m, W, Y, U, s, o⟩ := q
  obtain ⟨c2, Y2⟩ := CY_F c Y fc (by decide)
  have m2 : MR P A hm2 := by
    obtain ⟨⟨p1, p2, p3, p4, p5, p6, p7⟩, r⟩ := m
    have w3 := W.1.2.2.2.2.1
    have w4 := W.1.2.2.2.2.2.1
    have w5 := W.1.2.2.2.2.2.2.1
    have e2 := (fm 2 (by decide)).1
    refine ⟨⟨?_, ?_, ?_, ?_, fun x hx => ?_, fun x hx => ?_, fun x hx => ?_⟩, ?_⟩
    · rw [e2]; exact p1
    · rw [e2]; exact p2
    · rw [e2]; exact p3
    · rw [e2]; exact p4
    · rw [n5 _ (by omega)]; exact p5 x hx
    · rw [n5 _ (by omega)]; exact p6 x hx
    · rw [n5 _ (by omega)]; exact p7 x hx
    · rw [e2]; exact r
  refine ⟨c2, m2, W, Y2, UD_fr U (fc 20 (by decide)).1 (fun j hj => (fc _ (by
    have : ∀ j, j < 8 → 23 + j ∉ ctx := by decide
    exact this j hj)).1) (fm 7 (by decide)).1 (f0 23 (by decide)), SEr_fr s (fc 42 (by decide)).1 (fc 43 (by decide)).1 (fc 44 (by decide)).1 (fc 45 (by decide)).1, ?_⟩
  obtain ⟨o1, o2, o3, o4, o5, o6, o7, o8⟩ := o
  refine ⟨t, ff, tr, ?_, ?_, ?_, ?_, ?_⟩
  · unfold MAr at o4 ⊢
    rw [(fc 53 (by decide)).1, f0 28 (by decide), (fm 12 (by decide)).1]
    exact o4
  · unfold BKr at o5 ⊢
    rw [(fc 83 (by decide)).1, f0 34 (by decide), (fm 13 (by decide)).1]
    exact o5
  · unfold IM1 SEr PC at o6 ⊢
    simp only [Nat.reduceAdd] at o6 ⊢
    rw [(fc 54 (by decide)).1, (fc 55 (by decide)).1, (fc 59 (by decide)).1, (fc 60 (by decide)).1, (fc 61 (by decide)).1, (fc 62 (by decide)).1, (fc 63 (by decide)).1, (fc 64 (by decide)).1, (fc 65 (by decide)).1, (fc 66 (by decide)).1, (fc 67 (by decide)).1, (fc 56 (by decide)).2, (fc 57 (by decide)).2, (fc 58 (by decide)).2, (fm 18 (by decide)).1, (fm 16 (by decide)).1, (fm 17 (by decide)).2]
    exact o6
  · unfold IM1 SEr PC at o7 ⊢
    simp only [Nat.reduceAdd] at o7 ⊢
    rw [(fc 68 (by decide)).1, (fc 69 (by decide)).1, (fc 73 (by decide)).1, (fc 74 (by decide)).1, (fc 75 (by decide)).1, (fc 76 (by decide)).1, (fc 77 (by decide)).1, (fc 78 (by decide)).1, (fc 79 (by decide)).1, (fc 80 (by decide)).1, (fc 81 (by decide)).1, (fc 70 (by decide)).2, (fc 71 (by decide)).2, (fc 72 (by decide)).2, (fm 18 (by decide)).1, (fm 16 (by decide)).1, (fm 17 (by decide)).2]
    exact o7
  · unfold RSr at o8 ⊢
    rw [(fm 6 (by decide)).2]
    exact o8
theorem TRr_fr {hc hc2 hm hm2 : HS} (q : TRr hc hm) (c : hc2.1 0 16 = hc.1 0 16) (m1 : hm2.1 0 29 = hm.1 0 29) (m2 : hm2.1 0 30 = hm.1 0 30) : TRr hc2 hm2 := by
  unfold TRr
  rw [c, m1, m2]
  exact q
theorem S_feed {F : Nat} (hF : 20000 ≤ F) (a b c d e : Int32) : Sim (f_LC_feed a b c d e) (f_M_feed F a b c d e) := by
  intro P A hc hm q0
  have q := Rel_th (v := nI 0) q0
  obtain ⟨-, -, -, -, -, -, ⟨⟨n, n9, t1, t2, t3⟩, o2, o3, -⟩⟩ := id q
  rw [f_LC_feed, f_Tape_length, bnd_s, t1, nI_add, ite_leN (by omega) (by omega), f_M_feed, bl_e, t2, nI_add, ite_leN (by omega) (by omega)]
  by_cases z : n + 20 ≤ 940
  · rw [if_pos z, if_pos z]
    obtain ⟨c1, m1, a1, b1, q1, f1, g1, k1⟩ := FD_four (F := F) (by omega) a ⟨t1, t2, t3⟩ (by omega)
    obtain ⟨c2, m2, a2, b2, q2, f2, g2, k2⟩ := FD_four (F := F) (by omega) b q1 (by omega)
    obtain ⟨c3, m3, a3, b3, q3, f3, g3, k3⟩ := FD_four (F := F) (by omega) c q2 (by omega)
    obtain ⟨c4, m4, a4, b4, q4, f4, g4, k4⟩ := FD_four (F := F) (by omega) d q3 (by omega)
    obtain ⟨c5, m5, a5, b5, q5, f5, g5, k5⟩ := FD_four (F := F) (by omega) e q4 (by omega)
    have fc : Fr [1, 2] hc c5 := Fr_t f1 (Fr_t f2 (Fr_t f3 (Fr_t f4 f5)))
    have fm : Fr [0, 1] (sI hm 0 0 (nI 0)) m5 := Fr_t g1 (Fr_t g2 (Fr_t g3 (Fr_t g4 g5)))
    have f0 : F0r [2] (sI hm 0 0 (nI 0)) m5 := F0r_t k1 (F0r_t k2 (F0r_t k3 (F0r_t k4 k5)))
    refine ⟨nI (n + 4 + 4 + 4 + 4 + 4), c5, m5, P, A, ?_, ?_, ?_⟩
    · rw [a1, bnd_s, a2, bnd_s, a3, bnd_s, a4, bnd_s, a5, bnd_s, f_Tape_length, bnd_s, q5.1]
    · rw [b1, bnd_s, b2, bnd_s, b3, bnd_s, b4, bnd_s, b5, bnd_s, q5.2.1]
    · refine Rel_txt q (Fr_mo (by decide) fc) (Fr_mo (by decide) fm) (fun i _ => by rw [(fm 5 (by decide)).2]) (fun k hk => f0 k (fun y => hk (by rw [List.mem_singleton.mp y]; decide))) ⟨_, by omega, q5.1, q5.2.1, q5.2.2⟩ ?_ (TRr_fr o3 (by rw [(fc 0 (by decide)).1]) (f0 29 (by decide)) (f0 30 (by decide)))
      unfold FTr at o2 ⊢
      rw [(fc 0 (by decide)).1, f0 15 (by decide)]
      exact o2
  · rw [if_neg z, if_neg z]
    exact ⟨_, _, _, P, A, rfl, rfl, q⟩
/-! flags -/
def mkB (P : Pl) (c : Nat) (X Y : Int32) (s : Nat) : Bool := decide (nI (P 1 c + sm P 7 s) = X ∧ nI (P 2 c + sm P 8 s) = Y)
def mkN (P : Pl) (c : Nat) (X Y : Int32) : Nat → Nat
  | 0 => 0
  | s + 1 => if mkB P c X Y s = true then mkN P c X Y s + 1 else mkN P c X Y s
def mkA (P : Pl) (c : Nat) (X Y : Int32) (t : Nat) : Nat → Nat
  | 0 => t
  | s + 1 => if mkB P c X Y s = true then mkA P c X Y t s &&& s else mkA P c X Y t s
theorem mkA_lt {P : Pl} {c : Nat} {X Y : Int32} {t : Nat} (ht : t < 64) : ∀ s, mkA P c X Y t s < 64 := by
  intro s
  induction s with
  | zero => exact ht
  | succ s ih =>
    unfold mkA
    split
    · exact Nat.lt_of_le_of_lt Nat.and_le_left ih
    · exact ih
theorem mkN_le {P : Pl} {c : Nat} {X Y : Int32} : ∀ s, mkN P c X Y s ≤ s := by
  intro s
  induction s with
  | zero => exact Nat.le_refl _
  | succ s ih => unfold mkN; split <;> omega
theorem mkA_eq {P : Pl} {c : Nat} {X Y : Int32} {D : Nat} (hD : D ≤ 6) : ∀ s, s ≤ 2 ^ D → (mkN P c X Y s = 0 → mkA P c X Y 63 s = 63 ∧ mkA P c X Y (2 ^ D - 1) s = 2 ^ D - 1) ∧ (mkN P c X Y s ≠ 0 → mkA P c X Y 63 s = mkA P c X Y (2 ^ D - 1) s) := by
  have h64 : 2 ^ D ≤ 64 := Nat.pow_le_pow_right (by omega) hD
  intro s
  induction s with
  | zero => intro _; exact ⟨fun _ => ⟨rfl, rfl⟩, fun h => absurd rfl h⟩
  | succ s ih =>
    intro hs
    obtain ⟨i1, i2⟩ := ih (by omega)
    unfold mkN mkA
    by_cases e : mkB P c X Y s = true
    · rw [if_pos e, if_pos e, if_pos e]
      refine ⟨fun h => absurd h (by omega), fun _ => ?_⟩
      by_cases z : mkN P c X Y s = 0
      · rw [(i1 z).1, (i1 z).2, Nat.and_comm, Nat.and_comm (2 ^ D - 1), Nat.and_two_pow_sub_one_eq_mod, show 63 = 2 ^ 6 - 1 by decide, Nat.and_two_pow_sub_one_eq_mod, Nat.mod_eq_of_lt (by omega), Nat.mod_eq_of_lt (by omega)]
      · rw [i2 z]
    · rw [if_neg e, if_neg e, if_neg e]
      exact ⟨i1, i2⟩
theorem C_isMaking {P : Pl} {A : Ab} {h : HS} {c s : Nat} {X Y : Int32} (W : WF P A) (R : CR P A h) (V : WYr P h) (hc : c < P 0 3) (hs : s < 2 ^ P 0 4) : f_Ways_isMaking (nI c) (nI s) X Y h = some (bI (mkB P c X Y s), h) := by
  obtain ⟨⟨wN, wNM, wM, wCo, w3, w4, w5, wC, wD, wK⟩, wAc, wAk, wAw, wAf⟩ := id W
  have h64 := p64 w4
  obtain ⟨v1, v2, -⟩ := V.2 s hs
  rw [f_Ways_isMaking, C_ofCauseP w3 R.1 hc (by omega), bnd_s, ifin (by omega) (by omega), nI_clamp (by omega), v1, C_ofCauseP w3 R.1 hc (by omega), bnd_s, ifin (by omega) (by omega), v2, nI_add, nI_add, rZ1, rZ0, mkB]
  show (if nI (P 1 c + sm P 7 s) = X then (if nI (P 2 c + sm P 8 s) = Y then _ else _) else _) = _
  by_cases e1 : nI (P 1 c + sm P 7 s) = X
  · rw [if_pos e1]
    by_cases e2 : nI (P 2 c + sm P 8 s) = Y
    · rw [if_pos e2, decide_eq_true ⟨e1, e2⟩]
      rfl
    · rw [if_neg e2, decide_eq_false (fun z => e2 z.2)]
      rfl
  · rw [if_neg e1, decide_eq_false (fun z => e1 z.1)]
    rfl
theorem C_smL {P : Pl} {A : Ab} {F c : Nat} {h : HS} {X Y : Int32} (W : WF P A) (R : CR P A h) (V : WYr P h) (hc : c < P 0 3) : ∀ (j s : Nat), s + j = 2 ^ P 0 4 → ∀ g, j < g → l_Ways_setsMaking_0 F (nI c) X Y g (nI (mkN P c X Y s)) (nI s) h = some (nI (mkN P c X Y (2 ^ P 0 4)), h) := by
  obtain ⟨⟨wN, wNM, wM, wCo, w3, w4, w5, wC, wD, wK⟩, wAc, wAk, wAw, wAf⟩ := id W
  have h64 := p64 w4
  intro j
  induction j with
  | zero =>
    intro s hs g hg
    obtain ⟨g, rfl⟩ : ∃ z, g = z + 1 := ⟨g - 1, by omega⟩
    rw [l_Ways_setsMaking_0, V.1, ite_leN (by omega) (by omega), if_pos (by omega), show s = 2 ^ P 0 4 by omega]
  | succ j ih =>
    intro s hs g hg
    obtain ⟨g, rfl⟩ : ∃ z, g = z + 1 := ⟨g - 1, by omega⟩
    rw [← ih (s + 1) (by omega) g (by omega), l_Ways_setsMaking_0, V.1, ite_leN (by omega) (by omega), if_neg (by omega), C_isMaking W R V hc (by omega), bnd_s]
    dsimp only [bl]
    rw [ite_b0, nI_add, nI_add, mkN]
    split <;> rfl
theorem C_cdL {P : Pl} {A : Ab} {F c : Nat} {h : HS} {X Y : Int32} (W : WF P A) (R : CR P A h) (V : WYr P h) (hc : c < P 0 3) : ∀ (j s : Nat), s + j = 2 ^ P 0 4 → ∀ g, j < g → l_Ways_commonDeeds_0 F (nI c) X Y g (nI (mkA P c X Y (2 ^ P 0 4 - 1) s)) (nI s) h = some (nI (mkA P c X Y (2 ^ P 0 4 - 1) (2 ^ P 0 4)), h) := by
  obtain ⟨⟨wN, wNM, wM, wCo, w3, w4, w5, wC, wD, wK⟩, wAc, wAk, wAw, wAf⟩ := id W
  have h64 := p64 w4
  intro j
  induction j with
  | zero =>
    intro s hs g hg
    obtain ⟨g, rfl⟩ : ∃ z, g = z + 1 := ⟨g - 1, by omega⟩
    rw [l_Ways_commonDeeds_0, V.1, ite_leN (by omega) (by omega), if_pos (by omega), show s = 2 ^ P 0 4 by omega]
  | succ j ih =>
    intro s hs g hg
    obtain ⟨g, rfl⟩ : ∃ z, g = z + 1 := ⟨g - 1, by omega⟩
    have hl := mkA_lt (P := P) (c := c) (X := X) (Y := Y) (t := 2 ^ P 0 4 - 1) (by omega) s
    rw [← ih (s + 1) (by omega) g (by omega), l_Ways_commonDeeds_0, V.1, ite_leN (by omega) (by omega), if_neg (by omega), C_isMaking W R V hc (by omega), bnd_s]
    dsimp only [bl]
    rw [ite_b0, nI_add, b_and _ hl s (by omega), mkA]
    split <;> rfl
theorem M_flL {P : Pl} {A : Ab} {F c : Nat} {h : HS} {K : Int32 → Int32 → HS → Option (Int32 × HS)} (hF : 70 ≤ F) (W : WF P A) (R : MR P A h) (hc : c < P 0 3) : ∀ (j s : Nat), s + j = 2 ^ P 0 4 → ∀ g, j < g → l_M_flags_0 F (nI c) K g (nI (mkN P c (h.1 1 0 &&& nI 255) (h.1 1 1 &&& nI 255) s)) (nI (mkA P c (h.1 1 0 &&& nI 255) (h.1 1 1 &&& nI 255) 63 s)) (nI s) h = K (nI (mkN P c (h.1 1 0 &&& nI 255) (h.1 1 1 &&& nI 255) (2 ^ P 0 4))) (nI (mkA P c (h.1 1 0 &&& nI 255) (h.1 1 1 &&& nI 255) 63 (2 ^ P 0 4))) h := by
  obtain ⟨⟨wN, wNM, wM, wCo, w3, w4, w5, wC, wD, wK⟩, wAc, wAk, wAw, wAf⟩ := id W
  have h64 := p64 w4
  have o0 : f_M_octet (nI 0) h = some (h.1 1 0 &&& nI 255, h) := by
    rw [f_M_octet, ifin (by omega) (by omega), nI_clamp (by omega)]
  have o1 : f_M_octet (nI 1) h = some (h.1 1 1 &&& nI 255, h) := by
    rw [f_M_octet, ifin (by omega) (by omega), nI_clamp (by omega)]
  intro j
  induction j with
  | zero =>
    intro s hs g hg
    obtain ⟨g, rfl⟩ : ∃ z, g = z + 1 := ⟨g - 1, by omega⟩
    rw [l_M_flags_0, ifin (by omega) (by omega), nI_clamp (by omega), m_1 R, bit_sl _ (by omega), ite_leN (by omega) (by omega), if_pos (by omega), show s = 2 ^ P 0 4 by omega]
  | succ j ih =>
    intro s hs g hg
    obtain ⟨g, rfl⟩ : ∃ z, g = z + 1 := ⟨g - 1, by omega⟩
    have hl := mkA_lt (P := P) (c := c) (X := h.1 1 0 &&& nI 255) (Y := h.1 1 1 &&& nI 255) (t := 63) (by omega) s
    rw [← ih (s + 1) (by omega) g (by omega), l_M_flags_0, ifin (by omega) (by omega), nI_clamp (by omega), m_1 R, bit_sl _ (by omega), ite_leN (by omega) (by omega), if_neg (by omega), nI_add, ifin (by omega) (by omega), nI_clamp (by omega), m_ftold R hc, M_sum w4 (by omega) (sumAt_7 R) (by omega), bnd_s, o0, bnd_s]
    dsimp only [bl]
    rw [nI_add, nI_add, ifin (by omega) (by omega), nI_clamp (by omega), m_atold R hc, M_sum w4 (by omega) (sumAt_8 R) (by omega), bnd_s, o1, bnd_s, nI_add, nI_add, nI_add, b_and _ hl s (by omega), mkN, mkA, mkB]
    by_cases e1 : nI (P 1 c + sm P 7 s) = h.1 1 0 &&& nI 255
    · rw [if_pos e1]
      by_cases e2 : nI (P 2 c + sm P 8 s) = h.1 1 1 &&& nI 255
      · rw [if_pos e2, decide_eq_true ⟨e1, e2⟩, if_pos rfl, if_pos rfl]
      · rw [if_neg e2, decide_eq_false (fun z => e2 z.2), if_neg (by decide), if_neg (by decide)]
    · rw [if_neg e1, decide_eq_false (fun z => e1 z.1), if_neg (by decide), if_neg (by decide)]
theorem M_taken (v : Int32) (h : HS) : f_M_taken v h = some ((), sI (sI (sI (sI h 0 3 (h.1 0 2)) 0 2 (nI 0)) 0 4 (nI 0)) 0 5 v) := by
  rw [f_M_taken]
  rfl
theorem C_at {n : Nat} {h : HS} (h1 : h.1 1 1 = nI n) (hn : n ≤ 940) (k : Nat) (hk : k < 2000) : f_Tape_at (nI k) h = some (if n ≤ k then nI 0 else h.1 2 k &&& nI 255, h) := by
  rw [f_Tape_at, h1, ite_lt0 (by omega), ite_leN (by omega) (by omega)]
  by_cases z : n ≤ k
  · rw [if_pos z, if_pos z]
  · rw [if_neg z, if_neg z, ifin (by omega) (by omega), nI_clamp (by omega)]
theorem S_flags {F : Nat} (hF : 20000 ≤ F) (a : Int32) : Sim (f_LC_flags F a) (f_M_flags F a) := by
  intro P A hc hm q0
  have q := Rel_th (v := nI 0) q0
  obtain ⟨c, m, W, V, -, -, ⟨⟨n, n9, t1, t2, t3⟩, o2, o3, -⟩⟩ := id q
  obtain ⟨⟨wN, wNM, wM, wCo, w3, w4, w5, wC, wD, wK⟩, wAc, wAk, wAw, wAf⟩ := id W
  have h64 := p64 w4
  generalize hh : sI hm 0 0 (nI 0) = hm0 at q m t2 t3 o2 o3
  have fc : Fr [1] hc (sI hc 1 1 (nI 0)) := Fr_sI (by decide)
  have qT := fun (hm1 : HS) (e : hm1 = sI (sI (sI (sI hm0 0 3 (nI n)) 0 2 (nI 0)) 0 4 (nI 0)) 0 5 (nI 940)) => (by
    have fm : Fr [0] hm0 hm1 := by rw [e]; exact Fr_t (Fr_t (Fr_t (Fr_sI (by decide)) (Fr_sI (by decide))) (Fr_sI (by decide))) (Fr_sI (by decide))
    have f0 : F0r [2, 3, 4, 5] hm0 hm1 := by rw [e]; exact F0r_t (F0r_t (F0r_t (F0r_sI (by decide)) (F0r_sI (by decide))) (F0r_sI (by decide))) (F0r_sI (by decide))
    refine ⟨fm, f0, Rel_txt q (Fr_mo (by decide) fc) (Fr_mo (by decide) fm) (fun i _ => by rw [(fm 5 (by decide)).2]) (fun k hk => f0 k (fun y => hk ?_)) ⟨0, by omega, sI_e, ?_, fun i hi => by omega⟩ ?_ (TRr_fr o3 (by rw [(fc 0 (by decide)).1]) (f0 29 (by decide)) (f0 30 (by decide)))⟩
    · have : ∀ x, x ∈ [2, 3, 4, 5] → x ∈ ftx := by decide
      exact this k y
    · rw [e, sI_n (by decide), sI_n (by decide), sI_e]
    · unfold FTr at o2 ⊢
      rw [(fc 0 (by decide)).1, f0 15 (by decide)]
      exact o2 : Fr [0] hm0 hm1 ∧ F0r [2, 3, 4, 5] hm0 hm1 ∧ Rel P A (sI hc 1 1 (nI 0)) hm1)
  rw [f_M_flags, bl_e, hh, M_taken, bnd_s, t2]
  generalize hk : sI (sI (sI (sI hm0 0 3 (nI n)) 0 2 (nI 0)) 0 4 (nI 0)) 0 5 (nI 940) = hm1
  obtain ⟨fm, f0, q1⟩ := qT hm1 hk.symm
  have e3 : hm1.1 0 3 = nI n := by rw [← hk, sI_n (by decide), sI_n (by decide), sI_n (by decide), sI_e]
  obtain ⟨c1, m1, -, V1, -⟩ := id q1
  rw [M_isCause w3 m1, bnd_s, ite_b0, e3, ite_eqN (by omega) (by omega)]
  have eC : ∀ v, (v = nI 0 ∨ v = nI 1) → bl (fun v4 h5 => bl v4 (fun v6 => bnd (f_Tape_at (nI 0) h5) (fun r8 h7 => bl r8 (fun v9 => bnd (f_Tape_at (nI 1) h7) (fun r11 h10 => bl r11 (fun v12 => bnd (f_Tape_empty h10) (fun _ h13 => if v6 = 0 then some ((-1 : Int32), h13) else bnd (f_Plan_hasCause_3 a h13) (fun r15 h14 => if r15 = 0 then some ((-1 : Int32), h14) else bnd (f_Ways_setsMaking F a v9 v12 h14) (fun r17 h16 => bl r17 (fun v18 => if v18 ≤ 0 then some (v18, h16) else bnd (f_Ways_commonDeeds F a v9 v12 h16) (fun r20 h19 => bl (sI h19 0 16 r20) (fun h21 => some (v18, h21))))))))))))) (fun J3 => J3 v hc) = (if v = 0 then some ((-1 : Int32), sI hc 1 1 (nI 0)) else if inb a (P 0 3) = true then bnd (f_Ways_setsMaking F a (if n ≤ 0 then nI 0 else hc.1 2 0 &&& nI 255) (if n ≤ 1 then nI 0 else hc.1 2 1 &&& nI 255) (sI hc 1 1 (nI 0))) (fun v18 h16 => if v18 ≤ 0 then some (v18, h16) else bnd (f_Ways_commonDeeds F a (if n ≤ 0 then nI 0 else hc.1 2 0 &&& nI 255) (if n ≤ 1 then nI 0 else hc.1 2 1 &&& nI 255) h16) (fun r20 h19 => some (v18, sI h19 0 16 r20))) else some ((-1 : Int32), sI hc 1 1 (nI 0))) := fun v _ => by
    dsimp only [bl]
    rw [C_at t1 n9 0 (by omega), bnd_s, C_at t1 n9 1 (by omega), bnd_s, f_Tape_empty, bl_e, bnd_s, C_hasCause w3 c1.1, bnd_s, ite_b0]
  have eC2 : f_LC_flags F a hc = (if n = 2 then (if inb a (P 0 3) = true then bnd (f_Ways_setsMaking F a (hc.1 2 0 &&& nI 255) (hc.1 2 1 &&& nI 255) (sI hc 1 1 (nI 0))) (fun v18 h16 => if v18 ≤ 0 then some (v18, h16) else bnd (f_Ways_commonDeeds F a (hc.1 2 0 &&& nI 255) (hc.1 2 1 &&& nI 255) h16) (fun r20 h19 => some (v18, sI h19 0 16 r20))) else some ((-1 : Int32), sI hc 1 1 (nI 0))) else some ((-1 : Int32), sI hc 1 1 (nI 0))) := by
    rw [f_LC_flags, f_Tape_length, bnd_s, t1, bl_e, ite_eqN (by omega) (by omega)]
    by_cases z : n = 2
    · rw [if_pos z, if_pos z]
      refine (eC (nI 1) (Or.inr rfl)).trans ?_
      rw [if_neg (show ¬ nI 1 = 0 by decide), if_neg (show ¬ n ≤ 0 by omega), if_neg (show ¬ n ≤ 1 by omega)]
    · rw [if_neg z, if_neg z]
      refine (eC (nI 0) (Or.inl rfl)).trans ?_
      rw [if_pos (show nI 0 = 0 from rfl)]
  rw [eC2]
  by_cases z : n = 2
  · rw [if_pos z, if_pos z]
    by_cases ha : inb a (P 0 3) = true
    · rw [if_pos ha, if_pos ha]
      obtain ⟨hk1, ek⟩ := inb_ex ha
      generalize a.toNatClampNeg = k at hk1 ek
      subst ek
      obtain ⟨b0, -⟩ := t3 0 (by omega)
      obtain ⟨b1, -⟩ := t3 1 (by omega)
      rw [← (fm 1 (by decide)).1] at b0 b1
      have hE := mkA_eq (P := P) (c := k) (X := hc.1 2 0 &&& nI 255) (Y := hc.1 2 1 &&& nI 255) (D := P 0 4) w4 (2 ^ P 0 4) (Nat.le_refl _)
      have hN := mkN_le (P := P) (c := k) (X := hc.1 2 0 &&& nI 255) (Y := hc.1 2 1 &&& nI 255) (2 ^ P 0 4)
      have s1 := C_smL (F := F) (X := hc.1 2 0 &&& nI 255) (Y := hc.1 2 1 &&& nI 255) W c1 V1 hk1 (2 ^ P 0 4) 0 (by omega) F (by omega)
      have s2 := C_cdL (F := F) (X := hc.1 2 0 &&& nI 255) (Y := hc.1 2 1 &&& nI 255) W c1 V1 hk1 (2 ^ P 0 4) 0 (by omega) F (by omega)
      have s3 := fun K => M_flL (F := F) (K := K) (by omega) W m1 hk1 (2 ^ P 0 4) 0 (by omega) F (by omega)
      rw [← b0, ← b1] at s3
      have e1 : f_Ways_setsMaking F (nI k) (hc.1 2 0 &&& nI 255) (hc.1 2 1 &&& nI 255) (sI hc 1 1 (nI 0)) = some (nI (mkN P k (hc.1 2 0 &&& nI 255) (hc.1 2 1 &&& nI 255) (2 ^ P 0 4)), sI hc 1 1 (nI 0)) := by
        rw [f_Ways_setsMaking, bl_e, bl_e]
        exact s1
      have e2 : f_Ways_commonDeeds F (nI k) (hc.1 2 0 &&& nI 255) (hc.1 2 1 &&& nI 255) (sI hc 1 1 (nI 0)) = some (nI (mkA P k (hc.1 2 0 &&& nI 255) (hc.1 2 1 &&& nI 255) (2 ^ P 0 4 - 1) (2 ^ P 0 4)), sI hc 1 1 (nI 0)) := by
        rw [f_Ways_commonDeeds, V1.1, bl_e, bl_e, show nI (2 ^ P 0 4) - nI 1 = nI (2 ^ P 0 4 - 1) from nI_sb (by omega)]
        exact s2
      have e4 : ∀ K, l_M_flags_0 F (nI k) K F (nI 0) (nI 63) (nI 0) hm1 = K (nI (mkN P k (hc.1 2 0 &&& nI 255) (hc.1 2 1 &&& nI 255) (2 ^ P 0 4))) (nI (mkA P k (hc.1 2 0 &&& nI 255) (hc.1 2 1 &&& nI 255) 63 (2 ^ P 0 4))) hm1 := fun K => s3 K
      rw [e1, bnd_s, ite_le0 (by omega), e2, bl_e, bl_e, bl_e, e4, ite_le0 (by omega)]
      generalize mkN P k (hc.1 2 0 &&& nI 255) (hc.1 2 1 &&& nI 255) (2 ^ P 0 4) = N at hE hN ⊢
      by_cases y : N = 0
      · rw [if_pos y, if_pos y]
        exact ⟨_, _, _, P, A, rfl, rfl, q1⟩
      · rw [if_neg y, if_neg y, bnd_s, hE.2 y]
        refine ⟨_, _, _, P, A, rfl, rfl, ?_⟩
        obtain ⟨-, -, -, -, -, -, ⟨p1, p2, -⟩⟩ := id q1
        have k0 : F0r [30, 29] hm1 (sI (sI hm1 0 30 (nI 1)) 0 29 (nI (mkA P k (hc.1 2 0 &&& nI 255) (hc.1 2 1 &&& nI 255) (2 ^ P 0 4 - 1) (2 ^ P 0 4)))) := F0r_t (F0r_sI (by decide)) (F0r_sI (by decide))
        refine Rel_txt q1 (Fr_sI (by decide)) (Fr_t (Fr_sI (by decide)) (Fr_sI (by decide))) (fun _ _ => rfl) (fun x hx => k0 x (fun y => hx ?_)) ?_ ?_ ?_
        · have : ∀ x, x ∈ [30, 29] → x ∈ ftx := by decide
          exact this x y
        · unfold TPr at p1 ⊢
          rw [sI_o (show (1 : Nat) ≠ 0 by decide), sI_o (show (2 : Nat) ≠ 0 by decide), k0 2 (by decide), sI_o (show (1 : Nat) ≠ 0 by decide), sI_o (show (1 : Nat) ≠ 0 by decide)]
          exact p1
        · unfold FTr at p2 ⊢
          rw [sI_n (by decide), k0 15 (by decide)]
          exact p2
        · unfold TRr
          rw [sI_e, sI_n (show (30 : Nat) ≠ 29 by decide), sI_e, if_neg (show ¬ nI 1 = 0 by decide), sI_e]
    · rw [if_neg ha, if_neg ha]
      exact ⟨_, _, _, P, A, rfl, rfl, q1⟩
  · rw [if_neg z, if_neg z]
    refine ⟨-1, _, hm1, P, A, rfl, ?_, q1⟩
    split <;> rfl
