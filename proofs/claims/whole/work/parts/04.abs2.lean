/-! ===== joins, words' letters, the image's place; the two lists of cells ===== -/
theorem a_join {α β : Type} {q : α} {K : β} {B : β → Option α} {Q : β → Prop} {G : Prop} (hd : bl K B = some q) (hK : Q K) (k : ∀ J : β, Q J → B J = some q → G) : G := k K hK hd
section AR2
variable {SH : List ShT} {ad wad : Nat → Nat} {cc : ByteArray} {nL : Nat} {own : String} {rt : Option FieldType} {n : Nat} {Γ : Ctx} {res : Option Value × HS} {pc : Nat} {lv lv' : List (Nat × Value)} {st : List Value} {h : HS}
theorem a_aret {C : String} (hG : Cx SH ad wad cc nL own (some (.object C)) n Γ) {q : Nat × HS} {i : Nat} (hd : some (i, h) = some q) (d : decode cc pc = .ok (.areturn, 1)) : AW SH ad nL (some (.ref (ad q.1)), q.2) Γ pc lv [.ref (ad i)] h := by
  obtain ⟨p, l, e, R, s, m, args, below, meth, c, cy, D⟩ := Γ
  obtain ⟨hx, hb, hml, hown, hts, hlo, hr, hK, hZ, hR, hI⟩ := hG
  cases hd
  intro H locs ls hl hP hS
  exact W.aret hx hb hr (Or.inl ⟨_, rfl⟩) (Or.inr ⟨_, rfl⟩) (fun t ht hw => ⟨rfl, by rw [ht]; exact hP, by exact hS.F ht⟩) hS.2.2 d hlo
theorem a_letW (hG : Cx SH ad wad cc nL own rt n Γ) {w : Nat} {y : MethodName} {cc2 : ByteArray} {nL2 : Nat} {rt2 : Option FieldType} {ix : Nat} (hw : w < 23) (hm : MkV y cc2 nL2 rt2 RX10 0) (hlk : Cond.methodLink own ix y ∈ TB) (hC : ∀ (h : HS), w < 23 → Ctr SH ad wad y cc2 nL2 rt2 1 [.ref (wad w)] h (some (.long (WL.getD w 0)), h)) (hn : 1 + 1 ≤ n) (hwt : (st.map fun v => v.category).sum ≤ 8) (d : decode cc pc = .ok (.invokevirtual ix, 3)) (k : AW SH ad nL res Γ (pc + 3) lv (.long (WL.getD w 0) :: st) h) : AW SH ad nL res Γ (pc) lv (.ref (wad w) :: st) h := by
  obtain ⟨p, l, e, R, s, m, args, below, meth, c, cy, D⟩ := Γ
  obtain ⟨hx, hb, hml, hown, hts, hlo, hr, hK, hZ, hR, hI⟩ := hG
  intro H locs ls hl hP hS
  subst hR
  obtain ⟨m1, m2, m3, m4, m5, m6, m7⟩ := hm
  have hsz : s.heap.size ≤ H.size := hS.1
  have hrun := va_runV (l := l) (R := RM n) (e := e) (below := below) (meth := meth) (locs := locs) (cells := 0) (slots := 0) (H := H) (g := F0 m pc ls (.ref (wad w) :: st)) (As := []) (rest := st) (b := wad w) (C := RX10) ⟨hx, hb, hml, hown, hts⟩ (hC h hw hI l cy D H.size) ⟨callB_of 0 hts (TB_ws m2) rfl rfl rfl (by rw [m1]; exact hts _ m5) (hts _ hlk) m6 ⟨hn, by show 8 + (nL2 + 11) + 40 * 1 ≤ 40 * n; omega⟩, hts _ m3, by exact hts _ m4⟩
    ⟨Pr_blind, va_Orecv (hZ.1 w hw).2.1 hS, fun U hU hW => ⟨rfl, by rw [hU], by rw [hU]; exact hP, va_K.moved hW.alike hK, by rw [hU]; exact ((hZ.kept hS.2.1).narrow (Aw_mono hsz)).moved hW.alike⟩⟩ rfl rfl hl.1 rfl (by show 2 * 0 + _ ≤ 8; omega) d ⟨Nat.le_refl 0, Nat.le_refl 0⟩
  intro T0 hT X
  obtain ⟨v, st₀, t, T', L, h0, X', hL, e1, e2, ⟨ho, hP2, hF1, hF2⟩, hgo⟩ := hrun T0 hT X
  cases ho
  rw [h0] at hF1 hF2
  obtain ⟨t2, a1, b1⟩ := k T'.heap (locs ++ L) ls hl (by rw [e1]; exact hP2)
    ⟨Nat.le_trans hS.1 (by rw [e1]; exact hF1), fun q h1 h2 => by rw [e1, hF2 q (Nat.lt_of_lt_of_le h1 hS.1) (fun z => h2 (Aw_mono hsz q z))]; exact hS.2.1 q h1 h2, fun q hq => by
      rcases List.mem_append.mp hq with h | h
      · exact hS.2.2 q h
      · exact Aw_mono hsz _ (hL q h)⟩ T' rfl X'
  exact ⟨t2, hgo t2 a1, b1⟩
theorem a_imageAt (hG : Cx SH ad wad cc nL own rt n Γ) {α : Type} {A B : Option α} {q : α} {y : MethodName} {cc2 : ByteArray} {nL2 : Nat} {rt2 : Option FieldType} {ix i1 i2 ci N i : Nat} {ks : List Nat} {C : String} {T : u_T} {x : Int32} (hs : SH[i]? = some (.inr (ci, ks))) (hc : vwCl[ci]? = some (C, T, N)) (hm : MkV y cc2 nL2 rt2 C 1) (hlk : Cond.methodLink own ix y ∈ TB) (hn : 1 + 1 ≤ n) (hC : ∀ z : Nat × HS, (if x = 0 then some (i1, h) else some (i2, h)) = some z → Ctr SH ad wad y cc2 nL2 rt2 1 [.ref (ad i), .int x] h (some (.ref (ad z.1)), z.2)) (hd : (if x = 0 then A else B) = some q) (hwt : (st.map fun v => v.category).sum ≤ 8) (d : decode cc pc = .ok (.invokevirtual ix, 3)) (kt : A = some q → AW SH ad nL res Γ (pc + 3) lv (.ref (ad i1) :: st) h) (kf : B = some q → AW SH ad nL res Γ (pc + 3) lv (.ref (ad i2) :: st) h) : AW SH ad nL res Γ (pc) lv (.int x :: .ref (ad i) :: st) h := by
  by_cases e : x = 0
  · exact a_callV (As := [.int x]) hG hs hc hm hlk hn (hC (i1, h) (if_pos e)) rfl hwt d (kt ((if_pos e).symm.trans hd))
  · exact a_callV (As := [.int x]) hG hs hc hm hlk hn (hC (i2, h) (if_neg e)) rfl hwt d (kf ((if_neg e).symm.trans hd))
end AR2
def SHc : List ShT := [.inr (10, [3, 5, 13, 21, 22, 33, 38, 40, 44, 48, 52, 56, 70, 84, 85, 0, 0]), .inr (8, [4, 0, 0, 0, 0, 0, 1, 0, 0, 0, 0]), .inl (0, 0, 940), .inr (5, [0, 0, 0, 0, 0, 0, 6, 7, 8, 9, 10, 11, 12]), .inl (1, 2, 6), .inl (1, 2, 6), .inl (1, 2, 5), .inl (0, 1, 24), .inl (0, 1, 12), .inl (0, 1, 18), .inl (0, 1, 5), .inr (5, [0, 0, 0, 0, 0, 0, 14, 15, 16, 17, 18, 19, 20]), .inl (1, 2, 6), .inl (1, 2, 6), .inl (1, 2, 5), .inl (0, 1, 24), .inl (0, 1, 12), .inl (0, 1, 18), .inl (0, 1, 5), .inr (4, [3, 13, 0, 0]), .inr (0, [5, 23, 24, 0, 0]), .inl (0, 1, 91), .inl (25, 4, 8), .inl (0, 1, 91), .inl (0, 1, 91), .inl (0, 1, 91), .inl (0, 1, 91), .inl (0, 1, 91), .inl (0, 1, 91), .inl (0, 1, 91), .inl (0, 1, 91), .inr (9, [5, 22, 34, 35, 36, 37, 0]), .inl (0, 1, 64), .inl (0, 1, 64), .inl (0, 1, 64), .inl (0, 1, 64), .inr (6, [5, 22, 33, 39, 0]), .inl (0, 1, 91), .inr (2, [3, 5, 41, 42, 43, 0, 0]), .inl (0, 1, 40), .inl (0, 1, 40), .inl (0, 1, 40), .inr (7, [45, 46, 47, 0, 0]), .inl (0, 1, 40), .inl (0, 1, 40), .inl (0, 1, 40), .inr (7, [49, 50, 51, 0, 0]), .inl (0, 1, 40), .inl (0, 1, 40), .inl (0, 1, 40), .inr (3, [5, 22, 33, 53, 54, 55, 0]), .inl (0, 1, 30), .inl (0, 1, 5), .inl (0, 1, 5), .inr (1, [57, 65, 66, 0]), .inr (5, [0, 0, 0, 0, 0, 0, 58, 59, 60, 61, 62, 63, 64]), .inl (1, 2, 6), .inl (1, 2, 6), .inl (1, 2, 5), .inl (0, 1, 24), .inl (0, 1, 12), .inl (0, 1, 18), .inl (0, 1, 5), .inl (0, 1, 91), .inr (7, [67, 68, 69, 0, 0]), .inl (0, 1, 40), .inl (0, 1, 40), .inl (0, 1, 40), .inr (1, [71, 79, 80, 0]), .inr (5, [0, 0, 0, 0, 0, 0, 72, 73, 74, 75, 76, 77, 78]), .inl (1, 2, 6), .inl (1, 2, 6), .inl (1, 2, 5), .inl (0, 1, 24), .inl (0, 1, 12), .inl (0, 1, 18), .inl (0, 1, 5), .inl (0, 1, 91), .inr (7, [81, 82, 83, 0, 0]), .inl (0, 1, 40), .inl (0, 1, 40), .inl (0, 1, 40), .inl (0, 1, 91), .inl (0, 1, 4)]
def SHm : List ShT := [.inr (11, [0, 3, 0, 0, 0, 0, 4, 5, 6, 7, 8, 0, 0, 0, 0, 0, 0, 1, 0, 0, 0, 9, 10, 0, 11, 12, 13, 14, 0, 0, 0, 0, 0, 15, 0, 16, 0, 0, 0, 0, 0, 17, 18, 19, 20]), .inl (0, 0, 940), .inl (0, 1, 332), .inl (0, 1, 72), .inl (0, 1, 135), .inl (1, 2, 34), .inl (1, 2, 23), .inl (0, 1, 632), .inl (0, 1, 79), .inl (0, 1, 64), .inl (0, 1, 30), .inl (0, 1, 5), .inl (0, 1, 5), .inl (0, 1, 4), .inl (0, 1, 45), .inl (0, 3, 45), .inl (0, 1, 664), .inl (1, 2, 34), .inl (0, 3, 2)]
theorem sc_0 : SHc[0]? = some (.inr (10, [3, 5, 13, 21, 22, 33, 38, 40, 44, 48, 52, 56, 70, 84, 85, 0, 0])) := rfl
theorem sc_1 : SHc[1]? = some (.inr (8, [4, 0, 0, 0, 0, 0, 1, 0, 0, 0, 0])) := rfl
theorem sc_2 : SHc[2]? = some (.inl (0, 0, 940)) := rfl
theorem sc_3 : SHc[3]? = some (.inr (5, [0, 0, 0, 0, 0, 0, 6, 7, 8, 9, 10, 11, 12])) := rfl
theorem sc_4 : SHc[4]? = some (.inl (1, 2, 6)) := rfl
theorem sc_5 : SHc[5]? = some (.inl (1, 2, 6)) := rfl
theorem sc_6 : SHc[6]? = some (.inl (1, 2, 5)) := rfl
theorem sc_7 : SHc[7]? = some (.inl (0, 1, 24)) := rfl
theorem sc_8 : SHc[8]? = some (.inl (0, 1, 12)) := rfl
theorem sc_9 : SHc[9]? = some (.inl (0, 1, 18)) := rfl
theorem sc_10 : SHc[10]? = some (.inl (0, 1, 5)) := rfl
theorem sc_11 : SHc[11]? = some (.inr (5, [0, 0, 0, 0, 0, 0, 14, 15, 16, 17, 18, 19, 20])) := rfl
theorem sc_12 : SHc[12]? = some (.inl (1, 2, 6)) := rfl
theorem sc_13 : SHc[13]? = some (.inl (1, 2, 6)) := rfl
theorem sc_14 : SHc[14]? = some (.inl (1, 2, 5)) := rfl
theorem sc_15 : SHc[15]? = some (.inl (0, 1, 24)) := rfl
theorem sc_16 : SHc[16]? = some (.inl (0, 1, 12)) := rfl
theorem sc_17 : SHc[17]? = some (.inl (0, 1, 18)) := rfl
theorem sc_18 : SHc[18]? = some (.inl (0, 1, 5)) := rfl
theorem sc_19 : SHc[19]? = some (.inr (4, [3, 13, 0, 0])) := rfl
theorem sc_20 : SHc[20]? = some (.inr (0, [5, 23, 24, 0, 0])) := rfl
theorem sc_21 : SHc[21]? = some (.inl (0, 1, 91)) := rfl
theorem sc_22 : SHc[22]? = some (.inl (25, 4, 8)) := rfl
theorem sc_23 : SHc[23]? = some (.inl (0, 1, 91)) := rfl
theorem sc_24 : SHc[24]? = some (.inl (0, 1, 91)) := rfl
theorem sc_25 : SHc[25]? = some (.inl (0, 1, 91)) := rfl
theorem sc_26 : SHc[26]? = some (.inl (0, 1, 91)) := rfl
theorem sc_27 : SHc[27]? = some (.inl (0, 1, 91)) := rfl
theorem sc_28 : SHc[28]? = some (.inl (0, 1, 91)) := rfl
theorem sc_29 : SHc[29]? = some (.inl (0, 1, 91)) := rfl
theorem sc_30 : SHc[30]? = some (.inl (0, 1, 91)) := rfl
theorem sc_31 : SHc[31]? = some (.inr (9, [5, 22, 34, 35, 36, 37, 0])) := rfl
theorem sc_32 : SHc[32]? = some (.inl (0, 1, 64)) := rfl
theorem sc_33 : SHc[33]? = some (.inl (0, 1, 64)) := rfl
theorem sc_34 : SHc[34]? = some (.inl (0, 1, 64)) := rfl
theorem sc_35 : SHc[35]? = some (.inl (0, 1, 64)) := rfl
theorem sc_36 : SHc[36]? = some (.inr (6, [5, 22, 33, 39, 0])) := rfl
theorem sc_37 : SHc[37]? = some (.inl (0, 1, 91)) := rfl
theorem sc_38 : SHc[38]? = some (.inr (2, [3, 5, 41, 42, 43, 0, 0])) := rfl
theorem sc_39 : SHc[39]? = some (.inl (0, 1, 40)) := rfl
theorem sc_40 : SHc[40]? = some (.inl (0, 1, 40)) := rfl
theorem sc_41 : SHc[41]? = some (.inl (0, 1, 40)) := rfl
theorem sc_42 : SHc[42]? = some (.inr (7, [45, 46, 47, 0, 0])) := rfl
theorem sc_43 : SHc[43]? = some (.inl (0, 1, 40)) := rfl
theorem sc_44 : SHc[44]? = some (.inl (0, 1, 40)) := rfl
theorem sc_45 : SHc[45]? = some (.inl (0, 1, 40)) := rfl
theorem sc_46 : SHc[46]? = some (.inr (7, [49, 50, 51, 0, 0])) := rfl
theorem sc_47 : SHc[47]? = some (.inl (0, 1, 40)) := rfl
theorem sc_48 : SHc[48]? = some (.inl (0, 1, 40)) := rfl
theorem sc_49 : SHc[49]? = some (.inl (0, 1, 40)) := rfl
theorem sc_50 : SHc[50]? = some (.inr (3, [5, 22, 33, 53, 54, 55, 0])) := rfl
theorem sc_51 : SHc[51]? = some (.inl (0, 1, 30)) := rfl
theorem sc_52 : SHc[52]? = some (.inl (0, 1, 5)) := rfl
theorem sc_53 : SHc[53]? = some (.inl (0, 1, 5)) := rfl
theorem sc_54 : SHc[54]? = some (.inr (1, [57, 65, 66, 0])) := rfl
theorem sc_55 : SHc[55]? = some (.inr (5, [0, 0, 0, 0, 0, 0, 58, 59, 60, 61, 62, 63, 64])) := rfl
theorem sc_56 : SHc[56]? = some (.inl (1, 2, 6)) := rfl
theorem sc_57 : SHc[57]? = some (.inl (1, 2, 6)) := rfl
theorem sc_58 : SHc[58]? = some (.inl (1, 2, 5)) := rfl
theorem sc_59 : SHc[59]? = some (.inl (0, 1, 24)) := rfl
theorem sc_60 : SHc[60]? = some (.inl (0, 1, 12)) := rfl
theorem sc_61 : SHc[61]? = some (.inl (0, 1, 18)) := rfl
theorem sc_62 : SHc[62]? = some (.inl (0, 1, 5)) := rfl
theorem sc_63 : SHc[63]? = some (.inl (0, 1, 91)) := rfl
theorem sc_64 : SHc[64]? = some (.inr (7, [67, 68, 69, 0, 0])) := rfl
theorem sc_65 : SHc[65]? = some (.inl (0, 1, 40)) := rfl
theorem sc_66 : SHc[66]? = some (.inl (0, 1, 40)) := rfl
theorem sc_67 : SHc[67]? = some (.inl (0, 1, 40)) := rfl
theorem sc_68 : SHc[68]? = some (.inr (1, [71, 79, 80, 0])) := rfl
theorem sc_69 : SHc[69]? = some (.inr (5, [0, 0, 0, 0, 0, 0, 72, 73, 74, 75, 76, 77, 78])) := rfl
theorem sc_70 : SHc[70]? = some (.inl (1, 2, 6)) := rfl
theorem sc_71 : SHc[71]? = some (.inl (1, 2, 6)) := rfl
theorem sc_72 : SHc[72]? = some (.inl (1, 2, 5)) := rfl
theorem sc_73 : SHc[73]? = some (.inl (0, 1, 24)) := rfl
theorem sc_74 : SHc[74]? = some (.inl (0, 1, 12)) := rfl
theorem sc_75 : SHc[75]? = some (.inl (0, 1, 18)) := rfl
theorem sc_76 : SHc[76]? = some (.inl (0, 1, 5)) := rfl
theorem sc_77 : SHc[77]? = some (.inl (0, 1, 91)) := rfl
theorem sc_78 : SHc[78]? = some (.inr (7, [81, 82, 83, 0, 0])) := rfl
theorem sc_79 : SHc[79]? = some (.inl (0, 1, 40)) := rfl
theorem sc_80 : SHc[80]? = some (.inl (0, 1, 40)) := rfl
theorem sc_81 : SHc[81]? = some (.inl (0, 1, 40)) := rfl
theorem sc_82 : SHc[82]? = some (.inl (0, 1, 91)) := rfl
theorem sc_83 : SHc[83]? = some (.inl (0, 1, 4)) := rfl
theorem sm_0 : SHm[0]? = some (.inr (11, [0, 3, 0, 0, 0, 0, 4, 5, 6, 7, 8, 0, 0, 0, 0, 0, 0, 1, 0, 0, 0, 9, 10, 0, 11, 12, 13, 14, 0, 0, 0, 0, 0, 15, 0, 16, 0, 0, 0, 0, 0, 17, 18, 19, 20])) := rfl
theorem sm_1 : SHm[1]? = some (.inl (0, 0, 940)) := rfl
theorem sm_2 : SHm[2]? = some (.inl (0, 1, 332)) := rfl
theorem sm_3 : SHm[3]? = some (.inl (0, 1, 72)) := rfl
theorem sm_4 : SHm[4]? = some (.inl (0, 1, 135)) := rfl
theorem sm_5 : SHm[5]? = some (.inl (1, 2, 34)) := rfl
theorem sm_6 : SHm[6]? = some (.inl (1, 2, 23)) := rfl
theorem sm_7 : SHm[7]? = some (.inl (0, 1, 632)) := rfl
theorem sm_8 : SHm[8]? = some (.inl (0, 1, 79)) := rfl
theorem sm_9 : SHm[9]? = some (.inl (0, 1, 64)) := rfl
theorem sm_10 : SHm[10]? = some (.inl (0, 1, 30)) := rfl
theorem sm_11 : SHm[11]? = some (.inl (0, 1, 5)) := rfl
theorem sm_12 : SHm[12]? = some (.inl (0, 1, 5)) := rfl
theorem sm_13 : SHm[13]? = some (.inl (0, 1, 4)) := rfl
theorem sm_14 : SHm[14]? = some (.inl (0, 1, 45)) := rfl
theorem sm_15 : SHm[15]? = some (.inl (0, 3, 45)) := rfl
theorem sm_16 : SHm[16]? = some (.inl (0, 1, 664)) := rfl
theorem sm_17 : SHm[17]? = some (.inl (1, 2, 34)) := rfl
theorem sm_18 : SHm[18]? = some (.inl (0, 3, 2)) := rfl
theorem s_past {k : Nat} (hk : k < 8) : SHc[23 + k]? = some (.inl (0, 1, 91)) := by
  rcases (show k = 0 ∨ k = 1 ∨ k = 2 ∨ k = 3 ∨ k = 4 ∨ k = 5 ∨ k = 6 ∨ k = 7 by omega) with e | e | e | e | e | e | e | e <;> subst e <;> rfl
theorem cl_X0 : vwCl[0]? = some (RX0, TX0, 5) := rfl
theorem in_X0 : ∀ w ∈ u_ws RX0 TX0 5, w ∈ TB := fun w hw => by
  have hg : (u_ws RX0 TX0 5).all goodWord = true := by decide +kernel
  refine TB_in ?_ (List.all_eq_true.mp hg w hw)
  have he : u_ws RX0 TX0 5 = [271, 273, 275, 277, 279].filterMap (fun i => lw_tbl[i]?) := by decide +kernel
  rw [he] at hw
  obtain ⟨i, -, hi⟩ := List.mem_filterMap.mp hw
  exact List.mem_of_getElem? hi
theorem ok_X0 : ClOk (RX0, TX0, 5) := ⟨in_X0, ⟨tyX0, tyX0_ok⟩, nmX0⟩
theorem cl_X1 : vwCl[1]? = some (RX1, TX1, 4) := rfl
theorem in_X1 : ∀ w ∈ u_ws RX1 TX1 4, w ∈ TB := fun w hw => by
  have hg : (u_ws RX1 TX1 4).all goodWord = true := by decide +kernel
  refine TB_in ?_ (List.all_eq_true.mp hg w hw)
  have he : u_ws RX1 TX1 4 = [424, 426, 428, 430].filterMap (fun i => lw_tbl[i]?) := by decide +kernel
  rw [he] at hw
  obtain ⟨i, -, hi⟩ := List.mem_filterMap.mp hw
  exact List.mem_of_getElem? hi
theorem ok_X1 : ClOk (RX1, TX1, 4) := ⟨in_X1, ⟨tyX1, tyX1_ok⟩, nmX1⟩
theorem cl_X2 : vwCl[2]? = some (RX2, TX2, 7) := rfl
theorem in_X2 : ∀ w ∈ u_ws RX2 TX2 7, w ∈ TB := fun w hw => by
  have hg : (u_ws RX2 TX2 7).all goodWord = true := by decide +kernel
  refine TB_in ?_ (List.all_eq_true.mp hg w hw)
  have he : u_ws RX2 TX2 7 = [345, 347, 349, 351, 353, 355, 357].filterMap (fun i => lw_tbl[i]?) := by decide +kernel
  rw [he] at hw
  obtain ⟨i, -, hi⟩ := List.mem_filterMap.mp hw
  exact List.mem_of_getElem? hi
theorem ok_X2 : ClOk (RX2, TX2, 7) := ⟨in_X2, ⟨tyX2, tyX2_ok⟩, nmX2⟩
theorem cl_X3 : vwCl[3]? = some (RX3, TX3, 7) := rfl
theorem in_X3 : ∀ w ∈ u_ws RX3 TX3 7, w ∈ TB := fun w hw => by
  have hg : (u_ws RX3 TX3 7).all goodWord = true := by decide +kernel
  refine TB_in ?_ (List.all_eq_true.mp hg w hw)
  have he : u_ws RX3 TX3 7 = [395, 397, 399, 401, 403, 405, 407].filterMap (fun i => lw_tbl[i]?) := by decide +kernel
  rw [he] at hw
  obtain ⟨i, -, hi⟩ := List.mem_filterMap.mp hw
  exact List.mem_of_getElem? hi
theorem ok_X3 : ClOk (RX3, TX3, 7) := ⟨in_X3, ⟨tyX3, tyX3_ok⟩, nmX3⟩
theorem cl_X4 : vwCl[4]? = some (RX4, TX4, 4) := rfl
theorem in_X4 : ∀ w ∈ u_ws RX4 TX4 4, w ∈ TB := fun w hw => by
  have hg : (u_ws RX4 TX4 4).all goodWord = true := by decide +kernel
  refine TB_in ?_ (List.all_eq_true.mp hg w hw)
  have he : u_ws RX4 TX4 4 = [249, 251, 253, 255].filterMap (fun i => lw_tbl[i]?) := by decide +kernel
  rw [he] at hw
  obtain ⟨i, -, hi⟩ := List.mem_filterMap.mp hw
  exact List.mem_of_getElem? hi
theorem ok_X4 : ClOk (RX4, TX4, 4) := ⟨in_X4, ⟨tyX4, tyX4_ok⟩, nmX4⟩
theorem cl_X5 : vwCl[5]? = some (RX5, TX5, 13) := rfl
theorem in_X5 : ∀ w ∈ u_ws RX5 TX5 13, w ∈ TB := fun w hw => by
  have hg : (u_ws RX5 TX5 13).all goodWord = true := by decide +kernel
  refine TB_in ?_ (List.all_eq_true.mp hg w hw)
  have he : u_ws RX5 TX5 13 = [210, 212, 214, 216, 218, 220, 222, 224, 226, 228, 230, 232, 234].filterMap (fun i => lw_tbl[i]?) := by decide +kernel
  rw [he] at hw
  obtain ⟨i, -, hi⟩ := List.mem_filterMap.mp hw
  exact List.mem_of_getElem? hi
theorem ok_X5 : ClOk (RX5, TX5, 13) := ⟨in_X5, ⟨tyX5, tyX5_ok⟩, nmX5⟩
theorem cl_X6 : vwCl[6]? = some (RX6, TX6, 5) := rfl
theorem in_X6 : ∀ w ∈ u_ws RX6 TX6 5, w ∈ TB := fun w hw => by
  have hg : (u_ws RX6 TX6 5).all goodWord = true := by decide +kernel
  refine TB_in ?_ (List.all_eq_true.mp hg w hw)
  have he : u_ws RX6 TX6 5 = [321, 323, 325, 327, 329].filterMap (fun i => lw_tbl[i]?) := by decide +kernel
  rw [he] at hw
  obtain ⟨i, -, hi⟩ := List.mem_filterMap.mp hw
  exact List.mem_of_getElem? hi
theorem ok_X6 : ClOk (RX6, TX6, 5) := ⟨in_X6, ⟨tyX6, tyX6_ok⟩, nmX6⟩
theorem cl_X7 : vwCl[7]? = some (RX7, TX7, 5) := rfl
theorem in_X7 : ∀ w ∈ u_ws RX7 TX7 5, w ∈ TB := fun w hw => by
  have hg : (u_ws RX7 TX7 5).all goodWord = true := by decide +kernel
  refine TB_in ?_ (List.all_eq_true.mp hg w hw)
  have he : u_ws RX7 TX7 5 = [371, 373, 375, 377, 379].filterMap (fun i => lw_tbl[i]?) := by decide +kernel
  rw [he] at hw
  obtain ⟨i, -, hi⟩ := List.mem_filterMap.mp hw
  exact List.mem_of_getElem? hi
theorem ok_X7 : ClOk (RX7, TX7, 5) := ⟨in_X7, ⟨tyX7, tyX7_ok⟩, nmX7⟩
theorem cl_X8 : vwCl[8]? = some (RX8, TX8, 11) := rfl
theorem in_X8 : ∀ w ∈ u_ws RX8 TX8 11, w ∈ TB := fun w hw => by
  have hg : (u_ws RX8 TX8 11).all goodWord = true := by decide +kernel
  refine TB_in ?_ (List.all_eq_true.mp hg w hw)
  have he : u_ws RX8 TX8 11 = [167, 169, 171, 173, 175, 177, 179, 181, 183, 185, 187].filterMap (fun i => lw_tbl[i]?) := by decide +kernel
  rw [he] at hw
  obtain ⟨i, -, hi⟩ := List.mem_filterMap.mp hw
  exact List.mem_of_getElem? hi
theorem ok_X8 : ClOk (RX8, TX8, 11) := ⟨in_X8, ⟨tyX8, tyX8_ok⟩, nmX8⟩
theorem cl_X9 : vwCl[9]? = some (RX9, TX9, 7) := rfl
theorem in_X9 : ∀ w ∈ u_ws RX9 TX9 7, w ∈ TB := fun w hw => by
  have hg : (u_ws RX9 TX9 7).all goodWord = true := by decide +kernel
  refine TB_in ?_ (List.all_eq_true.mp hg w hw)
  have he : u_ws RX9 TX9 7 = [295, 297, 299, 301, 303, 305, 307].filterMap (fun i => lw_tbl[i]?) := by decide +kernel
  rw [he] at hw
  obtain ⟨i, -, hi⟩ := List.mem_filterMap.mp hw
  exact List.mem_of_getElem? hi
theorem ok_X9 : ClOk (RX9, TX9, 7) := ⟨in_X9, ⟨tyX9, tyX9_ok⟩, nmX9⟩
theorem cl_X11 : vwCl[10]? = some (RX11, TX11, 17) := rfl
theorem in_X11 : ∀ w ∈ u_ws RX11 TX11 17, w ∈ TB := fun w hw => by
  have hg : (u_ws RX11 TX11 17).all goodWord = true := by decide +kernel
  refine TB_in ?_ (List.all_eq_true.mp hg w hw)
  have he : u_ws RX11 TX11 17 = [498, 500, 502, 504, 506, 508, 510, 512, 514, 516, 518, 520, 522, 524, 526, 528, 530].filterMap (fun i => lw_tbl[i]?) := by decide +kernel
  rw [he] at hw
  obtain ⟨i, -, hi⟩ := List.mem_filterMap.mp hw
  exact List.mem_of_getElem? hi
theorem ok_X11 : ClOk (RX11, TX11, 17) := ⟨in_X11, ⟨tyX11, tyX11_ok⟩, nmX11⟩
theorem cl_X12 : vwCl[11]? = some (RX12, TX12, 45) := rfl
theorem in_X12 : ∀ w ∈ u_ws RX12 TX12 45, w ∈ TB := fun w hw => by
  have hg : (u_ws RX12 TX12 45).all goodWord = true := by decide +kernel
  refine TB_in ?_ (List.all_eq_true.mp hg w hw)
  have he : u_ws RX12 TX12 45 = [1654, 1656, 1658, 1660, 1662, 1664, 1666, 1668, 1670, 1672, 1674, 1676, 1678, 1680, 1682, 1684, 1686, 1688, 1690, 1692, 1694, 1696, 1698, 1700, 1702, 1704, 1706, 1708, 1710, 1712, 1714, 1716, 1718, 1720, 1722, 1724, 1726, 1728, 1730, 1732, 1734, 1736, 1738, 1740, 1742].filterMap (fun i => lw_tbl[i]?) := by decide +kernel
  rw [he] at hw
  obtain ⟨i, -, hi⟩ := List.mem_filterMap.mp hw
  exact List.mem_of_getElem? hi
theorem ok_X12 : ClOk (RX12, TX12, 45) := ⟨in_X12, ⟨tyX12, tyX12_ok⟩, nmX12⟩
theorem t_0 : Cond.selects RX0 yX0_setCause yX0_setCause ∈ TB := TB_in (List.mem_of_getElem? (i := 0) (by decide +kernel)) rfl
theorem t_1 : Cond.selects RX0 yX0_setClerk yX0_setClerk ∈ TB := TB_in (List.mem_of_getElem? (i := 1) (by decide +kernel)) rfl
theorem t_2 : Cond.selects RX0 yX0_setNow yX0_setNow ∈ TB := TB_in (List.mem_of_getElem? (i := 2) (by decide +kernel)) rfl
theorem t_3 : Cond.selects RX8 yX8_addByte yX8_addByte ∈ TB := TB_in (List.mem_of_getElem? (i := 3) (by decide +kernel)) rfl
theorem t_4 : Cond.selects RX8 yX8_readRun yX8_readRun ∈ TB := TB_in (List.mem_of_getElem? (i := 4) (by decide +kernel)) rfl
theorem t_5 : Cond.selects RX4 yX4_readLine yX4_readLine ∈ TB := TB_in (List.mem_of_getElem? (i := 5) (by decide +kernel)) rfl
theorem t_6 : Cond.selects RX4 yX4_readBounds yX4_readBounds ∈ TB := TB_in (List.mem_of_getElem? (i := 6) (by decide +kernel)) rfl
theorem t_7 : Cond.selects RX4 yX4_readCoin yX4_readCoin ∈ TB := TB_in (List.mem_of_getElem? (i := 7) (by decide +kernel)) rfl
theorem t_8 : Cond.selects RX4 yX4_readCause yX4_readCause ∈ TB := TB_in (List.mem_of_getElem? (i := 8) (by decide +kernel)) rfl
theorem t_9 : Cond.selects RX4 yX4_isNewName yX4_isNewName ∈ TB := TB_in (List.mem_of_getElem? (i := 9) (by decide +kernel)) rfl
theorem t_10 : Cond.selects RX4 yX4_readRumour yX4_readRumour ∈ TB := TB_in (List.mem_of_getElem? (i := 10) (by decide +kernel)) rfl
theorem t_11 : Cond.selects RX4 yX4_readDeed yX4_readDeed ∈ TB := TB_in (List.mem_of_getElem? (i := 11) (by decide +kernel)) rfl
theorem t_12 : Cond.selects RX4 yX4_readClerk yX4_readClerk ∈ TB := TB_in (List.mem_of_getElem? (i := 12) (by decide +kernel)) rfl
theorem t_13 : Cond.selects RX0 yX0_addCause yX0_addCause ∈ TB := TB_in (List.mem_of_getElem? (i := 13) (by decide +kernel)) rfl
theorem t_14 : Cond.selects RX0 yX0_addClerk yX0_addClerk ∈ TB := TB_in (List.mem_of_getElem? (i := 14) (by decide +kernel)) rfl
theorem t_15 : Cond.selects RX0 yX0_addNow yX0_addNow ∈ TB := TB_in (List.mem_of_getElem? (i := 15) (by decide +kernel)) rfl
theorem t_16 : Cond.selects RX0 yX0_passTaken yX0_passTaken ∈ TB := TB_in (List.mem_of_getElem? (i := 16) (by decide +kernel)) rfl
theorem t_17 : Cond.selects RX0 yX0_passLeftAlone yX0_passLeftAlone ∈ TB := TB_in (List.mem_of_getElem? (i := 17) (by decide +kernel)) rfl
theorem t_18 : Cond.selects RX9 yX9_countOrders yX9_countOrders ∈ TB := TB_in (List.mem_of_getElem? (i := 18) (by decide +kernel)) rfl
theorem t_19 : Cond.selects RX9 yX9_sumOfOrders yX9_sumOfOrders ∈ TB := TB_in (List.mem_of_getElem? (i := 19) (by decide +kernel)) rfl
theorem t_20 : Cond.selects RX9 yX9_isNearer yX9_isNearer ∈ TB := TB_in (List.mem_of_getElem? (i := 20) (by decide +kernel)) rfl
theorem t_21 : Cond.selects RX9 yX9_proBehind yX9_proBehind ∈ TB := TB_in (List.mem_of_getElem? (i := 21) (by decide +kernel)) rfl
theorem t_22 : Cond.selects RX9 yX9_contraBehind yX9_contraBehind ∈ TB := TB_in (List.mem_of_getElem? (i := 22) (by decide +kernel)) rfl
theorem t_23 : Cond.selects RX3 yX3_fillValues yX3_fillValues ∈ TB := TB_in (List.mem_of_getElem? (i := 23) (by decide +kernel)) rfl
theorem t_24 : Cond.selects RX3 yX3_pickFrom yX3_pickFrom ∈ TB := TB_in (List.mem_of_getElem? (i := 24) (by decide +kernel)) rfl
theorem t_25 : Cond.selects RX3 yX3_keepIfMore yX3_keepIfMore ∈ TB := TB_in (List.mem_of_getElem? (i := 25) (by decide +kernel)) rfl
theorem t_26 : Cond.selects RX3 yX3_isAtRest yX3_isAtRest ∈ TB := TB_in (List.mem_of_getElem? (i := 26) (by decide +kernel)) rfl
theorem t_27 : Cond.selects RX3 yX3_isBestAgainst yX3_isBestAgainst ∈ TB := TB_in (List.mem_of_getElem? (i := 27) (by decide +kernel)) rfl
theorem t_28 : Cond.selects RX3 yX3_gainOf yX3_gainOf ∈ TB := TB_in (List.mem_of_getElem? (i := 28) (by decide +kernel)) rfl
theorem t_29 : Cond.selects RX9 yX9_isNotSmaller yX9_isNotSmaller ∈ TB := TB_in (List.mem_of_getElem? (i := 29) (by decide +kernel)) rfl
theorem t_30 : Cond.selects RX9 yX9_isSafeBehind yX9_isSafeBehind ∈ TB := TB_in (List.mem_of_getElem? (i := 30) (by decide +kernel)) rfl
theorem t_31 : Cond.selects RX9 yX9_isLighter yX9_isLighter ∈ TB := TB_in (List.mem_of_getElem? (i := 31) (by decide +kernel)) rfl
theorem t_32 : Cond.selects RX6 yX6_followSchool yX6_followSchool ∈ TB := TB_in (List.mem_of_getElem? (i := 32) (by decide +kernel)) rfl
theorem t_33 : Cond.selects RX6 yX6_takeFirst yX6_takeFirst ∈ TB := TB_in (List.mem_of_getElem? (i := 33) (by decide +kernel)) rfl
theorem t_34 : Cond.selects RX6 yX6_dropIfCan yX6_dropIfCan ∈ TB := TB_in (List.mem_of_getElem? (i := 34) (by decide +kernel)) rfl
theorem t_35 : Cond.selects RX6 yX6_actIfCan yX6_actIfCan ∈ TB := TB_in (List.mem_of_getElem? (i := 35) (by decide +kernel)) rfl
theorem t_36 : Cond.selects RX6 yX6_actFirst yX6_actFirst ∈ TB := TB_in (List.mem_of_getElem? (i := 36) (by decide +kernel)) rfl
theorem t_37 : Cond.selects RX9 yX9_isMaking yX9_isMaking ∈ TB := TB_in (List.mem_of_getElem? (i := 37) (by decide +kernel)) rfl
theorem t_38 : Cond.selects RX6 yX6_followDraw yX6_followDraw ∈ TB := TB_in (List.mem_of_getElem? (i := 38) (by decide +kernel)) rfl
theorem t_39 : Cond.selects RX6 yX6_nextDraw yX6_nextDraw ∈ TB := TB_in (List.mem_of_getElem? (i := 39) (by decide +kernel)) rfl
theorem t_40 : Cond.selects RX2 yX2_readLine yX2_readLine ∈ TB := TB_in (List.mem_of_getElem? (i := 40) (by decide +kernel)) rfl
theorem t_41 : Cond.selects RX2 yX2_readWeeks yX2_readWeeks ∈ TB := TB_in (List.mem_of_getElem? (i := 41) (by decide +kernel)) rfl
theorem t_42 : Cond.selects RX2 yX2_readVerb yX2_readVerb ∈ TB := TB_in (List.mem_of_getElem? (i := 42) (by decide +kernel)) rfl
theorem t_43 : Cond.selects RX2 yX2_whyNot yX2_whyNot ∈ TB := TB_in (List.mem_of_getElem? (i := 43) (by decide +kernel)) rfl
theorem t_44 : Cond.selects RX2 yX2_liveLine yX2_liveLine ∈ TB := TB_in (List.mem_of_getElem? (i := 44) (by decide +kernel)) rfl
theorem t_45 : Cond.selects RX7 yX7_readCond yX7_readCond ∈ TB := TB_in (List.mem_of_getElem? (i := 45) (by decide +kernel)) rfl
theorem t_46 : Cond.selects RX7 yX7_readOne yX7_readOne ∈ TB := TB_in (List.mem_of_getElem? (i := 46) (by decide +kernel)) rfl
theorem t_47 : Cond.selects RX7 yX7_add yX7_add ∈ TB := TB_in (List.mem_of_getElem? (i := 47) (by decide +kernel)) rfl
theorem t_48 : Cond.selects RX7 yX7_readHad yX7_readHad ∈ TB := TB_in (List.mem_of_getElem? (i := 48) (by decide +kernel)) rfl
theorem t_49 : Cond.selects RX7 yX7_readMeasure yX7_readMeasure ∈ TB := TB_in (List.mem_of_getElem? (i := 49) (by decide +kernel)) rfl
theorem t_50 : Cond.selects RX7 yX7_isTrue yX7_isTrue ∈ TB := TB_in (List.mem_of_getElem? (i := 50) (by decide +kernel)) rfl
theorem t_51 : Cond.selects RX7 yX7_isSo yX7_isSo ∈ TB := TB_in (List.mem_of_getElem? (i := 51) (by decide +kernel)) rfl
theorem t_52 : Cond.selects RX11 yX11_imageAt yX11_imageAt ∈ TB := TB_in (List.mem_of_getElem? (i := 52) (by decide +kernel)) rfl
theorem t_54 : Cond.selects RX12 yX12_four yX12_four ∈ TB := TB_in (List.mem_of_getElem? (i := 54) (by decide +kernel)) rfl
theorem t_55 : Cond.selects RX12 yX12_clears yX12_clears ∈ TB := TB_in (List.mem_of_getElem? (i := 55) (by decide +kernel)) rfl
theorem t_56 : Cond.selects RX12 yX12_begins yX12_begins ∈ TB := TB_in (List.mem_of_getElem? (i := 56) (by decide +kernel)) rfl
theorem t_57 : Cond.selects RX12 yX12_taken yX12_taken ∈ TB := TB_in (List.mem_of_getElem? (i := 57) (by decide +kernel)) rfl
theorem t_58 : Cond.selects RX12 yX12_next yX12_next ∈ TB := TB_in (List.mem_of_getElem? (i := 58) (by decide +kernel)) rfl
theorem t_59 : Cond.selects RX12 yX12_peek yX12_peek ∈ TB := TB_in (List.mem_of_getElem? (i := 59) (by decide +kernel)) rfl
theorem t_60 : Cond.selects RX12 yX12_line yX12_line ∈ TB := TB_in (List.mem_of_getElem? (i := 60) (by decide +kernel)) rfl
theorem t_61 : Cond.selects RX12 yX12_isWord yX12_isWord ∈ TB := TB_in (List.mem_of_getElem? (i := 61) (by decide +kernel)) rfl
theorem t_62 : Cond.selects RX12 yX12_isOnce yX12_isOnce ∈ TB := TB_in (List.mem_of_getElem? (i := 62) (by decide +kernel)) rfl
theorem t_63 : Cond.selects RX12 yX12_bad yX12_bad ∈ TB := TB_in (List.mem_of_getElem? (i := 63) (by decide +kernel)) rfl
theorem t_64 : Cond.selects RX12 yX12_puts yX12_puts ∈ TB := TB_in (List.mem_of_getElem? (i := 64) (by decide +kernel)) rfl
theorem t_65 : Cond.selects RX12 yX12_takes yX12_takes ∈ TB := TB_in (List.mem_of_getElem? (i := 65) (by decide +kernel)) rfl
theorem t_66 : Cond.selects RX12 yX12_fresh yX12_fresh ∈ TB := TB_in (List.mem_of_getElem? (i := 66) (by decide +kernel)) rfl
theorem t_67 : Cond.selects RX12 yX12_isName yX12_isName ∈ TB := TB_in (List.mem_of_getElem? (i := 67) (by decide +kernel)) rfl
theorem t_68 : Cond.selects RX12 yX12_find yX12_find ∈ TB := TB_in (List.mem_of_getElem? (i := 68) (by decide +kernel)) rfl
theorem t_69 : Cond.selects RX12 yX12_looksAt yX12_looksAt ∈ TB := TB_in (List.mem_of_getElem? (i := 69) (by decide +kernel)) rfl
theorem t_70 : Cond.selects RX12 yX12_sign yX12_sign ∈ TB := TB_in (List.mem_of_getElem? (i := 70) (by decide +kernel)) rfl
theorem t_71 : Cond.selects RX12 yX12_isSign yX12_isSign ∈ TB := TB_in (List.mem_of_getElem? (i := 71) (by decide +kernel)) rfl
theorem t_72 : Cond.selects RX12 yX12_isCause yX12_isCause ∈ TB := TB_in (List.mem_of_getElem? (i := 72) (by decide +kernel)) rfl
theorem t_73 : Cond.selects RX12 yX12_throwsIf yX12_throwsIf ∈ TB := TB_in (List.mem_of_getElem? (i := 73) (by decide +kernel)) rfl
theorem t_74 : Cond.selects RX12 yX12_nearOf yX12_nearOf ∈ TB := TB_in (List.mem_of_getElem? (i := 74) (by decide +kernel)) rfl
theorem t_75 : Cond.selects RX12 yX12_forOf yX12_forOf ∈ TB := TB_in (List.mem_of_getElem? (i := 75) (by decide +kernel)) rfl
theorem t_76 : Cond.selects RX12 yX12_sum yX12_sum ∈ TB := TB_in (List.mem_of_getElem? (i := 76) (by decide +kernel)) rfl
theorem t_77 : Cond.selects RX12 yX12_allOf yX12_allOf ∈ TB := TB_in (List.mem_of_getElem? (i := 77) (by decide +kernel)) rfl
theorem t_78 : Cond.selects RX12 yX12_isDeed yX12_isDeed ∈ TB := TB_in (List.mem_of_getElem? (i := 78) (by decide +kernel)) rfl
theorem t_79 : Cond.selects RX12 yX12_isClerk yX12_isClerk ∈ TB := TB_in (List.mem_of_getElem? (i := 79) (by decide +kernel)) rfl
theorem t_80 : Cond.selects RX12 yX12_whyTake yX12_whyTake ∈ TB := TB_in (List.mem_of_getElem? (i := 80) (by decide +kernel)) rfl
theorem t_81 : Cond.selects RX12 yX12_isSafe yX12_isSafe ∈ TB := TB_in (List.mem_of_getElem? (i := 81) (by decide +kernel)) rfl
theorem t_82 : Cond.selects RX12 yX12_isBelow yX12_isBelow ∈ TB := TB_in (List.mem_of_getElem? (i := 82) (by decide +kernel)) rfl
theorem t_83 : Cond.selects RX12 yX12_keep yX12_keep ∈ TB := TB_in (List.mem_of_getElem? (i := 83) (by decide +kernel)) rfl
theorem t_84 : Cond.selects RX12 yX12_taking yX12_taking ∈ TB := TB_in (List.mem_of_getElem? (i := 84) (by decide +kernel)) rfl
theorem t_85 : Cond.selects RX12 yX12_whyAct yX12_whyAct ∈ TB := TB_in (List.mem_of_getElem? (i := 85) (by decide +kernel)) rfl
theorem t_86 : Cond.selects RX12 yX12_acting yX12_acting ∈ TB := TB_in (List.mem_of_getElem? (i := 86) (by decide +kernel)) rfl
theorem t_87 : Cond.selects RX12 yX12_whyDrop yX12_whyDrop ∈ TB := TB_in (List.mem_of_getElem? (i := 87) (by decide +kernel)) rfl
theorem t_88 : Cond.selects RX12 yX12_dropping yX12_dropping ∈ TB := TB_in (List.mem_of_getElem? (i := 88) (by decide +kernel)) rfl
theorem t_89 : Cond.selects RX12 yX12_payOf yX12_payOf ∈ TB := TB_in (List.mem_of_getElem? (i := 89) (by decide +kernel)) rfl
theorem t_90 : Cond.selects RX12 yX12_week yX12_week ∈ TB := TB_in (List.mem_of_getElem? (i := 90) (by decide +kernel)) rfl
theorem t_91 : Cond.selects RX12 yX12_ends yX12_ends ∈ TB := TB_in (List.mem_of_getElem? (i := 91) (by decide +kernel)) rfl
theorem t_92 : Cond.selects RX12 yX12_nearestOf yX12_nearestOf ∈ TB := TB_in (List.mem_of_getElem? (i := 92) (by decide +kernel)) rfl
theorem t_93 : Cond.selects RX12 yX12_ordersBy yX12_ordersBy ∈ TB := TB_in (List.mem_of_getElem? (i := 93) (by decide +kernel)) rfl
theorem t_94 : Cond.selects RX12 yX12_free yX12_free ∈ TB := TB_in (List.mem_of_getElem? (i := 94) (by decide +kernel)) rfl
theorem t_95 : Cond.selects RX12 yX12_areFree yX12_areFree ∈ TB := TB_in (List.mem_of_getElem? (i := 95) (by decide +kernel)) rfl
theorem t_96 : Cond.selects RX12 yX12_valueOf yX12_valueOf ∈ TB := TB_in (List.mem_of_getElem? (i := 96) (by decide +kernel)) rfl
theorem t_97 : Cond.selects RX12 yX12_rowValue yX12_rowValue ∈ TB := TB_in (List.mem_of_getElem? (i := 97) (by decide +kernel)) rfl
theorem t_98 : Cond.selects RX12 yX12_nextRow yX12_nextRow ∈ TB := TB_in (List.mem_of_getElem? (i := 98) (by decide +kernel)) rfl
theorem t_99 : Cond.selects RX12 yX12_canRival yX12_canRival ∈ TB := TB_in (List.mem_of_getElem? (i := 99) (by decide +kernel)) rfl
theorem t_100 : Cond.selects RX12 yX12_isBestAgainst yX12_isBestAgainst ∈ TB := TB_in (List.mem_of_getElem? (i := 100) (by decide +kernel)) rfl
theorem t_101 : Cond.selects RX12 yX12_shared yX12_shared ∈ TB := TB_in (List.mem_of_getElem? (i := 101) (by decide +kernel)) rfl
theorem t_102 : Cond.selects RX12 yX12_isSafeByRumour yX12_isSafeByRumour ∈ TB := TB_in (List.mem_of_getElem? (i := 102) (by decide +kernel)) rfl
theorem t_103 : Cond.selects RX12 yX12_schoolOf yX12_schoolOf ∈ TB := TB_in (List.mem_of_getElem? (i := 103) (by decide +kernel)) rfl
theorem t_104 : Cond.selects RX12 yX12_tries yX12_tries ∈ TB := TB_in (List.mem_of_getElem? (i := 104) (by decide +kernel)) rfl
theorem t_105 : Cond.selects RX12 yX12_works yX12_works ∈ TB := TB_in (List.mem_of_getElem? (i := 105) (by decide +kernel)) rfl
theorem t_106 : Cond.selects RX12 yX12_back yX12_back ∈ TB := TB_in (List.mem_of_getElem? (i := 106) (by decide +kernel)) rfl
theorem t_107 : Cond.selects RX12 yX12_octet yX12_octet ∈ TB := TB_in (List.mem_of_getElem? (i := 107) (by decide +kernel)) rfl
theorem t_108 : Cond.selects RX12 yX12_draws yX12_draws ∈ TB := TB_in (List.mem_of_getElem? (i := 108) (by decide +kernel)) rfl
theorem t_109 : Cond.selects RX12 yX12_draw yX12_draw ∈ TB := TB_in (List.mem_of_getElem? (i := 109) (by decide +kernel)) rfl
theorem t_110 : Cond.selects RX12 yX12_bookLine yX12_bookLine ∈ TB := TB_in (List.mem_of_getElem? (i := 110) (by decide +kernel)) rfl
theorem t_111 : Cond.selects RX12 yX12_books yX12_books ∈ TB := TB_in (List.mem_of_getElem? (i := 111) (by decide +kernel)) rfl
theorem t_112 : Cond.selects RX12 yX12_nots yX12_nots ∈ TB := TB_in (List.mem_of_getElem? (i := 112) (by decide +kernel)) rfl
theorem t_113 : Cond.selects RX12 yX12_code yX12_code ∈ TB := TB_in (List.mem_of_getElem? (i := 113) (by decide +kernel)) rfl
theorem t_114 : Cond.selects RX12 yX12_joins yX12_joins ∈ TB := TB_in (List.mem_of_getElem? (i := 114) (by decide +kernel)) rfl
theorem t_115 : Cond.selects RX12 yX12_behind yX12_behind ∈ TB := TB_in (List.mem_of_getElem? (i := 115) (by decide +kernel)) rfl
theorem t_116 : Cond.selects RX12 yX12_operand yX12_operand ∈ TB := TB_in (List.mem_of_getElem? (i := 116) (by decide +kernel)) rfl
theorem t_117 : Cond.selects RX12 yX12_leafOf yX12_leafOf ∈ TB := TB_in (List.mem_of_getElem? (i := 117) (by decide +kernel)) rfl
theorem t_118 : Cond.selects RX12 yX12_isSaid yX12_isSaid ∈ TB := TB_in (List.mem_of_getElem? (i := 118) (by decide +kernel)) rfl
theorem t_119 : Cond.selects RX12 yX12_isLeaf yX12_isLeaf ∈ TB := TB_in (List.mem_of_getElem? (i := 119) (by decide +kernel)) rfl
theorem t_121 : Cond.initialized RX11 ∈ TB := TB_in (List.mem_of_getElem? (i := 121) (by decide +kernel)) rfl
theorem t_122 : Cond.initialized RX8 ∈ TB := TB_in (List.mem_of_getElem? (i := 122) (by decide +kernel)) rfl
theorem t_123 : Cond.initialized RX5 ∈ TB := TB_in (List.mem_of_getElem? (i := 123) (by decide +kernel)) rfl
theorem t_124 : Cond.initialized RX4 ∈ TB := TB_in (List.mem_of_getElem? (i := 124) (by decide +kernel)) rfl
theorem t_125 : Cond.initialized RX0 ∈ TB := TB_in (List.mem_of_getElem? (i := 125) (by decide +kernel)) rfl
theorem t_126 : Cond.initialized RX9 ∈ TB := TB_in (List.mem_of_getElem? (i := 126) (by decide +kernel)) rfl
theorem t_127 : Cond.initialized RX6 ∈ TB := TB_in (List.mem_of_getElem? (i := 127) (by decide +kernel)) rfl
theorem t_128 : Cond.initialized RX2 ∈ TB := TB_in (List.mem_of_getElem? (i := 128) (by decide +kernel)) rfl
theorem t_129 : Cond.initialized RX7 ∈ TB := TB_in (List.mem_of_getElem? (i := 129) (by decide +kernel)) rfl
theorem t_130 : Cond.initialized RX3 ∈ TB := TB_in (List.mem_of_getElem? (i := 130) (by decide +kernel)) rfl
theorem t_131 : Cond.initialized RX1 ∈ TB := TB_in (List.mem_of_getElem? (i := 131) (by decide +kernel)) rfl
theorem t_132 : Cond.initialized RX12 ∈ TB := TB_in (List.mem_of_getElem? (i := 132) (by decide +kernel)) rfl
theorem t_133 : Cond.initialized "java/lang/Math" ∈ TB := TB_in (List.mem_of_getElem? (i := 133) (by decide +kernel)) rfl
theorem t_135 : Cond.initialized RX10 ∈ TB := TB_in (List.mem_of_getElem? (i := 135) (by decide +kernel)) rfl
theorem t_136 : Cond.initialized "java/lang/System" ∈ TB := TB_in (List.mem_of_getElem? (i := 136) (by decide +kernel)) rfl
theorem t_141 : Cond.initialized RJ6 ∈ TB := TB_in (List.mem_of_getElem? (i := 141) (by decide +kernel)) rfl
theorem t_156 : Cond.fieldLink RX8 9 "LostCauses$Tape" "bytes" "[B" ∈ TB := TB_in (List.mem_of_getElem? (i := 156) (by decide +kernel)) rfl
theorem t_157 : Cond.fieldLink RX8 15 "LostCauses$Tape" "length" "I" ∈ TB := TB_in (List.mem_of_getElem? (i := 157) (by decide +kernel)) rfl
theorem t_158 : Cond.fieldLink RX8 19 "LostCauses$Tape" "mostBytes" "I" ∈ TB := TB_in (List.mem_of_getElem? (i := 158) (by decide +kernel)) rfl
theorem t_159 : Cond.fieldLink RX8 22 "LostCauses$Tape" "next" "I" ∈ TB := TB_in (List.mem_of_getElem? (i := 159) (by decide +kernel)) rfl
theorem t_160 : Cond.fieldLink RX8 25 "LostCauses$Tape" "place" "I" ∈ TB := TB_in (List.mem_of_getElem? (i := 160) (by decide +kernel)) rfl
theorem t_161 : Cond.fieldLink RX8 28 "LostCauses$Tape" "kind" "I" ∈ TB := TB_in (List.mem_of_getElem? (i := 161) (by decide +kernel)) rfl
theorem t_162 : Cond.fieldLink RX8 31 "LostCauses$Tape" "letters" "J" ∈ TB := TB_in (List.mem_of_getElem? (i := 162) (by decide +kernel)) rfl
theorem t_163 : Cond.fieldLink RX8 35 "LostCauses$Tape" "number" "I" ∈ TB := TB_in (List.mem_of_getElem? (i := 163) (by decide +kernel)) rfl
theorem t_164 : Cond.fieldLink RX8 38 "LostCauses$Tape" "taken" "I" ∈ TB := TB_in (List.mem_of_getElem? (i := 164) (by decide +kernel)) rfl
theorem t_165 : Cond.fieldLink RX8 41 "LostCauses$Tape" "faultKind" "I" ∈ TB := TB_in (List.mem_of_getElem? (i := 165) (by decide +kernel)) rfl
theorem t_166 : Cond.fieldLink RX8 44 "LostCauses$Tape" "faultPlace" "I" ∈ TB := TB_in (List.mem_of_getElem? (i := 166) (by decide +kernel)) rfl
theorem t_197 : Cond.fieldLink RX5 9 "LostCauses$Plan" "lineAbove" "I" ∈ TB := TB_in (List.mem_of_getElem? (i := 197) (by decide +kernel)) rfl
theorem t_198 : Cond.fieldLink RX5 15 "LostCauses$Plan" "lineBelow" "I" ∈ TB := TB_in (List.mem_of_getElem? (i := 198) (by decide +kernel)) rfl
theorem t_199 : Cond.fieldLink RX5 18 "LostCauses$Plan" "coin" "I" ∈ TB := TB_in (List.mem_of_getElem? (i := 199) (by decide +kernel)) rfl
theorem t_200 : Cond.fieldLink RX5 21 "LostCauses$Plan" "causes" "I" ∈ TB := TB_in (List.mem_of_getElem? (i := 200) (by decide +kernel)) rfl
theorem t_201 : Cond.fieldLink RX5 24 "LostCauses$Plan" "deeds" "I" ∈ TB := TB_in (List.mem_of_getElem? (i := 201) (by decide +kernel)) rfl
theorem t_202 : Cond.fieldLink RX5 27 "LostCauses$Plan" "clerks" "I" ∈ TB := TB_in (List.mem_of_getElem? (i := 202) (by decide +kernel)) rfl
theorem t_203 : Cond.fieldLink RX5 30 "LostCauses$Plan" "causeNames" "[J" ∈ TB := TB_in (List.mem_of_getElem? (i := 203) (by decide +kernel)) rfl
theorem t_204 : Cond.fieldLink RX5 34 "LostCauses$Plan" "deedNames" "[J" ∈ TB := TB_in (List.mem_of_getElem? (i := 204) (by decide +kernel)) rfl
theorem t_205 : Cond.fieldLink RX5 37 "LostCauses$Plan" "clerkNames" "[J" ∈ TB := TB_in (List.mem_of_getElem? (i := 205) (by decide +kernel)) rfl
theorem t_206 : Cond.fieldLink RX5 40 "LostCauses$Plan" "causeNumbers" "[I" ∈ TB := TB_in (List.mem_of_getElem? (i := 206) (by decide +kernel)) rfl
theorem t_207 : Cond.fieldLink RX5 44 "LostCauses$Plan" "rumourNumbers" "[I" ∈ TB := TB_in (List.mem_of_getElem? (i := 207) (by decide +kernel)) rfl
theorem t_208 : Cond.fieldLink RX5 47 "LostCauses$Plan" "deedNumbers" "[I" ∈ TB := TB_in (List.mem_of_getElem? (i := 208) (by decide +kernel)) rfl
theorem t_209 : Cond.fieldLink RX5 50 "LostCauses$Plan" "zeals" "[I" ∈ TB := TB_in (List.mem_of_getElem? (i := 209) (by decide +kernel)) rfl
theorem t_245 : Cond.fieldLink RX4 9 "LostCauses$OfficeReader" "tape" "LLostCauses$Tape;" ∈ TB := TB_in (List.mem_of_getElem? (i := 245) (by decide +kernel)) rfl
theorem t_246 : Cond.fieldLink RX4 15 "LostCauses$OfficeReader" "draft" "LLostCauses$Plan;" ∈ TB := TB_in (List.mem_of_getElem? (i := 246) (by decide +kernel)) rfl
theorem t_247 : Cond.fieldLink RX4 24 "LostCauses$OfficeReader" "isLineTold" "Z" ∈ TB := TB_in (List.mem_of_getElem? (i := 247) (by decide +kernel)) rfl
theorem t_248 : Cond.fieldLink RX4 28 "LostCauses$OfficeReader" "isCoinTold" "Z" ∈ TB := TB_in (List.mem_of_getElem? (i := 248) (by decide +kernel)) rfl
theorem t_266 : Cond.fieldLink RX0 27 "LostCauses$Desk" "plan" "LLostCauses$Plan;" ∈ TB := TB_in (List.mem_of_getElem? (i := 266) (by decide +kernel)) rfl
theorem t_267 : Cond.fieldLink RX0 9 "LostCauses$Desk" "row" "[I" ∈ TB := TB_in (List.mem_of_getElem? (i := 267) (by decide +kernel)) rfl
theorem t_268 : Cond.fieldLink RX0 17 "LostCauses$Desk" "past" "[[I" ∈ TB := TB_in (List.mem_of_getElem? (i := 268) (by decide +kernel)) rfl
theorem t_269 : Cond.fieldLink RX0 20 "LostCauses$Desk" "pastFrom" "I" ∈ TB := TB_in (List.mem_of_getElem? (i := 269) (by decide +kernel)) rfl
theorem t_270 : Cond.fieldLink RX0 24 "LostCauses$Desk" "pastSize" "I" ∈ TB := TB_in (List.mem_of_getElem? (i := 270) (by decide +kernel)) rfl
theorem t_288 : Cond.fieldLink RX9 28 "LostCauses$Ways" "plan" "LLostCauses$Plan;" ∈ TB := TB_in (List.mem_of_getElem? (i := 288) (by decide +kernel)) rfl
theorem t_289 : Cond.fieldLink RX9 32 "LostCauses$Ways" "desk" "LLostCauses$Desk;" ∈ TB := TB_in (List.mem_of_getElem? (i := 289) (by decide +kernel)) rfl
theorem t_290 : Cond.fieldLink RX9 9 "LostCauses$Ways" "ups" "[I" ∈ TB := TB_in (List.mem_of_getElem? (i := 290) (by decide +kernel)) rfl
theorem t_291 : Cond.fieldLink RX9 15 "LostCauses$Ways" "downs" "[I" ∈ TB := TB_in (List.mem_of_getElem? (i := 291) (by decide +kernel)) rfl
theorem t_292 : Cond.fieldLink RX9 18 "LostCauses$Ways" "costs" "[I" ∈ TB := TB_in (List.mem_of_getElem? (i := 292) (by decide +kernel)) rfl
theorem t_293 : Cond.fieldLink RX9 21 "LostCauses$Ways" "orders" "[I" ∈ TB := TB_in (List.mem_of_getElem? (i := 293) (by decide +kernel)) rfl
theorem t_294 : Cond.fieldLink RX9 24 "LostCauses$Ways" "sets" "I" ∈ TB := TB_in (List.mem_of_getElem? (i := 294) (by decide +kernel)) rfl
theorem t_316 : Cond.fieldLink RX6 15 "LostCauses$Runs" "plan" "LLostCauses$Plan;" ∈ TB := TB_in (List.mem_of_getElem? (i := 316) (by decide +kernel)) rfl
theorem t_317 : Cond.fieldLink RX6 19 "LostCauses$Runs" "desk" "LLostCauses$Desk;" ∈ TB := TB_in (List.mem_of_getElem? (i := 317) (by decide +kernel)) rfl
theorem t_318 : Cond.fieldLink RX6 23 "LostCauses$Runs" "ways" "LLostCauses$Ways;" ∈ TB := TB_in (List.mem_of_getElem? (i := 318) (by decide +kernel)) rfl
theorem t_319 : Cond.fieldLink RX6 9 "LostCauses$Runs" "before" "[I" ∈ TB := TB_in (List.mem_of_getElem? (i := 319) (by decide +kernel)) rfl
theorem t_320 : Cond.fieldLink RX6 62 "LostCauses$Runs" "seed" "I" ∈ TB := TB_in (List.mem_of_getElem? (i := 320) (by decide +kernel)) rfl
theorem t_338 : Cond.fieldLink RX2 28 "LostCauses$Ledger" "tape" "LLostCauses$Tape;" ∈ TB := TB_in (List.mem_of_getElem? (i := 338) (by decide +kernel)) rfl
theorem t_339 : Cond.fieldLink RX2 32 "LostCauses$Ledger" "plan" "LLostCauses$Plan;" ∈ TB := TB_in (List.mem_of_getElem? (i := 339) (by decide +kernel)) rfl
theorem t_340 : Cond.fieldLink RX2 9 "LostCauses$Ledger" "verbs" "[I" ∈ TB := TB_in (List.mem_of_getElem? (i := 340) (by decide +kernel)) rfl
theorem t_341 : Cond.fieldLink RX2 15 "LostCauses$Ledger" "clerks" "[I" ∈ TB := TB_in (List.mem_of_getElem? (i := 341) (by decide +kernel)) rfl
theorem t_342 : Cond.fieldLink RX2 18 "LostCauses$Ledger" "objects" "[I" ∈ TB := TB_in (List.mem_of_getElem? (i := 342) (by decide +kernel)) rfl
theorem t_343 : Cond.fieldLink RX2 21 "LostCauses$Ledger" "size" "I" ∈ TB := TB_in (List.mem_of_getElem? (i := 343) (by decide +kernel)) rfl
theorem t_344 : Cond.fieldLink RX2 25 "LostCauses$Ledger" "why" "I" ∈ TB := TB_in (List.mem_of_getElem? (i := 344) (by decide +kernel)) rfl
theorem t_366 : Cond.fieldLink RX7 11 "LostCauses$Sentence" "steps" "[I" ∈ TB := TB_in (List.mem_of_getElem? (i := 366) (by decide +kernel)) rfl
theorem t_367 : Cond.fieldLink RX7 15 "LostCauses$Sentence" "firsts" "[I" ∈ TB := TB_in (List.mem_of_getElem? (i := 367) (by decide +kernel)) rfl
theorem t_368 : Cond.fieldLink RX7 18 "LostCauses$Sentence" "numbers" "[I" ∈ TB := TB_in (List.mem_of_getElem? (i := 368) (by decide +kernel)) rfl
theorem t_369 : Cond.fieldLink RX7 21 "LostCauses$Sentence" "size" "I" ∈ TB := TB_in (List.mem_of_getElem? (i := 369) (by decide +kernel)) rfl
theorem t_370 : Cond.fieldLink RX7 25 "LostCauses$Sentence" "ones" "I" ∈ TB := TB_in (List.mem_of_getElem? (i := 370) (by decide +kernel)) rfl
theorem t_388 : Cond.fieldLink RX3 21 "LostCauses$Matching" "plan" "LLostCauses$Plan;" ∈ TB := TB_in (List.mem_of_getElem? (i := 388) (by decide +kernel)) rfl
theorem t_389 : Cond.fieldLink RX3 25 "LostCauses$Matching" "desk" "LLostCauses$Desk;" ∈ TB := TB_in (List.mem_of_getElem? (i := 389) (by decide +kernel)) rfl
theorem t_390 : Cond.fieldLink RX3 29 "LostCauses$Matching" "ways" "LLostCauses$Ways;" ∈ TB := TB_in (List.mem_of_getElem? (i := 390) (by decide +kernel)) rfl
theorem t_391 : Cond.fieldLink RX3 9 "LostCauses$Matching" "values" "[I" ∈ TB := TB_in (List.mem_of_getElem? (i := 391) (by decide +kernel)) rfl
theorem t_392 : Cond.fieldLink RX3 15 "LostCauses$Matching" "picks" "[I" ∈ TB := TB_in (List.mem_of_getElem? (i := 392) (by decide +kernel)) rfl
theorem t_393 : Cond.fieldLink RX3 18 "LostCauses$Matching" "chosen" "[I" ∈ TB := TB_in (List.mem_of_getElem? (i := 393) (by decide +kernel)) rfl
theorem t_394 : Cond.fieldLink RX3 43 "LostCauses$Matching" "most" "I" ∈ TB := TB_in (List.mem_of_getElem? (i := 394) (by decide +kernel)) rfl
theorem t_420 : Cond.fieldLink RX1 12 "LostCauses$Image" "plan" "LLostCauses$Plan;" ∈ TB := TB_in (List.mem_of_getElem? (i := 420) (by decide +kernel)) rfl
theorem t_421 : Cond.fieldLink RX1 18 "LostCauses$Image" "row" "[I" ∈ TB := TB_in (List.mem_of_getElem? (i := 421) (by decide +kernel)) rfl
theorem t_422 : Cond.fieldLink RX1 25 "LostCauses$Image" "sentence" "LLostCauses$Sentence;" ∈ TB := TB_in (List.mem_of_getElem? (i := 422) (by decide +kernel)) rfl
theorem t_423 : Cond.fieldLink RX1 29 "LostCauses$Image" "isKept" "Z" ∈ TB := TB_in (List.mem_of_getElem? (i := 423) (by decide +kernel)) rfl
theorem t_433 : Cond.methodLink RX11 110 yX0_begin ∈ TB := TB_in (List.mem_of_getElem? (i := 433) (by decide +kernel)) rfl
theorem t_434 : Cond.instanceMethod yX0_begin ∈ TB := TB_in (List.mem_of_getElem? (i := 434) (by decide +kernel)) rfl
theorem t_435 : Cond.selects RX0 yX0_begin yX0_begin ∈ TB := TB_in (List.mem_of_getElem? (i := 435) (by decide +kernel)) rfl
theorem t_436 : Cond.code yX0_begin cX0_begin 3 none ∈ TB := TB_in (List.mem_of_getElem? (i := 436) (by decide +kernel)) rfl
theorem t_437 : Cond.methodLink RX0 31 yX5_causes ∈ TB := TB_in (List.mem_of_getElem? (i := 437) (by decide +kernel)) rfl
theorem t_438 : Cond.instanceMethod yX5_causes ∈ TB := TB_in (List.mem_of_getElem? (i := 438) (by decide +kernel)) rfl
theorem t_439 : Cond.selects RX5 yX5_causes yX5_causes ∈ TB := TB_in (List.mem_of_getElem? (i := 439) (by decide +kernel)) rfl
theorem t_440 : Cond.code yX5_causes cX5_causes 1 (some .int) ∈ TB := TB_in (List.mem_of_getElem? (i := 440) (by decide +kernel)) rfl
theorem t_441 : Cond.methodLink RX0 37 yX5_ofCause ∈ TB := TB_in (List.mem_of_getElem? (i := 441) (by decide +kernel)) rfl
theorem t_442 : Cond.instanceMethod yX5_ofCause ∈ TB := TB_in (List.mem_of_getElem? (i := 442) (by decide +kernel)) rfl
theorem t_443 : Cond.selects RX5 yX5_ofCause yX5_ofCause ∈ TB := TB_in (List.mem_of_getElem? (i := 443) (by decide +kernel)) rfl
theorem t_444 : Cond.code yX5_ofCause cX5_ofCause 3 (some .int) ∈ TB := TB_in (List.mem_of_getElem? (i := 444) (by decide +kernel)) rfl
theorem t_445 : Cond.methodLink RX0 41 yX0_setCause ∈ TB := TB_in (List.mem_of_getElem? (i := 445) (by decide +kernel)) rfl
theorem t_447 : Cond.instanceMethod yX0_setCause ∈ TB := TB_in (List.mem_of_getElem? (i := 447) (by decide +kernel)) rfl
theorem t_448 : Cond.code yX0_setCause cX0_setCause 4 none ∈ TB := TB_in (List.mem_of_getElem? (i := 448) (by decide +kernel)) rfl
theorem t_449 : Cond.methodLink RX0 45 yX5_clerks ∈ TB := TB_in (List.mem_of_getElem? (i := 449) (by decide +kernel)) rfl
theorem t_450 : Cond.instanceMethod yX5_clerks ∈ TB := TB_in (List.mem_of_getElem? (i := 450) (by decide +kernel)) rfl
theorem t_451 : Cond.selects RX5 yX5_clerks yX5_clerks ∈ TB := TB_in (List.mem_of_getElem? (i := 451) (by decide +kernel)) rfl
theorem t_452 : Cond.code yX5_clerks cX5_clerks 1 (some .int) ∈ TB := TB_in (List.mem_of_getElem? (i := 452) (by decide +kernel)) rfl
theorem t_453 : Cond.methodLink RX0 48 yX5_zealOf ∈ TB := TB_in (List.mem_of_getElem? (i := 453) (by decide +kernel)) rfl
theorem t_454 : Cond.instanceMethod yX5_zealOf ∈ TB := TB_in (List.mem_of_getElem? (i := 454) (by decide +kernel)) rfl
theorem t_455 : Cond.selects RX5 yX5_zealOf yX5_zealOf ∈ TB := TB_in (List.mem_of_getElem? (i := 455) (by decide +kernel)) rfl
theorem t_456 : Cond.code yX5_zealOf cX5_zealOf 2 (some .int) ∈ TB := TB_in (List.mem_of_getElem? (i := 456) (by decide +kernel)) rfl
theorem t_457 : Cond.methodLink RX0 52 yX0_setClerk ∈ TB := TB_in (List.mem_of_getElem? (i := 457) (by decide +kernel)) rfl
theorem t_459 : Cond.instanceMethod yX0_setClerk ∈ TB := TB_in (List.mem_of_getElem? (i := 459) (by decide +kernel)) rfl
theorem t_460 : Cond.code yX0_setClerk cX0_setClerk 4 none ∈ TB := TB_in (List.mem_of_getElem? (i := 460) (by decide +kernel)) rfl
theorem t_461 : Cond.methodLink RX0 55 yX5_coin ∈ TB := TB_in (List.mem_of_getElem? (i := 461) (by decide +kernel)) rfl
theorem t_462 : Cond.instanceMethod yX5_coin ∈ TB := TB_in (List.mem_of_getElem? (i := 462) (by decide +kernel)) rfl
theorem t_463 : Cond.selects RX5 yX5_coin yX5_coin ∈ TB := TB_in (List.mem_of_getElem? (i := 463) (by decide +kernel)) rfl
theorem t_464 : Cond.code yX5_coin cX5_coin 1 (some .int) ∈ TB := TB_in (List.mem_of_getElem? (i := 464) (by decide +kernel)) rfl
theorem t_465 : Cond.methodLink RX0 58 yX0_setNow ∈ TB := TB_in (List.mem_of_getElem? (i := 465) (by decide +kernel)) rfl
theorem t_467 : Cond.instanceMethod yX0_setNow ∈ TB := TB_in (List.mem_of_getElem? (i := 467) (by decide +kernel)) rfl
theorem t_468 : Cond.code yX0_setNow cX0_setNow 3 none ∈ TB := TB_in (List.mem_of_getElem? (i := 468) (by decide +kernel)) rfl
theorem t_469 : Cond.methodLink RX11 113 yX9_sumUp ∈ TB := TB_in (List.mem_of_getElem? (i := 469) (by decide +kernel)) rfl
theorem t_470 : Cond.instanceMethod yX9_sumUp ∈ TB := TB_in (List.mem_of_getElem? (i := 470) (by decide +kernel)) rfl
theorem t_471 : Cond.selects RX9 yX9_sumUp yX9_sumUp ∈ TB := TB_in (List.mem_of_getElem? (i := 471) (by decide +kernel)) rfl
theorem t_472 : Cond.code yX9_sumUp cX9_sumUp 4 none ∈ TB := TB_in (List.mem_of_getElem? (i := 472) (by decide +kernel)) rfl
theorem t_473 : Cond.methodLink RX9 36 yX5_deeds ∈ TB := TB_in (List.mem_of_getElem? (i := 473) (by decide +kernel)) rfl
theorem t_474 : Cond.instanceMethod yX5_deeds ∈ TB := TB_in (List.mem_of_getElem? (i := 474) (by decide +kernel)) rfl
theorem t_475 : Cond.selects RX5 yX5_deeds yX5_deeds ∈ TB := TB_in (List.mem_of_getElem? (i := 475) (by decide +kernel)) rfl
theorem t_476 : Cond.code yX5_deeds cX5_deeds 1 (some .int) ∈ TB := TB_in (List.mem_of_getElem? (i := 476) (by decide +kernel)) rfl
theorem t_477 : Cond.methodLink RX9 42 yX5_ofDeed ∈ TB := TB_in (List.mem_of_getElem? (i := 477) (by decide +kernel)) rfl
theorem t_478 : Cond.instanceMethod yX5_ofDeed ∈ TB := TB_in (List.mem_of_getElem? (i := 478) (by decide +kernel)) rfl
theorem t_479 : Cond.selects RX5 yX5_ofDeed yX5_ofDeed ∈ TB := TB_in (List.mem_of_getElem? (i := 479) (by decide +kernel)) rfl
theorem t_480 : Cond.code yX5_ofDeed cX5_ofDeed 3 (some .int) ∈ TB := TB_in (List.mem_of_getElem? (i := 480) (by decide +kernel)) rfl
theorem t_481 : Cond.fieldLink RX11 12 "LostCauses" "tape" "LLostCauses$Tape;" ∈ TB := TB_in (List.mem_of_getElem? (i := 481) (by decide +kernel)) rfl
theorem t_482 : Cond.fieldLink RX11 19 "LostCauses" "plan" "LLostCauses$Plan;" ∈ TB := TB_in (List.mem_of_getElem? (i := 482) (by decide +kernel)) rfl
theorem t_483 : Cond.fieldLink RX11 23 "LostCauses" "draftPlan" "LLostCauses$Plan;" ∈ TB := TB_in (List.mem_of_getElem? (i := 483) (by decide +kernel)) rfl
theorem t_484 : Cond.fieldLink RX11 31 "LostCauses" "officeReader" "LLostCauses$OfficeReader;" ∈ TB := TB_in (List.mem_of_getElem? (i := 484) (by decide +kernel)) rfl
theorem t_485 : Cond.fieldLink RX11 40 "LostCauses" "desk" "LLostCauses$Desk;" ∈ TB := TB_in (List.mem_of_getElem? (i := 485) (by decide +kernel)) rfl
theorem t_486 : Cond.fieldLink RX11 49 "LostCauses" "ways" "LLostCauses$Ways;" ∈ TB := TB_in (List.mem_of_getElem? (i := 486) (by decide +kernel)) rfl
theorem t_487 : Cond.fieldLink RX11 58 "LostCauses" "runs" "LLostCauses$Runs;" ∈ TB := TB_in (List.mem_of_getElem? (i := 487) (by decide +kernel)) rfl
theorem t_488 : Cond.fieldLink RX11 65 "LostCauses" "ledger" "LLostCauses$Ledger;" ∈ TB := TB_in (List.mem_of_getElem? (i := 488) (by decide +kernel)) rfl
theorem t_489 : Cond.fieldLink RX11 72 "LostCauses" "sentence" "LLostCauses$Sentence;" ∈ TB := TB_in (List.mem_of_getElem? (i := 489) (by decide +kernel)) rfl
theorem t_490 : Cond.fieldLink RX11 76 "LostCauses" "draftSentence" "LLostCauses$Sentence;" ∈ TB := TB_in (List.mem_of_getElem? (i := 490) (by decide +kernel)) rfl
theorem t_491 : Cond.fieldLink RX11 82 "LostCauses" "matching" "LLostCauses$Matching;" ∈ TB := TB_in (List.mem_of_getElem? (i := 491) (by decide +kernel)) rfl
theorem t_492 : Cond.fieldLink RX11 89 "LostCauses" "firstImage" "LLostCauses$Image;" ∈ TB := TB_in (List.mem_of_getElem? (i := 492) (by decide +kernel)) rfl
theorem t_493 : Cond.fieldLink RX11 93 "LostCauses" "secondImage" "LLostCauses$Image;" ∈ TB := TB_in (List.mem_of_getElem? (i := 493) (by decide +kernel)) rfl
theorem t_494 : Cond.fieldLink RX11 96 "LostCauses" "before" "[I" ∈ TB := TB_in (List.mem_of_getElem? (i := 494) (by decide +kernel)) rfl
theorem t_495 : Cond.fieldLink RX11 100 "LostCauses" "booked" "[I" ∈ TB := TB_in (List.mem_of_getElem? (i := 495) (by decide +kernel)) rfl
theorem t_496 : Cond.fieldLink RX11 103 "LostCauses" "fault" "I" ∈ TB := TB_in (List.mem_of_getElem? (i := 496) (by decide +kernel)) rfl
theorem t_497 : Cond.fieldLink RX11 107 "LostCauses" "tried" "I" ∈ TB := TB_in (List.mem_of_getElem? (i := 497) (by decide +kernel)) rfl
theorem t_537 : Cond.methodLink RX11 116 yX8_length ∈ TB := TB_in (List.mem_of_getElem? (i := 537) (by decide +kernel)) rfl
theorem t_538 : Cond.instanceMethod yX8_length ∈ TB := TB_in (List.mem_of_getElem? (i := 538) (by decide +kernel)) rfl
theorem t_539 : Cond.selects RX8 yX8_length yX8_length ∈ TB := TB_in (List.mem_of_getElem? (i := 539) (by decide +kernel)) rfl
theorem t_540 : Cond.code yX8_length cX8_length 1 (some .int) ∈ TB := TB_in (List.mem_of_getElem? (i := 540) (by decide +kernel)) rfl
theorem t_541 : Cond.methodLink RX11 120 yX8_addNumber ∈ TB := TB_in (List.mem_of_getElem? (i := 541) (by decide +kernel)) rfl
theorem t_542 : Cond.instanceMethod yX8_addNumber ∈ TB := TB_in (List.mem_of_getElem? (i := 542) (by decide +kernel)) rfl
theorem t_543 : Cond.selects RX8 yX8_addNumber yX8_addNumber ∈ TB := TB_in (List.mem_of_getElem? (i := 543) (by decide +kernel)) rfl
theorem t_544 : Cond.code yX8_addNumber cX8_addNumber 2 none ∈ TB := TB_in (List.mem_of_getElem? (i := 544) (by decide +kernel)) rfl
theorem t_545 : Cond.methodLink RX8 47 yX8_addByte ∈ TB := TB_in (List.mem_of_getElem? (i := 545) (by decide +kernel)) rfl
theorem t_547 : Cond.instanceMethod yX8_addByte ∈ TB := TB_in (List.mem_of_getElem? (i := 547) (by decide +kernel)) rfl
theorem t_548 : Cond.code yX8_addByte cX8_addByte 2 none ∈ TB := TB_in (List.mem_of_getElem? (i := 548) (by decide +kernel)) rfl
theorem t_553 : Cond.methodLink RX11 124 yX8_cutTo ∈ TB := TB_in (List.mem_of_getElem? (i := 553) (by decide +kernel)) rfl
theorem t_554 : Cond.instanceMethod yX8_cutTo ∈ TB := TB_in (List.mem_of_getElem? (i := 554) (by decide +kernel)) rfl
theorem t_555 : Cond.selects RX8 yX8_cutTo yX8_cutTo ∈ TB := TB_in (List.mem_of_getElem? (i := 555) (by decide +kernel)) rfl
theorem t_556 : Cond.code yX8_cutTo cX8_cutTo 2 (some .boolean) ∈ TB := TB_in (List.mem_of_getElem? (i := 556) (by decide +kernel)) rfl
theorem t_561 : Cond.methodLink RX11 128 yX4_read ∈ TB := TB_in (List.mem_of_getElem? (i := 561) (by decide +kernel)) rfl
theorem t_562 : Cond.instanceMethod yX4_read ∈ TB := TB_in (List.mem_of_getElem? (i := 562) (by decide +kernel)) rfl
theorem t_563 : Cond.selects RX4 yX4_read yX4_read ∈ TB := TB_in (List.mem_of_getElem? (i := 563) (by decide +kernel)) rfl
theorem t_564 : Cond.code yX4_read cX4_read 2 (some .int) ∈ TB := TB_in (List.mem_of_getElem? (i := 564) (by decide +kernel)) rfl
theorem t_565 : Cond.methodLink RX4 19 yX5_empty ∈ TB := TB_in (List.mem_of_getElem? (i := 565) (by decide +kernel)) rfl
theorem t_566 : Cond.instanceMethod yX5_empty ∈ TB := TB_in (List.mem_of_getElem? (i := 566) (by decide +kernel)) rfl
theorem t_567 : Cond.selects RX5 yX5_empty yX5_empty ∈ TB := TB_in (List.mem_of_getElem? (i := 567) (by decide +kernel)) rfl
theorem t_568 : Cond.code yX5_empty cX5_empty 2 none ∈ TB := TB_in (List.mem_of_getElem? (i := 568) (by decide +kernel)) rfl
theorem t_569 : Cond.methodLink RX4 31 yX8_begin ∈ TB := TB_in (List.mem_of_getElem? (i := 569) (by decide +kernel)) rfl
theorem t_570 : Cond.instanceMethod yX8_begin ∈ TB := TB_in (List.mem_of_getElem? (i := 570) (by decide +kernel)) rfl
theorem t_571 : Cond.selects RX8 yX8_begin yX8_begin ∈ TB := TB_in (List.mem_of_getElem? (i := 571) (by decide +kernel)) rfl
theorem t_572 : Cond.code yX8_begin cX8_begin 2 none ∈ TB := TB_in (List.mem_of_getElem? (i := 572) (by decide +kernel)) rfl
theorem t_573 : Cond.methodLink RX8 51 yX8_advance ∈ TB := TB_in (List.mem_of_getElem? (i := 573) (by decide +kernel)) rfl
theorem t_574 : Cond.instanceMethod yX8_advance ∈ TB := TB_in (List.mem_of_getElem? (i := 574) (by decide +kernel)) rfl
theorem t_575 : Cond.selects RX8 yX8_advance yX8_advance ∈ TB := TB_in (List.mem_of_getElem? (i := 575) (by decide +kernel)) rfl
theorem t_576 : Cond.code yX8_advance cX8_advance 2 none ∈ TB := TB_in (List.mem_of_getElem? (i := 576) (by decide +kernel)) rfl
theorem t_577 : Cond.methodLink RX8 71 yX8_at ∈ TB := TB_in (List.mem_of_getElem? (i := 577) (by decide +kernel)) rfl
theorem t_578 : Cond.instanceMethod yX8_at ∈ TB := TB_in (List.mem_of_getElem? (i := 578) (by decide +kernel)) rfl
theorem t_579 : Cond.selects RX8 yX8_at yX8_at ∈ TB := TB_in (List.mem_of_getElem? (i := 579) (by decide +kernel)) rfl
theorem t_580 : Cond.code yX8_at cX8_at 2 (some .int) ∈ TB := TB_in (List.mem_of_getElem? (i := 580) (by decide +kernel)) rfl
theorem t_581 : Cond.methodLink RX8 75 Lib.Math.min.name ∈ TB := TB_in (List.mem_of_getElem? (i := 581) (by decide +kernel)) rfl
theorem t_582 : Cond.static Lib.Math.min.name ∈ TB := TB_in (List.mem_of_getElem? (i := 582) (by decide +kernel)) rfl
theorem t_583 : Cond.code Lib.Math.min.name Lib.Math.min.code 2 (some .int) ∈ TB := TB_in (List.mem_of_getElem? (i := 583) (by decide +kernel)) rfl
theorem t_584 : Cond.methodLink RX8 81 yX8_readRun ∈ TB := TB_in (List.mem_of_getElem? (i := 584) (by decide +kernel)) rfl
theorem t_586 : Cond.instanceMethod yX8_readRun ∈ TB := TB_in (List.mem_of_getElem? (i := 586) (by decide +kernel)) rfl
theorem t_587 : Cond.code yX8_readRun cX8_readRun 4 none ∈ TB := TB_in (List.mem_of_getElem? (i := 587) (by decide +kernel)) rfl
theorem t_588 : Cond.constantLong RX8 87 32 ∈ TB := TB_in (List.mem_of_getElem? (i := 588) (by decide +kernel)) rfl
theorem t_589 : Cond.methodLink RX8 84 yX8_isTokenSign ∈ TB := TB_in (List.mem_of_getElem? (i := 589) (by decide +kernel)) rfl
theorem t_590 : Cond.static yX8_isTokenSign ∈ TB := TB_in (List.mem_of_getElem? (i := 590) (by decide +kernel)) rfl
theorem t_591 : Cond.code yX8_isTokenSign cX8_isTokenSign 1 (some .boolean) ∈ TB := TB_in (List.mem_of_getElem? (i := 591) (by decide +kernel)) rfl
theorem t_592 : Cond.methodLink RX4 37 yX8_isAtEnd ∈ TB := TB_in (List.mem_of_getElem? (i := 592) (by decide +kernel)) rfl
theorem t_593 : Cond.instanceMethod yX8_isAtEnd ∈ TB := TB_in (List.mem_of_getElem? (i := 593) (by decide +kernel)) rfl
theorem t_594 : Cond.selects RX8 yX8_isAtEnd yX8_isAtEnd ∈ TB := TB_in (List.mem_of_getElem? (i := 594) (by decide +kernel)) rfl
theorem t_595 : Cond.code yX8_isAtEnd cX8_isAtEnd 1 (some .boolean) ∈ TB := TB_in (List.mem_of_getElem? (i := 595) (by decide +kernel)) rfl
theorem t_596 : Cond.methodLink RX4 41 yX4_readLine ∈ TB := TB_in (List.mem_of_getElem? (i := 596) (by decide +kernel)) rfl
theorem t_598 : Cond.instanceMethod yX4_readLine ∈ TB := TB_in (List.mem_of_getElem? (i := 598) (by decide +kernel)) rfl
theorem t_599 : Cond.code yX4_readLine cX4_readLine 1 (some .boolean) ∈ TB := TB_in (List.mem_of_getElem? (i := 599) (by decide +kernel)) rfl
theorem t_600 : Cond.fieldLink RX4 48 "LostCauses$Word" "LINE" "LLostCauses$Word;" ∈ TB := TB_in (List.mem_of_getElem? (i := 600) (by decide +kernel)) rfl
theorem t_602 : Cond.methodLink RX4 54 yX8_isWord ∈ TB := TB_in (List.mem_of_getElem? (i := 602) (by decide +kernel)) rfl
theorem t_603 : Cond.instanceMethod yX8_isWord ∈ TB := TB_in (List.mem_of_getElem? (i := 603) (by decide +kernel)) rfl
theorem t_604 : Cond.selects RX8 yX8_isWord yX8_isWord ∈ TB := TB_in (List.mem_of_getElem? (i := 604) (by decide +kernel)) rfl
theorem t_605 : Cond.code yX8_isWord cX8_isWord 2 (some .boolean) ∈ TB := TB_in (List.mem_of_getElem? (i := 605) (by decide +kernel)) rfl
theorem t_606 : Cond.methodLink RX8 54 yX10_letters ∈ TB := TB_in (List.mem_of_getElem? (i := 606) (by decide +kernel)) rfl
theorem t_607 : Cond.instanceMethod yX10_letters ∈ TB := TB_in (List.mem_of_getElem? (i := 607) (by decide +kernel)) rfl
theorem t_608 : Cond.selects RX10 yX10_letters yX10_letters ∈ TB := TB_in (List.mem_of_getElem? (i := 608) (by decide +kernel)) rfl
theorem t_609 : Cond.code yX10_letters cX10_letters 1 (some .long) ∈ TB := TB_in (List.mem_of_getElem? (i := 609) (by decide +kernel)) rfl
theorem t_610 : Cond.methodLink RX4 58 yX4_readBounds ∈ TB := TB_in (List.mem_of_getElem? (i := 610) (by decide +kernel)) rfl
theorem t_612 : Cond.instanceMethod yX4_readBounds ∈ TB := TB_in (List.mem_of_getElem? (i := 612) (by decide +kernel)) rfl
theorem t_613 : Cond.code yX4_readBounds cX4_readBounds 2 (some .boolean) ∈ TB := TB_in (List.mem_of_getElem? (i := 613) (by decide +kernel)) rfl
theorem t_614 : Cond.methodLink RX4 91 yX8_fail ∈ TB := TB_in (List.mem_of_getElem? (i := 614) (by decide +kernel)) rfl
theorem t_615 : Cond.instanceMethod yX8_fail ∈ TB := TB_in (List.mem_of_getElem? (i := 615) (by decide +kernel)) rfl
theorem t_616 : Cond.selects RX8 yX8_fail yX8_fail ∈ TB := TB_in (List.mem_of_getElem? (i := 616) (by decide +kernel)) rfl
theorem t_617 : Cond.code yX8_fail cX8_fail 2 (some .boolean) ∈ TB := TB_in (List.mem_of_getElem? (i := 617) (by decide +kernel)) rfl
theorem t_618 : Cond.methodLink RX4 94 yX8_advance ∈ TB := TB_in (List.mem_of_getElem? (i := 618) (by decide +kernel)) rfl
theorem t_619 : Cond.methodLink RX4 97 yX8_takeNumber ∈ TB := TB_in (List.mem_of_getElem? (i := 619) (by decide +kernel)) rfl
theorem t_620 : Cond.instanceMethod yX8_takeNumber ∈ TB := TB_in (List.mem_of_getElem? (i := 620) (by decide +kernel)) rfl
theorem t_621 : Cond.selects RX8 yX8_takeNumber yX8_takeNumber ∈ TB := TB_in (List.mem_of_getElem? (i := 621) (by decide +kernel)) rfl
theorem t_622 : Cond.code yX8_takeNumber cX8_takeNumber 3 (some .boolean) ∈ TB := TB_in (List.mem_of_getElem? (i := 622) (by decide +kernel)) rfl
theorem t_623 : Cond.methodLink RX8 67 yX8_fail ∈ TB := TB_in (List.mem_of_getElem? (i := 623) (by decide +kernel)) rfl
theorem t_624 : Cond.methodLink RX4 101 yX8_taken ∈ TB := TB_in (List.mem_of_getElem? (i := 624) (by decide +kernel)) rfl
theorem t_625 : Cond.instanceMethod yX8_taken ∈ TB := TB_in (List.mem_of_getElem? (i := 625) (by decide +kernel)) rfl
theorem t_626 : Cond.selects RX8 yX8_taken yX8_taken ∈ TB := TB_in (List.mem_of_getElem? (i := 626) (by decide +kernel)) rfl
theorem t_627 : Cond.code yX8_taken cX8_taken 1 (some .int) ∈ TB := TB_in (List.mem_of_getElem? (i := 627) (by decide +kernel)) rfl
theorem t_628 : Cond.methodLink RX4 105 yX5_tellLine ∈ TB := TB_in (List.mem_of_getElem? (i := 628) (by decide +kernel)) rfl
theorem t_629 : Cond.instanceMethod yX5_tellLine ∈ TB := TB_in (List.mem_of_getElem? (i := 629) (by decide +kernel)) rfl
theorem t_630 : Cond.selects RX5 yX5_tellLine yX5_tellLine ∈ TB := TB_in (List.mem_of_getElem? (i := 630) (by decide +kernel)) rfl
theorem t_631 : Cond.code yX5_tellLine cX5_tellLine 3 none ∈ TB := TB_in (List.mem_of_getElem? (i := 631) (by decide +kernel)) rfl
theorem t_632 : Cond.fieldLink RX4 61 "LostCauses$Word" "COIN" "LLostCauses$Word;" ∈ TB := TB_in (List.mem_of_getElem? (i := 632) (by decide +kernel)) rfl
theorem t_634 : Cond.methodLink RX4 64 yX4_readCoin ∈ TB := TB_in (List.mem_of_getElem? (i := 634) (by decide +kernel)) rfl
theorem t_636 : Cond.instanceMethod yX4_readCoin ∈ TB := TB_in (List.mem_of_getElem? (i := 636) (by decide +kernel)) rfl
theorem t_637 : Cond.code yX4_readCoin cX4_readCoin 1 (some .boolean) ∈ TB := TB_in (List.mem_of_getElem? (i := 637) (by decide +kernel)) rfl
theorem t_638 : Cond.methodLink RX4 109 yX5_tellCoin ∈ TB := TB_in (List.mem_of_getElem? (i := 638) (by decide +kernel)) rfl
theorem t_639 : Cond.instanceMethod yX5_tellCoin ∈ TB := TB_in (List.mem_of_getElem? (i := 639) (by decide +kernel)) rfl
theorem t_640 : Cond.selects RX5 yX5_tellCoin yX5_tellCoin ∈ TB := TB_in (List.mem_of_getElem? (i := 640) (by decide +kernel)) rfl
theorem t_641 : Cond.code yX5_tellCoin cX5_tellCoin 2 none ∈ TB := TB_in (List.mem_of_getElem? (i := 641) (by decide +kernel)) rfl
theorem t_642 : Cond.fieldLink RX4 67 "LostCauses$Word" "CAUSE" "LLostCauses$Word;" ∈ TB := TB_in (List.mem_of_getElem? (i := 642) (by decide +kernel)) rfl
theorem t_644 : Cond.methodLink RX4 70 yX4_readCause ∈ TB := TB_in (List.mem_of_getElem? (i := 644) (by decide +kernel)) rfl
theorem t_646 : Cond.instanceMethod yX4_readCause ∈ TB := TB_in (List.mem_of_getElem? (i := 646) (by decide +kernel)) rfl
theorem t_647 : Cond.code yX4_readCause cX4_readCause 2 (some .boolean) ∈ TB := TB_in (List.mem_of_getElem? (i := 647) (by decide +kernel)) rfl
theorem t_648 : Cond.methodLink RX4 112 yX5_causes ∈ TB := TB_in (List.mem_of_getElem? (i := 648) (by decide +kernel)) rfl
theorem t_649 : Cond.methodLink RX4 115 yX4_isNewName ∈ TB := TB_in (List.mem_of_getElem? (i := 649) (by decide +kernel)) rfl
theorem t_651 : Cond.instanceMethod yX4_isNewName ∈ TB := TB_in (List.mem_of_getElem? (i := 651) (by decide +kernel)) rfl
theorem t_652 : Cond.code yX4_isNewName cX4_isNewName 1 (some .boolean) ∈ TB := TB_in (List.mem_of_getElem? (i := 652) (by decide +kernel)) rfl
theorem t_653 : Cond.methodLink RX4 129 yX8_isName ∈ TB := TB_in (List.mem_of_getElem? (i := 653) (by decide +kernel)) rfl
theorem t_654 : Cond.instanceMethod yX8_isName ∈ TB := TB_in (List.mem_of_getElem? (i := 654) (by decide +kernel)) rfl
theorem t_655 : Cond.selects RX8 yX8_isName yX8_isName ∈ TB := TB_in (List.mem_of_getElem? (i := 655) (by decide +kernel)) rfl
theorem t_656 : Cond.code yX8_isName cX8_isName 1 (some .boolean) ∈ TB := TB_in (List.mem_of_getElem? (i := 656) (by decide +kernel)) rfl
theorem t_657 : Cond.methodLink RX8 59 yX10_isReserved ∈ TB := TB_in (List.mem_of_getElem? (i := 657) (by decide +kernel)) rfl
theorem t_658 : Cond.static yX10_isReserved ∈ TB := TB_in (List.mem_of_getElem? (i := 658) (by decide +kernel)) rfl
theorem t_659 : Cond.code yX10_isReserved cX10_isReserved 3 (some .boolean) ∈ TB := TB_in (List.mem_of_getElem? (i := 659) (by decide +kernel)) rfl
theorem t_660 : Cond.fieldLink RX10 108 "LostCauses$Word" "ALL" "[LLostCauses$Word;" ∈ TB := TB_in (List.mem_of_getElem? (i := 660) (by decide +kernel)) rfl
theorem t_662 : Cond.methodLink RX4 118 yX8_letters ∈ TB := TB_in (List.mem_of_getElem? (i := 662) (by decide +kernel)) rfl
theorem t_663 : Cond.instanceMethod yX8_letters ∈ TB := TB_in (List.mem_of_getElem? (i := 663) (by decide +kernel)) rfl
theorem t_664 : Cond.selects RX8 yX8_letters yX8_letters ∈ TB := TB_in (List.mem_of_getElem? (i := 664) (by decide +kernel)) rfl
theorem t_665 : Cond.code yX8_letters cX8_letters 1 (some .long) ∈ TB := TB_in (List.mem_of_getElem? (i := 665) (by decide +kernel)) rfl
theorem t_666 : Cond.methodLink RX4 161 yX5_isToldName ∈ TB := TB_in (List.mem_of_getElem? (i := 666) (by decide +kernel)) rfl
theorem t_667 : Cond.instanceMethod yX5_isToldName ∈ TB := TB_in (List.mem_of_getElem? (i := 667) (by decide +kernel)) rfl
theorem t_668 : Cond.selects RX5 yX5_isToldName yX5_isToldName ∈ TB := TB_in (List.mem_of_getElem? (i := 668) (by decide +kernel)) rfl
theorem t_669 : Cond.code yX5_isToldName cX5_isToldName 3 (some .boolean) ∈ TB := TB_in (List.mem_of_getElem? (i := 669) (by decide +kernel)) rfl
theorem t_670 : Cond.methodLink RX5 66 yX5_causeNamed ∈ TB := TB_in (List.mem_of_getElem? (i := 670) (by decide +kernel)) rfl
theorem t_671 : Cond.instanceMethod yX5_causeNamed ∈ TB := TB_in (List.mem_of_getElem? (i := 671) (by decide +kernel)) rfl
theorem t_672 : Cond.selects RX5 yX5_causeNamed yX5_causeNamed ∈ TB := TB_in (List.mem_of_getElem? (i := 672) (by decide +kernel)) rfl
theorem t_673 : Cond.code yX5_causeNamed cX5_causeNamed 3 (some .int) ∈ TB := TB_in (List.mem_of_getElem? (i := 673) (by decide +kernel)) rfl
theorem t_674 : Cond.methodLink RX5 76 yX5_placeOf ∈ TB := TB_in (List.mem_of_getElem? (i := 674) (by decide +kernel)) rfl
theorem t_675 : Cond.static yX5_placeOf ∈ TB := TB_in (List.mem_of_getElem? (i := 675) (by decide +kernel)) rfl
theorem t_676 : Cond.code yX5_placeOf cX5_placeOf 5 (some .int) ∈ TB := TB_in (List.mem_of_getElem? (i := 676) (by decide +kernel)) rfl
theorem t_677 : Cond.methodLink RX5 70 yX5_deedNamed ∈ TB := TB_in (List.mem_of_getElem? (i := 677) (by decide +kernel)) rfl
theorem t_678 : Cond.instanceMethod yX5_deedNamed ∈ TB := TB_in (List.mem_of_getElem? (i := 678) (by decide +kernel)) rfl
theorem t_679 : Cond.selects RX5 yX5_deedNamed yX5_deedNamed ∈ TB := TB_in (List.mem_of_getElem? (i := 679) (by decide +kernel)) rfl
theorem t_680 : Cond.code yX5_deedNamed cX5_deedNamed 3 (some .int) ∈ TB := TB_in (List.mem_of_getElem? (i := 680) (by decide +kernel)) rfl
theorem t_681 : Cond.methodLink RX5 73 yX5_clerkNamed ∈ TB := TB_in (List.mem_of_getElem? (i := 681) (by decide +kernel)) rfl
theorem t_682 : Cond.instanceMethod yX5_clerkNamed ∈ TB := TB_in (List.mem_of_getElem? (i := 682) (by decide +kernel)) rfl
theorem t_683 : Cond.selects RX5 yX5_clerkNamed yX5_clerkNamed ∈ TB := TB_in (List.mem_of_getElem? (i := 683) (by decide +kernel)) rfl
theorem t_684 : Cond.code yX5_clerkNamed cX5_clerkNamed 3 (some .int) ∈ TB := TB_in (List.mem_of_getElem? (i := 684) (by decide +kernel)) rfl
theorem t_685 : Cond.methodLink RX4 122 yX5_addCause ∈ TB := TB_in (List.mem_of_getElem? (i := 685) (by decide +kernel)) rfl
theorem t_686 : Cond.instanceMethod yX5_addCause ∈ TB := TB_in (List.mem_of_getElem? (i := 686) (by decide +kernel)) rfl
theorem t_687 : Cond.selects RX5 yX5_addCause yX5_addCause ∈ TB := TB_in (List.mem_of_getElem? (i := 687) (by decide +kernel)) rfl
theorem t_688 : Cond.code yX5_addCause cX5_addCause 3 none ∈ TB := TB_in (List.mem_of_getElem? (i := 688) (by decide +kernel)) rfl
theorem t_689 : Cond.methodLink RX4 126 yX5_tellLastCause ∈ TB := TB_in (List.mem_of_getElem? (i := 689) (by decide +kernel)) rfl
theorem t_690 : Cond.instanceMethod yX5_tellLastCause ∈ TB := TB_in (List.mem_of_getElem? (i := 690) (by decide +kernel)) rfl
theorem t_691 : Cond.selects RX5 yX5_tellLastCause yX5_tellLastCause ∈ TB := TB_in (List.mem_of_getElem? (i := 691) (by decide +kernel)) rfl
theorem t_692 : Cond.code yX5_tellLastCause cX5_tellLastCause 3 none ∈ TB := TB_in (List.mem_of_getElem? (i := 692) (by decide +kernel)) rfl
theorem t_693 : Cond.fieldLink RX4 73 "LostCauses$Word" "RUMOUR" "LLostCauses$Word;" ∈ TB := TB_in (List.mem_of_getElem? (i := 693) (by decide +kernel)) rfl
theorem t_695 : Cond.methodLink RX4 76 yX4_readRumour ∈ TB := TB_in (List.mem_of_getElem? (i := 695) (by decide +kernel)) rfl
theorem t_697 : Cond.instanceMethod yX4_readRumour ∈ TB := TB_in (List.mem_of_getElem? (i := 697) (by decide +kernel)) rfl
theorem t_698 : Cond.code yX4_readRumour cX4_readRumour 3 (some .boolean) ∈ TB := TB_in (List.mem_of_getElem? (i := 698) (by decide +kernel)) rfl
theorem t_699 : Cond.methodLink RX4 132 yX5_causeNamed ∈ TB := TB_in (List.mem_of_getElem? (i := 699) (by decide +kernel)) rfl
theorem t_700 : Cond.methodLink RX4 136 yX5_hasRumour ∈ TB := TB_in (List.mem_of_getElem? (i := 700) (by decide +kernel)) rfl
theorem t_701 : Cond.instanceMethod yX5_hasRumour ∈ TB := TB_in (List.mem_of_getElem? (i := 701) (by decide +kernel)) rfl
theorem t_702 : Cond.selects RX5 yX5_hasRumour yX5_hasRumour ∈ TB := TB_in (List.mem_of_getElem? (i := 702) (by decide +kernel)) rfl
theorem t_703 : Cond.code yX5_hasRumour cX5_hasRumour 2 (some .boolean) ∈ TB := TB_in (List.mem_of_getElem? (i := 703) (by decide +kernel)) rfl
theorem t_704 : Cond.methodLink RX5 63 yX5_hasCause ∈ TB := TB_in (List.mem_of_getElem? (i := 704) (by decide +kernel)) rfl
theorem t_705 : Cond.instanceMethod yX5_hasCause ∈ TB := TB_in (List.mem_of_getElem? (i := 705) (by decide +kernel)) rfl
theorem t_706 : Cond.selects RX5 yX5_hasCause yX5_hasCause ∈ TB := TB_in (List.mem_of_getElem? (i := 706) (by decide +kernel)) rfl
theorem t_707 : Cond.code yX5_hasCause cX5_hasCause 2 (some .boolean) ∈ TB := TB_in (List.mem_of_getElem? (i := 707) (by decide +kernel)) rfl
theorem t_708 : Cond.methodLink RX4 139 yX5_tellRumour ∈ TB := TB_in (List.mem_of_getElem? (i := 708) (by decide +kernel)) rfl
theorem t_709 : Cond.instanceMethod yX5_tellRumour ∈ TB := TB_in (List.mem_of_getElem? (i := 709) (by decide +kernel)) rfl
theorem t_710 : Cond.selects RX5 yX5_tellRumour yX5_tellRumour ∈ TB := TB_in (List.mem_of_getElem? (i := 710) (by decide +kernel)) rfl
theorem t_711 : Cond.code yX5_tellRumour cX5_tellRumour 4 none ∈ TB := TB_in (List.mem_of_getElem? (i := 711) (by decide +kernel)) rfl
theorem t_712 : Cond.fieldLink RX4 79 "LostCauses$Word" "DEED" "LLostCauses$Word;" ∈ TB := TB_in (List.mem_of_getElem? (i := 712) (by decide +kernel)) rfl
theorem t_714 : Cond.methodLink RX4 82 yX4_readDeed ∈ TB := TB_in (List.mem_of_getElem? (i := 714) (by decide +kernel)) rfl
theorem t_716 : Cond.instanceMethod yX4_readDeed ∈ TB := TB_in (List.mem_of_getElem? (i := 716) (by decide +kernel)) rfl
theorem t_717 : Cond.code yX4_readDeed cX4_readDeed 2 (some .boolean) ∈ TB := TB_in (List.mem_of_getElem? (i := 717) (by decide +kernel)) rfl
theorem t_718 : Cond.methodLink RX4 143 yX5_deeds ∈ TB := TB_in (List.mem_of_getElem? (i := 718) (by decide +kernel)) rfl
theorem t_719 : Cond.methodLink RX4 146 yX5_addDeed ∈ TB := TB_in (List.mem_of_getElem? (i := 719) (by decide +kernel)) rfl
theorem t_720 : Cond.instanceMethod yX5_addDeed ∈ TB := TB_in (List.mem_of_getElem? (i := 720) (by decide +kernel)) rfl
theorem t_721 : Cond.selects RX5 yX5_addDeed yX5_addDeed ∈ TB := TB_in (List.mem_of_getElem? (i := 721) (by decide +kernel)) rfl
theorem t_722 : Cond.code yX5_addDeed cX5_addDeed 3 none ∈ TB := TB_in (List.mem_of_getElem? (i := 722) (by decide +kernel)) rfl
theorem t_723 : Cond.methodLink RX4 149 yX5_tellLastDeed ∈ TB := TB_in (List.mem_of_getElem? (i := 723) (by decide +kernel)) rfl
theorem t_724 : Cond.instanceMethod yX5_tellLastDeed ∈ TB := TB_in (List.mem_of_getElem? (i := 724) (by decide +kernel)) rfl
theorem t_725 : Cond.selects RX5 yX5_tellLastDeed yX5_tellLastDeed ∈ TB := TB_in (List.mem_of_getElem? (i := 725) (by decide +kernel)) rfl
theorem t_726 : Cond.code yX5_tellLastDeed cX5_tellLastDeed 3 none ∈ TB := TB_in (List.mem_of_getElem? (i := 726) (by decide +kernel)) rfl
theorem t_727 : Cond.fieldLink RX4 85 "LostCauses$Word" "CLERK" "LLostCauses$Word;" ∈ TB := TB_in (List.mem_of_getElem? (i := 727) (by decide +kernel)) rfl
theorem t_729 : Cond.methodLink RX4 88 yX4_readClerk ∈ TB := TB_in (List.mem_of_getElem? (i := 729) (by decide +kernel)) rfl
theorem t_731 : Cond.instanceMethod yX4_readClerk ∈ TB := TB_in (List.mem_of_getElem? (i := 731) (by decide +kernel)) rfl
theorem t_732 : Cond.code yX4_readClerk cX4_readClerk 1 (some .boolean) ∈ TB := TB_in (List.mem_of_getElem? (i := 732) (by decide +kernel)) rfl
theorem t_733 : Cond.methodLink RX4 152 yX5_clerks ∈ TB := TB_in (List.mem_of_getElem? (i := 733) (by decide +kernel)) rfl
theorem t_734 : Cond.methodLink RX4 155 yX5_addClerk ∈ TB := TB_in (List.mem_of_getElem? (i := 734) (by decide +kernel)) rfl
theorem t_735 : Cond.instanceMethod yX5_addClerk ∈ TB := TB_in (List.mem_of_getElem? (i := 735) (by decide +kernel)) rfl
theorem t_736 : Cond.selects RX5 yX5_addClerk yX5_addClerk ∈ TB := TB_in (List.mem_of_getElem? (i := 736) (by decide +kernel)) rfl
theorem t_737 : Cond.code yX5_addClerk cX5_addClerk 3 none ∈ TB := TB_in (List.mem_of_getElem? (i := 737) (by decide +kernel)) rfl
theorem t_738 : Cond.methodLink RX4 158 yX5_tellLastClerk ∈ TB := TB_in (List.mem_of_getElem? (i := 738) (by decide +kernel)) rfl
theorem t_739 : Cond.instanceMethod yX5_tellLastClerk ∈ TB := TB_in (List.mem_of_getElem? (i := 739) (by decide +kernel)) rfl
theorem t_740 : Cond.selects RX5 yX5_tellLastClerk yX5_tellLastClerk ∈ TB := TB_in (List.mem_of_getElem? (i := 740) (by decide +kernel)) rfl
theorem t_741 : Cond.code yX5_tellLastClerk cX5_tellLastClerk 2 none ∈ TB := TB_in (List.mem_of_getElem? (i := 741) (by decide +kernel)) rfl
theorem t_742 : Cond.methodLink RX4 44 yX8_takeSign ∈ TB := TB_in (List.mem_of_getElem? (i := 742) (by decide +kernel)) rfl
theorem t_743 : Cond.instanceMethod yX8_takeSign ∈ TB := TB_in (List.mem_of_getElem? (i := 743) (by decide +kernel)) rfl
theorem t_744 : Cond.selects RX8 yX8_takeSign yX8_takeSign ∈ TB := TB_in (List.mem_of_getElem? (i := 744) (by decide +kernel)) rfl
theorem t_745 : Cond.code yX8_takeSign cX8_takeSign 2 (some .boolean) ∈ TB := TB_in (List.mem_of_getElem? (i := 745) (by decide +kernel)) rfl
theorem t_746 : Cond.methodLink RX11 131 yX8_empty ∈ TB := TB_in (List.mem_of_getElem? (i := 746) (by decide +kernel)) rfl
theorem t_747 : Cond.instanceMethod yX8_empty ∈ TB := TB_in (List.mem_of_getElem? (i := 747) (by decide +kernel)) rfl
theorem t_748 : Cond.selects RX8 yX8_empty yX8_empty ∈ TB := TB_in (List.mem_of_getElem? (i := 748) (by decide +kernel)) rfl
theorem t_749 : Cond.code yX8_empty cX8_empty 1 none ∈ TB := TB_in (List.mem_of_getElem? (i := 749) (by decide +kernel)) rfl
theorem t_750 : Cond.methodLink RX11 134 yX8_faultKind ∈ TB := TB_in (List.mem_of_getElem? (i := 750) (by decide +kernel)) rfl
theorem t_751 : Cond.instanceMethod yX8_faultKind ∈ TB := TB_in (List.mem_of_getElem? (i := 751) (by decide +kernel)) rfl
theorem t_752 : Cond.selects RX8 yX8_faultKind yX8_faultKind ∈ TB := TB_in (List.mem_of_getElem? (i := 752) (by decide +kernel)) rfl
theorem t_753 : Cond.code yX8_faultKind cX8_faultKind 1 (some .int) ∈ TB := TB_in (List.mem_of_getElem? (i := 753) (by decide +kernel)) rfl
theorem t_754 : Cond.methodLink RX11 137 yX8_faultPlace ∈ TB := TB_in (List.mem_of_getElem? (i := 754) (by decide +kernel)) rfl
theorem t_755 : Cond.instanceMethod yX8_faultPlace ∈ TB := TB_in (List.mem_of_getElem? (i := 755) (by decide +kernel)) rfl
theorem t_756 : Cond.selects RX8 yX8_faultPlace yX8_faultPlace ∈ TB := TB_in (List.mem_of_getElem? (i := 756) (by decide +kernel)) rfl
theorem t_757 : Cond.code yX8_faultPlace cX8_faultPlace 1 (some .int) ∈ TB := TB_in (List.mem_of_getElem? (i := 757) (by decide +kernel)) rfl
theorem t_758 : Cond.methodLink RX11 140 yX5_copyFrom ∈ TB := TB_in (List.mem_of_getElem? (i := 758) (by decide +kernel)) rfl
theorem t_759 : Cond.instanceMethod yX5_copyFrom ∈ TB := TB_in (List.mem_of_getElem? (i := 759) (by decide +kernel)) rfl
theorem t_760 : Cond.selects RX5 yX5_copyFrom yX5_copyFrom ∈ TB := TB_in (List.mem_of_getElem? (i := 760) (by decide +kernel)) rfl
theorem t_761 : Cond.code yX5_copyFrom cX5_copyFrom 2 none ∈ TB := TB_in (List.mem_of_getElem? (i := 761) (by decide +kernel)) rfl
theorem t_762 : Cond.methodLink RX5 53 arraycopyName ∈ TB := TB_in (List.mem_of_getElem? (i := 762) (by decide +kernel)) rfl
theorem t_763 : Cond.static arraycopyName ∈ TB := TB_in (List.mem_of_getElem? (i := 763) (by decide +kernel)) rfl
theorem t_764 : Cond.native arraycopyName ∈ TB := TB_in (List.mem_of_getElem? (i := 764) (by decide +kernel)) rfl
theorem t_765 : Cond.methodLink RX11 143 yX7_empty ∈ TB := TB_in (List.mem_of_getElem? (i := 765) (by decide +kernel)) rfl
theorem t_766 : Cond.instanceMethod yX7_empty ∈ TB := TB_in (List.mem_of_getElem? (i := 766) (by decide +kernel)) rfl
theorem t_767 : Cond.selects RX7 yX7_empty yX7_empty ∈ TB := TB_in (List.mem_of_getElem? (i := 767) (by decide +kernel)) rfl
theorem t_768 : Cond.code yX7_empty cX7_empty 1 none ∈ TB := TB_in (List.mem_of_getElem? (i := 768) (by decide +kernel)) rfl
theorem t_769 : Cond.methodLink RX11 144 yX0_forget ∈ TB := TB_in (List.mem_of_getElem? (i := 769) (by decide +kernel)) rfl
theorem t_770 : Cond.instanceMethod yX0_forget ∈ TB := TB_in (List.mem_of_getElem? (i := 770) (by decide +kernel)) rfl
theorem t_771 : Cond.selects RX0 yX0_forget yX0_forget ∈ TB := TB_in (List.mem_of_getElem? (i := 771) (by decide +kernel)) rfl
theorem t_772 : Cond.code yX0_forget cX0_forget 1 none ∈ TB := TB_in (List.mem_of_getElem? (i := 772) (by decide +kernel)) rfl
theorem t_781 : Cond.methodLink RX11 171 yX5_hasDeed ∈ TB := TB_in (List.mem_of_getElem? (i := 781) (by decide +kernel)) rfl
theorem t_782 : Cond.instanceMethod yX5_hasDeed ∈ TB := TB_in (List.mem_of_getElem? (i := 782) (by decide +kernel)) rfl
theorem t_783 : Cond.selects RX5 yX5_hasDeed yX5_hasDeed ∈ TB := TB_in (List.mem_of_getElem? (i := 783) (by decide +kernel)) rfl
theorem t_784 : Cond.code yX5_hasDeed cX5_hasDeed 2 (some .boolean) ∈ TB := TB_in (List.mem_of_getElem? (i := 784) (by decide +kernel)) rfl
theorem t_785 : Cond.methodLink RX11 174 yX5_ofDeed ∈ TB := TB_in (List.mem_of_getElem? (i := 785) (by decide +kernel)) rfl
theorem t_790 : Cond.methodLink RX11 177 yX5_hasClerk ∈ TB := TB_in (List.mem_of_getElem? (i := 790) (by decide +kernel)) rfl
theorem t_791 : Cond.instanceMethod yX5_hasClerk ∈ TB := TB_in (List.mem_of_getElem? (i := 791) (by decide +kernel)) rfl
theorem t_792 : Cond.selects RX5 yX5_hasClerk yX5_hasClerk ∈ TB := TB_in (List.mem_of_getElem? (i := 792) (by decide +kernel)) rfl
theorem t_793 : Cond.code yX5_hasClerk cX5_hasClerk 2 (some .boolean) ∈ TB := TB_in (List.mem_of_getElem? (i := 793) (by decide +kernel)) rfl
theorem t_794 : Cond.methodLink RX11 180 yX0_ofClerk ∈ TB := TB_in (List.mem_of_getElem? (i := 794) (by decide +kernel)) rfl
theorem t_795 : Cond.instanceMethod yX0_ofClerk ∈ TB := TB_in (List.mem_of_getElem? (i := 795) (by decide +kernel)) rfl
theorem t_796 : Cond.selects RX0 yX0_ofClerk yX0_ofClerk ∈ TB := TB_in (List.mem_of_getElem? (i := 796) (by decide +kernel)) rfl
theorem t_797 : Cond.code yX0_ofClerk cX0_ofClerk 3 (some .int) ∈ TB := TB_in (List.mem_of_getElem? (i := 797) (by decide +kernel)) rfl
theorem t_802 : Cond.methodLink RX11 183 yX0_deadBits ∈ TB := TB_in (List.mem_of_getElem? (i := 802) (by decide +kernel)) rfl
theorem t_803 : Cond.instanceMethod yX0_deadBits ∈ TB := TB_in (List.mem_of_getElem? (i := 803) (by decide +kernel)) rfl
theorem t_804 : Cond.selects RX0 yX0_deadBits yX0_deadBits ∈ TB := TB_in (List.mem_of_getElem? (i := 804) (by decide +kernel)) rfl
theorem t_805 : Cond.code yX0_deadBits cX0_deadBits 3 (some .int) ∈ TB := TB_in (List.mem_of_getElem? (i := 805) (by decide +kernel)) rfl
theorem t_806 : Cond.methodLink RX0 81 yX0_ofCause ∈ TB := TB_in (List.mem_of_getElem? (i := 806) (by decide +kernel)) rfl
theorem t_807 : Cond.instanceMethod yX0_ofCause ∈ TB := TB_in (List.mem_of_getElem? (i := 807) (by decide +kernel)) rfl
theorem t_808 : Cond.selects RX0 yX0_ofCause yX0_ofCause ∈ TB := TB_in (List.mem_of_getElem? (i := 808) (by decide +kernel)) rfl
theorem t_809 : Cond.code yX0_ofCause cX0_ofCause 3 (some .int) ∈ TB := TB_in (List.mem_of_getElem? (i := 809) (by decide +kernel)) rfl
theorem t_810 : Cond.methodLink RX11 186 yX0_ofNow ∈ TB := TB_in (List.mem_of_getElem? (i := 810) (by decide +kernel)) rfl
theorem t_811 : Cond.instanceMethod yX0_ofNow ∈ TB := TB_in (List.mem_of_getElem? (i := 811) (by decide +kernel)) rfl
theorem t_812 : Cond.selects RX0 yX0_ofNow yX0_ofNow ∈ TB := TB_in (List.mem_of_getElem? (i := 812) (by decide +kernel)) rfl
theorem t_813 : Cond.code yX0_ofNow cX0_ofNow 2 (some .int) ∈ TB := TB_in (List.mem_of_getElem? (i := 813) (by decide +kernel)) rfl
theorem t_818 : Cond.methodLink RX11 147 yX5_hasCause ∈ TB := TB_in (List.mem_of_getElem? (i := 818) (by decide +kernel)) rfl
theorem t_819 : Cond.methodLink RX11 189 yX0_whyNotTake ∈ TB := TB_in (List.mem_of_getElem? (i := 819) (by decide +kernel)) rfl
theorem t_820 : Cond.instanceMethod yX0_whyNotTake ∈ TB := TB_in (List.mem_of_getElem? (i := 820) (by decide +kernel)) rfl
theorem t_821 : Cond.selects RX0 yX0_whyNotTake yX0_whyNotTake ∈ TB := TB_in (List.mem_of_getElem? (i := 821) (by decide +kernel)) rfl
theorem t_822 : Cond.code yX0_whyNotTake cX0_whyNotTake 3 (some .int) ∈ TB := TB_in (List.mem_of_getElem? (i := 822) (by decide +kernel)) rfl
theorem t_823 : Cond.methodLink RX0 94 yX0_isFree ∈ TB := TB_in (List.mem_of_getElem? (i := 823) (by decide +kernel)) rfl
theorem t_824 : Cond.instanceMethod yX0_isFree ∈ TB := TB_in (List.mem_of_getElem? (i := 824) (by decide +kernel)) rfl
theorem t_825 : Cond.selects RX0 yX0_isFree yX0_isFree ∈ TB := TB_in (List.mem_of_getElem? (i := 825) (by decide +kernel)) rfl
theorem t_826 : Cond.code yX0_isFree cX0_isFree 2 (some .boolean) ∈ TB := TB_in (List.mem_of_getElem? (i := 826) (by decide +kernel)) rfl
theorem t_827 : Cond.methodLink RX0 78 yX0_ofClerk ∈ TB := TB_in (List.mem_of_getElem? (i := 827) (by decide +kernel)) rfl
theorem t_828 : Cond.methodLink RX0 86 yX0_isSafe ∈ TB := TB_in (List.mem_of_getElem? (i := 828) (by decide +kernel)) rfl
theorem t_829 : Cond.instanceMethod yX0_isSafe ∈ TB := TB_in (List.mem_of_getElem? (i := 829) (by decide +kernel)) rfl
theorem t_830 : Cond.selects RX0 yX0_isSafe yX0_isSafe ∈ TB := TB_in (List.mem_of_getElem? (i := 830) (by decide +kernel)) rfl
theorem t_831 : Cond.code yX0_isSafe cX0_isSafe 2 (some .boolean) ∈ TB := TB_in (List.mem_of_getElem? (i := 831) (by decide +kernel)) rfl
theorem t_832 : Cond.methodLink RX0 82 yX5_isSafe ∈ TB := TB_in (List.mem_of_getElem? (i := 832) (by decide +kernel)) rfl
theorem t_833 : Cond.instanceMethod yX5_isSafe ∈ TB := TB_in (List.mem_of_getElem? (i := 833) (by decide +kernel)) rfl
theorem t_834 : Cond.selects RX5 yX5_isSafe yX5_isSafe ∈ TB := TB_in (List.mem_of_getElem? (i := 834) (by decide +kernel)) rfl
theorem t_835 : Cond.code yX5_isSafe cX5_isSafe 3 (some .boolean) ∈ TB := TB_in (List.mem_of_getElem? (i := 835) (by decide +kernel)) rfl
theorem t_836 : Cond.methodLink RX0 97 yX0_weeksLeft ∈ TB := TB_in (List.mem_of_getElem? (i := 836) (by decide +kernel)) rfl
theorem t_837 : Cond.instanceMethod yX0_weeksLeft ∈ TB := TB_in (List.mem_of_getElem? (i := 837) (by decide +kernel)) rfl
theorem t_838 : Cond.selects RX0 yX0_weeksLeft yX0_weeksLeft ∈ TB := TB_in (List.mem_of_getElem? (i := 838) (by decide +kernel)) rfl
theorem t_839 : Cond.code yX0_weeksLeft cX0_weeksLeft 1 (some .int) ∈ TB := TB_in (List.mem_of_getElem? (i := 839) (by decide +kernel)) rfl
theorem t_840 : Cond.methodLink RX0 75 yX0_ofNow ∈ TB := TB_in (List.mem_of_getElem? (i := 840) (by decide +kernel)) rfl
theorem t_841 : Cond.methodLink RX11 192 yX0_remember ∈ TB := TB_in (List.mem_of_getElem? (i := 841) (by decide +kernel)) rfl
theorem t_842 : Cond.instanceMethod yX0_remember ∈ TB := TB_in (List.mem_of_getElem? (i := 842) (by decide +kernel)) rfl
theorem t_843 : Cond.selects RX0 yX0_remember yX0_remember ∈ TB := TB_in (List.mem_of_getElem? (i := 843) (by decide +kernel)) rfl
theorem t_844 : Cond.code yX0_remember cX0_remember 1 none ∈ TB := TB_in (List.mem_of_getElem? (i := 844) (by decide +kernel)) rfl
theorem t_845 : Cond.methodLink RX0 68 yX0_rememberRow ∈ TB := TB_in (List.mem_of_getElem? (i := 845) (by decide +kernel)) rfl
theorem t_846 : Cond.instanceMethod yX0_rememberRow ∈ TB := TB_in (List.mem_of_getElem? (i := 846) (by decide +kernel)) rfl
theorem t_847 : Cond.selects RX0 yX0_rememberRow yX0_rememberRow ∈ TB := TB_in (List.mem_of_getElem? (i := 847) (by decide +kernel)) rfl
theorem t_848 : Cond.code yX0_rememberRow cX0_rememberRow 2 none ∈ TB := TB_in (List.mem_of_getElem? (i := 848) (by decide +kernel)) rfl
theorem t_849 : Cond.methodLink RX0 62 arraycopyName ∈ TB := TB_in (List.mem_of_getElem? (i := 849) (by decide +kernel)) rfl
theorem t_850 : Cond.methodLink RX11 195 yX0_doTake ∈ TB := TB_in (List.mem_of_getElem? (i := 850) (by decide +kernel)) rfl
theorem t_851 : Cond.instanceMethod yX0_doTake ∈ TB := TB_in (List.mem_of_getElem? (i := 851) (by decide +kernel)) rfl
theorem t_852 : Cond.selects RX0 yX0_doTake yX0_doTake ∈ TB := TB_in (List.mem_of_getElem? (i := 852) (by decide +kernel)) rfl
theorem t_853 : Cond.code yX0_doTake cX0_doTake 3 none ∈ TB := TB_in (List.mem_of_getElem? (i := 853) (by decide +kernel)) rfl
theorem t_858 : Cond.methodLink RX11 199 yX0_whyNotAct ∈ TB := TB_in (List.mem_of_getElem? (i := 858) (by decide +kernel)) rfl
theorem t_859 : Cond.instanceMethod yX0_whyNotAct ∈ TB := TB_in (List.mem_of_getElem? (i := 859) (by decide +kernel)) rfl
theorem t_860 : Cond.selects RX0 yX0_whyNotAct yX0_whyNotAct ∈ TB := TB_in (List.mem_of_getElem? (i := 860) (by decide +kernel)) rfl
theorem t_861 : Cond.code yX0_whyNotAct cX0_whyNotAct 4 (some .int) ∈ TB := TB_in (List.mem_of_getElem? (i := 861) (by decide +kernel)) rfl
theorem t_862 : Cond.methodLink RX0 100 yX5_ofDeed ∈ TB := TB_in (List.mem_of_getElem? (i := 862) (by decide +kernel)) rfl
theorem t_863 : Cond.methodLink RX11 202 yX0_doAct ∈ TB := TB_in (List.mem_of_getElem? (i := 863) (by decide +kernel)) rfl
theorem t_864 : Cond.instanceMethod yX0_doAct ∈ TB := TB_in (List.mem_of_getElem? (i := 864) (by decide +kernel)) rfl
theorem t_865 : Cond.selects RX0 yX0_doAct yX0_doAct ∈ TB := TB_in (List.mem_of_getElem? (i := 865) (by decide +kernel)) rfl
theorem t_866 : Cond.code yX0_doAct cX0_doAct 4 none ∈ TB := TB_in (List.mem_of_getElem? (i := 866) (by decide +kernel)) rfl
theorem t_867 : Cond.methodLink RX0 103 yX0_addCause ∈ TB := TB_in (List.mem_of_getElem? (i := 867) (by decide +kernel)) rfl
theorem t_869 : Cond.instanceMethod yX0_addCause ∈ TB := TB_in (List.mem_of_getElem? (i := 869) (by decide +kernel)) rfl
theorem t_870 : Cond.code yX0_addCause cX0_addCause 4 none ∈ TB := TB_in (List.mem_of_getElem? (i := 870) (by decide +kernel)) rfl
theorem t_871 : Cond.methodLink RX0 106 yX0_addClerk ∈ TB := TB_in (List.mem_of_getElem? (i := 871) (by decide +kernel)) rfl
theorem t_873 : Cond.instanceMethod yX0_addClerk ∈ TB := TB_in (List.mem_of_getElem? (i := 873) (by decide +kernel)) rfl
theorem t_874 : Cond.code yX0_addClerk cX0_addClerk 4 none ∈ TB := TB_in (List.mem_of_getElem? (i := 874) (by decide +kernel)) rfl
theorem t_875 : Cond.methodLink RX0 109 yX0_addNow ∈ TB := TB_in (List.mem_of_getElem? (i := 875) (by decide +kernel)) rfl
theorem t_877 : Cond.instanceMethod yX0_addNow ∈ TB := TB_in (List.mem_of_getElem? (i := 877) (by decide +kernel)) rfl
theorem t_878 : Cond.code yX0_addNow cX0_addNow 3 none ∈ TB := TB_in (List.mem_of_getElem? (i := 878) (by decide +kernel)) rfl
theorem t_883 : Cond.methodLink RX11 205 yX0_whyNotDrop ∈ TB := TB_in (List.mem_of_getElem? (i := 883) (by decide +kernel)) rfl
theorem t_884 : Cond.instanceMethod yX0_whyNotDrop ∈ TB := TB_in (List.mem_of_getElem? (i := 884) (by decide +kernel)) rfl
theorem t_885 : Cond.selects RX0 yX0_whyNotDrop yX0_whyNotDrop ∈ TB := TB_in (List.mem_of_getElem? (i := 885) (by decide +kernel)) rfl
theorem t_886 : Cond.code yX0_whyNotDrop cX0_whyNotDrop 2 (some .int) ∈ TB := TB_in (List.mem_of_getElem? (i := 886) (by decide +kernel)) rfl
theorem t_887 : Cond.methodLink RX11 208 yX0_doDrop ∈ TB := TB_in (List.mem_of_getElem? (i := 887) (by decide +kernel)) rfl
theorem t_888 : Cond.instanceMethod yX0_doDrop ∈ TB := TB_in (List.mem_of_getElem? (i := 888) (by decide +kernel)) rfl
theorem t_889 : Cond.selects RX0 yX0_doDrop yX0_doDrop ∈ TB := TB_in (List.mem_of_getElem? (i := 889) (by decide +kernel)) rfl
theorem t_890 : Cond.code yX0_doDrop cX0_doDrop 4 none ∈ TB := TB_in (List.mem_of_getElem? (i := 890) (by decide +kernel)) rfl
theorem t_891 : Cond.methodLink RX0 112 yX0_payFor ∈ TB := TB_in (List.mem_of_getElem? (i := 891) (by decide +kernel)) rfl
theorem t_892 : Cond.instanceMethod yX0_payFor ∈ TB := TB_in (List.mem_of_getElem? (i := 892) (by decide +kernel)) rfl
theorem t_893 : Cond.selects RX0 yX0_payFor yX0_payFor ∈ TB := TB_in (List.mem_of_getElem? (i := 893) (by decide +kernel)) rfl
theorem t_894 : Cond.code yX0_payFor cX0_payFor 3 (some .int) ∈ TB := TB_in (List.mem_of_getElem? (i := 894) (by decide +kernel)) rfl
theorem t_895 : Cond.methodLink RX0 92 yX0_nearness ∈ TB := TB_in (List.mem_of_getElem? (i := 895) (by decide +kernel)) rfl
theorem t_896 : Cond.instanceMethod yX0_nearness ∈ TB := TB_in (List.mem_of_getElem? (i := 896) (by decide +kernel)) rfl
theorem t_897 : Cond.selects RX0 yX0_nearness yX0_nearness ∈ TB := TB_in (List.mem_of_getElem? (i := 897) (by decide +kernel)) rfl
theorem t_898 : Cond.code yX0_nearness cX0_nearness 2 (some .int) ∈ TB := TB_in (List.mem_of_getElem? (i := 898) (by decide +kernel)) rfl
theorem t_899 : Cond.methodLink RX0 89 yX5_nearness ∈ TB := TB_in (List.mem_of_getElem? (i := 899) (by decide +kernel)) rfl
theorem t_900 : Cond.instanceMethod yX5_nearness ∈ TB := TB_in (List.mem_of_getElem? (i := 900) (by decide +kernel)) rfl
theorem t_901 : Cond.selects RX5 yX5_nearness yX5_nearness ∈ TB := TB_in (List.mem_of_getElem? (i := 901) (by decide +kernel)) rfl
theorem t_902 : Cond.code yX5_nearness cX5_nearness 4 (some .int) ∈ TB := TB_in (List.mem_of_getElem? (i := 902) (by decide +kernel)) rfl
theorem t_907 : Cond.methodLink RX11 211 yX0_weeksLeft ∈ TB := TB_in (List.mem_of_getElem? (i := 907) (by decide +kernel)) rfl
theorem t_908 : Cond.methodLink RX11 214 yX0_passWeeks ∈ TB := TB_in (List.mem_of_getElem? (i := 908) (by decide +kernel)) rfl
theorem t_909 : Cond.instanceMethod yX0_passWeeks ∈ TB := TB_in (List.mem_of_getElem? (i := 909) (by decide +kernel)) rfl
theorem t_910 : Cond.selects RX0 yX0_passWeeks yX0_passWeeks ∈ TB := TB_in (List.mem_of_getElem? (i := 910) (by decide +kernel)) rfl
theorem t_911 : Cond.code yX0_passWeeks cX0_passWeeks 4 (some .int) ∈ TB := TB_in (List.mem_of_getElem? (i := 911) (by decide +kernel)) rfl
theorem t_912 : Cond.methodLink RX0 115 Lib.Math.min.name ∈ TB := TB_in (List.mem_of_getElem? (i := 912) (by decide +kernel)) rfl
theorem t_913 : Cond.methodLink RX0 120 yX0_passWeek ∈ TB := TB_in (List.mem_of_getElem? (i := 913) (by decide +kernel)) rfl
theorem t_914 : Cond.instanceMethod yX0_passWeek ∈ TB := TB_in (List.mem_of_getElem? (i := 914) (by decide +kernel)) rfl
theorem t_915 : Cond.selects RX0 yX0_passWeek yX0_passWeek ∈ TB := TB_in (List.mem_of_getElem? (i := 915) (by decide +kernel)) rfl
theorem t_916 : Cond.code yX0_passWeek cX0_passWeek 3 none ∈ TB := TB_in (List.mem_of_getElem? (i := 916) (by decide +kernel)) rfl
theorem t_917 : Cond.methodLink RX0 123 yX0_passTaken ∈ TB := TB_in (List.mem_of_getElem? (i := 917) (by decide +kernel)) rfl
theorem t_919 : Cond.instanceMethod yX0_passTaken ∈ TB := TB_in (List.mem_of_getElem? (i := 919) (by decide +kernel)) rfl
theorem t_920 : Cond.code yX0_passTaken cX0_passTaken 3 none ∈ TB := TB_in (List.mem_of_getElem? (i := 920) (by decide +kernel)) rfl
theorem t_921 : Cond.methodLink RX0 130 yX5_hasClerk ∈ TB := TB_in (List.mem_of_getElem? (i := 921) (by decide +kernel)) rfl
theorem t_922 : Cond.methodLink RX0 127 yX0_passLeftAlone ∈ TB := TB_in (List.mem_of_getElem? (i := 922) (by decide +kernel)) rfl
theorem t_924 : Cond.instanceMethod yX0_passLeftAlone ∈ TB := TB_in (List.mem_of_getElem? (i := 924) (by decide +kernel)) rfl
theorem t_925 : Cond.code yX0_passLeftAlone cX0_passLeftAlone 3 none ∈ TB := TB_in (List.mem_of_getElem? (i := 925) (by decide +kernel)) rfl
theorem t_930 : Cond.methodLink RX11 217 yX0_takeBack ∈ TB := TB_in (List.mem_of_getElem? (i := 930) (by decide +kernel)) rfl
theorem t_931 : Cond.instanceMethod yX0_takeBack ∈ TB := TB_in (List.mem_of_getElem? (i := 931) (by decide +kernel)) rfl
theorem t_932 : Cond.selects RX0 yX0_takeBack yX0_takeBack ∈ TB := TB_in (List.mem_of_getElem? (i := 932) (by decide +kernel)) rfl
theorem t_933 : Cond.code yX0_takeBack cX0_takeBack 1 (some .int) ∈ TB := TB_in (List.mem_of_getElem? (i := 933) (by decide +kernel)) rfl
theorem t_934 : Cond.methodLink RX0 72 yX0_loadFrom ∈ TB := TB_in (List.mem_of_getElem? (i := 934) (by decide +kernel)) rfl
theorem t_935 : Cond.instanceMethod yX0_loadFrom ∈ TB := TB_in (List.mem_of_getElem? (i := 935) (by decide +kernel)) rfl
theorem t_936 : Cond.selects RX0 yX0_loadFrom yX0_loadFrom ∈ TB := TB_in (List.mem_of_getElem? (i := 936) (by decide +kernel)) rfl
theorem t_937 : Cond.code yX0_loadFrom cX0_loadFrom 2 none ∈ TB := TB_in (List.mem_of_getElem? (i := 937) (by decide +kernel)) rfl
theorem t_942 : Cond.methodLink RX11 220 yX11_isDeedNumber ∈ TB := TB_in (List.mem_of_getElem? (i := 942) (by decide +kernel)) rfl
theorem t_943 : Cond.static yX11_isDeedNumber ∈ TB := TB_in (List.mem_of_getElem? (i := 943) (by decide +kernel)) rfl
theorem t_944 : Cond.code yX11_isDeedNumber cX11_isDeedNumber 1 (some .boolean) ∈ TB := TB_in (List.mem_of_getElem? (i := 944) (by decide +kernel)) rfl
theorem t_945 : Cond.methodLink RX11 223 yX9_nearestSet ∈ TB := TB_in (List.mem_of_getElem? (i := 945) (by decide +kernel)) rfl
theorem t_946 : Cond.instanceMethod yX9_nearestSet ∈ TB := TB_in (List.mem_of_getElem? (i := 946) (by decide +kernel)) rfl
theorem t_947 : Cond.selects RX9 yX9_nearestSet yX9_nearestSet ∈ TB := TB_in (List.mem_of_getElem? (i := 947) (by decide +kernel)) rfl
theorem t_948 : Cond.code yX9_nearestSet cX9_nearestSet 5 (some .int) ∈ TB := TB_in (List.mem_of_getElem? (i := 948) (by decide +kernel)) rfl
theorem t_949 : Cond.methodLink RX9 60 yX9_countOrders ∈ TB := TB_in (List.mem_of_getElem? (i := 949) (by decide +kernel)) rfl
theorem t_951 : Cond.instanceMethod yX9_countOrders ∈ TB := TB_in (List.mem_of_getElem? (i := 951) (by decide +kernel)) rfl
theorem t_952 : Cond.code yX9_countOrders cX9_countOrders 7 none ∈ TB := TB_in (List.mem_of_getElem? (i := 952) (by decide +kernel)) rfl
theorem t_953 : Cond.methodLink RX9 46 yX0_ofCause ∈ TB := TB_in (List.mem_of_getElem? (i := 953) (by decide +kernel)) rfl
theorem t_954 : Cond.methodLink RX9 97 yX5_isSafe ∈ TB := TB_in (List.mem_of_getElem? (i := 954) (by decide +kernel)) rfl
theorem t_955 : Cond.methodLink RX9 111 yX9_sumOfOrders ∈ TB := TB_in (List.mem_of_getElem? (i := 955) (by decide +kernel)) rfl
theorem t_957 : Cond.instanceMethod yX9_sumOfOrders ∈ TB := TB_in (List.mem_of_getElem? (i := 957) (by decide +kernel)) rfl
theorem t_958 : Cond.code yX9_sumOfOrders cX9_sumOfOrders 5 (some .int) ∈ TB := TB_in (List.mem_of_getElem? (i := 958) (by decide +kernel)) rfl
theorem t_959 : Cond.methodLink RX9 64 yJ6_bitCount_0f7a4 ∈ TB := TB_in (List.mem_of_getElem? (i := 959) (by decide +kernel)) rfl
theorem t_960 : Cond.static yJ6_bitCount_0f7a4 ∈ TB := TB_in (List.mem_of_getElem? (i := 960) (by decide +kernel)) rfl
theorem t_961 : Cond.code yJ6_bitCount_0f7a4 cJ6_bitCount_0f7a4 1 (some .int) ∈ TB := TB_in (List.mem_of_getElem? (i := 961) (by decide +kernel)) rfl
theorem t_962 : Cond.constant RJ6 265 1431655765 ∈ TB := TB_in (List.mem_of_getElem? (i := 962) (by decide +kernel)) rfl
theorem t_963 : Cond.constant RJ6 266 858993459 ∈ TB := TB_in (List.mem_of_getElem? (i := 963) (by decide +kernel)) rfl
theorem t_964 : Cond.constant RJ6 267 252645135 ∈ TB := TB_in (List.mem_of_getElem? (i := 964) (by decide +kernel)) rfl
theorem t_965 : Cond.methodLink RX9 70 yX9_isNearer ∈ TB := TB_in (List.mem_of_getElem? (i := 965) (by decide +kernel)) rfl
theorem t_967 : Cond.instanceMethod yX9_isNearer ∈ TB := TB_in (List.mem_of_getElem? (i := 967) (by decide +kernel)) rfl
theorem t_968 : Cond.code yX9_isNearer cX9_isNearer 6 (some .boolean) ∈ TB := TB_in (List.mem_of_getElem? (i := 968) (by decide +kernel)) rfl
theorem t_969 : Cond.methodLink RX9 51 yX9_proBehind ∈ TB := TB_in (List.mem_of_getElem? (i := 969) (by decide +kernel)) rfl
theorem t_971 : Cond.instanceMethod yX9_proBehind ∈ TB := TB_in (List.mem_of_getElem? (i := 971) (by decide +kernel)) rfl
theorem t_972 : Cond.code yX9_proBehind cX9_proBehind 3 (some .int) ∈ TB := TB_in (List.mem_of_getElem? (i := 972) (by decide +kernel)) rfl
theorem t_973 : Cond.methodLink RX9 54 yX9_contraBehind ∈ TB := TB_in (List.mem_of_getElem? (i := 973) (by decide +kernel)) rfl
theorem t_975 : Cond.instanceMethod yX9_contraBehind ∈ TB := TB_in (List.mem_of_getElem? (i := 975) (by decide +kernel)) rfl
theorem t_976 : Cond.code yX9_contraBehind cX9_contraBehind 3 (some .int) ∈ TB := TB_in (List.mem_of_getElem? (i := 976) (by decide +kernel)) rfl
theorem t_981 : Cond.methodLink RX11 226 yX9_canStillDo ∈ TB := TB_in (List.mem_of_getElem? (i := 981) (by decide +kernel)) rfl
theorem t_982 : Cond.instanceMethod yX9_canStillDo ∈ TB := TB_in (List.mem_of_getElem? (i := 982) (by decide +kernel)) rfl
theorem t_983 : Cond.selects RX9 yX9_canStillDo yX9_canStillDo ∈ TB := TB_in (List.mem_of_getElem? (i := 983) (by decide +kernel)) rfl
theorem t_984 : Cond.code yX9_canStillDo cX9_canStillDo 3 (some .boolean) ∈ TB := TB_in (List.mem_of_getElem? (i := 984) (by decide +kernel)) rfl
theorem t_985 : Cond.methodLink RX11 230 yX9_nearnessBehind ∈ TB := TB_in (List.mem_of_getElem? (i := 985) (by decide +kernel)) rfl
theorem t_986 : Cond.instanceMethod yX9_nearnessBehind ∈ TB := TB_in (List.mem_of_getElem? (i := 986) (by decide +kernel)) rfl
theorem t_987 : Cond.selects RX9 yX9_nearnessBehind yX9_nearnessBehind ∈ TB := TB_in (List.mem_of_getElem? (i := 987) (by decide +kernel)) rfl
theorem t_988 : Cond.code yX9_nearnessBehind cX9_nearnessBehind 3 (some .int) ∈ TB := TB_in (List.mem_of_getElem? (i := 988) (by decide +kernel)) rfl
theorem t_989 : Cond.methodLink RX9 57 yX5_nearness ∈ TB := TB_in (List.mem_of_getElem? (i := 989) (by decide +kernel)) rfl
theorem t_994 : Cond.methodLink RX11 233 yX9_ordersOf ∈ TB := TB_in (List.mem_of_getElem? (i := 994) (by decide +kernel)) rfl
theorem t_995 : Cond.instanceMethod yX9_ordersOf ∈ TB := TB_in (List.mem_of_getElem? (i := 995) (by decide +kernel)) rfl
theorem t_996 : Cond.selects RX9 yX9_ordersOf yX9_ordersOf ∈ TB := TB_in (List.mem_of_getElem? (i := 996) (by decide +kernel)) rfl
theorem t_997 : Cond.code yX9_ordersOf cX9_ordersOf 3 (some .int) ∈ TB := TB_in (List.mem_of_getElem? (i := 997) (by decide +kernel)) rfl
theorem t_1002 : Cond.methodLink RX11 236 yX9_howMany ∈ TB := TB_in (List.mem_of_getElem? (i := 1002) (by decide +kernel)) rfl
theorem t_1003 : Cond.instanceMethod yX9_howMany ∈ TB := TB_in (List.mem_of_getElem? (i := 1003) (by decide +kernel)) rfl
theorem t_1004 : Cond.selects RX9 yX9_howMany yX9_howMany ∈ TB := TB_in (List.mem_of_getElem? (i := 1004) (by decide +kernel)) rfl
theorem t_1005 : Cond.code yX9_howMany cX9_howMany 5 (some .int) ∈ TB := TB_in (List.mem_of_getElem? (i := 1005) (by decide +kernel)) rfl
theorem t_1010 : Cond.methodLink RX11 244 yX3_matchAll ∈ TB := TB_in (List.mem_of_getElem? (i := 1010) (by decide +kernel)) rfl
theorem t_1011 : Cond.instanceMethod yX3_matchAll ∈ TB := TB_in (List.mem_of_getElem? (i := 1011) (by decide +kernel)) rfl
theorem t_1012 : Cond.selects RX3 yX3_matchAll yX3_matchAll ∈ TB := TB_in (List.mem_of_getElem? (i := 1012) (by decide +kernel)) rfl
theorem t_1013 : Cond.code yX3_matchAll cX3_matchAll 2 (some .int) ∈ TB := TB_in (List.mem_of_getElem? (i := 1013) (by decide +kernel)) rfl
theorem t_1014 : Cond.methodLink RX3 33 yX5_clerks ∈ TB := TB_in (List.mem_of_getElem? (i := 1014) (by decide +kernel)) rfl
theorem t_1015 : Cond.methodLink RX3 39 yX3_fillValues ∈ TB := TB_in (List.mem_of_getElem? (i := 1015) (by decide +kernel)) rfl
theorem t_1017 : Cond.instanceMethod yX3_fillValues ∈ TB := TB_in (List.mem_of_getElem? (i := 1017) (by decide +kernel)) rfl
theorem t_1018 : Cond.code yX3_fillValues cX3_fillValues 3 none ∈ TB := TB_in (List.mem_of_getElem? (i := 1018) (by decide +kernel)) rfl
theorem t_1019 : Cond.methodLink RX3 51 yX5_causes ∈ TB := TB_in (List.mem_of_getElem? (i := 1019) (by decide +kernel)) rfl
theorem t_1020 : Cond.methodLink RX3 58 yX9_valueFor ∈ TB := TB_in (List.mem_of_getElem? (i := 1020) (by decide +kernel)) rfl
theorem t_1021 : Cond.instanceMethod yX9_valueFor ∈ TB := TB_in (List.mem_of_getElem? (i := 1021) (by decide +kernel)) rfl
theorem t_1022 : Cond.selects RX9 yX9_valueFor yX9_valueFor ∈ TB := TB_in (List.mem_of_getElem? (i := 1022) (by decide +kernel)) rfl
theorem t_1023 : Cond.code yX9_valueFor cX9_valueFor 4 (some .int) ∈ TB := TB_in (List.mem_of_getElem? (i := 1023) (by decide +kernel)) rfl
theorem t_1024 : Cond.methodLink RX9 74 yX0_isOpenAndSafe ∈ TB := TB_in (List.mem_of_getElem? (i := 1024) (by decide +kernel)) rfl
theorem t_1025 : Cond.instanceMethod yX0_isOpenAndSafe ∈ TB := TB_in (List.mem_of_getElem? (i := 1025) (by decide +kernel)) rfl
theorem t_1026 : Cond.selects RX0 yX0_isOpenAndSafe yX0_isOpenAndSafe ∈ TB := TB_in (List.mem_of_getElem? (i := 1026) (by decide +kernel)) rfl
theorem t_1027 : Cond.code yX0_isOpenAndSafe cX0_isOpenAndSafe 2 (some .boolean) ∈ TB := TB_in (List.mem_of_getElem? (i := 1027) (by decide +kernel)) rfl
theorem t_1028 : Cond.methodLink RX9 78 yX0_ofClerk ∈ TB := TB_in (List.mem_of_getElem? (i := 1028) (by decide +kernel)) rfl
theorem t_1029 : Cond.methodLink RX9 81 yX9_nearestSet ∈ TB := TB_in (List.mem_of_getElem? (i := 1029) (by decide +kernel)) rfl
theorem t_1030 : Cond.methodLink RX9 84 yX9_nearnessBehind ∈ TB := TB_in (List.mem_of_getElem? (i := 1030) (by decide +kernel)) rfl
theorem t_1031 : Cond.methodLink RX3 47 yX3_pickFrom ∈ TB := TB_in (List.mem_of_getElem? (i := 1031) (by decide +kernel)) rfl
theorem t_1033 : Cond.instanceMethod yX3_pickFrom ∈ TB := TB_in (List.mem_of_getElem? (i := 1033) (by decide +kernel)) rfl
theorem t_1034 : Cond.code yX3_pickFrom cX3_pickFrom 6 none ∈ TB := TB_in (List.mem_of_getElem? (i := 1034) (by decide +kernel)) rfl
theorem t_1035 : Cond.methodLink RX3 64 yX3_keepIfMore ∈ TB := TB_in (List.mem_of_getElem? (i := 1035) (by decide +kernel)) rfl
theorem t_1037 : Cond.instanceMethod yX3_keepIfMore ∈ TB := TB_in (List.mem_of_getElem? (i := 1037) (by decide +kernel)) rfl
theorem t_1038 : Cond.code yX3_keepIfMore cX3_keepIfMore 2 none ∈ TB := TB_in (List.mem_of_getElem? (i := 1038) (by decide +kernel)) rfl
theorem t_1039 : Cond.methodLink RX3 73 arraycopyName ∈ TB := TB_in (List.mem_of_getElem? (i := 1039) (by decide +kernel)) rfl
theorem t_1040 : Cond.methodLink RX3 67 yX0_isFree ∈ TB := TB_in (List.mem_of_getElem? (i := 1040) (by decide +kernel)) rfl
theorem t_1045 : Cond.methodLink RX11 247 yX3_causeOf ∈ TB := TB_in (List.mem_of_getElem? (i := 1045) (by decide +kernel)) rfl
theorem t_1046 : Cond.instanceMethod yX3_causeOf ∈ TB := TB_in (List.mem_of_getElem? (i := 1046) (by decide +kernel)) rfl
theorem t_1047 : Cond.selects RX3 yX3_causeOf yX3_causeOf ∈ TB := TB_in (List.mem_of_getElem? (i := 1047) (by decide +kernel)) rfl
theorem t_1048 : Cond.code yX3_causeOf cX3_causeOf 2 (some .int) ∈ TB := TB_in (List.mem_of_getElem? (i := 1048) (by decide +kernel)) rfl
theorem t_1053 : Cond.methodLink RX11 250 yX3_pairAtRest ∈ TB := TB_in (List.mem_of_getElem? (i := 1053) (by decide +kernel)) rfl
theorem t_1054 : Cond.instanceMethod yX3_pairAtRest ∈ TB := TB_in (List.mem_of_getElem? (i := 1054) (by decide +kernel)) rfl
theorem t_1055 : Cond.selects RX3 yX3_pairAtRest yX3_pairAtRest ∈ TB := TB_in (List.mem_of_getElem? (i := 1055) (by decide +kernel)) rfl
theorem t_1056 : Cond.code yX3_pairAtRest cX3_pairAtRest 5 (some .int) ∈ TB := TB_in (List.mem_of_getElem? (i := 1056) (by decide +kernel)) rfl
theorem t_1057 : Cond.methodLink RX3 54 yX3_isAtRest ∈ TB := TB_in (List.mem_of_getElem? (i := 1057) (by decide +kernel)) rfl
theorem t_1059 : Cond.instanceMethod yX3_isAtRest ∈ TB := TB_in (List.mem_of_getElem? (i := 1059) (by decide +kernel)) rfl
theorem t_1060 : Cond.code yX3_isAtRest cX3_isAtRest 3 (some .boolean) ∈ TB := TB_in (List.mem_of_getElem? (i := 1060) (by decide +kernel)) rfl
theorem t_1061 : Cond.methodLink RX3 79 yX0_isOpenAndSafe ∈ TB := TB_in (List.mem_of_getElem? (i := 1061) (by decide +kernel)) rfl
theorem t_1062 : Cond.methodLink RX3 82 yX3_isBestAgainst ∈ TB := TB_in (List.mem_of_getElem? (i := 1062) (by decide +kernel)) rfl
theorem t_1064 : Cond.instanceMethod yX3_isBestAgainst ∈ TB := TB_in (List.mem_of_getElem? (i := 1064) (by decide +kernel)) rfl
theorem t_1065 : Cond.code yX3_isBestAgainst cX3_isBestAgainst 4 (some .boolean) ∈ TB := TB_in (List.mem_of_getElem? (i := 1065) (by decide +kernel)) rfl
theorem t_1066 : Cond.methodLink RX3 85 yX3_gainOf ∈ TB := TB_in (List.mem_of_getElem? (i := 1066) (by decide +kernel)) rfl
theorem t_1068 : Cond.instanceMethod yX3_gainOf ∈ TB := TB_in (List.mem_of_getElem? (i := 1068) (by decide +kernel)) rfl
theorem t_1069 : Cond.code yX3_gainOf cX3_gainOf 3 (some .int) ∈ TB := TB_in (List.mem_of_getElem? (i := 1069) (by decide +kernel)) rfl
theorem t_1074 : Cond.methodLink RX11 253 yX5_hasRumour ∈ TB := TB_in (List.mem_of_getElem? (i := 1074) (by decide +kernel)) rfl
theorem t_1075 : Cond.methodLink RX11 256 yX9_partingSet ∈ TB := TB_in (List.mem_of_getElem? (i := 1075) (by decide +kernel)) rfl
theorem t_1076 : Cond.instanceMethod yX9_partingSet ∈ TB := TB_in (List.mem_of_getElem? (i := 1076) (by decide +kernel)) rfl
theorem t_1077 : Cond.selects RX9 yX9_partingSet yX9_partingSet ∈ TB := TB_in (List.mem_of_getElem? (i := 1077) (by decide +kernel)) rfl
theorem t_1078 : Cond.code yX9_partingSet cX9_partingSet 7 (some .int) ∈ TB := TB_in (List.mem_of_getElem? (i := 1078) (by decide +kernel)) rfl
theorem t_1079 : Cond.methodLink RX9 87 yX9_canStillDo ∈ TB := TB_in (List.mem_of_getElem? (i := 1079) (by decide +kernel)) rfl
theorem t_1080 : Cond.methodLink RX9 91 yX9_isNotSmaller ∈ TB := TB_in (List.mem_of_getElem? (i := 1080) (by decide +kernel)) rfl
theorem t_1082 : Cond.instanceMethod yX9_isNotSmaller ∈ TB := TB_in (List.mem_of_getElem? (i := 1082) (by decide +kernel)) rfl
theorem t_1083 : Cond.code yX9_isNotSmaller cX9_isNotSmaller 3 (some .boolean) ∈ TB := TB_in (List.mem_of_getElem? (i := 1083) (by decide +kernel)) rfl
theorem t_1084 : Cond.methodLink RX9 94 yX5_ofRumour ∈ TB := TB_in (List.mem_of_getElem? (i := 1084) (by decide +kernel)) rfl
theorem t_1085 : Cond.instanceMethod yX5_ofRumour ∈ TB := TB_in (List.mem_of_getElem? (i := 1085) (by decide +kernel)) rfl
theorem t_1086 : Cond.selects RX5 yX5_ofRumour yX5_ofRumour ∈ TB := TB_in (List.mem_of_getElem? (i := 1086) (by decide +kernel)) rfl
theorem t_1087 : Cond.code yX5_ofRumour cX5_ofRumour 3 (some .int) ∈ TB := TB_in (List.mem_of_getElem? (i := 1087) (by decide +kernel)) rfl
theorem t_1088 : Cond.methodLink RX9 100 yX9_isSafeBehind ∈ TB := TB_in (List.mem_of_getElem? (i := 1088) (by decide +kernel)) rfl
theorem t_1090 : Cond.instanceMethod yX9_isSafeBehind ∈ TB := TB_in (List.mem_of_getElem? (i := 1090) (by decide +kernel)) rfl
theorem t_1091 : Cond.code yX9_isSafeBehind cX9_isSafeBehind 3 (some .boolean) ∈ TB := TB_in (List.mem_of_getElem? (i := 1091) (by decide +kernel)) rfl
theorem t_1096 : Cond.methodLink RX11 259 yX9_plotSet ∈ TB := TB_in (List.mem_of_getElem? (i := 1096) (by decide +kernel)) rfl
theorem t_1097 : Cond.instanceMethod yX9_plotSet ∈ TB := TB_in (List.mem_of_getElem? (i := 1097) (by decide +kernel)) rfl
theorem t_1098 : Cond.selects RX9 yX9_plotSet yX9_plotSet ∈ TB := TB_in (List.mem_of_getElem? (i := 1098) (by decide +kernel)) rfl
theorem t_1099 : Cond.code yX9_plotSet cX9_plotSet 4 (some .int) ∈ TB := TB_in (List.mem_of_getElem? (i := 1099) (by decide +kernel)) rfl
theorem t_1100 : Cond.methodLink RX9 103 yX9_isLighter ∈ TB := TB_in (List.mem_of_getElem? (i := 1100) (by decide +kernel)) rfl
theorem t_1102 : Cond.instanceMethod yX9_isLighter ∈ TB := TB_in (List.mem_of_getElem? (i := 1102) (by decide +kernel)) rfl
theorem t_1103 : Cond.code yX9_isLighter cX9_isLighter 5 (some .boolean) ∈ TB := TB_in (List.mem_of_getElem? (i := 1103) (by decide +kernel)) rfl
theorem t_1108 : Cond.methodLink RX11 264 yX6_coinBySchool ∈ TB := TB_in (List.mem_of_getElem? (i := 1108) (by decide +kernel)) rfl
theorem t_1109 : Cond.instanceMethod yX6_coinBySchool ∈ TB := TB_in (List.mem_of_getElem? (i := 1109) (by decide +kernel)) rfl
theorem t_1110 : Cond.selects RX6 yX6_coinBySchool yX6_coinBySchool ∈ TB := TB_in (List.mem_of_getElem? (i := 1110) (by decide +kernel)) rfl
theorem t_1111 : Cond.code yX6_coinBySchool cX6_coinBySchool 6 (some .int) ∈ TB := TB_in (List.mem_of_getElem? (i := 1111) (by decide +kernel)) rfl
theorem t_1112 : Cond.methodLink RX6 27 yX0_saveTo ∈ TB := TB_in (List.mem_of_getElem? (i := 1112) (by decide +kernel)) rfl
theorem t_1113 : Cond.instanceMethod yX0_saveTo ∈ TB := TB_in (List.mem_of_getElem? (i := 1113) (by decide +kernel)) rfl
theorem t_1114 : Cond.selects RX0 yX0_saveTo yX0_saveTo ∈ TB := TB_in (List.mem_of_getElem? (i := 1114) (by decide +kernel)) rfl
theorem t_1115 : Cond.code yX0_saveTo cX0_saveTo 2 none ∈ TB := TB_in (List.mem_of_getElem? (i := 1115) (by decide +kernel)) rfl
theorem t_1116 : Cond.methodLink RX6 33 yX0_weeksLeft ∈ TB := TB_in (List.mem_of_getElem? (i := 1116) (by decide +kernel)) rfl
theorem t_1117 : Cond.methodLink RX6 37 Lib.Math.min.name ∈ TB := TB_in (List.mem_of_getElem? (i := 1117) (by decide +kernel)) rfl
theorem t_1118 : Cond.methodLink RX6 43 yX5_clerks ∈ TB := TB_in (List.mem_of_getElem? (i := 1118) (by decide +kernel)) rfl
theorem t_1119 : Cond.methodLink RX6 48 yX6_followSchool ∈ TB := TB_in (List.mem_of_getElem? (i := 1119) (by decide +kernel)) rfl
theorem t_1121 : Cond.instanceMethod yX6_followSchool ∈ TB := TB_in (List.mem_of_getElem? (i := 1121) (by decide +kernel)) rfl
theorem t_1122 : Cond.code yX6_followSchool cX6_followSchool 5 none ∈ TB := TB_in (List.mem_of_getElem? (i := 1122) (by decide +kernel)) rfl
theorem t_1123 : Cond.methodLink RX6 70 yX0_isFree ∈ TB := TB_in (List.mem_of_getElem? (i := 1123) (by decide +kernel)) rfl
theorem t_1124 : Cond.methodLink RX6 74 yX6_takeFirst ∈ TB := TB_in (List.mem_of_getElem? (i := 1124) (by decide +kernel)) rfl
theorem t_1126 : Cond.instanceMethod yX6_takeFirst ∈ TB := TB_in (List.mem_of_getElem? (i := 1126) (by decide +kernel)) rfl
theorem t_1127 : Cond.code yX6_takeFirst cX6_takeFirst 3 none ∈ TB := TB_in (List.mem_of_getElem? (i := 1127) (by decide +kernel)) rfl
theorem t_1128 : Cond.methodLink RX6 100 yX5_causes ∈ TB := TB_in (List.mem_of_getElem? (i := 1128) (by decide +kernel)) rfl
theorem t_1129 : Cond.methodLink RX6 103 yX0_whyNotTake ∈ TB := TB_in (List.mem_of_getElem? (i := 1129) (by decide +kernel)) rfl
theorem t_1130 : Cond.methodLink RX6 106 yX0_doTake ∈ TB := TB_in (List.mem_of_getElem? (i := 1130) (by decide +kernel)) rfl
theorem t_1131 : Cond.methodLink RX6 77 yX0_ofClerk ∈ TB := TB_in (List.mem_of_getElem? (i := 1131) (by decide +kernel)) rfl
theorem t_1132 : Cond.methodLink RX6 80 yX6_dropIfCan ∈ TB := TB_in (List.mem_of_getElem? (i := 1132) (by decide +kernel)) rfl
theorem t_1134 : Cond.instanceMethod yX6_dropIfCan ∈ TB := TB_in (List.mem_of_getElem? (i := 1134) (by decide +kernel)) rfl
theorem t_1135 : Cond.code yX6_dropIfCan cX6_dropIfCan 2 none ∈ TB := TB_in (List.mem_of_getElem? (i := 1135) (by decide +kernel)) rfl
theorem t_1136 : Cond.methodLink RX6 118 yX0_whyNotDrop ∈ TB := TB_in (List.mem_of_getElem? (i := 1136) (by decide +kernel)) rfl
theorem t_1137 : Cond.methodLink RX6 121 yX0_doDrop ∈ TB := TB_in (List.mem_of_getElem? (i := 1137) (by decide +kernel)) rfl
theorem t_1138 : Cond.methodLink RX6 83 yX9_nearestSet ∈ TB := TB_in (List.mem_of_getElem? (i := 1138) (by decide +kernel)) rfl
theorem t_1139 : Cond.methodLink RX6 88 yJ6_numberOfTrailingZeros_0f7a4 ∈ TB := TB_in (List.mem_of_getElem? (i := 1139) (by decide +kernel)) rfl
theorem t_1140 : Cond.static yJ6_numberOfTrailingZeros_0f7a4 ∈ TB := TB_in (List.mem_of_getElem? (i := 1140) (by decide +kernel)) rfl
theorem t_1141 : Cond.code yJ6_numberOfTrailingZeros_0f7a4 cJ6_numberOfTrailingZeros_0f7a4 2 (some .int) ∈ TB := TB_in (List.mem_of_getElem? (i := 1141) (by decide +kernel)) rfl
theorem t_1142 : Cond.constant RJ6 264 65536 ∈ TB := TB_in (List.mem_of_getElem? (i := 1142) (by decide +kernel)) rfl
theorem t_1143 : Cond.methodLink RX6 93 yX6_actIfCan ∈ TB := TB_in (List.mem_of_getElem? (i := 1143) (by decide +kernel)) rfl
theorem t_1145 : Cond.instanceMethod yX6_actIfCan ∈ TB := TB_in (List.mem_of_getElem? (i := 1145) (by decide +kernel)) rfl
theorem t_1146 : Cond.code yX6_actIfCan cX6_actIfCan 3 (some .boolean) ∈ TB := TB_in (List.mem_of_getElem? (i := 1146) (by decide +kernel)) rfl
theorem t_1147 : Cond.methodLink RX6 112 yX0_whyNotAct ∈ TB := TB_in (List.mem_of_getElem? (i := 1147) (by decide +kernel)) rfl
theorem t_1148 : Cond.methodLink RX6 115 yX0_doAct ∈ TB := TB_in (List.mem_of_getElem? (i := 1148) (by decide +kernel)) rfl
theorem t_1149 : Cond.methodLink RX6 97 yX6_actFirst ∈ TB := TB_in (List.mem_of_getElem? (i := 1149) (by decide +kernel)) rfl
theorem t_1151 : Cond.instanceMethod yX6_actFirst ∈ TB := TB_in (List.mem_of_getElem? (i := 1151) (by decide +kernel)) rfl
theorem t_1152 : Cond.code yX6_actFirst cX6_actFirst 3 (some .boolean) ∈ TB := TB_in (List.mem_of_getElem? (i := 1152) (by decide +kernel)) rfl
theorem t_1153 : Cond.methodLink RX6 109 yX5_deeds ∈ TB := TB_in (List.mem_of_getElem? (i := 1153) (by decide +kernel)) rfl
theorem t_1154 : Cond.methodLink RX6 52 yX0_passWeek ∈ TB := TB_in (List.mem_of_getElem? (i := 1154) (by decide +kernel)) rfl
theorem t_1155 : Cond.methodLink RX6 55 yX0_ofNow ∈ TB := TB_in (List.mem_of_getElem? (i := 1155) (by decide +kernel)) rfl
theorem t_1156 : Cond.methodLink RX6 59 yX0_loadFrom ∈ TB := TB_in (List.mem_of_getElem? (i := 1156) (by decide +kernel)) rfl
theorem t_1165 : Cond.methodLink RX11 267 yX8_at ∈ TB := TB_in (List.mem_of_getElem? (i := 1165) (by decide +kernel)) rfl
theorem t_1166 : Cond.methodLink RX11 270 yX9_setsMaking ∈ TB := TB_in (List.mem_of_getElem? (i := 1166) (by decide +kernel)) rfl
theorem t_1167 : Cond.instanceMethod yX9_setsMaking ∈ TB := TB_in (List.mem_of_getElem? (i := 1167) (by decide +kernel)) rfl
theorem t_1168 : Cond.selects RX9 yX9_setsMaking yX9_setsMaking ∈ TB := TB_in (List.mem_of_getElem? (i := 1168) (by decide +kernel)) rfl
theorem t_1169 : Cond.code yX9_setsMaking cX9_setsMaking 6 (some .int) ∈ TB := TB_in (List.mem_of_getElem? (i := 1169) (by decide +kernel)) rfl
theorem t_1170 : Cond.methodLink RX9 106 yX9_isMaking ∈ TB := TB_in (List.mem_of_getElem? (i := 1170) (by decide +kernel)) rfl
theorem t_1172 : Cond.instanceMethod yX9_isMaking ∈ TB := TB_in (List.mem_of_getElem? (i := 1172) (by decide +kernel)) rfl
theorem t_1173 : Cond.code yX9_isMaking cX9_isMaking 5 (some .boolean) ∈ TB := TB_in (List.mem_of_getElem? (i := 1173) (by decide +kernel)) rfl
theorem t_1174 : Cond.methodLink RX9 110 yX5_ofCause ∈ TB := TB_in (List.mem_of_getElem? (i := 1174) (by decide +kernel)) rfl
theorem t_1175 : Cond.methodLink RX11 273 yX9_commonDeeds ∈ TB := TB_in (List.mem_of_getElem? (i := 1175) (by decide +kernel)) rfl
theorem t_1176 : Cond.instanceMethod yX9_commonDeeds ∈ TB := TB_in (List.mem_of_getElem? (i := 1176) (by decide +kernel)) rfl
theorem t_1177 : Cond.selects RX9 yX9_commonDeeds yX9_commonDeeds ∈ TB := TB_in (List.mem_of_getElem? (i := 1177) (by decide +kernel)) rfl
theorem t_1178 : Cond.code yX9_commonDeeds cX9_commonDeeds 6 (some .int) ∈ TB := TB_in (List.mem_of_getElem? (i := 1178) (by decide +kernel)) rfl
theorem t_1187 : Cond.methodLink RX11 276 yX0_payFor ∈ TB := TB_in (List.mem_of_getElem? (i := 1187) (by decide +kernel)) rfl
theorem t_1192 : Cond.methodLink RX11 161 yX0_ofCause ∈ TB := TB_in (List.mem_of_getElem? (i := 1192) (by decide +kernel)) rfl
theorem t_1197 : Cond.methodLink RX11 279 yX5_causes ∈ TB := TB_in (List.mem_of_getElem? (i := 1197) (by decide +kernel)) rfl
theorem t_1198 : Cond.methodLink RX11 282 yX0_isSafe ∈ TB := TB_in (List.mem_of_getElem? (i := 1198) (by decide +kernel)) rfl
theorem t_1199 : Cond.methodLink RX11 157 yX0_nearness ∈ TB := TB_in (List.mem_of_getElem? (i := 1199) (by decide +kernel)) rfl
theorem t_1204 : Cond.methodLink RX11 285 yX5_clerks ∈ TB := TB_in (List.mem_of_getElem? (i := 1204) (by decide +kernel)) rfl
theorem t_1205 : Cond.methodLink RX11 288 yX6_passDrawn ∈ TB := TB_in (List.mem_of_getElem? (i := 1205) (by decide +kernel)) rfl
theorem t_1206 : Cond.instanceMethod yX6_passDrawn ∈ TB := TB_in (List.mem_of_getElem? (i := 1206) (by decide +kernel)) rfl
theorem t_1207 : Cond.selects RX6 yX6_passDrawn yX6_passDrawn ∈ TB := TB_in (List.mem_of_getElem? (i := 1207) (by decide +kernel)) rfl
theorem t_1208 : Cond.code yX6_passDrawn cX6_passDrawn 6 (some .int) ∈ TB := TB_in (List.mem_of_getElem? (i := 1208) (by decide +kernel)) rfl
theorem t_1209 : Cond.methodLink RX6 66 yX6_followDraw ∈ TB := TB_in (List.mem_of_getElem? (i := 1209) (by decide +kernel)) rfl
theorem t_1211 : Cond.instanceMethod yX6_followDraw ∈ TB := TB_in (List.mem_of_getElem? (i := 1211) (by decide +kernel)) rfl
theorem t_1212 : Cond.code yX6_followDraw cX6_followDraw 4 none ∈ TB := TB_in (List.mem_of_getElem? (i := 1212) (by decide +kernel)) rfl
theorem t_1213 : Cond.methodLink RX6 124 yX6_nextDraw ∈ TB := TB_in (List.mem_of_getElem? (i := 1213) (by decide +kernel)) rfl
theorem t_1215 : Cond.instanceMethod yX6_nextDraw ∈ TB := TB_in (List.mem_of_getElem? (i := 1215) (by decide +kernel)) rfl
theorem t_1216 : Cond.code yX6_nextDraw cX6_nextDraw 2 (some .int) ∈ TB := TB_in (List.mem_of_getElem? (i := 1216) (by decide +kernel)) rfl
theorem t_1217 : Cond.constant RX6 127 1103515245 ∈ TB := TB_in (List.mem_of_getElem? (i := 1217) (by decide +kernel)) rfl
theorem t_1222 : Cond.methodLink RX11 291 yX0_saveTo ∈ TB := TB_in (List.mem_of_getElem? (i := 1222) (by decide +kernel)) rfl
theorem t_1223 : Cond.methodLink RX11 295 yX0_loadFrom ∈ TB := TB_in (List.mem_of_getElem? (i := 1223) (by decide +kernel)) rfl
theorem t_1228 : Cond.methodLink RX11 298 yX2_read ∈ TB := TB_in (List.mem_of_getElem? (i := 1228) (by decide +kernel)) rfl
theorem t_1229 : Cond.instanceMethod yX2_read ∈ TB := TB_in (List.mem_of_getElem? (i := 1229) (by decide +kernel)) rfl
theorem t_1230 : Cond.selects RX2 yX2_read yX2_read ∈ TB := TB_in (List.mem_of_getElem? (i := 1230) (by decide +kernel)) rfl
theorem t_1231 : Cond.code yX2_read cX2_read 2 (some .boolean) ∈ TB := TB_in (List.mem_of_getElem? (i := 1231) (by decide +kernel)) rfl
theorem t_1232 : Cond.methodLink RX2 36 yX8_begin ∈ TB := TB_in (List.mem_of_getElem? (i := 1232) (by decide +kernel)) rfl
theorem t_1233 : Cond.methodLink RX2 42 yX8_isAtEnd ∈ TB := TB_in (List.mem_of_getElem? (i := 1233) (by decide +kernel)) rfl
theorem t_1234 : Cond.methodLink RX2 46 yX2_readLine ∈ TB := TB_in (List.mem_of_getElem? (i := 1234) (by decide +kernel)) rfl
theorem t_1236 : Cond.instanceMethod yX2_readLine ∈ TB := TB_in (List.mem_of_getElem? (i := 1236) (by decide +kernel)) rfl
theorem t_1237 : Cond.code yX2_readLine cX2_readLine 3 (some .boolean) ∈ TB := TB_in (List.mem_of_getElem? (i := 1237) (by decide +kernel)) rfl
theorem t_1238 : Cond.fieldLink RX2 61 "LostCauses$Word" "WEEK" "LLostCauses$Word;" ∈ TB := TB_in (List.mem_of_getElem? (i := 1238) (by decide +kernel)) rfl
theorem t_1240 : Cond.methodLink RX2 67 yX8_isWord ∈ TB := TB_in (List.mem_of_getElem? (i := 1240) (by decide +kernel)) rfl
theorem t_1241 : Cond.methodLink RX2 71 yX8_isName ∈ TB := TB_in (List.mem_of_getElem? (i := 1241) (by decide +kernel)) rfl
theorem t_1242 : Cond.methodLink RX2 74 yX8_fail ∈ TB := TB_in (List.mem_of_getElem? (i := 1242) (by decide +kernel)) rfl
theorem t_1243 : Cond.methodLink RX2 77 yX8_letters ∈ TB := TB_in (List.mem_of_getElem? (i := 1243) (by decide +kernel)) rfl
theorem t_1244 : Cond.methodLink RX2 81 yX5_clerkNamed ∈ TB := TB_in (List.mem_of_getElem? (i := 1244) (by decide +kernel)) rfl
theorem t_1245 : Cond.methodLink RX2 87 yX8_advance ∈ TB := TB_in (List.mem_of_getElem? (i := 1245) (by decide +kernel)) rfl
theorem t_1246 : Cond.methodLink RX2 90 yX2_readWeeks ∈ TB := TB_in (List.mem_of_getElem? (i := 1246) (by decide +kernel)) rfl
theorem t_1248 : Cond.instanceMethod yX2_readWeeks ∈ TB := TB_in (List.mem_of_getElem? (i := 1248) (by decide +kernel)) rfl
theorem t_1249 : Cond.code yX2_readWeeks cX2_readWeeks 1 (some .boolean) ∈ TB := TB_in (List.mem_of_getElem? (i := 1249) (by decide +kernel)) rfl
theorem t_1250 : Cond.methodLink RX2 96 yX8_takeNumber ∈ TB := TB_in (List.mem_of_getElem? (i := 1250) (by decide +kernel)) rfl
theorem t_1251 : Cond.methodLink RX2 100 yX8_taken ∈ TB := TB_in (List.mem_of_getElem? (i := 1251) (by decide +kernel)) rfl
theorem t_1252 : Cond.methodLink RX2 93 yX2_readVerb ∈ TB := TB_in (List.mem_of_getElem? (i := 1252) (by decide +kernel)) rfl
theorem t_1254 : Cond.instanceMethod yX2_readVerb ∈ TB := TB_in (List.mem_of_getElem? (i := 1254) (by decide +kernel)) rfl
theorem t_1255 : Cond.code yX2_readVerb cX2_readVerb 5 (some .boolean) ∈ TB := TB_in (List.mem_of_getElem? (i := 1255) (by decide +kernel)) rfl
theorem t_1256 : Cond.fieldLink RX2 104 "LostCauses$Word" "DROPS" "LLostCauses$Word;" ∈ TB := TB_in (List.mem_of_getElem? (i := 1256) (by decide +kernel)) rfl
theorem t_1258 : Cond.methodLink RX2 107 yX8_takeWord ∈ TB := TB_in (List.mem_of_getElem? (i := 1258) (by decide +kernel)) rfl
theorem t_1259 : Cond.instanceMethod yX8_takeWord ∈ TB := TB_in (List.mem_of_getElem? (i := 1259) (by decide +kernel)) rfl
theorem t_1260 : Cond.selects RX8 yX8_takeWord yX8_takeWord ∈ TB := TB_in (List.mem_of_getElem? (i := 1260) (by decide +kernel)) rfl
theorem t_1261 : Cond.code yX8_takeWord cX8_takeWord 2 (some .boolean) ∈ TB := TB_in (List.mem_of_getElem? (i := 1261) (by decide +kernel)) rfl
theorem t_1262 : Cond.methodLink RX8 63 yX8_isWord ∈ TB := TB_in (List.mem_of_getElem? (i := 1262) (by decide +kernel)) rfl
theorem t_1263 : Cond.fieldLink RX2 110 "LostCauses$Word" "TAKES" "LLostCauses$Word;" ∈ TB := TB_in (List.mem_of_getElem? (i := 1263) (by decide +kernel)) rfl
theorem t_1265 : Cond.fieldLink RX2 113 "LostCauses$Word" "DOES" "LLostCauses$Word;" ∈ TB := TB_in (List.mem_of_getElem? (i := 1265) (by decide +kernel)) rfl
theorem t_1267 : Cond.methodLink RX2 116 yX5_causeNamed ∈ TB := TB_in (List.mem_of_getElem? (i := 1267) (by decide +kernel)) rfl
theorem t_1268 : Cond.methodLink RX2 119 yX5_deedNamed ∈ TB := TB_in (List.mem_of_getElem? (i := 1268) (by decide +kernel)) rfl
theorem t_1269 : Cond.methodLink RX2 49 yX8_takeSign ∈ TB := TB_in (List.mem_of_getElem? (i := 1269) (by decide +kernel)) rfl
theorem t_1270 : Cond.methodLink RX11 301 yX2_live ∈ TB := TB_in (List.mem_of_getElem? (i := 1270) (by decide +kernel)) rfl
theorem t_1271 : Cond.instanceMethod yX2_live ∈ TB := TB_in (List.mem_of_getElem? (i := 1271) (by decide +kernel)) rfl
theorem t_1272 : Cond.selects RX2 yX2_live yX2_live ∈ TB := TB_in (List.mem_of_getElem? (i := 1272) (by decide +kernel)) rfl
theorem t_1273 : Cond.code yX2_live cX2_live 3 (some .int) ∈ TB := TB_in (List.mem_of_getElem? (i := 1273) (by decide +kernel)) rfl
theorem t_1274 : Cond.methodLink RX2 53 yX2_whyNot ∈ TB := TB_in (List.mem_of_getElem? (i := 1274) (by decide +kernel)) rfl
theorem t_1276 : Cond.instanceMethod yX2_whyNot ∈ TB := TB_in (List.mem_of_getElem? (i := 1276) (by decide +kernel)) rfl
theorem t_1277 : Cond.code yX2_whyNot cX2_whyNot 5 (some .int) ∈ TB := TB_in (List.mem_of_getElem? (i := 1277) (by decide +kernel)) rfl
theorem t_1278 : Cond.methodLink RX2 122 yX0_weeksLeft ∈ TB := TB_in (List.mem_of_getElem? (i := 1278) (by decide +kernel)) rfl
theorem t_1279 : Cond.methodLink RX2 127 yX0_whyNotTake ∈ TB := TB_in (List.mem_of_getElem? (i := 1279) (by decide +kernel)) rfl
theorem t_1280 : Cond.methodLink RX2 131 yX0_whyNotAct ∈ TB := TB_in (List.mem_of_getElem? (i := 1280) (by decide +kernel)) rfl
theorem t_1281 : Cond.methodLink RX2 134 yX0_whyNotDrop ∈ TB := TB_in (List.mem_of_getElem? (i := 1281) (by decide +kernel)) rfl
theorem t_1282 : Cond.methodLink RX2 57 yX2_liveLine ∈ TB := TB_in (List.mem_of_getElem? (i := 1282) (by decide +kernel)) rfl
theorem t_1284 : Cond.instanceMethod yX2_liveLine ∈ TB := TB_in (List.mem_of_getElem? (i := 1284) (by decide +kernel)) rfl
theorem t_1285 : Cond.code yX2_liveLine cX2_liveLine 4 none ∈ TB := TB_in (List.mem_of_getElem? (i := 1285) (by decide +kernel)) rfl
theorem t_1286 : Cond.methodLink RX2 138 yX0_passWeeks ∈ TB := TB_in (List.mem_of_getElem? (i := 1286) (by decide +kernel)) rfl
theorem t_1287 : Cond.methodLink RX2 141 yX0_doTake ∈ TB := TB_in (List.mem_of_getElem? (i := 1287) (by decide +kernel)) rfl
theorem t_1288 : Cond.methodLink RX2 145 yX0_doAct ∈ TB := TB_in (List.mem_of_getElem? (i := 1288) (by decide +kernel)) rfl
theorem t_1289 : Cond.methodLink RX2 148 yX0_doDrop ∈ TB := TB_in (List.mem_of_getElem? (i := 1289) (by decide +kernel)) rfl
theorem t_1290 : Cond.methodLink RX11 305 yX2_whyWrong ∈ TB := TB_in (List.mem_of_getElem? (i := 1290) (by decide +kernel)) rfl
theorem t_1291 : Cond.instanceMethod yX2_whyWrong ∈ TB := TB_in (List.mem_of_getElem? (i := 1291) (by decide +kernel)) rfl
theorem t_1292 : Cond.selects RX2 yX2_whyWrong yX2_whyWrong ∈ TB := TB_in (List.mem_of_getElem? (i := 1292) (by decide +kernel)) rfl
theorem t_1293 : Cond.code yX2_whyWrong cX2_whyWrong 1 (some .int) ∈ TB := TB_in (List.mem_of_getElem? (i := 1293) (by decide +kernel)) rfl
theorem t_1294 : Cond.methodLink RX11 308 yX0_rememberRow ∈ TB := TB_in (List.mem_of_getElem? (i := 1294) (by decide +kernel)) rfl
theorem t_1295 : Cond.methodLink RX11 311 yX2_size ∈ TB := TB_in (List.mem_of_getElem? (i := 1295) (by decide +kernel)) rfl
theorem t_1296 : Cond.instanceMethod yX2_size ∈ TB := TB_in (List.mem_of_getElem? (i := 1296) (by decide +kernel)) rfl
theorem t_1297 : Cond.selects RX2 yX2_size yX2_size ∈ TB := TB_in (List.mem_of_getElem? (i := 1297) (by decide +kernel)) rfl
theorem t_1298 : Cond.code yX2_size cX2_size 1 (some .int) ∈ TB := TB_in (List.mem_of_getElem? (i := 1298) (by decide +kernel)) rfl
theorem t_1307 : Cond.methodLink RX11 314 yX7_read ∈ TB := TB_in (List.mem_of_getElem? (i := 1307) (by decide +kernel)) rfl
theorem t_1308 : Cond.instanceMethod yX7_read ∈ TB := TB_in (List.mem_of_getElem? (i := 1308) (by decide +kernel)) rfl
theorem t_1309 : Cond.selects RX7 yX7_read yX7_read ∈ TB := TB_in (List.mem_of_getElem? (i := 1309) (by decide +kernel)) rfl
theorem t_1310 : Cond.code yX7_read cX7_read 3 (some .int) ∈ TB := TB_in (List.mem_of_getElem? (i := 1310) (by decide +kernel)) rfl
theorem t_1311 : Cond.methodLink RX7 34 yX8_begin ∈ TB := TB_in (List.mem_of_getElem? (i := 1311) (by decide +kernel)) rfl
theorem t_1312 : Cond.methodLink RX7 40 yX7_readCond ∈ TB := TB_in (List.mem_of_getElem? (i := 1312) (by decide +kernel)) rfl
theorem t_1314 : Cond.instanceMethod yX7_readCond ∈ TB := TB_in (List.mem_of_getElem? (i := 1314) (by decide +kernel)) rfl
theorem t_1315 : Cond.code yX7_readCond cX7_readCond 7 (some .boolean) ∈ TB := TB_in (List.mem_of_getElem? (i := 1315) (by decide +kernel)) rfl
theorem t_1316 : Cond.methodLink RX7 70 yX7_readOne ∈ TB := TB_in (List.mem_of_getElem? (i := 1316) (by decide +kernel)) rfl
theorem t_1318 : Cond.instanceMethod yX7_readOne ∈ TB := TB_in (List.mem_of_getElem? (i := 1318) (by decide +kernel)) rfl
theorem t_1319 : Cond.code yX7_readOne cX7_readOne 6 (some .boolean) ∈ TB := TB_in (List.mem_of_getElem? (i := 1319) (by decide +kernel)) rfl
theorem t_1320 : Cond.methodLink RX7 90 yX7_stepHere ∈ TB := TB_in (List.mem_of_getElem? (i := 1320) (by decide +kernel)) rfl
theorem t_1321 : Cond.static yX7_stepHere ∈ TB := TB_in (List.mem_of_getElem? (i := 1321) (by decide +kernel)) rfl
theorem t_1322 : Cond.code yX7_stepHere cX7_stepHere 1 (some .int) ∈ TB := TB_in (List.mem_of_getElem? (i := 1322) (by decide +kernel)) rfl
theorem t_1323 : Cond.methodLink RX7 124 yX8_isSign ∈ TB := TB_in (List.mem_of_getElem? (i := 1323) (by decide +kernel)) rfl
theorem t_1324 : Cond.instanceMethod yX8_isSign ∈ TB := TB_in (List.mem_of_getElem? (i := 1324) (by decide +kernel)) rfl
theorem t_1325 : Cond.selects RX8 yX8_isSign yX8_isSign ∈ TB := TB_in (List.mem_of_getElem? (i := 1325) (by decide +kernel)) rfl
theorem t_1326 : Cond.code yX8_isSign cX8_isSign 2 (some .boolean) ∈ TB := TB_in (List.mem_of_getElem? (i := 1326) (by decide +kernel)) rfl
theorem t_1327 : Cond.fieldLink RX7 134 "LostCauses$Word" "NOT" "LLostCauses$Word;" ∈ TB := TB_in (List.mem_of_getElem? (i := 1327) (by decide +kernel)) rfl
theorem t_1329 : Cond.methodLink RX7 137 yX8_isWord ∈ TB := TB_in (List.mem_of_getElem? (i := 1329) (by decide +kernel)) rfl
theorem t_1330 : Cond.fieldLink RX7 140 "LostCauses$Word" "HAD" "LLostCauses$Word;" ∈ TB := TB_in (List.mem_of_getElem? (i := 1330) (by decide +kernel)) rfl
theorem t_1332 : Cond.fieldLink RX7 143 "LostCauses$Word" "NEAR" "LLostCauses$Word;" ∈ TB := TB_in (List.mem_of_getElem? (i := 1332) (by decide +kernel)) rfl
theorem t_1334 : Cond.fieldLink RX7 146 "LostCauses$Word" "PURSE" "LLostCauses$Word;" ∈ TB := TB_in (List.mem_of_getElem? (i := 1334) (by decide +kernel)) rfl
theorem t_1336 : Cond.fieldLink RX7 149 "LostCauses$Word" "BELIEF" "LLostCauses$Word;" ∈ TB := TB_in (List.mem_of_getElem? (i := 1336) (by decide +kernel)) rfl
theorem t_1338 : Cond.fieldLink RX7 152 "LostCauses$Word" "NUMBER" "LLostCauses$Word;" ∈ TB := TB_in (List.mem_of_getElem? (i := 1338) (by decide +kernel)) rfl
theorem t_1340 : Cond.methodLink RX7 94 yX7_stateHere ∈ TB := TB_in (List.mem_of_getElem? (i := 1340) (by decide +kernel)) rfl
theorem t_1341 : Cond.static yX7_stateHere ∈ TB := TB_in (List.mem_of_getElem? (i := 1341) (by decide +kernel)) rfl
theorem t_1342 : Cond.code yX7_stateHere cX7_stateHere 1 (some .int) ∈ TB := TB_in (List.mem_of_getElem? (i := 1342) (by decide +kernel)) rfl
theorem t_1343 : Cond.fieldLink RX7 155 "LostCauses$Word" "OPEN" "LLostCauses$Word;" ∈ TB := TB_in (List.mem_of_getElem? (i := 1343) (by decide +kernel)) rfl
theorem t_1345 : Cond.fieldLink RX7 158 "LostCauses$Word" "TAKEN" "LLostCauses$Word;" ∈ TB := TB_in (List.mem_of_getElem? (i := 1345) (by decide +kernel)) rfl
theorem t_1347 : Cond.fieldLink RX7 161 "LostCauses$Word" "DROPPED" "LLostCauses$Word;" ∈ TB := TB_in (List.mem_of_getElem? (i := 1347) (by decide +kernel)) rfl
theorem t_1349 : Cond.fieldLink RX7 164 "LostCauses$Word" "WON" "LLostCauses$Word;" ∈ TB := TB_in (List.mem_of_getElem? (i := 1349) (by decide +kernel)) rfl
theorem t_1351 : Cond.fieldLink RX7 167 "LostCauses$Word" "DEAD" "LLostCauses$Word;" ∈ TB := TB_in (List.mem_of_getElem? (i := 1351) (by decide +kernel)) rfl
theorem t_1353 : Cond.methodLink RX7 48 yX8_fail ∈ TB := TB_in (List.mem_of_getElem? (i := 1353) (by decide +kernel)) rfl
theorem t_1354 : Cond.methodLink RX7 97 yX8_advance ∈ TB := TB_in (List.mem_of_getElem? (i := 1354) (by decide +kernel)) rfl
theorem t_1355 : Cond.methodLink RX7 100 yX8_takeSign ∈ TB := TB_in (List.mem_of_getElem? (i := 1355) (by decide +kernel)) rfl
theorem t_1356 : Cond.methodLink RX7 83 yX7_add ∈ TB := TB_in (List.mem_of_getElem? (i := 1356) (by decide +kernel)) rfl
theorem t_1358 : Cond.instanceMethod yX7_add ∈ TB := TB_in (List.mem_of_getElem? (i := 1358) (by decide +kernel)) rfl
theorem t_1359 : Cond.code yX7_add cX7_add 4 (some .boolean) ∈ TB := TB_in (List.mem_of_getElem? (i := 1359) (by decide +kernel)) rfl
theorem t_1360 : Cond.methodLink RX7 103 yX7_readHad ∈ TB := TB_in (List.mem_of_getElem? (i := 1360) (by decide +kernel)) rfl
theorem t_1362 : Cond.instanceMethod yX7_readHad ∈ TB := TB_in (List.mem_of_getElem? (i := 1362) (by decide +kernel)) rfl
theorem t_1363 : Cond.code yX7_readHad cX7_readHad 4 (some .boolean) ∈ TB := TB_in (List.mem_of_getElem? (i := 1363) (by decide +kernel)) rfl
theorem t_1364 : Cond.methodLink RX7 111 yX8_isName ∈ TB := TB_in (List.mem_of_getElem? (i := 1364) (by decide +kernel)) rfl
theorem t_1365 : Cond.methodLink RX7 114 yX8_letters ∈ TB := TB_in (List.mem_of_getElem? (i := 1365) (by decide +kernel)) rfl
theorem t_1366 : Cond.methodLink RX7 118 yX5_deedNamed ∈ TB := TB_in (List.mem_of_getElem? (i := 1366) (by decide +kernel)) rfl
theorem t_1367 : Cond.methodLink RX7 107 yX7_readMeasure ∈ TB := TB_in (List.mem_of_getElem? (i := 1367) (by decide +kernel)) rfl
theorem t_1369 : Cond.instanceMethod yX7_readMeasure ∈ TB := TB_in (List.mem_of_getElem? (i := 1369) (by decide +kernel)) rfl
theorem t_1370 : Cond.code yX7_readMeasure cX7_readMeasure 4 (some .boolean) ∈ TB := TB_in (List.mem_of_getElem? (i := 1370) (by decide +kernel)) rfl
theorem t_1371 : Cond.methodLink RX7 127 yX8_takeNumber ∈ TB := TB_in (List.mem_of_getElem? (i := 1371) (by decide +kernel)) rfl
theorem t_1372 : Cond.methodLink RX7 130 yX8_taken ∈ TB := TB_in (List.mem_of_getElem? (i := 1372) (by decide +kernel)) rfl
theorem t_1373 : Cond.fieldLink RX7 73 "LostCauses$Word" "AND" "LLostCauses$Word;" ∈ TB := TB_in (List.mem_of_getElem? (i := 1373) (by decide +kernel)) rfl
theorem t_1375 : Cond.methodLink RX7 79 yX8_takeWord ∈ TB := TB_in (List.mem_of_getElem? (i := 1375) (by decide +kernel)) rfl
theorem t_1376 : Cond.fieldLink RX7 87 "LostCauses$Word" "OR" "LLostCauses$Word;" ∈ TB := TB_in (List.mem_of_getElem? (i := 1376) (by decide +kernel)) rfl
theorem t_1378 : Cond.methodLink RX7 44 yX8_isAtEnd ∈ TB := TB_in (List.mem_of_getElem? (i := 1378) (by decide +kernel)) rfl
theorem t_1379 : Cond.methodLink RX11 317 yX7_copyFrom ∈ TB := TB_in (List.mem_of_getElem? (i := 1379) (by decide +kernel)) rfl
theorem t_1380 : Cond.instanceMethod yX7_copyFrom ∈ TB := TB_in (List.mem_of_getElem? (i := 1380) (by decide +kernel)) rfl
theorem t_1381 : Cond.selects RX7 yX7_copyFrom yX7_copyFrom ∈ TB := TB_in (List.mem_of_getElem? (i := 1381) (by decide +kernel)) rfl
theorem t_1382 : Cond.code yX7_copyFrom cX7_copyFrom 2 none ∈ TB := TB_in (List.mem_of_getElem? (i := 1382) (by decide +kernel)) rfl
theorem t_1383 : Cond.methodLink RX7 28 arraycopyName ∈ TB := TB_in (List.mem_of_getElem? (i := 1383) (by decide +kernel)) rfl
theorem t_1388 : Cond.methodLink RX11 320 yX7_isEmpty ∈ TB := TB_in (List.mem_of_getElem? (i := 1388) (by decide +kernel)) rfl
theorem t_1389 : Cond.instanceMethod yX7_isEmpty ∈ TB := TB_in (List.mem_of_getElem? (i := 1389) (by decide +kernel)) rfl
theorem t_1390 : Cond.selects RX7 yX7_isEmpty yX7_isEmpty ∈ TB := TB_in (List.mem_of_getElem? (i := 1390) (by decide +kernel)) rfl
theorem t_1391 : Cond.code yX7_isEmpty cX7_isEmpty 1 (some .boolean) ∈ TB := TB_in (List.mem_of_getElem? (i := 1391) (by decide +kernel)) rfl
theorem t_1392 : Cond.methodLink RX11 323 yX7_holdsOf ∈ TB := TB_in (List.mem_of_getElem? (i := 1392) (by decide +kernel)) rfl
theorem t_1393 : Cond.instanceMethod yX7_holdsOf ∈ TB := TB_in (List.mem_of_getElem? (i := 1393) (by decide +kernel)) rfl
theorem t_1394 : Cond.selects RX7 yX7_holdsOf yX7_holdsOf ∈ TB := TB_in (List.mem_of_getElem? (i := 1394) (by decide +kernel)) rfl
theorem t_1395 : Cond.code yX7_holdsOf cX7_holdsOf 7 (some .boolean) ∈ TB := TB_in (List.mem_of_getElem? (i := 1395) (by decide +kernel)) rfl
theorem t_1396 : Cond.methodLink RX7 52 yX7_isTrue ∈ TB := TB_in (List.mem_of_getElem? (i := 1396) (by decide +kernel)) rfl
theorem t_1398 : Cond.instanceMethod yX7_isTrue ∈ TB := TB_in (List.mem_of_getElem? (i := 1398) (by decide +kernel)) rfl
theorem t_1399 : Cond.code yX7_isTrue cX7_isTrue 4 (some .boolean) ∈ TB := TB_in (List.mem_of_getElem? (i := 1399) (by decide +kernel)) rfl
theorem t_1400 : Cond.methodLink RX7 56 yX0_ofCause ∈ TB := TB_in (List.mem_of_getElem? (i := 1400) (by decide +kernel)) rfl
theorem t_1401 : Cond.methodLink RX7 62 yX0_nearness ∈ TB := TB_in (List.mem_of_getElem? (i := 1401) (by decide +kernel)) rfl
theorem t_1402 : Cond.methodLink RX7 66 yX7_isSo ∈ TB := TB_in (List.mem_of_getElem? (i := 1402) (by decide +kernel)) rfl
theorem t_1404 : Cond.instanceMethod yX7_isSo ∈ TB := TB_in (List.mem_of_getElem? (i := 1404) (by decide +kernel)) rfl
theorem t_1405 : Cond.code yX7_isSo cX7_isSo 3 (some .boolean) ∈ TB := TB_in (List.mem_of_getElem? (i := 1405) (by decide +kernel)) rfl
theorem t_1410 : Cond.methodLink RX11 327 yX11_imageAt ∈ TB := TB_in (List.mem_of_getElem? (i := 1410) (by decide +kernel)) rfl
theorem t_1412 : Cond.instanceMethod yX11_imageAt ∈ TB := TB_in (List.mem_of_getElem? (i := 1412) (by decide +kernel)) rfl
theorem t_1413 : Cond.code yX11_imageAt cX11_imageAt 2 (some (.object "LostCauses$Image")) ∈ TB := TB_in (List.mem_of_getElem? (i := 1413) (by decide +kernel)) rfl
theorem t_1414 : Cond.methodLink RX11 331 yX1_keep ∈ TB := TB_in (List.mem_of_getElem? (i := 1414) (by decide +kernel)) rfl
theorem t_1415 : Cond.instanceMethod yX1_keep ∈ TB := TB_in (List.mem_of_getElem? (i := 1415) (by decide +kernel)) rfl
theorem t_1416 : Cond.selects RX1 yX1_keep yX1_keep ∈ TB := TB_in (List.mem_of_getElem? (i := 1416) (by decide +kernel)) rfl
theorem t_1417 : Cond.code yX1_keep cX1_keep 4 none ∈ TB := TB_in (List.mem_of_getElem? (i := 1417) (by decide +kernel)) rfl
theorem t_1418 : Cond.methodLink RX1 33 yX5_copyFrom ∈ TB := TB_in (List.mem_of_getElem? (i := 1418) (by decide +kernel)) rfl
theorem t_1419 : Cond.methodLink RX1 37 yX0_saveTo ∈ TB := TB_in (List.mem_of_getElem? (i := 1419) (by decide +kernel)) rfl
theorem t_1420 : Cond.methodLink RX1 43 yX7_copyFrom ∈ TB := TB_in (List.mem_of_getElem? (i := 1420) (by decide +kernel)) rfl
theorem t_1425 : Cond.methodLink RX11 335 yX1_isKept ∈ TB := TB_in (List.mem_of_getElem? (i := 1425) (by decide +kernel)) rfl
theorem t_1426 : Cond.instanceMethod yX1_isKept ∈ TB := TB_in (List.mem_of_getElem? (i := 1426) (by decide +kernel)) rfl
theorem t_1427 : Cond.selects RX1 yX1_isKept yX1_isKept ∈ TB := TB_in (List.mem_of_getElem? (i := 1427) (by decide +kernel)) rfl
theorem t_1428 : Cond.code yX1_isKept cX1_isKept 1 (some .boolean) ∈ TB := TB_in (List.mem_of_getElem? (i := 1428) (by decide +kernel)) rfl
theorem t_1429 : Cond.methodLink RX11 338 yX1_giveBack ∈ TB := TB_in (List.mem_of_getElem? (i := 1429) (by decide +kernel)) rfl
theorem t_1430 : Cond.instanceMethod yX1_giveBack ∈ TB := TB_in (List.mem_of_getElem? (i := 1430) (by decide +kernel)) rfl
theorem t_1431 : Cond.selects RX1 yX1_giveBack yX1_giveBack ∈ TB := TB_in (List.mem_of_getElem? (i := 1431) (by decide +kernel)) rfl
theorem t_1432 : Cond.code yX1_giveBack cX1_giveBack 4 none ∈ TB := TB_in (List.mem_of_getElem? (i := 1432) (by decide +kernel)) rfl
theorem t_1433 : Cond.methodLink RX1 46 yX0_loadFrom ∈ TB := TB_in (List.mem_of_getElem? (i := 1433) (by decide +kernel)) rfl
theorem t_1438 : Cond.methodLink RX11 341 yX5_deeds ∈ TB := TB_in (List.mem_of_getElem? (i := 1438) (by decide +kernel)) rfl
theorem t_1439 : Cond.methodLink RX11 344 yX5_rumours ∈ TB := TB_in (List.mem_of_getElem? (i := 1439) (by decide +kernel)) rfl
theorem t_1440 : Cond.instanceMethod yX5_rumours ∈ TB := TB_in (List.mem_of_getElem? (i := 1440) (by decide +kernel)) rfl
theorem t_1441 : Cond.selects RX5 yX5_rumours yX5_rumours ∈ TB := TB_in (List.mem_of_getElem? (i := 1441) (by decide +kernel)) rfl
theorem t_1442 : Cond.code yX5_rumours cX5_rumours 3 (some .int) ∈ TB := TB_in (List.mem_of_getElem? (i := 1442) (by decide +kernel)) rfl
theorem t_1443 : Cond.methodLink RX5 59 yX5_hasRumour ∈ TB := TB_in (List.mem_of_getElem? (i := 1443) (by decide +kernel)) rfl
theorem t_1444 : Cond.methodLink RX11 347 yX5_lineAbove ∈ TB := TB_in (List.mem_of_getElem? (i := 1444) (by decide +kernel)) rfl
theorem t_1445 : Cond.instanceMethod yX5_lineAbove ∈ TB := TB_in (List.mem_of_getElem? (i := 1445) (by decide +kernel)) rfl
theorem t_1446 : Cond.selects RX5 yX5_lineAbove yX5_lineAbove ∈ TB := TB_in (List.mem_of_getElem? (i := 1446) (by decide +kernel)) rfl
theorem t_1447 : Cond.code yX5_lineAbove cX5_lineAbove 1 (some .int) ∈ TB := TB_in (List.mem_of_getElem? (i := 1447) (by decide +kernel)) rfl
theorem t_1448 : Cond.methodLink RX11 350 yX5_lineBelow ∈ TB := TB_in (List.mem_of_getElem? (i := 1448) (by decide +kernel)) rfl
theorem t_1449 : Cond.instanceMethod yX5_lineBelow ∈ TB := TB_in (List.mem_of_getElem? (i := 1449) (by decide +kernel)) rfl
theorem t_1450 : Cond.selects RX5 yX5_lineBelow yX5_lineBelow ∈ TB := TB_in (List.mem_of_getElem? (i := 1450) (by decide +kernel)) rfl
theorem t_1451 : Cond.code yX5_lineBelow cX5_lineBelow 1 (some .int) ∈ TB := TB_in (List.mem_of_getElem? (i := 1451) (by decide +kernel)) rfl
theorem t_1533 : Cond.methodLink RX11 167 yX11_leastTerm ∈ TB := TB_in (List.mem_of_getElem? (i := 1533) (by decide +kernel)) rfl
theorem t_1534 : Cond.static yX11_leastTerm ∈ TB := TB_in (List.mem_of_getElem? (i := 1534) (by decide +kernel)) rfl
theorem t_1535 : Cond.code yX11_leastTerm cX11_leastTerm 5 (some .int) ∈ TB := TB_in (List.mem_of_getElem? (i := 1535) (by decide +kernel)) rfl
theorem t_1536 : Cond.methodLink RX11 353 yX11_greatestDivisor ∈ TB := TB_in (List.mem_of_getElem? (i := 1536) (by decide +kernel)) rfl
theorem t_1537 : Cond.static yX11_greatestDivisor ∈ TB := TB_in (List.mem_of_getElem? (i := 1537) (by decide +kernel)) rfl
theorem t_1538 : Cond.code yX11_greatestDivisor cX11_greatestDivisor 6 (some .int) ∈ TB := TB_in (List.mem_of_getElem? (i := 1538) (by decide +kernel)) rfl
theorem t_1547 : Cond.methodLink RX11 241 yX9_valueFor ∈ TB := TB_in (List.mem_of_getElem? (i := 1547) (by decide +kernel)) rfl
theorem t_1564 : Cond.methodLink RX12 10 yX12_four ∈ TB := TB_in (List.mem_of_getElem? (i := 1564) (by decide +kernel)) rfl
theorem t_1566 : Cond.instanceMethod yX12_four ∈ TB := TB_in (List.mem_of_getElem? (i := 1566) (by decide +kernel)) rfl
theorem t_1568 : Cond.code yX12_four cX12_four 3 none ∈ TB := TB_in (List.mem_of_getElem? (i := 1568) (by decide +kernel)) rfl
theorem t_1578 : Cond.constantLong RX12 90 1818848869 ∈ TB := TB_in (List.mem_of_getElem? (i := 1578) (by decide +kernel)) rfl
theorem t_1579 : Cond.constantLong RX12 92 1668245870 ∈ TB := TB_in (List.mem_of_getElem? (i := 1579) (by decide +kernel)) rfl
theorem t_1580 : Cond.constantLong RX12 94 426836849509 ∈ TB := TB_in (List.mem_of_getElem? (i := 1580) (by decide +kernel)) rfl
theorem t_1581 : Cond.constantLong RX12 96 125848672761202 ∈ TB := TB_in (List.mem_of_getElem? (i := 1581) (by decide +kernel)) rfl
theorem t_1582 : Cond.constantLong RX12 98 1684366692 ∈ TB := TB_in (List.mem_of_getElem? (i := 1582) (by decide +kernel)) rfl
theorem t_1583 : Cond.constantLong RX12 100 427020350059 ∈ TB := TB_in (List.mem_of_getElem? (i := 1583) (by decide +kernel)) rfl
theorem t_1584 : Cond.constantLong RX12 102 499850634611 ∈ TB := TB_in (List.mem_of_getElem? (i := 1584) (by decide +kernel)) rfl
theorem t_1585 : Cond.constantLong RX12 104 1685022067 ∈ TB := TB_in (List.mem_of_getElem? (i := 1585) (by decide +kernel)) rfl
theorem t_1586 : Cond.constantLong RX12 106 431416635507 ∈ TB := TB_in (List.mem_of_getElem? (i := 1586) (by decide +kernel)) rfl
theorem t_1587 : Cond.constantLong RX12 108 2003133803 ∈ TB := TB_in (List.mem_of_getElem? (i := 1587) (by decide +kernel)) rfl
theorem t_1588 : Cond.constantLong RX12 110 28530 ∈ TB := TB_in (List.mem_of_getElem? (i := 1588) (by decide +kernel)) rfl
theorem t_1589 : Cond.constantLong RX12 112 6385252 ∈ TB := TB_in (List.mem_of_getElem? (i := 1589) (by decide +kernel)) rfl
theorem t_1590 : Cond.constantLong RX12 114 7237492 ∈ TB := TB_in (List.mem_of_getElem? (i := 1590) (by decide +kernel)) rfl
theorem t_1591 : Cond.constantLong RX12 116 1869636974 ∈ TB := TB_in (List.mem_of_getElem? (i := 1591) (by decide +kernel)) rfl
theorem t_1592 : Cond.constantLong RX12 118 499850634606 ∈ TB := TB_in (List.mem_of_getElem? (i := 1592) (by decide +kernel)) rfl
theorem t_1593 : Cond.constantLong RX12 120 28273320624416100 ∈ TB := TB_in (List.mem_of_getElem? (i := 1593) (by decide +kernel)) rfl
theorem t_1594 : Cond.constantLong RX12 122 7827310 ∈ TB := TB_in (List.mem_of_getElem? (i := 1594) (by decide +kernel)) rfl
theorem t_1595 : Cond.constantLong RX12 124 1684365668 ∈ TB := TB_in (List.mem_of_getElem? (i := 1595) (by decide +kernel)) rfl
theorem t_1596 : Cond.constantLong RX12 126 6840676 ∈ TB := TB_in (List.mem_of_getElem? (i := 1596) (by decide +kernel)) rfl
theorem t_1597 : Cond.constantLong RX12 128 1852137842 ∈ TB := TB_in (List.mem_of_getElem? (i := 1597) (by decide +kernel)) rfl
theorem t_1598 : Cond.constantLong RX12 130 483006772069 ∈ TB := TB_in (List.mem_of_getElem? (i := 1598) (by decide +kernel)) rfl
theorem t_1599 : Cond.constantLong RX12 132 108187750065510 ∈ TB := TB_in (List.mem_of_getElem? (i := 1599) (by decide +kernel)) rfl
theorem t_1600 : Cond.constantLong RX12 134 121450625394034 ∈ TB := TB_in (List.mem_of_getElem? (i := 1600) (by decide +kernel)) rfl
theorem t_1601 : Cond.methodLink RX12 136 yX12_clears ∈ TB := TB_in (List.mem_of_getElem? (i := 1601) (by decide +kernel)) rfl
theorem t_1603 : Cond.instanceMethod yX12_clears ∈ TB := TB_in (List.mem_of_getElem? (i := 1603) (by decide +kernel)) rfl
theorem t_1604 : Cond.code yX12_clears cX12_clears 2 none ∈ TB := TB_in (List.mem_of_getElem? (i := 1604) (by decide +kernel)) rfl
theorem t_1605 : Cond.methodLink RX12 139 yX12_begins ∈ TB := TB_in (List.mem_of_getElem? (i := 1605) (by decide +kernel)) rfl
theorem t_1607 : Cond.instanceMethod yX12_begins ∈ TB := TB_in (List.mem_of_getElem? (i := 1607) (by decide +kernel)) rfl
theorem t_1608 : Cond.code yX12_begins cX12_begins 2 none ∈ TB := TB_in (List.mem_of_getElem? (i := 1608) (by decide +kernel)) rfl
theorem t_1609 : Cond.fieldLink RX12 1 "LostCausesModel" "thrown" "I" ∈ TB := TB_in (List.mem_of_getElem? (i := 1609) (by decide +kernel)) rfl
theorem t_1610 : Cond.fieldLink RX12 14 "LostCausesModel" "tape" "[B" ∈ TB := TB_in (List.mem_of_getElem? (i := 1610) (by decide +kernel)) rfl
theorem t_1611 : Cond.fieldLink RX12 7 "LostCausesModel" "length" "I" ∈ TB := TB_in (List.mem_of_getElem? (i := 1611) (by decide +kernel)) rfl
theorem t_1612 : Cond.fieldLink RX12 18 "LostCausesModel" "size" "I" ∈ TB := TB_in (List.mem_of_getElem? (i := 1612) (by decide +kernel)) rfl
theorem t_1613 : Cond.fieldLink RX12 21 "LostCausesModel" "p" "I" ∈ TB := TB_in (List.mem_of_getElem? (i := 1613) (by decide +kernel)) rfl
theorem t_1614 : Cond.fieldLink RX12 24 "LostCausesModel" "limit" "I" ∈ TB := TB_in (List.mem_of_getElem? (i := 1614) (by decide +kernel)) rfl
theorem t_1615 : Cond.fieldLink RX12 33 "LostCausesModel" "s" "[I" ∈ TB := TB_in (List.mem_of_getElem? (i := 1615) (by decide +kernel)) rfl
theorem t_1616 : Cond.fieldLink RX12 37 "LostCausesModel" "h" "[I" ∈ TB := TB_in (List.mem_of_getElem? (i := 1616) (by decide +kernel)) rfl
theorem t_1617 : Cond.fieldLink RX12 40 "LostCausesModel" "read" "[I" ∈ TB := TB_in (List.mem_of_getElem? (i := 1617) (by decide +kernel)) rfl
theorem t_1618 : Cond.fieldLink RX12 43 "LostCausesModel" "names" "[J" ∈ TB := TB_in (List.mem_of_getElem? (i := 1618) (by decide +kernel)) rfl
theorem t_1619 : Cond.fieldLink RX12 47 "LostCausesModel" "reserved" "[J" ∈ TB := TB_in (List.mem_of_getElem? (i := 1619) (by decide +kernel)) rfl
theorem t_1620 : Cond.fieldLink RX12 152 "LostCausesModel" "token" "I" ∈ TB := TB_in (List.mem_of_getElem? (i := 1620) (by decide +kernel)) rfl
theorem t_1621 : Cond.fieldLink RX12 146 "LostCausesModel" "at" "I" ∈ TB := TB_in (List.mem_of_getElem? (i := 1621) (by decide +kernel)) rfl
theorem t_1622 : Cond.fieldLink RX12 149 "LostCausesModel" "span" "I" ∈ TB := TB_in (List.mem_of_getElem? (i := 1622) (by decide +kernel)) rfl
theorem t_1623 : Cond.fieldLink RX12 162 "LostCausesModel" "number" "I" ∈ TB := TB_in (List.mem_of_getElem? (i := 1623) (by decide +kernel)) rfl
theorem t_1624 : Cond.fieldLink RX12 169 "LostCausesModel" "fault" "I" ∈ TB := TB_in (List.mem_of_getElem? (i := 1624) (by decide +kernel)) rfl
theorem t_1625 : Cond.fieldLink RX12 172 "LostCausesModel" "faultAt" "I" ∈ TB := TB_in (List.mem_of_getElem? (i := 1625) (by decide +kernel)) rfl
theorem t_1626 : Cond.fieldLink RX12 165 "LostCausesModel" "word" "J" ∈ TB := TB_in (List.mem_of_getElem? (i := 1626) (by decide +kernel)) rfl
theorem t_1627 : Cond.fieldLink RX12 188 "LostCausesModel" "got" "I" ∈ TB := TB_in (List.mem_of_getElem? (i := 1627) (by decide +kernel)) rfl
theorem t_1628 : Cond.fieldLink RX12 228 "LostCausesModel" "lines" "I" ∈ TB := TB_in (List.mem_of_getElem? (i := 1628) (by decide +kernel)) rfl
theorem t_1629 : Cond.fieldLink RX12 203 "LostCausesModel" "onces" "I" ∈ TB := TB_in (List.mem_of_getElem? (i := 1629) (by decide +kernel)) rfl
theorem t_1630 : Cond.fieldLink RX12 50 "LostCausesModel" "undone" "[I" ∈ TB := TB_in (List.mem_of_getElem? (i := 1630) (by decide +kernel)) rfl
theorem t_1631 : Cond.fieldLink RX12 53 "LostCausesModel" "before" "[I" ∈ TB := TB_in (List.mem_of_getElem? (i := 1631) (by decide +kernel)) rfl
theorem t_1632 : Cond.fieldLink RX12 237 "LostCausesModel" "undoMany" "I" ∈ TB := TB_in (List.mem_of_getElem? (i := 1632) (by decide +kernel)) rfl
theorem t_1633 : Cond.fieldLink RX12 56 "LostCausesModel" "ordersOf" "[I" ∈ TB := TB_in (List.mem_of_getElem? (i := 1633) (by decide +kernel)) rfl
theorem t_1634 : Cond.fieldLink RX12 59 "LostCausesModel" "values" "[I" ∈ TB := TB_in (List.mem_of_getElem? (i := 1634) (by decide +kernel)) rfl
theorem t_1635 : Cond.fieldLink RX12 62 "LostCausesModel" "row" "[I" ∈ TB := TB_in (List.mem_of_getElem? (i := 1635) (by decide +kernel)) rfl
theorem t_1636 : Cond.fieldLink RX12 65 "LostCausesModel" "matchRow" "[I" ∈ TB := TB_in (List.mem_of_getElem? (i := 1636) (by decide +kernel)) rfl
theorem t_1637 : Cond.fieldLink RX12 68 "LostCausesModel" "matchClerks" "I" ∈ TB := TB_in (List.mem_of_getElem? (i := 1637) (by decide +kernel)) rfl
theorem t_1638 : Cond.fieldLink RX12 366 "LostCausesModel" "triedSet" "I" ∈ TB := TB_in (List.mem_of_getElem? (i := 1638) (by decide +kernel)) rfl
theorem t_1639 : Cond.fieldLink RX12 362 "LostCausesModel" "hasTried" "Z" ∈ TB := TB_in (List.mem_of_getElem? (i := 1639) (by decide +kernel)) rfl
theorem t_1640 : Cond.fieldLink RX12 369 "LostCausesModel" "seed" "I" ∈ TB := TB_in (List.mem_of_getElem? (i := 1640) (by decide +kernel)) rfl
theorem t_1641 : Cond.fieldLink RX12 379 "LostCausesModel" "told" "I" ∈ TB := TB_in (List.mem_of_getElem? (i := 1641) (by decide +kernel)) rfl
theorem t_1642 : Cond.fieldLink RX12 71 "LostCausesModel" "bookedAt" "[I" ∈ TB := TB_in (List.mem_of_getElem? (i := 1642) (by decide +kernel)) rfl
theorem t_1643 : Cond.fieldLink RX12 388 "LostCausesModel" "hasBooked" "Z" ∈ TB := TB_in (List.mem_of_getElem? (i := 1643) (by decide +kernel)) rfl
theorem t_1644 : Cond.fieldLink RX12 74 "LostCausesModel" "stack" "[I" ∈ TB := TB_in (List.mem_of_getElem? (i := 1644) (by decide +kernel)) rfl
theorem t_1645 : Cond.fieldLink RX12 391 "LostCausesModel" "codes" "I" ∈ TB := TB_in (List.mem_of_getElem? (i := 1645) (by decide +kernel)) rfl
theorem t_1646 : Cond.fieldLink RX12 407 "LostCausesModel" "ones" "I" ∈ TB := TB_in (List.mem_of_getElem? (i := 1646) (by decide +kernel)) rfl
theorem t_1647 : Cond.fieldLink RX12 394 "LostCausesModel" "top" "I" ∈ TB := TB_in (List.mem_of_getElem? (i := 1647) (by decide +kernel)) rfl
theorem t_1648 : Cond.fieldLink RX12 401 "LostCausesModel" "deep" "I" ∈ TB := TB_in (List.mem_of_getElem? (i := 1648) (by decide +kernel)) rfl
theorem t_1649 : Cond.fieldLink RX12 410 "LostCausesModel" "isWhole" "Z" ∈ TB := TB_in (List.mem_of_getElem? (i := 1649) (by decide +kernel)) rfl
theorem t_1650 : Cond.fieldLink RX12 77 "LostCausesModel" "truths" "[Z" ∈ TB := TB_in (List.mem_of_getElem? (i := 1650) (by decide +kernel)) rfl
theorem t_1651 : Cond.fieldLink RX12 81 "LostCausesModel" "kept" "[I" ∈ TB := TB_in (List.mem_of_getElem? (i := 1651) (by decide +kernel)) rfl
theorem t_1652 : Cond.fieldLink RX12 84 "LostCausesModel" "namesKept" "[J" ∈ TB := TB_in (List.mem_of_getElem? (i := 1652) (by decide +kernel)) rfl
theorem t_1653 : Cond.fieldLink RX12 87 "LostCausesModel" "areKept" "[Z" ∈ TB := TB_in (List.mem_of_getElem? (i := 1653) (by decide +kernel)) rfl
theorem t_1750 : Cond.methodLink RX12 225 yX12_taken ∈ TB := TB_in (List.mem_of_getElem? (i := 1750) (by decide +kernel)) rfl
theorem t_1752 : Cond.instanceMethod yX12_taken ∈ TB := TB_in (List.mem_of_getElem? (i := 1752) (by decide +kernel)) rfl
theorem t_1753 : Cond.code yX12_taken cX12_taken 2 none ∈ TB := TB_in (List.mem_of_getElem? (i := 1753) (by decide +kernel)) rfl
theorem t_1754 : Cond.methodLink RX12 181 yX12_next ∈ TB := TB_in (List.mem_of_getElem? (i := 1754) (by decide +kernel)) rfl
theorem t_1756 : Cond.instanceMethod yX12_next ∈ TB := TB_in (List.mem_of_getElem? (i := 1756) (by decide +kernel)) rfl
theorem t_1757 : Cond.code yX12_next cX12_next 4 none ∈ TB := TB_in (List.mem_of_getElem? (i := 1757) (by decide +kernel)) rfl
theorem t_1758 : Cond.methodLink RX12 142 yX12_peek ∈ TB := TB_in (List.mem_of_getElem? (i := 1758) (by decide +kernel)) rfl
theorem t_1760 : Cond.instanceMethod yX12_peek ∈ TB := TB_in (List.mem_of_getElem? (i := 1760) (by decide +kernel)) rfl
theorem t_1761 : Cond.code yX12_peek cX12_peek 1 (some .int) ∈ TB := TB_in (List.mem_of_getElem? (i := 1761) (by decide +kernel)) rfl
theorem t_1762 : Cond.methodLink RX12 155 yX12_isSmall ∈ TB := TB_in (List.mem_of_getElem? (i := 1762) (by decide +kernel)) rfl
theorem t_1763 : Cond.static yX12_isSmall ∈ TB := TB_in (List.mem_of_getElem? (i := 1763) (by decide +kernel)) rfl
theorem t_1764 : Cond.code yX12_isSmall cX12_isSmall 1 (some .boolean) ∈ TB := TB_in (List.mem_of_getElem? (i := 1764) (by decide +kernel)) rfl
theorem t_1765 : Cond.methodLink RX12 159 yX12_isDigit ∈ TB := TB_in (List.mem_of_getElem? (i := 1765) (by decide +kernel)) rfl
theorem t_1766 : Cond.static yX12_isDigit ∈ TB := TB_in (List.mem_of_getElem? (i := 1766) (by decide +kernel)) rfl
theorem t_1767 : Cond.code yX12_isDigit cX12_isDigit 1 (some .boolean) ∈ TB := TB_in (List.mem_of_getElem? (i := 1767) (by decide +kernel)) rfl
theorem t_1768 : Cond.methodLink RX12 231 yX12_line ∈ TB := TB_in (List.mem_of_getElem? (i := 1768) (by decide +kernel)) rfl
theorem t_1770 : Cond.instanceMethod yX12_line ∈ TB := TB_in (List.mem_of_getElem? (i := 1770) (by decide +kernel)) rfl
theorem t_1771 : Cond.code yX12_line cX12_line 2 (some .boolean) ∈ TB := TB_in (List.mem_of_getElem? (i := 1771) (by decide +kernel)) rfl
theorem t_1772 : Cond.methodLink RX12 209 yX12_isWord ∈ TB := TB_in (List.mem_of_getElem? (i := 1772) (by decide +kernel)) rfl
theorem t_1774 : Cond.instanceMethod yX12_isWord ∈ TB := TB_in (List.mem_of_getElem? (i := 1774) (by decide +kernel)) rfl
theorem t_1775 : Cond.code yX12_isWord cX12_isWord 3 (some .boolean) ∈ TB := TB_in (List.mem_of_getElem? (i := 1775) (by decide +kernel)) rfl
theorem t_1776 : Cond.methodLink RX12 213 yX12_isOnce ∈ TB := TB_in (List.mem_of_getElem? (i := 1776) (by decide +kernel)) rfl
theorem t_1778 : Cond.instanceMethod yX12_isOnce ∈ TB := TB_in (List.mem_of_getElem? (i := 1778) (by decide +kernel)) rfl
theorem t_1779 : Cond.code yX12_isOnce cX12_isOnce 2 (some .boolean) ∈ TB := TB_in (List.mem_of_getElem? (i := 1779) (by decide +kernel)) rfl
theorem t_1780 : Cond.methodLink RX12 206 yX12_bitOf ∈ TB := TB_in (List.mem_of_getElem? (i := 1780) (by decide +kernel)) rfl
theorem t_1781 : Cond.static yX12_bitOf ∈ TB := TB_in (List.mem_of_getElem? (i := 1781) (by decide +kernel)) rfl
theorem t_1782 : Cond.code yX12_bitOf cX12_bitOf 2 (some .boolean) ∈ TB := TB_in (List.mem_of_getElem? (i := 1782) (by decide +kernel)) rfl
theorem t_1783 : Cond.methodLink RX12 178 yX12_bad ∈ TB := TB_in (List.mem_of_getElem? (i := 1783) (by decide +kernel)) rfl
theorem t_1785 : Cond.instanceMethod yX12_bad ∈ TB := TB_in (List.mem_of_getElem? (i := 1785) (by decide +kernel)) rfl
theorem t_1786 : Cond.code yX12_bad cX12_bad 2 (some .boolean) ∈ TB := TB_in (List.mem_of_getElem? (i := 1786) (by decide +kernel)) rfl
theorem t_1787 : Cond.methodLink RX12 216 yX12_puts ∈ TB := TB_in (List.mem_of_getElem? (i := 1787) (by decide +kernel)) rfl
theorem t_1789 : Cond.instanceMethod yX12_puts ∈ TB := TB_in (List.mem_of_getElem? (i := 1789) (by decide +kernel)) rfl
theorem t_1790 : Cond.code yX12_puts cX12_puts 4 (some .boolean) ∈ TB := TB_in (List.mem_of_getElem? (i := 1790) (by decide +kernel)) rfl
theorem t_1791 : Cond.methodLink RX12 199 yX12_takes ∈ TB := TB_in (List.mem_of_getElem? (i := 1791) (by decide +kernel)) rfl
theorem t_1793 : Cond.instanceMethod yX12_takes ∈ TB := TB_in (List.mem_of_getElem? (i := 1793) (by decide +kernel)) rfl
theorem t_1794 : Cond.code yX12_takes cX12_takes 3 (some .boolean) ∈ TB := TB_in (List.mem_of_getElem? (i := 1794) (by decide +kernel)) rfl
theorem t_1795 : Cond.methodLink RX12 184 yX12_isIn ∈ TB := TB_in (List.mem_of_getElem? (i := 1795) (by decide +kernel)) rfl
theorem t_1796 : Cond.static yX12_isIn ∈ TB := TB_in (List.mem_of_getElem? (i := 1796) (by decide +kernel)) rfl
theorem t_1797 : Cond.code yX12_isIn cX12_isIn 3 (some .boolean) ∈ TB := TB_in (List.mem_of_getElem? (i := 1797) (by decide +kernel)) rfl
theorem t_1798 : Cond.methodLink RX12 219 yX12_fresh ∈ TB := TB_in (List.mem_of_getElem? (i := 1798) (by decide +kernel)) rfl
theorem t_1800 : Cond.instanceMethod yX12_fresh ∈ TB := TB_in (List.mem_of_getElem? (i := 1800) (by decide +kernel)) rfl
theorem t_1801 : Cond.code yX12_fresh cX12_fresh 2 (some .boolean) ∈ TB := TB_in (List.mem_of_getElem? (i := 1801) (by decide +kernel)) rfl
theorem t_1802 : Cond.methodLink RX12 191 yX12_isName ∈ TB := TB_in (List.mem_of_getElem? (i := 1802) (by decide +kernel)) rfl
theorem t_1804 : Cond.instanceMethod yX12_isName ∈ TB := TB_in (List.mem_of_getElem? (i := 1804) (by decide +kernel)) rfl
theorem t_1805 : Cond.code yX12_isName cX12_isName 3 (some .boolean) ∈ TB := TB_in (List.mem_of_getElem? (i := 1805) (by decide +kernel)) rfl
theorem t_1806 : Cond.methodLink RX12 195 yX12_find ∈ TB := TB_in (List.mem_of_getElem? (i := 1806) (by decide +kernel)) rfl
theorem t_1808 : Cond.instanceMethod yX12_find ∈ TB := TB_in (List.mem_of_getElem? (i := 1808) (by decide +kernel)) rfl
theorem t_1809 : Cond.code yX12_find cX12_find 4 (some .int) ∈ TB := TB_in (List.mem_of_getElem? (i := 1809) (by decide +kernel)) rfl
theorem t_1810 : Cond.methodLink RX12 222 yX12_looksAt ∈ TB := TB_in (List.mem_of_getElem? (i := 1810) (by decide +kernel)) rfl
theorem t_1812 : Cond.instanceMethod yX12_looksAt ∈ TB := TB_in (List.mem_of_getElem? (i := 1812) (by decide +kernel)) rfl
theorem t_1813 : Cond.code yX12_looksAt cX12_looksAt 3 (some .boolean) ∈ TB := TB_in (List.mem_of_getElem? (i := 1813) (by decide +kernel)) rfl
theorem t_1814 : Cond.methodLink RX12 234 yX12_sign ∈ TB := TB_in (List.mem_of_getElem? (i := 1814) (by decide +kernel)) rfl
theorem t_1816 : Cond.instanceMethod yX12_sign ∈ TB := TB_in (List.mem_of_getElem? (i := 1816) (by decide +kernel)) rfl
theorem t_1817 : Cond.code yX12_sign cX12_sign 2 (some .boolean) ∈ TB := TB_in (List.mem_of_getElem? (i := 1817) (by decide +kernel)) rfl
theorem t_1818 : Cond.methodLink RX12 175 yX12_isSign ∈ TB := TB_in (List.mem_of_getElem? (i := 1818) (by decide +kernel)) rfl
theorem t_1820 : Cond.instanceMethod yX12_isSign ∈ TB := TB_in (List.mem_of_getElem? (i := 1820) (by decide +kernel)) rfl
theorem t_1821 : Cond.code yX12_isSign cX12_isSign 2 (some .boolean) ∈ TB := TB_in (List.mem_of_getElem? (i := 1821) (by decide +kernel)) rfl
theorem t_1830 : Cond.methodLink RX12 255 yX12_isCause ∈ TB := TB_in (List.mem_of_getElem? (i := 1830) (by decide +kernel)) rfl
theorem t_1832 : Cond.instanceMethod yX12_isCause ∈ TB := TB_in (List.mem_of_getElem? (i := 1832) (by decide +kernel)) rfl
theorem t_1833 : Cond.code yX12_isCause cX12_isCause 2 (some .boolean) ∈ TB := TB_in (List.mem_of_getElem? (i := 1833) (by decide +kernel)) rfl
theorem t_1834 : Cond.methodLink RX12 258 yX12_throwsIf ∈ TB := TB_in (List.mem_of_getElem? (i := 1834) (by decide +kernel)) rfl
theorem t_1836 : Cond.instanceMethod yX12_throwsIf ∈ TB := TB_in (List.mem_of_getElem? (i := 1836) (by decide +kernel)) rfl
theorem t_1837 : Cond.code yX12_throwsIf cX12_throwsIf 2 (some .boolean) ∈ TB := TB_in (List.mem_of_getElem? (i := 1837) (by decide +kernel)) rfl
theorem t_1838 : Cond.methodLink RX12 252 yX12_nearOf ∈ TB := TB_in (List.mem_of_getElem? (i := 1838) (by decide +kernel)) rfl
theorem t_1840 : Cond.instanceMethod yX12_nearOf ∈ TB := TB_in (List.mem_of_getElem? (i := 1840) (by decide +kernel)) rfl
theorem t_1841 : Cond.code yX12_nearOf cX12_nearOf 3 (some .int) ∈ TB := TB_in (List.mem_of_getElem? (i := 1841) (by decide +kernel)) rfl
theorem t_1842 : Cond.methodLink RX12 243 yX12_forOf ∈ TB := TB_in (List.mem_of_getElem? (i := 1842) (by decide +kernel)) rfl
theorem t_1844 : Cond.instanceMethod yX12_forOf ∈ TB := TB_in (List.mem_of_getElem? (i := 1844) (by decide +kernel)) rfl
theorem t_1845 : Cond.code yX12_forOf cX12_forOf 3 (some .int) ∈ TB := TB_in (List.mem_of_getElem? (i := 1845) (by decide +kernel)) rfl
theorem t_1846 : Cond.methodLink RX12 240 yX12_sum ∈ TB := TB_in (List.mem_of_getElem? (i := 1846) (by decide +kernel)) rfl
theorem t_1848 : Cond.instanceMethod yX12_sum ∈ TB := TB_in (List.mem_of_getElem? (i := 1848) (by decide +kernel)) rfl
theorem t_1849 : Cond.code yX12_sum cX12_sum 5 (some .int) ∈ TB := TB_in (List.mem_of_getElem? (i := 1849) (by decide +kernel)) rfl
theorem t_1850 : Cond.methodLink RX12 246 yX12_allOf ∈ TB := TB_in (List.mem_of_getElem? (i := 1850) (by decide +kernel)) rfl
theorem t_1852 : Cond.instanceMethod yX12_allOf ∈ TB := TB_in (List.mem_of_getElem? (i := 1852) (by decide +kernel)) rfl
theorem t_1853 : Cond.code yX12_allOf cX12_allOf 3 (some .int) ∈ TB := TB_in (List.mem_of_getElem? (i := 1853) (by decide +kernel)) rfl
theorem t_1858 : Cond.methodLink RX12 262 yX12_part ∈ TB := TB_in (List.mem_of_getElem? (i := 1858) (by decide +kernel)) rfl
theorem t_1859 : Cond.static yX12_part ∈ TB := TB_in (List.mem_of_getElem? (i := 1859) (by decide +kernel)) rfl
theorem t_1860 : Cond.code yX12_part cX12_part 6 (some .int) ∈ TB := TB_in (List.mem_of_getElem? (i := 1860) (by decide +kernel)) rfl
theorem t_1865 : Cond.methodLink RX12 266 yX12_isDeed ∈ TB := TB_in (List.mem_of_getElem? (i := 1865) (by decide +kernel)) rfl
theorem t_1867 : Cond.instanceMethod yX12_isDeed ∈ TB := TB_in (List.mem_of_getElem? (i := 1867) (by decide +kernel)) rfl
theorem t_1868 : Cond.code yX12_isDeed cX12_isDeed 2 (some .boolean) ∈ TB := TB_in (List.mem_of_getElem? (i := 1868) (by decide +kernel)) rfl
theorem t_1873 : Cond.methodLink RX12 269 yX12_isClerk ∈ TB := TB_in (List.mem_of_getElem? (i := 1873) (by decide +kernel)) rfl
theorem t_1875 : Cond.instanceMethod yX12_isClerk ∈ TB := TB_in (List.mem_of_getElem? (i := 1875) (by decide +kernel)) rfl
theorem t_1876 : Cond.code yX12_isClerk cX12_isClerk 2 (some .boolean) ∈ TB := TB_in (List.mem_of_getElem? (i := 1876) (by decide +kernel)) rfl
theorem t_1885 : Cond.methodLink RX12 278 yX12_whyTake ∈ TB := TB_in (List.mem_of_getElem? (i := 1885) (by decide +kernel)) rfl
theorem t_1887 : Cond.instanceMethod yX12_whyTake ∈ TB := TB_in (List.mem_of_getElem? (i := 1887) (by decide +kernel)) rfl
theorem t_1888 : Cond.code yX12_whyTake cX12_whyTake 3 (some .int) ∈ TB := TB_in (List.mem_of_getElem? (i := 1888) (by decide +kernel)) rfl
theorem t_1889 : Cond.methodLink RX12 272 yX12_isSafe ∈ TB := TB_in (List.mem_of_getElem? (i := 1889) (by decide +kernel)) rfl
theorem t_1891 : Cond.instanceMethod yX12_isSafe ∈ TB := TB_in (List.mem_of_getElem? (i := 1891) (by decide +kernel)) rfl
theorem t_1892 : Cond.code yX12_isSafe cX12_isSafe 3 (some .boolean) ∈ TB := TB_in (List.mem_of_getElem? (i := 1892) (by decide +kernel)) rfl
theorem t_1893 : Cond.methodLink RX12 249 yX12_isBelow ∈ TB := TB_in (List.mem_of_getElem? (i := 1893) (by decide +kernel)) rfl
theorem t_1895 : Cond.instanceMethod yX12_isBelow ∈ TB := TB_in (List.mem_of_getElem? (i := 1895) (by decide +kernel)) rfl
theorem t_1896 : Cond.code yX12_isBelow cX12_isBelow 3 (some .boolean) ∈ TB := TB_in (List.mem_of_getElem? (i := 1896) (by decide +kernel)) rfl
theorem t_1897 : Cond.methodLink RX12 281 yX12_keep ∈ TB := TB_in (List.mem_of_getElem? (i := 1897) (by decide +kernel)) rfl
theorem t_1899 : Cond.instanceMethod yX12_keep ∈ TB := TB_in (List.mem_of_getElem? (i := 1899) (by decide +kernel)) rfl
theorem t_1900 : Cond.code yX12_keep cX12_keep 2 none ∈ TB := TB_in (List.mem_of_getElem? (i := 1900) (by decide +kernel)) rfl
theorem t_1901 : Cond.methodLink RX12 284 yX12_taking ∈ TB := TB_in (List.mem_of_getElem? (i := 1901) (by decide +kernel)) rfl
theorem t_1903 : Cond.instanceMethod yX12_taking ∈ TB := TB_in (List.mem_of_getElem? (i := 1903) (by decide +kernel)) rfl
theorem t_1904 : Cond.code yX12_taking cX12_taking 3 none ∈ TB := TB_in (List.mem_of_getElem? (i := 1904) (by decide +kernel)) rfl
theorem t_1909 : Cond.methodLink RX12 288 yX12_whyAct ∈ TB := TB_in (List.mem_of_getElem? (i := 1909) (by decide +kernel)) rfl
theorem t_1911 : Cond.instanceMethod yX12_whyAct ∈ TB := TB_in (List.mem_of_getElem? (i := 1911) (by decide +kernel)) rfl
theorem t_1912 : Cond.code yX12_whyAct cX12_whyAct 4 (some .int) ∈ TB := TB_in (List.mem_of_getElem? (i := 1912) (by decide +kernel)) rfl
theorem t_1913 : Cond.methodLink RX12 291 yX12_acting ∈ TB := TB_in (List.mem_of_getElem? (i := 1913) (by decide +kernel)) rfl
theorem t_1915 : Cond.instanceMethod yX12_acting ∈ TB := TB_in (List.mem_of_getElem? (i := 1915) (by decide +kernel)) rfl
theorem t_1916 : Cond.code yX12_acting cX12_acting 4 none ∈ TB := TB_in (List.mem_of_getElem? (i := 1916) (by decide +kernel)) rfl
theorem t_1921 : Cond.methodLink RX12 294 yX12_whyDrop ∈ TB := TB_in (List.mem_of_getElem? (i := 1921) (by decide +kernel)) rfl
theorem t_1923 : Cond.instanceMethod yX12_whyDrop ∈ TB := TB_in (List.mem_of_getElem? (i := 1923) (by decide +kernel)) rfl
theorem t_1924 : Cond.code yX12_whyDrop cX12_whyDrop 2 (some .int) ∈ TB := TB_in (List.mem_of_getElem? (i := 1924) (by decide +kernel)) rfl
theorem t_1925 : Cond.methodLink RX12 298 yX12_dropping ∈ TB := TB_in (List.mem_of_getElem? (i := 1925) (by decide +kernel)) rfl
theorem t_1927 : Cond.instanceMethod yX12_dropping ∈ TB := TB_in (List.mem_of_getElem? (i := 1927) (by decide +kernel)) rfl
theorem t_1928 : Cond.code yX12_dropping cX12_dropping 4 none ∈ TB := TB_in (List.mem_of_getElem? (i := 1928) (by decide +kernel)) rfl
theorem t_1929 : Cond.methodLink RX12 275 yX12_payOf ∈ TB := TB_in (List.mem_of_getElem? (i := 1929) (by decide +kernel)) rfl
theorem t_1931 : Cond.instanceMethod yX12_payOf ∈ TB := TB_in (List.mem_of_getElem? (i := 1931) (by decide +kernel)) rfl
theorem t_1932 : Cond.code yX12_payOf cX12_payOf 3 (some .int) ∈ TB := TB_in (List.mem_of_getElem? (i := 1932) (by decide +kernel)) rfl
theorem t_1937 : Cond.methodLink RX12 301 yX12_lesser ∈ TB := TB_in (List.mem_of_getElem? (i := 1937) (by decide +kernel)) rfl
theorem t_1938 : Cond.static yX12_lesser ∈ TB := TB_in (List.mem_of_getElem? (i := 1938) (by decide +kernel)) rfl
theorem t_1939 : Cond.code yX12_lesser cX12_lesser 2 (some .int) ∈ TB := TB_in (List.mem_of_getElem? (i := 1939) (by decide +kernel)) rfl
theorem t_1940 : Cond.methodLink RX12 307 yX12_week ∈ TB := TB_in (List.mem_of_getElem? (i := 1940) (by decide +kernel)) rfl
theorem t_1942 : Cond.instanceMethod yX12_week ∈ TB := TB_in (List.mem_of_getElem? (i := 1942) (by decide +kernel)) rfl
theorem t_1943 : Cond.code yX12_week cX12_week 2 none ∈ TB := TB_in (List.mem_of_getElem? (i := 1943) (by decide +kernel)) rfl
theorem t_1944 : Cond.methodLink RX12 304 yX12_ends ∈ TB := TB_in (List.mem_of_getElem? (i := 1944) (by decide +kernel)) rfl
theorem t_1946 : Cond.instanceMethod yX12_ends ∈ TB := TB_in (List.mem_of_getElem? (i := 1946) (by decide +kernel)) rfl
theorem t_1947 : Cond.code yX12_ends cX12_ends 3 none ∈ TB := TB_in (List.mem_of_getElem? (i := 1947) (by decide +kernel)) rfl
theorem t_1956 : Cond.methodLink RX12 319 yX12_nearestOf ∈ TB := TB_in (List.mem_of_getElem? (i := 1956) (by decide +kernel)) rfl
theorem t_1958 : Cond.instanceMethod yX12_nearestOf ∈ TB := TB_in (List.mem_of_getElem? (i := 1958) (by decide +kernel)) rfl
theorem t_1959 : Cond.code yX12_nearestOf cX12_nearestOf 6 (some .int) ∈ TB := TB_in (List.mem_of_getElem? (i := 1959) (by decide +kernel)) rfl
theorem t_1960 : Cond.methodLink RX12 313 yX12_ordersBy ∈ TB := TB_in (List.mem_of_getElem? (i := 1960) (by decide +kernel)) rfl
theorem t_1962 : Cond.instanceMethod yX12_ordersBy ∈ TB := TB_in (List.mem_of_getElem? (i := 1962) (by decide +kernel)) rfl
theorem t_1963 : Cond.code yX12_ordersBy cX12_ordersBy 4 none ∈ TB := TB_in (List.mem_of_getElem? (i := 1963) (by decide +kernel)) rfl
theorem t_1964 : Cond.methodLink RX12 310 yX12_free ∈ TB := TB_in (List.mem_of_getElem? (i := 1964) (by decide +kernel)) rfl
theorem t_1966 : Cond.instanceMethod yX12_free ∈ TB := TB_in (List.mem_of_getElem? (i := 1966) (by decide +kernel)) rfl
theorem t_1967 : Cond.code yX12_free cX12_free 2 (some .int) ∈ TB := TB_in (List.mem_of_getElem? (i := 1967) (by decide +kernel)) rfl
theorem t_1968 : Cond.methodLink RX12 316 yX12_bits ∈ TB := TB_in (List.mem_of_getElem? (i := 1968) (by decide +kernel)) rfl
theorem t_1969 : Cond.static yX12_bits ∈ TB := TB_in (List.mem_of_getElem? (i := 1969) (by decide +kernel)) rfl
theorem t_1970 : Cond.code yX12_bits cX12_bits 3 (some .int) ∈ TB := TB_in (List.mem_of_getElem? (i := 1970) (by decide +kernel)) rfl
theorem t_1975 : Cond.methodLink RX12 322 yX12_areFree ∈ TB := TB_in (List.mem_of_getElem? (i := 1975) (by decide +kernel)) rfl
theorem t_1977 : Cond.instanceMethod yX12_areFree ∈ TB := TB_in (List.mem_of_getElem? (i := 1977) (by decide +kernel)) rfl
theorem t_1978 : Cond.code yX12_areFree cX12_areFree 3 (some .boolean) ∈ TB := TB_in (List.mem_of_getElem? (i := 1978) (by decide +kernel)) rfl
theorem t_1991 : Cond.methodLink RX12 325 yX12_valueOf ∈ TB := TB_in (List.mem_of_getElem? (i := 1991) (by decide +kernel)) rfl
theorem t_1993 : Cond.instanceMethod yX12_valueOf ∈ TB := TB_in (List.mem_of_getElem? (i := 1993) (by decide +kernel)) rfl
theorem t_1994 : Cond.code yX12_valueOf cX12_valueOf 4 (some .int) ∈ TB := TB_in (List.mem_of_getElem? (i := 1994) (by decide +kernel)) rfl
theorem t_1999 : Cond.methodLink RX12 329 yX12_rowValue ∈ TB := TB_in (List.mem_of_getElem? (i := 1999) (by decide +kernel)) rfl
theorem t_2001 : Cond.instanceMethod yX12_rowValue ∈ TB := TB_in (List.mem_of_getElem? (i := 2001) (by decide +kernel)) rfl
theorem t_2002 : Cond.code yX12_rowValue cX12_rowValue 5 (some .int) ∈ TB := TB_in (List.mem_of_getElem? (i := 2002) (by decide +kernel)) rfl
theorem t_2003 : Cond.constant RX12 328 (-1000000) ∈ TB := TB_in (List.mem_of_getElem? (i := 2003) (by decide +kernel)) rfl
theorem t_2004 : Cond.methodLink RX12 332 yX12_nextRow ∈ TB := TB_in (List.mem_of_getElem? (i := 2004) (by decide +kernel)) rfl
theorem t_2006 : Cond.instanceMethod yX12_nextRow ∈ TB := TB_in (List.mem_of_getElem? (i := 2006) (by decide +kernel)) rfl
theorem t_2007 : Cond.code yX12_nextRow cX12_nextRow 2 (some .boolean) ∈ TB := TB_in (List.mem_of_getElem? (i := 2007) (by decide +kernel)) rfl
theorem t_2016 : Cond.methodLink RX12 335 yX12_canRival ∈ TB := TB_in (List.mem_of_getElem? (i := 2016) (by decide +kernel)) rfl
theorem t_2018 : Cond.instanceMethod yX12_canRival ∈ TB := TB_in (List.mem_of_getElem? (i := 2018) (by decide +kernel)) rfl
theorem t_2019 : Cond.code yX12_canRival cX12_canRival 2 (some .boolean) ∈ TB := TB_in (List.mem_of_getElem? (i := 2019) (by decide +kernel)) rfl
theorem t_2020 : Cond.methodLink RX12 341 yX12_isBestAgainst ∈ TB := TB_in (List.mem_of_getElem? (i := 2020) (by decide +kernel)) rfl
theorem t_2022 : Cond.instanceMethod yX12_isBestAgainst ∈ TB := TB_in (List.mem_of_getElem? (i := 2022) (by decide +kernel)) rfl
theorem t_2023 : Cond.code yX12_isBestAgainst cX12_isBestAgainst 4 (some .boolean) ∈ TB := TB_in (List.mem_of_getElem? (i := 2023) (by decide +kernel)) rfl
theorem t_2024 : Cond.methodLink RX12 338 yX12_shared ∈ TB := TB_in (List.mem_of_getElem? (i := 2024) (by decide +kernel)) rfl
theorem t_2026 : Cond.instanceMethod yX12_shared ∈ TB := TB_in (List.mem_of_getElem? (i := 2026) (by decide +kernel)) rfl
theorem t_2027 : Cond.code yX12_shared cX12_shared 3 (some .int) ∈ TB := TB_in (List.mem_of_getElem? (i := 2027) (by decide +kernel)) rfl
theorem t_2032 : Cond.methodLink RX12 344 yX12_isSafeByRumour ∈ TB := TB_in (List.mem_of_getElem? (i := 2032) (by decide +kernel)) rfl
theorem t_2034 : Cond.instanceMethod yX12_isSafeByRumour ∈ TB := TB_in (List.mem_of_getElem? (i := 2034) (by decide +kernel)) rfl
theorem t_2035 : Cond.code yX12_isSafeByRumour cX12_isSafeByRumour 4 (some .boolean) ∈ TB := TB_in (List.mem_of_getElem? (i := 2035) (by decide +kernel)) rfl
theorem t_2048 : Cond.methodLink RX12 356 yX12_schoolOf ∈ TB := TB_in (List.mem_of_getElem? (i := 2048) (by decide +kernel)) rfl
theorem t_2050 : Cond.instanceMethod yX12_schoolOf ∈ TB := TB_in (List.mem_of_getElem? (i := 2050) (by decide +kernel)) rfl
theorem t_2051 : Cond.code yX12_schoolOf cX12_schoolOf 5 (some .int) ∈ TB := TB_in (List.mem_of_getElem? (i := 2051) (by decide +kernel)) rfl
theorem t_2052 : Cond.methodLink RX12 347 yX12_tries ∈ TB := TB_in (List.mem_of_getElem? (i := 2052) (by decide +kernel)) rfl
theorem t_2054 : Cond.instanceMethod yX12_tries ∈ TB := TB_in (List.mem_of_getElem? (i := 2054) (by decide +kernel)) rfl
theorem t_2055 : Cond.code yX12_tries cX12_tries 2 none ∈ TB := TB_in (List.mem_of_getElem? (i := 2055) (by decide +kernel)) rfl
theorem t_2056 : Cond.methodLink RX12 350 yX12_works ∈ TB := TB_in (List.mem_of_getElem? (i := 2056) (by decide +kernel)) rfl
theorem t_2058 : Cond.instanceMethod yX12_works ∈ TB := TB_in (List.mem_of_getElem? (i := 2058) (by decide +kernel)) rfl
theorem t_2059 : Cond.code yX12_works cX12_works 7 none ∈ TB := TB_in (List.mem_of_getElem? (i := 2059) (by decide +kernel)) rfl
theorem t_2060 : Cond.methodLink RX12 353 yX12_back ∈ TB := TB_in (List.mem_of_getElem? (i := 2060) (by decide +kernel)) rfl
theorem t_2062 : Cond.instanceMethod yX12_back ∈ TB := TB_in (List.mem_of_getElem? (i := 2062) (by decide +kernel)) rfl
theorem t_2063 : Cond.code yX12_back cX12_back 2 none ∈ TB := TB_in (List.mem_of_getElem? (i := 2063) (by decide +kernel)) rfl
theorem t_2072 : Cond.methodLink RX12 359 yX12_octet ∈ TB := TB_in (List.mem_of_getElem? (i := 2072) (by decide +kernel)) rfl
theorem t_2074 : Cond.instanceMethod yX12_octet ∈ TB := TB_in (List.mem_of_getElem? (i := 2074) (by decide +kernel)) rfl
theorem t_2075 : Cond.code yX12_octet cX12_octet 2 (some .int) ∈ TB := TB_in (List.mem_of_getElem? (i := 2075) (by decide +kernel)) rfl
theorem t_2096 : Cond.methodLink RX12 376 yX12_draws ∈ TB := TB_in (List.mem_of_getElem? (i := 2096) (by decide +kernel)) rfl
theorem t_2098 : Cond.instanceMethod yX12_draws ∈ TB := TB_in (List.mem_of_getElem? (i := 2098) (by decide +kernel)) rfl
theorem t_2099 : Cond.code yX12_draws cX12_draws 7 (some .int) ∈ TB := TB_in (List.mem_of_getElem? (i := 2099) (by decide +kernel)) rfl
theorem t_2100 : Cond.methodLink RX12 373 yX12_draw ∈ TB := TB_in (List.mem_of_getElem? (i := 2100) (by decide +kernel)) rfl
theorem t_2102 : Cond.instanceMethod yX12_draw ∈ TB := TB_in (List.mem_of_getElem? (i := 2102) (by decide +kernel)) rfl
theorem t_2103 : Cond.code yX12_draw cX12_draw 2 (some .int) ∈ TB := TB_in (List.mem_of_getElem? (i := 2103) (by decide +kernel)) rfl
theorem t_2104 : Cond.constant RX12 372 1103515245 ∈ TB := TB_in (List.mem_of_getElem? (i := 2104) (by decide +kernel)) rfl
theorem t_2113 : Cond.methodLink RX12 382 yX12_bookLine ∈ TB := TB_in (List.mem_of_getElem? (i := 2113) (by decide +kernel)) rfl
theorem t_2115 : Cond.instanceMethod yX12_bookLine ∈ TB := TB_in (List.mem_of_getElem? (i := 2115) (by decide +kernel)) rfl
theorem t_2116 : Cond.code yX12_bookLine cX12_bookLine 3 (some .boolean) ∈ TB := TB_in (List.mem_of_getElem? (i := 2116) (by decide +kernel)) rfl
theorem t_2117 : Cond.methodLink RX12 385 yX12_books ∈ TB := TB_in (List.mem_of_getElem? (i := 2117) (by decide +kernel)) rfl
theorem t_2119 : Cond.instanceMethod yX12_books ∈ TB := TB_in (List.mem_of_getElem? (i := 2119) (by decide +kernel)) rfl
theorem t_2120 : Cond.code yX12_books cX12_books 6 (some .int) ∈ TB := TB_in (List.mem_of_getElem? (i := 2120) (by decide +kernel)) rfl
theorem t_2129 : Cond.methodLink RX12 413 yX12_nots ∈ TB := TB_in (List.mem_of_getElem? (i := 2129) (by decide +kernel)) rfl
theorem t_2131 : Cond.instanceMethod yX12_nots ∈ TB := TB_in (List.mem_of_getElem? (i := 2131) (by decide +kernel)) rfl
theorem t_2132 : Cond.code yX12_nots cX12_nots 1 none ∈ TB := TB_in (List.mem_of_getElem? (i := 2132) (by decide +kernel)) rfl
theorem t_2133 : Cond.methodLink RX12 397 yX12_code ∈ TB := TB_in (List.mem_of_getElem? (i := 2133) (by decide +kernel)) rfl
theorem t_2135 : Cond.instanceMethod yX12_code ∈ TB := TB_in (List.mem_of_getElem? (i := 2135) (by decide +kernel)) rfl
theorem t_2136 : Cond.code yX12_code cX12_code 4 none ∈ TB := TB_in (List.mem_of_getElem? (i := 2136) (by decide +kernel)) rfl
theorem t_2137 : Cond.methodLink RX12 416 yX12_joins ∈ TB := TB_in (List.mem_of_getElem? (i := 2137) (by decide +kernel)) rfl
theorem t_2139 : Cond.instanceMethod yX12_joins ∈ TB := TB_in (List.mem_of_getElem? (i := 2139) (by decide +kernel)) rfl
theorem t_2140 : Cond.code yX12_joins cX12_joins 2 none ∈ TB := TB_in (List.mem_of_getElem? (i := 2140) (by decide +kernel)) rfl
theorem t_2141 : Cond.methodLink RX12 419 yX12_behind ∈ TB := TB_in (List.mem_of_getElem? (i := 2141) (by decide +kernel)) rfl
theorem t_2143 : Cond.instanceMethod yX12_behind ∈ TB := TB_in (List.mem_of_getElem? (i := 2143) (by decide +kernel)) rfl
theorem t_2144 : Cond.code yX12_behind cX12_behind 1 (some .boolean) ∈ TB := TB_in (List.mem_of_getElem? (i := 2144) (by decide +kernel)) rfl
theorem t_2145 : Cond.methodLink RX12 422 yX12_operand ∈ TB := TB_in (List.mem_of_getElem? (i := 2145) (by decide +kernel)) rfl
theorem t_2147 : Cond.instanceMethod yX12_operand ∈ TB := TB_in (List.mem_of_getElem? (i := 2147) (by decide +kernel)) rfl
theorem t_2148 : Cond.code yX12_operand cX12_operand 5 (some .boolean) ∈ TB := TB_in (List.mem_of_getElem? (i := 2148) (by decide +kernel)) rfl
theorem t_2149 : Cond.methodLink RX12 404 yX12_leafOf ∈ TB := TB_in (List.mem_of_getElem? (i := 2149) (by decide +kernel)) rfl
theorem t_2151 : Cond.instanceMethod yX12_leafOf ∈ TB := TB_in (List.mem_of_getElem? (i := 2151) (by decide +kernel)) rfl
theorem t_2152 : Cond.code yX12_leafOf cX12_leafOf 1 (some .int) ∈ TB := TB_in (List.mem_of_getElem? (i := 2152) (by decide +kernel)) rfl
theorem t_2157 : Cond.methodLink RX12 429 yX12_isSaid ∈ TB := TB_in (List.mem_of_getElem? (i := 2157) (by decide +kernel)) rfl
theorem t_2159 : Cond.instanceMethod yX12_isSaid ∈ TB := TB_in (List.mem_of_getElem? (i := 2159) (by decide +kernel)) rfl
theorem t_2160 : Cond.code yX12_isSaid cX12_isSaid 5 (some .boolean) ∈ TB := TB_in (List.mem_of_getElem? (i := 2160) (by decide +kernel)) rfl
theorem t_2161 : Cond.methodLink RX12 425 yX12_isLeaf ∈ TB := TB_in (List.mem_of_getElem? (i := 2161) (by decide +kernel)) rfl
theorem t_2163 : Cond.instanceMethod yX12_isLeaf ∈ TB := TB_in (List.mem_of_getElem? (i := 2163) (by decide +kernel)) rfl
theorem t_2164 : Cond.code yX12_isLeaf cX12_isLeaf 6 (some .boolean) ∈ TB := TB_in (List.mem_of_getElem? (i := 2164) (by decide +kernel)) rfl
theorem t_2194 : Cond.fieldLink RX10 104 "LostCauses$Word" "letters" "J" ∈ TB := TB_in (List.mem_of_getElem? (i := 2194) (by decide +kernel)) rfl
theorem mk_X12_four : MkV yX12_four cX12_four 3 none RX12 1 := ⟨rfl, t_1568, t_1566, t_54, t_132, ⟨by decide +kernel, by decide +kernel, by decide +kernel⟩, Nat.le_of_ble_eq_true rfl⟩
theorem mk_X12_taken : MkV yX12_taken cX12_taken 2 none RX12 1 := ⟨rfl, t_1753, t_1752, t_57, t_132, ⟨by decide +kernel, by decide +kernel, by decide +kernel⟩, Nat.le_of_ble_eq_true rfl⟩
theorem mk_X12_clears : MkV yX12_clears cX12_clears 2 none RX12 0 := ⟨rfl, t_1604, t_1603, t_55, t_132, ⟨by decide +kernel, by decide +kernel, by decide +kernel⟩, Nat.le_of_ble_eq_true rfl⟩
theorem mk_X12_next : MkV yX12_next cX12_next 4 none RX12 0 := ⟨rfl, t_1757, t_1756, t_58, t_132, ⟨by decide +kernel, by decide +kernel, by decide +kernel⟩, Nat.le_of_ble_eq_true rfl⟩
theorem mk_X12_peek : MkV yX12_peek cX12_peek 1 (some .int) RX12 0 := ⟨rfl, t_1761, t_1760, t_59, t_132, ⟨by decide +kernel, by decide +kernel, by decide +kernel⟩, Nat.le_of_ble_eq_true rfl⟩
theorem mk_X12_isSmall : MkS yX12_isSmall cX12_isSmall 1 (some .boolean) 1 := ⟨t_1764, t_1763, t_132, ⟨by decide +kernel, by decide +kernel, by decide +kernel⟩, Nat.le_of_ble_eq_true rfl⟩
theorem mk_X12_isDigit : MkS yX12_isDigit cX12_isDigit 1 (some .boolean) 1 := ⟨t_1767, t_1766, t_132, ⟨by decide +kernel, by decide +kernel, by decide +kernel⟩, Nat.le_of_ble_eq_true rfl⟩
theorem mk_X12_line : MkV yX12_line cX12_line 2 (some .boolean) RX12 0 := ⟨rfl, t_1771, t_1770, t_60, t_132, ⟨by decide +kernel, by decide +kernel, by decide +kernel⟩, Nat.le_of_ble_eq_true rfl⟩
theorem mk_X12_isWord : MkV yX12_isWord cX12_isWord 3 (some .boolean) RX12 1 := ⟨rfl, t_1775, t_1774, t_61, t_132, ⟨by decide +kernel, by decide +kernel, by decide +kernel⟩, Nat.le_of_ble_eq_true rfl⟩
theorem mk_X12_fresh : MkV yX12_fresh cX12_fresh 2 (some .boolean) RX12 1 := ⟨rfl, t_1801, t_1800, t_66, t_132, ⟨by decide +kernel, by decide +kernel, by decide +kernel⟩, Nat.le_of_ble_eq_true rfl⟩
theorem mk_X12_isName : MkV yX12_isName cX12_isName 3 (some .boolean) RX12 0 := ⟨rfl, t_1805, t_1804, t_67, t_132, ⟨by decide +kernel, by decide +kernel, by decide +kernel⟩, Nat.le_of_ble_eq_true rfl⟩
theorem mk_X12_find : MkV yX12_find cX12_find 4 (some .int) RX12 2 := ⟨rfl, t_1809, t_1808, t_68, t_132, ⟨by decide +kernel, by decide +kernel, by decide +kernel⟩, Nat.le_of_ble_eq_true rfl⟩
theorem mk_X12_bad : MkV yX12_bad cX12_bad 2 (some .boolean) RX12 1 := ⟨rfl, t_1786, t_1785, t_63, t_132, ⟨by decide +kernel, by decide +kernel, by decide +kernel⟩, Nat.le_of_ble_eq_true rfl⟩
theorem mk_X12_puts : MkV yX12_puts cX12_puts 4 (some .boolean) RX12 3 := ⟨rfl, t_1790, t_1789, t_64, t_132, ⟨by decide +kernel, by decide +kernel, by decide +kernel⟩, Nat.le_of_ble_eq_true rfl⟩
theorem mk_X12_takes : MkV yX12_takes cX12_takes 3 (some .boolean) RX12 2 := ⟨rfl, t_1794, t_1793, t_65, t_132, ⟨by decide +kernel, by decide +kernel, by decide +kernel⟩, Nat.le_of_ble_eq_true rfl⟩
theorem mk_X12_isIn : MkS yX12_isIn cX12_isIn 3 (some .boolean) 3 := ⟨t_1797, t_1796, t_132, ⟨by decide +kernel, by decide +kernel, by decide +kernel⟩, Nat.le_of_ble_eq_true rfl⟩
theorem mk_X12_looksAt : MkV yX12_looksAt cX12_looksAt 3 (some .boolean) RX12 2 := ⟨rfl, t_1813, t_1812, t_69, t_132, ⟨by decide +kernel, by decide +kernel, by decide +kernel⟩, Nat.le_of_ble_eq_true rfl⟩
theorem mk_X12_isOnce : MkV yX12_isOnce cX12_isOnce 2 (some .boolean) RX12 1 := ⟨rfl, t_1779, t_1778, t_62, t_132, ⟨by decide +kernel, by decide +kernel, by decide +kernel⟩, Nat.le_of_ble_eq_true rfl⟩
theorem mk_X12_bitOf : MkS yX12_bitOf cX12_bitOf 2 (some .boolean) 2 := ⟨t_1782, t_1781, t_132, ⟨by decide +kernel, by decide +kernel, by decide +kernel⟩, Nat.le_of_ble_eq_true rfl⟩
theorem mk_X12_sign : MkV yX12_sign cX12_sign 2 (some .boolean) RX12 1 := ⟨rfl, t_1817, t_1816, t_70, t_132, ⟨by decide +kernel, by decide +kernel, by decide +kernel⟩, Nat.le_of_ble_eq_true rfl⟩
theorem mk_X12_isSign : MkV yX12_isSign cX12_isSign 2 (some .boolean) RX12 1 := ⟨rfl, t_1821, t_1820, t_71, t_132, ⟨by decide +kernel, by decide +kernel, by decide +kernel⟩, Nat.le_of_ble_eq_true rfl⟩
theorem mk_X12_begins : MkV yX12_begins cX12_begins 2 none RX12 0 := ⟨rfl, t_1608, t_1607, t_56, t_132, ⟨by decide +kernel, by decide +kernel, by decide +kernel⟩, Nat.le_of_ble_eq_true rfl⟩
theorem mk_X12_isCause : MkV yX12_isCause cX12_isCause 2 (some .boolean) RX12 1 := ⟨rfl, t_1833, t_1832, t_72, t_132, ⟨by decide +kernel, by decide +kernel, by decide +kernel⟩, Nat.le_of_ble_eq_true rfl⟩
theorem mk_X12_throwsIf : MkV yX12_throwsIf cX12_throwsIf 2 (some .boolean) RX12 1 := ⟨rfl, t_1837, t_1836, t_73, t_132, ⟨by decide +kernel, by decide +kernel, by decide +kernel⟩, Nat.le_of_ble_eq_true rfl⟩
theorem mk_X12_nearOf : MkV yX12_nearOf cX12_nearOf 3 (some .int) RX12 2 := ⟨rfl, t_1841, t_1840, t_74, t_132, ⟨by decide +kernel, by decide +kernel, by decide +kernel⟩, Nat.le_of_ble_eq_true rfl⟩
theorem mk_X12_forOf : MkV yX12_forOf cX12_forOf 3 (some .int) RX12 2 := ⟨rfl, t_1845, t_1844, t_75, t_132, ⟨by decide +kernel, by decide +kernel, by decide +kernel⟩, Nat.le_of_ble_eq_true rfl⟩
theorem mk_X12_sum : MkV yX12_sum cX12_sum 5 (some .int) RX12 2 := ⟨rfl, t_1849, t_1848, t_76, t_132, ⟨by decide +kernel, by decide +kernel, by decide +kernel⟩, Nat.le_of_ble_eq_true rfl⟩
theorem mk_X12_allOf : MkV yX12_allOf cX12_allOf 3 (some .int) RX12 2 := ⟨rfl, t_1853, t_1852, t_77, t_132, ⟨by decide +kernel, by decide +kernel, by decide +kernel⟩, Nat.le_of_ble_eq_true rfl⟩
theorem mk_X12_part : MkS yX12_part cX12_part 6 (some .int) 3 := ⟨t_1860, t_1859, t_132, ⟨by decide +kernel, by decide +kernel, by decide +kernel⟩, Nat.le_of_ble_eq_true rfl⟩
theorem mk_X12_isDeed : MkV yX12_isDeed cX12_isDeed 2 (some .boolean) RX12 1 := ⟨rfl, t_1868, t_1867, t_78, t_132, ⟨by decide +kernel, by decide +kernel, by decide +kernel⟩, Nat.le_of_ble_eq_true rfl⟩
theorem mk_X12_isClerk : MkV yX12_isClerk cX12_isClerk 2 (some .boolean) RX12 1 := ⟨rfl, t_1876, t_1875, t_79, t_132, ⟨by decide +kernel, by decide +kernel, by decide +kernel⟩, Nat.le_of_ble_eq_true rfl⟩
theorem mk_X12_whyTake : MkV yX12_whyTake cX12_whyTake 3 (some .int) RX12 2 := ⟨rfl, t_1888, t_1887, t_80, t_132, ⟨by decide +kernel, by decide +kernel, by decide +kernel⟩, Nat.le_of_ble_eq_true rfl⟩
theorem mk_X12_isSafe : MkV yX12_isSafe cX12_isSafe 3 (some .boolean) RX12 2 := ⟨rfl, t_1892, t_1891, t_81, t_132, ⟨by decide +kernel, by decide +kernel, by decide +kernel⟩, Nat.le_of_ble_eq_true rfl⟩
theorem mk_X12_isBelow : MkV yX12_isBelow cX12_isBelow 3 (some .boolean) RX12 2 := ⟨rfl, t_1896, t_1895, t_82, t_132, ⟨by decide +kernel, by decide +kernel, by decide +kernel⟩, Nat.le_of_ble_eq_true rfl⟩
theorem mk_X12_keep : MkV yX12_keep cX12_keep 2 none RX12 0 := ⟨rfl, t_1900, t_1899, t_83, t_132, ⟨by decide +kernel, by decide +kernel, by decide +kernel⟩, Nat.le_of_ble_eq_true rfl⟩
theorem mk_X12_taking : MkV yX12_taking cX12_taking 3 none RX12 2 := ⟨rfl, t_1904, t_1903, t_84, t_132, ⟨by decide +kernel, by decide +kernel, by decide +kernel⟩, Nat.le_of_ble_eq_true rfl⟩
theorem mk_X12_whyAct : MkV yX12_whyAct cX12_whyAct 4 (some .int) RX12 2 := ⟨rfl, t_1912, t_1911, t_85, t_132, ⟨by decide +kernel, by decide +kernel, by decide +kernel⟩, Nat.le_of_ble_eq_true rfl⟩
theorem mk_X12_acting : MkV yX12_acting cX12_acting 4 none RX12 2 := ⟨rfl, t_1916, t_1915, t_86, t_132, ⟨by decide +kernel, by decide +kernel, by decide +kernel⟩, Nat.le_of_ble_eq_true rfl⟩
theorem mk_X12_whyDrop : MkV yX12_whyDrop cX12_whyDrop 2 (some .int) RX12 1 := ⟨rfl, t_1924, t_1923, t_87, t_132, ⟨by decide +kernel, by decide +kernel, by decide +kernel⟩, Nat.le_of_ble_eq_true rfl⟩
theorem mk_X12_dropping : MkV yX12_dropping cX12_dropping 4 none RX12 1 := ⟨rfl, t_1928, t_1927, t_88, t_132, ⟨by decide +kernel, by decide +kernel, by decide +kernel⟩, Nat.le_of_ble_eq_true rfl⟩
theorem mk_X12_payOf : MkV yX12_payOf cX12_payOf 3 (some .int) RX12 2 := ⟨rfl, t_1932, t_1931, t_89, t_132, ⟨by decide +kernel, by decide +kernel, by decide +kernel⟩, Nat.le_of_ble_eq_true rfl⟩
theorem mk_X12_lesser : MkS yX12_lesser cX12_lesser 2 (some .int) 2 := ⟨t_1939, t_1938, t_132, ⟨by decide +kernel, by decide +kernel, by decide +kernel⟩, Nat.le_of_ble_eq_true rfl⟩
theorem mk_X12_week : MkV yX12_week cX12_week 2 none RX12 0 := ⟨rfl, t_1943, t_1942, t_90, t_132, ⟨by decide +kernel, by decide +kernel, by decide +kernel⟩, Nat.le_of_ble_eq_true rfl⟩
theorem mk_X12_ends : MkV yX12_ends cX12_ends 3 none RX12 1 := ⟨rfl, t_1947, t_1946, t_91, t_132, ⟨by decide +kernel, by decide +kernel, by decide +kernel⟩, Nat.le_of_ble_eq_true rfl⟩
theorem mk_X12_nearestOf : MkV yX12_nearestOf cX12_nearestOf 6 (some .int) RX12 2 := ⟨rfl, t_1959, t_1958, t_92, t_132, ⟨by decide +kernel, by decide +kernel, by decide +kernel⟩, Nat.le_of_ble_eq_true rfl⟩
theorem mk_X12_ordersBy : MkV yX12_ordersBy cX12_ordersBy 4 none RX12 1 := ⟨rfl, t_1963, t_1962, t_93, t_132, ⟨by decide +kernel, by decide +kernel, by decide +kernel⟩, Nat.le_of_ble_eq_true rfl⟩
theorem mk_X12_free : MkV yX12_free cX12_free 2 (some .int) RX12 1 := ⟨rfl, t_1967, t_1966, t_94, t_132, ⟨by decide +kernel, by decide +kernel, by decide +kernel⟩, Nat.le_of_ble_eq_true rfl⟩
theorem mk_X12_bits : MkS yX12_bits cX12_bits 3 (some .int) 1 := ⟨t_1970, t_1969, t_132, ⟨by decide +kernel, by decide +kernel, by decide +kernel⟩, Nat.le_of_ble_eq_true rfl⟩
theorem mk_X12_areFree : MkV yX12_areFree cX12_areFree 3 (some .boolean) RX12 2 := ⟨rfl, t_1978, t_1977, t_95, t_132, ⟨by decide +kernel, by decide +kernel, by decide +kernel⟩, Nat.le_of_ble_eq_true rfl⟩
theorem mk_X12_valueOf : MkV yX12_valueOf cX12_valueOf 4 (some .int) RX12 2 := ⟨rfl, t_1994, t_1993, t_96, t_132, ⟨by decide +kernel, by decide +kernel, by decide +kernel⟩, Nat.le_of_ble_eq_true rfl⟩
theorem mk_X12_rowValue : MkV yX12_rowValue cX12_rowValue 5 (some .int) RX12 0 := ⟨rfl, t_2002, t_2001, t_97, t_132, ⟨by decide +kernel, by decide +kernel, by decide +kernel⟩, Nat.le_of_ble_eq_true rfl⟩
theorem mk_X12_nextRow : MkV yX12_nextRow cX12_nextRow 2 (some .boolean) RX12 0 := ⟨rfl, t_2007, t_2006, t_98, t_132, ⟨by decide +kernel, by decide +kernel, by decide +kernel⟩, Nat.le_of_ble_eq_true rfl⟩
theorem mk_X12_canRival : MkV yX12_canRival cX12_canRival 2 (some .boolean) RX12 1 := ⟨rfl, t_2019, t_2018, t_99, t_132, ⟨by decide +kernel, by decide +kernel, by decide +kernel⟩, Nat.le_of_ble_eq_true rfl⟩
theorem mk_X12_isBestAgainst : MkV yX12_isBestAgainst cX12_isBestAgainst 4 (some .boolean) RX12 2 := ⟨rfl, t_2023, t_2022, t_100, t_132, ⟨by decide +kernel, by decide +kernel, by decide +kernel⟩, Nat.le_of_ble_eq_true rfl⟩
theorem mk_X12_shared : MkV yX12_shared cX12_shared 3 (some .int) RX12 2 := ⟨rfl, t_2027, t_2026, t_101, t_132, ⟨by decide +kernel, by decide +kernel, by decide +kernel⟩, Nat.le_of_ble_eq_true rfl⟩
theorem mk_X12_isSafeByRumour : MkV yX12_isSafeByRumour cX12_isSafeByRumour 4 (some .boolean) RX12 2 := ⟨rfl, t_2035, t_2034, t_102, t_132, ⟨by decide +kernel, by decide +kernel, by decide +kernel⟩, Nat.le_of_ble_eq_true rfl⟩
theorem mk_X12_schoolOf : MkV yX12_schoolOf cX12_schoolOf 5 (some .int) RX12 2 := ⟨rfl, t_2051, t_2050, t_103, t_132, ⟨by decide +kernel, by decide +kernel, by decide +kernel⟩, Nat.le_of_ble_eq_true rfl⟩
theorem mk_X12_tries : MkV yX12_tries cX12_tries 2 none RX12 0 := ⟨rfl, t_2055, t_2054, t_104, t_132, ⟨by decide +kernel, by decide +kernel, by decide +kernel⟩, Nat.le_of_ble_eq_true rfl⟩
theorem mk_X12_works : MkV yX12_works cX12_works 7 none RX12 2 := ⟨rfl, t_2059, t_2058, t_105, t_132, ⟨by decide +kernel, by decide +kernel, by decide +kernel⟩, Nat.le_of_ble_eq_true rfl⟩
theorem mk_X12_back : MkV yX12_back cX12_back 2 none RX12 0 := ⟨rfl, t_2063, t_2062, t_106, t_132, ⟨by decide +kernel, by decide +kernel, by decide +kernel⟩, Nat.le_of_ble_eq_true rfl⟩
theorem mk_X12_octet : MkV yX12_octet cX12_octet 2 (some .int) RX12 1 := ⟨rfl, t_2075, t_2074, t_107, t_132, ⟨by decide +kernel, by decide +kernel, by decide +kernel⟩, Nat.le_of_ble_eq_true rfl⟩
theorem mk_X12_draws : MkV yX12_draws cX12_draws 7 (some .int) RX12 2 := ⟨rfl, t_2099, t_2098, t_108, t_132, ⟨by decide +kernel, by decide +kernel, by decide +kernel⟩, Nat.le_of_ble_eq_true rfl⟩
theorem mk_X12_draw : MkV yX12_draw cX12_draw 2 (some .int) RX12 1 := ⟨rfl, t_2103, t_2102, t_109, t_132, ⟨by decide +kernel, by decide +kernel, by decide +kernel⟩, Nat.le_of_ble_eq_true rfl⟩
theorem mk_X12_bookLine : MkV yX12_bookLine cX12_bookLine 3 (some .boolean) RX12 0 := ⟨rfl, t_2116, t_2115, t_110, t_132, ⟨by decide +kernel, by decide +kernel, by decide +kernel⟩, Nat.le_of_ble_eq_true rfl⟩
theorem mk_X12_books : MkV yX12_books cX12_books 6 (some .int) RX12 1 := ⟨rfl, t_2120, t_2119, t_111, t_132, ⟨by decide +kernel, by decide +kernel, by decide +kernel⟩, Nat.le_of_ble_eq_true rfl⟩
theorem mk_X12_operand : MkV yX12_operand cX12_operand 5 (some .boolean) RX12 0 := ⟨rfl, t_2148, t_2147, t_116, t_132, ⟨by decide +kernel, by decide +kernel, by decide +kernel⟩, Nat.le_of_ble_eq_true rfl⟩
theorem mk_X12_leafOf : MkV yX12_leafOf cX12_leafOf 1 (some .int) RX12 0 := ⟨rfl, t_2152, t_2151, t_117, t_132, ⟨by decide +kernel, by decide +kernel, by decide +kernel⟩, Nat.le_of_ble_eq_true rfl⟩
theorem mk_X12_code : MkV yX12_code cX12_code 4 none RX12 3 := ⟨rfl, t_2136, t_2135, t_113, t_132, ⟨by decide +kernel, by decide +kernel, by decide +kernel⟩, Nat.le_of_ble_eq_true rfl⟩
theorem mk_X12_behind : MkV yX12_behind cX12_behind 1 (some .boolean) RX12 0 := ⟨rfl, t_2144, t_2143, t_115, t_132, ⟨by decide +kernel, by decide +kernel, by decide +kernel⟩, Nat.le_of_ble_eq_true rfl⟩
theorem mk_X12_nots : MkV yX12_nots cX12_nots 1 none RX12 0 := ⟨rfl, t_2132, t_2131, t_112, t_132, ⟨by decide +kernel, by decide +kernel, by decide +kernel⟩, Nat.le_of_ble_eq_true rfl⟩
theorem mk_X12_joins : MkV yX12_joins cX12_joins 2 none RX12 1 := ⟨rfl, t_2140, t_2139, t_114, t_132, ⟨by decide +kernel, by decide +kernel, by decide +kernel⟩, Nat.le_of_ble_eq_true rfl⟩
theorem mk_X12_isSaid : MkV yX12_isSaid cX12_isSaid 5 (some .boolean) RX12 1 := ⟨rfl, t_2160, t_2159, t_118, t_132, ⟨by decide +kernel, by decide +kernel, by decide +kernel⟩, Nat.le_of_ble_eq_true rfl⟩
theorem mk_X12_isLeaf : MkV yX12_isLeaf cX12_isLeaf 6 (some .boolean) RX12 4 := ⟨rfl, t_2164, t_2163, t_119, t_132, ⟨by decide +kernel, by decide +kernel, by decide +kernel⟩, Nat.le_of_ble_eq_true rfl⟩
theorem mk_X8_length : MkV yX8_length cX8_length 1 (some .int) RX8 0 := ⟨rfl, t_540, t_538, t_539, t_122, ⟨by decide +kernel, by decide +kernel, by decide +kernel⟩, Nat.le_of_ble_eq_true rfl⟩
theorem mk_X8_addNumber : MkV yX8_addNumber cX8_addNumber 2 none RX8 1 := ⟨rfl, t_544, t_542, t_543, t_122, ⟨by decide +kernel, by decide +kernel, by decide +kernel⟩, Nat.le_of_ble_eq_true rfl⟩
theorem mk_X8_addByte : MkV yX8_addByte cX8_addByte 2 none RX8 1 := ⟨rfl, t_548, t_547, t_3, t_122, ⟨by decide +kernel, by decide +kernel, by decide +kernel⟩, Nat.le_of_ble_eq_true rfl⟩
theorem mk_X8_cutTo : MkV yX8_cutTo cX8_cutTo 2 (some .boolean) RX8 1 := ⟨rfl, t_556, t_554, t_555, t_122, ⟨by decide +kernel, by decide +kernel, by decide +kernel⟩, Nat.le_of_ble_eq_true rfl⟩
theorem mk_X4_read : MkV yX4_read cX4_read 2 (some .int) RX4 0 := ⟨rfl, t_564, t_562, t_563, t_124, ⟨by decide +kernel, by decide +kernel, by decide +kernel⟩, Nat.le_of_ble_eq_true rfl⟩
theorem mk_X5_empty : MkV yX5_empty cX5_empty 2 none RX5 0 := ⟨rfl, t_568, t_566, t_567, t_123, ⟨by decide +kernel, by decide +kernel, by decide +kernel⟩, Nat.le_of_ble_eq_true rfl⟩
theorem mk_X8_begin : MkV yX8_begin cX8_begin 2 none RX8 1 := ⟨rfl, t_572, t_570, t_571, t_122, ⟨by decide +kernel, by decide +kernel, by decide +kernel⟩, Nat.le_of_ble_eq_true rfl⟩
theorem mk_X8_advance : MkV yX8_advance cX8_advance 2 none RX8 0 := ⟨rfl, t_576, t_574, t_575, t_122, ⟨by decide +kernel, by decide +kernel, by decide +kernel⟩, Nat.le_of_ble_eq_true rfl⟩
theorem mk_X8_at : MkV yX8_at cX8_at 2 (some .int) RX8 1 := ⟨rfl, t_580, t_578, t_579, t_122, ⟨by decide +kernel, by decide +kernel, by decide +kernel⟩, Nat.le_of_ble_eq_true rfl⟩
theorem mk_X8_readRun : MkV yX8_readRun cX8_readRun 4 none RX8 0 := ⟨rfl, t_587, t_586, t_4, t_122, ⟨by decide +kernel, by decide +kernel, by decide +kernel⟩, Nat.le_of_ble_eq_true rfl⟩
theorem mk_X8_isTokenSign : MkS yX8_isTokenSign cX8_isTokenSign 1 (some .boolean) 1 := ⟨t_591, t_590, t_122, ⟨by decide +kernel, by decide +kernel, by decide +kernel⟩, Nat.le_of_ble_eq_true rfl⟩
theorem mk_X8_isAtEnd : MkV yX8_isAtEnd cX8_isAtEnd 1 (some .boolean) RX8 0 := ⟨rfl, t_595, t_593, t_594, t_122, ⟨by decide +kernel, by decide +kernel, by decide +kernel⟩, Nat.le_of_ble_eq_true rfl⟩
theorem mk_X4_readLine : MkV yX4_readLine cX4_readLine 1 (some .boolean) RX4 0 := ⟨rfl, t_599, t_598, t_5, t_124, ⟨by decide +kernel, by decide +kernel, by decide +kernel⟩, Nat.le_of_ble_eq_true rfl⟩
theorem mk_X8_isWord : MkV yX8_isWord cX8_isWord 2 (some .boolean) RX8 1 := ⟨rfl, t_605, t_603, t_604, t_122, ⟨by decide +kernel, by decide +kernel, by decide +kernel⟩, Nat.le_of_ble_eq_true rfl⟩
theorem mk_X10_letters : MkV yX10_letters cX10_letters 1 (some .long) RX10 0 := ⟨rfl, t_609, t_607, t_608, t_135, ⟨by decide +kernel, by decide +kernel, by decide +kernel⟩, Nat.le_of_ble_eq_true rfl⟩
theorem mk_X8_fail : MkV yX8_fail cX8_fail 2 (some .boolean) RX8 1 := ⟨rfl, t_617, t_615, t_616, t_122, ⟨by decide +kernel, by decide +kernel, by decide +kernel⟩, Nat.le_of_ble_eq_true rfl⟩
theorem mk_X4_readClerk : MkV yX4_readClerk cX4_readClerk 1 (some .boolean) RX4 0 := ⟨rfl, t_732, t_731, t_12, t_124, ⟨by decide +kernel, by decide +kernel, by decide +kernel⟩, Nat.le_of_ble_eq_true rfl⟩
theorem mk_X5_clerks : MkV yX5_clerks cX5_clerks 1 (some .int) RX5 0 := ⟨rfl, t_452, t_450, t_451, t_123, ⟨by decide +kernel, by decide +kernel, by decide +kernel⟩, Nat.le_of_ble_eq_true rfl⟩
theorem mk_X4_isNewName : MkV yX4_isNewName cX4_isNewName 1 (some .boolean) RX4 0 := ⟨rfl, t_652, t_651, t_9, t_124, ⟨by decide +kernel, by decide +kernel, by decide +kernel⟩, Nat.le_of_ble_eq_true rfl⟩
theorem mk_X8_isName : MkV yX8_isName cX8_isName 1 (some .boolean) RX8 0 := ⟨rfl, t_656, t_654, t_655, t_122, ⟨by decide +kernel, by decide +kernel, by decide +kernel⟩, Nat.le_of_ble_eq_true rfl⟩
theorem mk_X10_isReserved : MkS yX10_isReserved cX10_isReserved 3 (some .boolean) 1 := ⟨t_659, t_658, t_135, ⟨by decide +kernel, by decide +kernel, by decide +kernel⟩, Nat.le_of_ble_eq_true rfl⟩
theorem mk_X8_letters : MkV yX8_letters cX8_letters 1 (some .long) RX8 0 := ⟨rfl, t_665, t_663, t_664, t_122, ⟨by decide +kernel, by decide +kernel, by decide +kernel⟩, Nat.le_of_ble_eq_true rfl⟩
theorem mk_X5_isToldName : MkV yX5_isToldName cX5_isToldName 3 (some .boolean) RX5 1 := ⟨rfl, t_669, t_667, t_668, t_123, ⟨by decide +kernel, by decide +kernel, by decide +kernel⟩, Nat.le_of_ble_eq_true rfl⟩
theorem mk_X5_causeNamed : MkV yX5_causeNamed cX5_causeNamed 3 (some .int) RX5 1 := ⟨rfl, t_673, t_671, t_672, t_123, ⟨by decide +kernel, by decide +kernel, by decide +kernel⟩, Nat.le_of_ble_eq_true rfl⟩
theorem mk_X5_placeOf : MkS yX5_placeOf cX5_placeOf 5 (some .int) 3 := ⟨t_676, t_675, t_123, ⟨by decide +kernel, by decide +kernel, by decide +kernel⟩, Nat.le_of_ble_eq_true rfl⟩
theorem mk_X5_deedNamed : MkV yX5_deedNamed cX5_deedNamed 3 (some .int) RX5 1 := ⟨rfl, t_680, t_678, t_679, t_123, ⟨by decide +kernel, by decide +kernel, by decide +kernel⟩, Nat.le_of_ble_eq_true rfl⟩
theorem mk_X5_clerkNamed : MkV yX5_clerkNamed cX5_clerkNamed 3 (some .int) RX5 1 := ⟨rfl, t_684, t_682, t_683, t_123, ⟨by decide +kernel, by decide +kernel, by decide +kernel⟩, Nat.le_of_ble_eq_true rfl⟩
theorem mk_X5_addClerk : MkV yX5_addClerk cX5_addClerk 3 none RX5 1 := ⟨rfl, t_737, t_735, t_736, t_123, ⟨by decide +kernel, by decide +kernel, by decide +kernel⟩, Nat.le_of_ble_eq_true rfl⟩
theorem mk_X8_takeNumber : MkV yX8_takeNumber cX8_takeNumber 3 (some .boolean) RX8 2 := ⟨rfl, t_622, t_620, t_621, t_122, ⟨by decide +kernel, by decide +kernel, by decide +kernel⟩, Nat.le_of_ble_eq_true rfl⟩
theorem mk_X8_taken : MkV yX8_taken cX8_taken 1 (some .int) RX8 0 := ⟨rfl, t_627, t_625, t_626, t_122, ⟨by decide +kernel, by decide +kernel, by decide +kernel⟩, Nat.le_of_ble_eq_true rfl⟩
theorem mk_X5_tellLastClerk : MkV yX5_tellLastClerk cX5_tellLastClerk 2 none RX5 1 := ⟨rfl, t_741, t_739, t_740, t_123, ⟨by decide +kernel, by decide +kernel, by decide +kernel⟩, Nat.le_of_ble_eq_true rfl⟩
theorem mk_X4_readDeed : MkV yX4_readDeed cX4_readDeed 2 (some .boolean) RX4 0 := ⟨rfl, t_717, t_716, t_11, t_124, ⟨by decide +kernel, by decide +kernel, by decide +kernel⟩, Nat.le_of_ble_eq_true rfl⟩
theorem mk_X5_deeds : MkV yX5_deeds cX5_deeds 1 (some .int) RX5 0 := ⟨rfl, t_476, t_474, t_475, t_123, ⟨by decide +kernel, by decide +kernel, by decide +kernel⟩, Nat.le_of_ble_eq_true rfl⟩
theorem mk_X5_addDeed : MkV yX5_addDeed cX5_addDeed 3 none RX5 1 := ⟨rfl, t_722, t_720, t_721, t_123, ⟨by decide +kernel, by decide +kernel, by decide +kernel⟩, Nat.le_of_ble_eq_true rfl⟩
theorem mk_X5_tellLastDeed : MkV yX5_tellLastDeed cX5_tellLastDeed 3 none RX5 2 := ⟨rfl, t_726, t_724, t_725, t_123, ⟨by decide +kernel, by decide +kernel, by decide +kernel⟩, Nat.le_of_ble_eq_true rfl⟩
theorem mk_X4_readRumour : MkV yX4_readRumour cX4_readRumour 3 (some .boolean) RX4 0 := ⟨rfl, t_698, t_697, t_10, t_124, ⟨by decide +kernel, by decide +kernel, by decide +kernel⟩, Nat.le_of_ble_eq_true rfl⟩
theorem mk_X5_hasRumour : MkV yX5_hasRumour cX5_hasRumour 2 (some .boolean) RX5 1 := ⟨rfl, t_703, t_701, t_702, t_123, ⟨by decide +kernel, by decide +kernel, by decide +kernel⟩, Nat.le_of_ble_eq_true rfl⟩
theorem mk_X5_hasCause : MkV yX5_hasCause cX5_hasCause 2 (some .boolean) RX5 1 := ⟨rfl, t_707, t_705, t_706, t_123, ⟨by decide +kernel, by decide +kernel, by decide +kernel⟩, Nat.le_of_ble_eq_true rfl⟩
theorem mk_X5_tellRumour : MkV yX5_tellRumour cX5_tellRumour 4 none RX5 3 := ⟨rfl, t_711, t_709, t_710, t_123, ⟨by decide +kernel, by decide +kernel, by decide +kernel⟩, Nat.le_of_ble_eq_true rfl⟩
theorem mk_X4_readCause : MkV yX4_readCause cX4_readCause 2 (some .boolean) RX4 0 := ⟨rfl, t_647, t_646, t_8, t_124, ⟨by decide +kernel, by decide +kernel, by decide +kernel⟩, Nat.le_of_ble_eq_true rfl⟩
theorem mk_X5_causes : MkV yX5_causes cX5_causes 1 (some .int) RX5 0 := ⟨rfl, t_440, t_438, t_439, t_123, ⟨by decide +kernel, by decide +kernel, by decide +kernel⟩, Nat.le_of_ble_eq_true rfl⟩
theorem mk_X5_addCause : MkV yX5_addCause cX5_addCause 3 none RX5 1 := ⟨rfl, t_688, t_686, t_687, t_123, ⟨by decide +kernel, by decide +kernel, by decide +kernel⟩, Nat.le_of_ble_eq_true rfl⟩
theorem mk_X5_tellLastCause : MkV yX5_tellLastCause cX5_tellLastCause 3 none RX5 2 := ⟨rfl, t_692, t_690, t_691, t_123, ⟨by decide +kernel, by decide +kernel, by decide +kernel⟩, Nat.le_of_ble_eq_true rfl⟩
theorem mk_X4_readCoin : MkV yX4_readCoin cX4_readCoin 1 (some .boolean) RX4 0 := ⟨rfl, t_637, t_636, t_7, t_124, ⟨by decide +kernel, by decide +kernel, by decide +kernel⟩, Nat.le_of_ble_eq_true rfl⟩
theorem mk_X5_tellCoin : MkV yX5_tellCoin cX5_tellCoin 2 none RX5 1 := ⟨rfl, t_641, t_639, t_640, t_123, ⟨by decide +kernel, by decide +kernel, by decide +kernel⟩, Nat.le_of_ble_eq_true rfl⟩
theorem mk_X4_readBounds : MkV yX4_readBounds cX4_readBounds 2 (some .boolean) RX4 0 := ⟨rfl, t_613, t_612, t_6, t_124, ⟨by decide +kernel, by decide +kernel, by decide +kernel⟩, Nat.le_of_ble_eq_true rfl⟩
theorem mk_X5_tellLine : MkV yX5_tellLine cX5_tellLine 3 none RX5 2 := ⟨rfl, t_631, t_629, t_630, t_123, ⟨by decide +kernel, by decide +kernel, by decide +kernel⟩, Nat.le_of_ble_eq_true rfl⟩
theorem mk_X8_takeSign : MkV yX8_takeSign cX8_takeSign 2 (some .boolean) RX8 1 := ⟨rfl, t_745, t_743, t_744, t_122, ⟨by decide +kernel, by decide +kernel, by decide +kernel⟩, Nat.le_of_ble_eq_true rfl⟩
theorem mk_X8_empty : MkV yX8_empty cX8_empty 1 none RX8 0 := ⟨rfl, t_749, t_747, t_748, t_122, ⟨by decide +kernel, by decide +kernel, by decide +kernel⟩, Nat.le_of_ble_eq_true rfl⟩
theorem mk_X8_faultKind : MkV yX8_faultKind cX8_faultKind 1 (some .int) RX8 0 := ⟨rfl, t_753, t_751, t_752, t_122, ⟨by decide +kernel, by decide +kernel, by decide +kernel⟩, Nat.le_of_ble_eq_true rfl⟩
theorem mk_X5_copyFrom : MkV yX5_copyFrom cX5_copyFrom 2 none RX5 1 := ⟨rfl, t_761, t_759, t_760, t_123, ⟨by decide +kernel, by decide +kernel, by decide +kernel⟩, Nat.le_of_ble_eq_true rfl⟩
theorem mk_X9_sumUp : MkV yX9_sumUp cX9_sumUp 4 none RX9 0 := ⟨rfl, t_472, t_470, t_471, t_126, ⟨by decide +kernel, by decide +kernel, by decide +kernel⟩, Nat.le_of_ble_eq_true rfl⟩
theorem mk_X5_ofDeed : MkV yX5_ofDeed cX5_ofDeed 3 (some .int) RX5 2 := ⟨rfl, t_480, t_478, t_479, t_123, ⟨by decide +kernel, by decide +kernel, by decide +kernel⟩, Nat.le_of_ble_eq_true rfl⟩
theorem mk_X0_begin : MkV yX0_begin cX0_begin 3 none RX0 0 := ⟨rfl, t_436, t_434, t_435, t_125, ⟨by decide +kernel, by decide +kernel, by decide +kernel⟩, Nat.le_of_ble_eq_true rfl⟩
theorem mk_X5_ofCause : MkV yX5_ofCause cX5_ofCause 3 (some .int) RX5 2 := ⟨rfl, t_444, t_442, t_443, t_123, ⟨by decide +kernel, by decide +kernel, by decide +kernel⟩, Nat.le_of_ble_eq_true rfl⟩
theorem mk_X0_setCause : MkV yX0_setCause cX0_setCause 4 none RX0 3 := ⟨rfl, t_448, t_447, t_0, t_125, ⟨by decide +kernel, by decide +kernel, by decide +kernel⟩, Nat.le_of_ble_eq_true rfl⟩
theorem mk_X5_zealOf : MkV yX5_zealOf cX5_zealOf 2 (some .int) RX5 1 := ⟨rfl, t_456, t_454, t_455, t_123, ⟨by decide +kernel, by decide +kernel, by decide +kernel⟩, Nat.le_of_ble_eq_true rfl⟩
theorem mk_X0_setClerk : MkV yX0_setClerk cX0_setClerk 4 none RX0 3 := ⟨rfl, t_460, t_459, t_1, t_125, ⟨by decide +kernel, by decide +kernel, by decide +kernel⟩, Nat.le_of_ble_eq_true rfl⟩
theorem mk_X5_coin : MkV yX5_coin cX5_coin 1 (some .int) RX5 0 := ⟨rfl, t_464, t_462, t_463, t_123, ⟨by decide +kernel, by decide +kernel, by decide +kernel⟩, Nat.le_of_ble_eq_true rfl⟩
theorem mk_X0_setNow : MkV yX0_setNow cX0_setNow 3 none RX0 2 := ⟨rfl, t_468, t_467, t_2, t_125, ⟨by decide +kernel, by decide +kernel, by decide +kernel⟩, Nat.le_of_ble_eq_true rfl⟩
theorem mk_X7_empty : MkV yX7_empty cX7_empty 1 none RX7 0 := ⟨rfl, t_768, t_766, t_767, t_129, ⟨by decide +kernel, by decide +kernel, by decide +kernel⟩, Nat.le_of_ble_eq_true rfl⟩
theorem mk_X0_forget : MkV yX0_forget cX0_forget 1 none RX0 0 := ⟨rfl, t_772, t_770, t_771, t_125, ⟨by decide +kernel, by decide +kernel, by decide +kernel⟩, Nat.le_of_ble_eq_true rfl⟩
theorem mk_X8_faultPlace : MkV yX8_faultPlace cX8_faultPlace 1 (some .int) RX8 0 := ⟨rfl, t_757, t_755, t_756, t_122, ⟨by decide +kernel, by decide +kernel, by decide +kernel⟩, Nat.le_of_ble_eq_true rfl⟩
theorem mk_X0_ofCause : MkV yX0_ofCause cX0_ofCause 3 (some .int) RX0 2 := ⟨rfl, t_809, t_807, t_808, t_125, ⟨by decide +kernel, by decide +kernel, by decide +kernel⟩, Nat.le_of_ble_eq_true rfl⟩
theorem mk_X0_nearness : MkV yX0_nearness cX0_nearness 2 (some .int) RX0 1 := ⟨rfl, t_898, t_896, t_897, t_125, ⟨by decide +kernel, by decide +kernel, by decide +kernel⟩, Nat.le_of_ble_eq_true rfl⟩
theorem mk_X5_nearness : MkV yX5_nearness cX5_nearness 4 (some .int) RX5 2 := ⟨rfl, t_902, t_900, t_901, t_123, ⟨by decide +kernel, by decide +kernel, by decide +kernel⟩, Nat.le_of_ble_eq_true rfl⟩
theorem mk_X11_leastTerm : MkS yX11_leastTerm cX11_leastTerm 5 (some .int) 3 := ⟨t_1535, t_1534, t_121, ⟨by decide +kernel, by decide +kernel, by decide +kernel⟩, Nat.le_of_ble_eq_true rfl⟩
theorem mk_X11_greatestDivisor : MkS yX11_greatestDivisor cX11_greatestDivisor 6 (some .int) 2 := ⟨t_1538, t_1537, t_121, ⟨by decide +kernel, by decide +kernel, by decide +kernel⟩, Nat.le_of_ble_eq_true rfl⟩
theorem mk_X5_hasDeed : MkV yX5_hasDeed cX5_hasDeed 2 (some .boolean) RX5 1 := ⟨rfl, t_784, t_782, t_783, t_123, ⟨by decide +kernel, by decide +kernel, by decide +kernel⟩, Nat.le_of_ble_eq_true rfl⟩
theorem mk_X5_hasClerk : MkV yX5_hasClerk cX5_hasClerk 2 (some .boolean) RX5 1 := ⟨rfl, t_793, t_791, t_792, t_123, ⟨by decide +kernel, by decide +kernel, by decide +kernel⟩, Nat.le_of_ble_eq_true rfl⟩
theorem mk_X0_ofClerk : MkV yX0_ofClerk cX0_ofClerk 3 (some .int) RX0 2 := ⟨rfl, t_797, t_795, t_796, t_125, ⟨by decide +kernel, by decide +kernel, by decide +kernel⟩, Nat.le_of_ble_eq_true rfl⟩
theorem mk_X0_ofNow : MkV yX0_ofNow cX0_ofNow 2 (some .int) RX0 1 := ⟨rfl, t_813, t_811, t_812, t_125, ⟨by decide +kernel, by decide +kernel, by decide +kernel⟩, Nat.le_of_ble_eq_true rfl⟩
theorem mk_X0_deadBits : MkV yX0_deadBits cX0_deadBits 3 (some .int) RX0 0 := ⟨rfl, t_805, t_803, t_804, t_125, ⟨by decide +kernel, by decide +kernel, by decide +kernel⟩, Nat.le_of_ble_eq_true rfl⟩
theorem mk_X0_whyNotTake : MkV yX0_whyNotTake cX0_whyNotTake 3 (some .int) RX0 2 := ⟨rfl, t_822, t_820, t_821, t_125, ⟨by decide +kernel, by decide +kernel, by decide +kernel⟩, Nat.le_of_ble_eq_true rfl⟩
theorem mk_X0_isFree : MkV yX0_isFree cX0_isFree 2 (some .boolean) RX0 1 := ⟨rfl, t_826, t_824, t_825, t_125, ⟨by decide +kernel, by decide +kernel, by decide +kernel⟩, Nat.le_of_ble_eq_true rfl⟩
theorem mk_X0_isSafe : MkV yX0_isSafe cX0_isSafe 2 (some .boolean) RX0 1 := ⟨rfl, t_831, t_829, t_830, t_125, ⟨by decide +kernel, by decide +kernel, by decide +kernel⟩, Nat.le_of_ble_eq_true rfl⟩
theorem mk_X5_isSafe : MkV yX5_isSafe cX5_isSafe 3 (some .boolean) RX5 2 := ⟨rfl, t_835, t_833, t_834, t_123, ⟨by decide +kernel, by decide +kernel, by decide +kernel⟩, Nat.le_of_ble_eq_true rfl⟩
theorem mk_X0_weeksLeft : MkV yX0_weeksLeft cX0_weeksLeft 1 (some .int) RX0 0 := ⟨rfl, t_839, t_837, t_838, t_125, ⟨by decide +kernel, by decide +kernel, by decide +kernel⟩, Nat.le_of_ble_eq_true rfl⟩
theorem mk_X0_remember : MkV yX0_remember cX0_remember 1 none RX0 0 := ⟨rfl, t_844, t_842, t_843, t_125, ⟨by decide +kernel, by decide +kernel, by decide +kernel⟩, Nat.le_of_ble_eq_true rfl⟩
theorem mk_X0_rememberRow : MkV yX0_rememberRow cX0_rememberRow 2 none RX0 1 := ⟨rfl, t_848, t_846, t_847, t_125, ⟨by decide +kernel, by decide +kernel, by decide +kernel⟩, Nat.le_of_ble_eq_true rfl⟩
theorem mk_X0_doTake : MkV yX0_doTake cX0_doTake 3 none RX0 2 := ⟨rfl, t_853, t_851, t_852, t_125, ⟨by decide +kernel, by decide +kernel, by decide +kernel⟩, Nat.le_of_ble_eq_true rfl⟩
theorem mk_X0_whyNotAct : MkV yX0_whyNotAct cX0_whyNotAct 4 (some .int) RX0 2 := ⟨rfl, t_861, t_859, t_860, t_125, ⟨by decide +kernel, by decide +kernel, by decide +kernel⟩, Nat.le_of_ble_eq_true rfl⟩
theorem mk_X0_doAct : MkV yX0_doAct cX0_doAct 4 none RX0 2 := ⟨rfl, t_866, t_864, t_865, t_125, ⟨by decide +kernel, by decide +kernel, by decide +kernel⟩, Nat.le_of_ble_eq_true rfl⟩
theorem mk_X0_addCause : MkV yX0_addCause cX0_addCause 4 none RX0 3 := ⟨rfl, t_870, t_869, t_13, t_125, ⟨by decide +kernel, by decide +kernel, by decide +kernel⟩, Nat.le_of_ble_eq_true rfl⟩
theorem mk_X0_addClerk : MkV yX0_addClerk cX0_addClerk 4 none RX0 3 := ⟨rfl, t_874, t_873, t_14, t_125, ⟨by decide +kernel, by decide +kernel, by decide +kernel⟩, Nat.le_of_ble_eq_true rfl⟩
theorem mk_X0_addNow : MkV yX0_addNow cX0_addNow 3 none RX0 2 := ⟨rfl, t_878, t_877, t_15, t_125, ⟨by decide +kernel, by decide +kernel, by decide +kernel⟩, Nat.le_of_ble_eq_true rfl⟩
theorem mk_X0_whyNotDrop : MkV yX0_whyNotDrop cX0_whyNotDrop 2 (some .int) RX0 1 := ⟨rfl, t_886, t_884, t_885, t_125, ⟨by decide +kernel, by decide +kernel, by decide +kernel⟩, Nat.le_of_ble_eq_true rfl⟩
theorem mk_X0_doDrop : MkV yX0_doDrop cX0_doDrop 4 none RX0 1 := ⟨rfl, t_890, t_888, t_889, t_125, ⟨by decide +kernel, by decide +kernel, by decide +kernel⟩, Nat.le_of_ble_eq_true rfl⟩
theorem mk_X0_payFor : MkV yX0_payFor cX0_payFor 3 (some .int) RX0 1 := ⟨rfl, t_894, t_892, t_893, t_125, ⟨by decide +kernel, by decide +kernel, by decide +kernel⟩, Nat.le_of_ble_eq_true rfl⟩
theorem mk_X0_passWeeks : MkV yX0_passWeeks cX0_passWeeks 4 (some .int) RX0 1 := ⟨rfl, t_911, t_909, t_910, t_125, ⟨by decide +kernel, by decide +kernel, by decide +kernel⟩, Nat.le_of_ble_eq_true rfl⟩
theorem mk_X0_passWeek : MkV yX0_passWeek cX0_passWeek 3 none RX0 0 := ⟨rfl, t_916, t_914, t_915, t_125, ⟨by decide +kernel, by decide +kernel, by decide +kernel⟩, Nat.le_of_ble_eq_true rfl⟩
theorem mk_X0_passLeftAlone : MkV yX0_passLeftAlone cX0_passLeftAlone 3 none RX0 1 := ⟨rfl, t_925, t_924, t_17, t_125, ⟨by decide +kernel, by decide +kernel, by decide +kernel⟩, Nat.le_of_ble_eq_true rfl⟩
theorem mk_X0_passTaken : MkV yX0_passTaken cX0_passTaken 3 none RX0 1 := ⟨rfl, t_920, t_919, t_16, t_125, ⟨by decide +kernel, by decide +kernel, by decide +kernel⟩, Nat.le_of_ble_eq_true rfl⟩
theorem mk_X0_takeBack : MkV yX0_takeBack cX0_takeBack 1 (some .int) RX0 0 := ⟨rfl, t_933, t_931, t_932, t_125, ⟨by decide +kernel, by decide +kernel, by decide +kernel⟩, Nat.le_of_ble_eq_true rfl⟩
theorem mk_X0_loadFrom : MkV yX0_loadFrom cX0_loadFrom 2 none RX0 1 := ⟨rfl, t_937, t_935, t_936, t_125, ⟨by decide +kernel, by decide +kernel, by decide +kernel⟩, Nat.le_of_ble_eq_true rfl⟩
theorem mk_X11_isDeedNumber : MkS yX11_isDeedNumber cX11_isDeedNumber 1 (some .boolean) 1 := ⟨t_944, t_943, t_121, ⟨by decide +kernel, by decide +kernel, by decide +kernel⟩, Nat.le_of_ble_eq_true rfl⟩
theorem mk_X9_nearestSet : MkV yX9_nearestSet cX9_nearestSet 5 (some .int) RX9 2 := ⟨rfl, t_948, t_946, t_947, t_126, ⟨by decide +kernel, by decide +kernel, by decide +kernel⟩, Nat.le_of_ble_eq_true rfl⟩
theorem mk_X9_countOrders : MkV yX9_countOrders cX9_countOrders 7 none RX9 1 := ⟨rfl, t_952, t_951, t_18, t_126, ⟨by decide +kernel, by decide +kernel, by decide +kernel⟩, Nat.le_of_ble_eq_true rfl⟩
theorem mk_X9_sumOfOrders : MkV yX9_sumOfOrders cX9_sumOfOrders 5 (some .int) RX9 1 := ⟨rfl, t_958, t_957, t_19, t_126, ⟨by decide +kernel, by decide +kernel, by decide +kernel⟩, Nat.le_of_ble_eq_true rfl⟩
theorem mk_J6_bitCount_0f7a4 : MkS yJ6_bitCount_0f7a4 cJ6_bitCount_0f7a4 1 (some .int) 1 := ⟨t_961, t_960, t_141, ⟨by decide +kernel, by decide +kernel, by decide +kernel⟩, Nat.le_of_ble_eq_true rfl⟩
theorem mk_X9_isNearer : MkV yX9_isNearer cX9_isNearer 6 (some .boolean) RX9 3 := ⟨rfl, t_968, t_967, t_20, t_126, ⟨by decide +kernel, by decide +kernel, by decide +kernel⟩, Nat.le_of_ble_eq_true rfl⟩
theorem mk_X9_proBehind : MkV yX9_proBehind cX9_proBehind 3 (some .int) RX9 2 := ⟨rfl, t_972, t_971, t_21, t_126, ⟨by decide +kernel, by decide +kernel, by decide +kernel⟩, Nat.le_of_ble_eq_true rfl⟩
theorem mk_X9_contraBehind : MkV yX9_contraBehind cX9_contraBehind 3 (some .int) RX9 2 := ⟨rfl, t_976, t_975, t_22, t_126, ⟨by decide +kernel, by decide +kernel, by decide +kernel⟩, Nat.le_of_ble_eq_true rfl⟩
theorem mk_X9_canStillDo : MkV yX9_canStillDo cX9_canStillDo 3 (some .boolean) RX9 2 := ⟨rfl, t_984, t_982, t_983, t_126, ⟨by decide +kernel, by decide +kernel, by decide +kernel⟩, Nat.le_of_ble_eq_true rfl⟩
theorem mk_X9_nearnessBehind : MkV yX9_nearnessBehind cX9_nearnessBehind 3 (some .int) RX9 2 := ⟨rfl, t_988, t_986, t_987, t_126, ⟨by decide +kernel, by decide +kernel, by decide +kernel⟩, Nat.le_of_ble_eq_true rfl⟩
theorem mk_X9_ordersOf : MkV yX9_ordersOf cX9_ordersOf 3 (some .int) RX9 2 := ⟨rfl, t_997, t_995, t_996, t_126, ⟨by decide +kernel, by decide +kernel, by decide +kernel⟩, Nat.le_of_ble_eq_true rfl⟩
theorem mk_X9_howMany : MkV yX9_howMany cX9_howMany 5 (some .int) RX9 2 := ⟨rfl, t_1005, t_1003, t_1004, t_126, ⟨by decide +kernel, by decide +kernel, by decide +kernel⟩, Nat.le_of_ble_eq_true rfl⟩
theorem mk_X9_valueFor : MkV yX9_valueFor cX9_valueFor 4 (some .int) RX9 2 := ⟨rfl, t_1023, t_1021, t_1022, t_126, ⟨by decide +kernel, by decide +kernel, by decide +kernel⟩, Nat.le_of_ble_eq_true rfl⟩
theorem mk_X0_isOpenAndSafe : MkV yX0_isOpenAndSafe cX0_isOpenAndSafe 2 (some .boolean) RX0 1 := ⟨rfl, t_1027, t_1025, t_1026, t_125, ⟨by decide +kernel, by decide +kernel, by decide +kernel⟩, Nat.le_of_ble_eq_true rfl⟩
theorem mk_X3_matchAll : MkV yX3_matchAll cX3_matchAll 2 (some .int) RX3 0 := ⟨rfl, t_1013, t_1011, t_1012, t_130, ⟨by decide +kernel, by decide +kernel, by decide +kernel⟩, Nat.le_of_ble_eq_true rfl⟩
theorem mk_X3_fillValues : MkV yX3_fillValues cX3_fillValues 3 none RX3 1 := ⟨rfl, t_1018, t_1017, t_23, t_130, ⟨by decide +kernel, by decide +kernel, by decide +kernel⟩, Nat.le_of_ble_eq_true rfl⟩
theorem mk_X3_pickFrom : MkV yX3_pickFrom cX3_pickFrom 6 none RX3 3 := ⟨rfl, t_1034, t_1033, t_24, t_130, ⟨by decide +kernel, by decide +kernel, by decide +kernel⟩, Nat.le_of_ble_eq_true rfl⟩
theorem mk_X3_keepIfMore : MkV yX3_keepIfMore cX3_keepIfMore 2 none RX3 1 := ⟨rfl, t_1038, t_1037, t_25, t_130, ⟨by decide +kernel, by decide +kernel, by decide +kernel⟩, Nat.le_of_ble_eq_true rfl⟩
theorem mk_X3_causeOf : MkV yX3_causeOf cX3_causeOf 2 (some .int) RX3 1 := ⟨rfl, t_1048, t_1046, t_1047, t_130, ⟨by decide +kernel, by decide +kernel, by decide +kernel⟩, Nat.le_of_ble_eq_true rfl⟩
theorem mk_X3_pairAtRest : MkV yX3_pairAtRest cX3_pairAtRest 5 (some .int) RX3 1 := ⟨rfl, t_1056, t_1054, t_1055, t_130, ⟨by decide +kernel, by decide +kernel, by decide +kernel⟩, Nat.le_of_ble_eq_true rfl⟩
theorem mk_X3_isAtRest : MkV yX3_isAtRest cX3_isAtRest 3 (some .boolean) RX3 2 := ⟨rfl, t_1060, t_1059, t_26, t_130, ⟨by decide +kernel, by decide +kernel, by decide +kernel⟩, Nat.le_of_ble_eq_true rfl⟩
theorem mk_X3_isBestAgainst : MkV yX3_isBestAgainst cX3_isBestAgainst 4 (some .boolean) RX3 2 := ⟨rfl, t_1065, t_1064, t_27, t_130, ⟨by decide +kernel, by decide +kernel, by decide +kernel⟩, Nat.le_of_ble_eq_true rfl⟩
theorem mk_X3_gainOf : MkV yX3_gainOf cX3_gainOf 3 (some .int) RX3 2 := ⟨rfl, t_1069, t_1068, t_28, t_130, ⟨by decide +kernel, by decide +kernel, by decide +kernel⟩, Nat.le_of_ble_eq_true rfl⟩
theorem mk_X9_partingSet : MkV yX9_partingSet cX9_partingSet 7 (some .int) RX9 1 := ⟨rfl, t_1078, t_1076, t_1077, t_126, ⟨by decide +kernel, by decide +kernel, by decide +kernel⟩, Nat.le_of_ble_eq_true rfl⟩
theorem mk_X5_ofRumour : MkV yX5_ofRumour cX5_ofRumour 3 (some .int) RX5 2 := ⟨rfl, t_1087, t_1085, t_1086, t_123, ⟨by decide +kernel, by decide +kernel, by decide +kernel⟩, Nat.le_of_ble_eq_true rfl⟩
theorem mk_X9_isSafeBehind : MkV yX9_isSafeBehind cX9_isSafeBehind 3 (some .boolean) RX9 2 := ⟨rfl, t_1091, t_1090, t_30, t_126, ⟨by decide +kernel, by decide +kernel, by decide +kernel⟩, Nat.le_of_ble_eq_true rfl⟩
theorem mk_X9_isNotSmaller : MkV yX9_isNotSmaller cX9_isNotSmaller 3 (some .boolean) RX9 2 := ⟨rfl, t_1083, t_1082, t_29, t_126, ⟨by decide +kernel, by decide +kernel, by decide +kernel⟩, Nat.le_of_ble_eq_true rfl⟩
theorem mk_X9_plotSet : MkV yX9_plotSet cX9_plotSet 4 (some .int) RX9 1 := ⟨rfl, t_1099, t_1097, t_1098, t_126, ⟨by decide +kernel, by decide +kernel, by decide +kernel⟩, Nat.le_of_ble_eq_true rfl⟩
theorem mk_X9_isLighter : MkV yX9_isLighter cX9_isLighter 5 (some .boolean) RX9 2 := ⟨rfl, t_1103, t_1102, t_31, t_126, ⟨by decide +kernel, by decide +kernel, by decide +kernel⟩, Nat.le_of_ble_eq_true rfl⟩
theorem mk_X6_coinBySchool : MkV yX6_coinBySchool cX6_coinBySchool 6 (some .int) RX6 2 := ⟨rfl, t_1111, t_1109, t_1110, t_127, ⟨by decide +kernel, by decide +kernel, by decide +kernel⟩, Nat.le_of_ble_eq_true rfl⟩
theorem mk_X0_saveTo : MkV yX0_saveTo cX0_saveTo 2 none RX0 1 := ⟨rfl, t_1115, t_1113, t_1114, t_125, ⟨by decide +kernel, by decide +kernel, by decide +kernel⟩, Nat.le_of_ble_eq_true rfl⟩
theorem mk_X6_followSchool : MkV yX6_followSchool cX6_followSchool 5 none RX6 2 := ⟨rfl, t_1122, t_1121, t_32, t_127, ⟨by decide +kernel, by decide +kernel, by decide +kernel⟩, Nat.le_of_ble_eq_true rfl⟩
theorem mk_X6_actFirst : MkV yX6_actFirst cX6_actFirst 3 (some .boolean) RX6 1 := ⟨rfl, t_1152, t_1151, t_36, t_127, ⟨by decide +kernel, by decide +kernel, by decide +kernel⟩, Nat.le_of_ble_eq_true rfl⟩
theorem mk_X6_actIfCan : MkV yX6_actIfCan cX6_actIfCan 3 (some .boolean) RX6 2 := ⟨rfl, t_1146, t_1145, t_35, t_127, ⟨by decide +kernel, by decide +kernel, by decide +kernel⟩, Nat.le_of_ble_eq_true rfl⟩
theorem mk_X6_dropIfCan : MkV yX6_dropIfCan cX6_dropIfCan 2 none RX6 1 := ⟨rfl, t_1135, t_1134, t_34, t_127, ⟨by decide +kernel, by decide +kernel, by decide +kernel⟩, Nat.le_of_ble_eq_true rfl⟩
theorem mk_J6_numberOfTrailingZeros_0f7a4 : MkS yJ6_numberOfTrailingZeros_0f7a4 cJ6_numberOfTrailingZeros_0f7a4 2 (some .int) 1 := ⟨t_1141, t_1140, t_141, ⟨by decide +kernel, by decide +kernel, by decide +kernel⟩, Nat.le_of_ble_eq_true rfl⟩
theorem mk_X6_takeFirst : MkV yX6_takeFirst cX6_takeFirst 3 none RX6 1 := ⟨rfl, t_1127, t_1126, t_33, t_127, ⟨by decide +kernel, by decide +kernel, by decide +kernel⟩, Nat.le_of_ble_eq_true rfl⟩
theorem mk_X9_setsMaking : MkV yX9_setsMaking cX9_setsMaking 6 (some .int) RX9 3 := ⟨rfl, t_1169, t_1167, t_1168, t_126, ⟨by decide +kernel, by decide +kernel, by decide +kernel⟩, Nat.le_of_ble_eq_true rfl⟩
theorem mk_X9_isMaking : MkV yX9_isMaking cX9_isMaking 5 (some .boolean) RX9 4 := ⟨rfl, t_1173, t_1172, t_37, t_126, ⟨by decide +kernel, by decide +kernel, by decide +kernel⟩, Nat.le_of_ble_eq_true rfl⟩
theorem mk_X9_commonDeeds : MkV yX9_commonDeeds cX9_commonDeeds 6 (some .int) RX9 3 := ⟨rfl, t_1178, t_1176, t_1177, t_126, ⟨by decide +kernel, by decide +kernel, by decide +kernel⟩, Nat.le_of_ble_eq_true rfl⟩
theorem mk_X6_passDrawn : MkV yX6_passDrawn cX6_passDrawn 6 (some .int) RX6 2 := ⟨rfl, t_1208, t_1206, t_1207, t_127, ⟨by decide +kernel, by decide +kernel, by decide +kernel⟩, Nat.le_of_ble_eq_true rfl⟩
theorem mk_X6_followDraw : MkV yX6_followDraw cX6_followDraw 4 none RX6 1 := ⟨rfl, t_1212, t_1211, t_38, t_127, ⟨by decide +kernel, by decide +kernel, by decide +kernel⟩, Nat.le_of_ble_eq_true rfl⟩
theorem mk_X6_nextDraw : MkV yX6_nextDraw cX6_nextDraw 2 (some .int) RX6 1 := ⟨rfl, t_1216, t_1215, t_39, t_127, ⟨by decide +kernel, by decide +kernel, by decide +kernel⟩, Nat.le_of_ble_eq_true rfl⟩
theorem mk_X2_read : MkV yX2_read cX2_read 2 (some .boolean) RX2 0 := ⟨rfl, t_1231, t_1229, t_1230, t_128, ⟨by decide +kernel, by decide +kernel, by decide +kernel⟩, Nat.le_of_ble_eq_true rfl⟩
theorem mk_X2_readLine : MkV yX2_readLine cX2_readLine 3 (some .boolean) RX2 0 := ⟨rfl, t_1237, t_1236, t_40, t_128, ⟨by decide +kernel, by decide +kernel, by decide +kernel⟩, Nat.le_of_ble_eq_true rfl⟩
theorem mk_X2_readVerb : MkV yX2_readVerb cX2_readVerb 5 (some .boolean) RX2 0 := ⟨rfl, t_1255, t_1254, t_42, t_128, ⟨by decide +kernel, by decide +kernel, by decide +kernel⟩, Nat.le_of_ble_eq_true rfl⟩
theorem mk_X8_takeWord : MkV yX8_takeWord cX8_takeWord 2 (some .boolean) RX8 1 := ⟨rfl, t_1261, t_1259, t_1260, t_122, ⟨by decide +kernel, by decide +kernel, by decide +kernel⟩, Nat.le_of_ble_eq_true rfl⟩
theorem mk_X2_readWeeks : MkV yX2_readWeeks cX2_readWeeks 1 (some .boolean) RX2 0 := ⟨rfl, t_1249, t_1248, t_41, t_128, ⟨by decide +kernel, by decide +kernel, by decide +kernel⟩, Nat.le_of_ble_eq_true rfl⟩
theorem mk_X2_live : MkV yX2_live cX2_live 3 (some .int) RX2 1 := ⟨rfl, t_1273, t_1271, t_1272, t_128, ⟨by decide +kernel, by decide +kernel, by decide +kernel⟩, Nat.le_of_ble_eq_true rfl⟩
theorem mk_X2_whyNot : MkV yX2_whyNot cX2_whyNot 5 (some .int) RX2 2 := ⟨rfl, t_1277, t_1276, t_43, t_128, ⟨by decide +kernel, by decide +kernel, by decide +kernel⟩, Nat.le_of_ble_eq_true rfl⟩
theorem mk_X2_liveLine : MkV yX2_liveLine cX2_liveLine 4 none RX2 2 := ⟨rfl, t_1285, t_1284, t_44, t_128, ⟨by decide +kernel, by decide +kernel, by decide +kernel⟩, Nat.le_of_ble_eq_true rfl⟩
theorem mk_X2_whyWrong : MkV yX2_whyWrong cX2_whyWrong 1 (some .int) RX2 0 := ⟨rfl, t_1293, t_1291, t_1292, t_128, ⟨by decide +kernel, by decide +kernel, by decide +kernel⟩, Nat.le_of_ble_eq_true rfl⟩
theorem mk_X2_size : MkV yX2_size cX2_size 1 (some .int) RX2 0 := ⟨rfl, t_1298, t_1296, t_1297, t_128, ⟨by decide +kernel, by decide +kernel, by decide +kernel⟩, Nat.le_of_ble_eq_true rfl⟩
theorem mk_X7_read : MkV yX7_read cX7_read 3 (some .int) RX7 2 := ⟨rfl, t_1310, t_1308, t_1309, t_129, ⟨by decide +kernel, by decide +kernel, by decide +kernel⟩, Nat.le_of_ble_eq_true rfl⟩
theorem mk_X7_readCond : MkV yX7_readCond cX7_readCond 7 (some .boolean) RX7 3 := ⟨rfl, t_1315, t_1314, t_45, t_129, ⟨by decide +kernel, by decide +kernel, by decide +kernel⟩, Nat.le_of_ble_eq_true rfl⟩
theorem mk_X7_readOne : MkV yX7_readOne cX7_readOne 6 (some .boolean) RX7 3 := ⟨rfl, t_1319, t_1318, t_46, t_129, ⟨by decide +kernel, by decide +kernel, by decide +kernel⟩, Nat.le_of_ble_eq_true rfl⟩
theorem mk_X7_add : MkV yX7_add cX7_add 4 (some .boolean) RX7 3 := ⟨rfl, t_1359, t_1358, t_47, t_129, ⟨by decide +kernel, by decide +kernel, by decide +kernel⟩, Nat.le_of_ble_eq_true rfl⟩
theorem mk_X7_stepHere : MkS yX7_stepHere cX7_stepHere 1 (some .int) 1 := ⟨t_1322, t_1321, t_129, ⟨by decide +kernel, by decide +kernel, by decide +kernel⟩, Nat.le_of_ble_eq_true rfl⟩
theorem mk_X8_isSign : MkV yX8_isSign cX8_isSign 2 (some .boolean) RX8 1 := ⟨rfl, t_1326, t_1324, t_1325, t_122, ⟨by decide +kernel, by decide +kernel, by decide +kernel⟩, Nat.le_of_ble_eq_true rfl⟩
theorem mk_X7_stateHere : MkS yX7_stateHere cX7_stateHere 1 (some .int) 1 := ⟨t_1342, t_1341, t_129, ⟨by decide +kernel, by decide +kernel, by decide +kernel⟩, Nat.le_of_ble_eq_true rfl⟩
theorem mk_X7_readMeasure : MkV yX7_readMeasure cX7_readMeasure 4 (some .boolean) RX7 2 := ⟨rfl, t_1370, t_1369, t_49, t_129, ⟨by decide +kernel, by decide +kernel, by decide +kernel⟩, Nat.le_of_ble_eq_true rfl⟩
theorem mk_X7_readHad : MkV yX7_readHad cX7_readHad 4 (some .boolean) RX7 2 := ⟨rfl, t_1363, t_1362, t_48, t_129, ⟨by decide +kernel, by decide +kernel, by decide +kernel⟩, Nat.le_of_ble_eq_true rfl⟩
theorem mk_X7_copyFrom : MkV yX7_copyFrom cX7_copyFrom 2 none RX7 1 := ⟨rfl, t_1382, t_1380, t_1381, t_129, ⟨by decide +kernel, by decide +kernel, by decide +kernel⟩, Nat.le_of_ble_eq_true rfl⟩
theorem mk_X7_isEmpty : MkV yX7_isEmpty cX7_isEmpty 1 (some .boolean) RX7 0 := ⟨rfl, t_1391, t_1389, t_1390, t_129, ⟨by decide +kernel, by decide +kernel, by decide +kernel⟩, Nat.le_of_ble_eq_true rfl⟩
theorem mk_X7_holdsOf : MkV yX7_holdsOf cX7_holdsOf 7 (some .boolean) RX7 2 := ⟨rfl, t_1395, t_1393, t_1394, t_129, ⟨by decide +kernel, by decide +kernel, by decide +kernel⟩, Nat.le_of_ble_eq_true rfl⟩
theorem mk_X7_isTrue : MkV yX7_isTrue cX7_isTrue 4 (some .boolean) RX7 3 := ⟨rfl, t_1399, t_1398, t_50, t_129, ⟨by decide +kernel, by decide +kernel, by decide +kernel⟩, Nat.le_of_ble_eq_true rfl⟩
theorem mk_X7_isSo : MkV yX7_isSo cX7_isSo 3 (some .boolean) RX7 2 := ⟨rfl, t_1405, t_1404, t_51, t_129, ⟨by decide +kernel, by decide +kernel, by decide +kernel⟩, Nat.le_of_ble_eq_true rfl⟩
theorem mk_X11_imageAt : MkV yX11_imageAt cX11_imageAt 2 (some (.object "LostCauses$Image")) RX11 1 := ⟨rfl, t_1413, t_1412, t_52, t_121, ⟨by decide +kernel, by decide +kernel, by decide +kernel⟩, Nat.le_of_ble_eq_true rfl⟩
theorem mk_X1_keep : MkV yX1_keep cX1_keep 4 none RX1 3 := ⟨rfl, t_1417, t_1415, t_1416, t_131, ⟨by decide +kernel, by decide +kernel, by decide +kernel⟩, Nat.le_of_ble_eq_true rfl⟩
theorem mk_X1_isKept : MkV yX1_isKept cX1_isKept 1 (some .boolean) RX1 0 := ⟨rfl, t_1428, t_1426, t_1427, t_131, ⟨by decide +kernel, by decide +kernel, by decide +kernel⟩, Nat.le_of_ble_eq_true rfl⟩
theorem mk_X1_giveBack : MkV yX1_giveBack cX1_giveBack 4 none RX1 3 := ⟨rfl, t_1432, t_1430, t_1431, t_131, ⟨by decide +kernel, by decide +kernel, by decide +kernel⟩, Nat.le_of_ble_eq_true rfl⟩
theorem mk_X5_rumours : MkV yX5_rumours cX5_rumours 3 (some .int) RX5 0 := ⟨rfl, t_1442, t_1440, t_1441, t_123, ⟨by decide +kernel, by decide +kernel, by decide +kernel⟩, Nat.le_of_ble_eq_true rfl⟩
theorem mk_X5_lineAbove : MkV yX5_lineAbove cX5_lineAbove 1 (some .int) RX5 0 := ⟨rfl, t_1447, t_1445, t_1446, t_123, ⟨by decide +kernel, by decide +kernel, by decide +kernel⟩, Nat.le_of_ble_eq_true rfl⟩
theorem mk_X5_lineBelow : MkV yX5_lineBelow cX5_lineBelow 1 (some .int) RX5 0 := ⟨rfl, t_1451, t_1449, t_1450, t_123, ⟨by decide +kernel, by decide +kernel, by decide +kernel⟩, Nat.le_of_ble_eq_true rfl⟩
