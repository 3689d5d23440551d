/-! ===== TOKENS: what readers ask and take ===== -/
def RD (n most p a : Nat) (t : Nat × Nat) (B : Nat → Nat) (hc hm : HS) : Prop := BYn n B hc hm ∧ most ≤ 940 ∧ hc.1 1 2 = nI most ∧ hm.1 0 5 = nI most ∧ hc.1 1 3 = nI p ∧ hm.1 0 4 = nI p ∧ p ≤ n ∧ a ≤ 940 ∧ ((t.1 = 1 ∨ t.1 = 2 ∨ t.1 = 3) → a < p ∧ a < most) ∧ hc.1 1 4 = nI a ∧ hm.1 0 12 = nI a ∧ hc.1 1 9 = nI 0 ∧ hm.1 0 15 = nI 0 ∧ TKr t hc hm
/-- what a step from TOKEN to TOKEN leaves alone -/
def TS (hc hm hc2 hm2 : HS) : Prop := Fr [1] hc hc2 ∧ Fr [0] hm hm2 ∧ F0r [4, 11, 12, 13, 14, 18] hm hm2
def fxc : List Nat := [1, 11, 12, 13, 14, 15, 16, 17, 18, 19, 38, 39, 40, 41, 46, 47, 48, 49]
def fxm : List Nat := [4, 11, 12, 13, 14, 15, 16, 18, 20, 36, 37, 38, 39, 40]
/-- what a reader leaves alone -/
def FX (hc hm hc2 hm2 : HS) : Prop := Fr fxc hc hc2 ∧ Fr [0, 3, 4, 5, 14] hm hm2 ∧ F0r fxm hm hm2 ∧ ∀ i, i < 17 → hm2.2 5 i = hm.2 5 i
theorem F0r_mo {S T : List Nat} {h h' : HS} (q : ∀ x, x ∈ S → x ∈ T) (a : F0r S h h') : F0r T h h' := fun x hx => a x (fun z => hx (q x z))
theorem TS_rf {hc hm : HS} : TS hc hm hc hm := ⟨Fr_rf, Fr_rf, F0r_rf⟩
theorem TS_t {a b a1 b1 a2 b2 : HS} (x : TS a b a1 b1) (y : TS a1 b1 a2 b2) : TS a b a2 b2 := ⟨Fr_t x.1 y.1, Fr_t x.2.1 y.2.1, F0r_t x.2.2 y.2.2⟩
theorem FX_rf {hc hm : HS} : FX hc hm hc hm := ⟨Fr_rf, Fr_rf, F0r_rf, fun _ _ => rfl⟩
theorem FX_t {a b a1 b1 a2 b2 : HS} (x : FX a b a1 b1) (y : FX a1 b1 a2 b2) : FX a b a2 b2 := ⟨Fr_t x.1 y.1, Fr_t x.2.1 y.2.1, F0r_t x.2.2.1 y.2.2.1, fun i hi => (y.2.2.2 i hi).trans (x.2.2.2 i hi)⟩
theorem TS_fx {a b a1 b1 : HS} (x : TS a b a1 b1) : FX a b a1 b1 := ⟨Fr_mo (by decide) x.1, Fr_mo (by decide) x.2.1, F0r_mo (by decide) x.2.2, fun i _ => by rw [(x.2.1 5 (by decide)).2]⟩
def FL (hc hm : HS) : Prop := ∃ k a, k < 1000 ∧ a ≤ 940 ∧ hc.1 1 9 = nI k ∧ hm.1 0 15 = nI k ∧ hc.1 1 10 = nI a ∧ hm.1 0 16 = nI a
/-- a FAULT on both sides -/
def BAD (hc hm : HS) (rc rm : Option (Int32 × HS)) : Prop := ∃ hc2 hm2, rc = some (nI 0, hc2) ∧ rm = some (nI 0, hm2) ∧ FL hc2 hm2 ∧ FX hc hm hc2 hm2
theorem BAD_t {a b a1 b1 : HS} {rc rm : Option (Int32 × HS)} (x : FX a b a1 b1) (y : BAD a1 b1 rc rm) : BAD a b rc rm := by
  obtain ⟨hc2, hm2, h1, h2, h3, h4⟩ := y
  exact ⟨hc2, hm2, h1, h2, h3, FX_t x h4⟩
theorem T_adv {F n most p a : Nat} {t : Nat × Nat} {B : Nat → Nat} {hc hm : HS} (hF : 2000 ≤ F) (q : RD n most p a t B hc hm) (ht : t.1 = 1 ∨ t.1 = 2 ∨ t.1 = 3) : ∃ p2 a2 t2 hc2 hm2, f_Tape_advance F hc = some ((), hc2) ∧ f_M_next F hm = some ((), hm2) ∧ RD n most p2 a2 t2 B hc2 hm2 ∧ a < a2 ∧ TS hc hm hc2 hm2 ∧ hc2.1 1 8 = hc.1 1 8 ∧ hm2.1 0 18 = hm.1 0 18 := by
  obtain ⟨Y, q1, q2, q3, q4, q5, q6, q7, q8, q9, q10, q11, q12, q13⟩ := q
  obtain ⟨p2, a2, t2, hc2, hm2, b1, b2, b3, b4, b5, b6, b7, b8, b9, b10, b11, b12, b13, b14, b15, b16⟩ := ADV hF Y q1 q2 q3 q4 q5 q6
  have h8 := q8 ht
  refine ⟨p2, a2, t2, hc2, hm2, b1, b2, ⟨BYn_fr Y (b14 1 (by decide)) (b13 2 (by decide)).1 (b16 3 (by decide)) (b15 1 (by decide)).1, q1, by rw [b14 2 (by decide), q2], by rw [b16 5 (by decide), q3], b8, b9, b4, b5, b7, b10, b11, by rw [b14 9 (by decide), q11], by rw [b16 15 (by decide), q12], b12⟩, by omega, ⟨b13, b15, F0r_mo (by decide) b16⟩, b14 8 (by decide), b16 18 (by decide)⟩
theorem T_begin {F n most : Nat} {B : Nat → Nat} {hc hm : HS} (hF : 2000 ≤ F) (Y : BYn n B hc hm) (hmo : most ≤ 940) (m5 : hm.1 0 5 = nI most) (m4 : hm.1 0 4 = nI 0) (m15 : hm.1 0 15 = nI 0) : ∃ p2 a2 t2 hc2 hm2, f_Tape_begin F (nI most) hc = some ((), hc2) ∧ f_M_next F hm = some ((), hm2) ∧ RD n most p2 a2 t2 B hc2 hm2 ∧ TS hc hm hc2 hm2 := by
  have fc : Fr [1] hc (sI (sI (sI (sI hc 1 2 (nI most)) 1 3 (nI 0)) 1 9 (nI 0)) 1 10 (nI 0)) := Fr_t (Fr_t (Fr_t (Fr_sI (by decide)) (Fr_sI (by decide))) (Fr_sI (by decide))) (Fr_sI (by decide))
  have g1 : (sI (sI (sI (sI hc 1 2 (nI most)) 1 3 (nI 0)) 1 9 (nI 0)) 1 10 (nI 0)).1 1 1 = hc.1 1 1 := by rw [sI_n (by decide), sI_n (by decide), sI_n (by decide), sI_n (by decide)]
  have g2 : (sI (sI (sI (sI hc 1 2 (nI most)) 1 3 (nI 0)) 1 9 (nI 0)) 1 10 (nI 0)).1 1 2 = nI most := by rw [sI_n (by decide), sI_n (by decide), sI_n (by decide), sI_e]
  have g3 : (sI (sI (sI (sI hc 1 2 (nI most)) 1 3 (nI 0)) 1 9 (nI 0)) 1 10 (nI 0)).1 1 3 = nI 0 := by rw [sI_n (by decide), sI_n (by decide), sI_e]
  have g9 : (sI (sI (sI (sI hc 1 2 (nI most)) 1 3 (nI 0)) 1 9 (nI 0)) 1 10 (nI 0)).1 1 9 = nI 0 := by rw [sI_n (by decide), sI_e]
  have Y1 := BYn_fr Y g1 (fc 2 (by decide)).1 rfl rfl
  obtain ⟨p2, a2, t2, hc2, hm2, b1, b2, b3, b4, b5, b6, b7, b8, b9, b10, b11, b12, b13, b14, b15, b16⟩ := ADV hF Y1 hmo g2 m5 g3 m4 (Nat.zero_le _)
  refine ⟨p2, a2, t2, hc2, hm2, by rw [f_Tape_begin, bl_e, bl_e, bl_e, bl_e, b1, bnd_s], b2, ⟨BYn_fr Y1 (b14 1 (by decide)) (b13 2 (by decide)).1 (b16 3 (by decide)) (b15 1 (by decide)).1, hmo, by rw [b14 2 (by decide), g2], by rw [b16 5 (by decide), m5], b8, b9, b4, b5, b7, b10, b11, by rw [b14 9 (by decide), g9], by rw [b16 15 (by decide), m15], b12⟩, ⟨Fr_t fc b13, b15, F0r_mo (by decide) b16⟩⟩
theorem T_fail {n most p a : Nat} {t : Nat × Nat} {B : Nat → Nat} {hc hm : HS} (k : Nat) (hk : k < 1000) (q : RD n most p a t B hc hm) : BAD hc hm (f_Tape_fail (nI k) hc) (f_M_bad (nI k) hm) := by
  obtain ⟨Y, q1, q2, q3, q4, q5, q6, q7, q8, q9, q10, q11, q12, q13⟩ := q
  refine ⟨sI (sI hc 1 9 (nI k)) 1 10 (nI a), sI (sI hm 0 15 (nI k)) 0 16 (nI a), ?_, ?_, ⟨k, a, hk, q7, by rw [sI_n (by decide), sI_e], by rw [sI_n (by decide), sI_e], sI_e, sI_e⟩, Fr_t (Fr_sI (by decide)) (Fr_sI (by decide)), Fr_t (Fr_sI (by decide)) (Fr_sI (by decide)), F0r_t (F0r_sI (by decide)) (F0r_sI (by decide)), fun _ _ => rfl⟩
  · rw [f_Tape_fail, q11, if_pos (show nI 0 = 0 from rfl), bl_e, bl_e, sI_n (by decide), q9, rZ0]
  · rw [f_M_bad, bl_e, bl_e, sI_n (by decide), q10, rZ0]
def WNs : List Nat := [402885, 113966, 3200613, 626441906, 136356, 3544651, 21015731, 146611, 4800019, 758955, 498, 1476, 14836, 508078, 21015726, 4915216548, 24046, 136228, 8228, 463922, 17484389, 72754342, 492210354]
theorem WNs_lt : ∀ w, w < 23 → WNs.getD w 0 < 32 ^ 7 ∧ WL.getD w 0 = lN (WNs.getD w 0) := by decide +kernel
def cvF : Nat → Nat → Nat
  | 0, _ => 0
  | n + 1, w => if w = 0 then 0 else cvF n (w / 32) * 256 + (w % 32 + 96)
theorem cvF_e : ∀ n w, w < 32 ^ n → cv w = cvF n w := by
  intro n
  induction n with
  | zero => intro w hw; rw [show w = 0 by omega, cv_0]; rfl
  | succ n ih =>
    intro w hw
    rw [cv, cvF]
    rw [Nat.pow_succ] at hw
    rw [ih (w / 32) (by omega)]
/-- the WORD w stands here -/
def isW (t : Nat × Nat) (w : Nat) : Bool := decide (t.1 = 1 ∧ t.2 = WNs.getD w 0)
theorem lN_inj {a b : Nat} (ha : a < 2 ^ 63) (hb : b < 2 ^ 63) (h : lN a = lN b) : a = b := (pk_lEQ ha hb).mp h
theorem TK_k1 {t : Nat × Nat} {hc hm : HS} (q : TKr t hc hm) : (hc.1 1 5 = nI 1 ↔ t.1 = 1) ∧ (hm.1 0 11 = nI 1 ↔ t.1 = 1) ∧ (hc.1 1 5 = nI 2 ↔ t.1 = 2) ∧ (hm.1 0 11 = nI 2 ↔ t.1 = 2) ∧ (hc.1 1 5 = nI 0 ↔ t.1 = 0) ∧ (hm.1 0 11 = nI 0 ↔ t.1 = 0) ∧ (hm.1 0 11 = nI 3 ↔ t.1 = 3) ∧ (t.1 = 1 → hc.2 1 6 = lN t.2 ∧ hm.2 0 17 = lN (cv t.2) ∧ t.2 < 32 ^ 7) ∧ (t.1 = 2 → hc.1 1 7 = nI t.2 ∧ hm.1 0 14 = nI t.2 ∧ t.2 ≤ 999) ∧ (t.1 = 3 → hc.1 1 5 = nI t.2 ∧ hm.1 0 14 = nI t.2 ∧ (t.2 = 40 ∨ t.2 = 41 ∨ t.2 = 59 ∨ t.2 = 60 ∨ t.2 = 61 ∨ t.2 = 62)) ∧ (t.1 = 4 → hc.1 1 5 = nI 3 ∨ hc.1 1 5 = nI 46) ∧ (t.1 = 0 ∨ t.1 = 1 ∨ t.1 = 2 ∨ t.1 = 3 ∨ t.1 = 4) := by
  have ne : ∀ {a b : Nat}, a < 1000 → b < 1000 → (nI a = nI b ↔ a = b) := fun ha hb => ⟨fun h => nI_inj (by omega) (by omega) h, fun h => by rw [h]⟩
  rcases q with ⟨h, h1, h2⟩ | ⟨h, h1, h2, h3, h4, h5⟩ | ⟨h, h1, h2, h3, h4, h5⟩ | ⟨h, h1, h2, h3, h4⟩ | ⟨h, h1, h2⟩
  · rw [h, h1, h2]
    simp only [ne (show 0 < 1000 by decide) (show 1 < 1000 by decide), ne (show 0 < 1000 by decide) (show 2 < 1000 by decide), ne (show 0 < 1000 by decide) (show 3 < 1000 by decide)]
    exact ⟨by simp, by simp, by simp, by simp, by simp, by simp, by simp, by simp, by simp, by simp, by simp, by simp⟩
  · rw [h, h1, h2]
    simp only [ne (show 1 < 1000 by decide) (show 0 < 1000 by decide), ne (show 1 < 1000 by decide) (show 2 < 1000 by decide), ne (show 1 < 1000 by decide) (show 3 < 1000 by decide)]
    exact ⟨by simp, by simp, by simp, by simp, by simp, by simp, by simp, fun _ => ⟨h3, h4, h5⟩, by simp, by simp, by simp, by simp⟩
  · rw [h, h1, h2]
    simp only [ne (show 2 < 1000 by decide) (show 0 < 1000 by decide), ne (show 2 < 1000 by decide) (show 1 < 1000 by decide), ne (show 2 < 1000 by decide) (show 3 < 1000 by decide)]
    exact ⟨by simp, by simp, by simp, by simp, by simp, by simp, by simp, by simp, fun _ => ⟨h3, h4, h5⟩, by simp, by simp, by simp⟩
  · rw [h, h1, h2]
    have n0 : ∀ j, j < 3 → (nI t.2 = nI j ↔ 3 = j) := fun j hj => ⟨fun e => by have := nI_inj (by omega) (by omega) e; omega, fun e => by omega⟩
    rw [n0 1 (by omega), n0 2 (by omega), n0 0 (by omega)]
    simp only [ne (show 3 < 1000 by decide) (show 0 < 1000 by decide), ne (show 3 < 1000 by decide) (show 1 < 1000 by decide), ne (show 3 < 1000 by decide) (show 2 < 1000 by decide)]
    exact ⟨by simp, by simp, by simp, by simp, by simp, by simp, by simp, by simp, by simp, fun _ => ⟨by simp, h3, h4⟩, by simp, by simp⟩
  · rw [h, h2]
    have n0 : ∀ j, j < 3 → (hc.1 1 5 = nI j ↔ 4 = j) := fun j hj => ⟨fun e => by
      rcases h1 with h1 | h1
      · rw [h1] at e; have := nI_inj (by omega) (by omega) e; omega
      · rw [h1] at e; have := nI_inj (by omega) (by omega) e; omega, fun e => by omega⟩
    rw [n0 1 (by omega), n0 2 (by omega), n0 0 (by omega)]
    simp only [ne (show 4 < 1000 by decide) (show 0 < 1000 by decide), ne (show 4 < 1000 by decide) (show 1 < 1000 by decide), ne (show 4 < 1000 by decide) (show 2 < 1000 by decide), ne (show 4 < 1000 by decide) (show 3 < 1000 by decide)]
    exact ⟨by simp, by simp, by simp, by simp, by simp, by simp, by simp, by simp, by simp, by simp, fun _ => h1, by simp⟩
theorem ite_iff {α : Type} {P Q : Prop} [Decidable P] [Decidable Q] {X Y : α} (h : P ↔ Q) : (if P then X else Y) = if Q then X else Y := by
  by_cases z : P
  · rw [if_pos z, if_pos (h.mp z)]
  · rw [if_neg z, if_neg (fun q => z (h.mpr q))]
theorem C_isW {t : Nat × Nat} {hc hm : HS} (q : TKr t hc hm) {w : Nat} (hw : w < 23) : f_Tape_isWord w hc = some (bI (isW t w), hc) := by
  have k := TK_k1 q
  obtain ⟨w1, w2⟩ := WNs_lt w hw
  rw [f_Tape_isWord, ite_iff k.1, rZ0, rZ1, isW]
  by_cases z : t.1 = 1
  · obtain ⟨e1, e2, e3⟩ := k.2.2.2.2.2.2.2.1 z
    rw [if_pos z, e1, w2]
    by_cases y : t.2 = WNs.getD w 0
    · rw [if_pos ((lg_cmp_eq _ _).mpr (by rw [y])), decide_eq_true ⟨z, y⟩]
      rfl
    · rw [if_neg (fun h => y (lN_inj (by omega) (by omega) ((lg_cmp_eq _ _).mp h))), decide_eq_false (fun h => y h.2)]
      rfl
  · rw [if_neg z, decide_eq_false (fun h => z h.1)]
    rfl
theorem M_isW {t : Nat × Nat} {hc hm : HS} (q : TKr t hc hm) {w : Nat} (hw : w < 23) {W : Int64} (hW : W = lN (cvF 7 (WNs.getD w 0))) : f_M_isWord W hm = some (bI (isW t w), hm) := by
  have k := TK_k1 q
  obtain ⟨w1, w2⟩ := WNs_lt w hw
  rw [← cvF_e 7 _ w1] at hW
  have b2 := cv_lt 7 _ w1
  rw [f_M_isWord, ite_iff k.2.1, rZ0, rZ1, isW]
  by_cases z : t.1 = 1
  · obtain ⟨e1, e2, e3⟩ := k.2.2.2.2.2.2.2.1 z
    have b1 := cv_lt 7 _ e3
    rw [if_pos z, e2, hW]
    by_cases y : t.2 = WNs.getD w 0
    · rw [if_pos ((lg_cmp_eq _ _).mpr (by rw [y])), decide_eq_true ⟨z, y⟩]
      rfl
    · rw [if_neg (fun h => y (cv_inj _ _ _ (Nat.le_refl _) (lN_inj (by omega) (by omega) ((lg_cmp_eq _ _).mp h)))), decide_eq_false (fun h => y h.2)]
      rfl
  · rw [if_neg z, decide_eq_false (fun h => z h.1)]
    rfl
/-- a NAME stands here -/
def resB (x : Nat) : Nat → Bool
  | 0 => false
  | j + 1 => resB x j || decide (x = WNs.getD j 0)
def nmB (t : Nat × Nat) : Bool := decide (t.1 = 1) && !resB t.2 23
theorem C_rsL {F : Nat} {x : Nat} (hx : x < 32 ^ 7) (h : HS) : ∀ (j k : Nat), k + j = 23 → resB x k = false → ∀ g, j < g → l_Word_isReserved_0 F (lN x) g (nI k) h = some (bI (resB x 23), h) := by
  intro j
  induction j with
  | zero =>
    intro k hk hr g hg
    obtain ⟨g, rfl⟩ : ∃ z, g = z + 1 := ⟨g - 1, by omega⟩
    rw [l_Word_isReserved_0, show k = 23 by omega, if_pos (show (23 : Int32) ≤ nI 23 by decide), rZ0, ← show k = 23 by omega, hr]
    rfl
  | succ j ih =>
    intro k hk hr g hg
    obtain ⟨g, rfl⟩ : ∃ z, g = z + 1 := ⟨g - 1, by omega⟩
    obtain ⟨w1, w2⟩ := WNs_lt k (by omega)
    have e : (23 : Int32) = nI 23 := rfl
    rw [l_Word_isReserved_0, e, ite_leN (by omega) (by omega), if_neg (by omega), ifin (by omega) (by omega), nI_clamp (by omega), w2, rZ1, bl_e, nI_add]
    by_cases z : x = WNs.getD k 0
    · rw [if_pos ((lg_cmp_eq _ _).mpr (by rw [z]))]
      have : ∀ i, k + 1 ≤ i → resB x i = true := by
        intro i hi
        induction i with
        | zero => omega
        | succ i ih =>
          unfold resB
          by_cases y : i = k
          · rw [y, decide_eq_true z, Bool.or_true]
          · rw [ih (by omega), Bool.true_or]
      rw [this 23 (by omega)]
      rfl
    · rw [if_neg (fun h => z (lN_inj (by omega) (by omega) ((lg_cmp_eq _ _).mp h)).symm)]
      refine ih (k + 1) (by omega) ?_ g (by omega)
      unfold resB
      rw [hr, decide_eq_false z]
      rfl
theorem M_rsL {F : Nat} {x : Nat} {hm : HS} (hx : x < 32 ^ 7) (hw : hm.2 0 17 = lN (cv x)) (R : RSr hm) (b : Bool) : ∀ (j k : Nat), k + j = 23 → ∀ g, j < g → l_M_isName_0 F g (bI (b && !resB x k)) (nI k) hm = some (bI (b && !resB x 23), hm) := by
  intro j
  induction j with
  | zero =>
    intro k hk g hg
    obtain ⟨g, rfl⟩ : ∃ z, g = z + 1 := ⟨g - 1, by omega⟩
    rw [l_M_isName_0, ite_leN (by omega) (by omega), if_pos (by omega), rZb, show k = 23 by omega]
  | succ j ih =>
    intro k hk g hg
    obtain ⟨g, rfl⟩ : ∃ z, g = z + 1 := ⟨g - 1, by omega⟩
    obtain ⟨w1, w2⟩ := WNs_lt k (by omega)
    have ih := ih (k + 1) (by omega) g (by omega)
    have hk2 : hm.2 6 k = lN (cv (WNs.getD k 0)) := R k (by omega)
    have b1 := cv_lt 7 _ hx
    have b2 := cv_lt 7 _ w1
    rw [← ih, l_M_isName_0, ite_leN (by omega) (by omega), if_neg (by omega)]
    dsimp only [bl]
    rw [ifin (by omega) (by omega), nI_clamp (by omega), hw, hk2, ite_b0, nI_add, resB]
    cases h1 : (b && !resB x k)
    · have : (b && !(resB x k || decide (x = WNs.getD k 0))) = false := by
        cases b
        · rfl
        · have : resB x k = true := by simpa using h1
          rw [this]
          rfl
      rw [this, if_neg (by decide)]
      rfl
    · have h2 : b = true ∧ resB x k = false := by simpa using h1
      rw [if_pos rfl, h2.1, h2.2, Bool.false_or, Bool.true_and]
      by_cases z : x = WNs.getD k 0
      · rw [if_pos ((lg_cmp_eq _ _).mpr (by rw [z])), decide_eq_true z]
        rfl
      · rw [if_neg (fun h => z (cv_inj _ _ _ (Nat.le_refl _) (lN_inj (by omega) (by omega) ((lg_cmp_eq _ _).mp h)))), decide_eq_false z]
        rfl
theorem C_isN {F : Nat} {t : Nat × Nat} {hc hm : HS} (hF : 2000 ≤ F) (q : TKr t hc hm) : f_Tape_isName F hc = some (bI (nmB t), hc) := by
  have k := TK_k1 q
  rw [f_Tape_isName, ite_iff k.1, rZ0, nmB]
  by_cases z : t.1 = 1
  · obtain ⟨e1, e2, e3⟩ := k.2.2.2.2.2.2.2.1 z
    rw [if_pos z, e1, f_Word_isReserved, bl_e, C_rsL e3 hc 23 0 (by omega) rfl F (by omega), bnd_s, ite_b0, rZ1, decide_eq_true z, Bool.true_and]
    cases resB t.2 23 <;> rfl
  · rw [if_neg z, decide_eq_false z]
    rfl
theorem M_isN {F : Nat} {t : Nat × Nat} {hc hm : HS} (hF : 2000 ≤ F) (q : TKr t hc hm) (R : RSr hm) : f_M_isName F hm = some (bI (nmB t), hm) := by
  have k := TK_k1 q
  rw [f_M_isName]
  dsimp only [bl]
  rw [ite_iff k.2.1, nmB]
  by_cases z : t.1 = 1
  · obtain ⟨e1, e2, e3⟩ := k.2.2.2.2.2.2.2.1 z
    rw [if_pos z, decide_eq_true z]
    exact M_rsL e3 e2 R true 23 0 (by omega) F (by omega)
  · rw [if_neg z, decide_eq_false z]
    have : ∀ (j k : Nat), k + j = 23 → ∀ g, j < g → l_M_isName_0 F g (nI 0) (nI k) hm = some (nI 0, hm) := by
      intro j
      induction j with
      | zero =>
        intro k hk g hg
        obtain ⟨g, rfl⟩ : ∃ z, g = z + 1 := ⟨g - 1, by omega⟩
        rw [l_M_isName_0, ite_leN (by omega) (by omega), if_pos (by omega), rZ0]
      | succ j ih =>
        intro k hk g hg
        obtain ⟨g, rfl⟩ : ∃ z, g = z + 1 := ⟨g - 1, by omega⟩
        rw [l_M_isName_0, ite_leN (by omega) (by omega), if_neg (by omega)]
        dsimp only [bl]
        rw [if_pos (show nI 0 = 0 from rfl), nI_add, ih (k + 1) (by omega) g (by omega)]
    exact this 23 0 (by omega) F (by omega)
/-- a NUMBER from lo to hi is taken, or a FAULT -/
theorem T_num {F n most p a : Nat} {t : Nat × Nat} {B : Nat → Nat} {hc hm : HS} (hF : 2000 ≤ F) (lo hi : Nat) (hlo : lo < 1000) (hhi : hi < 1000) (q : RD n most p a t B hc hm) : (∃ v p2 a2 t2 hc2 hm2, lo ≤ v ∧ v ≤ hi ∧ f_Tape_takeNumber F (nI lo) (nI hi) hc = some (nI 1, hc2) ∧ f_M_takes F (nI lo) (nI hi) hm = some (nI 1, hm2) ∧ RD n most p2 a2 t2 B hc2 hm2 ∧ a < a2 ∧ TS hc hm hc2 hm2 ∧ hc2.1 1 8 = nI v ∧ hm2.1 0 18 = nI v) ∨ BAD hc hm (f_Tape_takeNumber F (nI lo) (nI hi) hc) (f_M_takes F (nI lo) (nI hi) hm) := by
  have q0 := q
  obtain ⟨Y, q1, q2, q3, q4, q5, q6, q7, q8, q9, q10, q11, q12, q13⟩ := q
  have k := TK_k1 q13
  have f1 := T_fail 1 (by decide) q0
  have f2 := T_fail 2 (by decide) q0
  rw [f_Tape_takeNumber, ite_iff k.2.2.1, f_M_takes, ite_iff k.2.2.2.1]
  by_cases z : t.1 = 2
  · obtain ⟨e1, e2, e3⟩ := k.2.2.2.2.2.2.2.2.1 z
    rw [if_pos z, if_pos z, e1, e2, M_isIn, bnd_s, ite_b0]
    dsimp only [bl]
    rw [ite_ltN (by omega) (by omega), ite_leN (by omega) (by omega)]
    by_cases y : lo ≤ t.2 ∧ t.2 ≤ hi
    · rw [if_neg (show ¬ t.2 < lo by omega), if_pos y.2, if_pos (decide_eq_true ⟨(nI_leI (by omega) (by omega)).mpr y.1, (nI_leI (by omega) (by omega)).mpr y.2⟩)]
      have q2 : RD n most p a t B (sI hc 1 8 (nI t.2)) (sI hm 0 18 (nI t.2)) := by
        refine ⟨BYn_fr Y (sI_n (by decide)) (sI_o (by decide)) (sI_n (by decide)) (sI_o (by decide)), q1, by rw [sI_n (by decide)]; exact q2, by rw [sI_n (by decide)]; exact q3, by rw [sI_n (by decide)]; exact q4, by rw [sI_n (by decide)]; exact q5, q6, q7, q8, by rw [sI_n (by decide)]; exact q9, by rw [sI_n (by decide)]; exact q10, by rw [sI_n (by decide)]; exact q11, by rw [sI_n (by decide)]; exact q12, ?_⟩
        unfold TKr at q13 ⊢
        rw [sI_n (show (5 : Nat) ≠ 8 by decide), sI_n (show (11 : Nat) ≠ 18 by decide), sI_n (show (7 : Nat) ≠ 8 by decide), sI_n (show (14 : Nat) ≠ 18 by decide)]
        exact q13
      obtain ⟨p2, a2, t2, hc2, hm2, b1, b2, b3, b4, b5, b6, b7⟩ := T_adv hF q2 (by omega)
      rw [b1, e2, b2, bnd_s, bnd_s, rZ1, rZ1]
      exact Or.inl ⟨t.2, p2, a2, t2, hc2, hm2, y.1, y.2, rfl, rfl, b3, b4, TS_t ⟨Fr_sI (by decide), Fr_sI (by decide), F0r_sI (by decide)⟩ b5, by rw [b6, sI_e], by rw [b7, sI_e]⟩
    · right
      obtain ⟨hc2, hm2, g1, g2, g3, g4⟩ := f2
      have e4 : ∀ (X Z : Option (Int32 × HS)), (if t.2 < lo then X else if t.2 ≤ hi then Z else X) = X := fun X Z => by
        by_cases w : t.2 < lo
        · rw [if_pos w]
        · rw [if_neg w, if_neg (by omega)]
      rw [e4, g1, bnd_s, rZ0, if_neg (show ¬ decide (nI lo ≤ nI t.2 ∧ nI t.2 ≤ nI hi) = true from fun h => by
        have := of_decide_eq_true h
        exact y ⟨(nI_leI (by omega) (by omega)).mp this.1, (nI_leI (by omega) (by omega)).mp this.2⟩), g2, bnd_s, rZ0]
      exact ⟨hc2, hm2, rfl, rfl, g3, g4⟩
  · right
    obtain ⟨hc2, hm2, g1, g2, g3, g4⟩ := f1
    rw [if_neg z, if_neg z, g1, g2, bnd_s, bnd_s, rZ0, rZ0]
    exact ⟨hc2, hm2, rfl, rfl, g3, g4⟩
/-- the sign c is taken, or a FAULT -/
theorem T_sign {F n most p a c : Nat} {t : Nat × Nat} {B : Nat → Nat} {hc hm : HS} (hF : 2000 ≤ F) (hc6 : c = 40 ∨ c = 41 ∨ c = 59 ∨ c = 60 ∨ c = 61 ∨ c = 62) (q : RD n most p a t B hc hm) : (∃ p2 a2 t2 hc2 hm2, t = (3, c) ∧ f_Tape_takeSign F (nI c) hc = some (nI 1, hc2) ∧ f_M_sign F (nI c) hm = some (nI 1, hm2) ∧ RD n most p2 a2 t2 B hc2 hm2 ∧ a < a2 ∧ TS hc hm hc2 hm2 ∧ hc2.1 1 8 = hc.1 1 8) ∨ (t ≠ (3, c) ∧ BAD hc hm (f_Tape_takeSign F (nI c) hc) (f_M_sign F (nI c) hm)) := by
  have k := TK_k1 q.2.2.2.2.2.2.2.2.2.2.2.2.2
  have eC : hc.1 1 5 = nI c ↔ t = (3, c) := by
    obtain ⟨k1, -, k2, -, k3, -, -, -, -, k4, k5, k6⟩ := k
    constructor
    · intro h
      rcases k6 with z | z | z | z | z
      · have := k3.mpr z; rw [h] at this; have := nI_inj (by omega) (by omega) this; omega
      · have := k1.mpr z; rw [h] at this; have := nI_inj (by omega) (by omega) this; omega
      · have := k2.mpr z; rw [h] at this; have := nI_inj (by omega) (by omega) this; omega
      · obtain ⟨e1, e2, e3⟩ := k4 z
        rw [h] at e1
        have := nI_inj (by omega) (by omega) e1
        exact Prod.ext z this.symm
      · rcases k5 z with e | e
        · rw [h] at e; have := nI_inj (by omega) (by omega) e; omega
        · rw [h] at e; have := nI_inj (by omega) (by omega) e; omega
    · intro h
      have := (k4 (by rw [h])).1
      rw [this, h]
  have eM : f_M_isSign (nI c) hm = some (bI (decide (t = (3, c))), hm) := by
    rw [f_M_isSign, ite_iff k.2.2.2.2.2.2.1, rZ0, rZ1]
    by_cases z : t.1 = 3
    · obtain ⟨e1, e2, e3⟩ := k.2.2.2.2.2.2.2.2.2.1 z
      rw [if_pos z, e2, ite_eqN (by omega) (by omega)]
      by_cases y : t.2 = c
      · rw [if_pos y, decide_eq_true (Prod.ext z y)]; rfl
      · rw [if_neg y, decide_eq_false (fun h => y (by rw [h]))]; rfl
    · rw [if_neg z, decide_eq_false (fun h => z (by rw [h]))]; rfl
  rw [f_Tape_takeSign, ite_iff eC, f_M_sign, eM, bnd_s, ite_b0]
  by_cases z : t = (3, c)
  · obtain ⟨p2, a2, t2, hc2, hm2, b1, b2, b3, b4, b5, b6, b7⟩ := T_adv hF q (by rw [z]; exact Or.inr (Or.inr rfl))
    rw [if_pos z, if_pos (decide_eq_true z), b1, b2, bnd_s, bnd_s, rZ1, rZ1]
    exact Or.inl ⟨p2, a2, t2, hc2, hm2, z, rfl, rfl, b3, b4, b5, b6⟩
  · obtain ⟨hc2, hm2, g1, g2, g3, g4⟩ := T_fail 1 (by decide) q
    rw [if_neg z, if_neg (show ¬ decide (t = (3, c)) = true by simpa using z), g1, g2, bnd_s, bnd_s, rZ0, rZ0]
    exact Or.inr ⟨z, hc2, hm2, rfl, rfl, g3, g4⟩
