/-! ===== TOKENS: the next one, on both sides ===== -/
theorem sI_id {h : HS} {i k : Nat} {v : Int32} (e : h.1 i k = v) : sI h i k v = h := by
  subst e
  rw [sI_st, upd_self, st_s]
theorem sI_sI {h : HS} {i k : Nat} {v w : Int32} : sI (sI h i k v) i k w = sI h i k w := by
  refine Prod.ext ?_ rfl
  funext a b
  show (if a = i ∧ b = k then w else (if a = i ∧ b = k then v else h.1 a b)) = (if a = i ∧ b = k then w else h.1 a b)
  split <;> rfl
/-- a TOKEN: 0 the end, 1 a WORD (its letters), 2 a NUMBER, 3 a sign, 4 none -/
def TKr (t : Nat × Nat) (hc hm : HS) : Prop := (t.1 = 0 ∧ hc.1 1 5 = nI 0 ∧ hm.1 0 11 = nI 0) ∨ (t.1 = 1 ∧ hc.1 1 5 = nI 1 ∧ hm.1 0 11 = nI 1 ∧ hc.2 1 6 = lN t.2 ∧ hm.2 0 17 = lN (cv t.2) ∧ t.2 < 32 ^ 7) ∨ (t.1 = 2 ∧ hc.1 1 5 = nI 2 ∧ hm.1 0 11 = nI 2 ∧ hc.1 1 7 = nI t.2 ∧ hm.1 0 14 = nI t.2 ∧ t.2 ≤ 999) ∨ (t.1 = 3 ∧ hc.1 1 5 = nI t.2 ∧ hm.1 0 11 = nI 3 ∧ hm.1 0 14 = nI t.2 ∧ (t.2 = 40 ∨ t.2 = 41 ∨ t.2 = 59 ∨ t.2 = 60 ∨ t.2 = 61 ∨ t.2 = 62)) ∨ (t.1 = 4 ∧ (hc.1 1 5 = nI 3 ∨ hc.1 1 5 = nI 46) ∧ hm.1 0 11 = nI 4)
theorem C_atB {n p : Nat} {B : Nat → Nat} {hc hm : HS} (Y : BYn n B hc hm) (hp : p < n) : f_Tape_at (nI p) hc = some (nI (B p), hc) := by
  obtain ⟨y0, y1, -, y3⟩ := Y
  obtain ⟨z1, z2, -⟩ := y3 p hp
  rw [C_at y1 y0 p (by omega), if_neg (by omega), z1, z2]
theorem SKP {F n : Nat} {B : Nat → Nat} : ∀ (j p : Nat) (hc hm : HS), p + j = n → BYn n B hc hm → hc.1 1 3 = nI p → hm.1 0 4 = nI p → ∃ p2, p ≤ p2 ∧ p2 ≤ n ∧ (p2 = n ∨ (B p2 ≠ 32 ∧ B p2 ≠ 10)) ∧ (∀ K g, j < g → l_Tape_advance_0 F K g hc = K (sI hc 1 3 (nI p2))) ∧ (∀ K g, j < g → l_M_next_0 F K g hm = K (sI hm 0 4 (nI p2))) := by
  intro j
  induction j with
  | zero =>
    intro p hc hm hp Y c3 m4
    refine ⟨p, Nat.le_refl _, by omega, Or.inl (by omega), fun K g hg => ?_, fun K g hg => ?_⟩
    · obtain ⟨g, rfl⟩ : ∃ z, g = z + 1 := ⟨g - 1, by omega⟩
      have y0 := Y.1
      rw [l_Tape_advance_0, Y.2.1, c3, ite_leN (by omega) (by omega), if_pos (by omega), sI_id c3]
    · obtain ⟨g, rfl⟩ : ∃ z, g = z + 1 := ⟨g - 1, by omega⟩
      have P0 := M_peek Y m4 (by omega)
      rw [if_neg (by omega)] at P0
      rw [l_M_next_0, P0, bnd_s]
      dsimp only [bl]
      rw [if_neg (show ¬ (-1 : Int32) = nI 32 by decide), P0, bnd_s, if_neg (show ¬ (-1 : Int32) = nI 10 by decide), sI_id m4]
  | succ j ih =>
    intro p hc hm hp Y c3 m4
    have y0 := Y.1
    have hb := (Y.2.2.2 p (by omega)).2.2.1
    have P0 := M_peek Y m4 (by omega)
    rw [if_pos (by omega)] at P0
    have C0 := C_atB Y (show p < n by omega)
    by_cases z : B p = 32 ∨ B p = 10
    · have Y2 : BYn n B (sI hc 1 3 (nI (p + 1))) (sI hm 0 4 (nI (p + 1))) := BYn_fr Y (sI_n (by decide)) (sI_o (by decide)) (sI_n (by decide)) (sI_o (by decide))
      obtain ⟨p2, a1, a2, a3, a4, a5⟩ := ih (p + 1) _ _ (by omega) Y2 sI_e sI_e
      refine ⟨p2, by omega, a2, a3, fun K g hg => ?_, fun K g hg => ?_⟩
      · obtain ⟨g, rfl⟩ : ∃ z, g = z + 1 := ⟨g - 1, by omega⟩
        have a4 := a4 K g (by omega)
        rw [sI_sI] at a4
        rw [← a4, l_Tape_advance_0, Y.2.1, c3, ite_leN (by omega) (by omega), if_neg (by omega), C0, bnd_s]
        dsimp only [bl]
        rw [c3, C0, bnd_s, nI_add, ite_eqN (by omega) (by omega), ite_eqN (by omega) (by omega)]
        by_cases e : B p = 32
        · rw [if_pos e]
        · rw [if_neg e, if_pos (z.resolve_left e), c3, nI_add]
      · obtain ⟨g, rfl⟩ : ∃ z, g = z + 1 := ⟨g - 1, by omega⟩
        have a5 := a5 K g (by omega)
        rw [sI_sI] at a5
        rw [← a5, l_M_next_0, P0, bnd_s]
        dsimp only [bl]
        rw [P0, bnd_s, m4, nI_add, ite_eqN (by omega) (by omega), ite_eqN (by omega) (by omega)]
        by_cases e : B p = 32
        · rw [if_pos e]
        · rw [if_neg e, if_pos (z.resolve_left e)]
    · refine ⟨p, Nat.le_refl _, by omega, Or.inr ⟨fun e => z (Or.inl e), fun e => z (Or.inr e)⟩, fun K g hg => ?_, fun K g hg => ?_⟩
      · obtain ⟨g, rfl⟩ : ∃ z, g = z + 1 := ⟨g - 1, by omega⟩
        rw [l_Tape_advance_0, Y.2.1, c3, ite_leN (by omega) (by omega), if_neg (by omega), C0, bnd_s]
        dsimp only [bl]
        rw [c3, C0, bnd_s, ite_eqN (by omega) (by omega), ite_eqN (by omega) (by omega), if_neg (fun e => z (Or.inl e)), if_neg (fun e => z (Or.inr e)), sI_id c3]
      · obtain ⟨g, rfl⟩ : ∃ z, g = z + 1 := ⟨g - 1, by omega⟩
        rw [l_M_next_0, P0, bnd_s]
        dsimp only [bl]
        rw [P0, bnd_s, ite_eqN (by omega) (by omega), ite_eqN (by omega) (by omega), if_neg (fun e => z (Or.inl e)), if_neg (fun e => z (Or.inr e)), sI_id m4]
def sgB (b : Nat) : Bool := decide (b = 59 ∨ b = 60 ∨ b = 61 ∨ b = 62 ∨ b = 40 ∨ b = 41)
theorem sg_all : ∀ b, b < 256 → smB b = false → dgB b = false → sgB b = true → b = 40 ∨ b = 41 ∨ b = 59 ∨ b = 60 ∨ b = 61 ∨ b = 62 := fun b _ _ _ h => by
  have := of_decide_eq_true h
  omega
theorem C_tokSign {b : Nat} (hb : b < 256) (h : HS) : f_Tape_isTokenSign (nI b) h = some (bI (sgB b || decide (b = 46)), h) := by
  rw [f_Tape_isTokenSign]
  repeat rw [ite_eqN (by omega) (by omega)]
  rw [rZ0, rZ1]
  by_cases e : b = 59 ∨ b = 60 ∨ b = 61 ∨ b = 62 ∨ b = 40 ∨ b = 41 ∨ b = 46
  · rcases e with e | e | e | e | e | e | e <;> subst e <;> rfl
  · rw [if_neg (fun x => e (by omega)), if_neg (fun x => e (by omega)), if_neg (fun x => e (by omega)), if_neg (fun x => e (by omega)), if_neg (fun x => e (by omega)), if_neg (fun x => e (by omega)), if_neg (fun x => e (by omega))]
    have h1 : sgB b = false := decide_eq_false (by omega)
    have h2 : decide (b = 46) = false := decide_eq_false (by omega)
    rw [h1, h2]
    rfl
theorem C_readRun {F n p : Nat} {B : Nat → Nat} {hc hm : HS} (hF : 2000 ≤ F) (Y : BYn n B hc hm) (c3 : hc.1 1 3 = nI p) (m4 : hm.1 0 4 = nI p) (m13 : hm.1 0 13 = nI 0) (hp : p < n) (hB : smB (B p) = true ∨ dgB (B p) = true) : ∃ q2 L2 D2 hc2 hm2, p < q2 ∧ q2 ≤ n ∧ (smB (B p) = true → 0 < L2) ∧ (smB (B p) = false → 0 < D2) ∧ RUN q2 L2 D2 hc2 hm2 ∧ f_Tape_readRun F hc = some ((), sI hc2 1 5 (nI (if D2 = 0 then (if L2 ≤ 7 then 1 else 3) else (if L2 = 0 then (if D2 ≤ 3 then 2 else 3) else 3)))) ∧ (∀ K, l_M_next_1 F (bI (smB (B p))) K F (nI 1) (sI (sL hm 0 17 (0 : Int64)) 0 14 (nI 0)) = K (bI (alB (smB (B p)) L2 D2)) hm2) ∧ Fr [1] hc hc2 ∧ F1r [3, 7] hc hc2 ∧ Fr [0] hm hm2 ∧ F0r [4, 13, 14] hm hm2 ∧ L2 + D2 ≤ 940 := by
  have y0 := Y.1
  have fc : Fr [1] hc (sI (sL hc 1 6 (0 : Int64)) 1 7 (nI 0)) := Fr_t (Fr_sL (by decide)) (Fr_sI (by decide))
  have f1 : F1r [3, 7] hc (sI (sL hc 1 6 (0 : Int64)) 1 7 (nI 0)) := F1r_t F1r_sL (F1r_sI (by decide))
  have fm : Fr [0] hm (sI (sL hm 0 17 (0 : Int64)) 0 14 (nI 0)) := Fr_t (Fr_sL (by decide)) (Fr_sI (by decide))
  have f0 : F0r [4, 13, 14] hm (sI (sL hm 0 17 (0 : Int64)) 0 14 (nI 0)) := F0r_t (fun _ _ => rfl) (F0r_sI (by decide))
  have Y1 := BYn_fr Y (f1 1 (by decide)) (fc 2 (by decide)).1 (f0 3 (by decide)) (fm 1 (by decide)).1
  have R1 : RUN p 0 0 (sI (sL hc 1 6 (0 : Int64)) 1 7 (nI 0)) (sI (sL hm 0 17 (0 : Int64)) 0 14 (nI 0)) := by
    refine ⟨by rw [sI_n (by decide)]; exact c3, by rw [sI_n (by decide)]; exact m4, by rw [sI_n (by decide)]; exact m13, fun _ _ => ⟨0, by decide, by rw [sI_2, sL_e]; rfl, by rw [sI_2, sL_e, cv_0]; rfl⟩, fun _ _ => ⟨0, by decide, sI_e, sI_e⟩⟩
  obtain ⟨q2, L2, D2, hc2, hm2, b1, b2, b3, b4, b5, b6, b7, b8, b9, b10, b11, b12, b13, b14, b15⟩ := RUN_go (F := F) (smB (B p)) (n - p) p 0 0 _ _ (by omega) (by omega) Y1 R1
  have b7 := b7 hp
  have hD : smB (B p) = false → 0 < D2 := fun e => b7.2 (hB.resolve_left (by rw [e]; decide))
  have hq : p < q2 := by
    cases e : smB (B p)
    · have := hD e; omega
    · have := b7.1 e; omega
  refine ⟨q2, L2, D2, hc2, hm2, hq, b2, b7.1, hD, b8, ?_, fun K => ?_, Fr_t fc b12, F1r_t f1 b13, Fr_t fm b14, F0r_t f0 b15, by omega⟩
  · rw [f_Tape_readRun, bl_e, bl_e, bl_e, bl_e]
    have b10 := fun K => b10 K F (by omega)
    rw [show nI 0 = nI 0 from rfl, b10, ite_eq0 (by omega)]
    dsimp only [bl]
    rw [ite_eq0 (by omega), ite_ltN (by omega) (by omega), ite_ltN (by omega) (by omega)]
    by_cases e : D2 = 0
    · rw [if_pos e, if_pos e]
      by_cases e2 : 7 < L2
      · rw [if_pos e2, if_neg (by omega)]
      · rw [if_neg e2, if_pos (by omega)]
    · rw [if_neg e, if_neg e]
      by_cases e2 : L2 = 0
      · rw [if_pos e2, if_pos e2]
        by_cases e3 : 3 < D2
        · rw [if_pos e3, if_neg (by omega)]
        · rw [if_neg e3, if_pos (by omega)]
      · rw [if_neg e2, if_neg e2]
  · have := b11 K F (by omega)
    rw [show alB (smB (B p)) 0 0 = true by cases smB (B p) <;> rfl] at this
    exact this
theorem ADV {F n most p : Nat} {B : Nat → Nat} {hc hm : HS} (hF : 2000 ≤ F) (Y : BYn n B hc hm) (hmo : most ≤ 940) (c2 : hc.1 1 2 = nI most) (m5 : hm.1 0 5 = nI most) (c3 : hc.1 1 3 = nI p) (m4 : hm.1 0 4 = nI p) (hp : p ≤ n) : ∃ p2 a2 t hc2 hm2, f_Tape_advance F hc = some ((), hc2) ∧ f_M_next F hm = some ((), hm2) ∧ p ≤ p2 ∧ p2 ≤ n ∧ a2 ≤ 940 ∧ (p ≤ a2 ∨ a2 = most) ∧ ((t.1 = 1 ∨ t.1 = 2 ∨ t.1 = 3) → a2 < p2 ∧ a2 < most) ∧ hc2.1 1 3 = nI p2 ∧ hm2.1 0 4 = nI p2 ∧ hc2.1 1 4 = nI a2 ∧ hm2.1 0 12 = nI a2 ∧ TKr t hc2 hm2 ∧ Fr [1] hc hc2 ∧ F1r [3, 4, 5, 7] hc hc2 ∧ Fr [0] hm hm2 ∧ F0r [4, 11, 12, 13, 14] hm hm2 := by
  have y0 := Y.1
  obtain ⟨s, a1, a2, a3, a4, a5⟩ := SKP (F := F) (n - p) p hc hm (by omega) Y c3 m4
  have a4 := fun K => a4 K F (by omega)
  have a5 := fun K => a5 K F (by omega)
  have fc1 : Fr [1] hc (sI hc 1 3 (nI s)) := Fr_sI (by decide)
  have g1 : F1r [3, 4, 5, 7] hc (sI hc 1 3 (nI s)) := F1r_sI (by decide)
  have c31 : (sI hc 1 3 (nI s)).1 1 3 = nI s := sI_e
  have fm1 : Fr [0] hm (sI (sI (sI hm 0 4 (nI s)) 0 12 (nI s)) 0 13 (nI 0)) := Fr_t (Fr_t (Fr_sI (by decide)) (Fr_sI (by decide))) (Fr_sI (by decide))
  have k1 : F0r [4, 11, 12, 13, 14] hm (sI (sI (sI hm 0 4 (nI s)) 0 12 (nI s)) 0 13 (nI 0)) := F0r_t (F0r_t (F0r_sI (by decide)) (F0r_sI (by decide))) (F0r_sI (by decide))
  have m41 : (sI (sI (sI hm 0 4 (nI s)) 0 12 (nI s)) 0 13 (nI 0)).1 0 4 = nI s := by rw [sI_n (by decide), sI_n (by decide), sI_e]
  have m121 : (sI (sI (sI hm 0 4 (nI s)) 0 12 (nI s)) 0 13 (nI 0)).1 0 12 = nI s := by rw [sI_n (by decide), sI_e]
  have m131 : (sI (sI (sI hm 0 4 (nI s)) 0 12 (nI s)) 0 13 (nI 0)).1 0 13 = nI 0 := sI_e
  have m40 : (sI hm 0 4 (nI s)).1 0 4 = nI s := sI_e
  have eC := fun X (h : f_Tape_advance F hc = X) => h
  rw [f_Tape_advance, a4, f_M_next, a5]
  clear a4 a5 eC
  dsimp only [bl]
  rw [m40]
  generalize hh1 : sI hc 1 3 (nI s) = hc1 at fc1 g1 c31
  generalize hh2 : sI (sI (sI hm 0 4 (nI s)) 0 12 (nI s)) 0 13 (nI 0) = hm1 at fm1 k1 m41 m121 m131
  clear hh1 hh2 m40
  have Y1 : BYn n B hc1 hm1 := BYn_fr Y (g1 1 (by decide)) (fc1 2 (by decide)).1 (k1 3 (by decide)) (fm1 1 (by decide)).1
  have c21 : hc1.1 1 2 = nI most := by rw [g1 2 (by decide), c2]
  have m51 : hm1.1 0 5 = nI most := by rw [k1 5 (by decide), m5]
  obtain ⟨-, c11, m31, yy⟩ := id Y1
  have P0 := M_peek Y1 m41 a2
  rw [c11, c31, c21, m31, m51, m41, ite_leN (show n < 2147483648 by omega) (show s < 2147483648 by omega), ite_ltN (show s < 2147483648 by omega) (show most < 2147483648 by omega), ite_ltN (show most < 2147483648 by omega) (show n < 2147483648 by omega), sI_n (show (1 : Nat) ≠ 4 by decide), sI_n (show (2 : Nat) ≠ 4 by decide), c11, c21, ite_leN (show n < 2147483648 by omega) (show most < 2147483648 by omega), ite_leN (show n < 2147483648 by omega) (show most < 2147483648 by omega), ite_ltN (show s < 2147483648 by omega) (show most < 2147483648 by omega)]
  by_cases hB : s < n ∧ s < most
  · obtain ⟨b1, b2⟩ := hB
    have hb := (yy s b1).2.2.1
    have fcP : Fr [1] hc1 (sI hc1 1 4 (nI s)) := Fr_sI (by decide)
    have gP : F1r [3, 4, 5, 7] hc1 (sI hc1 1 4 (nI s)) := F1r_sI (by decide)
    have c3P : (sI hc1 1 4 (nI s)).1 1 3 = nI s := by rw [sI_n (by decide), c31]
    have c4P : (sI hc1 1 4 (nI s)).1 1 4 = nI s := sI_e
    have YP : BYn n B (sI hc1 1 4 (nI s)) hm1 := BYn_fr Y1 (gP 1 (by decide)) (fcP 2 (by decide)).1 rfl rfl
    generalize hP : sI hc1 1 4 (nI s) = hcP at fcP gP c3P c4P YP
    have fcQ := Fr_t fc1 fcP
    have gQ := F1r_t g1 gP
    have eX : ∀ (X Z : Option (Unit × HS)), (if n ≤ most then X else if s < most then X else Z) = X := fun X Z => by
      by_cases z : n ≤ most
      · rw [if_pos z]
      · rw [if_neg z, if_pos b2]
    have eCb : ∀ (X Z : Option (Unit × HS)), (if nI (B s) < nI 97 then (if nI (B s) < nI 48 then X else if nI 57 < nI (B s) then X else Z) else if nI (B s) ≤ nI 122 then Z else (if nI (B s) < nI 48 then X else if nI 57 < nI (B s) then X else Z)) = if (smB (B s) || dgB (B s)) = true then Z else X := fun X Z => by
      rw [ite_ltN (by omega) (by omega), ite_ltN (by omega) (by omega), ite_ltN (by omega) (by omega), ite_leN (by omega) (by omega)]
      have hd : (if B s < 48 then X else if 57 < B s then X else Z) = if dgB (B s) = true then Z else X := by
        by_cases x : 48 ≤ B s ∧ B s ≤ 57
        · rw [if_neg (by omega), if_neg (by omega), if_pos (show dgB (B s) = true from decide_eq_true x)]
        · rw [if_neg (show ¬ dgB (B s) = true from fun h => x (of_decide_eq_true h))]
          by_cases y : B s < 48
          · rw [if_pos y]
          · rw [if_neg y, if_pos (by omega)]
      rw [hd]
      by_cases x : 97 ≤ B s ∧ B s ≤ 122
      · rw [if_neg (by omega), if_pos (by omega), show smB (B s) = true from decide_eq_true x, Bool.true_or, if_pos rfl]
      · rw [show smB (B s) = false from decide_eq_false x, Bool.false_or]
        by_cases y : B s < 97
        · rw [if_pos y]
        · rw [if_neg y, if_neg (by omega)]
    have eSg : ∀ (X Z : Option (Unit × HS)), (if nI (B s) = nI 59 then X else if nI (B s) = nI 40 then X else if nI (B s) = nI 41 then X else if nI (B s) < nI 60 then Z else if nI 62 < nI (B s) then Z else X) = if sgB (B s) = true then X else Z := fun X Z => by
      rw [ite_eqN (by omega) (by omega), ite_eqN (by omega) (by omega), ite_eqN (by omega) (by omega), ite_ltN (by omega) (by omega), ite_ltN (by omega) (by omega)]
      by_cases x : B s = 59 ∨ B s = 60 ∨ B s = 61 ∨ B s = 62 ∨ B s = 40 ∨ B s = 41
      · rw [if_pos (show sgB (B s) = true from decide_eq_true x)]
        by_cases x1 : B s = 59
        · rw [if_pos x1]
        · rw [if_neg x1]
          by_cases x2 : B s = 40
          · rw [if_pos x2]
          · rw [if_neg x2]
            by_cases x3 : B s = 41
            · rw [if_pos x3]
            · rw [if_neg x3, if_neg (by omega), if_neg (by omega)]
      · rw [if_neg (show ¬ sgB (B s) = true from fun h => x (of_decide_eq_true h)), if_neg (by omega), if_neg (by omega), if_neg (by omega)]
        by_cases x4 : B s < 60
        · rw [if_pos x4]
        · rw [if_neg x4, if_pos (by omega)]
    rw [if_pos b1] at P0
    rw [if_neg (show ¬ n ≤ s by omega), if_pos b2, c3P, C_atB YP b1, bnd_s, eCb, c3P, nI_add, eX, P0, bnd_s, ite_ge0 (by omega), M_isSmall hb, bnd_s, ite_b0, M_isDigit hb, bnd_s, ite_b0, M_isSmall hb, bnd_s, eSg]
    by_cases hr : (smB (B s) || dgB (B s)) = true
    · have hr2 : smB (B s) = true ∨ dgB (B s) = true := by simpa using hr
      obtain ⟨q2, L, D, hcR, hmR, e1, e2, e3, e4, e5, e6, e7, e8, e9, e10, e11, e12⟩ := C_readRun (F := F) hF YP c3P m41 m131 b1 hr2
      obtain ⟨r1, r2, r3, r4, r5⟩ := e5
      have eM : ∀ (X Z : Option (Unit × HS)), (if smB (B s) = true then X else (if dgB (B s) = true then X else Z)) = X := fun X Z => by
        rcases hr2 with z | z
        · rw [if_pos z]
        · rw [if_pos z]
          split <;> rfl
      rw [if_pos hr, eM, e6, bnd_s, e7, r3, ite_b0, ite_b0, ite_leN (by omega) (by omega), ite_leN (by omega) (by omega)]
      have hL1 : 10 ^ D ≤ 10 ^ 3 ∨ 3 < D := by
        by_cases z : D ≤ 3
        · exact Or.inl (Nat.pow_le_pow_right (by decide) z)
        · exact Or.inr (by omega)
      have hL2 : 32 ^ L ≤ 32 ^ 7 ∨ 7 < L := by
        by_cases z : L ≤ 7
        · exact Or.inl (Nat.pow_le_pow_right (by decide) z)
        · exact Or.inr (by omega)
      have fin : ∀ (t : Nat × Nat) (vk vt : Nat) (X : Option (Unit × HS)), X = some ((), sI hmR 0 11 (nI vt)) → TKr t (sI hcR 1 5 (nI vk)) (sI hmR 0 11 (nI vt)) → ∃ p2 a2 t hc2 hm2, some ((), sI hcR 1 5 (nI vk)) = some ((), hc2) ∧ X = some ((), hm2) ∧ p ≤ p2 ∧ p2 ≤ n ∧ a2 ≤ 940 ∧ (p ≤ a2 ∨ a2 = most) ∧ ((t.1 = 1 ∨ t.1 = 2 ∨ t.1 = 3) → a2 < p2 ∧ a2 < most) ∧ hc2.1 1 3 = nI p2 ∧ hm2.1 0 4 = nI p2 ∧ hc2.1 1 4 = nI a2 ∧ hm2.1 0 12 = nI a2 ∧ TKr t hc2 hm2 ∧ Fr [1] hc hc2 ∧ F1r [3, 4, 5, 7] hc hc2 ∧ Fr [0] hm hm2 ∧ F0r [4, 11, 12, 13, 14] hm hm2 := fun t vk vt X hX hT => by
        subst hX
        refine ⟨q2, s, t, _, _, rfl, rfl, by omega, e2, by omega, Or.inl a1, fun _ => ⟨e1, b2⟩, by rw [sI_n (by decide), r1], by rw [sI_n (by decide), r2], by rw [sI_n (by decide), e9 4 (by decide), c4P], by rw [sI_n (by decide), e11 12 (by decide), m121], hT, Fr_t (Fr_t fcQ e8) (Fr_sI (by decide)), F1r_t (F1r_t gQ (fun k hk => e9 k (fun z => hk ?_))) (F1r_sI (by decide)), Fr_t (Fr_t fm1 e10) (Fr_sI (by decide)), F0r_t (F0r_t k1 (fun k hk => e11 k (fun z => hk ?_))) (F0r_sI (by decide))⟩
        · have : ∀ x, x ∈ [3, 7] → x ∈ [3, 4, 5, 7] := by decide
          exact this k z
        · have : ∀ x, x ∈ [4, 13, 14] → x ∈ [4, 11, 12, 13, 14] := by decide
          exact this k z
      have t4 : TKr (4, 0) (sI hcR 1 5 (nI 3)) (sI hmR 0 11 (nI 4)) := Or.inr (Or.inr (Or.inr (Or.inr ⟨rfl, Or.inl sI_e, sI_e⟩)))
      cases f : smB (B s)
      · have hD := e4 f
        rw [if_neg (show ¬ D = 0 by omega)]
        by_cases l0 : L = 0
        · rw [if_pos l0, show alB false L D = true from decide_eq_true l0, if_pos rfl, if_neg (show ¬ false = true by decide)]
          by_cases d3 : D ≤ 3
          · obtain ⟨v, v1, v2, v3⟩ := r5 l0 d3
            rw [if_pos d3]
            refine fin (2, v) 2 2 _ (by rw [if_pos (by omega)]; rfl) (Or.inr (Or.inr (Or.inl ⟨rfl, sI_e, sI_e, by rw [sI_n (by decide), v2], by rw [sI_n (by decide), v3], by omega⟩)))
          · rw [if_neg d3]
            exact fin (4, 0) 3 4 _ (by rw [if_neg (by omega)]) t4
        · rw [if_neg l0, show alB false L D = false from decide_eq_false l0]
          exact fin (4, 0) 3 4 _ rfl t4
      · have hL := e3 f
        by_cases d0 : D = 0
        · rw [if_pos d0, show alB true L D = true from decide_eq_true d0, if_pos rfl, if_pos rfl]
          by_cases l7 : L ≤ 7
          · obtain ⟨v, v1, v2, v3⟩ := r4 d0 l7
            rw [if_pos l7]
            refine fin (1, v) 1 1 _ (by rw [if_pos (by omega)]; rfl) (Or.inr (Or.inl ⟨rfl, sI_e, sI_e, by rw [sI_2, v2], by rw [sI_2, v3], by omega⟩))
          · rw [if_neg l7]
            exact fin (4, 0) 3 4 _ (by rw [if_neg (by omega)]) t4
        · rw [if_neg d0, if_neg (show ¬ L = 0 by omega), show alB true L D = false from decide_eq_false d0]
          exact fin (4, 0) 3 4 _ rfl t4
    · have hs : smB (B s) = false ∧ dgB (B s) = false := by simpa using hr
      have YQ : BYn n B (sI hcP 1 3 (nI (s + 1))) hm1 := BYn_fr YP (sI_n (by decide)) (sI_o (by decide)) rfl rfl
      rw [if_neg hr, C_tokSign hb, bnd_s, ite_b0, if_neg (show ¬ smB (B s) = true by rw [hs.1]; decide), if_neg (show ¬ dgB (B s) = true by rw [hs.2]; decide)]
      rw [sI_n (show (4 : Nat) ≠ 14 by decide), sI_n (show (4 : Nat) ≠ 11 by decide), m41, sI_n (show (4 : Nat) ≠ 14 by decide), sI_n (show (4 : Nat) ≠ 11 by decide), m41, nI_add]
      have fin : ∀ (t : Nat × Nat) (vk vt : Nat), TKr t (sI (sI hcP 1 3 (nI (s + 1))) 1 5 (nI vk)) (sI (sI (sI hm1 0 11 (nI vt)) 0 14 (nI (B s))) 0 4 (nI (s + 1))) → ∃ p2 a2 t hc2 hm2, some ((), sI (sI hcP 1 3 (nI (s + 1))) 1 5 (nI vk)) = some ((), hc2) ∧ some ((), sI (sI (sI hm1 0 11 (nI vt)) 0 14 (nI (B s))) 0 4 (nI (s + 1))) = some ((), hm2) ∧ p ≤ p2 ∧ p2 ≤ n ∧ a2 ≤ 940 ∧ (p ≤ a2 ∨ a2 = most) ∧ ((t.1 = 1 ∨ t.1 = 2 ∨ t.1 = 3) → a2 < p2 ∧ a2 < most) ∧ hc2.1 1 3 = nI p2 ∧ hm2.1 0 4 = nI p2 ∧ hc2.1 1 4 = nI a2 ∧ hm2.1 0 12 = nI a2 ∧ TKr t hc2 hm2 ∧ Fr [1] hc hc2 ∧ F1r [3, 4, 5, 7] hc hc2 ∧ Fr [0] hm hm2 ∧ F0r [4, 11, 12, 13, 14] hm hm2 := fun t vk vt hT => by
        refine ⟨s + 1, s, t, _, _, rfl, rfl, by omega, by omega, by omega, Or.inl a1, fun _ => ⟨by omega, b2⟩, by rw [sI_n (by decide), sI_e], sI_e, by rw [sI_n (by decide), sI_n (by decide), c4P], by rw [sI_n (by decide), sI_n (by decide), sI_n (by decide), m121], hT, Fr_t (Fr_t fcQ (Fr_sI (by decide))) (Fr_sI (by decide)), F1r_t (F1r_t gQ (F1r_sI (by decide))) (F1r_sI (by decide)), Fr_t (Fr_t (Fr_t fm1 (Fr_sI (by decide))) (Fr_sI (by decide))) (Fr_sI (by decide)), F0r_t (F0r_t (F0r_t k1 (F0r_sI (by decide))) (F0r_sI (by decide))) (F0r_sI (by decide))⟩
      by_cases hg : sgB (B s) = true
      · rw [hg, Bool.true_or, if_pos rfl, if_pos rfl]
        have h6 := sg_all _ hb hs.1 hs.2 hg
        exact fin (3, B s) (B s) 3 (Or.inr (Or.inr (Or.inr (Or.inl ⟨rfl, sI_e, by rw [sI_n (by decide), sI_n (by decide), sI_e], by rw [sI_n (by decide), sI_e], h6⟩))))
      · rw [show sgB (B s) = false by simpa using hg, Bool.false_or, if_neg (show ¬ false = true by decide)]
        have m11 : (sI (sI (sI hm1 0 11 (nI 4)) 0 14 (nI (B s))) 0 4 (nI (s + 1))).1 0 11 = nI 4 := by rw [sI_n (by decide), sI_n (by decide), sI_e]
        by_cases h46 : B s = 46
        · rw [if_pos (decide_eq_true h46)]
          exact fin (4, 0) (B s) 4 (Or.inr (Or.inr (Or.inr (Or.inr ⟨rfl, Or.inr (by rw [sI_e, h46]), m11⟩))))
        · rw [if_neg (show ¬ decide (B s = 46) = true by simpa using h46)]
          exact fin (4, 0) 3 4 (Or.inr (Or.inr (Or.inr (Or.inr ⟨rfl, Or.inl sI_e, m11⟩))))
  · by_cases h1 : n ≤ most
    · have hs : s = n := by omega
      rw [if_neg (show ¬ s < n by omega)] at P0
      rw [if_pos (show n ≤ s by omega), if_pos h1, if_pos h1, P0, bnd_s, if_neg (show ¬ (0 : Int32) ≤ -1 by decide), if_neg (show ¬ most < n by omega)]
      refine ⟨s, n, (0, 0), _, _, rfl, rfl, a1, a2, y0, Or.inl hp, fun h => ?_, ?_, ?_, ?_, ?_, Or.inl ⟨rfl, sI_e, sI_e⟩, Fr_t (Fr_t fc1 (Fr_sI (by decide))) (Fr_sI (by decide)), F1r_t (F1r_t g1 (F1r_sI (by decide))) (F1r_sI (by decide)), Fr_t fm1 (Fr_sI (by decide)), F0r_t k1 (F0r_sI (by decide))⟩
      · have h : (0 : Nat) = 1 ∨ (0 : Nat) = 2 ∨ (0 : Nat) = 3 := h
        omega
      · rw [sI_n (by decide), sI_n (by decide), c31]
      · rw [sI_n (by decide), m41]
      · rw [sI_n (by decide), sI_e]
      · rw [sI_n (by decide), m121, hs]
    · have hs : most ≤ s := by omega
      have e1 : ∀ (X Z : Option (Unit × HS)), (if n ≤ s then X else if s < most then Z else X) = X := fun X Z => by
        by_cases z : n ≤ s
        · rw [if_pos z]
        · rw [if_neg z, if_neg (by omega)]
      rw [if_neg h1, e1, if_neg h1, if_neg (show ¬ s < most by omega), if_pos (show most < n by omega)]
      refine ⟨s, most, (4, 0), _, _, rfl, rfl, a1, a2, hmo, Or.inr rfl, fun h => ?_, ?_, ?_, ?_, ?_, Or.inr (Or.inr (Or.inr (Or.inr ⟨rfl, Or.inl sI_e, sI_e⟩))), Fr_t (Fr_t fc1 (Fr_sI (by decide))) (Fr_sI (by decide)), F1r_t (F1r_t g1 (F1r_sI (by decide))) (F1r_sI (by decide)), Fr_t (Fr_t fm1 (Fr_sI (by decide))) (Fr_sI (by decide)), F0r_t (F0r_t k1 (F0r_sI (by decide))) (F0r_sI (by decide))⟩
      · have h : (4 : Nat) = 1 ∨ (4 : Nat) = 2 ∨ (4 : Nat) = 3 := h
        omega
      · rw [sI_n (by decide), sI_n (by decide), c31]
      · rw [sI_n (by decide), sI_n (by decide), m41]
      · rw [sI_n (by decide), sI_e]
      · rw [sI_n (by decide), sI_e]
