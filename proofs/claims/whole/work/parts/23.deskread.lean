/-! ===== reading: the class ===== -/
theorem PC_st {P : Pl} {h : HS} {i : Nat} {f : Nat → Int32} (hi : 11 ≤ i) (hp : PC P h 3) : PC P (st h i f) 3 := by
  unfold PC at hp ⊢
  rw [st_o (by omega), st_o (by omega), st_o (by omega), st_o (by omega), st_o (by omega), st_2]
  exact hp
theorem CR_st {P : Pl} {A : Ab} {h : HS} {i : Nat} {f : Nat → Int32} (hi : 11 ≤ i) (hi2 : i ≠ 21) (R : CR P A h) : CR P A (st h i f) := by
  refine ⟨PC_st hi R.1, ?_⟩
  rw [st_o (fun e => hi2 e.symm)]
  exact R.2
theorem CR_mk {P : Pl} {A A' : Ab} {h : HS} {r : Nat → Int32} (R : CR P A h) (q : RC P A' r) : CR P A' (st h 21 r) := ⟨PC_st (by omega) R.1, by rw [st_e]; exact q⟩
theorem inb_i2 {α : Type} {x : Int32} {n : Nat} {A B : α} (hn : n < 2147483648) : (if x < 0 then A else (if nI n ≤ x then A else B)) = (if inb x n = true then B else A) := by
  by_cases h : x < 0
  · rw [if_pos h, if_neg (by simp [inb, h])]
  · obtain ⟨j, hj, rfl⟩ := nI_of h
    rw [if_neg h, inb_nI hj, ite_leN hn hj]
    by_cases q : j < n
    · rw [if_neg (by omega), if_pos (by simpa using q)]
    · rw [if_pos (by omega), if_neg (by simpa using q)]
theorem pI_lt {x : Int32} {n : Nat} (hn : n < 2147483648) (h : ¬ x < 0) : pI n < x ↔ nI n ≤ x := by
  obtain ⟨j, hj, rfl⟩ := nI_of h
  rw [nI_leI hn hj]
  rcases Nat.eq_zero_or_pos n with q | q
  · subst q
    rw [pI_0]
    refine ⟨fun _ => Nat.zero_le _, fun _ => ?_⟩
    rw [Int32.lt_iff_toInt_lt, nI_toInt hj]
    have : (-1 : Int32).toInt = -1 := by decide
    omega
  · rw [pI_p q, nI_ltI (by omega) hj]
    omega
theorem inb_i3 {α : Type} {x : Int32} {n : Nat} {A B : α} (hn : n < 2147483648) : (if x < nI 0 then A else (if pI n < x then A else B)) = (if inb x n = true then B else A) := by
  rw [← inb_i2 hn]
  show (if x < 0 then A else (if pI n < x then A else B)) = _
  by_cases h : x < 0
  · rw [if_pos h, if_pos h]
  · rw [if_neg h, if_neg h]
    by_cases q : nI n ≤ x
    · rw [if_pos q, if_pos ((pI_lt hn h).mpr q)]
    · rw [if_neg q, if_neg (fun z => q ((pI_lt hn h).mp z))]
theorem C_hasCause {P : Pl} {h : HS} (w3 : P 0 3 ≤ 6) (hp : PC P h 3) (x : Int32) : f_Plan_hasCause_3 x h = some (bI (inb x (P 0 3)), h) := by
  unfold f_Plan_hasCause_3
  rw [hp.1.2.2.2.1, inb_i2 (by omega), rZ0, rZ1]
  exact bI_ite
theorem C_hasDeed {P : Pl} {h : HS} (w4 : P 0 4 ≤ 6) (hp : PC P h 3) (x : Int32) : f_Plan_hasDeed_3 x h = some (bI (inb x (P 0 4)), h) := by
  unfold f_Plan_hasDeed_3
  rw [hp.1.2.2.2.2.1, inb_i2 (by omega), rZ0, rZ1]
  exact bI_ite
theorem C_hasClerk {P : Pl} {h : HS} (w5 : P 0 5 ≤ 5) (hp : PC P h 3) (x : Int32) : f_Plan_hasClerk_3 x h = some (bI (inb x (P 0 5)), h) := by
  unfold f_Plan_hasClerk_3
  rw [hp.1.2.2.2.2.2, inb_i2 (by omega), rZ0, rZ1]
  exact bI_ite
theorem C_causes {P : Pl} {h : HS} (hp : PC P h 3) : f_Plan_causes_3 h = some (nI (P 0 3), h) := by
  unfold f_Plan_causes_3
  rw [hp.1.2.2.2.1]
theorem C_deeds {P : Pl} {h : HS} (hp : PC P h 3) : f_Plan_deeds_3 h = some (nI (P 0 4), h) := by
  unfold f_Plan_deeds_3
  rw [hp.1.2.2.2.2.1]
theorem C_clerks {P : Pl} {h : HS} (hp : PC P h 3) : f_Plan_clerks_3 h = some (nI (P 0 5), h) := by
  unfold f_Plan_clerks_3
  rw [hp.1.2.2.2.2.2]
theorem C_ofDeed {P : Pl} {h : HS} (w4 : P 0 4 ≤ 6) (hp : PC P h 3) {d w : Nat} (hd : d < P 0 4) (hw : w < 3) : f_Plan_ofDeed_3 (nI d) (nI w) h = some (nI (P (7 + w) d), h) := by
  simp (disch := omega) only [f_Plan_ofDeed_3, bl_e, bnd_s, nI_add, nI_mul, ifin, nI_clamp, rZ0, rZ1, rZb, ite_eqN, ite_eq0, ite_ne0, ite_leN, ite_ltN, ite_lt0, ite_le0, ite_ge0, ite_gt0, ite_b0, ite_bn0]
  rw [hp.2.2.2.1 d w hd hw]
theorem C_up {P : Pl} {h : HS} (w4 : P 0 4 ≤ 6) (hp : PC P h 3) {d : Nat} (hd : d < P 0 4) : f_Plan_ofDeed_3 (nI d) (nI 0) h = some (nI (P 7 d), h) := C_ofDeed w4 hp hd (by omega)
theorem C_down {P : Pl} {h : HS} (w4 : P 0 4 ≤ 6) (hp : PC P h 3) {d : Nat} (hd : d < P 0 4) : f_Plan_ofDeed_3 (nI d) (nI 1) h = some (nI (P 8 d), h) := C_ofDeed w4 hp hd (by omega)
theorem C_cost {P : Pl} {h : HS} (w4 : P 0 4 ≤ 6) (hp : PC P h 3) {d : Nat} (hd : d < P 0 4) : f_Plan_ofDeed_3 (nI d) (nI 2) h = some (nI (P 9 d), h) := C_ofDeed w4 hp hd (by omega)
theorem C_ofCauseP {P : Pl} {h : HS} (w3 : P 0 3 ≤ 6) (hp : PC P h 3) {c w : Nat} (hc : c < P 0 3) (hw : w < 4) : f_Plan_ofCause_3 (nI c) (nI w) h = some (nI (P (1 + w) c), h) := by
  simp (disch := omega) only [f_Plan_ofCause_3, bl_e, bnd_s, nI_add, nI_mul, ifin, nI_clamp, rZ0, rZ1, rZb, ite_eqN, ite_eq0, ite_ne0, ite_leN, ite_ltN, ite_lt0, ite_le0, ite_ge0, ite_gt0, ite_b0, ite_bn0]
  rw [hp.2.1 c w hc hw]
theorem C_isSafeP {P : Pl} {h : HS} (W : WFP P) (hp : PC P h 3) {x y : Nat} (hx : x ≤ 2000) (hy : y ≤ 2000) : f_Plan_isSafe_3 (nI x) (nI y) h = some (bI (safe P x y), h) := by
  unfold f_Plan_isSafe_3
  rw [hp.1.1, hp.1.2.1, safe_ar W hx hy, rZ0, rZ1]
  exact bI_ite
theorem near_ar {P : Pl} (W : WFP P) {x y : Nat} (hx : x ≤ 2000) (hy : y ≤ 2000) (hy1 : 1 ≤ y) : 1000 * x * P 0 1 < 2147483648 ∧ (x + y) * P 0 0 < 2147483648 ∧ 0 < (x + y) * P 0 0 := by
  obtain ⟨h1, h2, h3, -⟩ := W
  have q1 : 1000 * x * P 0 1 ≤ 2000000 * 99 := Nat.mul_le_mul (by omega) (by omega)
  have q2 : (x + y) * P 0 0 ≤ 4000 * 99 := Nat.mul_le_mul (by omega) (by omega)
  have q3 : 1 * 1 ≤ (x + y) * P 0 0 := Nat.mul_le_mul (by omega) (by omega)
  omega
theorem C_nearnessP {P : Pl} {h : HS} (W : WFP P) (hp : PC P h 3) {x y : Nat} (hx : x ≤ 2000) (hy : y ≤ 2000) (hy1 : 1 ≤ y) : f_Plan_nearness_3 (nI x) (nI y) h = some (nI (near P x y), h) := by
  obtain ⟨q1, q2, q3⟩ := near_ar W hx hy hy1
  unfold f_Plan_nearness_3
  rw [hp.1.1, hp.1.2.1]
  simp (disch := omega) only [bl_e, nI_add, nI_mul, ite_le0, ite_ne0, nI_div]
  rw [if_neg (by omega), if_neg (by omega)]
  rfl
theorem C_ofCause {P : Pl} {A : Ab} {h : HS} (w3 : P 0 3 ≤ 6) (R : CR P A h) {c w : Nat} (hc : c < P 0 3) (hw : w < 9) : f_Desk_ofCause (nI c) (nI w) h = some (rcC P A c w, h) := by
  simp (disch := omega) only [f_Desk_ofCause, bl_e, bnd_s, nI_add, nI_mul, ifin, nI_clamp, rZ0, rZ1, rZb, ite_eqN, ite_eq0, ite_ne0, ite_leN, ite_ltN, ite_lt0, ite_le0, ite_ge0, ite_gt0, ite_b0, ite_bn0]
  rw [R.2.1 c w hc hw]
theorem C_ofClerk {P : Pl} {A : Ab} {h : HS} (w5 : P 0 5 ≤ 5) (R : CR P A h) {k w : Nat} (hk : k < P 0 5) (hw : w < 6) : f_Desk_ofClerk (nI k) (nI w) h = some (rkC P A k w, h) := by
  simp (disch := omega) only [f_Desk_ofClerk, bl_e, bnd_s, nI_add, nI_mul, ifin, nI_clamp, rZ0, rZ1, rZb, ite_eqN, ite_eq0, ite_ne0, ite_leN, ite_ltN, ite_lt0, ite_le0, ite_ge0, ite_gt0, ite_b0, ite_bn0]
  rw [R.2.2.1 k w hk hw]
theorem C_ofNow {P : Pl} {A : Ab} {h : HS} (R : CR P A h) {w : Nat} (hw : w < 7) (hn : w ≠ 3) : f_Desk_ofNow (nI w) h = some (rnC A w, h) := by
  simp (disch := omega) only [f_Desk_ofNow, bl_e, bnd_s, nI_add, nI_mul, ifin, nI_clamp, rZ0, rZ1, rZb, ite_eqN, ite_eq0, ite_ne0, ite_leN, ite_ltN, ite_lt0, ite_le0, ite_ge0, ite_gt0, ite_b0, ite_bn0]
  rw [R.2.2.2 w hw hn]
theorem C_isFree {P : Pl} {A : Ab} {h : HS} (W : WF P A) (R : CR P A h) {k : Nat} (hk : k < P 0 5) : f_Desk_isFree (nI k) h = some (bI (decide (A.1 6 k = 0)), h) := by
  obtain ⟨⟨wN, wNM, wM, wCo, w3, w4, w5, wC, wD, wK⟩, wAc, wAk, wAw, wAf⟩ := id W
  have hb := (wAk k hk).2.2.1
  simp (disch := omega) only [f_Desk_isFree, C_ofClerk w5 R hk, bl_e, bnd_s, nI_add, nI_mul, ifin, nI_clamp, rZ0, rZ1, rZb, ite_eqN, ite_eq0, ite_ne0, ite_leN, ite_ltN, ite_lt0, ite_le0, ite_ge0, ite_gt0, ite_b0, ite_bn0, rkC, ite_pn]
  exact bI_dec
theorem C_isSafe {P : Pl} {A : Ab} {h : HS} (W : WF P A) (R : CR P A h) {c : Nat} (hc : c < P 0 3) : f_Desk_isSafe (nI c) h = some (bI (safeC P A c 0), h) := by
  obtain ⟨⟨wN, wNM, wM, wCo, w3, w4, w5, wC, wD, wK⟩, wAc, wAk, wAw, wAf⟩ := id W
  have h1 := fo_le W.1 A c 0
  have h2 := ag_le W.1 A c 0
  simp (disch := omega) only [f_Desk_isSafe, C_ofCause w3 R hc, bl_e, bnd_s, nI_add, nI_mul, ifin, nI_clamp, rZ0, rZ1, rZb, ite_eqN, ite_eq0, ite_ne0, ite_leN, ite_ltN, ite_lt0, ite_le0, ite_ge0, ite_gt0, ite_b0, ite_bn0, rcC, C_isSafeP W.1 R.1]
  rfl
theorem C_isOpenAndSafe {P : Pl} {A : Ab} {h : HS} (W : WF P A) (R : CR P A h) {c : Nat} (hc : c < P 0 3) : f_Desk_isOpenAndSafe (nI c) h = some (bI (decide (A.1 1 c = 0) && safeC P A c 0), h) := by
  obtain ⟨⟨wN, wNM, wM, wCo, w3, w4, w5, wC, wD, wK⟩, wAc, wAk, wAw, wAf⟩ := id W
  have h1 := (wAc c hc).1
  simp (disch := omega) only [f_Desk_isOpenAndSafe, C_ofCause w3 R hc, bl_e, bnd_s, nI_add, nI_mul, ifin, nI_clamp, rZ0, rZ1, rZb, ite_eqN, ite_eq0, ite_ne0, ite_leN, ite_ltN, ite_lt0, ite_le0, ite_ge0, ite_gt0, ite_b0, ite_bn0, rcC, C_isSafe W R hc]
  by_cases e : A.1 1 c = 0 <;> cases safeC P A c 0 <;> simp [e, bI]
theorem C_nearness {P : Pl} {A : Ab} {h : HS} (W : WF P A) (R : CR P A h) {c : Nat} (hc : c < P 0 3) : f_Desk_nearness (nI c) h = some (nI (nearC P A c 0), h) := by
  obtain ⟨⟨wN, wNM, wM, wCo, w3, w4, w5, wC, wD, wK⟩, wAc, wAk, wAw, wAf⟩ := id W
  have h1 := fo_le W.1 A c 0
  have h2 := ag_le W.1 A c 0
  simp (disch := omega) only [f_Desk_nearness, C_ofCause w3 R hc, bl_e, bnd_s, nI_add, nI_mul, ifin, nI_clamp, rZ0, rZ1, rZb, ite_eqN, ite_eq0, ite_ne0, ite_leN, ite_ltN, ite_lt0, ite_le0, ite_ge0, ite_gt0, ite_b0, ite_bn0, rcC, C_nearnessP W.1 R.1]
  rfl
theorem C_weeksLeft {P : Pl} {A : Ab} {h : HS} (W : WF P A) (R : CR P A h) : f_Desk_weeksLeft h = some (nI (200 - A.1 8 0), h) := by
  obtain ⟨⟨wN, wNM, wM, wCo, w3, w4, w5, wC, wD, wK⟩, wAc, wAk, wAw, wAf⟩ := id W
  simp (disch := omega) only [f_Desk_weeksLeft, C_ofNow R, bl_e, bnd_s, nI_add, nI_mul, ifin, nI_clamp, rZ0, rZ1, rZb, ite_eqN, ite_eq0, ite_ne0, ite_leN, ite_ltN, ite_lt0, ite_le0, ite_ge0, ite_gt0, ite_b0, ite_bn0, rnC, nI_sb]
theorem near_le {P : Pl} (W : WFP P) {x y : Nat} (hx : x ≤ 2000) (hy : y ≤ 2000) (hy1 : 1 ≤ y) : near P x y < 198000001 := by
  obtain ⟨h1, h2, h3, -⟩ := W
  have q1 : 1000 * x * P 0 1 ≤ 2000000 * 99 := Nat.mul_le_mul (by omega) (by omega)
  have := Nat.div_le_self (1000 * x * P 0 1) ((x + y) * P 0 0)
  unfold near
  omega
theorem safe_near {P : Pl} (W : WFP P) {x y : Nat} (hx : x ≤ 2000) (hy : y ≤ 2000) (hy1 : 1 ≤ y) : safe P x y = decide (near P x y < 1000) := by
  obtain ⟨q1, q2, q3⟩ := near_ar W hx hy hy1
  unfold safe near
  congr 1
  rw [Nat.div_lt_iff_lt_mul q3]
  have e1 : 1000 * x * P 0 1 = 1000 * (x * P 0 1) := Nat.mul_assoc _ _ _
  have e2 : 1000 * ((x + y) * P 0 0) = 1000 * (P 0 0 * (x + y)) := by rw [Nat.mul_comm (x + y)]
  rw [e1, e2]
  exact propext ⟨fun h => by omega, fun h => by omega⟩
/-- what it pays to drop c -/
def payN (P : Pl) (A : Ab) (c : Nat) : Nat := if safeC P A c 0 = true then P 3 c * nearC P A c 0 / 1000 else 0
theorem C_payFor {P : Pl} {A : Ab} {h : HS} (W : WF P A) (R : CR P A h) {c : Nat} (hc : c < P 0 3) : f_Desk_payFor (nI c) h = some (nI (payN P A c), h) := by
  obtain ⟨⟨wN, wNM, wM, wCo, w3, w4, w5, wC, wD, wK⟩, wAc, wAk, wAw, wAf⟩ := id W
  have h1 := fo_le W.1 A c 0
  have h2 := ag_le W.1 A c 0
  have h4 := near_le W.1 (show fo P A c 0 ≤ 2000 by omega) (show ag P A c 0 ≤ 2000 by omega) h2.2
  have h5 := safe_near W.1 (show fo P A c 0 ≤ 2000 by omega) (show ag P A c 0 ≤ 2000 by omega) h2.2
  have h6 := wC c
  unfold f_Desk_payFor payN
  rw [C_nearness W R hc]
  have e1 : safeC P A c 0 = decide (nearC P A c 0 < 1000) := h5
  have h4 : nearC P A c 0 < 198000001 := h4
  rw [e1]
  generalize nearC P A c 0 = nr at *
  simp (disch := omega) only [bl_e, bnd_s, nI_add, nI_mul, ifin, nI_clamp, rZ0, rZ1, rZb, ite_eqN, ite_eq0, ite_ne0, ite_leN, ite_ltN, ite_lt0, ite_le0, ite_ge0, ite_gt0, ite_b0, ite_bn0, C_ofCause w3 R hc, rcC]
  by_cases q : nr < 1000
  · have h7 : P 3 c * nr ≤ 99 * 1000 := Nat.mul_le_mul (by omega) (by omega)
    have h8 : ¬ 1000 ≤ nr := by omega
    simp (disch := omega) only [q, h8, if_true, if_false, decide_true, bl_e, bnd_s, nI_add, nI_mul, ifin, nI_clamp, rZ0, rZ1, rZb, ite_eqN, ite_eq0, ite_ne0, ite_leN, ite_ltN, ite_lt0, ite_le0, ite_ge0, ite_gt0, ite_b0, ite_bn0, nI_div]
    rfl
  · have h8 : 1000 ≤ nr := by omega
    simp [q, h8]
def whyT (P : Pl) (A : Ab) (k c : Nat) : Nat := if A.1 6 k = 0 then (if A.1 1 c = 0 then (if safeC P A c 0 = true then (if A.1 8 0 = 200 then 4 else 0) else 3) else 2) else 1
def whyA (P : Pl) (A : Ab) (k d : Nat) : Nat := if A.1 6 k = 0 then 1 else (if (A.1 3 (A.1 6 k - 1)).testBit d = true then 2 else (if A.1 5 k = 0 then 3 else (if A.1 7 k = 0 then (if A.2 3 0 < nI (P 9 d) then 5 else 0) else 4)))
def whyD (A : Ab) (k : Nat) : Nat := if A.1 6 k = 0 then 1 else (if A.1 8 0 % 5 = 4 then 2 else 0)
theorem C_whyNotTake {P : Pl} {A : Ab} {h : HS} (W : WF P A) (R : CR P A h) {k c : Nat} (hk : k < P 0 5) (hc : c < P 0 3) : f_Desk_whyNotTake (nI k) (nI c) h = some (nI (whyT P A k c), h) := by
  obtain ⟨⟨wN, wNM, wM, wCo, w3, w4, w5, wC, wD, wK⟩, wAc, wAk, wAw, wAf⟩ := id W
  have h1 := (wAc c hc).1
  simp (disch := omega) only [f_Desk_whyNotTake, C_isFree W R hk, C_ofCause w3 R hc, C_isSafe W R hc, C_weeksLeft W R, bl_e, bnd_s, nI_add, nI_mul, ifin, nI_clamp, rZ0, rZ1, rZb, ite_eqN, ite_eq0, ite_ne0, ite_leN, ite_ltN, ite_lt0, ite_le0, ite_ge0, ite_gt0, ite_b0, ite_bn0, rcC]
  unfold whyT
  by_cases e1 : A.1 6 k = 0 <;> by_cases e2 : A.1 1 c = 0 <;> by_cases e3 : safeC P A c 0 = true <;> by_cases e4 : A.1 8 0 = 200 <;> simp [e1, e2, e3, e4] <;> omega
theorem C_whyNotDrop {P : Pl} {A : Ab} {h : HS} (W : WF P A) (R : CR P A h) {k : Nat} (hk : k < P 0 5) : f_Desk_whyNotDrop (nI k) h = some (nI (whyD A k), h) := by
  obtain ⟨⟨wN, wNM, wM, wCo, w3, w4, w5, wC, wD, wK⟩, wAc, wAk, wAw, wAf⟩ := id W
  simp (disch := omega) only [f_Desk_whyNotDrop, C_isFree W R hk, C_ofNow R, bl_e, bnd_s, nI_add, nI_mul, ifin, nI_clamp, rZ0, rZ1, rZb, ite_eqN, ite_eq0, ite_ne0, ite_leN, ite_ltN, ite_lt0, ite_le0, ite_ge0, ite_gt0, ite_b0, ite_bn0, rnC, nI_rem]
  unfold whyD
  by_cases e1 : A.1 6 k = 0 <;> by_cases e2 : A.1 8 0 % 5 = 4 <;> simp [e1, e2]
theorem p64 {P : Pl} (w4 : P 0 4 ≤ 6) : 0 < 2 ^ P 0 4 ∧ 2 ^ P 0 4 ≤ 64 := ⟨Nat.two_pow_pos _, Nat.pow_le_pow_right (by omega) w4⟩
theorem C_whyNotAct {P : Pl} {A : Ab} {h : HS} (W : WF P A) (R : CR P A h) {k d : Nat} (hk : k < P 0 5) (hd : d < P 0 4) : f_Desk_whyNotAct (nI k) (nI d) h = some (nI (whyA P A k d), h) := by
  obtain ⟨⟨wN, wNM, wM, wCo, w3, w4, w5, wC, wD, wK⟩, wAc, wAk, wAw, wAf⟩ := id W
  have h1 := wAk k hk
  have h0 := wK k
  simp (disch := omega) only [f_Desk_whyNotAct, C_ofClerk w5 R hk, bl_e, bnd_s, nI_add, nI_mul, ifin, nI_clamp, rZ0, rZ1, rZb, ite_eqN, ite_eq0, ite_ne0, ite_leN, ite_ltN, ite_lt0, ite_le0, ite_ge0, ite_gt0, ite_b0, ite_bn0, rkC, ite_pn]
  unfold whyA
  by_cases e1 : A.1 6 k = 0
  · rw [if_pos e1, if_pos e1]
  · have hc : A.1 6 k - 1 < P 0 3 := by omega
    have h2 := (wAc _ hc).2.1
    have h3 := p64 w4
    have e7 : pI (A.1 6 k) = nI (A.1 6 k - 1) := pI_p (by omega)
    rw [if_neg e1, if_neg e1, e7]
    simp (disch := omega) only [C_ofCause w3 R hc, rcC, bnd_s, bit_sh, ite_b0]
    by_cases e2 : (A.1 3 (A.1 6 k - 1)).testBit d = true
    · rw [if_pos e2, if_pos e2]
    · rw [if_neg e2, if_neg e2]
      simp (disch := omega) only [C_ofClerk w5 R hk, rkC, bnd_s, ite_eq0]
      by_cases e3 : A.1 5 k = 0
      · rw [if_pos e3, if_pos e3]
      · rw [if_neg e3, if_neg e3]
        by_cases e4 : A.1 7 k = 0
        · rw [if_pos e4, if_pos e4]
          rw [C_cost w4 R.1 hd, bnd_s, C_ofNow R (by omega) (by omega), bnd_s]
          show (if nI (P 9 d) ≤ A.2 3 0 then some (nI 0, h) else some (nI 5, h)) = _
          by_cases e5 : nI (P 9 d) ≤ A.2 3 0
          · rw [if_pos e5, if_neg (Int32.not_lt.mpr e5)]
          · rw [if_neg e5, if_pos (Int32.not_le.mp e5)]
        · rw [if_neg e4, if_neg e4]
