/-! ===== one number of a row changes, on both sides ===== -/
theorem RC_c {P : Pl} {A A' : Ab} {r : Nat → Int32} {c0 w0 : Nat} {v : Int32} (R : RC P A r) (hc : c0 < 6) (hw : w0 < 9) (e1 : ∀ c w, c < P 0 3 → w < 9 → rcC P A' c w = if c = c0 ∧ w = w0 then v else rcC P A c w) (e2 : ∀ k w, k < P 0 5 → w < 6 → rkC P A' k w = rkC P A k w) (e3 : ∀ w, w < 7 → rnC A' w = rnC A w) : RC P A' (upd r (c0 * 9 + w0) v) := by
  refine ⟨fun c w h1 h2 => ?_, fun k w h1 h2 => ?_, fun w h1 h2 => ?_⟩
  · rw [e1 c w h1 h2]
    by_cases q : c = c0 ∧ w = w0
    · rw [if_pos q, q.1, q.2, upd_e]
    · rw [if_neg q, upd_n (by omega), R.1 c w h1 h2]
  · rw [e2 k w h1 h2, upd_n (by omega), R.2.1 k w h1 h2]
  · rw [e3 w h1, upd_n (by omega), R.2.2 w h1 h2]
theorem RC_k {P : Pl} {A A' : Ab} {r : Nat → Int32} {k0 w0 : Nat} {v : Int32} (h3 : P 0 3 ≤ 6) (R : RC P A r) (hk : k0 < 5) (hw : w0 < 6) (e1 : ∀ c w, c < P 0 3 → w < 9 → rcC P A' c w = rcC P A c w) (e2 : ∀ k w, k < P 0 5 → w < 6 → rkC P A' k w = if k = k0 ∧ w = w0 then v else rkC P A k w) (e3 : ∀ w, w < 7 → rnC A' w = rnC A w) : RC P A' (upd r (54 + k0 * 6 + w0) v) := by
  refine ⟨fun c w h1 h2 => ?_, fun k w h1 h2 => ?_, fun w h1 h2 => ?_⟩
  · rw [e1 c w h1 h2, upd_n (by omega), R.1 c w h1 h2]
  · rw [e2 k w h1 h2]
    by_cases q : k = k0 ∧ w = w0
    · rw [if_pos q, q.1, q.2, upd_e]
    · rw [if_neg q, upd_n (by omega), R.2.1 k w h1 h2]
  · rw [e3 w h1, upd_n (by omega), R.2.2 w h1 h2]
theorem RC_n {P : Pl} {A A' : Ab} {r : Nat → Int32} {w0 : Nat} {v : Int32} (h3 : P 0 3 ≤ 6) (h5 : P 0 5 ≤ 5) (R : RC P A r) (e1 : ∀ c w, c < P 0 3 → w < 9 → rcC P A' c w = rcC P A c w) (e2 : ∀ k w, k < P 0 5 → w < 6 → rkC P A' k w = rkC P A k w) (e3 : ∀ w, w < 7 → w ≠ 3 → rnC A' w = if w = w0 then v else rnC A w) : RC P A' (upd r (84 + w0) v) := by
  refine ⟨fun c w h1 h2 => ?_, fun k w h1 h2 => ?_, fun w h1 h2 => ?_⟩
  · rw [e1 c w h1 h2, upd_n (by omega), R.1 c w h1 h2]
  · rw [e2 k w h1 h2, upd_n (by omega), R.2.1 k w h1 h2]
  · rw [e3 w h1 h2]
    by_cases q : w = w0
    · rw [if_pos q, q, upd_e]
    · rw [if_neg q, upd_n (by omega), R.2.2 w h1 h2]
theorem RM_u {P : Pl} {A A' : Ab} {s : Nat → Int32} {i : Nat} {v : Int32} (R : RM0 P A s) (hi : i < 151) (e4 : ∀ j, A'.2 7 j = A.2 7 j) (e1 : ∀ c w, c < P 0 3 → w < 9 → w ≠ 2 → rcM P A' c w = if bcM c w = i then v else rcM P A c w) (e2 : ∀ k w, k < P 0 5 → w < 6 → w ≠ 1 → rkM P A' k w = if bkM k w = i then v else rkM P A k w) (e3 : ∀ w, w < 7 → w ≠ 3 → rnM A' w = if bnM w = i then v else rnM A w) : RM0 P A' (upd s i v) := by
  refine ⟨fun c w h1 h2 h3 => ?_, fun k w h1 h2 h3 => ?_, fun w h1 h2 => ?_, fun j hj => ?_⟩
  · rw [e1 c w h1 h2 h3, ← R.1 c w h1 h2 h3]
    rfl
  · rw [e2 k w h1 h2 h3, ← R.2.1 k w h1 h2 h3]
    rfl
  · rw [e3 w h1 h2, ← R.2.2.1 w h1 h2]
    rfl
  · rw [e4 j, ← R.2.2.2 j hj]
    exact if_neg (by omega)
theorem RC_belief {P : Pl} {A : Ab} {r : Nat → Int32} {c0 : Nat} (R : RC P A r) (hc : c0 < 6) (v : Nat) : RC P (sN A 0 c0 v) (upd r (c0 * 9 + 3) (nI v)) := by
  refine RC_c R hc (by omega) (fun c w _ hw => ?_) (fun k w _ hw => ?_) (fun w hw => ?_)
  · rcases (show w = 0 ∨ w = 1 ∨ w = 2 ∨ w = 3 ∨ w = 4 ∨ w = 5 ∨ w = 6 ∨ w = 7 ∨ w = 8 by omega) with e | e | e | e | e | e | e | e | e <;> subst e <;> simp [rcC, sN, sV, up2, fo, ag] <;> (try split) <;> simp_all
  · rcases (show w = 0 ∨ w = 1 ∨ w = 2 ∨ w = 3 ∨ w = 4 ∨ w = 5 by omega) with e | e | e | e | e | e <;> subst e <;> simp [rkC, sN, sV, up2]
  · rcases (show w = 0 ∨ w = 1 ∨ w = 2 ∨ w = 3 ∨ w = 4 ∨ w = 5 ∨ w = 6 by omega) with e | e | e | e | e | e | e <;> subst e <;> simp [rnC, sN, sV, up2]
theorem RM_belief {P : Pl} {A : Ab} {s : Nat → Int32} {c0 : Nat} (h3 : P 0 3 ≤ 6) (h5 : P 0 5 ≤ 5) (R : RM0 P A s) (hc : c0 < 6) (v : Nat) : RM0 P (sN A 0 c0 v) (upd s (90 + c0) (nI v)) := by
  refine RM_u R (by omega) (fun j => by simp [sN, sV, up2]) (fun c w hc hw hn => ?_) (fun k w hk hw hn => ?_) (fun w hw hn => ?_)
  · rcases (show w = 0 ∨ w = 1 ∨ w = 2 ∨ w = 3 ∨ w = 4 ∨ w = 5 ∨ w = 6 ∨ w = 7 ∨ w = 8 by omega) with e | e | e | e | e | e | e | e | e <;> subst e <;> (try omega) <;> simp only [bcM, rcM, rcC, sN, sV, up2, fo, ag] <;> (repeat' split) <;> first | rfl | omega | simp_all
  · rcases (show w = 0 ∨ w = 1 ∨ w = 2 ∨ w = 3 ∨ w = 4 ∨ w = 5 by omega) with e | e | e | e | e | e <;> subst e <;> (try omega) <;> simp only [bkM, rkM, rkC, sN, sV, up2] <;> (repeat' split) <;> first | rfl | omega | simp_all
  · rcases (show w = 0 ∨ w = 1 ∨ w = 2 ∨ w = 3 ∨ w = 4 ∨ w = 5 ∨ w = 6 by omega) with e | e | e | e | e | e | e <;> subst e <;> (try omega) <;> simp only [bnM, rnM, rnC, sN, sV, up2] <;> (repeat' split) <;> first | rfl | omega | simp_all
theorem RC_state {P : Pl} {A : Ab} {r : Nat → Int32} {c0 : Nat} (R : RC P A r) (hc : c0 < 6) (v : Nat) : RC P (sN A 1 c0 v) (upd r (c0 * 9 + 4) (nI v)) := by
  refine RC_c R hc (by omega) (fun c w _ hw => ?_) (fun k w _ hw => ?_) (fun w hw => ?_)
  · rcases (show w = 0 ∨ w = 1 ∨ w = 2 ∨ w = 3 ∨ w = 4 ∨ w = 5 ∨ w = 6 ∨ w = 7 ∨ w = 8 by omega) with e | e | e | e | e | e | e | e | e <;> subst e <;> simp [rcC, sN, sV, up2, fo, ag] <;> (try split) <;> simp_all
  · rcases (show w = 0 ∨ w = 1 ∨ w = 2 ∨ w = 3 ∨ w = 4 ∨ w = 5 by omega) with e | e | e | e | e | e <;> subst e <;> simp [rkC, sN, sV, up2]
  · rcases (show w = 0 ∨ w = 1 ∨ w = 2 ∨ w = 3 ∨ w = 4 ∨ w = 5 ∨ w = 6 by omega) with e | e | e | e | e | e | e <;> subst e <;> simp [rnC, sN, sV, up2]
theorem RM_state {P : Pl} {A : Ab} {s : Nat → Int32} {c0 : Nat} (h3 : P 0 3 ≤ 6) (h5 : P 0 5 ≤ 5) (R : RM0 P A s) (hc : c0 < 6) (v : Nat) : RM0 P (sN A 1 c0 v) (upd s (96 + c0) (nI v)) := by
  refine RM_u R (by omega) (fun j => by simp [sN, sV, up2]) (fun c w hc hw hn => ?_) (fun k w hk hw hn => ?_) (fun w hw hn => ?_)
  · rcases (show w = 0 ∨ w = 1 ∨ w = 2 ∨ w = 3 ∨ w = 4 ∨ w = 5 ∨ w = 6 ∨ w = 7 ∨ w = 8 by omega) with e | e | e | e | e | e | e | e | e <;> subst e <;> (try omega) <;> simp only [bcM, rcM, rcC, sN, sV, up2, fo, ag] <;> (repeat' split) <;> first | rfl | omega | simp_all
  · rcases (show w = 0 ∨ w = 1 ∨ w = 2 ∨ w = 3 ∨ w = 4 ∨ w = 5 by omega) with e | e | e | e | e | e <;> subst e <;> (try omega) <;> simp only [bkM, rkM, rkC, sN, sV, up2] <;> (repeat' split) <;> first | rfl | omega | simp_all
  · rcases (show w = 0 ∨ w = 1 ∨ w = 2 ∨ w = 3 ∨ w = 4 ∨ w = 5 ∨ w = 6 by omega) with e | e | e | e | e | e | e <;> subst e <;> (try omega) <;> simp only [bnM, rnM, rnC, sN, sV, up2] <;> (repeat' split) <;> first | rfl | omega | simp_all
theorem RC_hold {P : Pl} {A : Ab} {r : Nat → Int32} {c0 : Nat} (R : RC P A r) (hc : c0 < 6) (v : Nat) : RC P (sN A 2 c0 v) (upd r (c0 * 9 + 5) (pI v)) := by
  refine RC_c R hc (by omega) (fun c w _ hw => ?_) (fun k w _ hw => ?_) (fun w hw => ?_)
  · rcases (show w = 0 ∨ w = 1 ∨ w = 2 ∨ w = 3 ∨ w = 4 ∨ w = 5 ∨ w = 6 ∨ w = 7 ∨ w = 8 by omega) with e | e | e | e | e | e | e | e | e <;> subst e <;> simp [rcC, sN, sV, up2, fo, ag] <;> (try split) <;> simp_all
  · rcases (show w = 0 ∨ w = 1 ∨ w = 2 ∨ w = 3 ∨ w = 4 ∨ w = 5 by omega) with e | e | e | e | e | e <;> subst e <;> simp [rkC, sN, sV, up2]
  · rcases (show w = 0 ∨ w = 1 ∨ w = 2 ∨ w = 3 ∨ w = 4 ∨ w = 5 ∨ w = 6 by omega) with e | e | e | e | e | e | e <;> subst e <;> simp [rnC, sN, sV, up2]
theorem RM_hold {P : Pl} {A : Ab} {s : Nat → Int32} {c0 : Nat} (h3 : P 0 3 ≤ 6) (h5 : P 0 5 ≤ 5) (R : RM0 P A s) (hc : c0 < 6) (v : Nat) : RM0 P (sN A 2 c0 v) (upd s (102 + c0) (nI v)) := by
  refine RM_u R (by omega) (fun j => by simp [sN, sV, up2]) (fun c w hc hw hn => ?_) (fun k w hk hw hn => ?_) (fun w hw hn => ?_)
  · rcases (show w = 0 ∨ w = 1 ∨ w = 2 ∨ w = 3 ∨ w = 4 ∨ w = 5 ∨ w = 6 ∨ w = 7 ∨ w = 8 by omega) with e | e | e | e | e | e | e | e | e <;> subst e <;> (try omega) <;> simp only [bcM, rcM, rcC, sN, sV, up2, fo, ag] <;> (repeat' split) <;> first | rfl | omega | simp_all
  · rcases (show w = 0 ∨ w = 1 ∨ w = 2 ∨ w = 3 ∨ w = 4 ∨ w = 5 by omega) with e | e | e | e | e | e <;> subst e <;> (try omega) <;> simp only [bkM, rkM, rkC, sN, sV, up2] <;> (repeat' split) <;> first | rfl | omega | simp_all
  · rcases (show w = 0 ∨ w = 1 ∨ w = 2 ∨ w = 3 ∨ w = 4 ∨ w = 5 ∨ w = 6 by omega) with e | e | e | e | e | e | e <;> subst e <;> (try omega) <;> simp only [bnM, rnM, rnC, sN, sV, up2] <;> (repeat' split) <;> first | rfl | omega | simp_all
theorem RC_drop {P : Pl} {A : Ab} {r : Nat → Int32} {c0 : Nat} (R : RC P A r) (hc : c0 < 6) (v : Nat) : RC P (sN A 4 c0 v) (upd r (c0 * 9 + 8) (nI v)) := by
  refine RC_c R hc (by omega) (fun c w _ hw => ?_) (fun k w _ hw => ?_) (fun w hw => ?_)
  · rcases (show w = 0 ∨ w = 1 ∨ w = 2 ∨ w = 3 ∨ w = 4 ∨ w = 5 ∨ w = 6 ∨ w = 7 ∨ w = 8 by omega) with e | e | e | e | e | e | e | e | e <;> subst e <;> simp [rcC, sN, sV, up2, fo, ag] <;> (try split) <;> simp_all
  · rcases (show w = 0 ∨ w = 1 ∨ w = 2 ∨ w = 3 ∨ w = 4 ∨ w = 5 by omega) with e | e | e | e | e | e <;> subst e <;> simp [rkC, sN, sV, up2]
  · rcases (show w = 0 ∨ w = 1 ∨ w = 2 ∨ w = 3 ∨ w = 4 ∨ w = 5 ∨ w = 6 by omega) with e | e | e | e | e | e | e <;> subst e <;> simp [rnC, sN, sV, up2]
theorem RM_drop {P : Pl} {A : Ab} {s : Nat → Int32} {c0 : Nat} (h3 : P 0 3 ≤ 6) (h5 : P 0 5 ≤ 5) (R : RM0 P A s) (hc : c0 < 6) (v : Nat) : RM0 P (sN A 4 c0 v) (upd s (120 + c0) (nI v)) := by
  refine RM_u R (by omega) (fun j => by simp [sN, sV, up2]) (fun c w hc hw hn => ?_) (fun k w hk hw hn => ?_) (fun w hw hn => ?_)
  · rcases (show w = 0 ∨ w = 1 ∨ w = 2 ∨ w = 3 ∨ w = 4 ∨ w = 5 ∨ w = 6 ∨ w = 7 ∨ w = 8 by omega) with e | e | e | e | e | e | e | e | e <;> subst e <;> (try omega) <;> simp only [bcM, rcM, rcC, sN, sV, up2, fo, ag] <;> (repeat' split) <;> first | rfl | omega | simp_all
  · rcases (show w = 0 ∨ w = 1 ∨ w = 2 ∨ w = 3 ∨ w = 4 ∨ w = 5 by omega) with e | e | e | e | e | e <;> subst e <;> (try omega) <;> simp only [bkM, rkM, rkC, sN, sV, up2] <;> (repeat' split) <;> first | rfl | omega | simp_all
  · rcases (show w = 0 ∨ w = 1 ∨ w = 2 ∨ w = 3 ∨ w = 4 ∨ w = 5 ∨ w = 6 by omega) with e | e | e | e | e | e | e <;> subst e <;> (try omega) <;> simp only [bnM, rnM, rnC, sN, sV, up2] <;> (repeat' split) <;> first | rfl | omega | simp_all
theorem RC_flag {P : Pl} {A : Ab} {r : Nat → Int32} {c0 : Nat} (R : RC P A r) (hc : c0 < 6) (v : Int32) : RC P (sV A 0 c0 v) (upd r (c0 * 9 + 7) (v)) := by
  refine RC_c R hc (by omega) (fun c w _ hw => ?_) (fun k w _ hw => ?_) (fun w hw => ?_)
  · rcases (show w = 0 ∨ w = 1 ∨ w = 2 ∨ w = 3 ∨ w = 4 ∨ w = 5 ∨ w = 6 ∨ w = 7 ∨ w = 8 by omega) with e | e | e | e | e | e | e | e | e <;> subst e <;> simp [rcC, sN, sV, up2, fo, ag] <;> (try split) <;> simp_all
  · rcases (show w = 0 ∨ w = 1 ∨ w = 2 ∨ w = 3 ∨ w = 4 ∨ w = 5 by omega) with e | e | e | e | e | e <;> subst e <;> simp [rkC, sN, sV, up2]
  · rcases (show w = 0 ∨ w = 1 ∨ w = 2 ∨ w = 3 ∨ w = 4 ∨ w = 5 ∨ w = 6 by omega) with e | e | e | e | e | e | e <;> subst e <;> simp [rnC, sN, sV, up2]
theorem RM_flag {P : Pl} {A : Ab} {s : Nat → Int32} {c0 : Nat} (h3 : P 0 3 ≤ 6) (h5 : P 0 5 ≤ 5) (R : RM0 P A s) (hc : c0 < 6) (v : Int32) : RM0 P (sV A 0 c0 v) (upd s (114 + c0) (v)) := by
  refine RM_u R (by omega) (fun j => by simp [sN, sV, up2]) (fun c w hc hw hn => ?_) (fun k w hk hw hn => ?_) (fun w hw hn => ?_)
  · rcases (show w = 0 ∨ w = 1 ∨ w = 2 ∨ w = 3 ∨ w = 4 ∨ w = 5 ∨ w = 6 ∨ w = 7 ∨ w = 8 by omega) with e | e | e | e | e | e | e | e | e <;> subst e <;> (try omega) <;> simp only [bcM, rcM, rcC, sN, sV, up2, fo, ag] <;> (repeat' split) <;> first | rfl | omega | simp_all
  · rcases (show w = 0 ∨ w = 1 ∨ w = 2 ∨ w = 3 ∨ w = 4 ∨ w = 5 by omega) with e | e | e | e | e | e <;> subst e <;> (try omega) <;> simp only [bkM, rkM, rkC, sN, sV, up2] <;> (repeat' split) <;> first | rfl | omega | simp_all
  · rcases (show w = 0 ∨ w = 1 ∨ w = 2 ∨ w = 3 ∨ w = 4 ∨ w = 5 ∨ w = 6 by omega) with e | e | e | e | e | e | e <;> subst e <;> (try omega) <;> simp only [bnM, rnM, rnC, sN, sV, up2] <;> (repeat' split) <;> first | rfl | omega | simp_all
theorem RC_zeal {P : Pl} {A : Ab} {r : Nat → Int32} {k0 : Nat} (h3 : P 0 3 ≤ 6) (R : RC P A r) (hk : k0 < 5) (v : Nat) : RC P (sN A 5 k0 v) (upd r (54 + k0 * 6 + 0) (nI v)) := by
  refine RC_k h3 R hk (by omega) (fun c w _ hw => ?_) (fun k w _ hw => ?_) (fun w hw => ?_)
  · rcases (show w = 0 ∨ w = 1 ∨ w = 2 ∨ w = 3 ∨ w = 4 ∨ w = 5 ∨ w = 6 ∨ w = 7 ∨ w = 8 by omega) with e | e | e | e | e | e | e | e | e <;> subst e <;> simp [rcC, sN, sV, up2, fo, ag]
  · rcases (show w = 0 ∨ w = 1 ∨ w = 2 ∨ w = 3 ∨ w = 4 ∨ w = 5 by omega) with e | e | e | e | e | e <;> subst e <;> simp [rkC, sN, sV, up2] <;> (try split) <;> simp_all
  · rcases (show w = 0 ∨ w = 1 ∨ w = 2 ∨ w = 3 ∨ w = 4 ∨ w = 5 ∨ w = 6 by omega) with e | e | e | e | e | e | e <;> subst e <;> simp [rnC, sN, sV, up2]
theorem RM_zeal {P : Pl} {A : Ab} {s : Nat → Int32} {k0 : Nat} (h3 : P 0 3 ≤ 6) (h5 : P 0 5 ≤ 5) (R : RM0 P A s) (hk : k0 < 5) (v : Nat) : RM0 P (sN A 5 k0 v) (upd s (126 + k0) (nI v)) := by
  refine RM_u R (by omega) (fun j => by simp [sN, sV, up2]) (fun c w hc hw hn => ?_) (fun k w hk hw hn => ?_) (fun w hw hn => ?_)
  · rcases (show w = 0 ∨ w = 1 ∨ w = 2 ∨ w = 3 ∨ w = 4 ∨ w = 5 ∨ w = 6 ∨ w = 7 ∨ w = 8 by omega) with e | e | e | e | e | e | e | e | e <;> subst e <;> (try omega) <;> simp only [bcM, rcM, rcC, sN, sV, up2, fo, ag] <;> (repeat' split) <;> first | rfl | omega | simp_all
  · rcases (show w = 0 ∨ w = 1 ∨ w = 2 ∨ w = 3 ∨ w = 4 ∨ w = 5 by omega) with e | e | e | e | e | e <;> subst e <;> (try omega) <;> simp only [bkM, rkM, rkC, sN, sV, up2] <;> (repeat' split) <;> first | rfl | omega | simp_all
  · rcases (show w = 0 ∨ w = 1 ∨ w = 2 ∨ w = 3 ∨ w = 4 ∨ w = 5 ∨ w = 6 by omega) with e | e | e | e | e | e | e <;> subst e <;> (try omega) <;> simp only [bnM, rnM, rnC, sN, sV, up2] <;> (repeat' split) <;> first | rfl | omega | simp_all
theorem RC_has {P : Pl} {A : Ab} {r : Nat → Int32} {k0 : Nat} (h3 : P 0 3 ≤ 6) (R : RC P A r) (hk : k0 < 5) (v : Nat) : RC P (sN A 6 k0 v) (upd r (54 + k0 * 6 + 2) (pI v)) := by
  refine RC_k h3 R hk (by omega) (fun c w _ hw => ?_) (fun k w _ hw => ?_) (fun w hw => ?_)
  · rcases (show w = 0 ∨ w = 1 ∨ w = 2 ∨ w = 3 ∨ w = 4 ∨ w = 5 ∨ w = 6 ∨ w = 7 ∨ w = 8 by omega) with e | e | e | e | e | e | e | e | e <;> subst e <;> simp [rcC, sN, sV, up2, fo, ag]
  · rcases (show w = 0 ∨ w = 1 ∨ w = 2 ∨ w = 3 ∨ w = 4 ∨ w = 5 by omega) with e | e | e | e | e | e <;> subst e <;> simp [rkC, sN, sV, up2] <;> (try split) <;> simp_all
  · rcases (show w = 0 ∨ w = 1 ∨ w = 2 ∨ w = 3 ∨ w = 4 ∨ w = 5 ∨ w = 6 by omega) with e | e | e | e | e | e | e <;> subst e <;> simp [rnC, sN, sV, up2]
theorem RM_has {P : Pl} {A : Ab} {s : Nat → Int32} {k0 : Nat} (h3 : P 0 3 ≤ 6) (h5 : P 0 5 ≤ 5) (R : RM0 P A s) (hk : k0 < 5) (v : Nat) : RM0 P (sN A 6 k0 v) (upd s (131 + k0) (nI v)) := by
  refine RM_u R (by omega) (fun j => by simp [sN, sV, up2]) (fun c w hc hw hn => ?_) (fun k w hk hw hn => ?_) (fun w hw hn => ?_)
  · rcases (show w = 0 ∨ w = 1 ∨ w = 2 ∨ w = 3 ∨ w = 4 ∨ w = 5 ∨ w = 6 ∨ w = 7 ∨ w = 8 by omega) with e | e | e | e | e | e | e | e | e <;> subst e <;> (try omega) <;> simp only [bcM, rcM, rcC, sN, sV, up2, fo, ag] <;> (repeat' split) <;> first | rfl | omega | simp_all
  · rcases (show w = 0 ∨ w = 1 ∨ w = 2 ∨ w = 3 ∨ w = 4 ∨ w = 5 by omega) with e | e | e | e | e | e <;> subst e <;> (try omega) <;> simp only [bkM, rkM, rkC, sN, sV, up2] <;> (repeat' split) <;> first | rfl | omega | simp_all
  · rcases (show w = 0 ∨ w = 1 ∨ w = 2 ∨ w = 3 ∨ w = 4 ∨ w = 5 ∨ w = 6 by omega) with e | e | e | e | e | e | e <;> subst e <;> (try omega) <;> simp only [bnM, rnM, rnC, sN, sV, up2] <;> (repeat' split) <;> first | rfl | omega | simp_all
theorem RC_acted {P : Pl} {A : Ab} {r : Nat → Int32} {k0 : Nat} (h3 : P 0 3 ≤ 6) (R : RC P A r) (hk : k0 < 5) (v : Nat) : RC P (sN A 7 k0 v) (upd r (54 + k0 * 6 + 4) (nI v)) := by
  refine RC_k h3 R hk (by omega) (fun c w _ hw => ?_) (fun k w _ hw => ?_) (fun w hw => ?_)
  · rcases (show w = 0 ∨ w = 1 ∨ w = 2 ∨ w = 3 ∨ w = 4 ∨ w = 5 ∨ w = 6 ∨ w = 7 ∨ w = 8 by omega) with e | e | e | e | e | e | e | e | e <;> subst e <;> simp [rcC, sN, sV, up2, fo, ag]
  · rcases (show w = 0 ∨ w = 1 ∨ w = 2 ∨ w = 3 ∨ w = 4 ∨ w = 5 by omega) with e | e | e | e | e | e <;> subst e <;> simp [rkC, sN, sV, up2] <;> (try split) <;> simp_all
  · rcases (show w = 0 ∨ w = 1 ∨ w = 2 ∨ w = 3 ∨ w = 4 ∨ w = 5 ∨ w = 6 by omega) with e | e | e | e | e | e | e <;> subst e <;> simp [rnC, sN, sV, up2]
theorem RM_acted {P : Pl} {A : Ab} {s : Nat → Int32} {k0 : Nat} (h3 : P 0 3 ≤ 6) (h5 : P 0 5 ≤ 5) (R : RM0 P A s) (hk : k0 < 5) (v : Nat) : RM0 P (sN A 7 k0 v) (upd s (141 + k0) (nI v)) := by
  refine RM_u R (by omega) (fun j => by simp [sN, sV, up2]) (fun c w hc hw hn => ?_) (fun k w hk hw hn => ?_) (fun w hw hn => ?_)
  · rcases (show w = 0 ∨ w = 1 ∨ w = 2 ∨ w = 3 ∨ w = 4 ∨ w = 5 ∨ w = 6 ∨ w = 7 ∨ w = 8 by omega) with e | e | e | e | e | e | e | e | e <;> subst e <;> (try omega) <;> simp only [bcM, rcM, rcC, sN, sV, up2, fo, ag] <;> (repeat' split) <;> first | rfl | omega | simp_all
  · rcases (show w = 0 ∨ w = 1 ∨ w = 2 ∨ w = 3 ∨ w = 4 ∨ w = 5 by omega) with e | e | e | e | e | e <;> subst e <;> (try omega) <;> simp only [bkM, rkM, rkC, sN, sV, up2] <;> (repeat' split) <;> first | rfl | omega | simp_all
  · rcases (show w = 0 ∨ w = 1 ∨ w = 2 ∨ w = 3 ∨ w = 4 ∨ w = 5 ∨ w = 6 by omega) with e | e | e | e | e | e | e <;> subst e <;> (try omega) <;> simp only [bnM, rnM, rnC, sN, sV, up2] <;> (repeat' split) <;> first | rfl | omega | simp_all
theorem RC_acts {P : Pl} {A : Ab} {r : Nat → Int32} {k0 : Nat} (h3 : P 0 3 ≤ 6) (R : RC P A r) (hk : k0 < 5) (v : Int32) : RC P (sV A 1 k0 v) (upd r (54 + k0 * 6 + 3) (v)) := by
  refine RC_k h3 R hk (by omega) (fun c w _ hw => ?_) (fun k w _ hw => ?_) (fun w hw => ?_)
  · rcases (show w = 0 ∨ w = 1 ∨ w = 2 ∨ w = 3 ∨ w = 4 ∨ w = 5 ∨ w = 6 ∨ w = 7 ∨ w = 8 by omega) with e | e | e | e | e | e | e | e | e <;> subst e <;> simp [rcC, sN, sV, up2, fo, ag]
  · rcases (show w = 0 ∨ w = 1 ∨ w = 2 ∨ w = 3 ∨ w = 4 ∨ w = 5 by omega) with e | e | e | e | e | e <;> subst e <;> simp [rkC, sN, sV, up2] <;> (try split) <;> simp_all
  · rcases (show w = 0 ∨ w = 1 ∨ w = 2 ∨ w = 3 ∨ w = 4 ∨ w = 5 ∨ w = 6 by omega) with e | e | e | e | e | e | e <;> subst e <;> simp [rnC, sN, sV, up2]
theorem RM_acts {P : Pl} {A : Ab} {s : Nat → Int32} {k0 : Nat} (h3 : P 0 3 ≤ 6) (h5 : P 0 5 ≤ 5) (R : RM0 P A s) (hk : k0 < 5) (v : Int32) : RM0 P (sV A 1 k0 v) (upd s (136 + k0) (v)) := by
  refine RM_u R (by omega) (fun j => by simp [sN, sV, up2]) (fun c w hc hw hn => ?_) (fun k w hk hw hn => ?_) (fun w hw hn => ?_)
  · rcases (show w = 0 ∨ w = 1 ∨ w = 2 ∨ w = 3 ∨ w = 4 ∨ w = 5 ∨ w = 6 ∨ w = 7 ∨ w = 8 by omega) with e | e | e | e | e | e | e | e | e <;> subst e <;> (try omega) <;> simp only [bcM, rcM, rcC, sN, sV, up2, fo, ag] <;> (repeat' split) <;> first | rfl | omega | simp_all
  · rcases (show w = 0 ∨ w = 1 ∨ w = 2 ∨ w = 3 ∨ w = 4 ∨ w = 5 by omega) with e | e | e | e | e | e <;> subst e <;> (try omega) <;> simp only [bkM, rkM, rkC, sN, sV, up2] <;> (repeat' split) <;> first | rfl | omega | simp_all
  · rcases (show w = 0 ∨ w = 1 ∨ w = 2 ∨ w = 3 ∨ w = 4 ∨ w = 5 ∨ w = 6 by omega) with e | e | e | e | e | e | e <;> subst e <;> (try omega) <;> simp only [bnM, rnM, rnC, sN, sV, up2] <;> (repeat' split) <;> first | rfl | omega | simp_all
theorem RC_brought {P : Pl} {A : Ab} {r : Nat → Int32} {k0 : Nat} (h3 : P 0 3 ≤ 6) (R : RC P A r) (hk : k0 < 5) (v : Int32) : RC P (sV A 2 k0 v) (upd r (54 + k0 * 6 + 5) (v)) := by
  refine RC_k h3 R hk (by omega) (fun c w _ hw => ?_) (fun k w _ hw => ?_) (fun w hw => ?_)
  · rcases (show w = 0 ∨ w = 1 ∨ w = 2 ∨ w = 3 ∨ w = 4 ∨ w = 5 ∨ w = 6 ∨ w = 7 ∨ w = 8 by omega) with e | e | e | e | e | e | e | e | e <;> subst e <;> simp [rcC, sN, sV, up2, fo, ag]
  · rcases (show w = 0 ∨ w = 1 ∨ w = 2 ∨ w = 3 ∨ w = 4 ∨ w = 5 by omega) with e | e | e | e | e | e <;> subst e <;> simp [rkC, sN, sV, up2] <;> (try split) <;> simp_all
  · rcases (show w = 0 ∨ w = 1 ∨ w = 2 ∨ w = 3 ∨ w = 4 ∨ w = 5 ∨ w = 6 by omega) with e | e | e | e | e | e | e <;> subst e <;> simp [rnC, sN, sV, up2]
theorem RM_brought {P : Pl} {A : Ab} {s : Nat → Int32} {k0 : Nat} (h3 : P 0 3 ≤ 6) (h5 : P 0 5 ≤ 5) (R : RM0 P A s) (hk : k0 < 5) (v : Int32) : RM0 P (sV A 2 k0 v) (upd s (146 + k0) (v)) := by
  refine RM_u R (by omega) (fun j => by simp [sN, sV, up2]) (fun c w hc hw hn => ?_) (fun k w hk hw hn => ?_) (fun w hw hn => ?_)
  · rcases (show w = 0 ∨ w = 1 ∨ w = 2 ∨ w = 3 ∨ w = 4 ∨ w = 5 ∨ w = 6 ∨ w = 7 ∨ w = 8 by omega) with e | e | e | e | e | e | e | e | e <;> subst e <;> (try omega) <;> simp only [bcM, rcM, rcC, sN, sV, up2, fo, ag] <;> (repeat' split) <;> first | rfl | omega | simp_all
  · rcases (show w = 0 ∨ w = 1 ∨ w = 2 ∨ w = 3 ∨ w = 4 ∨ w = 5 by omega) with e | e | e | e | e | e <;> subst e <;> (try omega) <;> simp only [bkM, rkM, rkC, sN, sV, up2] <;> (repeat' split) <;> first | rfl | omega | simp_all
  · rcases (show w = 0 ∨ w = 1 ∨ w = 2 ∨ w = 3 ∨ w = 4 ∨ w = 5 ∨ w = 6 by omega) with e | e | e | e | e | e | e <;> subst e <;> (try omega) <;> simp only [bnM, rnM, rnC, sN, sV, up2] <;> (repeat' split) <;> first | rfl | omega | simp_all
theorem RC_week {P : Pl} {A : Ab} {r : Nat → Int32} (h3 : P 0 3 ≤ 6) (h5 : P 0 5 ≤ 5) (R : RC P A r) (v : Nat) : RC P (sN A 8 0 v) (upd r (84 + 0) (nI v)) := by
  refine RC_n h3 h5 R (fun c w _ hw => ?_) (fun k w _ hw => ?_) (fun w hw hn => ?_)
  · rcases (show w = 0 ∨ w = 1 ∨ w = 2 ∨ w = 3 ∨ w = 4 ∨ w = 5 ∨ w = 6 ∨ w = 7 ∨ w = 8 by omega) with e | e | e | e | e | e | e | e | e <;> subst e <;> simp [rcC, sN, sV, up2, fo, ag]
  · rcases (show w = 0 ∨ w = 1 ∨ w = 2 ∨ w = 3 ∨ w = 4 ∨ w = 5 by omega) with e | e | e | e | e | e <;> subst e <;> simp [rkC, sN, sV, up2]
  · rcases (show w = 0 ∨ w = 1 ∨ w = 2 ∨ w = 3 ∨ w = 4 ∨ w = 5 ∨ w = 6 by omega) with e | e | e | e | e | e | e <;> subst e <;> simp [rnC, sN, sV, up2] <;> omega
theorem RM_week {P : Pl} {A : Ab} {s : Nat → Int32} (h3 : P 0 3 ≤ 6) (h5 : P 0 5 ≤ 5) (R : RM0 P A s) (v : Nat) : RM0 P (sN A 8 0 v) (upd s 72 (nI v)) := by
  refine RM_u R (by omega) (fun j => by simp [sN, sV, up2]) (fun c w hc hw hn => ?_) (fun k w hk hw hn => ?_) (fun w hw hn => ?_)
  · rcases (show w = 0 ∨ w = 1 ∨ w = 2 ∨ w = 3 ∨ w = 4 ∨ w = 5 ∨ w = 6 ∨ w = 7 ∨ w = 8 by omega) with e | e | e | e | e | e | e | e | e <;> subst e <;> (try omega) <;> simp only [bcM, rcM, rcC, sN, sV, up2, fo, ag] <;> (repeat' split) <;> first | rfl | omega | simp_all
  · rcases (show w = 0 ∨ w = 1 ∨ w = 2 ∨ w = 3 ∨ w = 4 ∨ w = 5 by omega) with e | e | e | e | e | e <;> subst e <;> (try omega) <;> simp only [bkM, rkM, rkC, sN, sV, up2] <;> (repeat' split) <;> first | rfl | omega | simp_all
  · rcases (show w = 0 ∨ w = 1 ∨ w = 2 ∨ w = 3 ∨ w = 4 ∨ w = 5 ∨ w = 6 by omega) with e | e | e | e | e | e | e <;> subst e <;> (try omega) <;> simp only [bnM, rnM, rnC, sN, sV, up2] <;> (repeat' split) <;> first | rfl | omega | simp_all
theorem RC_first {P : Pl} {A : Ab} {r : Nat → Int32} (h3 : P 0 3 ≤ 6) (h5 : P 0 5 ≤ 5) (R : RC P A r) (v : Nat) : RC P (sN A 9 0 v) (upd r (84 + 5) (pI v)) := by
  refine RC_n h3 h5 R (fun c w _ hw => ?_) (fun k w _ hw => ?_) (fun w hw hn => ?_)
  · rcases (show w = 0 ∨ w = 1 ∨ w = 2 ∨ w = 3 ∨ w = 4 ∨ w = 5 ∨ w = 6 ∨ w = 7 ∨ w = 8 by omega) with e | e | e | e | e | e | e | e | e <;> subst e <;> simp [rcC, sN, sV, up2, fo, ag]
  · rcases (show w = 0 ∨ w = 1 ∨ w = 2 ∨ w = 3 ∨ w = 4 ∨ w = 5 by omega) with e | e | e | e | e | e <;> subst e <;> simp [rkC, sN, sV, up2]
  · rcases (show w = 0 ∨ w = 1 ∨ w = 2 ∨ w = 3 ∨ w = 4 ∨ w = 5 ∨ w = 6 by omega) with e | e | e | e | e | e | e <;> subst e <;> simp [rnC, sN, sV, up2] <;> omega
theorem RM_first {P : Pl} {A : Ab} {s : Nat → Int32} (h3 : P 0 3 ≤ 6) (h5 : P 0 5 ≤ 5) (R : RM0 P A s) (v : Nat) : RM0 P (sN A 9 0 v) (upd s 75 (nI v)) := by
  refine RM_u R (by omega) (fun j => by simp [sN, sV, up2]) (fun c w hc hw hn => ?_) (fun k w hk hw hn => ?_) (fun w hw hn => ?_)
  · rcases (show w = 0 ∨ w = 1 ∨ w = 2 ∨ w = 3 ∨ w = 4 ∨ w = 5 ∨ w = 6 ∨ w = 7 ∨ w = 8 by omega) with e | e | e | e | e | e | e | e | e <;> subst e <;> (try omega) <;> simp only [bcM, rcM, rcC, sN, sV, up2, fo, ag] <;> (repeat' split) <;> first | rfl | omega | simp_all
  · rcases (show w = 0 ∨ w = 1 ∨ w = 2 ∨ w = 3 ∨ w = 4 ∨ w = 5 by omega) with e | e | e | e | e | e <;> subst e <;> (try omega) <;> simp only [bkM, rkM, rkC, sN, sV, up2] <;> (repeat' split) <;> first | rfl | omega | simp_all
  · rcases (show w = 0 ∨ w = 1 ∨ w = 2 ∨ w = 3 ∨ w = 4 ∨ w = 5 ∨ w = 6 by omega) with e | e | e | e | e | e | e <;> subst e <;> (try omega) <;> simp only [bnM, rnM, rnC, sN, sV, up2] <;> (repeat' split) <;> first | rfl | omega | simp_all
theorem RC_coin {P : Pl} {A : Ab} {r : Nat → Int32} (h3 : P 0 3 ≤ 6) (h5 : P 0 5 ≤ 5) (R : RC P A r) (v : Int32) : RC P (sV A 3 0 v) (upd r (84 + 1) (v)) := by
  refine RC_n h3 h5 R (fun c w _ hw => ?_) (fun k w _ hw => ?_) (fun w hw hn => ?_)
  · rcases (show w = 0 ∨ w = 1 ∨ w = 2 ∨ w = 3 ∨ w = 4 ∨ w = 5 ∨ w = 6 ∨ w = 7 ∨ w = 8 by omega) with e | e | e | e | e | e | e | e | e <;> subst e <;> simp [rcC, sN, sV, up2, fo, ag]
  · rcases (show w = 0 ∨ w = 1 ∨ w = 2 ∨ w = 3 ∨ w = 4 ∨ w = 5 by omega) with e | e | e | e | e | e <;> subst e <;> simp [rkC, sN, sV, up2]
  · rcases (show w = 0 ∨ w = 1 ∨ w = 2 ∨ w = 3 ∨ w = 4 ∨ w = 5 ∨ w = 6 by omega) with e | e | e | e | e | e | e <;> subst e <;> simp [rnC, sN, sV, up2] <;> omega
theorem RM_coin {P : Pl} {A : Ab} {s : Nat → Int32} (h3 : P 0 3 ≤ 6) (h5 : P 0 5 ≤ 5) (R : RM0 P A s) (v : Int32) : RM0 P (sV A 3 0 v) (upd s 73 (v)) := by
  refine RM_u R (by omega) (fun j => by simp [sN, sV, up2]) (fun c w hc hw hn => ?_) (fun k w hk hw hn => ?_) (fun w hw hn => ?_)
  · rcases (show w = 0 ∨ w = 1 ∨ w = 2 ∨ w = 3 ∨ w = 4 ∨ w = 5 ∨ w = 6 ∨ w = 7 ∨ w = 8 by omega) with e | e | e | e | e | e | e | e | e <;> subst e <;> (try omega) <;> simp only [bcM, rcM, rcC, sN, sV, up2, fo, ag] <;> (repeat' split) <;> first | rfl | omega | simp_all
  · rcases (show w = 0 ∨ w = 1 ∨ w = 2 ∨ w = 3 ∨ w = 4 ∨ w = 5 by omega) with e | e | e | e | e | e <;> subst e <;> (try omega) <;> simp only [bkM, rkM, rkC, sN, sV, up2] <;> (repeat' split) <;> first | rfl | omega | simp_all
  · rcases (show w = 0 ∨ w = 1 ∨ w = 2 ∨ w = 3 ∨ w = 4 ∨ w = 5 ∨ w = 6 by omega) with e | e | e | e | e | e | e <;> subst e <;> (try omega) <;> simp only [bnM, rnM, rnC, sN, sV, up2] <;> (repeat' split) <;> first | rfl | omega | simp_all
theorem RC_disg {P : Pl} {A : Ab} {r : Nat → Int32} (h3 : P 0 3 ≤ 6) (h5 : P 0 5 ≤ 5) (R : RC P A r) (v : Int32) : RC P (sV A 4 0 v) (upd r (84 + 2) (v)) := by
  refine RC_n h3 h5 R (fun c w _ hw => ?_) (fun k w _ hw => ?_) (fun w hw hn => ?_)
  · rcases (show w = 0 ∨ w = 1 ∨ w = 2 ∨ w = 3 ∨ w = 4 ∨ w = 5 ∨ w = 6 ∨ w = 7 ∨ w = 8 by omega) with e | e | e | e | e | e | e | e | e <;> subst e <;> simp [rcC, sN, sV, up2, fo, ag]
  · rcases (show w = 0 ∨ w = 1 ∨ w = 2 ∨ w = 3 ∨ w = 4 ∨ w = 5 by omega) with e | e | e | e | e | e <;> subst e <;> simp [rkC, sN, sV, up2]
  · rcases (show w = 0 ∨ w = 1 ∨ w = 2 ∨ w = 3 ∨ w = 4 ∨ w = 5 ∨ w = 6 by omega) with e | e | e | e | e | e | e <;> subst e <;> simp [rnC, sN, sV, up2] <;> omega
theorem RM_disg {P : Pl} {A : Ab} {s : Nat → Int32} (h3 : P 0 3 ≤ 6) (h5 : P 0 5 ≤ 5) (R : RM0 P A s) (v : Int32) : RM0 P (sV A 4 0 v) (upd s 74 (v)) := by
  refine RM_u R (by omega) (fun j => by simp [sN, sV, up2]) (fun c w hc hw hn => ?_) (fun k w hk hw hn => ?_) (fun w hw hn => ?_)
  · rcases (show w = 0 ∨ w = 1 ∨ w = 2 ∨ w = 3 ∨ w = 4 ∨ w = 5 ∨ w = 6 ∨ w = 7 ∨ w = 8 by omega) with e | e | e | e | e | e | e | e | e <;> subst e <;> (try omega) <;> simp only [bcM, rcM, rcC, sN, sV, up2, fo, ag] <;> (repeat' split) <;> first | rfl | omega | simp_all
  · rcases (show w = 0 ∨ w = 1 ∨ w = 2 ∨ w = 3 ∨ w = 4 ∨ w = 5 by omega) with e | e | e | e | e | e <;> subst e <;> (try omega) <;> simp only [bkM, rkM, rkC, sN, sV, up2] <;> (repeat' split) <;> first | rfl | omega | simp_all
  · rcases (show w = 0 ∨ w = 1 ∨ w = 2 ∨ w = 3 ∨ w = 4 ∨ w = 5 ∨ w = 6 by omega) with e | e | e | e | e | e | e <;> subst e <;> (try omega) <;> simp only [bnM, rnM, rnC, sN, sV, up2] <;> (repeat' split) <;> first | rfl | omega | simp_all
theorem RC_deeds {P : Pl} {A : Ab} {r : Nat → Int32} (h3 : P 0 3 ≤ 6) (h5 : P 0 5 ≤ 5) (R : RC P A r) (v : Int32) : RC P (sV A 5 0 v) (upd r (84 + 4) (v)) := by
  refine RC_n h3 h5 R (fun c w _ hw => ?_) (fun k w _ hw => ?_) (fun w hw hn => ?_)
  · rcases (show w = 0 ∨ w = 1 ∨ w = 2 ∨ w = 3 ∨ w = 4 ∨ w = 5 ∨ w = 6 ∨ w = 7 ∨ w = 8 by omega) with e | e | e | e | e | e | e | e | e <;> subst e <;> simp [rcC, sN, sV, up2, fo, ag]
  · rcases (show w = 0 ∨ w = 1 ∨ w = 2 ∨ w = 3 ∨ w = 4 ∨ w = 5 by omega) with e | e | e | e | e | e <;> subst e <;> simp [rkC, sN, sV, up2]
  · rcases (show w = 0 ∨ w = 1 ∨ w = 2 ∨ w = 3 ∨ w = 4 ∨ w = 5 ∨ w = 6 by omega) with e | e | e | e | e | e | e <;> subst e <;> simp [rnC, sN, sV, up2] <;> omega
theorem RM_deeds {P : Pl} {A : Ab} {s : Nat → Int32} (h3 : P 0 3 ≤ 6) (h5 : P 0 5 ≤ 5) (R : RM0 P A s) (v : Int32) : RM0 P (sV A 5 0 v) (upd s 77 (v)) := by
  refine RM_u R (by omega) (fun j => by simp [sN, sV, up2]) (fun c w hc hw hn => ?_) (fun k w hk hw hn => ?_) (fun w hw hn => ?_)
  · rcases (show w = 0 ∨ w = 1 ∨ w = 2 ∨ w = 3 ∨ w = 4 ∨ w = 5 ∨ w = 6 ∨ w = 7 ∨ w = 8 by omega) with e | e | e | e | e | e | e | e | e <;> subst e <;> (try omega) <;> simp only [bcM, rcM, rcC, sN, sV, up2, fo, ag] <;> (repeat' split) <;> first | rfl | omega | simp_all
  · rcases (show w = 0 ∨ w = 1 ∨ w = 2 ∨ w = 3 ∨ w = 4 ∨ w = 5 by omega) with e | e | e | e | e | e <;> subst e <;> (try omega) <;> simp only [bkM, rkM, rkC, sN, sV, up2] <;> (repeat' split) <;> first | rfl | omega | simp_all
  · rcases (show w = 0 ∨ w = 1 ∨ w = 2 ∨ w = 3 ∨ w = 4 ∨ w = 5 ∨ w = 6 by omega) with e | e | e | e | e | e | e <;> subst e <;> (try omega) <;> simp only [bnM, rnM, rnC, sN, sV, up2] <;> (repeat' split) <;> first | rfl | omega | simp_all
theorem RC_flags {P : Pl} {A : Ab} {r : Nat → Int32} (h3 : P 0 3 ≤ 6) (h5 : P 0 5 ≤ 5) (R : RC P A r) (v : Int32) : RC P (sV A 6 0 v) (upd r (84 + 6) (v)) := by
  refine RC_n h3 h5 R (fun c w _ hw => ?_) (fun k w _ hw => ?_) (fun w hw hn => ?_)
  · rcases (show w = 0 ∨ w = 1 ∨ w = 2 ∨ w = 3 ∨ w = 4 ∨ w = 5 ∨ w = 6 ∨ w = 7 ∨ w = 8 by omega) with e | e | e | e | e | e | e | e | e <;> subst e <;> simp [rcC, sN, sV, up2, fo, ag]
  · rcases (show w = 0 ∨ w = 1 ∨ w = 2 ∨ w = 3 ∨ w = 4 ∨ w = 5 by omega) with e | e | e | e | e | e <;> subst e <;> simp [rkC, sN, sV, up2]
  · rcases (show w = 0 ∨ w = 1 ∨ w = 2 ∨ w = 3 ∨ w = 4 ∨ w = 5 ∨ w = 6 by omega) with e | e | e | e | e | e | e <;> subst e <;> simp [rnC, sN, sV, up2] <;> omega
theorem RM_flags {P : Pl} {A : Ab} {s : Nat → Int32} (h3 : P 0 3 ≤ 6) (h5 : P 0 5 ≤ 5) (R : RM0 P A s) (v : Int32) : RM0 P (sV A 6 0 v) (upd s 76 (v)) := by
  refine RM_u R (by omega) (fun j => by simp [sN, sV, up2]) (fun c w hc hw hn => ?_) (fun k w hk hw hn => ?_) (fun w hw hn => ?_)
  · rcases (show w = 0 ∨ w = 1 ∨ w = 2 ∨ w = 3 ∨ w = 4 ∨ w = 5 ∨ w = 6 ∨ w = 7 ∨ w = 8 by omega) with e | e | e | e | e | e | e | e | e <;> subst e <;> (try omega) <;> simp only [bcM, rcM, rcC, sN, sV, up2, fo, ag] <;> (repeat' split) <;> first | rfl | omega | simp_all
  · rcases (show w = 0 ∨ w = 1 ∨ w = 2 ∨ w = 3 ∨ w = 4 ∨ w = 5 by omega) with e | e | e | e | e | e <;> subst e <;> (try omega) <;> simp only [bkM, rkM, rkC, sN, sV, up2] <;> (repeat' split) <;> first | rfl | omega | simp_all
  · rcases (show w = 0 ∨ w = 1 ∨ w = 2 ∨ w = 3 ∨ w = 4 ∨ w = 5 ∨ w = 6 by omega) with e | e | e | e | e | e | e <;> subst e <;> (try omega) <;> simp only [bnM, rnM, rnC, sN, sV, up2] <;> (repeat' split) <;> first | rfl | omega | simp_all
