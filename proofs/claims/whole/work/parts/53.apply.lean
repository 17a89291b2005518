/-! apply -/
theorem i_8_7 {x : Int32} : (8 : Int32) ≤ x ↔ (7 : Int32) < x := by
  rw [Int32.le_iff_toInt_le, Int32.lt_iff_toInt_lt, show (8 : Int32).toInt = 8 from by decide, show (7 : Int32).toInt = 7 from by decide]
  omega
theorem S25_ok {v : Int32} {q : aQ} : S25_0 v q := by unfold S25_0; simp
theorem S29_ok {v : Int32} {q : aQ} : S29_0 v q := by unfold S29_0; simp
theorem S134_ok {v : Int32} {q : aQ} : S134_0 v q := by unfold S134_0; simp
theorem F25_yes {q : aQ} {n i : Nat} (hn : q.1 1 6 = nI n) (hi : i < n) (h6 : n ≤ 60) : F25_0 (nI i) q = 1 := by
  unfold F25_0
  rw [hn, if_neg (nI_pos (by omega)), if_neg (nI_ge hi (by omega))]
theorem F25_no {q : aQ} {n : Nat} {v : Int32} (hn : q.1 1 6 = nI n) (h : v < 0 ∨ nI n ≤ v) : F25_0 v q = 0 := by
  unfold F25_0
  rw [hn]
  by_cases h0 : v < 0
  · rw [if_pos h0]
  · rw [if_neg h0, if_pos (h.resolve_left h0)]
theorem F134_yes {q : aQ} {n i : Nat} (hn : q.1 650 0 = nI n) (hi : i < n) (h6 : n ≤ 60) : F134_0 (nI i) q = 1 := by
  unfold F134_0
  rw [hn]
  simp [nI_pos (show i < 2 ^ 31 by omega), nI_ge hi (show n < 2 ^ 31 by omega), nI_lt hi (show n < 2 ^ 31 by omega)]
theorem F134_no {q : aQ} {n : Nat} {v : Int32} (hn : q.1 650 0 = nI n) (h : v < 0 ∨ nI n ≤ v) : F134_0 v q = 0 := by
  unfold F134_0
  rw [hn]
  by_cases h0 : v < 0
  · simp [h0]
  · have h1 := h.resolve_left h0
    simp [h0, h1]
/-- is x the number of an expression? -/
theorem ex_or (x : Int32) {n : Nat} (h6 : n ≤ 60) : (x < 0 ∨ nI n ≤ x) ∨ ∃ i, i < n ∧ x = nI i := by
  rcases pk_ix x (show n < 2 ^ 31 by omega) with h | h | h
  · exact Or.inl (Or.inl h)
  · exact Or.inl (Or.inr h)
  · exact Or.inr h
theorem F29_lo {o : Nat} {q : aQ} (h : o ≤ 5) : F29_0 (nI o) q = 0 := by
  unfold F29_0
  rw [if_neg (fun z => by have := nI_inj (b := 6) (by omega) (by decide) z; omega), if_neg (fun z => by have := nI_inj (b := 7) (by omega) (by decide) z; omega)]
theorem F29_hi {o : Nat} {q : aQ} (h : o = 6 ∨ o = 7) : F29_0 (nI o) q = 1 := by
  rcases h with rfl | rfl <;> rfl
def applyC (q : aQ) (n o i w : Nat) (r : Int32) : aQ := a_w (a_w (a_w (a_w (a_w q 2 n (nI o)) 5 n (nI i)) 6 n r) 7 n (nI w)) 1 6 (nI (n + 1))
def applyM (q : aQ) (n o i w : Nat) (b : Int32) : aQ := a_w (a_w (a_w (a_w (a_w q 651 n (nI (10 + o))) 652 n (nI i)) 653 n b) 654 n (nI w)) 650 0 (nI (n + 1))
/-- refused on both sides -/
theorem ap_60 {q : aQ} {a b c : Int32} (h1 : q.1 1 6 = nI 60) (h2 : q.1 650 0 = nI 60) : (F3_0 a b c q = (-1, q) ∧ S3_0 a b c q) ∧ F135_0 a b c q = (-1, q) ∧ S135_0 a b c q := by
  have e1 : (60 : Int32) ≤ nI 60 := by decide
  have e2 : nI 60 = (60 : Int32) := by decide
  refine ⟨⟨?_, ?_⟩, ?_, ?_⟩
  · unfold F3_0 F28_0; rw [h1]; simp [e1]
  · unfold S3_0 S28_0; rw [h1]; simp [e1]
  · unfold F135_0 F135_12 F135_17; rw [h2]; simp [e2]
  · unfold S135_0 S135_12 S135_17; rw [h2]; simp [e2]
theorem ap_op {q : aQ} {n : Nat} {a b c : Int32} (h1 : q.1 1 6 = nI n) (h2 : q.1 650 0 = nI n) (hn : n < 60) (h : a < 0 ∨ 7 < a) : (F3_0 a b c q = (-1, q) ∧ S3_0 a b c q) ∧ F135_0 a b c q = (-1, q) ∧ S135_0 a b c q := by
  have e1 : ¬ (60 : Int32) ≤ nI n := nI_ge hn (by decide)
  have e2 : ¬ nI n = (60 : Int32) := fun z => by have := nI_inj (b := 60) (by omega) (by decide) z; omega
  by_cases h0 : a < 0
  · refine ⟨⟨?_, ?_⟩, ?_, ?_⟩
    · unfold F3_0 F28_0; rw [h1]; simp [e1, h0]
    · unfold S3_0 S28_0; rw [h1]; simp [e1, h0]
    · unfold F135_0 F135_12 F135_17; rw [h2]; simp [e2, h0]
    · unfold S135_0 S135_12 S135_17; rw [h2]; simp [e2, h0]
  · have h7 := h.resolve_left h0
    refine ⟨⟨?_, ?_⟩, ?_, ?_⟩
    · unfold F3_0 F28_0; rw [h1]; simp [e1, h0, h7]
    · unfold S3_0 S28_0; rw [h1]; simp [e1, h0, h7]
    · unfold F135_0 F135_12 F135_17; rw [h2]; simp [e2, h0, h7]
    · unfold S135_0 S135_12 S135_17; rw [h2]; simp [e2, h0, h7]
theorem ap_a {q : aQ} {n o : Nat} {b c : Int32} (h1 : q.1 1 6 = nI n) (h2 : q.1 650 0 = nI n) (hn : n < 60) (ho : o ≤ 7) (h : b < 0 ∨ nI n ≤ b) : (F3_0 (nI o) b c q = (-1, q) ∧ S3_0 (nI o) b c q) ∧ F135_0 (nI o) b c q = (-1, q) ∧ S135_0 (nI o) b c q := by
  have e1 : ¬ (60 : Int32) ≤ nI n := nI_ge hn (by decide)
  have e2 : ¬ nI n = (60 : Int32) := fun z => by have := nI_inj (b := 60) (by omega) (by decide) z; omega
  have e3 : ¬ nI o < 0 := nI_pos (by omega)
  have e4 : ¬ (7 : Int32) < nI o := nI_nlt (b := o) (a := 7) (by omega) (by decide)
  have e5 := F25_no h1 h
  have e6 := F134_no h2 h
  refine ⟨⟨?_, ?_⟩, ?_, ?_⟩
  · unfold F3_0 F28_0; rw [h1]; simp [e1, e3, e4, e5]
  · unfold S3_0 S28_0; rw [h1]; simp [e1, e3, e4, e5, S25_ok]
  · unfold F135_0 F135_12 F135_17; rw [h2]; simp [e2, e3, e4, e6]
  · unfold S135_0 S135_12 S135_17; rw [h2]; simp [e2, e3, e4, e6, S134_ok]
