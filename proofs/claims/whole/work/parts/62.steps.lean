def opnC (q : aQ) (n m : Nat) : aQ := a_w (a_w (a_w (a_w q 16 m (nI n)) 17 m 0) 8 11 (nI (m + 1))) 18 (m + 1) (-1)
def opnM (q : aQ) (n m : Nat) : aQ := a_w (a_w q 663 m (nI (2 * n))) 650 14 (nI (m + 1))
/-- all but the program is left alone -/
def frP (q q' : aQ) : Prop := q'.2 = q.2 ∧ ∀ c j, ¬ (8 ≤ c ∧ c ≤ 18) → ¬ (655 ≤ c ∧ c ≤ 663) → ¬ (c = 650 ∧ (j = 5 ∨ j = 14)) → q'.1 c j = q.1 c j
theorem frP.rf {q : aQ} : frP q q := ⟨rfl, fun _ _ _ _ _ => rfl⟩
theorem frP.tr {q q1 q2 : aQ} (h1 : frP q q1) (h2 : frP q1 q2) : frP q q2 := ⟨h2.1.trans h1.1, fun c j a b d => (h2.2 c j a b d).trans (h1.2 c j a b d)⟩
section
variable {q : aQ} {nE n m : Nat} {o p : Nat → Nat} {k det det' e : Int32}
theorem addC_fr : frP q (addC q n m o p k det e) := by
  have hl : (addC q n m o p k det e).2 = q.2 := by
    unfold addC clk lw addB
    by_cases h1 : q.1 18 m = -1
    · by_cases h2 : m = 0
      · simp only [if_pos h1, if_pos h2]; rfl
      · simp only [if_pos h1, if_neg h2]; rfl
    · simp only [if_neg h1]; rfl
  refine ⟨hl, fun c j h1 h2 h3 => ?_⟩
  by_cases hc : 18 < c
  · exact addC_hi hc
  · have hc8 : c < 8 := by omega
    unfold addC clk lw addB
    by_cases g1 : q.1 18 m = -1
    · by_cases g2 : m = 0
      · simp only [if_pos g1, if_pos g2]
        simp only [w_ne (show c ≠ 18 by omega), w_ne (show c ≠ 13 by omega), w_ne (show c ≠ 12 by omega), w_ne (show c ≠ 15 by omega), w_ne (show c ≠ 14 by omega), w_ne (show c ≠ 11 by omega), w_ne (show c ≠ 10 by omega), w_ne (show c ≠ 9 by omega), w_ne (show c ≠ 8 by omega)]
      · simp only [if_pos g1, if_neg g2]
        simp only [w_ne (show c ≠ 18 by omega), w_ne (show c ≠ 13 by omega), w_ne (show c ≠ 12 by omega), w_ne (show c ≠ 15 by omega), w_ne (show c ≠ 14 by omega), w_ne (show c ≠ 11 by omega), w_ne (show c ≠ 10 by omega), w_ne (show c ≠ 9 by omega), w_ne (show c ≠ 8 by omega)]
    · simp only [if_neg g1]
      simp only [w_ne (show c ≠ 18 by omega), w_ne (show c ≠ 13 by omega), w_ne (show c ≠ 12 by omega), w_ne (show c ≠ 15 by omega), w_ne (show c ≠ 14 by omega), w_ne (show c ≠ 11 by omega), w_ne (show c ≠ 10 by omega), w_ne (show c ≠ 9 by omega), w_ne (show c ≠ 8 by omega)]
theorem addM1_fr {B : Nat} : frP q (addM1 q n m B o k det' e) := by
  have hl : (addM1 q n m B o k det' e).2 = q.2 := by
    unfold addM1 addM0
    by_cases h1 : q.1 662 B = -1
    · simp only [if_pos h1]; rfl
    · simp only [if_neg h1]; rfl
  refine ⟨hl, fun c j h1 h2 h3 => ?_⟩
  unfold addM1 addM0
  by_cases g1 : q.1 662 B = -1
  · simp only [if_pos g1]
    rw [w_get, if_neg (fun z => h3 ⟨z.1, Or.inl z.2⟩)]
    simp only [w_ne (show c ≠ 655 by omega), w_ne (show c ≠ 656 by omega), w_ne (show c ≠ 657 by omega), w_ne (show c ≠ 658 by omega), w_ne (show c ≠ 659 by omega), w_ne (show c ≠ 660 by omega), w_ne (show c ≠ 661 by omega), w_ne (show c ≠ 662 by omega)]
  · simp only [if_neg g1]
    rw [w_get, if_neg (fun z => h3 ⟨z.1, Or.inl z.2⟩)]
    simp only [w_ne (show c ≠ 655 by omega), w_ne (show c ≠ 656 by omega), w_ne (show c ≠ 657 by omega), w_ne (show c ≠ 658 by omega), w_ne (show c ≠ 659 by omega), w_ne (show c ≠ 660 by omega), w_ne (show c ≠ 661 by omega), w_ne (show c ≠ 662 by omega)]
theorem opnC_fr : frP q (opnC q n m) := by
  refine ⟨rfl, fun c j h1 h2 h3 => ?_⟩
  unfold opnC
  rw [w_ne (by omega), w_ne (by omega), w_ne (by omega), w_ne (by omega)]
theorem opnM_fr : frP q (opnM q n m) := by
  refine ⟨rfl, fun c j h1 h2 h3 => ?_⟩
  unfold opnM
  rw [w_get, if_neg (fun z => h3 ⟨z.1, Or.inr z.2⟩), w_ne (by omega)]
/-- the rows behind both sides' add, with a memory Q between them that has the same rows -/
theorem addedR_of {Q : aQ} (h : iP q nE n m o p) (hr : ∀ c s, (9 ≤ c ∧ c ≤ 15) ∨ 650 < c ∨ (c = 8 ∧ s = 7) → Q.1 c s = (addC q n m o p k det e).1 c s) : addedR q (addM1 Q n m (curB m o p) o k det' e) n m o p k det det' e := by
  have hlat := h.lat
  have R := fun s => addC_rows (q := q) (n := n) (m := m) (o := o) (p := p) (k := k) (det := det) (e := e) (s := s)
  have M := fun s => addM1_rows (n := n) (m := m) (o := o) (k := k) (det' := det') (e := e) (Q := Q) (B := curB m o p) (s := s)
  have hi : ∀ c s, 650 < c → Q.1 c s = q.1 c s := fun c s hc => (hr c s (Or.inr (Or.inl hc))).trans (addC_hi (by omega))
  have lo : ∀ c s, 9 ≤ c → c ≤ 15 → (addM1 Q n m (curB m o p) o k det' e).1 c s = (addC q n m o p k det e).1 c s := fun c s h1 h2 => (addM1_lo (by omega)).trans (hr c s (Or.inl ⟨h1, h2⟩))
  refine ⟨fun s => ⟨?_, ?_, ?_, ?_, ?_, ?_, ?_, ?_, ?_, ?_, ?_, ?_, ?_, ?_, ?_⟩, ?_, (M 0).2.2.2.2.2.2.2.1⟩
  · rw [lo 9 s (by decide) (by decide)]; exact (R s).1
  · rw [lo 10 s (by decide) (by decide)]; exact (R s).2.1
  · rw [lo 11 s (by decide) (by decide)]; exact (R s).2.2.1
  · rw [lo 12 s (by decide) (by decide)]; exact (R s).2.2.2.1
  · rw [lo 13 s (by decide) (by decide)]; exact (R s).2.2.2.2.1
  · rw [(M s).1, hi 655 s (by decide)]
  · rw [(M s).2.1, hi 656 s (by decide)]
  · rw [(M s).2.2.1, hi 657 s (by decide)]
  · rw [(M s).2.2.2.1, hi 658 s (by decide)]
  · rw [(M s).2.2.2.2.1, hi 659 s (by decide)]
  · rw [lo 14 s (by decide) (by decide)]; exact addC_14
  · rw [addM1_660, hi 662 _ (by decide), hi 660 _ (by decide), ← hlat]
  · rw [lo 15 s (by decide) (by decide)]; exact addC_15
  · rw [addM1_661, hi 662 _ (by decide), hi 661 _ (by decide), ← hlat]
  · rw [(M s).2.2.2.2.2.1, hi 662 s (by decide)]
  · rw [addM1_lo (by decide), hr 8 7 (Or.inr (Or.inr ⟨rfl, rfl⟩))]; exact (R 0).2.2.2.2.2.2.2.2.1
/-- both sides add a statement that opens nothing -/
theorem both_add (h : iP q nE n m o p) (hn : n < 24) {kN : Nat} (hk4 : kN < 4) (hN : newS q nE n m o kN det det' e) : ∃ q1 q2, (F35_0 (nI kN) det e q = (nI n, q1) ∧ S35_0 (nI kN) det e q) ∧ (F136_0 (nI kN) det' e q1 = (nI n, q2) ∧ S136_0 (nI kN) det' e q1) ∧ frP q q1 ∧ frP q1 q2 ∧ (∀ c s, 18 < c → q1.1 c s = q.1 c s) ∧ iP q2 nE (n + 1) m o p := by
  have C := add_class h hn (nI kN) det e
  have hh := h
  have hcur := h.cur
  have hcB : curB m o p < 49 := by
    by_cases hm : m = 0
    · unfold curB; rw [if_pos hm]; decide
    · have := (hcur hm).1; omega
  obtain ⟨h24, h5, c1, c2, c3, c4, hS, hO, t0, hl, hb, z0, z1⟩ := h
  have hi : ∀ c s, 18 < c → (addC q n m o p (nI kN) det e).1 c s = q.1 c s := fun c s hc => addC_hi hc
  have Mo := add_model (q := addC q n m o p (nI kN) det e) (n := n) (m := m) (B := curB m o p) (o := o) (p := p) (k := nI kN) (det := det') (e := e) (op := false) hn h5 (by rw [hi 650 5 (by decide)]; exact c2) (by rw [hi 650 14 (by decide)]; exact c4) rfl hcB (by rw [hi 662 _ (by decide)]; exact hl _ hcB) (fun hm => by
      have ho := hO (m - 1) (by omega)
      rw [hi 663 _ (by decide), (hcur hm).2]
      exact ⟨ho.2.2.2.2.1, ho.2.1, ho.1⟩) ⟨fun z => (by cases z), fun z => absurd (nI_lt (b := 4) hk4 (by decide)) z⟩
  have A := addedR_of (k := nI kN) (det := det) (det' := det') (e := e) hh (Q := addC q n m o p (nI kN) det e) (fun _ _ _ => rfl)
  have R := fun s => addC_rows (q := q) (n := n) (m := m) (o := o) (p := p) (k := nI kN) (det := det) (e := e) (s := s)
  refine ⟨addC q n m o p (nI kN) det e, addM1 (addC q n m o p (nI kN) det e) n m (curB m o p) o (nI kN) det' e, C, Mo, addC_fr, addM1_fr, hi, added_iP hh hn rfl hN A (fun s => ?_) (fun s => ?_) (fun s => ?_) (fun s => ?_) ?_ ?_⟩
  · rw [addM1_lo (by decide)]; exact (R s).2.2.2.2.2.1
  · rw [addM1_lo (by decide)]; exact (R s).2.2.2.2.2.2.1
  · rw [(addM1_rows).2.2.2.2.2.2.1]; exact hi 663 s (by decide)
  · rw [addM1_lo (by decide)]; exact (R s).2.2.2.2.2.2.2.1
  · rw [addM1_lo (by decide)]; exact (R 0).2.2.2.2.2.2.2.2.2
  · rw [(addM1_rows (s := 0)).2.2.2.2.2.2.2.2]; exact hi 650 14 (by decide)
end
