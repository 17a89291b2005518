/-! leaf: both sides -/
/-- what a call that adds expressions leaves alone: all but the expressions; the old expressions too -/
def frE (n : Nat) (q q' : aQ) : Prop := q'.2 = q.2 ∧ (∀ c j, ¬ (1 ≤ c ∧ c ≤ 7) → ¬ (651 ≤ c ∧ c ≤ 654) → ¬ (c = 650 ∧ j = 0) → q'.1 c j = q.1 c j) ∧ ∀ c j, j < n → ¬ c = 1 → ¬ c = 650 → q'.1 c j = q.1 c j
theorem frE.rf {n : Nat} {q : aQ} : frE n q q := ⟨rfl, fun _ _ _ _ _ => rfl, fun _ _ _ _ _ => rfl⟩
theorem nodeOk_keep {q q' : aQ} {n k : Nat} (h : nodeOk q k) (hk : k < n) (hf : ∀ c j, j < n → ¬ c = 1 → ¬ c = 650 → q'.1 c j = q.1 c j) : nodeOk q' k := by
  have e : ∀ c j, j < n → ¬ c = 1 → ¬ c = 650 → q'.1 c j = q.1 c j := hf
  rcases h with h | ⟨o, a, b, w, ho, wa, wb, h1, h2, h3, h4⟩
  · refine Or.inl ?_
    rw [e 2 k hk (by decide) (by decide), e 3 k hk (by decide) (by decide), e 4 k hk (by decide) (by decide), e 7 k hk (by decide) (by decide), e 651 k hk (by decide) (by decide), e 652 k hk (by decide) (by decide), e 654 k hk (by decide) (by decide)]
    exact h
  · have ha : a < k := ho.2.1
    refine Or.inr ⟨o, a, b, w, ?_, wa, wb, ?_, h2, ?_, h4⟩
    · unfold opOk at ho ⊢
      rw [e 2 k hk (by decide) (by decide), e 5 k hk (by decide) (by decide), e 6 k hk (by decide) (by decide), e 7 k hk (by decide) (by decide), e 651 k hk (by decide) (by decide), e 652 k hk (by decide) (by decide), e 653 k hk (by decide) (by decide), e 654 k hk (by decide) (by decide)]
      exact ho
    · rw [e 7 a (by omega) (by decide) (by decide)]; exact h1
    · intro h5
      have hb : b < k := (ho.2.2.2.2.2.2.1 h5).1
      rw [e 7 b (by omega) (by decide) (by decide)]; exact h3 h5
theorem leaf_fr {q : aQ} {n : Nat} {a b : Int32} : frE n q (leafM (leafC q n a b) n a b) := by
  refine ⟨rfl, fun c j h1 h2 h3 => ?_, fun c j h1 h2 h3 => ?_⟩
  · unfold leafM leafC
    rw [w_get, if_neg h3, w_ne (by omega), w_ne (by omega), w_ne (by omega), w_ne (by omega), w_ne (by omega), w_ne (by omega), w_ne (by omega), w_ne (by omega)]
  · unfold leafM leafC
    rw [w_ne h3]
    have hj : j ≠ n := by omega
    rw [w_get, if_neg (fun z => hj z.2), w_get, if_neg (fun z => hj z.2), w_get, if_neg (fun z => hj z.2), w_ne h2, w_get, if_neg (fun z => hj z.2), w_get, if_neg (fun z => hj z.2), w_get, if_neg (fun z => hj z.2), w_get, if_neg (fun z => hj z.2)]
theorem leaf_iE {q : aQ} {n : Nat} {a b : Int32} (hE : iE q n) (hn : n < 60) (h : lv a b) : iE (leafM (leafC q n a b) n a b) (n + 1) := by
  refine ⟨by omega, ?_, ?_, fun k hk => ?_⟩
  · simp [leafM, leafC, w_get]
  · simp [leafM, leafC, w_get]
  · by_cases e : k = n
    · subst e
      refine Or.inl ?_
      simp [leafM, leafC, w_get, lv_ok h]
    · exact nodeOk_keep (n := n) (hE.2.2.2 k (by omega)) (by omega) leaf_fr.2.2
theorem leaf_step {l : Launch} {X : aX} {q : aQ} {n : Nat} (hE : iE q n) (a b : Int32) : ∃ q', a_pair l X 2 133 [.int a, .int b] q q' ∧ frE n q q' ∧ ∃ n', n ≤ n' ∧ iE q' n' := by
  by_cases h : n < 60 ∧ lv a b
  · obtain ⟨f1, s1⟩ := F2_yes hE.2.1 h.1 h.2
    have hm : (leafC q n a b).1 650 0 = nI n := by
      rw [← hE.2.2.1]
      simp [leafC, w_get]
    obtain ⟨f2, s2⟩ := F133_yes hm h.1 h.2
    refine ⟨leafM (leafC q n a b) n a b, ⟨nI n, leafC q n a b, ?_, ?_⟩, leaf_fr, n + 1, by omega, leaf_iE hE h.1 h.2⟩
    · have := T2 (l := l) (X := X) (d := 60) (by decide) s1
      rw [f1] at this
      exact this
    · have := T133 (l := l) (X := X) (d := 60) (by decide) s2
      rw [f2] at this
      exact this
  · have h' : n = 60 ∨ ¬ lv a b := by
      by_cases hl : lv a b
      · have := hE.1
        exact Or.inl (by by_cases hn : n < 60; exact absurd ⟨hn, hl⟩ h; omega)
      · exact Or.inr hl
    obtain ⟨f1, s1⟩ := F2_no hE.2.1 hE.1 h'
    obtain ⟨f2, s2⟩ := F133_no hE.2.2.1 h'
    refine ⟨q, ⟨-1, q, ?_, ?_⟩, frE.rf, n, Nat.le_refl _, hE⟩
    · have := T2 (l := l) (X := X) (d := 60) (by decide) s1
      rw [f1] at this
      exact this
    · have := T133 (l := l) (X := X) (d := 60) (by decide) s2
      rw [f2] at this
      exact this
