/-! feed -/
def iN (q : aQ) (f : Nat) : Prop := f ≤ 8 ∧ q.1 647 3 = nI f ∧ q.1 650 16 = nI f ∧ ∀ k, k < f → q.1 648 k = q.1 664 k ∧ ¬ q.1 648 k < -1000000000 ∧ ¬ 1000000000 < q.1 648 k
def feedC (q : aQ) (f : Nat) (x : Int32) : aQ := a_w (a_w q 647 3 (nI (f + 1))) 648 f x
def feedM (q : aQ) (f : Nat) (x : Int32) : aQ := a_w (a_w q 664 f x) 650 16 (nI (f + 1))
/-- all but the inputs is left alone -/
def frN (q q' : aQ) : Prop := q'.2 = q.2 ∧ ∀ c j, ¬ (c = 647 ∧ j = 3) → ¬ c = 648 → ¬ c = 664 → ¬ (c = 650 ∧ j = 16) → q'.1 c j = q.1 c j
theorem frN.rf {q : aQ} : frN q q := ⟨rfl, fun _ _ _ _ _ _ => rfl⟩
theorem feed_yes {q : aQ} {f : Nat} {x : Int32} (h : q.1 647 3 = nI f) (hf : f < 8) (h1 : ¬ x < -1000000000) (h2 : x ≤ 1000000000) : F12_0 x q = (1, feedC q f x) ∧ S12_0 x q := by
  have e1 : ¬ (8 : Int32) ≤ nI f := nI_ge hf (by decide)
  have c : (nI f).toNatClampNeg = f := nI_clamp (by omega)
  have v : vp_in (nI f) 8 := vp_in_nI hf (by decide)
  have F : F111_0 x q = (1, feedC q f x) := by
    unfold F111_0
    rw [h, if_neg e1, if_neg h1, if_pos h2, nI_1, c]
    rfl
  refine ⟨?_, ?_⟩
  · unfold F12_0; rw [F]
  · unfold S12_0 S111_0
    rw [F, h]
    simp [e1, h1, h2, v]
theorem feed_no {q : aQ} {f : Nat} {x : Int32} (h : q.1 647 3 = nI f) (hf : f ≤ 8) (h1 : f = 8 ∨ x < -1000000000 ∨ ¬ x ≤ 1000000000) : F12_0 x q = (0, q) ∧ S12_0 x q := by
  have F : F111_0 x q = (0, q) ∧ S111_0 x q := by
    unfold F111_0 S111_0
    rw [h]
    by_cases hf8 : f = 8
    · subst hf8
      have : (8 : Int32) ≤ nI 8 := by decide
      simp [this]
    · have e1 : ¬ (8 : Int32) ≤ nI f := nI_ge (b := 8) (by omega) (by decide)
      have hx := h1.resolve_left hf8
      by_cases hx1 : x < -1000000000
      · simp [e1, hx1]
      · have hx2 := hx.resolve_left hx1
        simp [e1, hx1, hx2]
  refine ⟨?_, ?_⟩
  · unfold F12_0; rw [F.1]
  · unfold S12_0
    rw [F.1]
    exact ⟨F.2, Or.inl rfl, trivial⟩
theorem feedm_yes {q : aQ} {f : Nat} {x : Int32} (h : q.1 650 16 = nI f) (hf : f < 8) (h1 : ¬ x < -1000000000) (h2 : x ≤ 1000000000) : F145_0 x q = (1, feedM q f x) ∧ S145_0 x q := by
  have e1 : ¬ nI f = (8 : Int32) := fun z => by have := nI_inj (b := 8) (by omega) (by decide) z; omega
  have c : (nI f).toNatClampNeg = f := nI_clamp (by omega)
  have v : vp_in (nI f) 8 := vp_in_nI hf (by decide)
  unfold F145_0 S145_0
  rw [h, if_neg e1, if_neg h1, if_pos h2, nI_1, c]
  refine ⟨rfl, ?_⟩
  simp [e1, h1, h2, v]
theorem feedm_no {q : aQ} {f : Nat} {x : Int32} (h : q.1 650 16 = nI f) (hf : f ≤ 8) (h1 : f = 8 ∨ x < -1000000000 ∨ ¬ x ≤ 1000000000) : F145_0 x q = (0, q) ∧ S145_0 x q := by
  unfold F145_0 S145_0
  rw [h]
  by_cases hf8 : f = 8
  · subst hf8
    have : nI 8 = (8 : Int32) := by decide
    simp [this]
  · have e1 : ¬ nI f = (8 : Int32) := fun z => by have := nI_inj (b := 8) (by omega) (by decide) z; omega
    have hx := h1.resolve_left hf8
    by_cases hx1 : x < -1000000000
    · simp [e1, hx1]
    · have hx2 := hx.resolve_left hx1
      simp [e1, hx1, hx2]
theorem feed_fr {q : aQ} {f : Nat} {x : Int32} : frN q (feedM (feedC q f x) f x) := by
  refine ⟨rfl, fun c j h1 h2 h3 h4 => ?_⟩
  unfold feedM feedC
  rw [w_get, if_neg h4, w_ne h3, w_ne h2, w_get, if_neg h1]
theorem feed_step {l : Launch} {X : aX} {q : aQ} {f : Nat} (hN : iN q f) (x : Int32) : ∃ q', a_pair l X 12 145 [.int x] q q' ∧ frN q q' ∧ ∃ f', iN q' f' := by
  by_cases h : f < 8 ∧ ¬ x < -1000000000 ∧ x ≤ 1000000000
  · obtain ⟨f1, s1⟩ := feed_yes hN.2.1 h.1 h.2.1 h.2.2
    have hm : (feedC q f x).1 650 16 = nI f := by rw [← hN.2.2.1]; simp [feedC, w_get]
    obtain ⟨f2, s2⟩ := feedm_yes hm h.1 h.2.1 h.2.2
    refine ⟨feedM (feedC q f x) f x, ⟨1, feedC q f x, ?_, ?_⟩, feed_fr, f + 1, by omega, ?_, ?_, fun k hk => ?_⟩
    · have := T12 (l := l) (X := X) (d := 60) (by decide) s1
      rw [f1] at this
      exact this
    · have := T145 (l := l) (X := X) (d := 60) (by decide) s2
      rw [f2] at this
      exact this
    · simp [feedM, feedC, w_get]
    · simp [feedM, feedC, w_get]
    · have hx : ¬ 1000000000 < x := fun z => by
        rw [Int32.lt_iff_toInt_lt] at z
        have := (Int32.le_iff_toInt_le).mp h.2.2
        omega
      by_cases e : k = f
      · subst e
        simp [feedM, feedC, w_get, h.2.1, hx]
      · have hh := hN.2.2.2 k (by omega)
        simp only [feedM, feedC, w_get]
        simp [e]
        simpa using hh
  · have h' : f = 8 ∨ x < -1000000000 ∨ ¬ x ≤ 1000000000 := by
      have := hN.1
      by_cases a1 : f = 8
      · exact Or.inl a1
      · by_cases a2 : x < -1000000000
        · exact Or.inr (Or.inl a2)
        · exact Or.inr (Or.inr (fun a3 => h ⟨by omega, a2, a3⟩))
    obtain ⟨f1, s1⟩ := feed_no hN.2.1 hN.1 h'
    obtain ⟨f2, s2⟩ := feedm_no hN.2.2.1 hN.1 h'
    refine ⟨q, ⟨0, q, ?_, ?_⟩, frN.rf, f, hN⟩
    · have := T12 (l := l) (X := X) (d := 60) (by decide) s1
      rw [f1] at this
      exact this
    · have := T145 (l := l) (X := X) (d := 60) (by decide) s2
      rw [f2] at this
      exact this
