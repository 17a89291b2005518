/-! the start, and the law -/
theorem q0_E : iE q0 0 := ⟨by decide, by decide +kernel, by decide +kernel, fun k hk => by omega⟩
theorem q0_N : iN q0 0 := ⟨by decide, by decide +kernel, by decide +kernel, fun k hk => by omega⟩
theorem q0_661 : ∀ b, b < 49 → q0.1 661 b = -1 ∧ q0.1 662 b = -1 := by decide +kernel
theorem q0_P : iP q0 0 0 0 (fun _ => 0) (fun _ => 0) := by
  refine ⟨by decide, by decide, by decide +kernel, by decide +kernel, by decide +kernel, by decide +kernel, fun s hs => by omega, fun s hs => by omega, by decide +kernel, fun b hb => Or.inl (q0_661 b hb).2, fun b _ hb => q0_661 b (by omega), fun _ => ⟨(q0_661 48 (by decide)).2, (q0_661 48 (by decide)).1⟩, fun z => by omega⟩
theorem q0_v : ∀ v, v < 5 → q0.2 649 v = pk (va0 v).1 (va0 v).2 ∧ q0.1 680 v = nI (va0 v).1 ∧ q0.2 681 v = lI (va0 v).2 := by decide +kernel
theorem q0_R : iR q0 := ⟨va0, fun v _ => Or.inr rfl, fun v hv => (q0_v v hv).1, fun v hv => (q0_v v hv).2, by decide +kernel⟩
theorem q0_st : ∀ p, p < 25 → ∀ v, v < 5 → (q0.1 (222 + 17 * p + 2 + 3 * v + 1) 0 = iI 1001 ∧ q0.1 (222 + 17 * p + 2 + 3 * v + 1) 1 = iI (-1001)) ∧ (q0.1 (222 + 17 * p + 2 + 3 * v + 2) 0 = iI 1001 ∧ q0.1 (222 + 17 * p + 2 + 3 * v + 2) 1 = iI (-1001)) ∧ q0.1 (222 + 17 * p + 2 + 3 * v) 2 = 0 ∧ q0.1 (222 + 17 * p + 2 + 3 * v) 3 = 0 := by decide +kernel
theorem q0_39 : ∀ i, i < 120 → q0.1 39 i = 0 ∧ q0.1 668 i = 0 := by decide +kernel
theorem q0_665 : ∀ i, i < 25 → q0.1 665 i = 0 := by decide +kernel
theorem q0_197 : q0.1 19 7 = -1 := by decide +kernel
theorem q0_L : iL q0 0 0 := by
  refine ⟨⟨σ00, noA, noA, ⟨fun p hp v hv => ⟨q0_st p hp v hv, Or.inl rfl, Or.inl rfl⟩, fun i hi => (q0_39 i hi).1, fun p hp => q0_665 p hp, fun p _ z => (by cases z), fun _ _ _ _ _ => rfl, fun i hi => (q0_39 i hi).2⟩, fun z => ?_⟩, Or.inl q0_197⟩
  rw [q0_197] at z
  exact absurd z (by decide)
theorem the_law (l : Launch) : a_law l 2048 := law_of (Nat.le_refl 2048) (fun _ _ q => iAll q) (fun _ _ => ⟨0, 0, 0, 0, fun _ => 0, fun _ => 0, q0_E, q0_N, q0_P, q0_R, q0_L⟩) (fun _ k _ _ hA _ => law_step k hA)
