/-! one step of the law -/
/-- all that is kept from step to step -/
def iAll (q : aQ) : Prop := ∃ (nE fd n m : Nat) (o p : Nat → Nat), iE q nE ∧ iN q fd ∧ iP q nE n m o p ∧ iR q ∧ iL q n m
def nxt (l : Launch) (X : aX) (jc jm : Nat) (args : List Value) (q : aQ) : Prop := ∃ q', a_pair l X jc jm args q q' ∧ iAll q'
section
variable {l : Launch} {X : aX} {q Q : aQ} {nE fd n m : Nat} {o p : Nat → Nat} {jc jm : Nat} {args : List Value}
theorem nxt_P (hE : iE q nE) (hN : iN q fd) (h : iP q nE n m o p) (hR : iR q) (hL : iL q n m) (z : stp l X jc jm args q nE n m) : nxt l X jc jm args q := by
  obtain ⟨q', z1, ⟨f1, f2⟩, n', m', o', p', z3, z4⟩ := z
  refine ⟨q', z1, nE, fd, n', m', o', p', ?_, ?_, z3, ?_, ?_⟩
  · exact iE_fr (fun c j y => f2 c j (by omega) (by omega) (by omega)) hE
  · exact iN_fr (fun c j y => f2 c j (by omega) (by omega) (by omega)) hN
  · exact iR_fr (fun c j y => f2 c j (by omega) (by omega) (by omega)) (fun c j _ => by rw [f1]) hR
  · rcases z4 with rfl | z4
    · have e1 : n' = n := nI_inj (by have := z3.1; omega) (by have := h.1; omega) (z3.2.2.1.symm.trans h.2.2.1)
      have e2 : m' = m := nI_inj (by have := z3.2.1; omega) (by have := h.2.1; omega) (z3.2.2.2.2.1.symm.trans h.2.2.2.2.1)
      rw [e1, e2]; exact hL
    · exact hL.grow z3.1 z4 (fun c j y => f2 c j (by omega) (by omega) (by omega))
theorem nxt_E (hE : iE q nE) (hN : iN q fd) (h : iP q nE n m o p) (hR : iR q) (hL : iL q n m) (z : ∃ q', a_pair l X jc jm args q q' ∧ frE nE q q' ∧ ∃ n', nE ≤ n' ∧ iE q' n') : nxt l X jc jm args q := by
  obtain ⟨q', z1, ⟨f1, f2, f3⟩, nE', z3, z4⟩ := z
  have r : ∀ c j, 8 ≤ c → ¬ (651 ≤ c ∧ c ≤ 654) → ¬ (c = 650 ∧ j = 0) → q'.1 c j = q.1 c j := fun c j a b d => f2 c j (by omega) b d
  refine ⟨q', z1, nE', fd, n, m, o, p, z4, ?_, ?_, ?_, ?_⟩
  · exact iN_fr (fun c j y => r c j (by omega) (by omega) (by omega)) hN
  · exact iP_up z3 (iP_fr (fun c j y => r c j (by omega) (by omega) (by omega)) h)
  · exact iR_fr (fun c j y => r c j (by omega) (by omega) (by omega)) (fun c j _ => by rw [f1]) hR
  · exact hL.fr (same_of hE h (fun c j a b => f3 c j b (by omega) (by omega)) (fun c j a b => r c j (by omega) (by omega) (by omega))) (fun c j y => r c j (by omega) (by omega) (by omega))
theorem nxt_N (hE : iE q nE) (h : iP q nE n m o p) (hR : iR q) (hL : iL q n m) (z : ∃ q', a_pair l X jc jm args q q' ∧ frN q q' ∧ ∃ f', iN q' f') : nxt l X jc jm args q := by
  obtain ⟨q', z1, ⟨f1, f2⟩, fd', z3⟩ := z
  refine ⟨q', z1, nE, fd', n, m, o, p, ?_, z3, ?_, ?_, ?_⟩
  · exact iE_fr (fun c j y => f2 c j (by omega) (by omega) (by omega) (by omega)) hE
  · exact iP_fr (fun c j y => f2 c j (by omega) (by omega) (by omega) (by omega)) h
  · exact iR_fr (fun c j y => f2 c j (by omega) (by omega) (by omega) (by omega)) (fun c j _ => by rw [f1]) hR
  · exact hL.fr (same_of hE h (fun c j a b => f2 c j (by omega) (by omega) (by omega) (by omega)) (fun c j a b => f2 c j (by omega) (by omega) (by omega) (by omega))) (fun c j y => f2 c j (by omega) (by omega) (by omega) (by omega))
theorem nxt_R (hE : iE q nE) (hN : iN q fd) (h : iP q nE n m o p) (hL : iL q n m) (z : ∃ q', a_pair l X jc jm args q q' ∧ frR q q' ∧ iR q') : nxt l X jc jm args q := by
  obtain ⟨q', z1, f, z3⟩ := z
  refine ⟨q', z1, nE, fd, n, m, o, p, ?_, ?_, ?_, z3, ?_⟩
  · exact iE_fr (fun c j y => f c j (by omega) (by omega) (by omega)) hE
  · exact iN_fr (fun c j y => f c j (by omega) (by omega) (by omega)) hN
  · exact iP_fr (fun c j y => f c j (by omega) (by omega) (by omega)) h
  · exact hL.fr (same_of hE h (fun c j a b => f c j (by omega) (by omega) (by omega)) (fun c j a b => f c j (by omega) (by omega) (by omega))) (fun c j y => f c j (by omega) (by omega) (by omega))
theorem nxt_L (hE : iE q nE) (hN : iN q fd) (h : iP q nE n m o p) (hR : iR q) (z : ∃ q', a_pair l X jc jm args q q' ∧ frY q q' ∧ iL q' n m) : nxt l X jc jm args q := by
  obtain ⟨q', z1, ⟨f1, f2, f3⟩, z3⟩ := z
  refine ⟨q', z1, nE, fd, n, m, o, p, ?_, ?_, ?_, ?_, z3⟩
  · exact iE_fr (fun c j y => by
      by_cases e : c = 650
      · subst e; exact f2 j (by omega)
      · exact f1 c j (by omega)) hE
  · exact iN_fr (fun c j y => by
      by_cases e : c = 650
      · subst e; exact f2 j (by omega)
      · exact f1 c j (by omega)) hN
  · exact iP_fr (fun c j y => by
      by_cases e : c = 650
      · subst e; exact f2 j (by omega)
      · exact f1 c j (by omega)) h
  · exact iR_fr (fun c j y => by
      by_cases e : c = 650
      · subst e; exact f2 j (by omega)
      · exact f1 c j (by omega)) (fun c j y => f3 c j (by omega)) hR
theorem law_step (k : Nat) (hA : iAll q) : ∃ q', a_step l X k q q' ∧ iAll q' := by
  have hA' := hA
  obtain ⟨nE, fd, n, m, o, p, hE, hN, h, hR, hL⟩ := hA
  obtain ⟨⟨σ, A, R, hV, -⟩, -⟩ := id hL
  unfold a_step
  by_cases h0 : X.2 k &&& 31 = 0
  · obtain ⟨q', z1, z2⟩ : nxt l X 2 133 [.int (X.2 (k + 1)), .int (X.2 (k + 2))] q := nxt_E hE hN h hR hL (leaf_step hE (X.2 (k + 1)) (X.2 (k + 2)))
    refine ⟨q', ⟨fun z => ?_, fun z => ?_, fun z => ?_, fun z => ?_, fun z => ?_, fun z => ?_, fun z => ?_, fun z => ?_, fun z => ?_, fun z => ?_, fun z => ?_, fun z => ?_, fun z => ?_, fun z => ?_, fun z => ?_, fun z => ?_, fun z => ?_, fun z => ?_, fun z => ?_, ?_⟩, z2⟩ <;> first | exact absurd (h0.symm.trans z) (by decide) | exact z1 | (intros; contradiction)
  by_cases h1 : X.2 k &&& 31 = 1
  · obtain ⟨q', z1, z2⟩ : nxt l X 3 135 [.int (X.2 (k + 1)), .int (X.2 (k + 2)), .int (X.2 (k + 3))] q := nxt_E hE hN h hR hL (apply_step hE (X.2 (k + 1)) (X.2 (k + 2)) (X.2 (k + 3)))
    refine ⟨q', ⟨fun z => ?_, fun z => ?_, fun z => ?_, fun z => ?_, fun z => ?_, fun z => ?_, fun z => ?_, fun z => ?_, fun z => ?_, fun z => ?_, fun z => ?_, fun z => ?_, fun z => ?_, fun z => ?_, fun z => ?_, fun z => ?_, fun z => ?_, fun z => ?_, fun z => ?_, ?_⟩, z2⟩ <;> first | exact absurd (h1.symm.trans z) (by decide) | exact z1 | (intros; contradiction)
  by_cases h2 : X.2 k &&& 31 = 2
  · obtain ⟨q', z1, z2⟩ : nxt l X 4 137 [.int (X.2 (k + 1)), .int (X.2 (k + 2))] q := nxt_P hE hN h hR hL (assign_step hE h (X.2 (k + 1)) (X.2 (k + 2)))
    refine ⟨q', ⟨fun z => ?_, fun z => ?_, fun z => ?_, fun z => ?_, fun z => ?_, fun z => ?_, fun z => ?_, fun z => ?_, fun z => ?_, fun z => ?_, fun z => ?_, fun z => ?_, fun z => ?_, fun z => ?_, fun z => ?_, fun z => ?_, fun z => ?_, fun z => ?_, fun z => ?_, ?_⟩, z2⟩ <;> first | exact absurd (h2.symm.trans z) (by decide) | exact z1 | (intros; contradiction)
  by_cases h3 : X.2 k &&& 31 = 3
  · obtain ⟨q', z1, z2⟩ : nxt l X 5 138 [.int (X.2 (k + 1))] q := nxt_P hE hN h hR hL (raise_step h (X.2 (k + 1)))
    refine ⟨q', ⟨fun z => ?_, fun z => ?_, fun z => ?_, fun z => ?_, fun z => ?_, fun z => ?_, fun z => ?_, fun z => ?_, fun z => ?_, fun z => ?_, fun z => ?_, fun z => ?_, fun z => ?_, fun z => ?_, fun z => ?_, fun z => ?_, fun z => ?_, fun z => ?_, fun z => ?_, ?_⟩, z2⟩ <;> first | exact absurd (h3.symm.trans z) (by decide) | exact z1 | (intros; contradiction)
  by_cases h4 : X.2 k &&& 31 = 4
  · obtain ⟨q', z1, z2⟩ : nxt l X 6 139 [.int (a_bl (X.2 (k + 1)))] q := nxt_P hE hN h hR hL (leave_step h (a_bl (X.2 (k + 1))))
    refine ⟨q', ⟨fun z => ?_, fun z => ?_, fun z => ?_, fun z => ?_, fun z => ?_, fun z => ?_, fun z => ?_, fun z => ?_, fun z => ?_, fun z => ?_, fun z => ?_, fun z => ?_, fun z => ?_, fun z => ?_, fun z => ?_, fun z => ?_, fun z => ?_, fun z => ?_, fun z => ?_, ?_⟩, z2⟩ <;> first | exact absurd (h4.symm.trans z) (by decide) | exact z1 | (intros; contradiction)
  by_cases h5 : X.2 k &&& 31 = 5
  · obtain ⟨q', z1, z2⟩ : nxt l X 7 140 [.int (X.2 (k + 1))] q := nxt_P hE hN h hR hL ((bl_step hE h (X.2 (k + 1))).1)
    refine ⟨q', ⟨fun z => ?_, fun z => ?_, fun z => ?_, fun z => ?_, fun z => ?_, fun z => ?_, fun z => ?_, fun z => ?_, fun z => ?_, fun z => ?_, fun z => ?_, fun z => ?_, fun z => ?_, fun z => ?_, fun z => ?_, fun z => ?_, fun z => ?_, fun z => ?_, fun z => ?_, ?_⟩, z2⟩ <;> first | exact absurd (h5.symm.trans z) (by decide) | exact z1 | (intros; contradiction)
  by_cases h6 : X.2 k &&& 31 = 6
  · obtain ⟨q', z1, z2⟩ : nxt l X 8 141 [.int (X.2 (k + 1))] q := nxt_P hE hN h hR hL ((bl_step hE h (X.2 (k + 1))).2)
    refine ⟨q', ⟨fun z => ?_, fun z => ?_, fun z => ?_, fun z => ?_, fun z => ?_, fun z => ?_, fun z => ?_, fun z => ?_, fun z => ?_, fun z => ?_, fun z => ?_, fun z => ?_, fun z => ?_, fun z => ?_, fun z => ?_, fun z => ?_, fun z => ?_, fun z => ?_, fun z => ?_, ?_⟩, z2⟩ <;> first | exact absurd (h6.symm.trans z) (by decide) | exact z1 | (intros; contradiction)
  by_cases h7 : X.2 k &&& 31 = 7
  · obtain ⟨q', z1, z2⟩ : nxt l X 9 142 [.int (X.2 (k + 1))] q := nxt_P hE hN h hR hL (attempt_step h (X.2 (k + 1)))
    refine ⟨q', ⟨fun z => ?_, fun z => ?_, fun z => ?_, fun z => ?_, fun z => ?_, fun z => ?_, fun z => ?_, fun z => ?_, fun z => ?_, fun z => ?_, fun z => ?_, fun z => ?_, fun z => ?_, fun z => ?_, fun z => ?_, fun z => ?_, fun z => ?_, fun z => ?_, fun z => ?_, ?_⟩, z2⟩ <;> first | exact absurd (h7.symm.trans z) (by decide) | exact z1 | (intros; contradiction)
  by_cases h8 : X.2 k &&& 31 = 8
  · obtain ⟨q', z1, z2⟩ : nxt l X 10 143 [] q := nxt_P hE hN h hR hL (otherwise_step h)
    refine ⟨q', ⟨fun z => ?_, fun z => ?_, fun z => ?_, fun z => ?_, fun z => ?_, fun z => ?_, fun z => ?_, fun z => ?_, fun z => ?_, fun z => ?_, fun z => ?_, fun z => ?_, fun z => ?_, fun z => ?_, fun z => ?_, fun z => ?_, fun z => ?_, fun z => ?_, fun z => ?_, ?_⟩, z2⟩ <;> first | exact absurd (h8.symm.trans z) (by decide) | exact z1 | (intros; contradiction)
  by_cases h9 : X.2 k &&& 31 = 9
  · obtain ⟨q', z1, z2⟩ : nxt l X 11 144 [] q := nxt_P hE hN h hR hL (end_step h)
    refine ⟨q', ⟨fun z => ?_, fun z => ?_, fun z => ?_, fun z => ?_, fun z => ?_, fun z => ?_, fun z => ?_, fun z => ?_, fun z => ?_, fun z => ?_, fun z => ?_, fun z => ?_, fun z => ?_, fun z => ?_, fun z => ?_, fun z => ?_, fun z => ?_, fun z => ?_, fun z => ?_, ?_⟩, z2⟩ <;> first | exact absurd (h9.symm.trans z) (by decide) | exact z1 | (intros; contradiction)
  by_cases h10 : X.2 k &&& 31 = 10
  · obtain ⟨q', z1, z2⟩ : nxt l X 12 145 [.int (X.2 (k + 1))] q := nxt_N hE h hR hL (feed_step hN (X.2 (k + 1)))
    refine ⟨q', ⟨fun z => ?_, fun z => ?_, fun z => ?_, fun z => ?_, fun z => ?_, fun z => ?_, fun z => ?_, fun z => ?_, fun z => ?_, fun z => ?_, fun z => ?_, fun z => ?_, fun z => ?_, fun z => ?_, fun z => ?_, fun z => ?_, fun z => ?_, fun z => ?_, fun z => ?_, ?_⟩, z2⟩ <;> first | exact absurd (h10.symm.trans z) (by decide) | exact z1 | (intros; contradiction)
  by_cases h11 : X.2 k &&& 31 = 11
  · obtain ⟨q', z1, z2⟩ : nxt l X 13 175 [] q := nxt_L hE hN h hR (look_step hE h hL)
    refine ⟨q', ⟨fun z => ?_, fun z => ?_, fun z => ?_, fun z => ?_, fun z => ?_, fun z => ?_, fun z => ?_, fun z => ?_, fun z => ?_, fun z => ?_, fun z => ?_, fun z => ?_, fun z => ?_, fun z => ?_, fun z => ?_, fun z => ?_, fun z => ?_, fun z => ?_, fun z => ?_, ?_⟩, z2⟩ <;> first | exact absurd (h11.symm.trans z) (by decide) | exact z1 | (intros; contradiction)
  by_cases h12 : X.2 k &&& 31 = 12
  · obtain ⟨q', z1, z2⟩ : nxt l X 14 176 [.int (X.2 (k + 1)), .int (X.2 (k + 2))] q := ⟨q, alarm_step h hV (X.2 (k + 1)) (X.2 (k + 2)), hA'⟩
    refine ⟨q', ⟨fun z => ?_, fun z => ?_, fun z => ?_, fun z => ?_, fun z => ?_, fun z => ?_, fun z => ?_, fun z => ?_, fun z => ?_, fun z => ?_, fun z => ?_, fun z => ?_, fun z => ?_, fun z => ?_, fun z => ?_, fun z => ?_, fun z => ?_, fun z => ?_, fun z => ?_, ?_⟩, z2⟩ <;> first | exact absurd (h12.symm.trans z) (by decide) | exact z1 | (intros; contradiction)
  by_cases h13 : X.2 k &&& 31 = 13
  · obtain ⟨q', z1, z2⟩ : nxt l X 15 177 [.int (X.2 (k + 1)), .int (X.2 (k + 2))] q := ⟨q, seen_step h hV (X.2 (k + 1)) (X.2 (k + 2)), hA'⟩
    refine ⟨q', ⟨fun z => ?_, fun z => ?_, fun z => ?_, fun z => ?_, fun z => ?_, fun z => ?_, fun z => ?_, fun z => ?_, fun z => ?_, fun z => ?_, fun z => ?_, fun z => ?_, fun z => ?_, fun z => ?_, fun z => ?_, fun z => ?_, fun z => ?_, fun z => ?_, fun z => ?_, ?_⟩, z2⟩ <;> first | exact absurd (h13.symm.trans z) (by decide) | exact z1 | (intros; contradiction)
  by_cases h14 : X.2 k &&& 31 = 14
  · obtain ⟨q', z1, z2⟩ : nxt l X 16 178 [.int (X.2 (k + 1)), .int (X.2 (k + 2)), .int (X.2 (k + 3))] q := ⟨q, bound_step h hV (X.2 (k + 1)) (X.2 (k + 2)) (X.2 (k + 3)), hA'⟩
    refine ⟨q', ⟨fun z => ?_, fun z => ?_, fun z => ?_, fun z => ?_, fun z => ?_, fun z => ?_, fun z => ?_, fun z => ?_, fun z => ?_, fun z => ?_, fun z => ?_, fun z => ?_, fun z => ?_, fun z => ?_, fun z => ?_, fun z => ?_, fun z => ?_, fun z => ?_, fun z => ?_, ?_⟩, z2⟩ <;> first | exact absurd (h14.symm.trans z) (by decide) | exact z1 | (intros; contradiction)
  by_cases h15 : X.2 k &&& 31 = 15
  · obtain ⟨q', z1, z2⟩ : nxt l X 17 183 [.int (X.2 (k + 1))] q := nxt_R hE hN h hL (run_step hE hN h hR (X.2 (k + 1)))
    refine ⟨q', ⟨fun z => ?_, fun z => ?_, fun z => ?_, fun z => ?_, fun z => ?_, fun z => ?_, fun z => ?_, fun z => ?_, fun z => ?_, fun z => ?_, fun z => ?_, fun z => ?_, fun z => ?_, fun z => ?_, fun z => ?_, fun z => ?_, fun z => ?_, fun z => ?_, fun z => ?_, ?_⟩, z2⟩ <;> first | exact absurd (h15.symm.trans z) (by decide) | exact z1 | (intros; contradiction)
  by_cases h16 : X.2 k &&& 31 = 16
  · obtain ⟨q', z1, z2⟩ : nxt l X 18 184 [] q := ⟨q, place_step hR, hA'⟩
    refine ⟨q', ⟨fun z => ?_, fun z => ?_, fun z => ?_, fun z => ?_, fun z => ?_, fun z => ?_, fun z => ?_, fun z => ?_, fun z => ?_, fun z => ?_, fun z => ?_, fun z => ?_, fun z => ?_, fun z => ?_, fun z => ?_, fun z => ?_, fun z => ?_, fun z => ?_, fun z => ?_, ?_⟩, z2⟩ <;> first | exact absurd (h16.symm.trans z) (by decide) | exact z1 | (intros; contradiction)
  by_cases h17 : X.2 k &&& 31 = 17
  · obtain ⟨q', z1, z2⟩ : nxt l X 19 185 [.int (X.2 (k + 1))] q := ⟨q, type_step hR (X.2 (k + 1)), hA'⟩
    refine ⟨q', ⟨fun z => ?_, fun z => ?_, fun z => ?_, fun z => ?_, fun z => ?_, fun z => ?_, fun z => ?_, fun z => ?_, fun z => ?_, fun z => ?_, fun z => ?_, fun z => ?_, fun z => ?_, fun z => ?_, fun z => ?_, fun z => ?_, fun z => ?_, fun z => ?_, fun z => ?_, ?_⟩, z2⟩ <;> first | exact absurd (h17.symm.trans z) (by decide) | exact z1 | (intros; contradiction)
  by_cases h18 : X.2 k &&& 31 = 18
  · obtain ⟨q', z1, z2⟩ : nxt l X 20 186 [.int (X.2 (k + 1))] q := ⟨q, number_step hR (X.2 (k + 1)), hA'⟩
    refine ⟨q', ⟨fun z => ?_, fun z => ?_, fun z => ?_, fun z => ?_, fun z => ?_, fun z => ?_, fun z => ?_, fun z => ?_, fun z => ?_, fun z => ?_, fun z => ?_, fun z => ?_, fun z => ?_, fun z => ?_, fun z => ?_, fun z => ?_, fun z => ?_, fun z => ?_, fun z => ?_, ?_⟩, z2⟩ <;> first | exact absurd (h18.symm.trans z) (by decide) | exact z1 | (intros; contradiction)
  · refine ⟨q, ⟨fun z => ?_, fun z => ?_, fun z => ?_, fun z => ?_, fun z => ?_, fun z => ?_, fun z => ?_, fun z => ?_, fun z => ?_, fun z => ?_, fun z => ?_, fun z => ?_, fun z => ?_, fun z => ?_, fun z => ?_, fun z => ?_, fun z => ?_, fun z => ?_, fun z => ?_, ?_⟩, hA'⟩ <;> first | contradiction | (intros; rfl)
end
