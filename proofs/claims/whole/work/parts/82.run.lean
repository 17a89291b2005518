/-! run, place, type, number: the calls -/
section
variable {l : Launch} {X : aX} {q : aQ} {nE n m fd : Nat} {o p : Nat → Nat} {va : Nat → Nat × Int}
theorem fill_c (x : Int64) : ∀ k j Q F, j + k = 5 → k < F → ∃ Q', a_sf (fun (s : Int32 × aQ) => F192_6 x 5 s.1 s.2) (fun (s : Int32 × aQ) => S192_6 x 5 s.1 s.2) F (nI j, Q) ∧ a_it (fun (s : Int32 × aQ) => F192_6 x 5 s.1 s.2) F (nI j, Q) = some Q' ∧ Q'.1 = Q.1 ∧ (∀ v, j ≤ v → v < 5 → Q'.2 649 v = x) ∧ (∀ c i, ¬ (c = 649 ∧ j ≤ i) → Q'.2 c i = Q.2 c i) := by
  intro k
  induction k with
  | zero =>
    intro j Q F hj hF
    obtain ⟨F, rfl⟩ : ∃ k, F = k + 1 := ⟨F - 1, by omega⟩
    have e5 : j = 5 := by omega
    subst e5
    have e : F192_6 x 5 (nI 5) Q = .inr Q := by unfold F192_6; rw [if_pos (by decide)]
    exact ⟨Q, sf_e e ⟨fun _ => trivial, fun z => absurd (show (5 : Int32) ≤ nI 5 by decide) z⟩, it_e e, rfl, fun v a b => by omega, fun _ _ _ => rfl⟩
  | succ k ih =>
    intro j Q F hj hF
    obtain ⟨F, rfl⟩ : ∃ k, F = k + 1 := ⟨F - 1, by omega⟩
    have n5 : ¬ (5 : Int32) ≤ nI j := nI_ge (b := 5) (by omega) (by decide)
    have cj : (nI j).toNatClampNeg = j := nI_clamp (by omega)
    have e : F192_6 x 5 (nI j) Q = .inl (nI (j + 1), a_wl Q 649 j x) := by unfold F192_6; rw [if_neg n5, nI_1, cj]
    obtain ⟨Q', r1, r2, r3, r4, r5⟩ := ih (j + 1) (a_wl Q 649 j x) F (by omega) (by omega)
    refine ⟨Q', sf_s e ⟨fun z => absurd z n5, fun _ => ⟨vp_in_nI (by omega) (by decide), trivial⟩⟩ r1, (it_s (B := fun (s : Int32 × aQ) => F192_6 x 5 s.1 s.2) (s := (nI j, Q)) e).trans r2, r3, fun v a b => ?_, fun c i a => ?_⟩
    · by_cases ev : v = j
      · subst ev
        rw [r5 649 v (by omega), wl_get, if_pos ⟨rfl, rfl⟩]
      · exact r4 v (by omega) b
    · rw [r5 c i (by omega), wl_get, if_neg (by omega)]
theorem fill_m (v1 : Int32) : ∀ k j Q F, j + k = 5 → k < F → ∃ Q', a_sf (fun (s : Int32 × aQ) => F183_22 v1 s.1 s.2) (fun (s : Int32 × aQ) => S183_22 v1 s.1 s.2) F (nI j, Q) ∧ a_it (fun (s : Int32 × aQ) => F183_22 v1 s.1 s.2) F (nI j, Q) = some Q' ∧ (∀ v, j ≤ v → v < 5 → Q'.1 680 v = 8 ∧ Q'.2 681 v = 0) ∧ (∀ c i, ¬ (c = 680 ∧ j ≤ i) → Q'.1 c i = Q.1 c i) ∧ (∀ c i, ¬ (c = 681 ∧ j ≤ i) → Q'.2 c i = Q.2 c i) := by
  intro k
  induction k with
  | zero =>
    intro j Q F hj hF
    obtain ⟨F, rfl⟩ : ∃ k, F = k + 1 := ⟨F - 1, by omega⟩
    have e5 : j = 5 := by omega
    subst e5
    have e : F183_22 v1 (nI 5) Q = .inr Q := by unfold F183_22; rw [if_pos (by decide)]
    exact ⟨Q, sf_e e ⟨fun _ => trivial, fun z => absurd (show (5 : Int32) ≤ nI 5 by decide) z⟩, it_e e, fun v a b => by omega, fun _ _ _ => rfl, fun _ _ _ => rfl⟩
  | succ k ih =>
    intro j Q F hj hF
    obtain ⟨F, rfl⟩ : ∃ k, F = k + 1 := ⟨F - 1, by omega⟩
    have n5 : ¬ (5 : Int32) ≤ nI j := nI_ge (b := 5) (by omega) (by decide)
    have cj : (nI j).toNatClampNeg = j := nI_clamp (by omega)
    have vj : vp_in (nI j) 5 := vp_in_nI (by omega) (by decide)
    have e : F183_22 v1 (nI j) Q = .inl (nI (j + 1), a_wl (a_w Q 680 j 8) 681 j 0) := by unfold F183_22; rw [if_neg n5, nI_1, cj]
    obtain ⟨Q', r1, r2, r4, r3, r5⟩ := ih (j + 1) (a_wl (a_w Q 680 j 8) 681 j 0) F (by omega) (by omega)
    refine ⟨Q', sf_s e ⟨fun z => absurd z n5, fun _ => ⟨vj, vj, trivial⟩⟩ r1, (it_s (B := fun (s : Int32 × aQ) => F183_22 v1 s.1 s.2) (s := (nI j, Q)) e).trans r2, fun v a b => ?_, fun c i a => ?_, fun c i a => ?_⟩
    · by_cases ev : v = j
      · subst ev
        rw [r3 680 v (by omega), r5 681 v (by omega), wl_i, wl_get, if_pos ⟨rfl, rfl⟩, w_eq]
        exact ⟨rfl, rfl⟩
      · exact r4 v (by omega) b
    · rw [r3 c i (by omega), wl_i, w_get, if_neg (by omega)]
    · rw [r5 c i (by omega), wl_get, if_neg (by omega), w_l]
def va0 : Nat → Nat × Int := fun _ => (8, 0)
theorem va0_ok : vaOk va0 := fun _ _ => Or.inr rfl
theorem sta_ok : sta n = 24 ∨ sta n < n := by
  unfold sta
  split <;> omega
theorem F115_eq (hE : iE q nE) (hN : iN q fd) (h : iP q nE n m o p) {L0 : Nat} (hL : L0 ≤ 1000) : S115_0 (nI L0) q ∧ ∃ Q', F115_0 (nI L0) q = ((rn q fd L0 (sta n) va0 0).1.1, Q') ∧ frC q Q' ∧ varC (rn q fd L0 (sta n) va0 0).2 Q' ∧ Q'.1 647 7 = (rn q fd L0 (sta n) va0 0).1.2 ∧ vaOk (rn q fd L0 (sta n) va0 0).2 := by
  have F8 : F128_0 8 0 q = pk 8 0 := F128_eq (t := 8) (y := 0) (by decide)
  obtain ⟨Q1, a1, a2, a3, a4, a5⟩ := fill_c (pk 8 0) 5 0 q 200 rfl (by decide)
  have a2' : a_it (fun (s : Int32 × aQ) => F192_6 (pk 8 0) 5 s.1 s.2) 200 (0, q) = some Q1 := a2
  have F192 : F192_0 (pk 8 0) q = Q1 := by unfold F192_0 F192_22; exact a_lp_eq a2'
  have S192 : S192_0 (pk 8 0) q := ⟨a1, trivial⟩
  have f1 : frC q (a_w Q1 647 4 0) := ⟨fun c j z => by rw [w_get, if_neg (by omega), a3], fun c j z => by rw [w_l]; exact a5 c j (by omega)⟩
  obtain ⟨R, r1, r2, ⟨Q', r3, r4, r5, r6, r7⟩, r8⟩ := run_class hE hN h hL L0 0 (sta n) va0 0 (a_w Q1 647 4 0) 1002 (by omega) sta_ok f1 va0_ok (fun v hv => by rw [w_l]; exact a4 v (by omega) hv) w_eq (by omega) (by omega)
  have st := (F41_eq (f1.iP h)).1
  have r2' : a_it (fun (s : Int32 × Int32 × aQ) => F115_28 (nI L0) s.1 s.2.1 s.2.2) 1002 (nI (sta n), 0, a_w Q1 647 4 0) = some R := r2
  refine ⟨?_, Q', ?_, r5, r6, r7, r8⟩
  · unfold S115_0
    rw [F8, F192]
    refine ⟨trivial, S192, ?_⟩
    unfold S115_13
    rw [st, a_lp_eq r2']
    refine ⟨⟨fun _ => trivial, fun _ => trivial⟩, r1, ?_⟩
    cases R <;> exact r4
  · unfold F115_0
    rw [F8, F192]
    unfold F115_13
    rw [st, a_lp_eq r2', ← r3]
    cases R <;> rfl
theorem F183_eq (hE : iE q nE) (hN : iN q fd) (h : iP q nE n 0 o p) {L0 : Nat} (hL : L0 ≤ 1000) : S183_0 (nI L0) q ∧ ∃ Q', F183_0 (nI L0) q = ((rn q fd L0 (sta n) va0 0).1.1, Q') ∧ frM q Q' ∧ varM (rn q fd L0 (sta n) va0 0).2 Q' ∧ Q'.1 650 39 = (rn q fd L0 (sta n) va0 0).1.2 := by
  have h14 : q.1 650 14 = 0 := h.2.2.2.2.2.1
  have n0 : ¬ (0 : Int32) < 0 := by decide
  have n1 : ¬ nI L0 < 0 := nI_nlt (b := 0) (by omega) (by omega)
  have n2 : nI L0 ≤ 1000 := nI_le (b := 1000) hL (by decide)
  obtain ⟨Q1, a1, a2, a3, a4, a5⟩ := fill_m (nI L0) 5 0 q 200 rfl (by decide)
  have a2' : a_it (fun (s : Int32 × aQ) => F183_22 (nI L0) s.1 s.2) 200 (0, q) = some Q1 := a2
  have f1 : frM q (a_w (a_w Q1 650 42 0) 650 39 (-1)) := by
    refine frM.tr (q1 := Q1) ⟨fun c j z y => a4 c j (by omega), fun c j z y => a5 c j (by omega)⟩ ((frM.w (by decide)).tr (frM.w (by decide)))
  obtain ⟨R, r1, r2, Q', r3, r4, r5, r6, r7⟩ := run_model hE hN h hL L0 0 (sta n) va0 0 (a_w (a_w Q1 650 42 0) 650 39 (-1)) 1002 (by omega) sta_ok f1 va0_ok (fun v hv => by rw [w_ne (by decide), w_ne (by decide)]; exact a3 v (by omega) hv) (by rw [w_nk (by decide), w_eq]; rfl) (by omega) (by omega)
  have st := (F41_eq (f1.iP h)).2
  have r2' : a_it (fun (s : Int32 × Int32 × aQ) => F183_65 (nI L0) s.1 s.2.1 s.2.2) 1002 (nI (sta n), 0, a_w (a_w Q1 650 42 0) 650 39 (-1)) = some R := r2
  have T : S183_48 (nI L0) Q1 := by
    unfold S183_48
    rw [st, a_lp_eq r2']
    refine ⟨⟨fun _ => trivial, fun _ => trivial⟩, r1, ?_⟩
    cases R <;> exact r4
  have E : F183_48 (nI L0) Q1 = ((rn q fd L0 (sta n) va0 0).1.1, Q') := by
    unfold F183_48
    rw [st, a_lp_eq r2', ← r3]
    cases R <;> rfl
  refine ⟨?_, Q', ?_, r5, r6, r7⟩
  · unfold S183_0
    rw [h14, a_lp_eq a2']
    exact ⟨fun _ => trivial, fun _ => ⟨fun _ => trivial, fun _ => ⟨fun _ => ⟨a1, T⟩, fun _ => trivial⟩⟩⟩
  · unfold F183_0
    rw [h14, if_neg n0, if_neg n1, if_pos n2, a_lp_eq a2']
    exact E
theorem rn_fr {Q : aQ} (r : ∀ c j, (2 ≤ c ∧ c ≤ 6) ∨ (9 ≤ c ∧ c ≤ 15) ∨ c = 648 → Q.1 c j = q.1 c j) : ∀ L a va tk, rn Q fd L a va tk = rn q fd L a va tk := by
  intro L
  induction L with
  | zero => intro a va tk; rfl
  | succ L ih =>
    intro a va tk
    unfold rn
    rw [sp_fr r]
    simp only [ih]
/-- what is left of the last run, alike on both sides -/
def iR (q : aQ) : Prop := ∃ va, vaOk va ∧ varC va q ∧ varM va q ∧ q.1 647 7 = q.1 650 39
/-- what a run changes -/
def frR (q q' : aQ) : Prop := ∀ c j, c < 680 → ¬ (c = 647 ∧ 4 ≤ j) → ¬ (c = 650 ∧ 37 ≤ j) → q'.1 c j = q.1 c j
theorem iR_fr {Q : aQ} (r : ∀ c j, c = 680 ∨ (c = 647 ∧ j = 7) ∨ (c = 650 ∧ j = 39) → Q.1 c j = q.1 c j) (r2 : ∀ c j, c = 649 ∨ c = 681 → Q.2 c j = q.2 c j) (h : iR q) : iR Q := by
  obtain ⟨va, h1, h2, h3, h4⟩ := h
  refine ⟨va, h1, fun v hv => ?_, fun v hv => ?_, ?_⟩
  · rw [r2 649 v (by omega)]; exact h2 v hv
  · rw [r 680 v (by omega), r2 681 v (by omega)]; exact h3 v hv
  · rw [r 647 7 (by omega), r 650 39 (by omega)]; exact h4
theorem run_step (hE : iE q nE) (hN : iN q fd) (h : iP q nE n m o p) (hR : iR q) (v : Int32) : ∃ q', a_pair l X 17 183 [.int v] q q' ∧ frR q q' ∧ iR q' := by
  have c11 : q.1 8 11 = nI m := h.2.2.2.2.1
  have c14 : q.1 650 14 = nI m := h.2.2.2.2.2.1
  have m5 := h.2.1
  have no : F17_0 v q = (-1, q) → S17_0 v q → F183_0 v q = (-1, q) → S183_0 v q → ∃ q', a_pair l X 17 183 [.int v] q q' ∧ frR q q' ∧ iR q' := by
    intro a b c d
    refine ⟨q, ⟨-1, q, ?_, ?_⟩, fun _ _ _ _ _ => rfl, hR⟩
    · have := T17 (l := l) (X := X) (d := 60) (by decide) b
      rw [a] at this
      exact this
    · have := T183 (l := l) (X := X) (d := 60) (by decide) d
      rw [c] at this
      exact this
  by_cases hm : m = 0
  · subst hm
    have l0 : nI 0 ≤ 0 := by decide
    have n0 : ¬ (0 : Int32) < nI 0 := by decide
    have f33 : F33_0 q = 0 := by unfold F33_0; rw [c11, if_pos l0]
    have s33 : S33_0 q := ⟨fun _ => trivial, fun _ => trivial⟩
    have n10 : ¬ (1 : Int32) = 0 := by decide
    by_cases v0 : v < 0
    · refine no ?_ ?_ ?_ ?_
      · unfold F17_0; rw [f33, if_pos rfl, if_pos v0]
      · unfold S17_0; exact ⟨s33, fun _ => ⟨fun _ => trivial, fun z => absurd v0 z⟩, fun _ => trivial⟩
      · unfold F183_0; rw [c14, if_neg n0, if_pos v0]
      · unfold S183_0; exact ⟨fun _ => trivial, fun _ => ⟨fun _ => trivial, fun z => absurd v0 z⟩⟩
    by_cases v1 : v ≤ 1000
    · obtain ⟨L0, hL, rfl⟩ := nI_below (x := v) (n := 1001) v0 (fun z => by
        have a := Int32.le_iff_toInt_le.mp z
        have b := Int32.le_iff_toInt_le.mp v1
        have : (nI 1001).toInt = 1001 := rfl
        have : (1000 : Int32).toInt = 1000 := rfl
        omega) (by decide)
      obtain ⟨c1, Q1, c2, c3, c4, c5, c6⟩ := F115_eq hE hN h (L0 := L0) (by omega)
      obtain ⟨d1, Q2, d2, d3, d4, d5⟩ := F183_eq (c3.iE hE) (c3.iN hN) (c3.iP h) (L0 := L0) (by omega)
      rw [rn_fr (fun c j z => c3.1 c j (by omega))] at d2 d4 d5
      refine ⟨Q2, ⟨(rn q fd L0 (sta n) va0 0).1.1, Q1, ?_, ?_⟩, fun c j a b d => ?_, _, c6, fun u hu => ?_, d4, ?_⟩
      · have S : S17_0 (nI L0) q := ⟨s33, fun _ => ⟨fun _ => trivial, fun _ => ⟨fun _ => ⟨c1, trivial⟩, fun _ => trivial⟩⟩, fun _ => trivial⟩
        have F : F17_0 (nI L0) q = ((rn q fd L0 (sta n) va0 0).1.1, Q1) := by
          unfold F17_0; rw [f33, if_pos rfl, if_neg v0, if_pos v1, c2]
        have := T17 (l := l) (X := X) (d := 60) (by decide) S
        rw [F] at this
        exact this
      · have := T183 (l := l) (X := X) (d := 60) (by decide) d1
        rw [d2] at this
        exact this
      · rw [d3.1 c j a d, c3.1 c j b]
      · rw [d3.2 649 u (by omega) (by omega)]; exact c4 u hu
      · rw [d3.1 647 7 (by omega) (by omega), c5, d5]
    · refine no ?_ ?_ ?_ ?_
      · unfold F17_0; rw [f33, if_pos rfl, if_neg v0, if_neg v1]
      · unfold S17_0; exact ⟨s33, fun _ => ⟨fun _ => trivial, fun _ => ⟨fun z => absurd z v1, fun _ => trivial⟩⟩, fun _ => trivial⟩
      · unfold F183_0; rw [c14, if_neg n0, if_neg v0, if_neg v1]
      · unfold S183_0; exact ⟨fun _ => trivial, fun _ => ⟨fun _ => trivial, fun _ => ⟨fun z => absurd z v1, fun _ => trivial⟩⟩⟩
  · have l0 : ¬ nI m ≤ 0 := nI_nle (by omega) (by omega)
    have n0 : (0 : Int32) < nI m := nI_lt (a := 0) (by omega) (by omega)
    have f33 : F33_0 q = 1 := by unfold F33_0; rw [c11, if_neg l0]
    have s33 : S33_0 q := ⟨fun _ => trivial, fun _ => trivial⟩
    have n10 : ¬ (1 : Int32) = 0 := by decide
    refine no ?_ ?_ ?_ ?_
    · unfold F17_0; rw [f33, if_neg n10]
    · unfold S17_0; rw [f33]; exact ⟨s33, fun z => absurd z n10, fun _ => trivial⟩
    · unfold F183_0; rw [c14, if_pos n0]
    · unfold S183_0; rw [c14]; exact ⟨fun _ => trivial, fun z => absurd n0 z⟩
theorem place_step (hR : iR q) : a_pair l X 18 184 [] q q := by
  obtain ⟨va, -, -, -, h4⟩ := hR
  refine ⟨q.1 650 39, q, ?_, T184 (d := 60) (by decide) trivial⟩
  have := T18 (l := l) (X := X) (q := q) (d := 60) (by decide) ⟨trivial, trivial⟩
  rw [show F18_0 q = q.1 647 7 from rfl, h4] at this
  exact this
theorem type_step (hR : iR q) (v : Int32) : a_pair l X 19 185 [.int v] q q := by
  obtain ⟨va, h1, h2, h3, h4⟩ := hR
  rcases var_or v with hv | ⟨i, hi, rfl⟩
  · have f : F22_0 v q = 0 := by rw [F22_eq, if_neg (fun z => hv.elim z.1 z.2)]
    have F : F19_0 v q = -1 := by unfold F19_0; rw [f, if_pos rfl]
    have S : S19_0 v q := by unfold S19_0; rw [f]; exact ⟨S22_ok, fun _ => trivial, fun z => absurd rfl z⟩
    have G : F185_0 v q = -1 := by
      unfold F185_0
      rcases hv with z | z
      · rw [if_pos z]
      · by_cases z0 : v < 0
        · rw [if_pos z0]
        · rw [if_neg z0, if_neg (Int32.not_le.mpr z)]
    have G2 : S185_0 v q := by
      unfold S185_0
      refine ⟨fun _ => trivial, fun a => ⟨fun b => ?_, fun _ => trivial⟩⟩
      rcases hv with z | z
      · exact absurd z a
      · exact absurd b (Int32.not_le.mpr z)
    refine ⟨-1, q, ?_, ?_⟩
    · have := T19 (l := l) (X := X) (d := 60) (by decide) S
      rw [F] at this
      exact this
    · have := T185 (l := l) (X := X) (d := 60) (by decide) G2
      rw [G] at this
      exact this
  · have ci : (nI i).toNatClampNeg = i := nI_clamp (by omega)
    have vi : vp_in (nI i) 5 := vp_in_nI hi (by decide)
    have n0 : ¬ nI i < 0 := nI_nlt (b := 0) (by omega) (by omega)
    have n4 : nI i ≤ 4 := nI_le (b := 4) (by omega) (by decide)
    have n10 : ¬ (1 : Int32) = 0 := by decide
    have f : F22_0 (nI i) q = 1 := by rw [F22_eq, if_pos ⟨n0, Int32.not_lt.mpr n4⟩]
    have t16 : (va i).1 < 16 := by
      rcases h1 i hi with g | g
      · exact g.lt.1
      · rw [g]; decide
    have F : F19_0 (nI i) q = nI (va i).1 := by
      unfold F19_0 F113_0; rw [f, if_neg n10, ci, h2 i hi, F129_eq t16]
    have S : S19_0 (nI i) q := by unfold S19_0 S113_0; exact ⟨S22_ok, fun _ => trivial, fun _ => ⟨⟨vi, trivial, trivial⟩, trivial⟩⟩
    have G : F185_0 (nI i) q = nI (va i).1 := by
      unfold F185_0; rw [if_neg n0, if_pos n4, ci, (h3 i hi).1]
    have G2 : S185_0 (nI i) q := ⟨fun _ => trivial, fun _ => ⟨fun _ => ⟨vi, trivial⟩, fun _ => trivial⟩⟩
    refine ⟨nI (va i).1, q, ?_, ?_⟩
    · have := T19 (l := l) (X := X) (d := 60) (by decide) S
      rw [F] at this
      exact this
    · have := T185 (l := l) (X := X) (d := 60) (by decide) G2
      rw [G] at this
      exact this
theorem number_step (hR : iR q) (v : Int32) : a_pair l X 20 186 [.int v] q q := by
  obtain ⟨va, h1, h2, h3, h4⟩ := hR
  rcases var_or v with hv | ⟨i, hi, rfl⟩
  · have f : F22_0 v q = 0 := by rw [F22_eq, if_neg (fun z => hv.elim z.1 z.2)]
    have F : F20_0 v q = 0 := by unfold F20_0; rw [f, if_pos rfl]
    have S : S20_0 v q := by unfold S20_0; rw [f]; exact ⟨S22_ok, fun _ => trivial, fun z => absurd rfl z⟩
    have G : F186_0 v q = 0 := by
      unfold F186_0
      by_cases z0 : v < 0
      · rw [if_pos z0]
      · rcases hv with z | z
        · exact absurd z z0
        · rw [if_neg z0, if_pos z]
    have G2 : S186_0 v q := by
      unfold S186_0
      refine ⟨fun _ => trivial, fun a => ⟨fun _ => trivial, fun b => ?_⟩⟩
      rcases hv with z | z
      · exact absurd z a
      · exact absurd z b
    refine ⟨0, q, ?_, ?_⟩
    · have := T20 (l := l) (X := X) (d := 60) (by decide) S
      rw [F] at this
      exact this
    · have := T186 (l := l) (X := X) (d := 60) (by decide) G2
      rw [G] at this
      exact this
  · have ci : (nI i).toNatClampNeg = i := nI_clamp (by omega)
    have vi : vp_in (nI i) 5 := vp_in_nI hi (by decide)
    have n0 : ¬ nI i < 0 := nI_nlt (b := 0) (by omega) (by omega)
    have n4 : ¬ (4 : Int32) < nI i := nI_nlt (a := 4) (by omega) (by decide)
    have n10 : ¬ (1 : Int32) = 0 := by decide
    have f : F22_0 (nI i) q = 1 := by rw [F22_eq, if_pos ⟨n0, n4⟩]
    have t16 : (va i).1 < 16 ∧ (-1000000000 ≤ (va i).2 ∧ (va i).2 ≤ 1000000000) ∧ (¬ (va i).1 = 1 → ¬ (va i).1 = 2 → (va i).2 = 0) := by
      rcases h1 i hi with g | g
      · refine ⟨g.lt.1, g.lt.2.1, fun a b => ?_⟩
        rcases g with g | g | g
        · exact absurd g.1 a
        · exact absurd g.1 b
        · exact g.2
      · rw [g]; exact ⟨by decide, by decide, fun _ _ => rfl⟩
    have e1 : nI (va i).1 = 1 ↔ (va i).1 = 1 := nI_eq (b := 1) (by omega) (by decide)
    have e2 : nI (va i).1 = 2 ↔ (va i).1 = 2 := nI_eq (b := 2) (by omega) (by decide)
    have F : F20_0 (nI i) q = Int64.toInt32 (lI (va i).2) := by
      unfold F20_0 F114_0; rw [f, if_neg n10, ci, h2 i hi, F130_eq t16.1 (by omega)]
    have S : S20_0 (nI i) q := by unfold S20_0 S114_0; exact ⟨S22_ok, fun _ => trivial, fun _ => ⟨⟨vi, trivial, trivial⟩, trivial⟩⟩
    have G : F186_0 (nI i) q = Int64.toInt32 (lI (va i).2) := by
      unfold F186_0 F186_33; rw [if_neg n0, if_neg n4, ci, (h3 i hi).1, (h3 i hi).2]
      by_cases c1 : (va i).1 = 1
      · rw [if_pos (e1.mpr c1)]
      · rw [if_neg (fun z => c1 (e1.mp z))]
        by_cases c2 : (va i).1 = 2
        · rw [if_pos (e2.mpr c2)]
        · rw [if_neg (fun z => c2 (e2.mp z)), t16.2.2 c1 c2]; rfl
    have G2 : S186_0 (nI i) q := ⟨fun _ => trivial, fun _ => ⟨fun _ => trivial, fun _ => ⟨vi, fun _ => ⟨vi, trivial⟩, fun _ => ⟨vi, fun _ => ⟨vi, trivial⟩, fun _ => trivial⟩⟩⟩⟩
    refine ⟨Int64.toInt32 (lI (va i).2), q, ?_, ?_⟩
    · have := T20 (l := l) (X := X) (d := 60) (by decide) S
      rw [F] at this
      exact this
    · have := T186 (l := l) (X := X) (d := 60) (by decide) G2
      rw [G] at this
      exact this
end
