/-! the model lists the values of a picture: all of them -/
section
variable {q Q : aQ} {P : Pc}
theorem mpAt_frL {f : Bool} {i : Nat} {Q Q' : aQ} (h : mpAt Q (srcA f) (srcB f) i P) (u : frL Q Q') : mpAt Q' (srcA f) (srcB f) i P := by
  refine h.fr ?_ (fun k _ => ?_)
  · unfold srcA; cases f
    · exact u.1 669 i (by decide) (by decide) (by omega)
    · exact u.1 671 i (by decide) (by decide) (by omega)
  · unfold srcB; cases f
    · exact u.1 670 _ (by decide) (by decide) (by omega)
    · exact u.1 672 _ (by decide) (by decide) (by omega)
theorem F161_loop {f : Bool} {i : Nat} (hi : i < (if f = true then 60 else 5)) (hP : okP P) : ∀ j k Q F, k + j = 37 → j < F → mpAt Q (srcA f) (srcB f) i P → lefts Q (preV P k) → ∃ Q', a_sf (fun (s : Int32 × aQ) => F161_44 (srcI f i) (bI f) (-1 - srcI f i) (nI (tyN P)) s.1 s.2) (fun (s : Int32 × aQ) => S161_44 (srcI f i) (bI f) (-1 - srcI f i) (nI (tyN P)) s.1 s.2) F (iI ((k : Int) - 18), Q) ∧ a_it (fun (s : Int32 × aQ) => F161_44 (srcI f i) (bI f) (-1 - srcI f i) (nI (tyN P)) s.1 s.2) F (iI ((k : Int) - 18), Q) = some Q' ∧ frL Q Q' ∧ lefts Q' (preV P 37) := by
  intro j
  induction j with
  | zero =>
    intro k Q F hk hF hm hL
    obtain ⟨F, rfl⟩ : ∃ k, F = k + 1 := ⟨F - 1, by omega⟩
    have e37 : k = 37 := by omega
    subst e37
    have l : (18 : Int32) < iI (((37 : Nat) : Int) - 18) := by decide
    have e : F161_44 (srcI f i) (bI f) (-1 - srcI f i) (nI (tyN P)) (iI (((37 : Nat) : Int) - 18)) Q = .inr Q := by unfold F161_44; rw [if_pos l]
    exact ⟨Q, sf_e e ⟨fun _ => trivial, fun z => absurd l z⟩, it_e e, frL.rf, hL⟩
  | succ j ih =>
    intro k Q F hk hF hm hL
    obtain ⟨F, rfl⟩ : ∃ k, F = k + 1 := ⟨F - 1, by omega⟩
    have ln := preV_len P k (by omega)
    obtain ⟨s1, Q1, s2, s3, s4⟩ := F161_step hi (show k < 37 by omega) hP hm hL (by omega)
    rw [← preV_s] at s4
    obtain ⟨Q', r1, r2, r3, r4⟩ := ih (k + 1) Q1 F (by omega) (by omega) (mpAt_frL hm s3) s4
    exact ⟨Q', sf_s s2 s1 r1, (it_s (B := fun (s : Int32 × aQ) => F161_44 (srcI f i) (bI f) (-1 - srcI f i) (nI (tyN P)) s.1 s.2) (s := (iI ((k : Int) - 18), Q)) s2).trans r2, s3.tr r3, r4⟩
theorem F161_eq {f : Bool} {i : Nat} (hi : i < (if f = true then 60 else 5)) (hP : okP P) (hm : mpAt Q (srcA f) (srcB f) i P) : S161_0 (srcI f i) Q ∧ frL Q (F161_0 (srcI f i) Q) ∧ lefts (F161_0 (srcI f i) Q) (vals P) := by
  have u0 : frL Q (a_w Q 650 29 0) := ⟨fun c j x y z => by rw [w_get, if_neg z], rfl⟩
  have L0 : lefts (a_w Q 650 29 0) (preV P 0) := ⟨w_eq, trivial⟩
  obtain ⟨Q1, r1, r2, r3, r4⟩ := F161_loop hi hP 37 0 (a_w Q 650 29 0) 200 rfl (by decide) (mpAt_frL hm u0) L0
  have r2' : a_it (fun (s : Int32 × aQ) => F161_44 (srcI f i) (bI f) (-1 - srcI f i) (nI (tyN P)) s.1 s.2) 200 (-18, a_w Q 650 29 0) = some Q1 := r2
  obtain ⟨-, t4, -⟩ := tyN_b P
  have m1 := hm.1
  -- the last: none
  have last : S161_256 (nI (tyN P)) Q1 ∧ frL Q1 (F161_256 (nI (tyN P)) Q1) ∧ lefts (F161_256 (nI (tyN P)) Q1) (vals P) := by
    rw [vals_pre]
    unfold S161_256 F161_256
    cases hn : P.2.2.1 with
    | false =>
      rw [if_pos (t4.mpr hn), if_neg (by decide), List.append_nil]
      exact ⟨⟨fun _ => trivial, fun z => absurd (t4.mpr hn) z⟩, frL.rf, r4⟩
    | true =>
      have nz : ¬ nI (tyN P) &&& 4 = 0 := fun z => by rw [t4.mp z] at hn; cases hn
      have ln := preV_len P 37 (by decide)
      obtain ⟨k1, k2, k3⟩ := F160_eq (t := 4) (n := 0) r4 (by omega)
      rw [if_neg nz, if_pos rfl]
      exact ⟨⟨fun z => absurd z nz, fun _ => ⟨k1, trivial⟩⟩, k2, k3⟩
  have F33 : F161_33 (srcI f i) (bI f) (-1 - srcI f i) (nI (tyN P)) Q = F161_256 (nI (tyN P)) Q1 ∧ S161_33 (srcI f i) (bI f) (-1 - srcI f i) (nI (tyN P)) Q := by
    unfold F161_33 S161_33
    rw [a_lp_eq r2']
    exact ⟨rfl, r1, last.1⟩
  cases f with
  | true =>
    have sI : srcI true i = nI i := if_pos rfl
    have hi : i < 60 := hi
    have n0 : ¬ srcI true i < 0 := by rw [sI]; exact nI_pos (by omega)
    have ci : (srcI true i).toNatClampNeg = i := by rw [sI]; exact nI_clamp (by omega)
    have vi : vp_in (srcI true i) 60 := by rw [sI]; exact vp_in_nI hi (by decide)
    have m1 : Q.1 671 i = nI (tyN P) := m1
    have n1 : ¬ (1 : Int32) = 0 := by decide
    have F33' : F161_33 (srcI true i) 1 (-1 - srcI true i) (nI (tyN P)) Q = F161_256 (nI (tyN P)) Q1 ∧ S161_33 (srcI true i) 1 (-1 - srcI true i) (nI (tyN P)) Q := F33
    unfold S161_0 F161_0 S161_9 F161_9
    rw [if_neg n0, if_neg n1, ci, m1, F33'.1]
    exact ⟨⟨fun z => absurd z n0, fun _ => ⟨fun z => absurd z n1, fun _ => ⟨vi, F33'.2⟩⟩⟩, (u0.tr r3).tr last.2.1, last.2.2⟩
  | false =>
    have sI : -1 - srcI false i = nI i := by
      rw [show srcI false i = -1 - nI i from if_neg (by decide)]
      exact nI_m1m
    have hi : i < 5 := hi
    have ng : srcI false i < 0 := by
      rw [show srcI false i = -1 - nI i from if_neg (by decide)]
      have : i = 0 ∨ i = 1 ∨ i = 2 ∨ i = 3 ∨ i = 4 := by omega
      rcases this with rfl | rfl | rfl | rfl | rfl <;> decide
    have ci : (-1 - srcI false i).toNatClampNeg = i := by rw [sI]; exact nI_clamp (by omega)
    have vi : vp_in (-1 - srcI false i) 5 := by rw [sI]; exact vp_in_nI hi (by decide)
    have m1 : Q.1 669 i = nI (tyN P) := m1
    have F33' : F161_33 (srcI false i) 0 (-1 - srcI false i) (nI (tyN P)) Q = F161_256 (nI (tyN P)) Q1 ∧ S161_33 (srcI false i) 0 (-1 - srcI false i) (nI (tyN P)) Q := F33
    unfold S161_0 F161_0 S161_9 F161_9
    rw [if_pos ng, if_pos rfl, ci, m1, F33'.1]
    exact ⟨⟨fun _ => ⟨fun _ => ⟨vi, F33'.2⟩, fun z => absurd rfl z⟩, fun z => absurd ng z⟩, (u0.tr r3).tr last.2.1, last.2.2⟩
/-- the right list is L -/
def rights (q : aQ) (L : List (Nat × Int)) : Prop := q.1 650 32 = nI L.length ∧ lst q 677 678 0 L
def frLR (q q' : aQ) : Prop := (∀ c j, ¬ (675 ≤ c ∧ c ≤ 678) → ¬ (c = 650 ∧ (j = 29 ∨ j = 32)) → q'.1 c j = q.1 c j) ∧ q'.2 = q.2
theorem frLR.tr {q q1 q2 : aQ} (h : frLR q q1) (k : frLR q1 q2) : frLR q q2 := ⟨fun c j x y => (k.1 c j x y).trans (h.1 c j x y), k.2.trans h.2⟩
theorem frL.lr {q q1 : aQ} (h : frL q q1) : frLR q q1 := ⟨fun c j x y => h.1 c j (by omega) (by omega) (by omega), h.2⟩
theorem F162_loop {L : List (Nat × Int)} (hlen : L.length < 60) : ∀ M i Q F, L.length = i + M.length → M.length < F → Q.1 650 29 = nI L.length → lst Q 675 676 i M → ∃ Q', a_sf (fun (s : Int32 × aQ) => F162_15 s.1 s.2) (fun (s : Int32 × aQ) => S162_15 s.1 s.2) F (nI i, Q) ∧ a_it (fun (s : Int32 × aQ) => F162_15 s.1 s.2) F (nI i, Q) = some Q' ∧ lst Q' 677 678 i M ∧ (∀ c j, ¬ ((c = 677 ∨ c = 678) ∧ i ≤ j) → Q'.1 c j = Q.1 c j) ∧ Q'.2 = Q.2 := by
  intro M
  induction M with
  | nil =>
    intro i Q F hk hF h29 hL
    obtain ⟨F, rfl⟩ : ∃ k, F = k + 1 := ⟨F - 1, by simp at hF; omega⟩
    have le : nI L.length ≤ nI i := nI_le (by simp at hk; omega) (by simp at hk; omega)
    have e : F162_15 (nI i) Q = .inr Q := by unfold F162_15; rw [h29, if_pos le]
    have S : S162_15 (nI i) Q := by unfold S162_15; rw [h29]; exact ⟨fun _ => trivial, fun z => absurd le z⟩
    exact ⟨Q, sf_e e S, it_e e, trivial, fun _ _ _ => rfl, rfl⟩
  | cons v M ih =>
    intro i Q F hk hF h29 hL
    have hk : L.length = i + (M.length + 1) := hk
    have hF : M.length + 1 < F := hF
    obtain ⟨F, rfl⟩ : ∃ k, F = k + 1 := ⟨F - 1, by omega⟩
    have le : ¬ nI L.length ≤ nI i := nI_ge (by omega) (by omega)
    have ci : (nI i).toNatClampNeg = i := nI_clamp (by omega)
    have vi : vp_in (nI i) 60 := vp_in_nI (by omega) (by decide)
    obtain ⟨h1, h2, h3⟩ := hL
    have e : F162_15 (nI i) Q = .inl (nI (i + 1), a_w (a_w Q 677 i (nI v.1)) 678 i (iI v.2)) := by
      unfold F162_15; rw [h29, if_neg le, ci, nI_1, h1, h2]
    have S : S162_15 (nI i) Q := by unfold S162_15; rw [h29]; exact ⟨fun z => absurd z le, fun _ => ⟨vi, vi, vi, vi, trivial⟩⟩
    obtain ⟨Q', r1, r2, r3, r4, r5⟩ := ih (i + 1) (a_w (a_w Q 677 i (nI v.1)) 678 i (iI v.2)) F (by omega) (by omega) (by rw [w_ne (by decide), w_ne (by decide)]; exact h29) (lst_fr M (i + 1) (fun j _ _ => by rw [w_ne (by decide), w_ne (by decide), w_ne (by decide), w_ne (by decide)]; exact ⟨rfl, rfl⟩) h3)
    refine ⟨Q', sf_s e S r1, (it_s (B := fun (s : Int32 × aQ) => F162_15 s.1 s.2) (s := (nI i, Q)) e).trans r2, ⟨?_, ?_, r3⟩, fun c j z => ?_, r5⟩
    · rw [r4 677 i (by omega), w_ne (by decide), w_eq]
    · rw [r4 678 i (by omega), w_eq]
    · rw [r4 c j (by omega), w_get, if_neg (by omega), w_get, if_neg (by omega)]
theorem F162_eq {f : Bool} {i : Nat} (hi : i < (if f = true then 60 else 5)) (hP : okP P) (hm : mpAt Q (srcA f) (srcB f) i P) : S162_0 (srcI f i) Q ∧ frLR Q (F162_0 (srcI f i) Q) ∧ rights (F162_0 (srcI f i) Q) (vals P) := by
  obtain ⟨s1, s2, s3⟩ := F161_eq hi hP hm
  have ln := vals_len P
  obtain ⟨Q', r1, r2, r3, r4, r5⟩ := F162_loop (L := vals P) (by omega) (vals P) 0 (a_w (F161_0 (srcI f i) Q) 650 32 (nI (vals P).length)) 200 (by omega) (by omega) (by rw [w_nk (by decide)]; exact s3.1) (lst_fr _ 0 (fun j _ _ => by rw [w_ne (by decide), w_ne (by decide)]; exact ⟨rfl, rfl⟩) s3.2)
  have r2' : a_it (fun (s : Int32 × aQ) => F162_15 s.1 s.2) 200 (0, a_w (F161_0 (srcI f i) Q) 650 32 (nI (vals P).length)) = some Q' := r2
  unfold S162_0 F162_0 S162_5 F162_5 F162_53
  rw [s3.1, a_lp_eq r2']
  refine ⟨⟨s1, r1, trivial⟩, s2.lr.tr ⟨fun c j x y => ?_, r5⟩, ?_, r3⟩
  · rw [r4 c j (by omega), w_get, if_neg (by omega)]
  · rw [r4 650 32 (by omega), w_eq]
end
