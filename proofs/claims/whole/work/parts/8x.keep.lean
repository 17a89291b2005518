/-! the model keeps and copies pictures -/
/-- a loop that copies a row's part -/
theorem copyN {B : Int32 × aQ → (Int32 × aQ) ⊕ aQ} {SB : Int32 × aQ → Prop} (N d D s S : Nat) (I : aQ → Prop) (hds : d ≠ s) (hI : ∀ Q k x, k < N → I Q → I (a_w Q d (D + k) x)) (he : ∀ Q, I Q → B (nI N, Q) = .inr Q ∧ SB (nI N, Q)) (hs : ∀ Q k, k < N → I Q → B (nI k, Q) = .inl (nI (k + 1), a_w Q d (D + k) (Q.1 s (S + k))) ∧ SB (nI k, Q)) : ∀ j k Q F, k + j = N → j < F → I Q → ∃ Q', a_sf B SB F (nI k, Q) ∧ a_it B F (nI k, Q) = some Q' ∧ (∀ i, k ≤ i → i < N → Q'.1 d (D + i) = Q.1 s (S + i)) ∧ (∀ c x, ¬ (c = d ∧ D + k ≤ x ∧ x < D + N) → Q'.1 c x = Q.1 c x) ∧ Q'.2 = Q.2 ∧ I Q' := by
  intro j
  induction j with
  | zero =>
    intro k Q F hk hF hQ
    obtain ⟨F, rfl⟩ : ∃ k, F = k + 1 := ⟨F - 1, by omega⟩
    have e : k = N := by omega
    subst e
    exact ⟨Q, sf_e (he Q hQ).1 (he Q hQ).2, it_e (he Q hQ).1, fun i a b => by omega, fun _ _ _ => rfl, rfl, hQ⟩
  | succ j ih =>
    intro k Q F hk hF hQ
    obtain ⟨F, rfl⟩ : ∃ k, F = k + 1 := ⟨F - 1, by omega⟩
    obtain ⟨s1, s2⟩ := hs Q k (by omega) hQ
    obtain ⟨Q', r1, r2, r3, r4, r5, r6⟩ := ih (k + 1) _ F (by omega) (by omega) (hI Q k (Q.1 s (S + k)) (by omega) hQ)
    refine ⟨Q', sf_s s1 s2 r1, (it_s s1).trans r2, fun i a b => ?_, fun c x z => ?_, r5, r6⟩
    · by_cases e : i = k
      · subst e; rw [r4 d (D + i) (by omega), w_eq]
      · rw [r3 i (by omega) b, w_ne (Ne.symm hds)]
    · rw [r4 c x (by omega), w_get, if_neg (by omega)]
section
variable {q Q : aQ} {P : Pc} {e : Nat}
theorem n4 {k : Nat} (h : k < 4) : ¬ (4 : Int32) ≤ nI k := nI_ge (b := 4) h (by decide)
theorem l4 : (4 : Int32) ≤ nI 4 := by decide
theorem c4k {i k N : Nat} (h : 4 * i + k < N) (hN : N ≤ 1000) : (4 * nI i + nI k).toNatClampNeg = 4 * i + k ∧ vp_in (4 * nI i + nI k) N := by
  rw [show (4 : Int32) = nI 4 from rfl, pk_mul, nI_add]
  exact ⟨nI_clamp (by omega), vp_in_nI h (by omega)⟩
theorem F163_eq (he : e < 60) (hf : fitAt Q P) : S163_0 (nI e) Q ∧ mpAt (F163_0 (nI e) Q) 671 672 e P ∧ (∀ c j, ¬ (c = 671 ∧ j = e) → ¬ (c = 672 ∧ 4 * e ≤ j ∧ j < 4 * e + 4) → (F163_0 (nI e) Q).1 c j = Q.1 c j) ∧ (F163_0 (nI e) Q).2 = Q.2 := by
  have ce : (nI e).toNatClampNeg = e := nI_clamp (by omega)
  have ve : vp_in (nI e) 60 := vp_in_nI he (by decide)
  obtain ⟨Q', r1, r2, r3, r4, r5, -⟩ := copyN (B := fun s => F163_12 (nI e) s.1 s.2) (SB := fun s => S163_12 (nI e) s.1 s.2) 4 672 (4 * e) 679 0 (fun _ => True) (by decide) (fun _ _ _ _ _ => trivial) (fun Q _ => ⟨by show F163_12 (nI e) (nI 4) Q = _; unfold F163_12; rw [if_pos l4], by show S163_12 (nI e) (nI 4) Q; exact ⟨fun _ => trivial, fun z => absurd l4 z⟩⟩) (fun Q k hk _ => by
    obtain ⟨c1, c2⟩ := c4k (i := e) (k := k) (N := 240) (by omega) (by decide)
    have ck : (nI k).toNatClampNeg = k := nI_clamp (by omega)
    have vk : vp_in (nI k) 4 := vp_in_nI hk (by decide)
    refine ⟨?_, ?_⟩
    · show F163_12 (nI e) (nI k) Q = _
      unfold F163_12
      rw [if_neg (n4 hk), c1, ck, nI_1, Nat.zero_add]
    · exact ⟨fun z => absurd z (n4 hk), fun _ => ⟨vk, c2, trivial⟩⟩) 4 0 (a_w Q 671 e (Q.1 650 35)) 200 rfl (by decide) trivial
  have r2' : a_it (fun (s : Int32 × aQ) => F163_12 (nI e) s.1 s.2) 200 (0, a_w Q 671 e (Q.1 650 35)) = some Q' := r2
  unfold S163_0 F163_0 F163_39
  rw [ce, a_lp_eq r2']
  refine ⟨⟨ve, r1, trivial⟩, ?_, fun c j a b => ?_, r5⟩
  · refine mp_cong hf ?_ (fun k hk => ?_)
    · rw [r4 671 e (by omega), w_eq]
    · show Q'.1 672 (4 * e + k) = Q.1 679 k
      rw [r3 k (by omega) hk, w_ne (by decide), Nat.zero_add]
  · rw [r4 c j (by omega), w_get, if_neg a]
/-- an expression's picture and errors, as the model keeps them -/
def mpE (Q : aQ) (e : Nat) (r : Pc × Er) : Prop := mpAt Q 671 672 e r.1 ∧ Q.1 673 e = erM r.2
/-- what picturing the expression e changes -/
def frQ (e : Nat) (q q' : aQ) : Prop := (∀ c j, ¬ (675 ≤ c ∧ c ≤ 679) → ¬ (c = 650 ∧ (j = 29 ∨ j = 32 ∨ j = 35 ∨ j = 37)) → ¬ ((c = 671 ∨ c = 673) ∧ j = e) → ¬ (c = 672 ∧ 4 * e ≤ j ∧ j < 4 * e + 4) → q'.1 c j = q.1 c j) ∧ (∀ c j, ¬ (c = 650 ∧ j = 38) → q'.2 c j = q.2 c j)
theorem frQ.tr {q q1 q2 : aQ} (h : frQ e q q1) (k : frQ e q1 q2) : frQ e q q2 := ⟨fun c j x y z w => (k.1 c j x y z w).trans (h.1 c j x y z w), fun c j x => (k.2 c j x).trans (h.2 c j x)⟩
theorem frF.fq {q q1 : aQ} (h : frF q q1) : frQ e q q1 := ⟨fun c j x y z w => h.1 c j (by omega) (by omega), fun c j _ => by rw [h.2]⟩
theorem frLR.fq {q q1 : aQ} (h : frLR q q1) : frQ e q q1 := ⟨fun c j x y z w => h.1 c j (by omega) (by omega), fun c j _ => by rw [h.2]⟩
theorem frO.fq {q q1 : aQ} (h : frO e q q1) : frQ e q q1 := ⟨fun c j x y z w => h.1 c j (by omega) (by omega) (by omega), fun c j x => h.2 c j x⟩
theorem frQ.w {q : aQ} {x : Int32} : frQ e q (a_w q 673 e x) := ⟨fun c j a b z w => by rw [w_get, if_neg (by omega)], fun _ _ _ => rfl⟩
theorem keep_q (he : e < 60) (hf : fitAt Q P) : frQ e Q (F163_0 (nI e) Q) := by
  obtain ⟨-, -, k3, k4⟩ := F163_eq he hf
  exact ⟨fun c j a b z w => k3 c j (by omega) (by omega), fun c j _ => by rw [k4]⟩
/-- the variables' pictures here -/
def hereAt (Q : aQ) (x : Nat → Pc) : Prop := ∀ v, v < 5 → mpAt Q 669 670 v (x v)
theorem hereAt.fq {Q1 : aQ} {x : Nat → Pc} (h : hereAt Q x) (u : frQ e Q Q1) : hereAt Q1 x := fun v hv => (h v hv).fr (u.1 669 v (by omega) (by omega) (by omega) (by omega)) (fun k _ => u.1 670 _ (by omega) (by omega) (by omega) (by omega))
end
