/-! the model joins a variable, and a state, into a place -/
section
variable {Q : aQ} {P S : Pc}
theorem jv_loop {t v : Nat} (ht : t < 25) (hv : v < 5) (hP : okP P) (hS : okP S) : ∀ j k Q c F, k + j = 4 → j < F → Q.1 650 22 = bI c → (∀ i, i < 4 → isE (rgK i S) = false → Q.1 670 (4 * v + i) = kvK i (rgK i S)) → (∀ i, k ≤ i → i < 4 → isE (rgK i P) = false → Q.1 667 (4 * (5 * t + v) + i) = kvK i (rgK i P)) → ∃ Q' c', a_sf (fun (s : Int32 × aQ) => F172_42 (nI t) (nI v) (nI (tyN P)) (nI (tyN S)) s.1 s.2) (fun (s : Int32 × aQ) => S172_42 (nI t) (nI v) (nI (tyN P)) (nI (tyN S)) s.1 s.2) F (nI k, Q) ∧ a_it (fun (s : Int32 × aQ) => F172_42 (nI t) (nI v) (nI (tyN P)) (nI (tyN S)) s.1 s.2) F (nI k, Q) = some Q' ∧ Q'.1 650 22 = bI c' ∧ (c = true → c' = true) ∧ (c' = true → c = true ∨ ¬ leP S P) ∧ (∀ i, k ≤ i → i < 4 → isE (rgK i P) = false → isE (rgK i S) = false → btK i (rgK i P) (rgK i S) → c' = true) ∧ (∀ i, k ≤ i → i < 4 → isE (rgK i (joP P S)) = false → Q'.1 667 (4 * (5 * t + v) + i) = kvK i (rgK i (joP P S))) ∧ (∀ x y, ¬ (x = 667 ∧ 4 * (5 * t + v) + k ≤ y ∧ y < 4 * (5 * t + v) + 4) → ¬ (x = 650 ∧ y = 22) → Q'.1 x y = Q.1 x y) ∧ Q'.2 = Q.2 := by
  intro j
  induction j with
  | zero =>
    intro k Q c F hk hF h22 hb ho
    obtain ⟨F, rfl⟩ : ∃ k, F = k + 1 := ⟨F - 1, by omega⟩
    have e4 : k = 4 := by omega
    subst e4
    have e : F172_42 (nI t) (nI v) (nI (tyN P)) (nI (tyN S)) (nI 4) Q = .inr Q := by unfold F172_42; rw [if_pos l4]
    exact ⟨Q, c, sf_e e ⟨fun _ => trivial, fun z => absurd l4 z⟩, it_e e, h22, id, Or.inl, fun i a b => by omega, fun i a b => by omega, fun _ _ _ _ => rfl, rfl⟩
  | succ j ih =>
    intro k Q c F hk hF h22 hb ho
    obtain ⟨F, rfl⟩ : ∃ k, F = k + 1 := ⟨F - 1, by omega⟩
    obtain ⟨Q1, s1, s2, s3, ⟨c1, d1, d2, d3, d4⟩, s5, s6⟩ := jb_step ht hv (show k < 4 by omega) hP hS h22 (hb k (by omega)) (ho k (Nat.le_refl k) (by omega))
    obtain ⟨Q', c', r1, r2, r3, r4, r5, r6, r7, r8, r9⟩ := ih (k + 1) Q1 c1 F (by omega) (by omega) d1 (fun i hi z => by rw [s5 670 _ (by omega) (by omega)]; exact hb i hi z) (fun i a b z => by rw [s5 667 _ (by omega) (by omega)]; exact ho i (by omega) b z)
    refine ⟨Q', c', sf_s s1 s2 r1, (it_s (B := fun (s : Int32 × aQ) => F172_42 (nI t) (nI v) (nI (tyN P)) (nI (tyN S)) s.1 s.2) (s := (nI k, Q)) s1).trans r2, r3, fun z => r4 (d2 z), fun z => (r5 z).elim d3 Or.inr, fun i a b y z w => ?_, fun i a b z => ?_, fun x y a b => by rw [r8 x y (by omega) b, s5 x y (by omega) b], r9.trans s6⟩
    · by_cases e : i = k
      · subst e; exact r4 (d4 y z w)
      · exact r6 i (by omega) b y z w
    · by_cases e : i = k
      · subst e; rw [r8 667 _ (by omega) (by omega)]; exact s3 z
      · exact r7 i (by omega) b z
/-- types alike: all parts alike there -/
theorem tyN_inj {P S : Pc} (h : nI (tyN P) = nI (tyN S)) : isE P.1 = isE S.1 ∧ isE P.2.1 = isE S.2.1 ∧ P.2.2.1 = S.2.2.1 ∧ P.2.2.2 = S.2.2.2 := by
  obtain ⟨⟨a1, a2⟩, a3, a4, -⟩ := tyN_b P
  obtain ⟨⟨b1, b2⟩, b3, b4, -⟩ := tyN_b S
  rw [h] at a1 a2 a3 a4
  refine ⟨Bool.eq_iff_iff.mpr (a1.symm.trans b1), Bool.eq_iff_iff.mpr (a2.symm.trans b2), ?_, ?_⟩
  · have := a3.symm.trans b3
    cases h1 : P.2.2.1 <;> cases h2 : S.2.2.1 <;> simp_all
  · have := a4.symm.trans b4
    cases h1 : P.2.2.2 <;> cases h2 : S.2.2.2 <;> simp_all
/-- one variable joined; was is the types before (0 where the place was not reached) -/
theorem jv_eq {t v : Nat} {c : Bool} (ht : t < 25) (hv : v < 5) (hP : okP P) (hS : okP S) (h22 : Q.1 650 22 = bI c) (hs : mpAt Q 669 670 v S) (hp : mp (nI (tyN P)) (fun k => Q.1 667 (4 * (5 * t + v) + k)) P) : ∃ Q' c', F172_30 (nI t) (nI v) (nI (tyN P)) Q = .inl (nI (v + 1), Q') ∧ S172_30 (nI t) (nI v) (nI (tyN P)) Q ∧ mpAt Q' 666 667 (5 * t + v) (joP P S) ∧ Q'.1 650 22 = bI c' ∧ (c' = true ↔ c = true ∨ ¬ leP S P) ∧ (∀ x y, ¬ (x = 666 ∧ y = 5 * t + v) → ¬ (x = 667 ∧ 4 * (5 * t + v) ≤ y ∧ y < 4 * (5 * t + v) + 4) → ¬ (x = 650 ∧ y = 22) → Q'.1 x y = Q.1 x y) ∧ Q'.2 = Q.2 := by
  have cv : (nI v).toNatClampNeg = v := nI_clamp (by omega)
  have vv : vp_in (nI v) 5 := vp_in_nI hv (by decide)
  have hs' := mp_k.mp hs
  have hp' := mp_k.mp hp
  obtain ⟨Q1, c1, r1, r2, r3, r4, r5, r6, r7, r8, r9⟩ := jv_loop ht hv hP hS 4 0 Q c 200 rfl (by decide) h22 (fun i hi z => hs'.2 i hi z) (fun i _ hi z => hp'.2 i hi z)
  have h669 : Q.1 669 v = nI (tyN S) := hs'.1
  have r2' : a_it (fun (s : Int32 × aQ) => F172_42 (nI t) (nI v) (nI (tyN P)) (nI (tyN S)) s.1 s.2) 200 (0, Q) = some Q1 := r2
  have ix : 5 * nI t + nI v = nI (5 * t + v) := by rw [show (5 : Int32) = nI 5 from rfl, pk_mul, nI_add]
  have ci : (nI (5 * t + v)).toNatClampNeg = 5 * t + v := nI_clamp (by omega)
  have vi : vp_in (nI (5 * t + v)) 125 := vp_in_nI (by omega) (by decide)
  have or : nI (tyN P) ||| nI (tyN S) = nI (tyN (joP P S)) := tyN_or P S (isE_jo hP.1 hS.1) (isE_jo hP.2.R hS.2.R)
  -- the flag at the end
  have F : ∃ c', F172_125 (nI t) (nI v) (nI (tyN P)) (nI (tyN S)) Q1 = .inl (nI (v + 1), a_w (a_w Q1 650 22 (bI c')) 666 (5 * t + v) (nI (tyN (joP P S)))) ∧ (c' = true ↔ c1 = true ∨ ¬ nI (tyN (joP P S)) = nI (tyN P)) := by
    unfold F172_125 F172_141 F172_146
    rw [r3, or, ix, ci, nI_1]
    cases c1 with
    | true => rw [if_neg (show ¬ bI true = 0 by decide)]; exact ⟨true, rfl, fun _ => Or.inl rfl, fun _ => rfl⟩
    | false =>
      rw [if_pos (show bI false = 0 from rfl)]
      by_cases e : nI (tyN (joP P S)) = nI (tyN P)
      · rw [if_pos e]; exact ⟨false, rfl, fun z => (by cases z), fun z => z.elim (fun w => by cases w) (fun w => absurd e w)⟩
      · rw [if_neg e]; exact ⟨true, rfl, fun _ => Or.inr e, fun _ => rfl⟩
  obtain ⟨c', f1, f2⟩ := F
  refine ⟨a_w (a_w Q1 650 22 (bI c')) 666 (5 * t + v) (nI (tyN (joP P S))), c', ?_, ?_, ?_, ?_, ?_, fun x y a b d => ?_, r9⟩
  · unfold F172_30
    rw [cv, h669, a_lp_eq r2']
    exact f1
  · unfold S172_30
    rw [cv, h669, a_lp_eq r2']
    refine ⟨vv, r1, ?_⟩
    unfold S172_125 S172_141 S172_146
    dsimp only
    rw [ix]
    exact ⟨fun _ => ⟨fun _ => ⟨Or.inl rfl, vi, trivial⟩, fun _ => ⟨Or.inr rfl, vi, trivial⟩⟩, fun _ => ⟨Or.inr rfl, vi, trivial⟩⟩
  · refine mp_k.mpr ⟨w_eq, fun k hk z => ?_⟩
    show (a_w (a_w Q1 650 22 (bI c')) 666 (5 * t + v) (nI (tyN (joP P S)))).1 667 (4 * (5 * t + v) + k) = _
    rw [w_ne (by decide), w_ne (by decide)]
    exact r7 k (by omega) hk z
  · rw [w_ne (by decide), w_eq]
  · rw [f2]
    constructor
    · rintro (z | z)
      · exact r5 z
      · right
        intro le
        exact z (by rw [leP_jo le])
    · rintro (z | z)
      · exact Or.inl (r4 z)
      · by_cases ty : nI (tyN (joP P S)) = nI (tyN P)
        · left
          obtain ⟨t1, t2, t3, t4⟩ := tyN_inj ty
          -- some bound is beyond
          have key : ∀ k, k = 0 ∨ k = 2 → isE (joR (rgK k P) (rgK k S)) = isE (rgK k P) → ¬ leR (rgK k S) (rgK k P) → c1 = true := by
            intro k hk e1 nl
            have okp := rgK_ok (k := k) hP
            have oks := rgK_ok (k := k) hS
            have sE : isE (rgK k S) = false := by
              cases hh : isE (rgK k S) with
              | false => rfl
              | true => exact absurd (by rw [isE_eR oks hh]; exact eR_le okp) nl
            have pE' : isE (rgK k P) = false := by
              rw [isE_jo okp oks, sE, Bool.and_false] at e1
              exact e1.symm
            have : (rgK k S).1 < (rgK k P).1 ∨ (rgK k P).2 < (rgK k S).2 := by
              unfold leR at nl; omega
            have rk : rgK (k + 1) P = rgK k P ∧ rgK (k + 1) S = rgK k S := by
              unfold rgK; rcases hk with rfl | rfl <;> exact ⟨rfl, rfl⟩
            rcases this with w | w
            · exact r6 k (by omega) (by omega) pE' sE (by unfold btK; rw [if_pos hk]; exact w)
            · refine r6 (k + 1) (by omega) (by omega) (by rw [rk.1]; exact pE') (by rw [rk.2]; exact sE) ?_
              unfold btK
              rw [if_neg (by omega), rk.1, rk.2]; exact w
          by_cases l1 : leR S.1 P.1
          · by_cases l2 : leR S.2.1 P.2.1
            · exfalso
              refine z ⟨l1, l2, fun w => ?_, fun w => ?_⟩
              · rw [← t3]; show (P.2.2.1 || S.2.2.1) = true; rw [w]; simp
              · rw [← t4]; show (P.2.2.2 || S.2.2.2) = true; rw [w]; simp
            · exact key 2 (Or.inr rfl) t2 l2
          · exact key 0 (Or.inl rfl) t1 l1
        · exact Or.inr ty
  · rw [w_get, if_neg a, w_get, if_neg d, r8 x y (by omega) d]
end
