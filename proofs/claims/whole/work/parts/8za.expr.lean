/-! the model pictures an expression with all its parts -/
/-- what picturing changes -/
def frX (q q' : aQ) : Prop := (∀ c j, ¬ (671 ≤ c ∧ c ≤ 679) → ¬ (c = 650 ∧ (j = 29 ∨ j = 32 ∨ j = 35 ∨ j = 37)) → q'.1 c j = q.1 c j) ∧ (∀ c j, ¬ (c = 650 ∧ j = 38) → q'.2 c j = q.2 c j)
theorem frX.rf {q : aQ} : frX q q := ⟨fun _ _ _ _ => rfl, fun _ _ _ => rfl⟩
theorem frX.tr {q q1 q2 : aQ} (h : frX q q1) (k : frX q1 q2) : frX q q2 := ⟨fun c j x y => (k.1 c j x y).trans (h.1 c j x y), fun c j x => (k.2 c j x).trans (h.2 c j x)⟩
theorem frQ.fx {e : Nat} {q q1 : aQ} (h : frQ e q q1) : frX q q1 := ⟨fun c j x y => h.1 c j (by omega) (by omega) (by omega) (by omega), h.2⟩
theorem hereAt.fx {Q Q1 : aQ} {x : Nat → Pc} (h : hereAt Q x) (u : frX Q Q1) : hereAt Q1 x := fun v hv => (h v hv).fr (u.1 669 v (by omega) (by omega)) (fun k _ => u.1 670 _ (by omega) (by omega))
section
variable {q Q : aQ} {nE e : Nat} {x : Nat → Pc}
theorem F166_a (he : e < 60) : ∀ j k Q F, k + j = e + 1 → j < F → ∃ Q', a_sf (fun (s : Int32 × aQ) => F166_2 (nI e) s.1 s.2) (fun (s : Int32 × aQ) => S166_2 (nI e) s.1 s.2) F (nI k, Q) ∧ a_it (fun (s : Int32 × aQ) => F166_2 (nI e) s.1 s.2) F (nI k, Q) = some Q' ∧ (k ≤ e → Q'.1 674 e = 1) ∧ (∀ c j, ¬ c = 674 → Q'.1 c j = Q.1 c j) ∧ Q'.2 = Q.2 := by
  intro j
  induction j with
  | zero =>
    intro k Q F hk hF
    obtain ⟨F, rfl⟩ : ∃ k, F = k + 1 := ⟨F - 1, by omega⟩
    have lt : nI e < nI k := nI_lt (by omega) (by omega)
    have e1 : F166_2 (nI e) (nI k) Q = .inr Q := by unfold F166_2; rw [if_pos lt]
    exact ⟨Q, sf_e e1 ⟨fun _ => trivial, fun z => absurd lt z⟩, it_e e1, fun z => by omega, fun _ _ _ => rfl, rfl⟩
  | succ j ih =>
    intro k Q F hk hF
    obtain ⟨F, rfl⟩ : ∃ k, F = k + 1 := ⟨F - 1, by omega⟩
    have lt : ¬ nI e < nI k := nI_nlt (by omega) (by omega)
    have ck : (nI k).toNatClampNeg = k := nI_clamp (by omega)
    have vk : vp_in (nI k) 60 := vp_in_nI (by omega) (by decide)
    have eq : nI k = nI e ↔ k = e := nI_eq (by omega) (by omega)
    by_cases c : k = e
    · have e1 : F166_2 (nI e) (nI k) Q = .inl (nI (k + 1), a_w Q 674 k 1) := by unfold F166_2 F166_22; rw [if_neg lt, if_pos (eq.mpr c), ck, nI_1]
      have S : S166_2 (nI e) (nI k) Q := ⟨fun z => absurd z lt, fun _ => ⟨fun _ => ⟨vk, Or.inr rfl, trivial⟩, fun z => absurd (eq.mpr c) z⟩⟩
      obtain ⟨Q', r1, r2, r3, r4, r5⟩ := ih (k + 1) (a_w Q 674 k 1) F (by omega) (by omega)
      have j0 : j = 0 := by omega
      subst j0
      refine ⟨Q', sf_s e1 S r1, (it_s (B := fun (s : Int32 × aQ) => F166_2 (nI e) s.1 s.2) (s := (nI k, Q)) e1).trans r2, fun _ => ?_, fun c j z => by rw [r4 c j z, w_ne z], r5⟩
      -- the loop ends here
      have lt2 : nI e < nI (k + 1) := nI_lt (by omega) (by omega)
      have e2 : F166_2 (nI e) (nI (k + 1)) (a_w Q 674 k 1) = .inr (a_w Q 674 k 1) := by unfold F166_2; rw [if_pos lt2]
      obtain ⟨F, rfl⟩ : ∃ k, F = k + 1 := ⟨F - 1, by omega⟩
      have := (it_e (B := fun (s : Int32 × aQ) => F166_2 (nI e) s.1 s.2) (s := (nI (k + 1), a_w Q 674 k 1)) (n := F) e2).symm.trans r2
      injection this with this
      rw [← this, ← c, w_eq]
    · have e1 : F166_2 (nI e) (nI k) Q = .inl (nI (k + 1), a_w Q 674 k 0) := by unfold F166_2 F166_22; rw [if_neg lt, if_neg (fun z => c (eq.mp z)), ck, nI_1]
      have S : S166_2 (nI e) (nI k) Q := ⟨fun z => absurd z lt, fun _ => ⟨fun z => absurd (eq.mp z) c, fun _ => ⟨vk, Or.inl rfl, trivial⟩⟩⟩
      obtain ⟨Q', r1, r2, r3, r4, r5⟩ := ih (k + 1) (a_w Q 674 k 0) F (by omega) (by omega)
      exact ⟨Q', sf_s e1 S r1, (it_s (B := fun (s : Int32 × aQ) => F166_2 (nI e) s.1 s.2) (s := (nI k, Q)) e1).trans r2, fun _ => r3 (by omega), fun c j z => by rw [r4 c j z, w_ne z], r5⟩
/-- wanted parts of k are wanted -/
def wclo (q Q : aQ) (k : Nat) : Prop := ¬ Q.1 674 k = 0 → ¬ q.1 2 k = -1 → ¬ Q.1 674 (lft q k) = 0 ∧ (opn q k ≤ 5 → ¬ Q.1 674 (rgt q k) = 0)
/-- writes of 1 at places below -/
theorem wclo_keep {Q1 : aQ} {k l : Nat} (h : wclo q Q k) (hk : l ≤ k) (g : ∀ j, Q1.1 674 j = Q.1 674 j ∨ (j < l ∧ Q1.1 674 j = 1)) : wclo q Q1 k := by
  have up : ∀ j, ¬ Q.1 674 j = 0 → ¬ Q1.1 674 j = 0 := by
    intro j hj
    rcases g j with z | z
    · rw [z]; exact hj
    · rw [z.2]; decide
  intro a b
  have a' : ¬ Q.1 674 k = 0 := by
    rcases g k with z | z
    · rw [← z]; exact a
    · omega
  obtain ⟨c, d⟩ := h a' b
  exact ⟨up _ c, fun z => up _ (d z)⟩
theorem F166_b (hE : iE q nE) (he : e < nE) : ∀ k Q F, k ≤ e + 1 → k < F → (∀ c j, 651 ≤ c ∧ c ≤ 654 → Q.1 c j = q.1 c j) → (∀ i, k ≤ i → i ≤ e → wclo q Q i) → ∃ Q', a_sf (fun (s : Int32 × aQ) => F166_31 (nI e) s.1 s.2) (fun (s : Int32 × aQ) => S166_31 (nI e) s.1 s.2) F (nI k - 1, Q) ∧ a_it (fun (s : Int32 × aQ) => F166_31 (nI e) s.1 s.2) F (nI k - 1, Q) = some Q' ∧ (∀ i, i ≤ e → wclo q Q' i) ∧ (∀ j, ¬ Q.1 674 j = 0 → ¬ Q'.1 674 j = 0) ∧ (∀ c j, ¬ c = 674 → Q'.1 c j = Q.1 c j) ∧ Q'.2 = Q.2 := by
  have h60 := hE.1
  intro k
  induction k with
  | zero =>
    intro Q F hk hF ex hw
    obtain ⟨F, rfl⟩ : ∃ k, F = k + 1 := ⟨F - 1, by omega⟩
    have lt : nI 0 - 1 < 0 := by decide
    have e1 : F166_31 (nI e) (nI 0 - 1) Q = .inr Q := by unfold F166_31; rw [if_pos lt]
    exact ⟨Q, sf_e e1 ⟨fun _ => trivial, fun z => absurd lt z⟩, it_e e1, fun i hi => hw i (by omega) hi, fun _ => id, fun _ _ _ => rfl, rfl⟩
  | succ k ih =>
    intro Q F hk hF ex hw
    obtain ⟨F, rfl⟩ : ∃ k, F = k + 1 := ⟨F - 1, by omega⟩
    have ks : nI (k + 1) - 1 = nI k := nI_s1
    have lt : ¬ nI k < 0 := nI_pos (by omega)
    have ck : (nI k).toNatClampNeg = k := nI_clamp (by omega)
    have vk : vp_in (nI k) 60 := vp_in_nI (by omega) (by decide)
    have nx : nI k + -1 = nI k - 1 := by rw [Int32.sub_eq_add_neg]
    rw [ks]
    -- the step, to Q1 with k closed
    have st : ∃ Q1, F166_31 (nI e) (nI k) Q = .inl (nI k - 1, Q1) ∧ S166_31 (nI e) (nI k) Q ∧ wclo q Q1 k ∧ (∀ j, Q1.1 674 j = Q.1 674 j ∨ (j < k ∧ Q1.1 674 j = 1)) ∧ (∀ c j, ¬ c = 674 → Q1.1 c j = Q.1 c j) ∧ Q1.2 = Q.2 := by
      unfold F166_31 F166_90 S166_31 S166_90
      rw [if_neg lt, ck, nx]
      by_cases w0 : Q.1 674 k = 0
      · rw [if_pos w0]
        exact ⟨Q, rfl, ⟨fun z => absurd z lt, fun _ => ⟨vk, fun _ => trivial, fun z => absurd w0 z⟩⟩, fun z => absurd w0 z, fun _ => Or.inl rfl, fun _ _ _ => rfl, rfl⟩
      · rw [if_neg w0]
        by_cases lf : q.1 2 k = -1
        · obtain ⟨l0, l1, -⟩ := leaf_of hE (show k < nE by omega) lf
          have l10 : Q.1 651 k < 10 := by rw [ex 651 k (by omega), l1]; exact leaf_lt10 l0
          rw [if_pos l10]
          exact ⟨Q, rfl, ⟨fun z => absurd z lt, fun _ => ⟨vk, fun z => absurd z w0, fun _ => ⟨vk, fun _ => trivial, fun z => absurd l10 z⟩⟩⟩, fun _ z => absurd lf z, fun _ => Or.inl rfl, fun _ _ _ => rfl, rfl⟩
        · obtain ⟨w, wa, o1, o2, o3, o4, o5, o6, o7, o8, -⟩ := op_of hE (show k < nE by omega) lf
          have x651 : Q.1 651 k = nI (10 + opn q k) := by rw [ex 651 k (by omega)]; exact o5
          have x652 : Q.1 652 k = nI (lft q k) := by rw [ex 652 k (by omega)]; exact o7
          have ca : (nI (lft q k)).toNatClampNeg = lft q k := nI_clamp (by omega)
          have va : vp_in (nI (lft q k)) 60 := vp_in_nI (by omega) (by decide)
          have nl : ¬ nI (10 + opn q k) < (10 : Int32) := nI_nlt (b := 10) (by omega) (by omega)
          have r651 : ∀ y, (a_w Q 674 (lft q k) y).1 651 k = nI (10 + opn q k) := fun y => by rw [w_ne (by decide)]; exact x651
          have r653 : ∀ y, (a_w Q 674 (lft q k) y).1 653 k = q.1 653 k := fun y => by rw [w_ne (by decide)]; exact ex 653 k (by omega)
          rw [x651, x652, ca, if_neg nl]
          by_cases g6 : 6 ≤ opn q k
          · have g16 : (16 : Int32) ≤ nI (10 + opn q k) := nI_le (a := 16) (by omega) (by omega)
            rw [if_pos g16]
            refine ⟨a_w Q 674 (lft q k) 1, rfl, ?_, fun _ _ => ⟨by rw [w_eq]; decide, fun z => by omega⟩, fun j => ?_, fun c j z => w_ne z, rfl⟩
            · exact ⟨fun z => absurd z lt, fun _ => ⟨vk, fun z => absurd z w0, fun _ => ⟨vk, fun z => absurd z nl, fun _ => ⟨vk, va, vk, fun _ => trivial, fun z => absurd g16 z⟩⟩⟩⟩
            · by_cases e : j = lft q k
              · subst e; exact Or.inr ⟨o2, w_eq⟩
              · exact Or.inl (w_nk e)
          · obtain ⟨p8, p9⟩ := o8 (by omega)
            have o3' := o3 (by omega)
            have cb : (nI (rgt q k)).toNatClampNeg = rgt q k := nI_clamp (by omega)
            have vb : vp_in (nI (rgt q k)) 60 := vp_in_nI (by omega) (by decide)
            have g16 : ¬ (16 : Int32) ≤ nI (10 + opn q k) := nI_ge (b := 16) (by omega) (by decide)
            have x653 : Q.1 653 k = nI (rgt q k) := by rw [ex 653 k (by omega)]; exact p9
            rw [if_neg g16, x653, cb]
            refine ⟨a_w (a_w Q 674 (lft q k) 1) 674 (rgt q k) 1, rfl, ?_, fun _ _ => ⟨?_, fun _ => by rw [w_eq]; decide⟩, fun j => ?_, fun c j z => by rw [w_ne z, w_ne z], rfl⟩
            · exact ⟨fun z => absurd z lt, fun _ => ⟨vk, fun z => absurd z w0, fun _ => ⟨vk, fun z => absurd z nl, fun _ => ⟨vk, va, vk, fun z => absurd z g16, fun _ => ⟨vk, vb, trivial⟩⟩⟩⟩⟩
            · rw [w_at]; split
              · decide
              · rw [w_eq]; decide
            · by_cases e : j = rgt q k
              · subst e; exact Or.inr ⟨o3', w_eq⟩
              · rw [w_nk e]
                by_cases e2 : j = lft q k
                · subst e2; exact Or.inr ⟨o2, w_eq⟩
                · exact Or.inl (w_nk e2)
    obtain ⟨Q1, e1, S1, c1, c2, c3, c4⟩ := st
    obtain ⟨Q', r1, r2, r3, r4, r5, r6⟩ := ih Q1 F (by omega) (by omega) (fun c j z => by rw [c3 c j (by omega)]; exact ex c j z) (fun i a b => by
      by_cases ei : i = k
      · subst ei; exact c1
      · exact wclo_keep (l := k) (hw i (by omega) b) (by omega) c2)
    refine ⟨Q', sf_s e1 S1 r1, (it_s (B := fun (s : Int32 × aQ) => F166_31 (nI e) s.1 s.2) (s := (nI k, Q)) e1).trans r2, r3, fun j hj => r4 j ?_, fun c j z => by rw [r5 c j z, c3 c j z], r6.trans c4⟩
    rcases c2 j with z | z
    · rw [z]; exact hj
    · rw [z.2]; decide
theorem F166_c (hE : iE q nE) (he : e < nE) (hx : stOk x) : ∀ j k Q F, k + j = e + 1 → j < F → (∀ c j, 651 ≤ c ∧ c ≤ 654 → Q.1 c j = q.1 c j) → hereAt Q x → (∀ i, i ≤ e → wclo q Q i) → (∀ i, i < k → ¬ Q.1 674 i = 0 → mpE Q i (PE q x i)) → ∃ Q', a_sf (fun (s : Int32 × aQ) => F166_98 (nI e) s.1 s.2) (fun (s : Int32 × aQ) => S166_98 (nI e) s.1 s.2) F (nI k, Q) ∧ a_it (fun (s : Int32 × aQ) => F166_98 (nI e) s.1 s.2) F (nI k, Q) = some Q' ∧ frX Q Q' ∧ (∀ i, Q'.1 674 i = Q.1 674 i) ∧ (∀ i, i ≤ e → ¬ Q.1 674 i = 0 → mpE Q' i (PE q x i)) := by
  have h60 := hE.1
  intro j
  induction j with
  | zero =>
    intro k Q F hk hF ex hh hw hp
    obtain ⟨F, rfl⟩ : ∃ k, F = k + 1 := ⟨F - 1, by omega⟩
    have lt : nI e < nI k := nI_lt (by omega) (by omega)
    have e1 : F166_98 (nI e) (nI k) Q = .inr Q := by unfold F166_98; rw [if_pos lt]
    exact ⟨Q, sf_e e1 ⟨fun _ => trivial, fun z => absurd lt z⟩, it_e e1, frX.rf, fun _ => rfl, fun i hi z => hp i (by omega) z⟩
  | succ j ih =>
    intro k Q F hk hF ex hh hw hp
    obtain ⟨F, rfl⟩ : ∃ k, F = k + 1 := ⟨F - 1, by omega⟩
    have lt : ¬ nI e < nI k := nI_nlt (by omega) (by omega)
    have ck : (nI k).toNatClampNeg = k := nI_clamp (by omega)
    have vk : vp_in (nI k) 60 := vp_in_nI (by omega) (by decide)
    have hkE : k < nE := by omega
    have st : ∃ Q1, F166_98 (nI e) (nI k) Q = .inl (nI (k + 1), Q1) ∧ S166_98 (nI e) (nI k) Q ∧ frQ k Q Q1 ∧ (¬ Q.1 674 k = 0 → mpE Q1 k (PE q x k)) := by
      unfold F166_98 F166_131 F166_128 F166_145 S166_98 S166_131 S166_128 S166_145
      rw [if_neg lt, ck, nI_1]
      by_cases w0 : Q.1 674 k = 0
      · rw [if_pos w0, if_pos w0]
        exact ⟨Q, rfl, ⟨fun z => absurd z lt, fun _ => ⟨vk, fun _ => ⟨vk, fun _ => trivial, fun z => absurd w0 z⟩, fun z => absurd w0 z⟩⟩, ⟨fun _ _ _ _ _ _ => rfl, fun _ _ _ => rfl⟩, fun z => absurd w0 z⟩
      · rw [if_neg w0, if_neg w0]
        by_cases lf : q.1 2 k = -1
        · obtain ⟨l0, l1, -⟩ := leaf_of hE hkE lf
          have l10 : ¬ (10 : Int32) ≤ Q.1 651 k := by rw [ex 651 k (by omega), l1]; exact Int32.not_le.mpr (leaf_lt10 l0)
          obtain ⟨k1, k2, k3⟩ := F164_eq hE hkE lf ex hx hh
          rw [if_neg l10]
          refine ⟨_, rfl, ⟨fun z => absurd z lt, fun _ => ⟨vk, fun z => absurd z w0, fun _ => ⟨vk, fun z => absurd z l10, fun _ => ⟨k1, trivial⟩⟩⟩⟩, k2, fun _ => ?_⟩
          rw [PE_lf lf]; exact k3
        · obtain ⟨w, wa, o1, o2, o3, o4, o5, -⟩ := op_of hE hkE lf
          have l10 : (10 : Int32) ≤ Q.1 651 k := by rw [ex 651 k (by omega), o5]; exact nI_le (a := 10) (by omega) (by omega)
          obtain ⟨c1, c2⟩ := hw k (by omega) w0 lf
          obtain ⟨k1, k2, k3⟩ := F165_eq hE hkE lf ex hx (hp _ o2 c1) (fun z => hp _ (o3 z) (c2 z))
          rw [if_pos l10]
          exact ⟨_, rfl, ⟨fun z => absurd z lt, fun _ => ⟨vk, fun z => absurd z w0, fun _ => ⟨vk, fun _ => ⟨vk, fun z => absurd z w0, fun _ => ⟨k1, trivial⟩⟩, fun z => absurd l10 z⟩⟩⟩, k2, fun _ => k3⟩
    obtain ⟨Q1, e1, S1, u1, m1⟩ := st
    have w674 : ∀ i, Q1.1 674 i = Q.1 674 i := fun i => u1.1 674 i (by omega) (by omega) (by omega) (by omega)
    have wc1 : ∀ i, i ≤ e → wclo q Q1 i := fun i hi => by
      have := hw i hi
      unfold wclo at this ⊢
      rw [w674, w674, w674]; exact this
    obtain ⟨Q', r1, r2, r3, r4, r5⟩ := ih (k + 1) Q1 F (by omega) (by omega) (fun c j z => by rw [u1.1 c j (by omega) (by omega) (by omega) (by omega)]; exact ex c j z) (hh.fq u1) wc1 (fun i hi z => by
      rw [w674] at z
      by_cases ei : i = k
      · subst ei; exact m1 z
      · exact (hp i (by omega) z).fr u1 ei)
    exact ⟨Q', sf_s e1 S1 r1, (it_s (B := fun (s : Int32 × aQ) => F166_98 (nI e) s.1 s.2) (s := (nI k, Q)) e1).trans r2, u1.fx.tr r3, fun i => (r4 i).trans (w674 i), fun i hi z => r5 i hi (by rw [w674]; exact z)⟩
/-- the pictures of e and of its parts -/
theorem F166_eq (hE : iE q nE) (he : e < nE) (hx : stOk x) (ex : ∀ c j, 651 ≤ c ∧ c ≤ 654 → Q.1 c j = q.1 c j) (hh : hereAt Q x) : S166_0 (nI e) Q ∧ frX Q (F166_0 (nI e) Q) ∧ mpE (F166_0 (nI e) Q) e (PE q x e) ∧ (¬ q.1 2 e = -1 → opn q e ≤ 5 → mpE (F166_0 (nI e) Q) (rgt q e) (PE q x (rgt q e))) := by
  have h60 := hE.1
  obtain ⟨Q1, a1, a2, a3, a4, a5⟩ := F166_a (e := e) (by omega) (e + 1) 0 Q 200 (by omega) (by omega)
  obtain ⟨Q2, b1, b2, b3, b4, b5, b6⟩ := F166_b hE he (e + 1) Q1 200 (by omega) (by omega) (fun c j z => by rw [a4 c j (by omega)]; exact ex c j z) (fun i x y => by omega)
  have u1 : frX Q Q2 := ⟨fun c j x y => by rw [b5 c j (by omega), a4 c j (by omega)], fun c j _ => by rw [b6, a5]⟩
  obtain ⟨Q3, c1, c2, c3, c4, c5⟩ := F166_c hE he hx (e + 1) 0 Q2 200 (by omega) (by omega) (fun c j z => by rw [u1.1 c j (by omega) (by omega)]; exact ex c j z) (hh.fx u1) b3 (fun i z => by omega)
  have a2' : a_it (fun (s : Int32 × aQ) => F166_2 (nI e) s.1 s.2) 200 (0, Q) = some Q1 := a2
  have se : nI (e + 1) - 1 = nI e := nI_s1
  rw [se] at b1 b2
  have c2' : a_it (fun (s : Int32 × aQ) => F166_98 (nI e) s.1 s.2) 200 (0, Q2) = some Q3 := c2
  have we : ¬ Q2.1 674 e = 0 := b4 e (by rw [a3 (by omega)]; decide)
  unfold S166_0 F166_0
  rw [a_lp_eq a2']
  unfold S166_29 F166_29
  dsimp only
  rw [a_lp_eq b2]
  unfold S166_96 F166_96 F166_151
  dsimp only
  rw [a_lp_eq c2']
  refine ⟨⟨a1, b1, c1, trivial⟩, u1.tr c3, c5 e (by omega) we, fun h o5 => ?_⟩
  obtain ⟨w, wa, o1, o2, o3, -⟩ := op_of hE he h
  have o3' := o3 o5
  exact c5 (rgt q e) (by omega) ((b3 e (by omega) we h).2 o5)
end
