/-! the model looks through -/
section
variable {q Q : aQ} {nE n m e : Nat} {o p : Nat → Nat} {σ τ : Nat → Nat → Pc} {A B R : Nat → Bool} {c : Bool} {x y : Nat → Pc}
def goodR (R : Nat → Bool) (σ : Nat → Nat → Pc) : Prop := ∀ p, p < 25 → R p = true → full (σ p)
/-- a loop that writes one row -/
theorem fillN {B : Int32 × aQ → (Int32 × aQ) ⊕ aQ} {SB : Int32 × aQ → Prop} (N d : Nat) (w : Int32) (he : ∀ Q, B (nI N, Q) = .inr Q ∧ SB (nI N, Q)) (hs : ∀ Q k, k < N → B (nI k, Q) = .inl (nI (k + 1), a_w Q d k w) ∧ SB (nI k, Q)) : ∀ j k Q F, k + j = N → j < F → ∃ Q', a_sf B SB F (nI k, Q) ∧ a_it B F (nI k, Q) = some Q' ∧ (∀ i, k ≤ i → i < N → Q'.1 d i = w) ∧ (∀ c x, ¬ c = d → Q'.1 c x = Q.1 c x) ∧ (∀ x, x < k → Q'.1 d x = Q.1 d x) ∧ Q'.2 = Q.2 := by
  intro j
  induction j with
  | zero =>
    intro k Q F hk hF
    obtain ⟨F, rfl⟩ : ∃ k, F = k + 1 := ⟨F - 1, by omega⟩
    have e : k = N := by omega
    subst e
    exact ⟨Q, sf_e (he Q).1 (he Q).2, it_e (he Q).1, fun i a b => by omega, fun _ _ _ => rfl, fun _ _ => rfl, rfl⟩
  | succ j ih =>
    intro k Q F hk hF
    obtain ⟨F, rfl⟩ : ∃ k, F = k + 1 := ⟨F - 1, by omega⟩
    obtain ⟨s1, s2⟩ := hs Q k (by omega)
    obtain ⟨Q', r1, r2, r3, r4, r5, r6⟩ := ih (k + 1) (a_w Q d k w) F (by omega) (by omega)
    refine ⟨Q', sf_s s1 s2 r1, (it_s s1).trans r2, fun i a b => ?_, fun c x z => by rw [r4 c x z, w_ne z], fun x z => by rw [r5 x (by omega), w_nk (by omega)], r6⟩
    by_cases e : i = k
    · subst e; rw [r5 i (by omega), w_eq]
    · exact r3 i (by omega) b
theorem F132_eq : S132_0 q ∧ (∀ i, i < 25 → (F132_0 q).1 665 i = 0) ∧ (∀ i, i < 120 → (F132_0 q).1 668 i = 0) ∧ (∀ c j, ¬ c = 665 → ¬ c = 668 → (F132_0 q).1 c j = q.1 c j) ∧ (F132_0 q).2 = q.2 := by
  have l25 : (25 : Int32) ≤ nI 25 := by decide
  have l120 : (120 : Int32) ≤ nI 120 := by decide
  obtain ⟨Q1, a1, a2, a3, a4, -, a5⟩ := fillN (B := fun z => F132_2 z.1 z.2) (SB := fun z => S132_2 z.1 z.2) 25 665 0 (fun Q => ⟨by show F132_2 (nI 25) Q = _; unfold F132_2; rw [if_pos l25], by show S132_2 (nI 25) Q; exact ⟨fun _ => trivial, fun z => absurd l25 z⟩⟩) (fun Q k hk => by
    have nl : ¬ (25 : Int32) ≤ nI k := nI_ge (b := 25) hk (by decide)
    have ck : (nI k).toNatClampNeg = k := nI_clamp (by omega)
    exact ⟨by show F132_2 (nI k) Q = _; unfold F132_2; rw [if_neg nl, ck, nI_1], by show S132_2 (nI k) Q; exact ⟨fun z => absurd z nl, fun _ => ⟨vp_in_nI hk (by decide), trivial⟩⟩⟩) 25 0 q 200 rfl (by decide)
  obtain ⟨Q2, b1, b2, b3, b4, -, b5⟩ := fillN (B := fun z => F132_23 z.1 z.2) (SB := fun z => S132_23 z.1 z.2) 120 668 0 (fun Q => ⟨by show F132_23 (nI 120) Q = _; unfold F132_23; rw [if_pos l120], by show S132_23 (nI 120) Q; exact ⟨fun _ => trivial, fun z => absurd l120 z⟩⟩) (fun Q k hk => by
    have nl := n120 hk
    have ck : (nI k).toNatClampNeg = k := nI_clamp (by omega)
    exact ⟨by show F132_23 (nI k) Q = _; unfold F132_23; rw [if_neg nl, ck, nI_1], by show S132_23 (nI k) Q; exact ⟨fun z => absurd z nl, fun _ => ⟨vp_in_nI hk (by decide), trivial⟩⟩⟩) 120 0 Q1 200 rfl (by decide)
  have a2' : a_it (fun (z : Int32 × aQ) => F132_2 z.1 z.2) 200 (0, q) = some Q1 := a2
  have b2' : a_it (fun (z : Int32 × aQ) => F132_23 z.1 z.2) 200 (0, Q1) = some Q2 := b2
  unfold S132_0 F132_0
  rw [a_lp_eq a2']
  unfold S132_21 F132_21 F132_42
  dsimp only
  rw [a_lp_eq b2']
  refine ⟨⟨a1, b1, trivial⟩, fun i hi => ?_, fun i hi => b3 i (by omega) hi, fun c j y z => by rw [b4 c j z, a4 c j y], b5.trans a5⟩
  rw [b4 665 i (by decide)]; exact a3 i (by omega) hi
/-- a round of the model -/
def rndM (q : aQ) (n k : Nat) (σ : Nat → Nat → Pc) (A : Nat → Bool) (c : Bool) (σ' : Nat → Nat → Pc) (A' R' : Nat → Bool) (c' : Bool) : Prop := goodR R' σ' ∧ leF σ σ' ∧ leA A A' ∧ (∀ μ B, okF μ → leF σ μ → leA A B → clo q n μ B → leF σ' μ ∧ leA A' B) ∧ (c' = true ↔ c = true ∨ ∃ p, p < 25 ∧ chg σ σ' p) ∧ ((∀ p, p < 25 → ¬ chg σ σ' p) → ∀ s, k ≤ s → s < n → cAt q σ' A' s)
theorem roundM (hE : iE q nE) (h : iP q nE n m o p) {v1 : Int32} : ∀ j k Q σ A R c F, k + j = n → j < F → memM q Q σ A R c → goodR R σ → ∃ Q' σ' A' R' c', a_sf (fun (z : Int32 × aQ) => F175_70 v1 z.1 z.2) (fun (z : Int32 × aQ) => S175_70 v1 z.1 z.2) F (nI k, Q) ∧ a_it (fun (z : Int32 × aQ) => F175_70 v1 z.1 z.2) F (nI k, Q) = some Q' ∧ memM q Q' σ' A' R' c' ∧ rndM q n k σ A c σ' A' R' c' := by
  have h24 := h.1
  intro j
  induction j with
  | zero =>
    intro k Q σ A R c F hk hF hM hg
    obtain ⟨F, rfl⟩ : ∃ k, F = k + 1 := ⟨F - 1, by omega⟩
    have c5 : Q.1 650 5 = nI n := by rw [hM.2.2.2.2.2.2.2.1 5 (by omega)]; exact h.2.2.2.1
    have le : nI n ≤ nI k := nI_le (by omega) (by omega)
    have e : F175_70 v1 (nI k) Q = .inr Q := by unfold F175_70; rw [c5, if_pos le]
    have S : S175_70 v1 (nI k) Q := by unfold S175_70; rw [c5]; exact ⟨fun _ => trivial, fun z => absurd le z⟩
    exact ⟨Q, σ, A, R, c, sf_e e S, it_e e, hM, hg, leF.rf, fun _ _ => id, fun _ _ _ a b _ => ⟨a, b⟩, ⟨Or.inl, fun z => z.elim id (fun ⟨p, _, v, _, ne⟩ => absurd rfl ne)⟩, fun _ s a b => by omega⟩
  | succ j ih =>
    intro k Q σ A R c F hk hF hM hg
    obtain ⟨F, rfl⟩ : ∃ k, F = k + 1 := ⟨F - 1, by omega⟩
    have hs : k < n := by omega
    have c5 : Q.1 650 5 = nI n := by rw [hM.2.2.2.2.2.2.2.1 5 (by omega)]; exact h.2.2.2.1
    have le : ¬ nI n ≤ nI k := nI_ge hs (by omega)
    have ck : (nI k).toNatClampNeg = k := nI_clamp (by omega)
    have vk : vp_in (nI k) 25 := vp_in_nI (by omega) (by decide)
    have w665 := hM.1 k (by omega)
    cases hr : R k with
    | false =>
      rw [hr] at w665
      have z0 : Q.1 665 k = 0 := w665
      have e : F175_70 v1 (nI k) Q = .inl (nI (k + 1), Q) := by unfold F175_70 F175_92; rw [c5, if_neg le, ck, if_pos z0, nI_1]
      have S : S175_70 v1 (nI k) Q := by unfold S175_70 S175_92; rw [c5, ck]; exact ⟨fun z => absurd z le, fun _ => ⟨vk, fun _ => trivial, fun z => absurd z0 z⟩⟩
      obtain ⟨Q', σ', A', R', c', r1, r2, r3, r4, r5, r6, r7, r8, r9⟩ := ih (k + 1) Q σ A R c F (by omega) (by omega) hM hg
      refine ⟨Q', σ', A', R', c', sf_s e S r1, (it_s (B := fun (z : Int32 × aQ) => F175_70 v1 z.1 z.2) (s := (nI k, Q)) e).trans r2, r3, r4, r5, r6, r7, r8, fun ng s a b => ?_⟩
      by_cases es : s = k
      · subst es
        rintro ⟨v, hv, ne⟩
        rw [chg_no (ng s (by omega)) hv] at ne
        exact absurd (hM.2.2.1 s (by omega) hr v hv) ne
      · exact r9 ng s (by omega) b
    | true =>
      rw [hr] at w665
      have z0 : ¬ Q.1 665 k = 0 := by rw [w665]; decide
      obtain ⟨t1, σ1, A1, R1, c1, M1, R1', D1⟩ := F174_eq hE h hs hM hg hr
      have e : F175_70 v1 (nI k) Q = .inl (nI (k + 1), F174_0 (nI k) Q) := by unfold F175_70 F175_92; rw [c5, if_neg le, ck, if_neg z0, nI_1]
      have S : S175_70 v1 (nI k) Q := by unfold S175_70 S175_92; rw [c5, ck]; exact ⟨fun z => absurd z le, fun _ => ⟨vk, fun z => absurd z z0, fun _ => ⟨t1, trivial⟩⟩⟩
      obtain ⟨a1, a2, a3, a4, a5⟩ := R1'
      obtain ⟨Q', σ', A', R', c', r1, r2, r3, r4, r5, r6, r7, r8, r9⟩ := ih (k + 1) (F174_0 (nI k) Q) σ1 A1 R1 c1 F (by omega) (by omega) M1 a5
      have ng2 : (∀ p, p < 25 → ¬ chg σ σ' p) → (∀ p, p < 25 → ¬ chg σ σ1 p) ∧ ∀ p, p < 25 → ¬ chg σ1 σ' p := fun z => ⟨fun p hp c => z p hp ((chg_mid hp a1 r5).mp (Or.inl c)), fun p hp c => z p hp ((chg_mid hp a1 r5).mp (Or.inr c))⟩
      refine ⟨Q', σ', A', R', c', sf_s e S r1, (it_s (B := fun (z : Int32 × aQ) => F175_70 v1 z.1 z.2) (s := (nI k, Q)) e).trans r2, r3, r4, a1.tr r5, fun i hi z => r6 i hi (a2 i hi z), fun μ B x y w d => ?_, ?_, fun ng s a b => ?_⟩
      · obtain ⟨u1, u2⟩ := a3 μ B x y w (d k hs)
        exact r7 μ B x u1 u2 d
      · rw [r8, a4]
        constructor
        · rintro ((z | ⟨p, hp, z⟩) | ⟨p, hp, z⟩)
          · exact Or.inl z
          · exact Or.inr ⟨p, hp, (chg_mid hp a1 r5).mp (Or.inl z)⟩
          · exact Or.inr ⟨p, hp, (chg_mid hp a1 r5).mp (Or.inr z)⟩
        · rintro (z | ⟨p, hp, z⟩)
          · exact Or.inl (Or.inl z)
          · rcases (chg_mid hp a1 r5).mpr z with w | w
            · exact Or.inl (Or.inr ⟨p, hp, w⟩)
            · exact Or.inr ⟨p, hp, w⟩
      · obtain ⟨n1, n2⟩ := ng2 ng
        by_cases es : s = k
        · subst es
          have k1 : cAt q σ1 A1 s := don_cAt hE h hs (fun v hv => chg_no (n1 s (by omega)) hv) D1
          exact cAt_keep hE h hs r5 r6 (fun v hv => chg_no (n2 s (by omega)) hv) M1.ok r3.ok k1
        · exact r9 n2 s (by omega) b
theorem memM_c (hM : memM q Q σ A R c) (b : Bool) : memM q (a_w Q 650 22 (bI b)) σ A R b := by
  obtain ⟨h1, h2, h3, h4, h5, h6, h7, h8, h9⟩ := hM
  exact ⟨fun p hp => by rw [w_ne (by decide)]; exact h1 p hp, fun p hp z v hv => (h2 p hp z v hv).fr (w_ne (by decide)) (fun k _ => w_ne (by decide)), h3, fun i hi => by rw [w_ne (by decide)]; exact h4 i hi, h5, w_eq, fun a j z => by rw [w_ne (by omega)]; exact h7 a j z, fun j z => by rw [w_nk (by omega)]; exact h8 j z, h9⟩
theorem roundsM (hE : iE q nE) (h : iP q nE n m o p) : ∀ N r Q σ A R F, 17250 - SZa σ ≤ N → r + N + 2 ≤ 20000 → N + 2 ≤ F → memM q Q σ A R true → goodR R σ → ∃ Q' σ' A' R', a_sf (fun (z : Int32 × aQ) => F175_49 z.1 z.2) (fun (z : Int32 × aQ) => S175_49 z.1 z.2) F (nI r, Q) ∧ a_it (fun (z : Int32 × aQ) => F175_49 z.1 z.2) F (nI r, Q) = some Q' ∧ memM q Q' σ' A' R' false ∧ goodR R' σ' ∧ leastF q n σ A σ' A' := by
  have h24 := h.1
  have one : ∀ r Q σ A R, r < 20000 → memM q Q σ A R true → goodR R σ → ∃ Q' σ' A' R' c', F175_49 (nI r) Q = .inl (nI (r + 1), Q') ∧ S175_49 (nI r) Q ∧ memM q Q' σ' A' R' c' ∧ rndM q n 0 σ A false σ' A' R' c' := by
    intro r Q σ A R hr hM hg
    have n1 : ¬ (20000 : Int32) ≤ nI r := nI_ge (b := 20000) hr (by decide)
    have n2 : ¬ Q.1 650 22 = 0 := by rw [hM.2.2.2.2.2.1]; decide
    have M0 : memM q (a_w Q 650 22 0) σ A R false := memM_c hM false
    obtain ⟨Q', σ', A', R', c', r1, r2, r3, r4⟩ := roundM (v1 := nI r) hE h n 0 (a_w Q 650 22 0) σ A R false 200 (by omega) (by omega) M0 hg
    have r2' : a_it (fun (z : Int32 × aQ) => F175_70 (nI r) z.1 z.2) 200 (0, a_w Q 650 22 0) = some Q' := r2
    refine ⟨Q', σ', A', R', c', ?_, ?_, r3, r4⟩
    · unfold F175_49 F175_98
      rw [if_neg n1, if_neg n2, a_lp_eq r2', nI_1]
    · unfold S175_49 S175_98
      exact ⟨fun z => absurd z n1, fun _ => ⟨fun z => absurd z n2, fun _ => ⟨r1, trivial⟩⟩⟩
  have fin : ∀ r Q σ A R F, r < 20000 → memM q Q σ A R false → a_sf (fun (z : Int32 × aQ) => F175_49 z.1 z.2) (fun (z : Int32 × aQ) => S175_49 z.1 z.2) (F + 1) (nI r, Q) ∧ a_it (fun (z : Int32 × aQ) => F175_49 z.1 z.2) (F + 1) (nI r, Q) = some Q := by
    intro r Q σ A R F hr hM
    have n1 : ¬ (20000 : Int32) ≤ nI r := nI_ge (b := 20000) hr (by decide)
    have n2 : Q.1 650 22 = 0 := by rw [hM.2.2.2.2.2.1]; rfl
    have e : F175_49 (nI r) Q = .inr Q := by unfold F175_49; rw [if_neg n1, if_pos n2]
    exact ⟨sf_e e ⟨fun z => absurd z n1, fun _ => ⟨fun _ => trivial, fun z => absurd n2 z⟩⟩, it_e e⟩
  intro N
  induction N with
  | zero =>
    intro r Q σ A R F hN hr hF hM hg
    obtain ⟨F, rfl⟩ : ∃ k, F = k + 1 + 1 := ⟨F - 2, by omega⟩
    obtain ⟨Q1, σ1, A1, R1, c1, e1, S1, M1, g1, l1, m1, u1, i1, k1⟩ := one r Q σ A R (by omega) hM hg
    have ng : ∀ p, p < 25 → ¬ chg σ σ1 p := fun p hp c => by
      have := SZa_le hM.ok M1.ok l1
      have := this.2.2 ⟨p, hp, c⟩
      omega
    have c0 : c1 = false := by
      cases c1 with
      | false => rfl
      | true =>
        rcases i1.mp rfl with z | ⟨p, hp, z⟩
        · cases z
        · exact absurd z (ng p hp)
    subst c0
    obtain ⟨a, b⟩ := fin (r + 1) Q1 σ1 A1 R1 F (by omega) M1
    exact ⟨Q1, σ1, A1, R1, sf_s e1 S1 a, (it_s (B := fun (z : Int32 × aQ) => F175_49 z.1 z.2) (s := (nI r, Q)) e1).trans b, M1, g1, fun s hs => k1 ng s (Nat.zero_le s) hs, l1, m1, u1⟩
  | succ N ih =>
    intro r Q σ A R F hN hr hF hM hg
    obtain ⟨F, rfl⟩ : ∃ k, F = k + 2 + 1 := ⟨F - 3, by omega⟩
    obtain ⟨Q1, σ1, A1, R1, c1, e1, S1, M1, g1, l1, m1, u1, i1, k1⟩ := one r Q σ A R (by omega) hM hg
    cases c1 with
    | false =>
      have ng : ∀ p, p < 25 → ¬ chg σ σ1 p := fun p hp z => by have := i1.mpr (Or.inr ⟨p, hp, z⟩); cases this
      obtain ⟨a, b⟩ := fin (r + 1) Q1 σ1 A1 R1 (F + 1) (by omega) M1
      exact ⟨Q1, σ1, A1, R1, sf_s e1 S1 a, (it_s (B := fun (z : Int32 × aQ) => F175_49 z.1 z.2) (s := (nI r, Q)) e1).trans b, M1, g1, fun s hs => k1 ng s (Nat.zero_le s) hs, l1, m1, u1⟩
    | true =>
      have gr : SZa σ < SZa σ1 := by
        refine (SZa_le hM.ok M1.ok l1).2.2 ?_
        rcases i1.mp rfl with z | z
        · cases z
        · exact z
      obtain ⟨Q', σ', A', R', r1, r2, r3, r4, r5, r6, r7, r8⟩ := ih (r + 1) Q1 σ1 A1 R1 (F + 2) (by omega) (by omega) (by omega) M1 g1
      exact ⟨Q', σ', A', R', sf_s e1 S1 r1, (it_s (B := fun (z : Int32 × aQ) => F175_49 z.1 z.2) (s := (nI r, Q)) e1).trans r2, r3, r4, r5, l1.tr r6, fun i hi z => r7 i hi (m1 i hi z), fun μ B a b c d => by
        obtain ⟨x, y⟩ := u1 μ B a b c d
        exact r8 μ B a x y d⟩
theorem F175_cnt (h : ∀ i, i < 120 → Q.1 668 i = bI (A i)) : ∀ j k F, k + j = 120 → j < F → a_sf (fun (s : Int32 × Int32 × aQ) => F175_108 s.1 s.2.1 s.2.2) (fun (s : Int32 × Int32 × aQ) => S175_108 s.1 s.2.1 s.2.2) F (nI (cnt A k), nI k, Q) ∧ a_it (fun (s : Int32 × Int32 × aQ) => F175_108 s.1 s.2.1 s.2.2) F (nI (cnt A k), nI k, Q) = some (nI (cnt A 120), Q) := by
  intro j
  induction j with
  | zero =>
    intro k F hk hF
    obtain ⟨F, rfl⟩ : ∃ k, F = k + 1 := ⟨F - 1, by omega⟩
    have e25 : k = 120 := by omega
    subst e25
    have l : (120 : Int32) ≤ nI 120 := by decide
    have e : F175_108 (nI (cnt A 120)) (nI 120) Q = .inr (nI (cnt A 120), Q) := by unfold F175_108; rw [if_pos l]
    exact ⟨sf_e e ⟨fun _ => trivial, fun z => absurd l z⟩, it_e e⟩
  | succ j ih =>
    intro k F hk hF
    obtain ⟨F, rfl⟩ : ∃ k, F = k + 1 := ⟨F - 1, by omega⟩
    have l := n120 (k := k) (by omega)
    have ck : (nI k).toNatClampNeg = k := nI_clamp (by omega)
    have vk : vp_in (nI k) 120 := vp_in_nI (by omega) (by decide)
    have hb := h k (by omega)
    have e : F175_108 (nI (cnt A k)) (nI k) Q = .inl (nI (cnt A (k + 1)), nI (k + 1), Q) := by
      unfold F175_108 F175_130
      rw [if_neg l, ck, hb, nI_1]
      show _ = Sum.inl (nI (cnt A k + (if A k = true then 1 else 0)), nI (k + 1), Q)
      cases A k with
      | false => rw [if_pos (show bI false = 0 from rfl), if_neg (by decide)]; rfl
      | true => rw [if_neg (show ¬ bI true = 0 by decide), if_pos rfl, nI_1]
    have S : S175_108 (nI (cnt A k)) (nI k) Q := by
      unfold S175_108 S175_130
      exact ⟨fun z => absurd z l, fun _ => ⟨vk, fun _ => trivial, fun _ => trivial⟩⟩
    obtain ⟨r1, r2⟩ := ih (k + 1) F (by omega) (by omega)
    exact ⟨sf_s e S r1, (it_s (B := fun (s : Int32 × Int32 × aQ) => F175_108 s.1 s.2.1 s.2.2) (s := (nI (cnt A k), nI k, Q)) e).trans r2⟩
theorem F175_eq (hE : iE q nE) (h : iP q nE n 0 o p) : S175_0 q ∧ ∃ Q' σ A R, F175_0 q = (nI (cnt A 120), Q') ∧ memM q Q' σ A R false ∧ goodR R σ ∧ isLk q n σ A := by
  have h24 := h.1
  have c14 : q.1 650 14 = 0 := h.2.2.2.2.2.1
  obtain ⟨f1, f2, f3, f4, f5⟩ := F132_eq (q := q)
  obtain ⟨Q1, a1, a2, a3, a4, -, a5⟩ := fillN (B := fun z => F175_15 z.1 z.2) (SB := fun z => S175_15 z.1 z.2) 5 669 8 (fun Q => ⟨by show F175_15 (nI 5) Q = _; unfold F175_15; rw [if_pos l5], by show S175_15 (nI 5) Q; exact ⟨fun _ => trivial, fun z => absurd l5 z⟩⟩) (fun Q k hk => by
    obtain ⟨ck, vk⟩ := cl5 hk
    exact ⟨by show F175_15 (nI k) Q = _; unfold F175_15; rw [if_neg (n5 hk), ck, nI_1], by show S175_15 (nI k) Q; exact ⟨fun z => absurd z (n5 hk), fun _ => ⟨vk, trivial⟩⟩⟩) 5 0 (F132_0 q) 200 rfl (by decide)
  have a2' : a_it (fun (z : Int32 × aQ) => F175_15 z.1 z.2) 200 (0, F132_0 q) = some Q1 := a2
  have M1 : memM q (a_w Q1 650 22 1) σ00 noA noA true := by
    refine ⟨fun p hp => by rw [w_ne (by decide), a4 665 p (by decide)]; exact f2 p hp, fun p hp z => (by cases z), fun p hp _ v hv => rfl, fun i hi => by rw [w_ne (by decide), a4 668 i (by decide)]; exact f3 i hi, σ00_ok, w_eq, fun c j z => by rw [w_ne (by omega), a4 c j (by omega), f4 c j (by omega) (by omega)], fun j z => by rw [w_nk (by omega), a4 650 j (by decide), f4 650 j (by decide) (by decide)], fun c j _ => by show Q1.2 c j = _; rw [a5, f5]⟩
  have H1 : hereAt (a_w Q1 650 22 1) (fun _ => unbP) := by
    intro v hv
    refine ⟨?_, fun z => (by cases z), fun z => (by cases z)⟩
    show (a_w Q1 650 22 1).1 669 v = nI (tyN unbP)
    rw [w_ne (by decide), a3 v (by omega) hv]; rfl
  obtain ⟨-, f150⟩ := F41_eq (M1.iP h)
  have stl := sta_ok (n := n)
  obtain ⟨k1, c1, k2, k3, k4, k5⟩ := F172_eq (t := sta n) (by omega) M1 unb_ok H1
  have c1t : c1 = true := k4.mpr (Or.inl rfl)
  subst c1t
  have G2 : goodR (onR noA (sta n)) (ini n) := by
    intro p hp hr v hv
    unfold onR at hr
    by_cases e : p = sta n
    · unfold ini gro
      rw [if_pos e]
      intro z
      have := congrArg (fun p : Pc => p.2.2.2) z
      cases this
    · rw [if_neg e] at hr; cases hr
  obtain ⟨Q', σ, A, R, r1, r2, r3, r4, r5⟩ := roundsM hE h 17250 0 (F172_0 (nI (sta n)) (a_w Q1 650 22 1)) (ini n) noA (onR noA (sta n)) 20001 (by omega) (by omega) (by omega) k2 G2
  have r2' : a_it (fun (z : Int32 × aQ) => F175_49 z.1 z.2) 20001 (0, F172_0 (nI (sta n)) (a_w Q1 650 22 1)) = some Q' := r2
  obtain ⟨s1, s2⟩ := F175_cnt r3.2.2.2.1 120 0 200 rfl (by decide)
  have s2' : a_it (fun (s : Int32 × Int32 × aQ) => F175_108 s.1 s.2.1 s.2.2) 200 (0, 0, Q') = some (nI (cnt A 120), Q') := s2
  have l0 : (0 : Int32) ≤ 0 := by decide
  refine ⟨?_, Q', σ, A, R, ?_, r3, r4, r3.ok, r5⟩
  · unfold S175_0
    rw [c14]
    refine ⟨fun _ => ⟨f1, ?_⟩, fun z => absurd l0 z⟩
    unfold S175_13
    rw [a_lp_eq a2']
    refine ⟨a1, ?_⟩
    unfold S175_34 S175_47 S175_104
    dsimp only
    rw [f150, a_lp_eq r2', a_lp_eq s2']
    exact ⟨⟨fun _ => trivial, fun _ => trivial⟩, k1, r1, s1, trivial⟩
  · unfold F175_0
    rw [c14, if_pos l0]
    unfold F175_13
    rw [a_lp_eq a2']
    unfold F175_34 F175_47 F175_104 F175_137
    dsimp only
    rw [f150, a_lp_eq r2', a_lp_eq s2']
end
