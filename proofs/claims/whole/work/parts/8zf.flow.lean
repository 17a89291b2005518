/-! the model's states: loading, flowing, raising -/
/-- what looking through leaves alone -/
def frMM (q Q : aQ) : Prop := (∀ c j, c < 650 ∨ (651 ≤ c ∧ c ≤ 664) ∨ 680 ≤ c → Q.1 c j = q.1 c j) ∧ (∀ j, ¬ (j = 22 ∨ j = 29 ∨ j = 32 ∨ j = 35 ∨ j = 37) → Q.1 650 j = q.1 650 j) ∧ (∀ c j, ¬ (c = 650 ∧ j = 38) → Q.2 c j = q.2 c j)
/-- the model's memory shows states σ, alarms A, reached places R, the flag c -/
def memM (q Q : aQ) (σ : Nat → Nat → Pc) (A R : Nat → Bool) (c : Bool) : Prop := (∀ p, p < 25 → Q.1 665 p = bI (R p)) ∧ (∀ p, p < 25 → R p = true → ∀ v, v < 5 → mpAt Q 666 667 (5 * p + v) (σ p v)) ∧ (∀ p, p < 25 → R p = false → ∀ v, v < 5 → σ p v = eP) ∧ (∀ i, i < 120 → Q.1 668 i = bI (A i)) ∧ okF σ ∧ Q.1 650 22 = bI c ∧ frMM q Q
section
variable {q Q : aQ} {nE n m : Nat} {o p : Nat → Nat} {σ : Nat → Nat → Pc} {A R : Nat → Bool} {c : Bool} {x y : Nat → Pc}
theorem memM.fh {Q' : aQ} (h : memM q Q σ A R c) (u : frH Q Q') : memM q Q' σ A R c := by
  obtain ⟨h1, h2, h3, h4, h5, h6, h7, h8, h9⟩ := h
  refine ⟨fun p hp => by rw [u.1 665 p (by omega) (by omega)]; exact h1 p hp, fun p hp z v hv => (h2 p hp z v hv).fr (u.1 666 _ (by omega) (by omega)) (fun k _ => u.1 667 _ (by omega) (by omega)), h3, fun i hi => by rw [u.1 668 i (by omega) (by omega)]; exact h4 i hi, h5, by rw [u.1 650 22 (by omega) (by omega)]; exact h6, fun c j z => by rw [u.1 c j (by omega) (by omega)]; exact h7 c j z, fun j z => by rw [u.1 650 j (by omega) (by omega)]; exact h8 j z, fun c j z => by rw [u.2 c j z]; exact h9 c j z⟩
theorem frX.fh {q q1 : aQ} (h : frX q q1) : frH q q1 := ⟨fun c j x y => h.1 c j (by omega) (by omega), h.2⟩
theorem frL.fh {q q1 : aQ} (h : frL q q1) : frH q q1 := ⟨fun c j x y => h.1 c j (by omega) (by omega) (by omega), fun c j _ => by rw [h.2]⟩
theorem frL.fx {q q1 : aQ} (h : frL q q1) : frX q q1 := ⟨fun c j x y => h.1 c j (by omega) (by omega) (by omega), fun c j _ => by rw [h.2]⟩
theorem memM.iE (f : memM q Q σ A R c) (h : iE q nE) : iE Q nE := iE_fr (fun c j z => by
  rcases z with z | z | z
  · exact f.2.2.2.2.2.2.1 c j (by omega)
  · exact f.2.2.2.2.2.2.1 c j (by omega)
  · rw [z.1]; exact f.2.2.2.2.2.2.2.1 j (by omega)) h
theorem memM.iP (f : memM q Q σ A R c) (h : iP q nE n m o p) : iP Q nE n m o p := iP_fr (fun c j z => by
  rcases z with z | z | z
  · exact f.2.2.2.2.2.2.1 c j (by omega)
  · exact f.2.2.2.2.2.2.1 c j (by omega)
  · rw [z.1]; exact f.2.2.2.2.2.2.2.1 j (by omega)) h
theorem memM.bh (f : memM q Q σ A R c) (s : Nat) : bh Q s = bh q s := bh_fr (fun c j a b => f.2.2.2.2.2.2.1 c j (by omega)) s
theorem memM.en (f : memM q Q σ A R c) (s b : Nat) : en Q s b = en q s b := en_fr (fun c j a b => f.2.2.2.2.2.2.1 c j (by omega)) s b
theorem memM.ct (f : memM q Q σ A R c) (s : Nat) (k : Int32) : ct Q s k = ct q s k := ct_fr (fun c j a b => f.2.2.2.2.2.2.1 c j (by omega)) s k
theorem memM.ex (f : memM q Q σ A R c) : ∀ c j, 651 ≤ c ∧ c ≤ 654 → Q.1 c j = q.1 c j := fun c j z => f.2.2.2.2.2.2.1 c j (by omega)
theorem memM.ok (f : memM q Q σ A R c) : okF σ := f.2.2.2.2.1
theorem F170_eq {s : Nat} (hs : s < 25) (hM : memM q Q σ A R c) (hR : R s = true) : S170_0 (nI s) Q ∧ frH Q (F170_0 (nI s) Q) ∧ hereAt (F170_0 (nI s) Q) (σ s) := by
  obtain ⟨Q1, a1, a2, a3, a4, a5, -⟩ := copyN (B := fun z => F170_2 (nI s) z.1 z.2) (SB := fun z => S170_2 (nI s) z.1 z.2) 5 669 0 666 (5 * s) (fun _ => True) (by decide) (fun _ _ _ _ _ => trivial) (fun Q _ => ⟨by show F170_2 (nI s) (nI 5) Q = _; unfold F170_2; rw [if_pos l5], by show S170_2 (nI s) (nI 5) Q; exact ⟨fun _ => trivial, fun z => absurd l5 z⟩⟩) (fun Q k hk _ => by
    have ix : 5 * nI s + nI k = nI (5 * s + k) := by rw [show (5 : Int32) = nI 5 from rfl, pk_mul, nI_add]
    have c1 : (nI (5 * s + k)).toNatClampNeg = 5 * s + k := nI_clamp (by omega)
    have v1 : vp_in (nI (5 * s + k)) 125 := vp_in_nI (by omega) (by decide)
    obtain ⟨ck, vk⟩ := cl5 hk
    refine ⟨?_, ?_⟩
    · show F170_2 (nI s) (nI k) Q = _
      unfold F170_2
      rw [if_neg (n5 hk), ix, c1, ck, nI_1, Nat.zero_add]
    · show S170_2 (nI s) (nI k) Q
      unfold S170_2
      rw [ix]
      exact ⟨fun z => absurd z (n5 hk), fun _ => ⟨v1, vk, trivial⟩⟩) 5 0 Q 200 rfl (by decide) trivial
  have l20 : (20 : Int32) ≤ nI 20 := by decide
  obtain ⟨Q2, b1, b2, b3, b4, b5, -⟩ := copyN (B := fun z => F170_31 (nI s) z.1 z.2) (SB := fun z => S170_31 (nI s) z.1 z.2) 20 670 0 667 (20 * s) (fun _ => True) (by decide) (fun _ _ _ _ _ => trivial) (fun Q _ => ⟨by show F170_31 (nI s) (nI 20) Q = _; unfold F170_31; rw [if_pos l20], by show S170_31 (nI s) (nI 20) Q; exact ⟨fun _ => trivial, fun z => absurd l20 z⟩⟩) (fun Q k hk _ => by
    have ix : 20 * nI s + nI k = nI (20 * s + k) := by rw [show (20 : Int32) = nI 20 from rfl, pk_mul, nI_add]
    have c1 : (nI (20 * s + k)).toNatClampNeg = 20 * s + k := nI_clamp (by omega)
    have v1 : vp_in (nI (20 * s + k)) 500 := vp_in_nI (by omega) (by decide)
    have ck : (nI k).toNatClampNeg = k := nI_clamp (by omega)
    have vk : vp_in (nI k) 20 := vp_in_nI hk (by decide)
    have nl : ¬ (20 : Int32) ≤ nI k := nI_ge (b := 20) hk (by decide)
    refine ⟨?_, ?_⟩
    · show F170_31 (nI s) (nI k) Q = _
      unfold F170_31
      rw [if_neg nl, ix, c1, ck, nI_1, Nat.zero_add]
    · show S170_31 (nI s) (nI k) Q
      unfold S170_31
      rw [ix]
      exact ⟨fun z => absurd z nl, fun _ => ⟨v1, vk, trivial⟩⟩) 20 0 Q1 200 rfl (by decide) trivial
  have a2' : a_it (fun (z : Int32 × aQ) => F170_2 (nI s) z.1 z.2) 200 (0, Q) = some Q1 := a2
  have b2' : a_it (fun (z : Int32 × aQ) => F170_31 (nI s) z.1 z.2) 200 (0, Q1) = some Q2 := b2
  unfold S170_0 F170_0
  rw [a_lp_eq a2']
  unfold S170_29 F170_29 F170_60
  dsimp only
  rw [a_lp_eq b2']
  refine ⟨⟨a1, b1, trivial⟩, ⟨fun c j x y => by rw [b4 c j (by omega), a4 c j (by omega)], fun c j _ => by rw [b5, a5]⟩, fun v hv => ?_⟩
  refine mp_cong (hM.2.1 s hs hR v hv) ?_ (fun k hk => ?_)
  · have := a3 v (by omega) hv
    rw [Nat.zero_add] at this
    rw [b4 669 v (by omega)]; exact this
  · have := b3 (4 * v + k) (by omega) (by omega)
    rw [Nat.zero_add] at this
    show Q2.1 670 (4 * v + k) = Q.1 667 (4 * (5 * s + v) + k)
    rw [this, a4 667 _ (by omega), show 20 * s + (4 * v + k) = 4 * (5 * s + v) + k by omega]
theorem fl_loop {t : Nat} (ht : t < 25) (oσ : okF σ) (hy : stOk y) (hR0 : R t = false → ∀ v, v < 5 → σ t v = eP) : ∀ j v Q c F, v + j = 5 → j < F → Q.1 665 t = bI (R t) → Q.1 650 22 = bI c → hereAt Q y → (R t = true → ∀ u, v ≤ u → u < 5 → mpAt Q 666 667 (5 * t + u) (σ t u)) → ∃ Q' c', a_sf (fun (s : Int32 × aQ) => F172_2 (nI t) s.1 s.2) (fun (s : Int32 × aQ) => S172_2 (nI t) s.1 s.2) F (nI v, Q) ∧ a_it (fun (s : Int32 × aQ) => F172_2 (nI t) s.1 s.2) F (nI v, Q) = some Q' ∧ Q'.1 650 22 = bI c' ∧ (c' = true ↔ c = true ∨ ∃ u, v ≤ u ∧ u < 5 ∧ ¬ leP (y u) (σ t u)) ∧ (∀ u, v ≤ u → u < 5 → mpAt Q' 666 667 (5 * t + u) (joP (σ t u) (y u))) ∧ (∀ a b, ¬ (a = 666 ∧ 5 * t + v ≤ b ∧ b < 5 * t + 5) → ¬ (a = 667 ∧ 4 * (5 * t + v) ≤ b ∧ b < 4 * (5 * t + 5)) → ¬ (a = 650 ∧ b = 22) → Q'.1 a b = Q.1 a b) ∧ Q'.2 = Q.2 := by
  have ct : (nI t).toNatClampNeg = t := nI_clamp (by omega)
  have vt : vp_in (nI t) 25 := vp_in_nI ht (by decide)
  intro j
  induction j with
  | zero =>
    intro v Q c F hk hF h665 h22 hh hm
    obtain ⟨F, rfl⟩ : ∃ k, F = k + 1 := ⟨F - 1, by omega⟩
    have e5 : v = 5 := by omega
    subst e5
    have e : F172_2 (nI t) (nI 5) Q = .inr Q := by unfold F172_2; rw [if_pos l5]
    exact ⟨Q, c, sf_e e ⟨fun _ => trivial, fun z => absurd l5 z⟩, it_e e, h22, ⟨Or.inl, fun z => z.elim id (fun ⟨u, a, b, _⟩ => by omega)⟩, fun u a b => by omega, fun _ _ _ _ _ => rfl, rfl⟩
  | succ j ih =>
    intro v Q c F hk hF h665 h22 hh hm
    obtain ⟨F, rfl⟩ : ∃ k, F = k + 1 := ⟨F - 1, by omega⟩
    have hv : v < 5 := by omega
    have ix : 5 * nI t + nI v = nI (5 * t + v) := by rw [show (5 : Int32) = nI 5 from rfl, pk_mul, nI_add]
    have ci : (nI (5 * t + v)).toNatClampNeg = 5 * t + v := nI_clamp (by omega)
    have vi : vp_in (nI (5 * t + v)) 125 := vp_in_nI (by omega) (by decide)
    have hp : mp (nI (tyN (σ t v))) (fun k => Q.1 667 (4 * (5 * t + v) + k)) (σ t v) := by
      cases hr : R t with
      | true =>
        have := hm hr v (Nat.le_refl v) hv
        exact ⟨rfl, this.2⟩
      | false =>
        rw [hR0 hr v hv]
        exact ⟨rfl, fun z => (by cases z), fun z => (by cases z)⟩
    obtain ⟨Q1, c1, s1, s2, s3, s4, s5, s6, s7⟩ := jv_eq ht hv (oσ t ht v hv) (hy v hv) h22 (hh v hv) hp
    have e : F172_2 (nI t) (nI v) Q = .inl (nI (v + 1), Q1) := by
      unfold F172_2
      rw [if_neg (n5 hv), ct, h665, ix, ci]
      cases hr : R t with
      | true =>
        rw [if_neg (show ¬ bI true = 0 by decide), (hm hr v (Nat.le_refl v) hv).1]; exact s1
      | false =>
        rw [if_pos (show bI false = 0 from rfl)]
        rw [hR0 hr v hv] at s1; exact s1
    have S : S172_2 (nI t) (nI v) Q := by
      unfold S172_2
      rw [ct, h665, ix, ci]
      refine ⟨fun z => absurd z (n5 hv), fun _ => ⟨vt, fun z => ?_, fun z => ⟨vi, ?_⟩⟩⟩
      · have hr : R t = false := bI_t.mp z
        rw [hR0 hr v hv] at s2; exact s2
      · have hr : R t = true := by cases hr : R t; rw [hr] at z; exact absurd (show bI false = 0 from rfl) z; rfl
        rw [(hm hr v (Nat.le_refl v) hv).1]; exact s2
    obtain ⟨Q', c', r1, r2, r3, r4, r5, r6, r7⟩ := ih (v + 1) Q1 c1 F (by omega) (by omega) (by rw [s6 665 t (by omega) (by omega) (by omega)]; exact h665) s4 (fun u hu => (hh u hu).fr (s6 669 u (by omega) (by omega) (by omega)) (fun k _ => s6 670 _ (by omega) (by omega) (by omega))) (fun hr u a b => (hm hr u (by omega) b).fr (s6 666 _ (by omega) (by omega) (by omega)) (fun k hk => s6 667 _ (by omega) (by omega) (by omega)))
    refine ⟨Q', c', sf_s e S r1, (it_s (B := fun (s : Int32 × aQ) => F172_2 (nI t) s.1 s.2) (s := (nI v, Q)) e).trans r2, r3, ?_, fun u a b => ?_, fun a b y z w => by rw [r6 a b (by omega) (by omega) w, s6 a b (by omega) (by omega) w], r7.trans s7⟩
    · rw [r4, s5]
      constructor
      · rintro ((z | z) | ⟨u, a, b, d⟩)
        · exact Or.inl z
        · exact Or.inr ⟨v, Nat.le_refl v, hv, z⟩
        · exact Or.inr ⟨u, by omega, b, d⟩
      · rintro (z | ⟨u, a, b, d⟩)
        · exact Or.inl (Or.inl z)
        · by_cases eu : u = v
          · subst eu; exact Or.inl (Or.inr d)
          · exact Or.inr ⟨u, by omega, b, d⟩
    · by_cases eu : u = v
      · subst eu
        exact s3.fr (r6 666 _ (by omega) (by omega) (by omega)) (fun k hk => r6 667 _ (by omega) (by omega) (by omega))
      · exact r5 u (by omega) b
def onR (R : Nat → Bool) (t : Nat) : Nat → Bool := fun p => if p = t then true else R p
/-- the state here flows to t -/
theorem F172_eq {t : Nat} (ht : t < 25) (hM : memM q Q σ A R c) (hy : stOk y) (hh : hereAt Q y) : S172_0 (nI t) Q ∧ ∃ c', memM q (F172_0 (nI t) Q) (gro σ t y) A (onR R t) c' ∧ hereAt (F172_0 (nI t) Q) y ∧ (c' = true ↔ c = true ∨ R t = false ∨ ∃ u, u < 5 ∧ ¬ leP (y u) (σ t u)) ∧ (∀ a b, 669 ≤ a ∧ a ≤ 679 → (F172_0 (nI t) Q).1 a b = Q.1 a b) := by
  have ct : (nI t).toNatClampNeg = t := nI_clamp (by omega)
  have vt : vp_in (nI t) 25 := vp_in_nI ht (by decide)
  obtain ⟨h1, h2, h3, h4, h5, h6, h7, h8, h9⟩ := hM
  obtain ⟨Q1, c1, r1, r2, r3, r4, r5, r6, r7⟩ := fl_loop (R := R) ht h5 hy (h3 t ht) 5 0 Q c 200 rfl (by decide) (h1 t ht) h6 hh (fun hr u _ hu => h2 t ht hr u hu)
  have r2' : a_it (fun (s : Int32 × aQ) => F172_2 (nI t) s.1 s.2) 200 (0, Q) = some Q1 := r2
  have q665 : Q1.1 665 t = bI (R t) := by rw [r6 665 t (by omega) (by omega) (by omega)]; exact h1 t ht
  have F : ∃ c', F172_169 (nI t) Q1 = a_w (a_w Q1 650 22 (bI c')) 665 t 1 ∧ (c' = true ↔ c1 = true ∨ R t = false) ∧ S172_169 (nI t) Q1 := by
    unfold F172_169 F172_186 F172_191 S172_169 S172_186 S172_191
    rw [r3, ct, q665]
    have S : ∀ k : Int32, k = 0 ∨ k = 1 → (k = 0 ∨ k = 1) ∧ vp_in (nI t) 25 ∧ True := fun k hk => ⟨hk, vt, trivial⟩
    cases c1 with
    | true =>
      rw [if_neg (show ¬ bI true = 0 by decide)]
      exact ⟨true, rfl, ⟨fun _ => Or.inl rfl, fun _ => rfl⟩, fun z => absurd z (by decide), fun _ => S 1 (Or.inr rfl)⟩
    | false =>
      rw [if_pos (show bI false = 0 from rfl)]
      cases hr : R t with
      | false =>
        rw [if_pos (show bI false = 0 from rfl)]
        exact ⟨true, rfl, ⟨fun _ => Or.inr rfl, fun _ => rfl⟩, fun _ => ⟨vt, fun _ => S 1 (Or.inr rfl), fun z => absurd (show bI false = 0 from rfl) z⟩, fun z => absurd (show bI false = 0 from rfl) z⟩
      | true =>
        rw [if_neg (show ¬ bI true = 0 by decide)]
        exact ⟨false, rfl, ⟨fun z => (by cases z), fun z => z.elim (fun z => by cases z) (fun z => by cases z)⟩, fun _ => ⟨vt, fun z => absurd z (by decide), fun _ => S 0 (Or.inl rfl)⟩, fun z => absurd (show bI false = 0 from rfl) z⟩
  obtain ⟨c', f1, f2, f3⟩ := F
  unfold S172_0 F172_0
  rw [a_lp_eq r2']
  dsimp only
  rw [f1]
  have fr : ∀ a b, ¬ a = 665 → ¬ a = 666 → ¬ a = 667 → ¬ (a = 650 ∧ b = 22) → (a_w (a_w Q1 650 22 (bI c')) 665 t 1).1 a b = Q.1 a b := fun a b x y z w => by rw [w_ne x, w_get, if_neg w, r6 a b (by omega) (by omega) w]
  refine ⟨⟨r1, f3⟩, c', ⟨fun p hp => ?_, fun p hp hr v hv => ?_, fun p hp hr v hv => ?_, fun i hi => ?_, gro_ok h5 hy, ?_, fun a b z => ?_, fun b z => ?_, fun a b z => ?_⟩, fun u hu => ?_, ?_, fun a b z => fr a b (by omega) (by omega) (by omega) (by omega)⟩
  · unfold onR
    by_cases e : p = t
    · subst e; rw [w_eq, if_pos rfl]; rfl
    · rw [w_nk e, if_neg e, w_ne (by decide), r6 665 p (by omega) (by omega) (by omega)]; exact h1 p hp
  · by_cases e : p = t
    · subst e
      unfold gro
      rw [if_pos rfl]
      exact (r5 v (by omega) hv).fr (by rw [w_ne (by decide), w_ne (by decide)]) (fun k _ => by rw [w_ne (by decide), w_ne (by decide)])
    · rw [gro_same e]
      unfold onR at hr
      rw [if_neg e] at hr
      exact (h2 p hp hr v hv).fr (by rw [w_ne (by decide), w_ne (by decide), r6 666 _ (by omega) (by omega) (by omega)]) (fun k hk => by rw [w_ne (by decide), w_ne (by decide), r6 667 _ (by omega) (by omega) (by omega)])
  · unfold onR at hr
    by_cases e : p = t
    · rw [if_pos e] at hr; cases hr
    · rw [if_neg e] at hr
      rw [gro_same e]; exact h3 p hp hr v hv
  · rw [fr 668 i (by decide) (by decide) (by decide) (by omega)]; exact h4 i hi
  · rw [w_ne (by decide), w_eq]
  · rw [fr a b (by omega) (by omega) (by omega) (by omega)]; exact h7 a b z
  · rw [fr 650 b (by decide) (by decide) (by decide) (by omega)]; exact h8 b z
  · show Q1.2 a b = q.2 a b
    rw [r7]; exact h9 a b z
  · exact (hh u hu).fr (fr 669 u (by decide) (by decide) (by decide) (by omega)) (fun k _ => fr 670 _ (by decide) (by decide) (by decide) (by omega))
  · rw [f2, r4]
    constructor
    · rintro ((z | ⟨u, -, a, b⟩) | z)
      · exact Or.inl z
      · exact Or.inr (Or.inr ⟨u, a, b⟩)
      · exact Or.inr (Or.inl z)
    · rintro (z | z | ⟨u, a, b⟩)
      · exact Or.inl (Or.inl z)
      · exact Or.inr z
      · exact Or.inl (Or.inr ⟨u, Nat.zero_le u, a, b⟩)
end
