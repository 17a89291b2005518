/-! looking through: both sides -/
/-- what is known of the last look -/
def iL (q : aQ) (n m : Nat) : Prop := (∃ σ A R, shw q σ A R ∧ (q.1 19 7 = nI n → m = 0 ∧ isLk q n σ A ∧ q.1 19 6 = nI (cnt A 120))) ∧ (q.1 19 7 = -1 ∨ ∃ n', n' ≤ n ∧ q.1 19 7 = nI n')
/-- what a look changes -/
def frY (q Q : aQ) : Prop := (∀ c j, c < 19 ∨ (647 ≤ c ∧ c < 650) ∨ (651 ≤ c ∧ c ≤ 664) ∨ 680 ≤ c → Q.1 c j = q.1 c j) ∧ (∀ j, ¬ (j = 22 ∨ j = 29 ∨ j = 32 ∨ j = 35 ∨ j = 37) → Q.1 650 j = q.1 650 j) ∧ (∀ c j, ¬ (c = 650 ∧ j = 38) → Q.2 c j = q.2 c j)
section
variable {l : Launch} {X : aX} {q Q : aQ} {nE n m : Nat} {o p : Nat → Nat} {σ : Nat → Nat → Pc} {A R : Nat → Bool}
theorem shw.fr (h : shw q σ A R) (r : ∀ c j, c = 39 ∨ (222 ≤ c ∧ c ≤ 646) ∨ (665 ≤ c ∧ c ≤ 668) → Q.1 c j = q.1 c j) : shw Q σ A R := by
  obtain ⟨h1, h2, h3, h4, h5, h6⟩ := h
  refine ⟨fun p hp => (h1 p hp).fr (fun c j z => r c j (by omega)), fun i hi => (r 39 i (by omega)).trans (h2 i hi), fun p hp => (r 665 p (by omega)).trans (h3 p hp), fun p hp z v hv => (h4 p hp z v hv).fr (r 666 _ (by omega)) (fun k _ => r 667 _ (by omega)), h5, fun i hi => (r 668 i (by omega)).trans (h6 i hi)⟩
theorem iL.fr (h : iL q n m) (hS : same q Q n) (r : ∀ c j, c = 19 ∨ c = 39 ∨ (222 ≤ c ∧ c ≤ 646) ∨ (665 ≤ c ∧ c ≤ 668) → Q.1 c j = q.1 c j) : iL Q n m := by
  obtain ⟨⟨σ, A, R, h1, h2⟩, h3⟩ := h
  refine ⟨⟨σ, A, R, h1.fr (fun c j z => r c j (by omega)), fun z => ?_⟩, ?_⟩
  · rw [r 19 7 (by omega)] at z
    obtain ⟨a, b, c⟩ := h2 z
    exact ⟨a, hS.hisLk b, by rw [r 19 6 (by omega)]; exact c⟩
  · rw [r 19 7 (by omega)]; exact h3
theorem iL.grow (h : iL q n m) {n' m' : Nat} (h24 : n' ≤ 24) (hc : n < n' ∨ (n' = n ∧ 0 < m)) (r : ∀ c j, c = 19 ∨ c = 39 ∨ (222 ≤ c ∧ c ≤ 646) ∨ (665 ≤ c ∧ c ≤ 668) → Q.1 c j = q.1 c j) : iL Q n' m' := by
  obtain ⟨⟨σ, A, R, h1, h2⟩, h3⟩ := h
  have m1 : ∀ k, k ≤ 24 → ¬ (-1 : Int32) = nI k := fun k hk z => by
    have := congrArg Int32.toInt z
    rw [nI_toInt (by omega)] at this
    have e : (-1 : Int32).toInt = -1 := rfl
    omega
  refine ⟨⟨σ, A, R, h1.fr (fun c j z => r c j (by omega)), fun z => ?_⟩, ?_⟩
  · exfalso
    rw [r 19 7 (by omega)] at z
    rcases h3 with w | ⟨k, hk, w⟩
    · exact m1 n' h24 (w.symm.trans z)
    · have e := nI_inj (by omega) (by omega) (w.symm.trans z)
      rcases hc with hc | ⟨hc, hm⟩
      · omega
      · rw [hc] at z
        have := (h2 z).1
        omega
  · rw [r 19 7 (by omega)]
    rcases h3 with w | ⟨k, hk, w⟩
    · exact Or.inl w
    · exact Or.inr ⟨k, by omega, w⟩
/-- the model looks after the class -/
theorem look_m (hE : iE q nE) (h : iP q nE n 0 o p) (h1 : ∀ p, p < 25 → stAt q (222 + 17 * p) (σ p)) (h2 : ∀ i, i < 120 → q.1 39 i = bI (A i)) (h3 : isLk q n σ A) (h4 : q.1 19 7 = nI n) (h5 : q.1 19 6 = nI (cnt A 120)) : S175_0 q ∧ ∃ Q, F175_0 q = (nI (cnt A 120), Q) ∧ frMM q Q ∧ iL Q n 0 := by
  obtain ⟨s1, Q, σ', A', R, e, M, -, I⟩ := F175_eq hE h
  obtain ⟨u1, u2⟩ := isLk_un h3 I
  obtain ⟨M1, M2, M3, M4, -, -, f⟩ := M
  refine ⟨s1, Q, ?_, f, ⟨σ, A, R, ⟨fun p hp => (h1 p hp).fr (fun c j z => f.1 c j (by omega)), fun i hi => (f.1 39 i (by omega)).trans (h2 i hi), M1, fun p hp z v hv => by rw [u1 p v hp hv]; exact M2 p hp z v hv, fun p hp z v hv => by rw [u1 p v hp hv]; exact M3 p hp z v hv, fun i hi => by rw [u2 i hi]; exact M4 i hi⟩, fun _ => ⟨rfl, ?_, ?_⟩⟩, Or.inr ⟨n, Nat.le_refl n, ?_⟩⟩
  · rw [e, cnt_eq u2 120 (by decide)]
  · exact (same_of hE h (fun c j z _ => f.1 c j (by omega)) (fun c j a b => f.1 c j (by omega))).hisLk h3
  · exact (f.1 19 6 (by omega)).trans h5
  · exact (f.1 19 7 (by omega)).trans h4
theorem look_step (hE : iE q nE) (h : iP q nE n m o p) (hL : iL q n m) : ∃ q', a_pair l X 13 175 [] q q' ∧ frY q q' ∧ iL q' n m := by
  have n24 := h.1
  have m5 := h.2.1
  have c7 : q.1 8 7 = nI n := h.2.2.1
  have c11 : q.1 8 11 = nI m := h.2.2.2.2.1
  have c14 : q.1 650 14 = nI m := h.2.2.2.2.2.1
  have s33 : S33_0 q := ⟨fun _ => trivial, fun _ => trivial⟩
  have fin : ∀ x Q1 Q2, F13_0 q = (x, Q1) → S13_0 q → F175_0 Q1 = (x, Q2) → S175_0 Q1 → a_pair l X 13 175 [] q Q2 := by
    intro x Q1 Q2 e1 s1 e2 s2
    refine ⟨x, Q1, ?_, ?_⟩
    · have := T13 (l := l) (X := X) (d := 60) (by decide) s1
      rw [e1] at this
      exact this
    · have := T175 (l := l) (X := X) (d := 60) (by decide) s2
      rw [e2] at this
      exact this
  by_cases hm : m = 0
  · subst hm
    have l0 : nI 0 ≤ 0 := by decide
    have f33 : F33_0 q = 0 := by unfold F33_0; rw [c11, if_pos l0]
    by_cases hc : q.1 19 7 = q.1 8 7
    · obtain ⟨⟨σ, A, R, h1, h2⟩, -⟩ := hL
      obtain ⟨-, I, c6⟩ := h2 (hc.trans c7)
      obtain ⟨t1, Q, t2, t3, t4⟩ := look_m hE h h1.1 h1.2.1 I (hc.trans c7) c6
      refine ⟨Q, fin (nI (cnt A 120)) q Q ?_ ?_ t2 t1, ⟨fun c j z => t3.1 c j (by omega), t3.2.1, t3.2.2⟩, t4⟩
      · unfold F13_0 F48_0; rw [f33, if_pos rfl, if_pos hc, c6]
      · unfold S13_0 S48_0; exact ⟨s33, fun _ => ⟨⟨fun _ => trivial, fun z => absurd hc z⟩, trivial⟩, fun _ => trivial⟩
    · obtain ⟨b1, Q1, σ, A, W, b2, ⟨M1, M2, -, M4, M5⟩, b4⟩ := F48_eq hE h hc
      have f1 : ∀ c j, c < 19 ∨ 647 ≤ c → Q1.1 c j = q.1 c j := fun c j z => by rw [M4 c j (by omega), w_ne (by omega), w_ne (by omega)]
      have hE1 : iE Q1 nE := iE_fr (fun c j z => f1 c j (by omega)) hE
      have hP1 : iP Q1 nE n 0 o p := iP_fr (fun c j z => f1 c j (by omega)) h
      have hE2 : iE (a_w q 19 7 (nI n)) nE := iE_fr (fun c j z => w_ne (by omega)) hE
      have hP2 : iP (a_w q 19 7 (nI n)) nE n 0 o p := iP_fr (fun c j z => w_ne (by omega)) h
      have I1 : isLk Q1 n σ A := (same_of hE2 hP2 (fun c j z _ => by rw [f1 c j (by omega), w_ne (by omega)]) (fun c j a b => by rw [f1 c j (by omega), w_ne (by omega)])).hisLk b4
      have g7 : Q1.1 19 7 = nI n := by rw [M4 19 7 (by omega), w_nk (by decide), w_eq]
      have g6 : Q1.1 19 6 = nI (cnt A 120) := by rw [M4 19 6 (by omega), w_eq]
      obtain ⟨t1, Q, t2, t3, t4⟩ := look_m hE1 hP1 M1 M2 I1 g7 g6
      refine ⟨Q, fin (nI (cnt A 120)) Q1 Q ?_ ?_ t2 t1, ⟨fun c j z => by rw [t3.1 c j (by omega), f1 c j (by omega)], fun j z => by rw [t3.2.1 j z, f1 650 j (by omega)], fun c j z => by rw [t3.2.2 c j z, M5]; rfl⟩, t4⟩
      · unfold F13_0; rw [f33, if_pos rfl, b2]
      · unfold S13_0; exact ⟨s33, fun _ => ⟨b1, trivial⟩, fun _ => trivial⟩
  · have l0 : ¬ nI m ≤ 0 := nI_nle (by omega) (by omega)
    have f33 : F33_0 q = 1 := by unfold F33_0; rw [c11, if_neg l0]
    have n10 : ¬ (1 : Int32) = 0 := by decide
    refine ⟨q, fin (-1) q q ?_ ?_ ?_ ?_, ⟨fun _ _ _ => rfl, fun _ _ => rfl, fun _ _ _ => rfl⟩, hL⟩
    · unfold F13_0; rw [f33, if_neg n10]
    · unfold S13_0; rw [f33]; exact ⟨s33, fun z => absurd z n10, fun _ => trivial⟩
    · unfold F175_0; rw [c14, if_neg l0]
    · unfold S175_0; rw [c14]; exact ⟨fun z => absurd z l0, fun _ => trivial⟩
end
