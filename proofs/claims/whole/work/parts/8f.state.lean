/-! states in memory: the class -/
/-- the state at address a -/
def stAt (q : aQ) (a : Nat) (x : Nat → Pc) : Prop := ∀ v, v < 5 → pcAt q (a + 2 + 3 * v) (x v) ∧ okP (x v)
def updS (q q' : aQ) (a : Nat) (x : Nat → Pc) : Prop := stAt q' a x ∧ (∀ c j, ¬ (a ≤ c ∧ c ≤ a + 16) → q'.1 c j = q.1 c j) ∧ q'.2 = q.2
theorem stAt.fr {q q' : aQ} {a : Nat} {x : Nat → Pc} (h : stAt q a x) (r : ∀ c j, a ≤ c ∧ c ≤ a + 16 → q'.1 c j = q.1 c j) : stAt q' a x := fun v hv => ⟨(h v hv).1.fr (fun c j z => r c j (by omega)), (h v hv).2⟩
/-- two states lie apart -/
def apS (a b : Nat) : Prop := a + 16 < b ∨ b + 16 < a
theorem stAt.ne {q q' : aQ} {a b : Nat} {x y : Nat → Pc} (h : stAt q b y) (u : updS q q' a x) (n : apS a b) : stAt q' b y := by
  unfold apS at n
  exact h.fr (fun c j z => u.2.1 c j (by omega))
theorem updS.tr {q q1 q2 : aQ} {a : Nat} {x y : Nat → Pc} (h : updS q q1 a x) (k : updS q1 q2 a y) : updS q q2 a y := ⟨k.1, fun c j n => (k.2.1 c j n).trans (h.2.1 c j n), k.2.2.trans h.2.2⟩
def unbP : Pc := (eR, eR, false, true)
theorem unbP_ok : okP unbP := ⟨eR_ok, eT_ok⟩
section
variable {q : aQ} {a b : Nat} {x y : Nat → Pc}
/-- one loop over the five variables: each step sets one picture -/
theorem loop5 {B : Int32 × aQ → (Int32 × aQ) ⊕ aQ} {SB : Int32 × aQ → Prop} {z : Nat → Pc} (a : Nat) (I : aQ → Prop) (hI : ∀ Q Q' v, v < 5 → I Q → (∀ c j, ¬ (a + 2 + 3 * v ≤ c ∧ c ≤ a + 4 + 3 * v) → Q'.1 c j = Q.1 c j) → I Q') (he : ∀ Q, B (nI 5, Q) = .inr Q ∧ SB (nI 5, Q)) (hs : ∀ v Q, v < 5 → I Q → SB (nI v, Q) ∧ ∃ Q', B (nI v, Q) = .inl (nI (v + 1), Q') ∧ updP Q Q' (a + 2 + 3 * v) (z v)) (hz : ∀ v, v < 5 → okP (z v)) : ∀ k v Q F, v + k = 5 → k < F → I Q → ∃ Q', a_sf B SB F (nI v, Q) ∧ a_it B F (nI v, Q) = some Q' ∧ (∀ u, v ≤ u → u < 5 → pcAt Q' (a + 2 + 3 * u) (z u)) ∧ (∀ c j, ¬ (a + 2 + 3 * v ≤ c ∧ c ≤ a + 16) → Q'.1 c j = Q.1 c j) ∧ Q'.2 = Q.2 ∧ I Q' := by
  intro k
  induction k with
  | zero =>
    intro v Q F hv hF hQ
    obtain ⟨F, rfl⟩ : ∃ k, F = k + 1 := ⟨F - 1, by omega⟩
    have e5 : v = 5 := by omega
    subst e5
    exact ⟨Q, sf_e (he Q).1 (he Q).2, it_e (he Q).1, fun u h1 h2 => by omega, fun _ _ _ => rfl, rfl, hQ⟩
  | succ k ih =>
    intro v Q F hv hF hQ
    obtain ⟨F, rfl⟩ : ∃ k, F = k + 1 := ⟨F - 1, by omega⟩
    obtain ⟨s1, Q1, s2, s3⟩ := hs v Q (by omega) hQ
    obtain ⟨Q', r1, r2, r3, r4, r5, r6⟩ := ih (v + 1) Q1 F (by omega) (by omega) (hI Q Q1 v (by omega) hQ (fun c j z => s3.2.1 c j (by omega)))
    refine ⟨Q', sf_s s2 s1 r1, (it_s s2).trans r2, fun u h1 h2 => ?_, fun c j n => ?_, r5.trans s3.2.2, r6⟩
    · by_cases e : u = v
      · subst e
        exact s3.1.fr (fun c j z => r4 c j (by omega))
      · exact r3 u (by omega) h2
    · rw [r4 c j (by omega), s3.2.1 c j (by omega)]
theorem n5 {v : Nat} (h : v < 5) : ¬ (5 : Int32) ≤ nI v := nI_ge (b := 5) (by omega) (by decide)
theorem l5 : (5 : Int32) ≤ nI 5 := by decide
theorem cl5 {v : Nat} (h : v < 5) : (nI v).toNatClampNeg = v ∧ vp_in (nI v) 5 := ⟨nI_clamp (by omega), vp_in_nI h (by decide)⟩
theorem F58_eq : updS q (F58_0 a q) a (fun _ => eP) ∧ S58_0 a q := by
  obtain ⟨Q', r1, r2, r3, r4, r5, -⟩ := loop5 (B := fun s => F58_2 a s.1 s.2) (SB := fun s => S58_2 a s.1 s.2) (z := fun _ => eP) a (fun _ => True) (fun _ _ _ _ _ _ => trivial) (fun Q => ⟨by show F58_2 a (nI 5) Q = _; unfold F58_2; rw [if_pos l5], by show S58_2 a (nI 5) Q; unfold S58_2; exact ⟨fun _ => trivial, fun z => absurd l5 z⟩⟩) (fun v Q hv _ => by
    obtain ⟨c, i⟩ := cl5 hv
    obtain ⟨f1, f2⟩ := F63_eq (q := Q) (p := a + 2 + 3 * v)
    refine ⟨?_, F63_0 (a + 2 + 3 * v) Q, ?_, f1⟩
    · show S58_2 a (nI v) Q
      unfold S58_2
      rw [c]
      exact ⟨fun z => absurd z (n5 hv), fun _ => ⟨i, f2, trivial⟩⟩
    · show F58_2 a (nI v) Q = _
      unfold F58_2 F58_16
      rw [if_neg (n5 hv), c, nI_1]) (fun _ _ => eP_ok) 5 0 q 200 rfl (by decide) trivial
  have r2' : a_it (fun (s : Int32 × aQ) => F58_2 a s.1 s.2) 200 (0, q) = some Q' := r2
  unfold F58_0 S58_0 F58_22
  rw [a_lp_eq r2']
  exact ⟨⟨fun v hv => ⟨r3 v (by omega) hv, eP_ok⟩, fun c j n => r4 c j (by omega), r5⟩, r1, trivial⟩
theorem F59_eq : updS q (F59_0 a q) a (fun _ => unbP) ∧ S59_0 a q := by
  obtain ⟨Q', r1, r2, r3, r4, r5, -⟩ := loop5 (B := fun s => F59_2 a s.1 s.2) (SB := fun s => S59_2 a s.1 s.2) (z := fun _ => unbP) a (fun _ => True) (fun _ _ _ _ _ _ => trivial) (fun Q => ⟨by show F59_2 a (nI 5) Q = _; unfold F59_2; rw [if_pos l5], by show S59_2 a (nI 5) Q; unfold S59_2; exact ⟨fun _ => trivial, fun z => absurd l5 z⟩⟩) (fun v Q hv _ => by
    obtain ⟨c, i⟩ := cl5 hv
    obtain ⟨f1, f2⟩ := F63_eq (q := Q) (p := a + 2 + 3 * v)
    refine ⟨?_, a_w (F63_0 (a + 2 + 3 * v) Q) (a + 2 + 3 * v) 3 1, ?_, f1.tr (updP_u (b' := true) f1.1)⟩
    · show S59_2 a (nI v) Q
      unfold S59_2 S59_16
      rw [c]
      exact ⟨fun z => absurd z (n5 hv), fun _ => ⟨i, f2, i, trivial⟩⟩
    · show F59_2 a (nI v) Q = _
      unfold F59_2 F59_16
      rw [if_neg (n5 hv), c, nI_1]) (fun _ _ => unbP_ok) 5 0 q 200 rfl (by decide) trivial
  have r2' : a_it (fun (s : Int32 × aQ) => F59_2 a s.1 s.2) 200 (0, q) = some Q' := r2
  unfold F59_0 S59_0 F59_32
  rw [a_lp_eq r2']
  exact ⟨⟨fun v hv => ⟨r3 v (by omega) hv, unbP_ok⟩, fun c j n => r4 c j (by omega), r5⟩, r1, trivial⟩
theorem F60_eq (h : stAt q b y) (n : apS a b) : updS q (F60_0 a b q) a y ∧ S60_0 a b q := by
  unfold apS at n
  obtain ⟨Q', r1, r2, r3, r4, r5, -⟩ := loop5 (B := fun s => F60_2 a b s.1 s.2) (SB := fun s => S60_2 a b s.1 s.2) (z := y) a (fun Q => stAt Q b y) (fun Q Q' v hv hQ hr => hQ.fr (fun c j z => hr c j (by omega))) (fun Q => ⟨by show F60_2 a b (nI 5) Q = _; unfold F60_2; rw [if_pos l5], by show S60_2 a b (nI 5) Q; unfold S60_2; exact ⟨fun _ => trivial, fun z => absurd l5 z⟩⟩) (fun v Q hv hQ => by
    obtain ⟨c, i⟩ := cl5 hv
    obtain ⟨f1, f2⟩ := F64_eq (p := a + 2 + 3 * v) (hQ v hv).1 (by unfold apt; omega)
    refine ⟨?_, F64_0 (a + 2 + 3 * v) (b + 2 + 3 * v) Q, ?_, f1⟩
    · show S60_2 a b (nI v) Q
      unfold S60_2
      rw [c]
      exact ⟨fun z => absurd z (n5 hv), fun _ => ⟨i, i, f2, trivial⟩⟩
    · show F60_2 a b (nI v) Q = _
      unfold F60_2 F60_22
      rw [if_neg (n5 hv), c, nI_1]) (fun v hv => (h v hv).2) 5 0 q 200 rfl (by decide) h
  have r2' : a_it (fun (s : Int32 × aQ) => F60_2 a b s.1 s.2) 200 (0, q) = some Q' := r2
  unfold F60_0 S60_0 F60_28
  rw [a_lp_eq r2']
  exact ⟨⟨fun v hv => ⟨r3 v (by omega) hv, (h v hv).2⟩, fun c j n => r4 c j (by omega), r5⟩, r1, trivial⟩
/-- whether a join of states adds, from variable v on -/
def grS (x y : Nat → Pc) : Nat → Nat → Bool
  | 0, _ => false
  | k + 1, v => grP (x v) (y v) || grS x y k (v + 1)
theorem F61_loop (n : apS a b ∨ a = b) : ∀ k v Q F g, v + k = 5 → k < F → stAt Q b y → (∀ u, v ≤ u → u < 5 → pcAt Q (a + 2 + 3 * u) (x u) ∧ okP (x u)) → (a = b → ∀ u, x u = y u) → ∃ Q', a_sf (fun (s : Int32 × Int32 × aQ) => F61_4 a b s.1 s.2.1 s.2.2) (fun (s : Int32 × Int32 × aQ) => S61_4 a b s.1 s.2.1 s.2.2) F (bI g, nI v, Q) ∧ a_it (fun (s : Int32 × Int32 × aQ) => F61_4 a b s.1 s.2.1 s.2.2) F (bI g, nI v, Q) = some (bI (g || grS x y k v), Q') ∧ (∀ u, v ≤ u → u < 5 → pcAt Q' (a + 2 + 3 * u) (joP (x u) (y u))) ∧ (∀ c j, ¬ (a + 2 + 3 * v ≤ c ∧ c ≤ a + 16) → Q'.1 c j = Q.1 c j) ∧ Q'.2 = Q.2 := by
  intro k
  induction k with
  | zero =>
    intro v Q F g hv hF hQ hx hab
    obtain ⟨F, rfl⟩ : ∃ k, F = k + 1 := ⟨F - 1, by omega⟩
    have e5 : v = 5 := by omega
    subst e5
    have e : F61_4 a b (bI g) (nI 5) Q = .inr (bI g, Q) := by unfold F61_4; rw [if_pos l5]
    refine ⟨Q, sf_e e ⟨fun _ => trivial, fun z => absurd l5 z⟩, ?_, fun u h1 h2 => by omega, fun _ _ _ => rfl, rfl⟩
    rw [show grS x y 0 5 = false from rfl, Bool.or_false]
    exact it_e e
  | succ k ih =>
    intro v Q F g hv hF hQ hx hab
    obtain ⟨F, rfl⟩ : ∃ k, F = k + 1 := ⟨F - 1, by omega⟩
    obtain ⟨c, i⟩ := cl5 (show v < 5 by omega)
    unfold apS at n
    obtain ⟨hp, hok⟩ := hx v (Nat.le_refl v) (by omega)
    obtain ⟨Q1, e1, u1⟩ := F65_eq hp (hQ v (by omega)).1 hok (hQ v (by omega)).2 (by unfold apt; omega)
    have hQ1 : stAt Q1 b y := by
      intro u hu
      by_cases hab' : a = b
      · subst hab'
        by_cases e : u = v
        · subst e
          have e2 := hab rfl u
          have jj : joP (x u) (y u) = y u := by
            rw [e2]
            refine leP.as (joP_lub.mpr ⟨leP.rf, leP.rf⟩) le_jo1
          have := u1.1
          rw [jj] at this
          exact ⟨this, (hQ u hu).2⟩
        · exact ⟨(hQ u hu).1.fr (fun c j z => u1.2.1 c j (by omega)), (hQ u hu).2⟩
      · exact ⟨(hQ u hu).1.fr (fun c j z => u1.2.1 c j (by omega)), (hQ u hu).2⟩
    obtain ⟨Q', r1, r2, r3, r4, r5⟩ := ih (v + 1) Q1 F (g || grP (x v) (y v)) (by omega) (by omega) hQ1 (fun u h1 h2 => ⟨(hx u (by omega) h2).1.fr (fun c j z => u1.2.1 c j (by omega)), (hx u (by omega) h2).2⟩) hab
    have e : F61_4 a b (bI g) (nI v) Q = .inl (bI (g || grP (x v) (y v)), nI (v + 1), Q1) := by
      unfold F61_4
      rw [if_neg (n5 (by omega)), c, e1]
      unfold F61_24 F61_31 F61_36
      rw [nI_1]
      cases g <;> cases grP (x v) (y v) <;> rfl
    have s : S61_4 a b (bI g) (nI v) Q := by
      unfold S61_4 S61_24 S61_31 S61_36
      rw [c]
      exact ⟨fun z => absurd z (n5 (by omega)), fun _ => ⟨i, i, S65_ok, fun _ => ⟨fun _ => trivial, fun _ => trivial⟩, fun _ => trivial⟩⟩
    refine ⟨Q', sf_s e s r1, ?_, fun u h1 h2 => ?_, fun c j n => ?_, r5.trans u1.2.2⟩
    · rw [show grS x y (k + 1) v = (grP (x v) (y v) || grS x y k (v + 1)) from rfl, ← Bool.or_assoc]
      exact (it_s (B := fun (s : Int32 × Int32 × aQ) => F61_4 a b s.1 s.2.1 s.2.2) (s := (bI g, nI v, Q)) e).trans r2
    · by_cases e : u = v
      · subst e
        exact u1.1.fr (fun c j z => r4 c j (by omega))
      · exact r3 u (by omega) h2
    · rw [r4 c j (by omega), u1.2.1 c j (by omega)]
theorem F61_eq (h : stAt q a x) (k : stAt q b y) (n : apS a b ∨ a = b) (hab : a = b → ∀ u, x u = y u) : S61_0 a b q ∧ ∃ q', F61_0 a b q = (bI (grS x y 5 0), q') ∧ updS q q' a (fun v => joP (x v) (y v)) := by
  obtain ⟨Q', r1, r2, r3, r4, r5⟩ := F61_loop (x := x) n 5 0 q 200 false rfl (by decide) k (fun u _ hu => h u hu) hab
  have r2' : a_it (fun (s : Int32 × Int32 × aQ) => F61_4 a b s.1 s.2.1 s.2.2) 200 (0, 0, q) = some (bI (grS x y 5 0), Q') := r2
  unfold F61_0 S61_0 F61_43 S61_43
  rw [a_lp_eq r2']
  exact ⟨⟨r1, bI_or, trivial⟩, Q', rfl, fun v hv => ⟨r3 v (by omega) hv, joP_ok (h v hv).2 (k v hv).2⟩, fun c j n => r4 c j (by omega), r5⟩
end
