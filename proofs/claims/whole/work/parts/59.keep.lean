/-! adding keeps the program's invariant -/
def r_all (q q2 : aQ) (n : Nat) : Prop := ∀ s, s < n → q2.1 9 s = q.1 9 s ∧ q2.1 10 s = q.1 10 s ∧ q2.1 11 s = q.1 11 s ∧ q2.1 12 s = q.1 12 s ∧ q2.1 13 s = q.1 13 s ∧ q2.1 655 s = q.1 655 s ∧ q2.1 656 s = q.1 656 s ∧ q2.1 657 s = q.1 657 s ∧ q2.1 658 s = q.1 658 s ∧ q2.1 659 s = q.1 659 s
theorem iS_keep {q q2 : aQ} {nE n s : Nat} (hs : s < n) (h : iS q nE n s) (r : r_all q q2 n) (h14 : ∀ s, s < n → (q2.1 14 s = q.1 14 s ∧ q2.1 660 s = q.1 660 s) ∨ (q2.1 14 s = nI n ∧ q2.1 660 s = nI n)) (h15 : ∀ i, i < 2 * n → (q2.1 15 i = q.1 15 i ∧ q2.1 661 i = q.1 661 i) ∨ ((q2.1 15 i = nI n ∧ q2.1 661 i = nI n) ∧ ∀ s', i = 2 * s' + 1 → q.1 9 s' ≠ 5)) : iS q2 nE (n + 1) s := by
  obtain ⟨e1, e2, e3, e4, e5, e6, ⟨k, k1, k2, k3⟩, d, d1, d2⟩ := h
  obtain ⟨a9, a10, a11, a12, a13, a655, a656, a657, a658, a659⟩ := r s hs
  have r12 : ∀ s, s < n → q2.1 12 s = q.1 12 s := fun s hs => (r s hs).2.2.2.1
  have r9 : ∀ s, s < n → q2.1 9 s = q.1 9 s := fun s hs => (r s hs).1
  refine ⟨?_, ?_, ?_, ?_, ?_, ?_, ⟨k, k1, ?_, ?_⟩, d, d1, dp.keep r12 hs d2⟩
  · rw [a655, a9]; exact e1
  · rw [a658, a12]; exact e2
  · rcases h14 s hs with ⟨z1, z2⟩ | ⟨z1, z2⟩
    · rw [z1, z2]; exact e3
    · rw [z1, z2]
  · rcases h14 s hs with ⟨z1, z2⟩ | ⟨z1, z2⟩
    · rw [z1]; exact e4.up (by omega)
    · rw [z1]; exact Or.inr ⟨n, by omega, rfl⟩
  · intro b hb
    have := e5 b hb
    rcases h15 (2 * s + b) (by omega) with ⟨z1, z2⟩ | ⟨⟨z1, z2⟩, z3⟩
    · rw [z1, z2, a9]; exact ⟨this.1, this.2.1.up (by omega), this.2.2⟩
    · rw [z1, z2, a9]; exact ⟨rfl, Or.inr ⟨n, by omega, rfl⟩, fun g1 g2 => absurd g2 (z3 s (by omega))⟩
  · unfold plc at e6 ⊢
    rw [a12, a13, a659]
    rcases e6 with z | ⟨p, b, p1, p2, p3, p4, p5, kk, p6, p7, p8, p9⟩
    · exact Or.inl z
    · exact Or.inr ⟨p, b, p1, p2, p3, p4, p5, kk, p6, p7, by rw [r9 p (by omega)]; exact p8, p9⟩
  · rw [a9]; exact k2
  · unfold dt at k3 ⊢
    rw [a10, a11, a656, a657]
    refine ⟨k3.1, k3.2.1, fun z => ?_, k3.2.2.2⟩
    obtain ⟨L, L1, L2, L3⟩ := k3.2.2.1 z
    exact ⟨L, L1, L2, la.keep r12 r9 hs L3⟩
/-- an expression's number stays one when expressions are added -/
theorem iS_mono {q : aQ} {nE nE' n s : Nat} (h : iS q nE n s) (hn : nE ≤ nE') : iS q nE' n s := by
  obtain ⟨e1, e2, e3, e4, e5, e6, ⟨k, k1, k2, k3⟩, d⟩ := h
  refine ⟨e1, e2, e3, e4, e5, e6, ⟨k, k1, k2, k3.1, k3.2.1, k3.2.2.1, k3.2.2.2.1, fun z => ?_⟩, d⟩
  obtain ⟨e, h1, h2⟩ := k3.2.2.2.2 z
  exact ⟨e, by omega, h2⟩
section
variable {q : aQ} {nE n m : Nat} {o p : Nat → Nat} {k det det' e : Int32}
/-- both sides have added (nothing is opened) -/
def addQ (q : aQ) (n m : Nat) (o p : Nat → Nat) (k det det' e : Int32) : aQ := addM (addC q n m o p k det e) n m (curB m o p) o k det' e false
theorem addC_hi {c j : Nat} (hc : 18 < c) : (addC q n m o p k det e).1 c j = q.1 c j := by
  unfold addC clk lw addB
  by_cases h1 : q.1 18 m = -1
  · by_cases h2 : m = 0
    · simp only [if_pos h1, if_pos h2]
      simp only [w_ne (show c ≠ 18 by omega), w_ne (show c ≠ 13 by omega), w_ne (show c ≠ 12 by omega), w_ne (show c ≠ 15 by omega), w_ne (show c ≠ 14 by omega), w_ne (show c ≠ 11 by omega), w_ne (show c ≠ 10 by omega), w_ne (show c ≠ 9 by omega), w_ne (show c ≠ 8 by omega)]
    · simp only [if_pos h1, if_neg h2]
      simp only [w_ne (show c ≠ 18 by omega), w_ne (show c ≠ 13 by omega), w_ne (show c ≠ 12 by omega), w_ne (show c ≠ 15 by omega), w_ne (show c ≠ 14 by omega), w_ne (show c ≠ 11 by omega), w_ne (show c ≠ 10 by omega), w_ne (show c ≠ 9 by omega), w_ne (show c ≠ 8 by omega)]
  · simp only [if_neg h1]
    simp only [w_ne (show c ≠ 18 by omega), w_ne (show c ≠ 13 by omega), w_ne (show c ≠ 12 by omega), w_ne (show c ≠ 15 by omega), w_ne (show c ≠ 14 by omega), w_ne (show c ≠ 11 by omega), w_ne (show c ≠ 10 by omega), w_ne (show c ≠ 9 by omega), w_ne (show c ≠ 8 by omega)]
theorem addM1_lo {Q : aQ} {B c j : Nat} (hc : c < 650) : (addM1 Q n m B o k det' e).1 c j = Q.1 c j := by
  unfold addM1 addM0
  by_cases h1 : Q.1 662 B = -1
  · rw [if_pos h1]
    simp only [w_ne (show c ≠ 650 by omega), w_ne (show c ≠ 655 by omega), w_ne (show c ≠ 656 by omega), w_ne (show c ≠ 657 by omega), w_ne (show c ≠ 658 by omega), w_ne (show c ≠ 659 by omega), w_ne (show c ≠ 660 by omega), w_ne (show c ≠ 661 by omega), w_ne (show c ≠ 662 by omega)]
  · rw [if_neg h1]
    simp only [w_ne (show c ≠ 650 by omega), w_ne (show c ≠ 655 by omega), w_ne (show c ≠ 656 by omega), w_ne (show c ≠ 657 by omega), w_ne (show c ≠ 658 by omega), w_ne (show c ≠ 659 by omega), w_ne (show c ≠ 660 by omega), w_ne (show c ≠ 661 by omega), w_ne (show c ≠ 662 by omega)]
/-- class rows behind Program.add, at places that are no link -/
theorem addC_rows {s : Nat} : (addC q n m o p k det e).1 9 s = (if s = n then k else q.1 9 s) ∧ (addC q n m o p k det e).1 10 s = (if s = n then det else q.1 10 s) ∧ (addC q n m o p k det e).1 11 s = (if s = n then e else q.1 11 s) ∧ (addC q n m o p k det e).1 12 s = (if s = n then arI m o else q.1 12 s) ∧ (addC q n m o p k det e).1 13 s = (if s = n then ptI m p else q.1 13 s) ∧ (addC q n m o p k det e).1 16 s = q.1 16 s ∧ (addC q n m o p k det e).1 17 s = q.1 17 s ∧ (addC q n m o p k det e).1 18 s = (if s = m then nI n else q.1 18 s) ∧ (addC q n m o p k det e).1 8 7 = nI (n + 1) ∧ (addC q n m o p k det e).1 8 11 = q.1 8 11 := by
  unfold addC clk lw addB
  by_cases h1 : q.1 18 m = -1
  · by_cases h2 : m = 0
    · simp only [if_pos h1, if_pos h2]
      simp [w_get]
    · simp only [if_pos h1, if_neg h2]
      simp [w_get]
  · simp only [if_neg h1]
    simp [w_get]
theorem addC_14 {s : Nat} : (addC q n m o p k det e).1 14 s = if ¬ q.1 18 m = -1 ∧ s = (q.1 18 m).toNatClampNeg then nI n else if s = n then -1 else q.1 14 s := by
  unfold addC clk lw addB
  by_cases h1 : q.1 18 m = -1
  · by_cases h2 : m = 0
    · simp only [if_pos h1, if_pos h2]
      simp [w_get, h1]
    · simp only [if_pos h1, if_neg h2]
      simp [w_get, h1]
  · simp only [if_neg h1]
    simp [w_get, h1]
theorem addC_15 {i : Nat} : (addC q n m o p k det e).1 15 i = if q.1 18 m = -1 ∧ ¬ m = 0 ∧ i = curB m o p then nI n else if i = 2 * n + 1 then -1 else if i = 2 * n then -1 else q.1 15 i := by
  unfold addC clk lw addB
  by_cases h1 : q.1 18 m = -1
  · by_cases h2 : m = 0
    · simp only [if_pos h1, if_pos h2]
      simp [w_get, h1, h2]
    · simp only [if_pos h1, if_neg h2]
      simp [w_get, h1, h2]
  · simp only [if_neg h1]
    simp [w_get, h1]
theorem addM1_rows {Q : aQ} {B s : Nat} : (addM1 Q n m B o k det' e).1 655 s = (if s = n then k else Q.1 655 s) ∧ (addM1 Q n m B o k det' e).1 656 s = (if s = n then det' else Q.1 656 s) ∧ (addM1 Q n m B o k det' e).1 657 s = (if s = n then e else Q.1 657 s) ∧ (addM1 Q n m B o k det' e).1 658 s = (if s = n then arI m o else Q.1 658 s) ∧ (addM1 Q n m B o k det' e).1 659 s = (if s = n then nI B else Q.1 659 s) ∧ (addM1 Q n m B o k det' e).1 662 s = (if s = B then nI n else Q.1 662 s) ∧ (addM1 Q n m B o k det' e).1 663 s = Q.1 663 s ∧ (addM1 Q n m B o k det' e).1 650 5 = nI (n + 1) ∧ (addM1 Q n m B o k det' e).1 650 14 = Q.1 650 14 := by
  unfold addM1 addM0
  by_cases h1 : Q.1 662 B = -1
  · simp only [if_pos h1]
    simp [w_get]
  · simp only [if_neg h1]
    simp [w_get]
theorem addM1_660 {Q : aQ} {B s : Nat} : (addM1 Q n m B o k det' e).1 660 s = if ¬ Q.1 662 B = -1 ∧ s = (Q.1 662 B).toNatClampNeg then nI n else if s = n then -1 else Q.1 660 s := by
  unfold addM1 addM0
  by_cases h1 : Q.1 662 B = -1
  · simp only [if_pos h1]
    simp [w_get, h1]
  · simp only [if_neg h1]
    simp [w_get, h1]
theorem addM1_661 {Q : aQ} {B b : Nat} : (addM1 Q n m B o k det' e).1 661 b = if Q.1 662 B = -1 ∧ b = B then nI n else Q.1 661 b := by
  unfold addM1 addM0
  by_cases h1 : Q.1 662 B = -1
  · simp only [if_pos h1]
    simp [w_get, h1]
  · simp only [if_neg h1]
    simp [w_get, h1]
end
