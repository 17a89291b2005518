theorem iO_dp {q : aQ} {n m : Nat} {o p : Nat → Nat} (hO : ∀ l, l < m → iO q n o p l) : ∀ l, l < m → dp q l (o l) := by
  intro l
  induction l with
  | zero => intro hl; exact (hO 0 hl).2.2.2.2.2.2.2.2.1 rfl
  | succ l ih =>
    intro hl
    have h1 := (hO (l + 1) hl).2.2.2.2.2.2.2.2.2 (by omega)
    rw [show l + 1 - 1 = l by omega] at h1
    exact ⟨o l, h1.2, h1.1, ih (by omega)⟩
/-- what the new statement says, on both sides -/
def newS (q : aQ) (nE n m : Nat) (o : Nat → Nat) (kN : Nat) (det det' e : Int32) : Prop := kN ≤ 6 ∧ (kN = 0 → ∃ v, v < 5 ∧ det = nI v ∧ det' = nI v) ∧ (kN = 1 → ∃ x, 1 ≤ x ∧ x ≤ 4 ∧ det = nI x ∧ det' = nI x) ∧ (kN = 2 ∨ kN = 3 → ∃ L, L < n ∧ det = nI L ∧ ∃ p', p' < n ∧ arI m o = nI p' ∧ ((q.1 9 p' = 5 ∧ p' = L) ∨ (q.1 9 p' ≠ 5 ∧ la q 4 p' L))) ∧ (kN = 6 → ∃ x, x ≤ 4 ∧ det = nI x ∧ det' = nI x) ∧ (kN = 0 ∨ kN = 4 ∨ kN = 5 → ∃ x, x < nE ∧ e = nI x)
/-- the rows of the program behind an added statement; what else was written (open blocks) is left to say -/
def addedR (q q2 : aQ) (n m : Nat) (o p : Nat → Nat) (k det det' e : Int32) : Prop :=
  (∀ s, q2.1 9 s = (if s = n then k else q.1 9 s) ∧ q2.1 10 s = (if s = n then det else q.1 10 s) ∧ q2.1 11 s = (if s = n then e else q.1 11 s) ∧ q2.1 12 s = (if s = n then arI m o else q.1 12 s) ∧ q2.1 13 s = (if s = n then ptI m p else q.1 13 s) ∧ q2.1 655 s = (if s = n then k else q.1 655 s) ∧ q2.1 656 s = (if s = n then det' else q.1 656 s) ∧ q2.1 657 s = (if s = n then e else q.1 657 s) ∧ q2.1 658 s = (if s = n then arI m o else q.1 658 s) ∧ q2.1 659 s = (if s = n then nI (curB m o p) else q.1 659 s) ∧ q2.1 14 s = (if ¬ q.1 18 m = -1 ∧ s = (q.1 18 m).toNatClampNeg then nI n else if s = n then -1 else q.1 14 s) ∧ q2.1 660 s = (if ¬ q.1 18 m = -1 ∧ s = (q.1 18 m).toNatClampNeg then nI n else if s = n then -1 else q.1 660 s) ∧ q2.1 15 s = (if q.1 18 m = -1 ∧ ¬ m = 0 ∧ s = curB m o p then nI n else if s = 2 * n + 1 then -1 else if s = 2 * n then -1 else q.1 15 s) ∧ q2.1 661 s = (if q.1 18 m = -1 ∧ s = curB m o p then nI n else q.1 661 s) ∧ q2.1 662 s = (if s = curB m o p then nI n else q.1 662 s)) ∧ q2.1 8 7 = nI (n + 1) ∧ q2.1 650 5 = nI (n + 1)
theorem added_iS {q q2 : aQ} {nE n m kN : Nat} {o p : Nat → Nat} {k det det' e : Int32} (h : iP q nE n m o p) (hn : n < 24) (hk : k = nI kN) (hN : newS q nE n m o kN det det' e) (A : addedR q q2 n m o p k det det' e) : ∀ s, s < n + 1 → iS q2 nE (n + 1) s := by
  have hlat := h.lat
  have hcur := h.cur
  obtain ⟨h24, h5, c1, c2, c3, c4, hS, hO, t0, hl, hb, z0, z1⟩ := h
  obtain ⟨A, -⟩ := A
  have r : r_all q q2 n := by
    intro s hs
    have hne : ¬ s = n := by omega
    obtain ⟨a1, a2, a3, a4, a5, a6, a7, a8, a9, a10, -⟩ := A s
    simp only [if_neg hne] at a1 a2 a3 a4 a5 a6 a7 a8 a9 a10
    exact ⟨a1, a2, a3, a4, a5, a6, a7, a8, a9, a10⟩
  intro s hs
  by_cases e1 : s = n
  · subst e1
    obtain ⟨a9, a10, a11, a12, a13, a655, a656, a657, a658, a659, a14, a660, -⟩ := A s
    simp only [if_true] at a9 a10 a11 a12 a13 a655 a656 a657 a658 a659
    obtain ⟨k1, k2, k3, k4, k5, k6⟩ := hN
    have hlk : ¬ (¬ q.1 18 m = -1 ∧ s = (q.1 18 m).toNatClampNeg) := by
      rintro ⟨g1, g2⟩
      rw [hlat] at g1 g2
      rcases hl (curB m o p) (by
        by_cases hm : m = 0
        · unfold curB; rw [if_pos hm]; decide
        · have := (hcur hm).1; omega) with g | ⟨t, g3, g4⟩
      · exact g1 g
      · rw [g4, nI_clamp (by omega)] at g2
        omega
    simp only [if_neg hlk, if_true] at a14 a660
    have r12 : ∀ s', s' < s → q2.1 12 s' = q.1 12 s' := fun s' hs' => (r s' hs').2.2.2.1
    have r9 : ∀ s', s' < s → q2.1 9 s' = q.1 9 s' := fun s' hs' => (r s' hs').1
    have blk : ∀ b, b < 2 → q2.1 15 (2 * s + b) = -1 ∧ q2.1 661 (2 * s + b) = -1 := by
      intro b hb2
      have hB : ¬ 2 * s + b = curB m o p := by
        by_cases hm : m = 0
        · unfold curB; rw [if_pos hm]; omega
        · have := (hcur hm).1; omega
      obtain ⟨-, -, -, -, -, -, -, -, -, -, -, -, f15, f661, -⟩ := A (2 * s + b)
      rw [if_neg (fun z => hB z.2.2)] at f15
      rw [if_neg (fun z => hB z.2), (hb (2 * s + b) (by omega) (by omega)).1] at f661
      refine ⟨?_, f661⟩
      rw [f15]
      rcases (show b = 0 ∨ b = 1 by omega) with rfl | rfl
      · rw [if_neg (by omega), if_pos (by omega)]
      · rw [if_pos rfl]
    refine ⟨?_, ?_, ?_, ?_, fun b hb2 => ?_, ?_, ⟨kN, k1, a9.trans hk, ?_⟩, ?_⟩
    · rw [a655, a9]
    · rw [a658, a12]
    · rw [a660, a14]
    · rw [a14]; exact Or.inl rfl
    · obtain ⟨f1, f2⟩ := blk b hb2
      rw [f1, f2]
      exact ⟨rfl, Or.inl rfl, fun _ _ => rfl⟩
    · unfold plc
      rw [a12, a13, a659]
      by_cases hm : m = 0
      · refine Or.inl ⟨?_, ?_, ?_⟩
        · unfold arI; rw [if_pos hm]
        · unfold ptI; rw [if_pos hm]
        · unfold curB; rw [if_pos hm]; rfl
      · have ho := hO (m - 1) (by omega)
        refine Or.inr ⟨o (m - 1), p (m - 1), ho.1, ho.2.1, ?_, ?_, ?_, ?_⟩
        · unfold arI; rw [if_neg hm]
        · unfold ptI; rw [if_neg hm]
        · rw [(hcur hm).2]
        · obtain ⟨kk, g1, g2, g3, g4⟩ := ho.2.2.2.2.2.1
          exact ⟨kk, g1, g2, by rw [r9 _ ho.1]; exact g3, g4⟩
    · unfold dt
      rw [a10, a11, a656, a657]
      refine ⟨k2, k3, fun z => ?_, k5, fun z => ?_⟩
      · obtain ⟨L, g1, g2, p', g3, g4, g5⟩ := k4 z
        refine ⟨L, g1, g2, p', g3, a12.trans g4, ?_⟩
        rw [r9 p' g3]
        exact g5.imp id (fun z => ⟨z.1, la.keep r12 r9 g3 z.2⟩)
      · obtain ⟨x, g1, g2⟩ := k6 z
        exact ⟨x, g1, g2, g2⟩
    · by_cases hm : m = 0
      · refine ⟨0, by omega, ?_⟩
        show q2.1 12 s = -1
        rw [a12]; unfold arI; rw [if_pos hm]
      · refine ⟨m - 1 + 1, by omega, o (m - 1), (hO (m - 1) (by omega)).1, ?_, dp.keep r12 (hO (m - 1) (by omega)).1 (iO_dp hO (m - 1) (by omega))⟩
        rw [a12]; unfold arI; rw [if_neg hm]
  · refine iS_keep (by omega) (hS s (by omega)) r (fun s' hs' => ?_) (fun i hi => ?_)
    · obtain ⟨-, -, -, -, -, -, -, -, -, -, a14, a660, -⟩ := A s'
      rw [a14, a660]
      by_cases g : ¬ q.1 18 m = -1 ∧ s' = (q.1 18 m).toNatClampNeg
      · rw [if_pos g, if_pos g]; exact Or.inr ⟨rfl, rfl⟩
      · rw [if_neg g, if_neg g, if_neg (by omega : ¬ s' = n), if_neg (by omega : ¬ s' = n)]; exact Or.inl ⟨rfl, rfl⟩
    · obtain ⟨-, -, -, -, -, -, -, -, -, -, -, -, f15, f661, -⟩ := A i
      rw [f15, f661, if_neg (by omega : ¬ i = 2 * n + 1), if_neg (by omega : ¬ i = 2 * n)]
      by_cases g : q.1 18 m = -1 ∧ i = curB m o p
      · have hm : ¬ m = 0 := by
          intro hm
          have := g.2
          unfold curB at this
          rw [if_pos hm] at this
          omega
        rw [if_pos ⟨g.1, hm, g.2⟩, if_pos g]
        refine Or.inr ⟨⟨rfl, rfl⟩, fun s' hs' h9 => ?_⟩
        have ho := hO (m - 1) (by omega)
        obtain ⟨kk, g1, g2, g3, g4⟩ := ho.2.2.2.2.2.1
        have g5 := (hcur hm).2
        have hp2 := ho.2.1
        have e1 : s' = o (m - 1) := by have := g.2; omega
        have e2 : p (m - 1) = 1 := by have := g.2; omega
        rw [e1, g3] at h9
        have := g4 (nI_inj (b := 5) (by omega) (by decide) h9)
        omega
      · rw [if_neg (fun z => g ⟨z.1, z.2.2⟩), if_neg g]; exact Or.inl ⟨rfl, rfl⟩
/-- the parts of the invariant that speak of last statements -/
theorem added_last {q q2 : aQ} {nE n m : Nat} {o p : Nat → Nat} {k det det' e : Int32} (h : iP q nE n m o p) (hn : n < 24) (A : addedR q q2 n m o p k det det' e) : (∀ b, b < 49 → lk (q2.1 662 b) (n + 1)) ∧ (∀ b, 2 * (n + 1) ≤ b → b < 48 → q2.1 661 b = -1 ∧ q2.1 662 b = -1) ∧ ((∃ t, t < n + 1 ∧ q2.1 662 48 = nI t) ∧ q2.1 661 48 = 0) := by
  have hlat := h.lat
  have hcur := h.cur
  obtain ⟨h24, h5, c1, c2, c3, c4, hS, hO, t0, hl, hb, z0, z1⟩ := h
  obtain ⟨A, -⟩ := A
  have m0 : n = 0 → m = 0 := by
    intro h0
    by_cases hm : m = 0
    · exact hm
    · have := (hO 0 (by omega)).1; omega
  refine ⟨fun b hb9 => ?_, fun b h1 h2 => ?_, ?_⟩
  · obtain ⟨-, -, -, -, -, -, -, -, -, -, -, -, -, -, f662⟩ := A b
    rw [f662]
    by_cases g : b = curB m o p
    · rw [if_pos g]; exact Or.inr ⟨n, by omega, rfl⟩
    · rw [if_neg g]; exact (hl b hb9).up (by omega)
  · obtain ⟨-, -, -, -, -, -, -, -, -, -, -, -, -, f661, f662⟩ := A b
    have hB : ¬ b = curB m o p := by
      by_cases hm : m = 0
      · unfold curB; rw [if_pos hm]; omega
      · have := (hcur hm).1; omega
    rw [f661, f662, if_neg (fun z => hB z.2), if_neg hB]
    exact hb b (by omega) h2
  · obtain ⟨-, -, -, -, -, -, -, -, -, -, -, -, -, f661, f662⟩ := A 48
    by_cases hm : m = 0
    · have hB : curB m o p = 48 := by unfold curB; rw [if_pos hm]
      rw [f662, f661, if_pos hB.symm]
      refine ⟨⟨n, by omega, rfl⟩, ?_⟩
      by_cases hn0 : n = 0
      · have hx : q.1 18 m = -1 := by rw [hlat, hB]; exact (z0 hn0).1
        rw [if_pos ⟨hx, hB.symm⟩, hn0]; rfl
      · obtain ⟨⟨t, g1, g2⟩, g3⟩ := z1 (by omega)
        have hx : ¬ q.1 18 m = -1 := by rw [hlat, hB, g2]; exact nI_nm1 (by omega)
        rw [if_neg (fun z => hx z.1)]; exact g3
    · have hB : ¬ 48 = curB m o p := by have := (hcur hm).1; omega
      have hn0 : 0 < n := by
        rcases Nat.eq_zero_or_pos n with g | g
        · exact absurd (m0 g) hm
        · exact g
      rw [f662, f661, if_neg hB, if_neg (fun z => hB z.2)]
      obtain ⟨⟨t, g1, g2⟩, g3⟩ := z1 hn0
      exact ⟨⟨t, by omega, g2⟩, g3⟩
