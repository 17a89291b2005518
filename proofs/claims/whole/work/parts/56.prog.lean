/-! the program: what holds of both sides -/
def lk (x : Int32) (n : Nat) : Prop := x = -1 ∨ ∃ t, t < n ∧ x = nI t
theorem lk.up {x : Int32} {n n' : Nat} (h : lk x n) (hn : n ≤ n') : lk x n' := by
  rcases h with h | ⟨t, h1, h2⟩
  · exact Or.inl h
  · exact Or.inr ⟨t, by omega, h2⟩
/-- the innermost loop around s, at most f levels up, is L -/
def la (q : aQ) : Nat → Nat → Nat → Prop
  | 0, _, _ => False
  | f + 1, s, L => ∃ p, p < s ∧ q.1 12 s = nI p ∧ ((q.1 9 p = 5 ∧ p = L) ∨ (q.1 9 p ≠ 5 ∧ la q f p L))
/-- s lies d levels deep -/
def dp (q : aQ) : Nat → Nat → Prop
  | 0, s => q.1 12 s = -1
  | d + 1, s => ∃ p, p < s ∧ q.1 12 s = nI p ∧ dp q d p
theorem la.keep {q q' : aQ} {n : Nat} (h12 : ∀ s, s < n → q'.1 12 s = q.1 12 s) (h9 : ∀ s, s < n → q'.1 9 s = q.1 9 s) : ∀ {f s L : Nat}, s < n → la q f s L → la q' f s L
  | 0, _, _, _, h => h
  | f + 1, s, L, hs, ⟨p, h1, h2, h3⟩ => ⟨p, h1, (h12 s hs).trans h2, by
      rw [h9 p (by omega)]
      exact h3.imp id (fun z => ⟨z.1, la.keep h12 h9 (by omega) z.2⟩)⟩
theorem dp.keep {q q' : aQ} {n : Nat} (h12 : ∀ s, s < n → q'.1 12 s = q.1 12 s) : ∀ {d s : Nat}, s < n → dp q d s → dp q' d s
  | 0, s, hs, h => (h12 s hs).trans h
  | d + 1, s, hs, ⟨p, h1, h2, h3⟩ => ⟨p, h1, (h12 s hs).trans h2, dp.keep h12 (by omega) h3⟩
/-- kind, detail and expression of a statement -/
def dt (q : aQ) (nE s k : Nat) : Prop := (k = 0 → ∃ v, v < 5 ∧ q.1 10 s = nI v ∧ q.1 656 s = nI v) ∧ (k = 1 → ∃ e, 1 ≤ e ∧ e ≤ 4 ∧ q.1 10 s = nI e ∧ q.1 656 s = nI e) ∧ (k = 2 ∨ k = 3 → ∃ L, L < s ∧ q.1 10 s = nI L ∧ la q 5 s L) ∧ (k = 6 → ∃ e, e ≤ 4 ∧ q.1 10 s = nI e ∧ q.1 656 s = nI e) ∧ (k = 0 ∨ k = 4 ∨ k = 5 → ∃ e, e < nE ∧ q.1 11 s = nI e ∧ q.1 657 s = nI e)
/-- where a statement stands -/
def plc (q : aQ) (s : Nat) : Prop := (q.1 12 s = -1 ∧ q.1 13 s = 0 ∧ q.1 659 s = 48) ∨ ∃ p b, p < s ∧ b < 2 ∧ q.1 12 s = nI p ∧ q.1 13 s = nI b ∧ q.1 659 s = nI (2 * p + b) ∧ ∃ k, 4 ≤ k ∧ k ≤ 6 ∧ q.1 9 p = nI k ∧ (k = 5 → b = 0)
def iS (q : aQ) (nE n s : Nat) : Prop := q.1 655 s = q.1 9 s ∧ q.1 658 s = q.1 12 s ∧ q.1 660 s = q.1 14 s ∧ lk (q.1 14 s) n ∧ (∀ b, b < 2 → q.1 661 (2 * s + b) = q.1 15 (2 * s + b) ∧ lk (q.1 15 (2 * s + b)) n ∧ (b = 1 → q.1 9 s = 5 → q.1 15 (2 * s + b) = -1)) ∧ plc q s ∧ (∃ k, k ≤ 6 ∧ q.1 9 s = nI k ∧ dt q nE s k) ∧ ∃ d, d ≤ 5 ∧ dp q d s
/-- an open statement, at level l -/
def iO (q : aQ) (n : Nat) (o p : Nat → Nat) (l : Nat) : Prop := o l < n ∧ p l < 2 ∧ q.1 16 l = nI (o l) ∧ q.1 17 l = nI (p l) ∧ q.1 663 l = nI (2 * o l + p l) ∧ (∃ k, 4 ≤ k ∧ k ≤ 6 ∧ q.1 9 (o l) = nI k ∧ (k = 5 → p l = 0)) ∧ q.1 18 (l + 1) = q.1 662 (2 * o l + p l) ∧ (p l = 0 → q.1 662 (2 * o l + 1) = -1) ∧ (l = 0 → q.1 12 (o l) = -1) ∧ (0 < l → q.1 12 (o l) = nI (o (l - 1)) ∧ o (l - 1) < o l)
def iP (q : aQ) (nE n m : Nat) (o p : Nat → Nat) : Prop := n ≤ 24 ∧ m ≤ 5 ∧ q.1 8 7 = nI n ∧ q.1 650 5 = nI n ∧ q.1 8 11 = nI m ∧ q.1 650 14 = nI m ∧ (∀ s, s < n → iS q nE n s) ∧ (∀ l, l < m → iO q n o p l) ∧ q.1 18 0 = q.1 662 48 ∧ (∀ b, b < 49 → lk (q.1 662 b) n) ∧ (∀ b, 2 * n ≤ b → b < 48 → q.1 661 b = -1 ∧ q.1 662 b = -1) ∧ (n = 0 → q.1 662 48 = -1 ∧ q.1 661 48 = -1) ∧ (0 < n → (∃ t, t < n ∧ q.1 662 48 = nI t) ∧ q.1 661 48 = 0)
/-- the block that new statements go to -/
def curB (m : Nat) (o p : Nat → Nat) : Nat := if m = 0 then 48 else 2 * o (m - 1) + p (m - 1)
theorem iP.lat {q : aQ} {nE n m : Nat} {o p : Nat → Nat} (h : iP q nE n m o p) : q.1 18 m = q.1 662 (curB m o p) := by
  obtain ⟨-, -, -, -, -, -, -, hO, h0, -⟩ := h
  unfold curB
  by_cases hm : m = 0
  · subst hm; rw [if_pos rfl]; exact h0
  · rw [if_neg hm]
    have := (hO (m - 1) (by omega)).2.2.2.2.2.2.1
    rw [show m - 1 + 1 = m by omega] at this
    exact this
theorem iP.cur {q : aQ} {nE n m : Nat} {o p : Nat → Nat} (h : iP q nE n m o p) (hm : ¬ m = 0) : curB m o p < 2 * n ∧ curB m o p = 2 * o (m - 1) + p (m - 1) := by
  obtain ⟨-, -, -, -, -, -, -, hO, -⟩ := h
  unfold curB
  rw [if_neg hm]
  have h1 := hO (m - 1) (by omega)
  have := h1.1
  have := h1.2.1
  exact ⟨by omega, rfl⟩
/-- the blocks of the levels are apart -/
theorem iO_lt {q : aQ} {n m : Nat} {o p : Nat → Nat} (hO : ∀ l, l < m → iO q n o p l) : ∀ l k, k < l → l < m → o k < o l := by
  intro l
  induction l with
  | zero => intro k hk; omega
  | succ l ih =>
    intro k hk hl
    have h1 := ((hO (l + 1) hl).2.2.2.2.2.2.2.2.2 (by omega)).2
    rw [show l + 1 - 1 = l by omega] at h1
    by_cases e : k = l
    · subst e; exact h1
    · have := ih k (by omega) (by omega)
      omega
