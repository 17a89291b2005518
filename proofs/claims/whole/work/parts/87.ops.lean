/-! operations on pictures: what fits the values is what the class works out -/
def prods (o : Nat) (L M : List (Nat × Int)) : List (Nat × Int) := L.flatMap fun a => M.map fun b => wk o a.1 a.2 b.1 b.2
theorem mem_prods {o : Nat} {L M : List (Nat × Int)} {v : Nat × Int} : v ∈ prods o L M ↔ ∃ a, a ∈ L ∧ ∃ b, b ∈ M ∧ v = wk o a.1 a.2 b.1 b.2 := by
  unfold prods
  rw [List.mem_flatMap]
  constructor
  · rintro ⟨a, ha, h⟩
    rw [List.mem_map] at h
    obtain ⟨b, hb, e⟩ := h
    exact ⟨a, ha, b, hb, e.symm⟩
  · rintro ⟨a, ha, b, hb, e⟩
    exact ⟨a, ha, List.mem_map.mpr ⟨b, hb, e.symm⟩⟩
/-- a value of a picture: a number, a length or none -/
theorem val_c {p : Pc} {P : Nat × Int → Prop} : (∃ a, a ∈ vals p ∧ P a) ↔ (∃ n, n ∈ rp ∧ inR n p.1 ∧ P (1, n)) ∨ (∃ n, n ∈ rp ∧ 0 ≤ n ∧ inR n p.2.1 ∧ P (2, n)) ∨ (p.2.2.1 = true ∧ P (4, 0)) := by
  constructor
  · rintro ⟨⟨t, x⟩, ha, h⟩
    rw [mem_vals] at ha
    rcases ha with ⟨a, b, c⟩ | ⟨a, b, c, d⟩ | ⟨a, b⟩
    · dsimp only at a b c
      subst a
      exact Or.inl ⟨x, b, c, h⟩
    · dsimp only at a b c d
      subst a
      exact Or.inr (Or.inl ⟨x, b, c, d, h⟩)
    · rw [a] at h
      exact Or.inr (Or.inr ⟨b, h⟩)
  · rintro (⟨n, a, b, h⟩ | ⟨n, a, b, c, h⟩ | ⟨a, h⟩)
    · exact ⟨_, mem_vals.mpr (Or.inl ⟨rfl, a, b⟩), h⟩
    · exact ⟨_, mem_vals.mpr (Or.inr (Or.inl ⟨rfl, a, b, c⟩)), h⟩
    · exact ⟨_, mem_vals.mpr (Or.inr (Or.inr ⟨rfl, a⟩)), h⟩
theorem T0 {r : Rn} {n : Int} (h : okT r) (k : inR n r) : 0 ≤ n := by
  unfold inR at k
  rcases h with h | h
  · rw [h] at k; unfold eR at k; dsimp only at k; omega
  · omega
/-- pairs of numbers and lengths -/
def nS (x : Pc) (n : Int) : Prop := n ∈ rp ∧ inR n x.1
def tS (x : Pc) (n : Int) : Prop := n ∈ rp ∧ inR n x.2.1
theorem val_c' {p : Pc} (hp : okP p) {P : Nat × Int → Prop} : (∃ a, a ∈ vals p ∧ P a) ↔ (∃ n, nS p n ∧ P (1, n)) ∨ (∃ n, tS p n ∧ P (2, n)) ∨ (p.2.2.1 = true ∧ P (4, 0)) := by
  rw [val_c]
  constructor
  · rintro (⟨n, a, b, h⟩ | ⟨n, a, b, c, h⟩ | h)
    · exact Or.inl ⟨n, ⟨a, b⟩, h⟩
    · exact Or.inr (Or.inl ⟨n, ⟨a, c⟩, h⟩)
    · exact Or.inr (Or.inr h)
  · rintro (⟨n, a, h⟩ | ⟨n, a, h⟩ | h)
    · exact Or.inl ⟨n, a.1, a.2, h⟩
    · exact Or.inr (Or.inl ⟨n, a.1, T0 hp.2 a.2, a.2, h⟩)
    · exact Or.inr (Or.inr h)
/-- all the ways in which a pair of values can come -/
theorem pr_c {o : Nat} {x y : Pc} (hx : okP x) (hy : okP y) {v : Nat × Int} : v ∈ prods o (vals x) (vals y) ↔
    (∃ n m, nS x n ∧ nS y m ∧ v = wk o 1 n 1 m) ∨ (∃ n m, tS x n ∧ tS y m ∧ v = wk o 2 n 2 m) ∨
    (∃ n m, nS x n ∧ tS y m ∧ v = wk o 1 n 2 m) ∨ (∃ n m, tS x n ∧ nS y m ∧ v = wk o 2 n 1 m) ∨
    (∃ n, nS x n ∧ y.2.2.1 = true ∧ v = wk o 1 n 4 0) ∨ (∃ n, tS x n ∧ y.2.2.1 = true ∧ v = wk o 2 n 4 0) ∨
    (∃ m, x.2.2.1 = true ∧ nS y m ∧ v = wk o 4 0 1 m) ∨ (∃ m, x.2.2.1 = true ∧ tS y m ∧ v = wk o 4 0 2 m) ∨
    (x.2.2.1 = true ∧ y.2.2.1 = true ∧ v = wk o 4 0 4 0) := by
  rw [mem_prods, val_c' hx]
  simp only [val_c' hy]
  constructor
  · rintro (⟨n, a, ⟨m, b, e⟩ | ⟨m, b, e⟩ | ⟨b, e⟩⟩ | ⟨n, a, ⟨m, b, e⟩ | ⟨m, b, e⟩ | ⟨b, e⟩⟩ | ⟨a, ⟨m, b, e⟩ | ⟨m, b, e⟩ | ⟨b, e⟩⟩)
    · exact Or.inl ⟨n, m, a, b, e⟩
    · exact Or.inr (Or.inr (Or.inl ⟨n, m, a, b, e⟩))
    · exact Or.inr (Or.inr (Or.inr (Or.inr (Or.inl ⟨n, a, b, e⟩))))
    · exact Or.inr (Or.inr (Or.inr (Or.inl ⟨n, m, a, b, e⟩)))
    · exact Or.inr (Or.inl ⟨n, m, a, b, e⟩)
    · exact Or.inr (Or.inr (Or.inr (Or.inr (Or.inr (Or.inl ⟨n, a, b, e⟩)))))
    · exact Or.inr (Or.inr (Or.inr (Or.inr (Or.inr (Or.inr (Or.inl ⟨m, a, b, e⟩))))))
    · exact Or.inr (Or.inr (Or.inr (Or.inr (Or.inr (Or.inr (Or.inr (Or.inl ⟨m, a, b, e⟩)))))))
    · exact Or.inr (Or.inr (Or.inr (Or.inr (Or.inr (Or.inr (Or.inr (Or.inr ⟨a, b, e⟩)))))))
  · rintro (⟨n, m, a, b, e⟩ | ⟨n, m, a, b, e⟩ | ⟨n, m, a, b, e⟩ | ⟨n, m, a, b, e⟩ | ⟨n, a, b, e⟩ | ⟨n, a, b, e⟩ | ⟨m, a, b, e⟩ | ⟨m, a, b, e⟩ | ⟨a, b, e⟩)
    · exact Or.inl ⟨n, a, Or.inl ⟨m, b, e⟩⟩
    · exact Or.inr (Or.inl ⟨n, a, Or.inr (Or.inl ⟨m, b, e⟩)⟩)
    · exact Or.inl ⟨n, a, Or.inr (Or.inl ⟨m, b, e⟩)⟩
    · exact Or.inr (Or.inl ⟨n, a, Or.inl ⟨m, b, e⟩⟩)
    · exact Or.inl ⟨n, a, Or.inr (Or.inr ⟨b, e⟩)⟩
    · exact Or.inr (Or.inl ⟨n, a, Or.inr (Or.inr ⟨b, e⟩)⟩)
    · exact Or.inr (Or.inr ⟨a, Or.inl ⟨m, b, e⟩⟩)
    · exact Or.inr (Or.inr ⟨a, Or.inr (Or.inl ⟨m, b, e⟩)⟩)
    · exact Or.inr (Or.inr ⟨a, Or.inr (Or.inr ⟨b, e⟩)⟩)
theorem ex_n {x : Pc} (hx : okP x) : (∃ n, nS x n) ↔ ¬ isE x.1 = true := by
  constructor
  · rintro ⟨n, -, h⟩ e; exact no_in e h
  · intro e; obtain ⟨-, -, a, b, -⟩ := ends hx.1 e; exact ⟨_, a, b⟩
theorem ex_t {x : Pc} (hx : okP x) : (∃ n, tS x n) ↔ ¬ isE x.2.1 = true := by
  constructor
  · rintro ⟨n, -, h⟩ e; exact no_in e h
  · intro e; obtain ⟨-, -, a, b, -⟩ := ends hx.2.R e; exact ⟨_, a, b⟩
def otN (p : Pc) : Bool := !isE p.2.1 || p.2.2.1
def otT (p : Pc) : Bool := !isE p.1 || p.2.2.1
def hasV (p : Pc) : Bool := !isE p.1 || !isE p.2.1 || p.2.2.1
def mixE (x y : Pc) : Bool := !(!otN x && !otN y || !otT x && !otT y)
def hol (r : Rn) (n : Int) : Bool := decide (r.1 ≤ n) && decide (n ≤ r.2)
def holO (r : Rn) (n : Int) : Bool := decide (r.1 ≤ r.2) && (!decide (r.1 = n) || !decide (r.2 = n))
def hasTr (p : Pc) : Bool := holO p.1 0 || holO p.2.1 0
def hasFa (p : Pc) : Bool := hol p.1 0 || hol p.2.1 0 || p.2.2.1
def meets (r s : Rn) : Bool := decide (r.1 ≤ s.2) && decide (s.1 ≤ r.2)
def sngl (r : Rn) : Bool := decide (r.1 = r.2)
def oneV (p : Pc) : Bool := if p.2.2.1 then isE p.1 && isE p.2.1 else (sngl p.1 && isE p.2.1 || isE p.1 && sngl p.2.1)
def mayEq (p s : Pc) : Bool := meets p.1 s.1 || meets p.2.1 s.2.1 || p.2.2.1 && s.2.2.1
def mayDi (p s : Pc) : Bool := !oneV p || !oneV s || !mayEq p s
def lesP (p s : Pc) : Bool := decide (p.1.1 < s.1.2) || decide (p.2.1.1 < s.2.1.2)
def nleP (p s : Pc) : Bool := decide (s.1.1 ≤ p.1.2) || decide (s.2.1.1 ≤ p.2.1.2)
def clOp (o : Nat) (x y : Pc) : Pc :=
  if o = 0 then (sumR x.1 y.1, sumR x.2.1 y.2.1, false, false)
  else if o = 1 then (difR x.1 y.1, eR, false, false)
  else if o = 2 then (mulR x.1 y.1, eR, false, false)
  else if o = 3 then (divR x.1 y.1, eR, false, false)
  else if o = 4 then (truR (lesP x y) (nleP x y), eR, false, false)
  else (truR (mayEq x y) (mayDi x y), eR, false, false)
def tyE (o : Nat) (x y : Pc) : Bool := if o = 0 ∨ o = 4 then mixE x y else if o = 5 then false else otN x || otN y
def zeE (o : Nat) (x y : Pc) : Bool := if o = 3 then !isE x.1 && hol y.1 0 else false
/-- less, among the numbers that stand for all -/
theorem r289_lt {r s : Rn} (hr : okR r) (hs : okR s) (nr : ¬ isE r = true) (ns : ¬ isE s = true) : (r289 r.1 < r289 s.2 ↔ r.1 < s.2) ∧ (r289 s.1 ≤ r289 r.2 ↔ s.1 ≤ r.2) := by
  have a := ok_ne hr nr
  have b := ok_ne hs ns
  have e1 : r289 r.1 = -289 ∧ r.1 = -1000 ∨ r289 r.1 = r.1 ∧ -16 ≤ r.1 ∧ r.1 ≤ 16 := by
    unfold r289; split
    · omega
    · split <;> omega
  have e2 : r289 r.2 = 289 ∧ r.2 = 1000 ∨ r289 r.2 = r.2 ∧ -16 ≤ r.2 ∧ r.2 ≤ 16 := by
    unfold r289; split
    · omega
    · split <;> omega
  have e3 : r289 s.1 = -289 ∧ s.1 = -1000 ∨ r289 s.1 = s.1 ∧ -16 ≤ s.1 ∧ s.1 ≤ 16 := by
    unfold r289; split
    · omega
    · split <;> omega
  have e4 : r289 s.2 = 289 ∧ s.2 = 1000 ∨ r289 s.2 = s.2 ∧ -16 ≤ s.2 ∧ s.2 ≤ 16 := by
    unfold r289; split
    · omega
    · split <;> omega
  omega
theorem ex_lt {r s : Rn} (hr : okR r) (hs : okR s) : ((∃ n m, (n ∈ rp ∧ inR n r) ∧ (m ∈ rp ∧ inR m s) ∧ n < m) ↔ r.1 < s.2) ∧ ((∃ n m, (n ∈ rp ∧ inR n r) ∧ (m ∈ rp ∧ inR m s) ∧ ¬ n < m) ↔ s.1 ≤ r.2) := by
  by_cases nr : isE r = true
  · have e := isE_eR hr nr
    subst e
    refine ⟨⟨?_, ?_⟩, ?_, ?_⟩
    · rintro ⟨n, m, ⟨-, a⟩, -⟩; exact absurd a (no_in nr)
    · intro h; exfalso; rcases hs with hs | hs
      · rw [hs] at h; unfold eR at h; dsimp only at h; omega
      · unfold eR at h; dsimp only at h; omega
    · rintro ⟨n, m, ⟨-, a⟩, -⟩; exact absurd a (no_in nr)
    · intro h; exfalso; rcases hs with hs | hs
      · rw [hs] at h; unfold eR at h; dsimp only at h; omega
      · unfold eR at h; dsimp only at h; omega
  by_cases ns : isE s = true
  · have e := isE_eR hs ns
    subst e
    have o := ok_ne hr nr
    refine ⟨⟨?_, ?_⟩, ?_, ?_⟩
    · rintro ⟨n, m, -, ⟨-, a⟩, -⟩; exact absurd a (no_in ns)
    · intro h; exfalso; unfold eR at h; dsimp only at h; omega
    · rintro ⟨n, m, -, ⟨-, a⟩, -⟩; exact absurd a (no_in ns)
    · intro h; exfalso; unfold eR at h; dsimp only at h; omega
  obtain ⟨k1, k2⟩ := r289_lt hr hs nr ns
  obtain ⟨x1, x2, x3, x4, x5, x6, x7⟩ := ends hr nr
  obtain ⟨y1, y2, y3, y4, y5, y6, y7⟩ := ends hs ns
  refine ⟨⟨?_, ?_⟩, ?_, ?_⟩
  · rintro ⟨n, m, ⟨a, b⟩, ⟨c, d⟩, e⟩
    have := x7 n a b
    have := y7 m c d
    omega
  · intro h; exact ⟨_, _, ⟨x3, x4⟩, ⟨y5, y6⟩, k1.mpr h⟩
  · rintro ⟨n, m, ⟨a, b⟩, ⟨c, d⟩, e⟩
    have := x7 n a b
    have := y7 m c d
    omega
  · intro h; exact ⟨_, _, ⟨x5, x6⟩, ⟨y3, y4⟩, by have := k2.mpr h; omega⟩
theorem ex_eq {r s : Rn} (hr : okR r) (hs : okR s) : (∃ n m, (n ∈ rp ∧ inR n r) ∧ (m ∈ rp ∧ inR m s) ∧ n = m) ↔ meets r s = true := by
  unfold meets
  rw [Bool.and_eq_true, decide_eq_true_iff, decide_eq_true_iff]
  constructor
  · rintro ⟨n, m, ⟨a, b⟩, ⟨c, d⟩, e⟩
    unfold inR at b d
    omega
  · rintro ⟨h1, h2⟩
    have nr : ¬ isE r = true := by
      intro z; have e := isE_eR hr z; subst e
      unfold eR at h1 h2; dsimp only at h1 h2
      rcases hs with hs | hs
      · rw [hs] at h1; unfold eR at h1; dsimp only at h1; omega
      · omega
    have ns : ¬ isE s = true := by
      intro z; have e := isE_eR hs z; subst e
      unfold eR at h1 h2; dsimp only at h1 h2
      have := ok_ne hr nr
      omega
    have a := ok_ne hr nr
    have b := ok_ne hs ns
    by_cases e : max r.1 s.1 = -1000
    · exact ⟨-289, -289, ⟨mem_rp.mpr (by omega), by unfold inR; omega⟩, ⟨mem_rp.mpr (by omega), by unfold inR; omega⟩, rfl⟩
    · exact ⟨max r.1 s.1, max r.1 s.1, ⟨mem_rp.mpr (by omega), by unfold inR; omega⟩, ⟨mem_rp.mpr (by omega), by unfold inR; omega⟩, rfl⟩
