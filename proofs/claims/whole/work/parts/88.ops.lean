/-! the operations -/
section
variable {x y : Pc}
theorem add_eq (hx : okP x) (hy : okP y) : hul (prods 0 (vals x) (vals y)) = (sumR x.1 y.1, sumR x.2.1 y.2.1, false, false) := by
  refine hul_eq (isH.n ((isH_add hx.1 hy.1).iff fun z => ?_)) (isH.t ((isH_add hx.2.R hy.2.R).iff fun z => ?_)) ?_
  · rw [pr_c hx hy]
    simp [wk, prS, nS, and_assoc]
  · rw [pr_c hx hy]
    simp [wk, prS, tS, and_assoc]
  · rw [hulO]
    simp [pr_c hx hy, wk]
theorem sub_eq (hx : okP x) (hy : okP y) : hul (prods 1 (vals x) (vals y)) = (difR x.1 y.1, eR, false, false) := by
  refine hul_eq (isH.n ((isH_sub hx.1 hy.1).iff fun z => ?_)) (isH.t (isH_no fun z => ?_)) ?_
  · rw [pr_c hx hy]
    simp [wk, prS, nS, and_assoc]
  · rw [pr_c hx hy]
    simp [wk]
  · rw [hulO]
    simp [pr_c hx hy, wk]
theorem mul_eq (hx : okP x) (hy : okP y) : hul (prods 2 (vals x) (vals y)) = (mulR x.1 y.1, eR, false, false) := by
  refine hul_eq (isH.n ((isH_mul hx.1 hy.1).iff fun z => ?_)) (isH.t (isH_no fun z => ?_)) ?_
  · rw [pr_c hx hy]
    simp [wk, prS, nS, and_assoc]
  · rw [pr_c hx hy]
    simp [wk]
  · rw [hulO]
    simp [pr_c hx hy, wk]
theorem d_1 {n m z : Int} : ((1, z) : Nat × Int) = (if m = 0 then (0, 3) else (1, n.fdiv m)) ↔ ¬ m = 0 ∧ z = n.fdiv m := by split <;> simp_all
theorem d_k {n m z : Int} {k : Nat} (h0 : k ≠ 0) (h1 : k ≠ 1) : ¬ ((k, z) : Nat × Int) = (if m = 0 then (0, 3) else (1, n.fdiv m)) := by split <;> simp_all
theorem div_eq (hx : okP x) (hy : okP y) : hul (prods 3 (vals x) (vals y)) = (divR x.1 y.1, eR, false, false) := by
  refine hul_eq (isH.n ((isH_div hx.1 hy.1).iff fun z => ?_)) (isH.t (isH_no fun z => ?_)) ?_
  · rw [pr_c hx hy]
    simp [wk, nS, and_assoc, d_1]
  · rw [pr_c hx hy]
    simp [wk, d_k]
  · rw [hulO]
    simp [pr_c hx hy, wk, d_k]
theorem les_eq (hx : okP x) (hy : okP y) : hul (prods 4 (vals x) (vals y)) = (truR (lesP x y) (nleP x y), eR, false, false) := by
  have a := ex_lt hx.1 hy.1
  have b := ex_lt hx.2.R hy.2.R
  have wn : ∀ n m, wk 4 1 n 1 m = (1, if n < m then 1 else 0) := fun n m => by simp [wk]
  have wt : ∀ n m, wk 4 2 n 2 m = (1, if n < m then 1 else 0) := fun n m => by simp [wk]
  have c : ∀ z : Int, (1, z) ∈ prods 4 (vals x) (vals y) ↔ (∃ n m, (n ∈ rp ∧ inR n x.1) ∧ (m ∈ rp ∧ inR m y.1) ∧ z = if n < m then 1 else 0) ∨ (∃ n m, (n ∈ rp ∧ inR n x.2.1) ∧ (m ∈ rp ∧ inR m y.2.1) ∧ z = if n < m then 1 else 0) := by
    intro z
    rw [pr_c hx hy]
    simp [wk, nS, tS]
  have i1 : ∀ n m : Int, (1 : Int) = (if n < m then 1 else 0) ↔ n < m := fun n m => by split <;> simp_all
  have i0 : ∀ n m : Int, (0 : Int) = (if n < m then 1 else 0) ↔ ¬ n < m := fun n m => by split <;> simp_all
  refine hul_eq (isH.n (isH_tru (fun z hz => ?_) ?_ ?_)) (isH.t (isH_no fun z => ?_)) ?_
  · rw [c] at hz
    rcases hz with ⟨n, m, -, -, e⟩ | ⟨n, m, -, -, e⟩ <;> (split at e <;> omega)
  · rw [c]
    simp only [i1]
    rw [a.1, b.1]
    unfold lesP
    simp
  · rw [c]
    simp only [i0]
    rw [a.2, b.2]
    unfold nleP
    simp
  · rw [pr_c hx hy]
    simp [wk]
  · rw [hulO]
    simp [pr_c hx hy, wk]
theorem r289_inj {r : Rn} (h : okR r) (n : ¬ isE r = true) (e : r289 r.1 = r289 r.2) : r.1 = r.2 := by
  have a := ok_ne h n
  have e1 : r289 r.1 = -289 ∧ r.1 = -1000 ∨ r289 r.1 = r.1 ∧ -16 ≤ r.1 ∧ r.1 ≤ 16 := by
    unfold r289; split
    · omega
    · split <;> omega
  have e2 : r289 r.2 = 289 ∧ r.2 = 1000 ∨ r289 r.2 = r.2 ∧ -16 ≤ r.2 ∧ r.2 ≤ 16 := by
    unfold r289; split
    · omega
    · split <;> omega
  omega
theorem sngl_t {r : Rn} : sngl r = true ↔ r.1 = r.2 := decide_eq_true_iff
theorem meets_t {r s : Rn} : meets r s = true ↔ r.1 ≤ s.2 ∧ s.1 ≤ r.2 := by unfold meets; rw [Bool.and_eq_true, decide_eq_true_iff, decide_eq_true_iff]
theorem ex_ne {r s : Rn} (hr : okR r) (hs : okR s) : (∃ n m, (n ∈ rp ∧ inR n r) ∧ (m ∈ rp ∧ inR m s) ∧ ¬ n = m) ↔ (!isE r && !isE s && !(sngl r && sngl s && meets r s)) = true := by
  by_cases nr : isE r = true
  · rw [nr]
    exact ⟨fun ⟨n, m, ⟨_, a⟩, _⟩ => absurd a (no_in nr), fun z => by cases z⟩
  by_cases ns : isE s = true
  · rw [ns]
    refine ⟨fun ⟨n, m, _, ⟨_, a⟩, _⟩ => absurd a (no_in ns), fun z => ?_⟩
    cases h : isE r <;> rw [h] at z <;> cases z
  have fr : isE r = false := by simpa using nr
  have fs : isE s = false := by simpa using ns
  rw [fr, fs]
  simp only [Bool.not_false, Bool.true_and, Bool.not_eq_true', Bool.and_eq_false_iff]
  obtain ⟨x1, x2, x3, x4, x5, x6, x7⟩ := ends hr nr
  obtain ⟨y1, y2, y3, y4, y5, y6, y7⟩ := ends hs ns
  constructor
  · rintro ⟨n, m, ⟨a, b⟩, ⟨c, d⟩, e⟩
    have u := x7 n a b
    have v := y7 m c d
    by_cases s1 : sngl r = true
    · by_cases s2 : sngl s = true
      · right
        rw [sngl_t] at s1 s2
        rw [← Bool.not_eq_true, meets_t]
        rw [s1] at u
        rw [s2] at v
        have o := ok_ne hr nr
        have o' := ok_ne hs ns
        unfold inR at *
        have e1 : r289 r.2 = r.2 := by unfold r289; rw [if_neg (by omega), if_neg (by omega)]
        have e2 : r289 s.2 = s.2 := by unfold r289; rw [if_neg (by omega), if_neg (by omega)]
        omega
      · left; right; simpa using s2
    · left; left; simpa using s1
  · intro h
    by_cases e : r289 r.1 = r289 r.2
    · have e' := r289_inj hr nr e
      by_cases f : r289 s.1 = r289 s.2
      · have f' := r289_inj hs ns f
        have s1 : sngl r = true := sngl_t.mpr e'
        have s2 : sngl s = true := sngl_t.mpr f'
        rw [s1, s2] at h
        have h : meets r s = false := by simpa using h
        refine ⟨_, _, ⟨x3, x4⟩, ⟨y3, y4⟩, fun z => ?_⟩
        rw [← Bool.not_eq_true, meets_t] at h
        have o := ok_ne hr nr
        have o' := ok_ne hs ns
        have e1 : r289 r.1 = r.1 := by unfold r289; rw [if_neg (by omega), if_neg (by omega)]
        have e2 : r289 s.1 = s.1 := by unfold r289; rw [if_neg (by omega), if_neg (by omega)]
        omega
      · by_cases g : r289 r.1 = r289 s.1
        · exact ⟨_, _, ⟨x3, x4⟩, ⟨y5, y6⟩, by omega⟩
        · exact ⟨_, _, ⟨x3, x4⟩, ⟨y3, y4⟩, g⟩
    · by_cases g : r289 r.1 = r289 s.1
      · exact ⟨_, _, ⟨x5, x6⟩, ⟨y3, y4⟩, by omega⟩
      · exact ⟨_, _, ⟨x3, x4⟩, ⟨y3, y4⟩, g⟩
theorem sngl_n {r : Rn} (h : okR r) (s : sngl r = true) : isE r = false := by
  rw [sngl_t] at s
  rw [← Bool.not_eq_true, isE_t]
  omega
theorem meets_n {r s : Rn} (hr : okR r) (hs : okR s) (h : meets r s = true) : isE r = false ∧ isE s = false := by
  obtain ⟨n, m, ⟨-, a⟩, ⟨-, b⟩, -⟩ := (ex_eq hr hs).mpr h
  constructor
  · rw [← Bool.not_eq_true]; exact fun z => no_in z a
  · rw [← Bool.not_eq_true]; exact fun z => no_in z b
theorem ex_n' (hx : okP x) : (∃ n, nS x n) ↔ (!isE x.1) = true := by rw [ex_n hx]; cases isE x.1 <;> decide
theorem ex_t' (hx : okP x) : (∃ n, tS x n) ↔ (!isE x.2.1) = true := by rw [ex_t hx]; cases isE x.2.1 <;> decide
theorem ex_2 {P Q : Int → Prop} : (∃ n m, P n ∧ Q m) ↔ (∃ n, P n) ∧ ∃ m, Q m := ⟨fun ⟨n, m, a, b⟩ => ⟨⟨n, a⟩, m, b⟩, fun ⟨⟨n, a⟩, m, b⟩ => ⟨n, m, a, b⟩⟩
theorem equ_eq (hx : okP x) (hy : okP y) (vx : hasV x = true) (vy : hasV y = true) : hul (prods 5 (vals x) (vals y)) = (truR (mayEq x y) (mayDi x y), eR, false, false) := by
  have wn : ∀ n m, wk 5 1 n 1 m = (1, if n = m then 1 else 0) := fun n m => by simp [wk]
  have wt : ∀ n m, wk 5 2 n 2 m = (1, if n = m then 1 else 0) := fun n m => by simp [wk]
  have c : ∀ z : Int, (1, z) ∈ prods 5 (vals x) (vals y) ↔ (∃ n m, nS x n ∧ nS y m ∧ z = if n = m then 1 else 0) ∨ (∃ n m, tS x n ∧ tS y m ∧ z = if n = m then 1 else 0) ∨ ((∃ n m, nS x n ∧ tS y m) ∧ z = 0) ∨ ((∃ n m, tS x n ∧ nS y m) ∧ z = 0) ∨ ((∃ n, nS x n) ∧ y.2.2.1 = true ∧ z = 0) ∨ ((∃ n, tS x n) ∧ y.2.2.1 = true ∧ z = 0) ∨ (x.2.2.1 = true ∧ (∃ n, nS y n) ∧ z = 0) ∨ (x.2.2.1 = true ∧ (∃ n, tS y n) ∧ z = 0) ∨ (x.2.2.1 = true ∧ y.2.2.1 = true ∧ z = 1) := by
    intro z
    rw [pr_c hx hy]
    simp [wk]
    grind
  have i1 : ∀ n m : Int, (1 : Int) = (if n = m then 1 else 0) ↔ n = m := fun n m => by split <;> simp_all
  have i0 : ∀ n m : Int, (0 : Int) = (if n = m then 1 else 0) ↔ ¬ n = m := fun n m => by split <;> simp_all
  have eN : (∃ n m, nS x n ∧ nS y m ∧ n = m) ↔ meets x.1 y.1 = true := ex_eq hx.1 hy.1
  have eT : (∃ n m, tS x n ∧ tS y m ∧ n = m) ↔ meets x.2.1 y.2.1 = true := ex_eq hx.2.R hy.2.R
  have fN : (∃ n m, nS x n ∧ nS y m ∧ ¬ n = m) ↔ _ := ex_ne hx.1 hy.1
  have fT : (∃ n m, tS x n ∧ tS y m ∧ ¬ n = m) ↔ _ := ex_ne hx.2.R hy.2.R
  refine hul_eq (isH.n (isH_tru (fun z hz => ?_) ?_ ?_)) (isH.t (isH_no fun z => ?_)) ?_
  · rw [c] at hz
    rcases hz with ⟨n, m, -, -, e⟩ | ⟨n, m, -, -, e⟩ | h | h | h | h | h | h | h
    · split at e <;> omega
    · split at e <;> omega
    · exact Or.inl h.2
    · exact Or.inl h.2
    · exact Or.inl h.2.2
    · exact Or.inl h.2.2
    · exact Or.inl h.2.2
    · exact Or.inl h.2.2
    · exact Or.inr h.2.2
  · rw [c]
    simp only [i1]
    rw [eN, eT]
    unfold mayEq
    simp [or_assoc]
  · rw [c]
    simp only [i0]
    rw [fN, fT]
    simp only [ex_2, ex_n' hx, ex_t' hx, ex_n' hy, ex_t' hy]
    have m1 := meets_n hx.1 hy.1
    have m2 := meets_n hx.2.R hy.2.R
    have s1 := sngl_n hx.1
    have s2 := sngl_n hx.2.R
    have s3 := sngl_n hy.1
    have s4 := sngl_n hy.2.R
    unfold mayDi oneV mayEq
    unfold hasV at vx vy
    generalize isE x.1 = a1 at *
    generalize isE x.2.1 = a2 at *
    generalize x.2.2.1 = a3 at *
    generalize isE y.1 = b1 at *
    generalize isE y.2.1 = b2 at *
    generalize y.2.2.1 = b3 at *
    generalize sngl x.1 = c1 at *
    generalize sngl x.2.1 = c2 at *
    generalize sngl y.1 = d1 at *
    generalize sngl y.2.1 = d2 at *
    generalize meets x.1 y.1 = e1 at *
    generalize meets x.2.1 y.2.1 = e2 at *
    clear eN eT fN fT c
    cases a1 <;> cases a2 <;> cases a3 <;> cases b1 <;> cases b2 <;> cases b3 <;> simp_all
  · rw [pr_c hx hy]
    simp [wk]
  · rw [hulO]
    simp [pr_c hx hy, wk]
end
