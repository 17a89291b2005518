/-! what an expression comes to -/
/-- a leaf: kind, number; the variables va, fd inputs -/
def lfv (q : aQ) (va : Nat → Nat × Int) (fd e tk : Nat) : (Nat × Int) × Nat :=
  if q.1 3 e = 0 then ((1, (q.1 4 e).toInt), tk)
  else if q.1 3 e = 1 then ((2, (q.1 4 e).toInt), tk)
  else if q.1 3 e = 2 then ((4, 0), tk)
  else if q.1 3 e = 3 then (if (va (q.1 4 e).toNatClampNeg).1 = 8 then ((0, 2), tk) else (va (q.1 4 e).toNatClampNeg, tk))
  else if tk < fd then ((1, (q.1 648 tk).toInt), tk + 1) else ((1, 0), tk)
def opn (q : aQ) (e : Nat) : Nat := (q.1 2 e).toNatClampNeg
def lft (q : aQ) (e : Nat) : Nat := (q.1 5 e).toNatClampNeg
def rgt (q : aQ) (e : Nat) : Nat := (q.1 6 e).toNatClampNeg
def ev (q : aQ) (va : Nat → Nat × Int) (fd : Nat) : Nat → Nat → Nat → (Nat × Int) × Nat
  | 0, _, tk => ((9, 0), tk)
  | f + 1, e, tk =>
    if q.1 2 e = -1 then lfv q va fd e tk
    else if (ev q va fd f (lft q e) tk).1.1 = 0 ∨ (ev q va fd f (lft q e) tk).1.1 = 9 then ev q va fd f (lft q e) tk
    else if 6 ≤ opn q e then (cap (wk (opn q e) (ev q va fd f (lft q e) tk).1.1 (ev q va fd f (lft q e) tk).1.2 4 0), (ev q va fd f (lft q e) tk).2)
    else if (ev q va fd f (rgt q e) (ev q va fd f (lft q e) tk).2).1.1 = 0 ∨ (ev q va fd f (rgt q e) (ev q va fd f (lft q e) tk).2).1.1 = 9 then ev q va fd f (rgt q e) (ev q va fd f (lft q e) tk).2
    else (cap (wk (opn q e) (ev q va fd f (lft q e) tk).1.1 (ev q va fd f (lft q e) tk).1.2 (ev q va fd f (rgt q e) (ev q va fd f (lft q e) tk).2).1.1 (ev q va fd f (rgt q e) (ev q va fd f (lft q e) tk).2).1.2), (ev q va fd f (rgt q e) (ev q va fd f (lft q e) tk).2).2)
def rOk (r : Nat × Int) : Prop := vOk r.1 r.2 ∨ (r.1 = 0 ∧ (r.2 = 1 ∨ r.2 = 2 ∨ r.2 = 3)) ∨ r = (9, 0)
theorem rOk_v {r : Nat × Int} (h : rOk r) (h2 : ¬ (r.1 = 0 ∨ r.1 = 9)) : vOk r.1 r.2 := by
  rcases h with h | h | h
  · exact h
  · exact absurd (Or.inl h.1) h2
  · rw [h] at h2; exact absurd (Or.inr rfl) h2
theorem wk_ok {o xt yt : Nat} {x y : Int} (hx : vOk xt x) (hy : vOk yt y) : rOk (cap (wk o xt x yt y)) := by
  have bx := hx.lt
  have bY := hy.lt
  have one : ∀ z : Int, rOk (cap (1, z)) := by
    intro z
    by_cases h : -1000000000 ≤ z ∧ z ≤ 1000000000
    · rw [cap_s h]; exact Or.inl (Or.inl ⟨rfl, h⟩)
    · rw [cap_o (by decide) (by omega)]; exact Or.inr (Or.inr rfl)
  have err : ∀ z : Int, z = 1 ∨ z = 2 ∨ z = 3 → rOk (cap (0, z)) := fun z hz => Or.inr (Or.inl ⟨rfl, hz⟩)
  unfold wk
  split
  · rename_i h
    rcases h.2 with h | h
    · rw [h.1]; exact one _
    · rw [h.1]
      have a : 0 ≤ x := by rcases hx with g | g | g <;> omega
      have b : 0 ≤ y := by rcases hy with g | g | g <;> omega
      by_cases g : x + y ≤ 1000000000
      · rw [cap_s (by omega)]; exact Or.inl (Or.inr (Or.inl ⟨rfl, by dsimp; omega, by dsimp; omega⟩))
      · rw [cap_o (by decide) (by omega)]; exact Or.inr (Or.inr rfl)
  split
  · exact one _
  split
  · exact one _
  split
  · split
    · exact err 3 (Or.inr (Or.inr rfl))
    · exact one _
  split
  · exact one _
  split
  · exact one _
  split
  · exact one _
  split
  · exact one _
  · exact err 1 (Or.inl rfl)
/-- variables as the run has them -/
def vaOk (va : Nat → Nat × Int) : Prop := ∀ v, v < 5 → vOk (va v).1 (va v).2 ∨ va v = (8, 0)
theorem leaf_of {q : aQ} {nE e : Nat} (hE : iE q nE) (he : e < nE) (h : q.1 2 e = -1) : leafOk (q.1 3 e) (q.1 4 e) ∧ q.1 651 e = q.1 3 e ∧ q.1 652 e = q.1 4 e := by
  rcases hE.2.2.2 e he with ⟨-, h1, h2, h3, -⟩ | ⟨o, a, b, w, ho, -⟩
  · exact ⟨h3, h1, h2⟩
  · have := ho.2.2.1
    rw [h] at this
    exact absurd this.symm (nI_nm1 (by have := ho.1; omega))
theorem op_of {q : aQ} {nE e : Nat} (hE : iE q nE) (he : e < nE) (h : ¬ q.1 2 e = -1) : ∃ w wa, opn q e ≤ 7 ∧ lft q e < e ∧ (opn q e ≤ 5 → rgt q e < e) ∧ q.1 2 e = nI (opn q e) ∧ q.1 651 e = nI (10 + opn q e) ∧ q.1 5 e = nI (lft q e) ∧ q.1 652 e = nI (lft q e) ∧ (opn q e ≤ 5 → q.1 6 e = nI (rgt q e) ∧ q.1 653 e = nI (rgt q e)) ∧ (6 ≤ opn q e → rgt q e = lft q e) ∧ q.1 7 e = nI w ∧ q.1 654 e = nI w ∧ w ≤ 15 ∧ q.1 7 (lft q e) = nI wa ∧ 1 ≤ wa ∧ (6 ≤ opn q e → w = 1 + wa) ∧ (opn q e ≤ 5 → ∃ wb, q.1 7 (rgt q e) = nI wb ∧ 1 ≤ wb ∧ w = 1 + wa + wb) := by
  have h60 := hE.1
  rcases hE.2.2.2 e he with ⟨h1, -⟩ | ⟨o, a, b, w, ho, wa, wb, g1, g2, g3, g4⟩
  · exact absurd h1 h
  · obtain ⟨o1, o2, o3, o4, o5, o6, o7, o8, o9, o10, o11⟩ := ho
    have e1 : opn q e = o := by unfold opn; rw [o3, nI_clamp (by omega)]
    have e2 : lft q e = a := by unfold lft; rw [o5, nI_clamp (by omega)]
    have e3 : o ≤ 5 → rgt q e = b := fun z => by unfold rgt; rw [(o7 z).2.1, nI_clamp (by have := (o7 z).1; omega)]
    have e4 : 6 ≤ o → rgt q e = a := fun z => by unfold rgt; rw [o8 z, nI_clamp (by omega)]
    rw [e1, e2]
    refine ⟨w, wa, o1, o2, fun z => by rw [e3 z]; exact (o7 z).1, o3, o4, o5, o6, fun z => by rw [e3 z]; exact (o7 z).2, fun z => e4 z, o10, o11, o9, g1, g2, g4, fun z => ⟨wb, by rw [e3 z]; exact g3 z⟩⟩
theorem lfv_ok {q : aQ} {nE e fd tk : Nat} {va : Nat → Nat × Int} (hE : iE q nE) (he : e < nE) (h : q.1 2 e = -1) (hN : iN q fd) (hv : vaOk va) : rOk (lfv q va fd e tk).1 := by
  obtain ⟨hl, -⟩ := leaf_of hE he h
  unfold lfv
  have n30 : ¬ (3 : Int32) = 0 := by decide
  rcases hl with ⟨a, b, c⟩ | ⟨a, b, c⟩ | a | ⟨a, v, b, c⟩ | a
  · rw [a, if_pos rfl]
    rw [Int32.lt_iff_toInt_lt] at b c
    exact Or.inl (Or.inl ⟨rfl, Int.not_lt.mp b, Int.not_lt.mp c⟩)
  · rw [a, if_neg (by decide), if_pos rfl]
    rw [Int32.lt_iff_toInt_lt] at b c
    exact Or.inl (Or.inr (Or.inl ⟨rfl, Int.not_lt.mp b, Int.not_lt.mp c⟩))
  · rw [a, if_neg (by decide), if_neg (by decide), if_pos rfl]
    exact Or.inl (Or.inr (Or.inr ⟨rfl, rfl⟩))
  · rw [a, if_neg (by decide), if_neg (by decide), if_neg (by decide), if_pos rfl, c, nI_clamp (by omega)]
    split
    · exact Or.inr (Or.inl ⟨rfl, Or.inr (Or.inl rfl)⟩)
    · rename_i h8
      rcases hv v b with g | g
      · exact Or.inl g
      · rw [g] at h8; exact absurd rfl h8
  · rw [a, if_neg (by decide), if_neg (by decide), if_neg (by decide), if_neg (by decide)]
    split
    · rename_i ht
      obtain ⟨-, g1, g2⟩ := hN.2.2.2 tk ht
      rw [Int32.lt_iff_toInt_lt] at g1 g2
      exact Or.inl (Or.inl ⟨rfl, Int.not_lt.mp g1, Int.not_lt.mp g2⟩)
    · exact Or.inl (Or.inl ⟨rfl, by dsimp; omega, by dsimp; omega⟩)
theorem ev_ok {q : aQ} {nE fd : Nat} {va : Nat → Nat × Int} (hE : iE q nE) (hN : iN q fd) (hv : vaOk va) : ∀ f e tk, e < nE → rOk (ev q va fd f e tk).1 := by
  intro f
  induction f with
  | zero => intro e tk _; exact Or.inr (Or.inr rfl)
  | succ f ih =>
    intro e tk he
    unfold ev
    split
    · rename_i h; exact lfv_ok hE he h hN hv
    · rename_i h
      obtain ⟨w, wa, o1, o2, o3, -⟩ := op_of hE he h
      have ia := ih (lft q e) tk (by omega)
      split
      · exact ia
      · rename_i h2
        have va' := rOk_v ia h2
        split
        · exact wk_ok va' (Or.inr (Or.inr ⟨rfl, rfl⟩))
        · rename_i h6
          have ib := ih (rgt q e) (ev q va fd f (lft q e) tk).2 (by have := o3 (by omega); omega)
          split
          · exact ib
          · rename_i h3
            exact wk_ok va' (rOk_v ib h3)
theorem tk_le {q : aQ} {va : Nat → Nat × Int} {fd : Nat} : ∀ f e tk, tk ≤ fd → (ev q va fd f e tk).2 ≤ fd := by
  intro f
  induction f with
  | zero => intro e tk h; exact h
  | succ f ih =>
    intro e tk h
    have l : (lfv q va fd e tk).2 ≤ fd := by
      unfold lfv
      repeat' split
      all_goals first | exact h | (dsimp; omega)
    unfold ev
    split
    · exact l
    · split
      · exact ih _ _ h
      · split
        · exact ih _ _ h
        · split
          · exact ih _ _ (ih _ _ h)
          · exact ih _ _ (ih _ _ h)
