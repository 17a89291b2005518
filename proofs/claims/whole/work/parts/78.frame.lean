/-! what the invariants look at -/
section
variable {q Q : aQ} {nE n m fd : Nat} {o p : Nat → Nat} {va : Nat → Nat × Int}
theorem iE_fr (r : ∀ c j, (1 ≤ c ∧ c ≤ 7) ∨ (651 ≤ c ∧ c ≤ 654) ∨ (c = 650 ∧ j = 0) → Q.1 c j = q.1 c j) (h : iE q nE) : iE Q nE := by
  have r1 : Q.1 1 6 = q.1 1 6 := r 1 6 (by omega)
  have r0 : Q.1 650 0 = q.1 650 0 := r 650 0 (by omega)
  have r2 : ∀ j, Q.1 2 j = q.1 2 j := fun j => r 2 j (by omega)
  have r3 : ∀ j, Q.1 3 j = q.1 3 j := fun j => r 3 j (by omega)
  have r4 : ∀ j, Q.1 4 j = q.1 4 j := fun j => r 4 j (by omega)
  have r5 : ∀ j, Q.1 5 j = q.1 5 j := fun j => r 5 j (by omega)
  have r6 : ∀ j, Q.1 6 j = q.1 6 j := fun j => r 6 j (by omega)
  have r7 : ∀ j, Q.1 7 j = q.1 7 j := fun j => r 7 j (by omega)
  have a1 : ∀ j, Q.1 651 j = q.1 651 j := fun j => r 651 j (by omega)
  have a2 : ∀ j, Q.1 652 j = q.1 652 j := fun j => r 652 j (by omega)
  have a3 : ∀ j, Q.1 653 j = q.1 653 j := fun j => r 653 j (by omega)
  have a4 : ∀ j, Q.1 654 j = q.1 654 j := fun j => r 654 j (by omega)
  unfold iE nodeOk opOk at h ⊢
  simp only [r1, r0, r2, r3, r4, r5, r6, r7, a1, a2, a3, a4]
  exact h
theorem iN_fr (r : ∀ c j, c = 648 ∨ c = 664 ∨ (c = 647 ∧ j = 3) ∨ (c = 650 ∧ j = 16) → Q.1 c j = q.1 c j) (h : iN q fd) : iN Q fd := by
  have r1 : Q.1 647 3 = q.1 647 3 := r 647 3 (by omega)
  have r0 : Q.1 650 16 = q.1 650 16 := r 650 16 (by omega)
  have r2 : ∀ j, Q.1 648 j = q.1 648 j := fun j => r 648 j (by omega)
  have r3 : ∀ j, Q.1 664 j = q.1 664 j := fun j => r 664 j (by omega)
  unfold iN at h ⊢
  simp only [r1, r0, r2, r3]
  exact h
theorem la_fr (r : ∀ c j, 9 ≤ c ∧ c ≤ 15 → Q.1 c j = q.1 c j) : ∀ f s L, la q f s L → la Q f s L
  | 0, _, _, h => h
  | f + 1, s, L, ⟨p, h1, h2, h3⟩ => ⟨p, h1, (r 12 s (by omega)).trans h2, by
      rw [r 9 p (by omega)]
      exact h3.imp id (fun z => ⟨z.1, la_fr r f p L z.2⟩)⟩
theorem dp_fr (r : ∀ c j, 9 ≤ c ∧ c ≤ 15 → Q.1 c j = q.1 c j) : ∀ d s, dp q d s → dp Q d s
  | 0, s, h => (r 12 s (by omega)).trans h
  | d + 1, s, ⟨p, h1, h2, h3⟩ => ⟨p, h1, (r 12 s (by omega)).trans h2, dp_fr r d p h3⟩
theorem iS_up {nE' s : Nat} (hn : nE ≤ nE') (h : iS q nE n s) : iS q nE' n s := by
  obtain ⟨h1, h2, h3, h4, h5, h6, ⟨k, k1, k2, d1, d2, d3, d4, d5⟩, h8⟩ := h
  refine ⟨h1, h2, h3, h4, h5, h6, ⟨k, k1, k2, d1, d2, d3, d4, fun z => ?_⟩, h8⟩
  obtain ⟨e, e1, e2⟩ := d5 z
  exact ⟨e, by omega, e2⟩
theorem iP_up {nE' : Nat} (hn : nE ≤ nE') (h : iP q nE n m o p) : iP q nE' n m o p := by
  obtain ⟨h1, h2, h3, h4, h5, h6, h7, h8⟩ := h
  exact ⟨h1, h2, h3, h4, h5, h6, fun s hs => iS_up hn (h7 s hs), h8⟩
theorem iP_fr (r : ∀ c j, (8 ≤ c ∧ c ≤ 18) ∨ (655 ≤ c ∧ c ≤ 663) ∨ (c = 650 ∧ (j = 5 ∨ j = 14)) → Q.1 c j = q.1 c j) (h : iP q nE n m o p) : iP Q nE n m o p := by
  have x1 : Q.1 8 7 = q.1 8 7 := r 8 7 (by omega)
  have x2 : Q.1 8 11 = q.1 8 11 := r 8 11 (by omega)
  have x3 : Q.1 650 5 = q.1 650 5 := r 650 5 (by omega)
  have x4 : Q.1 650 14 = q.1 650 14 := r 650 14 (by omega)
  have a9 : ∀ j, Q.1 9 j = q.1 9 j := fun j => r 9 j (by omega)
  have a12 : ∀ j, Q.1 12 j = q.1 12 j := fun j => r 12 j (by omega)
  have a16 : ∀ j, Q.1 16 j = q.1 16 j := fun j => r 16 j (by omega)
  have a17 : ∀ j, Q.1 17 j = q.1 17 j := fun j => r 17 j (by omega)
  have a18 : ∀ j, Q.1 18 j = q.1 18 j := fun j => r 18 j (by omega)
  have b1 : ∀ j, Q.1 661 j = q.1 661 j := fun j => r 661 j (by omega)
  have b2 : ∀ j, Q.1 662 j = q.1 662 j := fun j => r 662 j (by omega)
  have b3 : ∀ j, Q.1 663 j = q.1 663 j := fun j => r 663 j (by omega)
  obtain ⟨h1, h2, h3, h4, h5, h6, h7, h8, h9, h10, h11, h12, h13⟩ := h
  refine ⟨h1, h2, x1.trans h3, x3.trans h4, x2.trans h5, x4.trans h6, fun s hs => iS_same (h7 s hs) hs (fun c j z => r c j (by omega)), fun l hl => ?_, ?_, ?_, ?_, ?_, ?_⟩
  · have := h8 l hl
    unfold iO at this ⊢
    simp only [a9, a12, a16, a17, a18, b2, b3]
    exact this
  · rw [a18, b2]; exact h9
  · intro b hb; rw [b2]; exact h10 b hb
  · intro b hb hb2; rw [b1, b2]; exact h11 b hb hb2
  · rw [b1, b2]; exact h12
  · rw [b1, b2]; exact h13
theorem ev_fr (r : ∀ c j, (2 ≤ c ∧ c ≤ 6) ∨ c = 648 → Q.1 c j = q.1 c j) : ∀ f e tk, ev Q va fd f e tk = ev q va fd f e tk := by
  have r2 : ∀ j, Q.1 2 j = q.1 2 j := fun j => r 2 j (by omega)
  have r3 : ∀ j, Q.1 3 j = q.1 3 j := fun j => r 3 j (by omega)
  have r4 : ∀ j, Q.1 4 j = q.1 4 j := fun j => r 4 j (by omega)
  have r5 : ∀ j, Q.1 5 j = q.1 5 j := fun j => r 5 j (by omega)
  have r6 : ∀ j, Q.1 6 j = q.1 6 j := fun j => r 6 j (by omega)
  have r8 : ∀ j, Q.1 648 j = q.1 648 j := fun j => r 648 j (by omega)
  have l1 : ∀ e tk, lfv Q va fd e tk = lfv q va fd e tk := fun e tk => by unfold lfv; simp only [r3, r4, r8]
  have l2 : ∀ e, opn Q e = opn q e := fun e => by unfold opn; rw [r2]
  have l3 : ∀ e, lft Q e = lft q e := fun e => by unfold lft; rw [r5]
  have l4 : ∀ e, rgt Q e = rgt q e := fun e => by unfold rgt; rw [r6]
  intro f
  induction f with
  | zero => intro e tk; rfl
  | succ f ih =>
    intro e tk
    unfold ev
    simp only [r2, l1, l2, l3, l4, ih]
end
/-! one step of a run, from outside -/
/-- where an error of kind k at s leads, if it is caught -/
def fl (q : aQ) (s k : Nat) : Option Nat := if k = 9 then none else (ct q s (nI k)).map (fun c => en q c 1)
def ek (r : Nat × Int) : Nat := if r.1 = 9 then 9 else r.2.toNat
def upV (va : Nat → Nat × Int) (v : Nat) (r : Nat × Int) : Nat → Nat × Int := fun u => if u = v then r else va u
/-- next place or the error, variables, inputs taken -/
def sp (q : aQ) (fd : Nat) (va : Nat → Nat × Int) (tk s : Nat) : (Option Nat × Nat) × (Nat → Nat × Int) × Nat :=
  if q.1 9 s = 1 then ((fl q s (q.1 10 s).toNatClampNeg, (q.1 10 s).toNatClampNeg), va, tk)
  else if q.1 9 s = 2 then ((some (bh q (q.1 10 s).toNatClampNeg), 0), va, tk)
  else if q.1 9 s = 3 then ((some (q.1 10 s).toNatClampNeg, 0), va, tk)
  else if q.1 9 s = 6 then ((some (en q s 0), 0), va, tk)
  else if (ev q va fd 15 (q.1 11 s).toNatClampNeg tk).1.1 = 0 ∨ (ev q va fd 15 (q.1 11 s).toNatClampNeg tk).1.1 = 9 then ((fl q s (ek (ev q va fd 15 (q.1 11 s).toNatClampNeg tk).1), ek (ev q va fd 15 (q.1 11 s).toNatClampNeg tk).1), va, (ev q va fd 15 (q.1 11 s).toNatClampNeg tk).2)
  else if q.1 9 s = 0 then ((some (bh q s), 0), upV va (q.1 10 s).toNatClampNeg (ev q va fd 15 (q.1 11 s).toNatClampNeg tk).1, (ev q va fd 15 (q.1 11 s).toNatClampNeg tk).2)
  else ((some (if isT (ev q va fd 15 (q.1 11 s).toNatClampNeg tk).1.1 (ev q va fd 15 (q.1 11 s).toNatClampNeg tk).1.2 then en q s 0 else en q s 1), 0), va, (ev q va fd 15 (q.1 11 s).toNatClampNeg tk).2)
theorem sp_fr {q Q : aQ} {fd : Nat} {va : Nat → Nat × Int} {tk s : Nat} (r : ∀ c j, (2 ≤ c ∧ c ≤ 6) ∨ (9 ≤ c ∧ c ≤ 15) ∨ c = 648 → Q.1 c j = q.1 c j) : sp Q fd va tk s = sp q fd va tk s := by
  have a9 : ∀ j, Q.1 9 j = q.1 9 j := fun j => r 9 j (by omega)
  have a10 : ∀ j, Q.1 10 j = q.1 10 j := fun j => r 10 j (by omega)
  have a11 : ∀ j, Q.1 11 j = q.1 11 j := fun j => r 11 j (by omega)
  have b1 : ∀ s, bh Q s = bh q s := bh_fr (fun c j x y => r c j (by omega))
  have b2 : ∀ s b, en Q s b = en q s b := en_fr (fun c j x y => r c j (by omega))
  have b3 : ∀ s k, fl Q s k = fl q s k := fun s k => by unfold fl; rw [ct_fr (fun c j x y => r c j (by omega))]; simp only [b2]
  have b4 : ∀ f e tk, ev Q va fd f e tk = ev q va fd f e tk := ev_fr (fun c j z => r c j (by omega))
  unfold sp
  simp only [a9, a10, a11, b1, b2, b3, b4]
