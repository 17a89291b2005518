/-! operations with one part, errors, all together -/
section
variable {x y : Pc}
def sing (o : Nat) (L : List (Nat × Int)) : List (Nat × Int) := L.map fun a => wk o a.1 a.2 4 0
theorem mem_sing {o : Nat} (hx : okP x) {v : Nat × Int} : v ∈ sing o (vals x) ↔ (∃ n, nS x n ∧ v = wk o 1 n 4 0) ∨ (∃ n, tS x n ∧ v = wk o 2 n 4 0) ∨ (x.2.2.1 = true ∧ v = wk o 4 0 4 0) := by
  unfold sing
  rw [List.mem_map]
  have := val_c' hx (P := fun a => v = wk o a.1 a.2 4 0)
  rw [← this]
  exact ⟨fun ⟨a, h1, h2⟩ => ⟨a, h1, h2.symm⟩, fun ⟨a, h1, h2⟩ => ⟨a, h1, h2.symm⟩⟩
theorem ex_0 {r : Rn} (h : okR r) : ((∃ n, (n ∈ rp ∧ inR n r) ∧ n = 0) ↔ hol r 0 = true) ∧ ((∃ n, (n ∈ rp ∧ inR n r) ∧ ¬ n = 0) ↔ holO r 0 = true) := by
  unfold hol holO
  constructor
  · rw [Bool.and_eq_true, decide_eq_true_iff, decide_eq_true_iff]
    constructor
    · rintro ⟨n, ⟨a, b⟩, rfl⟩; exact b
    · intro b; exact ⟨0, ⟨by decide, b⟩, rfl⟩
  · rw [Bool.and_eq_true, decide_eq_true_iff, Bool.or_eq_true, Bool.not_eq_true', Bool.not_eq_true', decide_eq_false_iff_not, decide_eq_false_iff_not]
    constructor
    · rintro ⟨n, ⟨a, b⟩, c⟩
      unfold inR at b
      omega
    · rintro ⟨a, b⟩
      have ne : ¬ isE r = true := by rw [isE_t]; omega
      have o := ok_ne h ne
      rcases b with b | b
      · by_cases e : r.1 = -1000
        · exact ⟨-289, ⟨by decide, by unfold inR; omega⟩, by decide⟩
        · exact ⟨r.1, ⟨mem_rp.mpr (by omega), by unfold inR; omega⟩, b⟩
      · by_cases e : r.2 = 1000
        · exact ⟨289, ⟨by decide, by unfold inR; omega⟩, by decide⟩
        · exact ⟨r.2, ⟨mem_rp.mpr (by omega), by unfold inR; omega⟩, b⟩
theorem not_eq' (hx : okP x) : hul (sing 6 (vals x)) = (truR (hasFa x) (hasTr x), eR, false, false) := by
  have a := ex_0 hx.1
  have b := ex_0 hx.2.R
  have c : ∀ z : Int, (1, z) ∈ sing 6 (vals x) ↔ (∃ n, nS x n ∧ z = if n = 0 then 1 else 0) ∨ (∃ n, tS x n ∧ z = if n = 0 then 1 else 0) ∨ (x.2.2.1 = true ∧ z = 1) := by
    intro z
    rw [mem_sing hx]
    simp [wk, isT]
  have i1 : ∀ n : Int, (1 : Int) = (if n = 0 then 1 else 0) ↔ n = 0 := fun n => by split <;> simp_all
  have i0 : ∀ n : Int, (0 : Int) = (if n = 0 then 1 else 0) ↔ ¬ n = 0 := fun n => by split <;> simp_all
  refine hul_eq (isH.n (isH_tru (fun z hz => ?_) ?_ ?_)) (isH.t (isH_no fun z => ?_)) ?_
  · rw [c] at hz
    rcases hz with ⟨n, -, e⟩ | ⟨n, -, e⟩ | h
    · split at e <;> omega
    · split at e <;> omega
    · exact Or.inr h.2
  · rw [c]
    simp only [i1]
    unfold nS tS hasFa
    rw [a.1, b.1]
    simp [or_assoc]
  · rw [c]
    simp only [i0]
    unfold nS tS hasTr
    rw [a.2, b.2]
    simp
  · rw [mem_sing hx]
    simp [wk]
  · rw [hulO]
    simp [mem_sing hx, wk]
/-- a range fits its own numbers -/
theorem isH_self {r : Rn} (h : okR r) : isH (fun z => z ∈ rp ∧ inR z r) r := by
  by_cases e : isE r = true
  · have e' := isE_eR h e
    subst e'
    exact isH_no fun z hz => no_in e hz.2
  · have o := ok_ne h e
    obtain ⟨x1, x2, x3, x4, x5, x6, x7⟩ := ends h e
    refine ⟨eR_le h, fun z hz => ?_, Or.inr ⟨⟨_, ⟨x3, x4⟩, ?_⟩, _, ⟨x5, x6⟩, ?_⟩⟩
    · obtain ⟨h1, h2⟩ := hz
      rw [mem_rp] at h1
      unfold inR at h2
      unfold loF hiF
      repeat' split
      all_goals omega
    · unfold r289 loF
      repeat' split
      all_goals omega
    · unfold r289 hiF
      repeat' split
      all_goals omega
theorem len_eq (hx : okP x) : hul (sing 7 (vals x)) = (x.2.1, eR, false, false) := by
  refine hul_eq (isH.n ((isH_self hx.2.R).iff fun z => ?_)) (isH.t (isH_no fun z => ?_)) ?_
  · rw [mem_sing hx]
    simp [wk, tS]
  · rw [mem_sing hx]
    simp [wk]
  · rw [hulO]
    simp [mem_sing hx, wk]
theorem op_eq {o : Nat} (ho : o ≤ 5) (hx : okP x) (hy : okP y) (vx : hasV x = true) (vy : hasV y = true) : hul (prods o (vals x) (vals y)) = clOp o x y := by
  have : o = 0 ∨ o = 1 ∨ o = 2 ∨ o = 3 ∨ o = 4 ∨ o = 5 := by omega
  unfold clOp
  rcases this with rfl | rfl | rfl | rfl | rfl | rfl
  · exact add_eq hx hy
  · exact sub_eq hx hy
  · exact mul_eq hx hy
  · exact div_eq hx hy
  · exact les_eq hx hy
  · exact equ_eq hx hy vx vy
theorem ty_eq {o : Nat} (ho : o ≤ 5) (hx : okP x) (hy : okP y) (vx : hasV x = true) (vy : hasV y = true) : (0, 1) ∈ prods o (vals x) (vals y) ↔ tyE o x y = true := by
  have k : o = 0 ∨ o = 1 ∨ o = 2 ∨ o = 3 ∨ o = 4 ∨ o = 5 := by omega
  have d3 : ∀ n m : Int, ¬ ((0, 1) : Nat × Int) = (if m = 0 then (0, 3) else (1, n.fdiv m)) := fun n m => by split <;> simp
  have e1 : ∀ (a : Pc) (q : Prop), (∃ n, nS a n ∧ q) ↔ (∃ n, nS a n) ∧ q := fun a q => ⟨fun ⟨n, h1, h2⟩ => ⟨⟨n, h1⟩, h2⟩, fun ⟨⟨n, h1⟩, h2⟩ => ⟨n, h1, h2⟩⟩
  have e2 : ∀ (a : Pc) (q : Prop), (∃ n, tS a n ∧ q) ↔ (∃ n, tS a n) ∧ q := fun a q => ⟨fun ⟨n, h1, h2⟩ => ⟨⟨n, h1⟩, h2⟩, fun ⟨⟨n, h1⟩, h2⟩ => ⟨n, h1, h2⟩⟩
  have e3 : ∀ (a : Pc) (q : Prop), (∃ n, q ∧ nS a n) ↔ q ∧ (∃ n, nS a n) := fun a q => ⟨fun ⟨n, h1, h2⟩ => ⟨h1, n, h2⟩, fun ⟨h1, n, h2⟩ => ⟨n, h1, h2⟩⟩
  have e4 : ∀ (a : Pc) (q : Prop), (∃ n, q ∧ tS a n) ↔ q ∧ (∃ n, tS a n) := fun a q => ⟨fun ⟨n, h1, h2⟩ => ⟨h1, n, h2⟩, fun ⟨h1, n, h2⟩ => ⟨n, h1, h2⟩⟩
  rw [pr_c hx hy]
  unfold tyE mixE otN otT
  unfold hasV at vx vy
  have q1 := ex_n' hx
  have q2 := ex_t' hx
  have q3 := ex_n' hy
  have q4 := ex_t' hy
  generalize isE x.1 = a1 at *
  generalize isE x.2.1 = a2 at *
  generalize x.2.2.1 = a3 at *
  generalize isE y.1 = b1 at *
  generalize isE y.2.1 = b2 at *
  generalize y.2.2.1 = b3 at *
  rcases k with rfl | rfl | rfl | rfl | rfl | rfl <;>
    (simp [wk, d3, e1, e2, e3, e4, q1, q2, q3, q4] ; try (cases a1 <;> cases a2 <;> cases a3 <;> cases b1 <;> cases b2 <;> cases b3 <;> simp_all))
theorem ze_eq {o : Nat} (ho : o ≤ 5) (hx : okP x) (hy : okP y) : (0, 3) ∈ prods o (vals x) (vals y) ↔ zeE o x y = true := by
  have k : o = 0 ∨ o = 1 ∨ o = 2 ∨ o = 3 ∨ o = 4 ∨ o = 5 := by omega
  have d3 : ∀ n m : Int, ((0, 3) : Nat × Int) = (if m = 0 then (0, 3) else (1, n.fdiv m)) ↔ m = 0 := fun n m => by split <;> simp_all
  rw [pr_c hx hy]
  unfold zeE
  rcases k with rfl | rfl | rfl | rfl | rfl | rfl
  · simp [wk]
  · simp [wk]
  · simp [wk]
  · have a := (ex_0 hy.1).1
    simp only [if_true, Bool.and_eq_true, ← ex_n' hx, ← a]
    simp [wk, d3]
    exact fun _ _ => Iff.rfl
  · simp [wk]
  · simp [wk]
theorem ty7 (hx : okP x) : (0, 1) ∈ sing 7 (vals x) ↔ otT x = true := by
  rw [mem_sing hx]
  unfold otT
  rw [Bool.or_eq_true, ← ex_n' hx]
  simp [wk]
theorem ty6 (hx : okP x) : ¬ (0, 1) ∈ sing 6 (vals x) := by
  rw [mem_sing hx]
  simp [wk]
theorem ze67 {o : Nat} (ho : o = 6 ∨ o = 7) (hx : okP x) : ¬ (0, 3) ∈ sing o (vals x) := by
  rw [mem_sing hx]
  rcases ho with rfl | rfl <;> simp [wk]
end
