/-! what fits a list of values, part by part -/
theorem one_n {z : Int} : one (1, z) = ((loF z, hiF z), eR, false, false) := rfl
theorem one_t {z : Int} : one (2, z) = (eR, (loF z, hiF z), false, false) := rfl
theorem eR_le {r : Rn} (h : okR r) : leR eR r := by
  unfold leR eR
  rcases h with h | h
  · rw [h]; exact ⟨Int.le_refl _, Int.le_refl _⟩
  · dsimp only; omega
theorem leR_as {r s : Rn} (h : leR r s) (k : leR s r) : r = s := by
  obtain ⟨a, b⟩ := r
  obtain ⟨c, d⟩ := s
  unfold leR at h k
  dsimp only at h k
  have x1 : a = c := by omega
  have x2 : b = d := by omega
  rw [x1, x2]
theorem hulN_le {r : Rn} (hr : leR eR r) : ∀ L : List (Nat × Int), leR (hul L).1 r ↔ ∀ z, (1, z) ∈ L → leR (loF z, hiF z) r
  | [] => ⟨fun _ z hz => (by cases hz), fun _ => hr⟩
  | (t, y) :: L => by
    show leR (joR (one (t, y)).1 (hul L).1) r ↔ _
    rw [joR_lub, hulN_le hr L]
    constructor
    · rintro ⟨a, b⟩ z hz
      rcases List.mem_cons.mp hz with e | hz
      · injection e with e1 e2
        subst e1 e2
        exact a
      · exact b z hz
    · intro h
      refine ⟨?_, fun z hz => h z (List.mem_cons_of_mem _ hz)⟩
      by_cases e : t = 1
      · subst e; exact h y List.mem_cons_self
      · have : (one (t, y)).1 = eR := by
          unfold one
          rw [if_neg e]
          split
          · rfl
          split <;> rfl
        rw [this]; exact hr
theorem hulT_le {r : Rn} (hr : leR eR r) : ∀ L : List (Nat × Int), leR (hul L).2.1 r ↔ ∀ z, (2, z) ∈ L → leR (loF z, hiF z) r
  | [] => ⟨fun _ z hz => (by cases hz), fun _ => hr⟩
  | (t, y) :: L => by
    show leR (joR (one (t, y)).2.1 (hul L).2.1) r ↔ _
    rw [joR_lub, hulT_le hr L]
    constructor
    · rintro ⟨a, b⟩ z hz
      rcases List.mem_cons.mp hz with e | hz
      · injection e with e1 e2
        subst e1 e2
        exact a
      · exact b z hz
    · intro h
      refine ⟨?_, fun z hz => h z (List.mem_cons_of_mem _ hz)⟩
      by_cases e : t = 2
      · subst e; exact h y List.mem_cons_self
      · have : (one (t, y)).2.1 = eR := by
          unfold one
          split
          · rfl
          split <;> rfl
        rw [this]; exact hr
theorem hulO : ∀ L : List (Nat × Int), (hul L).2.2.1 = true ↔ ∃ z, (4, z) ∈ L
  | [] => ⟨fun h => (by cases h), fun ⟨z, hz⟩ => (by cases hz)⟩
  | (t, y) :: L => by
    show ((one (t, y)).2.2.1 || (hul L).2.2.1) = true ↔ _
    rw [Bool.or_eq_true, hulO L]
    constructor
    · rintro (h | ⟨z, hz⟩)
      · by_cases e : t = 4
        · subst e; exact ⟨y, List.mem_cons_self⟩
        · exfalso
          unfold one at h
          split at h
          · cases h
          split at h
          · cases h
          cases h
      · exact ⟨z, List.mem_cons_of_mem _ hz⟩
    · rintro ⟨z, hz⟩
      rcases List.mem_cons.mp hz with e | hz
      · injection e with e1 e2
        subst e1
        exact Or.inl rfl
      · exact Or.inr ⟨z, hz⟩
theorem hulN {L : List (Nat × Int)} {r : Rn} (hr : leR eR r) (h1 : ∀ z, (1, z) ∈ L → r.1 ≤ loF z ∧ hiF z ≤ r.2) (h2 : r = eR ∨ ((∃ z, (1, z) ∈ L ∧ loF z ≤ r.1) ∧ ∃ z, (1, z) ∈ L ∧ r.2 ≤ hiF z)) : (hul L).1 = r := by
  refine leR_as ((hulN_le hr L).mpr h1) ?_
  have u := (hulN_le (r := (hul L).1) (eP_hul L).1 L).mp ⟨Int.le_refl _, Int.le_refl _⟩
  rcases h2 with h2 | ⟨⟨z, z1, z2⟩, y, y1, y2⟩
  · rw [h2]; exact (eP_hul L).1
  · have a := (u z z1).1
    have b := (u y y1).2
    unfold leR
    dsimp only at a b
    omega
theorem hulT {L : List (Nat × Int)} {r : Rn} (hr : leR eR r) (h1 : ∀ z, (2, z) ∈ L → r.1 ≤ loF z ∧ hiF z ≤ r.2) (h2 : r = eR ∨ ((∃ z, (2, z) ∈ L ∧ loF z ≤ r.1) ∧ ∃ z, (2, z) ∈ L ∧ r.2 ≤ hiF z)) : (hul L).2.1 = r := by
  refine leR_as ((hulT_le hr L).mpr h1) ?_
  have u := (hulT_le (r := (hul L).2.1) (eP_hul L).2.1 L).mp ⟨Int.le_refl _, Int.le_refl _⟩
  rcases h2 with h2 | ⟨⟨z, z1, z2⟩, y, y1, y2⟩
  · rw [h2]; exact (eP_hul L).2.1
  · have a := (u z z1).1
    have b := (u y y1).2
    unfold leR
    dsimp only at a b
    omega
theorem hul_eq {L : List (Nat × Int)} {N T : Rn} {b : Bool} (h1 : (hul L).1 = N) (h2 : (hul L).2.1 = T) (h3 : (hul L).2.2.1 = true ↔ b = true) : hul L = (N, T, b, false) := by
  have e3 : (hul L).2.2.1 = b := Bool.eq_iff_iff.mpr h3
  have e4 := hul_unb L
  rw [← h1, ← h2, ← e3, ← e4]
/-! the ends of a range, among the numbers that stand for all -/
def r289 (x : Int) : Int := if x = -1000 then -289 else if x = 1000 then 289 else x
def isE (r : Rn) : Bool := decide (r.2 < r.1)
theorem isE_t {r : Rn} : isE r = true ↔ r.2 < r.1 := decide_eq_true_iff
theorem isE_eR {r : Rn} (h : okR r) (e : isE r = true) : r = eR := by
  rcases h with h | h
  · exact h
  · have := isE_t.mp e; omega
theorem isE_f {r : Rn} (h : ¬ isE r = true) : r.1 ≤ r.2 := by rw [isE_t] at h; omega
/-- the corners' values -/
def cv : List Int := [-1000, -16, -15, -14, -13, -12, -11, -10, -9, -8, -7, -6, -5, -4, -3, -2, -1, 0, 1, 2, 3, 4, 5, 6, 7, 8, 9, 10, 11, 12, 13, 14, 15, 16, 1000]
theorem mem_cv {n : Int} : n ∈ cv ↔ (n = -1000 ∨ (-16 ≤ n ∧ n ≤ 16) ∨ n = 1000) := by
  unfold cv
  simp only [List.mem_cons, List.not_mem_nil, or_false]
  omega
theorem ok_ne {r : Rn} (h : okR r) (e : ¬ isE r = true) : (r.1 = -1000 ∨ (-16 ≤ r.1 ∧ r.1 ≤ 16)) ∧ (r.2 = 1000 ∨ (-16 ≤ r.2 ∧ r.2 ≤ 16)) ∧ r.1 ≤ r.2 := by
  rcases h with h | h
  · exfalso; apply e; rw [h]; rfl
  · exact h
theorem ends {r : Rn} (h : okR r) (e : ¬ isE r = true) : r.1 ∈ cv ∧ r.2 ∈ cv ∧ r289 r.1 ∈ rp ∧ inR (r289 r.1) r ∧ r289 r.2 ∈ rp ∧ inR (r289 r.2) r ∧ ∀ n, n ∈ rp → inR n r → r289 r.1 ≤ n ∧ n ≤ r289 r.2 := by
  have o := ok_ne h e
  have a : r289 r.1 = -289 ∧ r.1 = -1000 ∨ r289 r.1 = r.1 ∧ -16 ≤ r.1 ∧ r.1 ≤ 16 := by
    unfold r289; split
    · omega
    · split <;> omega
  have b : r289 r.2 = 289 ∧ r.2 = 1000 ∨ r289 r.2 = r.2 ∧ -16 ≤ r.2 ∧ r.2 ≤ 16 := by
    unfold r289; split
    · omega
    · split <;> omega
  refine ⟨mem_cv.mpr (by omega), mem_cv.mpr (by omega), mem_rp.mpr (by omega), ?_, mem_rp.mpr (by omega), ?_, fun n hn hi => ?_⟩
  · unfold inR; omega
  · unfold inR; omega
  · rw [mem_rp] at hn
    unfold inR at hi
    omega
def incR (r : Rn) (l g : Int) : Rn := if g < l then r else joR r (loF l, hiF g)
theorem inc_eR {l g : Int} (h : l ≤ g) : incR eR l g = (loF l, hiF g) := by
  have a := loF_ok (x := l)
  have b := hiF_ok (x := g)
  unfold incR joR eR
  rw [if_neg (by omega)]
  dsimp only
  rw [if_pos (by omega), if_pos (by omega)]
theorem inc_ok {r : Rn} {l g : Int} (h : okR r) : okR (incR r l g) := by
  unfold incR
  split
  · exact h
  · exact joR_ok h (Or.inr ⟨loF_ok, hiF_ok, lohi (by omega)⟩)
theorem chk_add : (cv.all fun a => cv.all fun c => (loF (r289 a + r289 c) == loF (a + c)) && (hiF (r289 a + r289 c) == hiF (a + c))) = true := by decide +kernel
theorem chk_sub : (cv.all fun a => cv.all fun c => (loF (r289 a - r289 c) == loF (a - c)) && (hiF (r289 a - r289 c) == hiF (a - c))) = true := by decide +kernel
theorem chk_mul : (cv.all fun a => cv.all fun c => (loF (r289 a * r289 c) == loF (a * c)) && (hiF (r289 a * r289 c) == hiF (a * c))) = true := by decide +kernel
theorem chk_div : (cv.all fun a => cv.all fun c => (c == 0) || ((loF ((r289 a).fdiv (r289 c)) == loF (a.fdiv c)) && (hiF ((r289 a).fdiv (r289 c)) == hiF (a.fdiv c)))) = true := by decide +kernel
theorem all2 {A B : List Int} {f : Int → Int → Bool} (h : (A.all fun a => B.all fun b => f a b) = true) {a b : Int} (ha : a ∈ A) (hb : b ∈ B) : f a b = true := List.all_eq_true.mp (List.all_eq_true.mp h a ha) b hb
theorem c_add {a c : Int} (ha : a ∈ cv) (hc : c ∈ cv) : loF (r289 a + r289 c) = loF (a + c) ∧ hiF (r289 a + r289 c) = hiF (a + c) := by
  have := all2 chk_add ha hc
  rw [Bool.and_eq_true, beq_iff_eq, beq_iff_eq] at this
  exact this
theorem c_sub {a c : Int} (ha : a ∈ cv) (hc : c ∈ cv) : loF (r289 a - r289 c) = loF (a - c) ∧ hiF (r289 a - r289 c) = hiF (a - c) := by
  have := all2 chk_sub ha hc
  rw [Bool.and_eq_true, beq_iff_eq, beq_iff_eq] at this
  exact this
theorem c_mul {a c : Int} (ha : a ∈ cv) (hc : c ∈ cv) : loF (r289 a * r289 c) = loF (a * c) ∧ hiF (r289 a * r289 c) = hiF (a * c) := by
  have := all2 chk_mul ha hc
  rw [Bool.and_eq_true, beq_iff_eq, beq_iff_eq] at this
  exact this
theorem c_div {a c : Int} (ha : a ∈ cv) (hc : c ∈ cv) (h0 : c ≠ 0) : loF ((r289 a).fdiv (r289 c)) = loF (a.fdiv c) ∧ hiF ((r289 a).fdiv (r289 c)) = hiF (a.fdiv c) := by
  have := all2 chk_div ha hc
  rw [Bool.or_eq_true, Bool.and_eq_true, beq_iff_eq, beq_iff_eq, beq_iff_eq] at this
  exact this.resolve_left h0
/-! division among the numbers that stand for all: between the corners -/
theorem chk_dn : (rp.all fun m => (m == 0) || (rp.all fun n => rp.all fun k => !(decide (n ≤ k)) || (if 0 < m then decide (n.fdiv m ≤ k.fdiv m) else decide (k.fdiv m ≤ n.fdiv m)))) = true := by decide +kernel
theorem chk_dm : (rp.all fun n => rp.all fun m => rp.all fun k => !(decide (m ≤ k)) || !(decide (0 < m) || decide (k < 0)) || (if n < 0 then decide (n.fdiv m ≤ n.fdiv k) else decide (n.fdiv k ≤ n.fdiv m))) = true := by decide +kernel
