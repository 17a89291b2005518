/-! narrowing -/
section
variable {x y : Pc}
/-- the values of which a condition is true (or not) -/
def narT (t : Bool) (L : List (Nat × Int)) : List (Nat × Int) := L.filter fun a => isT a.1 a.2 == t
def narO (o : Nat) (t : Bool) (L M : List (Nat × Int)) : List (Nat × Int) := L.filter fun a => M.any fun b => !((wk o a.1 a.2 b.1 b.2).1 == 0) && (isT (wk o a.1 a.2 b.1 b.2).1 (wk o a.1 a.2 b.1 b.2).2 == t)
theorem mem_narT {t : Bool} {L : List (Nat × Int)} {v : Nat × Int} : v ∈ narT t L ↔ v ∈ L ∧ isT v.1 v.2 = t := by
  unfold narT
  rw [List.mem_filter, beq_iff_eq]
theorem mem_narO {o : Nat} {t : Bool} {L M : List (Nat × Int)} {v : Nat × Int} : v ∈ narO o t L M ↔ v ∈ L ∧ ∃ b, b ∈ M ∧ ¬ (wk o v.1 v.2 b.1 b.2).1 = 0 ∧ isT (wk o v.1 v.2 b.1 b.2).1 (wk o v.1 v.2 b.1 b.2).2 = t := by
  unfold narO
  rw [List.mem_filter, List.any_eq_true]
  simp
theorem in_vals (hx : okP x) : (∀ z, (1, z) ∈ vals x ↔ nS x z) ∧ (∀ z, (2, z) ∈ vals x ↔ tS x z) ∧ (∀ z, (4, z) ∈ vals x ↔ z = 0 ∧ x.2.2.1 = true) := by
  refine ⟨fun z => ?_, fun z => ?_, fun z => ?_⟩
  · rw [mem_vals]; simp [nS]
  · rw [mem_vals]
    simp only [tS]
    constructor
    · rintro (⟨h, -⟩ | ⟨-, a, b, c⟩ | ⟨h, -⟩)
      · cases h
      · exact ⟨a, c⟩
      · cases h
    · rintro ⟨a, b⟩; exact Or.inr (Or.inl ⟨trivial, a, T0 hx.2 b, b⟩)
  · rw [mem_vals]; simp
def kTru (t : Bool) (x : Pc) : Pc := if t = true then (droR x.1 0, droR x.2.1 0, false, false) else (keeR x.1 0 0, keeR x.2.1 0 0, x.2.2.1, false)
def kLes (t : Bool) (x y : Pc) : Pc := if t = true then (keeR x.1 (-1000) (y.1.2 - 1), keeR x.2.1 (-1000) (y.2.1.2 - 1), false, false) else (keeR x.1 y.1.1 1000, keeR x.2.1 y.2.1.1 1000, false, false)
def kEqu (t : Bool) (x y : Pc) : Pc := if t = true then (keeR x.1 y.1.1 y.1.2, keeR x.2.1 y.2.1.1 y.2.1.2, x.2.2.1 && y.2.2.1, false) else if oneV y = true then (droR x.1 y.1.1, droR x.2.1 y.2.1.1, x.2.2.1 && !y.2.2.1, false) else (x.1, x.2.1, x.2.2.1, false)
theorem nart_eq (t : Bool) (hx : okP x) : hul (narT t (vals x)) = kTru t x := by
  obtain ⟨v1, v2, v4⟩ := in_vals hx
  unfold kTru
  cases t with
  | true =>
    rw [if_pos rfl]
    refine hul_eq (isH.n ((isH_dro hx.1 (n := 0) (by omega)).iff fun z => ?_)) (isH.t ((isH_dro hx.2.R (n := 0) (by omega)).iff fun z => ?_)) ?_
    · rw [mem_narT, v1]; simp [nS, isT, and_assoc]
    · rw [mem_narT, v2]; simp [tS, isT, and_assoc]
    · rw [hulO]; simp [mem_narT, v4, isT]
  | false =>
    rw [if_neg (by decide)]
    refine hul_eq (isH.n ((isH_kee hx.1 (a := 0) (b := 0) (by omega) (by omega)).iff fun z => ?_)) (isH.t ((isH_kee hx.2.R (a := 0) (b := 0) (by omega) (by omega)).iff fun z => ?_)) ?_
    · rw [mem_narT, v1]; simp [nS, isT, and_assoc]; omega
    · rw [mem_narT, v2]; simp [tS, isT, and_assoc]; omega
    · rw [hulO]; simp [mem_narT, v4, isT]
theorem nS_lt {s : Rn} (hs : okR s) {z : Int} : (∃ m, (m ∈ rp ∧ inR m s) ∧ z < m) ↔ (isE s = false ∧ z < r289 s.2) := by
  constructor
  · rintro ⟨m, ⟨a, b⟩, c⟩
    have ns : ¬ isE s = true := fun e => no_in e b
    obtain ⟨y1, y2, y3, y4, y5, y6, y7⟩ := ends hs ns
    have := y7 m a b
    exact ⟨by simpa using ns, by omega⟩
  · rintro ⟨a, b⟩
    have ns : ¬ isE s = true := by rw [a]; decide
    obtain ⟨y1, y2, y3, y4, y5, y6, y7⟩ := ends hs ns
    exact ⟨_, ⟨y5, y6⟩, b⟩
theorem nS_ge {s : Rn} (hs : okR s) {z : Int} (hz : z ∈ rp) : (∃ m, (m ∈ rp ∧ inR m s) ∧ ¬ z < m) ↔ (s.1 ≤ z ∧ z ≤ 1000) := by
  have hz' := mem_rp.mp hz
  constructor
  · rintro ⟨m, ⟨a, b⟩, c⟩
    unfold inR at b
    omega
  · rintro ⟨a, -⟩
    have ns : ¬ isE s = true := by
      intro e; have e := isE_eR hs e; subst e; unfold eR at a; dsimp only at a; omega
    obtain ⟨y1, y2, y3, y4, y5, y6, y7⟩ := ends hs ns
    have o := ok_ne hs ns
    by_cases e : s.1 = -1000
    · exact ⟨-289, ⟨by decide, by unfold inR; omega⟩, by omega⟩
    · exact ⟨s.1, ⟨mem_rp.mpr (by omega), by unfold inR; omega⟩, by omega⟩
theorem hi_c {s : Rn} (hs : okR s) : s.2 = 1000 ∨ (-16 ≤ s.2 ∧ s.2 ≤ 16) ∨ s.2 = -1001 := by
  rcases hs with h | h
  · rw [h]; decide
  · omega
theorem lo_c {s : Rn} (hs : okR s) : s.1 = -1000 ∨ (-16 ≤ s.1 ∧ s.1 ≤ 16) ∨ s.1 = 1001 := by
  rcases hs with h | h
  · rw [h]; decide
  · omega
/-- the numbers of X that are less than one of s -/
theorem isH_less {X s : Rn} (hX : okR X) (hs : okR s) : isH (fun z => (z ∈ rp ∧ inR z X) ∧ ∃ m, (m ∈ rp ∧ inR m s) ∧ z < m) (keeR X (-1000) (s.2 - 1)) := by
  refine (isH_les hX (hi_c hs)).iff fun z => ?_
  rw [nS_lt hs]
  constructor
  · rintro ⟨⟨a, b⟩, c, d⟩; exact ⟨a, b, d⟩
  · rintro ⟨a, b, d⟩
    refine ⟨⟨a, b⟩, ?_, d⟩
    rw [← Bool.not_eq_true]
    intro e
    have e := isE_eR hs e
    subst e
    rw [mem_rp] at a
    have : r289 eR.2 = -1001 := rfl
    omega
theorem isH_nless {X s : Rn} (hX : okR X) (hs : okR s) : isH (fun z => (z ∈ rp ∧ inR z X) ∧ ∃ m, (m ∈ rp ∧ inR m s) ∧ ¬ z < m) (keeR X s.1 1000) := by
  refine (isH_kee hX (lo_c hs) (b := 1000) (Or.inl rfl)).iff fun z => ?_
  constructor
  · rintro ⟨⟨a, b⟩, c⟩; exact ⟨a, b, (nS_ge hs a).mp c⟩
  · rintro ⟨a, b, c⟩; exact ⟨⟨a, b⟩, (nS_ge hs a).mpr c⟩
theorem narl_eq (t : Bool) (hx : okP x) (hy : okP y) : hul (narO 4 t (vals x) (vals y)) = kLes t x y := by
  obtain ⟨v1, v2, v4⟩ := in_vals hx
  have e1 : ∀ z m : Int, isT 1 (if z < m then 1 else 0) = true ↔ z < m := fun z m => by split <;> simp_all [isT]
  have e0 : ∀ z m : Int, isT 1 (if z < m then 1 else 0) = false ↔ ¬ z < m := fun z m => by split <;> simp_all [isT]
  unfold kLes
  have n1 : ∀ z, (1, z) ∈ narO 4 t (vals x) (vals y) ↔ nS x z ∧ ∃ m, nS y m ∧ isT 1 (if z < m then 1 else 0) = t := by
    intro z
    rw [mem_narO, v1, val_c' hy]
    simp [wk]
  have n2 : ∀ z, (2, z) ∈ narO 4 t (vals x) (vals y) ↔ tS x z ∧ ∃ m, tS y m ∧ isT 1 (if z < m then 1 else 0) = t := by
    intro z
    rw [mem_narO, v2, val_c' hy]
    simp [wk]
  have n4 : ∀ z, ¬ (4, z) ∈ narO 4 t (vals x) (vals y) := by
    intro z
    rw [mem_narO, v4, val_c' hy]
    simp [wk]
  cases t with
  | true =>
    rw [if_pos rfl]
    refine hul_eq (isH.n ((isH_less hx.1 hy.1).iff fun z => ?_)) (isH.t ((isH_less hx.2.R hy.2.R).iff fun z => ?_)) ?_
    · rw [n1]; simp only [e1]; exact Iff.rfl
    · rw [n2]; simp only [e1]; exact Iff.rfl
    · rw [hulO]; simp [n4]
  | false =>
    rw [if_neg (by decide)]
    refine hul_eq (isH.n ((isH_nless hx.1 hy.1).iff fun z => ?_)) (isH.t ((isH_nless hx.2.R hy.2.R).iff fun z => ?_)) ?_
    · rw [n1]; simp only [e0]; exact Iff.rfl
    · rw [n2]; simp only [e0]; exact Iff.rfl
    · rw [hulO]; simp [n4]
theorem isH_same {X s : Rn} (hX : okR X) (hs : okR s) : isH (fun z => (z ∈ rp ∧ inR z X) ∧ ∃ m, (m ∈ rp ∧ inR m s) ∧ z = m) (keeR X s.1 s.2) := by
  have := hi_c hs
  refine (isH_kee hX (lo_c hs) (b := s.2) (by omega)).iff fun z => ?_
  constructor
  · rintro ⟨⟨a, b⟩, m, ⟨c, d⟩, rfl⟩; exact ⟨a, b, d⟩
  · rintro ⟨a, b, c⟩; exact ⟨⟨a, b⟩, z, ⟨a, c⟩, rfl⟩
/-- a picture with more than one value has a number other than z, or a length, or none -/
theorem narE_t (hx : okP x) (hy : okP y) : hul (narO 5 true (vals x) (vals y)) = kEqu true x y := by
  obtain ⟨v1, v2, v4⟩ := in_vals hx
  have e1 : ∀ z m : Int, isT 1 (if z = m then 1 else 0) = true ↔ z = m := fun z m => by split <;> simp_all [isT]
  have i0 : isT 1 0 = false := rfl
  have i1 : isT 1 1 = true := rfl
  unfold kEqu
  rw [if_pos rfl]
  have n1 : ∀ z, (1, z) ∈ narO 5 true (vals x) (vals y) ↔ nS x z ∧ ∃ m, nS y m ∧ isT 1 (if z = m then 1 else 0) = true := by
    intro z
    rw [mem_narO, v1, val_c' hy]
    simp [wk, i0]
  have n2 : ∀ z, (2, z) ∈ narO 5 true (vals x) (vals y) ↔ tS x z ∧ ∃ m, tS y m ∧ isT 1 (if z = m then 1 else 0) = true := by
    intro z
    rw [mem_narO, v2, val_c' hy]
    simp [wk, i0]
  have n4 : ∀ z, (4, z) ∈ narO 5 true (vals x) (vals y) ↔ z = 0 ∧ x.2.2.1 = true ∧ y.2.2.1 = true := by
    intro z
    rw [mem_narO, v4, val_c' hy]
    simp [wk, i0, i1, and_assoc]
  refine hul_eq (isH.n ((isH_same hx.1 hy.1).iff fun z => ?_)) (isH.t ((isH_same hx.2.R hy.2.R).iff fun z => ?_)) ?_
  · rw [n1]; simp only [e1]; exact Iff.rfl
  · rw [n2]; simp only [e1]; exact Iff.rfl
  · rw [hulO]; simp [n4]
/-- numbers of s other than z -/
theorem ex_oth {s : Rn} (hs : okR s) {z : Int} (_hz : z ∈ rp) : (∃ m, (m ∈ rp ∧ inR m s) ∧ ¬ z = m) ↔ (isE s = false ∧ ¬ (sngl s = true ∧ z = s.1)) := by
  constructor
  · rintro ⟨m, ⟨a, b⟩, c⟩
    have ns : ¬ isE s = true := fun e => no_in e b
    refine ⟨by simpa using ns, ?_⟩
    rintro ⟨d, e⟩
    rw [sngl_t] at d
    unfold inR at b
    omega
  · rintro ⟨a, b⟩
    have ns : ¬ isE s = true := by rw [a]; decide
    obtain ⟨y1, y2, y3, y4, y5, y6, y7⟩ := ends hs ns
    by_cases e : r289 s.1 = r289 s.2
    · have e' := r289_inj hs ns e
      have o := ok_ne hs ns
      refine ⟨_, ⟨y3, y4⟩, fun w => b ⟨sngl_t.mpr e', ?_⟩⟩
      have e1 : r289 s.1 = s.1 := by unfold r289; rw [if_neg (by omega), if_neg (by omega)]
      omega
    · by_cases g : z = r289 s.1
      · exact ⟨_, ⟨y5, y6⟩, by omega⟩
      · exact ⟨_, ⟨y3, y4⟩, g⟩
theorem narE_f (hx : okP x) (hy : okP y) (vy : hasV y = true) : hul (narO 5 false (vals x) (vals y)) = kEqu false x y := by
  obtain ⟨v1, v2, v4⟩ := in_vals hx
  have e0 : ∀ z m : Int, isT 1 (if z = m then 1 else 0) = false ↔ ¬ z = m := fun z m => by split <;> simp_all [isT]
  have i0 : isT 1 0 = false := rfl
  have i1 : isT 1 1 = true := rfl
  unfold kEqu
  rw [if_neg (by decide)]
  have n1 : ∀ z, (1, z) ∈ narO 5 false (vals x) (vals y) ↔ nS x z ∧ ((∃ m, nS y m ∧ isT 1 (if z = m then 1 else 0) = false) ∨ (∃ m, tS y m) ∨ y.2.2.1 = true) := by
    intro z
    rw [mem_narO, v1, val_c' hy]
    simp [wk, i0]
  have n2 : ∀ z, (2, z) ∈ narO 5 false (vals x) (vals y) ↔ tS x z ∧ ((∃ m, nS y m) ∨ (∃ m, tS y m ∧ isT 1 (if z = m then 1 else 0) = false) ∨ y.2.2.1 = true) := by
    intro z
    rw [mem_narO, v2, val_c' hy]
    simp [wk, i0]
  have n4 : ∀ z, (4, z) ∈ narO 5 false (vals x) (vals y) ↔ z = 0 ∧ x.2.2.1 = true ∧ ((∃ m, nS y m) ∨ ∃ m, tS y m) := by
    intro z
    rw [mem_narO, v4, val_c' hy]
    simp [wk, i0, i1, and_assoc]
  simp only [e0] at n1 n2
  have q1 := ex_n' hy
  have q2 := ex_t' hy
  have s3 := sngl_n hy.1
  have s4 := sngl_n hy.2.R
  have lN := lo_c hy.1
  have lT := lo_c hy.2.R
  by_cases ov : oneV y = true
  · rw [if_pos ov]
    have sN : sngl y.1 = true → (-16 ≤ y.1.1 ∧ y.1.1 ≤ 16) := fun z => by
      have ne := s3 z
      have o := ok_ne hy.1 (by rw [ne]; decide)
      rw [sngl_t] at z
      omega
    have sT : sngl y.2.1 = true → (-16 ≤ y.2.1.1 ∧ y.2.1.1 ≤ 16) := fun z => by
      have ne := s4 z
      have o := ok_ne hy.2.R (by rw [ne]; decide)
      rw [sngl_t] at z
      omega
    have eN : isE y.1 = true → y.1.1 = 1001 := fun z => by rw [isE_eR hy.1 z]; rfl
    have eT : isE y.2.1 = true → y.2.1.1 = 1001 := fun z => by rw [isE_eR hy.2.R z]; rfl
    -- which of the three is the one value
    have c3 : (sngl y.1 = true ∧ isE y.1 = false ∧ isE y.2.1 = true ∧ y.2.2.1 = false) ∨ (sngl y.2.1 = true ∧ isE y.2.1 = false ∧ isE y.1 = true ∧ y.2.2.1 = false) ∨ (y.2.2.1 = true ∧ isE y.1 = true ∧ isE y.2.1 = true) := by
      unfold oneV at ov
      generalize isE y.1 = b1 at *
      generalize isE y.2.1 = b2 at *
      generalize y.2.2.1 = b3 at *
      generalize sngl y.1 = d1 at *
      generalize sngl y.2.1 = d2 at *
      cases b1 <;> cases b2 <;> cases b3 <;> cases d1 <;> cases d2 <;> simp_all
    have rN : (-16 ≤ y.1.1 ∧ y.1.1 ≤ 16) ∨ y.1.1 = 1001 := by
      rcases c3 with c | c | c
      · exact Or.inl (sN c.1)
      · exact Or.inr (eN c.2.2.1)
      · exact Or.inr (eN c.2.1)
    have rT : (-16 ≤ y.2.1.1 ∧ y.2.1.1 ≤ 16) ∨ y.2.1.1 = 1001 := by
      rcases c3 with c | c | c
      · exact Or.inr (eT c.2.2.1)
      · exact Or.inl (sT c.1)
      · exact Or.inr (eT c.2.2)
    refine hul_eq (isH.n ((isH_dro hx.1 rN).iff fun z => ?_)) (isH.t ((isH_dro hx.2.R rT).iff fun z => ?_)) ?_
    · rw [n1, q2]
      constructor
      · rintro ⟨⟨a, b⟩, c⟩
        refine ⟨a, b, ?_⟩
        have hz := mem_rp.mp a
        rcases c3 with d | d | d
        · rcases c with c | c | c
          · have := ((ex_oth hy.1 a).mp c).2
            exact fun w => this ⟨d.1, w⟩
          · rw [d.2.2.1] at c; cases c
          · rw [d.2.2.2] at c; cases c
        · have := eN d.2.2.1; omega
        · have := eN d.2.1; omega
      · rintro ⟨a, b, c⟩
        refine ⟨⟨a, b⟩, ?_⟩
        rcases c3 with d | d | d
        · exact Or.inl ((ex_oth hy.1 a).mpr ⟨d.2.1, fun w => c w.2⟩)
        · refine Or.inr (Or.inl ?_); rw [d.2.1]; rfl
        · exact Or.inr (Or.inr d.1)
    · rw [n2, q1]
      constructor
      · rintro ⟨⟨a, b⟩, c⟩
        refine ⟨a, b, ?_⟩
        have hz := mem_rp.mp a
        rcases c3 with d | d | d
        · have := eT d.2.2.1; omega
        · rcases c with c | c | c
          · rw [d.2.2.1] at c; cases c
          · have := ((ex_oth hy.2.R a).mp c).2
            exact fun w => this ⟨d.1, w⟩
          · rw [d.2.2.2] at c; cases c
        · have := eT d.2.2; omega
      · rintro ⟨a, b, c⟩
        refine ⟨⟨a, b⟩, ?_⟩
        rcases c3 with d | d | d
        · refine Or.inl ?_; rw [d.2.1]; rfl
        · exact Or.inr (Or.inl ((ex_oth hy.2.R a).mpr ⟨d.2.1, fun w => c w.2⟩))
        · exact Or.inr (Or.inr d.1)
    · rw [hulO]
      simp only [n4, q1, q2]
      rcases c3 with d | d | d
      · rw [d.2.1, d.2.2.2]; simp
      · rw [d.2.1, d.2.2.2]; simp
      · rw [d.1, d.2.1, d.2.2]; simp
  · rw [if_neg ov]
    have ov : oneV y = false := by simpa using ov
    have key : ∀ z, z ∈ rp → ((∃ m, nS y m ∧ ¬ z = m) ∨ (∃ m, tS y m) ∨ y.2.2.1 = true) := by
      intro z hz
      have u := ex_oth hy.1 hz
      have u' : (∃ m, nS y m ∧ ¬ z = m) ↔ _ := u
      rw [u', q2]
      unfold oneV at ov
      unfold hasV at vy
      generalize isE y.1 = b1 at *
      generalize isE y.2.1 = b2 at *
      generalize y.2.2.1 = b3 at *
      generalize sngl y.1 = d1 at *
      generalize sngl y.2.1 = d2 at *
      cases b1 <;> cases b2 <;> cases b3 <;> cases d1 <;> cases d2 <;> simp_all
    have key2 : ∀ z, z ∈ rp → ((∃ m, nS y m) ∨ (∃ m, tS y m ∧ ¬ z = m) ∨ y.2.2.1 = true) := by
      intro z hz
      have u := ex_oth hy.2.R hz
      have u' : (∃ m, tS y m ∧ ¬ z = m) ↔ _ := u
      rw [u', q1]
      unfold oneV at ov
      unfold hasV at vy
      generalize isE y.1 = b1 at *
      generalize isE y.2.1 = b2 at *
      generalize y.2.2.1 = b3 at *
      generalize sngl y.1 = d1 at *
      generalize sngl y.2.1 = d2 at *
      cases b1 <;> cases b2 <;> cases b3 <;> cases d1 <;> cases d2 <;> simp_all
    refine hul_eq (isH.n ((isH_self hx.1).iff fun z => ?_)) (isH.t ((isH_self hx.2.R).iff fun z => ?_)) ?_
    · rw [n1]; exact ⟨fun h => h.1, fun h => ⟨h, key z h.1⟩⟩
    · rw [n2]; exact ⟨fun h => h.1, fun h => ⟨h, key2 z h.1⟩⟩
    · rw [hulO]
      simp only [n4, q1, q2]
      have : (!isE y.1) = true ∨ (!isE y.2.1) = true := by
        unfold oneV at ov
        unfold hasV at vy
        generalize isE y.1 = b1 at *
        generalize isE y.2.1 = b2 at *
        generalize y.2.2.1 = b3 at *
        generalize sngl y.1 = d1 at *
        generalize sngl y.2.1 = d2 at *
        cases b1 <;> cases b2 <;> cases b3 <;> simp_all
      simp
      intro _
      simpa using this
end
