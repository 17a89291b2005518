/-! pictures in memory: the class -/
theorem S82_ok {r : Nat} {a b : Int32} {q : aQ} : S82_0 r a b q := by unfold S82_0 S82_30 S82_55 S82_74 S82_96; simp
theorem S83_ok {r x : Nat} {q : aQ} : S83_0 r x q := by unfold S83_0 S83_22 S83_27 S83_51 S83_77; simp
theorem S85_ok {r : Nat} {q : aQ} : S85_0 r q := by unfold S85_0; simp
theorem S86_ok {r : Nat} {q : aQ} : S86_0 r q := by unfold S86_0; simp
theorem S87_ok {r : Nat} {a : Int32} {q : aQ} : S87_0 r a q := by unfold S87_0; simp
theorem S88_ok {r : Nat} {a : Int32} {q : aQ} : S88_0 r a q := by unfold S88_0; simp
theorem S89_ok {r x : Nat} {q : aQ} : S89_0 r x q := by unfold S89_0; simp
theorem S90_ok {r x : Nat} {q : aQ} : S90_0 r x q := by unfold S90_0; simp
theorem S91_ok {r x : Nat} {q : aQ} : S91_0 r x q := by unfold S91_0; simp
theorem S92_ok {r : Nat} {a b : Int32} {q : aQ} : S92_0 r a b q := by unfold S92_0 S190_0 S191_0 S80_0 S92_23; simp [S82_ok]
theorem S93_ok {r : Nat} {a : Int32} {q : aQ} : S93_0 r a q := by unfold S93_0 S93_18 S93_37 S80_0 S93_42; simp [S82_ok]
theorem S94_ok {r x y : Nat} {q : aQ} : S94_0 r x y q := by unfold S94_0; simp [S82_ok, S85_ok]
theorem S95_ok {r x y : Nat} {q : aQ} : S95_0 r x y q := by unfold S95_0; simp [S82_ok, S85_ok]
theorem S98_ok {r : Nat} {a b c d : Int32} {q : aQ} : S98_0 r a b c d q := by unfold S98_0 S190_0 S191_0; simp [S82_ok]
theorem S96_ok {r x y : Nat} {q : aQ} : S96_0 r x y q := by unfold S96_0; simp [S98_ok, S85_ok]
theorem S97_ok {r x : Nat} {a b : Int32} {q : aQ} : S97_0 r x a b q := by
  unfold S97_0
  refine ⟨S85_ok, fun _ => ⟨fun _ => trivial, fun _ => ⟨fun _ => trivial, fun h1 => ⟨fun _ => trivial, fun h2 => ?_⟩⟩⟩, fun _ => trivial⟩
  exact ⟨S188_ok h1, S188_ok h2, S188_ok h1, S188_ok h2, S98_ok, trivial⟩
def pcAt (q : aQ) (p : Nat) (P : Pc) : Prop := rgAt q (p + 1) P.1 ∧ rgAt q (p + 2) P.2.1 ∧ q.1 p 2 = bI P.2.2.1 ∧ q.1 p 3 = bI P.2.2.2
def updP (q q' : aQ) (p : Nat) (P : Pc) : Prop := pcAt q' p P ∧ (∀ c j, ¬ (p ≤ c ∧ c ≤ p + 2) → q'.1 c j = q.1 c j) ∧ q'.2 = q.2
/-- two pictures lie apart -/
def apt (p s : Nat) : Prop := p + 2 < s ∨ s + 2 < p
theorem updP.rf {q : aQ} {p : Nat} {P : Pc} (h : pcAt q p P) : updP q q p P := ⟨h, fun _ _ _ => rfl, rfl⟩
theorem updP.tr {q q1 q2 : aQ} {p : Nat} {P S : Pc} (h : updP q q1 p P) (k : updP q1 q2 p S) : updP q q2 p S := ⟨k.1, fun c j n => (k.2.1 c j n).trans (h.2.1 c j n), k.2.2.trans h.2.2⟩
theorem pcAt.ne {q q' : aQ} {p s : Nat} {P S : Pc} (h : pcAt q s S) (u : updP q q' p P) (n : apt p s) : pcAt q' s S := by
  unfold apt at n
  unfold pcAt rgAt
  rw [u.2.1 (s + 1) 0 (by omega), u.2.1 (s + 1) 1 (by omega), u.2.1 (s + 2) 0 (by omega), u.2.1 (s + 2) 1 (by omega), u.2.1 s 2 (by omega), u.2.1 s 3 (by omega)]
  exact h
theorem pcAt.fr {q q' : aQ} {p : Nat} {P : Pc} (h : pcAt q p P) (r : ∀ c j, p ≤ c ∧ c ≤ p + 2 → q'.1 c j = q.1 c j) : pcAt q' p P := by
  unfold pcAt rgAt
  rw [r (p + 1) 0 (by omega), r (p + 1) 1 (by omega), r (p + 2) 0 (by omega), r (p + 2) 1 (by omega), r p 2 (by omega), r p 3 (by omega)]
  exact h
/-- writes of the two ranges, then of the two marks -/
theorem updP_of {q q1 q2 q' : aQ} {p : Nat} {N T : Rn} {a b : Bool} (h1 : updR q q1 (p + 1) N) (h2 : updR q1 q2 (p + 2) T) (h3 : q'.1 p 2 = bI a) (h4 : q'.1 p 3 = bI b) (h5 : ∀ c j, c ≠ p → q'.1 c j = q2.1 c j) (h6 : q'.2 = q2.2) : updP q q' p (N, T, a, b) := by
  refine ⟨⟨⟨?_, ?_⟩, ⟨?_, ?_⟩, h3, h4⟩, fun c j n => ?_, h6.trans (h2.2.2.trans h1.2.2)⟩
  · rw [h5 _ _ (by omega), h2.2.1 _ _ (by omega)]; exact h1.1.1
  · rw [h5 _ _ (by omega), h2.2.1 _ _ (by omega)]; exact h1.1.2
  · rw [h5 _ _ (by omega)]; exact h2.1.1
  · rw [h5 _ _ (by omega)]; exact h2.1.2
  · rw [h5 _ _ (by omega), h2.2.1 _ _ (by omega), h1.2.1 _ _ (by omega)]
section
variable {q : aQ} {p s r : Nat} {P S R : Pc}
theorem F63_eq : updP q (F63_0 p q) p eP ∧ S63_0 p q := by
  refine ⟨?_, by unfold S63_0 S63_7 S63_14 S80_0; simp⟩
  unfold F63_0 F63_7 F63_14
  refine updP_of (F80_eq (r := p + 1)) (F80_eq (r := p + 2)) ?_ ?_ (fun c j n => ?_) rfl
  · rw [w_nk (by decide), w_eq]; rfl
  · rw [w_eq]; rfl
  · rw [w_ne n, w_ne n]
theorem bI_or {b : Bool} : bI b = 0 ∨ bI b = 1 := by cases b <;> decide
theorem F64_eq (h : pcAt q s S) (n : apt p s) : updP q (F64_0 p s q) p S ∧ S64_0 p s q := by
  obtain ⟨h1, h2, h3, h4⟩ := h
  unfold apt at n
  have u1 := F81_eq (r := p + 1) h1
  have u2 := F81_eq (r := p + 2) (h2.ne u1 (by omega))
  have r2 : (F81_0 (p + 2) (s + 2) (F81_0 (p + 1) (s + 1) q)).1 s 2 = bI S.2.2.1 := by rw [u2.2.1 _ _ (by omega), u1.2.1 _ _ (by omega)]; exact h3
  have r3 : (F81_0 (p + 2) (s + 2) (F81_0 (p + 1) (s + 1) q)).1 s 3 = bI S.2.2.2 := by rw [u2.2.1 _ _ (by omega), u1.2.1 _ _ (by omega)]; exact h4
  have r4 : ∀ z, (a_w (F81_0 (p + 2) (s + 2) (F81_0 (p + 1) (s + 1) q)) p 2 z).1 s 3 = bI S.2.2.2 := fun z => by rw [w_ne (by omega)]; exact r3
  constructor
  · unfold F64_0 F64_11 F64_22
    rw [r2, r4]
    exact updP_of u1 u2 (by rw [w_nk (by decide), w_eq]) w_eq (fun c j n => by rw [w_ne n, w_ne n]) rfl
  · unfold S64_0 S64_11 S64_22 S81_0
    rw [r2, r4]
    exact ⟨trivial, trivial, bI_or, bI_or, trivial⟩
def grP (P S : Pc) : Bool := grR P.1 S.1 || grR P.2.1 S.2.1 || (S.2.2.1 && !P.2.2.1) || (S.2.2.2 && !P.2.2.2)
theorem S65_ok : S65_0 p s q := by
  have k : ∀ a b c, S65_117 a b c = S65_117 a b c := fun _ _ _ => rfl
  have h117 : ∀ (v2 s0 : Int32) (s1 : Nat) (q : aQ), (s0 = 0 ∨ s0 = 1) → (v2 = 0 ∨ v2 = 1) → S65_117 v2 s0 s1 q := fun v2 s0 s1 q a b => ⟨a, b, trivial⟩
  have h94 : ∀ (v2 s0 : Int32) (q : aQ), (s0 = 0 ∨ s0 = 1) → (v2 = 0 ∨ v2 = 1) → S65_94 p s v2 s0 p q := by
    intro v2 s0 q a b
    unfold S65_94 S65_112
    exact ⟨a, fun _ => ⟨fun _ => h117 _ _ _ _ (Or.inl rfl) b, fun _ => h117 _ _ _ _ (Or.inr rfl) b⟩, fun _ => h117 _ _ _ _ (Or.inr rfl) b⟩
  have h73 : ∀ (s0 : Int32) (q : aQ), (s0 = 0 ∨ s0 = 1) → S65_73 p s s0 q := by
    intro s0 q b
    unfold S65_73 S65_89
    exact ⟨fun _ => ⟨fun _ => h94 _ _ _ (Or.inl rfl) b, fun _ => h94 _ _ _ (Or.inr rfl) b⟩, fun _ => h94 _ _ _ (Or.inr rfl) b⟩
  have h64 : ∀ (v2 : Int32) (q : aQ), S65_64 p s v2 q := by
    intro v2 q
    unfold S65_64 S65_68
    exact ⟨fun _ => h73 _ _ (Or.inl rfl), fun _ => h73 _ _ (Or.inr rfl)⟩
  have h35 : ∀ (v2 : Int32) (q : aQ), S65_35 p s v2 q := by
    intro v2 q
    unfold S65_35 S65_50 S65_68
    exact ⟨fun _ => ⟨fun _ => h64 _ _, fun _ => ⟨fun _ => h73 _ _ (Or.inr rfl), fun _ => h64 _ _⟩⟩, fun _ => ⟨fun _ => h73 _ _ (Or.inr rfl), fun _ => ⟨fun _ => h64 _ _, fun _ => ⟨fun _ => h73 _ _ (Or.inr rfl), fun _ => h64 _ _⟩⟩⟩⟩
  unfold S65_0 S65_11 S65_23 S65_30
  exact ⟨S83_ok, S83_ok, fun _ => ⟨fun _ => h35 _ _, fun _ => h35 _ _⟩, fun _ => h35 _ _⟩
theorem F65_eq (h : pcAt q p P) (k : pcAt q s S) (hP : okP P) (hS : okP S) (n : apt p s ∨ p = s) : ∃ q', F65_0 p s q = (bI (grP P S), q') ∧ updP q q' p (joP P S) := by
  obtain ⟨h1, h2, h3, h4⟩ := h
  obtain ⟨k1, k2, k3, k4⟩ := k
  unfold apt at n
  obtain ⟨q1, e1, u1⟩ := F83_eq h1 k1 hP.1 hS.1
  obtain ⟨q2, e2, u2⟩ := F83_eq (h2.ne u1 (by omega)) (k2.ne u1 (by omega)) hP.2.R hS.2.R
  have r1 : q2.1 p 2 = bI P.2.2.1 := by rw [u2.2.1 _ _ (by omega), u1.2.1 _ _ (by omega)]; exact h3
  have r2 : q2.1 p 3 = bI P.2.2.2 := by rw [u2.2.1 _ _ (by omega), u1.2.1 _ _ (by omega)]; exact h4
  have r3 : q2.1 s 2 = bI S.2.2.1 := by rw [u2.2.1 _ _ (by omega), u1.2.1 _ _ (by omega)]; exact k3
  have r4 : q2.1 s 3 = bI S.2.2.2 := by rw [u2.2.1 _ _ (by omega), u1.2.1 _ _ (by omega)]; exact k4
  have r5 : ∀ z, (a_w q2 p 2 z).1 p 3 = bI P.2.2.2 := fun z => by rw [w_nk (by decide)]; exact r2
  have r6 : ∀ z, (a_w q2 p 2 z).1 s 3 = bI S.2.2.2 := fun z => by rw [w_get, if_neg (by omega)]; exact r4
  have F : F65_0 p s q = F65_23 p s (bI (grR P.1 S.1)) (bI (grR P.2.1 S.2.1)) q2 := by
    unfold F65_0
    rw [e1]
    unfold F65_11
    dsimp only
    rw [e2]
  have out : ∀ (g a b : Bool), updP q (a_w (a_w q2 p 2 (bI a)) p 3 (bI b)) p (joR P.1 S.1, joR P.2.1 S.2.1, a, b) := fun g a b => updP_of u1 u2 (by rw [w_nk (by decide), w_eq]) w_eq (fun c j n => by rw [w_ne n, w_ne n]) rfl
  have n10 : ¬ (1 : Int32) = 0 := by decide
  refine ⟨a_w (a_w q2 p 2 (bI (P.2.2.1 || S.2.2.1))) p 3 (bI (P.2.2.2 || S.2.2.2)), ?_, out true _ _⟩
  rw [F]
  unfold F65_23 F65_30 F65_35 F65_50 F65_64 F65_68 F65_73 F65_89 F65_94 F65_112 F65_117 grP
  rw [r1, r2, r3, r4]
  simp only [r5, r6]
  generalize grR P.1 S.1 = g1
  generalize grR P.2.1 S.2.1 = g2
  generalize P.2.2.1 = a
  generalize S.2.2.1 = b
  generalize P.2.2.2 = c
  generalize S.2.2.2 = d
  cases g1 <;> cases g2 <;> cases a <;> cases b <;> cases c <;> cases d <;> rfl
theorem b0 : bd 0 := by unfold bd; omega
theorem i0_ : (0 : Int32) = iI 0 := rfl
/-- the types of a picture as a number -/
def tyN (P : Pc) : Nat := (if isE P.1 = true then 0 else 1) + (if isE P.2.1 = true then 0 else 2) + (if P.2.2.1 = true then 4 else 0) + (if P.2.2.2 = true then 8 else 0)
theorem F66_eq (h : pcAt q p P) (hP : okP P) : F66_0 p q = nI (tyN P) := by
  unfold F66_0 F66_15 F66_30 F66_43 F66_57 tyN
  rw [F85_eq h.1 hP.1, F85_eq h.2.1 hP.2.R, h.2.2.1, h.2.2.2]
  generalize isE P.1 = a
  generalize isE P.2.1 = b
  generalize P.2.2.1 = c
  generalize P.2.2.2 = d
  cases a <;> cases b <;> cases c <;> cases d <;> rfl
theorem S66_ok : S66_0 p q := by unfold S66_0 S66_15 S66_30 S66_43 S66_57; simp [S85_ok]
theorem F67_eq (h : pcAt q p P) (hP : okP P) : F67_0 p q = bI (hasV P) := by
  unfold F67_0 hasV
  rw [F85_eq h.1 hP.1, F85_eq h.2.1 hP.2.R, h.2.2.1]
  generalize isE P.1 = a
  generalize isE P.2.1 = b
  generalize P.2.2.1 = c
  cases a <;> cases b <;> cases c <;> rfl
theorem S67_ok : S67_0 p q := by unfold S67_0; simp [S85_ok]
theorem F68_eq (h : pcAt q p P) (hP : okP P) : F68_0 p q = bI (otN P) := by
  unfold F68_0 otN
  rw [F85_eq h.2.1 hP.2.R, h.2.2.1]
  generalize isE P.2.1 = b
  generalize P.2.2.1 = c
  cases b <;> cases c <;> rfl
theorem S68_ok : S68_0 p q := by unfold S68_0; simp [S85_ok]
theorem F69_eq (h : pcAt q p P) (hP : okP P) : F69_0 p q = bI (otT P) := by
  unfold F69_0 otT
  rw [F85_eq h.1 hP.1, h.2.2.1]
  generalize isE P.1 = b
  generalize P.2.2.1 = c
  cases b <;> cases c <;> rfl
theorem S69_ok : S69_0 p q := by unfold S69_0; simp [S85_ok]
theorem F70_eq (h : pcAt q p P) (hP : okP P) : F70_0 p q = bI (hasTr P) := by
  have e1 : F88_0 (p + 1) 0 q = bI (holO P.1 0) := by rw [i0_]; exact F88_eq h.1 hP.1 b0
  have e2 : F88_0 (p + 2) 0 q = bI (holO P.2.1 0) := by rw [i0_]; exact F88_eq h.2.1 hP.2.R b0
  unfold F70_0 hasTr
  rw [e1, e2]
  generalize holO P.1 0 = b
  generalize holO P.2.1 0 = c
  cases b <;> cases c <;> rfl
theorem S70_ok : S70_0 p q := by unfold S70_0; simp [S88_ok]
theorem F71_eq (h : pcAt q p P) (hP : okP P) : F71_0 p q = bI (hasFa P) := by
  have e1 : F87_0 (p + 1) 0 q = bI (hol P.1 0) := by rw [i0_]; exact F87_eq h.1 hP.1 b0
  have e2 : F87_0 (p + 2) 0 q = bI (hol P.2.1 0) := by rw [i0_]; exact F87_eq h.2.1 hP.2.R b0
  unfold F71_0 hasFa
  rw [e1, e2, h.2.2.1]
  generalize hol P.1 0 = a
  generalize hol P.2.1 0 = b
  generalize P.2.2.1 = c
  cases a <;> cases b <;> cases c <;> rfl
theorem S71_ok : S71_0 p q := by unfold S71_0; simp [S87_ok]
theorem F72_eq (h : pcAt q p P) (hP : okP P) : F72_0 p q = bI (oneV P) := by
  unfold F72_0 F72_53 oneV
  rw [F85_eq h.1 hP.1, F85_eq h.2.1 hP.2.R, F86_eq h.1 hP.1, F86_eq h.2.1 hP.2.R, h.2.2.1]
  generalize isE P.1 = a
  generalize isE P.2.1 = b
  generalize P.2.2.1 = c
  generalize sngl P.1 = d
  generalize sngl P.2.1 = e
  cases a <;> cases b <;> cases c <;> cases d <;> cases e <;> rfl
theorem S72_ok : S72_0 p q := by unfold S72_0 S72_53; simp [S85_ok, S86_ok]
theorem F73_eq (h : pcAt q p P) (k : pcAt q s S) (hP : okP P) (hS : okP S) : F73_0 p s q = bI (mayEq P S) := by
  unfold F73_0 mayEq
  rw [F89_eq h.1 k.1 hP.1 hS.1, F89_eq h.2.1 k.2.1 hP.2.R hS.2.R, h.2.2.1, k.2.2.1]
  generalize meets P.1 S.1 = a
  generalize meets P.2.1 S.2.1 = b
  generalize P.2.2.1 = c
  generalize S.2.2.1 = d
  cases a <;> cases b <;> cases c <;> cases d <;> rfl
theorem S73_ok : S73_0 p s q := by unfold S73_0; simp [S89_ok]
theorem F74_eq (h : pcAt q p P) (k : pcAt q s S) (hP : okP P) (hS : okP S) : F74_0 p s q = bI (mayDi P S) := by
  unfold F74_0 mayDi
  rw [F72_eq h hP, F72_eq k hS, F73_eq h k hP hS]
  generalize oneV P = a
  generalize oneV S = b
  generalize mayEq P S = c
  cases a <;> cases b <;> cases c <;> rfl
theorem S74_ok : S74_0 p s q := by unfold S74_0; simp [S72_ok, S73_ok]
end
