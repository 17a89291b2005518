/-! assign, raise, branch, loop, attempt: both sides -/
/-- a call that touches the program alone: answers alike, the program's invariant kept -/
def stp (l : Launch) (X : aX) (jc jm : Nat) (args : List Value) (q : aQ) (nE n m : Nat) : Prop := ∃ q', a_pair l X jc jm args q q' ∧ frP q q' ∧ ∃ n' m' o' p', iP q' nE n' m' o' p' ∧ (q' = q ∨ n < n' ∨ (n' = n ∧ 0 < m))
section
variable {l : Launch} {X : aX} {q : aQ} {nE n m : Nat} {o p : Nat → Nat}
theorem n24 (h : iP q nE n m o p) : (q.1 650 5 = 24 ↔ n = 24) ∧ (q.1 650 14 = 5 ↔ m = 5) := by
  obtain ⟨h24, h5, c1, c2, c3, c4, -⟩ := h
  rw [c2, c4]
  exact ⟨⟨fun z => nI_inj (b := 24) (by omega) (by decide) z, fun z => by rw [z]; rfl⟩, ⟨fun z => nI_inj (b := 5) (by omega) (by decide) z, fun z => by rw [z]; rfl⟩⟩
theorem S23_ok {v : Int32} {q : aQ} : S23_0 v q := by unfold S23_0; simp
theorem var_or (x : Int32) : (x < 0 ∨ 4 < x) ∨ ∃ i, i < 5 ∧ x = nI i := by
  by_cases h : x < 0 ∨ 4 < x
  · exact Or.inl h
  · exact Or.inr (nI_below (n := 5) (fun z => h (Or.inl z)) (fun z => h (Or.inr (i_5_4.mp z))) (by decide))
theorem frP_E (h : iE q nE) {q1 : aQ} (f : frP q q1) : q1.1 1 6 = nI nE ∧ q1.1 650 0 = nI nE := by
  rw [f.2 1 6 (by omega) (by omega) (by omega), f.2 650 0 (by omega) (by omega) (by omega)]
  exact ⟨h.2.1, h.2.2.1⟩
theorem c_no {v e : Int32} (hE : iE q nE) (h : iP q nE n m o p) (hx : n = 24 ∨ (v < 0 ∨ 4 < v) ∨ (e < 0 ∨ nI nE ≤ e)) : F4_0 v e q = (-1, q) ∧ S4_0 v e q := by
  unfold F4_0 S4_0
  by_cases h1 : F22_0 v q = 0
  · rw [if_pos h1]
    exact ⟨rfl, S22_ok, fun _ => trivial, fun z => absurd h1 z⟩
  rw [if_neg h1]
  by_cases h2 : F25_0 e q = 0
  · rw [if_pos h2]
    exact ⟨rfl, S22_ok, fun z => absurd z h1, fun _ => ⟨S25_ok, fun _ => trivial, fun z => absurd h2 z⟩⟩
  rw [if_neg h2]
  have hn : n = 24 := by
    rcases hx with hx | hx | hx
    · exact hx
    · exfalso
      apply h1
      rw [F22_eq, if_neg (fun z => hx.elim z.1 z.2)]
    · exact absurd (F25_no hE.2.1 hx) h2
  have A := add_full h hn 0 v e
  rw [A.1]
  exact ⟨rfl, S22_ok, fun z => absurd z h1, fun _ => ⟨S25_ok, fun z => absurd z h2, fun _ => ⟨A.2, trivial⟩⟩⟩
theorem m_no {v e : Int32} (hE : iE q nE) (h : iP q nE n m o p) (hx : n = 24 ∨ (v < 0 ∨ 4 < v) ∨ (e < 0 ∨ nI nE ≤ e)) : F137_0 v e q = (-1, q) ∧ S137_0 v e q := by
  unfold F137_0 S137_0
  by_cases h0 : q.1 650 5 = 24
  · rw [if_pos h0]
    exact ⟨rfl, fun _ => trivial, fun z => absurd h0 z⟩
  rw [if_neg h0]
  by_cases h1 : v < 0
  · rw [if_pos h1]
    exact ⟨rfl, fun z => absurd z h0, fun _ => ⟨fun _ => trivial, fun z => absurd h1 z⟩⟩
  rw [if_neg h1]
  by_cases h2 : 4 < v
  · rw [if_pos h2]
    exact ⟨rfl, fun z => absurd z h0, fun _ => ⟨fun z => absurd z h1, fun _ => ⟨fun _ => trivial, fun z => absurd h2 z⟩⟩⟩
  rw [if_neg h2]
  have h3 : F134_0 e q = 0 := by
    rcases hx with hx | hx | hx
    · exact absurd ((n24 h).1.mpr hx) h0
    · exact absurd hx (fun z => z.elim h1 h2)
    · exact F134_no hE.2.2.1 hx
  rw [if_pos h3]
  exact ⟨rfl, fun z => absurd z h0, fun _ => ⟨fun z => absurd z h1, fun _ => ⟨fun z => absurd z h2, fun _ => ⟨S134_ok, fun _ => trivial, fun z => absurd h3 z⟩⟩⟩⟩
theorem stp_no {jc jm : Nat} {args : List Value} {r : Int32} (h : iP q nE n m o p) (h1 : Call l X 60 jc (.ref 0 :: args) (hp q) (some (.int r)) (hp q)) (h2 : Call l X 60 jm (.ref 650 :: args) (hp q) (some (.int r)) (hp q)) : stp l X jc jm args q nE n m := ⟨q, ⟨r, q, h1, h2⟩, frP.rf, n, m, o, p, h, Or.inl rfl⟩
theorem assign_step (hE : iE q nE) (h : iP q nE n m o p) (v e : Int32) : stp l X 4 137 [.int v, .int e] q nE n m := by
  by_cases hx : n = 24 ∨ (v < 0 ∨ 4 < v) ∨ (e < 0 ∨ nI nE ≤ e)
  · have C := c_no hE h hx
    have M := m_no hE h hx
    have t1 := T4 (l := l) (X := X) (d := 60) (by decide) C.2
    have t2 := T137 (l := l) (X := X) (d := 60) (by decide) M.2
    rw [C.1] at t1
    rw [M.1] at t2
    exact stp_no h t1 t2
  have hn : n < 24 := by
    have := h.1
    have : ¬ n = 24 := fun z => hx (Or.inl z)
    omega
  have hv := (var_or v).resolve_left (fun z => hx (Or.inr (Or.inl z)))
  have he := (ex_or e hE.1).resolve_left (fun z => hx (Or.inr (Or.inr z)))
  obtain ⟨vi, hvi, rfl⟩ := hv
  obtain ⟨ei, hei, rfl⟩ := he
  obtain ⟨q1, q2, C, M, f1, f2, hi, hP⟩ := both_add (det := nI vi) (det' := nI vi) (e := nI ei) h hn (kN := 0) (by decide) ⟨by decide, fun _ => ⟨vi, hvi, rfl, rfl⟩, fun z => absurd z (by decide), fun z => absurd z (by decide), fun z => absurd z (by decide), fun _ => ⟨ei, hei, rfl⟩⟩
  have hv0 : ¬ nI vi < (0 : Int32) := fun z => hx (Or.inr (Or.inl (Or.inl z)))
  have hv4 : ¬ (4 : Int32) < nI vi := fun z => hx (Or.inr (Or.inl (Or.inr z)))
  have g1 : ¬ F22_0 (nI vi) q = 0 := by rw [F22_eq, if_pos ⟨hv0, hv4⟩]; decide
  have g2 : ¬ F25_0 (nI ei) q = 0 := by rw [F25_yes hE.2.1 hei hE.1]; decide
  have E1 := frP_E hE f1
  have g3 : ¬ F134_0 (nI ei) q1 = 0 := by rw [F134_yes E1.2 hei hE.1]; decide
  have g4 : ¬ q1.1 650 5 = 24 := by rw [hi 650 5 (by decide)]; exact fun z => hx (Or.inl ((n24 h).1.mp z))
  refine ⟨q2, ⟨nI n, q1, ?_, ?_⟩, f1.tr f2, n + 1, m, o, p, hP, Or.inr (Or.inl (by omega))⟩
  · have t := T4 (l := l) (X := X) (d := 60) (v1 := nI vi) (v2 := nI ei) (q := q) (by decide) ⟨S22_ok, fun z => absurd z g1, fun _ => ⟨S25_ok, fun z => absurd z g2, fun _ => ⟨C.2, trivial⟩⟩⟩
    unfold F4_0 at t
    rw [if_neg g1, if_neg g2, show F35_0 0 (nI vi) (nI ei) q = (nI n, q1) from C.1] at t
    exact t
  · have t := T137 (l := l) (X := X) (d := 60) (v1 := nI vi) (v2 := nI ei) (q := q1) (by decide) ⟨fun z => absurd z g4, fun _ => ⟨fun z => absurd z hv0, fun _ => ⟨fun z => absurd z hv4, fun _ => ⟨S134_ok, fun z => absurd z g3, fun _ => ⟨M.2, trivial⟩⟩⟩⟩⟩
    unfold F137_0 at t
    rw [if_neg g4, if_neg hv0, if_neg hv4, if_neg g3, show F136_0 0 (nI vi) (nI ei) q1 = (nI n, q2) from M.1] at t
    exact t

/-- raise -/
theorem F23_eq {v : Int32} {q : aQ} : F23_0 v q = if ¬ v < 1 ∧ ¬ 4 < v then 1 else 0 := by
  unfold F23_0
  by_cases a : v < 1
  · rw [if_pos a, if_neg (fun z => z.1 a)]
  · rw [if_neg a]
    by_cases b : 4 < v
    · rw [if_pos b, if_neg (fun z => z.2 b)]
    · rw [if_neg b, if_pos ⟨a, b⟩]
theorem i_nle4 {v : Int32} : v ≤ 4 ↔ ¬ 4 < v := by
  rw [Int32.le_iff_toInt_le, Int32.lt_iff_toInt_lt]
  show _ ≤ (4 : Int) ↔ ¬ (4 : Int) < _
  omega
theorem i_lt1 {v : Int32} : v < 1 ↔ v < 0 ∨ v = 0 := by
  rw [Int32.lt_iff_toInt_lt, Int32.lt_iff_toInt_lt, ← Int32.toInt_inj]
  show _ < (1 : Int) ↔ _ < (0 : Int) ∨ _ = (0 : Int)
  omega
theorem kd_or {v : Int32} (h : ¬ (v < 1 ∨ 4 < v)) : ∃ i, 1 ≤ i ∧ i ≤ 4 ∧ v = nI i := by
  have h0 : ¬ v < 0 := fun z => h (Or.inl (i_lt1.mpr (Or.inl z)))
  obtain ⟨i, h1, h2⟩ := (var_or v).resolve_left (fun z => z.elim h0 (fun z => h (Or.inr z)))
  refine ⟨i, ?_, by omega, h2⟩
  by_cases e : i = 0
  · subst e
    exact absurd (i_lt1.mpr (Or.inr h2)) (fun z => h (Or.inl z))
  · omega
theorem raise_step (h : iP q nE n m o p) (v : Int32) : stp l X 5 138 [.int v] q nE n m := by
  by_cases hx : n = 24 ∨ (v < 1 ∨ 4 < v)
  · have C : F5_0 v q = (-1, q) ∧ S5_0 v q := by
      unfold F5_0 S5_0
      by_cases h1 : F23_0 v q = 0
      · rw [if_pos h1]
        exact ⟨rfl, S23_ok, fun _ => trivial, fun z => absurd h1 z⟩
      rw [if_neg h1]
      have hn : n = 24 := by
        rcases hx with hx | hx
        · exact hx
        · exact absurd (by rw [F23_eq, if_neg (fun z => hx.elim z.1 z.2)]) h1
      have A := add_full h hn 1 v 0
      rw [A.1]
      exact ⟨rfl, S23_ok, fun z => absurd z h1, fun _ => ⟨A.2, trivial⟩⟩
    have M : F138_0 v q = (-1, q) ∧ S138_0 v q := by
      unfold F138_0 S138_0
      by_cases h0 : q.1 650 5 = 24
      · rw [if_pos h0]
        exact ⟨rfl, fun _ => trivial, fun z => absurd h0 z⟩
      rw [if_neg h0]
      by_cases h1 : v < 1
      · rw [if_pos h1]
        exact ⟨rfl, fun z => absurd z h0, fun _ => ⟨fun _ => trivial, fun z => absurd h1 z⟩⟩
      rw [if_neg h1]
      have h2 : ¬ v ≤ 4 := by
        rw [i_nle4]
        intro z
        rcases hx with hx | hx | hx
        · exact h0 ((n24 h).1.mpr hx)
        · exact h1 hx
        · exact z hx
      rw [if_neg h2]
      exact ⟨rfl, fun z => absurd z h0, fun _ => ⟨fun z => absurd z h1, fun _ => ⟨fun z => absurd z h2, fun _ => trivial⟩⟩⟩
    have t1 := T5 (l := l) (X := X) (d := 60) (by decide) C.2
    have t2 := T138 (l := l) (X := X) (d := 60) (by decide) M.2
    rw [C.1] at t1
    rw [M.1] at t2
    exact stp_no h t1 t2
  have hn : n < 24 := by
    have := h.1
    have : ¬ n = 24 := fun z => hx (Or.inl z)
    omega
  have h1 : ¬ v < 1 := fun z => hx (Or.inr (Or.inl z))
  have h4 : ¬ 4 < v := fun z => hx (Or.inr (Or.inr z))
  have hv := kd_or (fun z => hx (Or.inr z))
  obtain ⟨q1, q2, C, M, f1, f2, hi, hP⟩ := both_add (det := v) (det' := v) (e := 0) h hn (kN := 1) (by decide) ⟨by decide, fun z => absurd z (by decide), fun _ => by obtain ⟨i, a, b, c⟩ := hv; exact ⟨i, a, b, c, c⟩, fun z => absurd z (by decide), fun z => absurd z (by decide), fun z => absurd z (by decide)⟩
  have g1 : ¬ F23_0 v q = 0 := by rw [F23_eq, if_pos ⟨h1, h4⟩]; decide
  have g4 : ¬ q1.1 650 5 = 24 := by rw [hi 650 5 (by decide)]; exact fun z => hx (Or.inl ((n24 h).1.mp z))
  refine ⟨q2, ⟨nI n, q1, ?_, ?_⟩, f1.tr f2, n + 1, m, o, p, hP, Or.inr (Or.inl (by omega))⟩
  · have t := T5 (l := l) (X := X) (d := 60) (v1 := v) (q := q) (by decide) ⟨S23_ok, fun z => absurd z g1, fun _ => ⟨C.2, trivial⟩⟩
    unfold F5_0 at t
    rw [if_neg g1, show F35_0 1 v 0 q = (nI n, q1) from C.1] at t
    exact t
  · have t := T138 (l := l) (X := X) (d := 60) (v1 := v) (q := q1) (by decide) ⟨fun z => absurd z g4, fun _ => ⟨fun z => absurd z h1, fun _ => ⟨fun _ => ⟨M.2, trivial⟩, fun z => absurd (i_nle4.mpr h4) z⟩⟩⟩
    unfold F138_0 at t
    rw [if_neg g4, if_neg h1, if_pos (i_nle4.mpr h4), show F136_0 1 v 0 q1 = (nI n, q2) from M.1] at t
    exact t
/-- branch and loop -/
theorem bl_step (hE : iE q nE) (h : iP q nE n m o p) (e : Int32) : stp l X 7 140 [.int e] q nE n m ∧ stp l X 8 141 [.int e] q nE n m := by
  by_cases hx : (m = 5 ∨ n = 24) ∨ (e < 0 ∨ nI nE ≤ e)
  · have C1 : F25_0 e q = 0 ∨ (¬ F25_0 e q = 0 ∧ (m = 5 ∨ n = 24)) := by
      by_cases h1 : F25_0 e q = 0
      · exact Or.inl h1
      · exact Or.inr ⟨h1, hx.resolve_right (fun z => h1 (F25_no hE.2.1 z))⟩
    have C : (F7_0 e q = (-1, q) ∧ S7_0 e q) ∧ F8_0 e q = (-1, q) ∧ S8_0 e q := by
      unfold F7_0 S7_0 F8_0 S8_0
      rcases C1 with h1 | ⟨h1, h2⟩
      · rw [if_pos h1, if_pos h1]
        exact ⟨⟨rfl, S25_ok, fun _ => trivial, fun z => absurd h1 z⟩, rfl, S25_ok, fun _ => trivial, fun z => absurd h1 z⟩
      · have A := opn_full h h2 4 0 e
        have B := opn_full h h2 5 0 e
        rw [if_neg h1, if_neg h1, A.1, B.1]
        exact ⟨⟨rfl, S25_ok, fun z => absurd z h1, fun _ => ⟨A.2, trivial⟩⟩, rfl, S25_ok, fun z => absurd z h1, fun _ => ⟨B.2, trivial⟩⟩
    have M : (F140_0 e q = (-1, q) ∧ S140_0 e q) ∧ F141_0 e q = (-1, q) ∧ S141_0 e q := by
      unfold F140_0 S140_0 F141_0 S141_0
      by_cases h0 : q.1 650 5 = 24
      · rw [if_pos h0, if_pos h0]
        exact ⟨⟨rfl, fun _ => trivial, fun z => absurd h0 z⟩, rfl, fun _ => trivial, fun z => absurd h0 z⟩
      rw [if_neg h0, if_neg h0]
      by_cases h1 : q.1 650 14 = 5
      · rw [if_pos h1, if_pos h1]
        exact ⟨⟨rfl, fun z => absurd z h0, fun _ => ⟨fun _ => trivial, fun z => absurd h1 z⟩⟩, rfl, fun z => absurd z h0, fun _ => ⟨fun _ => trivial, fun z => absurd h1 z⟩⟩
      rw [if_neg h1, if_neg h1]
      have h3 : F134_0 e q = 0 := by
        rcases hx with (hx | hx) | hx
        · exact absurd ((n24 h).2.mpr hx) h1
        · exact absurd ((n24 h).1.mpr hx) h0
        · exact F134_no hE.2.2.1 hx
      rw [if_pos h3, if_pos h3]
      exact ⟨⟨rfl, fun z => absurd z h0, fun _ => ⟨fun z => absurd z h1, fun _ => ⟨S134_ok, fun _ => trivial, fun z => absurd h3 z⟩⟩⟩, rfl, fun z => absurd z h0, fun _ => ⟨fun z => absurd z h1, fun _ => ⟨S134_ok, fun _ => trivial, fun z => absurd h3 z⟩⟩⟩
    have t1 := T7 (l := l) (X := X) (d := 60) (by decide) C.1.2
    have t2 := T140 (l := l) (X := X) (d := 60) (by decide) M.1.2
    have t3 := T8 (l := l) (X := X) (d := 60) (by decide) C.2.2
    have t4 := T141 (l := l) (X := X) (d := 60) (by decide) M.2.2
    rw [C.1.1] at t1
    rw [M.1.1] at t2
    rw [C.2.1] at t3
    rw [M.2.1] at t4
    exact ⟨stp_no h t1 t2, stp_no h t3 t4⟩
  have hn : n < 24 := by
    have := h.1
    have : ¬ n = 24 := fun z => hx (Or.inl (Or.inr z))
    omega
  have hm : m < 5 := by
    have := h.2.1
    have : ¬ m = 5 := fun z => hx (Or.inl (Or.inl z))
    omega
  obtain ⟨ei, hei, rfl⟩ := (ex_or e hE.1).resolve_left (fun z => hx (Or.inr z))
  have g2 : ¬ F25_0 (nI ei) q = 0 := by rw [F25_yes hE.2.1 hei hE.1]; decide
  constructor
  · obtain ⟨q1, q2, C, M, f1, f2, hi, hP⟩ := both_open (det := 0) (det' := 0) (e := nI ei) h hn hm (kN := 4) (by decide) (by decide) ⟨by decide, fun z => absurd z (by decide), fun z => absurd z (by decide), fun z => absurd z (by decide), fun z => absurd z (by decide), fun _ => ⟨ei, hei, rfl⟩⟩
    have E1 := frP_E hE f1
    have g3 : ¬ F134_0 (nI ei) q1 = 0 := by rw [F134_yes E1.2 hei hE.1]; decide
    have g4 : ¬ q1.1 650 5 = 24 := by rw [hi 650 5 (by decide)]; exact fun z => hx (Or.inl (Or.inr ((n24 h).1.mp z)))
    have g5 : ¬ q1.1 650 14 = 5 := by rw [hi 650 14 (by decide)]; exact fun z => hx (Or.inl (Or.inl ((n24 h).2.mp z)))
    refine ⟨q2, ⟨nI n, q1, ?_, ?_⟩, f1.tr f2, n + 1, m + 1, _, _, hP, Or.inr (Or.inl (by omega))⟩
    · have t := T7 (l := l) (X := X) (d := 60) (v1 := nI ei) (q := q) (by decide) ⟨S25_ok, fun z => absurd z g2, fun _ => ⟨C.2, trivial⟩⟩
      unfold F7_0 at t
      rw [if_neg g2, show F37_0 4 0 (nI ei) q = (nI n, q1) from C.1] at t
      exact t
    · have t := T140 (l := l) (X := X) (d := 60) (v1 := nI ei) (q := q1) (by decide) ⟨fun z => absurd z g4, fun _ => ⟨fun z => absurd z g5, fun _ => ⟨S134_ok, fun z => absurd z g3, fun _ => ⟨M.2, trivial⟩⟩⟩⟩
      unfold F140_0 at t
      rw [if_neg g4, if_neg g5, if_neg g3, show F136_0 4 0 (nI ei) q1 = (nI n, q2) from M.1] at t
      exact t
  · obtain ⟨q1, q2, C, M, f1, f2, hi, hP⟩ := both_open (det := 0) (det' := 0) (e := nI ei) h hn hm (kN := 5) (by decide) (by decide) ⟨by decide, fun z => absurd z (by decide), fun z => absurd z (by decide), fun z => absurd z (by decide), fun z => absurd z (by decide), fun _ => ⟨ei, hei, rfl⟩⟩
    have E1 := frP_E hE f1
    have g3 : ¬ F134_0 (nI ei) q1 = 0 := by rw [F134_yes E1.2 hei hE.1]; decide
    have g4 : ¬ q1.1 650 5 = 24 := by rw [hi 650 5 (by decide)]; exact fun z => hx (Or.inl (Or.inr ((n24 h).1.mp z)))
    have g5 : ¬ q1.1 650 14 = 5 := by rw [hi 650 14 (by decide)]; exact fun z => hx (Or.inl (Or.inl ((n24 h).2.mp z)))
    refine ⟨q2, ⟨nI n, q1, ?_, ?_⟩, f1.tr f2, n + 1, m + 1, _, _, hP, Or.inr (Or.inl (by omega))⟩
    · have t := T8 (l := l) (X := X) (d := 60) (v1 := nI ei) (q := q) (by decide) ⟨S25_ok, fun z => absurd z g2, fun _ => ⟨C.2, trivial⟩⟩
      unfold F8_0 at t
      rw [if_neg g2, show F37_0 5 0 (nI ei) q = (nI n, q1) from C.1] at t
      exact t
    · have t := T141 (l := l) (X := X) (d := 60) (v1 := nI ei) (q := q1) (by decide) ⟨fun z => absurd z g4, fun _ => ⟨fun z => absurd z g5, fun _ => ⟨S134_ok, fun z => absurd z g3, fun _ => ⟨M.2, trivial⟩⟩⟩⟩
      unfold F141_0 at t
      rw [if_neg g4, if_neg g5, if_neg g3, show F136_0 5 0 (nI ei) q1 = (nI n, q2) from M.1] at t
      exact t
/-- attempt -/
theorem attempt_step (h : iP q nE n m o p) (v : Int32) : stp l X 9 142 [.int v] q nE n m := by
  have yes : ∀ r q1, F37_0 6 v 0 q = (r, q1) → S37_0 6 v 0 q → (v = 0 ∨ ¬ F23_0 v q = 0) → F9_0 v q = (r, q1) ∧ S9_0 v q := by
    intro r q1 e s hv
    unfold F9_0 S9_0 F9_13 S9_13
    by_cases h0 : v = 0
    · rw [if_pos h0, e]
      exact ⟨rfl, fun _ => ⟨s, trivial⟩, fun z => absurd h0 z⟩
    · have h1 := hv.resolve_left h0
      rw [if_neg h0, if_neg h1, e]
      exact ⟨rfl, fun z => absurd z h0, fun _ => ⟨S23_ok, fun z => absurd z h1, fun _ => ⟨s, trivial⟩⟩⟩
  by_cases hx : (m = 5 ∨ n = 24) ∨ (v < 0 ∨ 4 < v)
  · have C : F9_0 v q = (-1, q) ∧ S9_0 v q := by
      by_cases hv : v = 0 ∨ ¬ F23_0 v q = 0
      · have h2 : m = 5 ∨ n = 24 := by
          refine hx.resolve_right (fun z => ?_)
          rcases hv with hv | hv
          · subst hv
            exact absurd z (by decide)
          · rw [F23_eq] at hv
            apply hv
            rw [if_neg]
            rintro ⟨a, b⟩
            rcases z with z | z
            · exact a (i_lt1.mpr (Or.inl z))
            · exact b z
        have A := opn_full h h2 6 v 0
        exact yes _ _ A.1 A.2 hv
      · have h0 : ¬ v = 0 := fun z => hv (Or.inl z)
        have h1 : F23_0 v q = 0 := Classical.byContradiction (fun z => hv (Or.inr z))
        unfold F9_0 S9_0
        rw [if_neg h0, if_pos h1]
        exact ⟨rfl, fun z => absurd z h0, fun _ => ⟨S23_ok, fun _ => trivial, fun z => absurd h1 z⟩⟩
    have M : F142_0 v q = (-1, q) ∧ S142_0 v q := by
      unfold F142_0 S142_0
      by_cases h0 : q.1 650 5 = 24
      · rw [if_pos h0]
        exact ⟨rfl, fun _ => trivial, fun z => absurd h0 z⟩
      rw [if_neg h0]
      by_cases h1 : q.1 650 14 = 5
      · rw [if_pos h1]
        exact ⟨rfl, fun z => absurd z h0, fun _ => ⟨fun _ => trivial, fun z => absurd h1 z⟩⟩
      rw [if_neg h1]
      by_cases h2 : v < 0
      · rw [if_pos h2]
        exact ⟨rfl, fun z => absurd z h0, fun _ => ⟨fun z => absurd z h1, fun _ => ⟨fun _ => trivial, fun z => absurd h2 z⟩⟩⟩
      rw [if_neg h2]
      have h3 : ¬ v ≤ 4 := by
        rw [i_nle4]
        intro z
        rcases hx with (hx | hx) | hx | hx
        · exact h1 ((n24 h).2.mpr hx)
        · exact h0 ((n24 h).1.mpr hx)
        · exact h2 hx
        · exact z hx
      rw [if_neg h3]
      exact ⟨rfl, fun z => absurd z h0, fun _ => ⟨fun z => absurd z h1, fun _ => ⟨fun z => absurd z h2, fun _ => ⟨fun z => absurd z h3, fun _ => trivial⟩⟩⟩⟩
    have t1 := T9 (l := l) (X := X) (d := 60) (by decide) C.2
    have t2 := T142 (l := l) (X := X) (d := 60) (by decide) M.2
    rw [C.1] at t1
    rw [M.1] at t2
    exact stp_no h t1 t2
  have hn : n < 24 := by
    have := h.1
    have : ¬ n = 24 := fun z => hx (Or.inl (Or.inr z))
    omega
  have hm : m < 5 := by
    have := h.2.1
    have : ¬ m = 5 := fun z => hx (Or.inl (Or.inl z))
    omega
  have h1 : ¬ v < 0 := fun z => hx (Or.inr (Or.inl z))
  have h4 : ¬ 4 < v := fun z => hx (Or.inr (Or.inr z))
  obtain ⟨vi, hvi, hve⟩ := (var_or v).resolve_left (fun z => hx (Or.inr z))
  obtain ⟨q1, q2, C, M, f1, f2, hi, hP⟩ := both_open (det := v) (det' := v) (e := 0) h hn hm (kN := 6) (by decide) (by decide) ⟨by decide, fun z => absurd z (by decide), fun z => absurd z (by decide), fun z => absurd z (by decide), fun _ => ⟨vi, by omega, hve, hve⟩, fun z => absurd z (by decide)⟩
  have g4 : ¬ q1.1 650 5 = 24 := by rw [hi 650 5 (by decide)]; exact fun z => hx (Or.inl (Or.inr ((n24 h).1.mp z)))
  have g5 : ¬ q1.1 650 14 = 5 := by rw [hi 650 14 (by decide)]; exact fun z => hx (Or.inl (Or.inl ((n24 h).2.mp z)))
  have hc : v = 0 ∨ ¬ F23_0 v q = 0 := by
    by_cases h0 : v = 0
    · exact Or.inl h0
    · refine Or.inr ?_
      rw [F23_eq, if_pos ⟨fun z => (i_lt1.mp z).elim h1 h0, h4⟩]
      decide
  have Y := yes _ _ C.1 C.2 hc
  refine ⟨q2, ⟨nI n, q1, ?_, ?_⟩, f1.tr f2, n + 1, m + 1, _, _, hP, Or.inr (Or.inl (by omega))⟩
  · have t := T9 (l := l) (X := X) (d := 60) (by decide) Y.2
    rw [Y.1] at t
    exact t
  · have t := T142 (l := l) (X := X) (d := 60) (v1 := v) (q := q1) (by decide) ⟨fun z => absurd z g4, fun _ => ⟨fun z => absurd z g5, fun _ => ⟨fun z => absurd z h1, fun _ => ⟨fun _ => ⟨M.2, trivial⟩, fun z => absurd (i_nle4.mpr h4) z⟩⟩⟩⟩
    unfold F142_0 at t
    rw [if_neg g4, if_neg g5, if_neg h1, if_pos (i_nle4.mpr h4), show F136_0 6 v 0 q1 = (nI n, q2) from M.1] at t
    exact t
end
