/-! painting one expression's picture: the class -/
abbrev Er : Type := Bool × Bool × Bool
def noE : Er := (false, false, false)
def orE (a b : Er) : Er := (a.1 || b.1, a.2.1 || b.2.1, a.2.2 || b.2.2)
/-- errors as bits: types, names, zero -/
def erM (e : Er) : Int32 := (if e.1 = true then 2 else 0) + (if e.2.1 = true then 4 else 0) + (if e.2.2 = true then 8 else 0)
theorem erM_or (a b : Er) : erM a ||| erM b = erM (orE a b) := by
  obtain ⟨a1, a2, a3⟩ := a
  obtain ⟨b1, b2, b3⟩ := b
  cases a1 <;> cases a2 <;> cases a3 <;> cases b1 <;> cases b2 <;> cases b3 <;> decide
/-- the errors among results -/
def erL (L : List (Nat × Int)) : Er := (decide ((0, 1) ∈ L), false, decide ((0, 3) ∈ L))
section
variable {q : aQ} {x y r : Nat} {X Y : Pc}
theorem vals_n (h : okP X) (v : hasV X = false) : vals X = [] := by
  have a : isE X.1 = true := by unfold hasV at v; cases h1 : isE X.1 <;> simp_all
  have b : isE X.2.1 = true := by unfold hasV at v; cases h1 : isE X.2.1 <;> simp_all
  have c : X.2.2.1 = false := by unfold hasV at v; cases h1 : X.2.2.1 <;> simp_all
  refine List.eq_nil_iff_forall_not_mem.mpr fun w hw => ?_
  rw [mem_vals] at hw
  rcases hw with ⟨-, -, h1⟩ | ⟨-, -, -, h1⟩ | ⟨-, h1⟩
  · exact no_in a h1
  · exact no_in b h1
  · rw [c] at h1; cases h1
theorem F104_eq {o : Nat} (ho : o = 6 ∨ o = 7) (h : pcAt q x X) (hX : okP X) (k : pcAt q r eP) (n : apt r x) : S104_0 (nI o) x r q ∧ ∃ q', F104_0 (nI o) x r q = (erM (erL (sing o (vals X))), q') ∧ updP q q' r (hul (sing o (vals X))) := by
  unfold apt at n
  rcases ho with rfl | rfl
  · have e6 : nI 6 = 6 := rfl
    obtain ⟨f1, f2⟩ := F75_eq (p := r) (t := hasFa X) (f := hasTr X) k.1
    have u := updP_n k f1
    rw [not_eq' hX]
    unfold S104_0 F104_0 F104_18 S104_18
    rw [if_pos e6, F71_eq h hX, F70_eq h hX]
    refine ⟨⟨fun _ => ⟨S71_ok, S70_ok, f2, trivial⟩, fun z => absurd e6 z⟩, _, ?_, u⟩
    unfold erL
    rw [decide_eq_false (ty6 hX), decide_eq_false (ze67 (Or.inl rfl) hX)]
    rfl
  · have e6 : ¬ nI 7 = 6 := by decide
    obtain ⟨q', f1, f2⟩ := F83_eq (r := r + 1) (x := x + 2) k.1 h.2.1 eR_ok hX.2.R
    have u := updP_n k f2
    rw [show joR eP.1 X.2.1 = X.2.1 from (joR_eR hX.2.R).2] at u
    have hx : pcAt q' x X := h.ne u (by unfold apt; omega)
    rw [len_eq hX]
    unfold S104_0 F104_0 F104_31 S104_31
    rw [if_neg e6, f1]
    dsimp only
    rw [F69_eq hx hX]
    refine ⟨⟨fun z => absurd z e6, fun _ => ⟨S83_ok, S69_ok, fun _ => trivial, fun _ => trivial⟩⟩, q', ?_, u⟩
    unfold erL
    rw [decide_eq_false (ze67 (Or.inr rfl) hX), show decide ((0, 1) ∈ sing 7 (vals X)) = otT X from by
      have := ty7 hX
      cases ho : otT X
      · exact decide_eq_false (fun z => by rw [this.mp z] at ho; cases ho)
      · exact decide_eq_true (this.mpr ho)]
    cases otT X <;> rfl
theorem F106_eq (h : pcAt q x X) (k : pcAt q y Y) (hX : okP X) (hY : okP Y) : F106_0 x y q = (if mixE X Y = true then 2 else 0) ∧ S106_0 x y q := by
  refine ⟨?_, by unfold S106_0 S106_18 S106_19 S106_38 S106_39; simp [S68_ok, S69_ok]⟩
  unfold F106_0 F106_18 F106_19 F106_38 F106_39 mixE
  rw [F68_eq h hX, F68_eq k hY, F69_eq h hX, F69_eq k hY]
  cases otN X <;> cases otN Y <;> cases otT X <;> cases otT Y <;> rfl
theorem F107_eq (h : pcAt q x X) (k : pcAt q y Y) (hX : okP X) (hY : okP Y) : F107_0 x y q = (if (otN X || otN Y) = true then 2 else 0) ∧ S107_0 x y q := by
  refine ⟨?_, by unfold S107_0; simp [S68_ok]⟩
  unfold F107_0
  rw [F68_eq h hX, F68_eq k hY]
  cases otN X <;> cases otN Y <;> rfl
theorem F108_eq (h : pcAt q x X) (k : pcAt q y Y) (hX : okP X) (hY : okP Y) : F108_0 x y q = (if (!isE X.1 && hol Y.1 0) = true then 8 else 0) ∧ S108_0 x y q := by
  refine ⟨?_, by unfold S108_0; simp [S85_ok, S87_ok]⟩
  have e : F87_0 (y + 1) 0 q = bI (hol Y.1 0) := by rw [i0_]; exact F87_eq k.1 hY.1 b0
  unfold F108_0
  rw [F85_eq h.1 hX.1, e]
  cases isE X.1 <;> cases hol Y.1 0 <;> rfl
theorem erL_p {o : Nat} (ho : o ≤ 5) (hX : okP X) (hY : okP Y) (vX : hasV X = true) (vY : hasV Y = true) : erL (prods o (vals X) (vals Y)) = (tyE o X Y, false, zeE o X Y) := by
  unfold erL
  have a := ty_eq ho hX hY vX vY
  have b := ze_eq ho hX hY
  refine Prod.ext ?_ (Prod.ext rfl ?_)
  · show decide _ = _
    cases h : tyE o X Y
    · exact decide_eq_false (fun z => by rw [a.mp z] at h; cases h)
    · exact decide_eq_true (a.mpr h)
  · show decide _ = _
    cases h : zeE o X Y
    · exact decide_eq_false (fun z => by rw [b.mp z] at h; cases h)
    · exact decide_eq_true (b.mpr h)
theorem em1 : (-1 : Int32) = iI (-1) := rfl
theorem bm1 : bd (-1) := by unfold bd; omega
theorem F105_eq {o : Nat} (ho : o ≤ 5) (h : pcAt q x X) (k : pcAt q y Y) (hX : okP X) (hY : okP Y) (vX : hasV X = true) (vY : hasV Y = true) (e : pcAt q r eP) (n : apt r x) (m : apt r y) : S105_0 (nI o) x y r q ∧ ∃ q', F105_0 (nI o) x y r q = (erM (erL (prods o (vals X) (vals Y))), q') ∧ updP q q' r (hul (prods o (vals X) (vals Y))) := by
  rw [op_eq ho hX hY vX vY, erL_p ho hX hY vX vY]
  have c : o = 0 ∨ o = 1 ∨ o = 2 ∨ o = 3 ∨ o = 4 ∨ o = 5 := by omega
  have nn : ∀ b : Nat, b ≤ 5 → o ≠ b → ¬ nI o = nI b := fun b hb g z => g (nI_inj (by omega) (by omega) z)
  unfold S105_0 F105_0
  rcases c with rfl | rfl | rfl | rfl | rfl | rfl
  · have z : nI 0 = 0 := rfl
    have u1 := updP_n e (F94_eq e.1 h.1 k.1 hX.1 hY.1)
    have h1 := h.ne u1 n
    have k1 := k.ne u1 m
    have u2 := updP_t u1.1 (F94_eq u1.1.2.1 h1.2.1 k1.2.1 hX.2.R hY.2.R)
    have h2 := h1.ne u2 n
    have k2 := k1.ne u2 m
    obtain ⟨f1, f2⟩ := F106_eq h2 k2 hX hY
    unfold F105_51 F105_66 S105_51 S105_66
    rw [if_pos z, f1]
    refine ⟨⟨fun _ => ⟨S94_ok, S94_ok, f2, trivial⟩, fun w => absurd z w⟩, _, ?_, u1.tr u2⟩
    show _ = (erM (mixE X Y, false, false), _)
    cases mixE X Y <;> rfl
  · have z0 : ¬ nI 1 = 0 := by decide
    have z : nI 1 = 1 := rfl
    have u1 := updP_n e (F95_eq e.1 h.1 k.1 hX.1 hY.1)
    have h1 := h.ne u1 n
    have k1 := k.ne u1 m
    obtain ⟨f1, f2⟩ := F107_eq h1 k1 hX hY
    unfold F105_87 S105_87
    rw [if_neg z0, if_pos z, f1]
    refine ⟨⟨fun w => absurd w z0, fun _ => ⟨fun _ => ⟨S95_ok, f2, trivial⟩, fun w => absurd z w⟩⟩, _, ?_, u1⟩
    show _ = (erM (otN X || otN Y, false, false), _)
    cases (otN X || otN Y) <;> rfl
  · have z0 : ¬ nI 2 = 0 := by decide
    have z1 : ¬ nI 2 = 1 := by decide
    have z : nI 2 = 2 := rfl
    have u1 := updP_n e (F96_eq e.1 h.1 k.1 hX.1 hY.1)
    have h1 := h.ne u1 n
    have k1 := k.ne u1 m
    obtain ⟨f1, f2⟩ := F107_eq h1 k1 hX hY
    unfold F105_108 S105_108
    rw [if_neg z0, if_neg z1, if_pos z, f1]
    refine ⟨⟨fun w => absurd w z0, fun _ => ⟨fun w => absurd w z1, fun _ => ⟨fun _ => ⟨S96_ok, f2, trivial⟩, fun w => absurd z w⟩⟩⟩, _, ?_, u1⟩
    show _ = (erM (otN X || otN Y, false, false), _)
    cases (otN X || otN Y) <;> rfl
  · have z0 : ¬ nI 3 = 0 := by decide
    have z1 : ¬ nI 3 = 1 := by decide
    have z2 : ¬ nI 3 = 2 := by decide
    have z : nI 3 = 3 := rfl
    have lY := lo_c hY.1
    have gY := hi_c hY.1
    have bY := hY.1.bnd
    have cY : ¬ isE Y.1 = true → (Y.1.1 = -1000 ∨ (-16 ≤ Y.1.1 ∧ Y.1.1 ≤ 16)) ∧ (Y.1.2 = 1000 ∨ (-16 ≤ Y.1.2 ∧ Y.1.2 ≤ 16)) ∧ Y.1.1 ≤ Y.1.2 := fun w => ok_ne hY.1 w
    have u1 := updP_n e (F97_eq (l := Y.1.1) (g := min Y.1.2 (-1)) e.1 eR_ok h.1 hX.1 bY.1 (bd_mm bY.2 bm1).2 (fun w => by
      have := cY (by rw [isE_t]; omega)
      exact ⟨mem_cv.mpr (by omega), mem_cv.mpr (by omega)⟩))
    have h1 := h.ne u1 n
    have k1 := k.ne u1 m
    have okq : okR (joR eR (quoR X.1 Y.1.1 (min Y.1.2 (-1)))) := by
      refine joR_ok eR_ok ?_
      unfold quoR
      split
      · exact eR_ok
      · exact inc_ok eR_ok
    have u2 := updP_n u1.1 (F97_eq (l := max Y.1.1 1) (g := Y.1.2) u1.1.1 okq h1.1 hX.1 (bd_mm bY.1 b1).1 bY.2 (fun w => by
      have := cY (by rw [isE_t]; omega)
      exact ⟨mem_cv.mpr (by omega), mem_cv.mpr (by omega)⟩))
    have okq1 : okR (quoR X.1 Y.1.1 (min Y.1.2 (-1))) := by
      unfold quoR
      split
      · exact eR_ok
      · exact inc_ok eR_ok
    rw [show joR eP.1 (quoR X.1 Y.1.1 (min Y.1.2 (-1))) = quoR X.1 Y.1.1 (min Y.1.2 (-1)) from (joR_eR okq1).2] at u1 u2
    have h2 := h1.ne u2 n
    have k2 := k1.ne u2 m
    obtain ⟨f1, f2⟩ := F107_eq h2 k2 hX hY
    obtain ⟨g1, g2⟩ := F108_eq h2 k2 hX hY
    unfold F105_143 F105_172 S105_143 S105_172
    rw [if_neg z0, if_neg z1, if_neg z2, if_pos z, em1, k.1.1, k.1.2, F191_eq bY.2 bm1, k1.1.1, k1.1.2, i1_, F190_eq bY.1 b1, f1, g1]
    refine ⟨⟨fun w => absurd w z0, fun _ => ⟨fun w => absurd w z1, fun _ => ⟨fun w => absurd w z2, fun _ => ⟨fun _ => ⟨⟨fun _ => trivial, fun _ => trivial⟩, S97_ok, ⟨fun _ => trivial, fun _ => trivial⟩, S97_ok, f2, g2, trivial⟩, fun w => absurd z w⟩⟩⟩⟩, _, ?_, u1.tr u2⟩
    show _ = (erM (otN X || otN Y, false, !isE X.1 && hol Y.1 0), _)
    cases (otN X || otN Y) <;> cases (!isE X.1 && hol Y.1 0) <;> rfl
  · have z0 : ¬ nI 4 = 0 := by decide
    have z1 : ¬ nI 4 = 1 := by decide
    have z2 : ¬ nI 4 = 2 := by decide
    have z3 : ¬ nI 4 = 3 := by decide
    have z : nI 4 = 4 := rfl
    obtain ⟨f1, f2⟩ := F75_eq (p := r) (t := lesP X Y) (f := nleP X Y) e.1
    have u1 := updP_n e f1
    have h1 := h.ne u1 n
    have k1 := k.ne u1 m
    obtain ⟨g1, g2⟩ := F106_eq h1 k1 hX hY
    have l1 := F90_eq h.1 k.1 hX.1 hY.1
    have l2 := F90_eq h.2.1 k.2.1 hX.2.R hY.2.R
    have m1 := F91_eq h.1 k.1 hX.1 hY.1
    have m2 := F91_eq h.2.1 k.2.1 hX.2.R hY.2.R
    have fin : ∀ s0 s1 : Int32, s1 = bI (lesP X Y) → s0 = bI (nleP X Y) → F105_251 x y s0 s1 r q = (erM (tyE 4 X Y, false, zeE 4 X Y), F75_0 r (bI (lesP X Y)) (bI (nleP X Y)) q) ∧ S105_251 x y s0 s1 r q := by
      intro s0 s1 e1 e2
      subst e1 e2
      unfold F105_251 F105_254 S105_251 S105_254
      rw [g1]
      refine ⟨?_, f2, g2, trivial⟩
      show _ = (erM (mixE X Y, false, false), _)
      cases mixE X Y <;> rfl
    have mid : ∀ s1 : Int32, s1 = bI (lesP X Y) → F105_218 x y s1 r q = (erM (tyE 4 X Y, false, zeE 4 X Y), F75_0 r (bI (lesP X Y)) (bI (nleP X Y)) q) ∧ S105_218 x y s1 r q := by
      intro s1 e1
      unfold F105_218 F105_246 S105_218 S105_246
      rw [m1, m2]
      by_cases a1 : Y.1.1 ≤ X.1.2
      · have en : nleP X Y = true := by unfold nleP; rw [decide_eq_true a1]; rfl
        have := fin 1 s1 e1 (by rw [en]; rfl)
        rw [decide_eq_true a1, if_neg (by decide)]
        exact ⟨this.1, S91_ok, fun w => absurd w (by decide), fun _ => this.2⟩
      · rw [decide_eq_false a1, if_pos (by decide)]
        by_cases a2 : Y.2.1.1 ≤ X.2.1.2
        · have en : nleP X Y = true := by unfold nleP; rw [decide_eq_true a2]; exact Bool.or_true _
          have := fin 1 s1 e1 (by rw [en]; rfl)
          rw [decide_eq_true a2, if_neg (by decide)]
          exact ⟨this.1, S91_ok, fun _ => ⟨S91_ok, fun w => absurd w (by decide), fun _ => this.2⟩, fun w => absurd (by decide) w⟩
        · have en : nleP X Y = false := by unfold nleP; rw [decide_eq_false a1, decide_eq_false a2]; rfl
          have := fin 0 s1 e1 (by rw [en]; rfl)
          rw [decide_eq_false a2, if_pos (by decide)]
          exact ⟨this.1, S91_ok, fun _ => ⟨S91_ok, fun _ => this.2, fun w => absurd (by decide) w⟩, fun w => absurd (by decide) w⟩
    have top : (if F90_0 (x + 1) (y + 1) q = 0 then (if F90_0 (x + 2) (y + 2) q = 0 then F105_218 x y 0 r q else F105_213 x y r q) else F105_213 x y r q) = (erM (tyE 4 X Y, false, zeE 4 X Y), F75_0 r (bI (lesP X Y)) (bI (nleP X Y)) q) ∧ ((F90_0 (x + 1) (y + 1) q = 0 → S90_0 (x + 2) (y + 2) q ∧ ((F90_0 (x + 2) (y + 2) q = 0 → S105_218 x y 0 r q) ∧ (¬ F90_0 (x + 2) (y + 2) q = 0 → S105_213 x y r q))) ∧ (¬ F90_0 (x + 1) (y + 1) q = 0 → S105_213 x y r q)) := by
      unfold F105_213 S105_213
      rw [l1, l2]
      by_cases a1 : X.1.1 < Y.1.2
      · have en : lesP X Y = true := by unfold lesP; rw [decide_eq_true a1]; rfl
        have := mid 1 (by rw [en]; rfl)
        rw [decide_eq_true a1, if_neg (by decide)]
        exact ⟨this.1, fun w => absurd w (by decide), fun _ => this.2⟩
      · rw [decide_eq_false a1, if_pos (by decide)]
        by_cases a2 : X.2.1.1 < Y.2.1.2
        · have en : lesP X Y = true := by unfold lesP; rw [decide_eq_true a2]; exact Bool.or_true _
          have := mid 1 (by rw [en]; rfl)
          rw [decide_eq_true a2, if_neg (by decide)]
          exact ⟨this.1, fun _ => ⟨S90_ok, fun w => absurd w (by decide), fun _ => this.2⟩, fun w => absurd (by decide) w⟩
        · have en : lesP X Y = false := by unfold lesP; rw [decide_eq_false a1, decide_eq_false a2]; rfl
          have := mid 0 (by rw [en]; rfl)
          rw [decide_eq_false a2, if_pos (by decide)]
          exact ⟨this.1, fun _ => ⟨S90_ok, fun _ => this.2, fun w => absurd (by decide) w⟩, fun w => absurd (by decide) w⟩
    rw [if_neg z0, if_neg z1, if_neg z2, if_neg z3, if_pos z, top.1]
    exact ⟨⟨fun w => absurd w z0, fun _ => ⟨fun w => absurd w z1, fun _ => ⟨fun w => absurd w z2, fun _ => ⟨fun w => absurd w z3, fun _ => ⟨fun _ => ⟨S90_ok, top.2⟩, fun w => absurd z w⟩⟩⟩⟩⟩, _, rfl, u1⟩
  · have z0 : ¬ nI 5 = 0 := by decide
    have z1 : ¬ nI 5 = 1 := by decide
    have z2 : ¬ nI 5 = 2 := by decide
    have z3 : ¬ nI 5 = 3 := by decide
    have z4 : ¬ nI 5 = 4 := by decide
    obtain ⟨f1, f2⟩ := F75_eq (p := r) (t := mayEq X Y) (f := mayDi X Y) e.1
    unfold F105_274 S105_274
    rw [if_neg z0, if_neg z1, if_neg z2, if_neg z3, if_neg z4, F73_eq h k hX hY, F74_eq h k hX hY]
    exact ⟨⟨fun w => absurd w z0, fun _ => ⟨fun w => absurd w z1, fun _ => ⟨fun w => absurd w z2, fun _ => ⟨fun w => absurd w z3, fun _ => ⟨fun w => absurd w z4, fun _ => ⟨S73_ok, S74_ok, f2, trivial⟩⟩⟩⟩⟩⟩, _, rfl, updP_n e f1⟩
end
