/-! truth and narrowing of pictures in memory: the class -/
section
variable {q : aQ} {p s r : Nat} {P S R : Pc} {N T : Rn} {a b : Bool}
theorem updP_n {q' : aQ} {N' : Rn} (h : pcAt q p (N, T, a, b)) (u : updR q q' (p + 1) N') : updP q q' p (N', T, a, b) := by
  refine ⟨⟨u.1, h.2.1.ne u (by omega), ?_, ?_⟩, fun c j n => u.2.1 c j (by omega), u.2.2⟩
  · rw [u.2.1 _ _ (by omega)]; exact h.2.2.1
  · rw [u.2.1 _ _ (by omega)]; exact h.2.2.2
theorem updP_t {q' : aQ} {T' : Rn} (h : pcAt q p (N, T, a, b)) (u : updR q q' (p + 2) T') : updP q q' p (N, T', a, b) := by
  refine ⟨⟨h.1.ne u (by omega), u.1, ?_, ?_⟩, fun c j n => u.2.1 c j (by omega), u.2.2⟩
  · rw [u.2.1 _ _ (by omega)]; exact h.2.2.1
  · rw [u.2.1 _ _ (by omega)]; exact h.2.2.2
theorem updP_o {a' : Bool} (h : pcAt q p (N, T, a, b)) : updP q (a_w q p 2 (bI a')) p (N, T, a', b) := by
  refine ⟨⟨⟨?_, ?_⟩, ⟨?_, ?_⟩, w_eq, ?_⟩, fun c j n => w_ne (by omega), rfl⟩
  · rw [w_ne (by omega)]; exact h.1.1
  · rw [w_ne (by omega)]; exact h.1.2
  · rw [w_ne (by omega)]; exact h.2.1.1
  · rw [w_ne (by omega)]; exact h.2.1.2
  · rw [w_nk (by decide)]; exact h.2.2.2
theorem updP_u {b' : Bool} (h : pcAt q p (N, T, a, b)) : updP q (a_w q p 3 (bI b')) p (N, T, a, b') := by
  refine ⟨⟨⟨?_, ?_⟩, ⟨?_, ?_⟩, ?_, w_eq⟩, fun c j n => w_ne (by omega), rfl⟩
  · rw [w_ne (by omega)]; exact h.1.1
  · rw [w_ne (by omega)]; exact h.1.2
  · rw [w_ne (by omega)]; exact h.2.1.1
  · rw [w_ne (by omega)]; exact h.2.1.2
  · rw [w_nk (by decide)]; exact h.2.2.1
theorem b1 : bd 1 := by unfold bd; omega
theorem i1_ : (1 : Int32) = iI 1 := rfl
theorem F75_eq {t f : Bool} (h : rgAt q (p + 1) eR) : updR q (F75_0 p (bI t) (bI f) q) (p + 1) (truR t f) ∧ S75_0 p (bI t) (bI f) q := by
  refine ⟨?_, by unfold S75_0 S75_13 S75_22; simp [S82_ok]⟩
  have k00 := F82_eq (a := 0) (b := 0) h eR_ok b0 b0
  have k01 := F82_eq (a := 0) (b := 1) h eR_ok b0 b1
  have k10 := F82_eq (a := 1) (b := 0) h eR_ok b1 b0
  have k11 := F82_eq (a := 1) (b := 1) h eR_ok b1 b1
  unfold F75_0 F75_13 F75_22
  cases t <;> cases f
  · exact k10
  · exact k00
  · exact k11
  · exact k01
theorem F76_eq {t : Bool} (h : pcAt q p P) (hP : okP P) (hu : P.2.2.2 = false) : updP q (F76_0 p (bI t) q) p (kTru t P) ∧ S76_0 p (bI t) q := by
  refine ⟨?_, by unfold S76_0 S76_37 S76_12 S76_20; simp [S92_ok, S93_ok]⟩
  obtain ⟨N, T, a, b⟩ := P
  dsimp only at hu
  subst hu
  unfold F76_0 F76_37 F76_12 F76_20 kTru
  cases t with
  | false =>
    rw [if_pos (show bI false = 0 from rfl), if_neg (by decide), i0_]
    have u1 := updP_n h (F92_eq h.1 hP.1 b0 b0)
    exact u1.tr (updP_t u1.1 (F92_eq u1.1.2.1 hP.2.R b0 b0))
  | true =>
    rw [if_neg (by decide), if_pos rfl, i0_]
    have u1 := updP_n h (F93_eq (n := 0) h.1 hP.1 (by omega))
    have u2 := u1.tr (updP_t u1.1 (F93_eq (n := 0) u1.1.2.1 hP.2.R (by omega)))
    exact u2.tr (updP_o (a' := false) u2.1)
theorem ok_b {R : Rn} (h : okR R) : bd (R.2 - 1) ∧ (-2000 ≤ R.1 ∧ R.1 ≤ 2000) := by
  unfold bd
  rcases h with h | h
  · rw [h]; decide
  · omega
theorem F77_eq {t : Bool} (h : pcAt q p P) (k : pcAt q s S) (hP : okP P) (hS : okP S) (n : apt p s) (hu : P.2.2.2 = false) : updP q (F77_0 p s (bI t) q) p (kLes t P S) ∧ S77_0 p s (bI t) q := by
  refine ⟨?_, by unfold S77_0 S77_67 S77_28 S77_47; simp [S92_ok]⟩
  obtain ⟨N, T, a, b⟩ := P
  dsimp only at hu
  subst hu
  have u0 := updP_o (a' := false) h
  have u0 : updP q (a_w q p 2 0) p (N, T, false, false) := u0
  have k0 := k.ne u0 n
  unfold F77_0 F77_67 F77_28 F77_47 kLes
  have e1k : (1000 : Int32) = iI 1000 := rfl
  have em1k : (-1000 : Int32) = iI (-1000) := rfl
  rw [k0.1.1, k0.1.2, em1k, e1k, i1_, iI_sub]
  cases t with
  | false =>
    rw [if_pos (show bI false = 0 from rfl), if_neg (by decide)]
    have u1 := u0.tr (updP_n u0.1 (F92_eq u0.1.1 hP.1 hS.1.bnd.1 b16.2.2.1))
    have k1 := k.ne u1 n
    rw [k1.2.1.1]
    exact u1.tr (updP_t u1.1 (F92_eq u1.1.2.1 hP.2.R hS.2.R.bnd.1 b16.2.2.1))
  | true =>
    rw [if_neg (by decide), if_pos rfl]
    have u1 := u0.tr (updP_n u0.1 (F92_eq u0.1.1 hP.1 b16.2.2.2 (ok_b hS.1).1))
    have k1 := k.ne u1 n
    rw [k1.2.1.2, iI_sub]
    exact u1.tr (updP_t u1.1 (F92_eq u1.1.2.1 hP.2.R b16.2.2.2 (ok_b hS.2.R).1))
theorem F78_eq {t : Bool} (h : pcAt q p P) (k : pcAt q s S) (hP : okP P) (hS : okP S) (n : apt p s) (hu : P.2.2.2 = false) : updP q (F78_0 p s (bI t) q) p (kEqu t P S) ∧ S78_0 p s (bI t) q := by
  refine ⟨?_, by unfold S78_0 S78_25 S78_46 S78_65 S78_66 S78_91 S78_105 S78_124 S78_125; simp [S92_ok, S93_ok, S72_ok]⟩
  obtain ⟨N, T, a, b⟩ := P
  dsimp only at hu
  subst hu
  unfold F78_0 kEqu
  cases t with
  | true =>
    rw [if_neg (show ¬ bI true = 0 by decide), if_pos rfl, k.1.1, k.1.2]
    have u1 := updP_n h (F92_eq h.1 hP.1 hS.1.bnd.1 hS.1.bnd.2)
    have k1 := k.ne u1 n
    unfold F78_25
    rw [k1.2.1.1, k1.2.1.2]
    have u2 := u1.tr (updP_t u1.1 (F92_eq u1.1.2.1 hP.2.R hS.2.R.bnd.1 hS.2.R.bnd.2))
    have k2 := k.ne u2 n
    refine u2.tr ?_
    unfold F78_46 F78_65 F78_66
    rw [u2.1.2.2.1, k2.2.2.1]
    have o1 := updP_o (a' := a && S.2.2.1) u2.1
    dsimp only at o1 ⊢
    generalize S.2.2.1 = c at *
    cases a <;> cases c <;> exact o1
  | false =>
    rw [if_pos (show bI false = 0 from rfl), if_neg (show ¬ (false = true) by decide), F72_eq k hS]
    by_cases ov : oneV S = true
    · rw [ov, if_neg (show ¬ bI true = 0 by decide), if_pos rfl, k.1.1]
      have u1 := updP_n h (F93_eq h.1 hP.1 (ok_b hS.1).2)
      have k1 := k.ne u1 n
      unfold F78_91
      rw [k1.2.1.1]
      have u2 := u1.tr (updP_t u1.1 (F93_eq u1.1.2.1 hP.2.R (ok_b hS.2.R).2))
      have k2 := k.ne u2 n
      refine u2.tr ?_
      unfold F78_105 F78_124 F78_125
      rw [u2.1.2.2.1, k2.2.2.1]
      have o1 := updP_o (a' := a && !S.2.2.1) u2.1
      dsimp only at o1 ⊢
      generalize S.2.2.1 = c at *
      cases a <;> cases c <;> exact o1
    · have ov : oneV S = false := by simpa using ov
      rw [ov, if_pos (show bI false = 0 from rfl), if_neg (by decide)]
      exact updP.rf h
end
