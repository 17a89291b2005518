/-! the model's tokens, one after another -/
theorem wk_b {o xt yt : Nat} {x y : Int} (hx : vOk xt x) (hy : vOk yt y) : ((wk o xt x yt y).1 = 0 ∧ ((wk o xt x yt y).2 = 1 ∨ (wk o xt x yt y).2 = 3)) ∨ (((wk o xt x yt y).1 = 1 ∨ (wk o xt x yt y).1 = 2) ∧ -4000000000000000000 ≤ (wk o xt x yt y).2 ∧ (wk o xt x yt y).2 ≤ 4000000000000000000) := by
  have bx := hx.lt
  have bY := hy.lt
  have mb : -1000000000000000000 ≤ x * y ∧ x * y ≤ 1000000000000000000 := by
    have h1 : x.natAbs * y.natAbs ≤ 1000000000 * 1000000000 := Nat.mul_le_mul (by omega) (by omega)
    rw [← Int.natAbs_mul] at h1
    omega
  unfold wk
  split
  · rename_i h
    refine Or.inr ⟨?_, ?_, ?_⟩
    · rcases h.2 with h | h
      · exact Or.inl h.1
      · exact Or.inr h.1
    · dsimp; omega
    · dsimp; omega
  split
  · exact Or.inr ⟨Or.inl rfl, by dsimp; omega, by dsimp; omega⟩
  split
  · exact Or.inr ⟨Or.inl rfl, by dsimp; omega, by dsimp; omega⟩
  split
  · split
    · exact Or.inl ⟨rfl, Or.inr rfl⟩
    · rename_i h0
      have := fd_sm (x := x) (y := y) (by omega) h0
      unfold sm at this
      exact Or.inr ⟨Or.inl rfl, by dsimp; omega, by dsimp; omega⟩
  split
  · refine Or.inr ⟨Or.inl rfl, ?_, ?_⟩ <;> (dsimp; split <;> omega)
  split
  · refine Or.inr ⟨Or.inl rfl, ?_, ?_⟩ <;> (dsimp; split <;> omega)
  split
  · refine Or.inr ⟨Or.inl rfl, ?_, ?_⟩ <;> (dsimp; split <;> omega)
  split
  · exact Or.inr ⟨Or.inl rfl, by dsimp; omega, by dsimp; omega⟩
  · exact Or.inl ⟨rfl, Or.inl rfl⟩
/-- a value is pushed -/
theorem push {n i t : Nat} {x : Int} {Q : aQ} (hn : n < 16) (h37 : Q.1 650 37 = nI t) (h38 : Q.2 650 38 = lI x) (ht : 0 < t) (ht2 : t < 16) : ∃ Q', F181_174 (nI n) (nI i) Q = .inl (nI (n + 1), nI (i + 1), Q') ∧ S181_174 (nI n) (nI i) Q ∧ frV n Q Q' ∧ Q'.1 684 n = nI t ∧ Q'.2 685 n = lI x ∧ Q'.1 650 37 = nI t ∧ Q'.2 650 38 = lI x ∧ Q'.1 650 42 = Q.1 650 42 := by
  have p : (0 : Int32) < nI t := nI_lt (a := 0) ht (by omega)
  have cn : (nI n).toNatClampNeg = n := nI_clamp (by omega)
  have vn : vp_in (nI n) 16 := vp_in_nI hn (by decide)
  refine ⟨a_wl (a_w Q 684 n (nI t)) 685 n (lI x), ?_, ?_, ⟨fun c j a b => ?_, fun c j a b => ?_, fun j hj => ⟨?_, ?_⟩⟩, ?_, ?_, ?_, ?_, ?_⟩
  · unfold F181_174
    rw [h37, if_pos p, cn, nI_1, nI_1, h38]
  · unfold S181_174
    rw [h37]
    exact ⟨fun _ => ⟨vn, vn, trivial⟩, fun z => absurd p z⟩
  · rw [wl_i, w_ne a]
  · rw [wl_get, if_neg (fun z => a z.1), w_l]
  · rw [wl_i, w_nk (by omega)]
  · rw [wl_get, if_neg (by omega), w_l]
  · rw [wl_i, w_eq]
  · rw [wl_get, if_pos ⟨rfl, rfl⟩]
  · rw [wl_i, w_ne (by decide), h37]
  · rw [wl_get, if_neg (by omega), w_l, h38]
  · rw [wl_i, w_ne (by decide)]
theorem nopush {v i : Int32} {Q : aQ} (h : ¬ 0 < Q.1 650 37) : F181_174 v i Q = .inr (.inr Q) ∧ S181_174 v i Q := by
  unfold F181_174 S181_174
  rw [if_neg h]
  exact ⟨rfl, fun z => absurd z h, fun _ => trivial⟩
theorem F152_fr {n : Nat} {t : Int32} {x : Int64} {Q : aQ} : frV n Q (F152_0 t x Q) ∧ (F152_0 t x Q).1 650 37 = t ∧ (F152_0 t x Q).2 650 38 = x ∧ (F152_0 t x Q).1 650 42 = Q.1 650 42 := by
  unfold F152_0
  refine ⟨⟨fun c j a b => ?_, fun c j a b => ?_, fun j hj => ⟨?_, ?_⟩⟩, ?_, ?_, ?_⟩
  · rw [wl_i, w_get, if_neg (by omega)]
  · rw [wl_get, if_neg b, w_l]
  · rw [wl_i, w_ne (by decide)]
  · rw [wl_get, if_neg (by omega), w_l]
  · rw [wl_i, w_eq]
  · rw [wl_get, if_pos ⟨rfl, rfl⟩]
  · rw [wl_i, w_nk (by decide)]
/-- behind an operation -/
theorem fin140 {n i t : Nat} {x : Int} {Q : aQ} (hn : n < 16) (h37 : Q.1 650 37 = nI t) (h38 : Q.2 650 38 = lI x) (h : (t = 0 ∧ (x = 1 ∨ x = 3)) ∨ ((t = 1 ∨ t = 2) ∧ -4000000000000000000 ≤ x ∧ x ≤ 4000000000000000000)) : S181_140 (nI n) (nI i) Q ∧ ∃ Q', frV n Q Q' ∧ Q'.1 650 42 = Q.1 650 42 ∧ (¬ ((cap (t, x)).1 = 0 ∨ (cap (t, x)).1 = 9) → F181_140 (nI n) (nI i) Q = .inl (nI (n + 1), nI (i + 1), Q') ∧ Q'.1 684 n = nI (cap (t, x)).1 ∧ Q'.2 685 n = lI (cap (t, x)).2 ∧ Q'.1 650 37 = nI (cap (t, x)).1 ∧ Q'.2 650 38 = lI (cap (t, x)).2) ∧ (((cap (t, x)).1 = 0 ∨ (cap (t, x)).1 = 9) → F181_140 (nI n) (nI i) Q = .inr (.inr Q') ∧ ((cap (t, x)).1 = 9 → Q'.1 650 37 = -1) ∧ ((cap (t, x)).1 = 0 → Q'.1 650 37 = 0 ∧ Q'.2 650 38 = lI (cap (t, x)).2)) := by
  rcases h with ⟨h0, h1⟩ | ⟨h0, h1, h2⟩
  · subst h0
    have np := nopush (v := nI n) (i := nI i) (Q := Q) (by rw [h37]; decide)
    have e0 : nI 0 = 0 := rfl
    unfold F181_140 S181_140
    rw [h37, if_pos e0]
    refine ⟨⟨fun _ => np.2, fun z => absurd e0 z⟩, Q, frV.rf, rfl, fun z => absurd (Or.inl rfl) z, fun _ => ⟨np.1, fun z => absurd z (show ¬ (0 : Nat) = 9 by decide), fun _ => ⟨h37, h38⟩⟩⟩
  · have ex : (lI x).toInt = x := lI_t (by omega)
    have g1 : 0 < lg_cmp (lI x) 1000000000 ↔ 1000000000 < x := by rw [lg_gt, ex]; rfl
    have g2 : 0 ≤ lg_cmp (lI x) (-1000000000) ↔ -1000000000 ≤ x := by rw [lg_ge, ex]; rfl
    have nt : ¬ nI t = 0 := nI_ne0 (by omega) (by omega)
    obtain ⟨P, p1, p2, p3, p4, p5, p6, p7, p8⟩ := push (i := i) hn h37 h38 (by omega) (by omega)
    have np := nopush (v := nI n) (i := nI i) (Q := a_w Q 650 37 (-1)) (by rw [w_eq]; decide)
    have S : S181_140 (nI n) (nI i) Q := by
      unfold S181_140 S181_169
      rw [h37]
      exact ⟨fun z => absurd z nt, fun _ => ⟨fun _ => np.2, fun _ => ⟨fun _ => p2, fun _ => np.2⟩⟩⟩
    refine ⟨S, ?_⟩
    have f1 : frV n Q (a_w Q 650 37 (-1)) := ⟨fun c j a b => by rw [w_get, if_neg (by omega)], fun _ _ _ _ => rfl, fun j _ => ⟨by rw [w_ne (by decide)], rfl⟩⟩
    by_cases c : x < -1000000000 ∨ 1000000000 < x
    · have ec : cap (t, x) = (9, 0) := cap_o (by omega) c
      have e : F181_140 (nI n) (nI i) Q = .inr (.inr (a_w Q 650 37 (-1))) := by
        unfold F181_140 F181_169
        rw [h37, if_neg nt, h38, np.1]
        by_cases c1 : 1000000000 < x
        · rw [if_pos (g1.mpr c1)]
        · rw [if_neg (fun z => c1 (g1.mp z)), if_neg (fun z => by have := g2.mp z; omega)]
      rw [ec]
      exact ⟨_, f1, w_nk (by decide), fun z => absurd (Or.inr rfl) z, fun _ => ⟨e, fun _ => w_eq, fun z => absurd z (by decide)⟩⟩
    · have ec : cap (t, x) = (t, x) := cap_s (by omega)
      have e : F181_140 (nI n) (nI i) Q = F181_174 (nI n) (nI i) Q := by
        unfold F181_140
        rw [h37, if_neg nt, h38, if_neg (fun z => by have := g1.mp z; omega), if_pos (g2.mpr (by omega))]
      rw [ec, e]
      exact ⟨P, p3, p8, fun _ => ⟨p1, p4, p5, p6, p7⟩, fun z => by dsimp at z; omega⟩
