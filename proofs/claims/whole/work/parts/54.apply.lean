theorem op_lo {o : Nat} (h : o ≤ 5) : ¬ nI o = (6 : Int32) ∧ ¬ nI o = (7 : Int32) := ⟨fun z => by have := nI_inj (b := 6) (by omega) (by decide) z; omega, fun z => by have := nI_inj (b := 7) (by omega) (by decide) z; omega⟩
theorem ap_b {q : aQ} {n o i : Nat} {c : Int32} (h1 : q.1 1 6 = nI n) (h2 : q.1 650 0 = nI n) (hn : n < 60) (ho : o ≤ 5) (hi : i < n) (h : c < 0 ∨ nI n ≤ c) : (F3_0 (nI o) (nI i) c q = (-1, q) ∧ S3_0 (nI o) (nI i) c q) ∧ F135_0 (nI o) (nI i) c q = (-1, q) ∧ S135_0 (nI o) (nI i) c q := by
  have e1 : ¬ (60 : Int32) ≤ nI n := nI_ge hn (by decide)
  have e2 : ¬ nI n = (60 : Int32) := fun z => by have := nI_inj (b := 60) (by omega) (by decide) z; omega
  have e3 : ¬ nI o < 0 := nI_pos (by omega)
  have e4 : ¬ (7 : Int32) < nI o := nI_nlt (b := o) (a := 7) (by omega) (by decide)
  have e5 := F25_yes h1 hi (by omega)
  have e6 := F134_yes h2 hi (by omega)
  have e7 := F25_no h1 h
  have e8 := F134_no h2 h
  have e9 := F29_lo (q := q) ho
  obtain ⟨e10, e11⟩ := op_lo ho
  refine ⟨⟨?_, ?_⟩, ?_, ?_⟩
  · unfold F3_0 F28_0; rw [h1]; simp [e1, e3, e4, e5, e7, e9]
  · unfold S3_0 S28_0; rw [h1]; simp [e1, e3, e4, e5, e7, e9, S25_ok, S29_ok]
  · unfold F135_0 F135_12 F135_17; rw [h2]; simp [e2, e3, e4, e6, e8, e10, e11]
  · unfold S135_0 S135_12 S135_17; rw [h2]; simp [e2, e3, e4, e6, e8, e10, e11, S134_ok]
theorem nI_le15 {w : Nat} (h : w ≤ 15) : nI w ≤ (15 : Int32) := nI_le (b := 15) h (by decide)
theorem nI_nle15 {w : Nat} (h : 15 < w) (hw : w < 1000) : ¬ nI w ≤ (15 : Int32) := nI_ge (a := 15) (b := w) h (by omega)
/-- two parts -/
theorem ap_2 {q : aQ} {n o i j wi wj : Nat} (h1 : q.1 1 6 = nI n) (h2 : q.1 650 0 = nI n) (hn : n < 60) (ho : o ≤ 5) (hi : i < n) (hj : j < n) (w1 : q.1 7 i = nI wi) (w2 : q.1 7 j = nI wj) (m1 : q.1 654 i = nI wi) (m2 : q.1 654 j = nI wj) (b1 : wi ≤ 15) (b2 : wj ≤ 15) :
    (1 + wi + wj ≤ 15 → (F3_0 (nI o) (nI i) (nI j) q = (nI n, applyC q n o i (1 + wi + wj) (nI j)) ∧ S3_0 (nI o) (nI i) (nI j) q)) ∧ (15 < 1 + wi + wj → (F3_0 (nI o) (nI i) (nI j) q = (-1, q) ∧ S3_0 (nI o) (nI i) (nI j) q)) := by
  have e1 : ¬ (60 : Int32) ≤ nI n := nI_ge hn (by decide)
  have e3 : ¬ nI o < 0 := nI_pos (by omega)
  have e4 : ¬ (7 : Int32) < nI o := nI_nlt (b := o) (a := 7) (by omega) (by decide)
  have e5 := F25_yes h1 hi (by omega)
  have e7 := F25_yes h1 hj (by omega)
  have e9 := F29_lo (q := q) ho
  have ci : (nI i).toNatClampNeg = i := nI_clamp (by omega)
  have cj : (nI j).toNatClampNeg = j := nI_clamp (by omega)
  have cn : (nI n).toNatClampNeg = n := nI_clamp (by omega)
  have vi : vp_in (nI i) 60 := vp_in_nI (by omega) (by decide)
  have vj : vp_in (nI j) 60 := vp_in_nI (by omega) (by decide)
  have vn : vp_in (nI n) 60 := vp_in_nI (by omega) (by decide)
  have hs : (1 : Int32) + nI wi + nI wj = nI (1 + wi + wj) := by rw [show (1 : Int32) = nI 1 from rfl, nI_add, nI_add]
  refine ⟨fun hw => ⟨?_, ?_⟩, fun hw => ⟨?_, ?_⟩⟩
  · unfold F3_0 F28_0 F28_50 F28_73 F28_123
    simp only [h1, if_neg e1, if_neg e3, if_neg e4, e5, e7, e9, ci, cj, cn, w1, w2, hs, if_pos (nI_le15 hw), if_true, show ¬ (1 : Int32) = 0 from by decide, if_false]
    simp only [w_ne (show 1 ≠ 5 by decide), w_ne (show 1 ≠ 2 by decide), h1, cn, nI_1]
    rfl
  · unfold S3_0 S28_0 S28_50 S28_73 S28_123
    simp only [h1, e5, e7, e9, ci, cj, cn, w1, w2, hs]
    simp [e1, e3, e4, S25_ok, S29_ok, vi, vj, vn, w_get, h1]
  · unfold F3_0 F28_0 F28_50 F28_73
    simp only [h1, if_neg e1, if_neg e3, if_neg e4, e5, e7, e9, ci, cj, cn, w1, w2, hs, if_neg (nI_nle15 hw (by omega)), if_true, show ¬ (1 : Int32) = 0 from by decide, if_false]
  · unfold S3_0 S28_0 S28_50 S28_73 S28_123
    simp only [h1, e5, e7, e9, ci, cj, cn, w1, w2, hs]
    simp [e1, e3, e4, S25_ok, S29_ok, vi, vj, vn, w_get, h1]
theorem ap_2m {q : aQ} {n o i j wi wj : Nat} (h2 : q.1 650 0 = nI n) (hn : n < 60) (ho : o ≤ 5) (hi : i < n) (hj : j < n) (m1 : q.1 654 i = nI wi) (m2 : q.1 654 j = nI wj) (b1 : wi ≤ 15) (b2 : wj ≤ 15) :
    (1 + wi + wj ≤ 15 → (F135_0 (nI o) (nI i) (nI j) q = (nI n, applyM q n o i (1 + wi + wj) (nI j)) ∧ S135_0 (nI o) (nI i) (nI j) q)) ∧ (15 < 1 + wi + wj → (F135_0 (nI o) (nI i) (nI j) q = (-1, q) ∧ S135_0 (nI o) (nI i) (nI j) q)) := by
  have e2 : ¬ nI n = (60 : Int32) := fun z => by have := nI_inj (b := 60) (by omega) (by decide) z; omega
  have e3 : ¬ nI o < 0 := nI_pos (by omega)
  have e4 : ¬ (7 : Int32) < nI o := nI_nlt (b := o) (a := 7) (by omega) (by decide)
  have e6 := F134_yes h2 hi (by omega)
  have e8 := F134_yes h2 hj (by omega)
  obtain ⟨e10, e11⟩ := op_lo ho
  have ci : (nI i).toNatClampNeg = i := nI_clamp (by omega)
  have cj : (nI j).toNatClampNeg = j := nI_clamp (by omega)
  have cn : (nI n).toNatClampNeg = n := nI_clamp (by omega)
  have vi : vp_in (nI i) 60 := vp_in_nI (by omega) (by decide)
  have vj : vp_in (nI j) 60 := vp_in_nI (by omega) (by decide)
  have vn : vp_in (nI n) 60 := vp_in_nI (by omega) (by decide)
  have hs : (1 : Int32) + nI wi + nI wj = nI (1 + wi + wj) := by rw [show (1 : Int32) = nI 1 from rfl, nI_add, nI_add]
  have ho10 : (10 : Int32) + nI o = nI (10 + o) := nI_add 10 o
  refine ⟨fun hw => ⟨?_, ?_⟩, fun hw => ⟨?_, ?_⟩⟩
  · unfold F135_0 F135_17 F135_61 F135_84
    simp only [h2, if_neg e2, if_neg e3, if_neg e4, if_neg e10, if_neg e11, e6, e8, ci, cj, cn, m1, m2, hs, if_pos (nI_le15 hw), if_true, show ¬ (1 : Int32) = 0 from by decide, if_false, nI_1, show nI (n + 1) - 1 = nI n from nI_pred n, ho10]
    rfl
  · unfold S135_0 S135_17 S135_61 S135_84
    simp only [h2, e6, e8, ci, cj, cn, m1, m2, hs]
    simp [e2, e3, e4, e10, e11, S134_ok, vi, vj, vn]
  · unfold F135_0 F135_17 F135_61 F135_84
    simp only [h2, if_neg e2, if_neg e3, if_neg e4, if_neg e10, if_neg e11, e6, e8, ci, cj, cn, m1, m2, hs, if_neg (nI_nle15 hw (by omega)), if_true, show ¬ (1 : Int32) = 0 from by decide, if_false]
  · unfold S135_0 S135_17 S135_61 S135_84
    simp only [h2, e6, e8, ci, cj, cn, m1, m2, hs]
    simp [e2, e3, e4, e10, e11, S134_ok, vi, vj, vn]
/-- one part -/
theorem ap_1 {q : aQ} {n o i wi : Nat} {c : Int32} (h1 : q.1 1 6 = nI n) (hn : n < 60) (ho : o = 6 ∨ o = 7) (hi : i < n) (w1 : q.1 7 i = nI wi) (b1 : wi ≤ 15) :
    (1 + wi ≤ 15 → (F3_0 (nI o) (nI i) c q = (nI n, applyC q n o i (1 + wi) (nI i)) ∧ S3_0 (nI o) (nI i) c q)) ∧ (15 < 1 + wi → (F3_0 (nI o) (nI i) c q = (-1, q) ∧ S3_0 (nI o) (nI i) c q)) := by
  have e1 : ¬ (60 : Int32) ≤ nI n := nI_ge hn (by decide)
  have e3 : ¬ nI o < 0 := nI_pos (by omega)
  have e4 : ¬ (7 : Int32) < nI o := nI_nlt (b := o) (a := 7) (by omega) (by decide)
  have e5 := F25_yes h1 hi (by omega)
  have e9 := F29_hi (q := q) ho
  have ci : (nI i).toNatClampNeg = i := nI_clamp (by omega)
  have cn : (nI n).toNatClampNeg = n := nI_clamp (by omega)
  have vi : vp_in (nI i) 60 := vp_in_nI (by omega) (by decide)
  have vn : vp_in (nI n) 60 := vp_in_nI (by omega) (by decide)
  have hs : (1 : Int32) + nI wi + 0 = nI (1 + wi) := by rw [show (1 : Int32) = nI 1 from rfl, show (0 : Int32) = nI 0 from rfl, nI_add, nI_add]; rfl
  refine ⟨fun hw => ⟨?_, ?_⟩, fun hw => ⟨?_, ?_⟩⟩
  · unfold F3_0 F28_0 F28_50 F28_73 F28_123
    simp only [h1, if_neg e1, if_neg e3, if_neg e4, e5, e9, ci, cn, w1, hs, if_pos (nI_le15 hw), if_true, show ¬ (1 : Int32) = 0 from by decide, if_false]
    simp only [w_ne (show 1 ≠ 5 by decide), w_ne (show 1 ≠ 2 by decide), h1, cn, nI_1]
    rfl
  · unfold S3_0 S28_0 S28_50 S28_73 S28_123
    simp only [h1, e5, e9, ci, cn, w1, hs]
    simp [e1, e3, e4, S25_ok, S29_ok, vi, vn, w_get, h1]
  · unfold F3_0 F28_0 F28_50 F28_73
    simp only [h1, if_neg e1, if_neg e3, if_neg e4, e5, e9, ci, cn, w1, hs, if_neg (nI_nle15 hw (by omega)), if_true, show ¬ (1 : Int32) = 0 from by decide, if_false]
  · unfold S3_0 S28_0 S28_50 S28_73 S28_123
    simp only [h1, e5, e9, ci, cn, w1, hs]
    simp [e1, e3, e4, S25_ok, S29_ok, vi, vn, w_get, h1]
theorem ap_1m {q : aQ} {n o i wi : Nat} {c : Int32} (h2 : q.1 650 0 = nI n) (hn : n < 60) (ho : o = 6 ∨ o = 7) (hi : i < n) (m1 : q.1 654 i = nI wi) (b1 : wi ≤ 15) :
    (1 + wi ≤ 15 → (F135_0 (nI o) (nI i) c q = (nI n, applyM q n o i (1 + wi) c) ∧ S135_0 (nI o) (nI i) c q)) ∧ (15 < 1 + wi → (F135_0 (nI o) (nI i) c q = (-1, q) ∧ S135_0 (nI o) (nI i) c q)) := by
  have e2 : ¬ nI n = (60 : Int32) := fun z => by have := nI_inj (b := 60) (by omega) (by decide) z; omega
  have e3 : ¬ nI o < 0 := nI_pos (by omega)
  have e4 : ¬ (7 : Int32) < nI o := nI_nlt (b := o) (a := 7) (by omega) (by decide)
  have e6 := F134_yes h2 hi (by omega)
  have hd : nI o = (6 : Int32) ∨ nI o = (7 : Int32) := by rcases ho with rfl | rfl; exact Or.inl rfl; exact Or.inr rfl
  have ci : (nI i).toNatClampNeg = i := nI_clamp (by omega)
  have cn : (nI n).toNatClampNeg = n := nI_clamp (by omega)
  have vi : vp_in (nI i) 60 := vp_in_nI (by omega) (by decide)
  have vn : vp_in (nI n) 60 := vp_in_nI (by omega) (by decide)
  have hs : (1 : Int32) + nI wi + 0 = nI (1 + wi) := by rw [show (1 : Int32) = nI 1 from rfl, show (0 : Int32) = nI 0 from rfl, nI_add, nI_add]; rfl
  have ho10 : (10 : Int32) + nI o = nI (10 + o) := nI_add 10 o
  have hF : F135_0 (nI o) (nI i) c q = F135_17 (nI o) (nI i) c 1 q := by
    unfold F135_0 F135_12
    rcases hd with h | h
    · rw [if_pos h]
    · by_cases h6 : nI o = (6 : Int32)
      · rw [if_pos h6]
      · rw [if_neg h6, if_pos h]
  have hS : S135_17 (nI o) (nI i) c 1 q → S135_0 (nI o) (nI i) c q := by
    intro h
    unfold S135_0 S135_12
    exact ⟨fun _ => h, fun h6 => ⟨fun _ => h, fun h7 => absurd hd (by simp [h6, h7])⟩⟩
  rw [hF]
  refine ⟨fun hw => ⟨?_, hS ?_⟩, fun hw => ⟨?_, hS ?_⟩⟩
  · unfold F135_17 F135_61 F135_84
    simp only [h2, if_neg e2, if_neg e3, if_neg e4, e6, ci, cn, m1, hs, if_pos (nI_le15 hw), if_true, show ¬ (1 : Int32) = 0 from by decide, if_false, nI_1, show nI (n + 1) - 1 = nI n from nI_pred n, ho10]
    rfl
  · unfold S135_17 S135_61 S135_84
    simp only [h2, e6, ci, cn, m1, hs]
    simp [e2, e3, e4, S134_ok, vi, vn]
  · unfold F135_17 F135_61 F135_84
    simp only [h2, if_neg e2, if_neg e3, if_neg e4, e6, ci, cn, m1, hs, if_neg (nI_nle15 hw (by omega)), if_true, show ¬ (1 : Int32) = 0 from by decide, if_false]
  · unfold S135_17 S135_61 S135_84
    simp only [h2, e6, ci, cn, m1, hs]
    simp [e2, e3, e4, S134_ok, vi, vn]
theorem apply_fr {q : aQ} {n o i w : Nat} {r b : Int32} : frE n q (applyM (applyC q n o i w r) n o i w b) := by
  refine ⟨rfl, fun c j h1 h2 h3 => ?_, fun c j h1 h2 h3 => ?_⟩
  · unfold applyM applyC
    rw [w_get, if_neg h3, w_ne (by omega), w_ne (by omega), w_ne (by omega), w_ne (by omega), w_ne (by omega), w_ne (by omega), w_ne (by omega), w_ne (by omega), w_ne (by omega)]
  · unfold applyM applyC
    rw [w_ne h3]
    have hj : j ≠ n := by omega
    rw [w_get, if_neg (fun z => hj z.2), w_get, if_neg (fun z => hj z.2), w_get, if_neg (fun z => hj z.2), w_get, if_neg (fun z => hj z.2), w_ne h2, w_get, if_neg (fun z => hj z.2), w_get, if_neg (fun z => hj z.2), w_get, if_neg (fun z => hj z.2), w_get, if_neg (fun z => hj z.2)]
theorem apply_iE {q : aQ} {n o i j w wi wj : Nat} {r b : Int32} (hE : iE q n) (hn : n < 60) (ho : o ≤ 7) (hi : i < n) (hw : w ≤ 15) (w1 : q.1 7 i = nI wi) (h1 : 1 ≤ wi) (h5 : o ≤ 5 → j < n ∧ r = nI j ∧ b = nI j ∧ q.1 7 j = nI wj ∧ 1 ≤ wj ∧ w = 1 + wi + wj) (h6 : 6 ≤ o → r = nI i ∧ w = 1 + wi) : iE (applyM (applyC q n o i w r) n o i w b) (n + 1) := by
  refine ⟨by omega, ?_, ?_, fun k hk => ?_⟩
  · simp [applyM, applyC, w_get]
  · simp [applyM, applyC, w_get]
  · by_cases e : k = n
    · subst e
      have key : ∀ c x, x < k → ¬ c = 1 → ¬ c = 650 → (applyM (applyC q k o i w r) k o i w b).1 c x = q.1 c x := apply_fr.2.2
      refine Or.inr ⟨o, i, j, w, ⟨ho, hi, ?_, ?_, ?_, ?_, fun h => ?_, fun h => ?_, hw, ?_, ?_⟩, wi, wj, ?_, h1, fun h => ?_, fun h => (h6 h).2⟩
      · simp [applyM, applyC, w_get]
      · simp [applyM, applyC, w_get]
      · simp [applyM, applyC, w_get]
      · simp [applyM, applyC, w_get]
      · obtain ⟨g1, g2, g3, -⟩ := h5 h
        refine ⟨g1, ?_, ?_⟩
        · simp [applyM, applyC, w_get, g2]
        · simp [applyM, applyC, w_get, g3]
      · simp [applyM, applyC, w_get, (h6 h).1]
      · simp [applyM, applyC, w_get]
      · simp [applyM, applyC, w_get]
      · rw [key 7 i hi (by decide) (by decide)]; exact w1
      · obtain ⟨g1, g2, g3, g4, g5, g6⟩ := h5 h
        rw [key 7 j g1 (by decide) (by decide)]
        exact ⟨g4, g5, g6⟩
    · exact nodeOk_keep (n := n) (hE.2.2.2 k (by omega)) (by omega) apply_fr.2.2
theorem refused {l : Launch} {X : aX} {q : aQ} {a b c : Int32} (h : (F3_0 a b c q = (-1, q) ∧ S3_0 a b c q) ∧ F135_0 a b c q = (-1, q) ∧ S135_0 a b c q) : a_pair l X 3 135 [.int a, .int b, .int c] q q := by
  refine ⟨-1, q, ?_, ?_⟩
  · have := T3 (l := l) (X := X) (d := 60) (by decide) h.1.2
    rw [h.1.1] at this
    exact this
  · have := T135 (l := l) (X := X) (d := 60) (by decide) h.2.2
    rw [h.2.1] at this
    exact this
theorem apply_step {l : Launch} {X : aX} {q : aQ} {n : Nat} (hE : iE q n) (a b c : Int32) : ∃ q', a_pair l X 3 135 [.int a, .int b, .int c] q q' ∧ frE n q q' ∧ ∃ n', n ≤ n' ∧ iE q' n' := by
  have no : (F3_0 a b c q = (-1, q) ∧ S3_0 a b c q) ∧ F135_0 a b c q = (-1, q) ∧ S135_0 a b c q → ∃ q', a_pair l X 3 135 [.int a, .int b, .int c] q q' ∧ frE n q q' ∧ ∃ n', n ≤ n' ∧ iE q' n' := fun h => ⟨q, refused h, frE.rf, n, Nat.le_refl _, hE⟩
  by_cases hn6 : n = 60
  · subst hn6
    exact no (ap_60 hE.2.1 hE.2.2.1)
  have hn : n < 60 := by have := hE.1; omega
  by_cases ha : a < 0 ∨ 7 < a
  · exact no (ap_op hE.2.1 hE.2.2.1 hn ha)
  obtain ⟨o, ho, rfl⟩ := nI_below (x := a) (n := 8) (fun z => ha (Or.inl z)) (fun z => ha (Or.inr (i_8_7.mp z))) (by decide)
  rcases ex_or b hE.1 with hb | ⟨i, hi, rfl⟩
  · exact no (ap_a hE.2.1 hE.2.2.1 hn (by omega) hb)
  obtain ⟨wi, wi1, wi2, wi3, wi4⟩ := iE_w hE hi
  by_cases h5 : o ≤ 5
  · rcases ex_or c hE.1 with hc | ⟨j, hj, rfl⟩
    · exact no (ap_b hE.2.1 hE.2.2.1 hn h5 hi hc)
    obtain ⟨wj, wj1, wj2, wj3, wj4⟩ := iE_w hE hj
    have A := ap_2 hE.2.1 hE.2.2.1 hn h5 hi hj wi3 wj3 wi4 wj4 wi2 wj2
    by_cases hw : 1 + wi + wj ≤ 15
    · obtain ⟨f1, s1⟩ := A.1 hw
      have hm : (applyC q n o i (1 + wi + wj) (nI j)).1 650 0 = nI n := by rw [← hE.2.2.1]; simp [applyC, w_get]
      have m1 : (applyC q n o i (1 + wi + wj) (nI j)).1 654 i = nI wi := by rw [← wi4]; simp [applyC, w_get]
      have m2 : (applyC q n o i (1 + wi + wj) (nI j)).1 654 j = nI wj := by rw [← wj4]; simp [applyC, w_get]
      obtain ⟨f2, s2⟩ := (ap_2m hm hn h5 hi hj m1 m2 wi2 wj2).1 hw
      refine ⟨applyM (applyC q n o i (1 + wi + wj) (nI j)) n o i (1 + wi + wj) (nI j), ⟨nI n, applyC q n o i (1 + wi + wj) (nI j), ?_, ?_⟩, apply_fr, n + 1, by omega, apply_iE hE hn (by omega) hi hw wi3 wi1 (fun _ => ⟨hj, rfl, rfl, wj3, wj1, rfl⟩) (fun h => by omega)⟩
      · have := T3 (l := l) (X := X) (d := 60) (by decide) s1
        rw [f1] at this
        exact this
      · have := T135 (l := l) (X := X) (d := 60) (by decide) s2
        rw [f2] at this
        exact this
    · exact no ⟨A.2 (by omega), (ap_2m hE.2.2.1 hn h5 hi hj wi4 wj4 wi2 wj2).2 (by omega)⟩
  · have h67 : o = 6 ∨ o = 7 := by omega
    have A := ap_1 (c := c) hE.2.1 hn h67 hi wi3 wi2
    by_cases hw : 1 + wi ≤ 15
    · obtain ⟨f1, s1⟩ := A.1 hw
      have hm : (applyC q n o i (1 + wi) (nI i)).1 650 0 = nI n := by rw [← hE.2.2.1]; simp [applyC, w_get]
      have m1 : (applyC q n o i (1 + wi) (nI i)).1 654 i = nI wi := by rw [← wi4]; simp [applyC, w_get]
      obtain ⟨f2, s2⟩ := (ap_1m (c := c) hm hn h67 hi m1 wi2).1 hw
      refine ⟨applyM (applyC q n o i (1 + wi) (nI i)) n o i (1 + wi) c, ⟨nI n, applyC q n o i (1 + wi) (nI i), ?_, ?_⟩, apply_fr, n + 1, by omega, apply_iE (j := 0) (wj := 0) hE hn (by omega) hi hw wi3 wi1 (fun h => by omega) (fun _ => ⟨rfl, rfl⟩)⟩
      · have := T3 (l := l) (X := X) (d := 60) (by decide) s1
        rw [f1] at this
        exact this
      · have := T135 (l := l) (X := X) (d := 60) (by decide) s2
        rw [f2] at this
        exact this
    · exact no ⟨A.2 (by omega), (ap_1m (c := c) hE.2.2.1 hn h67 hi wi4 wi2).2 (by omega)⟩
