section
variable {q : aQ} {nE n m : Nat} {o p : Nat → Nat} {k det det' e : Int32}
theorem opn_class (h : iP q nE n m o p) (hn : n < 24) (hm : m < 5) (k det e : Int32) : F37_0 k det e q = (nI n, opnC (addC q n m o p k det e) n m) ∧ S37_0 k det e q := by
  have C := add_class h hn k det e
  obtain ⟨h24, h5, c1, c2, c3, c4, -⟩ := h
  have e1 : (addC q n m o p k det e).1 8 11 = nI m := (addC_rows (s := 0)).2.2.2.2.2.2.2.2.2.trans c3
  have hm5 : nI m < (5 : Int32) := nI_lt (b := 5) hm (by decide)
  have hn1 := nI_nm1 (t := n) (by omega)
  have cm : (nI m).toNatClampNeg = m := nI_clamp (by omega)
  have cm1 : (nI (m + 1)).toNatClampNeg = m + 1 := nI_clamp (by omega)
  have v1 : vp_in (nI m) 5 := vp_in_nI hm (by decide)
  have v2 : vp_in (nI (m + 1)) 6 := vp_in_nI (by omega) (by decide)
  unfold F37_0 S37_0 F37_17 S37_17
  rw [C.1, c3, if_pos hm5]
  dsimp only
  rw [if_neg hn1, e1, cm, nI_1, cm1]
  exact ⟨rfl, fun _ => ⟨C.2, fun z => absurd z hn1, fun _ => ⟨v1, v1, v2, trivial⟩⟩, fun z => absurd hm5 z⟩
theorem add_full (h : iP q nE n m o p) (hn : n = 24) (k det e : Int32) : F35_0 k det e q = (-1, q) ∧ S35_0 k det e q := by
  obtain ⟨h24, h5, c1, -⟩ := h
  unfold F35_0 S35_0
  rw [c1, hn]
  have : ¬ nI 24 < (24 : Int32) := by decide
  rw [if_neg this]
  exact ⟨rfl, fun z => absurd z this, fun _ => trivial⟩
theorem opn_full (h : iP q nE n m o p) (hm : m = 5 ∨ n = 24) (k det e : Int32) : F37_0 k det e q = (-1, q) ∧ S37_0 k det e q := by
  have hh := h
  obtain ⟨h24, h5, c1, c2, c3, c4, -⟩ := h
  unfold F37_0 S37_0 F37_17 S37_17
  rw [c3]
  by_cases hm5 : m = 5
  · subst hm5
    have e : ¬ nI 5 < (5 : Int32) := by decide
    rw [if_neg e]
    exact ⟨rfl, fun z => absurd z e, fun _ => trivial⟩
  · have hn := hm.resolve_left hm5
    have e5 : nI m < (5 : Int32) := nI_lt (b := 5) (by omega) (by decide)
    have F := add_full hh hn k det e
    rw [if_pos e5, F.1]
    dsimp only
    rw [if_pos rfl]
    exact ⟨rfl, fun _ => ⟨F.2, fun _ => trivial, fun z => absurd rfl z⟩, fun z => absurd e5 z⟩
theorem both_open (h : iP q nE n m o p) (hn : n < 24) (hm : m < 5) {kN : Nat} (hk4 : 4 ≤ kN) (hk6 : kN ≤ 6) (hN : newS q nE n m o kN det det' e) : ∃ q1 q2, (F37_0 (nI kN) det e q = (nI n, q1) ∧ S37_0 (nI kN) det e q) ∧ (F136_0 (nI kN) det' e q1 = (nI n, q2) ∧ S136_0 (nI kN) det' e q1) ∧ frP q q1 ∧ frP q1 q2 ∧ (∀ c s, 18 < c → q1.1 c s = q.1 c s) ∧ iP q2 nE (n + 1) (m + 1) (fun l => if l = m then n else o l) (fun l => if l = m then 0 else p l) := by
  have C := opn_class h hn hm (nI kN) det e
  have hh := h
  have hcur := h.cur
  have hcB : curB m o p < 49 := by
    by_cases hm : m = 0
    · unfold curB; rw [if_pos hm]; decide
    · have := (hcur hm).1; omega
  obtain ⟨h24, h5, c1, c2, c3, c4, hS, hO, t0, hl, hb, z0, z1⟩ := h
  have hi : ∀ c s, 18 < c → (opnC (addC q n m o p (nI kN) det e) n m).1 c s = q.1 c s := fun c s hc => by
    unfold opnC
    rw [w_ne (by omega), w_ne (by omega), w_ne (by omega), w_ne (by omega)]
    exact addC_hi hc
  have Mo := add_model (q := opnC (addC q n m o p (nI kN) det e) n m) (n := n) (m := m) (B := curB m o p) (o := o) (p := p) (k := nI kN) (det := det') (e := e) (op := true) hn h5 (by rw [hi 650 5 (by decide)]; exact c2) (by rw [hi 650 14 (by decide)]; exact c4) rfl hcB (by rw [hi 662 _ (by decide)]; exact hl _ hcB) (fun hm => by
      have ho := hO (m - 1) (by omega)
      rw [hi 663 _ (by decide), (hcur hm).2]
      exact ⟨ho.2.2.2.2.1, ho.2.1, ho.1⟩) ⟨fun _ => nI_nlt (a := kN) (b := 4) hk4 (by omega), fun _ => rfl⟩
  have rows : ∀ c s, (9 ≤ c ∧ c ≤ 15) ∨ 650 < c ∨ (c = 8 ∧ s = 7) → (opnC (addC q n m o p (nI kN) det e) n m).1 c s = (addC q n m o p (nI kN) det e).1 c s := by
    intro c s hc
    unfold opnC
    rw [w_ne (by omega), w_get, if_neg (by omega), w_ne (by omega), w_ne (by omega)]
  have A := addedR_of (k := nI kN) (det := det) (det' := det') (e := e) hh (Q := opnC (addC q n m o p (nI kN) det e) n m) rows
  have R := fun s => addC_rows (q := q) (n := n) (m := m) (o := o) (p := p) (k := nI kN) (det := det) (e := e) (s := s)
  have A' : addedR q (opnM (addM1 (opnC (addC q n m o p (nI kN) det e) n m) n m (curB m o p) o (nI kN) det' e) n m) n m o p (nI kN) det det' e := by
    have keep : ∀ Q : aQ, ∀ c s, ¬ c = 663 → ¬ (c = 650 ∧ s = 14) → (opnM Q n m).1 c s = Q.1 c s := by
      intro Q c s h1 h2
      unfold opnM
      rw [w_get, if_neg h2, w_ne h1]
    obtain ⟨A1, A2, A3⟩ := A
    refine ⟨fun s => ?_, ?_, ?_⟩
    · rw [keep _ 9 s (by decide) (by omega), keep _ 10 s (by decide) (by omega), keep _ 11 s (by decide) (by omega), keep _ 12 s (by decide) (by omega), keep _ 13 s (by decide) (by omega), keep _ 14 s (by decide) (by omega), keep _ 15 s (by decide) (by omega), keep _ 655 s (by decide) (by omega), keep _ 656 s (by decide) (by omega), keep _ 657 s (by decide) (by omega), keep _ 658 s (by decide) (by omega), keep _ 659 s (by decide) (by omega), keep _ 660 s (by decide) (by omega), keep _ 661 s (by decide) (by omega), keep _ 662 s (by decide) (by omega)]
      exact A1 s
    · rw [keep _ 8 7 (by decide) (by omega)]; exact A2
    · rw [keep _ 650 5 (by decide) (by omega)]; exact A3
  refine ⟨opnC (addC q n m o p (nI kN) det e) n m, opnM (addM1 (opnC (addC q n m o p (nI kN) det e) n m) n m (curB m o p) o (nI kN) det' e) n m, C, Mo, addC_fr.tr opnC_fr, addM1_fr.tr opnM_fr, hi, opened_iP hh hn hm rfl hk4 hN A' (fun s => ?_) (fun s => ?_) (fun s => ?_) (fun s => ?_) ?_ ?_⟩
  · unfold opnM
    rw [w_ne (by decide), w_ne (by decide), addM1_lo (by decide)]
    unfold opnC
    rw [w_ne (by decide), w_ne (by decide), w_ne (by decide), w_at, (R s).2.2.2.2.2.1]
  · unfold opnM
    rw [w_ne (by decide), w_ne (by decide), addM1_lo (by decide)]
    unfold opnC
    rw [w_ne (by decide), w_ne (by decide), w_at, w_ne (by decide), (R s).2.2.2.2.2.2.1]
  · unfold opnM
    rw [w_ne (by decide), w_at, (addM1_rows).2.2.2.2.2.2.1, hi 663 s (by decide)]
  · unfold opnM
    rw [w_ne (by decide), w_ne (by decide), addM1_lo (by decide)]
    unfold opnC
    rw [w_at, w_ne (by decide), w_ne (by decide), w_ne (by decide), (R s).2.2.2.2.2.2.2.1]
  · unfold opnM
    rw [w_ne (by decide), w_ne (by decide), addM1_lo (by decide)]
    unfold opnC
    rw [w_ne (by decide), w_eq]
  · unfold opnM
    rw [w_eq]
end
