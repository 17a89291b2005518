/-! the model passes through a statement: all kinds -/
section
variable {q Q : aQ} {nE n m e : Nat} {o p : Nat → Nat} {σ σ0 : Nat → Nat → Pc} {A A0 R R0 : Nat → Bool} {c c0 : Bool} {x y : Nat → Pc}
/-- what comes of passing through s -/
def thru (q : aQ) (s : Nat) (σ : Nat → Nat → Pc) (A : Nat → Bool) (c : Bool) (Q' : aQ) : Prop := ∃ σ' A' R' c', memM q Q' σ' A' R' c' ∧ reM q s σ A c σ' A' R' c' ∧ don q s (σ s) σ' A'
theorem thru_plain (hE : iE q nE) (h : iP q nE n m o p) {s : Nat} (hs : s < n) (hM : memM q Q σ A R c) (hg : ∀ p, p < 25 → R p = true → full (σ p)) (hr : R s = true) (hh : hereAt Q (σ s)) (hk : ¬ (q.1 9 s = 0 ∨ q.1 9 s = 4 ∨ q.1 9 s = 5)) : S174_5 (nI s) Q ∧ thru q s σ A c (F174_5 (nI s) Q) := by
  have h24 := h.1
  have cs : (nI s).toNatClampNeg = s := nI_clamp (by omega)
  have vs : vp_in (nI s) 24 := nI_in24 hs h24
  have x655 : Q.1 655 s = q.1 9 s := by rw [hM.2.2.2.2.2.2.1 655 s (by omega)]; exact (h.2.2.2.2.2.2.1 s hs).1
  have hf := hg s (by omega) hr
  obtain ⟨-, kd1, kd23⟩ := kd_d h hs
  have n0 : ¬ q.1 9 s = 0 := fun z => hk (Or.inl z)
  have n4 : ¬ q.1 9 s = 4 := fun z => hk (Or.inr (Or.inl z))
  have n5 : ¬ q.1 9 s = 5 := fun z => hk (Or.inr (Or.inr z))
  have only : ∀ t', ¬ q.1 9 s = 1 → (∀ t y, fw q s (σ s) t y → t = t' ∧ y = σ s) → ∀ σ' A', leS (σ s) (σ' t') → don q s (σ s) σ' A' := by
    intro t' n1 hfw σ' A' hl
    refine ⟨fun t y f => ?_, fun k f => absurd f.2.2.1 (er_no n1 hk)⟩
    obtain ⟨e1, e2⟩ := hfw t y f
    rw [e1, e2]
    exact hl
  unfold F174_5 S174_5 F174_182 F174_198 F174_210 F174_223
  rw [cs, x655]
  rcases kd_c h hs with z | z | z | z | z | z | z
  · exact absurd z n0
  · obtain ⟨a1, a2, a3, a4⟩ := kd1 z
    have x656 : Q.1 656 s = nI (vr q s) := by rw [hM.2.2.2.2.2.2.1 656 s (by omega)]; exact a4
    obtain ⟨f1, σ', A', R', c', f2, f3, f4, f5, f6, f7, f8, f9⟩ := F173_eq (mk := 1 <<< (nI (vr q s) &&& 31)) hE h hs hM.ok rfl hf (fun k b1 b2 => by
      rw [bit_r a1 a2 b1 b2]
      unfold er
      rw [a3]
      constructor
      · rintro w (⟨-, e⟩ | ⟨e, -⟩)
        · exact w e
        · exact hk e
      · intro w e
        exact w (Or.inl ⟨z, e⟩)) hM hh (reM.rf (q := q) (s := s) hg)
    rw [if_neg n0, if_pos z, x656]
    refine ⟨⟨vs, fun y => absurd y n0, fun _ => ⟨fun _ => ⟨vs, f1, trivial⟩, fun y => absurd z y⟩⟩, σ', A', R', c', f2, f4, fun t y f => ?_, fun k f => (f8 k f.1 f.2.1 f.2.2.1).2 f.2.2.2⟩
    have nb : ∀ b : Int32, b ≠ 1 → ¬ q.1 9 s = b := fun b hb w => hb (w.symm.trans z)
    rcases f with ⟨k, d, b1, b2, b3, b4, b5, b6⟩ | ⟨b1, -⟩ | ⟨b1, -⟩ | ⟨b1, -⟩ | ⟨b1, -⟩ | ⟨b1, -⟩ | ⟨b1, -⟩
    · rw [b5, b6]; exact (f8 k b1 b2 b3).1 d b4
    · exact absurd b1 n0
    · exact absurd b1 (nb 2 (by decide))
    · exact absurd b1 (nb 3 (by decide))
    · exact absurd b1 (nb 6 (by decide))
    · exact absurd (Or.inr b1) hk
    · exact absurd (Or.inr b1) hk
  · obtain ⟨a1, a3⟩ := kd23 (Or.inl z)
    have n1 : ¬ q.1 9 s = 1 := fun w => absurd (z.symm.trans w) (by decide)
    obtain ⟨L, l1, l2, l3, l4⟩ := F148_eq (hM.iP h) hs (Or.inl (by rw [hM.2.2.2.2.2.2.1 9 s (by omega)]; exact z))
    have eL : L = vr q s := by
      rw [hM.2.2.2.2.2.2.1 10 s (by omega)] at l2
      exact nI_inj (by omega) (by omega) (l2.symm.trans a3)
    subst eL
    obtain ⟨c1, c2⟩ := F146_eq (hM.iP h) (s := vr q s) (by omega)
    rw [hM.bh] at c1
    have tl := bh_lt h (s := vr q s) (by omega)
    obtain ⟨f1, σ', R', c', f2, f3, f4⟩ := M_plain (t := bh q (vr q s)) h hs (by omega) hM rfl hf hg hh (fun x => Or.inr (Or.inr (Or.inl ⟨z, rfl, rfl⟩)))
    rw [if_neg n0, if_neg n1, if_pos z, l3, c1]
    refine ⟨⟨vs, fun y => absurd y n0, fun _ => ⟨fun y => absurd y n1, fun _ => ⟨fun _ => ⟨l4, c2, f1, trivial⟩, fun y => absurd z y⟩⟩⟩, σ', A, R', c', f2, f3, only _ n1 (fun t y f => ?_) σ' A f4⟩
    have nb : ∀ b : Int32, b ≠ 2 → ¬ q.1 9 s = b := fun b hb w => hb (w.symm.trans z)
    rcases f with ⟨k, d, b1, b2, b3, -⟩ | ⟨b1, -⟩ | ⟨b1, b2, b3⟩ | ⟨b1, -⟩ | ⟨b1, -⟩ | ⟨b1, -⟩ | ⟨b1, -⟩
    · exact absurd b3 (er_no n1 hk)
    · exact absurd b1 n0
    · exact ⟨b2, b3⟩
    · exact absurd b1 (nb 3 (by decide))
    · exact absurd b1 (nb 6 (by decide))
    · exact absurd (Or.inr b1) hk
    · exact absurd (Or.inr b1) hk
  · obtain ⟨a1, a3⟩ := kd23 (Or.inr z)
    have n1 : ¬ q.1 9 s = 1 := fun w => absurd (z.symm.trans w) (by decide)
    have n2 : ¬ q.1 9 s = 2 := fun w => absurd (z.symm.trans w) (by decide)
    obtain ⟨L, l1, l2, l3, l4⟩ := F148_eq (hM.iP h) hs (Or.inr (by rw [hM.2.2.2.2.2.2.1 9 s (by omega)]; exact z))
    have eL : L = vr q s := by
      rw [hM.2.2.2.2.2.2.1 10 s (by omega)] at l2
      exact nI_inj (by omega) (by omega) (l2.symm.trans a3)
    subst eL
    obtain ⟨f1, σ', R', c', f2, f3, f4⟩ := M_plain (t := vr q s) h hs (by omega) hM rfl hf hg hh (fun x => Or.inr (Or.inr (Or.inr (Or.inl ⟨z, rfl, rfl⟩))))
    rw [if_neg n0, if_neg n1, if_neg n2, if_pos z, l3]
    refine ⟨⟨vs, fun y => absurd y n0, fun _ => ⟨fun y => absurd y n1, fun _ => ⟨fun y => absurd y n2, fun _ => ⟨fun _ => ⟨l4, f1, trivial⟩, fun y => absurd z y⟩⟩⟩⟩, σ', A, R', c', f2, f3, only _ n1 (fun t y f => ?_) σ' A f4⟩
    have nb : ∀ b : Int32, b ≠ 3 → ¬ q.1 9 s = b := fun b hb w => hb (w.symm.trans z)
    rcases f with ⟨k, d, b1, b2, b3, -⟩ | ⟨b1, -⟩ | ⟨b1, -⟩ | ⟨b1, b2, b3⟩ | ⟨b1, -⟩ | ⟨b1, -⟩ | ⟨b1, -⟩
    · exact absurd b3 (er_no n1 hk)
    · exact absurd b1 n0
    · exact absurd b1 (nb 2 (by decide))
    · exact ⟨b2, b3⟩
    · exact absurd b1 (nb 6 (by decide))
    · exact absurd (Or.inr b1) hk
    · exact absurd (Or.inr b1) hk
  · exact absurd z n4
  · exact absurd z n5
  · have n1 : ¬ q.1 9 s = 1 := fun w => absurd (z.symm.trans w) (by decide)
    have n2 : ¬ q.1 9 s = 2 := fun w => absurd (z.symm.trans w) (by decide)
    have n3 : ¬ q.1 9 s = 3 := fun w => absurd (z.symm.trans w) (by decide)
    obtain ⟨c1, c2⟩ := F147_eq (hM.iP h) hs (b := 0) (by decide) (fun w => by cases w)
    rw [hM.en] at c1
    have c1 : F147_0 (nI s) 0 Q = nI (en q s 0) := c1
    have tl := en_lt h hs (b := 0) (by decide)
    obtain ⟨f1, σ', R', c', f2, f3, f4⟩ := M_plain (t := en q s 0) h hs (by omega) hM rfl hf hg hh (fun x => Or.inr (Or.inr (Or.inr (Or.inr (Or.inl ⟨z, rfl, rfl⟩)))))
    rw [if_neg n0, if_neg n1, if_neg n2, if_neg n3, if_neg n4, if_neg n5, if_pos z, c1]
    refine ⟨⟨vs, fun y => absurd y n0, fun _ => ⟨fun y => absurd y n1, fun _ => ⟨fun y => absurd y n2, fun _ => ⟨fun y => absurd y n3, fun _ => ⟨fun y => absurd y n4, fun _ => ⟨fun y => absurd y n5, fun _ => ⟨fun _ => ⟨c2, f1, trivial⟩, fun y => absurd z y⟩⟩⟩⟩⟩⟩⟩, σ', A, R', c', f2, f3, only _ n1 (fun t y f => ?_) σ' A f4⟩
    have nb : ∀ b : Int32, b ≠ 6 → ¬ q.1 9 s = b := fun b hb w => hb (w.symm.trans z)
    rcases f with ⟨k, d, b1, b2, b3, -⟩ | ⟨b1, -⟩ | ⟨b1, -⟩ | ⟨b1, -⟩ | ⟨b1, b2, b3⟩ | ⟨b1, -⟩ | ⟨b1, -⟩
    · exact absurd b3 (er_no n1 hk)
    · exact absurd b1 n0
    · exact absurd b1 (nb 2 (by decide))
    · exact absurd b1 (nb 3 (by decide))
    · exact ⟨b2, b3⟩
    · exact absurd (Or.inr b1) hk
    · exact absurd (Or.inr b1) hk
/-- what all statements with an expression do first: picture it, and raise -/
theorem thru_first (hE : iE q nE) (h : iP q nE n m o p) {s : Nat} (hs : s < n) (hM : memM q Q σ A R c) (hg : ∀ p, p < 25 → R p = true → full (σ p)) (hr : R s = true) (hh : hereAt Q (σ s)) (hk : q.1 9 s = 0 ∨ q.1 9 s = 4 ∨ q.1 9 s = 5) : S166_0 (nI (xe q s)) Q ∧ (F166_0 (nI (xe q s)) Q).1 673 (xe q s) = erM (PE q (σ s) (xe q s)).2 ∧ S173_0 (nI s) (erM (PE q (σ s) (xe q s)).2) (F166_0 (nI (xe q s)) Q) ∧ (F166_0 (nI (xe q s)) Q).1 657 s = nI (xe q s) ∧ ∃ σ' A' R' c', memM q (F173_0 (nI s) (erM (PE q (σ s) (xe q s)).2) (F166_0 (nI (xe q s)) Q)) σ' A' R' c' ∧ hereAt (F173_0 (nI s) (erM (PE q (σ s) (xe q s)).2) (F166_0 (nI (xe q s)) Q)) (σ s) ∧ reM q s σ A c σ' A' R' c' ∧ errD q s (σ s) σ' A' ∧ R' s = true ∧ mpE (F173_0 (nI s) (erM (PE q (σ s) (xe q s)).2) (F166_0 (nI (xe q s)) Q)) (xe q s) (PE q (σ s) (xe q s)) ∧ (¬ q.1 2 (xe q s) = -1 → opn q (xe q s) ≤ 5 → mpE (F173_0 (nI s) (erM (PE q (σ s) (xe q s)).2) (F166_0 (nI (xe q s)) Q)) (rgt q (xe q s)) (PE q (σ s) (rgt q (xe q s)))) := by
  have h24 := h.1
  obtain ⟨e1, e2, e3⟩ := xe_lt hE h hs hk
  have hx := hM.ok s (by omega)
  have hf := hg s (by omega) hr
  obtain ⟨a1, a2, a3, a4⟩ := F166_eq hE e1 hx hM.ex hh
  have M1 := hM.fh a2.fh
  have n1 : ¬ q.1 9 s = 1 := by rcases hk with z | z | z <;> rw [z] <;> decide
  obtain ⟨f1, σ', A', R', c', f2, f3, f4, f5, f6, f7, f8, f9⟩ := F173_eq (mk := erM (PE q (σ s) (xe q s)).2) hE h hs hM.ok rfl hf (fun k b1 b2 => by
    rw [bit_e _ k b1 b2]
    unfold er
    constructor
    · rintro w (⟨e, -⟩ | ⟨-, e⟩)
      · exact n1 e
      · exact w e
    · intro w e
      exact w (Or.inr ⟨hk, e⟩)) M1 (hh.fx a2) (reM.rf (q := q) (s := s) hg)
  have keep : ∀ k r, mpE (F166_0 (nI (xe q s)) Q) k r → mpE (F173_0 (nI s) (erM (PE q (σ s) (xe q s)).2) (F166_0 (nI (xe q s)) Q)) k r := fun k r z => ⟨z.1.fr (f7 671 k (by omega)) (fun j _ => f7 672 _ (by omega)), by rw [f7 673 k (by omega)]; exact z.2⟩
  refine ⟨a1, a3.2, f1, ?_, σ', A', R', c', f2, f3, f4, f8, f9 s (by omega) hr, keep _ _ a3, fun z w => keep _ _ (a4 z w)⟩
  rw [M1.2.2.2.2.2.2.1 657 s (by omega)]; exact e3
theorem thru_asgn (hE : iE q nE) (h : iP q nE n m o p) {s : Nat} (hs : s < n) (hM : memM q Q σ A R c) (hg : ∀ p, p < 25 → R p = true → full (σ p)) (hr : R s = true) (hh : hereAt Q (σ s)) (hk : q.1 9 s = 0) : S174_5 (nI s) Q ∧ thru q s σ A c (F174_5 (nI s) Q) := by
  have h24 := h.1
  have h60 := hE.1
  have cs : (nI s).toNatClampNeg = s := nI_clamp (by omega)
  have vs : vp_in (nI s) 24 := nI_in24 hs h24
  have x655 : Q.1 655 s = q.1 9 s := by rw [hM.2.2.2.2.2.2.1 655 s (by omega)]; exact (h.2.2.2.2.2.2.1 s hs).1
  obtain ⟨e1, e2, e3⟩ := xe_lt hE h hs (Or.inl hk)
  obtain ⟨v5, v10, v656⟩ := (kd_d h hs).1 hk
  have ce : (nI (xe q s)).toNatClampNeg = xe q s := nI_clamp (by omega)
  have ve : vp_in (nI (xe q s)) 60 := vp_in_nI (by omega) (by decide)
  have cv : (nI (vr q s)).toNatClampNeg = vr q s := nI_clamp (by omega)
  have vv : vp_in (nI (vr q s)) 5 := vp_in_nI v5 (by decide)
  have x657 : Q.1 657 s = nI (xe q s) := by rw [hM.2.2.2.2.2.2.1 657 s (by omega)]; exact e3
  have hx := hM.ok s (by omega)
  have hf := hg s (by omega) hr
  obtain ⟨a1, a2, a3, a4, σ2, A2, R2, c2, M2, H2, R2', D2, r2, m2, -⟩ := thru_first hE h hs hM hg hr hh (Or.inl hk)
  have okE := PE_ok hE hx e1
  obtain ⟨-, -, -, -, t0⟩ := tyN_b (PE q (σ s) (xe q s)).1
  have y657 : (F173_0 (nI s) (erM (PE q (σ s) (xe q s)).2) (F166_0 (nI (xe q s)) Q)).1 657 s = nI (xe q s) := by rw [M2.2.2.2.2.2.2.1 657 s (by omega)]; exact e3
  have y656 : (F173_0 (nI s) (erM (PE q (σ s) (xe q s)).2) (F166_0 (nI (xe q s)) Q)).1 656 s = nI (vr q s) := by rw [M2.2.2.2.2.2.2.1 656 s (by omega)]; exact v656
  have y671 : (F173_0 (nI s) (erM (PE q (σ s) (xe q s)).2) (F166_0 (nI (xe q s)) Q)).1 671 (xe q s) = nI (tyN (PE q (σ s) (xe q s)).1) := m2.1.1
  have S5 : S174_78 (nI s) (F173_0 (nI s) (erM (PE q (σ s) (xe q s)).2) (F166_0 (nI (xe q s)) Q)) → S174_5 (nI s) Q := by
    intro z
    unfold S174_5
    rw [cs, x655, x657]
    refine ⟨vs, fun _ => ⟨vs, a1, ?_⟩, fun y => absurd hk y⟩
    unfold S174_62
    rw [cs, a4, ce, a2]
    exact ⟨vs, ve, a3, z⟩
  have F5 : F174_5 (nI s) Q = F174_78 (nI s) (F173_0 (nI s) (erM (PE q (σ s) (xe q s)).2) (F166_0 (nI (xe q s)) Q)) := by
    unfold F174_5 F174_62
    rw [cs, x655, if_pos hk, x657, a4, ce, a2]
  rw [F5]
  generalize F173_0 (nI s) (erM (PE q (σ s) (xe q s)).2) (F166_0 (nI (xe q s)) Q) = Q2 at *
  -- what flows from an assignment
  have fin : ∀ σ' A', leF σ2 σ' → leA A2 A' → (hasV (PE q (σ s) (xe q s)).1 = true → leS (upS (σ s) (vr q s) (PE q (σ s) (xe q s)).1) (σ' (bh q s))) → don q s (σ s) σ' A' := by
    intro σ' A' l1 l2 hv
    have nb : ∀ b : Int32, b ≠ 0 → ¬ q.1 9 s = b := fun b hb w => hb (w.symm.trans hk)
    refine ⟨fun t y f => ?_, fun k f => ?_⟩
    · rcases f with ⟨k, d, b1, b2, b3, b4, b5, b6⟩ | ⟨b1, b2, b3, b4⟩ | ⟨b1, -⟩ | ⟨b1, -⟩ | ⟨b1, -⟩ | ⟨b1, -⟩ | ⟨b1, -⟩
      · have hcl := ct_lt h hs b4
        have tl := en_lt h hcl.1 (b := 1) (by decide)
        rw [b5, b6]
        exact ((D2 k b1 b2 b3).1 d b4).tr (l1 _ (by omega))
      · rw [b3, b4]; exact hv b2
      · exact absurd b1 (nb 2 (by decide))
      · exact absurd b1 (nb 3 (by decide))
      · exact absurd b1 (nb 6 (by decide))
      · rcases b1 with b1 | b1
        · exact absurd b1 (nb 4 (by decide))
        · exact absurd b1 (nb 5 (by decide))
      · rcases b1 with b1 | b1
        · exact absurd b1 (nb 4 (by decide))
        · exact absurd b1 (nb 5 (by decide))
    · have hk4 := f.2.1
      exact l2 _ (by omega) ((D2 k f.1 f.2.1 f.2.2.1).2 f.2.2.2)
  unfold F174_78
  rw [cs, y657, ce, y671]
  by_cases hv : hasV (PE q (σ s) (xe q s)).1 = true
  · have nz : ¬ nI (tyN (PE q (σ s) (xe q s)).1) = 0 := fun z => by rw [(t0.mp z).2] at hv; cases hv
    rw [if_neg nz, y656, cv]
    -- copy the bounds
    have I0 : ∀ X : aQ, (X.1 656 s = nI (vr q s) ∧ X.1 657 s = nI (xe q s)) = (X.1 656 s = nI (vr q s) ∧ X.1 657 s = nI (xe q s)) := fun _ => rfl
    obtain ⟨Q3, b1, b2, b3, b4, b5, -⟩ := copyN (B := fun z => F174_116 (nI s) z.1 z.2) (SB := fun z => S174_116 (nI s) z.1 z.2) 4 670 (4 * vr q s) 672 (4 * xe q s) (fun X => X.1 656 s = nI (vr q s) ∧ X.1 657 s = nI (xe q s)) (by decide) (fun X k x hk hX => by rw [w_ne (by decide), w_ne (by decide)]; exact hX) (fun X _ => ⟨by show F174_116 (nI s) (nI 4) X = _; unfold F174_116; rw [if_pos l4], by show S174_116 (nI s) (nI 4) X; exact ⟨fun _ => trivial, fun z => absurd l4 z⟩⟩) (fun X k hk hX => by
      obtain ⟨d1, d2⟩ := c4k (i := xe q s) (k := k) (N := 240) (by omega) (by decide)
      obtain ⟨d3, d4⟩ := c4k (i := vr q s) (k := k) (N := 20) (by omega) (by decide)
      refine ⟨?_, ?_⟩
      · show F174_116 (nI s) (nI k) X = _
        unfold F174_116
        rw [if_neg (n4 hk), cs, hX.1, hX.2, d1, d3, nI_1]
      · show S174_116 (nI s) (nI k) X
        unfold S174_116
        rw [cs, hX.1, hX.2]
        exact ⟨fun z => absurd z (n4 hk), fun _ => ⟨vs, vs, d2, d4, trivial⟩⟩) 4 0 (a_w Q2 669 (vr q s) (nI (tyN (PE q (σ s) (xe q s)).1))) 200 rfl (by decide) (by rw [w_ne (by decide), w_ne (by decide)]; exact ⟨y656, y657⟩)
    have b2' : a_it (fun (z : Int32 × aQ) => F174_116 (nI s) z.1 z.2) 200 (0, a_w Q2 669 (vr q s) (nI (tyN (PE q (σ s) (xe q s)).1))) = some Q3 := b2
    have u3 : frH Q2 Q3 := ⟨fun c j a b => by rw [b4 c j (by omega), w_ne (by omega)], fun c j _ => by rw [b5, w_l]⟩
    have M3 := M2.fh u3
    have H3 : hereAt Q3 (upS (σ s) (vr q s) (PE q (σ s) (xe q s)).1) := by
      intro w hw
      unfold upS
      by_cases ew : w = vr q s
      · rw [if_pos ew, ew]
        refine mp_cong m2.1 ?_ (fun k hk => ?_)
        · rw [b4 669 _ (by omega), w_eq]; exact y671.symm
        · show Q3.1 670 (4 * vr q s + k) = Q2.1 672 (4 * xe q s + k)
          rw [b3 k (by omega) hk, w_ne (by decide)]
      · rw [if_neg ew]
        exact (H2 w hw).fr (by rw [b4 669 w (by omega), w_nk ew]) (fun k hk => by rw [b4 670 _ (by omega), w_ne (by decide)])
    obtain ⟨g1, g2⟩ := F146_eq (M3.iP h) hs
    rw [M3.bh] at g1
    have tl := bh_lt h hs
    have okU : stOk (upS (σ s) (vr q s) (PE q (σ s) (xe q s)).1) := upS_ok hx okE.1
    obtain ⟨k1, c3, k2, k3, k4, k5⟩ := F172_eq (t := bh q s) (by omega) M3 okU H3
    have fU : full (upS (σ s) (vr q s) (PE q (σ s) (xe q s)).1) := upS_full hf (hasV_ne hv)
    have R3 := R2'.flow (t := bh q s) (by omega) M3.ok (M3.2.2.1 _ (by omega)) okU fU k4 (fun μ B a b d e => by
      have le : leS (σ s) (μ s) := b s (by omega)
      have u := e (rch_mono le hx ⟨0, by decide, hf 0 (by decide)⟩)
      have mm := PE_mono hE le e1
      exact (upS_mono le mm.1).tr (u.1 _ _ (Or.inr (Or.inl ⟨hk, hasV_mono mm.1 hv, rfl, rfl⟩))))
    rw [a_lp_eq b2']
    unfold F174_157 F174_166
    dsimp only
    rw [g1]
    refine ⟨S5 ?_, _, _, _, c3, k2, R3, fin _ _ gro_le (fun _ _ => id) (fun _ => gro_t)⟩
    unfold S174_78
    rw [cs, y657, ce, y671, y656, cv, a_lp_eq b2']
    refine ⟨vs, ve, fun z => absurd z nz, fun _ => ⟨vs, vs, ve, vv, b1, ?_⟩⟩
    unfold S174_157
    dsimp only
    rw [g1]
    exact ⟨g2, k1, trivial⟩
  · have hv' : hasV (PE q (σ s) (xe q s)).1 = false := by simpa using hv
    have z0 : nI (tyN (PE q (σ s) (xe q s)).1) = 0 := t0.mpr ⟨okE.2, hv'⟩
    rw [if_pos z0]
    refine ⟨S5 ?_, σ2, A2, R2, c2, M2, R2', fin σ2 A2 leF.rf (fun _ _ => id) (fun z => absurd z hv)⟩
    unfold S174_78
    rw [cs, y657, ce, y671]
    exact ⟨vs, ve, fun _ => trivial, fun z => absurd z0 z⟩
end
