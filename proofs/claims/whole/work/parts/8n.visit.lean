/-! one visit: the class, all kinds of statements -/
theorem bit_e (E : Er) : ∀ k, 1 ≤ k → k ≤ 4 → (((erM E >>> (nI k &&& 31)) &&& 1) = 0 ↔ ¬ erB E k = true) := by
  intro k h1 h2
  have hk : k = 1 ∨ k = 2 ∨ k = 3 ∨ k = 4 := by omega
  obtain ⟨a, b, c⟩ := E
  rcases hk with rfl | rfl | rfl | rfl <;> cases a <;> cases b <;> cases c <;> decide
theorem bit_r {e k : Nat} (h1 : 1 ≤ e) (h2 : e ≤ 4) (h3 : 1 ≤ k) (h4 : k ≤ 4) : ((((1 <<< (nI e &&& 31)) >>> (nI k &&& 31)) &&& 1) = (0 : Int32) ↔ ¬ nI e = nI k) := by
  have he : e = 1 ∨ e = 2 ∨ e = 3 ∨ e = 4 := by omega
  have hk : k = 1 ∨ k = 2 ∨ k = 3 ∨ k = 4 := by omega
  rcases he with rfl | rfl | rfl | rfl <;> rcases hk with rfl | rfl | rfl | rfl <;> decide
theorem holO_e {r : Rn} (h : holO r 0 = true) : isE r = false := by
  rw [holO_t] at h
  rw [← Bool.not_eq_true, isE_t]
  omega
theorem hol_e {r : Rn} (h : hol r 0 = true) : isE r = false := by
  rw [hol_t] at h
  rw [← Bool.not_eq_true, isE_t]
  omega
theorem hasTr_v {P : Pc} (h : hasTr P = true) : hasV P = true := by
  unfold hasTr at h
  unfold hasV
  rw [Bool.or_eq_true] at h
  rcases h with h | h
  · rw [holO_e h]; rfl
  · rw [holO_e h]; simp
theorem hasFa_v {P : Pc} (h : hasFa P = true) : hasV P = true := by
  unfold hasFa at h
  unfold hasV
  rw [Bool.or_eq_true, Bool.or_eq_true] at h
  rcases h with (h | h) | h
  · rw [hol_e h]; rfl
  · rw [hol_e h]; simp
  · rw [h]; simp
section
variable {q Q : aQ} {nE n m fd : Nat} {o p : Nat → Nat} {σ σ0 : Nat → Nat → Pc} {A A0 W W0 : Nat → Bool} {x : Nat → Pc}
/-- a comparison with a value has parts with values -/
theorem cond_v {e : Nat} (hE : iE q nE) (hx : stOk x) (he : e < nE) (h : q.1 2 e = 4 ∨ q.1 2 e = 5) (v : hasV (PE q x e).1 = true) : hasV (PE q x (lft q e)).1 = true ∧ hasV (PE q x (rgt q e)).1 = true := by
  obtain ⟨n1, o5, -⟩ := op45 h
  obtain ⟨w, wa, o1, o2, o3, -⟩ := op_of hE he n1
  have o3' := o3 o5
  have pe := PE_op (x := x) hE he n1
  by_cases hv : hasV (PE q x (lft q e)).1 = false
  · rw [if_pos hv] at pe
    rw [pe] at v
    cases v
  · rw [if_neg hv, if_neg (by omega)] at pe
    refine ⟨by simpa using hv, ?_⟩
    by_cases hw : hasV (PE q x (rgt q e)).1 = false
    · rw [pe] at v
      have nil : prods (opn q e) (vals (PE q x (lft q e)).1) (vals (PE q x (rgt q e)).1) = [] := by
        rw [vals_n (PE_ok hE hx (by omega)).1 hw]
        refine List.eq_nil_iff_forall_not_mem.mpr fun u hu => ?_
        obtain ⟨a, -, b, hb, -⟩ := mem_prods.mp hu
        cases hb
      rw [nil] at v
      cases v
    · simpa using hw
theorem memC.pnt {Q' : aQ} (h : memC q Q σ A W) (u : pnt q x Q Q') : memC q Q' σ A W := by
  obtain ⟨h1, h2, h3, h4, h5⟩ := h
  exact ⟨fun p hp => (h1 p hp).fr (fun c j z => u.1 c j (by omega)), fun i hi => by rw [u.1 39 i (by omega)]; exact h2 i hi, fun p hp => by rw [u.1 38 p (by omega)]; exact h3 p hp, fun c j z => by rw [u.1 c j (by omega)]; exact h4 c j z, u.2.1.trans h5⟩
theorem memC.pass {Q' : aQ} (h : memC q Q σ A W) (u : updS Q Q' 21 x) : memC q Q' σ A W := by
  obtain ⟨h1, h2, h3, h4, h5⟩ := h
  exact ⟨fun p hp => (h1 p hp).fr (fun c j z => u.2.1 c j (by omega)), fun i hi => by rw [u.2.1 39 i (by omega)]; exact h2 i hi, fun p hp => by rw [u.2.1 38 p (by omega)]; exact h3 p hp, fun c j z => by rw [u.2.1 c j (by omega)]; exact h4 c j z, u.2.2.trans h5⟩
/-- all that flows from s, with x before it, is in σ, A -/
def don (q : aQ) (s : Nat) (x : Nat → Pc) (σ : Nat → Nat → Pc) (A : Nat → Bool) : Prop := (∀ t y, fw q s x t y → leS y (σ t)) ∧ ∀ k, al q s x k → A (5 * s + k) = true
theorem er_no {s k : Nat} (h : ¬ q.1 9 s = 1) (h2 : ¬ (q.1 9 s = 0 ∨ q.1 9 s = 4 ∨ q.1 9 s = 5)) : ¬ er q s x k := by
  rintro (⟨a, -⟩ | ⟨a, -⟩)
  · exact h a
  · exact h2 a
theorem kd_c (h : iP q nE n m o p) {s : Nat} (hs : s < n) : q.1 9 s = 0 ∨ q.1 9 s = 1 ∨ q.1 9 s = 2 ∨ q.1 9 s = 3 ∨ q.1 9 s = 4 ∨ q.1 9 s = 5 ∨ q.1 9 s = 6 := by
  obtain ⟨-, -, -, -, -, -, ⟨k, k6, e9, -⟩, -⟩ := h.2.2.2.2.2.2.1 s hs
  rw [e9]
  have : k = 0 ∨ k = 1 ∨ k = 2 ∨ k = 3 ∨ k = 4 ∨ k = 5 ∨ k = 6 := by omega
  rcases this with rfl | rfl | rfl | rfl | rfl | rfl | rfl <;> decide
/-- details of a statement by its kind -/
theorem kd_d (h : iP q nE n m o p) {s : Nat} (hs : s < n) : (q.1 9 s = 0 → vr q s < 5 ∧ q.1 10 s = nI (vr q s) ∧ q.1 656 s = nI (vr q s)) ∧ (q.1 9 s = 1 → 1 ≤ vr q s ∧ vr q s ≤ 4 ∧ q.1 10 s = nI (vr q s) ∧ q.1 656 s = nI (vr q s)) ∧ (q.1 9 s = 2 ∨ q.1 9 s = 3 → vr q s < s ∧ q.1 10 s = nI (vr q s)) := by
  have h24 := h.1
  obtain ⟨-, -, -, -, -, -, ⟨k, k6, e9, d0, d1, d23, d6, de⟩, -⟩ := h.2.2.2.2.2.2.1 s hs
  have kk : ∀ b, b ≤ 6 → q.1 9 s = nI b → k = b := fun b hb z => nI_inj (by omega) (by omega) (e9.symm.trans z)
  unfold vr
  refine ⟨fun z => ?_, fun z => ?_, fun z => ?_⟩
  · obtain ⟨v, a, b, c⟩ := d0 (kk 0 (by decide) z)
    rw [b, nI_clamp (by omega)]
    exact ⟨a, rfl, c⟩
  · obtain ⟨v, a, a', b, c⟩ := d1 (kk 1 (by decide) z)
    rw [b, nI_clamp (by omega)]
    exact ⟨a, a', rfl, c⟩
  · obtain ⟨L, a, b, c⟩ := d23 (z.imp (kk 2 (by decide)) (kk 3 (by decide)))
    rw [b, nI_clamp (by omega)]
    exact ⟨a, rfl⟩
/-- one flow of the state before s -/
theorem plain_flow (hE : iE q nE) (h : iP q nE n m o p) {s t : Nat} (hs : s < n) (hr : rch (σ s)) (ht : t < 25) (hM : memC q Q σ A W) (hf : ∀ x, fw q s x t x) : S51_0 (222 + 17 * s) (nI t) Q ∧ ∃ σ' W', memC q (F51_0 (222 + 17 * s) (nI t) Q) σ' A W' ∧ rea q s σ A W σ' A W' ∧ leS (σ s) (σ' t) := by
  have h24 := h.1
  obtain ⟨g1, g2, g3⟩ := F51_eq hM (t := t) (a := 222 + 17 * s) (y := σ s) ht (Or.inr ⟨s, by omega, rfl, rfl⟩) (hM.1 s (by omega))
  refine ⟨g1, _, _, g2, (rea.rf hM.ok).flow ht (hM.ok s (by omega)) (fun μ B a b c d => ?_), gro_t⟩
  have e := d (rch_mono (b s (by omega)) (hM.ok s (by omega)) hr)
  exact (b s (by omega)).tr (e.1 t (μ s) (hf (μ s)))
theorem visit_plain (hE : iE q nE) (h : iP q nE n m o p) {s : Nat} (hs : s < n) (hr : rch (σ s)) (hM : memC q Q σ A W) (hk : ¬ (q.1 9 s = 0 ∨ q.1 9 s = 4 ∨ q.1 9 s = 5)) : S52_0 (nI s) Q ∧ ∃ σ' A' W', memC q (F52_0 (nI s) Q) σ' A' W' ∧ rea q s σ A W σ' A' W' ∧ don q s (σ s) σ' A' := by
  have h24 := h.1
  have cs : (nI s).toNatClampNeg = s := nI_clamp (by omega)
  have vs : vp_in (nI s) 24 := nI_in24 hs h24
  have vs5 : vp_in (nI s) 25 := vp_in_nI (by omega) (by decide)
  have r9 : Q.1 9 s = q.1 9 s := hM.2.2.2.1 9 s (by omega)
  have r10 : Q.1 10 s = q.1 10 s := hM.2.2.2.1 10 s (by omega)
  obtain ⟨-, kd1, kd23⟩ := kd_d h hs
  unfold F52_0 S52_0 F52_52 F52_81 F52_103
  rw [cs, r9, r10]
  -- flows that a statement of the kind has
  have only : ∀ t', ¬ q.1 9 s = 1 → (∀ t y, fw q s (σ s) t y → t = t' ∧ y = σ s) → ∀ σ' A', leS (σ s) (σ' t') → don q s (σ s) σ' A' := by
    intro t' n1 hf σ' A' hl
    refine ⟨fun t y f => ?_, fun k f => absurd f.2.2.1 (er_no n1 hk)⟩
    obtain ⟨e1, e2⟩ := hf t y f
    rw [e1, e2]
    exact hl
  rcases kd_c h hs with z | z | z | z | z | z | z
  · exact absurd (Or.inl z) hk
  · obtain ⟨a1, a2, a3, a4⟩ := kd1 z
    rw [if_pos z, a3]
    obtain ⟨f1, σ', A', W', f2, f3, f4, f5, f6, f7⟩ := F56_eq (mk := 1 <<< (nI (vr q s) &&& 31)) hE h hs hr hM.ok (fun k b1 b2 => by
      rw [bit_r a1 a2 b1 b2]
      unfold er
      rw [a3]
      constructor
      · rintro w (⟨-, e⟩ | ⟨e, -⟩)
        · exact w e
        · exact hk e
      · intro w e
        exact w (Or.inl ⟨z, e⟩)) hM (rea.rf (q := q) (s := s) hM.ok)
    refine ⟨⟨vs, fun _ => ⟨vs, f1, trivial⟩, fun w => absurd z w⟩, σ', A', W', f2, f3, fun t y f => ?_, fun k f => (f7 k f.1 f.2.1 f.2.2.1).2 f.2.2.2⟩
    have n0 : ∀ b : Int32, b ≠ 1 → ¬ q.1 9 s = b := fun b hb w => hb (w.symm.trans z)
    rcases f with ⟨k, c, b1, b2, b3, b4, b5, b6⟩ | ⟨b1, -⟩ | ⟨b1, -⟩ | ⟨b1, -⟩ | ⟨b1, -⟩ | ⟨b1, -⟩ | ⟨b1, -⟩
    · rw [b5, b6]; exact (f7 k b1 b2 b3).1 c b4
    · exact absurd b1 (n0 0 (by decide))
    · exact absurd b1 (n0 2 (by decide))
    · exact absurd b1 (n0 3 (by decide))
    · exact absurd b1 (n0 6 (by decide))
    · exact absurd (Or.inr b1) hk
    · exact absurd (Or.inr b1) hk
  · obtain ⟨a1, a3⟩ := kd23 (Or.inl z)
    have n1 : ¬ q.1 9 s = 1 := fun w => absurd (z.symm.trans w) (by decide)
    obtain ⟨c1, c2⟩ := F43_eq (hM.iP h) (s := vr q s) (by omega)
    rw [hM.bh] at c1
    have tl := bh_lt h (s := vr q s) (by omega)
    obtain ⟨f1, σ', W', f2, f3, f4⟩ := plain_flow (t := bh q (vr q s)) hE h hs hr (by omega) hM (fun x => Or.inr (Or.inr (Or.inl ⟨z, rfl, rfl⟩)))
    rw [if_neg n1, if_pos z, a3, c1]
    refine ⟨⟨vs, fun w => absurd w n1, fun _ => ⟨fun _ => ⟨vs5, vs, c2, f1, trivial⟩, fun w => absurd z w⟩⟩, σ', A, W', f2, f3, only _ n1 (fun t y f => ?_) σ' A f4⟩
    have n0 : ∀ b : Int32, b ≠ 2 → ¬ q.1 9 s = b := fun b hb w => hb (w.symm.trans z)
    rcases f with ⟨k, c, b1, b2, b3, -⟩ | ⟨b1, -⟩ | ⟨b1, b2, b3⟩ | ⟨b1, -⟩ | ⟨b1, -⟩ | ⟨b1, -⟩ | ⟨b1, -⟩
    · exact absurd b3 (er_no n1 hk)
    · exact absurd b1 (n0 0 (by decide))
    · exact ⟨b2, b3⟩
    · exact absurd b1 (n0 3 (by decide))
    · exact absurd b1 (n0 6 (by decide))
    · exact absurd (Or.inr b1) hk
    · exact absurd (Or.inr b1) hk
  · obtain ⟨a1, a3⟩ := kd23 (Or.inr z)
    have n1 : ¬ q.1 9 s = 1 := fun w => absurd (z.symm.trans w) (by decide)
    have n2 : ¬ q.1 9 s = 2 := fun w => absurd (z.symm.trans w) (by decide)
    obtain ⟨f1, σ', W', f2, f3, f4⟩ := plain_flow (t := vr q s) hE h hs hr (by omega) hM (fun x => Or.inr (Or.inr (Or.inr (Or.inl ⟨z, rfl, rfl⟩))))
    rw [if_neg n1, if_neg n2, if_pos z, a3]
    refine ⟨⟨vs, fun w => absurd w n1, fun _ => ⟨fun w => absurd w n2, fun _ => ⟨fun _ => ⟨vs5, vs, f1, trivial⟩, fun w => absurd z w⟩⟩⟩, σ', A, W', f2, f3, only _ n1 (fun t y f => ?_) σ' A f4⟩
    have n0 : ∀ b : Int32, b ≠ 3 → ¬ q.1 9 s = b := fun b hb w => hb (w.symm.trans z)
    rcases f with ⟨k, c, b1, b2, b3, -⟩ | ⟨b1, -⟩ | ⟨b1, -⟩ | ⟨b1, b2, b3⟩ | ⟨b1, -⟩ | ⟨b1, -⟩ | ⟨b1, -⟩
    · exact absurd b3 (er_no n1 hk)
    · exact absurd b1 (n0 0 (by decide))
    · exact absurd b1 (n0 2 (by decide))
    · exact ⟨b2, b3⟩
    · exact absurd b1 (n0 6 (by decide))
    · exact absurd (Or.inr b1) hk
    · exact absurd (Or.inr b1) hk
  · exact absurd (Or.inr (Or.inl z)) hk
  · exact absurd (Or.inr (Or.inr z)) hk
  · have n1 : ¬ q.1 9 s = 1 := fun w => absurd (z.symm.trans w) (by decide)
    have n2 : ¬ q.1 9 s = 2 := fun w => absurd (z.symm.trans w) (by decide)
    have n3 : ¬ q.1 9 s = 3 := fun w => absurd (z.symm.trans w) (by decide)
    obtain ⟨c1, c2⟩ := F42_eq (hM.iP h) hs (b := 0) (by decide)
    rw [hM.en] at c1
    have c1 : F42_0 (nI s) 0 Q = nI (en q s 0) := c1
    have tl := en_lt h hs (b := 0) (by decide)
    obtain ⟨f1, σ', W', f2, f3, f4⟩ := plain_flow (t := en q s 0) hE h hs hr (by omega) hM (fun x => Or.inr (Or.inr (Or.inr (Or.inr (Or.inl ⟨z, rfl, rfl⟩)))))
    rw [if_neg n1, if_neg n2, if_neg n3, c1]
    refine ⟨⟨vs, fun w => absurd w n1, fun _ => ⟨fun w => absurd w n2, fun _ => ⟨fun w => absurd w n3, fun _ => ⟨vs5, c2, f1, trivial⟩⟩⟩⟩, σ', A, W', f2, f3, only _ n1 (fun t y f => ?_) σ' A f4⟩
    have n0 : ∀ b : Int32, b ≠ 6 → ¬ q.1 9 s = b := fun b hb w => hb (w.symm.trans z)
    rcases f with ⟨k, c, b1, b2, b3, -⟩ | ⟨b1, -⟩ | ⟨b1, -⟩ | ⟨b1, -⟩ | ⟨b1, b2, b3⟩ | ⟨b1, -⟩ | ⟨b1, -⟩
    · exact absurd b3 (er_no n1 hk)
    · exact absurd b1 (n0 0 (by decide))
    · exact absurd b1 (n0 2 (by decide))
    · exact absurd b1 (n0 3 (by decide))
    · exact ⟨b2, b3⟩
    · exact absurd (Or.inr b1) hk
    · exact absurd (Or.inr b1) hk
end
