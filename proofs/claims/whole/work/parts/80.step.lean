/-! one step of a run: the model -/
def oM : Option Nat × Nat → Int32
  | (some t, _) => nI t
  | (none, k) => if k = 9 then -10 else -1 - nI k
def frM (q q' : aQ) : Prop := (∀ c j, c < 680 → ¬ (c = 650 ∧ 37 ≤ j) → q'.1 c j = q.1 c j) ∧ (∀ c j, c < 681 → ¬ (c = 650 ∧ 37 ≤ j) → q'.2 c j = q.2 c j)
theorem frM.rf {q : aQ} : frM q q := ⟨fun _ _ _ _ => rfl, fun _ _ _ _ => rfl⟩
theorem frM.tr {q q1 q2 : aQ} (h1 : frM q q1) (h2 : frM q1 q2) : frM q q2 := ⟨fun c j a b => (h2.1 c j a b).trans (h1.1 c j a b), fun c j a b => (h2.2 c j a b).trans (h1.2 c j a b)⟩
theorem frM.w {q : aQ} {j : Nat} {x : Int32} (h : 37 ≤ j) : frM q (a_w q 650 j x) := ⟨fun c i a b => by rw [w_get, if_neg (by omega)], fun _ _ _ _ => rfl⟩
theorem frM.iE {q Q : aQ} {nE : Nat} (f : frM q Q) (h : iE q nE) : iE Q nE := iE_fr (fun c j z => f.1 c j (by omega) (by omega)) h
theorem frM.iN {q Q : aQ} {fd : Nat} (f : frM q Q) (h : iN q fd) : iN Q fd := iN_fr (fun c j z => f.1 c j (by omega) (by omega)) h
theorem frM.iP {q Q : aQ} {nE n m : Nat} {o p : Nat → Nat} (f : frM q Q) (h : iP q nE n m o p) : iP Q nE n m o p := iP_fr (fun c j z => f.1 c j (by omega) (by omega)) h
theorem frM.bh {q Q : aQ} (f : frM q Q) (s : Nat) : bh Q s = bh q s := bh_fr (fun c j a b => f.1 c j (by omega) (by omega)) s
theorem frM.en {q Q : aQ} (f : frM q Q) (s b : Nat) : en Q s b = en q s b := en_fr (fun c j a b => f.1 c j (by omega) (by omega)) s b
theorem frM.ct {q Q : aQ} (f : frM q Q) (s : Nat) (k : Int32) : ct Q s k = ct q s k := ct_fr (fun c j a b => f.1 c j (by omega) (by omega)) s k
theorem frM.flE {q Q : aQ} (f : frM q Q) (s k : Nat) : fl Q s k = fl q s k := by
  unfold fl
  rw [f.ct]
  simp only [f.en]
theorem F152_frM {q : aQ} {t : Int32} {x : Int64} : frM q (F152_0 t x q) := by
  have f := F152_fr (n := 0) (t := t) (x := x) (Q := q)
  exact ⟨fun c j a b => f.1.1 c j (by omega) (by omega), fun c j a b => f.1.2.1 c j (by omega) (by omega)⟩
/-- the end of a step that worked out r -/
def tl (q : aQ) (va : Nat → Nat × Int) (s : Nat) (r : (Nat × Int) × Nat) : (Option Nat × Nat) × (Nat → Nat × Int) × Nat :=
  if r.1.1 = 0 ∨ r.1.1 = 9 then ((fl q s (ek r.1), ek r.1), va, r.2)
  else if q.1 9 s = 0 then ((some (bh q s), 0), upV va (q.1 10 s).toNatClampNeg r.1, r.2)
  else ((some (if isT r.1.1 r.1.2 then en q s 0 else en q s 1), 0), va, r.2)
def rOk4 (r : Nat × Int) : Prop := vOk r.1 r.2 ∨ (r.1 = 0 ∧ ∃ k : Nat, 1 ≤ k ∧ k ≤ 4 ∧ r.2 = k) ∨ r = (9, 0)
theorem rOk.r4 {r : Nat × Int} (h : rOk r) : rOk4 r := by
  rcases h with h | ⟨h1, h2⟩ | h
  · exact Or.inl h
  · refine Or.inr (Or.inl ⟨h1, ?_⟩)
    rcases h2 with g | g | g
    · exact ⟨1, by decide, by decide, g⟩
    · exact ⟨2, by decide, by decide, g⟩
    · exact ⟨3, by decide, by decide, g⟩
  · exact Or.inr (Or.inr h)
def varM (va : Nat → Nat × Int) (q : aQ) : Prop := ∀ v, v < 5 → q.1 680 v = nI (va v).1 ∧ q.2 681 v = lI (va v).2
theorem i32_k {k : Nat} (h : k ≤ 4) : Int64.toInt32 (lI (k : Int)) = nI k := by
  have : k = 0 ∨ k = 1 ∨ k = 2 ∨ k = 3 ∨ k = 4 := by omega
  rcases this with rfl | rfl | rfl | rfl | rfl <;> rfl
section
variable {q : aQ} {nE n m fd : Nat} {o p : Nat → Nat} {va : Nat → Nat × Int}
theorem fin96 (h : iP q nE n m o p) {s : Nat} {r : (Nat × Int) × Nat} (hs : s < n) (hV : varM va q) (hr : rOk4 r.1) (h37 : q.1 650 37 = rT r.1.1) (h38 : r.1.1 ≠ 9 → q.2 650 38 = lI r.1.2) (h42 : q.1 650 42 = nI r.2) (hk : r.1.1 = 0 ∨ r.1.1 = 9 ∨ q.1 9 s = 0 ∨ q.1 9 s = 4 ∨ q.1 9 s = 5) : S182_96 (nI s) q ∧ ∃ q', F182_96 (nI s) q = (oM (tl q va s r).1, q') ∧ frM q q' ∧ varM (tl q va s r).2.1 q' ∧ q'.1 650 42 = nI (tl q va s r).2.2 ∧ q'.1 650 39 = q.1 650 39 := by
  have h24 := h.1
  have cs : (nI s).toNatClampNeg = s := nI_clamp (by omega)
  have vs : vp_in (nI s) 24 := nI_in24 hs h24
  have hS := h.2.2.2.2.2.2.1 s hs
  have x655 : q.1 655 s = q.1 9 s := hS.1
  obtain ⟨-, -, -, -, -, -, ⟨k, k6, e9, d0, -⟩, -⟩ := hS
  unfold tl
  rcases hr with vk | ⟨r0, e, e1, e4, r2⟩ | r9
  · have tb := vk.lt
    have nst : ¬ (r.1.1 = 0 ∨ r.1.1 = 9) := by omega
    have hk : q.1 9 s = 0 ∨ q.1 9 s = 4 ∨ q.1 9 s = 5 := by
      rcases hk with g | g | g
      · exact absurd (Or.inl g) nst
      · exact absurd (Or.inr g) nst
      · exact g
    have t37 : q.1 650 37 = nI r.1.1 := by rw [h37]; unfold rT; rw [if_neg (by omega)]
    have t38 := h38 (by omega)
    have p37 : (0 : Int32) ≤ nI r.1.1 := nI_le (a := 0) (by omega) (by omega)
    have z37 : ¬ nI r.1.1 = 0 := nI_ne0 (by omega) (by omega)
    obtain ⟨T1, T2⟩ := F151_eq (q := q) tb.1 vk.sml
    rw [if_neg nst]
    unfold F182_96 S182_96
    rw [t37, t38, if_pos p37, if_neg z37, cs, x655]
    by_cases k0 : q.1 9 s = 0
    · have kz : k = 0 := nI_inj (b := 0) (by omega) (by decide) (e9.symm.trans k0)
      obtain ⟨v, v5, y1, y2⟩ := d0 kz
      have cv : (nI v).toNatClampNeg = v := nI_clamp (by omega)
      have vv : vp_in (nI v) 5 := vp_in_nI v5 (by decide)
      have fr : frM q (a_wl (a_w q 680 v (nI r.1.1)) 681 v (lI r.1.2)) := ⟨fun c j a b => by rw [wl_i, w_ne (by omega)], fun c j a b => by rw [wl_get, if_neg (by omega), w_l]⟩
      obtain ⟨b1, b2⟩ := F146_eq (fr.iP h) hs
      rw [fr.bh] at b1
      rw [if_pos k0, if_pos k0, y1, y2, cv, b1]
      refine ⟨⟨fun _ => ⟨fun z => absurd z z37, fun _ => ⟨vs, fun _ => ⟨vs, vv, vs, vv, b2, trivial⟩, fun z => absurd k0 z⟩⟩, fun z => absurd p37 z⟩, _, rfl, fr, ?_, ?_, ?_⟩
      · intro u hu
        unfold upV
        dsimp only
        rw [wl_i, wl_get, w_at]
        by_cases eu : u = v
        · simp [eu]
        · simp [eu, w_l]; exact hV u hu
      · rw [wl_i, w_ne (by decide)]; exact h42
      · rw [wl_i, w_ne (by decide)]
    · rw [if_neg k0, if_neg k0, T1]
      obtain ⟨a1, a2⟩ := F147_eq h hs (b := 0) (by decide) (fun z => by cases z)
      have a1 : F147_0 (nI s) 0 q = nI (en q s 0) := a1
      have n10 : ¬ (1 : Int32) = 0 := by decide
      by_cases hT : isT r.1.1 r.1.2 = true
      · rw [if_pos hT, if_pos hT, if_neg n10, a1]
        exact ⟨⟨fun _ => ⟨fun z => absurd z z37, fun _ => ⟨vs, fun z => absurd z k0, fun _ => ⟨T2, fun z => absurd z n10, fun _ => ⟨a2, trivial⟩⟩⟩⟩, fun z => absurd p37 z⟩, q, rfl, frM.rf, hV, h42, rfl⟩
      · rw [if_neg hT, if_neg hT, if_pos rfl]
        by_cases k5 : q.1 9 s = 5
        · obtain ⟨b1, b2⟩ := F146_eq h hs
          rw [if_pos k5, b1, en_loop h hs k5]
          exact ⟨⟨fun _ => ⟨fun z => absurd z z37, fun _ => ⟨vs, fun z => absurd z k0, fun _ => ⟨T2, fun _ => ⟨vs, fun _ => ⟨b2, trivial⟩, fun z => absurd k5 z⟩, fun z => absurd rfl z⟩⟩⟩, fun z => absurd p37 z⟩, q, rfl, frM.rf, hV, h42, rfl⟩
        · obtain ⟨b1, b2⟩ := F147_eq h hs (b := 1) (by decide) (fun _ => k5)
          have b1 : F147_0 (nI s) 1 q = nI (en q s 1) := b1
          rw [if_neg k5, b1]
          exact ⟨⟨fun _ => ⟨fun z => absurd z z37, fun _ => ⟨vs, fun z => absurd z k0, fun _ => ⟨T2, fun _ => ⟨vs, fun z => absurd z k5, fun _ => ⟨b2, trivial⟩⟩, fun z => absurd rfl z⟩⟩⟩, fun z => absurd p37 z⟩, q, rfl, frM.rf, hV, h42, rfl⟩
  · rw [if_pos (Or.inl r0)]
    have t37 : q.1 650 37 = 0 := by rw [h37]; unfold rT; rw [if_neg (by omega), r0]; rfl
    have t38 := h38 (by omega)
    rw [r2] at t38
    have ekE : ek r.1 = e := by unfold ek; rw [if_neg (by omega), r2]; exact Int.toNat_natCast e
    obtain ⟨c1, c2⟩ := F149_eq h hs (nI e)
    have p0 : (0 : Int32) ≤ 0 := by decide
    rw [ekE]
    unfold F182_96 S182_96 fl
    rw [t37, t38, if_pos p0, if_pos rfl, i32_k e4, c1, if_neg (show ¬ e = 9 by omega)]
    cases hc : ct q s (nI e) with
    | none =>
      have lt : ctN none < 0 := by decide
      rw [if_pos lt]
      refine ⟨⟨fun _ => ⟨fun _ => ⟨c2, fun _ => trivial, fun z => absurd lt z⟩, fun z => absurd rfl z⟩, fun z => absurd p0 z⟩, q, ?_, frM.rf, hV, h42, rfl⟩
      show (-1 - nI e, q) = (if e = 9 then -10 else -1 - nI e, q)
      rw [if_neg (by omega)]
    | some c =>
      obtain ⟨c3, c4⟩ := ct_lt h hs hc
      have lt : ¬ ctN (some c) < 0 := nI_nlt (a := c) (b := 0) (by omega) (by omega)
      obtain ⟨b1, b2⟩ := F147_eq h c3 (b := 1) (by decide) (fun _ => by rw [c4]; decide)
      have b1 : F147_0 (ctN (some c)) 1 q = nI (en q c 1) := b1
      rw [if_neg lt, b1]
      exact ⟨⟨fun _ => ⟨fun _ => ⟨c2, fun z => absurd z lt, fun _ => ⟨b2, trivial⟩⟩, fun z => absurd rfl z⟩, fun z => absurd p0 z⟩, q, rfl, frM.rf, hV, h42, rfl⟩
  · have r9' : r.1.1 = 9 := by rw [r9]
    rw [if_pos (Or.inr r9')]
    have t37 : q.1 650 37 = -1 := by rw [h37]; unfold rT; rw [if_pos r9']
    have ekE : ek r.1 = 9 := by unfold ek; rw [if_pos r9']
    have p0 : ¬ (0 : Int32) ≤ -1 := by decide
    rw [ekE]
    unfold F182_96 S182_96 fl
    rw [t37, if_neg p0, if_pos rfl]
    exact ⟨⟨fun z => absurd z p0, fun _ => trivial⟩, q, rfl, frM.rf, hV, h42, rfl⟩
theorem tl_fr {Q : aQ} (f : frM q Q) {s : Nat} {r : (Nat × Int) × Nat} : tl Q va s r = tl q va s r := by
  unfold tl
  simp only [f.flE, f.bh, f.en, f.1 9 s (by omega) (by omega), f.1 10 s (by omega) (by omega)]
theorem step_model (hE : iE q nE) (hN : iN q fd) (h : iP q nE n m o p) (hv : vaOk va) (hV : varM va q) {s tk : Nat} (ht : tk ≤ fd) (h4 : q.1 650 42 = nI tk) (hs : s < n) : S182_0 (nI s) q ∧ ∃ q', F182_0 (nI s) q = (oM (sp q fd va tk s).1, q') ∧ frM q q' ∧ varM (sp q fd va tk s).2.1 q' ∧ q'.1 650 42 = nI (sp q fd va tk s).2.2 ∧ q'.1 650 39 = q.1 650 39 := by
  have h24 := h.1
  have cs : (nI s).toNatClampNeg = s := nI_clamp (by omega)
  have vs : vp_in (nI s) 24 := nI_in24 hs h24
  have hS := h.2.2.2.2.2.2.1 s hs
  have x655 : q.1 655 s = q.1 9 s := hS.1
  obtain ⟨-, -, -, -, -, -, ⟨k, k6, e9, d0, d1, d23, d6, de⟩, -⟩ := hS
  have kc : k = 0 ∨ k = 1 ∨ k = 2 ∨ k = 3 ∨ k = 4 ∨ k = 5 ∨ k = 6 := by omega
  have n2 : k ≠ 2 → ¬ nI k = 2 := fun g z => g (nI_inj (b := 2) (by omega) (by decide) z)
  have n3 : k ≠ 3 → ¬ nI k = 3 := fun g z => g (nI_inj (b := 3) (by omega) (by decide) z)
  have n6 : k ≠ 6 → ¬ nI k = 6 := fun g z => g (nI_inj (b := 6) (by omega) (by decide) z)
  have n1 : k ≠ 1 → ¬ nI k = 1 := fun g z => g (nI_inj (b := 1) (by omega) (by decide) z)
  by_cases c2 : k = 2
  · subst c2
    obtain ⟨L, x1, x2, y1, y2⟩ := F148_eq h hs (Or.inl e9)
    obtain ⟨b1, b2⟩ := F146_eq h (s := L) (by omega)
    have cL : (nI L).toNatClampNeg = L := nI_clamp (by omega)
    have z2 : nI 2 = 2 := rfl
    have z1 : ¬ nI 2 = 1 := by decide
    unfold F182_0 S182_0 F182_20 S182_20 sp
    rw [cs, x655, e9, if_pos z2, if_pos z2, if_neg z1, if_pos z2, y1, b1, x2, cL]
    exact ⟨⟨vs, fun _ => ⟨y2, vs, fun _ => ⟨b2, trivial⟩, fun z => absurd z2 z⟩, fun z => absurd z2 z⟩, q, rfl, frM.rf, hV, h4, rfl⟩
  by_cases c3 : k = 3
  · subst c3
    obtain ⟨L, x1, x2, y1, y2⟩ := F148_eq h hs (Or.inr e9)
    have cL : (nI L).toNatClampNeg = L := nI_clamp (by omega)
    have z2 : ¬ nI 3 = 2 := by decide
    have z3 : nI 3 = 3 := rfl
    have z1 : ¬ nI 3 = 1 := by decide
    unfold F182_0 S182_0 F182_20 S182_20 sp
    rw [cs, x655, e9, if_neg z2, if_pos z3, if_neg z2, if_neg z1, if_neg z2, if_pos z3, y1, x2, cL]
    exact ⟨⟨vs, fun z => absurd z z2, fun _ => ⟨vs, fun _ => ⟨y2, vs, fun z => absurd z z2, fun _ => trivial⟩, fun z => absurd z3 z⟩⟩, q, rfl, frM.rf, hV, h4, rfl⟩
  by_cases c6 : k = 6
  · subst c6
    obtain ⟨b1, b2⟩ := F147_eq h hs (b := 0) (by decide) (fun z => by cases z)
    have b1 : F147_0 (nI s) 0 q = nI (en q s 0) := b1
    have z2 : ¬ nI 6 = 2 := by decide
    have z3 : ¬ nI 6 = 3 := by decide
    have z1 : ¬ nI 6 = 1 := by decide
    have z6 : nI 6 = 6 := rfl
    unfold F182_0 S182_0 sp
    rw [cs, x655, e9, if_neg z2, if_neg z3, if_pos z6, if_neg z1, if_neg z2, if_neg z3, if_pos z6, b1]
    exact ⟨⟨vs, fun z => absurd z z2, fun _ => ⟨vs, fun z => absurd z z3, fun _ => ⟨vs, fun _ => ⟨b2, trivial⟩, fun z => absurd z6 z⟩⟩⟩, q, rfl, frM.rf, hV, h4, rfl⟩
  have z2 := n2 c2
  have z3 := n3 c3
  have z6 := n6 c6
  have f1 : frM q (F152_0 0 (Int32.toInt64 (q.1 656 s)) q) := F152_frM
  obtain ⟨g0, g37, g38, g42⟩ := F152_fr (n := 0) (t := 0) (x := Int32.toInt64 (q.1 656 s)) (Q := q)
  have r655 : (F152_0 0 (Int32.toInt64 (q.1 656 s)) q).1 655 s = nI k := by rw [f1.1 655 s (by omega) (by omega), x655, e9]
  have r657 : (F152_0 0 (Int32.toInt64 (q.1 656 s)) q).1 657 s = q.1 657 s := f1.1 657 s (by omega) (by omega)
  have r39 : (F152_0 0 (Int32.toInt64 (q.1 656 s)) q).1 650 39 = q.1 650 39 := g0.1 650 39 (by decide) (by omega)
  have v1 : varM va (F152_0 0 (Int32.toInt64 (q.1 656 s)) q) := fun v hv => by
    rw [g0.1 680 v (by decide) (by omega), g0.2.1 681 v (by decide) (by omega)]; exact hV v hv
  have F : F182_0 (nI s) q = F182_76 (nI s) (F152_0 0 (Int32.toInt64 (q.1 656 s)) q) := by
    unfold F182_0
    rw [cs, x655, e9, if_neg z2, if_neg z3, if_neg z6]
  have S : S182_76 (nI s) (F152_0 0 (Int32.toInt64 (q.1 656 s)) q) → S182_0 (nI s) q := by
    intro z
    unfold S182_0
    rw [cs, x655, e9]
    exact ⟨vs, fun z => absurd z z2, fun _ => ⟨vs, fun z => absurd z z3, fun _ => ⟨vs, fun z => absurd z z6, fun _ => ⟨vs, trivial, z⟩⟩⟩⟩
  rw [F]
  generalize hQ : F152_0 0 (Int32.toInt64 (q.1 656 s)) q = Q at *
  by_cases c1 : k = 1
  · subst c1
    obtain ⟨e, x1, x2, x3, x4⟩ := d1 rfl
    have ce : (nI e).toNatClampNeg = e := nI_clamp (by omega)
    have z1 : nI 1 = 1 := rfl
    have q38 : Q.2 650 38 = lI (e : Int) := by rw [g38, x4, toI64, nI_toInt (by omega)]
    obtain ⟨s1, q', s2, s3, s4, s5, s6⟩ := fin96 (va := va) (r := ((0, (e : Int)), tk)) (f1.iP h) hs v1 (Or.inr (Or.inl ⟨rfl, e, x1, x2, rfl⟩)) (by rw [g37]; rfl) (fun _ => q38) (by rw [g42, h4]) (Or.inl rfl)
    have spE : sp q fd va tk s = tl Q va s ((0, (e : Int)), tk) := by
      rw [tl_fr f1]
      unfold sp tl
      rw [e9, if_pos z1, if_pos (Or.inl rfl), x3, ce]
      have : ek (0, (e : Int)) = e := Int.toNat_natCast e
      rw [this]
    rw [spE]
    refine ⟨S ?_, q', ?_, f1.tr s3, s4, s5, s6.trans r39⟩
    · unfold S182_76
      rw [cs, r655]
      exact ⟨vs, fun _ => s1, fun z => absurd z1 z⟩
    · unfold F182_76
      rw [cs, r655, if_pos z1]
      exact s2
  · have z1 := n1 c1
    have hk : k = 0 ∨ k = 4 ∨ k = 5 := by omega
    obtain ⟨e, x1, x2, x3⟩ := de hk
    have h60 := hE.1
    have ce : (nI e).toNatClampNeg = e := nI_clamp (by omega)
    have R : runR Q va Q := ⟨fun _ _ _ _ => rfl, fun _ => rfl, rfl, v1⟩
    obtain ⟨w1, w2, w3, w4, w5⟩ := F181_eq (f1.iE hE) (f1.iN hN) hv x1 ht R (g42.trans h4)
    have evE : ev Q va fd 15 e tk = ev q va fd 15 e tk := ev_fr (fun c j z => f1.1 c j (by omega) (by omega)) 15 e tk
    rw [evE] at w3 w4 w5
    have f2 : frM Q (F181_0 (nI e) Q) := ⟨fun c j a b => w2.1 c j (by omega) (by omega), fun c j a b => w2.2 c j (by omega) (by omega)⟩
    have v2 : varM va (F181_0 (nI e) Q) := fun v hv => by
      rw [w2.1 680 v (by omega) (by omega), w2.2 681 v (by omega) (by omega)]; exact v1 v hv
    have k9 : (F181_0 (nI e) Q).1 9 s = nI k := by rw [f2.1 9 s (by omega) (by omega), f1.1 9 s (by omega) (by omega), e9]
    obtain ⟨s1, q', s2, s3, s4, s5, s6⟩ := fin96 (va := va) (r := ev q va fd 15 e tk) (f2.iP (f1.iP h)) hs v2 (ev_ok hE hN hv 15 e tk x1).r4 w4 w5 w3 (Or.inr (Or.inr (by rw [k9]; rcases hk with rfl | rfl | rfl <;> decide)))
    have spE : sp q fd va tk s = tl (F181_0 (nI e) Q) va s (ev q va fd 15 e tk) := by
      rw [tl_fr f2, tl_fr f1]
      unfold sp tl
      rw [e9, if_neg z1, if_neg z2, if_neg z3, if_neg z6, x2, ce]
    rw [spE]
    refine ⟨S ?_, q', ?_, f1.tr (f2.tr s3), s4, s5, ?_⟩
    · unfold S182_76
      rw [cs, r655, r657, x3]
      exact ⟨vs, fun z => absurd z z1, fun _ => ⟨vs, w1, s1⟩⟩
    · unfold F182_76
      rw [cs, r655, if_neg z1, r657, x3]
      exact s2
    · rw [s6, w2.1 650 39 (by omega) (by omega), r39]
end
