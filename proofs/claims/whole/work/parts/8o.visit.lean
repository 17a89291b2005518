/-! one visit: the class, statements that work an expression out -/
section
variable {q Q : aQ} {nE n m fd : Nat} {o p : Nat → Nat} {σ σ2 : Nat → Nat → Pc} {A A2 W W2 : Nat → Bool}
def tB (t : Bool) : Nat := if t = true then 0 else 1
def mayB (t : Bool) (P : Pc) : Bool := if t = true then hasTr P else hasFa P
theorem mayB_v {t : Bool} {P : Pc} (h : mayB t P = true) : hasV P = true := by
  unfold mayB at h
  split at h
  · exact hasTr_v h
  · exact hasFa_v h
theorem fw_nr {s : Nat} {x : Nat → Pc} {t : Bool} (hk : q.1 9 s = 4 ∨ q.1 9 s = 5) (h : mayB t (PE q x (xe q s)).1 = true) : fw q s x (en q s (tB t)) (nr2 q (xe q s) t x x) := by
  cases t with
  | true => exact Or.inr (Or.inr (Or.inr (Or.inr (Or.inr (Or.inl ⟨hk, h, rfl, rfl⟩)))))
  | false => exact Or.inr (Or.inr (Or.inr (Or.inr (Or.inr (Or.inr ⟨hk, h, rfl, rfl⟩)))))
theorem mayB_mono {t : Bool} {P S : Pc} (h : leP P S) (k : mayB t P = true) : mayB t S = true := by
  unfold mayB at *
  split
  · rename_i c; rw [if_pos c] at k; exact hasTr_mono h k
  · rename_i c; rw [if_neg c] at k; exact hasFa_mono h k
theorem stAt.ok' {q : aQ} {a : Nat} {x : Nat → Pc} (h : stAt q a x) : stOk x := fun v hv => (h v hv).2
/-- the narrowed state flows -/
theorem F55_eq (hE : iE q nE) (h : iP q nE n m o p) {s : Nat} {t : Bool} (hs : s < n) (hr : rch (σ s)) (h0 : okF σ) (hk : q.1 9 s = 4 ∨ q.1 9 s = 5) (hM : memC q Q σ2 A2 W2) (hR : rea q s σ A W σ2 A2 W2) (hv : mayB t (PE q (σ s) (xe q s)).1 = true) (hp : q.1 2 (xe q s) = 4 ∨ q.1 2 (xe q s) = 5 → pcAt Q (42 + 3 * rgt q (xe q s)) (PE q (σ s) (rgt q (xe q s))).1) : S55_0 (nI s) (bI t) Q ∧ ∃ σ' W', memC q (F55_0 (nI s) (bI t) Q) σ' A2 W' ∧ rea q s σ A W σ' A2 W' ∧ leF σ2 σ' ∧ leS (nr2 q (xe q s) t (σ s) (σ s)) (σ' (en q s (tB t))) ∧ (∀ c j, 42 ≤ c ∧ c ≤ 221 → (F55_0 (nI s) (bI t) Q).1 c j = Q.1 c j) := by
  have h24 := h.1
  have cs : (nI s).toNatClampNeg = s := nI_clamp (by omega)
  have vs : vp_in (nI s) 24 := nI_in24 hs h24
  have vs5 : vp_in (nI s) 25 := vp_in_nI (by omega) (by decide)
  obtain ⟨e1, e2, -⟩ := xe_lt hE h hs (Or.inr hk)
  have hx := h0 s (by omega)
  obtain ⟨c1, c2⟩ := F60_eq (a := 21) (hM.1 s (by omega)) (by unfold apS; omega)
  have M1 := hM.pass c1
  have r11 : (F60_0 21 (222 + 17 * s) Q).1 11 s = nI (xe q s) := by rw [M1.2.2.2.1 11 s (by omega)]; exact e2
  obtain ⟨d1, d2⟩ := F109_eq (t := t) (x := σ2 s) (z := σ s) hE e1 hx M1.ex c1.1 (fun w => ⟨(hp w).fr (fun c j z => c1.2.1 c j (by omega)), (cond_v hE hx e1 w (mayB_v hv)).2⟩)
  have M2 := M1.pass d2
  have tlt : tB t < 2 := by unfold tB; split <;> omega
  obtain ⟨f1, f2⟩ := F42_eq (M2.iP h) hs (b := tB t) tlt
  rw [M2.en] at f1
  have tl := en_lt h hs (b := tB t) tlt
  obtain ⟨g1, g2, g3⟩ := F51_eq M2 (t := en q s (tB t)) (a := 21) (y := nr2 q (xe q s) t (σ2 s) (σ s)) (by omega) (Or.inl rfl) d2.1
  have F : F55_0 (nI s) (bI t) Q = F51_0 21 (nI (en q s (tB t))) (F109_0 21 (nI (xe q s)) (bI t) (F60_0 21 (222 + 17 * s) Q)) := by
    unfold F55_0 F55_13 F55_34 F55_53
    rw [cs, r11]
    cases t with
    | true => rw [if_neg (show ¬ bI true = 0 by decide)]; rw [show F42_0 (nI s) 0 _ = nI (en q s (tB true)) from f1]
    | false => rw [if_pos (show bI false = 0 from rfl)]; rw [show F42_0 (nI s) 1 _ = nI (en q s (tB false)) from f1]
  have S : S55_0 (nI s) (bI t) Q := by
    unfold S55_0 S55_13 S55_34 S55_53
    rw [cs, r11]
    refine ⟨vs5, c2, vs, d1, ?_⟩
    cases t with
    | true =>
      rw [show F42_0 (nI s) 0 _ = nI (en q s (tB true)) from f1]
      exact ⟨fun w => absurd w (by decide), fun _ => ⟨f2, g1, trivial⟩⟩
    | false =>
      rw [show F42_0 (nI s) 1 _ = nI (en q s (tB false)) from f1]
      exact ⟨fun _ => ⟨f2, g1, trivial⟩, fun w => absurd (show bI false = 0 from rfl) w⟩
  rw [F]
  have le1 : leS (σ s) (σ2 s) := hR.1 s (by omega)
  refine ⟨S, _, _, g2, hR.flow (by omega) d2.1.ok' (fun μ B a b c d => ?_), gro_le, (nr2_mono hE e1 le1 leS.rf).tr gro_t, fun c j z => ?_⟩
  · have u := d (rch_mono (b s (by omega)) hx hr)
    have m := PE_mono hE (b s (by omega)) e1
    exact (nr2_mono hE e1 (c s (by omega)) (b s (by omega))).tr (u.1 _ _ (fw_nr hk (mayB_mono m.1 hv)))
  · rw [g3 c j (by omega), d2.2.1 c j (by omega), c1.2.1 c j (by omega)]
/-- the assigned state flows -/
theorem F54_eq (hE : iE q nE) (h : iP q nE n m o p) {s : Nat} (hs : s < n) (hr : rch (σ s)) (h0 : okF σ) (hk : q.1 9 s = 0) (hM : memC q Q σ2 A2 W2) (hR : rea q s σ A W σ2 A2 W2) (hp : pcAt Q (42 + 3 * xe q s) (PE q (σ s) (xe q s)).1) : S54_0 (nI s) (42 + 3 * xe q s) Q ∧ ∃ σ' W', memC q (F54_0 (nI s) (42 + 3 * xe q s) Q) σ' A2 W' ∧ rea q s σ A W σ' A2 W' ∧ leF σ2 σ' ∧ (hasV (PE q (σ s) (xe q s)).1 = true → leS (upS (σ s) (vr q s) (PE q (σ s) (xe q s)).1) (σ' (bh q s))) := by
  have h24 := h.1
  have h60 := hE.1
  have cs : (nI s).toNatClampNeg = s := nI_clamp (by omega)
  have vs : vp_in (nI s) 24 := nI_in24 hs h24
  have vs5 : vp_in (nI s) 25 := vp_in_nI (by omega) (by decide)
  obtain ⟨e1, e2, -⟩ := xe_lt hE h hs (Or.inl hk)
  obtain ⟨v5, v10, -⟩ := (kd_d h hs).1 hk
  have hx := h0 s (by omega)
  have okP' := PE_ok hE hx e1
  have f67 := F67_eq hp okP'.1
  unfold F54_0 S54_0
  rw [f67]
  by_cases hv : hasV (PE q (σ s) (xe q s)).1 = true
  · rw [hv, if_neg (show ¬ bI true = 0 by decide), cs]
    obtain ⟨c1, c2⟩ := F60_eq (a := 21) (hM.1 s (by omega)) (by unfold apS; omega)
    have M1 := hM.pass c1
    have p1 : pcAt (F60_0 21 (222 + 17 * s) Q) (42 + 3 * xe q s) (PE q (σ s) (xe q s)).1 := hp.fr (fun c j z => c1.2.1 c j (by omega))
    have r10 : (F60_0 21 (222 + 17 * s) Q).1 10 s = nI (vr q s) := by rw [M1.2.2.2.1 10 s (by omega)]; exact v10
    have cv : (nI (vr q s)).toNatClampNeg = vr q s := nI_clamp (by omega)
    have vv : vp_in (nI (vr q s)) 5 := vp_in_nI v5 (by decide)
    obtain ⟨d1, d2⟩ := F64_eq (p := 23 + 3 * vr q s) p1 (by unfold apt; omega)
    have u2 : updS (F60_0 21 (222 + 17 * s) Q) (F64_0 (23 + 3 * vr q s) (42 + 3 * xe q s) (F60_0 21 (222 + 17 * s) Q)) 21 (upS (σ2 s) (vr q s) (PE q (σ s) (xe q s)).1) := by
      refine ⟨fun w hw => ?_, fun c j n => d1.2.1 c j (by omega), d1.2.2⟩
      unfold upS
      by_cases e : w = vr q s
      · rw [if_pos e, e]; exact ⟨d1.1, okP'.1⟩
      · rw [if_neg e]
        exact ⟨(c1.1 w hw).1.fr (fun c j z => d1.2.1 c j (by omega)), (c1.1 w hw).2⟩
    have M2 := M1.pass u2
    obtain ⟨f1, f2⟩ := F43_eq (M2.iP h) hs
    rw [M2.bh] at f1
    have tl := bh_lt h hs
    obtain ⟨g1, g2, g3⟩ := F51_eq M2 (t := bh q s) (a := 21) (y := upS (σ2 s) (vr q s) (PE q (σ s) (xe q s)).1) (by omega) (Or.inl rfl) u2.1
    unfold F54_20 F54_41 S54_20 S54_41
    rw [cs, r10, cv, f1]
    have le1 : leS (σ s) (σ2 s) := hR.1 s (by omega)
    refine ⟨⟨S67_ok, fun w => absurd w (by decide), fun _ => ⟨vs5, c2, vs, vv, d2, f2, g1, trivial⟩⟩, _, _, g2, hR.flow (by omega) u2.1.ok' (fun μ B a b c d => ?_), gro_le, fun _ => (upS_mono le1 leP.rf).tr gro_t⟩
    have u := d (rch_mono (b s (by omega)) hx hr)
    have m := PE_mono hE (b s (by omega)) e1
    exact (upS_mono (c s (by omega)) m.1).tr (u.1 _ _ (Or.inr (Or.inl ⟨hk, hasV_mono m.1 hv, rfl, rfl⟩)))
  · have hv' : hasV (PE q (σ s) (xe q s)).1 = false := by simpa using hv
    rw [hv', if_pos (show bI false = 0 from rfl)]
    exact ⟨⟨S67_ok, fun _ => trivial, fun w => absurd (show bI false = 0 from rfl) w⟩, _, _, hM, hR, leF.rf, fun w => by cases w⟩
theorem visit_expr (hE : iE q nE) (h : iP q nE n m o p) {s : Nat} (hs : s < n) (hr : rch (σ s)) (hM : memC q Q σ A W) (hk : q.1 9 s = 0 ∨ q.1 9 s = 4 ∨ q.1 9 s = 5) : S53_0 (nI s) Q ∧ ∃ σ' A' W', memC q (F53_0 (nI s) Q) σ' A' W' ∧ rea q s σ A W σ' A' W' ∧ don q s (σ s) σ' A' := by
  have h24 := h.1
  have h60 := hE.1
  have cs : (nI s).toNatClampNeg = s := nI_clamp (by omega)
  have vs : vp_in (nI s) 24 := nI_in24 hs h24
  have vs5 : vp_in (nI s) 25 := vp_in_nI (by omega) (by decide)
  obtain ⟨e1, e2, -⟩ := xe_lt hE h hs hk
  have ce : (nI (xe q s)).toNatClampNeg = xe q s := nI_clamp (by omega)
  have ve : vp_in (nI (xe q s)) 60 := vp_in_nI (by omega) (by decide)
  have h0 := hM.ok
  have hx := h0 s (by omega)
  obtain ⟨w, w1, w2, w3, -⟩ := iE_w hE e1
  obtain ⟨Q1, a1, a2, a3, a4, a5, a6⟩ := F102_eq (sa := 222 + 17 * s) hE hx (by omega) 17 (xe q s) 1 w Q e1 w3 (by omega) (by omega) hM.ex (hM.1 s (by omega))
  have a2' : F102 17 (nI (xe q s)) (222 + 17 * s) 1 Q = (erM (PE q (σ s) (xe q s)).2, Q1) := a2
  have a1' : S102 17 (nI (xe q s)) (222 + 17 * s) 1 Q := a1
  have M1 := hM.pnt a3
  have n1 : ¬ q.1 9 s = 1 := by rcases hk with z | z | z <;> rw [z] <;> decide
  obtain ⟨f1, σ2, A2, W2, f2, f3, f4, f5, f6, f7⟩ := F56_eq (mk := erM (PE q (σ s) (xe q s)).2) hE h hs hr h0 (fun k b1 b2 => by
    rw [bit_e _ k b1 b2]
    unfold er
    constructor
    · rintro w (⟨e, -⟩ | ⟨-, e⟩)
      · exact n1 e
      · exact w e
    · intro w e
      exact w (Or.inr ⟨hk, e⟩)) M1 (rea.rf (q := q) (s := s) h0)
  have r9 : (F56_0 (nI s) (erM (PE q (σ s) (xe q s)).2) Q1).1 9 s = q.1 9 s := f2.2.2.2.1 9 s (by omega)
  have r11 : Q.1 11 s = nI (xe q s) := by rw [hM.2.2.2.1 11 s (by omega)]; exact e2
  have pc2 : pcAt (F56_0 (nI s) (erM (PE q (σ s) (xe q s)).2) Q1) (42 + 3 * xe q s) (PE q (σ s) (xe q s)).1 := a4.fr (fun c j z => f6 c j (by omega))
  have okP' := PE_ok hE hx e1
  have F : F53_0 (nI s) Q = F53_30 (nI s) (nI (xe q s)) (F56_0 (nI s) (erM (PE q (σ s) (xe q s)).2) Q1) := by
    unfold F53_0 F53_27
    rw [cs, r11, a2']
  have S : S53_30 (nI s) (nI (xe q s)) (F56_0 (nI s) (erM (PE q (σ s) (xe q s)).2) Q1) → S53_0 (nI s) Q := by
    intro z
    unfold S53_0 S53_27
    rw [cs, r11, a2']
    exact ⟨vs, vs5, a1', f1, z⟩
  rw [F]
  -- errors and alarms
  have fin : ∀ σ' A', leF σ2 σ' → leA A2 A' → (∀ t y, fw q s (σ s) t y → (∃ k c, 1 ≤ k ∧ k ≤ 4 ∧ er q s (σ s) k ∧ ct q s (nI k) = some c ∧ t = en q c 1 ∧ y = σ s) ∨ leS y (σ' t)) → don q s (σ s) σ' A' := by
    intro σ' A' l1 l2 hf
    refine ⟨fun t y f => ?_, fun k f => ?_⟩
    · rcases hf t y f with ⟨k, c, b1, b2, b3, b4, b5, b6⟩ | b
      · have hcl := ct_lt h hs b4
        have tl := en_lt h hcl.1 (b := 1) (by decide)
        rw [b5, b6]
        exact ((f7 k b1 b2 b3).1 c b4).tr (l1 _ (by omega))
      · exact b
    · have hk4 := f.2.1
      exact l2 _ (by omega) ((f7 k f.1 f.2.1 f.2.2.1).2 f.2.2.2)
  unfold F53_30
  rw [cs, r9, ce]
  by_cases k0 : q.1 9 s = 0
  · obtain ⟨g1, σ', W', g2, g3, g4, g5⟩ := F54_eq hE h hs hr h0 k0 f2 f3 pc2
    rw [if_pos k0]
    refine ⟨S ?_, σ', A2, W', g2, g3, fin σ' A2 g4 (fun _ _ => id) (fun t y f => ?_)⟩
    · unfold S53_30
      rw [cs, r9, ce]
      exact ⟨ve, vs, fun _ => ⟨g1, trivial⟩, fun z => absurd k0 z⟩
    · have n0 : ∀ b : Int32, b ≠ 0 → ¬ q.1 9 s = b := fun b hb w => hb (w.symm.trans k0)
      rcases f with f | ⟨b1, b2, b3, b4⟩ | ⟨b1, -⟩ | ⟨b1, -⟩ | ⟨b1, -⟩ | ⟨b1, -⟩ | ⟨b1, -⟩
      · exact Or.inl f
      · rw [b3, b4]; exact Or.inr (g5 b2)
      · exact absurd b1 (n0 2 (by decide))
      · exact absurd b1 (n0 3 (by decide))
      · exact absurd b1 (n0 6 (by decide))
      · rcases b1 with b1 | b1
        · exact absurd b1 (n0 4 (by decide))
        · exact absurd b1 (n0 5 (by decide))
      · rcases b1 with b1 | b1
        · exact absurd b1 (n0 4 (by decide))
        · exact absurd b1 (n0 5 (by decide))
  · have k45 : q.1 9 s = 4 ∨ q.1 9 s = 5 := hk.resolve_left k0
    rw [if_neg k0]
    have rp2 : ∀ Q2, (∀ c j, 42 ≤ c ∧ c ≤ 221 → Q2.1 c j = (F56_0 (nI s) (erM (PE q (σ s) (xe q s)).2) Q1).1 c j) → hasV (PE q (σ s) (xe q s)).1 = true → (q.1 2 (xe q s) = 4 ∨ q.1 2 (xe q s) = 5 → pcAt Q2 (42 + 3 * rgt q (xe q s)) (PE q (σ s) (rgt q (xe q s))).1) := by
      intro Q2 hQ hv w
      obtain ⟨w', wa, o1, o2, o3, -⟩ := op_of hE e1 (op45 w).1
      have o3' := o3 (op45 w).2.1
      exact (a6 (op45 w).1 (op45 w).2.1 (cond_v hE hx e1 w hv).1).fr (fun c j z => by rw [hQ c j (by omega), f6 c j (by omega)])
    have fwc : ∀ σ' : Nat → Nat → Pc, (mayB true (PE q (σ s) (xe q s)).1 = true → leS (nr2 q (xe q s) true (σ s) (σ s)) (σ' (en q s 0))) → (mayB false (PE q (σ s) (xe q s)).1 = true → leS (nr2 q (xe q s) false (σ s) (σ s)) (σ' (en q s 1))) → ∀ t y, fw q s (σ s) t y → (∃ k c, 1 ≤ k ∧ k ≤ 4 ∧ er q s (σ s) k ∧ ct q s (nI k) = some c ∧ t = en q c 1 ∧ y = σ s) ∨ leS y (σ' t) := by
      intro σ' c1 c2 t y f
      have n0 : ∀ b : Int32, b ≠ 4 → b ≠ 5 → ¬ q.1 9 s = b := fun b hb hb2 w => k45.elim (fun z => hb (w.symm.trans z)) (fun z => hb2 (w.symm.trans z))
      rcases f with f | ⟨b1, -⟩ | ⟨b1, -⟩ | ⟨b1, -⟩ | ⟨b1, -⟩ | ⟨b1, b2, b3, b4⟩ | ⟨b1, b2, b3, b4⟩
      · exact Or.inl f
      · exact absurd b1 (n0 0 (by decide) (by decide))
      · exact absurd b1 (n0 2 (by decide) (by decide))
      · exact absurd b1 (n0 3 (by decide) (by decide))
      · exact absurd b1 (n0 6 (by decide) (by decide))
      · rw [b3, b4]; exact Or.inr (c1 b2)
      · rw [b3, b4]; exact Or.inr (c2 b2)
    -- the second half: the condition may be false
    have half : ∀ Q2 σ3 W3, memC q Q2 σ3 A2 W3 → rea q s σ A W σ3 A2 W3 → leF σ2 σ3 → (∀ c j, 42 ≤ c ∧ c ≤ 221 → Q2.1 c j = (F56_0 (nI s) (erM (PE q (σ s) (xe q s)).2) Q1).1 c j) → (mayB true (PE q (σ s) (xe q s)).1 = true → leS (nr2 q (xe q s) true (σ s) (σ s)) (σ3 (en q s 0))) → S53_72 (nI s) (42 + 3 * xe q s) Q2 ∧ ∃ σ' A' W', memC q (F53_72 (nI s) (42 + 3 * xe q s) Q2) σ' A' W' ∧ rea q s σ A W σ' A' W' ∧ don q s (σ s) σ' A' := by
      intro Q2 σ3 W3 hM3 hR3 hl hQ hT
      have pc3 : pcAt Q2 (42 + 3 * xe q s) (PE q (σ s) (xe q s)).1 := pc2.fr (fun c j z => hQ c j (by omega))
      unfold F53_72 S53_72
      rw [F71_eq pc3 okP'.1]
      by_cases hf : hasFa (PE q (σ s) (xe q s)).1 = true
      · obtain ⟨g1, σ', W', g2, g3, g4, g5, g6⟩ := F55_eq (t := false) hE h hs hr h0 k45 hM3 hR3 hf (rp2 Q2 hQ (hasFa_v hf))
        have tl := en_lt h hs (b := 0) (by decide)
        rw [hf, if_neg (show ¬ bI true = 0 by decide)]
        exact ⟨⟨S71_ok, fun w => absurd w (by decide), fun _ => ⟨g1, trivial⟩⟩, σ', A2, W', g2, g3, fin σ' A2 (hl.tr g4) (fun _ _ => id) (fwc σ' (fun z => (hT z).tr (g4 _ (by omega))) (fun _ => g5))⟩
      · have hf' : hasFa (PE q (σ s) (xe q s)).1 = false := by simpa using hf
        rw [hf', if_pos (show bI false = 0 from rfl)]
        exact ⟨⟨S71_ok, fun _ => trivial, fun w => absurd (show bI false = 0 from rfl) w⟩, σ3, A2, W3, hM3, hR3, fin σ3 A2 hl (fun _ _ => id) (fwc σ3 hT (fun z => absurd z hf))⟩
    rw [F70_eq pc2 okP'.1]
    by_cases ht : hasTr (PE q (σ s) (xe q s)).1 = true
    · obtain ⟨g1, σ3, W3, g2, g3, g4, g5, g6⟩ := F55_eq (t := true) hE h hs hr h0 k45 f2 f3 ht (rp2 _ (fun _ _ _ => rfl) (hasTr_v ht))
      obtain ⟨k1, σ', A', W', k2, k3, k4⟩ := half _ σ3 W3 g2 g3 g4 g6 (fun _ => g5)
      rw [ht, if_neg (show ¬ bI true = 0 by decide)]
      refine ⟨S ?_, σ', A', W', k2, k3, k4⟩
      unfold S53_30
      rw [cs, r9, ce, F70_eq pc2 okP'.1, ht]
      exact ⟨ve, vs, fun z => absurd z k0, fun _ => ⟨S70_ok, fun w => absurd w (by decide), fun _ => ⟨g1, k1⟩⟩⟩
    · have ht' : hasTr (PE q (σ s) (xe q s)).1 = false := by simpa using ht
      obtain ⟨k1, σ', A', W', k2, k3, k4⟩ := half _ σ2 W2 f2 f3 leF.rf (fun _ _ _ => rfl) (fun z => absurd z ht)
      rw [ht', if_pos (show bI false = 0 from rfl)]
      refine ⟨S ?_, σ', A', W', k2, k3, k4⟩
      unfold S53_30
      rw [cs, r9, ce, F70_eq pc2 okP'.1, ht']
      exact ⟨ve, vs, fun z => absurd z k0, fun _ => ⟨S70_ok, fun _ => k1, fun w => absurd (show bI false = 0 from rfl) w⟩⟩
end
