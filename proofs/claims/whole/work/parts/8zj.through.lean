/-! the model passes through a condition -/
section
variable {q Q : aQ} {nE n m e : Nat} {o p : Nat → Nat} {σ σ5 : Nat → Nat → Pc} {A A5 R R5 : Nat → Bool} {c c5 : Bool} {x y : Nat → Pc}
/-- the narrowed state, if the condition may be t, flows -/
theorem cond_flow (hE : iE q nE) (h : iP q nE n m o p) {s : Nat} {t : Bool} (hs : s < n) (hk : q.1 9 s = 4 ∨ q.1 9 s = 5) (hσ : okF σ) (hfσ : full (σ s)) (hM : memM q Q σ5 A5 R5 c5) (hR : reM q s σ A c σ5 A5 R5 c5) (hx : stOk x) (hfx : full x) (hxs : leS x (σ5 s)) (hmay : mayB t (PE q x (xe q s)).1 = true) (hh : hereAt Q (nr2 q (xe q s) t x x)) : S172_0 (nI (en q s (tB t))) Q ∧ ∃ c', memM q (F172_0 (nI (en q s (tB t))) Q) (gro σ5 (en q s (tB t)) (nr2 q (xe q s) t x x)) A5 (onR R5 (en q s (tB t))) c' ∧ reM q s σ A c (gro σ5 (en q s (tB t)) (nr2 q (xe q s) t x x)) A5 (onR R5 (en q s (tB t))) c' := by
  have h24 := h.1
  obtain ⟨e1, e2, e3⟩ := xe_lt hE h hs (Or.inr hk)
  have tlt : tB t < 2 := by unfold tB; split <;> omega
  have tl := en_lt h hs (b := tB t) tlt
  have okN : stOk (nr2 q (xe q s) t x x) := nr2_ok hx
  obtain ⟨k1, c', k2, k3, k4, k5⟩ := F172_eq (t := en q s (tB t)) (by omega) hM okN hh
  refine ⟨k1, c', k2, hR.flow (by omega) hM.ok (hM.2.2.1 _ (by omega)) okN (nr2_full hE e1 hx hfx hmay) k4 (fun μ B a b d ee => ?_)⟩
  have le : leS x (μ s) := hxs.tr (d s (by omega))
  have u := ee (rch_mono (b s (by omega)) (hσ s (by omega)) ⟨0, by decide, hfσ 0 (by decide)⟩)
  have mm := PE_mono hE le e1
  exact (nr2_mono hE e1 le le).tr (u.1 _ _ (fw_nr hk (mayB_mono mm.1 hmay)))
theorem half2 (hE : iE q nE) (h : iP q nE n m o p) {s : Nat} (hs : s < n) (hk : q.1 9 s = 4 ∨ q.1 9 s = 5) (hσ : okF σ) (hfσ : full (σ s)) (hM : memM q Q σ5 A5 R5 c5) (hR : reM q s σ A c σ5 A5 R5 c5) (hr : R5 s = true) : S174_287 (nI s) Q ∧ ∃ σ' R' c', memM q (F174_287 (nI s) Q) σ' A5 R' c' ∧ reM q s σ A c σ' A5 R' c' ∧ leF σ5 σ' ∧ (mayB false (PE q (σ s) (xe q s)).1 = true → leS (nr2 q (xe q s) false (σ s) (σ s)) (σ' (en q s 1))) := by
  have h24 := h.1
  have h60 := hE.1
  have cs : (nI s).toNatClampNeg = s := nI_clamp (by omega)
  have vs : vp_in (nI s) 24 := nI_in24 hs h24
  obtain ⟨e1, e2, e3⟩ := xe_lt hE h hs (Or.inr hk)
  have hx5 := hM.ok s (by omega)
  have hf5 : full (σ5 s) := hR.2.2.2.2 s (by omega) hr
  have le5 : leS (σ s) (σ5 s) := hR.1 s (by omega)
  obtain ⟨a1, a2, a3⟩ := F170_eq (show s < 25 by omega) hM hr
  have M1 := hM.fh a2
  obtain ⟨b1, b2, b3, b4⟩ := F166_eq hE e1 hx5 M1.ex a3
  have M2 := M1.fh b2.fh
  have H2 := a3.fx b2
  have okE := PE_ok hE hx5 e1
  obtain ⟨d1, Q3, d2, d3⟩ := F167_eq (t := false) (show xe q s < 60 by omega) okE.1 b3.1
  have M3 := M2.fh d3.fh
  have H3 := H2.fx d3.fx
  have x657a : (F170_0 (nI s) Q).1 657 s = nI (xe q s) := by rw [M1.2.2.2.2.2.2.1 657 s (by omega)]; exact e3
  have x657b : (F166_0 (nI (xe q s)) (F170_0 (nI s) Q)).1 657 s = nI (xe q s) := by rw [M2.2.2.2.2.2.2.1 657 s (by omega)]; exact e3
  have x657c : Q3.1 657 s = nI (xe q s) := by rw [M3.2.2.2.2.2.2.1 657 s (by omega)]; exact e3
  have d2' : F167_0 (nI (xe q s)) 0 (F166_0 (nI (xe q s)) (F170_0 (nI s) Q)) = (bI (mayB false (PE q (σ5 s) (xe q s)).1), Q3) := d2
  have d1' : S167_0 (nI (xe q s)) 0 (F166_0 (nI (xe q s)) (F170_0 (nI s) Q)) := d1
  have F : F174_287 (nI s) Q = F174_313 (nI s) (bI (mayB false (PE q (σ5 s) (xe q s)).1)) Q3 := by
    unfold F174_287 F174_292 F174_302
    rw [cs, x657a, x657b, d2']
  have S : S174_313 (nI s) (bI (mayB false (PE q (σ5 s) (xe q s)).1)) Q3 → S174_287 (nI s) Q := by
    intro z
    unfold S174_287 S174_292 S174_302
    rw [cs, x657a, x657b, d2']
    exact ⟨a1, vs, b1, vs, d1', z⟩
  rw [F]
  cases hm : mayB false (PE q (σ5 s) (xe q s)).1 with
  | false =>
    rw [hm] at S
    unfold F174_313
    rw [if_pos (show bI false = 0 from rfl)]
    refine ⟨S ⟨fun _ => trivial, fun z => absurd (show bI false = 0 from rfl) z⟩, σ5, R5, c5, M3, hR, leF.rf, fun z => ?_⟩
    have := mayB_mono (PE_mono hE le5 e1).1 z
    rw [hm] at this; cases this
  | true =>
    rw [hm] at S
    have kp : ∀ k r, mpE (F166_0 (nI (xe q s)) (F170_0 (nI s) Q)) k r → mpE Q3 k r := fun k r z => ⟨z.1.fr (d3.1 671 k (by decide) (by decide) (by omega)) (fun j _ => d3.1 672 _ (by decide) (by decide) (by omega)), by rw [d3.1 673 k (by decide) (by decide) (by omega)]; exact z.2⟩
    obtain ⟨g1, g2, g3⟩ := F168_eq (t := false) hE e1 hx5 M3.ex H3 (kp _ _ b3) (fun z w => kp _ _ (b4 z w))
    have g1 : S168_0 (nI (xe q s)) 0 Q3 := g1
    have g2 : frH Q3 (F168_0 (nI (xe q s)) 0 Q3) := g2
    have g3 : hereAt (F168_0 (nI (xe q s)) 0 Q3) (nr2 q (xe q s) false (σ5 s) (σ5 s)) := g3
    have M4 := M3.fh g2
    obtain ⟨k1, c', k2, k3⟩ := cond_flow (t := false) hE h hs hk hσ hfσ M4 hR hx5 hf5 leS.rf hm g3
    have x655 : (F168_0 (nI (xe q s)) 0 Q3).1 655 s = q.1 9 s := by rw [M4.2.2.2.2.2.2.1 655 s (by omega)]; exact (h.2.2.2.2.2.2.1 s hs).1
    have tl := en_lt h hs (b := 1) (by decide)
    have FS : F174_327 (nI s) (F168_0 (nI (xe q s)) 0 Q3) = F172_0 (nI (en q s 1)) (F168_0 (nI (xe q s)) 0 Q3) ∧ S174_327 (nI s) (F168_0 (nI (xe q s)) 0 Q3) := by
      unfold F174_327 S174_327 F174_352 S174_352
      rw [cs, x655]
      by_cases k5 : q.1 9 s = 5
      · obtain ⟨f1, f2⟩ := F146_eq (M4.iP h) hs
        rw [M4.bh, ← en_loop h hs k5] at f1
        rw [if_pos k5, f1]
        exact ⟨rfl, vs, fun _ => ⟨f2, k1, trivial⟩, fun z => absurd k5 z⟩
      · obtain ⟨f1, f2⟩ := F147_eq (M4.iP h) hs (b := 1) (by decide) (fun _ => by rw [M4.2.2.2.2.2.2.1 9 s (by omega)]; exact k5)
        rw [M4.en] at f1
        have f1 : F147_0 (nI s) 1 (F168_0 (nI (xe q s)) 0 Q3) = nI (en q s 1) := f1
        rw [if_neg k5, f1]
        exact ⟨rfl, vs, fun z => absurd z k5, fun _ => ⟨f2, k1, trivial⟩⟩
    unfold F174_313
    rw [if_neg (show ¬ bI true = 0 by decide), cs, x657c, FS.1]
    refine ⟨S ?_, _, _, c', k2, k3, gro_le, fun _ => (nr2_mono hE e1 le5 le5).tr gro_t⟩
    unfold S174_313
    rw [cs, x657c]
    exact ⟨fun z => absurd z (by decide), fun _ => ⟨vs, g1, FS.2⟩⟩
theorem thru_cond (hE : iE q nE) (h : iP q nE n m o p) {s : Nat} (hs : s < n) (hM : memM q Q σ A R c) (hg : ∀ p, p < 25 → R p = true → full (σ p)) (hr : R s = true) (hh : hereAt Q (σ s)) (hk : q.1 9 s = 4 ∨ q.1 9 s = 5) : S174_5 (nI s) Q ∧ thru q s σ A c (F174_5 (nI s) Q) := by
  have h24 := h.1
  have h60 := hE.1
  have cs : (nI s).toNatClampNeg = s := nI_clamp (by omega)
  have vs : vp_in (nI s) 24 := nI_in24 hs h24
  have x655 : Q.1 655 s = q.1 9 s := by rw [hM.2.2.2.2.2.2.1 655 s (by omega)]; exact (h.2.2.2.2.2.2.1 s hs).1
  obtain ⟨e1, e2, e3⟩ := xe_lt hE h hs (Or.inr hk)
  have ce : (nI (xe q s)).toNatClampNeg = xe q s := nI_clamp (by omega)
  have ve : vp_in (nI (xe q s)) 60 := vp_in_nI (by omega) (by decide)
  have x657 : Q.1 657 s = nI (xe q s) := by rw [hM.2.2.2.2.2.2.1 657 s (by omega)]; exact e3
  have hσ := hM.ok
  have hx := hσ s (by omega)
  have hf := hg s (by omega) hr
  obtain ⟨a1, a2, a3, a4, σ2, A2, R2, c2, M2, H2, R2', D2, r2, m2, m2r⟩ := thru_first hE h hs hM hg hr hh (Or.inr hk)
  have okE := PE_ok hE hx e1
  have n0 : ¬ q.1 9 s = 0 := by rcases hk with z | z <;> rw [z] <;> decide
  have n1 : ¬ q.1 9 s = 1 := by rcases hk with z | z <;> rw [z] <;> decide
  have n2 : ¬ q.1 9 s = 2 := by rcases hk with z | z <;> rw [z] <;> decide
  have n3 : ¬ q.1 9 s = 3 := by rcases hk with z | z <;> rw [z] <;> decide
  have n6 : ¬ q.1 9 s = 6 := by rcases hk with z | z <;> rw [z] <;> decide
  have F236 : F174_236 (nI s) (F166_0 (nI (xe q s)) Q) = F174_252 (nI s) (F173_0 (nI s) (erM (PE q (σ s) (xe q s)).2) (F166_0 (nI (xe q s)) Q)) := by
    unfold F174_236
    rw [cs, a4, ce, a2]
  have S236 : S174_252 (nI s) (F173_0 (nI s) (erM (PE q (σ s) (xe q s)).2) (F166_0 (nI (xe q s)) Q)) → S174_236 (nI s) (F166_0 (nI (xe q s)) Q) := by
    intro z
    unfold S174_236
    rw [cs, a4, ce, a2]
    exact ⟨vs, ve, a3, z⟩
  have F5 : F174_5 (nI s) Q = F174_252 (nI s) (F173_0 (nI s) (erM (PE q (σ s) (xe q s)).2) (F166_0 (nI (xe q s)) Q)) := by
    unfold F174_5
    rw [cs, x655, if_neg n0, if_neg n1, if_neg n2, if_neg n3, x657, F236]
    rcases hk with z | z
    · rw [if_pos z]
    · rw [if_neg (by rw [z]; decide), if_pos z]
  have S5 : S174_252 (nI s) (F173_0 (nI s) (erM (PE q (σ s) (xe q s)).2) (F166_0 (nI (xe q s)) Q)) → S174_5 (nI s) Q := by
    intro w
    unfold S174_5
    rw [cs, x655, x657]
    refine ⟨vs, fun y => absurd y n0, fun _ => ⟨fun y => absurd y n1, fun _ => ⟨fun y => absurd y n2, fun _ => ⟨fun y => absurd y n3, fun _ => ⟨fun _ => ⟨vs, a1, S236 w⟩, fun y4 => ⟨fun _ => ⟨vs, a1, S236 w⟩, fun y5 => ⟨fun y => absurd y n6, fun _ => ⟨vs, a1, S236 w⟩⟩⟩⟩⟩⟩⟩⟩
  rw [F5]
  generalize F173_0 (nI s) (erM (PE q (σ s) (xe q s)).2) (F166_0 (nI (xe q s)) Q) = Q2 at *
  have y657 : Q2.1 657 s = nI (xe q s) := by rw [M2.2.2.2.2.2.2.1 657 s (by omega)]; exact e3
  obtain ⟨d1, Q3, d2, d3⟩ := F167_eq (t := true) (show xe q s < 60 by omega) okE.1 m2.1
  have d2' : F167_0 (nI (xe q s)) 1 Q2 = (bI (mayB true (PE q (σ s) (xe q s)).1), Q3) := d2
  have d1' : S167_0 (nI (xe q s)) 1 Q2 := d1
  have M3 := M2.fh d3.fh
  have H3 := H2.fx d3.fx
  have x657c : Q3.1 657 s = nI (xe q s) := by rw [M3.2.2.2.2.2.2.1 657 s (by omega)]; exact e3
  have F252 : F174_252 (nI s) Q2 = F174_263 (nI s) (bI (mayB true (PE q (σ s) (xe q s)).1)) Q3 := by
    unfold F174_252
    rw [cs, y657, d2']
  have S252 : S174_263 (nI s) (bI (mayB true (PE q (σ s) (xe q s)).1)) Q3 → S174_252 (nI s) Q2 := by
    intro z
    unfold S174_252
    rw [cs, y657, d2']
    exact ⟨vs, d1', z⟩
  rw [F252]
  -- what flows from a condition
  have fin : ∀ σ', leF σ2 σ' → (mayB true (PE q (σ s) (xe q s)).1 = true → leS (nr2 q (xe q s) true (σ s) (σ s)) (σ' (en q s 0))) → (mayB false (PE q (σ s) (xe q s)).1 = true → leS (nr2 q (xe q s) false (σ s) (σ s)) (σ' (en q s 1))) → don q s (σ s) σ' A2 := by
    intro σ' l1 c1 c2
    refine ⟨fun t y f => ?_, fun k f => ?_⟩
    · rcases f with ⟨k, d, b1, b2, b3, b4, b5, b6⟩ | ⟨b1, -⟩ | ⟨b1, -⟩ | ⟨b1, -⟩ | ⟨b1, -⟩ | ⟨b1, b2, b3, b4⟩ | ⟨b1, b2, b3, b4⟩
      · have hcl := ct_lt h hs b4
        have tl := en_lt h hcl.1 (b := 1) (by decide)
        rw [b5, b6]
        exact ((D2 k b1 b2 b3).1 d b4).tr (l1 _ (by omega))
      · exact absurd b1 n0
      · exact absurd b1 n2
      · exact absurd b1 n3
      · exact absurd b1 n6
      · rw [b3, b4]; exact c1 b2
      · rw [b3, b4]; exact c2 b2
    · exact (D2 k f.1 f.2.1 f.2.2.1).2 f.2.2.2
  cases hm : mayB true (PE q (σ s) (xe q s)).1 with
  | false =>
    rw [hm] at S252
    obtain ⟨g1, σ', R', c', g2, g3, g4, g5⟩ := half2 hE h hs hk hσ hf M3 R2' r2
    unfold F174_263
    rw [if_pos (show bI false = 0 from rfl)]
    refine ⟨S5 (S252 ?_), σ', A2, R', c', g2, g3, fin σ' g4 (fun z => by rw [hm] at z; cases z) g5⟩
    exact ⟨fun _ => g1, fun z => absurd (show bI false = 0 from rfl) z⟩
  | true =>
    rw [hm] at S252
    have kp : ∀ k r, mpE Q2 k r → mpE Q3 k r := fun k r z => ⟨z.1.fr (d3.1 671 k (by decide) (by decide) (by omega)) (fun j _ => d3.1 672 _ (by decide) (by decide) (by omega)), by rw [d3.1 673 k (by decide) (by decide) (by omega)]; exact z.2⟩
    obtain ⟨g1, g2, g3⟩ := F168_eq (t := true) hE e1 hx M3.ex H3 (kp _ _ m2) (fun z w => kp _ _ (m2r z w))
    have g1 : S168_0 (nI (xe q s)) 1 Q3 := g1
    have g2 : frH Q3 (F168_0 (nI (xe q s)) 1 Q3) := g2
    have g3 : hereAt (F168_0 (nI (xe q s)) 1 Q3) (nr2 q (xe q s) true (σ s) (σ s)) := g3
    have M4 := M3.fh g2
    obtain ⟨k1, c4, k2, k3⟩ := cond_flow (t := true) hE h hs hk hσ hf M4 R2' hx hf (R2'.1 s (by omega)) hm g3
    have k1 : S172_0 (nI (en q s 0)) (F168_0 (nI (xe q s)) 1 Q3) := k1
    have k2 : memM q (F172_0 (nI (en q s 0)) (F168_0 (nI (xe q s)) 1 Q3)) _ A2 (onR R2 (en q s 0)) c4 := k2
    obtain ⟨f1, f2⟩ := F147_eq (M4.iP h) hs (b := 0) (by decide) (fun z => by cases z)
    rw [M4.en] at f1
    have f1 : F147_0 (nI s) 0 (F168_0 (nI (xe q s)) 1 Q3) = nI (en q s 0) := f1
    have f2 : S147_0 (nI s) 0 (F168_0 (nI (xe q s)) 1 Q3) := f2
    have r4 : onR R2 (en q s 0) s = true := by unfold onR; split; rfl; exact r2
    obtain ⟨w1, σ', R', c', w2, w3, w4, w5⟩ := half2 hE h hs hk hσ hf k2 k3 r4
    have tl := en_lt h hs (b := 0) (by decide)
    unfold F174_263 F174_277
    rw [if_neg (show ¬ bI true = 0 by decide), cs, x657c, f1]
    refine ⟨S5 (S252 ?_), σ', A2, R', c', w2, w3, fin σ' (gro_le.tr w4) (fun _ => gro_t.tr (w4 (en q s 0) (by omega))) w5⟩
    unfold S174_263 S174_277
    rw [cs, x657c, f1]
    exact ⟨fun z => absurd z (by decide), fun _ => ⟨vs, g1, f2, k1, w1⟩⟩
/-- passing through s -/
theorem F174_eq (hE : iE q nE) (h : iP q nE n m o p) {s : Nat} (hs : s < n) (hM : memM q Q σ A R c) (hg : ∀ p, p < 25 → R p = true → full (σ p)) (hr : R s = true) : S174_0 (nI s) Q ∧ thru q s σ A c (F174_0 (nI s) Q) := by
  have h24 := h.1
  obtain ⟨a1, a2, a3⟩ := F170_eq (show s < 25 by omega) hM hr
  have M1 := hM.fh a2
  unfold S174_0 F174_0
  by_cases k0 : q.1 9 s = 0
  · obtain ⟨b1, b2⟩ := thru_asgn hE h hs M1 hg hr a3 k0
    exact ⟨⟨a1, b1⟩, b2⟩
  · by_cases k45 : q.1 9 s = 4 ∨ q.1 9 s = 5
    · obtain ⟨b1, b2⟩ := thru_cond hE h hs M1 hg hr a3 k45
      exact ⟨⟨a1, b1⟩, b2⟩
    · obtain ⟨b1, b2⟩ := thru_plain hE h hs M1 hg hr a3 (fun z => z.elim k0 k45)
      exact ⟨⟨a1, b1⟩, b2⟩
end
