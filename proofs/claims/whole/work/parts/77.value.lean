/-! the model works an expression out: all of it -/
section
variable {q : aQ} {nE fd : Nat} {va : Nat → Nat × Int}
theorem post_s {f e : Nat} : post q (f + 1) e = if q.1 2 e = -1 then [e] else if 6 ≤ opn q e then post q f (lft q e) ++ [e] else post q f (lft q e) ++ post q f (rgt q e) ++ [e] := rfl
theorem vp_stop {n i wa w : Nat} {r : (Nat × Int) × Nat} {Q Q1 : aQ} (h : vpost n i wa r Q Q1) (hs : r.1.1 = 0 ∨ r.1.1 = 9) (hw : wa ≤ w) : vpost n i w r Q Q1 := by
  obtain ⟨h1, h2, h3, h4⟩ := h
  obtain ⟨h5, h6, h7⟩ := h4 hs
  refine ⟨h1, h2, fun z => absurd hs z, fun _ => ⟨fun F => ?_, fun F => ?_, h7⟩⟩
  · rw [show w + F = wa + (w - wa + F) by omega]; exact h5 _
  · rw [show w + F = wa + (w - wa + F) by omega]; exact h6 _
theorem vp_seq {n i wa wb w : Nat} {r1 r : (Nat × Int) × Nat} {Q Q1 Q2 : aQ} (h : vpost n i wa r1 Q Q1) (hn : ¬ (r1.1.1 = 0 ∨ r1.1.1 = 9)) (k : vpost (n + 1) (i + wa) wb r Q1 Q2) (hs : r.1.1 = 0 ∨ r.1.1 = 9) (hw : wa + wb ≤ w) : vpost n i w r Q Q2 := by
  obtain ⟨h1, h2, h3, h4⟩ := h
  obtain ⟨a1, a2, -⟩ := h3 hn
  obtain ⟨k1, k2, k3, k4⟩ := k
  obtain ⟨b1, b2, b3⟩ := k4 hs
  refine ⟨h1.tr (k1.dn (Nat.le_succ n)), k2, fun z => absurd hs z, fun _ => ⟨fun F => ?_, fun F => ?_, b3⟩⟩
  · rw [show w + F = wa + (wb + (w - wa - wb + F)) by omega, a1]; exact b1 _
  · rw [show w + F = wa + (wb + (w - wa - wb + F)) by omega]; exact a2 _ (b2 _)
theorem vp_op {n i w0 k t : Nat} {r : Nat × Int} {Q Q1 Q2 : aQ} (A : ∀ F, a_it B181 (w0 + F) (nI n, nI i, Q) = a_it B181 F (nI (n + k), nI (i + w0), Q1)) (A2 : ∀ F, a_sf B181 U181 F (nI (n + k), nI (i + w0), Q1) → a_sf B181 U181 (w0 + F) (nI n, nI i, Q)) (f : frV n Q Q1) (h42 : Q1.1 650 42 = nI t) (h : opost n (i + w0) k r Q1 Q2) : vpost n i (w0 + 1) (r, t) Q Q2 := by
  obtain ⟨h1, h2, h3, h4, h5⟩ := h
  refine ⟨f.tr h1, h2.trans h42, fun z => ?_, fun z => ?_⟩
  · obtain ⟨g1, g2⟩ := h4 z
    refine ⟨fun F => ?_, fun F hF => ?_, g2⟩
    · rw [show w0 + 1 + F = w0 + (F + 1) by omega, A, it_s g1]; rfl
    · rw [show w0 + 1 + F = w0 + (F + 1) by omega]; exact A2 _ (sf_s g1 h3 hF)
  · obtain ⟨g1, g2⟩ := h5 z
    refine ⟨fun F => ?_, fun F => ?_, g2⟩
    · rw [show w0 + 1 + F = w0 + (F + 1) by omega, A, it_e g1]
    · rw [show w0 + 1 + F = w0 + (F + 1) by omega]; exact A2 _ (sf_e g1 h3)
theorem val_run (hE : iE q nE) (hN : iN q fd) (hv : vaOk va) : ∀ f e w n i tk Q T, e < nE → q.1 7 e = nI w → w ≤ f → w ≤ 15 → tOk Q i (post q f e) → Q.1 650 43 = nI T → i + w ≤ T → T ≤ 15 → n + w ≤ 16 → tk ≤ fd → runR q va Q → Q.1 650 42 = nI tk → ∃ Q', vpost n i w (ev q va fd f e tk) Q Q' := by
  have h60 := hE.1
  intro f
  induction f with
  | zero =>
    intro e w n i tk Q T he hw hwf hw15
    obtain ⟨w', w1, w2, w3, -⟩ := iE_w hE he
    have := nI_inj (b := w') (by omega) (by omega) (hw.symm.trans w3)
    omega
  | succ f ih =>
    intro e w n i tk Q T he hw hwf hw15 htok h43 hiT hT hnw ht hR h42
    by_cases h : q.1 2 e = -1
    · have ep : post q (f + 1) e = [e] := by rw [post_s, if_pos h]
      have ee : ev q va fd (f + 1) e tk = lfv q va fd e tk := by unfold ev; rw [if_pos h]
      have hl : w = 1 := by
        have := post_len hE (f + 1) e w he hw15 hw hwf
        rw [ep] at this
        exact this.symm
      subst hl
      rw [ep] at htok
      rw [ee]
      exact tok_leaf hE he h hN hv ht hR h42 (by omega) (by omega) hT h43 htok.1
    · obtain ⟨w', wa, o1, o2, o3, o4, o5, o6, o7, o8, o9, o10, o11, o12, o13, o14, o15, o16⟩ := op_of hE he h
      have ew : w = w' := nI_inj (by omega) (by omega) (hw.symm.trans o10)
      subst ew
      have ha : wa + 1 ≤ w := by
        by_cases g : opn q e ≤ 5
        · obtain ⟨wb, g1, g2, g3⟩ := o16 g; omega
        · have := o15 (by omega); omega
      have x651 : ∀ Q', frV n Q Q' → Q'.1 651 e = nI (10 + opn q e) := fun Q' hf => ((hf.1 651 e (by decide) (by omega)).trans (hR.1 651 e (by decide) (by decide))).trans o5
      have la : (post q f (lft q e)).length = wa := post_len hE f (lft q e) wa (by omega) (by omega) o13 (by omega)
      have L : ∀ x, tOk Q i (post q f (lft q e) ++ x) → ∃ Q1, vpost n i wa (ev q va fd f (lft q e) tk) Q Q1 ∧ tOk Q1 (i + wa) x := by
        intro x hx
        rw [tOk_app, la] at hx
        obtain ⟨Q1, v1⟩ := ih (lft q e) wa n i tk Q T (by omega) o13 (by omega) (by omega) hx.1 h43 (by omega) hT (by omega) ht hR h42
        exact ⟨Q1, v1, v1.1.tok _ _ hx.2⟩
      have oka := ev_ok hE hN hv f (lft q e) tk (by omega)
      have tka : (ev q va fd f (lft q e) tk).2 ≤ fd := tk_le f (lft q e) tk ht
      have ee : ev q va fd (f + 1) e tk = if (ev q va fd f (lft q e) tk).1.1 = 0 ∨ (ev q va fd f (lft q e) tk).1.1 = 9 then ev q va fd f (lft q e) tk
    else if 6 ≤ opn q e then (cap (wk (opn q e) (ev q va fd f (lft q e) tk).1.1 (ev q va fd f (lft q e) tk).1.2 4 0), (ev q va fd f (lft q e) tk).2)
    else if (ev q va fd f (rgt q e) (ev q va fd f (lft q e) tk).2).1.1 = 0 ∨ (ev q va fd f (rgt q e) (ev q va fd f (lft q e) tk).2).1.1 = 9 then ev q va fd f (rgt q e) (ev q va fd f (lft q e) tk).2
    else (cap (wk (opn q e) (ev q va fd f (lft q e) tk).1.1 (ev q va fd f (lft q e) tk).1.2 (ev q va fd f (rgt q e) (ev q va fd f (lft q e) tk).2).1.1 (ev q va fd f (rgt q e) (ev q va fd f (lft q e) tk).2).1.2), (ev q va fd f (rgt q e) (ev q va fd f (lft q e) tk).2).2) := by
        rw [show ev q va fd (f + 1) e tk = if q.1 2 e = -1 then lfv q va fd e tk else _ from rfl, if_neg h]
      rw [ee]
      generalize hra : ev q va fd f (lft q e) tk = ra at *
      by_cases hs : ra.1.1 = 0 ∨ ra.1.1 = 9
      · rw [if_pos hs]
        by_cases g6 : 6 ≤ opn q e
        · have ep : post q (f + 1) e = post q f (lft q e) ++ [e] := by rw [post_s, if_neg h, if_pos g6]
          rw [ep] at htok
          obtain ⟨Q1, v1, -⟩ := L _ htok
          exact ⟨Q1, vp_stop v1 hs (by omega)⟩
        · have ep : post q (f + 1) e = post q f (lft q e) ++ (post q f (rgt q e) ++ [e]) := by rw [post_s, if_neg h, if_neg g6, List.append_assoc]
          rw [ep] at htok
          obtain ⟨Q1, v1, -⟩ := L _ htok
          exact ⟨Q1, vp_stop v1 hs (by omega)⟩
      · rw [if_neg hs]
        have vka := rOk_v oka hs
        by_cases g6 : 6 ≤ opn q e
        · have ep : post q (f + 1) e = post q f (lft q e) ++ [e] := by rw [post_s, if_neg h, if_pos g6]
          have e15 := o15 g6
          rw [ep] at htok
          rw [if_pos g6]
          obtain ⟨Q1, v1, tk1⟩ := L _ htok
          obtain ⟨c1, c2, c3, -⟩ := v1
          obtain ⟨d1, d2, d3, d4, d5, d6⟩ := c3 hs
          obtain ⟨Q2, v2⟩ := tok_one (e := e) (n := n) (i := i + wa) (T := T) (o := opn q e) (Q := Q1) (by omega) g6 o1 (x651 Q1 c1) (by omega) (by omega) hT ((c1.1 650 43 (by decide) (by omega)).trans h43) tk1.1 vka d3 d4
          refine ⟨Q2, ?_⟩
          rw [show w = wa + 1 by omega]
          exact vp_op d1 d2 c1 c2 v2
        · have ep : post q (f + 1) e = post q f (lft q e) ++ (post q f (rgt q e) ++ [e]) := by rw [post_s, if_neg h, if_neg g6, List.append_assoc]
          obtain ⟨wb, g2, g3, g4⟩ := o16 (by omega)
          have o3' := o3 (by omega)
          clear o16 o15 o8 o9 o3
          rw [ep] at htok
          rw [if_neg g6]
          obtain ⟨Q1, v1, tk1⟩ := L _ htok
          have v1' := v1
          obtain ⟨c1, c2, c3, -⟩ := v1
          obtain ⟨d1, d2, d3, d4, d5, d6⟩ := c3 hs
          have lb : (post q f (rgt q e)).length = wb := post_len hE f (rgt q e) wb (by omega) (by omega) g2 (by omega)
          rw [tOk_app, lb] at tk1
          have h43' : Q1.1 650 43 = nI T := (c1.1 650 43 (by decide) (by omega)).trans h43
          obtain ⟨Q2, v2⟩ := ih (rgt q e) wb (n + 1) (i + wa) ra.2 Q1 T (by omega) g2 (by omega) (by omega) tk1.1 h43' (by omega) hT (by omega) tka (c1.run hR) c2
          have okb := ev_ok hE hN hv f (rgt q e) ra.2 (by omega)
          generalize hrb : ev q va fd f (rgt q e) ra.2 = rb at *
          by_cases hs2 : rb.1.1 = 0 ∨ rb.1.1 = 9
          · rw [if_pos hs2]
            exact ⟨Q2, vp_seq v1' hs v2 hs2 (by omega)⟩
          · rw [if_neg hs2]
            have vkb := rOk_v okb hs2
            have tk2 := v2.1.tok _ _ tk1.2
            obtain ⟨k1, k2, k3, -⟩ := v2
            obtain ⟨m1, m2, m3, m4, m5, m6⟩ := k3 hs2
            have f2 : frV n Q Q2 := c1.tr (k1.dn (Nat.le_succ n))
            obtain ⟨Q3, v3⟩ := tok_two (e := e) (n := n) (i := i + (wa + wb)) (T := T) (o := opn q e) (Q := Q2) (by omega) (by omega) (x651 Q2 f2) (by omega) (by omega) hT ((k1.1 650 43 (by decide) (by omega)).trans h43') (by rw [← Nat.add_assoc]; exact tk2.1) vka vkb ((k1.2.2 n (Nat.lt_succ_self n)).1.trans d3) ((k1.2.2 n (Nat.lt_succ_self n)).2.trans d4) m3 m4
            refine ⟨Q3, ?_⟩
            rw [show w = wa + wb + 1 by omega]
            refine vp_op (fun F => ?_) (fun F hF => ?_) f2 k2 v3
            · rw [Nat.add_assoc, d1, m1, Nat.add_assoc, Nat.add_assoc]
            · rw [Nat.add_assoc]
              refine d2 _ (m2 _ ?_)
              rw [Nat.add_assoc, Nat.add_assoc]
              exact hF
/-- what working out changes -/
def frW (Q Q' : aQ) : Prop := (∀ c j, ¬ (682 ≤ c ∧ c ≤ 684) → ¬ (c = 650 ∧ (j = 37 ∨ j = 42 ∨ j = 43)) → Q'.1 c j = Q.1 c j) ∧ (∀ c j, ¬ c = 685 → ¬ (c = 650 ∧ j = 38) → Q'.2 c j = Q.2 c j)
/-- the code of a result's type -/
def rT (t : Nat) : Int32 := if t = 9 then -1 else nI t
theorem F181_eq (hE : iE q nE) (hN : iN q fd) (hv : vaOk va) {e tk : Nat} {Q : aQ} (he : e < nE) (ht : tk ≤ fd) (hR : runR q va Q) (h42 : Q.1 650 42 = nI tk) : S181_0 (nI e) Q ∧ frW Q (F181_0 (nI e) Q) ∧ (F181_0 (nI e) Q).1 650 42 = nI (ev q va fd 15 e tk).2 ∧ (F181_0 (nI e) Q).1 650 37 = rT (ev q va fd 15 e tk).1.1 ∧ ((ev q va fd 15 e tk).1.1 ≠ 9 → (F181_0 (nI e) Q).2 650 38 = lI (ev q va fd 15 e tk).1.2) := by
  have h60 := hE.1
  obtain ⟨w, w1, w2, w3, w4⟩ := iE_w hE he
  obtain ⟨s1, s2, s3, s4, s5⟩ := F179_eq hE he w2 w3 w4 hR.1
  have R1 : runR q va (F179_0 (nI e) Q) := by
    obtain ⟨r1, r2, r3, r4⟩ := hR
    refine ⟨fun c j a b => (s4 c j (by omega) (by omega) (by omega)).trans (r1 c j a b), fun j => (s4 664 j (by omega) (by omega) (by omega)).trans (r2 j), (s4 650 16 (by omega) (by omega) (by omega)).trans r3, fun v hv => ?_⟩
    rw [s4 680 v (by omega) (by omega) (by omega), s5]
    exact r4 v hv
  obtain ⟨Q', v⟩ := val_run hE hN hv 15 e w 0 0 tk (F179_0 (nI e) Q) w he w3 w2 w2 s2 s3 (by omega) w2 (by omega) ht R1 ((s4 650 42 (by omega) (by omega) (by omega)).trans h42)
  have fW : frW Q Q' := by
    refine ⟨fun c j a b => ?_, fun c j a b => ?_⟩
    · rw [v.1.1 c j (by omega) (by omega), s4 c j (by omega) (by omega) (by omega)]
    · rw [v.1.2.1 c j a b, s5]
  obtain ⟨v1, v2, v3, v4⟩ := v
  have eF : ∀ x : aQ ⊕ aQ, a_it B181 200 (0, 0, F179_0 (nI e) Q) = some x → F181_0 (nI e) Q = (match x with | .inl a => a | .inr a => a) := by
    intro x hx
    unfold F181_0 F181_5
    have := a_lp_eq (e0 := .inl (F179_0 (nI e) Q)) hx
    have t : a_lp (fun (s : Int32 × Int32 × aQ) => F181_9 s.1 s.2.1 s.2.2) 200 (0, 0, F179_0 (nI e) Q) (.inl (F179_0 (nI e) Q)) = x := this
    rw [t]
    cases x <;> rfl
  have eS : ∀ x : aQ ⊕ aQ, a_it B181 200 (0, 0, F179_0 (nI e) Q) = some x → a_sf B181 U181 200 (0, 0, F179_0 (nI e) Q) → S181_0 (nI e) Q := by
    intro x hx hs
    unfold S181_0 S181_5
    have := a_lp_eq (e0 := .inl (F179_0 (nI e) Q)) hx
    have t : a_lp (fun (s : Int32 × Int32 × aQ) => F181_9 s.1 s.2.1 s.2.2) 200 (0, 0, F179_0 (nI e) Q) (.inl (F179_0 (nI e) Q)) = x := this
    rw [t]
    refine ⟨s1, hs, ?_⟩
    cases x <;> trivial
  by_cases hs : (ev q va fd 15 e tk).1.1 = 0 ∨ (ev q va fd 15 e tk).1.1 = 9
  · obtain ⟨b1, b2, b3, b4⟩ := v4 hs
    have c1 := b1 (200 - w)
    have c2 := b2 (200 - w)
    rw [show w + (200 - w) = 200 by omega] at c1 c2
    rw [eF _ c1]
    refine ⟨eS _ c1 c2, fW, v2, ?_, fun z => ?_⟩
    · unfold rT
      rcases hs with g | g
      · rw [if_neg (by omega), g]; exact (b4 g).1
      · rw [if_pos g]; exact b3 g
    · rcases hs with g | g
      · exact (b4 g).2
      · exact absurd g z
  · obtain ⟨b1, b2, b3, b4, b5, b6⟩ := v3 hs
    have en : B181 (nI (0 + 1), nI (0 + w), Q') = .inr (.inl Q') := by
      show F181_9 (nI (0 + 1)) (nI (0 + w)) Q' = _
      unfold F181_9
      rw [v1.1 650 43 (by decide) (by omega), s3, if_pos (nI_le (by omega) (by omega))]
    have es : U181 (nI (0 + 1), nI (0 + w), Q') := by
      show S181_9 (nI (0 + 1)) (nI (0 + w)) Q'
      unfold S181_9
      rw [v1.1 650 43 (by decide) (by omega), s3]
      exact ⟨fun _ => trivial, fun z => absurd (nI_le (by omega) (by omega)) z⟩
    have c1 := (b1 (199 - w + 1)).trans (it_e en)
    have c2 := b2 (199 - w + 1) (sf_e en es)
    rw [show w + (199 - w + 1) = 200 by omega] at c1 c2
    rw [eF _ c1]
    refine ⟨eS _ c1 c2, fW, v2, ?_, fun _ => b6⟩
    unfold rT
    rw [if_neg (by omega)]
    exact b5
end
