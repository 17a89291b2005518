/-! the model works an expression out, token by token -/
def B181 (s : Int32 × Int32 × aQ) : (Int32 × Int32 × aQ) ⊕ (aQ ⊕ aQ) := F181_9 s.1 s.2.1 s.2.2
def U181 (s : Int32 × Int32 × aQ) : Prop := S181_9 s.1 s.2.1 s.2.2
/-- from place i on, w tokens: the stack's place n then holds the result r, or the loop ends -/
def vpost (n i w : Nat) (r : (Nat × Int) × Nat) (Q Q' : aQ) : Prop := frV n Q Q' ∧ Q'.1 650 42 = nI r.2 ∧ (¬ (r.1.1 = 0 ∨ r.1.1 = 9) → (∀ F, a_it B181 (w + F) (nI n, nI i, Q) = a_it B181 F (nI (n + 1), nI (i + w), Q')) ∧ (∀ F, a_sf B181 U181 F (nI (n + 1), nI (i + w), Q') → a_sf B181 U181 (w + F) (nI n, nI i, Q)) ∧ Q'.1 684 n = nI r.1.1 ∧ Q'.2 685 n = lI r.1.2 ∧ Q'.1 650 37 = nI r.1.1 ∧ Q'.2 650 38 = lI r.1.2) ∧ ((r.1.1 = 0 ∨ r.1.1 = 9) → (∀ F, a_it B181 (w + F) (nI n, nI i, Q) = some (.inr Q')) ∧ (∀ F, a_sf B181 U181 (w + F) (nI n, nI i, Q)) ∧ (r.1.1 = 9 → Q'.1 650 37 = -1) ∧ (r.1.1 = 0 → Q'.1 650 37 = 0 ∧ Q'.2 650 38 = lI r.1.2))
theorem nI_s2 {n : Nat} : nI (n + 2) - 2 = nI n := by
  rw [← nI_add]
  exact Int32.add_sub_cancel _ _
theorem nI_s1 {n : Nat} : nI (n + 1) - 1 = nI n := by
  rw [← nI_add]
  exact Int32.add_sub_cancel _ _
theorem nI_s10 {n : Nat} : nI (10 + n) - 10 = nI n := by
  rw [Nat.add_comm, ← nI_add]
  exact Int32.add_sub_cancel _ _
section
variable {q : aQ} {nE fd : Nat} {va : Nat → Nat × Int}
theorem lfv_n9 {e tk : Nat} (hE : iE q nE) (he : e < nE) (h : q.1 2 e = -1) (hv : vaOk va) : (lfv q va fd e tk).1.1 ≠ 9 := by
  obtain ⟨hl, -⟩ := leaf_of hE he h
  unfold lfv
  rcases hl with ⟨a, b, c⟩ | ⟨a, b, c⟩ | a | ⟨a, v, b, c⟩ | a
  · rw [a, if_pos rfl]; show ¬ (1 : Nat) = 9; omega
  · rw [a, if_neg (by decide), if_pos rfl]; show ¬ (2 : Nat) = 9; omega
  · rw [a, if_neg (by decide), if_neg (by decide), if_pos rfl]; show ¬ (4 : Nat) = 9; omega
  · rw [a, if_neg (by decide), if_neg (by decide), if_neg (by decide), if_pos rfl, c, nI_clamp (by omega)]
    split
    · show ¬ (0 : Nat) = 9; omega
    · rcases hv v b with g | g
      · have := g.lt.2.2; show ¬ (va v).1 = 9; omega
      · rw [g]; show ¬ (8 : Nat) = 9; omega
  · rw [a, if_neg (by decide), if_neg (by decide), if_neg (by decide), if_neg (by decide)]
    split <;> (show ¬ (1 : Nat) = 9; omega)
theorem tok_leaf {e tk n i T : Nat} {Q : aQ} (hE : iE q nE) (he : e < nE) (h : q.1 2 e = -1) (hN : iN q fd) (hv : vaOk va) (ht : tk ≤ fd) (hR : runR q va Q) (h42 : Q.1 650 42 = nI tk) (hn : n < 16) (hi : i < T) (hT : T ≤ 15) (h43 : Q.1 650 43 = nI T) (hk : Q.1 682 i = nI e) : ∃ Q', vpost n i 1 (lfv q va fd e tk) Q Q' := by
  have h60 := hE.1
  obtain ⟨hl, l1, l2⟩ := leaf_of hE he h
  have ce : (nI e).toNatClampNeg = e := nI_clamp (by omega)
  have ci : (nI i).toNatClampNeg = i := nI_clamp (by omega)
  have ve : vp_in (nI e) 60 := vp_in_nI (by omega) (by decide)
  have vi : vp_in (nI i) 16 := vp_in_nI (by omega) (by decide)
  have x651 : Q.1 651 e = q.1 3 e := (hR.1 651 e (by decide) (by decide)).trans l1
  have n10 : ¬ (10 : Int32) ≤ q.1 3 e := Int32.not_le.mpr (leaf_lt10 hl)
  have nT : ¬ nI T ≤ nI i := nI_ge hi (by omega)
  obtain ⟨s1, s2, s3, s4, s5⟩ := F180_eq (n := n) hE he h hN hv ht hR h42
  have ok := lfv_ok (tk := tk) hE he h hN hv
  have n9 := lfv_n9 (fd := fd) (tk := tk) hE he h hv
  have eB : B181 (nI n, nI i, Q) = F181_174 (nI n) (nI i) (F180_0 (nI e) Q) := by
    show F181_9 (nI n) (nI i) Q = _
    unfold F181_9 F181_43
    rw [h43, if_neg nT, ci, hk, ce, x651, if_neg n10]
  have eS : S181_174 (nI n) (nI i) (F180_0 (nI e) Q) → U181 (nI n, nI i, Q) := by
    intro z
    show S181_9 (nI n) (nI i) Q
    unfold S181_9 S181_43
    rw [h43, ci, hk, ce, x651]
    exact ⟨fun z => absurd z nT, fun _ => ⟨vi, ve, fun z => absurd z n10, fun _ => ⟨s1, z⟩⟩⟩
  by_cases h0 : (lfv q va fd e tk).1.1 = 0
  · have np := nopush (v := nI n) (i := nI i) (Q := F180_0 (nI e) Q) (by rw [s3, h0]; decide)
    rw [np.1] at eB
    have S := eS np.2
    refine ⟨_, s2, s5, fun z => absurd (Or.inl h0) z, fun _ => ⟨fun F => ?_, fun F => ?_, fun z => absurd z n9, fun _ => ⟨by rw [s3, h0]; rfl, s4⟩⟩⟩
    · rw [Nat.add_comm]; exact it_e eB
    · rw [Nat.add_comm]; exact sf_e eB S
  · have vk := rOk_v ok (by omega)
    obtain ⟨Q', p1, p2, p3, p4, p5, p6, p7, p8⟩ := push (i := i) hn s3 s4 (by omega) vk.lt.1
    rw [p1] at eB
    have S := eS p2
    refine ⟨Q', s2.tr p3, p8.trans s5, fun _ => ⟨fun F => ?_, fun F hF => ?_, p4, p5, p6, p7⟩, fun z => by omega⟩
    · rw [Nat.add_comm]; exact it_s eB
    · rw [Nat.add_comm]; exact sf_s eB S hF
/-- what a token of an operation does, from the place behind its parts -/
def opost (n i k : Nat) (r : Nat × Int) (Q Q' : aQ) : Prop := frV n Q Q' ∧ Q'.1 650 42 = Q.1 650 42 ∧ U181 (nI (n + k), nI i, Q) ∧ (¬ (r.1 = 0 ∨ r.1 = 9) → B181 (nI (n + k), nI i, Q) = .inl (nI (n + 1), nI (i + 1), Q') ∧ Q'.1 684 n = nI r.1 ∧ Q'.2 685 n = lI r.2 ∧ Q'.1 650 37 = nI r.1 ∧ Q'.2 650 38 = lI r.2) ∧ ((r.1 = 0 ∨ r.1 = 9) → B181 (nI (n + k), nI i, Q) = .inr (.inr Q') ∧ (r.1 = 9 → Q'.1 650 37 = -1) ∧ (r.1 = 0 → Q'.1 650 37 = 0 ∧ Q'.2 650 38 = lI r.2))
theorem vOk.sml {t : Nat} {x : Int} (h : vOk t x) : sm x := by have := h.lt.2.1; unfold sm; omega
theorem tok_one {e n i T o xt : Nat} {x : Int} {Q : aQ} (he : e < 60) (ho : 6 ≤ o) (ho7 : o ≤ 7) (h651 : Q.1 651 e = nI (10 + o)) (hn : n < 16) (hi : i < T) (hT : T ≤ 15) (h43 : Q.1 650 43 = nI T) (hk : Q.1 682 i = nI e) (hx : vOk xt x) (a1 : Q.1 684 n = nI xt) (a2 : Q.2 685 n = lI x) : ∃ Q', opost n i 1 (cap (wk o xt x 4 0)) Q Q' := by
  have ce : (nI e).toNatClampNeg = e := nI_clamp (by omega)
  have ci : (nI i).toNatClampNeg = i := nI_clamp (by omega)
  have cn : (nI n).toNatClampNeg = n := nI_clamp (by omega)
  have ve : vp_in (nI e) 60 := vp_in_nI (by omega) (by decide)
  have vi : vp_in (nI i) 16 := vp_in_nI (by omega) (by decide)
  have vn : vp_in (nI n) 16 := vp_in_nI (by omega) (by decide)
  have p10 : (10 : Int32) ≤ nI (10 + o) := nI_le (a := 10) (by omega) (by omega)
  have n16 : ¬ nI (10 + o) < (16 : Int32) := nI_nlt (b := 16) (by omega) (by omega)
  have nT : ¬ nI T ≤ nI i := nI_ge hi (by omega)
  have n10 : ¬ (1 : Int32) = 0 := by decide
  have hy : vOk 4 0 := Or.inr (Or.inr ⟨rfl, rfl⟩)
  have W := F154_eq (q := Q) ho7 hx.lt.1 (yt := 4) (by decide) hx.sml hy.sml
  have W1 : F154_0 (nI o) (nI xt) (lI x) 4 0 Q = _ := W.1
  have W2 : S154_0 (nI o) (nI xt) (lI x) 4 0 Q := W.2
  have fr := F152_fr (n := n) (t := nI (wk o xt x 4 0).1) (x := lI (wk o xt x 4 0).2) (Q := Q)
  obtain ⟨f0, Q', f1, f2, f3, f4⟩ := fin140 (n := n) (i := i) (t := (wk o xt x 4 0).1) (x := (wk o xt x 4 0).2) (Q := F152_0 (nI (wk o xt x 4 0).1) (lI (wk o xt x 4 0).2) Q) hn fr.2.1 fr.2.2.1 (wk_b hx hy)
  have eB : B181 (nI (n + 1), nI i, Q) = F181_140 (nI n) (nI i) (F152_0 (nI (wk o xt x 4 0).1) (lI (wk o xt x 4 0).2) Q) := by
    show F181_9 (nI (n + 1)) (nI i) Q = _
    unfold F181_9 F181_63 F181_79 F181_120 F181_137
    rw [h43, if_neg nT, ci, hk, ce, h651, if_pos p10, if_neg n16, if_neg n10, if_neg n10, if_neg n10, nI_s1, cn, a1, a2, nI_s10, W1]
  have S : U181 (nI (n + 1), nI i, Q) := by
    show S181_9 (nI (n + 1)) (nI i) Q
    unfold S181_9 S181_63 S181_79 S181_120 S181_137
    rw [h43, ci, hk, ce, h651, nI_s1, cn, a1, a2, nI_s10, W1]
    exact ⟨fun z => absurd z nT, fun _ => ⟨vi, ve, fun _ => ⟨ve, fun z => absurd z n16, fun _ => ⟨fun z => absurd z n10, fun _ => ⟨ve, vn, vn, fun z => absurd z n10, fun _ => ⟨fun z => absurd z n10, fun _ => ⟨W2, f0⟩⟩⟩⟩⟩, fun z => absurd p10 z⟩⟩
  refine ⟨Q', fr.1.tr f1, f2.trans fr.2.2.2, S, fun z => ?_, fun z => ?_⟩
  · rw [eB]; exact f3 z
  · rw [eB]; exact f4 z
theorem tok_two {e n i T o xt yt : Nat} {x y : Int} {Q : aQ} (he : e < 60) (ho : o ≤ 5) (h651 : Q.1 651 e = nI (10 + o)) (hn : n + 1 < 16) (hi : i < T) (hT : T ≤ 15) (h43 : Q.1 650 43 = nI T) (hk : Q.1 682 i = nI e) (hx : vOk xt x) (hy : vOk yt y) (a1 : Q.1 684 n = nI xt) (a2 : Q.2 685 n = lI x) (b1 : Q.1 684 (n + 1) = nI yt) (b2 : Q.2 685 (n + 1) = lI y) : ∃ Q', opost n i 2 (cap (wk o xt x yt y)) Q Q' := by
  have ce : (nI e).toNatClampNeg = e := nI_clamp (by omega)
  have ci : (nI i).toNatClampNeg = i := nI_clamp (by omega)
  have cn : (nI n).toNatClampNeg = n := nI_clamp (by omega)
  have cn1 : (nI (n + 1)).toNatClampNeg = n + 1 := nI_clamp (by omega)
  have ve : vp_in (nI e) 60 := vp_in_nI (by omega) (by decide)
  have vi : vp_in (nI i) 16 := vp_in_nI (by omega) (by decide)
  have vn : vp_in (nI n) 16 := vp_in_nI (by omega) (by decide)
  have vn1 : vp_in (nI (n + 1)) 16 := vp_in_nI (by omega) (by decide)
  have p10 : (10 : Int32) ≤ nI (10 + o) := nI_le (a := 10) (by omega) (by omega)
  have p16 : nI (10 + o) < (16 : Int32) := nI_lt (b := 16) (by omega) (by decide)
  have nT : ¬ nI T ≤ nI i := nI_ge hi (by omega)
  have W := F154_eq (q := Q) (by omega) hx.lt.1 hy.lt.1 hx.sml hy.sml (o := o)
  have W1 := W.1
  have W2 := W.2
  have fr := F152_fr (n := n) (t := nI (wk o xt x yt y).1) (x := lI (wk o xt x yt y).2) (Q := Q)
  obtain ⟨f0, Q', f1, f2, f3, f4⟩ := fin140 (n := n) (i := i) (t := (wk o xt x yt y).1) (x := (wk o xt x yt y).2) (Q := F152_0 (nI (wk o xt x yt y).1) (lI (wk o xt x yt y).2) Q) (by omega) fr.2.1 fr.2.2.1 (wk_b hx hy)
  have eB : B181 (nI (n + 2), nI i, Q) = F181_140 (nI n) (nI i) (F152_0 (nI (wk o xt x yt y).1) (lI (wk o xt x yt y).2) Q) := by
    show F181_9 (nI (n + 2)) (nI i) Q = _
    unfold F181_9 F181_63 F181_79 F181_120 F181_137
    rw [h43, if_neg nT, ci, hk, ce, h651, if_pos p10, if_pos p16, if_pos rfl, if_pos rfl, if_pos rfl, nI_s2, nI_1, cn, cn1, a1, a2, b1, b2, nI_s10, W1]
  have S : U181 (nI (n + 2), nI i, Q) := by
    show S181_9 (nI (n + 2)) (nI i) Q
    unfold S181_9 S181_63 S181_79 S181_120 S181_137
    rw [h43, ci, hk, ce, h651, nI_s2, nI_1, cn, cn1, a1, a2, b1, b2, nI_s10, W1]
    exact ⟨fun z => absurd z nT, fun _ => ⟨vi, ve, fun _ => ⟨ve, fun _ => ⟨fun _ => ⟨ve, vn, vn, fun _ => ⟨vn1, fun _ => ⟨vn1, W2, f0⟩, fun z => absurd rfl z⟩, fun z => absurd rfl z⟩, fun z => absurd rfl z⟩, fun z => absurd p16 z⟩, fun z => absurd p10 z⟩⟩
  refine ⟨Q', fr.1.tr f1, f2.trans fr.2.2.2, S, fun z => ?_, fun z => ?_⟩
  · rw [eB]; exact f3 z
  · rw [eB]; exact f4 z
end
