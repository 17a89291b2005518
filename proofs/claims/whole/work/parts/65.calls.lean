/-! otherwise, end, leave: both sides -/
section
variable {l : Launch} {X : aX} {q : aQ} {nE n m : Nat} {o p : Nat → Nat}
/-- rows of the program that no opening or closing of a block touches -/
theorem iS_same {q q2 : aQ} {nE n s : Nat} (h : iS q nE n s) (hs : s < n) (r : ∀ c j, (9 ≤ c ∧ c ≤ 15) ∨ (655 ≤ c ∧ c ≤ 662) → q2.1 c j = q.1 c j) : iS q2 nE n s := by
  obtain ⟨a1, a2, a3, a4, a5, a6, ⟨k, a7, a8, a9⟩, d, a10, a11⟩ := h
  have la' : ∀ {f s L : Nat}, s < n → la q f s L → la q2 f s L := fun hs h => la.keep (n := n) (fun s _ => r 12 s (by omega)) (fun s _ => r 9 s (by omega)) hs h
  have dp' : ∀ {d s : Nat}, s < n → dp q d s → dp q2 d s := fun hs h => dp.keep (n := n) (fun s _ => r 12 s (by omega)) hs h
  unfold iS
  simp only [r 655 s (by omega), r 9 s (by omega), r 658 s (by omega), r 12 s (by omega), r 660 s (by omega), r 14 s (by omega)]
  refine ⟨a1, a2, a3, a4, fun b hb => ?_, ?_, ⟨k, a7, a8, ?_⟩, d, a10, dp' hs a11⟩
  · rw [r 661 _ (by omega), r 15 _ (by omega)]; exact a5 b hb
  · unfold plc
    simp only [r 12 s (by omega), r 13 s (by omega), r 659 s (by omega)]
    rcases a6 with a6 | ⟨p, b, b1, b2, b3, b4, b5, k, b6, b7, b8, b9⟩
    · exact Or.inl a6
    · exact Or.inr ⟨p, b, b1, b2, b3, b4, b5, k, b6, b7, by rw [r 9 p (by omega)]; exact b8, b9⟩
  · obtain ⟨d1, d2, d3, d4, d5⟩ := a9
    unfold dt
    simp only [r 10 s (by omega), r 656 s (by omega), r 11 s (by omega), r 657 s (by omega)]
    refine ⟨d1, d2, fun hk => ?_, d4, d5⟩
    obtain ⟨L, c1, c2, c3⟩ := d3 hk
    exact ⟨L, c1, c2, la' hs c3⟩
theorem a_w_self {q : aQ} {a k : Nat} : a_w q a k (q.1 a k) = q := by
  have : (a_w q a k (q.1 a k)).1 = q.1 := by
    funext b j
    rw [w_get]
    by_cases h : b = a ∧ j = k
    · rw [if_pos h, h.1, h.2]
    · rw [if_neg h]
  exact Prod.ext this rfl
theorem end_step (h : iP q nE n m o p) : stp l X 11 144 [] q nE n m := by
  have hh := h
  obtain ⟨h24, h5, c1, c2, c3, c4, hS, hO, rest⟩ := h
  by_cases hm : m = 0
  · subst hm
    have e1 : q.1 8 11 = 0 := c3
    have e2 : q.1 650 14 = 0 := c4
    have t1 := T11 (l := l) (X := X) (d := 60) (q := q) (by decide) (by unfold S11_0 S39_0 F39_0; rw [if_pos e1]; exact ⟨⟨fun _ => trivial, fun _ => trivial⟩, Or.inl rfl, trivial⟩)
    have t2 := T144 (l := l) (X := X) (d := 60) (q := q) (by decide) (by unfold S144_0 S144_12 S144_28; rw [e2]; exact ⟨fun _ => ⟨fun _ => ⟨Or.inl rfl, trivial⟩, fun z => absurd rfl z⟩, fun z => absurd (by decide) z⟩)
    have f1 : F11_0 q = (0, q) := by unfold F11_0 F39_0; rw [if_pos e1]
    have f2 : F144_0 q = (0, q) := by
      unfold F144_0 F144_12 F144_28
      rw [e2, if_pos (by decide), if_pos rfl]
      have := a_w_self (q := q) (a := 650) (k := 14)
      rw [e2] at this
      rw [this]
    rw [f1] at t1
    rw [f2] at t2
    exact stp_no hh t1 t2
  · have e1 : ¬ q.1 8 11 = 0 := by rw [c3]; exact nI_ne0 (by omega) (by omega)
    have g1 : (a_w q 8 11 (nI (m - 1))).1 650 14 = nI m := by rw [w_ne (by decide)]; exact c4
    have e2 : ¬ nI m ≤ (0 : Int32) := nI_nle (by omega) (by omega)
    have f1 : F11_0 q = (1, a_w q 8 11 (nI (m - 1))) := by
      unfold F11_0 F39_0
      rw [if_neg e1, c3, nI_m1 hm]
    have f2 : F144_0 (a_w q 8 11 (nI (m - 1))) = (1, a_w (a_w q 8 11 (nI (m - 1))) 650 14 (nI (m - 1))) := by
      unfold F144_0 F144_12 F144_28
      rw [g1, if_neg e2, if_neg (by decide), nI_m1 hm]
    have t1 := T11 (l := l) (X := X) (d := 60) (q := q) (by decide) (by unfold S11_0 S39_0 F39_0; rw [if_neg e1]; exact ⟨⟨fun _ => trivial, fun _ => trivial⟩, Or.inr rfl, trivial⟩)
    have t2 := T144 (l := l) (X := X) (d := 60) (q := a_w q 8 11 (nI (m - 1))) (by decide) (by unfold S144_0 S144_12 S144_28; rw [g1]; exact ⟨fun z => absurd z e2, fun _ => ⟨fun z => absurd z (by decide), fun _ => ⟨Or.inr rfl, trivial⟩⟩⟩)
    rw [f1] at t1
    rw [f2] at t2
    have fr : frP q (a_w (a_w q 8 11 (nI (m - 1))) 650 14 (nI (m - 1))) := ⟨rfl, fun c j b1 b2 b3 => by rw [w_get, if_neg (fun z => b3 ⟨z.1, Or.inr z.2⟩), w_ne (by omega)]⟩
    have k : ∀ c j, (9 ≤ c ∧ c ≤ 18) ∨ (655 ≤ c ∧ c ≤ 663) → (a_w (a_w q 8 11 (nI (m - 1))) 650 14 (nI (m - 1))).1 c j = q.1 c j := fun c j hc => by rw [w_ne (by omega), w_ne (by omega)]
    refine ⟨_, ⟨1, _, t1, t2⟩, fr, n, m - 1, o, p, ⟨h24, by omega, ?_, ?_, ?_, ?_, fun s hs => iS_same (hS s hs) hs (fun c j hc => k c j (by omega)), fun l hl => ?_, ?_⟩, Or.inr (Or.inr ⟨rfl, by omega⟩)⟩
    · rw [w_ne (by decide), w_nk (by decide)]; exact c1
    · rw [w_nk (by decide), w_ne (by decide)]; exact c2
    · rw [w_ne (by decide), w_eq]
    · rw [w_eq]
    · have := hO l (by omega)
      unfold iO at this ⊢
      simp only [k 16 l (by omega), k 17 l (by omega), k 663 l (by omega), k 9 _ (by omega), k 18 _ (by omega), k 662 _ (by omega), k 12 _ (by omega)]
      exact this
    · simp only [k 18 _ (by omega), k 662 _ (by omega), k 661 _ (by omega)]
      exact rest
theorem otherwise_step (h : iP q nE n m o p) : stp l X 10 143 [] q nE n m := by
  have hh := h
  obtain ⟨h24, h5, c1, c2, c3, c4, hS, hO, rest⟩ := h
  have no : (F38_0 q = (0, q) ∧ S38_0 q) → (F143_0 q = (0, q) ∧ S143_0 q) → stp l X 10 143 [] q nE n m := by
    intro a b
    have t1 := T10 (l := l) (X := X) (d := 60) (q := q) (by decide) ⟨a.2, by rw [a.1]; exact Or.inl rfl, trivial⟩
    have t2 := T143 (l := l) (X := X) (d := 60) (q := q) (by decide) b.2
    unfold F10_0 at t1
    rw [a.1] at t1
    rw [b.1] at t2
    exact stp_no hh t1 t2
  by_cases hm : m = 0
  · subst hm
    have e1 : q.1 8 11 = 0 := c3
    have e2 : q.1 650 14 = 0 := c4
    refine no ?_ ?_
    · unfold F38_0 S38_0
      rw [if_pos e1]
      exact ⟨rfl, fun _ => trivial, fun z => absurd e1 z⟩
    · unfold F143_0 S143_0 F143_22 S143_22
      rw [if_pos e2, if_pos (by decide)]
      exact ⟨rfl, fun _ => ⟨fun _ => trivial, fun z => absurd (by decide) z⟩, fun z => absurd e2 z⟩
  have e1 : ¬ nI m = 0 := nI_ne0 (by omega) (by omega)
  obtain ⟨o1, o2, o3, o4, o5, ⟨kk, k1, k2, k3, k4⟩, o6, o7, o8, o9⟩ := hO (m - 1) (by omega)
  have cm : (nI (m - 1)).toNatClampNeg = m - 1 := nI_clamp (by omega)
  have v1 : vp_in (nI (m - 1)) 5 := vp_in_nI (by omega) (by decide)
  have v2 : vp_in (nI (m - 1)) 6 := vp_in_nI (by omega) (by decide)
  have v3 : vp_in (nI (o (m - 1))) 24 := vp_in_nI (by omega) (by decide)
  have v4 : vp_in (nI m) 6 := vp_in_nI (by omega) (by decide)
  have co : (nI (o (m - 1))).toNatClampNeg = o (m - 1) := nI_clamp (by omega)
  have c0 : (nI m).toNatClampNeg = m := nI_clamp (by omega)
  have s655 := (hS _ o1).1
  have dv := i_div2 (a := o (m - 1)) (b := p (m - 1)) o2 (by omega)
  have an : nI (2 * o (m - 1) + p (m - 1)) &&& 1 = nI (p (m - 1)) := by
    rw [pk_andN (n := 2 * o (m - 1) + p (m - 1)) (by omega) (m := 1) 1 (by decide)]
    congr 1
    omega
  by_cases hp1 : p (m - 1) = 1
  · refine no ?_ ?_
    · unfold F38_0 S38_0
      rw [c3, nI_m1 hm, cm, o4, hp1, if_neg e1, if_neg (show ¬ nI 1 = 0 by decide)]
      exact ⟨rfl, fun z => absurd z e1, fun _ => ⟨v1, fun z => absurd z (by decide), fun _ => trivial⟩⟩
    · unfold F143_0 S143_0 F143_22 S143_22
      rw [c4, nI_m1 hm, cm, o5, an, hp1, if_neg e1, if_pos (show nI 1 = 1 by decide)]
      exact ⟨rfl, fun z => absurd z e1, fun _ => ⟨v2, fun _ => trivial, fun z => absurd (by decide) z⟩⟩
  have hp0 : p (m - 1) = 0 := by omega
  by_cases hk5 : q.1 9 (o (m - 1)) = 5
  · refine no ?_ ?_
    · unfold F38_0 S38_0
      rw [c3, nI_m1 hm, cm, o4, o3, co, hp0, if_neg e1, if_pos (show nI 0 = 0 by decide), if_pos hk5]
      exact ⟨rfl, fun z => absurd z e1, fun _ => ⟨v1, fun _ => ⟨v1, v3, fun _ => trivial, fun z => absurd hk5 z⟩, fun z => absurd (by decide) z⟩⟩
    · unfold F143_0 S143_0 F143_22 S143_22
      rw [c4, nI_m1 hm, cm, o5, an, dv, co, s655, hp0, if_neg e1, if_neg (show ¬ nI 0 = 1 by decide), if_pos hk5]
      exact ⟨rfl, fun z => absurd z e1, fun _ => ⟨v2, fun z => absurd z (by decide), fun _ => ⟨v3, fun _ => trivial, fun z => absurd hk5 z⟩⟩⟩
  have A : F38_0 q = (1, a_w (a_w q 17 (m - 1) 1) 18 m (-1)) ∧ S38_0 q := by
    unfold F38_0 S38_0
    rw [c3, nI_m1 hm, cm, o4, o3, co, c0, hp0, if_neg e1, if_pos (show nI 0 = 0 by decide), if_neg hk5]
    exact ⟨rfl, fun z => absurd z e1, fun _ => ⟨v1, fun _ => ⟨v1, v3, fun z => absurd z hk5, fun _ => ⟨v1, v4, trivial⟩⟩, fun z => absurd (by decide) z⟩⟩
  have hi : ∀ c j, ¬ c = 17 → ¬ c = 18 → (a_w (a_w q 17 (m - 1) 1) 18 m (-1)).1 c j = q.1 c j := fun c j a b => by rw [w_ne b, w_ne a]
  have B : F143_0 (a_w (a_w q 17 (m - 1) 1) 18 m (-1)) = (1, a_w (a_w (a_w q 17 (m - 1) 1) 18 m (-1)) 663 (m - 1) (nI (2 * o (m - 1) + 1))) ∧ S143_0 (a_w (a_w q 17 (m - 1) 1) 18 m (-1)) := by
    unfold F143_0 S143_0 F143_22 S143_22
    rw [hi 650 14 (by decide) (by decide), c4, nI_m1 hm, cm, hi 663 _ (by decide) (by decide), o5, an, dv, co, hi 655 (o (m - 1)) (by decide) (by decide), s655, hp0, if_neg e1, if_neg (show ¬ nI 0 = 1 by decide), if_neg hk5, nI_1]
    exact ⟨rfl, fun z => absurd z e1, fun _ => ⟨v2, fun z => absurd z (by decide), fun _ => ⟨v3, fun z => absurd z hk5, fun _ => ⟨v2, trivial⟩⟩⟩⟩
  have t1 := T10 (l := l) (X := X) (d := 60) (q := q) (by decide) ⟨A.2, by rw [A.1]; exact Or.inr rfl, trivial⟩
  have t2 := T143 (l := l) (X := X) (d := 60) (by decide) B.2
  unfold F10_0 at t1
  rw [A.1] at t1
  rw [B.1] at t2
  generalize hq2 : a_w (a_w (a_w q 17 (m - 1) 1) 18 m (-1)) 663 (m - 1) (nI (2 * o (m - 1) + 1)) = q2 at t2
  have k : ∀ c j, ¬ c = 17 → ¬ c = 18 → ¬ c = 663 → q2.1 c j = q.1 c j := fun c j a b d => by rw [← hq2, w_ne d, hi c j a b]
  have k17 : ∀ j, q2.1 17 j = if j = m - 1 then 1 else q.1 17 j := fun j => by rw [← hq2, w_ne (by decide), w_ne (by decide), w_at]
  have k18 : ∀ j, q2.1 18 j = if j = m then -1 else q.1 18 j := fun j => by rw [← hq2, w_ne (by decide), w_at, w_ne (by decide)]
  have k663 : ∀ j, q2.1 663 j = if j = m - 1 then nI (2 * o (m - 1) + 1) else q.1 663 j := fun j => by rw [← hq2, w_at, hi 663 j (by decide) (by decide)]
  have kl : q2.2 = q.2 := by rw [← hq2]; rfl
  refine ⟨q2, ⟨1, _, t1, t2⟩, ⟨kl, fun c j b1 b2 b3 => k c j (by omega) (by omega) (by omega)⟩, n, m, o, fun l => if l = m - 1 then 1 else p l, ⟨h24, h5, ?_, ?_, ?_, ?_, fun s hs => iS_same (hS s hs) hs (fun c j hc => k c j (by omega) (by omega) (by omega)), fun l hl => ?_, ?_⟩, Or.inr (Or.inr ⟨rfl, by omega⟩)⟩
  · rw [k 8 7 (by decide) (by decide) (by decide)]; exact c1
  · rw [k 650 5 (by decide) (by decide) (by decide)]; exact c2
  · rw [k 8 11 (by decide) (by decide) (by decide)]; exact c3
  · rw [k 650 14 (by decide) (by decide) (by decide)]; exact c4
  · unfold iO
    rw [k 16 l (by decide) (by decide) (by decide), k17, k663, k18, k 9 _ (by decide) (by decide) (by decide), k 662 _ (by decide) (by decide) (by decide), k 662 _ (by decide) (by decide) (by decide), k 12 _ (by decide) (by decide) (by decide)]
    by_cases hl1 : l = m - 1
    · subst hl1
      simp only [if_true]
      rw [if_pos (show m - 1 + 1 = m by omega)]
      refine ⟨o1, by decide, o3, rfl, trivial, ⟨kk, k1, k2, k3, fun z => ?_⟩, (o7 hp0).symm, fun z => absurd z (by decide), o8, o9⟩
      exact absurd (by rw [k3, z]; rfl) hk5
    · simp only [if_neg hl1]
      rw [if_neg (show ¬ l + 1 = m by omega)]
      exact hO l hl
  · rw [k18, if_neg (show ¬ 0 = m by omega)]
    simp only [k 662 _ (show ¬ 662 = 17 by decide) (show ¬ 662 = 18 by decide) (show ¬ 662 = 663 by decide), k 661 _ (show ¬ 661 = 17 by decide) (show ¬ 661 = 18 by decide) (show ¬ 661 = 663 by decide)]
    exact rest
/-- the innermost open loop, sought from above (the class) -/
theorem it_s {σ ε : Type} {B : σ → σ ⊕ ε} {n : Nat} {s s' : σ} (h : B s = .inl s') : a_it B (n + 1) s = a_it B n s' := by
  show (match B s with | .inl s' => a_it B n s' | .inr e => some e) = _
  rw [h]
theorem it_e {σ ε : Type} {B : σ → σ ⊕ ε} {n : Nat} {s : σ} {e : ε} (h : B s = .inr e) : a_it B (n + 1) s = some e := by
  show (match B s with | .inl s' => a_it B n s' | .inr e => some e) = _
  rw [h]
theorem sf_s {σ ε : Type} {B : σ → σ ⊕ ε} {SB : σ → Prop} {n : Nat} {s s' : σ} (h : B s = .inl s') (h0 : SB s) (h1 : a_sf B SB n s') : a_sf B SB (n + 1) s := by
  show SB s ∧ (match B s with | .inl s' => a_sf B SB n s' | .inr e => True)
  rw [h]
  exact ⟨h0, h1⟩
theorem sf_e {σ ε : Type} {B : σ → σ ⊕ ε} {SB : σ → Prop} {n : Nat} {s : σ} {e : ε} (h : B s = .inr e) (h0 : SB s) : a_sf B SB (n + 1) s := by
  show SB s ∧ (match B s with | .inl s' => a_sf B SB n s' | .inr e => True)
  rw [h]
  exact ⟨h0, trivial⟩
theorem F40_at (h : iP q nE n m o p) : ∀ i f, i ≤ m → i < f → a_sf (fun (s : Int32) => F40_7 s q) (fun (s : Int32) => S40_7 s q) f (nI i - 1) ∧ ((∃ L, L < i ∧ q.1 9 (o L) = 5 ∧ (∀ k, L < k → k < i → q.1 9 (o k) ≠ 5) ∧ a_it (fun (s : Int32) => F40_7 s q) f (nI i - 1) = some (.inr (nI (o L)))) ∨ ((∀ k, k < i → q.1 9 (o k) ≠ 5) ∧ a_it (fun (s : Int32) => F40_7 s q) f (nI i - 1) = some (.inl ()))) := by
  obtain ⟨h24, h5, c1, c2, c3, c4, hS, hO, rest⟩ := h
  intro i
  induction i with
  | zero =>
    intro f _ hf
    obtain ⟨f, rfl⟩ : ∃ g, f = g + 1 := ⟨f - 1, by omega⟩
    have e : F40_7 (nI 0 - 1) q = .inr (.inl ()) := by unfold F40_7; rw [if_pos (by decide)]
    refine ⟨sf_e e ?_, Or.inr ⟨fun k hk => by omega, it_e e⟩⟩
    unfold S40_7
    exact ⟨fun _ => trivial, fun z => absurd (by decide) z⟩
  | succ i ih =>
    intro f hi hf
    obtain ⟨f, rfl⟩ : ∃ g, f = g + 1 := ⟨f - 1, by omega⟩
    obtain ⟨o1, o2, o3, -⟩ := hO i (by omega)
    have ci : (nI i).toNatClampNeg = i := nI_clamp (by omega)
    have co : (nI (o i)).toNatClampNeg = o i := nI_clamp (by omega)
    have n0 : ¬ nI i < 0 := nI_pos (by omega)
    have v1 : vp_in (nI i) 5 := vp_in_nI (by omega) (by decide)
    have v2 : vp_in (nI (o i)) 24 := vp_in_nI (by omega) (by decide)
    rw [nI_pred]
    have hs : S40_7 (nI i) q := by
      unfold S40_7
      rw [ci, o3]
      exact ⟨fun _ => trivial, fun _ => ⟨v1, v2, fun _ => ⟨v1, trivial⟩, fun _ => trivial⟩⟩
    by_cases h5 : q.1 9 (o i) = 5
    · have e : F40_7 (nI i) q = .inr (.inr (nI (o i))) := by
        unfold F40_7
        rw [if_neg n0, ci, o3, co, if_pos h5]
      exact ⟨sf_e e hs, Or.inl ⟨i, by omega, h5, fun k a b => by omega, it_e e⟩⟩
    · have e : F40_7 (nI i) q = .inl (nI i - 1) := by
        unfold F40_7
        rw [if_neg n0, ci, o3, co, if_neg h5]
        have : nI i + -1 = nI i - 1 := by rw [Int32.sub_eq_add_neg]
        rw [this]
      obtain ⟨s1, r1⟩ := ih f (by omega) (by omega)
      refine ⟨sf_s e hs s1, ?_⟩
      rw [it_s (B := fun (s : Int32) => F40_7 s q) e]
      rcases r1 with ⟨L, a, b, c, d⟩ | ⟨a, b⟩
      · refine Or.inl ⟨L, by omega, b, fun k k1 k2 => ?_, d⟩
        by_cases ek : k = i
        · subst ek; exact h5
        · exact c k k1 (by omega)
      · refine Or.inr ⟨fun k k2 => ?_, b⟩
        by_cases ek : k = i
        · subst ek; exact h5
        · exact a k (by omega)
/-- the model's: is any open statement a loop -/
theorem F139_at {v : Int32} {Q : aQ} (h : iP q nE n m o p) (hi : ∀ c s, 18 < c → Q.1 c s = q.1 c s) : ∀ j f v2, j ≤ m → m - j < f → (v2 = 0 ∨ v2 = 1) → a_sf (fun (s : Int32 × Int32 × aQ) => F139_4 v s.1 s.2.1 s.2.2) (fun (s : Int32 × Int32 × aQ) => S139_4 v s.1 s.2.1 s.2.2) f (v2, nI j, Q) ∧ (((v2 = 1 ∨ ∃ L, j ≤ L ∧ L < m ∧ q.1 9 (o L) = 5) ∧ a_it (fun (s : Int32 × Int32 × aQ) => F139_4 v s.1 s.2.1 s.2.2) f (v2, nI j, Q) = some (1, Q)) ∨ ((v2 = 0 ∧ ∀ k, j ≤ k → k < m → q.1 9 (o k) ≠ 5) ∧ a_it (fun (s : Int32 × Int32 × aQ) => F139_4 v s.1 s.2.1 s.2.2) f (v2, nI j, Q) = some (0, Q))) := by
  obtain ⟨h24, h5, c1, c2, c3, c4, hS, hO, rest⟩ := h
  suffices H : ∀ r j f v2, j ≤ m → m - j = r → r < f → (v2 = 0 ∨ v2 = 1) → a_sf (fun (s : Int32 × Int32 × aQ) => F139_4 v s.1 s.2.1 s.2.2) (fun (s : Int32 × Int32 × aQ) => S139_4 v s.1 s.2.1 s.2.2) f (v2, nI j, Q) ∧ (((v2 = 1 ∨ ∃ L, j ≤ L ∧ L < m ∧ q.1 9 (o L) = 5) ∧ a_it (fun (s : Int32 × Int32 × aQ) => F139_4 v s.1 s.2.1 s.2.2) f (v2, nI j, Q) = some (1, Q)) ∨ ((v2 = 0 ∧ ∀ k, j ≤ k → k < m → q.1 9 (o k) ≠ 5) ∧ a_it (fun (s : Int32 × Int32 × aQ) => F139_4 v s.1 s.2.1 s.2.2) f (v2, nI j, Q) = some (0, Q))) from fun j f v2 a b c => H (m - j) j f v2 a rfl b c
  intro r
  induction r with
  | zero =>
    intro j f v2 hj hr hf hv
    obtain ⟨f, rfl⟩ : ∃ g, f = g + 1 := ⟨f - 1, by omega⟩
    have ej : j = m := by omega
    subst ej
    have le : Q.1 650 14 ≤ nI j := by rw [hi 650 14 (by decide), c4]; exact nI_le (Nat.le_refl _) (by omega)
    have e : F139_4 v v2 (nI j) Q = .inr (v2, Q) := by unfold F139_4; rw [if_pos le]
    refine ⟨sf_e e ⟨fun _ => trivial, fun z => absurd le z⟩, ?_⟩
    rw [it_e (B := fun (s : Int32 × Int32 × aQ) => F139_4 v s.1 s.2.1 s.2.2) (s := (v2, nI j, Q)) e]
    rcases hv with rfl | rfl
    · exact Or.inr ⟨⟨rfl, fun k a b => by omega⟩, rfl⟩
    · exact Or.inl ⟨Or.inl rfl, rfl⟩
  | succ r ih =>
    intro j f v2 hj hr hf hv
    obtain ⟨f, rfl⟩ : ∃ g, f = g + 1 := ⟨f - 1, by omega⟩
    have nle : ¬ Q.1 650 14 ≤ nI j := by rw [hi 650 14 (by decide), c4]; exact nI_ge (by omega) (by omega)
    obtain ⟨o1, o2, o3, o4, o5, -⟩ := hO j (by omega)
    have cj : (nI j).toNatClampNeg = j := nI_clamp (by omega)
    have co : (nI (o j)).toNatClampNeg = o j := nI_clamp (by omega)
    have dv := i_div2 (a := o j) (b := p j) o2 (by omega)
    have v1 : vp_in (nI j) 6 := vp_in_nI (by omega) (by decide)
    have v3 : vp_in (nI (o j)) 24 := vp_in_nI (by omega) (by decide)
    have hs : S139_4 v v2 (nI j) Q := by
      unfold S139_4 S139_33 S139_38
      rw [cj, hi 663 _ (by decide), o5, dv]
      exact ⟨fun _ => trivial, fun _ => ⟨fun _ => ⟨v1, v3, fun _ => trivial, fun _ => trivial⟩, fun _ => trivial⟩⟩
    have e : F139_4 v v2 (nI j) Q = .inl (if v2 = 0 ∧ q.1 9 (o j) ≠ 5 then 0 else 1, nI (j + 1), Q) := by
      unfold F139_4 F139_33 F139_38
      rw [if_neg nle, cj, hi 663 _ (by decide), o5, dv, co, hi 655 _ (by decide), (hS _ o1).1, nI_1]
      by_cases a : v2 = 0
      · rw [if_pos a]
        by_cases b : q.1 9 (o j) = 5
        · rw [if_pos b, if_neg (fun z => z.2 b)]
        · rw [if_neg b, if_pos ⟨a, b⟩]
      · rw [if_neg a, if_neg (fun z => a z.1)]
    by_cases hc : v2 = 0 ∧ q.1 9 (o j) ≠ 5
    · rw [if_pos hc] at e
      obtain ⟨s1, r1⟩ := ih (j + 1) f 0 (by omega) (by omega) (by omega) (Or.inl rfl)
      refine ⟨sf_s e hs s1, ?_⟩
      rw [it_s (B := fun (s : Int32 × Int32 × aQ) => F139_4 v s.1 s.2.1 s.2.2) (s := (v2, nI j, Q)) e]
      rcases r1 with ⟨a, b⟩ | ⟨a, b⟩
      · refine Or.inl ⟨?_, b⟩
        rcases a with a | ⟨L, a1, a2, a3⟩
        · exact absurd a (by decide)
        · exact Or.inr ⟨L, by omega, a2, a3⟩
      · refine Or.inr ⟨⟨hc.1, fun k k1 k2 => ?_⟩, b⟩
        by_cases ek : k = j
        · subst ek; exact hc.2
        · exact a.2 k (by omega) k2
    · rw [if_neg hc] at e
      obtain ⟨s1, r1⟩ := ih (j + 1) f 1 (by omega) (by omega) (by omega) (Or.inr rfl)
      refine ⟨sf_s e hs s1, ?_⟩
      rw [it_s (B := fun (s : Int32 × Int32 × aQ) => F139_4 v s.1 s.2.1 s.2.2) (s := (v2, nI j, Q)) e]
      rcases r1 with ⟨a, b⟩ | ⟨a, b⟩
      · refine Or.inl ⟨?_, b⟩
        rcases hv with hv | hv
        · exact Or.inr ⟨j, Nat.le_refl _, by omega, Classical.byContradiction (fun z => hc ⟨hv, z⟩)⟩
        · exact Or.inl hv
      · exact absurd a.1 (by decide)
theorem la_up (h : iP q nE n m o p) {L : Nat} (hL : q.1 9 (o L) = 5) : ∀ f k, L < k → k < m → k - L ≤ f → (∀ j, L < j → j < k → q.1 9 (o j) ≠ 5) → la q f (o k) (o L) := by
  have hO := h.2.2.2.2.2.2.2.1
  intro f
  induction f with
  | zero => intro k a b c; omega
  | succ f ih =>
    intro k a b c d
    have hk := (hO k b).2.2.2.2.2.2.2.2.2 (by omega)
    refine ⟨o (k - 1), hk.2, hk.1, ?_⟩
    by_cases e : k - 1 = L
    · rw [e]; exact Or.inl ⟨hL, rfl⟩
    · exact Or.inr ⟨d (k - 1) (by omega) (by omega), ih (k - 1) (by omega) (by omega) (by omega) (fun j a b => d j a (by omega))⟩
theorem leave_step (h : iP q nE n m o p) (v : Int32) : stp l X 6 139 [.int v] q nE n m := by
  have hh := h
  obtain ⟨h24, h5, c1, c2, c3, c4, hS, hO, rest⟩ := h
  obtain ⟨sC, rC⟩ := F40_at hh m 200 (Nat.le_refl _) (by omega)
  have SC : S40_0 q := by
    unfold S40_0 S40_39
    rw [c3]
    refine ⟨sC, ?_⟩
    split <;> trivial
  have mS : ∀ (Q : aQ) (w : Int32), a_sf (fun (s : Int32 × Int32 × aQ) => F139_4 v s.1 s.2.1 s.2.2) (fun (s : Int32 × Int32 × aQ) => S139_4 v s.1 s.2.1 s.2.2) 200 (0, 0, Q) → a_it (fun (s : Int32 × Int32 × aQ) => F139_4 v s.1 s.2.1 s.2.2) 200 (0, 0, Q) = some (w, Q) → F139_0 v Q = F139_45 v w Q ∧ (S139_45 v w Q → S139_0 v Q) := by
    intro Q w a b
    unfold F139_0 S139_0
    rw [a_lp_eq b]
    exact ⟨rfl, fun z => ⟨a, z⟩⟩
  rcases rC with ⟨L, l1, l2, l3, l4⟩ | ⟨n1, n2⟩
  · have oL := (hO L l1).1
    have eC : F40_0 q = nI (o L) := by
      unfold F40_0
      rw [c3, a_lp_eq l4]
    have g1 : ¬ nI (o L) = -1 := nI_nm1 (by omega)
    by_cases hn : n = 24
    · have hA : ∀ k : Int32, F6_28 (nI (o L)) k q = (-1, q) ∧ S6_28 (nI (o L)) k q := by
        intro k
        have A := add_full hh hn k (nI (o L)) 0
        unfold F6_28 S6_28
        rw [A.1]
        exact ⟨rfl, A.2, trivial⟩
      have C : F6_0 v q = (-1, q) ∧ S6_0 v q := by
        unfold F6_0 S6_0
        rw [eC, if_neg g1, (hA 2).1, (hA 3).1]
        refine ⟨by split <;> rfl, SC, fun z => absurd z g1, fun _ => ⟨fun _ => (hA 2).2, fun _ => (hA 3).2⟩⟩
      obtain ⟨sM, rM⟩ := F139_at (v := v) (Q := q) hh (fun _ _ _ => rfl) 0 200 0 (by omega) (by omega) (Or.inl rfl)
      have M : F139_0 v q = (-1, q) ∧ S139_0 v q := by
        have g : q.1 650 5 = 24 := (n24 hh).1.mpr hn
        have : ∀ w, a_it (fun (s : Int32 × Int32 × aQ) => F139_4 v s.1 s.2.1 s.2.2) 200 (0, 0, q) = some (w, q) → F139_0 v q = (-1, q) ∧ S139_0 v q := by
          intro w hw
          have Z := mS q w sM hw
          rw [Z.1]
          refine ⟨?_, Z.2 ?_⟩
          · unfold F139_45; rw [if_pos g]
          · exact ⟨fun _ => trivial, fun z => absurd g z⟩
        rcases rM with ⟨-, b⟩ | ⟨-, b⟩
        · exact this _ b
        · exact this _ b
      have t1 := T6 (l := l) (X := X) (d := 60) (by decide) C.2
      have t2 := T139 (l := l) (X := X) (d := 60) (by decide) M.2
      rw [C.1] at t1
      rw [M.1] at t2
      exact stp_no hh t1 t2
    · have hn : n < 24 := by omega
      have newOk : ∀ kN, kN = 2 ∨ kN = 3 → newS q nE n m o kN (nI (o L)) 0 0 := by
        intro kN hk
        refine ⟨by omega, fun z => by omega, fun z => by omega, fun _ => ⟨o L, oL, rfl, o (m - 1), (hO (m - 1) (by omega)).1, ?_, ?_⟩, fun z => by omega, fun z => by omega⟩
        · unfold arI; rw [if_neg (by omega)]
        · by_cases e : m - 1 = L
          · rw [e]; exact Or.inl ⟨l2, rfl⟩
          · exact Or.inr ⟨l3 (m - 1) (by omega) (by omega), la_up hh l2 4 (m - 1) (by omega) (by omega) (by omega) (fun j a b => l3 j a (by omega))⟩
      have go : ∀ kN, kN = 2 ∨ kN = 3 → (v = 0 ↔ kN = 2) → stp l X 6 139 [.int v] q nE n m := by
        intro kN hk hv
        obtain ⟨q1, q2, C, M, f1, f2, hi, hP⟩ := both_add (det := nI (o L)) (det' := 0) (e := 0) hh hn (kN := kN) (by omega) (newOk kN hk)
        have CC : F6_0 v q = (nI n, q1) ∧ S6_0 v q := by
          unfold F6_0 S6_0 F6_28 S6_28
          rw [eC, if_neg g1]
          by_cases hv0 : v = 0
          · have e2 := hv.mp hv0
            subst e2
            rw [if_pos hv0, show F35_0 2 (nI (o L)) 0 q = (nI n, q1) from C.1]
            exact ⟨rfl, SC, fun z => absurd z g1, fun _ => ⟨fun _ => ⟨C.2, trivial⟩, fun z => absurd hv0 z⟩⟩
          · have e3 : kN = 3 := hk.resolve_left (fun z => hv0 (hv.mpr z))
            subst e3
            rw [if_neg hv0, show F35_0 3 (nI (o L)) 0 q = (nI n, q1) from C.1]
            exact ⟨rfl, SC, fun z => absurd z g1, fun _ => ⟨fun z => absurd z hv0, fun _ => ⟨C.2, trivial⟩⟩⟩
        obtain ⟨sM, rM⟩ := F139_at (v := v) (Q := q1) hh hi 0 200 0 (by omega) (by omega) (Or.inl rfl)
        have rM' : a_it (fun (s : Int32 × Int32 × aQ) => F139_4 v s.1 s.2.1 s.2.2) 200 (0, 0, q1) = some (1, q1) := by
          rcases rM with ⟨-, b⟩ | ⟨b, -⟩
          · exact b
          · exact absurd l2 (b.2 L (by omega) l1)
        have g4 : ¬ q1.1 650 5 = 24 := by rw [hi 650 5 (by decide)]; exact fun z => by have := (n24 hh).1.mp z; omega
        have Z := mS q1 1 sM rM'
        have n10 : ¬ (1 : Int32) = 0 := by decide
        have MM : F139_0 v q1 = (nI n, q2) ∧ S139_0 v q1 := by
          rw [Z.1]
          have W : F139_45 v 1 q1 = (nI n, q2) ∧ S139_45 v 1 q1 := by
            unfold F139_45 S139_45 F139_72 S139_72
            rw [if_neg g4, if_neg n10]
            by_cases hv0 : v = 0
            · have e2 := hv.mp hv0
              subst e2
              rw [if_pos hv0, show F136_0 2 0 0 q1 = (nI n, q2) from M.1]
              exact ⟨rfl, fun z => absurd z g4, fun _ => ⟨fun z => absurd z n10, fun _ => ⟨fun _ => ⟨M.2, trivial⟩, fun z => absurd hv0 z⟩⟩⟩
            · have e3 : kN = 3 := hk.resolve_left (fun z => hv0 (hv.mpr z))
              subst e3
              rw [if_neg hv0, show F136_0 3 0 0 q1 = (nI n, q2) from M.1]
              exact ⟨rfl, fun z => absurd z g4, fun _ => ⟨fun z => absurd z n10, fun _ => ⟨fun z => absurd z hv0, fun _ => ⟨M.2, trivial⟩⟩⟩⟩
          exact ⟨W.1, Z.2 W.2⟩
        have t1 := T6 (l := l) (X := X) (d := 60) (by decide) CC.2
        have t2 := T139 (l := l) (X := X) (d := 60) (by decide) MM.2
        rw [CC.1] at t1
        rw [MM.1] at t2
        exact ⟨q2, ⟨nI n, q1, t1, t2⟩, f1.tr f2, n + 1, m, o, p, hP, Or.inr (Or.inl (by omega))⟩
      by_cases hv0 : v = 0
      · exact go 2 (Or.inl rfl) ⟨fun _ => rfl, fun _ => hv0⟩
      · exact go 3 (Or.inr rfl) ⟨fun z => absurd z hv0, fun z => absurd z (by decide)⟩
  · have eC : F40_0 q = -1 := by
      unfold F40_0
      rw [c3, a_lp_eq n2]
      rfl
    have C : F6_0 v q = (-1, q) ∧ S6_0 v q := by
      unfold F6_0 S6_0
      rw [eC, if_pos rfl]
      exact ⟨rfl, SC, fun _ => trivial, fun z => absurd rfl z⟩
    obtain ⟨sM, rM⟩ := F139_at (v := v) (Q := q) hh (fun _ _ _ => rfl) 0 200 0 (by omega) (by omega) (Or.inl rfl)
    have rM' : a_it (fun (s : Int32 × Int32 × aQ) => F139_4 v s.1 s.2.1 s.2.2) 200 (0, 0, q) = some (0, q) := by
      rcases rM with ⟨a, -⟩ | ⟨-, b⟩
      · rcases a with a | ⟨L, a1, a2, a3⟩
        · exact absurd a (by decide)
        · exact absurd a3 (n1 L a2)
      · exact b
    have Z := mS q 0 sM rM'
    have M : F139_0 v q = (-1, q) ∧ S139_0 v q := by
      rw [Z.1]
      have W : F139_45 v 0 q = (-1, q) ∧ S139_45 v 0 q := by
        unfold F139_45 S139_45
        by_cases g : q.1 650 5 = 24
        · rw [if_pos g]
          exact ⟨rfl, fun _ => trivial, fun z => absurd g z⟩
        · rw [if_neg g, if_pos rfl]
          exact ⟨rfl, fun z => absurd z g, fun _ => ⟨fun _ => trivial, fun z => absurd rfl z⟩⟩
      exact ⟨W.1, Z.2 W.2⟩
    have t1 := T6 (l := l) (X := X) (d := 60) (by decide) C.2
    have t2 := T139 (l := l) (X := X) (d := 60) (by decide) M.2
    rw [C.1] at t1
    rw [M.1] at t2
    exact stp_no hh t1 t2
end
