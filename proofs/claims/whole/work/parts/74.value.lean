/-! the model works an expression out -/
/-- a memory for a run: expressions, inputs and variables as in q, va -/
def runR (q : aQ) (va : Nat → Nat × Int) (Q : aQ) : Prop := exR q Q ∧ (∀ j, Q.1 664 j = q.1 664 j) ∧ Q.1 650 16 = q.1 650 16 ∧ (∀ v, v < 5 → Q.1 680 v = nI (va v).1 ∧ Q.2 681 v = lI (va v).2)
/-- what working out leaves alone; the stack below n too -/
def frV (n : Nat) (Q Q' : aQ) : Prop := (∀ c j, ¬ c = 684 → ¬ (c = 650 ∧ (j = 37 ∨ j = 42)) → Q'.1 c j = Q.1 c j) ∧ (∀ c j, ¬ c = 685 → ¬ (c = 650 ∧ j = 38) → Q'.2 c j = Q.2 c j) ∧ (∀ j, j < n → Q'.1 684 j = Q.1 684 j ∧ Q'.2 685 j = Q.2 685 j)
theorem frV.rf {n : Nat} {Q : aQ} : frV n Q Q := ⟨fun _ _ _ _ => rfl, fun _ _ _ _ => rfl, fun _ _ => ⟨rfl, rfl⟩⟩
theorem frV.tr {n : Nat} {Q Q1 Q2 : aQ} (h1 : frV n Q Q1) (h2 : frV n Q1 Q2) : frV n Q Q2 := ⟨fun c j a b => (h2.1 c j a b).trans (h1.1 c j a b), fun c j a b => (h2.2.1 c j a b).trans (h1.2.1 c j a b), fun j hj => ⟨(h2.2.2 j hj).1.trans (h1.2.2 j hj).1, (h2.2.2 j hj).2.trans (h1.2.2 j hj).2⟩⟩
theorem frV.dn {n m : Nat} {Q Q1 : aQ} (h : frV n Q Q1) (hm : m ≤ n) : frV m Q Q1 := ⟨h.1, h.2.1, fun j hj => h.2.2 j (by omega)⟩
theorem frV.run {n : Nat} {q Q Q' : aQ} {va : Nat → Nat × Int} (h : frV n Q Q') (r : runR q va Q) : runR q va Q' := by
  obtain ⟨r1, r2, r3, r4⟩ := r
  refine ⟨fun c j a b => (h.1 c j (by omega) (by omega)).trans (r1 c j a b), fun j => (h.1 664 j (by omega) (by omega)).trans (r2 j), (h.1 650 16 (by omega) (by omega)).trans r3, fun v hv => ?_⟩
  rw [h.1 680 v (by omega) (by omega), h.2.1 681 v (by omega) (by omega)]
  exact r4 v hv
theorem frV.tok {n : Nat} {Q Q' : aQ} (h : frV n Q Q') : ∀ (L : List Nat) (i : Nat), tOk Q i L → tOk Q' i L
  | [], _, _ => trivial
  | k :: r, i, ⟨h1, h2⟩ => ⟨(h.1 682 i (by omega) (by omega)).trans h1, frV.tok h r (i + 1) h2⟩
section
variable {q : aQ} {nE fd : Nat} {va : Nat → Nat × Int}
theorem i64_0 : Int32.toInt64 0 = lI 0 := rfl
theorem toI64 (y : Int32) : Int32.toInt64 y = lI y.toInt := by
  apply Int64.toInt_inj.mp
  have := Int32.toInt_lt y
  have := Int32.le_toInt y
  rw [Int32.toInt_toInt64, lI_t (by omega)]
/-- a leaf -/
theorem F180_eq {e tk n : Nat} {Q : aQ} (hE : iE q nE) (he : e < nE) (h : q.1 2 e = -1) (hN : iN q fd) (hv : vaOk va) (ht : tk ≤ fd) (hR : runR q va Q) (h42 : Q.1 650 42 = nI tk) : S180_0 (nI e) Q ∧ frV n Q (F180_0 (nI e) Q) ∧ (F180_0 (nI e) Q).1 650 37 = nI (lfv q va fd e tk).1.1 ∧ (F180_0 (nI e) Q).2 650 38 = lI (lfv q va fd e tk).1.2 ∧ (F180_0 (nI e) Q).1 650 42 = nI (lfv q va fd e tk).2 := by
  have h60 := hE.1
  have h8 := hN.1
  obtain ⟨hl, l1, l2⟩ := leaf_of hE he h
  obtain ⟨r1, r2, r3, r4⟩ := hR
  have ce : (nI e).toNatClampNeg = e := nI_clamp (by omega)
  have ve : vp_in (nI e) 60 := vp_in_nI (by omega) (by decide)
  have x651 : Q.1 651 e = q.1 3 e := (r1 651 e (by decide) (by decide)).trans l1
  have x652 : Q.1 652 e = q.1 4 e := (r1 652 e (by decide) (by decide)).trans l2
  have give : ∀ (t : Int32) (x : Int64), frV n Q (F152_0 t x Q) ∧ (F152_0 t x Q).1 650 37 = t ∧ (F152_0 t x Q).2 650 38 = x ∧ (F152_0 t x Q).1 650 42 = nI tk := by
    intro t x
    unfold F152_0
    refine ⟨⟨fun c j a b => ?_, fun c j a b => ?_, fun j hj => ⟨?_, ?_⟩⟩, ?_, ?_, ?_⟩
    · rw [wl_i, w_get, if_neg (by omega)]
    · rw [wl_get, if_neg b, w_l]
    · rw [wl_i, w_ne (by decide)]
    · rw [wl_get, if_neg (by omega), w_l]
    · rw [wl_i, w_eq]
    · rw [wl_get, if_pos ⟨rfl, rfl⟩]
    · rw [wl_i, w_nk (by decide)]; exact h42
  unfold F180_0 S180_0 F180_33 F180_49 F180_65 F180_68 F180_108 F180_111 F180_136 F180_171 F180_187 S180_33 S180_49 S180_65 S180_68 S180_108 S180_111 S180_136 S180_171 S180_187 S152_0 lfv
  rw [ce, x651, x652]
  rcases hl with ⟨a, b, c⟩ | ⟨a, b, c⟩ | a | ⟨a, v, b, c⟩ | a
  · have a1 : ¬ (0 : Int32) = 3 := by decide
    have a2 : ¬ (0 : Int32) = 4 := by decide
    have a3 : ¬ (0 : Int32) = 2 := by decide
    rw [a, if_neg a1, if_neg a2, if_pos rfl, if_neg a3, if_pos rfl]
    have g := give 1 (Int32.toInt64 (q.1 4 e))
    refine ⟨⟨ve, ve, fun z => absurd z a1, fun _ => ⟨ve, fun z => absurd z a2, fun _ => ?_⟩⟩, g.1, g.2.1, by rw [g.2.2.1, toI64], g.2.2.2⟩
    simp [ve]
  · have a1 : ¬ (1 : Int32) = 3 := by decide
    have a2 : ¬ (1 : Int32) = 4 := by decide
    have a3 : ¬ (1 : Int32) = 0 := by decide
    have a4 : ¬ (1 : Int32) = 2 := by decide
    rw [a, if_neg a1, if_neg a2, if_neg a3, if_pos rfl, if_neg a4, if_neg a3, if_pos rfl]
    have g := give 2 (Int32.toInt64 (q.1 4 e))
    refine ⟨⟨ve, ve, fun z => absurd z a1, fun _ => ⟨ve, fun z => absurd z a2, fun _ => ?_⟩⟩, g.1, g.2.1, by rw [g.2.2.1, toI64], g.2.2.2⟩
    simp [ve]
  · have a1 : ¬ (2 : Int32) = 3 := by decide
    have a2 : ¬ (2 : Int32) = 4 := by decide
    have a3 : ¬ (2 : Int32) = 0 := by decide
    have a4 : ¬ (2 : Int32) = 1 := by decide
    rw [a, if_neg a1, if_neg a2, if_neg a3, if_neg a4, if_pos rfl, if_neg a3, if_neg a4, if_pos rfl]
    have g := give 4 0
    refine ⟨⟨ve, ve, fun z => absurd z a1, fun _ => ⟨ve, fun z => absurd z a2, fun _ => ?_⟩⟩, g.1, g.2.1, g.2.2.1, g.2.2.2⟩
    simp [ve]
  · have a0 : ¬ (3 : Int32) = 0 := by decide
    have a1 : ¬ (3 : Int32) = 1 := by decide
    have a2 : ¬ (3 : Int32) = 2 := by decide
    have cv : (nI v).toNatClampNeg = v := nI_clamp (by omega)
    have vv : vp_in (nI v) 5 := vp_in_nI b (by decide)
    have t8 : Q.1 680 v = 8 ↔ (va v).1 = 8 := by
      rw [(r4 v b).1]
      refine nI_eq (b := 8) ?_ (by decide)
      rcases hv v b with g | g
      · have := g.lt.1; omega
      · rw [g]; decide
    have n10 : ¬ (1 : Int32) = 0 := by decide
    rw [a, if_pos rfl, if_neg a0, if_neg a1, if_neg a2, if_pos rfl, c, cv]
    by_cases h8 : (va v).1 = 8
    · rw [if_pos (t8.mpr h8), if_pos rfl, if_pos rfl, if_pos h8]
      have g := give 0 2
      refine ⟨⟨ve, ve, fun _ => ⟨vv, ?_⟩, fun z => absurd rfl z⟩, g.1, g.2.1, g.2.2.1, g.2.2.2⟩
      simp [vv]
    · rw [if_neg (fun z => h8 (t8.mp z)), if_neg n10, if_neg n10, if_neg h8]
      have g := give (Q.1 680 v) (Q.2 681 v)
      refine ⟨⟨ve, ve, fun _ => ⟨vv, ?_⟩, fun z => absurd rfl z⟩, g.1, g.2.1.trans (r4 v b).1, g.2.2.1.trans (r4 v b).2, g.2.2.2⟩
      simp [vv]
  · have a0 : ¬ (4 : Int32) = 0 := by decide
    have a1 : ¬ (4 : Int32) = 1 := by decide
    have a2 : ¬ (4 : Int32) = 2 := by decide
    have a3 : ¬ (4 : Int32) = 3 := by decide
    have ct : (nI tk).toNatClampNeg = tk := nI_clamp (by omega)
    rw [a, if_neg a3, if_pos rfl, if_neg a0, if_neg a1, if_neg a2, if_neg a3, h42, r3, hN.2.2.1, ct, r2]
    have k16 : ∀ (t : Int32) (x : Int64), (F152_0 t x Q).1 650 16 = nI fd := by
      intro t x
      unfold F152_0
      rw [wl_i, w_nk (by decide), r3, hN.2.2.1]
    have k42 : ∀ (t : Int32) (x : Int64), (F152_0 t x Q).1 650 42 = nI tk := fun t x => (give t x).2.2.2
    by_cases h1 : tk < fd
    · have nle : ¬ nI fd ≤ nI tk := nI_ge h1 (by omega)
      simp only [k16, k42]
      rw [if_neg nle, if_pos h1, if_neg nle, nI_1]
      have g := give 1 (Int32.toInt64 (q.1 664 tk))
      refine ⟨⟨ve, ve, fun z => absurd z a3, fun _ => ⟨ve, fun _ => ⟨fun z => absurd z nle, fun _ => ⟨vp_in_nI (by omega) (by decide), trivial, ?_⟩⟩, fun z => absurd trivial z⟩⟩, ⟨fun c j x y => ?_, fun c j x y => g.1.2.1 c j x y, fun j hj => ⟨?_, (g.1.2.2 j hj).2⟩⟩, ?_, ?_, w_eq⟩
      · simp
      · rw [w_get, if_neg (by omega)]; exact g.1.1 c j x y
      · rw [w_ne (by decide)]; exact (g.1.2.2 j hj).1
      · rw [w_nk (by decide)]; exact g.2.1
      · show (F152_0 1 (Int32.toInt64 (q.1 664 tk)) Q).2 650 38 = _
        rw [g.2.2.1, toI64, (hN.2.2.2 tk h1).1]
    · have le : nI fd ≤ nI tk := nI_le (by omega) (by omega)
      simp only [k16, k42]
      rw [if_pos le, if_neg h1, if_pos le]
      have g := give 1 0
      refine ⟨⟨ve, ve, fun z => absurd z a3, fun _ => ⟨ve, fun _ => ⟨fun _ => ⟨trivial, ?_⟩, fun z => absurd le z⟩, fun z => absurd trivial z⟩⟩, ⟨fun c j x y => ?_, fun c j x y => g.1.2.1 c j x y, fun j hj => ⟨?_, (g.1.2.2 j hj).2⟩⟩, ?_, ?_, w_eq⟩
      · simp
      · rw [w_get, if_neg (by omega)]; exact g.1.1 c j x y
      · rw [w_ne (by decide)]; exact (g.1.2.2 j hj).1
      · rw [w_nk (by decide)]; exact g.2.1
      · exact g.2.2.1
end
