/-! quotients -/
theorem d_n {n k m : Int} (hn : n ∈ rp) (hk : k ∈ rp) (hm : m ∈ rp) (h : n ≤ k) : (0 < m → n.fdiv m ≤ k.fdiv m) ∧ (m < 0 → k.fdiv m ≤ n.fdiv m) := by
  have c := List.all_eq_true.mp chk_dn m hm
  rw [Bool.or_eq_true, beq_iff_eq] at c
  refine ⟨fun z => ?_, fun z => ?_⟩
  · have c := all2 (c.resolve_left (by omega)) hn hk
    rw [Bool.or_eq_true, if_pos z] at c
    rcases c with c | c
    · rw [Bool.not_eq_true', decide_eq_false_iff_not] at c; exact absurd h c
    · exact of_decide_eq_true c
  · have c := all2 (c.resolve_left (by omega)) hn hk
    rw [Bool.or_eq_true, if_neg (by omega)] at c
    rcases c with c | c
    · rw [Bool.not_eq_true', decide_eq_false_iff_not] at c; exact absurd h c
    · exact of_decide_eq_true c
theorem d_m {n m k : Int} (hn : n ∈ rp) (hm : m ∈ rp) (hk : k ∈ rp) (h : m ≤ k) (hs : 0 < m ∨ k < 0) : (n < 0 → n.fdiv m ≤ n.fdiv k) ∧ (0 ≤ n → n.fdiv k ≤ n.fdiv m) := by
  have c := all2 (List.all_eq_true.mp chk_dm n hn) hm hk
  have e1 : (!(decide (m ≤ k))) = false := by rw [Bool.not_eq_false', decide_eq_true_iff]; exact h
  have e2 : (!(decide (0 < m) || decide (k < 0))) = false := by
    rw [Bool.not_eq_false', Bool.or_eq_true, decide_eq_true_iff, decide_eq_true_iff]; exact hs
  rw [e1, e2, Bool.false_or, Bool.false_or] at c
  refine ⟨fun z => ?_, fun z => ?_⟩
  · rw [if_pos z] at c; exact of_decide_eq_true c
  · rw [if_neg (by omega)] at c; exact of_decide_eq_true c
def quoR (X : Rn) (l g : Int) : Rn := if isE X = true ∨ g < l ∨ l = 0 ∨ g = 0 then eR else incR eR (mn4 (X.1.fdiv l) (X.1.fdiv g) (X.2.fdiv l) (X.2.fdiv g)) (mx4 (X.1.fdiv l) (X.1.fdiv g) (X.2.fdiv l) (X.2.fdiv g))
def divR (X Y : Rn) : Rn := joR (quoR X Y.1 (min Y.2 (-1))) (quoR X (max Y.1 1) Y.2)
/-- one sign: from l to g -/
theorem isH_quo {X : Rn} {l g : Int} (hX : okR X) (hl : l ∈ cv) (hg : g ∈ cv) (hlg : l ≤ g) (hs : 0 < l ∨ g < 0) : isH (fun z => ∃ n m, n ∈ rp ∧ inR n X ∧ m ∈ rp ∧ r289 l ≤ m ∧ m ≤ r289 g ∧ z = n.fdiv m) (quoR X l g) := by
  have a : r289 l = -289 ∧ l = -1000 ∨ r289 l = 289 ∧ l = 1000 ∨ r289 l = l ∧ -16 ≤ l ∧ l ≤ 16 := by
    rw [mem_cv] at hl
    unfold r289; split
    · omega
    · split <;> omega
  have b : r289 g = -289 ∧ g = -1000 ∨ r289 g = 289 ∧ g = 1000 ∨ r289 g = g ∧ -16 ≤ g ∧ g ≤ 16 := by
    rw [mem_cv] at hg
    unfold r289; split
    · omega
    · split <;> omega
  have rl : r289 l ∈ rp := mem_rp.mpr (by omega)
  have rg : r289 g ∈ rp := mem_rp.mpr (by omega)
  unfold quoR
  split
  · rename_i h
    refine isH_no fun z => ?_
    rintro ⟨n, m, p, q, -⟩
    rcases h with h | h
    · exact no_in h q
    · omega
  · rename_i h
    have nX : ¬ isE X = true := fun z => h (Or.inl z)
    obtain ⟨x1, x2, x3, x4, x5, x6, x7⟩ := ends hX nX
    have l0 : l ≠ 0 := by omega
    have g0 : g ≠ 0 := by omega
    refine corner (f := fun n m => n.fdiv m) ?_ ?_
    · rintro i j (rfl | rfl) (rfl | rfl)
      · exact ⟨(c_div x1 hl l0).1, (c_div x1 hl l0).2, _, _, x3, x4, rl, by omega, by omega, rfl⟩
      · exact ⟨(c_div x1 hg g0).1, (c_div x1 hg g0).2, _, _, x3, x4, rg, by omega, by omega, rfl⟩
      · exact ⟨(c_div x2 hl l0).1, (c_div x2 hl l0).2, _, _, x5, x6, rl, by omega, by omega, rfl⟩
      · exact ⟨(c_div x2 hg g0).1, (c_div x2 hg g0).2, _, _, x5, x6, rg, by omega, by omega, rfl⟩
    · rintro z ⟨n, m, p, q, hm, m1, m2, rfl⟩
      have p1 := x7 n p q
      have B := btw (f := fun n m => n.fdiv m) (a := r289 X.1) (b := r289 X.2) (c := r289 l) (d := r289 g) (n := n) (m := m) (fun j hj => by
        subst hj
        have u := d_n x3 p hm p1.1
        have v := d_n p x5 hm p1.2
        by_cases h0 : 0 < j
        · have u := u.1 h0; have v := v.1 h0; omega
        · have u := u.2 (by omega); have v := v.2 (by omega); omega) (fun i hi => by
        have ir : i ∈ rp := by rcases hi with rfl | rfl <;> assumption
        have u := d_m ir rl hm m1 (by omega)
        have v := d_m ir hm rg m2 (by omega)
        by_cases h0 : i < 0
        · have u := u.1 h0; have v := v.1 h0; omega
        · have u := u.2 (by omega); have v := v.2 (by omega); omega)
      obtain ⟨⟨i, j, hi, hj, h1⟩, k, l', hk, hl', h2⟩ := B
      refine ⟨?_, ?_⟩
      · rcases hi with rfl | rfl <;> rcases hj with rfl | rfl
        · exact ⟨_, _, Or.inl rfl, Or.inl rfl, h1⟩
        · exact ⟨_, _, Or.inl rfl, Or.inr rfl, h1⟩
        · exact ⟨_, _, Or.inr rfl, Or.inl rfl, h1⟩
        · exact ⟨_, _, Or.inr rfl, Or.inr rfl, h1⟩
      · rcases hk with rfl | rfl <;> rcases hl' with rfl | rfl
        · exact ⟨_, _, Or.inl rfl, Or.inl rfl, h2⟩
        · exact ⟨_, _, Or.inl rfl, Or.inr rfl, h2⟩
        · exact ⟨_, _, Or.inr rfl, Or.inl rfl, h2⟩
        · exact ⟨_, _, Or.inr rfl, Or.inr rfl, h2⟩
theorem isH_div {X Y : Rn} (hX : okR X) (hY : okR Y) : isH (fun z => ∃ n m, n ∈ rp ∧ inR n X ∧ m ∈ rp ∧ inR m Y ∧ m ≠ 0 ∧ z = n.fdiv m) (divR X Y) := by
  unfold divR
  have H1 : isH (fun z => ∃ n m, n ∈ rp ∧ inR n X ∧ m ∈ rp ∧ inR m Y ∧ m < 0 ∧ z = n.fdiv m) (quoR X Y.1 (min Y.2 (-1))) := by
    by_cases e : min Y.2 (-1) < Y.1
    · have : quoR X Y.1 (min Y.2 (-1)) = eR := by unfold quoR; rw [if_pos (Or.inr (Or.inl e))]
      rw [this]
      refine isH_no fun z => ?_
      rintro ⟨n, m, -, -, -, q, r, -⟩
      unfold inR at q
      omega
    · have ne : ¬ isE Y = true := by rw [isE_t]; omega
      have o := ok_ne hY ne
      refine (isH_quo hX (mem_cv.mpr (by omega)) (mem_cv.mpr (by omega)) (by omega) (Or.inr (by omega))).iff fun z => ?_
      have a : r289 Y.1 = -289 ∧ Y.1 = -1000 ∨ r289 Y.1 = Y.1 ∧ -16 ≤ Y.1 ∧ Y.1 ≤ 16 := by
        unfold r289; split
        · omega
        · split <;> omega
      have b : r289 (min Y.2 (-1)) = min Y.2 (-1) := by
        unfold r289; rw [if_neg (by omega), if_neg (by omega)]
      rw [b]
      constructor
      · rintro ⟨n, m, h1, h2, h3, h4, h5, h6⟩
        rw [mem_rp] at h3
        unfold inR at h4
        exact ⟨n, m, h1, h2, mem_rp.mpr h3, by omega, by omega, h6⟩
      · rintro ⟨n, m, h1, h2, h3, h4, h5, h6⟩
        refine ⟨n, m, h1, h2, h3, ?_, by omega, h6⟩
        rw [mem_rp] at h3
        unfold inR
        omega
  have H2 : isH (fun z => ∃ n m, n ∈ rp ∧ inR n X ∧ m ∈ rp ∧ inR m Y ∧ 0 < m ∧ z = n.fdiv m) (quoR X (max Y.1 1) Y.2) := by
    by_cases e : Y.2 < max Y.1 1
    · have : quoR X (max Y.1 1) Y.2 = eR := by unfold quoR; rw [if_pos (Or.inr (Or.inl e))]
      rw [this]
      refine isH_no fun z => ?_
      rintro ⟨n, m, -, -, -, q, r, -⟩
      unfold inR at q
      omega
    · have ne : ¬ isE Y = true := by rw [isE_t]; omega
      have o := ok_ne hY ne
      refine (isH_quo hX (mem_cv.mpr (by omega)) (mem_cv.mpr (by omega)) (by omega) (Or.inl (by omega))).iff fun z => ?_
      have a : r289 Y.2 = 289 ∧ Y.2 = 1000 ∨ r289 Y.2 = Y.2 ∧ -16 ≤ Y.2 ∧ Y.2 ≤ 16 := by
        unfold r289; split
        · omega
        · split <;> omega
      have b : r289 (max Y.1 1) = max Y.1 1 := by
        unfold r289; rw [if_neg (by omega), if_neg (by omega)]
      rw [b]
      constructor
      · rintro ⟨n, m, h1, h2, h3, h4, h5, h6⟩
        rw [mem_rp] at h3
        unfold inR at h4
        exact ⟨n, m, h1, h2, mem_rp.mpr h3, by omega, by omega, h6⟩
      · rintro ⟨n, m, h1, h2, h3, h4, h5, h6⟩
        refine ⟨n, m, h1, h2, h3, ?_, by omega, h6⟩
        rw [mem_rp] at h3
        unfold inR
        omega
  refine (isH_join H1 H2).iff fun z => ?_
  constructor
  · rintro ⟨n, m, h1, h2, h3, h4, h5, h6⟩
    by_cases e : m < 0
    · exact Or.inl ⟨n, m, h1, h2, h3, h4, e, h6⟩
    · exact Or.inr ⟨n, m, h1, h2, h3, h4, by omega, h6⟩
  · rintro (⟨n, m, h1, h2, h3, h4, h5, h6⟩ | ⟨n, m, h1, h2, h3, h4, h5, h6⟩)
    · exact ⟨n, m, h1, h2, h3, h4, by omega, h6⟩
    · exact ⟨n, m, h1, h2, h3, h4, by omega, h6⟩
/-! truth, and what is kept -/
def truR (t f : Bool) : Rn := incR eR (if f = true then 0 else 1) (if t = true then 1 else 0)
theorem isH_tru {M : Int → Prop} {t f : Bool} (h : ∀ z, M z → z = 0 ∨ z = 1) (h1 : M 1 ↔ t = true) (h0 : M 0 ↔ f = true) : isH M (truR t f) := by
  unfold truR
  cases t with
  | false =>
    have n1 : ¬ M 1 := fun z => by cases h1.mp z
    cases f with
    | false =>
      have n0 : ¬ M 0 := fun z => by cases h0.mp z
      exact isH_no fun z hz => by rcases h z hz with e | e <;> subst e <;> contradiction
    | true =>
      have y0 : M 0 := h0.mpr rfl
      refine ⟨⟨by decide, by decide⟩, fun z hz => ?_, Or.inr ⟨⟨0, y0, by decide⟩, 0, y0, by decide⟩⟩
      rcases h z hz with e | e <;> subst e
      · decide
      · contradiction
  | true =>
    have y1 : M 1 := h1.mpr rfl
    cases f with
    | false =>
      have n0 : ¬ M 0 := fun z => by cases h0.mp z
      refine ⟨⟨by decide, by decide⟩, fun z hz => ?_, Or.inr ⟨⟨1, y1, by decide⟩, 1, y1, by decide⟩⟩
      rcases h z hz with e | e <;> subst e
      · contradiction
      · decide
    | true =>
      have y0 : M 0 := h0.mpr rfl
      refine ⟨⟨by decide, by decide⟩, fun z hz => ?_, Or.inr ⟨⟨0, y0, by decide⟩, 1, y1, by decide⟩⟩
      rcases h z hz with e | e <;> subst e <;> decide
def keeR (X : Rn) (a b : Int) : Rn := incR eR (max X.1 a) (min X.2 b)
def droR (X : Rn) (n : Int) : Rn := incR eR (if X.1 = n then n + 1 else X.1) (if X.2 = n then n - 1 else X.2)
/-- a hull by its ends -/
theorem isH_ends {M : Int → Prop} {l g a b : Int} (h : l ≤ g) (hz : ∀ z, M z → loF l ≤ loF z ∧ hiF z ≤ hiF g) (ha : M a) (ha2 : loF a ≤ loF l) (hb : M b) (hb2 : hiF g ≤ hiF b) : isH M (incR eR l g) := by
  rw [inc_eR h]
  exact ⟨eR_lo, hz, Or.inr ⟨⟨a, ha, ha2⟩, b, hb, hb2⟩⟩
theorem inc_no {l g : Int} (h : g < l) : incR eR l g = eR := by unfold incR; rw [if_pos h]
theorem isH_kee {X : Rn} {a b : Int} (hX : okR X) (ha : a = -1000 ∨ (-16 ≤ a ∧ a ≤ 16) ∨ a = 1001) (hb : b = 1000 ∨ (-17 ≤ b ∧ b ≤ 16) ∨ b ≤ -1001) : isH (fun z => z ∈ rp ∧ inR z X ∧ a ≤ z ∧ z ≤ b) (keeR X a b) := by
  unfold keeR
  by_cases e : min X.2 b < max X.1 a
  · rw [inc_no e]
    refine isH_no fun z => ?_
    rintro ⟨h1, h2, h3, h4⟩
    unfold inR at h2
    omega
  · have ne : ¬ isE X = true := by rw [isE_t]; omega
    have o := ok_ne hX ne
    have A : ∃ u, u ∈ rp ∧ inR u X ∧ a ≤ u ∧ u ≤ b ∧ loF u ≤ loF (max X.1 a) := by
      by_cases h : max X.1 a = -1000
      · refine ⟨-289, mem_rp.mpr (by omega), ⟨by omega, by omega⟩, by omega, by omega, ?_⟩
        rw [h]; decide
      · exact ⟨max X.1 a, mem_rp.mpr (by omega), ⟨by omega, by omega⟩, by omega, by omega, Int.le_refl _⟩
    have B : ∃ u, u ∈ rp ∧ inR u X ∧ a ≤ u ∧ u ≤ b ∧ hiF (min X.2 b) ≤ hiF u := by
      by_cases h : min X.2 b = 1000
      · refine ⟨289, mem_rp.mpr (by omega), ⟨by omega, by omega⟩, by omega, by omega, ?_⟩
        rw [h]; decide
      · exact ⟨min X.2 b, mem_rp.mpr (by omega), ⟨by omega, by omega⟩, by omega, by omega, Int.le_refl _⟩
    obtain ⟨u, u1, u2, u3, u4, u5⟩ := A
    obtain ⟨v, v1, v2, v3, v4, v5⟩ := B
    refine isH_ends (by omega) (fun z hz => ?_) ⟨u1, u2, u3, u4⟩ u5 ⟨v1, v2, v3, v4⟩ v5
    obtain ⟨h1, h2, h3, h4⟩ := hz
    unfold inR at h2
    exact ⟨loF_le (by omega), hiF_le (by omega)⟩
/-- less than an end that may be none -/
theorem isH_les {X : Rn} {h : Int} (hX : okR X) (hh : h = 1000 ∨ (-16 ≤ h ∧ h ≤ 16) ∨ h = -1001) : isH (fun z => z ∈ rp ∧ inR z X ∧ z < r289 h) (keeR X (-1000) (h - 1)) := by
  by_cases e : h = 1000
  · subst e
    unfold keeR
    by_cases e : min X.2 (1000 - 1) < max X.1 (-1000)
    · rw [inc_no e]
      refine isH_no fun z => ?_
      rintro ⟨h1, h2, h3⟩
      rw [mem_rp] at h1
      unfold inR at h2
      rcases hX with hX | hX
      · rw [hX] at h2; unfold eR at h2; dsimp only at h2; omega
      · omega
    · have ne : ¬ isE X = true := by rw [isE_t]; omega
      have o := ok_ne hX ne
      have r : r289 1000 = 289 := rfl
      have A : ∃ u, u ∈ rp ∧ inR u X ∧ u < r289 1000 ∧ loF u ≤ loF (max X.1 (-1000)) := by
        by_cases h : X.1 = -1000
        · refine ⟨-289, mem_rp.mpr (by omega), ⟨by omega, by omega⟩, by omega, ?_⟩
          rw [h]; decide
        · exact ⟨max X.1 (-1000), mem_rp.mpr (by omega), ⟨by omega, by omega⟩, by omega, Int.le_refl _⟩
      have B : ∃ u, u ∈ rp ∧ inR u X ∧ u < r289 1000 ∧ hiF (min X.2 (1000 - 1)) ≤ hiF u := by
        by_cases h : X.2 = 1000
        · refine ⟨17, mem_rp.mpr (by omega), ⟨by omega, by omega⟩, by omega, ?_⟩
          rw [h]; decide
        · exact ⟨min X.2 (1000 - 1), mem_rp.mpr (by omega), ⟨by omega, by omega⟩, by omega, Int.le_refl _⟩
      obtain ⟨u, u1, u2, u3, u5⟩ := A
      obtain ⟨v, v1, v2, v3, v5⟩ := B
      refine isH_ends (by omega) (fun z hz => ?_) ⟨u1, u2, u3⟩ u5 ⟨v1, v2, v3⟩ v5
      obtain ⟨h1, h2, h3⟩ := hz
      rw [mem_rp] at h1
      unfold inR at h2
      refine ⟨loF_le (by omega), hiF_le (by omega)⟩
  · have r : r289 h = h := by unfold r289; rw [if_neg (by omega), if_neg e]
    rw [r]
    refine (isH_kee hX (Or.inl rfl) (b := h - 1) (by omega)).iff fun z => ?_
    constructor
    · rintro ⟨h1, h2, h3⟩
      refine ⟨h1, h2, ?_, by omega⟩
      rw [mem_rp] at h1; omega
    · rintro ⟨h1, h2, h3, h4⟩
      exact ⟨h1, h2, by omega⟩
theorem isH_dro {X : Rn} {n : Int} (hX : okR X) (hn : (-16 ≤ n ∧ n ≤ 16) ∨ n = 1001) : isH (fun z => z ∈ rp ∧ inR z X ∧ z ≠ n) (droR X n) := by
  unfold droR
  have d1 : (X.1 = n ∧ (if X.1 = n then n + 1 else X.1) = n + 1) ∨ (X.1 ≠ n ∧ (if X.1 = n then n + 1 else X.1) = X.1) := by split <;> omega
  have d2 : (X.2 = n ∧ (if X.2 = n then n - 1 else X.2) = n - 1) ∨ (X.2 ≠ n ∧ (if X.2 = n then n - 1 else X.2) = X.2) := by split <;> omega
  generalize (if X.1 = n then n + 1 else X.1) = l at *
  generalize (if X.2 = n then n - 1 else X.2) = g at *
  by_cases e : g < l
  · rw [inc_no e]
    refine isH_no fun z => ?_
    rintro ⟨h1, h2, h3⟩
    unfold inR at h2
    rw [mem_rp] at h1
    rcases hX with hX | hX
    · rw [hX] at h2; unfold eR at h2; dsimp only at h2; omega
    · omega
  · have ne : ¬ isE X = true := by
      intro z
      have := isE_eR hX z
      rw [this] at d1 d2
      unfold eR at d1 d2
      dsimp only at d1 d2
      omega
    have o := ok_ne hX ne
    have A : ∃ u, u ∈ rp ∧ inR u X ∧ u ≠ n ∧ loF u ≤ loF l := by
      by_cases h : l = -1000
      · refine ⟨-289, mem_rp.mpr (by omega), ⟨by omega, by omega⟩, by omega, ?_⟩
        rw [h]; decide
      · exact ⟨l, mem_rp.mpr (by omega), ⟨by omega, by omega⟩, by omega, Int.le_refl _⟩
    have B : ∃ u, u ∈ rp ∧ inR u X ∧ u ≠ n ∧ hiF g ≤ hiF u := by
      by_cases h : g = 1000
      · refine ⟨289, mem_rp.mpr (by omega), ⟨by omega, by omega⟩, by omega, ?_⟩
        rw [h]; decide
      · exact ⟨g, mem_rp.mpr (by omega), ⟨by omega, by omega⟩, by omega, Int.le_refl _⟩
    obtain ⟨u, u1, u2, u3, u5⟩ := A
    obtain ⟨v, v1, v2, v3, v5⟩ := B
    refine isH_ends (by omega) (fun z hz => ?_) ⟨u1, u2, u3⟩ u5 ⟨v1, v2, v3⟩ v5
    obtain ⟨h1, h2, h3⟩ := hz
    unfold inR at h2
    exact ⟨loF_le (by omega), hiF_le (by omega)⟩
