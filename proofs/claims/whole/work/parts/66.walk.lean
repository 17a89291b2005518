/-! where control goes: both sides -/
/-- behind a statement, at most f levels up -/
def pBeh (q : aQ) : Nat → Nat → Nat
  | 0, _ => 24
  | f + 1, s => if q.1 14 s = -1 then (if q.1 12 s = -1 then 24 else if q.1 9 (q.1 12 s).toNatClampNeg = 5 then (q.1 12 s).toNatClampNeg else pBeh q f (q.1 12 s).toNatClampNeg) else (q.1 14 s).toNatClampNeg
def bh (q : aQ) (s : Nat) : Nat := pBeh q 6 s
theorem pBeh_s {q : aQ} {f s : Nat} : pBeh q (f + 1) s = if q.1 14 s = -1 then (if q.1 12 s = -1 then 24 else if q.1 9 (q.1 12 s).toNatClampNeg = 5 then (q.1 12 s).toNatClampNeg else pBeh q f (q.1 12 s).toNatClampNeg) else (q.1 14 s).toNatClampNeg := rfl
theorem pBeh_f {q : aQ} : ∀ {d s f : Nat}, dp q d s → s < 24 → d < f → pBeh q f s = pBeh q (d + 1) s
  | 0, s, f + 1, h, _, _ => by
    have h : q.1 12 s = -1 := h
    rw [pBeh_s, pBeh_s, if_pos h, if_pos h]
  | d + 1, s, f + 1, ⟨p, h1, h2, h3⟩, hs, hf => by
    have ih := pBeh_f (f := f) h3 (by omega) (by omega)
    have e : (q.1 12 s).toNatClampNeg = p := by rw [h2, nI_clamp (by omega)]
    rw [pBeh_s, pBeh_s, e, ih]
theorem pBeh_fr {q q' : aQ} (r : ∀ c j, 9 ≤ c → c ≤ 15 → q'.1 c j = q.1 c j) : ∀ f s, pBeh q' f s = pBeh q f s
  | 0, s => rfl
  | f + 1, s => by rw [pBeh_s, pBeh_s, r 14 s (by decide) (by decide), r 12 s (by decide) (by decide), r 9 _ (by decide) (by decide), pBeh_fr r f]
section
variable {q : aQ} {nE n m : Nat} {o p : Nat → Nat}
theorem iP.par (h : iP q nE n m o p) {s : Nat} (hs : s < n) : q.1 12 s = -1 ∨ ∃ p, p < s ∧ q.1 12 s = nI p := by
  obtain ⟨d, -, hd⟩ := (h.2.2.2.2.2.2.1 s hs).2.2.2.2.2.2.2
  cases d with
  | zero => exact Or.inl hd
  | succ d => obtain ⟨p, h1, h2, -⟩ := hd; exact Or.inr ⟨p, h1, h2⟩
theorem pBeh_lt (h : iP q nE n m o p) : ∀ f s, s < n → pBeh q f s = 24 ∨ pBeh q f s < n
  | 0, s, _ => Or.inl rfl
  | f + 1, s, hs => by
    have h24 := h.1
    rw [pBeh_s]
    by_cases g : q.1 14 s = -1
    · rw [if_pos g]
      rcases h.par hs with g2 | ⟨p, g2, g3⟩
      · rw [if_pos g2]; exact Or.inl rfl
      · have e : (q.1 12 s).toNatClampNeg = p := by rw [g3, nI_clamp (by omega)]
        rw [if_neg (by rw [g3]; exact nI_nm1 (by omega)), e]
        by_cases g5 : q.1 9 p = 5
        · rw [if_pos g5]; exact Or.inr (by omega)
        · rw [if_neg g5]; exact pBeh_lt h f p (by omega)
    · rw [if_neg g]
      rcases (h.2.2.2.2.2.2.1 s hs).2.2.2.1 with g2 | ⟨t, g2, g3⟩
      · exact absurd g2 g
      · rw [g3, nI_clamp (by omega)]; exact Or.inr g2
theorem bh_lt (h : iP q nE n m o p) {s : Nat} (hs : s < n) : bh q s = 24 ∨ bh q s < n := pBeh_lt h 6 s hs
theorem nI_in24 {s n : Nat} (hs : s < n) (h : n ≤ 24) : vp_in (nI s) 24 := vp_in_nI (by omega) (by decide)
theorem nI_n5 {v : Nat} (h : v ≤ 5) : ¬ (5 : Int32) < nI v := nI_nlt (a := 5) (b := v) h (by decide)
theorem bh_class (h : iP q nE n m o p) : ∀ d s v f, dp q d s → s < n → v + d ≤ 5 → d < f → a_sf (fun (s : Int32 × Int32) => F43_4 s.1 s.2 q) (fun (s : Int32 × Int32) => S43_4 s.1 s.2 q) f (nI s, nI v) ∧ a_it (fun (s : Int32 × Int32) => F43_4 s.1 s.2 q) f (nI s, nI v) = some (.inr (nI (pBeh q (d + 1) s))) := by
  have h24 := h.1
  intro d
  induction d with
  | zero =>
    intro s v f hd hs hv hf
    obtain ⟨f, rfl⟩ : ∃ g, f = g + 1 := ⟨f - 1, by omega⟩
    have hd : q.1 12 s = -1 := hd
    have cs : (nI s).toNatClampNeg = s := nI_clamp (by omega)
    have vs := nI_in24 hs h24
    have e : F43_4 (nI s) (nI v) q = .inr (.inr (nI (pBeh q 1 s))) := by
      unfold F43_4
      rw [if_neg (nI_n5 (by omega)), cs, pBeh_s, if_pos hd]
      by_cases g : q.1 14 s = -1
      · rw [if_pos g, if_pos g, if_pos hd]; rfl
      · rw [if_neg g, if_neg g]
        rcases (h.2.2.2.2.2.2.1 s hs).2.2.2.1 with g2 | ⟨t, g2, g3⟩
        · exact absurd g2 g
        · rw [g3, nI_clamp (by omega)]
    refine ⟨sf_e e ?_, it_e e⟩
    unfold S43_4
    rw [cs]
    exact ⟨fun _ => trivial, fun _ => ⟨vs, fun _ => ⟨vs, fun _ => trivial, fun z => absurd hd z⟩, fun _ => ⟨vs, trivial⟩⟩⟩
  | succ d ih =>
    intro s v f hd hs hv hf
    obtain ⟨f, rfl⟩ : ∃ g, f = g + 1 := ⟨f - 1, by omega⟩
    obtain ⟨p, p1, p2, p3⟩ := hd
    have cs : (nI s).toNatClampNeg = s := nI_clamp (by omega)
    have cp : (nI p).toNatClampNeg = p := nI_clamp (by omega)
    have vs := nI_in24 hs h24
    have vp : vp_in (nI p) 24 := nI_in24 (show p < n by omega) h24
    have np : ¬ nI p = -1 := nI_nm1 (by omega)
    have S : S43_4 (nI s) (nI v) q := by
      unfold S43_4
      rw [cs, p2]
      exact ⟨fun _ => trivial, fun _ => ⟨vs, fun _ => ⟨vs, fun _ => trivial, fun z => ⟨vp, fun _ => trivial, fun _ => trivial⟩⟩, fun _ => ⟨vs, trivial⟩⟩⟩
    by_cases g : q.1 14 s = -1
    · by_cases g5 : q.1 9 p = 5
      · have e : F43_4 (nI s) (nI v) q = .inr (.inr (nI (pBeh q (d + 1 + 1) s))) := by
          unfold F43_4
          rw [if_neg (nI_n5 (by omega)), cs, pBeh_s, if_pos g, if_pos g, p2, if_neg np, if_neg np, cp, if_pos g5, if_pos g5]
        exact ⟨sf_e e S, it_e e⟩
      · have e : F43_4 (nI s) (nI v) q = .inl (nI p, nI (v + 1)) := by
          unfold F43_4
          rw [if_neg (nI_n5 (by omega)), cs, if_pos g, p2, if_neg np, cp, if_neg g5, nI_1]
        obtain ⟨i1, i2⟩ := ih p (v + 1) f p3 (by omega) (by omega) (by omega)
        refine ⟨sf_s e S i1, ?_⟩
        rw [it_s (B := fun (s : Int32 × Int32) => F43_4 s.1 s.2 q) (s := (nI s, nI v)) e, i2, pBeh_s (f := d + 1), if_pos g, p2, if_neg np, cp, if_neg g5]
    · have e : F43_4 (nI s) (nI v) q = .inr (.inr (nI (pBeh q (d + 1 + 1) s))) := by
        unfold F43_4
        rw [if_neg (nI_n5 (by omega)), cs, pBeh_s, if_neg g, if_neg g]
        rcases (h.2.2.2.2.2.2.1 s hs).2.2.2.1 with g2 | ⟨t, g2, g3⟩
        · exact absurd g2 g
        · rw [g3, nI_clamp (by omega)]
      exact ⟨sf_e e S, it_e e⟩
theorem F43_eq (h : iP q nE n m o p) {s : Nat} (hs : s < n) : F43_0 (nI s) q = nI (bh q s) ∧ S43_0 (nI s) q := by
  obtain ⟨d, d5, hd⟩ := (h.2.2.2.2.2.2.1 s hs).2.2.2.2.2.2.2
  obtain ⟨a, b⟩ := bh_class h d s 0 200 hd hs (by omega) (by omega)
  have h24 := h.1
  unfold F43_0 S43_0 bh
  rw [pBeh_f hd (by omega) (by omega)]
  have b' : a_lp (fun (s : Int32 × Int32) => F43_4 s.1 s.2 q) 200 (nI s, 0) (.inl ()) = .inr (nI (pBeh q (d + 1) s)) := a_lp_eq b
  rw [b']
  exact ⟨rfl, a, trivial⟩
theorem lk_neg {x : Int32} {n : Nat} (h : lk x n) (hn : n ≤ 24) : (x < 0 ↔ x = -1) ∧ (0 ≤ x ↔ ¬ x = -1) := by
  rcases h with h | ⟨t, h1, h2⟩
  · subst h; decide
  · subst h2
    have a : ¬ nI t < 0 := nI_pos (by omega)
    have b : ¬ nI t = -1 := nI_nm1 (by omega)
    have c : (0 : Int32) ≤ nI t := nI_pos' (by omega)
    exact ⟨⟨fun z => absurd z a, fun z => absurd z b⟩, ⟨fun _ => b, fun _ => c⟩⟩
theorem par_neg (h : iP q nE n m o p) {s : Nat} (hs : s < n) : (q.1 12 s < 0 ↔ q.1 12 s = -1) ∧ (0 ≤ q.1 12 s ↔ ¬ q.1 12 s = -1) := by
  have h24 := h.1
  refine lk_neg (n := n) ?_ h24
  rcases h.par hs with g | ⟨p, g1, g2⟩
  · exact Or.inl g
  · exact Or.inr ⟨p, by omega, g2⟩
theorem nI_n8 {v : Nat} (h : v ≤ 5) : ¬ (8 : Int32) ≤ nI v := nI_ge (a := v) (b := 8) (by omega) (by decide)
theorem bh_model (h : iP q nE n m o p) : ∀ d s v f, dp q d s → s < n → v + d ≤ 5 → d < f → a_sf (fun (s : Int32 × Int32) => F146_4 s.1 s.2 q) (fun (s : Int32 × Int32) => S146_4 s.1 s.2 q) f (nI s, nI v) ∧ ∃ r, a_it (fun (s : Int32 × Int32) => F146_4 s.1 s.2 q) f (nI s, nI v) = some r ∧ ((∃ t, t < n ∧ r = .inl (nI t) ∧ q.1 660 t = nI (pBeh q (d + 1) s)) ∨ r = .inr (nI (pBeh q (d + 1) s))) := by
  have h24 := h.1
  intro d
  induction d with
  | zero =>
    intro s v f hd hs hv hf
    obtain ⟨f, rfl⟩ : ∃ g, f = g + 1 := ⟨f - 1, by omega⟩
    have hd : q.1 12 s = -1 := hd
    have cs : (nI s).toNatClampNeg = s := nI_clamp (by omega)
    have vs := nI_in24 hs h24
    obtain ⟨-, e658, e660, l14, -⟩ := h.2.2.2.2.2.2.1 s hs
    have g14 := lk_neg l14 h24
    have n0 : ¬ (0 : Int32) ≤ -1 := by decide
    have S : S146_4 (nI s) (nI v) q := by
      unfold S146_4
      rw [cs, e658, hd]
      exact ⟨fun _ => trivial, fun _ => ⟨vs, fun _ => trivial, fun _ => ⟨vs, fun z => absurd z n0, fun _ => trivial⟩⟩⟩
    by_cases g : q.1 14 s = -1
    · have e : F146_4 (nI s) (nI v) q = .inr (.inr (nI (pBeh q 1 s))) := by
        unfold F146_4
        rw [if_neg (nI_n8 (by omega)), cs, e658, e660, if_neg (fun z => g14.2.mp z g), hd, if_neg n0, pBeh_s, if_pos g, if_pos hd]
        rfl
      exact ⟨sf_e e S, _, it_e e, Or.inr rfl⟩
    · have e : F146_4 (nI s) (nI v) q = .inr (.inl (nI s)) := by
        unfold F146_4
        rw [if_neg (nI_n8 (by omega)), cs, e660, if_pos (g14.2.mpr g)]
      refine ⟨sf_e e S, _, it_e e, Or.inl ⟨s, hs, rfl, ?_⟩⟩
      rw [pBeh_s, if_neg g, e660]
      rcases l14 with g2 | ⟨t, g2, g3⟩
      · exact absurd g2 g
      · rw [g3, nI_clamp (by omega)]
  | succ d ih =>
    intro s v f hd hs hv hf
    obtain ⟨f, rfl⟩ : ∃ g, f = g + 1 := ⟨f - 1, by omega⟩
    obtain ⟨p, p1, p2, p3⟩ := hd
    have cs : (nI s).toNatClampNeg = s := nI_clamp (by omega)
    have cp : (nI p).toNatClampNeg = p := nI_clamp (by omega)
    have vs := nI_in24 hs h24
    have vp : vp_in (nI p) 24 := nI_in24 (show p < n by omega) h24
    have np : ¬ nI p = -1 := nI_nm1 (by omega)
    have n0 : (0 : Int32) ≤ nI p := nI_pos' (by omega)
    obtain ⟨-, e658, e660, l14, -⟩ := h.2.2.2.2.2.2.1 s hs
    obtain ⟨e655, -⟩ := h.2.2.2.2.2.2.1 p (by omega)
    have g14 := lk_neg l14 h24
    have S : S146_4 (nI s) (nI v) q := by
      unfold S146_4
      rw [cs, e658, p2]
      exact ⟨fun _ => trivial, fun _ => ⟨vs, fun _ => trivial, fun _ => ⟨vs, fun _ => ⟨vp, fun _ => trivial, fun _ => trivial⟩, fun _ => trivial⟩⟩⟩
    by_cases g : q.1 14 s = -1
    · by_cases g5 : q.1 9 p = 5
      · have e : F146_4 (nI s) (nI v) q = .inr (.inr (nI (pBeh q (d + 1 + 1) s))) := by
          unfold F146_4
          rw [if_neg (nI_n8 (by omega)), cs, e658, e660, if_neg (fun z => g14.2.mp z g), p2, if_pos n0, cp, e655, if_pos g5, pBeh_s, if_pos g, p2, if_neg np, cp, if_pos g5]
        exact ⟨sf_e e S, _, it_e e, Or.inr rfl⟩
      · have e : F146_4 (nI s) (nI v) q = .inl (nI p, nI (v + 1)) := by
          unfold F146_4
          rw [if_neg (nI_n8 (by omega)), cs, e658, e660, if_neg (fun z => g14.2.mp z g), p2, if_pos n0, cp, e655, if_neg g5, nI_1]
        obtain ⟨i1, r, i2, i3⟩ := ih p (v + 1) f p3 (by omega) (by omega) (by omega)
        refine ⟨sf_s e S i1, r, ?_, ?_⟩
        · rw [it_s (B := fun (s : Int32 × Int32) => F146_4 s.1 s.2 q) (s := (nI s, nI v)) e, i2]
        · rw [pBeh_s (f := d + 1), if_pos g, p2, if_neg np, cp, if_neg g5]
          exact i3
    · have e : F146_4 (nI s) (nI v) q = .inr (.inl (nI s)) := by
        unfold F146_4
        rw [if_neg (nI_n8 (by omega)), cs, e660, if_pos (g14.2.mpr g)]
      refine ⟨sf_e e S, _, it_e e, Or.inl ⟨s, hs, rfl, ?_⟩⟩
      rw [pBeh_s, if_neg g, e660]
      rcases l14 with g2 | ⟨t, g2, g3⟩
      · exact absurd g2 g
      · rw [g3, nI_clamp (by omega)]
theorem F146_eq (h : iP q nE n m o p) {s : Nat} (hs : s < n) : F146_0 (nI s) q = nI (bh q s) ∧ S146_0 (nI s) q := by
  obtain ⟨d, d5, hd⟩ := (h.2.2.2.2.2.2.1 s hs).2.2.2.2.2.2.2
  obtain ⟨a, r, b, c⟩ := bh_model h d s 0 200 hd hs (by omega) (by omega)
  have h24 := h.1
  unfold F146_0 S146_0 bh
  rw [pBeh_f hd (by omega) (by omega)]
  have b' : a_lp (fun (s : Int32 × Int32) => F146_4 s.1 s.2 q) 200 (nI s, 0) (.inl (nI s)) = r := a_lp_eq b
  rw [b']
  rcases c with ⟨t, c1, c2, c3⟩ | c
  · subst c2
    refine ⟨?_, a, nI_in24 c1 h24, trivial⟩
    show q.1 660 (nI t).toNatClampNeg = _
    rw [nI_clamp (by omega)]
    exact c3
  · subst c
    exact ⟨rfl, a, trivial⟩
/-- where a block begins -/
def en (q : aQ) (s b : Nat) : Nat := if q.1 15 (2 * s + b) = -1 then (if q.1 9 s = 5 ∧ b = 0 then s else bh q s) else (q.1 15 (2 * s + b)).toNatClampNeg
theorem en_lt (h : iP q nE n m o p) {s b : Nat} (hs : s < n) (hb : b < 2) : en q s b = 24 ∨ en q s b < n := by
  have h24 := h.1
  unfold en
  by_cases g : q.1 15 (2 * s + b) = -1
  · rw [if_pos g]
    by_cases g2 : q.1 9 s = 5 ∧ b = 0
    · rw [if_pos g2]; exact Or.inr hs
    · rw [if_neg g2]; exact bh_lt h hs
  · rw [if_neg g]
    rcases ((h.2.2.2.2.2.2.1 s hs).2.2.2.2.1 b hb).2.1 with g2 | ⟨t, g2, g3⟩
    · exact absurd g2 g
    · rw [g3, nI_clamp (by omega)]; exact Or.inr g2
theorem nI_2b {s b : Nat} : 2 * nI s + nI b = nI (2 * s + b) := by rw [nI_2, nI_add]
theorem F42_eq (h : iP q nE n m o p) {s b : Nat} (hs : s < n) (hb : b < 2) : F42_0 (nI s) (nI b) q = nI (en q s b) ∧ S42_0 (nI s) (nI b) q := by
  have h24 := h.1
  have B := F43_eq h hs
  have cs : (nI s).toNatClampNeg = s := nI_clamp (by omega)
  have c2 : (nI (2 * s + b)).toNatClampNeg = 2 * s + b := nI_clamp (by omega)
  have v2 : vp_in (nI (2 * s + b)) 48 := vp_in_nI (by omega) (by decide)
  have vs := nI_in24 hs h24
  unfold F42_0 S42_0 F42_36 S42_36 en
  rw [nI_2b, cs, c2, B.1]
  refine ⟨?_, v2, fun _ => ⟨vs, fun _ => ⟨fun _ => trivial, fun _ => ⟨B.2, trivial⟩⟩, fun _ => ⟨B.2, trivial⟩⟩, fun _ => trivial⟩
  by_cases g : q.1 15 (2 * s + b) = -1
  · rw [if_pos g, if_pos g]
    by_cases g2 : q.1 9 s = 5
    · rw [if_pos g2]
      by_cases g3 : b = 0
      · subst g3; rw [if_pos (by decide), if_pos ⟨g2, rfl⟩]
      · have : ¬ nI b = 0 := nI_ne0 (by omega) (by omega)
        rw [if_neg this, if_neg (fun z => g3 z.2)]
    · rw [if_neg g2, if_neg (fun z => g2 z.1)]
  · rw [if_neg g, if_neg g]
    rcases ((h.2.2.2.2.2.2.1 s hs).2.2.2.2.1 b hb).2.1 with g2 | ⟨t, g2, g3⟩
    · exact absurd g2 g
    · rw [g3, nI_clamp (by omega)]
/-- a loop's second entry is behind it -/
theorem en_loop (h : iP q nE n m o p) {s : Nat} (hs : s < n) (h5 : q.1 9 s = 5) : en q s 1 = bh q s := by
  unfold en
  rw [if_pos (((h.2.2.2.2.2.2.1 s hs).2.2.2.2.1 1 (by decide)).2.2 rfl h5), if_neg (fun z => absurd z.2 (by decide))]
theorem F147_eq (h : iP q nE n m o p) {s b : Nat} (hs : s < n) (hb : b < 2) (hl : b = 1 → ¬ q.1 9 s = 5) : F147_0 (nI s) (nI b) q = nI (en q s b) ∧ S147_0 (nI s) (nI b) q := by
  have h24 := h.1
  have B := F146_eq h hs
  have cs : (nI s).toNatClampNeg = s := nI_clamp (by omega)
  have c2 : (nI (2 * s + b)).toNatClampNeg = 2 * s + b := nI_clamp (by omega)
  have v2 : vp_in (nI (2 * s + b)) 49 := vp_in_nI (by omega) (by decide)
  have vs := nI_in24 hs h24
  obtain ⟨e655, -, -, -, e15, -⟩ := h.2.2.2.2.2.2.1 s hs
  obtain ⟨e661, l15, -⟩ := e15 b hb
  have g15 := lk_neg l15 h24
  unfold F147_0 S147_0 en
  rw [nI_2b, cs, c2, B.1, e661, e655]
  refine ⟨?_, v2, fun _ => ⟨vs, fun _ => trivial, fun _ => ⟨B.2, trivial⟩⟩, fun _ => trivial⟩
  by_cases g : q.1 15 (2 * s + b) = -1
  · rw [if_pos (g15.1.mpr g), if_pos g]
    by_cases g2 : q.1 9 s = 5
    · have g3 : b = 0 := by
        have : ¬ b = 1 := fun z => hl z g2
        omega
      rw [if_pos g2, if_pos ⟨g2, g3⟩]
    · rw [if_neg g2, if_neg (fun z => g2 z.1)]
  · rw [if_neg (fun z => g (g15.1.mp z)), if_neg g]
    rcases l15 with g2 | ⟨t, g2, g3⟩
    · exact absurd g2 g
    · rw [g3, nI_clamp (by omega)]
/-- the loop that a break or a continue belongs to -/
theorem la_model (h : iP q nE n m o p) : ∀ f s L g, la q f s L → s < n → f < g → a_sf (fun (s : Int32) => F148_7 s q) (fun (s : Int32) => S148_7 s q) g (q.1 658 s) ∧ a_it (fun (s : Int32) => F148_7 s q) g (q.1 658 s) = some (nI L) := by
  have h24 := h.1
  intro f
  induction f with
  | zero => intro s L g hl; exact hl.elim
  | succ f ih =>
    intro s L g hl hs hg
    obtain ⟨g, rfl⟩ : ∃ k, g = k + 1 := ⟨g - 1, by omega⟩
    obtain ⟨p, p1, p2, p3⟩ := hl
    have cp : (nI p).toNatClampNeg = p := nI_clamp (by omega)
    have vp : vp_in (nI p) 24 := nI_in24 (show p < n by omega) h24
    have n0 : ¬ nI p < 0 := nI_pos (by omega)
    obtain ⟨-, e658, -⟩ := h.2.2.2.2.2.2.1 s hs
    obtain ⟨e655, -⟩ := h.2.2.2.2.2.2.1 p (by omega)
    rw [e658, p2]
    have S : S148_7 (nI p) q := by
      unfold S148_7
      exact ⟨fun _ => trivial, fun _ => ⟨vp, fun _ => trivial, fun _ => ⟨vp, trivial⟩⟩⟩
    rcases p3 with ⟨p3, rfl⟩ | ⟨p3, p4⟩
    · have e : F148_7 (nI p) q = .inr (nI p) := by
        unfold F148_7
        rw [if_neg n0, cp, e655, if_pos p3]
      exact ⟨sf_e e S, it_e e⟩
    · have e : F148_7 (nI p) q = .inl (q.1 658 p) := by
        unfold F148_7
        rw [if_neg n0, cp, e655, if_neg p3]
      obtain ⟨i1, i2⟩ := ih p L g p4 (by omega) (by omega)
      refine ⟨sf_s e S i1, ?_⟩
      rw [it_s (B := fun (s : Int32) => F148_7 s q) e, i2]
/-- the loop of a break or a continue, both sides -/
theorem F148_eq (h : iP q nE n m o p) {s : Nat} (hs : s < n) (hk : q.1 9 s = 2 ∨ q.1 9 s = 3) : ∃ L, L < s ∧ q.1 10 s = nI L ∧ F148_0 (nI s) q = nI L ∧ S148_0 (nI s) q := by
  have h24 := h.1
  obtain ⟨k, k1, k2, k3⟩ := (h.2.2.2.2.2.2.1 s hs).2.2.2.2.2.2.1
  have hk' : k = 2 ∨ k = 3 := by
    rw [k2] at hk
    rcases hk with hk | hk
    · exact Or.inl (nI_inj (b := 2) (by omega) (by decide) hk)
    · exact Or.inr (nI_inj (b := 3) (by omega) (by decide) hk)
  obtain ⟨L, l1, l2, l3⟩ := k3.2.2.1 hk'
  obtain ⟨a, b⟩ := la_model h 5 s L 200 l3 hs (by omega)
  have cs : (nI s).toNatClampNeg = s := nI_clamp (by omega)
  refine ⟨L, l1, l2, ?_, ?_⟩
  · unfold F148_0 F148_31
    rw [cs]
    exact a_lp_eq b
  · unfold S148_0 S148_31
    rw [cs]
    exact ⟨nI_in24 hs h24, a, trivial⟩
end
