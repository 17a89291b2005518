/-! who catches an error: both sides -/
def pCat (q : aQ) (k : Int32) : Nat → Nat → Option Nat
  | 0, _ => none
  | f + 1, s => if q.1 12 s = -1 then none else if q.1 9 (q.1 12 s).toNatClampNeg = 6 ∧ q.1 13 s = 0 ∧ (q.1 10 (q.1 12 s).toNatClampNeg = 0 ∨ q.1 10 (q.1 12 s).toNatClampNeg = k) then some (q.1 12 s).toNatClampNeg else pCat q k f (q.1 12 s).toNatClampNeg
def ct (q : aQ) (s : Nat) (k : Int32) : Option Nat := pCat q k 6 s
theorem pCat_s {q : aQ} {k : Int32} {f s : Nat} : pCat q k (f + 1) s = if q.1 12 s = -1 then none else if q.1 9 (q.1 12 s).toNatClampNeg = 6 ∧ q.1 13 s = 0 ∧ (q.1 10 (q.1 12 s).toNatClampNeg = 0 ∨ q.1 10 (q.1 12 s).toNatClampNeg = k) then some (q.1 12 s).toNatClampNeg else pCat q k f (q.1 12 s).toNatClampNeg := rfl
theorem pCat_f {q : aQ} {k : Int32} : ∀ {d s f : Nat}, dp q d s → s < 24 → d < f → pCat q k f s = pCat q k (d + 1) s
  | 0, s, f + 1, h, _, _ => by
    have h : q.1 12 s = -1 := h
    rw [pCat_s, pCat_s, if_pos h, if_pos h]
  | d + 1, s, f + 1, ⟨p, h1, h2, h3⟩, hs, hf => by
    have ih := pCat_f (f := f) (k := k) h3 (by omega) (by omega)
    have e : (q.1 12 s).toNatClampNeg = p := by rw [h2, nI_clamp (by omega)]
    rw [pCat_s, pCat_s, e, ih]
theorem pCat_fr {q q' : aQ} {k : Int32} (r : ∀ c j, 9 ≤ c → c ≤ 15 → q'.1 c j = q.1 c j) : ∀ f s, pCat q' k f s = pCat q k f s
  | 0, s => rfl
  | f + 1, s => by rw [pCat_s, pCat_s, r 12 s (by decide) (by decide), r 13 s (by decide) (by decide), r 9 _ (by decide) (by decide), r 10 _ (by decide) (by decide), pCat_fr r f]
section
variable {q : aQ} {nE n m : Nat} {o p : Nat → Nat}
theorem pCat_lt (h : iP q nE n m o p) {k : Int32} : ∀ f s c, s < n → pCat q k f s = some c → c < n ∧ q.1 9 c = 6
  | 0, s, c, _, e => by cases e
  | f + 1, s, c, hs, e => by
    have h24 := h.1
    rw [pCat_s] at e
    rcases h.par hs with g2 | ⟨p, g2, g3⟩
    · rw [if_pos g2] at e; cases e
    · have e1 : (q.1 12 s).toNatClampNeg = p := by rw [g3, nI_clamp (by omega)]
      rw [if_neg (by rw [g3]; exact nI_nm1 (by omega)), e1] at e
      by_cases g5 : q.1 9 p = 6 ∧ q.1 13 s = 0 ∧ (q.1 10 p = 0 ∨ q.1 10 p = k)
      · rw [if_pos g5] at e
        cases e
        exact ⟨by omega, g5.1⟩
      · rw [if_neg g5] at e
        exact pCat_lt h f p c (by omega) e
theorem ct_lt (h : iP q nE n m o p) {s c : Nat} {k : Int32} (hs : s < n) (e : ct q s k = some c) : c < n ∧ q.1 9 c = 6 := pCat_lt h 6 s c hs e
/-- what the class's loop comes out with -/
def ctC (q : aQ) : Option Nat → Unit ⊕ Int32
  | none => .inl ()
  | some c => .inr (nI (en q c 1))
theorem nI_5v {v : Nat} (h : v ≤ 4) : ¬ (5 : Int32) ≤ nI v := nI_ge (a := v) (b := 5) (by omega) (by decide)
theorem ct_class (h : iP q nE n m o p) {k : Int32} : ∀ d s v f, dp q d s → s < n → v + d ≤ 5 → d < f → a_sf (fun (s : Int32 × Int32) => F44_5 k s.1 s.2 q) (fun (s : Int32 × Int32) => S44_5 k s.1 s.2 q) f (nI s, nI v) ∧ a_it (fun (s : Int32 × Int32) => F44_5 k s.1 s.2 q) f (nI s, nI v) = some (ctC q (pCat q k (d + 1) s)) := by
  have h24 := h.1
  intro d
  induction d with
  | zero =>
    intro s v f hd hs hv hf
    obtain ⟨f, rfl⟩ : ∃ g, f = g + 1 := ⟨f - 1, by omega⟩
    have hd : q.1 12 s = -1 := hd
    have cs : (nI s).toNatClampNeg = s := nI_clamp (by omega)
    have vs := nI_in24 hs h24
    have e : F44_5 k (nI s) (nI v) q = .inr (.inl ()) := by
      unfold F44_5
      rw [cs, hd, if_pos rfl]
      split <;> rfl
    refine ⟨sf_e e ?_, ?_⟩
    · unfold S44_5
      rw [cs, hd]
      exact ⟨fun _ => trivial, fun _ => ⟨vs, fun _ => trivial, fun z => absurd rfl z⟩⟩
    · rw [it_e (B := fun (s : Int32 × Int32) => F44_5 k s.1 s.2 q) (s := (nI s, nI v)) e, pCat_s, if_pos hd]
      rfl
  | succ d ih =>
    intro s v f hd hs hv hf
    obtain ⟨f, rfl⟩ : ∃ g, f = g + 1 := ⟨f - 1, by omega⟩
    obtain ⟨p, p1, p2, p3⟩ := hd
    have cs : (nI s).toNatClampNeg = s := nI_clamp (by omega)
    have cp : (nI p).toNatClampNeg = p := nI_clamp (by omega)
    have vs := nI_in24 hs h24
    have vp : vp_in (nI p) 24 := nI_in24 (show p < n by omega) h24
    have np : ¬ nI p = -1 := nI_nm1 (by omega)
    have E := F42_eq h (s := p) (b := 1) (by omega) (by decide)
    have E1 : F42_0 (nI p) 1 q = nI (en q p 1) := E.1
    have E2 : S42_0 (nI p) 1 q := E.2
    have S : S44_5 k (nI s) (nI v) q := by
      unfold S44_5 S44_54 S44_55 S44_91 S44_83
      rw [cs, p2]
      exact ⟨fun _ => trivial, fun _ => ⟨vs, fun z => absurd z np, fun _ => ⟨vs, vp, fun _ => ⟨vs, fun _ => ⟨fun z => absurd z (by decide), fun _ => ⟨vp, fun _ => ⟨E2, trivial⟩, fun _ => ⟨vp, fun _ => ⟨E2, trivial⟩, fun _ => trivial⟩⟩⟩, fun _ => ⟨fun _ => trivial, fun z => absurd rfl z⟩⟩, fun _ => ⟨fun _ => trivial, fun z => absurd rfl z⟩⟩⟩⟩
    by_cases g : q.1 9 p = 6 ∧ q.1 13 s = 0 ∧ (q.1 10 p = 0 ∨ q.1 10 p = k)
    · have e : F44_5 k (nI s) (nI v) q = .inr (ctC q (pCat q k (d + 1 + 1) s)) := by
        rw [pCat_s, p2, if_neg np, cp, if_pos g]
        unfold F44_5 F44_55 F44_83
        rw [if_neg (nI_5v (by omega)), cs, p2, if_neg np, cp, if_pos g.1, if_pos g.2.1, if_neg (by decide), E1]
        by_cases g0 : q.1 10 p = 0
        · rw [if_pos g0]; rfl
        · rw [if_neg g0, if_pos (g.2.2.resolve_left g0)]; rfl
      exact ⟨sf_e e S, it_e e⟩
    · have e : F44_5 k (nI s) (nI v) q = .inl (nI p, nI (v + 1)) := by
        unfold F44_5 F44_54 F44_55 F44_83 F44_91
        rw [if_neg (nI_5v (by omega)), cs, p2, if_neg np, cp, nI_1, if_pos (rfl : (0 : Int32) = 0), if_neg (show ¬ (1 : Int32) = 0 by decide)]
        by_cases g1 : q.1 9 p = 6
        · rw [if_pos g1]
          by_cases g2 : q.1 13 s = 0
          · rw [if_pos g2, if_neg (fun z => g ⟨g1, g2, Or.inl z⟩), if_neg (fun z => g ⟨g1, g2, Or.inr z⟩)]
          · rw [if_neg g2]
        · rw [if_neg g1]
      obtain ⟨i1, i2⟩ := ih p (v + 1) f p3 (by omega) (by omega) (by omega)
      refine ⟨sf_s e S i1, ?_⟩
      rw [it_s (B := fun (s : Int32 × Int32) => F44_5 k s.1 s.2 q) (s := (nI s, nI v)) e, i2, pCat_s (f := d + 1), p2, if_neg np, cp, if_neg g]
/-- the class's answer -/
def ctI (q : aQ) : Option Nat → Int32
  | none => -1
  | some c => nI (en q c 1)
theorem F44_eq (h : iP q nE n m o p) {s : Nat} (hs : s < n) (k : Int32) : F44_0 (nI s) k q = ctI q (ct q s k) ∧ S44_0 (nI s) k q := by
  obtain ⟨d, d5, hd⟩ := (h.2.2.2.2.2.2.1 s hs).2.2.2.2.2.2.2
  obtain ⟨a, b⟩ := ct_class h (k := k) d s 0 200 hd hs (by omega) (by omega)
  have h24 := h.1
  unfold F44_0 S44_0 ct
  rw [pCat_f hd (by omega) (by omega)]
  have b' : a_lp (fun (s : Int32 × Int32) => F44_5 k s.1 s.2 q) 200 (nI s, 0) (.inl ()) = ctC q (pCat q k (d + 1) s) := a_lp_eq b
  rw [b']
  cases pCat q k (d + 1) s with
  | none => exact ⟨rfl, a, trivial⟩
  | some c => exact ⟨rfl, a, trivial⟩
def ctM : Option Nat → Unit ⊕ Int32
  | none => .inl ()
  | some c => .inr (nI c)
theorem ct_model (h : iP q nE n m o p) {k : Int32} : ∀ d s f, dp q d s → s < n → d < f → a_sf (fun (s : Int32) => F149_2 k s q) (fun (s : Int32) => S149_2 k s q) f (nI s) ∧ a_it (fun (s : Int32) => F149_2 k s q) f (nI s) = some (ctM (pCat q k (d + 1) s)) := by
  have h24 := h.1
  intro d
  induction d with
  | zero =>
    intro s f hd hs hf
    obtain ⟨f, rfl⟩ : ∃ g, f = g + 1 := ⟨f - 1, by omega⟩
    have hd : q.1 12 s = -1 := hd
    have cs : (nI s).toNatClampNeg = s := nI_clamp (by omega)
    have vs := nI_in24 hs h24
    obtain ⟨-, e658, -⟩ := h.2.2.2.2.2.2.1 s hs
    have n0 : (-1 : Int32) < 0 := by decide
    have e : F149_2 k (nI s) q = .inr (.inl ()) := by
      unfold F149_2
      rw [cs, e658, hd, if_pos n0]
    refine ⟨sf_e e ?_, ?_⟩
    · unfold S149_2
      rw [cs, e658, hd]
      exact ⟨vs, fun _ => trivial, fun z => absurd n0 z⟩
    · rw [it_e (B := fun (s : Int32) => F149_2 k s q) e, pCat_s, if_pos hd]
      rfl
  | succ d ih =>
    intro s f hd hs hf
    obtain ⟨f, rfl⟩ : ∃ g, f = g + 1 := ⟨f - 1, by omega⟩
    obtain ⟨p, p1, p2, p3⟩ := hd
    have cs : (nI s).toNatClampNeg = s := nI_clamp (by omega)
    have cp : (nI p).toNatClampNeg = p := nI_clamp (by omega)
    have vs := nI_in24 hs h24
    have vp : vp_in (nI p) 24 := nI_in24 (show p < n by omega) h24
    have np : ¬ nI p = -1 := nI_nm1 (by omega)
    have n0 : ¬ nI p < 0 := nI_pos (by omega)
    obtain ⟨-, e658, -, -, -, epl, -⟩ := h.2.2.2.2.2.2.1 s hs
    obtain ⟨e655, -, -, -, -, -, ⟨kk, kk1, kk2, kk3⟩, -⟩ := h.2.2.2.2.2.2.1 p (by omega)
    have e13 : q.1 659 s = nI (2 * p) ↔ q.1 13 s = 0 := by
      rcases epl with ⟨z, -⟩ | ⟨p', b, b1, b2, b3, b4, b5, -⟩
      · rw [p2] at z; exact absurd z np
      · rw [p2] at b3
        have : p = p' := nI_inj (by omega) (by omega) b3
        subst this
        rw [b4, b5]
        constructor
        · intro z
          have : b = 0 := by have := nI_inj (by omega) (by omega) z; omega
          subst this; rfl
        · intro z
          have : b = 0 := nI_inj (b := 0) (by omega) (by decide) z
          subst this; rfl
    have e10 : q.1 9 p = 6 → q.1 656 p = q.1 10 p := by
      intro z
      rw [kk2] at z
      obtain ⟨e, -, e1, e2⟩ := kk3.2.2.2.1 (nI_inj (b := 6) (by omega) (by decide) z)
      rw [e1, e2]
    have S : S149_2 k (nI s) q := by
      unfold S149_2 S149_68
      rw [cs, e658, p2]
      exact ⟨vs, fun _ => trivial, fun _ => ⟨vs, vp, fun _ => ⟨vs, fun _ => ⟨vp, fun _ => trivial, fun _ => ⟨vp, fun _ => trivial, fun _ => trivial⟩⟩, fun _ => trivial⟩, fun _ => trivial⟩⟩
    by_cases g : q.1 9 p = 6 ∧ q.1 13 s = 0 ∧ (q.1 10 p = 0 ∨ q.1 10 p = k)
    · have e : F149_2 k (nI s) q = .inr (ctM (pCat q k (d + 1 + 1) s)) := by
        rw [pCat_s, p2, if_neg np, cp, if_pos g]
        unfold F149_2
        rw [cs, e658, p2, if_neg n0, cp, e655, if_pos g.1, nI_2, if_pos (e13.mpr g.2.1), e10 g.1]
        by_cases g0 : q.1 10 p = 0
        · rw [if_pos g0]; rfl
        · rw [if_neg g0, if_pos (g.2.2.resolve_left g0)]; rfl
      exact ⟨sf_e e S, it_e e⟩
    · have e : F149_2 k (nI s) q = .inl (nI p) := by
        unfold F149_2 F149_68
        rw [cs, e658, p2, if_neg n0, cp, e655, nI_2]
        by_cases g1 : q.1 9 p = 6
        · rw [if_pos g1, e10 g1]
          by_cases g2 : q.1 13 s = 0
          · rw [if_pos (e13.mpr g2), if_neg (fun z => g ⟨g1, g2, Or.inl z⟩), if_neg (fun z => g ⟨g1, g2, Or.inr z⟩)]
          · rw [if_neg (fun z => g2 (e13.mp z))]
        · rw [if_neg g1]
      obtain ⟨i1, i2⟩ := ih p f p3 (by omega) (by omega)
      refine ⟨sf_s e S i1, ?_⟩
      rw [it_s (B := fun (s : Int32) => F149_2 k s q) e, i2, pCat_s (f := d + 1), p2, if_neg np, cp, if_neg g]
/-- the model's answer -/
def ctN : Option Nat → Int32
  | none => -1
  | some c => nI c
theorem F149_eq (h : iP q nE n m o p) {s : Nat} (hs : s < n) (k : Int32) : F149_0 (nI s) k q = ctN (ct q s k) ∧ S149_0 (nI s) k q := by
  obtain ⟨d, d5, hd⟩ := (h.2.2.2.2.2.2.1 s hs).2.2.2.2.2.2.2
  obtain ⟨a, b⟩ := ct_model h (k := k) d s 200 hd hs (by omega)
  have h24 := h.1
  unfold F149_0 S149_0 ct
  rw [pCat_f hd (by omega) (by omega)]
  rw [a_lp_eq b]
  cases pCat q k (d + 1) s with
  | none => exact ⟨rfl, a, trivial⟩
  | some c => exact ⟨rfl, a, trivial⟩
/-- where a program begins -/
def sta (n : Nat) : Nat := if n = 0 then 24 else 0
theorem F41_eq (h : iP q nE n m o p) : F41_0 q = nI (sta n) ∧ F150_0 q = nI (sta n) := by
  obtain ⟨h24, h5, c1, c2, c3, c4, hS, hO, t0, hl, hb, z0, z1⟩ := h
  unfold F41_0 F150_0 sta
  have e48 : (48 : Int32).toNatClampNeg = 48 := by decide
  rw [c1, e48]
  by_cases hn : n = 0
  · subst hn
    rw [(z0 rfl).2]
    exact ⟨by decide, by decide⟩
  · rw [if_neg hn, if_neg (nI_nle (by omega) (by omega)), (z1 (by omega)).2, if_pos (by decide)]
    exact ⟨rfl, rfl⟩
/-- frames -/
theorem bh_fr {q' : aQ} (r : ∀ c j, 9 ≤ c → c ≤ 15 → q'.1 c j = q.1 c j) (s : Nat) : bh q' s = bh q s := pBeh_fr r 6 s
theorem en_fr {q' : aQ} (r : ∀ c j, 9 ≤ c → c ≤ 15 → q'.1 c j = q.1 c j) (s b : Nat) : en q' s b = en q s b := by
  unfold en
  rw [r 15 _ (by decide) (by decide), r 9 _ (by decide) (by decide), bh_fr r]
theorem ct_fr {q' : aQ} (r : ∀ c j, 9 ≤ c → c ≤ 15 → q'.1 c j = q.1 c j) (s : Nat) (k : Int32) : ct q' s k = ct q s k := pCat_fr r 6 s
end
