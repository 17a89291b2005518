/-! pictures: ranges and values, from outside (no bound: -1000, 1000; nothing: (1001, -1001)) -/
abbrev Rn : Type := Int × Int
abbrev Pc : Type := Rn × Rn × Bool × Bool
def eR : Rn := (1001, -1001)
def eP : Pc := (eR, eR, false, false)
def okR (r : Rn) : Prop := r = eR ∨ ((r.1 = -1000 ∨ (-16 ≤ r.1 ∧ r.1 ≤ 16)) ∧ (r.2 = 1000 ∨ (-16 ≤ r.2 ∧ r.2 ≤ 16)) ∧ r.1 ≤ r.2)
def okT (r : Rn) : Prop := r = eR ∨ ((0 ≤ r.1 ∧ r.1 ≤ 16) ∧ (r.2 = 1000 ∨ r.2 ≤ 16) ∧ r.1 ≤ r.2)
theorem okT.R {r : Rn} (h : okT r) : okR r := by
  rcases h with h | h
  · exact Or.inl h
  · exact Or.inr (by omega)
def okP (p : Pc) : Prop := okR p.1 ∧ okT p.2.1
def leR (r s : Rn) : Prop := s.1 ≤ r.1 ∧ r.2 ≤ s.2
def leP (p s : Pc) : Prop := leR p.1 s.1 ∧ leR p.2.1 s.2.1 ∧ (p.2.2.1 = true → s.2.2.1 = true) ∧ (p.2.2.2 = true → s.2.2.2 = true)
theorem leP.rf {p : Pc} : leP p p := ⟨⟨Int.le_refl _, Int.le_refl _⟩, ⟨Int.le_refl _, Int.le_refl _⟩, id, id⟩
theorem leP.tr {p s t : Pc} (h : leP p s) (k : leP s t) : leP p t := by
  obtain ⟨⟨a, b⟩, ⟨c, d⟩, e, f⟩ := h
  obtain ⟨⟨a', b'⟩, ⟨c', d'⟩, e', f'⟩ := k
  exact ⟨⟨by omega, by omega⟩, ⟨by omega, by omega⟩, fun z => e' (e z), fun z => f' (f z)⟩
theorem leP.as {p s : Pc} (h : leP p s) (k : leP s p) : p = s := by
  obtain ⟨⟨a, b⟩, ⟨c, d⟩, e, f⟩ := p
  obtain ⟨⟨a', b'⟩, ⟨c', d'⟩, e', f'⟩ := s
  obtain ⟨⟨h1, h2⟩, ⟨h3, h4⟩, h5, h6⟩ := h
  obtain ⟨⟨k1, k2⟩, ⟨k3, k4⟩, k5, k6⟩ := k
  dsimp only at *
  have x1 : a = a' := by omega
  have x2 : b = b' := by omega
  have x3 : c = c' := by omega
  have x4 : d = d' := by omega
  have x5 : e = e' := Bool.eq_iff_iff.mpr ⟨h5, k5⟩
  have x6 : f = f' := Bool.eq_iff_iff.mpr ⟨h6, k6⟩
  subst x1 x2 x3 x4 x5 x6
  rfl
def joR (r s : Rn) : Rn := (if s.1 < r.1 then s.1 else r.1, if r.2 < s.2 then s.2 else r.2)
def joP (p s : Pc) : Pc := (joR p.1 s.1, joR p.2.1 s.2.1, p.2.2.1 || s.2.2.1, p.2.2.2 || s.2.2.2)
theorem joR_lub {r s t : Rn} : leR (joR r s) t ↔ leR r t ∧ leR s t := by
  unfold joR leR
  constructor
  · intro ⟨h1, h2⟩
    dsimp only at h1 h2
    refine ⟨⟨?_, ?_⟩, ?_, ?_⟩ <;> (split at h1 <;> split at h2 <;> omega)
  · intro ⟨⟨h1, h2⟩, h3, h4⟩
    dsimp only
    refine ⟨?_, ?_⟩ <;> (split <;> omega)
theorem joP_lub {p s t : Pc} : leP (joP p s) t ↔ leP p t ∧ leP s t := by
  unfold leP joP
  dsimp only
  rw [joR_lub, joR_lub]
  simp only [Bool.or_eq_true]
  constructor
  · rintro ⟨⟨a, b⟩, ⟨c, d⟩, e, f⟩
    exact ⟨⟨a, c, fun z => e (Or.inl z), fun z => f (Or.inl z)⟩, b, d, fun z => e (Or.inr z), fun z => f (Or.inr z)⟩
  · rintro ⟨⟨a, c, e, f⟩, b, d, e', f'⟩
    exact ⟨⟨a, b⟩, ⟨c, d⟩, fun z => z.elim e e', fun z => z.elim f f'⟩
def loF (x : Int) : Int := if x < -16 then -1000 else if 16 < x then 16 else x
def hiF (x : Int) : Int := if 16 < x then 1000 else if x < -16 then -16 else x
theorem loF_le {x y : Int} (h : x ≤ y) : loF x ≤ loF y := by unfold loF; split <;> split <;> (try split) <;> (try split) <;> omega
theorem hiF_le {x y : Int} (h : x ≤ y) : hiF x ≤ hiF y := by unfold hiF; split <;> split <;> (try split) <;> (try split) <;> omega
theorem loF_ok {x : Int} : loF x = -1000 ∨ (-16 ≤ loF x ∧ loF x ≤ 16) := by unfold loF; split; exact Or.inl rfl; split <;> omega
theorem hiF_ok {x : Int} : hiF x = 1000 ∨ (-16 ≤ hiF x ∧ hiF x ≤ 16) := by unfold hiF; split; exact Or.inl rfl; split <;> omega
theorem lohi {x y : Int} (h : x ≤ y) : loF x ≤ hiF y := by
  unfold loF hiF
  repeat' split
  all_goals omega
/-- one value -/
def one (v : Nat × Int) : Pc := if v.1 = 1 then ((loF v.2, hiF v.2), eR, false, false) else if v.1 = 2 then (eR, (loF v.2, hiF v.2), false, false) else if v.1 = 4 then (eR, eR, true, false) else eP
/-- the picture that fits the values -/
def hul : List (Nat × Int) → Pc
  | [] => eP
  | v :: r => joP (one v) (hul r)
def leE (p : Pc) : Prop := leP eP p
theorem hul_lub {t : Pc} (ht : leE t) : ∀ L : List (Nat × Int), leP (hul L) t ↔ ∀ v, v ∈ L → leP (one v) t
  | [] => ⟨fun _ v hv => (by cases hv), fun _ => ht⟩
  | v :: r => by
    show leP (joP (one v) (hul r)) t ↔ _
    rw [joP_lub, hul_lub ht r]
    constructor
    · rintro ⟨a, b⟩ u hu
      rcases List.mem_cons.mp hu with rfl | hu
      · exact a
      · exact b u hu
    · intro h
      exact ⟨h v List.mem_cons_self, fun u hu => h u (List.mem_cons_of_mem _ hu)⟩
theorem eP_one (v : Nat × Int) : leE (one v) := by
  have a := loF_ok (x := v.2)
  have b := hiF_ok (x := v.2)
  unfold leE one leP eP leR eR
  split
  · refine ⟨⟨?_, ?_⟩, ⟨?_, ?_⟩, ?_, ?_⟩ <;> dsimp only <;> first | omega | (intro z; cases z)
  split
  · refine ⟨⟨?_, ?_⟩, ⟨?_, ?_⟩, ?_, ?_⟩ <;> dsimp only <;> first | omega | (intro z; cases z)
  split
  · refine ⟨⟨?_, ?_⟩, ⟨?_, ?_⟩, ?_, ?_⟩ <;> dsimp only <;> first | omega | (intro z; cases z)
  · refine ⟨⟨?_, ?_⟩, ⟨?_, ?_⟩, ?_, ?_⟩ <;> dsimp only <;> first | omega | (intro z; cases z)
theorem le_jo1 {p s : Pc} : leP p (joP p s) := (joP_lub.mp leP.rf).1
theorem le_jo2 {p s : Pc} : leP s (joP p s) := (joP_lub.mp leP.rf).2
theorem eP_hul : ∀ L, leE (hul L)
  | [] => leP.rf
  | v :: r => leP.tr (eP_one v) (le_jo1 (s := hul r))
theorem one_hul {L : List (Nat × Int)} {v : Nat × Int} (h : v ∈ L) : leP (one v) (hul L) := (hul_lub (eP_hul L) L).mp leP.rf v h
theorem hul_mono {L M : List (Nat × Int)} (h : ∀ v, v ∈ L → v ∈ M) : leP (hul L) (hul M) := (hul_lub (eP_hul M) L).mpr fun v hv => one_hul (h v hv)
theorem okP_le {p : Pc} (h : okP p) : leE p := by
  obtain ⟨h1, h2⟩ := h
  unfold leE leP eP leR eR
  refine ⟨⟨?_, ?_⟩, ⟨?_, ?_⟩, ?_, ?_⟩
  · rcases h1 with h | h
    · rw [h]; exact Int.le_refl _
    · dsimp only; omega
  · rcases h1 with h | h
    · rw [h]; exact Int.le_refl _
    · dsimp only; omega
  · rcases h2 with h | h
    · rw [h]; exact Int.le_refl _
    · dsimp only; omega
  · rcases h2 with h | h
    · rw [h]; exact Int.le_refl _
    · dsimp only; omega
  · intro z; cases z
  · intro z; cases z
theorem joR_ok {r s : Rn} (hr : okR r) (hs : okR s) : okR (joR r s) := by
  obtain ⟨a, b⟩ := r
  obtain ⟨c, d⟩ := s
  unfold okR eR joR at *
  simp only [Prod.mk.injEq] at *
  split <;> split <;> omega
theorem joT_ok {r s : Rn} (hr : okT r) (hs : okT s) : okT (joR r s) := by
  obtain ⟨a, b⟩ := r
  obtain ⟨c, d⟩ := s
  unfold okT eR joR at *
  simp only [Prod.mk.injEq] at *
  split <;> split <;> omega
theorem joP_ok {p s : Pc} (hp : okP p) (hs : okP s) : okP (joP p s) := ⟨joR_ok hp.1 hs.1, joT_ok hp.2 hs.2⟩
theorem eR_ok : okR eR := Or.inl rfl
theorem eT_ok : okT eR := Or.inl rfl
theorem eP_ok : okP eP := ⟨eR_ok, eT_ok⟩
theorem one_ok {v : Nat × Int} (h : v.1 = 2 → 0 ≤ v.2) : okP (one v) := by
  have a := loF_ok (x := v.2)
  have b := hiF_ok (x := v.2)
  have c := lohi (Int.le_refl v.2)
  unfold one
  split
  · exact ⟨Or.inr ⟨a, b, c⟩, eT_ok⟩
  split
  · rename_i h2
    have d := h h2
    refine ⟨eR_ok, Or.inr ?_⟩
    dsimp only
    have : 0 ≤ loF v.2 := by unfold loF; split; omega; split <;> omega
    omega
  split
  · exact eP_ok
  · exact eP_ok
theorem hul_ok : ∀ L : List (Nat × Int), (∀ v, v ∈ L → v.1 = 2 → 0 ≤ v.2) → okP (hul L)
  | [], _ => eP_ok
  | v :: r, h => joP_ok (one_ok (h v List.mem_cons_self)) (hul_ok r fun u hu => h u (List.mem_cons_of_mem _ hu))
theorem hul_unb : ∀ L : List (Nat × Int), (hul L).2.2.2 = false
  | [] => rfl
  | v :: r => by
    show ((one v).2.2.2 || (hul r).2.2.2) = false
    rw [hul_unb r]
    unfold one
    split
    · rfl
    split
    · rfl
    split <;> rfl
/-- the numbers that stand for all -/
def rp : List Int := [-289, -17, -16, -15, -14, -13, -12, -11, -10, -9, -8, -7, -6, -5, -4, -3, -2, -1, 0, 1, 2, 3, 4, 5, 6, 7, 8, 9, 10, 11, 12, 13, 14, 15, 16, 17, 289]
theorem mem_rp {n : Int} : n ∈ rp ↔ (n = -289 ∨ (-17 ≤ n ∧ n ≤ 17) ∨ n = 289) := by
  unfold rp
  simp only [List.mem_cons, List.not_mem_nil, or_false]
  omega
def inR (n : Int) (r : Rn) : Prop := r.1 ≤ n ∧ n ≤ r.2
def valA (p : Pc) (n : Int) : List (Nat × Int) := (if p.1.1 ≤ n ∧ n ≤ p.1.2 then [(1, n)] else []) ++ (if 0 ≤ n ∧ p.2.1.1 ≤ n ∧ n ≤ p.2.1.2 then [(2, n)] else [])
def vals (p : Pc) : List (Nat × Int) := rp.flatMap (valA p) ++ (if p.2.2.1 = true then [(4, 0)] else [])
theorem mem_vals {p : Pc} {v : Nat × Int} : v ∈ vals p ↔ (v.1 = 1 ∧ v.2 ∈ rp ∧ inR v.2 p.1) ∨ (v.1 = 2 ∧ v.2 ∈ rp ∧ 0 ≤ v.2 ∧ inR v.2 p.2.1) ∨ (v = (4, 0) ∧ p.2.2.1 = true) := by
  obtain ⟨t, x⟩ := v
  unfold vals
  rw [List.mem_append, List.mem_flatMap]
  constructor
  · rintro (⟨n, hn, h⟩ | h)
    · unfold valA at h
      rw [List.mem_append] at h
      rcases h with h | h
      · split at h
        · rename_i hc
          simp only [List.mem_singleton, Prod.mk.injEq] at h
          obtain ⟨h1, h2⟩ := h
          subst h1 h2
          exact Or.inl ⟨rfl, hn, hc⟩
        · cases h
      · split at h
        · rename_i hc
          simp only [List.mem_singleton, Prod.mk.injEq] at h
          obtain ⟨h1, h2⟩ := h
          subst h1 h2
          exact Or.inr (Or.inl ⟨rfl, hn, hc⟩)
        · cases h
    · split at h
      · rename_i hc
        simp only [List.mem_singleton] at h
        exact Or.inr (Or.inr ⟨h, hc⟩)
      · cases h
  · rintro (⟨h1, h2, h3⟩ | ⟨h1, h2, h3⟩ | ⟨h1, h2⟩)
    · dsimp only at h1 h2 h3
      refine Or.inl ⟨x, h2, ?_⟩
      unfold valA
      rw [List.mem_append, if_pos (show p.1.1 ≤ x ∧ x ≤ p.1.2 from h3), h1]
      exact Or.inl (List.mem_singleton.mpr rfl)
    · dsimp only at h1 h2 h3
      refine Or.inl ⟨x, h2, ?_⟩
      unfold valA
      rw [List.mem_append, if_pos (show 0 ≤ x ∧ p.2.1.1 ≤ x ∧ x ≤ p.2.1.2 from h3), h1]
      exact Or.inr (List.mem_singleton.mpr rfl)
    · refine Or.inr ?_
      rw [if_pos h2]
      exact List.mem_singleton.mpr h1
theorem vals_mono {p s : Pc} (h : leP p s) {v : Nat × Int} (hv : v ∈ vals p) : v ∈ vals s := by
  obtain ⟨⟨h1, h2⟩, ⟨h3, h4⟩, h5, -⟩ := h
  rw [mem_vals] at *
  unfold inR at *
  rcases hv with ⟨a, b, c⟩ | ⟨a, b, c, d⟩ | ⟨a, b⟩
  · exact Or.inl ⟨a, b, by omega, by omega⟩
  · exact Or.inr (Or.inl ⟨a, b, c, by omega, by omega⟩)
  · exact Or.inr (Or.inr ⟨a, h5 b⟩)
