/-! how far states can grow -/
def rkL (l : Int) : Nat := if l = 1001 then 0 else if l = -1000 then 34 else (17 - l).toNat
def rkH (h : Int) : Nat := if h = -1001 then 0 else if h = 1000 then 34 else (h + 17).toNat
def bN (b : Bool) : Nat := if b = true then 1 else 0
def szR (r : Rn) : Nat := rkL r.1 + rkH r.2
def szP (p : Pc) : Nat := szR p.1 + szR p.2.1 + bN p.2.2.1 + bN p.2.2.2
theorem rkL_c {a : Int} (h : a = 1001 ∨ a = -1000 ∨ (-16 ≤ a ∧ a ≤ 16)) : (a = 1001 ∧ rkL a = 0) ∨ (a = -1000 ∧ rkL a = 34) ∨ (-16 ≤ a ∧ a ≤ 16 ∧ (rkL a : Int) = 17 - a) := by
  unfold rkL
  split
  · omega
  · split
    · omega
    · right; right
      refine ⟨by omega, by omega, ?_⟩
      exact Int.toNat_of_nonneg (by omega)
theorem rkH_c {a : Int} (h : a = -1001 ∨ a = 1000 ∨ (-16 ≤ a ∧ a ≤ 16)) : (a = -1001 ∧ rkH a = 0) ∨ (a = 1000 ∧ rkH a = 34) ∨ (-16 ≤ a ∧ a ≤ 16 ∧ (rkH a : Int) = a + 17) := by
  unfold rkH
  split
  · omega
  · split
    · omega
    · right; right
      refine ⟨by omega, by omega, ?_⟩
      exact Int.toNat_of_nonneg (by omega)
theorem szR_le {r s : Rn} (hr : okR r) (hs : okR s) (h : leR r s) : szR r ≤ szR s ∧ szR s ≤ 68 ∧ (szR r = szR s → r = s) := by
  have l1 := lo_c hr
  have l2 := lo_c hs
  have g1 := hi_c hr
  have g2 := hi_c hs
  have e1 := rkL_c (a := r.1) (by omega)
  have e2 := rkL_c (a := s.1) (by omega)
  have e3 := rkH_c (a := r.2) (by omega)
  have e4 := rkH_c (a := s.2) (by omega)
  unfold leR at h
  unfold szR
  refine ⟨by omega, by omega, fun z => Prod.ext (by omega) (by omega)⟩
theorem bN_le {a b : Bool} (h : a = true → b = true) : bN a ≤ bN b ∧ bN b ≤ 1 ∧ (bN a = bN b → a = b) := by
  cases a <;> cases b <;> simp_all [bN]
theorem szP_le {p s : Pc} (hp : okP p) (hs : okP s) (h : leP p s) : szP p ≤ szP s ∧ szP s ≤ 138 ∧ (szP p = szP s → p = s) := by
  have a := szR_le hp.1 hs.1 h.1
  have b := szR_le hp.2.R hs.2.R h.2.1
  have c := bN_le h.2.2.1
  have d := bN_le h.2.2.2
  unfold szP
  refine ⟨by omega, by omega, fun e => ?_⟩
  have e1 := a.2.2 (by omega)
  have e2 := b.2.2 (by omega)
  have e3 := c.2.2 (by omega)
  have e4 := d.2.2 (by omega)
  exact Prod.ext e1 (Prod.ext e2 (Prod.ext e3 e4))
def sz5 (x : Nat → Pc) : Nat := szP (x 0) + szP (x 1) + szP (x 2) + szP (x 3) + szP (x 4)
def SZ (σ : Nat → Nat → Pc) : Nat → Nat
  | 0 => 0
  | p + 1 => SZ σ p + sz5 (σ p)
theorem sz5_le {x y : Nat → Pc} (hx : stOk x) (hy : stOk y) (h : leS x y) : sz5 x ≤ sz5 y ∧ sz5 y ≤ 690 ∧ (sz5 x = sz5 y → ∀ v, v < 5 → x v = y v) := by
  have a := szP_le (hx 0 (by decide)) (hy 0 (by decide)) (h 0 (by decide))
  have b := szP_le (hx 1 (by decide)) (hy 1 (by decide)) (h 1 (by decide))
  have c := szP_le (hx 2 (by decide)) (hy 2 (by decide)) (h 2 (by decide))
  have d := szP_le (hx 3 (by decide)) (hy 3 (by decide)) (h 3 (by decide))
  have e := szP_le (hx 4 (by decide)) (hy 4 (by decide)) (h 4 (by decide))
  unfold sz5
  refine ⟨by omega, by omega, fun z v hv => ?_⟩
  have : v = 0 ∨ v = 1 ∨ v = 2 ∨ v = 3 ∨ v = 4 := by omega
  rcases this with rfl | rfl | rfl | rfl | rfl
  · exact a.2.2 (by omega)
  · exact b.2.2 (by omega)
  · exact c.2.2 (by omega)
  · exact d.2.2 (by omega)
  · exact e.2.2 (by omega)
theorem SZ_le {σ τ : Nat → Nat → Pc} (hs : okF σ) (ht : okF τ) (h : leF σ τ) : ∀ k, k ≤ 25 → SZ σ k ≤ SZ τ k ∧ SZ τ k ≤ 690 * k ∧ ((∃ p, p < k ∧ chg σ τ p) → SZ σ k < SZ τ k)
  | 0, _ => ⟨Nat.le_refl _, Nat.le_refl _, fun ⟨p, hp, _⟩ => absurd hp (Nat.not_lt_zero p)⟩
  | k + 1, hk => by
    obtain ⟨a, b, c⟩ := SZ_le hs ht h k (by omega)
    obtain ⟨d, e, f⟩ := sz5_le (hs k (by omega)) (ht k (by omega)) (h k (by omega))
    show SZ σ k + sz5 (σ k) ≤ SZ τ k + sz5 (τ k) ∧ SZ τ k + sz5 (τ k) ≤ 690 * (k + 1) ∧ (_ → SZ σ k + sz5 (σ k) < SZ τ k + sz5 (τ k))
    refine ⟨by omega, by omega, ?_⟩
    rintro ⟨p, hp, ch⟩
    by_cases e2 : p = k
    · subst e2
      obtain ⟨v, hv, ne⟩ := ch
      have : ¬ sz5 (σ p) = sz5 (τ p) := fun z => ne (f z v hv).symm
      omega
    · have := c ⟨p, by omega, ch⟩
      omega
/-- all of SZ -/
def SZa (σ : Nat → Nat → Pc) : Nat := SZ σ 25
theorem SZa_le {σ τ : Nat → Nat → Pc} (hs : okF σ) (ht : okF τ) (h : leF σ τ) : SZa σ ≤ SZa τ ∧ SZa τ ≤ 17250 ∧ ((∃ p, p < 25 ∧ chg σ τ p) → SZa σ < SZa τ) := SZ_le hs ht h 25 (Nat.le_refl 25)
