/-! states grow -/
def gro (σ : Nat → Nat → Pc) (t : Nat) (y : Nat → Pc) : Nat → Nat → Pc := fun p v => if p = t then joP (σ p v) (y v) else σ p v
theorem leP_jo {p s : Pc} (h : leP s p) : joP p s = p := leP.as (joP_lub.mpr ⟨leP.rf, h⟩) le_jo1
theorem grR_f {R S : Rn} : grR R S = false ↔ leR S R := by
  unfold grR leR
  rw [Bool.or_eq_false_iff, decide_eq_false_iff_not, decide_eq_false_iff_not]
  omega
theorem grP_f {P S : Pc} : grP P S = false ↔ leP S P := by
  unfold grP leP
  rw [Bool.or_eq_false_iff, Bool.or_eq_false_iff, Bool.or_eq_false_iff, grR_f, grR_f]
  have k : ∀ a b : Bool, (a && !b) = false ↔ (a = true → b = true) := fun a b => by cases a <;> cases b <;> decide
  rw [k, k]
  exact ⟨fun ⟨⟨⟨a, b⟩, c⟩, d⟩ => ⟨a, b, c, d⟩, fun ⟨a, b, c, d⟩ => ⟨⟨⟨a, b⟩, c⟩, d⟩⟩
theorem grS_f {x y : Nat → Pc} : ∀ k v, v + k = 5 → (grS x y k v = false ↔ ∀ u, v ≤ u → u < 5 → leP (y u) (x u))
  | 0, v, h => ⟨fun _ u h1 h2 => by omega, fun _ => rfl⟩
  | k + 1, v, h => by
    show (grP (x v) (y v) || grS x y k (v + 1)) = false ↔ _
    rw [Bool.or_eq_false_iff, grP_f, grS_f k (v + 1) (by omega)]
    constructor
    · rintro ⟨a, b⟩ u h1 h2
      by_cases e : u = v
      · subst e; exact a
      · exact b u (by omega) h2
    · intro a
      exact ⟨a v (Nat.le_refl v) (by omega), fun u h1 h2 => a u (by omega) h2⟩
theorem gro_le {σ : Nat → Nat → Pc} {t : Nat} {y : Nat → Pc} : leF σ (gro σ t y) := by
  intro p _ v _
  unfold gro
  split
  · exact le_jo1
  · exact leP.rf
theorem gro_t {σ : Nat → Nat → Pc} {t : Nat} {y : Nat → Pc} : leS y (gro σ t y t) := by
  intro v _
  unfold gro
  rw [if_pos rfl]
  exact le_jo2
theorem gro_ub {σ μ : Nat → Nat → Pc} {t : Nat} {y : Nat → Pc} (h : leF σ μ) (k : leS y (μ t)) : leF (gro σ t y) μ := by
  intro p hp v hv
  unfold gro
  split
  · rename_i e; subst e; exact joP_lub.mpr ⟨h p hp v hv, k v hv⟩
  · exact h p hp v hv
theorem gro_ok {σ : Nat → Nat → Pc} {t : Nat} {y : Nat → Pc} (h : okF σ) (k : stOk y) : okF (gro σ t y) := by
  intro p hp v hv
  unfold gro
  split
  · exact joP_ok (h p hp v hv) (k v hv)
  · exact h p hp v hv
/-- what a growth leaves alone, it does not make wait -/
theorem gro_same {σ : Nat → Nat → Pc} {t p v : Nat} {y : Nat → Pc} (h : p ≠ t) : gro σ t y p v = σ p v := by unfold gro; rw [if_neg h]
/-- changed at p -/
def chg (σ τ : Nat → Nat → Pc) (p : Nat) : Prop := ∃ v, v < 5 ∧ τ p v ≠ σ p v
theorem chg_no {σ τ : Nat → Nat → Pc} {p : Nat} (h : ¬ chg σ τ p) {v : Nat} (hv : v < 5) : τ p v = σ p v := Classical.byContradiction fun z => h ⟨v, hv, z⟩
theorem gro_chg {σ : Nat → Nat → Pc} {t : Nat} {y : Nat → Pc} : grS (σ t) y 5 0 = true ↔ chg σ (gro σ t y) t := by
  constructor
  · intro h
    refine Classical.byContradiction fun z => ?_
    have : grS (σ t) y 5 0 = false := by
      rw [grS_f 5 0 rfl]
      intro u _ hu
      have e := chg_no z hu
      unfold gro at e
      rw [if_pos rfl] at e
      rw [← e]
      exact le_jo2
    rw [this] at h
    cases h
  · rintro ⟨v, hv, ne⟩
    refine Classical.byContradiction fun z => ne ?_
    have z : grS (σ t) y 5 0 = false := by simpa using z
    rw [grS_f 5 0 rfl] at z
    unfold gro
    rw [if_pos rfl]
    exact leP_jo (z v (by omega) hv)
/-- waiting after a growth -/
def wai (W : Nat → Bool) (t : Nat) (g : Bool) : Nat → Bool := fun p => if p = t ∧ g = true then true else W p
/-- from (σ0, A0, W0), a visit at s came to (σ, A, W) -/
def rea (q : aQ) (s : Nat) (σ0 : Nat → Nat → Pc) (A0 : Nat → Bool) (W0 : Nat → Bool) (σ : Nat → Nat → Pc) (A : Nat → Bool) (W : Nat → Bool) : Prop :=
  leF σ0 σ ∧ okF σ ∧ leA A0 A ∧ (∀ p, p < 25 → W0 p = true → W p = true) ∧ (∀ p, p < 25 → chg σ0 σ p → W p = true) ∧ (∀ p, p < 25 → W p = true → W0 p = true ∨ chg σ0 σ p) ∧
  (∀ μ B, okF μ → leF σ0 μ → leA A0 B → cAt q μ B s → leF σ μ ∧ leA A B)
theorem rea.rf {q : aQ} {s : Nat} {σ : Nat → Nat → Pc} {A W : Nat → Bool} (h : okF σ) : rea q s σ A W σ A W := ⟨leF.rf, h, fun _ _ => id, fun _ _ => id, fun p _ ⟨v, _, ne⟩ => absurd rfl ne, fun _ _ => Or.inl, fun _ _ _ a b _ => ⟨a, b⟩⟩
/-- two growths, one after the other, that end as they began, were none -/
theorem chg_mid {σ0 σ1 σ2 : Nat → Nat → Pc} {p : Nat} (hp : p < 25) (h : leF σ0 σ1) (k : leF σ1 σ2) : (chg σ0 σ1 p ∨ chg σ1 σ2 p) ↔ chg σ0 σ2 p := by
  constructor
  · rintro (⟨v, hv, ne⟩ | ⟨v, hv, ne⟩)
    · refine ⟨v, hv, fun e => ne ?_⟩
      have a := h p hp v hv
      have b := k p hp v hv
      rw [e] at b
      exact leP.as b a
    · refine ⟨v, hv, fun e => ne ?_⟩
      have a := h p hp v hv
      have b := k p hp v hv
      rw [← e] at a
      exact leP.as a b
  · rintro ⟨v, hv, ne⟩
    by_cases e : σ1 p v = σ0 p v
    · right; exact ⟨v, hv, by rw [e]; exact ne⟩
    · left; exact ⟨v, hv, e⟩
theorem rea.flow {q : aQ} {s t : Nat} {σ0 σ : Nat → Nat → Pc} {A0 A W0 W : Nat → Bool} {y : Nat → Pc} (h : rea q s σ0 A0 W0 σ A W) (ht : t < 25) (hy : stOk y) (hb : ∀ μ B, okF μ → leF σ0 μ → leF σ μ → cAt q μ B s → leS y (μ t)) : rea q s σ0 A0 W0 (gro σ t y) A (wai W t (grS (σ t) y 5 0)) := by
  obtain ⟨h1, h2, h3, h4, h5, h6, h7⟩ := h
  have wt : ∀ p, wai W t (grS (σ t) y 5 0) p = true ↔ W p = true ∨ (p = t ∧ chg σ (gro σ t y) t) := by
    intro p
    unfold wai
    rw [← gro_chg]
    split
    · rename_i c; exact ⟨fun _ => Or.inr c, fun _ => rfl⟩
    · rename_i c; exact ⟨Or.inl, fun z => z.elim id (fun z => absurd z c)⟩
  have ct : ∀ p, chg σ (gro σ t y) p → p = t := by
    rintro p ⟨v, hv, ne⟩
    exact Classical.byContradiction fun z => ne (gro_same z)
  refine ⟨h1.tr gro_le, gro_ok h2 hy, h3, fun p hp z => (wt p).mpr (Or.inl (h4 p hp z)), fun p hp z => ?_, fun p hp z => ?_, fun μ B a b c d => ?_⟩
  · rw [wt]
    rcases (chg_mid hp h1 gro_le).mpr z with z | z
    · exact Or.inl (h5 p hp z)
    · have e := ct p z
      subst e
      exact Or.inr ⟨rfl, z⟩
  · rw [wt] at z
    rcases z with z | ⟨e, z⟩
    · rcases h6 p hp z with z | z
      · exact Or.inl z
      · exact Or.inr ((chg_mid hp h1 gro_le).mp (Or.inl z))
    · subst e
      exact Or.inr ((chg_mid hp h1 gro_le).mp (Or.inr z))
  · obtain ⟨u, w⟩ := h7 μ B a b c d
    exact ⟨gro_ub u (hb μ B a b u d), w⟩
def setA (A : Nat → Bool) (i : Nat) : Nat → Bool := fun j => if j = i then true else A j
theorem rea.alarm {q : aQ} {s i : Nat} {σ0 σ : Nat → Nat → Pc} {A0 A W0 W : Nat → Bool} (h : rea q s σ0 A0 W0 σ A W) (hb : ∀ μ B, okF μ → leF σ0 μ → leF σ μ → cAt q μ B s → B i = true) : rea q s σ0 A0 W0 σ (setA A i) W := by
  obtain ⟨h1, h2, h3, h4, h5, h6, h7⟩ := h
  refine ⟨h1, h2, fun j hj z => ?_, h4, h5, h6, fun μ B a b c d => ?_⟩
  · unfold setA; split
    · rfl
    · exact h3 j hj z
  · obtain ⟨u, w⟩ := h7 μ B a b c d
    refine ⟨u, fun j hj z => ?_⟩
    unfold setA at z
    split at z
    · rename_i e; subst e; exact hb μ B a b u d
    · exact w j hj z
