/-! where states flow, from outside -/
def xe (q : aQ) (s : Nat) : Nat := (q.1 11 s).toNatClampNeg
def vr (q : aQ) (s : Nat) : Nat := (q.1 10 s).toNatClampNeg
def erB (e : Er) (k : Nat) : Bool := if k = 1 then e.1 else if k = 2 then e.2.1 else if k = 3 then e.2.2 else false
/-- an error of kind k may be raised at s, with the state x before it -/
def er (q : aQ) (s : Nat) (x : Nat → Pc) (k : Nat) : Prop := (q.1 9 s = 1 ∧ q.1 10 s = nI k) ∨ ((q.1 9 s = 0 ∨ q.1 9 s = 4 ∨ q.1 9 s = 5) ∧ erB (PE q x (xe q s)).2 k = true)
/-- the state y flows to the place t -/
def fw (q : aQ) (s : Nat) (x : Nat → Pc) (t : Nat) (y : Nat → Pc) : Prop :=
  (∃ k c, 1 ≤ k ∧ k ≤ 4 ∧ er q s x k ∧ ct q s (nI k) = some c ∧ t = en q c 1 ∧ y = x) ∨
  (q.1 9 s = 0 ∧ hasV (PE q x (xe q s)).1 = true ∧ t = bh q s ∧ y = upS x (vr q s) (PE q x (xe q s)).1) ∨
  (q.1 9 s = 2 ∧ t = bh q (vr q s) ∧ y = x) ∨
  (q.1 9 s = 3 ∧ t = vr q s ∧ y = x) ∨
  (q.1 9 s = 6 ∧ t = en q s 0 ∧ y = x) ∨
  ((q.1 9 s = 4 ∨ q.1 9 s = 5) ∧ hasTr (PE q x (xe q s)).1 = true ∧ t = en q s 0 ∧ y = nr2 q (xe q s) true x x) ∨
  ((q.1 9 s = 4 ∨ q.1 9 s = 5) ∧ hasFa (PE q x (xe q s)).1 = true ∧ t = en q s 1 ∧ y = nr2 q (xe q s) false x x)
def al (q : aQ) (s : Nat) (x : Nat → Pc) (k : Nat) : Prop := 1 ≤ k ∧ k ≤ 4 ∧ er q s x k ∧ ct q s (nI k) = none
def rch (x : Nat → Pc) : Prop := ∃ v, v < 5 ∧ x v ≠ eP
/-- all that flows from s is there -/
def cAt (q : aQ) (σ : Nat → Nat → Pc) (A : Nat → Bool) (s : Nat) : Prop := rch (σ s) → (∀ t y, fw q s (σ s) t y → leS y (σ t)) ∧ ∀ k, al q s (σ s) k → A (5 * s + k) = true
def okF (σ : Nat → Nat → Pc) : Prop := ∀ p, p < 25 → stOk (σ p)
def leF (σ τ : Nat → Nat → Pc) : Prop := ∀ p, p < 25 → leS (σ p) (τ p)
def leA (A B : Nat → Bool) : Prop := ∀ i, i < 120 → A i = true → B i = true
theorem leS.rf {x : Nat → Pc} : leS x x := fun _ _ => leP.rf
theorem leS.tr {x y z : Nat → Pc} (h : leS x y) (k : leS y z) : leS x z := fun v hv => (h v hv).tr (k v hv)
theorem leF.rf {σ : Nat → Nat → Pc} : leF σ σ := fun _ _ => leS.rf
theorem leF.tr {σ τ υ : Nat → Nat → Pc} (h : leF σ τ) (k : leF τ υ) : leF σ υ := fun p hp => (h p hp).tr (k p hp)
theorem narO_mono {o : Nat} {t : Bool} {L L' M M' : List (Nat × Int)} (h : ∀ v, v ∈ L → v ∈ L') (k : ∀ v, v ∈ M → v ∈ M') : ∀ v, v ∈ narO o t L M → v ∈ narO o t L' M' := by
  intro v hv
  obtain ⟨a, b, hb, c⟩ := mem_narO.mp hv
  exact mem_narO.mpr ⟨h v a, b, k b hb, c⟩
theorem narT_mono {t : Bool} {L L' : List (Nat × Int)} (h : ∀ v, v ∈ L → v ∈ L') : ∀ v, v ∈ narT t L → v ∈ narT t L' := by
  intro v hv
  obtain ⟨a, b⟩ := mem_narT.mp hv
  exact mem_narT.mpr ⟨h v a, b⟩
section
variable {q : aQ} {nE n m : Nat} {o p : Nat → Nat} {x x' z z' : Nat → Pc}
theorem nr2_mono {e : Nat} {t : Bool} (hE : iE q nE) (he : e < nE) (hx : leS x x') (hz : leS z z') : leS (nr2 q e t x z) (nr2 q e t x' z') := by
  unfold nr2
  cases hn : nv q e with
  | none => exact hx
  | some v =>
    have v5 := nv_lt hE he hn
    dsimp only
    intro u hu
    unfold upS
    by_cases eu : u = v
    · subst eu
      rw [if_pos rfl, if_pos rfl]
      have mx : ∀ w, w ∈ vals (x u) → w ∈ vals (x' u) := fun w hw => vals_mono (hx u hu) hw
      unfold nrP
      by_cases c4 : q.1 2 e = 4
      · rw [if_pos c4, if_pos c4]
        obtain ⟨w, wa, o1, o2, o3, -⟩ := op_of hE he (op45 (Or.inl c4)).1
        have o3' := o3 (op45 (Or.inl c4)).2.1
        exact hul_mono (narO_mono mx (fun w hw => vals_mono (PE_mono hE hz (by omega)).1 hw))
      · rw [if_neg c4, if_neg c4]
        by_cases c5 : q.1 2 e = 5
        · rw [if_pos c5, if_pos c5]
          obtain ⟨w, wa, o1, o2, o3, -⟩ := op_of hE he (op45 (Or.inr c5)).1
          have o3' := o3 (op45 (Or.inr c5)).2.1
          exact hul_mono (narO_mono mx (fun w hw => vals_mono (PE_mono hE hz (by omega)).1 hw))
        · rw [if_neg c5, if_neg c5]
          exact hul_mono (narT_mono mx)
    · rw [if_neg eu, if_neg eu]; exact hx u hu
theorem upS_mono {v : Nat} {a b : Pc} (hx : leS x x') (h : leP a b) : leS (upS x v a) (upS x' v b) := by
  intro u hu
  unfold upS
  by_cases eu : u = v
  · rw [if_pos eu, if_pos eu]; exact h
  · rw [if_neg eu, if_neg eu]; exact hx u hu
theorem holO_mono {r s : Rn} (h : leR r s) (k : holO r 0 = true) : holO s 0 = true := by
  rw [holO_t] at *
  unfold leR at h
  omega
theorem hol_mono {r s : Rn} (h : leR r s) (k : hol r 0 = true) : hol s 0 = true := by
  rw [hol_t] at *
  unfold leR at h
  omega
theorem hasTr_mono {a b : Pc} (h : leP a b) (k : hasTr a = true) : hasTr b = true := by
  unfold hasTr at *
  rw [Bool.or_eq_true] at *
  exact k.imp (holO_mono h.1) (holO_mono h.2.1)
theorem hasFa_mono {a b : Pc} (h : leP a b) (k : hasFa a = true) : hasFa b = true := by
  unfold hasFa at *
  rw [Bool.or_eq_true, Bool.or_eq_true] at *
  exact k.imp (fun z => z.imp (hol_mono h.1) (hol_mono h.2.1)) h.2.2.1
theorem erB_mono {a b : Er} {k : Nat} (h : leEr a b) (e : erB a k = true) : erB b k = true := by
  unfold erB at *
  split
  · rename_i c; rw [if_pos c] at e; exact h.1 e
  · rename_i c; rw [if_neg c] at e
    split
    · rename_i d; rw [if_pos d] at e; exact h.2.1 e
    · rename_i d; rw [if_neg d] at e
      split
      · rename_i f; rw [if_pos f] at e; exact h.2.2 e
      · rename_i f; rw [if_neg f] at e; exact e
/-- the expression of a statement that works one out -/
theorem xe_lt (hE : iE q nE) (h : iP q nE n m o p) {s : Nat} (hs : s < n) (hk : q.1 9 s = 0 ∨ q.1 9 s = 4 ∨ q.1 9 s = 5) : xe q s < nE ∧ q.1 11 s = nI (xe q s) ∧ q.1 657 s = nI (xe q s) := by
  have h24 := h.1
  obtain ⟨-, -, -, -, -, -, ⟨k, k6, e9, d0, d1, d23, d6, de⟩, -⟩ := h.2.2.2.2.2.2.1 s hs
  have kk : k = 0 ∨ k = 4 ∨ k = 5 := by
    rcases hk with z | z | z
    · exact Or.inl (nI_inj (b := 0) (by omega) (by decide) (e9.symm.trans z))
    · exact Or.inr (Or.inl (nI_inj (b := 4) (by omega) (by decide) (e9.symm.trans z)))
    · exact Or.inr (Or.inr (nI_inj (b := 5) (by omega) (by decide) (e9.symm.trans z)))
  obtain ⟨e, x1, x2, x3⟩ := de kk
  have h60 := hE.1
  unfold xe
  rw [x2, nI_clamp (by omega)]
  exact ⟨x1, rfl, x3⟩
theorem er_mono (hE : iE q nE) (h : iP q nE n m o p) {s k : Nat} (hs : s < n) (hx : leS x x') (e : er q s x k) : er q s x' k := by
  unfold er at *
  rcases e with e | ⟨e1, e2⟩
  · exact Or.inl e
  · exact Or.inr ⟨e1, erB_mono (PE_mono hE hx (xe_lt hE h hs e1).1).2 e2⟩
theorem al_mono (hE : iE q nE) (h : iP q nE n m o p) {s k : Nat} (hs : s < n) (hx : leS x x') (e : al q s x k) : al q s x' k := ⟨e.1, e.2.1, er_mono hE h hs hx e.2.2.1, e.2.2.2⟩
theorem fw_mono (hE : iE q nE) (h : iP q nE n m o p) {s t : Nat} {y : Nat → Pc} (hs : s < n) (hx : leS x x') (f : fw q s x t y) : ∃ y', fw q s x' t y' ∧ leS y y' := by
  unfold fw at *
  rcases f with ⟨k, c, a1, a2, a3, a4, a5, a6⟩ | ⟨a1, a2, a3, a4⟩ | ⟨a1, a2, a3⟩ | ⟨a1, a2, a3⟩ | ⟨a1, a2, a3⟩ | ⟨a1, a2, a3, a4⟩ | ⟨a1, a2, a3, a4⟩
  · exact ⟨x', Or.inl ⟨k, c, a1, a2, er_mono hE h hs hx a3, a4, a5, rfl⟩, by rw [a6]; exact hx⟩
  · have m := PE_mono hE hx (xe_lt hE h hs (Or.inl a1)).1
    exact ⟨_, Or.inr (Or.inl ⟨a1, hasV_mono m.1 a2, a3, rfl⟩), by rw [a4]; exact upS_mono hx m.1⟩
  · exact ⟨x', Or.inr (Or.inr (Or.inl ⟨a1, a2, rfl⟩)), by rw [a3]; exact hx⟩
  · exact ⟨x', Or.inr (Or.inr (Or.inr (Or.inl ⟨a1, a2, rfl⟩))), by rw [a3]; exact hx⟩
  · exact ⟨x', Or.inr (Or.inr (Or.inr (Or.inr (Or.inl ⟨a1, a2, rfl⟩)))), by rw [a3]; exact hx⟩
  · have e := xe_lt hE h hs (Or.inr a1)
    have m := PE_mono hE hx e.1
    exact ⟨_, Or.inr (Or.inr (Or.inr (Or.inr (Or.inr (Or.inl ⟨a1, hasTr_mono m.1 a2, a3, rfl⟩))))), by rw [a4]; exact nr2_mono hE e.1 hx hx⟩
  · have e := xe_lt hE h hs (Or.inr a1)
    have m := PE_mono hE hx e.1
    exact ⟨_, Or.inr (Or.inr (Or.inr (Or.inr (Or.inr (Or.inr ⟨a1, hasFa_mono m.1 a2, a3, rfl⟩))))), by rw [a4]; exact nr2_mono hE e.1 hx hx⟩
end
