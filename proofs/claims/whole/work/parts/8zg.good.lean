/-! states that are reached hold something of each variable -/
def full (x : Nat → Pc) : Prop := ∀ v, v < 5 → x v ≠ eP
theorem one_ne {a : Nat × Int} (h : a.1 = 1 ∨ a.1 = 2 ∨ a.1 = 4) : one a ≠ eP := by
  have l := loF_ok (x := a.2)
  intro z
  unfold one at z
  rcases h with h | h | h
  · rw [if_pos h] at z
    have := congrArg (fun p : Pc => p.1.1) z
    have : loF a.2 = 1001 := this
    omega
  · rw [if_neg (by omega), if_pos h] at z
    have := congrArg (fun p : Pc => p.2.1.1) z
    have : loF a.2 = 1001 := this
    omega
  · rw [if_neg (by omega), if_neg (by omega), if_pos h] at z
    have := congrArg (fun p : Pc => p.2.2.1) z
    cases this
theorem ne_le {p s : Pc} (h : leP p s) (hp : leE p) (n : p ≠ eP) : s ≠ eP := fun e => n (by rw [e] at h; exact leP.as h hp)
theorem hul_ne {L : List (Nat × Int)} {a : Nat × Int} (ha : a ∈ L) (h : a.1 = 1 ∨ a.1 = 2 ∨ a.1 = 4) : hul L ≠ eP := ne_le (one_hul ha) (eP_one a) (one_ne h)
theorem hasV_ne {P : Pc} (h : hasV P = true) : P ≠ eP := fun e => by rw [e] at h; cases h
section
variable {q Q : aQ} {nE n m e : Nat} {o p : Nat → Nat} {σ σ0 : Nat → Nat → Pc} {A A0 R R0 : Nat → Bool} {c c0 : Bool} {x y : Nat → Pc}
/-- comparisons: the truth of the picture is the truth of a pair -/
theorem cmp_ex {k : Nat} {X Y : Pc} {t : Bool} (hk : k = 4 ∨ k = 5) (hX : okP X) (hY : okP Y) (h : mayB t (hul (prods k (vals X) (vals Y))) = true) : ∃ a, a ∈ vals X ∧ ∃ b, b ∈ vals Y ∧ ¬ (wk k a.1 a.2 b.1 b.2).1 = 0 ∧ isT (wk k a.1 a.2 b.1 b.2).1 (wk k a.1 a.2 b.1 b.2).2 = t := by
  refine Classical.byContradiction fun no => ?_
  have sh : ∀ w, w ∈ prods k (vals X) (vals Y) → w.1 = 0 ∨ (w.1 = 1 ∧ (w.2 = 0 ∨ w.2 = 1)) := by
    intro w hw
    obtain ⟨a, -, b, -, e⟩ := mem_prods.mp hw
    rw [e]
    rcases hk with rfl | rfl
    · unfold wk
      simp
      split
      · right; split <;> simp
      · left; rfl
    · have : wk 5 a.1 a.2 b.1 b.2 = (1, if a.1 = b.1 ∧ (a.1 = 4 ∨ a.2 = b.2) then 1 else 0) := by simp [wk]
      rw [this]
      right
      refine ⟨rfl, ?_⟩
      dsimp only
      split
      · right; rfl
      · left; rfl
  have nt : ∀ w, w ∈ prods k (vals X) (vals Y) → w.1 = 1 → ¬ isT w.1 w.2 = t := by
    intro w hw h1 ht
    obtain ⟨a, ha, b, hb, e⟩ := mem_prods.mp hw
    rw [e] at h1 ht
    exact no ⟨a, ha, b, hb, by omega, ht⟩
  cases t with
  | true =>
    have le : leP (hul (prods k (vals X) (vals Y))) ((0, 0), eR, false, false) := by
      refine (hul_lub (by unfold leE leP leR eP eR; decide) _).mpr fun w hw => ?_
      rcases sh w hw with h0 | ⟨h1, h2⟩
      · unfold one
        rw [if_neg (by omega), if_neg (by omega), if_neg (by omega)]
        unfold leP leR eP eR; decide
      · have z0 : w.2 = 0 := by
          rcases h2 with z | z
          · exact z
          · exact absurd (by rw [h1, z]; rfl) (nt w hw h1)
        have : w = (1, 0) := Prod.ext h1 z0
        rw [this]
        exact ⟨⟨by decide, by decide⟩, ⟨by decide, by decide⟩, id, id⟩
    have := hasTr_mono le h
    cases this
  | false =>
    have le : leP (hul (prods k (vals X) (vals Y))) ((1, 1), eR, false, false) := by
      refine (hul_lub (by unfold leE leP leR eP eR; decide) _).mpr fun w hw => ?_
      rcases sh w hw with h0 | ⟨h1, h2⟩
      · unfold one
        rw [if_neg (by omega), if_neg (by omega), if_neg (by omega)]
        unfold leP leR eP eR; decide
      · have z1 : w.2 = 1 := by
          rcases h2 with z | z
          · exact absurd (by rw [h1, z]; rfl) (nt w hw h1)
          · exact z
        have : w = (1, 1) := Prod.ext h1 z1
        rw [this]
        exact ⟨⟨by decide, by decide⟩, ⟨by decide, by decide⟩, id, id⟩
    have := hasFa_mono le h
    cases this
theorem nr2_full {t : Bool} (hE : iE q nE) (he : e < nE) (hx : stOk x) (hf : full x) (h : mayB t (PE q x e).1 = true) : full (nr2 q e t x x) := by
  unfold nr2
  cases hn : nv q e with
  | none => exact hf
  | some v =>
    dsimp only
    intro u hu
    unfold upS
    by_cases eu : u = v
    · rw [if_pos eu]
      have v5 := nv_lt hE he hn
      unfold nv at hn
      unfold nrP
      by_cases h45 : q.1 2 e = 4 ∨ q.1 2 e = 5
      · rw [if_pos h45] at hn
        obtain ⟨n1, o5, o44, o55⟩ := op45 h45
        obtain ⟨w, wa, o1, o2, o3, -⟩ := op_of hE he n1
        have o3' := o3 o5
        obtain ⟨a1, a2, a3, a4⟩ := vN_lt hE (show lft q e < nE by omega) hn
        have pl : (PE q x (lft q e)).1 = strU (x v) := by
          rw [PE_lf a3]
          unfold lfP
          rw [a4, if_neg (by decide), if_neg (by decide), if_neg (by decide), if_pos rfl, a2, nI_clamp (by omega)]
        obtain ⟨cv1, cv2⟩ := cond_v hE hx he h45 (mayB_v h)
        have pe := PE_op (x := x) hE he n1
        rw [if_neg (by rw [cv1]; decide), if_neg (by omega)] at pe
        have h' : mayB t (hul (prods (opn q e) (vals (PE q x (lft q e)).1) (vals (PE q x (rgt q e)).1))) = true := by rw [pe] at h; exact h
        have k45 : opn q e = 4 ∨ opn q e = 5 := h45.imp o44 o55
        obtain ⟨a, ha, b, hb, w1, w2⟩ := cmp_ex k45 (PE_ok hE hx (by omega)).1 (PE_ok hE hx (by omega)).1 h'
        have ha' : a ∈ vals (x v) := by rw [pl] at ha; exact ha
        have tt := (val_ok ha').2.1
        rcases h45 with z | z
        · rw [if_pos z]
          rw [o44 z] at w1 w2
          exact hul_ne (mem_narO.mpr ⟨ha', b, hb, w1, w2⟩) tt
        · rw [if_neg (by rw [z]; decide), if_pos z]
          rw [o55 z] at w1 w2
          exact hul_ne (mem_narO.mpr ⟨ha', b, hb, w1, w2⟩) tt
      · rw [if_neg h45] at hn
        rw [if_neg (fun z => h45 (Or.inl z)), if_neg (fun z => h45 (Or.inr z))]
        obtain ⟨a1, a2, a3, a4⟩ := vN_lt hE he hn
        have pl : (PE q x e).1 = strU (x v) := by
          rw [PE_lf a3]
          unfold lfP
          rw [a4, if_neg (by decide), if_neg (by decide), if_neg (by decide), if_pos rfl, a2, nI_clamp (by omega)]
        rw [pl] at h
        obtain ⟨a, ha, hT⟩ := (ex_v (strU_ok (hx v v5)) t).mpr h
        have ha' : a ∈ vals (x v) := ha
        exact hul_ne (mem_narT.mpr ⟨ha', hT⟩) (val_ok ha').2.1
    · rw [if_neg eu]; exact hf u hu
theorem nr2_ok {t : Bool} {z : Nat → Pc} (hx : stOk x) : stOk (nr2 q e t x z) := by
  unfold nr2
  cases nv q e with
  | none => exact hx
  | some v =>
    dsimp only
    intro u hu
    unfold upS
    split
    · exact nrP_ok
    · exact hx u hu
theorem upS_ok {v : Nat} {a : Pc} (hx : stOk x) (ha : okP a) : stOk (upS x v a) := by
  intro u hu
  unfold upS
  split
  · exact ha
  · exact hx u hu
theorem upS_full {v : Nat} {a : Pc} (hx : full x) (ha : a ≠ eP) : full (upS x v a) := by
  intro u hu
  unfold upS
  split
  · exact ha
  · exact hx u hu
/-- from (σ0, A0, c0), passing through s came to (σ, A, R, c) -/
def reM (q : aQ) (s : Nat) (σ0 : Nat → Nat → Pc) (A0 : Nat → Bool) (c0 : Bool) (σ : Nat → Nat → Pc) (A R : Nat → Bool) (c : Bool) : Prop :=
  leF σ0 σ ∧ leA A0 A ∧ (∀ μ B, okF μ → leF σ0 μ → leA A0 B → cAt q μ B s → leF σ μ ∧ leA A B) ∧ (c = true ↔ c0 = true ∨ ∃ p, p < 25 ∧ chg σ0 σ p) ∧ (∀ p, p < 25 → R p = true → full (σ p))
theorem reM.rf {s : Nat} (h : ∀ p, p < 25 → R p = true → full (σ p)) : reM q s σ A c σ A R c := ⟨leF.rf, fun _ _ => id, fun _ _ _ a b _ => ⟨a, b⟩, ⟨Or.inl, fun z => z.elim id (fun ⟨p, _, v, _, ne⟩ => absurd rfl ne)⟩, h⟩
theorem reM.alarm {s i : Nat} (h : reM q s σ0 A0 c0 σ A R c) (hb : ∀ μ B, okF μ → leF σ0 μ → leF σ μ → cAt q μ B s → B i = true) : reM q s σ0 A0 c0 σ (setA A i) R c := by
  obtain ⟨h1, h3, h7, h5, h6⟩ := h
  refine ⟨h1, fun j hj z => ?_, fun μ B a b c d => ?_, h5, h6⟩
  · unfold setA; split
    · rfl
    · exact h3 j hj z
  · obtain ⟨u, w⟩ := h7 μ B a b c d
    refine ⟨u, fun j hj z => ?_⟩
    unfold setA at z
    split at z
    · rename_i e; subst e; exact hb μ B a b u d
    · exact w j hj z
theorem reM.flow {s t : Nat} {c' : Bool} (h : reM q s σ0 A0 c0 σ A R c) (ht : t < 25) (oσ : okF σ) (hR0 : R t = false → ∀ v, v < 5 → σ t v = eP) (hy : stOk y) (hf : full y) (hc : c' = true ↔ c = true ∨ R t = false ∨ ∃ u, u < 5 ∧ ¬ leP (y u) (σ t u)) (hb : ∀ μ B, okF μ → leF σ0 μ → leF σ μ → cAt q μ B s → leS y (μ t)) : reM q s σ0 A0 c0 (gro σ t y) A (onR R t) c' := by
  obtain ⟨h1, h3, h7, h5, h6⟩ := h
  have cc : (R t = false ∨ ∃ u, u < 5 ∧ ¬ leP (y u) (σ t u)) ↔ chg σ (gro σ t y) t := by
    have e1 : (∃ u, u < 5 ∧ ¬ leP (y u) (σ t u)) ↔ chg σ (gro σ t y) t := by
      unfold chg gro
      constructor
      · rintro ⟨u, hu, nl⟩
        refine ⟨u, hu, fun z => nl ?_⟩
        rw [if_pos rfl] at z
        rw [← z]; exact le_jo2
      · rintro ⟨u, hu, ne⟩
        refine ⟨u, hu, fun z => ne ?_⟩
        rw [if_pos rfl]; exact leP_jo z
    rw [← e1]
    constructor
    · rintro (z | z)
      · refine ⟨0, by decide, fun w => hf 0 (by decide) ?_⟩
        rw [hR0 z 0 (by decide)] at w
        exact leP.as w (okP_le (hy 0 (by decide)))
      · exact z
    · exact Or.inr
  refine ⟨h1.tr gro_le, h3, fun μ B a b d e => ?_, ?_, fun p hp hr => ?_⟩
  · obtain ⟨u, w⟩ := h7 μ B a b d e
    exact ⟨gro_ub u (hb μ B a b u e), w⟩
  · rw [hc, cc, h5]
    constructor
    · rintro ((z | ⟨p, hp, z⟩) | z)
      · exact Or.inl z
      · exact Or.inr ⟨p, hp, (chg_mid hp h1 gro_le).mp (Or.inl z)⟩
      · exact Or.inr ⟨t, ht, (chg_mid ht h1 gro_le).mp (Or.inr z)⟩
    · rintro (z | ⟨p, hp, z⟩)
      · exact Or.inl (Or.inl z)
      · rcases (chg_mid hp h1 gro_le).mpr z with w | w
        · exact Or.inl (Or.inr ⟨p, hp, w⟩)
        · have e : p = t := by
            obtain ⟨v, hv, ne⟩ := w
            exact Classical.byContradiction fun z => ne (gro_same z)
          subst e; exact Or.inr w
  · by_cases e : p = t
    · subst e
      intro v hv
      refine ne_le (p := y v) ?_ (okP_le (hy v hv)) (hf v hv)
      unfold gro; rw [if_pos rfl]; exact le_jo2
    · unfold onR at hr
      rw [if_neg e] at hr
      intro v hv
      rw [gro_same e]; exact h6 p hp hr v hv
end
