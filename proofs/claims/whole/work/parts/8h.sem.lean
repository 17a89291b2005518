/-! what an expression may come to, from outside -/
def strU (p : Pc) : Pc := (p.1, p.2.1, p.2.2.1, false)
def lfP (q : aQ) (x : Nat → Pc) (e : Nat) : Pc × Er :=
  if q.1 3 e = 0 then (one (1, (q.1 4 e).toInt), noE)
  else if q.1 3 e = 1 then (one (2, (q.1 4 e).toInt), noE)
  else if q.1 3 e = 2 then (one (4, 0), noE)
  else if q.1 3 e = 3 then (strU (x (q.1 4 e).toNatClampNeg), (false, (x (q.1 4 e).toNatClampNeg).2.2.2, false))
  else (hul [(1, -289), (1, 289)], noE)
def pE (q : aQ) (x : Nat → Pc) : Nat → Nat → Pc × Er
  | 0, _ => (eP, noE)
  | f + 1, e =>
    if q.1 2 e = -1 then lfP q x e
    else if hasV (pE q x f (lft q e)).1 = false then (eP, (pE q x f (lft q e)).2)
    else if 6 ≤ opn q e then (hul (sing (opn q e) (vals (pE q x f (lft q e)).1)), orE (pE q x f (lft q e)).2 (erL (sing (opn q e) (vals (pE q x f (lft q e)).1))))
    else (hul (prods (opn q e) (vals (pE q x f (lft q e)).1) (vals (pE q x f (rgt q e)).1)), orE (orE (pE q x f (lft q e)).2 (pE q x f (rgt q e)).2) (erL (prods (opn q e) (vals (pE q x f (lft q e)).1) (vals (pE q x f (rgt q e)).1))))
theorem pE_s {q : aQ} {x : Nat → Pc} {f e : Nat} : pE q x (f + 1) e = if q.1 2 e = -1 then lfP q x e
    else if hasV (pE q x f (lft q e)).1 = false then (eP, (pE q x f (lft q e)).2)
    else if 6 ≤ opn q e then (hul (sing (opn q e) (vals (pE q x f (lft q e)).1)), orE (pE q x f (lft q e)).2 (erL (sing (opn q e) (vals (pE q x f (lft q e)).1))))
    else (hul (prods (opn q e) (vals (pE q x f (lft q e)).1) (vals (pE q x f (rgt q e)).1)), orE (orE (pE q x f (lft q e)).2 (pE q x f (rgt q e)).2) (erL (prods (opn q e) (vals (pE q x f (lft q e)).1) (vals (pE q x f (rgt q e)).1)))) := rfl
def PE (q : aQ) (x : Nat → Pc) (e : Nat) : Pc × Er := pE q x 15 e
def stOk (x : Nat → Pc) : Prop := ∀ v, v < 5 → okP (x v)
def leS (x y : Nat → Pc) : Prop := ∀ v, v < 5 → leP (x v) (y v)
def leEr (a b : Er) : Prop := (a.1 = true → b.1 = true) ∧ (a.2.1 = true → b.2.1 = true) ∧ (a.2.2 = true → b.2.2 = true)
theorem wk_2 {o a b : Nat} {x y : Int} (h : (wk o a x b y).1 = 2) : a = 2 ∧ b = 2 ∧ (wk o a x b y).2 = x + y := by
  unfold wk at *
  split at h
  · rename_i c
    dsimp only at h
    rcases c.2 with d | d
    · omega
    · exact ⟨d.1, d.2, by rw [if_pos c]⟩
  split at h
  · cases h
  split at h
  · cases h
  split at h
  · split at h <;> cases h
  split at h
  · cases h
  split at h
  · cases h
  split at h
  · cases h
  split at h
  · cases h
  · cases h
theorem vals_2 {p : Pc} {v : Nat × Int} (h : v ∈ vals p) (h2 : v.1 = 2) : 0 ≤ v.2 := by
  rw [mem_vals] at h
  rcases h with ⟨a, -⟩ | ⟨-, -, a, -⟩ | ⟨a, -⟩
  · omega
  · exact a
  · rw [a] at h2; cases h2
theorem prods_2 {o : Nat} {p s : Pc} {v : Nat × Int} (h : v ∈ prods o (vals p) (vals s)) (h2 : v.1 = 2) : 0 ≤ v.2 := by
  obtain ⟨a, ha, b, hb, e⟩ := mem_prods.mp h
  rw [e] at h2 ⊢
  obtain ⟨c1, c2, c3⟩ := wk_2 h2
  rw [c3]
  have := vals_2 ha c1
  have := vals_2 hb c2
  omega
theorem sing_2 {o : Nat} {p : Pc} {v : Nat × Int} (h : v ∈ sing o (vals p)) (h2 : v.1 = 2) : 0 ≤ v.2 := by
  unfold sing at h
  obtain ⟨a, ha, e⟩ := List.mem_map.mp h
  rw [← e] at h2 ⊢
  obtain ⟨c1, c2, c3⟩ := wk_2 h2
  cases c2
theorem strU_ok {p : Pc} (h : okP p) : okP (strU p) := h
theorem lfP_ok {q : aQ} {nE e : Nat} {x : Nat → Pc} (hE : iE q nE) (he : e < nE) (h : q.1 2 e = -1) (hx : stOk x) : okP (lfP q x e).1 ∧ (lfP q x e).1.2.2.2 = false := by
  obtain ⟨hl, -⟩ := leaf_of hE he h
  unfold lfP
  rcases hl with ⟨a, b, c⟩ | ⟨a, b, c⟩ | a | ⟨a, v, b, c⟩ | a
  · rw [a, if_pos rfl]; exact ⟨one_ok (fun z => by cases z), rfl⟩
  · rw [a, if_neg (by decide), if_pos rfl]
    rw [Int32.lt_iff_toInt_lt] at b
    exact ⟨one_ok (fun _ => Int.not_lt.mp b), rfl⟩
  · rw [a, if_neg (by decide), if_neg (by decide), if_pos rfl]
    exact ⟨one_ok (fun z => by cases z), rfl⟩
  · rw [a, if_neg (by decide), if_neg (by decide), if_neg (by decide), if_pos rfl, c, nI_clamp (by omega)]
    exact ⟨strU_ok (hx v b), rfl⟩
  · rw [a, if_neg (by decide), if_neg (by decide), if_neg (by decide), if_neg (by decide)]
    exact ⟨hul_ok _ (fun v hv h2 => by
      rcases List.mem_cons.mp hv with rfl | hv
      · cases h2
      · rcases List.mem_cons.mp hv with rfl | hv
        · cases h2
        · cases hv), hul_unb _⟩
theorem pE_ok {q : aQ} {nE : Nat} {x : Nat → Pc} (hE : iE q nE) (hx : stOk x) : ∀ f e, e < nE → okP (pE q x f e).1 ∧ (pE q x f e).1.2.2.2 = false := by
  intro f
  induction f with
  | zero => intro e _; exact ⟨eP_ok, rfl⟩
  | succ f ih =>
    intro e he
    rw [pE_s]
    split
    · rename_i h; exact lfP_ok hE he h hx
    · split
      · exact ⟨eP_ok, rfl⟩
      · split
        · exact ⟨hul_ok _ (fun v hv h2 => sing_2 hv h2), hul_unb _⟩
        · exact ⟨hul_ok _ (fun v hv h2 => prods_2 hv h2), hul_unb _⟩
theorem leEr.rf {a : Er} : leEr a a := ⟨id, id, id⟩
theorem or_mono {a b c d : Er} (h : leEr a b) (k : leEr c d) : leEr (orE a c) (orE b d) := by
  obtain ⟨h1, h2, h3⟩ := h
  obtain ⟨k1, k2, k3⟩ := k
  unfold leEr orE
  simp only [Bool.or_eq_true]
  exact ⟨fun z => z.imp h1 k1, fun z => z.imp h2 k2, fun z => z.imp h3 k3⟩
theorem or_le1 {a b : Er} : leEr a (orE a b) := by
  unfold leEr orE
  simp only [Bool.or_eq_true]
  exact ⟨Or.inl, Or.inl, Or.inl⟩
theorem leEr.tr {a b c : Er} (h : leEr a b) (k : leEr b c) : leEr a c := ⟨fun z => k.1 (h.1 z), fun z => k.2.1 (h.2.1 z), fun z => k.2.2 (h.2.2 z)⟩
theorem erL_mono {L M : List (Nat × Int)} (h : ∀ v, v ∈ L → v ∈ M) : leEr (erL L) (erL M) := by
  unfold leEr erL
  exact ⟨fun z => decide_eq_true (h _ (of_decide_eq_true z)), id, fun z => decide_eq_true (h _ (of_decide_eq_true z))⟩
theorem isE_mono {r s : Rn} (h : leR r s) (e : isE r = false) : isE s = false := by
  rw [← Bool.not_eq_true, isE_t] at *
  unfold leR at h
  omega
theorem hasV_mono {p s : Pc} (h : leP p s) (v : hasV p = true) : hasV s = true := by
  unfold hasV at *
  rw [Bool.or_eq_true, Bool.or_eq_true, Bool.not_eq_true', Bool.not_eq_true'] at *
  rcases v with (v | v) | v
  · exact Or.inl (Or.inl (isE_mono h.1 v))
  · exact Or.inl (Or.inr (isE_mono h.2.1 v))
  · exact Or.inr (h.2.2.1 v)
theorem prods_mono {o : Nat} {L L' M M' : List (Nat × Int)} (h : ∀ v, v ∈ L → v ∈ L') (k : ∀ v, v ∈ M → v ∈ M') : ∀ v, v ∈ prods o L M → v ∈ prods o L' M' := by
  intro v hv
  obtain ⟨a, ha, b, hb, e⟩ := mem_prods.mp hv
  exact mem_prods.mpr ⟨a, h a ha, b, k b hb, e⟩
theorem sing_mono {o : Nat} {L L' : List (Nat × Int)} (h : ∀ v, v ∈ L → v ∈ L') : ∀ v, v ∈ sing o L → v ∈ sing o L' := by
  intro v hv
  unfold sing at *
  obtain ⟨a, ha, e⟩ := List.mem_map.mp hv
  exact List.mem_map.mpr ⟨a, h a ha, e⟩
theorem strU_mono {p s : Pc} (h : leP p s) : leP (strU p) (strU s) := ⟨h.1, h.2.1, h.2.2.1, id⟩
theorem lfP_mono {q : aQ} {nE e : Nat} {x y : Nat → Pc} (hE : iE q nE) (he : e < nE) (h : q.1 2 e = -1) (hx : leS x y) : leP (lfP q x e).1 (lfP q y e).1 ∧ leEr (lfP q x e).2 (lfP q y e).2 := by
  obtain ⟨hl, -⟩ := leaf_of hE he h
  unfold lfP
  rcases hl with ⟨a, b, c⟩ | ⟨a, b, c⟩ | a | ⟨a, v, b, c⟩ | a
  · rw [a, if_pos rfl, if_pos rfl]; exact ⟨leP.rf, leEr.rf⟩
  · rw [a, if_neg (by decide), if_pos rfl, if_neg (by decide), if_pos rfl]; exact ⟨leP.rf, leEr.rf⟩
  · rw [a, if_neg (by decide), if_neg (by decide), if_pos rfl, if_neg (by decide), if_neg (by decide), if_pos rfl]; exact ⟨leP.rf, leEr.rf⟩
  · rw [a, if_neg (by decide), if_neg (by decide), if_neg (by decide), if_pos rfl, if_neg (by decide), if_neg (by decide), if_neg (by decide), if_pos rfl, c, nI_clamp (by omega)]
    exact ⟨strU_mono (hx v b), ⟨id, (hx v b).2.2.2, id⟩⟩
  · rw [a, if_neg (by decide), if_neg (by decide), if_neg (by decide), if_neg (by decide), if_neg (by decide), if_neg (by decide), if_neg (by decide), if_neg (by decide)]
    exact ⟨leP.rf, leEr.rf⟩
theorem pE_mono {q : aQ} {nE : Nat} {x y : Nat → Pc} (hE : iE q nE) (hx : leS x y) : ∀ f e, e < nE → leP (pE q x f e).1 (pE q y f e).1 ∧ leEr (pE q x f e).2 (pE q y f e).2 := by
  intro f
  induction f with
  | zero => intro e _; exact ⟨leP.rf, leEr.rf⟩
  | succ f ih =>
    intro e he
    rw [pE_s, pE_s]
    by_cases h : q.1 2 e = -1
    · rw [if_pos h, if_pos h]; exact lfP_mono hE he h hx
    · obtain ⟨w, wa, o1, o2, o3, -⟩ := op_of hE he h
      have ia := ih (lft q e) (by omega)
      rw [if_neg h, if_neg h]
      by_cases v1 : hasV (pE q x f (lft q e)).1 = false
      · rw [if_pos v1]
        by_cases v2 : hasV (pE q y f (lft q e)).1 = false
        · rw [if_pos v2]; exact ⟨leP.rf, ia.2⟩
        · rw [if_neg v2]
          split
          · exact ⟨eP_hul _, ia.2.tr or_le1⟩
          · exact ⟨eP_hul _, (ia.2.tr or_le1).tr or_le1⟩
      · have v2 : ¬ hasV (pE q y f (lft q e)).1 = false := by
          have := hasV_mono ia.1 (by simpa using v1)
          rw [this]; decide
        rw [if_neg v1, if_neg v2]
        by_cases g6 : 6 ≤ opn q e
        · rw [if_pos g6, if_pos g6]
          have m : ∀ v, v ∈ sing (opn q e) (vals (pE q x f (lft q e)).1) → v ∈ sing (opn q e) (vals (pE q y f (lft q e)).1) := sing_mono (fun v hv => vals_mono ia.1 hv)
          exact ⟨hul_mono m, or_mono ia.2 (erL_mono m)⟩
        · rw [if_neg g6, if_neg g6]
          have ib := ih (rgt q e) (by have := o3 (by omega); omega)
          have m : ∀ v, v ∈ prods (opn q e) (vals (pE q x f (lft q e)).1) (vals (pE q x f (rgt q e)).1) → v ∈ prods (opn q e) (vals (pE q y f (lft q e)).1) (vals (pE q y f (rgt q e)).1) := prods_mono (fun v hv => vals_mono ia.1 hv) (fun v hv => vals_mono ib.1 hv)
          exact ⟨hul_mono m, or_mono (or_mono ia.2 ib.2) (erL_mono m)⟩
theorem pE_f {q : aQ} {nE : Nat} {x : Nat → Pc} (hE : iE q nE) : ∀ f g e w, e < nE → w ≤ 15 → q.1 7 e = nI w → w ≤ f → w ≤ g → pE q x f e = pE q x g e := by
  have h60 := hE.1
  intro f
  induction f with
  | zero =>
    intro g e w he hw0 hw hf
    obtain ⟨w', w1, w2, w3, -⟩ := iE_w hE he
    have := nI_inj (b := w') (by omega) (by omega) (hw.symm.trans w3)
    omega
  | succ f ih =>
    intro g e w he hw0 hw hf hg
    obtain ⟨w', w1, w2, w3, -⟩ := iE_w hE he
    have ww := nI_inj (b := w') (by omega) (by omega) (hw.symm.trans w3)
    obtain ⟨g, rfl⟩ : ∃ k, g = k + 1 := ⟨g - 1, by omega⟩
    rw [pE_s, pE_s]
    by_cases h : q.1 2 e = -1
    · rw [if_pos h, if_pos h]
    · obtain ⟨w', wa, o1, o2, o3, o4, o5, o6, o7, o8, o9, o10, o11, o12, o13, o14, o15, o16⟩ := op_of hE he h
      have ew : w = w' := nI_inj (by omega) (by omega) (hw.symm.trans o10)
      subst ew
      have ha : wa ≤ w - 1 := by
        by_cases g : opn q e ≤ 5
        · obtain ⟨wb, g1, g2, g3⟩ := o16 g; omega
        · have := o15 (by omega); omega
      have ea := ih g (lft q e) wa (by omega) (by omega) o13 (by omega) (by omega)
      rw [if_neg h, if_neg h, ea]
      by_cases g6 : 6 ≤ opn q e
      · rw [if_pos g6, if_pos g6]
      · obtain ⟨wb, g2, g3, g4⟩ := o16 (by omega)
        have eb := ih g (rgt q e) wb (by have := o3 (by omega); omega) (by omega) g2 (by omega) (by omega)
        rw [if_neg g6, if_neg g6, eb]
theorem PE_op {q : aQ} {nE e : Nat} {x : Nat → Pc} (hE : iE q nE) (he : e < nE) (h : ¬ q.1 2 e = -1) : PE q x e = if hasV (PE q x (lft q e)).1 = false then (eP, (PE q x (lft q e)).2)
    else if 6 ≤ opn q e then (hul (sing (opn q e) (vals (PE q x (lft q e)).1)), orE (PE q x (lft q e)).2 (erL (sing (opn q e) (vals (PE q x (lft q e)).1))))
    else (hul (prods (opn q e) (vals (PE q x (lft q e)).1) (vals (PE q x (rgt q e)).1)), orE (orE (PE q x (lft q e)).2 (PE q x (rgt q e)).2) (erL (prods (opn q e) (vals (PE q x (lft q e)).1) (vals (PE q x (rgt q e)).1)))) := by
  have h60 := hE.1
  obtain ⟨w, wa, o1, o2, o3, o4, o5, o6, o7, o8, o9, o10, o11, o12, o13, o14, o15, o16⟩ := op_of hE he h
  have ha : wa ≤ w - 1 := by
    by_cases g : opn q e ≤ 5
    · obtain ⟨wb, g1, g2, g3⟩ := o16 g; omega
    · have := o15 (by omega); omega
  have ea : pE q x 14 (lft q e) = PE q x (lft q e) := pE_f hE 14 15 (lft q e) wa (by omega) (by omega) o13 (by omega) (by omega)
  rw [show PE q x e = pE q x (14 + 1) e from rfl, pE_s, if_neg h, ea]
  by_cases g6 : 6 ≤ opn q e
  · rw [if_pos g6, if_pos g6]
  · obtain ⟨wb, g2, g3, g4⟩ := o16 (by omega)
    have eb : pE q x 14 (rgt q e) = PE q x (rgt q e) := pE_f hE 14 15 (rgt q e) wb (by have := o3 (by omega); omega) (by omega) g2 (by omega) (by omega)
    rw [if_neg g6, if_neg g6, eb]
theorem PE_lf {q : aQ} {e : Nat} {x : Nat → Pc} (h : q.1 2 e = -1) : PE q x e = lfP q x e := by
  rw [show PE q x e = pE q x (14 + 1) e from rfl, pE_s, if_pos h]
theorem PE_ok {q : aQ} {nE e : Nat} {x : Nat → Pc} (hE : iE q nE) (hx : stOk x) (he : e < nE) : okP (PE q x e).1 ∧ (PE q x e).1.2.2.2 = false := pE_ok hE hx 15 e he
theorem PE_mono {q : aQ} {nE e : Nat} {x y : Nat → Pc} (hE : iE q nE) (hx : leS x y) (he : e < nE) : leP (PE q x e).1 (PE q y e).1 ∧ leEr (PE q x e).2 (PE q y e).2 := pE_mono hE hx 15 e he
theorem pE_fr {q Q : aQ} {x : Nat → Pc} (r : ∀ c j, 2 ≤ c ∧ c ≤ 6 → Q.1 c j = q.1 c j) : ∀ f e, pE Q x f e = pE q x f e := by
  have r2 : ∀ j, Q.1 2 j = q.1 2 j := fun j => r 2 j (by omega)
  have r3 : ∀ j, Q.1 3 j = q.1 3 j := fun j => r 3 j (by omega)
  have r4 : ∀ j, Q.1 4 j = q.1 4 j := fun j => r 4 j (by omega)
  have r5 : ∀ j, Q.1 5 j = q.1 5 j := fun j => r 5 j (by omega)
  have r6 : ∀ j, Q.1 6 j = q.1 6 j := fun j => r 6 j (by omega)
  have l1 : ∀ e, lfP Q x e = lfP q x e := fun e => by unfold lfP; simp only [r3, r4]
  have l2 : ∀ e, opn Q e = opn q e := fun e => by unfold opn; rw [r2]
  have l3 : ∀ e, lft Q e = lft q e := fun e => by unfold lft; rw [r5]
  have l4 : ∀ e, rgt Q e = rgt q e := fun e => by unfold rgt; rw [r6]
  intro f
  induction f with
  | zero => intro e; rfl
  | succ f ih =>
    intro e
    rw [pE_s, pE_s]
    simp only [r2, l1, l2, l3, l4, ih]
theorem pE_cong {q : aQ} {nE : Nat} {x y : Nat → Pc} (hE : iE q nE) (hx : ∀ v, v < 5 → x v = y v) : ∀ f e, e < nE → pE q x f e = pE q y f e := by
  intro f e he
  have a := pE_mono hE (fun v hv => by rw [hx v hv]; exact leP.rf : leS x y) f e he
  have b := pE_mono hE (fun v hv => by rw [hx v hv]; exact leP.rf : leS y x) f e he
  refine Prod.ext (leP.as a.1 b.1) ?_
  obtain ⟨a1, a2, a3⟩ := a.2
  obtain ⟨b1, b2, b3⟩ := b.2
  exact Prod.ext (Bool.eq_iff_iff.mpr ⟨a1, b1⟩) (Prod.ext (Bool.eq_iff_iff.mpr ⟨a2, b2⟩) (Bool.eq_iff_iff.mpr ⟨a3, b3⟩))
