/-! the model joins a picture into a place -/
def rgK (k : Nat) (P : Pc) : Rn := if k < 2 then P.1 else P.2.1
def kvK (k : Nat) (R : Rn) : Int32 := if k = 0 ∨ k = 2 then mL R.1 else mH R.2
def tbK (k : Nat) : Int32 := if k < 2 then 1 else 2
/-- S's bound k is beyond P's -/
def btK (k : Nat) (P S : Rn) : Prop := if k = 0 ∨ k = 2 then S.1 < P.1 else P.2 < S.2
theorem rgK_ok {k : Nat} {P : Pc} (h : okP P) : okR (rgK k P) := by
  unfold rgK; split
  · exact h.1
  · exact h.2.R
theorem rgK_jo {k : Nat} {P S : Pc} : rgK k (joP P S) = joR (rgK k P) (rgK k S) := by unfold rgK; split <;> rfl
theorem rgK_le {k : Nat} {P S : Pc} (h : leP P S) : leR (rgK k P) (rgK k S) := by
  unfold rgK; split
  · exact h.1
  · exact h.2.1
theorem tbK_t {k : Nat} (P : Pc) : nI (tyN P) &&& tbK k = 0 ↔ isE (rgK k P) = true := by
  obtain ⟨⟨t1, t2⟩, -⟩ := tyN_b P
  unfold tbK rgK
  split
  · exact t1
  · exact t2
theorem mp_k {T : Int32} {b : Nat → Int32} {P : Pc} : mp T b P ↔ T = nI (tyN P) ∧ ∀ k, k < 4 → isE (rgK k P) = false → b k = kvK k (rgK k P) := by
  constructor
  · rintro ⟨h1, h2, h3⟩
    refine ⟨h1, fun k hk hz => ?_⟩
    have : k = 0 ∨ k = 1 ∨ k = 2 ∨ k = 3 := by omega
    rcases this with rfl | rfl | rfl | rfl
    · exact (h2 hz).1
    · exact (h2 hz).2
    · exact (h3 hz).1
    · exact (h3 hz).2
  · rintro ⟨h1, h2⟩
    exact ⟨h1, fun z => ⟨h2 0 (by decide) z, h2 1 (by decide) z⟩, fun z => ⟨h2 2 (by decide) z, h2 3 (by decide) z⟩⟩
section
variable {Q : aQ} {P S : Pc}
theorem F171_eq {a : Nat} {m : Int32} {sm lo c g : Bool} (ha : a < 500) (hc : Q.1 650 22 = bI c) (hg : g = true ↔ sm = false ∨ (if lo = true then ¬ Q.1 667 a ≤ m else ¬ m ≤ Q.1 667 a)) : S171_0 (nI a) m (bI sm) (bI lo) Q ∧ (F171_0 (nI a) m (bI sm) (bI lo) Q).1 667 a = (if g = true then m else Q.1 667 a) ∧ (F171_0 (nI a) m (bI sm) (bI lo) Q).1 650 22 = bI (c || (g && !decide (Q.1 667 a = m))) ∧ (∀ x j, ¬ (x = 667 ∧ j = a) → ¬ (x = 650 ∧ j = 22) → (F171_0 (nI a) m (bI sm) (bI lo) Q).1 x j = Q.1 x j) ∧ (F171_0 (nI a) m (bI sm) (bI lo) Q).2 = Q.2 := by
  have ca : (nI a).toNatClampNeg = a := nI_clamp (by omega)
  have va : vp_in (nI a) 500 := vp_in_nI ha (by decide)
  -- writing
  have wr : F171_49 (nI a) m (Q.1 667 a) Q = a_w (a_w Q 650 22 (bI (c || !decide (Q.1 667 a = m)))) 667 a m := by
    unfold F171_49 F171_63 F171_68
    rw [ca, hc]
    cases c with
    | true => rw [if_neg (show ¬ bI true = 0 by decide)]; rfl
    | false =>
      rw [if_pos (show bI false = 0 from rfl)]
      by_cases e : Q.1 667 a = m
      · rw [if_pos e, decide_eq_true e]; rfl
      · rw [if_neg e, decide_eq_false e]; rfl
  have ws : S171_49 (nI a) m (Q.1 667 a) Q := by
    unfold S171_49 S171_63 S171_68
    exact ⟨fun _ => ⟨fun _ => ⟨Or.inl rfl, va, trivial⟩, fun _ => ⟨Or.inr rfl, va, trivial⟩⟩, fun _ => ⟨Or.inr rfl, va, trivial⟩⟩
  have s38 : ∀ s0, S171_38 (nI a) m (bI sm) (Q.1 667 a) s0 Q := by
    intro s0
    unfold S171_38
    exact ⟨fun _ => ws, fun _ => ⟨fun _ => trivial, fun _ => ws⟩⟩
  have S : S171_0 (nI a) m (bI sm) (bI lo) Q := by
    unfold S171_0
    rw [ca]
    exact ⟨va, fun _ => ⟨fun _ => s38 _, fun _ => s38 _⟩, fun _ => ⟨fun _ => s38 _, fun _ => s38 _⟩⟩
  refine ⟨S, ?_⟩
  have F : F171_0 (nI a) m (bI sm) (bI lo) Q = if g = true then a_w (a_w Q 650 22 (bI (c || !decide (Q.1 667 a = m)))) 667 a m else Q := by
    have f38 : ∀ s0 : Int32, (g = true ↔ sm = false ∨ ¬ s0 = 0) → F171_38 (nI a) m (bI sm) (Q.1 667 a) s0 Q = if g = true then a_w (a_w Q 650 22 (bI (c || !decide (Q.1 667 a = m)))) 667 a m else Q := by
      intro s0 h0
      unfold F171_38
      cases sm with
      | false => rw [if_pos (show bI false = 0 from rfl), wr, if_pos (h0.mpr (Or.inl rfl))]
      | true =>
        rw [if_neg (show ¬ bI true = 0 by decide)]
        by_cases z : s0 = 0
        · rw [if_pos z, if_neg (fun y => (h0.mp y).elim (by decide) (fun w => w z))]
        · rw [if_neg z, wr, if_pos (h0.mpr (Or.inr z))]
    unfold F171_0
    rw [ca]
    cases lo with
    | false =>
      rw [if_pos (show bI false = 0 from rfl)]
      rw [if_neg (by decide)] at hg
      by_cases z : m ≤ Q.1 667 a
      · rw [if_pos z]
        exact f38 0 (hg.trans ⟨fun y => y.imp id (fun w => absurd z w), fun y => y.imp id (fun w => absurd rfl w)⟩)
      · rw [if_neg z]
        exact f38 1 (hg.trans ⟨fun y => Or.inr (by decide), fun y => Or.inr z⟩)
    | true =>
      rw [if_neg (show ¬ bI true = 0 by decide)]
      rw [if_pos rfl] at hg
      by_cases z : Q.1 667 a ≤ m
      · rw [if_pos z]
        exact f38 0 (hg.trans ⟨fun y => y.imp id (fun w => absurd z w), fun y => y.imp id (fun w => absurd rfl w)⟩)
      · rw [if_neg z]
        exact f38 1 (hg.trans ⟨fun y => Or.inr (by decide), fun y => Or.inr z⟩)
  rw [F]
  cases g with
  | true =>
    rw [if_pos rfl, if_pos rfl]
    refine ⟨w_eq, ?_, fun x j y z => by rw [w_get, if_neg y, w_get, if_neg z], rfl⟩
    rw [w_ne (by decide), w_eq, Bool.true_and]
  | false =>
    rw [if_neg (by decide), if_neg (by decide)]
    refine ⟨rfl, ?_, fun _ _ _ _ => rfl, rfl⟩
    rw [Bool.false_and, Bool.or_false]; exact hc
/-- one bound joined -/
theorem jb_step {t v k : Nat} {c : Bool} (ht : t < 25) (hv : v < 5) (hk : k < 4) (hP : okP P) (hS : okP S) (h22 : Q.1 650 22 = bI c) (hb : isE (rgK k S) = false → Q.1 670 (4 * v + k) = kvK k (rgK k S)) (ho : isE (rgK k P) = false → Q.1 667 (4 * (5 * t + v) + k) = kvK k (rgK k P)) : ∃ Q', F172_42 (nI t) (nI v) (nI (tyN P)) (nI (tyN S)) (nI k) Q = .inl (nI (k + 1), Q') ∧ S172_42 (nI t) (nI v) (nI (tyN P)) (nI (tyN S)) (nI k) Q ∧ (isE (rgK k (joP P S)) = false → Q'.1 667 (4 * (5 * t + v) + k) = kvK k (rgK k (joP P S))) ∧ (∃ c', Q'.1 650 22 = bI c' ∧ (c = true → c' = true) ∧ (c' = true → c = true ∨ ¬ leP S P) ∧ (isE (rgK k P) = false → isE (rgK k S) = false → btK k (rgK k P) (rgK k S) → c' = true)) ∧ (∀ x j, ¬ (x = 667 ∧ j = 4 * (5 * t + v) + k) → ¬ (x = 650 ∧ j = 22) → Q'.1 x j = Q.1 x j) ∧ Q'.2 = Q.2 := by
  have okp := rgK_ok (k := k) hP
  have oks := rgK_ok (k := k) hS
  have bP := tbK_t (k := k) P
  have bS := tbK_t (k := k) S
  have c4 := c4k (i := v) (k := k) (N := 20) (by omega) (by decide)
  have ix : 20 * nI t + 4 * nI v + nI k = nI (4 * (5 * t + v) + k) := by
    rw [show (20 : Int32) = nI 20 from rfl, show (4 : Int32) = nI 4 from rfl, pk_mul, pk_mul, nI_add, nI_add]
    congr 1; omega
  have n4 := n4 hk
  have tb : F172_42 (nI t) (nI v) (nI (tyN P)) (nI (tyN S)) (nI k) Q = F172_59 (nI t) (nI v) (nI (tyN P)) (nI (tyN S)) (nI k) (tbK k) Q := by
    unfold F172_42 tbK
    rw [if_neg n4]
    by_cases k2 : k < 2
    · rw [if_neg (show ¬ (2 : Int32) ≤ nI k from nI_ge (b := 2) k2 (by decide)), if_pos k2]
    · rw [if_pos (show (2 : Int32) ≤ nI k from nI_le (a := 2) (by omega) (by omega)), if_neg k2]
  have ts : S172_59 (nI t) (nI v) (nI (tyN P)) (nI (tyN S)) (nI k) (tbK k) Q → S172_42 (nI t) (nI v) (nI (tyN P)) (nI (tyN S)) (nI k) Q := by
    intro z
    unfold S172_42
    refine ⟨fun y => absurd y n4, fun _ => ⟨fun y => ?_, fun y => ?_⟩⟩
    · have : ¬ k < 2 := fun w => (nI_ge (a := k) (b := 2) w (by decide)) y
      unfold tbK at z; rw [if_neg this] at z; exact z
    · have : k < 2 := by
        by_cases w : k < 2
        · exact w
        · exact absurd (show (2 : Int32) ≤ nI k from nI_le (a := 2) (by omega) (by omega)) y
      unfold tbK at z; rw [if_pos this] at z; exact z
  rw [tb, rgK_jo]
  cases hs : isE (rgK k S) with
  | true =>
    have z := bS.mpr hs
    unfold F172_59 F172_119 S172_59 S172_119 at *
    rw [if_pos z, nI_1]
    have jj : joR (rgK k P) (rgK k S) = rgK k P := by rw [isE_eR oks hs]; exact (joR_eR okp).1
    rw [jj]
    exact ⟨Q, rfl, ts ⟨fun _ => trivial, fun y => absurd z y⟩, ho, ⟨c, h22, id, Or.inl, fun _ y => by cases y⟩, fun _ _ _ _ => rfl, rfl⟩
  | false =>
    have nz : ¬ nI (tyN S) &&& tbK k = 0 := fun z => by rw [bS.mp z] at hs; cases hs
    have m1 := hb hs
    -- low or high
    have lo : (nI k &&& 1 = 0 ↔ (k = 0 ∨ k = 2)) := by
      have : k = 0 ∨ k = 1 ∨ k = 2 ∨ k = 3 := by omega
      rcases this with rfl | rfl | rfl | rfl <;> decide
    have go : ∀ g : Bool, (g = true ↔ isE (rgK k P) = true ∨ (if decide (k = 0 ∨ k = 2) = true then ¬ Q.1 667 (4 * (5 * t + v) + k) ≤ kvK k (rgK k S) else ¬ kvK k (rgK k S) ≤ Q.1 667 (4 * (5 * t + v) + k))) → F172_59 (nI t) (nI v) (nI (tyN P)) (nI (tyN S)) (nI k) (tbK k) Q = .inl (nI (k + 1), F171_0 (nI (4 * (5 * t + v) + k)) (kvK k (rgK k S)) (bI (!isE (rgK k P))) (bI (decide (k = 0 ∨ k = 2))) Q) ∧ S172_59 (nI t) (nI v) (nI (tyN P)) (nI (tyN S)) (nI k) (tbK k) Q ∧ (F171_0 (nI (4 * (5 * t + v) + k)) (kvK k (rgK k S)) (bI (!isE (rgK k P))) (bI (decide (k = 0 ∨ k = 2))) Q).1 667 (4 * (5 * t + v) + k) = (if g = true then kvK k (rgK k S) else Q.1 667 (4 * (5 * t + v) + k)) ∧ (F171_0 (nI (4 * (5 * t + v) + k)) (kvK k (rgK k S)) (bI (!isE (rgK k P))) (bI (decide (k = 0 ∨ k = 2))) Q).1 650 22 = bI (c || (g && !decide (Q.1 667 (4 * (5 * t + v) + k) = kvK k (rgK k S)))) ∧ (∀ x j, ¬ (x = 667 ∧ j = 4 * (5 * t + v) + k) → ¬ (x = 650 ∧ j = 22) → (F171_0 (nI (4 * (5 * t + v) + k)) (kvK k (rgK k S)) (bI (!isE (rgK k P))) (bI (decide (k = 0 ∨ k = 2))) Q).1 x j = Q.1 x j) ∧ (F171_0 (nI (4 * (5 * t + v) + k)) (kvK k (rgK k S)) (bI (!isE (rgK k P))) (bI (decide (k = 0 ∨ k = 2))) Q).2 = Q.2 := by
      intro g hg
      obtain ⟨f1, f2, f3, f4, f5⟩ := F171_eq (sm := !isE (rgK k P)) (lo := decide (k = 0 ∨ k = 2)) (g := g) (m := kvK k (rgK k S)) (show 4 * (5 * t + v) + k < 500 by omega) h22 (by rw [hg]; simp)
      refine ⟨?_, ?_, f2, f3, f4, f5⟩
      · unfold F172_59 F172_104 F172_116 F172_119
        rw [if_neg nz, c4.1, m1, ix, nI_1]
        cases hp : isE (rgK k P) with
        | true =>
          rw [if_pos (bP.mpr hp)]
          by_cases l : k = 0 ∨ k = 2
          · rw [if_pos (lo.mpr l), decide_eq_true l]; rfl
          · rw [if_neg (fun z => l (lo.mp z)), decide_eq_false l]; rfl
        | false =>
          rw [if_neg (fun z => by rw [bP.mp z] at hp; cases hp)]
          by_cases l : k = 0 ∨ k = 2
          · rw [if_pos (lo.mpr l), decide_eq_true l]; rfl
          · rw [if_neg (fun z => l (lo.mp z)), decide_eq_false l]; rfl
      · unfold S172_59 S172_104 S172_116 S172_119
        rw [c4.1, m1, ix]
        refine ⟨fun z => absurd z nz, fun _ => ⟨c4.2, fun z => ⟨fun y => ⟨?_, trivial⟩, fun y => ⟨?_, trivial⟩⟩, fun z => ⟨fun y => ⟨?_, trivial⟩, fun y => ⟨?_, trivial⟩⟩⟩⟩
        · rw [bP.mp z, decide_eq_true (lo.mp y)] at f1; exact f1
        · rw [bP.mp z, decide_eq_false (fun w => y (lo.mpr w))] at f1; exact f1
        · have : isE (rgK k P) = false := by rw [← Bool.not_eq_true]; exact fun w => z (bP.mpr w)
          rw [this, decide_eq_true (lo.mp y)] at f1; exact f1
        · have : isE (rgK k P) = false := by rw [← Bool.not_eq_true]; exact fun w => z (bP.mpr w)
          rw [this, decide_eq_false (fun w => y (lo.mpr w))] at f1; exact f1
    have os := ok_ne oks (by rw [hs]; decide)
    cases hp : isE (rgK k P) with
    | true =>
      obtain ⟨f0, fs, f2, f3, f4, f5⟩ := go true ⟨fun _ => Or.inl hp, fun _ => rfl⟩
      have jj : joR (rgK k P) (rgK k S) = rgK k S := by rw [isE_eR okp hp]; exact (joR_eR oks).2
      have nle : ¬ leP S P := fun z => by
        have := isE_mono (rgK_le (k := k) z) hs
        rw [hp] at this; cases this
      rw [jj]
      refine ⟨_, f0, ts fs, fun _ => by rw [f2, if_pos rfl], ⟨_, f3, fun z => by rw [z]; rfl, fun _ => Or.inr nle, fun z => by cases z⟩, f4, f5⟩
    | false =>
      have m0 := ho hp
      have op := ok_ne okp (by rw [hp]; decide)
      -- better, or not
      have cmp : (if decide (k = 0 ∨ k = 2) = true then ¬ Q.1 667 (4 * (5 * t + v) + k) ≤ kvK k (rgK k S) else ¬ kvK k (rgK k S) ≤ Q.1 667 (4 * (5 * t + v) + k)) ↔ btK k (rgK k P) (rgK k S) := by
        rw [m0]
        unfold btK kvK
        by_cases l : k = 0 ∨ k = 2
        · rw [decide_eq_true l, if_pos rfl, if_pos l, if_pos l, if_pos l, mL_le op.1 os.1]; omega
        · rw [decide_eq_false l, if_neg (by decide), if_neg l, if_neg l, if_neg l, mH_le os.2.1 op.2.1]; omega
      have jv1 : btK k (rgK k P) (rgK k S) → kvK k (joR (rgK k P) (rgK k S)) = kvK k (rgK k S) := by
        intro z
        unfold btK at z
        unfold kvK joR
        by_cases l : k = 0 ∨ k = 2
        · rw [if_pos l] at z ⊢; rw [if_pos l]; dsimp only; rw [if_pos z]
        · rw [if_neg l] at z ⊢; rw [if_neg l]; dsimp only; rw [if_pos z]
      have jv0 : ¬ btK k (rgK k P) (rgK k S) → kvK k (joR (rgK k P) (rgK k S)) = kvK k (rgK k P) := by
        intro z
        unfold btK at z
        unfold kvK joR
        by_cases l : k = 0 ∨ k = 2
        · rw [if_pos l] at z ⊢; rw [if_pos l]; dsimp only; rw [if_neg z]
        · rw [if_neg l] at z ⊢; rw [if_neg l]; dsimp only; rw [if_neg z]
      have btle : btK k (rgK k P) (rgK k S) → ¬ leP S P := by
        intro z w
        have := rgK_le (k := k) w
        unfold leR at this
        unfold btK at z
        split at z <;> omega
      have btne : btK k (rgK k P) (rgK k S) → ¬ Q.1 667 (4 * (5 * t + v) + k) = kvK k (rgK k S) := by
        intro z w
        have := cmp.mpr z
        rw [w] at this
        split at this
        · exact this (Int32.le_refl _)
        · exact this (Int32.le_refl _)
      by_cases bt : btK k (rgK k P) (rgK k S)
      · obtain ⟨f0, fs, f2, f3, f4, f5⟩ := go true ⟨fun _ => Or.inr (cmp.mpr bt), fun _ => rfl⟩
        refine ⟨_, f0, ts fs, fun _ => by rw [f2, if_pos rfl, jv1 bt], ⟨_, f3, fun z => by rw [z]; rfl, fun _ => Or.inr (btle bt), fun _ _ _ => ?_⟩, f4, f5⟩
        rw [decide_eq_false (btne bt)]; simp
      · obtain ⟨f0, fs, f2, f3, f4, f5⟩ := go false ⟨fun z => (by cases z), fun z => z.elim (fun z => by rw [hp] at z; cases z) (fun z => absurd (cmp.mp z) bt)⟩
        refine ⟨_, f0, ts fs, fun _ => by rw [f2, if_neg (by decide), jv0 bt]; exact m0, ⟨_, f3, fun z => by rw [z]; rfl, fun z => Or.inl (by simpa using z), fun _ _ z => absurd z bt⟩, f4, f5⟩
end
