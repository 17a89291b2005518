/-! the model's pictures: what fits -/
def mL (l : Int) : Int32 := if l = -1000 then -17 else iI l
def mH (h : Int) : Int32 := if h = 1000 then 17 else iI h
/-- types T and four bounds b show the picture P -/
def mp (T : Int32) (b : Nat → Int32) (P : Pc) : Prop := T = nI (tyN P) ∧ (isE P.1 = false → b 0 = mL P.1.1 ∧ b 1 = mH P.1.2) ∧ (isE P.2.1 = false → b 2 = mL P.2.1.1 ∧ b 3 = mH P.2.1.2)
theorem mp_cong {T T' : Int32} {b b' : Nat → Int32} {P : Pc} (h : mp T b P) (hT : T' = T) (hb : ∀ k, k < 4 → b' k = b k) : mp T' b' P := by
  obtain ⟨h1, h2, h3⟩ := h
  refine ⟨hT.trans h1, fun z => ?_, fun z => ?_⟩
  · rw [hb 0 (by decide), hb 1 (by decide)]; exact h2 z
  · rw [hb 2 (by decide), hb 3 (by decide)]; exact h3 z
theorem tyN_lt {P : Pc} : tyN P ≤ 15 := by
  unfold tyN
  repeat' split
  all_goals omega
def tyB (c d a b : Bool) : Nat := (if c = true then 0 else 1) + (if d = true then 0 else 2) + (if a = true then 4 else 0) + (if b = true then 8 else 0)
theorem tyN_B (P : Pc) : tyN P = tyB (isE P.1) (isE P.2.1) P.2.2.1 P.2.2.2 := rfl
theorem tyB_b : ∀ c d a b : Bool, ((nI (tyB c d a b) &&& 1 = 0 ↔ c = true) ∧ (nI (tyB c d a b) &&& 2 = 0 ↔ d = true)) ∧ (nI (tyB c d a b) &&& 4 = 0 ↔ a = false) ∧ (nI (tyB c d a b) &&& 8 = 0 ↔ b = false) ∧ nI (tyB c d a b) &&& 7 = nI (tyB c d a false) ∧ (nI (tyB c d a b) = 0 ↔ b = false ∧ (!c || !d || a) = false) := by decide
theorem tyB_or : ∀ c d a b c' d' a' b' : Bool, nI (tyB c d a b) ||| nI (tyB c' d' a' b') = nI (tyB (c && c') (d && d') (a || a') (b || b')) := by decide
/-- the bits of a picture's types -/
theorem tyN_b (P : Pc) : ((nI (tyN P) &&& 1 = 0 ↔ isE P.1 = true) ∧ (nI (tyN P) &&& 2 = 0 ↔ isE P.2.1 = true)) ∧ (nI (tyN P) &&& 4 = 0 ↔ P.2.2.1 = false) ∧ (nI (tyN P) &&& 8 = 0 ↔ P.2.2.2 = false) ∧ nI (tyN P) &&& 7 = nI (tyN (strU P)) ∧ (nI (tyN P) = 0 ↔ P.2.2.2 = false ∧ hasV P = false) := tyB_b (isE P.1) (isE P.2.1) P.2.2.1 P.2.2.2
theorem tyN_or (P S : Pc) (h1 : isE (joR P.1 S.1) = (isE P.1 && isE S.1)) (h2 : isE (joR P.2.1 S.2.1) = (isE P.2.1 && isE S.2.1)) : nI (tyN P) ||| nI (tyN S) = nI (tyN (joP P S)) := by
  rw [tyN_B, tyN_B, tyB_or, ← h1, ← h2]
  rfl
theorem isE_jo {r s : Rn} (hr : okR r) (hs : okR s) : isE (joR r s) = (isE r && isE s) := by
  have jk := joR_ok hr hs
  cases h1 : isE r with
  | true =>
    rw [isE_eR hr h1, (joR_eR hs).2]; rfl
  | false =>
    have le : leR r (joR r s) := (joR_lub.mp leR_rf).1
    rw [isE_mono le h1]; rfl
/-- values, one after another -/
def hulL (P : Pc) (L : List (Nat × Int)) : Pc := L.foldl (fun p v => joP p (one v)) P
theorem hulL_lub {t : Pc} : ∀ (L : List (Nat × Int)) (P : Pc), leP (hulL P L) t ↔ leP P t ∧ ∀ v, v ∈ L → leP (one v) t
  | [], P => ⟨fun h => ⟨h, fun v hv => by cases hv⟩, fun h => h.1⟩
  | v :: r, P => by
    show leP (hulL (joP P (one v)) r) t ↔ _
    rw [hulL_lub r, joP_lub]
    constructor
    · rintro ⟨⟨a, b⟩, c⟩
      refine ⟨a, fun u hu => ?_⟩
      rcases List.mem_cons.mp hu with rfl | hu
      · exact b
      · exact c u hu
    · rintro ⟨a, b⟩
      exact ⟨⟨a, b v List.mem_cons_self⟩, fun u hu => b u (List.mem_cons_of_mem _ hu)⟩
theorem hulL_e (L : List (Nat × Int)) : hulL eP L = hul L := by
  refine leP.as ?_ ?_
  · exact (hulL_lub L eP).mpr ⟨eP_hul L, fun v hv => one_hul hv⟩
  · have h := (hulL_lub (t := hulL eP L) L eP).mp leP.rf
    exact (hul_lub h.1 L).mpr h.2
theorem hulL_app (P : Pc) (L M : List (Nat × Int)) : hulL P (L ++ M) = hulL (hulL P L) M := List.foldl_append
section
variable {q : aQ}
theorem F155_eq {n : Int} (hn : -9000000000000000000 ≤ n ∧ n ≤ 9000000000000000000) : F155_0 (lI n) q = mL (loF n) ∧ S155_0 (lI n) q := by
  have en : (lI n).toInt = n := lI_t (by omega)
  have g1 : 0 ≤ lg_cmp (lI n) (-16) ↔ -16 ≤ n := by rw [lg_ge, en]; rfl
  have g2 : lg_cmp (lI n) 16 ≤ 0 ↔ ¬ 16 < n := by
    have h := lg_gt (a := lI n) (b := 16)
    rw [en] at h
    have h : 0 < lg_cmp (lI n) 16 ↔ 16 < n := h
    rw [← h, Int32.not_lt]
  refine ⟨?_, by unfold S155_0; simp⟩
  unfold F155_0 loF mL
  by_cases c1 : n < -16
  · rw [if_neg (fun z => by have := g1.mp z; omega), if_pos c1]; rfl
  · rw [if_pos (g1.mpr (by omega)), if_neg c1]
    by_cases c2 : 16 < n
    · rw [if_neg (fun z => (g2.mp z) c2), if_pos c2]; rfl
    · rw [if_pos (g2.mpr c2), if_neg c2, if_neg (by omega)]
      unfold lI iI
      rw [Int64.toInt32_ofInt]
theorem F156_eq {n : Int} (hn : -9000000000000000000 ≤ n ∧ n ≤ 9000000000000000000) : F156_0 (lI n) q = mH (hiF n) ∧ S156_0 (lI n) q := by
  have en : (lI n).toInt = n := lI_t (by omega)
  have g1 : 0 ≤ lg_cmp (lI n) (-16) ↔ -16 ≤ n := by rw [lg_ge, en]; rfl
  have g2 : lg_cmp (lI n) 16 ≤ 0 ↔ ¬ 16 < n := by
    have h := lg_gt (a := lI n) (b := 16)
    rw [en] at h
    have h : 0 < lg_cmp (lI n) 16 ↔ 16 < n := h
    rw [← h, Int32.not_lt]
  refine ⟨?_, by unfold S156_0; simp⟩
  unfold F156_0 hiF mH
  by_cases c2 : 16 < n
  · rw [if_neg (fun z => (g2.mp z) c2), if_pos c2]; rfl
  · rw [if_pos (g2.mpr c2), if_neg c2]
    by_cases c1 : n < -16
    · rw [if_neg (fun z => by have := g1.mp z; omega), if_pos c1]; rfl
    · rw [if_pos (g1.mpr (by omega)), if_neg c1, if_neg (by omega)]
      unfold lI iI
      rw [Int64.toInt32_ofInt]
/-- bounds as the model keeps them: order -/
theorem mL_le {a b : Int} (ha : a = -1000 ∨ (-16 ≤ a ∧ a ≤ 16)) (hb : b = -1000 ∨ (-16 ≤ b ∧ b ≤ 16)) : mL a ≤ mL b ↔ a ≤ b := by
  have c : ∀ x : Int, (x = -1000 ∨ (-16 ≤ x ∧ x ≤ 16)) → ∃ y, mL x = iI y ∧ bd y ∧ ((x = -1000 ∧ y = -17) ∨ (y = x ∧ -16 ≤ x ∧ x ≤ 16)) := by
    intro x hx
    unfold mL
    by_cases e : x = -1000
    · exact ⟨-17, by rw [if_pos e]; rfl, by unfold bd; omega, Or.inl ⟨e, rfl⟩⟩
    · exact ⟨x, by rw [if_neg e], by unfold bd; omega, Or.inr (by omega)⟩
  obtain ⟨y, y1, y2, y3⟩ := c a ha
  obtain ⟨z, z1, z2, z3⟩ := c b hb
  rw [y1, z1, iI_le y2 z2]
  omega
theorem mH_le {a b : Int} (ha : a = 1000 ∨ (-16 ≤ a ∧ a ≤ 16)) (hb : b = 1000 ∨ (-16 ≤ b ∧ b ≤ 16)) : mH a ≤ mH b ↔ a ≤ b := by
  have c : ∀ x : Int, (x = 1000 ∨ (-16 ≤ x ∧ x ≤ 16)) → ∃ y, mH x = iI y ∧ bd y ∧ ((x = 1000 ∧ y = 17) ∨ (y = x ∧ -16 ≤ x ∧ x ≤ 16)) := by
    intro x hx
    unfold mH
    by_cases e : x = 1000
    · exact ⟨17, by rw [if_pos e]; rfl, by unfold bd; omega, Or.inl ⟨e, rfl⟩⟩
    · exact ⟨x, by rw [if_neg e], by unfold bd; omega, Or.inr (by omega)⟩
  obtain ⟨y, y1, y2, y3⟩ := c a ha
  obtain ⟨z, z1, z2, z3⟩ := c b hb
  rw [y1, z1, iI_le y2 z2]
  omega
/-- the fit so far is P -/
def fitAt (q : aQ) (P : Pc) : Prop := mp (q.1 650 35) (fun k => q.1 679 k) P
/-- only the fit changed -/
def frF (q q' : aQ) : Prop := (∀ c j, ¬ c = 679 → ¬ (c = 650 ∧ j = 35) → q'.1 c j = q.1 c j) ∧ q'.2 = q.2
theorem frF.tr {q q1 q2 : aQ} (h : frF q q1) (k : frF q1 q2) : frF q q2 := ⟨fun c j a b => (k.1 c j a b).trans (h.1 c j a b), k.2.trans h.2⟩
theorem F157_loop : ∀ j k Q F, k + j = 4 → j < F → ∃ Q', a_sf (fun (s : Int32 × aQ) => F157_7 s.1 s.2) (fun (s : Int32 × aQ) => S157_7 s.1 s.2) F (nI k, Q) ∧ a_it (fun (s : Int32 × aQ) => F157_7 s.1 s.2) F (nI k, Q) = some Q' ∧ (∀ c j, ¬ c = 679 → Q'.1 c j = Q.1 c j) ∧ Q'.2 = Q.2 := by
  intro j
  induction j with
  | zero =>
    intro k Q F hk hF
    obtain ⟨F, rfl⟩ : ∃ k, F = k + 1 := ⟨F - 1, by omega⟩
    have e4 : k = 4 := by omega
    subst e4
    have l : (4 : Int32) ≤ nI 4 := by decide
    have e : F157_7 (nI 4) Q = .inr Q := by unfold F157_7; rw [if_pos l]
    exact ⟨Q, sf_e e ⟨fun _ => trivial, fun z => absurd l z⟩, it_e e, fun _ _ _ => rfl, rfl⟩
  | succ j ih =>
    intro k Q F hk hF
    obtain ⟨F, rfl⟩ : ∃ k, F = k + 1 := ⟨F - 1, by omega⟩
    have l : ¬ (4 : Int32) ≤ nI k := nI_ge (b := 4) (by omega) (by decide)
    have vk : vp_in (nI k) 4 := vp_in_nI (by omega) (by decide)
    have e : F157_7 (nI k) Q = .inl (nI (k + 1), a_w Q 679 (nI k).toNatClampNeg 0) := by unfold F157_7; rw [if_neg l, nI_1]
    obtain ⟨Q', r1, r2, r3, r4⟩ := ih (k + 1) (a_w Q 679 (nI k).toNatClampNeg 0) F (by omega) (by omega)
    exact ⟨Q', sf_s e ⟨fun z => absurd z l, fun _ => ⟨vk, trivial⟩⟩ r1, (it_s (B := fun (s : Int32 × aQ) => F157_7 s.1 s.2) (s := (nI k, Q)) e).trans r2, fun c i a => by rw [r3 c i a, w_ne a], r4⟩
theorem F157_eq : S157_0 q ∧ frF q (F157_0 q) ∧ fitAt (F157_0 q) eP := by
  obtain ⟨Q', r1, r2, r3, r4⟩ := F157_loop 4 0 (a_w q 650 35 0) 200 rfl (by decide)
  have r2' : a_it (fun (s : Int32 × aQ) => F157_7 s.1 s.2) 200 (0, a_w q 650 35 0) = some Q' := r2
  unfold S157_0 F157_0 F157_25
  rw [a_lp_eq r2']
  refine ⟨⟨r1, trivial⟩, ⟨fun c j a b => by rw [r3 c j a, w_get, if_neg b], r4⟩, ?_, fun z => (by cases z), fun z => (by cases z)⟩
  rw [r3 650 35 (by decide), w_eq]; rfl
end
