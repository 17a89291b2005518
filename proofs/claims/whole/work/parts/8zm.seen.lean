/-! asking what was found: both sides -/
/-- both memories show the states σ and the alarms A -/
def shw (q : aQ) (σ : Nat → Nat → Pc) (A R : Nat → Bool) : Prop := (∀ p, p < 25 → stAt q (222 + 17 * p) (σ p)) ∧ (∀ i, i < 120 → q.1 39 i = bI (A i)) ∧ (∀ p, p < 25 → q.1 665 p = bI (R p)) ∧ (∀ p, p < 25 → R p = true → ∀ v, v < 5 → mpAt q 666 667 (5 * p + v) (σ p v)) ∧ (∀ p, p < 25 → R p = false → ∀ v, v < 5 → σ p v = eP) ∧ ∀ i, i < 120 → q.1 668 i = bI (A i)
section
variable {l : Launch} {X : aX} {q : aQ} {nE n m : Nat} {o p : Nat → Nat} {σ : Nat → Nat → Pc} {A R : Nat → Bool}
theorem S23_ok' {v : Int32} : S23_0 v q := ⟨fun _ => trivial, fun _ => ⟨fun _ => trivial, fun _ => trivial⟩⟩
theorem S32_ok' {v : Int32} : S32_0 v q := ⟨fun _ => trivial, fun _ => ⟨fun _ => trivial, fun _ => trivial⟩⟩
theorem alarm_step (h : iP q nE n m o p) (hV : shw q σ A R) (a b : Int32) : a_pair l X 14 176 [.int a, .int b] q q := by
  have n24 := h.1
  have c7 : q.1 8 7 = nI n := h.2.2.1
  have c5 : q.1 650 5 = nI n := h.2.2.2.1
  have n10 : ¬ (1 : Int32) = 0 := by decide
  have fin : ∀ x, F14_0 a b q = x → S14_0 a b q → F176_0 a b q = x → S176_0 a b q → a_pair l X 14 176 [.int a, .int b] q q := by
    intro x e1 s1 e2 s2
    refine ⟨x, q, ?_, ?_⟩
    · have := T14 (l := l) (X := X) (d := 60) (by decide) s1
      rw [e1] at this
      exact this
    · have := T176 (l := l) (X := X) (d := 60) (by decide) s2
      rw [e2] at this
      exact this
  by_cases ha : ¬ a < 1 ∧ ¬ 4 < a
  · have f23 : F23_0 a q = 1 := by rw [F23_eq, if_pos ha]
    obtain ⟨i, hi, rfl⟩ := nI_below (x := a) (n := 5) (fun z => ha.1 (Int32.lt_iff_toInt_lt.mpr (by
      have x := Int32.lt_iff_toInt_lt.mp z
      have : (0 : Int32).toInt = 0 := rfl
      have : (1 : Int32).toInt = 1 := rfl
      omega))) (fun z => ha.2 (Int32.lt_iff_toInt_lt.mpr (by
      have x := Int32.le_iff_toInt_le.mp z
      have : (nI 5).toInt = 5 := rfl
      have : (4 : Int32).toInt = 4 := rfl
      omega))) (by decide)
    rcases pk_ix b (n := n) (by omega) with hb | hb | ⟨s, hs, rfl⟩
    · have f32 : F32_0 b q = 0 := by unfold F32_0; rw [if_pos hb]
      refine fin 0 ?_ ?_ ?_ ?_
      · unfold F14_0; rw [f23, f32, if_neg n10, if_pos rfl]
      · unfold S14_0; rw [f23, f32]; exact ⟨S23_ok', fun z => absurd z n10, fun _ => ⟨S32_ok', fun _ => trivial, fun z => absurd rfl z⟩⟩
      · unfold F176_0; rw [if_neg ha.1, if_neg ha.2, if_pos hb]
      · unfold S176_0; exact ⟨fun _ => trivial, fun _ => ⟨fun _ => trivial, fun _ => ⟨fun _ => trivial, fun z => absurd hb z⟩⟩⟩
    · have f32 : F32_0 b q = 0 := by
        unfold F32_0; rw [c7]
        by_cases z : b < 0
        · rw [if_pos z]
        · rw [if_neg z, if_pos hb]
      refine fin 0 ?_ ?_ ?_ ?_
      · unfold F14_0; rw [f23, f32, if_neg n10, if_pos rfl]
      · unfold S14_0; rw [f23, f32]; exact ⟨S23_ok', fun z => absurd z n10, fun _ => ⟨S32_ok', fun _ => trivial, fun z => absurd rfl z⟩⟩
      · unfold F176_0; rw [if_neg ha.1, if_neg ha.2, c5]
        by_cases z : b < 0
        · rw [if_pos z]
        · rw [if_neg z, if_pos hb]
      · unfold S176_0; rw [c5]; exact ⟨fun _ => trivial, fun _ => ⟨fun _ => trivial, fun _ => ⟨fun _ => trivial, fun _ => ⟨fun _ => trivial, fun z => absurd hb z⟩⟩⟩⟩
    · have n0 : ¬ nI s < 0 := nI_nlt (b := 0) (by omega) (by omega)
      have nn : ¬ nI n ≤ nI s := nI_ge hs (by omega)
      have f32 : F32_0 (nI s) q = 1 := by unfold F32_0; rw [c7, if_neg n0, if_neg nn]
      have e1 : nI s * 5 + nI i = nI (5 * s + i) := by
        rw [show (5 : Int32) = nI 5 from rfl, pk_mul, nI_add, Nat.mul_comm]
      have e2 : 5 * nI s + nI i = nI (5 * s + i) := by
        rw [show (5 : Int32) = nI 5 from rfl, pk_mul, nI_add]
      have ck : (nI (5 * s + i)).toNatClampNeg = 5 * s + i := nI_clamp (by omega)
      have vk : vp_in (nI (5 * s + i)) 120 := vp_in_nI (by omega) (by decide)
      have w1 := hV.2.1 (5 * s + i) (by omega)
      have w2 := hV.2.2.2.2.2 (5 * s + i) (by omega)
      have f47 : F47_0 (nI i) (nI s) q = bI (A (5 * s + i)) := by unfold F47_0; rw [e1, ck, w1]
      have s47 : S47_0 (nI i) (nI s) q := by
        unfold S47_0; rw [e1, ck, w1]
        exact ⟨vk, by cases A (5 * s + i) <;> decide, trivial⟩
      refine fin (bI (A (5 * s + i))) ?_ ?_ ?_ ?_
      · unfold F14_0; rw [f23, f32, f47, if_neg n10, if_neg n10]
        cases A (5 * s + i) <;> rfl
      · unfold S14_0; exact ⟨S23_ok', fun _ => trivial, fun _ => ⟨S32_ok', fun _ => trivial, fun _ => ⟨s47, fun _ => trivial, fun _ => trivial⟩⟩⟩
      · unfold F176_0; rw [if_neg ha.1, if_neg ha.2, if_neg n0, c5, if_neg nn, e2, ck, w2]
        cases A (5 * s + i) <;> rfl
      · unfold S176_0; rw [e2]; exact ⟨fun _ => trivial, fun _ => ⟨fun _ => trivial, fun _ => ⟨fun _ => trivial, fun _ => ⟨fun _ => trivial, fun _ => ⟨vk, fun _ => trivial, fun _ => trivial⟩⟩⟩⟩⟩
  · have f23 : F23_0 a q = 0 := by rw [F23_eq, if_neg ha]
    refine fin 0 ?_ ?_ ?_ ?_
    · unfold F14_0; rw [f23, if_pos rfl]
    · unfold S14_0; rw [f23]; exact ⟨S23_ok', fun _ => trivial, fun z => absurd rfl z⟩
    · unfold F176_0
      by_cases z : a < 1
      · rw [if_pos z]
      · rw [if_neg z, if_pos (Classical.byContradiction fun w => ha ⟨z, w⟩)]
    · unfold S176_0
      exact ⟨fun _ => trivial, fun z => ⟨fun _ => trivial, fun w => absurd ⟨z, w⟩ ha⟩⟩
theorem see_at (hV : shw q σ A R) {r v : Nat} (hr : r < 25) (hv : v < 5) : F66_0 (F21_15 (nI v) (nI r) q) q = nI (tyN (σ r v)) ∧ S21_15 (nI v) (nI r) q ∧ F177_34 (nI v) (nI r) q = nI (tyN (σ r v)) ∧ S177_34 (nI v) (nI r) q := by
  have cr : (nI r).toNatClampNeg = r := nI_clamp (by omega)
  have cv : (nI v).toNatClampNeg = v := nI_clamp (by omega)
  have vr : vp_in (nI r) 25 := vp_in_nI hr (by decide)
  have vv : vp_in (nI v) 5 := vp_in_nI hv (by decide)
  have e2 : 5 * nI r + nI v = nI (5 * r + v) := by rw [show (5 : Int32) = nI 5 from rfl, pk_mul, nI_add]
  have ck : (nI (5 * r + v)).toNatClampNeg = 5 * r + v := nI_clamp (by omega)
  have vk : vp_in (nI (5 * r + v)) 125 := vp_in_nI (by omega) (by decide)
  obtain ⟨h1, h2, h3, h4, h5, h6⟩ := hV
  obtain ⟨s1, s2⟩ := h1 r hr v hv
  refine ⟨?_, ⟨⟨vr, trivial⟩, vv, trivial⟩, ?_, ?_⟩
  · unfold F21_15; rw [cr, cv]; exact F66_eq s1 s2
  · unfold F177_34
    rw [cr, e2, ck, h3 r hr]
    cases hb : R r with
    | false => rw [if_pos (show bI false = 0 from rfl), h5 r hr hb v hv]; rfl
    | true => rw [if_neg (by decide)]; exact (h4 r hr hb v hv).1
  · unfold S177_34
    rw [e2]
    exact ⟨vr, fun _ => trivial, fun _ => ⟨vk, trivial⟩⟩
theorem see (h : iP q nE n m o p) (hV : shw q σ A R) (a b : Int32) : (F15_0 a b q = -1 ∧ S15_0 a b q ∧ F177_0 a b q = -1 ∧ S177_0 a b q) ∨ ∃ r v, r < 25 ∧ v < 5 ∧ b = nI v ∧ F21_0 a b q = 222 + 17 * r + 2 + 3 * v ∧ S21_0 a b q ∧ ((a = nI r ∧ 0 ≤ a) ∨ (r = 24 ∧ ¬ 0 ≤ a)) ∧ F15_0 a b q = nI (tyN (σ r v)) ∧ S15_0 a b q ∧ F177_0 a b q = nI (tyN (σ r v)) ∧ S177_0 a b q := by
  have n24 := h.1
  have c7 : q.1 8 7 = nI n := h.2.2.1
  have c5 : q.1 650 5 = nI n := h.2.2.2.1
  have n10 : ¬ (1 : Int32) = 0 := by decide
  rcases var_or b with hb | ⟨v, hv, rfl⟩
  · left
    have f : F22_0 b q = 0 := by rw [F22_eq, if_neg (fun z => hb.elim z.1 z.2)]
    refine ⟨by unfold F15_0; rw [f, if_pos rfl], by unfold S15_0; rw [f]; exact ⟨S22_ok, fun _ => trivial, fun z => absurd rfl z⟩, ?_, ?_⟩
    · unfold F177_0
      by_cases z : b < 0
      · rw [if_pos z]
      · rw [if_neg z, if_pos (hb.resolve_left z)]
    · unfold S177_0
      exact ⟨fun _ => trivial, fun z => ⟨fun _ => trivial, fun w => absurd (hb.resolve_left z) w⟩⟩
  have cv : (nI v).toNatClampNeg = v := nI_clamp (by omega)
  have n0 : ¬ nI v < 0 := nI_nlt (b := 0) (by omega) (by omega)
  have n4 : nI v ≤ 4 := nI_le (b := 4) (by omega) (by decide)
  have n4' : ¬ 4 < nI v := Int32.not_lt.mpr n4
  have f : F22_0 (nI v) q = 1 := by rw [F22_eq, if_pos ⟨n0, n4'⟩]
  by_cases ha : a = -1
  · subst ha
    right
    obtain ⟨s1, s2, s3, s4⟩ := see_at hV (r := 24) (by decide) hv
    have l1 : ¬ (-1 : Int32) < -1 := by decide
    have l2 : (-1 : Int32) < nI n := Int32.lt_iff_toInt_lt.mpr (by
      rw [nI_toInt (by omega)]
      have : (-1 : Int32).toInt = -1 := rfl
      omega)
    have l3 : ¬ (0 : Int32) ≤ -1 := by decide
    have e21 : F21_0 (-1) (nI v) q = F21_15 (nI v) (nI 24) q := by unfold F21_0; rw [if_pos rfl]; rfl
    have S21 : S21_0 (-1) (nI v) q := ⟨fun _ => s2, fun z => absurd rfl z⟩
    refine ⟨24, v, by decide, hv, rfl, ?_, S21, Or.inr ⟨rfl, l3⟩, ?_, ?_, ?_, ?_⟩
    · rw [e21]; unfold F21_15; rw [cv]; rfl
    · unfold F15_0 F15_25; rw [f, if_neg n10, if_pos rfl, e21, s1]
    · unfold S15_0 S15_25; exact ⟨S22_ok, fun _ => trivial, fun _ => ⟨fun _ => ⟨S21, S66_ok, trivial⟩, fun z => absurd rfl z⟩⟩
    · unfold F177_0; rw [if_neg n0, if_neg n4', if_neg l1, c5, if_pos l2, if_neg l3]; exact s3
    · unfold S177_0; exact ⟨fun _ => trivial, fun _ => ⟨fun _ => trivial, fun _ => ⟨fun _ => trivial, fun _ => ⟨fun _ => ⟨fun z => absurd z l3, fun _ => s4⟩, fun _ => trivial⟩⟩⟩⟩
  · rcases pk_ix a (n := n) (by omega) with hx | hx | ⟨s, hs, rfl⟩
    · left
      have f32 : F32_0 a q = 0 := by unfold F32_0; rw [if_pos hx]
      have lm : a < -1 := Int32.lt_iff_toInt_lt.mpr (by
        have x := Int32.lt_iff_toInt_lt.mp hx
        have e0 : (0 : Int32).toInt = 0 := rfl
        have e1 : (-1 : Int32).toInt = -1 := rfl
        have : ¬ a.toInt = (-1 : Int32).toInt := fun z => ha (Int32.toInt_inj.mp z)
        omega)
      refine ⟨?_, ?_, ?_, ?_⟩
      · unfold F15_0; rw [f, if_neg n10, if_neg ha, f32, if_pos rfl]
      · unfold S15_0; rw [f32]; exact ⟨S22_ok, fun _ => trivial, fun _ => ⟨fun z => absurd z ha, fun _ => ⟨S32_ok', fun _ => trivial, fun z => absurd rfl z⟩⟩⟩
      · unfold F177_0; rw [if_neg n0, if_neg n4', if_pos lm]
      · unfold S177_0; exact ⟨fun _ => trivial, fun _ => ⟨fun _ => trivial, fun _ => ⟨fun _ => trivial, fun z => absurd lm z⟩⟩⟩
    · left
      have f32 : F32_0 a q = 0 := by
        unfold F32_0; rw [c7]
        by_cases z : a < 0
        · rw [if_pos z]
        · rw [if_neg z, if_pos hx]
      have lm : ¬ a < nI n := Int32.not_lt.mpr hx
      refine ⟨?_, ?_, ?_, ?_⟩
      · unfold F15_0; rw [f, if_neg n10, if_neg ha, f32, if_pos rfl]
      · unfold S15_0; rw [f32]; exact ⟨S22_ok, fun _ => trivial, fun _ => ⟨fun z => absurd z ha, fun _ => ⟨S32_ok', fun _ => trivial, fun z => absurd rfl z⟩⟩⟩
      · unfold F177_0; rw [if_neg n0, if_neg n4', c5]
        by_cases z : a < -1
        · rw [if_pos z]
        · rw [if_neg z, if_neg lm]
      · unfold S177_0; rw [c5]; exact ⟨fun _ => trivial, fun _ => ⟨fun _ => trivial, fun _ => ⟨fun _ => trivial, fun _ => ⟨fun z => absurd z lm, fun _ => trivial⟩⟩⟩⟩
    · right
      obtain ⟨s1, s2, s3, s4⟩ := see_at hV (r := s) (by omega) hv
      have z0 : ¬ nI s < 0 := nI_nlt (b := 0) (by omega) (by omega)
      have p0 : 0 ≤ nI s := nI_pos' (by omega)
      have nn : ¬ nI n ≤ nI s := nI_ge hs (by omega)
      have l2 : nI s < nI n := nI_lt hs (by omega)
      have l1 : ¬ nI s < -1 := fun z => by
        have x := Int32.lt_iff_toInt_lt.mp z
        rw [nI_toInt (by omega)] at x
        have e1 : (-1 : Int32).toInt = -1 := rfl
        omega
      have f32 : F32_0 (nI s) q = 1 := by unfold F32_0; rw [c7, if_neg z0, if_neg nn]
      have e21 : F21_0 (nI s) (nI v) q = F21_15 (nI v) (nI s) q := by unfold F21_0; rw [if_neg ha]
      have S21 : S21_0 (nI s) (nI v) q := ⟨fun z => absurd z ha, fun _ => s2⟩
      refine ⟨s, v, by omega, hv, rfl, ?_, S21, Or.inl ⟨rfl, p0⟩, ?_, ?_, ?_, ?_⟩
      · rw [e21]; unfold F21_15; rw [cv, nI_clamp (by omega)]
      · unfold F15_0 F15_25; rw [f, if_neg n10, if_neg ha, f32, if_neg n10, e21, s1]
      · unfold S15_0 S15_25; exact ⟨S22_ok, fun _ => trivial, fun _ => ⟨fun z => absurd z ha, fun _ => ⟨S32_ok', fun _ => trivial, fun _ => ⟨S21, S66_ok, trivial⟩⟩⟩⟩
      · unfold F177_0; rw [if_neg n0, if_neg n4', if_neg l1, c5, if_pos l2, if_pos p0, s3]
      · unfold S177_0; exact ⟨fun _ => trivial, fun _ => ⟨fun _ => trivial, fun _ => ⟨fun _ => trivial, fun _ => ⟨fun _ => ⟨fun _ => s4, fun z => absurd p0 z⟩, fun _ => trivial⟩⟩⟩⟩
theorem seen_step (h : iP q nE n m o p) (hV : shw q σ A R) (a b : Int32) : a_pair l X 15 177 [.int a, .int b] q q := by
  have fin : ∀ x, F15_0 a b q = x → S15_0 a b q → F177_0 a b q = x → S177_0 a b q → a_pair l X 15 177 [.int a, .int b] q q := by
    intro x e1 s1 e2 s2
    refine ⟨x, q, ?_, ?_⟩
    · have := T15 (l := l) (X := X) (d := 60) (by decide) s1
      rw [e1] at this
      exact this
    · have := T177 (l := l) (X := X) (d := 60) (by decide) s2
      rw [e2] at this
      exact this
  rcases see h hV a b with ⟨z1, z2, z3, z4⟩ | ⟨r, v, -, -, -, -, -, -, z1, z2, z3, z4⟩
  · exact fin _ z1 z2 z3 z4
  · exact fin _ z1 z2 z3 z4
theorem F99_eq {c : Nat} {r : Rn} (h : rgAt q c r) (hr : okR r) (he : isE r = false) : F99_0 c q = mL r.1 ∧ F100_0 c q = mH r.2 := by
  have hb := hr.bnd
  have k : (r.1 = -1000 ∨ (-16 ≤ r.1 ∧ r.1 ≤ 16)) ∧ (r.2 = 1000 ∨ (-16 ≤ r.2 ∧ r.2 ≤ 16)) := by
    rcases hr with z | z
    · rw [z] at he; exact absurd he (by decide)
    · exact ⟨z.1, z.2.1⟩
  have b1 : bd (-16) := by unfold bd; omega
  have b2 : bd 16 := by unfold bd; omega
  unfold F99_0 F100_0 mL mH
  rw [h.1, h.2]
  constructor
  · by_cases z : r.1 = -1000
    · rw [if_pos z, z]; rfl
    · rw [if_neg z, if_pos (show (-16 : Int32) ≤ iI r.1 from (iI_le b1 hb.1).mpr (by omega))]
  · by_cases z : r.2 = 1000
    · rw [if_pos z, z]; rfl
    · rw [if_neg z, if_pos (show iI r.2 ≤ (16 : Int32) from (iI_le hb.2 b2).mpr (by omega))]
theorem bound_step (h : iP q nE n m o p) (hV : shw q σ A R) (a b c : Int32) : a_pair l X 16 178 [.int a, .int b, .int c] q q := by
  have fin : ∀ x, F16_0 a b c q = x → S16_0 a b c q → F178_0 a b c q = x → S178_0 a b c q → a_pair l X 16 178 [.int a, .int b, .int c] q q := by
    intro x e1 s1 e2 s2
    refine ⟨x, q, ?_, ?_⟩
    · have := T16 (l := l) (X := X) (d := 60) (by decide) s1
      rw [e1] at this
      exact this
    · have := T178 (l := l) (X := X) (d := 60) (by decide) s2
      rw [e2] at this
      exact this
  have m1 : (-1 : Int32) < 0 := by decide
  rcases see h hV a b with ⟨z1, z2, z3, z4⟩ | ⟨r, v, hr, hv, rfl, z5, z6, z7, z1, z2, z3, z4⟩
  · refine fin 99 ?_ ?_ ?_ ?_
    · unfold F16_0; rw [z1, if_pos rfl]
    · unfold S16_0; rw [z1]; exact ⟨z2, fun _ => trivial, fun z => absurd rfl z⟩
    · unfold F178_0; rw [z3, if_pos m1]
    · unfold S178_0; rw [z3]; exact ⟨z4, fun _ => trivial, fun z => absurd m1 z⟩
  have ty := tyN_lt (P := σ r v)
  have t1 : ¬ nI (tyN (σ r v)) < 0 := nI_nlt (b := 0) (by omega) (by omega)
  have t2 : ¬ nI (tyN (σ r v)) = -1 := fun z => t1 (z ▸ m1)
  by_cases c0 : c < 0
  · refine fin 99 ?_ ?_ ?_ ?_
    · unfold F16_0; rw [z1, if_neg t2, if_pos c0]
    · unfold S16_0; exact ⟨z2, fun _ => trivial, fun _ => ⟨fun _ => trivial, fun z => absurd c0 z⟩⟩
    · unfold F178_0; rw [z3, if_neg t1, if_pos c0]
    · unfold S178_0; exact ⟨z4, fun _ => trivial, fun _ => ⟨fun _ => trivial, fun z => absurd c0 z⟩⟩
  by_cases c3 : 3 < c
  · have c3' : ¬ c ≤ 3 := Int32.not_le.mpr c3
    refine fin 99 ?_ ?_ ?_ ?_
    · unfold F16_0; rw [z1, if_neg t2, if_neg c0, if_neg c3']
    · unfold S16_0; exact ⟨z2, fun _ => trivial, fun _ => ⟨fun _ => trivial, fun _ => ⟨fun z => absurd z c3', fun _ => trivial⟩⟩⟩
    · unfold F178_0; rw [z3, if_neg t1, if_neg c0, if_pos c3]
    · unfold S178_0; exact ⟨z4, fun _ => trivial, fun _ => ⟨fun _ => trivial, fun _ => ⟨fun _ => trivial, fun z => absurd c3 z⟩⟩⟩
  have c3' : c ≤ 3 := Int32.not_lt.mp c3
  obtain ⟨k, hk, rfl⟩ := nI_below (x := c) (n := 4) c0 (fun z => c3 (Int32.lt_iff_toInt_lt.mpr (by
    have x := Int32.le_iff_toInt_le.mp z
    have : (nI 4).toInt = 4 := rfl
    have : (3 : Int32).toInt = 3 := rfl
    omega))) (by decide)
  have tk := tbK_t (k := k) (σ r v)
  -- the class's end
  have e16 : F16_0 a (nI v) (nI k) q = if nI (tyN (σ r v)) &&& tbK k = 0 then 99 else F16_71 (nI k) (222 + 17 * r + 2 + 3 * v + (if k < 2 then 1 else 2)) q := by
    unfold F16_0 F16_38
    rw [z1, z5, if_neg t2, if_neg c0, if_pos c3']
    unfold tbK
    by_cases z : k < 2
    · have n2 : ¬ (2 : Int32) ≤ nI k := nI_ge (b := 2) z (by decide)
      rw [if_neg n2, if_neg n2, if_pos z, if_pos z]
    · have n2 : (2 : Int32) ≤ nI k := nI_le (a := 2) (by omega) (by omega)
      rw [if_pos n2, if_pos n2, if_neg z, if_neg z]
  have s71 : ∀ j, S16_71 (nI k) j q := fun j => ⟨fun _ => ⟨⟨fun _ => trivial, fun _ => trivial⟩, trivial⟩, fun _ => ⟨⟨fun _ => trivial, fun _ => trivial⟩, trivial⟩⟩
  have s16 : S16_0 a (nI v) (nI k) q := by
    unfold S16_0 S16_38
    exact ⟨z2, fun _ => trivial, fun _ => ⟨fun _ => trivial, fun _ => ⟨fun _ => ⟨fun _ => ⟨fun _ => trivial, fun _ => ⟨z6, fun _ => s71 _, fun _ => s71 _⟩⟩, fun _ => ⟨fun _ => trivial, fun _ => ⟨z6, fun _ => s71 _, fun _ => s71 _⟩⟩⟩, fun _ => trivial⟩⟩⟩
  -- the model's end
  have ix : 20 * nI r + 4 * nI v + nI k = nI (4 * (5 * r + v) + k) := by
    rw [show (20 : Int32) = nI 20 from rfl, show (4 : Int32) = nI 4 from rfl, pk_mul, pk_mul, nI_add, nI_add]
    congr 1
    omega
  have ck : (nI (4 * (5 * r + v) + k)).toNatClampNeg = 4 * (5 * r + v) + k := nI_clamp (by omega)
  have vk : vp_in (nI (4 * (5 * r + v) + k)) 500 := vp_in_nI (by omega) (by decide)
  have e57 : F178_57 (nI v) (nI k) (nI r) 20 q = q.1 667 (4 * (5 * r + v) + k) := by unfold F178_57; rw [ix, ck]
  have s57 : S178_57 (nI v) (nI k) (nI r) 20 q := by unfold S178_57; rw [ix]; exact ⟨vk, trivial⟩
  have e34 : ∀ s0 s1, F178_34 a (nI v) (nI k) s0 s1 q = if s1 &&& s0 = 0 then 99 else q.1 667 (4 * (5 * r + v) + k) := by
    intro s0 s1
    unfold F178_34
    rcases z7 with ⟨rfl, z⟩ | ⟨rfl, z⟩
    · rw [if_pos z, e57]
    · rw [if_neg z, show (24 : Int32) = nI 24 from rfl, e57]
  have s34 : ∀ s0 s1, S178_34 a (nI v) (nI k) s0 s1 q := by
    intro s0 s1
    unfold S178_34
    rcases z7 with ⟨rfl, z⟩ | ⟨rfl, z⟩
    · exact ⟨fun _ => trivial, fun _ => ⟨fun _ => s57, fun w => absurd z w⟩⟩
    · exact ⟨fun _ => trivial, fun _ => ⟨fun w => absurd w z, fun _ => s57⟩⟩
  have e178 : F178_0 a (nI v) (nI k) q = if nI (tyN (σ r v)) &&& tbK k = 0 then 99 else q.1 667 (4 * (5 * r + v) + k) := by
    unfold F178_0
    rw [z3, if_neg t1, if_neg c0, if_neg c3, e34, e34]
    unfold tbK
    by_cases z : k < 2
    · have n2 : ¬ (2 : Int32) ≤ nI k := nI_ge (b := 2) z (by decide)
      rw [if_neg n2, if_pos z]
    · have n2 : (2 : Int32) ≤ nI k := nI_le (a := 2) (by omega) (by omega)
      rw [if_pos n2, if_neg z]
  have s178 : S178_0 a (nI v) (nI k) q := by
    unfold S178_0
    exact ⟨z4, fun _ => trivial, fun _ => ⟨fun _ => trivial, fun _ => ⟨fun _ => trivial, fun _ => ⟨fun _ => s34 _ _, fun _ => s34 _ _⟩⟩⟩⟩
  by_cases zt : nI (tyN (σ r v)) &&& tbK k = 0
  · exact fin 99 (by rw [e16, if_pos zt]) s16 (by rw [e178, if_pos zt]) s178
  · have hE : isE (rgK k (σ r v)) = false := by
      cases z : isE (rgK k (σ r v)) with
      | false => rfl
      | true => exact absurd (tk.mpr z) zt
    obtain ⟨p1, p2⟩ := hV.1 r hr v hv
    have hR : R r = true := by
      cases z : R r with
      | true => rfl
      | false =>
        rw [hV.2.2.2.2.1 r hr z v hv] at hE
        unfold rgK eP at hE
        split at hE <;> exact absurd hE (by decide)
    have g := (mp_k.mp (hV.2.2.2.1 r hr hR v hv)).2 k hk hE
    have g : q.1 667 (4 * (5 * r + v) + k) = kvK k (rgK k (σ r v)) := g
    refine fin (kvK k (rgK k (σ r v))) ?_ s16 (by rw [e178, if_neg zt, g]) s178
    rw [e16, if_neg zt]
    have rg : rgAt q (222 + 17 * r + 2 + 3 * v + (if k < 2 then 1 else 2)) (rgK k (σ r v)) := by
      unfold rgK
      split
      · exact p1.1
      · exact p1.2.1
    obtain ⟨g1, g2⟩ := F99_eq rg (rgK_ok p2) hE
    unfold F16_71 kvK
    rw [g1, g2]
    have : k = 0 ∨ k = 1 ∨ k = 2 ∨ k = 3 := by omega
    rcases this with rfl | rfl | rfl | rfl <;> rfl
end
