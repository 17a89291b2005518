/-! sums, differences, products and quotients of ranges in memory: the class -/
def q00 : aQ := (fun _ _ => 0, fun _ _ => 0)
theorem chk_188 : (cv.all fun a => cv.all fun c => (c == 0) || (F188_0 (iI a) (iI c) q00 == iI (a.fdiv c))) = true := by decide +kernel
theorem F188_eq {q : aQ} {a c : Int} (ha : a ∈ cv) (hc : c ∈ cv) (h0 : c ≠ 0) : F188_0 (iI a) (iI c) q = iI (a.fdiv c) := by
  have := all2 chk_188 ha hc
  rw [Bool.or_eq_true, beq_iff_eq, beq_iff_eq] at this
  exact this.resolve_left h0
theorem S188_ok {q : aQ} {x y : Int32} (h : ¬ y = 0) : S188_0 x y q := by unfold S188_0; simp [h]
theorem chk_q : (cv.all fun a => cv.all fun c => (c == 0) || (decide (-1000000 ≤ a.fdiv c) && decide (a.fdiv c ≤ 1000000))) = true := by decide +kernel
theorem bd_q {a c : Int} (ha : a ∈ cv) (hc : c ∈ cv) (h0 : c ≠ 0) : bd (a.fdiv c) := by
  have := all2 chk_q ha hc
  rw [Bool.or_eq_true, beq_iff_eq, Bool.and_eq_true, decide_eq_true_iff, decide_eq_true_iff] at this
  have := this.resolve_left h0
  unfold bd
  omega
theorem bd_m {a c : Int} (ha : a ∈ cv) (hc : c ∈ cv) : bd (a * c) := by
  rw [mem_cv] at ha hc
  have h1 : a.natAbs * c.natAbs ≤ 1000 * 1000 := Nat.mul_le_mul (by omega) (by omega)
  rw [← Int.natAbs_mul] at h1
  unfold bd
  omega
section
variable {q : aQ} {r x y : Nat} {R X Y : Rn}
theorem F98_eq {a b c d : Int} (h : rgAt q r R) (hR : okR R) (ha : bd a) (hb : bd b) (hc : bd c) (hd : bd d) : updR q (F98_0 r (iI a) (iI b) (iI c) (iI d) q) r (incR R (mn4 a b c d) (mx4 a b c d)) := by
  unfold F98_0 mn4 mx4
  rw [F191_eq ha hb, F191_eq hc hd, F190_eq ha hb, F190_eq hc hd]
  have u := bd_mm ha hb
  have v := bd_mm hc hd
  rw [F191_eq u.2 v.2, F190_eq u.1 v.1]
  exact F82_eq h hR (bd_mm u.2 v.2).2 (bd_mm u.1 v.1).1
theorem bI_0 {b : Bool} : (bI b = 0) = (¬ b = true) := by cases b <;> decide
theorem F94_eq (h : rgAt q r eR) (hx : rgAt q x X) (hy : rgAt q y Y) (hX : okR X) (hY : okR Y) : updR q (F94_0 r x y q) r (sumR X Y) := by
  have bX := hX.bnd
  have bY := hY.bnd
  have k := F82_eq (a := X.1 + Y.1) (b := X.2 + Y.2) h eR_ok
  unfold F94_0 sumR
  rw [F85_eq hx hX, F85_eq hy hY, hx.1, hx.2, hy.1, hy.2, iI_add, iI_add]
  simp only [bI_0]
  by_cases c1 : isE X = true
  · rw [if_neg (by simp [c1]), if_pos (Or.inl c1)]; exact updR.rf h
  · rw [if_pos c1]
    by_cases c2 : isE Y = true
    · rw [if_neg (by simp [c2]), if_pos (Or.inr c2)]; exact updR.rf h
    · have o1 := ok_ne hX c1
      have o2 := ok_ne hY c2
      rw [if_pos c2, if_neg (by simp [c1, c2])]
      exact k (by unfold bd; omega) (by unfold bd; omega)
theorem F95_eq (h : rgAt q r eR) (hx : rgAt q x X) (hy : rgAt q y Y) (hX : okR X) (hY : okR Y) : updR q (F95_0 r x y q) r (difR X Y) := by
  have k := F82_eq (a := X.1 - Y.2) (b := X.2 - Y.1) h eR_ok
  unfold F95_0 difR
  rw [F85_eq hx hX, F85_eq hy hY, hx.1, hx.2, hy.1, hy.2, iI_sub, iI_sub]
  simp only [bI_0]
  by_cases c1 : isE X = true
  · rw [if_neg (by simp [c1]), if_pos (Or.inl c1)]; exact updR.rf h
  · rw [if_pos c1]
    by_cases c2 : isE Y = true
    · rw [if_neg (by simp [c2]), if_pos (Or.inr c2)]; exact updR.rf h
    · have o1 := ok_ne hX c1
      have o2 := ok_ne hY c2
      rw [if_pos c2, if_neg (by simp [c1, c2])]
      exact k (by unfold bd; omega) (by unfold bd; omega)
theorem F96_eq (h : rgAt q r eR) (hx : rgAt q x X) (hy : rgAt q y Y) (hX : okR X) (hY : okR Y) : updR q (F96_0 r x y q) r (mulR X Y) := by
  unfold F96_0 mulR
  rw [F85_eq hx hX, F85_eq hy hY, hx.1, hx.2, hy.1, hy.2, iI_mul, iI_mul, iI_mul, iI_mul]
  simp only [bI_0]
  by_cases c1 : isE X = true
  · rw [if_neg (by simp [c1]), if_pos (Or.inl c1)]; exact updR.rf h
  · rw [if_pos c1]
    by_cases c2 : isE Y = true
    · rw [if_neg (by simp [c2]), if_pos (Or.inr c2)]; exact updR.rf h
    · obtain ⟨x1, x2, -⟩ := ends hX c1
      obtain ⟨y1, y2, -⟩ := ends hY c2
      rw [if_pos c2, if_neg (by simp [c1, c2])]
      exact F98_eq h eR_ok (bd_m x1 y1) (bd_m x1 y2) (bd_m x2 y1) (bd_m x2 y2)
theorem joR_eR {S : Rn} (h : okR S) : joR S eR = S ∧ joR eR S = S := by
  obtain ⟨a, b⟩ := S
  have := eR_le h
  unfold leR at this
  unfold joR eR at *
  dsimp only at *
  constructor
  · rw [if_neg (by omega), if_neg (by omega)]
  · by_cases c1 : a < 1001
    · rw [if_pos c1]
      by_cases c2 : -1001 < b
      · rw [if_pos c2]
      · rw [if_neg c2, show b = -1001 by omega]
    · rw [if_neg c1, show a = 1001 by omega]
      by_cases c2 : -1001 < b
      · rw [if_pos c2]
      · rw [if_neg c2, show b = -1001 by omega]
theorem inc_jo {l g : Int} (hR : okR R) : incR R l g = joR R (incR eR l g) := by
  unfold incR
  by_cases c : g < l
  · rw [if_pos c, if_pos c, (joR_eR hR).1]
  · rw [if_neg c, if_neg c, (joR_eR (Or.inr ⟨loF_ok, hiF_ok, lohi (by omega)⟩)).2]
/-- divisors from l to g, of one sign, or none -/
theorem F97_eq {l g : Int} (h : rgAt q r R) (hR : okR R) (hx : rgAt q x X) (hX : okR X) (hl : bd l) (hg : bd g) (hlg : l ≤ g → l ∈ cv ∧ g ∈ cv) : updR q (F97_0 r x (iI l) (iI g) q) r (joR R (quoR X l g)) := by
  have z0 : (0 : Int32) = iI 0 := rfl
  have b0 : bd 0 := by unfold bd; omega
  have e := (joR_eR hR).1
  unfold F97_0 quoR
  rw [F85_eq hx hX, hx.1, hx.2, z0]
  simp only [iI_lt hg hl, iI_eq hl b0, iI_eq hg b0, show (bI (isE X) = iI 0) = (¬ isE X = true) from bI_0]
  by_cases c1 : isE X = true
  · rw [if_neg (by simp [c1]), if_pos (Or.inl c1), e]; exact updR.rf h
  · rw [if_pos c1]
    by_cases c2 : g < l
    · rw [if_pos c2, if_pos (Or.inr (Or.inl c2)), e]; exact updR.rf h
    · rw [if_neg c2]
      by_cases c3 : l = 0
      · rw [if_pos c3, if_pos (Or.inr (Or.inr (Or.inl c3))), e]; exact updR.rf h
      · rw [if_neg c3]
        by_cases c4 : g = 0
        · rw [if_pos c4, if_pos (Or.inr (Or.inr (Or.inr c4))), e]; exact updR.rf h
        · rw [if_neg c4, if_neg (by simp [c1, c2, c3, c4])]
          obtain ⟨m1, m2⟩ := hlg (by omega)
          obtain ⟨x1, x2, -⟩ := ends hX c1
          rw [F188_eq x1 m1 c3, F188_eq x1 m2 c4, F188_eq x2 m1 c3, F188_eq x2 m2 c4, ← inc_jo hR]
          exact F98_eq h hR (bd_q x1 m1 c3) (bd_q x1 m2 c4) (bd_q x2 m1 c3) (bd_q x2 m2 c4)
end
