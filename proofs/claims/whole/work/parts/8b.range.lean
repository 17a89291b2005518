/-! ranges in memory: the class -/
def iI (x : Int) : Int32 := Int32.ofInt x
def bI (b : Bool) : Int32 := if b = true then 1 else 0
def bd (x : Int) : Prop := -1000000000 ≤ x ∧ x ≤ 1000000000
theorem iI_t {x : Int} (h : bd x) : (iI x).toInt = x := Int32.toInt_ofInt_of_le (by have := h.1; omega) (by have := h.2; omega)
section
variable {a b : Int}
theorem iI_lt (ha : bd a) (hb : bd b) : (iI a < iI b) ↔ a < b := by rw [Int32.lt_iff_toInt_lt, iI_t ha, iI_t hb]
theorem iI_le (ha : bd a) (hb : bd b) : (iI a ≤ iI b) ↔ a ≤ b := by rw [Int32.le_iff_toInt_le, iI_t ha, iI_t hb]
theorem iI_eq (ha : bd a) (hb : bd b) : (iI a = iI b) ↔ a = b := by
  constructor
  · intro h; rw [← iI_t ha, ← iI_t hb, h]
  · intro h; rw [h]
theorem iI_add : iI a + iI b = iI (a + b) := (Int32.ofInt_add a b).symm
theorem iI_sub : iI a - iI b = iI (a - b) := (Int32.ofInt_sub a b).symm
theorem iI_mul : iI a * iI b = iI (a * b) := (Int32.ofInt_mul a b).symm
end
theorem bI_t {b : Bool} : bI b = 0 ↔ b = false := by cases b <;> decide
theorem bI_1 {b : Bool} : bI b = 1 ↔ b = true := by cases b <;> decide
def rgAt (q : aQ) (r : Nat) (R : Rn) : Prop := q.1 r 0 = iI R.1 ∧ q.1 r 1 = iI R.2
def updR (q q' : aQ) (r : Nat) (R : Rn) : Prop := rgAt q' r R ∧ (∀ c j, c ≠ r → q'.1 c j = q.1 c j) ∧ q'.2 = q.2
theorem okR.bnd {R : Rn} (h : okR R) : bd R.1 ∧ bd R.2 := by
  unfold bd
  rcases h with h | h
  · rw [h]; decide
  · omega
theorem rgAt.ne {q q' : aQ} {r c : Nat} {R S : Rn} (h : rgAt q c S) (u : updR q q' r R) (n : c ≠ r) : rgAt q' c S := by
  unfold rgAt
  rw [u.2.1 c 0 n, u.2.1 c 1 n]
  exact h
theorem updR.rf {q : aQ} {r : Nat} {R : Rn} (h : rgAt q r R) : updR q q r R := ⟨h, fun _ _ _ => rfl, rfl⟩
theorem updR.tr {q q1 q2 : aQ} {r : Nat} {R S : Rn} (h : updR q q1 r R) (k : updR q1 q2 r S) : updR q q2 r S := ⟨k.1, fun c j n => (k.2.1 c j n).trans (h.2.1 c j n), k.2.2.trans h.2.2⟩
theorem updR_w {q : aQ} {r : Nat} {x y : Int} : updR q (a_w (a_w q r 0 (iI x)) r 1 (iI y)) r (x, y) := by
  refine ⟨⟨?_, ?_⟩, fun c j n => ?_, rfl⟩
  · rw [w_nk (by decide), w_eq]
  · rw [w_eq]
  · rw [w_ne n, w_ne n]
section
variable {q : aQ} {r x y : Nat} {R X Y : Rn}
theorem F80_eq : updR q (F80_0 r q) r eR := updR_w (x := 1001) (y := -1001)
theorem F81_eq (h : rgAt q x X) : updR q (F81_0 r x q) r X := by
  unfold F81_0
  have e : (a_w q r 0 (q.1 x 0)).1 x 1 = iI X.2 := by
    rw [w_get, if_neg (by omega)]; exact h.2
  rw [e, h.1]
  exact updR_w
theorem b16 : bd 16 ∧ bd (-16) ∧ bd 1000 ∧ bd (-1000) := by unfold bd; omega
theorem F82_eq {a b : Int} (h : rgAt q r R) (hR : okR R) (ha : bd a) (hb : bd b) : updR q (F82_0 r (iI a) (iI b) q) r (incR R a b) := by
  have e16 : (16 : Int32) = iI 16 := rfl
  have em16 : (-16 : Int32) = iI (-16) := rfl
  have e1k : (1000 : Int32) = iI 1000 := rfl
  have em1k : (-1000 : Int32) = iI (-1000) := rfl
  have bR := hR.bnd
  have last : ∀ s t : Int, bd s → bd t → updR q (F82_55 r (iI s) (iI t) q) r (joR R (s, t)) := by
    intro s t hs ht
    unfold F82_55 F82_74 F82_96 joR
    rw [h.1]
    have rd : ∀ z : Int32, (a_w q r 0 z).1 r 1 = iI R.2 := fun z => by rw [w_nk (by decide)]; exact h.2
    simp only [rd, iI_le bR.1 hs, iI_le ht bR.2]
    by_cases c1 : s < R.1
    · rw [if_neg (by omega), if_pos c1]
      by_cases c2 : R.2 < t
      · rw [if_neg (by omega), if_pos c2]; exact updR_w
      · rw [if_pos (by omega), if_neg c2]; exact updR_w
    · rw [if_pos (by omega), if_neg c1]
      by_cases c2 : R.2 < t
      · rw [if_neg (by omega), if_pos c2]; exact updR_w
      · rw [if_pos (by omega), if_neg c2]; exact updR_w
  have mid : ∀ s : Int, bd s → updR q (F82_30 r (iI b) (iI s) q) r (joR R (s, hiF b)) := by
    intro s hs
    unfold F82_30
    rw [em16, e16, e1k]
    simp only [iI_le hb b16.1, iI_le b16.2.1 hb]
    unfold hiF
    by_cases c1 : 16 < b
    · rw [if_neg (by omega), if_pos c1]; exact last s 1000 hs b16.2.2.1
    · rw [if_pos (by omega), if_neg c1]
      by_cases c2 : b < -16
      · rw [if_neg (by omega), if_pos c2]; exact last s (-16) hs b16.2.1
      · rw [if_pos (by omega), if_neg c2]; exact last s b hs hb
  unfold F82_0 incR
  rw [em16, e16, em1k]
  simp only [iI_le ha hb, iI_le b16.2.1 ha, iI_le ha b16.1]
  by_cases c0 : b < a
  · rw [if_neg (by omega), if_pos c0]; exact updR.rf h
  · rw [if_pos (by omega), if_neg c0]
    unfold loF
    by_cases c1 : a < -16
    · rw [if_neg (by omega), if_pos c1]; exact mid (-1000) b16.2.2.2
    · rw [if_pos (by omega), if_neg c1]
      by_cases c2 : 16 < a
      · rw [if_neg (by omega), if_pos c2]; exact mid 16 b16.1
      · rw [if_pos (by omega), if_neg c2]; exact mid a ha
/-- whether a join adds -/
def grR (R X : Rn) : Bool := decide (X.1 < R.1) || decide (R.2 < X.2)
theorem F83_eq (h : rgAt q r R) (hx : rgAt q x X) (hR : okR R) (hX : okR X) : ∃ q', F83_0 r x q = (bI (grR R X), q') ∧ updR q q' r (joR R X) := by
  have bR := hR.bnd
  have bX := hX.bnd
  have last : ∀ z : Int32, ∃ q', F83_27 r x z q = (z, q') ∧ updR q q' r (joR R X) := by
    intro z
    unfold F83_27 F83_51 F83_77 joR
    have rd : ∀ z : Int32, (a_w q r 0 z).1 r 1 = iI R.2 := fun z => by rw [w_nk (by decide)]; exact h.2
    have rx : ∀ z : Int32, (a_w q r 0 z).1 x 1 = iI X.2 := fun z => by rw [w_get, if_neg (by omega)]; exact hx.2
    rw [h.1, hx.1]
    simp only [rd, rx, iI_le bR.1 bX.1, iI_le bX.2 bR.2]
    by_cases c1 : X.1 < R.1
    · rw [if_neg (by omega), if_pos c1]
      by_cases c2 : R.2 < X.2
      · rw [if_neg (by omega), if_pos c2]; exact ⟨_, rfl, updR_w⟩
      · rw [if_pos (by omega), if_neg c2]; exact ⟨_, rfl, updR_w⟩
    · rw [if_pos (by omega), if_neg c1]
      by_cases c2 : R.2 < X.2
      · rw [if_neg (by omega), if_pos c2]; exact ⟨_, rfl, updR_w⟩
      · rw [if_pos (by omega), if_neg c2]; exact ⟨_, rfl, updR_w⟩
  unfold F83_0 F83_22 grR
  rw [h.1, hx.1, h.2, hx.2]
  simp only [iI_lt bX.1 bR.1, iI_le bX.2 bR.2]
  by_cases c1 : X.1 < R.1
  · rw [if_pos c1, decide_eq_true c1, Bool.true_or]; exact last 1
  · rw [if_neg c1, decide_eq_false c1, Bool.false_or]
    by_cases c2 : R.2 < X.2
    · rw [if_neg (by omega), decide_eq_true c2]; exact last 1
    · rw [if_pos (by omega), decide_eq_false c2]; exact last 0
theorem F85_eq (h : rgAt q r R) (hR : okR R) : F85_0 r q = bI (isE R) := by
  have bR := hR.bnd
  unfold F85_0 bI
  rw [h.1, h.2]
  simp only [iI_le bR.1 bR.2, isE_t]
  by_cases c : R.2 < R.1
  · rw [if_neg (by omega), if_pos c]
  · rw [if_pos (by omega), if_neg c]
theorem F86_eq (h : rgAt q r R) (hR : okR R) : F86_0 r q = bI (sngl R) := by
  have bR := hR.bnd
  unfold F86_0 bI
  rw [h.1, h.2]
  simp only [iI_eq bR.1 bR.2, sngl_t]
theorem hol_t {n : Int} : hol R n = true ↔ R.1 ≤ n ∧ n ≤ R.2 := by unfold hol; rw [Bool.and_eq_true, decide_eq_true_iff, decide_eq_true_iff]
theorem F87_eq {n : Int} (h : rgAt q r R) (hR : okR R) (hn : bd n) : F87_0 r (iI n) q = bI (hol R n) := by
  have bR := hR.bnd
  unfold F87_0 bI
  rw [h.1, h.2]
  simp only [iI_lt hn bR.1, iI_lt bR.2 hn, hol_t]
  by_cases c1 : n < R.1
  · rw [if_pos c1, if_neg (by omega)]
  · rw [if_neg c1]
    by_cases c2 : R.2 < n
    · rw [if_pos c2, if_neg (by omega)]
    · rw [if_neg c2, if_pos (by omega)]
theorem holO_t {n : Int} : holO R n = true ↔ R.1 ≤ R.2 ∧ (¬ R.1 = n ∨ ¬ R.2 = n) := by
  unfold holO
  rw [Bool.and_eq_true, decide_eq_true_iff, Bool.or_eq_true, Bool.not_eq_true', Bool.not_eq_true', decide_eq_false_iff_not, decide_eq_false_iff_not]
theorem F88_eq {n : Int} (h : rgAt q r R) (hR : okR R) (hn : bd n) : F88_0 r (iI n) q = bI (holO R n) := by
  have bR := hR.bnd
  unfold F88_0 bI
  rw [h.1, h.2]
  simp only [iI_lt bR.2 bR.1, iI_eq bR.1 hn, iI_eq bR.2 hn, holO_t]
  by_cases c1 : R.2 < R.1
  · rw [if_pos c1, if_neg (by omega)]
  · rw [if_neg c1]
    by_cases c2 : R.1 = n
    · rw [if_pos c2]
      by_cases c3 : R.2 = n
      · rw [if_pos c3, if_neg (by omega)]
      · rw [if_neg c3, if_pos (by omega)]
    · rw [if_neg c2, if_pos (by omega)]
theorem F89_eq (h : rgAt q r R) (hx : rgAt q x X) (hR : okR R) (hX : okR X) : F89_0 r x q = bI (meets R X) := by
  have bR := hR.bnd
  have bX := hX.bnd
  unfold F89_0 bI
  rw [h.1, h.2, hx.1, hx.2]
  simp only [iI_lt bX.2 bR.1, iI_lt bR.2 bX.1, meets_t]
  by_cases c1 : X.2 < R.1
  · rw [if_pos c1, if_neg (by omega)]
  · rw [if_neg c1]
    by_cases c2 : R.2 < X.1
    · rw [if_pos c2, if_neg (by omega)]
    · rw [if_neg c2, if_pos (by omega)]
theorem F90_eq (h : rgAt q r R) (hx : rgAt q x X) (hR : okR R) (hX : okR X) : F90_0 r x q = bI (decide (R.1 < X.2)) := by
  have bR := hR.bnd
  have bX := hX.bnd
  unfold F90_0 bI
  rw [h.1, hx.2]
  simp only [iI_le bX.2 bR.1, decide_eq_true_iff]
  by_cases c1 : R.1 < X.2
  · rw [if_neg (by omega), if_pos c1]
  · rw [if_pos (by omega), if_neg c1]
theorem F91_eq (h : rgAt q r R) (hx : rgAt q x X) (hR : okR R) (hX : okR X) : F91_0 r x q = bI (decide (X.1 ≤ R.2)) := by
  have bR := hR.bnd
  have bX := hX.bnd
  unfold F91_0 bI
  rw [h.2, hx.1]
  simp only [iI_lt bR.2 bX.1, decide_eq_true_iff]
  by_cases c1 : R.2 < X.1
  · rw [if_pos c1, if_neg (by omega)]
  · rw [if_neg c1, if_pos (by omega)]
theorem F190_eq {a b : Int} (ha : bd a) (hb : bd b) : F190_0 (iI a) (iI b) q = iI (max a b) := by
  unfold F190_0
  simp only [iI_lt ha hb]
  by_cases c : a < b
  · rw [if_pos c]; congr 1; omega
  · rw [if_neg c]; congr 1; omega
theorem F191_eq {a b : Int} (ha : bd a) (hb : bd b) : F191_0 (iI a) (iI b) q = iI (min a b) := by
  unfold F191_0
  simp only [iI_lt hb ha]
  by_cases c : b < a
  · rw [if_pos c]; congr 1; omega
  · rw [if_neg c]; congr 1; omega
theorem bd_mm {a b : Int} (ha : bd a) (hb : bd b) : bd (max a b) ∧ bd (min a b) := by unfold bd at *; omega
theorem F92_eq {a b : Int} (h : rgAt q r R) (hR : okR R) (ha : bd a) (hb : bd b) : updR q (F92_0 r (iI a) (iI b) q) r (keeR R a b) := by
  have bR := hR.bnd
  unfold F92_0 F92_23
  rw [h.1, h.2, F190_eq bR.1 ha, F191_eq bR.2 hb]
  have u := F80_eq (q := q) (r := r)
  exact u.tr (F82_eq u.1 eR_ok (bd_mm bR.1 ha).1 (bd_mm bR.2 hb).2)
theorem F93_eq {n : Int} (h : rgAt q r R) (hR : okR R) (hn : -2000 ≤ n ∧ n ≤ 2000) : updR q (F93_0 r (iI n) q) r (droR R n) := by
  have bR := hR.bnd
  have bn : bd n := by unfold bd; omega
  have b1 : bd (n + 1) := by unfold bd; omega
  have b2 : bd (n - 1) := by unfold bd; omega
  have u := F80_eq (q := q) (r := r)
  have k : ∀ s t : Int, bd s → bd t → updR q (F82_0 r (iI s) (iI t) (F80_0 r q)) r (incR eR s t) := fun s t hs ht => u.tr (F82_eq u.1 eR_ok hs ht)
  unfold F93_0 F93_18 F93_37 F93_42 droR
  rw [h.1, h.2]
  rw [show (1 : Int32) = iI 1 from rfl, iI_add, iI_sub]
  simp only [iI_eq bR.1 bn, iI_eq bR.2 bn]
  by_cases c1 : R.1 = n
  · rw [if_pos c1, if_pos c1]
    by_cases c2 : R.2 = n
    · rw [if_pos c2, if_pos c2]; exact k _ _ b1 b2
    · rw [if_neg c2, if_neg c2]; exact k _ _ b1 bR.2
  · rw [if_neg c1, if_neg c1]
    by_cases c2 : R.2 = n
    · rw [if_pos c2, if_pos c2]; exact k _ _ bR.1 b2
    · rw [if_neg c2, if_neg c2]; exact k _ _ bR.1 bR.2
end
