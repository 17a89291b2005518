/-! the class's values: an amount above a type -/
def lI (x : Int) : Int64 := Int64.ofInt x
theorem lI_t {x : Int} (h : -9223372036854775808 ≤ x ∧ x < 9223372036854775808) : (lI x).toInt = x := Int64.toInt_ofInt_of_le (by have := h.1; omega) (by have := h.2; omega)
theorem lI_bv (x : Int) : (lI x).toBitVec = BitVec.ofInt 64 x := rfl
theorem lI_inj {x y : Int} (hx : -9223372036854775808 ≤ x ∧ x < 9223372036854775808) (hy : -9223372036854775808 ≤ y ∧ y < 9223372036854775808) (h : lI x = lI y) : x = y := by
  have := congrArg Int64.toInt h
  rw [lI_t hx, lI_t hy] at this
  exact this
def pk (t : Nat) (x : Int) : Int64 := lI (16 * x + t)
theorem sh4 (y : Int64) : y <<< (Int32.toInt64 4 &&& 63) = lI (16 * y.toInt) := by
  apply Int64.toBitVec_inj.mp
  rw [lI_bv, Int64.toBitVec_shiftLeft]
  show y.toBitVec <<< ((Int32.toInt64 4 &&& 63).toBitVec.smod 64).toNat = _
  rw [show ((Int32.toInt64 4 &&& 63).toBitVec.smod 64).toNat = 4 by decide]
  rw [BitVec.ofInt_mul]
  show _ = _ * BitVec.ofInt 64 y.toBitVec.toInt
  rw [BitVec.ofInt_toInt, BitVec.mul_comm, show BitVec.ofInt 64 16 = BitVec.twoPow 64 4 by decide, BitVec.mul_twoPow_eq_shiftLeft]
theorem or16 {t : Nat} (ht : t < 16) (y : Int) : lI (16 * y) ||| Int32.toInt64 (nI t) = lI (16 * y + t) := by
  apply Int64.toBitVec_inj.mp
  rw [Int64.toBitVec_or, lI_bv, lI_bv, BitVec.ofInt_add, nI_l (by omega)]
  show BitVec.ofInt 64 (16 * y) ||| BitVec.ofNat 64 t = BitVec.ofInt 64 (16 * y) + BitVec.ofInt 64 (t : Int)
  rw [BitVec.ofInt_natCast]
  symm
  apply BitVec.add_eq_or_of_and_eq_zero
  apply BitVec.eq_of_getLsbD_eq
  intro i hi
  rw [BitVec.ofInt_mul, BitVec.mul_comm, show BitVec.ofInt 64 16 = BitVec.twoPow 64 4 by decide, BitVec.mul_twoPow_eq_shiftLeft, BitVec.getLsbD_and, BitVec.getLsbD_shiftLeft]
  by_cases h4 : i < 4
  · simp [h4]
  · have : (BitVec.ofNat 64 t).getLsbD i = false := by
      rw [BitVec.getLsbD_ofNat]
      rw [Nat.testBit_lt_two_pow (Nat.lt_of_lt_of_le ht (Nat.le_trans (show 16 ≤ 2 ^ 4 by decide) (Nat.pow_le_pow_right (by decide) (by omega))))]
      simp
    rw [this]; simp
theorem F128_eq {t : Nat} {y : Int64} {q : aQ} (ht : t < 16) : F128_0 (nI t) y q = pk t y.toInt := by
  unfold F128_0 pk
  rw [sh4, or16 ht]
theorem F129_eq {t : Nat} {x : Int} {q : aQ} (ht : t < 16) : F129_0 (pk t x) q = nI t := by
  unfold F129_0 pk
  rw [pk_and _ (m := 15) 4 (by decide)]
  congr 1
  show (BitVec.signExtend 32 (BitVec.ofInt 64 (16 * x + t))).toNat % 2 ^ 4 = t
  rw [BitVec.signExtend_eq_setWidth_of_le _ (by decide), BitVec.toNat_setWidth, BitVec.toNat_ofInt]
  omega
theorem F130_eq {t : Nat} {x : Int} {q : aQ} (ht : t < 16) (hx : -100000000000000000 ≤ x ∧ x ≤ 100000000000000000) : F130_0 (pk t x) q = lI x := by
  unfold F130_0 pk
  apply Int64.toInt_inj.mp
  rw [lI_t (by omega)]
  show (lI (16 * x + t) >>> (Int32.toInt64 4 &&& 63)).toBitVec.toInt = x
  rw [Int64.toBitVec_shiftRight]
  show ((lI (16 * x + t)).toBitVec.sshiftRight ((Int32.toInt64 4 &&& 63).toBitVec.smod 64).toNat).toInt = x
  rw [show ((Int32.toInt64 4 &&& 63).toBitVec.smod 64).toNat = 4 by decide, BitVec.toInt_sshiftRight]
  show (lI (16 * x + t)).toInt >>> 4 = x
  rw [lI_t (by omega), Int.shiftRight_eq_div_pow]
  omega
theorem pk_inj {t u : Nat} {x y : Int} (ht : t < 16) (hu : u < 16) (hx : -100000000000000000 ≤ x ∧ x ≤ 100000000000000000) (hy : -100000000000000000 ≤ y ∧ y ≤ 100000000000000000) : pk t x = pk u y ↔ t = u ∧ x = y := by
  constructor
  · intro h
    have := lI_inj (by omega) (by omega) h
    omega
  · rintro ⟨rfl, rfl⟩; rfl
/-- what an expression may come to: (1, n) a number, (2, n) a text, (4, 0) none, (0, k) an error, (0, 9) over -/
def vOk (t : Nat) (x : Int) : Prop := (t = 1 ∧ -1000000000 ≤ x ∧ x ≤ 1000000000) ∨ (t = 2 ∧ 0 ≤ x ∧ x ≤ 1000000000) ∨ (t = 4 ∧ x = 0)
def eOk (t : Nat) (x : Int) : Prop := vOk t x ∨ (t = 0 ∧ (x = 1 ∨ x = 2 ∨ x = 3 ∨ x = 9))
theorem lg_eq {a b : Int64} : lg_cmp a b = 0 ↔ a = b := by
  unfold lg_cmp
  by_cases h : a > b
  · rw [if_pos h]
    constructor
    · intro z; exact absurd z (by decide)
    · intro z; subst z
      exact absurd h (by rw [GT.gt, Int64.lt_iff_toInt_lt]; omega)
  · rw [if_neg h]
    by_cases e : a = b
    · rw [if_pos e]; exact ⟨fun _ => e, fun _ => rfl⟩
    · rw [if_neg e]; exact ⟨fun z => absurd z (by decide), fun z => absurd z e⟩
theorem lg_ge {a b : Int64} : 0 ≤ lg_cmp a b ↔ b.toInt ≤ a.toInt := by
  unfold lg_cmp
  by_cases h : a > b
  · rw [if_pos h]
    rw [GT.gt, Int64.lt_iff_toInt_lt] at h
    exact ⟨fun _ => by omega, fun _ => by decide⟩
  · rw [if_neg h]
    rw [GT.gt, Int64.lt_iff_toInt_lt] at h
    by_cases e : a = b
    · rw [if_pos e]; subst e; exact ⟨fun _ => by omega, fun _ => by decide⟩
    · rw [if_neg e]
      have : a.toInt ≠ b.toInt := fun z => e (Int64.toInt_inj.mp z)
      exact ⟨fun z => absurd z (by decide), fun z => by omega⟩
theorem lg_gt {a b : Int64} : 0 < lg_cmp a b ↔ b.toInt < a.toInt := by
  unfold lg_cmp
  by_cases h : a > b
  · rw [if_pos h]
    rw [GT.gt, Int64.lt_iff_toInt_lt] at h
    exact ⟨fun _ => by omega, fun _ => by decide⟩
  · rw [if_neg h]
    rw [GT.gt, Int64.lt_iff_toInt_lt] at h
    by_cases e : a = b
    · rw [if_pos e]; subst e; exact ⟨fun z => absurd z (by decide), fun z => by omega⟩
    · rw [if_neg e]; exact ⟨fun z => absurd z (by decide), fun z => by omega⟩
theorem lg_lt {a b : Int64} : lg_cmp a b < 0 ↔ a.toInt < b.toInt := by
  have key := @lg_ge a b
  constructor
  · intro h
    have h2 : ¬ 0 ≤ lg_cmp a b := by
      rw [Int32.le_iff_toInt_le]
      rw [Int32.lt_iff_toInt_lt] at h
      omega
    have : ¬ b.toInt ≤ a.toInt := fun z => h2 (key.mpr z)
    omega
  · intro h
    have h2 : ¬ 0 ≤ lg_cmp a b := fun z => by have := key.mp z; omega
    rw [Int32.le_iff_toInt_le] at h2
    rw [Int32.lt_iff_toInt_lt]
    omega
theorem lI_add (x y : Int) : lI x + lI y = lI (x + y) := (Int64.ofInt_add x y).symm
theorem lI_sub (x y : Int) : lI x - lI y = lI (x - y) := (Int64.ofInt_sub x y).symm
theorem lI_mul (x y : Int) : lI x * lI y = lI (x * y) := (Int64.ofInt_mul x y).symm
def sm (x : Int) : Prop := -2000000000 ≤ x ∧ x ≤ 2000000000
theorem sm_t {x : Int} (h : sm x) : (lI x).toInt = x := by
  unfold sm at h
  exact lI_t (by omega)
theorem td_sm {x y : Int} (h : sm x) : sm (x.tdiv y) := by
  unfold sm at *
  have := Int.natAbs_tdiv x y
  have h2 : (x.tdiv y).natAbs ≤ x.natAbs := by rw [this]; exact Nat.div_le_self _ _
  omega
theorem lI_div {x y : Int} (hx : sm x) (hy : sm y) : lI x / lI y = lI (x.tdiv y) := by
  apply Int64.toInt_inj.mp
  have := td_sm (y := y) hx
  rw [Int64.toInt_div, sm_t hx, sm_t hy, sm_t this]
  unfold sm at this
  rw [Int.bmod_def]
  omega
theorem fd_td {x y : Int} (hy : y ≠ 0) : x.fdiv y = if x.tdiv y * y = x then x.tdiv y else if (x < 0 ↔ y < 0) then x.tdiv y else x.tdiv y - 1 := by
  rw [Int.fdiv_eq_tdiv]
  by_cases d : y ∣ x
  · rw [if_pos d, if_pos (Int.tdiv_mul_cancel d)]; omega
  · have d2 : ¬ x.tdiv y * y = x := fun z => d ⟨x.tdiv y, by rw [Int.mul_comm]; exact z.symm⟩
    rw [if_neg d, if_neg d2]
    by_cases a : 0 ≤ x
    · rw [if_pos a]
      by_cases b : 0 ≤ y
      · rw [if_pos b, if_pos ⟨fun z => by omega, fun z => by omega⟩]; omega
      · rw [if_neg b, if_neg (fun z => by have := z.mpr (by omega); omega)]
    · rw [if_neg a]
      by_cases b : 0 ≤ y
      · rw [if_pos b, Int.sign_eq_one_of_pos (by omega), if_neg (fun z => by have := z.mp (by omega); omega)]
      · rw [if_neg b, Int.sign_eq_neg_one_of_neg (by omega), if_pos ⟨fun z => by omega, fun z => by omega⟩]; omega
theorem fd_sm {x y : Int} (h : -1000000000 ≤ x ∧ x ≤ 1000000000) (hy : y ≠ 0) : sm (x.fdiv y) := by
  have h1 := Int.natAbs_tdiv x y
  have h2 : (x.tdiv y).natAbs ≤ x.natAbs := by rw [h1]; exact Nat.div_le_self _ _
  rw [fd_td hy]
  unfold sm
  split
  · omega
  · split <;> omega
/-- the model's quotient -/
theorem F153_eq {x y : Int} {q : aQ} (hx : sm x) (hy : sm y) (h0 : y ≠ 0) : F153_0 (lI x) (lI y) q = lI (x.fdiv y) ∧ S153_0 (lI x) (lI y) q := by
  have hq := td_sm (y := y) hx
  have e0 : (lI 0).toInt = 0 := rfl
  have z0 : (0 : Int64).toInt = 0 := rfl
  refine ⟨?_, ?_⟩
  · rw [fd_td h0]
    unfold F153_0 F153_25 F153_36
    rw [lI_div hx hy, lI_mul]
    have e1 : lg_cmp (lI (x.tdiv y * y)) (lI x) = 0 ↔ x.tdiv y * y = x := by
      rw [lg_eq]
      constructor
      · intro h
        refine lI_inj ?_ ?_ h
        · have := Int.natAbs_tdiv x y
          have h3 : (x.tdiv y * y).natAbs ≤ x.natAbs := by rw [Int.natAbs_mul, this]; exact Nat.div_mul_le_self _ _
          unfold sm at hx; omega
        · unfold sm at hx; omega
      · intro h; rw [h]
    have e2 : 0 ≤ lg_cmp (lI x) 0 ↔ 0 ≤ x := by rw [lg_ge, sm_t hx, z0]
    have e3 : 0 ≤ lg_cmp (lI y) 0 ↔ 0 ≤ y := by rw [lg_ge, sm_t hy, z0]
    by_cases a : x.tdiv y * y = x
    · rw [if_pos (e1.mpr a), if_pos a]
    · rw [if_neg (fun z => a (e1.mp z)), if_neg a]
      have m1 : lI (x.tdiv y) - 1 = lI (x.tdiv y - 1) := lI_sub (x.tdiv y) 1
      by_cases b : 0 ≤ x <;> by_cases c : 0 ≤ y
      · rw [if_pos (e2.mpr b), if_pos (e3.mpr c), if_pos rfl, if_pos ⟨fun z => by omega, fun z => by omega⟩]
      · rw [if_pos (e2.mpr b), if_neg (fun z => c (e3.mp z)), if_neg (by decide), if_neg (fun z => by have := z.mpr (by omega); omega), m1]
      · rw [if_neg (fun z => b (e2.mp z)), if_pos (e3.mpr c), if_neg (by decide), if_neg (fun z => by have := z.mp (by omega); omega), m1]
      · rw [if_neg (fun z => b (e2.mp z)), if_neg (fun z => c (e3.mp z)), if_pos rfl, if_pos ⟨fun z => by omega, fun z => by omega⟩]
  · unfold S153_0 S153_25 S153_36
    refine ⟨fun z => h0 ?_, by simp⟩
    have := congrArg Int64.toInt z
    rw [sm_t hy] at this
    exact this
theorem xor_neg (a b : Int64) : (a ^^^ b).toInt < 0 ↔ ¬ (a.toInt < 0 ↔ b.toInt < 0) := by
  have m : ∀ c : Int64, c.toBitVec.msb = decide (c.toInt < 0) := fun c => BitVec.msb_eq_toInt
  have := m (a ^^^ b)
  rw [Int64.toBitVec_xor, BitVec.msb_xor, m a, m b] at this
  have key : (a ^^^ b).toInt < 0 ↔ (decide (a.toInt < 0) ^^ decide (b.toInt < 0)) = true := by
    rw [this]; exact decide_eq_true_iff.symm
  rw [key]
  by_cases h1 : a.toInt < 0
  · by_cases h2 : b.toInt < 0
    · rw [decide_eq_true h1, decide_eq_true h2]; exact ⟨fun z => absurd z (by decide), fun z => absurd ⟨fun _ => h2, fun _ => h1⟩ z⟩
    · rw [decide_eq_true h1, decide_eq_false h2]; exact ⟨fun _ z => h2 (z.mp h1), fun _ => by decide⟩
  · by_cases h2 : b.toInt < 0
    · rw [decide_eq_false h1, decide_eq_true h2]; exact ⟨fun _ z => h1 (z.mpr h2), fun _ => by decide⟩
    · rw [decide_eq_false h1, decide_eq_false h2]; exact ⟨fun z => absurd z (by decide), fun z => absurd ⟨fun w => absurd w h1, fun w => absurd w h2⟩ z⟩
/-- the class's quotient -/
theorem F189_eq {x y : Int} {q : aQ} (hx : sm x) (hy : sm y) (h0 : y ≠ 0) : F189_0 (lI x) (lI y) q = lI (x.fdiv y) ∧ S189_0 (lI x) (lI y) q := by
  have hq := td_sm (y := y) hx
  have z0 : (0 : Int64).toInt = 0 := rfl
  refine ⟨?_, ?_⟩
  · rw [fd_td h0]
    unfold F189_0
    rw [lI_div hx hy, lI_mul]
    have e1 : lg_cmp (lI (x.tdiv y * y)) (lI x) = 0 ↔ x.tdiv y * y = x := by
      rw [lg_eq]
      constructor
      · intro h
        refine lI_inj ?_ ?_ h
        · have := Int.natAbs_tdiv x y
          have h3 : (x.tdiv y * y).natAbs ≤ x.natAbs := by rw [Int.natAbs_mul, this]; exact Nat.div_mul_le_self _ _
          unfold sm at hx; omega
        · unfold sm at hx; omega
      · intro h; rw [h]
    have e2 : 0 ≤ lg_cmp (lI x ^^^ lI y) 0 ↔ (x < 0 ↔ y < 0) := by
      rw [lg_ge, z0]
      have := xor_neg (lI x) (lI y)
      rw [sm_t hx, sm_t hy] at this
      constructor
      · intro h
        exact Classical.byContradiction (fun z => by have := this.mpr z; omega)
      · intro h
        exact Classical.byContradiction (fun z => this.mp (by omega) h)
    have m1 : lI (x.tdiv y) - 1 = lI (x.tdiv y - 1) := lI_sub (x.tdiv y) 1
    by_cases c : (x < 0 ↔ y < 0)
    · rw [if_pos (e2.mpr c)]
      split
      · rfl
      · rfl
    · rw [if_neg (fun z => c (e2.mp z))]
      by_cases a : x.tdiv y * y = x
      · rw [if_pos (e1.mpr a), if_pos a]
      · rw [if_neg (fun z => a (e1.mp z)), if_neg a, if_neg c, m1]
  · unfold S189_0
    refine ⟨fun z => h0 ?_, by simp⟩
    have := congrArg Int64.toInt z
    rw [sm_t hy] at this
    exact this
