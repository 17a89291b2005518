/-! hulls of sets of numbers -/
def isH (M : Int → Prop) (r : Rn) : Prop := leR eR r ∧ (∀ z, M z → r.1 ≤ loF z ∧ hiF z ≤ r.2) ∧ (r = eR ∨ ((∃ z, M z ∧ loF z ≤ r.1) ∧ ∃ z, M z ∧ r.2 ≤ hiF z))
theorem isH.n {L : List (Nat × Int)} {r : Rn} (h : isH (fun z => (1, z) ∈ L) r) : (hul L).1 = r := hulN h.1 h.2.1 h.2.2
theorem isH.t {L : List (Nat × Int)} {r : Rn} (h : isH (fun z => (2, z) ∈ L) r) : (hul L).2.1 = r := hulT h.1 h.2.1 h.2.2
theorem isH.iff {M N : Int → Prop} {r : Rn} (h : isH M r) (e : ∀ z, N z ↔ M z) : isH N r := by
  obtain ⟨h1, h2, h3⟩ := h
  refine ⟨h1, fun z hz => h2 z ((e z).mp hz), ?_⟩
  rcases h3 with h3 | ⟨⟨z, z1, z2⟩, y, y1, y2⟩
  · exact Or.inl h3
  · exact Or.inr ⟨⟨z, (e z).mpr z1, z2⟩, y, (e y).mpr y1, y2⟩
theorem leR_rf {r : Rn} : leR r r := ⟨Int.le_refl _, Int.le_refl _⟩
theorem isH_no {M : Int → Prop} (h : ∀ z, ¬ M z) : isH M eR := ⟨leR_rf, fun z hz => absurd hz (h z), Or.inl rfl⟩
theorem isH_join {M N : Int → Prop} {r s : Rn} (h : isH M r) (k : isH N s) : isH (fun z => M z ∨ N z) (joR r s) := by
  obtain ⟨h1, h2, h3⟩ := h
  obtain ⟨k1, k2, k3⟩ := k
  have j := joR_lub.mp (leR_rf (r := joR r s))
  refine ⟨⟨Int.le_trans j.1.1 h1.1, Int.le_trans h1.2 j.1.2⟩, ?_, ?_⟩
  · rintro z (hz | hz)
    · exact ⟨Int.le_trans j.1.1 (h2 z hz).1, Int.le_trans (h2 z hz).2 j.1.2⟩
    · exact ⟨Int.le_trans j.2.1 (k2 z hz).1, Int.le_trans (k2 z hz).2 j.2.2⟩
  · unfold leR eR at h1 k1
    dsimp only at h1 k1
    rcases h3 with h3 | ⟨⟨a, a1, a2⟩, b, b1, b2⟩
    · have e : joR r s = s := by
        rw [h3]
        unfold joR eR
        dsimp only
        refine Prod.ext ?_ ?_
        · dsimp only; split <;> omega
        · dsimp only; split <;> omega
      rw [e]
      rcases k3 with k3 | ⟨⟨c, c1, c2⟩, d, d1, d2⟩
      · exact Or.inl k3
      · exact Or.inr ⟨⟨c, Or.inr c1, c2⟩, d, Or.inr d1, d2⟩
    · rcases k3 with k3 | ⟨⟨c, c1, c2⟩, d, d1, d2⟩
      · have e : joR r s = r := by
          rw [k3]
          unfold joR eR
          dsimp only
          refine Prod.ext ?_ ?_
          · dsimp only; split <;> omega
          · dsimp only; split <;> omega
        rw [e]
        exact Or.inr ⟨⟨a, Or.inl a1, a2⟩, b, Or.inl b1, b2⟩
      · refine Or.inr ⟨?_, ?_⟩
        · by_cases e : s.1 < r.1
          · refine ⟨c, Or.inr c1, ?_⟩
            show loF c ≤ if s.1 < r.1 then s.1 else r.1
            rw [if_pos e]; exact c2
          · refine ⟨a, Or.inl a1, ?_⟩
            show loF a ≤ if s.1 < r.1 then s.1 else r.1
            rw [if_neg e]; exact a2
        · by_cases e : r.2 < s.2
          · refine ⟨d, Or.inr d1, ?_⟩
            show (if r.2 < s.2 then s.2 else r.2) ≤ hiF d
            rw [if_pos e]; exact d2
          · refine ⟨b, Or.inl b1, ?_⟩
            show (if r.2 < s.2 then s.2 else r.2) ≤ hiF b
            rw [if_neg e]; exact b2
/-- values f n m with n, m from two ranges -/
def prS (f : Int → Int → Int) (X Y : Rn) (z : Int) : Prop := ∃ n m, n ∈ rp ∧ inR n X ∧ m ∈ rp ∧ inR m Y ∧ z = f n m
theorem no_in {n : Int} {X : Rn} (h : isE X = true) : ¬ inR n X := by
  rw [isE_t] at h
  unfold inR
  omega
theorem eR_lo {l g : Int} : leR eR (loF l, hiF g) := by
  have a := loF_ok (x := l)
  have b := hiF_ok (x := g)
  unfold leR eR
  dsimp only
  omega
def sumR (X Y : Rn) : Rn := if isE X = true ∨ isE Y = true then eR else incR eR (X.1 + Y.1) (X.2 + Y.2)
def difR (X Y : Rn) : Rn := if isE X = true ∨ isE Y = true then eR else incR eR (X.1 - Y.2) (X.2 - Y.1)
theorem isH_add {X Y : Rn} (hX : okR X) (hY : okR Y) : isH (prS (fun n m => n + m) X Y) (sumR X Y) := by
  unfold sumR
  split
  · rename_i h
    refine isH_no fun z => ?_
    rintro ⟨n, m, a, b, c, d, e⟩
    rcases h with h | h
    · exact no_in h b
    · exact no_in h d
  · rename_i h
    have nX : ¬ isE X = true := fun z => h (Or.inl z)
    have nY : ¬ isE Y = true := fun z => h (Or.inr z)
    obtain ⟨x1, x2, x3, x4, x5, x6, x7⟩ := ends hX nX
    obtain ⟨y1, y2, y3, y4, y5, y6, y7⟩ := ends hY nY
    have lX := isE_f nX
    have lY := isE_f nY
    rw [inc_eR (by omega)]
    refine ⟨eR_lo, ?_, Or.inr ⟨⟨_, ⟨_, _, x3, x4, y3, y4, rfl⟩, ?_⟩, _, ⟨_, _, x5, x6, y5, y6, rfl⟩, ?_⟩⟩
    · rintro z ⟨n, m, a, b, c, d, rfl⟩
      have p1 := x7 n a b
      have p2 := y7 m c d
      dsimp only
      rw [← (c_add x1 y1).1, ← (c_add x2 y2).2]
      exact ⟨loF_le (by omega), hiF_le (by omega)⟩
    · exact Int.le_of_eq (c_add x1 y1).1
    · exact Int.le_of_eq (c_add x2 y2).2.symm
theorem isH_sub {X Y : Rn} (hX : okR X) (hY : okR Y) : isH (prS (fun n m => n - m) X Y) (difR X Y) := by
  unfold difR
  split
  · rename_i h
    refine isH_no fun z => ?_
    rintro ⟨n, m, a, b, c, d, e⟩
    rcases h with h | h
    · exact no_in h b
    · exact no_in h d
  · rename_i h
    have nX : ¬ isE X = true := fun z => h (Or.inl z)
    have nY : ¬ isE Y = true := fun z => h (Or.inr z)
    obtain ⟨x1, x2, x3, x4, x5, x6, x7⟩ := ends hX nX
    obtain ⟨y1, y2, y3, y4, y5, y6, y7⟩ := ends hY nY
    have lX := isE_f nX
    have lY := isE_f nY
    rw [inc_eR (by omega)]
    refine ⟨eR_lo, ?_, Or.inr ⟨⟨_, ⟨_, _, x3, x4, y5, y6, rfl⟩, ?_⟩, _, ⟨_, _, x5, x6, y3, y4, rfl⟩, ?_⟩⟩
    · rintro z ⟨n, m, a, b, c, d, rfl⟩
      have p1 := x7 n a b
      have p2 := y7 m c d
      dsimp only
      rw [← (c_sub x1 y2).1, ← (c_sub x2 y1).2]
      exact ⟨loF_le (by omega), hiF_le (by omega)⟩
    · exact Int.le_of_eq (c_sub x1 y2).1
    · exact Int.le_of_eq (c_sub x2 y1).2.symm
/-! corners -/
def mn4 (a b c d : Int) : Int := min (min a b) (min c d)
def mx4 (a b c d : Int) : Int := max (max a b) (max c d)
theorem mn4_le {a b c d : Int} : mn4 a b c d ≤ a ∧ mn4 a b c d ≤ b ∧ mn4 a b c d ≤ c ∧ mn4 a b c d ≤ d ∧ (mn4 a b c d = a ∨ mn4 a b c d = b ∨ mn4 a b c d = c ∨ mn4 a b c d = d) := by unfold mn4; omega
theorem mx4_le {a b c d : Int} : a ≤ mx4 a b c d ∧ b ≤ mx4 a b c d ∧ c ≤ mx4 a b c d ∧ d ≤ mx4 a b c d ∧ (mx4 a b c d = a ∨ mx4 a b c d = b ∨ mx4 a b c d = c ∨ mx4 a b c d = d) := by unfold mx4; omega
theorem corner {f : Int → Int → Int} {M : Int → Prop} {a b c d : Int} (hl : ∀ i j, (i = a ∨ i = b) → (j = c ∨ j = d) → loF (f (r289 i) (r289 j)) = loF (f i j) ∧ hiF (f (r289 i) (r289 j)) = hiF (f i j) ∧ M (f (r289 i) (r289 j))) (hM : ∀ z, M z → (∃ i j, (i = a ∨ i = b) ∧ (j = c ∨ j = d) ∧ f (r289 i) (r289 j) ≤ z) ∧ ∃ i j, (i = a ∨ i = b) ∧ (j = c ∨ j = d) ∧ z ≤ f (r289 i) (r289 j)) : isH M (incR eR (mn4 (f a c) (f a d) (f b c) (f b d)) (mx4 (f a c) (f a d) (f b c) (f b d))) := by
  have mn := mn4_le (a := f a c) (b := f a d) (c := f b c) (d := f b d)
  have mx := mx4_le (a := f a c) (b := f a d) (c := f b c) (d := f b d)
  have all_lo : ∀ i j, (i = a ∨ i = b) → (j = c ∨ j = d) → mn4 (f a c) (f a d) (f b c) (f b d) ≤ f i j ∧ f i j ≤ mx4 (f a c) (f a d) (f b c) (f b d) := by
    rintro i j (rfl | rfl) (rfl | rfl)
    · exact ⟨mn.1, mx.1⟩
    · exact ⟨mn.2.1, mx.2.1⟩
    · exact ⟨mn.2.2.1, mx.2.2.1⟩
    · exact ⟨mn.2.2.2.1, mx.2.2.2.1⟩
  have ex_lo : ∃ i j, (i = a ∨ i = b) ∧ (j = c ∨ j = d) ∧ mn4 (f a c) (f a d) (f b c) (f b d) = f i j := by
    rcases mn.2.2.2.2 with e | e | e | e
    · exact ⟨a, c, Or.inl rfl, Or.inl rfl, e⟩
    · exact ⟨a, d, Or.inl rfl, Or.inr rfl, e⟩
    · exact ⟨b, c, Or.inr rfl, Or.inl rfl, e⟩
    · exact ⟨b, d, Or.inr rfl, Or.inr rfl, e⟩
  have ex_hi : ∃ i j, (i = a ∨ i = b) ∧ (j = c ∨ j = d) ∧ mx4 (f a c) (f a d) (f b c) (f b d) = f i j := by
    rcases mx.2.2.2.2 with e | e | e | e
    · exact ⟨a, c, Or.inl rfl, Or.inl rfl, e⟩
    · exact ⟨a, d, Or.inl rfl, Or.inr rfl, e⟩
    · exact ⟨b, c, Or.inr rfl, Or.inl rfl, e⟩
    · exact ⟨b, d, Or.inr rfl, Or.inr rfl, e⟩
  rw [inc_eR (Int.le_trans mn.1 mx.1)]
  refine ⟨eR_lo, fun z hz => ?_, Or.inr ⟨?_, ?_⟩⟩
  · obtain ⟨⟨i, j, hi, hj, h1⟩, k, l, hk, hl', h2⟩ := hM z hz
    refine ⟨Int.le_trans (loF_le (all_lo i j hi hj).1) ?_, Int.le_trans ?_ (hiF_le (all_lo k l hk hl').2)⟩
    · rw [← (hl i j hi hj).1]; exact loF_le h1
    · rw [← (hl k l hk hl').2.1]; exact hiF_le h2
  · obtain ⟨i, j, hi, hj, e⟩ := ex_lo
    refine ⟨_, (hl i j hi hj).2.2, ?_⟩
    dsimp only
    rw [e, (hl i j hi hj).1]
    exact Int.le_refl _
  · obtain ⟨i, j, hi, hj, e⟩ := ex_hi
    refine ⟨_, (hl i j hi hj).2.2, ?_⟩
    dsimp only
    rw [e, (hl i j hi hj).2.1]
    exact Int.le_refl _
/-- between two ends, in both places -/
theorem btw {f : Int → Int → Int} {a b c d n m : Int} (h1 : ∀ j, (j = m) → min (f a j) (f b j) ≤ f n j ∧ f n j ≤ max (f a j) (f b j)) (h2 : ∀ i, (i = a ∨ i = b) → min (f i c) (f i d) ≤ f i m ∧ f i m ≤ max (f i c) (f i d)) : (∃ i j, (i = a ∨ i = b) ∧ (j = c ∨ j = d) ∧ f i j ≤ f n m) ∧ ∃ i j, (i = a ∨ i = b) ∧ (j = c ∨ j = d) ∧ f n m ≤ f i j := by
  obtain ⟨p, q⟩ := h1 m rfl
  obtain ⟨pa, qa⟩ := h2 a (Or.inl rfl)
  obtain ⟨pb, qb⟩ := h2 b (Or.inr rfl)
  constructor
  · by_cases e1 : f a m ≤ f b m
    · by_cases e2 : f a c ≤ f a d
      · exact ⟨a, c, Or.inl rfl, Or.inl rfl, by omega⟩
      · exact ⟨a, d, Or.inl rfl, Or.inr rfl, by omega⟩
    · by_cases e2 : f b c ≤ f b d
      · exact ⟨b, c, Or.inr rfl, Or.inl rfl, by omega⟩
      · exact ⟨b, d, Or.inr rfl, Or.inr rfl, by omega⟩
  · by_cases e1 : f a m ≤ f b m
    · by_cases e2 : f b c ≤ f b d
      · exact ⟨b, d, Or.inr rfl, Or.inr rfl, by omega⟩
      · exact ⟨b, c, Or.inr rfl, Or.inl rfl, by omega⟩
    · by_cases e2 : f a c ≤ f a d
      · exact ⟨a, d, Or.inl rfl, Or.inr rfl, by omega⟩
      · exact ⟨a, c, Or.inl rfl, Or.inl rfl, by omega⟩
theorem mul_btw {a b n m : Int} (h1 : a ≤ n) (h2 : n ≤ b) : min (a * m) (b * m) ≤ n * m ∧ n * m ≤ max (a * m) (b * m) := by
  by_cases h : 0 ≤ m
  · have := Int.mul_le_mul_of_nonneg_right h1 h
    have := Int.mul_le_mul_of_nonneg_right h2 h
    omega
  · have := Int.mul_le_mul_of_nonpos_right h1 (show m ≤ 0 by omega)
    have := Int.mul_le_mul_of_nonpos_right h2 (show m ≤ 0 by omega)
    omega
def mulR (X Y : Rn) : Rn := if isE X = true ∨ isE Y = true then eR else incR eR (mn4 (X.1 * Y.1) (X.1 * Y.2) (X.2 * Y.1) (X.2 * Y.2)) (mx4 (X.1 * Y.1) (X.1 * Y.2) (X.2 * Y.1) (X.2 * Y.2))
theorem isH_mul {X Y : Rn} (hX : okR X) (hY : okR Y) : isH (prS (fun n m => n * m) X Y) (mulR X Y) := by
  unfold mulR
  split
  · rename_i h
    refine isH_no fun z => ?_
    rintro ⟨n, m, a, b, c, d, e⟩
    rcases h with h | h
    · exact no_in h b
    · exact no_in h d
  · rename_i h
    have nX : ¬ isE X = true := fun z => h (Or.inl z)
    have nY : ¬ isE Y = true := fun z => h (Or.inr z)
    obtain ⟨x1, x2, x3, x4, x5, x6, x7⟩ := ends hX nX
    obtain ⟨y1, y2, y3, y4, y5, y6, y7⟩ := ends hY nY
    refine corner (f := fun n m => n * m) ?_ ?_
    · rintro i j (rfl | rfl) (rfl | rfl)
      · exact ⟨(c_mul x1 y1).1, (c_mul x1 y1).2, _, _, x3, x4, y3, y4, rfl⟩
      · exact ⟨(c_mul x1 y2).1, (c_mul x1 y2).2, _, _, x3, x4, y5, y6, rfl⟩
      · exact ⟨(c_mul x2 y1).1, (c_mul x2 y1).2, _, _, x5, x6, y3, y4, rfl⟩
      · exact ⟨(c_mul x2 y2).1, (c_mul x2 y2).2, _, _, x5, x6, y5, y6, rfl⟩
    · rintro z ⟨n, m, a, b, c, d, rfl⟩
      have p1 := x7 n a b
      have p2 := y7 m c d
      have B := btw (f := fun n m => n * m) (a := r289 X.1) (b := r289 X.2) (c := r289 Y.1) (d := r289 Y.2) (n := n) (m := m) (fun j _ => mul_btw p1.1 p1.2) (fun i _ => by
        have := mul_btw (m := i) p2.1 p2.2
        rw [Int.mul_comm i, Int.mul_comm i, Int.mul_comm i]
        exact this)
      obtain ⟨⟨i, j, hi, hj, h1⟩, k, l, hk, hl, h2⟩ := B
      refine ⟨?_, ?_⟩
      · rcases hi with rfl | rfl <;> rcases hj with rfl | rfl
        · exact ⟨_, _, Or.inl rfl, Or.inl rfl, h1⟩
        · exact ⟨_, _, Or.inl rfl, Or.inr rfl, h1⟩
        · exact ⟨_, _, Or.inr rfl, Or.inl rfl, h1⟩
        · exact ⟨_, _, Or.inr rfl, Or.inr rfl, h1⟩
      · rcases hk with rfl | rfl <;> rcases hl with rfl | rfl
        · exact ⟨_, _, Or.inl rfl, Or.inl rfl, h2⟩
        · exact ⟨_, _, Or.inl rfl, Or.inr rfl, h2⟩
        · exact ⟨_, _, Or.inr rfl, Or.inl rfl, h2⟩
        · exact ⟨_, _, Or.inr rfl, Or.inr rfl, h2⟩
