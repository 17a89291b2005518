/-! the heap behind the two constructors (wip/whole/gen41.py): hp q0 -/
def tfR (R : Nat → Nat → Option Nat) : Nat → Nat → Option Nat := (a_u2 (a_u2 (a_u2 (a_u2 (a_u2 (a_u2 (fcR (a_u2 (pnR (a_u2 (a_u2 (a_u2 (a_u2 (a_u2 (a_u2 (stR (a_u2 (a_u2 (a_u2 (a_u2 (a_u2 (a_u2 (a_u2 (a_u2 (a_u2 (a_u2 (a_u2 (a_u2 (a_u2 (a_u2 (a_u2 (a_u2 (a_u2 (a_u2 (a_u2 R 1 0 (some 2)) 1 1 (some 3)) 1 2 (some 4)) 1 3 (some 5)) 1 4 (some 6)) 1 5 (some 7)) 0 0 (some 1)) 8 0 (some 9)) 8 1 (some 10)) 8 2 (some 11)) 8 3 (some 12)) 8 4 (some 13)) 8 5 (some 14)) 8 6 (some 15)) 8 8 (some 16)) 8 9 (some 17)) 8 10 (some 18)) 0 1 (some 8)) 19 2 (some 20)) 21) 19 3 (some 21)) 19 4 (some 38)) 19 5 (some 39)) 19 0 (some 8)) 40 1 (some 41)) 40 0 (some 1)) 60) 19 1 (some 40)) 25) 0 2 (some 19)) 647 2 (some 648)) 647 5 (some 649)) 647 0 (some 8)) 647 1 (some 1)) 0 3 (some 647))
def tfI (I : Nat → Nat → Int32) : Nat → Nat → Int32 := (a_u2 (fcI (pnI (a_u2 (stI (a_u2 I 18 0 (-1)) 21) 19 7 (-1)) 60) 25) 647 7 (-1))
def R0f : Nat → Nat → Option Nat := mdR (tfR (fun _ _ => none))
def q0 : aQ := (heldI (mdI (a_u2 (tfI (fun _ _ => 0)) 650 39 (-1)) 49), fillJ (fun _ _ => 0) 8)
theorem u2_big {α : Type} {f : Nat → Nat → α} {a k i j : Nat} {x : α} (h : k < 64) (hj : 64 ≤ j) : a_u2 f a k x i j = f i j := by
  unfold a_u2
  by_cases hi : i = a
  · subst hi
    rw [if_pos rfl]
    exact if_neg (by omega)
  · rw [if_neg hi]
theorem u2_ne {α : Type} {f : Nat → Nat → α} {a k i j : Nat} {x : α} (h : i ≠ a) : a_u2 f a k x i j = f i j := by unfold a_u2; rw [if_neg h]
theorem u2_eq {α : Type} {f : Nat → Nat → α} {a k j : Nat} {x : α} : a_u2 f a k x a j = if j = k then x else f a j := by unfold a_u2; rw [if_pos rfl]
theorem picR_big {R : Nat → Nat → Option Nat} {p i j : Nat} (hj : 64 ≤ j) : picR R p i j = R i j := by
  unfold picR; rw [u2_big (by decide) hj, u2_big (by decide) hj]
theorem stR_big {R : Nat → Nat → Option Nat} {m i j : Nat} (hj : 64 ≤ j) : stR R m i j = R i j := by
  unfold stR; simp only [u2_big (show 0 < 64 by decide) hj, u2_big (show 1 < 64 by decide) hj, u2_big (show 2 < 64 by decide) hj, u2_big (show 3 < 64 by decide) hj, u2_big (show 4 < 64 by decide) hj, picR_big hj]
theorem pnR_big {R : Nat → Nat → Option Nat} {i j : Nat} (hj : 64 ≤ j) : ∀ k, k ≤ 60 → pnR R k i j = R i j
  | 0, _ => rfl
  | k + 1, h => by
    show a_u2 (picR (pnR R k) (42 + 3 * k)) 41 k _ i j = _
    rw [u2_big (by omega) hj, picR_big hj, pnR_big hj k (by omega)]
theorem fcR_big {R : Nat → Nat → Option Nat} {i j : Nat} (hj : 64 ≤ j) : ∀ k, k ≤ 25 → fcR R k i j = R i j
  | 0, _ => rfl
  | k + 1, h => by
    show a_u2 (stR (fcR R k) (222 + 17 * k)) 20 k _ i j = _
    rw [u2_big (by omega) hj, stR_big hj, fcR_big hj k (by omega)]
theorem stR_ge {R : Nat → Nat → Option Nat} {m i j : Nat} (h : m + 17 ≤ i) : stR R m i j = R i j := by
  unfold stR picR
  rw [u2_ne (by omega), u2_ne (by omega), u2_ne (by omega), u2_ne (by omega), u2_ne (by omega), u2_ne (by omega), u2_ne (by omega), u2_ne (by omega), u2_ne (by omega), u2_ne (by omega), u2_ne (by omega), u2_ne (by omega), u2_ne (by omega), u2_ne (by omega), u2_ne (by omega), u2_ne (by omega)]
theorem pnR_at {R : Nat → Nat → Option Nat} (hR : ∀ a j, 42 ≤ a → R a j = none) {a j : Nat} (ha : 42 ≤ a) : ∀ k, pnR R k a j = if a < 42 + 3 * k then (if (a - 42) % 3 = 0 then (if j = 0 then some (a + 1) else if j = 1 then some (a + 2) else none) else none) else none
  | 0 => by rw [if_neg (by omega)]; exact hR a j ha
  | k + 1 => by
    show a_u2 (picR (pnR R k) (42 + 3 * k)) 41 k _ a j = _
    rw [u2_ne (by omega)]
    unfold picR
    by_cases h : a = 42 + 3 * k
    · subst h
      rw [u2_eq, u2_eq, pnR_at hR ha k, if_neg (by omega : ¬ 42 + 3 * k < 42 + 3 * k), if_pos (by omega : 42 + 3 * k < 42 + 3 * (k + 1)), if_pos (by omega : (42 + 3 * k - 42) % 3 = 0)]
      by_cases h0 : j = 0
      · subst h0; rfl
      · rw [if_neg h0, if_neg h0]
    · rw [u2_ne h, u2_ne h, pnR_at hR ha k]
      by_cases h1 : a < 42 + 3 * k
      · rw [if_pos h1, if_pos (by omega : a < 42 + 3 * (k + 1))]
      · rw [if_neg h1]
        by_cases h2 : a < 42 + 3 * (k + 1)
        · rw [if_pos h2, if_neg (by omega)]
        · rw [if_neg h2]
theorem pnR_lt {R : Nat → Nat → Option Nat} {a j : Nat} (ha : 222 ≤ a) : ∀ k, k ≤ 60 → pnR R k a j = R a j
  | 0, _ => rfl
  | k + 1, h => by
    show a_u2 (picR (pnR R k) (42 + 3 * k)) 41 k _ a j = _
    unfold picR
    rw [u2_ne (by omega), u2_ne (by omega), u2_ne (by omega), pnR_lt ha k (by omega)]
theorem stR_in {R : Nat → Nat → Option Nat} {m : Nat} (hR : ∀ a j, m ≤ a → R a j = none) {i j : Nat} (h1 : m ≤ i) (h2 : i < m + 17) : stR R m i j = if i - m = 0 then (if j = 0 then some (i + 1) else none) else if i - m = 1 then (if j < 5 then some (i + 1 + 3 * j) else none) else if (i - m - 2) % 3 = 0 then (if j = 0 then some (i + 1) else if j = 1 then some (i + 2) else none) else none := by
  have hb : ∀ k j, R (m + k) j = none := fun k j => hR _ j (by omega)
  obtain ⟨t, rfl⟩ : ∃ t, i = m + t := ⟨i - m, by omega⟩
  have ht : t < 17 := by omega
  have e : m + t - m = t := by omega
  rw [e]
  unfold stR picR
  by_cases t0 : t = 0
  · subst t0
    rw [if_pos rfl]
    simp only [u2_ne (show m + 0 ≠ m + 1 by omega), u2_ne (show m + 0 ≠ m + 2 by omega), u2_ne (show m + 0 ≠ m + 5 by omega), u2_ne (show m + 0 ≠ m + 8 by omega), u2_ne (show m + 0 ≠ m + 11 by omega), u2_ne (show m + 0 ≠ m + 14 by omega)]
    rw [show m + 0 = m from rfl, u2_eq]
    by_cases h0 : j = 0
    · subst h0; rfl
    · rw [if_neg h0, if_neg h0]; exact hb 0 j
  rw [if_neg t0]
  by_cases t1 : t = 1
  · subst t1
    rw [if_pos rfl]
    rw [u2_eq, u2_ne (by omega), u2_ne (by omega), u2_eq, u2_ne (by omega), u2_ne (by omega), u2_eq, u2_ne (by omega), u2_ne (by omega), u2_eq, u2_ne (by omega), u2_ne (by omega), u2_eq, u2_ne (by omega), u2_ne (by omega), u2_ne (by omega), hb]
    by_cases h5 : j < 5
    · rw [if_pos h5]
      rcases (show j = 0 ∨ j = 1 ∨ j = 2 ∨ j = 3 ∨ j = 4 by omega) with rfl | rfl | rfl | rfl | rfl <;> rfl
    · rw [if_neg h5, if_neg (by omega), if_neg (by omega), if_neg (by omega), if_neg (by omega), if_neg (by omega)]
  rw [if_neg t1]
  by_cases t3 : (t - 2) % 3 = 0
  · rw [if_pos t3]
    rcases (show t = 2 ∨ t = 5 ∨ t = 8 ∨ t = 11 ∨ t = 14 by omega) with rfl | rfl | rfl | rfl | rfl
    · rw [u2_ne (by omega), u2_ne (by omega), u2_ne (by omega), u2_ne (by omega), u2_ne (by omega), u2_ne (by omega), u2_ne (by omega), u2_ne (by omega), u2_ne (by omega), u2_ne (by omega), u2_ne (by omega), u2_ne (by omega), u2_ne (by omega), u2_eq, u2_eq, u2_ne (by omega), hb]
      by_cases h0 : j = 0
      · subst h0; rfl
      · rw [if_neg h0, if_neg h0]
    · rw [u2_ne (by omega), u2_ne (by omega), u2_ne (by omega), u2_ne (by omega), u2_ne (by omega), u2_ne (by omega), u2_ne (by omega), u2_ne (by omega), u2_ne (by omega), u2_ne (by omega), u2_eq, u2_eq, u2_ne (by omega), u2_ne (by omega), u2_ne (by omega), u2_ne (by omega), hb]
      by_cases h0 : j = 0
      · subst h0; rfl
      · rw [if_neg h0, if_neg h0]
    · rw [u2_ne (by omega), u2_ne (by omega), u2_ne (by omega), u2_ne (by omega), u2_ne (by omega), u2_ne (by omega), u2_ne (by omega), u2_eq, u2_eq, u2_ne (by omega), u2_ne (by omega), u2_ne (by omega), u2_ne (by omega), u2_ne (by omega), u2_ne (by omega), u2_ne (by omega), hb]
      by_cases h0 : j = 0
      · subst h0; rfl
      · rw [if_neg h0, if_neg h0]
    · rw [u2_ne (by omega), u2_ne (by omega), u2_ne (by omega), u2_ne (by omega), u2_eq, u2_eq, u2_ne (by omega), u2_ne (by omega), u2_ne (by omega), u2_ne (by omega), u2_ne (by omega), u2_ne (by omega), u2_ne (by omega), u2_ne (by omega), u2_ne (by omega), u2_ne (by omega), hb]
      by_cases h0 : j = 0
      · subst h0; rfl
      · rw [if_neg h0, if_neg h0]
    · rw [u2_ne (by omega), u2_eq, u2_eq, u2_ne (by omega), u2_ne (by omega), u2_ne (by omega), u2_ne (by omega), u2_ne (by omega), u2_ne (by omega), u2_ne (by omega), u2_ne (by omega), u2_ne (by omega), u2_ne (by omega), u2_ne (by omega), u2_ne (by omega), u2_ne (by omega), hb]
      by_cases h0 : j = 0
      · subst h0; rfl
      · rw [if_neg h0, if_neg h0]
  · rw [if_neg t3]
    rw [u2_ne (by omega), u2_ne (by omega), u2_ne (by omega), u2_ne (by omega), u2_ne (by omega), u2_ne (by omega), u2_ne (by omega), u2_ne (by omega), u2_ne (by omega), u2_ne (by omega), u2_ne (by omega), u2_ne (by omega), u2_ne (by omega), u2_ne (by omega), u2_ne (by omega), u2_ne (by omega)]
    exact hb t j

theorem fcR_at {R : Nat → Nat → Option Nat} (hR : ∀ a j, 222 ≤ a → R a j = none) {a j : Nat} (ha : 222 ≤ a) : ∀ k, fcR R k a j = if a < 222 + 17 * k then (if (a - 222) % 17 = 0 then (if j = 0 then some (a + 1) else none) else if (a - 222) % 17 = 1 then (if j < 5 then some (a + 1 + 3 * j) else none) else if ((a - 222) % 17 - 2) % 3 = 0 then (if j = 0 then some (a + 1) else if j = 1 then some (a + 2) else none) else none) else none := by
  intro k
  induction k generalizing a j with
  | zero => rw [if_neg (by omega)]; exact hR a j ha
  | succ k ih =>
    show a_u2 (stR (fcR R k) (222 + 17 * k)) 20 k _ a j = _
    rw [u2_ne (by omega)]
    by_cases h1 : a < 222 + 17 * k
    · rw [stR_lt h1, ih ha, if_pos h1, if_pos (by omega : a < 222 + 17 * (k + 1))]
    · by_cases h2 : a < 222 + 17 * k + 17
      · rw [if_pos (by omega : a < 222 + 17 * (k + 1)), stR_in (fun b i hb => by rw [ih (by omega), if_neg (by omega)]) (by omega) h2]
        rw [show (a - 222) % 17 = a - (222 + 17 * k) by omega]
      · rw [stR_ge (by omega), ih ha, if_neg h1, if_neg (by omega)]
theorem fcR_lt {R : Nat → Nat → Option Nat} {a j : Nat} (h1 : a < 222) (h2 : a ≠ 20) : ∀ k, fcR R k a j = R a j
  | 0 => rfl
  | k + 1 => by
    show a_u2 (stR (fcR R k) (222 + 17 * k)) 20 k _ a j = _
    rw [u2_ne h2, stR_lt (by omega), fcR_lt h1 h2 k]
def tfR1 (R : Nat → Nat → Option Nat) : Nat → Nat → Option Nat := (a_u2 (a_u2 (a_u2 (a_u2 (a_u2 (a_u2 (a_u2 (a_u2 (a_u2 (a_u2 (a_u2 (a_u2 (a_u2 (stR (a_u2 (a_u2 (a_u2 (a_u2 (a_u2 (a_u2 (a_u2 (a_u2 (a_u2 (a_u2 (a_u2 (a_u2 (a_u2 (a_u2 (a_u2 (a_u2 (a_u2 (a_u2 (a_u2 R 1 0 (some 2)) 1 1 (some 3)) 1 2 (some 4)) 1 3 (some 5)) 1 4 (some 6)) 1 5 (some 7)) 0 0 (some 1)) 8 0 (some 9)) 8 1 (some 10)) 8 2 (some 11)) 8 3 (some 12)) 8 4 (some 13)) 8 5 (some 14)) 8 6 (some 15)) 8 8 (some 16)) 8 9 (some 17)) 8 10 (some 18)) 0 1 (some 8)) 19 2 (some 20)) 21) 19 3 (some 21)) 19 4 (some 38)) 19 5 (some 39)) 19 0 (some 8)) 40 1 (some 41)) 40 0 (some 1)) 19 1 (some 40)) 0 2 (some 19)) 647 2 (some 648)) 647 5 (some 649)) 647 0 (some 8)) 647 1 (some 1)) 0 3 (some 647))
def R1f : Nat → Nat → Option Nat := mdR (tfR1 (fun _ _ => none))
theorem getD_no {l : List (Option Nat)} {j : Nat} (h : l.length ≤ j) : l.getD j none = none := by simp [List.getD, List.getElem?_eq_none h]
theorem getD_noL {l : List (List (Option Nat))} {j : Nat} (h : l.length ≤ j) : l.getD j [] = [] := by simp [List.getD, List.getElem?_eq_none h]
theorem mr0L_len (a : Nat) : (mr0L.getD a []).length ≤ 64 := by
  by_cases h : a < 42
  · exact (show ∀ a, a < 42 → (mr0L.getD a []).length ≤ 64 by decide +kernel) a h
  · rw [getD_noL (show mr0L.length ≤ a from Nat.le_trans (by decide +kernel) (Nat.le_of_not_lt h))]; decide
theorem mr0M_len (a : Nat) : (mr0M.getD a []).length ≤ 64 := by
  by_cases h : a < 39
  · exact (show ∀ a, a < 39 → (mr0M.getD a []).length ≤ 64 by decide +kernel) a h
  · rw [getD_noL (show mr0M.length ≤ a from Nat.le_trans (by decide +kernel) (Nat.le_of_not_lt h))]; decide
theorem mr0_big {a j : Nat} (hj : 64 ≤ j) : mr0 a j = none := by
  unfold mr0
  have e0 : ¬ j = 0 := by omega
  have e1 : ¬ j = 1 := by omega
  have e5 : ¬ j < 5 := by omega
  simp only [if_neg e0, if_neg e1, if_neg e5, getD_no (Nat.le_trans (mr0L_len a) hj), getD_no (Nat.le_trans (mr0M_len _) hj), ite_self]
theorem R0f_big {a j : Nat} (hj : 64 ≤ j) : R0f a j = none := by
  unfold R0f mdR tfR
  repeat (refine Eq.trans (u2_big (by decide) hj) ?_)
  rfl
theorem u2_congr {f g : Nat → Nat → Option Nat} {a k i j : Nat} {x : Option Nat} (h : f i j = g i j) : a_u2 f a k x i j = a_u2 g a k x i j := by
  unfold a_u2
  by_cases hi : i = a
  · subst hi
    rw [if_pos rfl, if_pos rfl]
    show (if j = k then x else f i j) = if j = k then x else g i j
    rw [h]
  · rw [if_neg hi, if_neg hi]; exact h
theorem fcR_out {R : Nat → Nat → Option Nat} {a j : Nat} (h1 : a < 222 ∨ 647 ≤ a) (h2 : a ≠ 20) : ∀ k, k ≤ 25 → fcR R k a j = R a j
  | 0, _ => rfl
  | k + 1, hk => by
    show a_u2 (stR (fcR R k) (222 + 17 * k)) 20 k _ a j = _
    rw [u2_ne h2]
    rcases h1 with h1 | h1
    · rw [stR_lt (by omega), fcR_out (Or.inl h1) h2 k (by omega)]
    · rw [stR_ge (by omega), fcR_out (Or.inr h1) h2 k (by omega)]
theorem fcR_20 {R : Nat → Nat → Option Nat} {j : Nat} : ∀ k, fcR R k 20 j = if j < k then some (222 + 17 * j) else R 20 j
  | 0 => rfl
  | k + 1 => by
    show a_u2 (stR (fcR R k) (222 + 17 * k)) 20 k _ 20 j = _
    rw [u2_eq, stR_lt (by omega), fcR_20 k]
    by_cases h : j = k
    · subst h; rw [if_pos rfl, if_pos (by omega)]
    · rw [if_neg h]
      by_cases h2 : j < k
      · rw [if_pos h2, if_pos (by omega)]
      · rw [if_neg h2, if_neg (by omega)]
theorem pnR_out {R : Nat → Nat → Option Nat} {a j : Nat} (h1 : a < 41 ∨ 222 ≤ a) : ∀ k, k ≤ 60 → pnR R k a j = R a j
  | 0, _ => rfl
  | k + 1, hk => by
    show a_u2 (picR (pnR R k) (42 + 3 * k)) 41 k _ a j = _
    unfold picR
    rw [u2_ne (by omega), u2_ne (by omega), u2_ne (by omega), pnR_out h1 k (by omega)]
theorem pnR_41 {R : Nat → Nat → Option Nat} {j : Nat} : ∀ k, k ≤ 60 → pnR R k 41 j = if j < k then some (42 + 3 * j) else R 41 j
  | 0, _ => rfl
  | k + 1, hk => by
    show a_u2 (picR (pnR R k) (42 + 3 * k)) 41 k _ 41 j = _
    unfold picR
    rw [u2_eq, u2_ne (by omega), u2_ne (by omega), pnR_41 k (by omega)]
    by_cases h : j = k
    · subst h; rw [if_pos rfl, if_pos (by omega)]
    · rw [if_neg h]
      by_cases h2 : j < k
      · rw [if_pos h2, if_pos (by omega)]
      · rw [if_neg h2, if_neg (by omega)]
theorem R01 {a j : Nat} (h1 : a < 41 ∨ 647 ≤ a) (h2 : a ≠ 20) : R0f a j = R1f a j := by
  unfold R0f R1f mdR tfR tfR1
  repeat (refine u2_congr ?_)
  refine Eq.trans (fcR_out (by omega) h2 25 (by decide)) ?_
  repeat (refine u2_congr ?_)
  refine Eq.trans (pnR_out (by omega) 60 (by decide)) ?_
  rfl
theorem R1f_lo : ∀ a, a < 41 → a ≠ 20 → ∀ j, j < 64 → R1f a j = mr0 a j := by decide +kernel
theorem R1f_hi : ∀ b, b < 39 → ∀ j, j < 64 → R1f (647 + b) j = mr0 (647 + b) j := by decide +kernel
theorem mr0_20 : ∀ j, j < 64 → (if j < 25 then some (222 + 17 * j) else none) = mr0 20 j := by decide +kernel
theorem mr0_41 : ∀ j, j < 64 → (if j < 60 then some (42 + 3 * j) else none) = mr0 41 j := by decide +kernel

theorem base_no {a j : Nat} : (fun (_ _ : Nat) => (none : Option Nat)) a j = none := rfl
theorem R0f_eq : R0f = mr0 := by
  funext a j
  by_cases hj : 64 ≤ j
  · rw [R0f_big hj, mr0_big hj]
  have hj : j < 64 := by omega
  by_cases h1 : a < 41
  · by_cases h20 : a = 20
    · subst h20
      rw [← mr0_20 j hj]
      unfold R0f mdR tfR
      simp only [u2_ne (show 20 ≠ 0 by decide), u2_ne (show 20 ≠ 1 by decide), u2_ne (show 20 ≠ 8 by decide), u2_ne (show 20 ≠ 19 by decide), u2_ne (show 20 ≠ 40 by decide), u2_ne (show 20 ≠ 647 by decide), u2_ne (show 20 ≠ 650 by decide)]
      rw [fcR_20]
      by_cases h5 : j < 25
      · rw [if_pos h5, if_pos h5]
      · rw [if_neg h5, if_neg h5]
        simp only [u2_ne (show 20 ≠ 0 by decide), u2_ne (show 20 ≠ 1 by decide), u2_ne (show 20 ≠ 8 by decide), u2_ne (show 20 ≠ 19 by decide), u2_ne (show 20 ≠ 40 by decide), u2_ne (show 20 ≠ 647 by decide), u2_ne (show 20 ≠ 650 by decide)]
        rw [pnR_out (Or.inl (by decide)) 60 (by decide)]
        simp only [u2_ne (show 20 ≠ 0 by decide), u2_ne (show 20 ≠ 1 by decide), u2_ne (show 20 ≠ 8 by decide), u2_ne (show 20 ≠ 19 by decide), u2_ne (show 20 ≠ 40 by decide), u2_ne (show 20 ≠ 647 by decide), u2_ne (show 20 ≠ 650 by decide)]
        rw [stR_lt (by decide)]
        simp only [u2_ne (show 20 ≠ 0 by decide), u2_ne (show 20 ≠ 1 by decide), u2_ne (show 20 ≠ 8 by decide), u2_ne (show 20 ≠ 19 by decide), u2_ne (show 20 ≠ 40 by decide), u2_ne (show 20 ≠ 647 by decide), u2_ne (show 20 ≠ 650 by decide)]
    · rw [R01 (Or.inl h1) h20, R1f_lo a h1 h20 j hj]
  · by_cases h41 : a = 41
    · subst h41
      rw [← mr0_41 j hj]
      unfold R0f mdR tfR
      simp only [u2_ne (show 41 ≠ 0 by decide), u2_ne (show 41 ≠ 1 by decide), u2_ne (show 41 ≠ 8 by decide), u2_ne (show 41 ≠ 19 by decide), u2_ne (show 41 ≠ 40 by decide), u2_ne (show 41 ≠ 647 by decide), u2_ne (show 41 ≠ 650 by decide)]
      rw [fcR_lt (by decide) (by decide) 25]
      simp only [u2_ne (show 41 ≠ 0 by decide), u2_ne (show 41 ≠ 1 by decide), u2_ne (show 41 ≠ 8 by decide), u2_ne (show 41 ≠ 19 by decide), u2_ne (show 41 ≠ 40 by decide), u2_ne (show 41 ≠ 647 by decide), u2_ne (show 41 ≠ 650 by decide)]
      rw [pnR_41 60 (by decide)]
      by_cases h6 : j < 60
      · rw [if_pos h6, if_pos h6]
      · rw [if_neg h6, if_neg h6]
        simp only [u2_ne (show 41 ≠ 0 by decide), u2_ne (show 41 ≠ 1 by decide), u2_ne (show 41 ≠ 8 by decide), u2_ne (show 41 ≠ 19 by decide), u2_ne (show 41 ≠ 40 by decide), u2_ne (show 41 ≠ 647 by decide), u2_ne (show 41 ≠ 650 by decide)]
        rw [stR_ge (by decide)]
        simp only [u2_ne (show 41 ≠ 0 by decide), u2_ne (show 41 ≠ 1 by decide), u2_ne (show 41 ≠ 8 by decide), u2_ne (show 41 ≠ 19 by decide), u2_ne (show 41 ≠ 40 by decide), u2_ne (show 41 ≠ 647 by decide), u2_ne (show 41 ≠ 650 by decide)]
    · by_cases h2 : a < 647
      · unfold R0f mdR tfR
        simp only [u2_ne (show a ≠ 0 by omega), u2_ne (show a ≠ 1 by omega), u2_ne (show a ≠ 8 by omega), u2_ne (show a ≠ 19 by omega), u2_ne (show a ≠ 40 by omega), u2_ne (show a ≠ 647 by omega), u2_ne (show a ≠ 650 by omega)]
        by_cases h3 : a < 222
        · rw [fcR_lt h3 (by omega) 25]
          simp only [u2_ne (show a ≠ 0 by omega), u2_ne (show a ≠ 1 by omega), u2_ne (show a ≠ 8 by omega), u2_ne (show a ≠ 19 by omega), u2_ne (show a ≠ 40 by omega), u2_ne (show a ≠ 647 by omega), u2_ne (show a ≠ 650 by omega)]
          rw [pnR_at (fun b i hb => ?_) (by omega) 60]
          · unfold mr0
            rw [if_neg (by omega : ¬ a < 42), if_pos h3, if_pos (by omega : a < 42 + 3 * 60)]
          · simp only [u2_ne (show b ≠ 0 by omega), u2_ne (show b ≠ 1 by omega), u2_ne (show b ≠ 8 by omega), u2_ne (show b ≠ 19 by omega), u2_ne (show b ≠ 40 by omega)]
            rw [stR_ge (by omega)]
            simp only [u2_ne (show b ≠ 0 by omega), u2_ne (show b ≠ 1 by omega), u2_ne (show b ≠ 8 by omega), u2_ne (show b ≠ 19 by omega), u2_ne (show b ≠ 40 by omega)]
        · rw [fcR_at (fun b i hb => ?_) (by omega) 25]
          · unfold mr0
            rw [if_neg (by omega : ¬ a < 42), if_neg h3, if_pos h2, if_pos (by omega : a < 222 + 17 * 25)]
          · simp only [u2_ne (show b ≠ 0 by omega), u2_ne (show b ≠ 1 by omega), u2_ne (show b ≠ 8 by omega), u2_ne (show b ≠ 19 by omega), u2_ne (show b ≠ 40 by omega)]
            rw [pnR_lt (by omega) 60 (by decide)]
            simp only [u2_ne (show b ≠ 0 by omega), u2_ne (show b ≠ 1 by omega), u2_ne (show b ≠ 8 by omega), u2_ne (show b ≠ 19 by omega), u2_ne (show b ≠ 40 by omega)]
            rw [stR_ge (by omega)]
            simp only [u2_ne (show b ≠ 0 by omega), u2_ne (show b ≠ 1 by omega), u2_ne (show b ≠ 8 by omega), u2_ne (show b ≠ 19 by omega), u2_ne (show b ≠ 40 by omega)]
      · by_cases h4 : a < 686
        · rw [R01 (Or.inr (by omega)) (by omega)]
          have := R1f_hi (a - 647) (by omega) j hj
          rw [show 647 + (a - 647) = a by omega] at this
          exact this
        · unfold R0f mdR tfR
          simp only [u2_ne (show a ≠ 0 by omega), u2_ne (show a ≠ 1 by omega), u2_ne (show a ≠ 8 by omega), u2_ne (show a ≠ 19 by omega), u2_ne (show a ≠ 40 by omega), u2_ne (show a ≠ 647 by omega), u2_ne (show a ≠ 650 by omega)]
          rw [fcR_at (fun b i hb => ?_) (by omega) 25, if_neg (by omega : ¬ a < 222 + 17 * 25)]
          · unfold mr0
            rw [if_neg (by omega : ¬ a < 42), if_neg (by omega : ¬ a < 222), if_neg h2, getD_noL (show mr0M.length ≤ a - 647 from Nat.le_trans (show mr0M.length ≤ 39 by decide +kernel) (by omega))]
            rfl
          · simp only [u2_ne (show b ≠ 0 by omega), u2_ne (show b ≠ 1 by omega), u2_ne (show b ≠ 8 by omega), u2_ne (show b ≠ 19 by omega), u2_ne (show b ≠ 40 by omega)]
            rw [pnR_lt (by omega) 60 (by decide)]
            simp only [u2_ne (show b ≠ 0 by omega), u2_ne (show b ≠ 1 by omega), u2_ne (show b ≠ 8 by omega), u2_ne (show b ≠ 19 by omega), u2_ne (show b ≠ 40 by omega)]
            rw [stR_ge (by omega)]
            simp only [u2_ne (show b ≠ 0 by omega), u2_ne (show b ≠ 1 by omega), u2_ne (show b ≠ 8 by omega), u2_ne (show b ≠ 19 by omega), u2_ne (show b ≠ 40 by omega)]
theorem sh0_hi {a : Nat} (h : ¬ a < 686) : sh0 a = (31, 0) := by
  unfold sh0
  rw [if_neg (by omega), if_neg (by omega), if_neg (by omega)]
  have : sh0M.length ≤ a - 647 := Nat.le_trans (show sh0M.length ≤ 39 by decide +kernel) (by omega)
  simp [List.getD, List.getElem?_eq_none this]
/-- behind the constructors -/
theorem hcp_hp {I : Nat → Nat → Int32} {J : Nat → Nat → Int64} : hcp 686 4607 R0f I J = hp (I, J) := by
  unfold hcp hp
  rw [R0f_eq]
  refine Prod.ext rfl (Prod.ext ?_ rfl)
  funext a
  show (if a < 686 then sh0 a else (31, 0)) = sh0 a
  by_cases h : a < 686
  · rw [if_pos h]
  · rw [if_neg h, sh0_hi h]
theorem a_h0_eq : a_h0 = hcp 0 0 (fun _ _ => none) (fun _ _ => 0) (fun _ _ => 0) := by
  unfold a_h0 hcp
  refine Prod.ext rfl (Prod.ext ?_ rfl)
  funext a
  show (31, 0) = if a < 0 then sh0 a else (31, 0)
  rw [if_neg (Nat.not_lt_zero a)]

