/-! reads over writes, small facts on Int32 -/
theorem w_get {q : aQ} {a k b j : Nat} {x : Int32} : (a_w q a k x).1 b j = if b = a ∧ j = k then x else q.1 b j := by
  show a_u2 q.1 a k x b j = _
  unfold a_u2
  by_cases h : b = a
  · subst h
    rw [if_pos rfl]
    by_cases h2 : j = k
    · rw [if_pos h2, if_pos ⟨rfl, h2⟩]
    · rw [if_neg h2, if_neg (fun z => h2 z.2)]
  · rw [if_neg h, if_neg (fun z => h z.1)]
theorem w_l {q : aQ} {a k : Nat} {x : Int32} : (a_w q a k x).2 = q.2 := rfl
theorem w_ne {q : aQ} {a k b j : Nat} {x : Int32} (h : b ≠ a) : (a_w q a k x).1 b j = q.1 b j := by rw [w_get, if_neg (fun z => h z.1)]
theorem w_nk {q : aQ} {a k j : Nat} {x : Int32} (h : j ≠ k) : (a_w q a k x).1 a j = q.1 a j := by rw [w_get, if_neg (fun z => h z.2)]
theorem w_eq {q : aQ} {a k : Nat} {x : Int32} : (a_w q a k x).1 a k = x := by rw [w_get, if_pos ⟨rfl, rfl⟩]
theorem w_at {q : aQ} {a k j : Nat} {x : Int32} : (a_w q a k x).1 a j = if j = k then x else q.1 a j := by
  rw [w_get]
  by_cases h : j = k
  · rw [if_pos ⟨rfl, h⟩, if_pos h]
  · rw [if_neg (fun z => h z.2), if_neg h]
theorem wl_get {q : aQ} {a k b j : Nat} {x : Int64} : (a_wl q a k x).2 b j = if b = a ∧ j = k then x else q.2 b j := by
  show a_u2 q.2 a k x b j = _
  unfold a_u2
  by_cases h : b = a
  · subst h
    rw [if_pos rfl]
    by_cases h2 : j = k
    · rw [if_pos h2, if_pos ⟨rfl, h2⟩]
    · rw [if_neg h2, if_neg (fun z => h2 z.2)]
  · rw [if_neg h, if_neg (fun z => h z.1)]
theorem wl_i {q : aQ} {a k : Nat} {x : Int64} : (a_wl q a k x).1 = q.1 := rfl
theorem nI_inj {a b : Nat} (ha : a < 2 ^ 31) (hb : b < 2 ^ 31) (h : nI a = nI b) : a = b := (nI_eq ha hb).mp h
/-- an Int32 between 0 and n - 1 is a number below n -/
theorem nI_below {x : Int32} {n : Nat} (h0 : ¬ x < 0) (h1 : ¬ nI n ≤ x) (hn : n < 2 ^ 31) : ∃ j, j < n ∧ x = nI j := by
  rcases pk_ix x hn with h | h | h
  · exact absurd h h0
  · exact absurd h h1
  · exact h
-- expressions
def leafOk (kd nu : Int32) : Prop := (kd = 0 ∧ ¬ nu < -1000000000 ∧ ¬ 1000000000 < nu) ∨ (kd = 1 ∧ ¬ nu < 0 ∧ ¬ 1000000000 < nu) ∨ kd = 2 ∨ (kd = 3 ∧ ∃ v, v < 5 ∧ nu = nI v) ∨ kd = 4
def opOk (q : aQ) (k o a b w : Nat) : Prop := o ≤ 7 ∧ a < k ∧ q.1 2 k = nI o ∧ q.1 651 k = nI (10 + o) ∧ q.1 5 k = nI a ∧ q.1 652 k = nI a ∧ (o ≤ 5 → b < k ∧ q.1 6 k = nI b ∧ q.1 653 k = nI b) ∧ (6 ≤ o → q.1 6 k = nI a) ∧ w ≤ 15 ∧ q.1 7 k = nI w ∧ q.1 654 k = nI w
def nodeOk (q : aQ) (k : Nat) : Prop := (q.1 2 k = -1 ∧ q.1 651 k = q.1 3 k ∧ q.1 652 k = q.1 4 k ∧ leafOk (q.1 3 k) (q.1 4 k) ∧ q.1 7 k = 1 ∧ q.1 654 k = 1) ∨ ∃ o a b w : Nat, opOk q k o a b w ∧ ∃ wa wb : Nat, q.1 7 a = nI wa ∧ 1 ≤ wa ∧ (o ≤ 5 → q.1 7 b = nI wb ∧ 1 ≤ wb ∧ w = 1 + wa + wb) ∧ (6 ≤ o → w = 1 + wa)
def iE (q : aQ) (n : Nat) : Prop := n ≤ 60 ∧ q.1 1 6 = nI n ∧ q.1 650 0 = nI n ∧ ∀ k, k < n → nodeOk q k
/-- weights of nodes are from 1 to 15, alike on both sides -/
theorem iE_w {q : aQ} {n k : Nat} (h : iE q n) (hk : k < n) : ∃ w, 1 ≤ w ∧ w ≤ 15 ∧ q.1 7 k = nI w ∧ q.1 654 k = nI w := by
  rcases h.2.2.2 k hk with ⟨-, -, -, -, h1, h2⟩ | ⟨o, a, b, w, ho, wa, wb, h3, h4, h5, h6⟩
  · exact ⟨1, by decide, by decide, h1, h2⟩
  · refine ⟨w, ?_, ho.2.2.2.2.2.2.2.2.1, ho.2.2.2.2.2.2.2.2.2.1, ho.2.2.2.2.2.2.2.2.2.2⟩
    by_cases h : o ≤ 5
    · have := (h5 h).2.2; omega
    · have := h6 (by omega); omega
