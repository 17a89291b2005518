/-! the class looks through: all of it -/
section
variable {q Q : aQ} {nE n m fd : Nat} {o p : Nat → Nat} {σ τ : Nat → Nat → Pc} {A B W : Nat → Bool}
theorem n120 {k : Nat} (h : k < 120) : ¬ (120 : Int32) ≤ nI k := nI_ge (b := 120) h (by decide)
theorem F49_a : ∀ j k Q F, k + j = 25 → j < F → ∃ Q', a_sf (fun (s : Int32 × aQ) => F49_2 s.1 s.2) (fun (s : Int32 × aQ) => S49_2 s.1 s.2) F (nI k, Q) ∧ a_it (fun (s : Int32 × aQ) => F49_2 s.1 s.2) F (nI k, Q) = some Q' ∧ (∀ p, k ≤ p → p < 25 → stAt Q' (222 + 17 * p) (fun _ => eP) ∧ Q'.1 38 p = 0) ∧ (∀ c j, ¬ (222 + 17 * k ≤ c ∧ c ≤ 646) → ¬ (c = 38 ∧ k ≤ j) → Q'.1 c j = Q.1 c j) ∧ Q'.2 = Q.2 := by
  intro j
  induction j with
  | zero =>
    intro k Q F hk hF
    obtain ⟨F, rfl⟩ : ∃ k, F = k + 1 := ⟨F - 1, by omega⟩
    have e25 : k = 25 := by omega
    subst e25
    have l : (24 : Int32) < nI 25 := by decide
    have e : F49_2 (nI 25) Q = .inr Q := by unfold F49_2; rw [if_pos l]
    exact ⟨Q, sf_e e ⟨fun _ => trivial, fun z => absurd l z⟩, it_e e, fun p a b => by omega, fun _ _ _ _ => rfl, rfl⟩
  | succ j ih =>
    intro k Q F hk hF
    obtain ⟨F, rfl⟩ : ∃ k, F = k + 1 := ⟨F - 1, by omega⟩
    have l : ¬ (24 : Int32) < nI k := nI_nlt (a := 24) (by omega) (by decide)
    have ck : (nI k).toNatClampNeg = k := nI_clamp (by omega)
    have vk : vp_in (nI k) 25 := vp_in_nI (by omega) (by decide)
    obtain ⟨c1, c2⟩ := F58_eq (q := Q) (a := 222 + 17 * k)
    have e : F49_2 (nI k) Q = .inl (nI (k + 1), a_w (F58_0 (222 + 17 * k) Q) 38 k 0) := by unfold F49_2 F49_17; rw [if_neg l, ck, nI_1]
    have S : S49_2 (nI k) Q := by unfold S49_2 S49_17; rw [ck]; exact ⟨fun z => absurd z l, fun _ => ⟨vk, c2, vk, trivial⟩⟩
    obtain ⟨Q', r1, r2, r3, r4, r5⟩ := ih (k + 1) (a_w (F58_0 (222 + 17 * k) Q) 38 k 0) F (by omega) (by omega)
    refine ⟨Q', sf_s e S r1, (it_s (B := fun (s : Int32 × aQ) => F49_2 s.1 s.2) (s := (nI k, Q)) e).trans r2, fun p a b => ?_, fun c i a b => ?_, r5.trans (w_l.trans c1.2.2)⟩
    · by_cases e : p = k
      · subst e
        refine ⟨c1.1.fr (fun c i z => by rw [r4 c i (by omega) (by omega), w_ne (by omega)]), ?_⟩
        rw [r4 38 p (by omega) (by omega), w_eq]
      · exact r3 p (by omega) b
    · rw [r4 c i (by omega) (by omega), w_get, if_neg (by omega), c1.2.1 c i (by omega)]
theorem F49_b : ∀ j k Q F, k + j = 120 → j < F → ∃ Q', a_sf (fun (s : Int32 × aQ) => F49_32 s.1 s.2) (fun (s : Int32 × aQ) => S49_32 s.1 s.2) F (nI k, Q) ∧ a_it (fun (s : Int32 × aQ) => F49_32 s.1 s.2) F (nI k, Q) = some Q' ∧ (∀ i, k ≤ i → i < 120 → Q'.1 39 i = 0) ∧ (∀ c j, ¬ (c = 39 ∧ k ≤ j) → Q'.1 c j = Q.1 c j) ∧ Q'.2 = Q.2 := by
  intro j
  induction j with
  | zero =>
    intro k Q F hk hF
    obtain ⟨F, rfl⟩ : ∃ k, F = k + 1 := ⟨F - 1, by omega⟩
    have e25 : k = 120 := by omega
    subst e25
    have l : (120 : Int32) ≤ nI 120 := by decide
    have e : F49_32 (nI 120) Q = .inr Q := by unfold F49_32; rw [if_pos l]
    exact ⟨Q, sf_e e ⟨fun _ => trivial, fun z => absurd l z⟩, it_e e, fun p a b => by omega, fun _ _ _ => rfl, rfl⟩
  | succ j ih =>
    intro k Q F hk hF
    obtain ⟨F, rfl⟩ : ∃ k, F = k + 1 := ⟨F - 1, by omega⟩
    have l := n120 (k := k) (by omega)
    have ck : (nI k).toNatClampNeg = k := nI_clamp (by omega)
    have vk : vp_in (nI k) 120 := vp_in_nI (by omega) (by decide)
    have e : F49_32 (nI k) Q = .inl (nI (k + 1), a_w Q 39 k 0) := by unfold F49_32; rw [if_neg l, ck, nI_1]
    obtain ⟨Q', r1, r2, r3, r4, r5⟩ := ih (k + 1) (a_w Q 39 k 0) F (by omega) (by omega)
    refine ⟨Q', sf_s e ⟨fun z => absurd z l, fun _ => ⟨vk, trivial⟩⟩ r1, (it_s (B := fun (s : Int32 × aQ) => F49_32 s.1 s.2) (s := (nI k, Q)) e).trans r2, fun p a b => ?_, fun c i a => ?_, r5⟩
    · by_cases e : p = k
      · subst e; rw [r4 39 p (by omega), w_eq]
      · exact r3 p (by omega) b
    · rw [r4 c i (by omega), w_get, if_neg (by omega)]
def σ00 : Nat → Nat → Pc := fun _ _ => eP
def noA : Nat → Bool := fun _ => false
theorem F49_eq : S49_0 q ∧ memC q (F49_0 q) σ00 noA noA := by
  obtain ⟨Q1, a1, a2, a3, a4, a5⟩ := F49_a 25 0 q 200 rfl (by decide)
  obtain ⟨Q2, b1, b2, b3, b4, b5⟩ := F49_b 120 0 Q1 200 rfl (by decide)
  have a2' : a_it (fun (s : Int32 × aQ) => F49_2 s.1 s.2) 200 (0, q) = some Q1 := a2
  have b2' : a_it (fun (s : Int32 × aQ) => F49_32 s.1 s.2) 200 (0, Q1) = some Q2 := b2
  unfold F49_0 S49_0 F49_30 S49_30 F49_54
  rw [a_lp_eq a2']
  dsimp only
  rw [a_lp_eq b2']
  refine ⟨⟨a1, b1, trivial⟩, fun p hp => (a3 p (by omega) hp).1.fr (fun c j z => b4 c j (by omega)), fun i hi => b3 i (by omega) hi, fun p hp => ?_, fun c j z => ?_, b5.trans a5⟩
  · rw [b4 38 p (by omega)]; exact (a3 p (by omega) hp).2
  · rw [b4 c j (by omega), a4 c j (by omega) (by omega)]
/-- how many alarms -/
def cnt (A : Nat → Bool) : Nat → Nat
  | 0 => 0
  | i + 1 => cnt A i + (if A i = true then 1 else 0)
theorem cnt_le (A : Nat → Bool) : ∀ i, cnt A i ≤ i
  | 0 => Nat.le_refl 0
  | i + 1 => by
    have := cnt_le A i
    show cnt A i + _ ≤ i + 1
    split <;> omega
theorem F50_loop (h : ∀ i, i < 120 → Q.1 39 i = bI (A i)) : ∀ j k F, k + j = 120 → j < F → a_sf (fun (s : Int32 × Int32) => F50_4 s.1 s.2 Q) (fun (s : Int32 × Int32) => S50_4 s.1 s.2 Q) F (nI (cnt A k), nI k) ∧ a_it (fun (s : Int32 × Int32) => F50_4 s.1 s.2 Q) F (nI (cnt A k), nI k) = some (nI (cnt A 120)) := by
  intro j
  induction j with
  | zero =>
    intro k F hk hF
    obtain ⟨F, rfl⟩ : ∃ k, F = k + 1 := ⟨F - 1, by omega⟩
    have e25 : k = 120 := by omega
    subst e25
    have l : (120 : Int32) ≤ nI 120 := by decide
    have e : F50_4 (nI (cnt A 120)) (nI 120) Q = .inr (nI (cnt A 120)) := by unfold F50_4; rw [if_pos l]
    exact ⟨sf_e e ⟨fun _ => trivial, fun z => absurd l z⟩, it_e e⟩
  | succ j ih =>
    intro k F hk hF
    obtain ⟨F, rfl⟩ : ∃ k, F = k + 1 := ⟨F - 1, by omega⟩
    have l := n120 (k := k) (by omega)
    have ck : (nI k).toNatClampNeg = k := nI_clamp (by omega)
    have vk : vp_in (nI k) 120 := vp_in_nI (by omega) (by decide)
    have hb := h k (by omega)
    have e : F50_4 (nI (cnt A k)) (nI k) Q = .inl (nI (cnt A (k + 1)), nI (k + 1)) := by
      unfold F50_4 F50_28
      rw [if_neg l, ck, hb, nI_1]
      show _ = Sum.inl (nI (cnt A k + (if A k = true then 1 else 0)), nI (k + 1))
      cases A k with
      | false => rw [if_pos (show bI false = 0 from rfl), if_neg (by decide), show (0 : Int32) = nI 0 from rfl, nI_add]
      | true => rw [if_neg (show ¬ bI true = 0 by decide), if_pos rfl, nI_1]
    have S : S50_4 (nI (cnt A k)) (nI k) Q := by
      unfold S50_4 S50_28
      exact ⟨fun z => absurd z l, fun _ => ⟨vk, fun _ => trivial, fun _ => trivial⟩⟩
    obtain ⟨r1, r2⟩ := ih (k + 1) F (by omega) (by omega)
    exact ⟨sf_s e S r1, (it_s (B := fun (s : Int32 × Int32) => F50_4 s.1 s.2 Q) (s := (nI (cnt A k), nI k)) e).trans r2⟩
theorem F50_eq (h : ∀ i, i < 120 → Q.1 39 i = bI (A i)) : F50_0 Q = nI (cnt A 120) ∧ S50_0 Q := by
  obtain ⟨r1, r2⟩ := F50_loop h 120 0 200 rfl (by decide)
  have r2' : a_it (fun (s : Int32 × Int32) => F50_4 s.1 s.2 Q) 200 (0, 0) = some (nI (cnt A 120)) := r2
  unfold F50_0 S50_0 F50_36
  rw [a_lp_eq r2']
  exact ⟨rfl, r1, trivial⟩
/-- the state before the first statement -/
def ini (n : Nat) : Nat → Nat → Pc := gro σ00 (sta n) (fun _ => unbP)
/-- what looking through must find -/
def isLk (q : aQ) (n : Nat) (σ : Nat → Nat → Pc) (A : Nat → Bool) : Prop := okF σ ∧ leastF q n (ini n) noA σ A
theorem σ00_ok : okF σ00 := fun _ _ _ _ => eP_ok
theorem unb_ok : stOk (fun _ => unbP) := fun _ _ => unbP_ok
theorem ini_ok : okF (ini n) := gro_ok σ00_ok unb_ok
theorem ini_e {s v : Nat} (h : s ≠ sta n) : ini n s v = eP := gro_same h
/-- not yet looked through: the class does it -/
theorem F48_eq (hE : iE q nE) (h : iP q nE n m o p) (hc : ¬ q.1 19 7 = q.1 8 7) : S48_0 q ∧ ∃ Q' σ A W, F48_0 q = (nI (cnt A 120), Q') ∧ memC (a_w (a_w q 19 7 (nI n)) 19 6 (nI (cnt A 120))) Q' σ A W ∧ isLk (a_w q 19 7 (nI n)) n σ A := by
  have h24 := h.1
  have c7 : q.1 8 7 = nI n := h.2.2.1
  have fr : ∀ c j, ¬ c = 19 → (a_w q 19 7 (nI n)).1 c j = q.1 c j := fun c j z => w_ne z
  have hE0 : iE (a_w q 19 7 (nI n)) nE := iE_fr (fun c j z => fr c j (by omega)) hE
  have h0 : iP (a_w q 19 7 (nI n)) nE n m o p := iP_fr (fun c j z => fr c j (by omega)) h
  generalize hq0 : a_w q 19 7 (nI n) = q0 at *
  obtain ⟨s49, M0⟩ := F49_eq (q := q0)
  obtain ⟨u59, s59⟩ := F59_eq (q := F49_0 q0) (a := 21)
  have M1 := M0.pass u59
  obtain ⟨f41, -⟩ := F41_eq (M1.iP h0)
  have stl := sta_ok (n := n)
  obtain ⟨s51, M2, -⟩ := F51_eq M1 (t := sta n) (a := 21) (y := fun _ => unbP) (by omega) (Or.inl rfl) u59.1
  have gr : grS (σ00 (sta n)) (fun _ => unbP) 5 0 = true := rfl
  rw [gr] at M2
  have I2 : invC q0 n (ini n) noA (wai noA (sta n) true) := by
    refine ⟨fun s hs hw => ?_, fun s hs hw => ?_⟩
    · have ne : s ≠ sta n := fun e => by
        unfold wai at hw
        rw [if_pos ⟨e, rfl⟩] at hw
        cases hw
      rintro ⟨v, hv, nz⟩
      exact absurd (ini_e ne) nz
    · have e : s = sta n := by
        unfold wai at hw
        split at hw
        · rename_i c; exact c.1
        · cases hw
      refine ⟨0, by decide, ?_⟩
      unfold ini gro
      rw [if_pos e]
      intro z
      have := congrArg (fun p : Pc => p.2.2.2) z
      cases this
  obtain ⟨Q', σ, A, W, r1, r2, r3, r4⟩ := rounds_loop hE0 h0 17250 0 (F51_0 21 (nI (sta n)) (F59_0 21 (F49_0 q0))) (ini n) noA (wai noA (sta n) true) 1000001 (by omega) (by omega) (by omega) M2 I2
  have r2' : a_it (fun (t : Int32 × Int32 × aQ) => F48_60 t.1 t.2.1 t.2.2) 1000001 (1, 0, F51_0 21 (nI (sta n)) (F59_0 21 (F49_0 q0))) = some Q' := r2
  obtain ⟨f50, s50⟩ := F50_eq r3.2.1
  refine ⟨?_, a_w Q' 19 6 (nI (cnt A 120)), σ, A, W, ?_, ?_, r3.ok, r4⟩
  · unfold S48_0
    rw [c7, hq0]
    refine ⟨fun _ => trivial, fun _ => ⟨s49, ?_⟩⟩
    unfold S48_34 S48_41 S48_56 S48_139
    rw [f41, a_lp_eq r2']
    exact ⟨s59, ⟨fun _ => trivial, fun _ => trivial⟩, s51, r1, s50, trivial⟩
  · unfold F48_0
    rw [if_neg hc, c7, hq0]
    unfold F48_34 F48_41 F48_56 F48_139
    rw [f41, a_lp_eq r2']
    dsimp only
    rw [f50]
  · refine ⟨fun p hp => (r3.1 p hp).fr (fun c j z => w_ne (by omega)), fun i hi => by rw [w_ne (by decide)]; exact r3.2.1 i hi, fun p hp => by rw [w_ne (by decide)]; exact r3.2.2.1 p hp, fun c j z => ?_, r3.2.2.2.2⟩
    rw [w_get, w_get]
    split
    · rfl
    · exact r3.2.2.2.1 c j z
end
