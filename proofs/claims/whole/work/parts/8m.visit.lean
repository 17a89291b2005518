/-! one visit: the class -/
/-- the class's memory shows the states σ, the alarms A, the places W that wait -/
def memC (q Q : aQ) (σ : Nat → Nat → Pc) (A W : Nat → Bool) : Prop := (∀ p, p < 25 → stAt Q (222 + 17 * p) (σ p)) ∧ (∀ i, i < 120 → Q.1 39 i = bI (A i)) ∧ (∀ p, p < 25 → Q.1 38 p = bI (W p)) ∧ (∀ c j, c ≤ 19 ∨ 647 ≤ c → Q.1 c j = q.1 c j) ∧ Q.2 = q.2
section
variable {q Q : aQ} {nE n m fd : Nat} {o p : Nat → Nat} {σ σ0 : Nat → Nat → Pc} {A A0 W W0 : Nat → Bool}
theorem memC.ok (h : memC q Q σ A W) : okF σ := fun p hp v hv => (h.1 p hp v hv).2
theorem memC.iE (f : memC q Q σ A W) (h : iE q nE) : iE Q nE := iE_fr (fun c j z => f.2.2.2.1 c j (by omega)) h
theorem memC.iP (f : memC q Q σ A W) (h : iP q nE n m o p) : iP Q nE n m o p := iP_fr (fun c j z => f.2.2.2.1 c j (by omega)) h
theorem memC.bh (f : memC q Q σ A W) (s : Nat) : bh Q s = bh q s := bh_fr (fun c j a b => f.2.2.2.1 c j (by omega)) s
theorem memC.en (f : memC q Q σ A W) (s b : Nat) : en Q s b = en q s b := en_fr (fun c j a b => f.2.2.2.1 c j (by omega)) s b
theorem memC.ct (f : memC q Q σ A W) (s : Nat) (k : Int32) : ct Q s k = ct q s k := ct_fr (fun c j a b => f.2.2.2.1 c j (by omega)) s k
theorem memC.ex (f : memC q Q σ A W) : ∀ c j, 1 ≤ c ∧ c ≤ 7 → Q.1 c j = q.1 c j := fun c j z => f.2.2.2.1 c j (by omega)
theorem F51_eq (h : memC q Q σ A W) {t a : Nat} {y : Nat → Pc} (ht : t < 25) (ha : a = 21 ∨ ∃ s, s < 25 ∧ a = 222 + 17 * s ∧ y = σ s) (hy : stAt Q a y) : S51_0 a (nI t) Q ∧ memC q (F51_0 a (nI t) Q) (gro σ t y) A (wai W t (grS (σ t) y 5 0)) ∧ ∀ c j, (21 ≤ c ∧ c ≤ 37) ∨ (42 ≤ c ∧ c ≤ 221) → (F51_0 a (nI t) Q).1 c j = Q.1 c j := by
  have ct : (nI t).toNatClampNeg = t := nI_clamp (by omega)
  have vt : vp_in (nI t) 25 := vp_in_nI ht (by decide)
  obtain ⟨h1, h2, h3, h4, h5⟩ := h
  obtain ⟨s1, Q1, f1, u1⟩ := F61_eq (x := σ t) (y := y) (h1 t ht) hy (by
    rcases ha with e | ⟨s, hs, e, -⟩
    · left; unfold apS; omega
    · by_cases e2 : s = t
      · right; omega
      · left; unfold apS; omega) (by
    intro e u
    rcases ha with e1 | ⟨s, hs, e1, e2⟩
    · omega
    · have : s = t := by omega
      rw [e2, this])
  have Fq : F51_0 a (nI t) Q = F51_10 (nI t) (bI (grS (σ t) y 5 0)) Q1 := by
    unfold F51_0
    rw [ct, f1]
  have Sq : S51_0 a (nI t) Q := by
    unfold S51_0 S51_10
    rw [ct]
    exact ⟨vt, s1, fun _ => trivial, fun _ => ⟨vt, trivial⟩⟩
  refine ⟨Sq, ?_⟩
  rw [Fq]
  -- the memory behind the join
  have m1 : ∀ W', (∀ p, p < 25 → Q1.1 38 p = bI (W' p)) → memC q Q1 (gro σ t y) A W' := by
    intro W' hW
    refine ⟨fun p hp => ?_, fun i hi => ?_, hW, fun c j z => ?_, u1.2.2.trans h5⟩
    · by_cases e : p = t
      · subst e
        intro v hv
        unfold gro
        rw [if_pos rfl]
        exact u1.1 v hv
      · have : stAt Q1 (222 + 17 * p) (σ p) := (h1 p hp).fr (fun c j z => u1.2.1 c j (by omega))
        intro v hv
        rw [gro_same e]
        exact this v hv
    · rw [u1.2.1 39 i (by omega)]; exact h2 i hi
    · rw [u1.2.1 c j (by omega)]; exact h4 c j z
  have W1 : ∀ p, p < 25 → Q1.1 38 p = bI (W p) := fun p hp => by rw [u1.2.1 38 p (by omega)]; exact h3 p hp
  unfold F51_10
  cases hg : grS (σ t) y 5 0 with
  | false =>
    rw [if_pos (show bI false = 0 from rfl)]
    refine ⟨m1 _ (fun p hp => ?_), fun c j z => u1.2.1 c j (by omega)⟩
    rw [W1 p hp]
    unfold wai
    rw [if_neg (fun z => by cases z.2)]
  | true =>
    rw [if_neg (show ¬ bI true = 0 by decide), ct]
    have m2 := m1 W W1
    refine ⟨⟨fun p hp => (m2.1 p hp).fr (fun c j z => w_ne (by omega)), fun i hi => by rw [w_ne (by decide)]; exact m2.2.1 i hi, fun p hp => ?_, fun c j z => by rw [w_ne (by omega)]; exact m2.2.2.2.1 c j z, m2.2.2.2.2⟩, fun c j z => by rw [w_ne (by omega)]; exact u1.2.1 c j (by omega)⟩
    unfold wai
    by_cases e : p = t
    · subst e; rw [w_eq, if_pos ⟨rfl, rfl⟩]; rfl
    · rw [w_nk e, if_neg (fun z => e z.1)]; exact W1 p hp
theorem rch_mono {x y : Nat → Pc} (h : leS x y) (ox : stOk x) (r : rch x) : rch y := by
  obtain ⟨v, hv, ne⟩ := r
  refine ⟨v, hv, fun e => ne ?_⟩
  have a := h v hv
  rw [e] at a
  exact leP.as a (okP_le (ox v hv))
/-- errors raised at s flow, or alarm -/
theorem F56_loop (hE : iE q nE) (h : iP q nE n m o p) {s : Nat} {mk : Int32} (hs : s < n) (hr : rch (σ0 s)) (h0 : okF σ0) (hm : ∀ k, 1 ≤ k → k ≤ 4 → (((mk >>> (nI k &&& 31)) &&& 1) = 0 ↔ ¬ er q s (σ0 s) k)) : ∀ j k Q σ A W F, k + j = 5 → 1 ≤ k → j < F → memC q Q σ A W → rea q s σ0 A0 W0 σ A W → ∃ Q' σ' A' W', a_sf (fun (t : Int32 × aQ) => F56_2 (nI s) mk t.1 t.2) (fun (t : Int32 × aQ) => S56_2 (nI s) mk t.1 t.2) F (nI k, Q) ∧ a_it (fun (t : Int32 × aQ) => F56_2 (nI s) mk t.1 t.2) F (nI k, Q) = some Q' ∧ memC q Q' σ' A' W' ∧ rea q s σ0 A0 W0 σ' A' W' ∧ leF σ σ' ∧ leA A A' ∧ (∀ c i, (21 ≤ c ∧ c ≤ 37) ∨ (42 ≤ c ∧ c ≤ 221) → Q'.1 c i = Q.1 c i) ∧ (∀ i, k ≤ i → i ≤ 4 → er q s (σ0 s) i → (∀ c, ct q s (nI i) = some c → leS (σ0 s) (σ' (en q c 1))) ∧ (ct q s (nI i) = none → A' (5 * s + i) = true)) := by
  have h24 := h.1
  intro j
  induction j with
  | zero =>
    intro k Q σ A W F hk _ hF hM hR
    obtain ⟨F, rfl⟩ : ∃ k, F = k + 1 := ⟨F - 1, by omega⟩
    have e5 : k = 5 := by omega
    subst e5
    have l : (4 : Int32) < nI 5 := by decide
    have e : F56_2 (nI s) mk (nI 5) Q = .inr Q := by unfold F56_2; rw [if_pos l]
    exact ⟨Q, σ, A, W, sf_e e ⟨fun _ => trivial, fun z => absurd l z⟩, it_e e, hM, hR, leF.rf, fun _ _ => id, fun _ _ _ => rfl, fun i a b => by omega⟩
  | succ j ih =>
    intro k Q σ A W F hk hk1 hF hM hR
    obtain ⟨F, rfl⟩ : ∃ k, F = k + 1 := ⟨F - 1, by omega⟩
    have l : ¬ (4 : Int32) < nI k := nI_nlt (a := 4) (by omega) (by decide)
    have ck : (nI s).toNatClampNeg = s := nI_clamp (by omega)
    have vs : vp_in (nI s) 25 := vp_in_nI (by omega) (by decide)
    have bit := hm k hk1 (by omega)
    by_cases b0 : ((mk >>> (nI k &&& 31)) &&& 1) = 0
    · have e : F56_2 (nI s) mk (nI k) Q = .inl (nI (k + 1), Q) := by unfold F56_2 F56_58; rw [if_neg l, if_pos b0, nI_1]
      obtain ⟨Q', σ', A', W', r1, r2, r3, r4, r5, r6, r7, r8⟩ := ih (k + 1) Q σ A W F (by omega) (by omega) (by omega) hM hR
      refine ⟨Q', σ', A', W', sf_s e ⟨fun z => absurd z l, fun _ => ⟨fun _ => trivial, fun z => absurd b0 z⟩⟩ r1, (it_s (B := fun (t : Int32 × aQ) => F56_2 (nI s) mk t.1 t.2) (s := (nI k, Q)) e).trans r2, r3, r4, r5, r6, r7, fun i a b c => ?_⟩
      by_cases e : i = k
      · subst e; exact absurd c (bit.mp b0)
      · exact r8 i (by omega) b c
    · have he : er q s (σ0 s) k := Classical.byContradiction fun z => b0 (bit.mpr z)
      obtain ⟨f1, f2⟩ := F44_eq (hM.iP h) hs (nI k)
      rw [hM.ct] at f1
      -- what a closed state above has
      have up : ∀ μ B, leF σ0 μ → cAt q μ B s → er q s (μ s) k ∧ (∀ t y, fw q s (μ s) t y → leS y (μ t)) ∧ ∀ k, al q s (μ s) k → B (5 * s + k) = true := by
        intro μ B a c
        obtain ⟨c1, c2⟩ := c (rch_mono (a s (by omega)) (h0 s (by omega)) hr)
        exact ⟨er_mono hE h hs (a s (by omega)) he, c1, c2⟩
      cases hc : ct q s (nI k) with
      | none =>
        rw [hc] at f1
        have f1 : F44_0 (nI s) (nI k) Q = -1 := f1
        have ix : nI s * 5 + nI k = nI (5 * s + k) := by rw [show (5 : Int32) = nI 5 from rfl, pk_mul, nI_add, Nat.mul_comm]
        have ci : (nI (5 * s + k)).toNatClampNeg = 5 * s + k := nI_clamp (by omega)
        have vi : vp_in (nI (5 * s + k)) 120 := vp_in_nI (by omega) (by decide)
        have e : F56_2 (nI s) mk (nI k) Q = .inl (nI (k + 1), a_w Q 39 (5 * s + k) 1) := by
          unfold F56_2 F56_58; rw [if_neg l, if_neg b0, f1, if_pos rfl, ix, ci, nI_1]
        have S : S56_2 (nI s) mk (nI k) Q := by
          unfold S56_2 S56_58
          rw [f1, ix]
          exact ⟨fun z => absurd z l, fun _ => ⟨fun z => absurd z b0, fun _ => ⟨f2, fun _ => ⟨vi, trivial⟩, fun z => absurd rfl z⟩⟩⟩
        have M1 : memC q (a_w Q 39 (5 * s + k) 1) σ (setA A (5 * s + k)) W := by
          refine ⟨fun p hp => (hM.1 p hp).fr (fun c i z => w_ne (by omega)), fun i hi => ?_, fun p hp => by rw [w_ne (by decide)]; exact hM.2.2.1 p hp, fun c i z => by rw [w_ne (by omega)]; exact hM.2.2.2.1 c i z, hM.2.2.2.2⟩
          unfold setA
          by_cases e : i = 5 * s + k
          · subst e; rw [w_eq, if_pos rfl]; rfl
          · rw [w_nk e, if_neg e]; exact hM.2.1 i hi
        have R1 := hR.alarm (i := 5 * s + k) (fun μ B a b c d => (up μ B b d).2.2 k ⟨hk1, by omega, (up μ B b d).1, hc⟩)
        obtain ⟨Q', σ', A', W', r1, r2, r3, r4, r5, r6, r7, r8⟩ := ih (k + 1) _ σ _ W F (by omega) (by omega) (by omega) M1 R1
        refine ⟨Q', σ', A', W', sf_s e S r1, (it_s (B := fun (t : Int32 × aQ) => F56_2 (nI s) mk t.1 t.2) (s := (nI k, Q)) e).trans r2, r3, r4, r5, fun i hi z => r6 i hi (by unfold setA; split; rfl; exact z), fun c i z => by rw [r7 c i z, w_ne (by omega)], fun i a b c => ?_⟩
        by_cases e : i = k
        · subst e
          refine ⟨fun c hc' => (by rw [hc] at hc'; cases hc'), fun _ => r6 _ (by omega) ?_⟩
          unfold setA; rw [if_pos rfl]
        · exact r8 i (by omega) b c
      | some c =>
        rw [hc] at f1
        have hcl := ct_lt h hs hc
        have f1 : F44_0 (nI s) (nI k) Q = nI (en q c 1) := by rw [f1]; show nI (en Q c 1) = _; rw [hM.en]
        have tl := en_lt h hcl.1 (b := 1) (by decide)
        have nm : ¬ nI (en q c 1) = (-1 : Int32) := nI_nm1 (by omega)
        obtain ⟨g1, g2, g3⟩ := F51_eq hM (t := en q c 1) (a := 222 + 17 * s) (y := σ s) (by omega) (Or.inr ⟨s, by omega, rfl, rfl⟩) (hM.1 s (by omega))
        have e : F56_2 (nI s) mk (nI k) Q = .inl (nI (k + 1), F51_0 (222 + 17 * s) (nI (en q c 1)) Q) := by
          unfold F56_2 F56_58; rw [if_neg l, if_neg b0, f1, if_neg nm, ck, nI_1]
        have S : S56_2 (nI s) mk (nI k) Q := by
          unfold S56_2 S56_58
          rw [f1, ck]
          exact ⟨fun z => absurd z l, fun _ => ⟨fun z => absurd z b0, fun _ => ⟨f2, fun z => absurd z nm, fun _ => ⟨vs, g1, trivial⟩⟩⟩⟩
        have R1 := hR.flow (t := en q c 1) (y := σ s) (by omega) (hM.ok s (by omega)) (fun μ B a b c' d => by
          have u := up μ B b d
          exact (c' s (by omega)).tr (u.2.1 (en q c 1) (μ s) (Or.inl ⟨k, c, hk1, by omega, u.1, hc, rfl, rfl⟩)))
        obtain ⟨Q', σ', A', W', r1, r2, r3, r4, r5, r6, r7, r8⟩ := ih (k + 1) _ _ _ _ F (by omega) (by omega) (by omega) g2 R1
        refine ⟨Q', σ', A', W', sf_s e S r1, (it_s (B := fun (t : Int32 × aQ) => F56_2 (nI s) mk t.1 t.2) (s := (nI k, Q)) e).trans r2, r3, r4, gro_le.tr r5, r6, fun c i z => by rw [r7 c i z, g3 c i z], fun i a b c' => ?_⟩
        by_cases e : i = k
        · subst e
          refine ⟨fun d hd => ?_, fun hd => by rw [hc] at hd; cases hd⟩
          rw [hc] at hd
          injection hd with hd
          subst hd
          exact ((hR.1 s (by omega)).tr gro_t).tr (r5 _ (by omega))
        · exact r8 i (by omega) b c'
/-- what is behind the errors of s -/
def errD (q : aQ) (s : Nat) (x : Nat → Pc) (σ : Nat → Nat → Pc) (A : Nat → Bool) : Prop := ∀ i, 1 ≤ i → i ≤ 4 → er q s x i → (∀ c, ct q s (nI i) = some c → leS x (σ (en q c 1))) ∧ (ct q s (nI i) = none → A (5 * s + i) = true)
theorem F56_eq (hE : iE q nE) (h : iP q nE n m o p) {s : Nat} {mk : Int32} (hs : s < n) (hr : rch (σ0 s)) (h0 : okF σ0) (hm : ∀ k, 1 ≤ k → k ≤ 4 → (((mk >>> (nI k &&& 31)) &&& 1) = 0 ↔ ¬ er q s (σ0 s) k)) (hM : memC q Q σ A W) (hR : rea q s σ0 A0 W0 σ A W) : S56_0 (nI s) mk Q ∧ ∃ σ' A' W', memC q (F56_0 (nI s) mk Q) σ' A' W' ∧ rea q s σ0 A0 W0 σ' A' W' ∧ leF σ σ' ∧ leA A A' ∧ (∀ c i, (21 ≤ c ∧ c ≤ 37) ∨ (42 ≤ c ∧ c ≤ 221) → (F56_0 (nI s) mk Q).1 c i = Q.1 c i) ∧ errD q s (σ0 s) σ' A' := by
  obtain ⟨Q', σ', A', W', r1, r2, r3, r4, r5, r6, r7, r8⟩ := F56_loop hE h hs hr h0 hm 4 1 Q σ A W 200 rfl (Nat.le_refl 1) (by decide) hM hR
  have r2' : a_it (fun (t : Int32 × aQ) => F56_2 (nI s) mk t.1 t.2) 200 (1, Q) = some Q' := r2
  unfold F56_0 S56_0 F56_64
  rw [a_lp_eq r2']
  exact ⟨⟨r1, trivial⟩, σ', A', W', r3, r4, r5, r6, r7, r8⟩
end
