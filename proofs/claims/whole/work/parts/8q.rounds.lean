/-! the class looks through: rounds -/
def clo (q : aQ) (n : Nat) (σ : Nat → Nat → Pc) (A : Nat → Bool) : Prop := ∀ s, s < n → cAt q σ A s
/-- what is not waiting is closed; what waits is reached -/
def invC (q : aQ) (n : Nat) (σ : Nat → Nat → Pc) (A W : Nat → Bool) : Prop := (∀ s, s < n → W s = false → cAt q σ A s) ∧ ∀ p, p < 25 → W p = true → rch (σ p)
section
variable {q Q : aQ} {nE n m fd : Nat} {o p : Nat → Nat} {σ τ : Nat → Nat → Pc} {A B W : Nat → Bool}
theorem fw_lt (h : iP q nE n m o p) {s t : Nat} {x y : Nat → Pc} (hs : s < n) (f : fw q s x t y) : t < 25 := by
  have h24 := h.1
  rcases f with ⟨k, c, b1, b2, b3, b4, b5, b6⟩ | ⟨b1, b2, b3, b4⟩ | ⟨b1, b2, b3⟩ | ⟨b1, b2, b3⟩ | ⟨b1, b2, b3⟩ | ⟨b1, b2, b3, b4⟩ | ⟨b1, b2, b3, b4⟩
  · have := en_lt h (ct_lt h hs b4).1 (b := 1) (by decide); omega
  · have := bh_lt h hs; omega
  · have a := ((kd_d h hs).2.2 (Or.inl b1)).1
    have := bh_lt h (s := vr q s) (by omega); omega
  · have a := ((kd_d h hs).2.2 (Or.inr b1)).1; omega
  · have := en_lt h hs (b := 0) (by decide); omega
  · have := en_lt h hs (b := 0) (by decide); omega
  · have := en_lt h hs (b := 1) (by decide); omega
theorem eqS_le {x y : Nat → Pc} (h : ∀ v, v < 5 → x v = y v) : leS x y := fun v hv => by rw [h v hv]; exact leP.rf
/-- closed at s stays so while s itself is left alone -/
theorem cAt_keep (hE : iE q nE) (h : iP q nE n m o p) {s : Nat} (hs : s < n) (h1 : leF σ τ) (h2 : leA A B) (h3 : ∀ v, v < 5 → τ s v = σ s v) (oσ : okF σ) (oτ : okF τ) (c : cAt q σ A s) : cAt q τ B s := by
  have h24 := h.1
  intro r
  have le := eqS_le h3
  obtain ⟨c1, c2⟩ := c (rch_mono le (oτ s (by omega)) r)
  refine ⟨fun t y f => ?_, fun k f => ?_⟩
  · obtain ⟨y0, f0, l0⟩ := fw_mono hE h hs le f
    exact (l0.tr (c1 t y0 f0)).tr (h1 t (fw_lt h hs f0))
  · have := f.2.1
    exact h2 _ (by omega) (c2 k (al_mono hE h hs le f))
theorem don_cAt (hE : iE q nE) (h : iP q nE n m o p) {s : Nat} (hs : s < n) (h3 : ∀ v, v < 5 → τ s v = σ s v) (d : don q s (σ s) τ B) : cAt q τ B s := by
  intro _
  have le := eqS_le h3
  refine ⟨fun t y f => ?_, fun k f => d.2 k (al_mono hE h hs le f)⟩
  obtain ⟨y0, f0, l0⟩ := fw_mono hE h hs le f
  exact l0.tr (d.1 t y0 f0)
theorem rch_chg {s : Nat} (hs : s < 25) (oσ : okF σ) (h1 : leF σ τ) (c : chg σ τ s) : rch (τ s) := by
  obtain ⟨v, hv, ne⟩ := c
  refine ⟨v, hv, fun e => ne ?_⟩
  have a := h1 s hs v hv
  rw [e] at a ⊢
  exact (leP.as a (okP_le (oσ s hs v hv))).symm
def offW (W : Nat → Bool) (s : Nat) : Nat → Bool := fun p => if p = s then false else W p
theorem offW_s {s : Nat} : offW W s s = false := by unfold offW; rw [if_pos rfl]
theorem offW_n {s p : Nat} (h : p ≠ s) : offW W s p = W p := by unfold offW; rw [if_neg h]
theorem memC_off (hM : memC q Q σ A W) {s : Nat} : memC q (a_w Q 38 s 0) σ A (offW W s) := by
  refine ⟨fun p hp => (hM.1 p hp).fr (fun c i z => w_ne (by omega)), fun i hi => by rw [w_ne (by decide)]; exact hM.2.1 i hi, fun p hp => ?_, fun c i z => by rw [w_ne (by omega)]; exact hM.2.2.2.1 c i z, hM.2.2.2.2⟩
  unfold offW
  by_cases e : p = s
  · subst e; rw [w_eq, if_pos rfl]; rfl
  · rw [w_nk e, if_neg e]; exact hM.2.2.1 p hp
/-- one visit, from the outside -/
theorem visit_inv (hE : iE q nE) (h : iP q nE n m o p) {s : Nat} {σ' : Nat → Nat → Pc} {A' W' : Nat → Bool} (hs : s < n) (hI : invC q n σ A W) (oσ : okF σ) (R : rea q s σ A (offW W s) σ' A' W') (D : don q s (σ s) σ' A') : invC q n σ' A' W' := by
  have h24 := h.1
  obtain ⟨r1, r2, r3, r4, r5, r6, r7⟩ := R
  refine ⟨fun u hu hw => ?_, fun u hu hw => ?_⟩
  · have nc : ¬ chg σ σ' u := fun c => by rw [r5 u (by omega) c] at hw; cases hw
    have eq : ∀ v, v < 5 → σ' u v = σ u v := fun v hv => chg_no nc hv
    by_cases e : u = s
    · subst e; exact don_cAt hE h hu eq D
    · have w0 : W u = false := by
        cases hW : W u with
        | false => rfl
        | true => rw [r4 u (by omega) (by rw [offW_n e]; exact hW)] at hw; cases hw
      exact cAt_keep hE h hu r1 r3 eq oσ r2 (hI.1 u hu w0)
  · rcases r6 u hu hw with z | z
    · by_cases e : u = s
      · subst e; rw [offW_s] at z; cases z
      · rw [offW_n e] at z
        exact rch_mono (r1 u hu) (oσ u hu) (hI.2 u hu z)
    · exact rch_chg hu oσ r1 z
/-- what a round does -/
def rnd (q : aQ) (n k : Nat) (σ : Nat → Nat → Pc) (A W : Nat → Bool) (b : Bool) (σ' : Nat → Nat → Pc) (A' W' : Nat → Bool) (b' : Bool) : Prop := invC q n σ' A' W' ∧ leF σ σ' ∧ leA A A' ∧ (b' = false → b = false ∧ ∀ p, p < 25 → ¬ chg σ σ' p) ∧ ((∀ p, p < 25 → ¬ chg σ σ' p) → ∀ s, k ≤ s → s < n → W' s = false) ∧ ((∀ p, p < 25 → ¬ chg σ σ' p) → ∀ s, s < k → W s = false → W' s = false) ∧ (∀ μ B, okF μ → leF σ μ → leA A B → clo q n μ B → leF σ' μ ∧ leA A' B) ∧ ((∀ s, k ≤ s → s < n → W s = false) → b' = b)
theorem round_loop (hE : iE q nE) (h : iP q nE n m o p) {v2 : Int32} : ∀ j k Q σ A W b F, k + j = n → j < F → memC q Q σ A W → invC q n σ A W → ∃ Q' σ' A' W' b', a_sf (fun (t : Int32 × Int32 × aQ) => F48_74 v2 t.1 t.2.1 t.2.2) (fun (t : Int32 × Int32 × aQ) => S48_74 v2 t.1 t.2.1 t.2.2) F (bI b, nI k, Q) ∧ a_it (fun (t : Int32 × Int32 × aQ) => F48_74 v2 t.1 t.2.1 t.2.2) F (bI b, nI k, Q) = some (bI b', Q') ∧ memC q Q' σ' A' W' ∧ rnd q n k σ A W b σ' A' W' b' := by
  have h24 := h.1
  intro j
  induction j with
  | zero =>
    intro k Q σ A W b F hk hF hM hI
    obtain ⟨F, rfl⟩ : ∃ k, F = k + 1 := ⟨F - 1, by omega⟩
    have c7 : Q.1 8 7 = nI n := by rw [hM.2.2.2.1 8 7 (by omega)]; exact h.2.2.1
    have le : nI n ≤ nI k := nI_le (by omega) (by omega)
    have e : F48_74 v2 (bI b) (nI k) Q = .inr (bI b, Q) := by unfold F48_74; rw [c7, if_pos le]
    have S : S48_74 v2 (bI b) (nI k) Q := by
      unfold S48_74
      rw [c7]
      exact ⟨fun _ => trivial, fun z => absurd le z⟩
    exact ⟨Q, σ, A, W, b, sf_e e S, it_e e, hM, hI, leF.rf, fun _ _ => id, fun z => ⟨z, fun p _ ⟨v, _, ne⟩ => absurd rfl ne⟩, fun _ s a b => by omega, fun _ s _ z => z, fun μ B _ a b _ => ⟨a, b⟩, fun _ => rfl⟩
  | succ j ih =>
    intro k Q σ A W b F hk hF hM hI
    obtain ⟨F, rfl⟩ : ∃ k, F = k + 1 := ⟨F - 1, by omega⟩
    have hs : k < n := by omega
    have c7 : Q.1 8 7 = nI n := by rw [hM.2.2.2.1 8 7 (by omega)]; exact h.2.2.1
    have le : ¬ nI n ≤ nI k := nI_ge hs (by omega)
    have ck : (nI k).toNatClampNeg = k := nI_clamp (by omega)
    have vk : vp_in (nI k) 25 := vp_in_nI (by omega) (by decide)
    have w38 := hM.2.2.1 k (by omega)
    cases hW : W k with
    | false =>
      rw [hW] at w38
      have w0 : Q.1 38 k = 0 := w38
      have e : F48_74 v2 (bI b) (nI k) Q = .inl (bI b, nI (k + 1), Q) := by unfold F48_74 F48_127; rw [c7, if_neg le, ck, if_pos w0, nI_1]
      have S : S48_74 v2 (bI b) (nI k) Q := by
        unfold S48_74 S48_127
        rw [c7, ck]
        exact ⟨fun z => absurd z le, fun _ => ⟨vk, fun _ => trivial, fun z => absurd w0 z⟩⟩
      obtain ⟨Q', σ', A', W', b', r1, r2, r3, r4, r5, r6, r7, r8, r9, r10, r11⟩ := ih (k + 1) Q σ A W b F (by omega) (by omega) hM hI
      refine ⟨Q', σ', A', W', b', sf_s e S r1, (it_s (B := fun (t : Int32 × Int32 × aQ) => F48_74 v2 t.1 t.2.1 t.2.2) (s := (bI b, nI k, Q)) e).trans r2, r3, r4, r5, r6, r7, fun z s a c => ?_, fun z s a c => r9 z s (by omega) c, r10, fun z => r11 (fun s a c => z s (by omega) c)⟩
      by_cases e : s = k
      · subst e; exact r9 z s (by omega) hW
      · exact r8 z s (by omega) c
    | true =>
      rw [hW] at w38
      have w1 : ¬ Q.1 38 k = 0 := by rw [w38]; decide
      have hr := hI.2 k (by omega) hW
      have M0 := memC_off hM (s := k)
      have f34 : F34_0 (nI k) (a_w Q 38 k 0) = if q.1 9 k = 0 then 1 else if q.1 9 k = 4 then 1 else if q.1 9 k = 5 then 1 else 0 := by
        unfold F34_0
        rw [ck, M0.2.2.2.1 9 k (by omega)]
      have s34 := S34_ok (M0.iP h) hs
      -- the visit, whichever
      have V : ∃ Q1 σ1 A1 W1, F48_74 v2 (bI b) (nI k) Q = .inl (bI true, nI (k + 1), Q1) ∧ S48_74 v2 (bI b) (nI k) Q ∧ memC q Q1 σ1 A1 W1 ∧ rea q k σ A (offW W k) σ1 A1 W1 ∧ don q k (σ k) σ1 A1 := by
        by_cases hk0 : q.1 9 k = 0 ∨ q.1 9 k = 4 ∨ q.1 9 k = 5
        · obtain ⟨v1, σ1, A1, W1, v2', v3, v4⟩ := visit_expr hE h hs hr M0 hk0
          have f1 : ¬ F34_0 (nI k) (a_w Q 38 k 0) = 0 := by
            rw [f34]
            rcases hk0 with z | z | z <;> rw [z] <;> decide
          refine ⟨F53_0 (nI k) (a_w Q 38 k 0), σ1, A1, W1, ?_, ?_, v2', v3, v4⟩
          · unfold F48_74 F48_119 F48_127
            rw [c7, if_neg le, ck, if_neg w1, if_neg f1, nI_1]; rfl
          · unfold S48_74 S48_119 S48_127
            rw [c7, ck]
            exact ⟨fun z => absurd z le, fun _ => ⟨vk, fun z => absurd z w1, fun _ => ⟨vk, s34, fun z => absurd z f1, fun _ => ⟨v1, trivial⟩⟩⟩⟩
        · obtain ⟨v1, σ1, A1, W1, v2', v3, v4⟩ := visit_plain hE h hs hr M0 hk0
          have f1 : F34_0 (nI k) (a_w Q 38 k 0) = 0 := by
            rw [f34, if_neg (fun z => hk0 (Or.inl z)), if_neg (fun z => hk0 (Or.inr (Or.inl z))), if_neg (fun z => hk0 (Or.inr (Or.inr z)))]
          refine ⟨F52_0 (nI k) (a_w Q 38 k 0), σ1, A1, W1, ?_, ?_, v2', v3, v4⟩
          · unfold F48_74 F48_127
            rw [c7, if_neg le, ck, if_neg w1, if_pos f1, nI_1]; rfl
          · unfold S48_74 S48_119 S48_127
            rw [c7, ck]
            exact ⟨fun z => absurd z le, fun _ => ⟨vk, fun z => absurd z w1, fun _ => ⟨vk, s34, fun _ => ⟨v1, trivial⟩, fun z => absurd f1 z⟩⟩⟩
      obtain ⟨Q1, σ1, A1, W1, e, S, M1, R1, D1⟩ := V
      have I1 := visit_inv hE h hs hI hM.ok R1 D1
      obtain ⟨Q', σ', A', W', b', r1, r2, r3, r4, r5, r6, r7, r8, r9, r10, r11⟩ := ih (k + 1) Q1 σ1 A1 W1 true F (by omega) (by omega) M1 I1
      obtain ⟨a1, a2, a3, a4, a5, a6, a7⟩ := R1
      have ng : (∀ p, p < 25 → ¬ chg σ σ' p) → (∀ p, p < 25 → ¬ chg σ σ1 p) ∧ ∀ p, p < 25 → ¬ chg σ1 σ' p := fun z => ⟨fun p hp c => z p hp ((chg_mid hp a1 r5).mp (Or.inl c)), fun p hp c => z p hp ((chg_mid hp a1 r5).mp (Or.inr c))⟩
      have wf : (∀ p, p < 25 → ¬ chg σ σ1 p) → ∀ p, p < 25 → (p = k ∨ W p = false) → W1 p = false := by
        intro z p hp hpk
        cases hw : W1 p with
        | false => rfl
        | true =>
          exfalso
          rcases a6 p hp hw with y | y
          · rcases hpk with e | e
            · subst e; rw [offW_s] at y; cases y
            · by_cases e2 : p = k
              · subst e2; rw [offW_s] at y; cases y
              · rw [offW_n e2, e] at y; cases y
          · exact z p hp y
      refine ⟨Q', σ', A', W', b', sf_s e S r1, (it_s (B := fun (t : Int32 × Int32 × aQ) => F48_74 v2 t.1 t.2.1 t.2.2) (s := (bI b, nI k, Q)) e).trans r2, r3, r4, a1.tr r5, fun i hi z => r6 i hi (a3 i hi z), fun z => ?_, fun z s a c => ?_, fun z s a c => ?_, fun μ B x y w c => ?_, fun z => ?_⟩
      · exact absurd (r7 z).1 (by decide)
      · obtain ⟨n1, n2⟩ := ng z
        by_cases e : s = k
        · subst e; exact r9 n2 s (by omega) (wf n1 s (by omega) (Or.inl rfl))
        · exact r8 n2 s (by omega) c
      · obtain ⟨n1, n2⟩ := ng z
        exact r9 n2 s (by omega) (wf n1 s (by omega) (Or.inr c))
      · obtain ⟨u1, u2⟩ := a7 μ B x y w (c k hs)
        exact r10 μ B x u1 u2 c
      · rw [z k (Nat.le_refl k) hs] at hW; cases hW
/-- closed, and below all that is closed -/
def leastF (q : aQ) (n : Nat) (σ : Nat → Nat → Pc) (A : Nat → Bool) (σ' : Nat → Nat → Pc) (A' : Nat → Bool) : Prop := clo q n σ' A' ∧ leF σ σ' ∧ leA A A' ∧ ∀ μ B, okF μ → leF σ μ → leA A B → clo q n μ B → leF σ' μ ∧ leA A' B
theorem rounds_loop (hE : iE q nE) (h : iP q nE n m o p) : ∀ N r Q σ A W F, 17250 - SZa σ ≤ N → r + N + 3 ≤ 1000000 → N + 3 ≤ F → memC q Q σ A W → invC q n σ A W → ∃ Q' σ' A' W', a_sf (fun (t : Int32 × Int32 × aQ) => F48_60 t.1 t.2.1 t.2.2) (fun (t : Int32 × Int32 × aQ) => S48_60 t.1 t.2.1 t.2.2) F (1, nI r, Q) ∧ a_it (fun (t : Int32 × Int32 × aQ) => F48_60 t.1 t.2.1 t.2.2) F (1, nI r, Q) = some Q' ∧ memC q Q' σ' A' W' ∧ leastF q n σ A σ' A' := by
  have h24 := h.1
  -- one round
  have one : ∀ r Q σ A W, r + 1 ≤ 1000000 → memC q Q σ A W → invC q n σ A W → ∃ Q' σ' A' W' b', F48_60 1 (nI r) Q = .inl (bI b', nI (r + 1), Q') ∧ S48_60 1 (nI r) Q ∧ memC q Q' σ' A' W' ∧ rnd q n 0 σ A W false σ' A' W' b' := by
    intro r Q σ A W hr hM hI
    have n1 : ¬ (1 : Int32) = 0 := by decide
    have n2 : ¬ (1000000 : Int32) ≤ nI r := nI_ge (b := 1000000) (by omega) (by decide)
    obtain ⟨Q', σ', A', W', b', r1, r2, r3, r4⟩ := round_loop (v2 := nI r) hE h n 0 Q σ A W false 200 (by omega) (by omega) hM hI
    have r2' : a_it (fun (t : Int32 × Int32 × aQ) => F48_74 (nI r) t.1 t.2.1 t.2.2) 200 (0, 0, Q) = some (bI b', Q') := r2
    refine ⟨Q', σ', A', W', b', ?_, ?_, r3, r4⟩
    · unfold F48_60 F48_133
      rw [if_neg n1, if_neg n2, a_lp_eq r2', nI_1]
    · unfold S48_60 S48_133
      exact ⟨fun z => absurd z n1, fun _ => ⟨fun z => absurd z n2, fun _ => ⟨r1, trivial⟩⟩⟩
  -- the end
  have fin : ∀ r Q F, a_sf (fun (t : Int32 × Int32 × aQ) => F48_60 t.1 t.2.1 t.2.2) (fun (t : Int32 × Int32 × aQ) => S48_60 t.1 t.2.1 t.2.2) (F + 1) (bI false, nI r, Q) ∧ a_it (fun (t : Int32 × Int32 × aQ) => F48_60 t.1 t.2.1 t.2.2) (F + 1) (bI false, nI r, Q) = some Q := by
    intro r Q F
    have e : F48_60 (bI false) (nI r) Q = .inr Q := by unfold F48_60; rw [if_pos (show bI false = 0 from rfl)]
    exact ⟨sf_e e ⟨fun _ => trivial, fun z => absurd (show bI false = 0 from rfl) z⟩, it_e e⟩
  have closd : ∀ σ A W, invC q n σ A W → (∀ s, s < n → W s = false) → clo q n σ A := fun σ A W hI hW s hs => hI.1 s hs (hW s hs)
  intro N
  induction N with
  | zero =>
    intro r Q σ A W F hN hr hF hM hI
    obtain ⟨F, rfl⟩ : ∃ k, F = k + 2 + 1 := ⟨F - 3, by omega⟩
    obtain ⟨Q1, σ1, A1, W1, b1, e1, S1, M1, I1, l1, m1, f1, g1, -, u1, -⟩ := one r Q σ A W (by omega) hM hI
    have ng : ∀ p, p < 25 → ¬ chg σ σ1 p := fun p hp c => by
      have := SZa_le hM.ok M1.ok l1
      have := this.2.2 ⟨p, hp, c⟩
      omega
    have w1 : ∀ s, s < n → W1 s = false := fun s hs => g1 ng s (Nat.zero_le s) hs
    cases b1 with
    | false =>
      obtain ⟨a, b⟩ := fin (r + 1) Q1 (F + 1)
      exact ⟨Q1, σ1, A1, W1, sf_s e1 S1 a, (it_s (B := fun (t : Int32 × Int32 × aQ) => F48_60 t.1 t.2.1 t.2.2) (s := (1, nI r, Q)) e1).trans b, M1, closd σ1 A1 W1 I1 w1, l1, m1, u1⟩
    | true =>
      obtain ⟨Q2, σ2, A2, W2, b2, e2, S2, M2, I2, l2, m2, f2, g2, -, u2, z2⟩ := one (r + 1) Q1 σ1 A1 W1 (by omega) M1 I1
      have b0 : b2 = false := z2 (fun s _ hs => w1 s hs)
      subst b0
      have w2 : ∀ s, s < n → W2 s = false := fun s hs => g2 (f2 rfl).2 s (Nat.zero_le s) hs
      obtain ⟨a, b⟩ := fin (r + 1 + 1) Q2 F
      exact ⟨Q2, σ2, A2, W2, sf_s e1 S1 (sf_s e2 S2 a), ((it_s (B := fun (t : Int32 × Int32 × aQ) => F48_60 t.1 t.2.1 t.2.2) (s := (1, nI r, Q)) e1).trans (it_s (B := fun (t : Int32 × Int32 × aQ) => F48_60 t.1 t.2.1 t.2.2) (s := (1, nI (r + 1), Q1)) e2)).trans b, M2, closd σ2 A2 W2 I2 w2, l1.tr l2, fun i hi z => m2 i hi (m1 i hi z), fun μ B a b c d => by
        obtain ⟨x, y⟩ := u1 μ B a b c d
        exact u2 μ B a x y d⟩
  | succ N ih =>
    intro r Q σ A W F hN hr hF hM hI
    obtain ⟨F, rfl⟩ : ∃ k, F = k + 3 + 1 := ⟨F - 4, by omega⟩
    obtain ⟨Q1, σ1, A1, W1, b1, e1, S1, M1, I1, l1, m1, f1, g1, -, u1, -⟩ := one r Q σ A W (by omega) hM hI
    cases b1 with
    | false =>
      have w1 : ∀ s, s < n → W1 s = false := fun s hs => g1 (f1 rfl).2 s (Nat.zero_le s) hs
      obtain ⟨a, b⟩ := fin (r + 1) Q1 (F + 2)
      exact ⟨Q1, σ1, A1, W1, sf_s e1 S1 a, (it_s (B := fun (t : Int32 × Int32 × aQ) => F48_60 t.1 t.2.1 t.2.2) (s := (1, nI r, Q)) e1).trans b, M1, closd σ1 A1 W1 I1 w1, l1, m1, u1⟩
    | true =>
      by_cases ng : ∀ p, p < 25 → ¬ chg σ σ1 p
      · have w1 : ∀ s, s < n → W1 s = false := fun s hs => g1 ng s (Nat.zero_le s) hs
        obtain ⟨Q2, σ2, A2, W2, b2, e2, S2, M2, I2, l2, m2, f2, g2, -, u2, z2⟩ := one (r + 1) Q1 σ1 A1 W1 (by omega) M1 I1
        have b0 : b2 = false := z2 (fun s _ hs => w1 s hs)
        subst b0
        have w2 : ∀ s, s < n → W2 s = false := fun s hs => g2 (f2 rfl).2 s (Nat.zero_le s) hs
        obtain ⟨a, b⟩ := fin (r + 1 + 1) Q2 (F + 1)
        exact ⟨Q2, σ2, A2, W2, sf_s e1 S1 (sf_s e2 S2 a), ((it_s (B := fun (t : Int32 × Int32 × aQ) => F48_60 t.1 t.2.1 t.2.2) (s := (1, nI r, Q)) e1).trans (it_s (B := fun (t : Int32 × Int32 × aQ) => F48_60 t.1 t.2.1 t.2.2) (s := (1, nI (r + 1), Q1)) e2)).trans b, M2, closd σ2 A2 W2 I2 w2, l1.tr l2, fun i hi z => m2 i hi (m1 i hi z), fun μ B a b c d => by
          obtain ⟨x, y⟩ := u1 μ B a b c d
          exact u2 μ B a x y d⟩
      · have gr : SZa σ < SZa σ1 := by
          refine (SZa_le hM.ok M1.ok l1).2.2 (Classical.byContradiction fun z => ng fun p hp c => z ⟨p, hp, c⟩)
        obtain ⟨Q', σ', A', W', r1, r2, r3, r4, r5, r6, r7⟩ := ih (r + 1) Q1 σ1 A1 W1 (F + 3) (by omega) (by omega) (by omega) M1 I1
        exact ⟨Q', σ', A', W', sf_s e1 S1 r1, (it_s (B := fun (t : Int32 × Int32 × aQ) => F48_60 t.1 t.2.1 t.2.2) (s := (1, nI r, Q)) e1).trans r2, r3, r4, l1.tr r5, fun i hi z => r6 i hi (m1 i hi z), fun μ B a b c d => by
          obtain ⟨x, y⟩ := u1 μ B a b c d
          exact r7 μ B a x y d⟩
end
