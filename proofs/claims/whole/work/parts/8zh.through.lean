/-! the model passes through a statement -/
section
variable {q Q : aQ} {nE n m e : Nat} {o p : Nat → Nat} {σ σ0 : Nat → Nat → Pc} {A A0 R R0 : Nat → Bool} {c c0 : Bool} {x y : Nat → Pc}
theorem F173_loop (hE : iE q nE) (h : iP q nE n m o p) {s : Nat} {mk : Int32} (hs : s < n) (h0 : okF σ0) (hx : x = σ0 s) (hf : full x) (hm : ∀ k, 1 ≤ k → k ≤ 4 → (((mk >>> (nI k &&& 31)) &&& 1) = 0 ↔ ¬ er q s x k)) : ∀ j k Q σ A R c F, k + j = 5 → 1 ≤ k → j < F → memM q Q σ A R c → hereAt Q x → reM q s σ0 A0 c0 σ A R c → ∃ Q' σ' A' R' c', a_sf (fun (t : Int32 × aQ) => F173_2 (nI s) mk t.1 t.2) (fun (t : Int32 × aQ) => S173_2 (nI s) mk t.1 t.2) F (nI k, Q) ∧ a_it (fun (t : Int32 × aQ) => F173_2 (nI s) mk t.1 t.2) F (nI k, Q) = some Q' ∧ memM q Q' σ' A' R' c' ∧ hereAt Q' x ∧ reM q s σ0 A0 c0 σ' A' R' c' ∧ leF σ σ' ∧ leA A A' ∧ (∀ a i, 669 ≤ a ∧ a ≤ 679 → Q'.1 a i = Q.1 a i) ∧ (∀ i, k ≤ i → i ≤ 4 → er q s x i → (∀ d, ct q s (nI i) = some d → leS x (σ' (en q d 1))) ∧ (ct q s (nI i) = none → A' (5 * s + i) = true)) ∧ (∀ p, p < 25 → R p = true → R' p = true) := by
  have h24 := h.1
  have okx : stOk x := by rw [hx]; exact h0 s (by omega)
  have rc : rch x := ⟨0, by decide, hf 0 (by decide)⟩
  intro j
  induction j with
  | zero =>
    intro k Q σ A R c F hk _ hF hM hh hR
    obtain ⟨F, rfl⟩ : ∃ k, F = k + 1 := ⟨F - 1, by omega⟩
    have e5 : k = 5 := by omega
    subst e5
    have l : (4 : Int32) < nI 5 := by decide
    have e : F173_2 (nI s) mk (nI 5) Q = .inr Q := by unfold F173_2; rw [if_pos l]
    exact ⟨Q, σ, A, R, c, sf_e e ⟨fun _ => trivial, fun z => absurd l z⟩, it_e e, hM, hh, hR, leF.rf, fun _ _ => id, fun _ _ _ => rfl, fun i a b => by omega, fun _ _ => id⟩
  | succ j ih =>
    intro k Q σ A R c F hk hk1 hF hM hh hR
    obtain ⟨F, rfl⟩ : ∃ k, F = k + 1 := ⟨F - 1, by omega⟩
    have l : ¬ (4 : Int32) < nI k := nI_nlt (a := 4) (by omega) (by decide)
    have bit := hm k hk1 (by omega)
    by_cases b0 : ((mk >>> (nI k &&& 31)) &&& 1) = 0
    · have e : F173_2 (nI s) mk (nI k) Q = .inl (nI (k + 1), Q) := by unfold F173_2 F173_53; rw [if_neg l, if_pos b0, nI_1]
      obtain ⟨Q', σ', A', R', c', r1, r2, r3, r4, r5, r6, r7, r8, r9, r10⟩ := ih (k + 1) Q σ A R c F (by omega) (by omega) (by omega) hM hh hR
      refine ⟨Q', σ', A', R', c', sf_s e ⟨fun z => absurd z l, fun _ => ⟨fun _ => trivial, fun z => absurd b0 z⟩⟩ r1, (it_s (B := fun (t : Int32 × aQ) => F173_2 (nI s) mk t.1 t.2) (s := (nI k, Q)) e).trans r2, r3, r4, r5, r6, r7, r8, fun i a b d => ?_, r10⟩
      by_cases e : i = k
      · subst e; exact absurd d (bit.mp b0)
      · exact r9 i (by omega) b d
    · have he : er q s x k := Classical.byContradiction fun z => b0 (bit.mpr z)
      obtain ⟨f1, f2⟩ := F149_eq (hM.iP h) hs (nI k)
      rw [hM.ct] at f1
      have up : ∀ μ B, leF σ0 μ → cAt q μ B s → er q s (μ s) k ∧ (∀ t y, fw q s (μ s) t y → leS y (μ t)) ∧ ∀ k, al q s (μ s) k → B (5 * s + k) = true := by
        intro μ B a d
        have le : leS x (μ s) := by rw [hx]; exact a s (by omega)
        obtain ⟨c1, c2⟩ := d (rch_mono le okx rc)
        exact ⟨er_mono hE h hs le he, c1, c2⟩
      cases hc : ct q s (nI k) with
      | none =>
        rw [hc] at f1
        have lt : F149_0 (nI s) (nI k) Q < 0 := by rw [f1]; decide
        have ix : 5 * nI s + nI k = nI (5 * s + k) := by rw [show (5 : Int32) = nI 5 from rfl, pk_mul, nI_add]
        have ci : (nI (5 * s + k)).toNatClampNeg = 5 * s + k := nI_clamp (by omega)
        have vi : vp_in (nI (5 * s + k)) 120 := vp_in_nI (by omega) (by decide)
        have e : F173_2 (nI s) mk (nI k) Q = .inl (nI (k + 1), a_w Q 668 (5 * s + k) 1) := by
          unfold F173_2 F173_53; rw [if_neg l, if_neg b0, if_pos lt, ix, ci, nI_1]
        have S : S173_2 (nI s) mk (nI k) Q := by
          unfold S173_2 S173_53
          rw [ix]
          exact ⟨fun z => absurd z l, fun _ => ⟨fun z => absurd z b0, fun _ => ⟨f2, fun _ => ⟨vi, trivial⟩, fun z => absurd lt z⟩⟩⟩
        have M1 : memM q (a_w Q 668 (5 * s + k) 1) σ (setA A (5 * s + k)) R c := by
          obtain ⟨h1, h2, h3, h4, h5, h6, h7, h8, h9⟩ := hM
          refine ⟨fun p hp => by rw [w_ne (by decide)]; exact h1 p hp, fun p hp z v hv => (h2 p hp z v hv).fr (w_ne (by decide)) (fun k _ => w_ne (by decide)), h3, fun i hi => ?_, h5, by rw [w_ne (by decide)]; exact h6, fun a b z => by rw [w_ne (by omega)]; exact h7 a b z, fun b z => by rw [w_ne (by decide)]; exact h8 b z, h9⟩
          unfold setA
          by_cases e : i = 5 * s + k
          · subst e; rw [w_eq, if_pos rfl]; rfl
          · rw [w_nk e, if_neg e]; exact h4 i hi
        have R1 := hR.alarm (i := 5 * s + k) (fun μ B a b c d => (up μ B b d).2.2 k ⟨hk1, by omega, (up μ B b d).1, hc⟩)
        have H1 : hereAt (a_w Q 668 (5 * s + k) 1) x := fun v hv => (hh v hv).fr (w_ne (by decide)) (fun k _ => w_ne (by decide))
        obtain ⟨Q', σ', A', R', c', r1, r2, r3, r4, r5, r6, r7, r8, r9, r10⟩ := ih (k + 1) _ σ _ R c F (by omega) (by omega) (by omega) M1 H1 R1
        refine ⟨Q', σ', A', R', c', sf_s e S r1, (it_s (B := fun (t : Int32 × aQ) => F173_2 (nI s) mk t.1 t.2) (s := (nI k, Q)) e).trans r2, r3, r4, r5, r6, fun i hi z => r7 i hi (by unfold setA; split; rfl; exact z), fun a i z => by rw [r8 a i z, w_ne (by omega)], fun i a b d => ?_, r10⟩
        by_cases e : i = k
        · subst e
          refine ⟨fun d hd => (by rw [hc] at hd; cases hd), fun _ => r7 _ (by omega) ?_⟩
          unfold setA; rw [if_pos rfl]
        · exact r9 i (by omega) b d
      | some d =>
        rw [hc] at f1
        obtain ⟨d1, d2⟩ := ct_lt h hs hc
        have lt : ¬ F149_0 (nI s) (nI k) Q < 0 := by rw [f1]; exact nI_pos (by omega)
        have f1 : F149_0 (nI s) (nI k) Q = nI d := f1
        obtain ⟨g1, g2⟩ := F147_eq (hM.iP h) d1 (b := 1) (by decide) (fun _ => by rw [hM.2.2.2.2.2.2.1 9 d (by omega), d2]; decide)
        rw [hM.en] at g1
        have g1 : F147_0 (nI d) 1 Q = nI (en q d 1) := g1
        have tl := en_lt h d1 (b := 1) (by decide)
        obtain ⟨k1, c1, k2, k3, k4, k5⟩ := F172_eq (t := en q d 1) (by omega) hM okx hh
        have e : F173_2 (nI s) mk (nI k) Q = .inl (nI (k + 1), F172_0 (nI (en q d 1)) Q) := by
          unfold F173_2 F173_39 F173_53; rw [if_neg l, if_neg b0, if_neg lt, f1, g1, nI_1]
        have S : S173_2 (nI s) mk (nI k) Q := by
          unfold S173_2 S173_39 S173_53
          rw [f1, g1]
          rw [f1] at lt
          exact ⟨fun z => absurd z l, fun _ => ⟨fun z => absurd z b0, fun _ => ⟨f2, fun z => absurd z lt, fun _ => ⟨g2, k1, trivial⟩⟩⟩⟩
        have R1 := hR.flow (t := en q d 1) (by omega) hM.ok (hM.2.2.1 _ (by omega)) okx hf k4 (fun μ B a b c' dd => by
          have u := up μ B b dd
          have le : leS x (μ s) := by rw [hx]; exact b s (by omega)
          exact le.tr (u.2.1 (en q d 1) (μ s) (Or.inl ⟨k, d, hk1, by omega, u.1, hc, rfl, rfl⟩)))
        obtain ⟨Q', σ', A', R', c', r1, r2, r3, r4, r5, r6, r7, r8, r9, r10⟩ := ih (k + 1) _ _ _ _ _ F (by omega) (by omega) (by omega) k2 k3 R1
        refine ⟨Q', σ', A', R', c', sf_s e S r1, (it_s (B := fun (t : Int32 × aQ) => F173_2 (nI s) mk t.1 t.2) (s := (nI k, Q)) e).trans r2, r3, r4, r5, gro_le.tr r6, r7, fun a i z => by rw [r8 a i z, k5 a i z], fun i a b dd => ?_, fun p hp z => r10 p hp (by unfold onR; split; rfl; exact z)⟩
        by_cases e : i = k
        · subst e
          refine ⟨fun d' hd => ?_, fun hd => (by rw [hc] at hd; cases hd)⟩
          rw [hc] at hd
          injection hd with hd
          subst hd
          exact gro_t.tr (r6 _ (by omega))
        · exact r9 i (by omega) b dd
theorem F173_eq (hE : iE q nE) (h : iP q nE n m o p) {s : Nat} {mk : Int32} (hs : s < n) (h0 : okF σ0) (hx : x = σ0 s) (hf : full x) (hm : ∀ k, 1 ≤ k → k ≤ 4 → (((mk >>> (nI k &&& 31)) &&& 1) = 0 ↔ ¬ er q s x k)) (hM : memM q Q σ A R c) (hh : hereAt Q x) (hR : reM q s σ0 A0 c0 σ A R c) : S173_0 (nI s) mk Q ∧ ∃ σ' A' R' c', memM q (F173_0 (nI s) mk Q) σ' A' R' c' ∧ hereAt (F173_0 (nI s) mk Q) x ∧ reM q s σ0 A0 c0 σ' A' R' c' ∧ leF σ σ' ∧ leA A A' ∧ (∀ a i, 669 ≤ a ∧ a ≤ 679 → (F173_0 (nI s) mk Q).1 a i = Q.1 a i) ∧ errD q s x σ' A' ∧ (∀ p, p < 25 → R p = true → R' p = true) := by
  obtain ⟨Q', σ', A', R', c', r1, r2, r3, r4, r5, r6, r7, r8, r9, r10⟩ := F173_loop hE h hs h0 hx hf hm 4 1 Q σ A R c 200 rfl (Nat.le_refl 1) (by decide) hM hh hR
  have r2' : a_it (fun (t : Int32 × aQ) => F173_2 (nI s) mk t.1 t.2) 200 (1, Q) = some Q' := r2
  unfold F173_0 S173_0 F173_59
  rw [a_lp_eq r2']
  exact ⟨⟨r1, trivial⟩, σ', A', R', c', r3, r4, r5, r6, r7, r8, r9, r10⟩
/-- a statement that lets the state through as it is -/
theorem M_plain (h : iP q nE n m o p) {s t : Nat} (hs : s < n) (ht : t < 25) (hM : memM q Q σ A R c) (hx : x = σ s) (hf : full x) (hg : ∀ p, p < 25 → R p = true → full (σ p)) (hh : hereAt Q x) (hfw : ∀ x, fw q s x t x) : S172_0 (nI t) Q ∧ ∃ σ' R' c', memM q (F172_0 (nI t) Q) σ' A R' c' ∧ reM q s σ A c σ' A R' c' ∧ leS x (σ' t) := by
  have h24 := h.1
  have okx : stOk x := by rw [hx]; exact hM.ok s (by omega)
  obtain ⟨k1, c1, k2, k3, k4, k5⟩ := F172_eq (t := t) ht hM okx hh
  refine ⟨k1, _, _, c1, k2, (reM.rf hg).flow ht hM.ok (hM.2.2.1 t ht) okx hf k4 (fun μ B a b d e => ?_), gro_t⟩
  have le : leS x (μ s) := by rw [hx]; exact b s (by omega)
  have u := e (rch_mono le okx ⟨0, by decide, hf 0 (by decide)⟩)
  exact le.tr (u.1 t (μ s) (hfw (μ s)))
end
