/-! the model's order of an expression's parts -/
def post (q : aQ) : Nat → Nat → List Nat
  | 0, _ => []
  | f + 1, e => if q.1 2 e = -1 then [e] else if 6 ≤ opn q e then post q f (lft q e) ++ [e] else post q f (lft q e) ++ post q f (rgt q e) ++ [e]
/-- tokens from place i on -/
def tOk (Q : aQ) : Nat → List Nat → Prop
  | _, [] => True
  | i, k :: r => Q.1 682 i = nI k ∧ tOk Q (i + 1) r
theorem tOk_app {Q : aQ} : ∀ (A B : List Nat) (i : Nat), tOk Q i (A ++ B) ↔ tOk Q i A ∧ tOk Q (i + A.length) B
  | [], B, i => ⟨fun h => ⟨trivial, h⟩, fun h => h.2⟩
  | k :: A, B, i => by
    have ih := tOk_app (Q := Q) A B (i + 1)
    show (Q.1 682 i = nI k ∧ tOk Q (i + 1) (A ++ B)) ↔ (Q.1 682 i = nI k ∧ tOk Q (i + 1) A) ∧ tOk Q (i + (A.length + 1)) B
    rw [ih, show i + (A.length + 1) = i + 1 + A.length by omega]
    exact ⟨fun h => ⟨⟨h.1, h.2.1⟩, h.2.2⟩, fun h => ⟨h.1.1, h.1.2, h.2⟩⟩
/-- nodes that wait, the top first -/
def sOk (Q : aQ) : List Nat → Prop
  | [] => True
  | k :: r => Q.1 683 r.length = nI k ∧ sOk Q r
def pst (q : aQ) : List Nat → List Nat
  | [] => []
  | k :: r => pst q r ++ post q 15 k
section
variable {q : aQ} {nE : Nat}
theorem post_len (hE : iE q nE) : ∀ f e w, e < nE → w ≤ 15 → q.1 7 e = nI w → w ≤ f → (post q f e).length = w := by
  have h60 := hE.1
  intro f
  induction f with
  | zero =>
    intro e w he hw0 hw hwf
    obtain ⟨w', w1, w2, w3, -⟩ := iE_w hE he
    have := nI_inj (b := w') (by omega) (by omega) (hw.symm.trans w3)
    omega
  | succ f ih =>
    intro e w he hw0 hw hwf
    unfold post
    by_cases h : q.1 2 e = -1
    · rw [if_pos h]
      rcases hE.2.2.2 e he with ⟨-, -, -, -, h1, -⟩ | ⟨o, a, b, w', ho, -⟩
      · have := nI_inj (b := 1) (by omega) (by decide) (hw.symm.trans h1)
        rw [this]; rfl
      · have := ho.2.2.1
        rw [h] at this
        exact absurd this.symm (nI_nm1 (by have := ho.1; omega))
    · obtain ⟨w', wa, o1, o2, o3, o4, o5, o6, o7, o8, o9, o10, o11, o12, o13, o14, o15, o16⟩ := op_of hE he h
      have ew : w = w' := nI_inj (by omega) (by omega) (hw.symm.trans o10)
      subst ew
      rw [if_neg h]
      by_cases g6 : 6 ≤ opn q e
      · have := o15 g6
        rw [if_pos g6, List.length_append, ih (lft q e) wa (by omega) (by omega) o13 (by omega)]
        show wa + 1 = w
        omega
      · obtain ⟨wb, g2, g3, g4⟩ := o16 (by omega)
        rw [if_neg g6, List.length_append, List.length_append, ih (lft q e) wa (by omega) (by omega) o13 (by omega), ih (rgt q e) wb (by have := o3 (by omega); omega) (by omega) g2 (by omega)]
        show wa + wb + 1 = w
        omega
theorem post_f (hE : iE q nE) : ∀ f g e w, e < nE → w ≤ 15 → q.1 7 e = nI w → w ≤ f → w ≤ g → post q f e = post q g e := by
  have h60 := hE.1
  intro f
  induction f with
  | zero =>
    intro g e w he hw0 hw hwf
    obtain ⟨w', w1, w2, w3, -⟩ := iE_w hE he
    have := nI_inj (b := w') (by omega) (by omega) (hw.symm.trans w3)
    omega
  | succ f ih =>
    intro g e w he hw0 hw hwf hwg
    have hw15 : 1 ≤ w := by
      obtain ⟨w', w1, w2, w3, -⟩ := iE_w hE he
      have := nI_inj (b := w') (by omega) (by omega) (hw.symm.trans w3)
      omega
    obtain ⟨g, rfl⟩ : ∃ k, g = k + 1 := ⟨g - 1, by omega⟩
    unfold post
    by_cases h : q.1 2 e = -1
    · rw [if_pos h, if_pos h]
    · obtain ⟨w', wa, o1, o2, o3, o4, o5, o6, o7, o8, o9, o10, o11, o12, o13, o14, o15, o16⟩ := op_of hE he h
      have ew : w = w' := nI_inj (by omega) (by omega) (hw.symm.trans o10)
      subst ew
      have ha : wa ≤ w - 1 := by
        by_cases g : opn q e ≤ 5
        · obtain ⟨wb, g1, g2, g3⟩ := o16 g; omega
        · have := o15 (by omega); omega
      rw [if_neg h, if_neg h, ih g (lft q e) wa (by omega) (by omega) o13 (by omega) (by omega)]
      by_cases g6 : 6 ≤ opn q e
      · rw [if_pos g6, if_pos g6]
      · obtain ⟨wb, g2, g3, g4⟩ := o16 (by omega)
        rw [if_neg g6, if_neg g6, ih g (rgt q e) wb (by have := o3 (by omega); omega) (by omega) g2 (by omega) (by omega)]
/-- the nodes that wait are nodes, and weigh A together -/
def wOk (q : aQ) (nE : Nat) : List Nat → Nat → Prop
  | [], A => A = 0
  | k :: r, A => k < nE ∧ ∃ w, w ≤ A ∧ w ≤ 15 ∧ q.1 7 k = nI w ∧ wOk q nE r (A - w)
theorem wOk_len (hE : iE q nE) : ∀ st A, wOk q nE st A → st.length ≤ A
  | [], A, _ => Nat.zero_le _
  | k :: r, A, ⟨h1, w, h2, h3, h4, h5⟩ => by
    have h60 := hE.1
    have ih := wOk_len hE r (A - w) h5
    obtain ⟨w', w1, w2, w3, -⟩ := iE_w hE h1
    have := nI_inj (b := w') (by omega) (by omega) (h4.symm.trans w3)
    show r.length + 1 ≤ A
    omega
theorem pst_len (hE : iE q nE) : ∀ st A, wOk q nE st A → (pst q st).length = A
  | [], A, h => by unfold wOk at h; subst h; rfl
  | k :: r, A, ⟨h1, w, h2, h3, h4, h5⟩ => by
    have ih := pst_len hE r (A - w) h5
    show (pst q r ++ post q 15 k).length = A
    rw [List.length_append, ih, post_len hE 15 k w h1 h3 h4 h3]
    omega
/-- a memory that has the expressions of q -/
def exR (q Q : aQ) : Prop := ∀ c j, 651 ≤ c → c ≤ 654 → Q.1 c j = q.1 c j
theorem sOk_fr {Q Q' : aQ} : ∀ st : List Nat, (∀ i, i < st.length → Q'.1 683 i = Q.1 683 i) → sOk Q st → sOk Q' st
  | [], _, _ => trivial
  | k :: r, h, ⟨h1, h2⟩ => ⟨(h r.length (Nat.lt_succ_self _)).trans h1, sOk_fr r (fun i hi => h i (Nat.lt_succ_of_lt hi)) h2⟩
theorem leaf_lt10 {x y : Int32} (h : leafOk x y) : x < 10 := by
  rcases h with h | h | h | h | h
  · rw [h.1]; decide
  · rw [h.1]; decide
  · rw [h]; decide
  · rw [h.1]; decide
  · rw [h]; decide
theorem order_loop (hE : iE q nE) : ∀ A st Q F, wOk q nE st A → A ≤ 15 → A < F → exR q Q → sOk Q st → ∃ Q', a_sf (fun (s : Int32 × Int32 × aQ) => F179_24 s.1 s.2.1 s.2.2) (fun (s : Int32 × Int32 × aQ) => S179_24 s.1 s.2.1 s.2.2) F (nI A, nI st.length, Q) ∧ a_it (fun (s : Int32 × Int32 × aQ) => F179_24 s.1 s.2.1 s.2.2) F (nI A, nI st.length, Q) = some Q' ∧ tOk Q' 0 (pst q st) ∧ (∀ i, A ≤ i → Q'.1 682 i = Q.1 682 i) ∧ (∀ c j, ¬ c = 682 → ¬ c = 683 → Q'.1 c j = Q.1 c j) ∧ Q'.2 = Q.2 := by
  have h60 := hE.1
  intro A
  induction A with
  | zero =>
    intro st Q F hw _ hF hx hs
    obtain ⟨F, rfl⟩ : ∃ k, F = k + 1 := ⟨F - 1, by omega⟩
    have hl := wOk_len hE st 0 hw
    have e0 : st = [] := by
      cases st with
      | nil => rfl
      | cons k r => exact absurd hl (by show ¬ r.length + 1 ≤ 0; omega)
    subst e0
    have e : F179_24 (nI 0) (nI 0) Q = .inr Q := by
      unfold F179_24
      rw [if_pos (by decide)]
    refine ⟨Q, sf_e e ?_, it_e e, trivial, fun _ _ => rfl, fun _ _ _ _ => rfl, rfl⟩
    exact ⟨fun _ => trivial, fun z => absurd (show nI 0 ≤ 0 by decide) z⟩
  | succ A ih =>
    intro st Q F hw hA hF hx hs
    obtain ⟨F, rfl⟩ : ∃ k, F = k + 1 := ⟨F - 1, by omega⟩
    cases st with
    | nil => exact absurd hw (by unfold wOk; omega)
    | cons k r =>
      have hl := wOk_len hE (k :: r) (A + 1) hw
      obtain ⟨hk, w, w1, w2, w3, w4⟩ := hw
      obtain ⟨s1, s2⟩ := hs
      have hl : r.length + 1 ≤ A + 1 := hl
      have hr := wOk_len hE r _ w4
      have wpos : 1 ≤ w := by
        obtain ⟨w', q1, q2, q3, -⟩ := iE_w hE hk
        have := nI_inj (b := w') (by omega) (by omega) (w3.symm.trans q3)
        omega
      have eA : nI (A + 1) + -1 = nI A := pk_m1 A
      have en : nI (r.length + 1) + -1 = nI r.length := pk_m1 r.length
      have cr : (nI r.length).toNatClampNeg = r.length := nI_clamp (by omega)
      have cr1 : (nI (r.length + 1)).toNatClampNeg = r.length + 1 := nI_clamp (by omega)
      have cA : (nI A).toNatClampNeg = A := nI_clamp (by omega)
      have ck : (nI k).toNatClampNeg = k := nI_clamp (by omega)
      have vk : vp_in (nI k) 60 := vp_in_nI (by omega) (by decide)
      have vr : vp_in (nI r.length) 18 := vp_in_nI (by omega) (by decide)
      have vr1 : vp_in (nI (r.length + 1)) 18 := vp_in_nI (by omega) (by decide)
      have vA : vp_in (nI A) 16 := vp_in_nI (by omega) (by decide)
      have p1 : ¬ nI (r.length + 1) ≤ 0 := nI_nle (by omega) (by omega)
      have p2 : ¬ nI (A + 1) ≤ 0 := nI_nle (by omega) (by omega)
      have x651 : Q.1 651 k = q.1 651 k := hx 651 k (by decide) (by decide)
      have x652 : Q.1 652 k = q.1 652 k := hx 652 k (by decide) (by decide)
      have x653 : Q.1 653 k = q.1 653 k := hx 653 k (by decide) (by decide)
      show ∃ Q', a_sf (fun (s : Int32 × Int32 × aQ) => F179_24 s.1 s.2.1 s.2.2) (fun (s : Int32 × Int32 × aQ) => S179_24 s.1 s.2.1 s.2.2) (F + 1) (nI (A + 1), nI (r.length + 1), Q) ∧ a_it (fun (s : Int32 × Int32 × aQ) => F179_24 s.1 s.2.1 s.2.2) (F + 1) (nI (A + 1), nI (r.length + 1), Q) = some Q' ∧ tOk Q' 0 (pst q r ++ post q 15 k) ∧ (∀ i, A + 1 ≤ i → Q'.1 682 i = Q.1 682 i) ∧ (∀ c j, ¬ c = 682 → ¬ c = 683 → Q'.1 c j = Q.1 c j) ∧ Q'.2 = Q.2
      have Qk : Q.1 683 (nI (r.length + 1) + -1).toNatClampNeg = nI k := by rw [en, cr]; exact s1
      by_cases h : q.1 2 k = -1
      · obtain ⟨lf, lf1, -⟩ := leaf_of hE hk h
        have w1' : w = 1 := by
          rcases hE.2.2.2 k hk with ⟨-, -, -, -, h1, -⟩ | ⟨o, a, b, w', ho, -⟩
          · exact nI_inj (b := 1) (by omega) (by decide) (w3.symm.trans h1)
          · have := ho.2.2.1
            rw [h] at this
            exact absurd this.symm (nI_nm1 (by have := ho.1; omega))
        subst w1'
        have lt : q.1 651 k < 10 := by rw [lf1]; exact leaf_lt10 lf
        have e : F179_24 (nI (A + 1)) (nI (r.length + 1)) Q = .inl (nI A, nI r.length, a_w Q 682 A (nI k)) := by
          unfold F179_24 F179_82 F179_122
          rw [if_neg p1, if_neg p2, Qk, ck, x651, if_pos lt, eA, en, cA, w_ne (by decide), x651, if_pos lt]
        have S : S179_24 (nI (A + 1)) (nI (r.length + 1)) Q := by
          unfold S179_24 S179_82 S179_122
          rw [Qk, ck, x651, eA, en, cA, w_ne (by decide), x651]
          exact ⟨fun _ => trivial, fun _ => ⟨fun _ => trivial, fun _ => ⟨vr, vA, vk, fun _ => ⟨vk, fun _ => trivial, fun z => absurd lt z⟩, fun z => absurd lt z⟩⟩⟩
        obtain ⟨Q', i1, i2, i3, i4, i5, i6⟩ := ih r (a_w Q 682 A (nI k)) F w4 (by omega) (by omega) (fun c j a b => by rw [w_ne (by omega)]; exact hx c j a b) (sOk_fr r (fun i _ => by rw [w_ne (by decide)]) s2)
        refine ⟨Q', sf_s e S i1, (it_s (B := fun (s : Int32 × Int32 × aQ) => F179_24 s.1 s.2.1 s.2.2) (s := (nI (A + 1), nI (r.length + 1), Q)) e).trans i2, ?_, fun i hi => ?_, fun c j a b => ?_, i6⟩
        · rw [tOk_app, pst_len hE r _ w4]
          refine ⟨i3, ?_⟩
          unfold post
          rw [if_pos h]
          refine ⟨?_, trivial⟩
          rw [show 0 + (A + 1 - 1) = A by omega, i4 A (Nat.le_refl _), w_eq]
        · rw [i4 i (by omega), w_nk (by omega)]
        · rw [i5 c j a b, w_ne a]
      · obtain ⟨w', wa, o1, o2, o3, o4, o5, o6, o7, o8, o9, o10, o11, o12, o13, o14, o15, o16⟩ := op_of hE hk h
        have ew : w = w' := nI_inj (by omega) (by omega) (w3.symm.trans o10)
        subst ew
        have nlt : ¬ nI (10 + opn q k) < (10 : Int32) := nI_nlt (b := 10) (by omega) (by omega)
        have pp : post q 15 k = if 6 ≤ opn q k then post q 15 (lft q k) ++ [k] else post q 15 (lft q k) ++ post q 15 (rgt q k) ++ [k] := by
          rw [show post q 15 k = if q.1 2 k = -1 then [k] else if 6 ≤ opn q k then post q 14 (lft q k) ++ [k] else post q 14 (lft q k) ++ post q 14 (rgt q k) ++ [k] from rfl, if_neg h]
          by_cases g6 : 6 ≤ opn q k
          · have := o15 g6
            rw [if_pos g6, if_pos g6, post_f hE 14 15 (lft q k) wa (by omega) (by omega) o13 (by omega) (by omega)]
          · obtain ⟨wb, g2, g3, g4⟩ := o16 (by omega)
            rw [if_neg g6, if_neg g6, post_f hE 14 15 (lft q k) wa (by omega) (by omega) o13 (by omega) (by omega), post_f hE 14 15 (rgt q k) wb (by have := o3 (by omega); omega) (by omega) g2 (by omega) (by omega)]
        by_cases g6 : 6 ≤ opn q k
        · have ge16 : (16 : Int32) ≤ nI (10 + opn q k) := nI_le (a := 16) (by omega) (by omega)
          have e15 := o15 g6
          have e : F179_24 (nI (A + 1)) (nI (r.length + 1)) Q = .inl (nI A, nI (r.length + 1), a_w (a_w Q 682 A (nI k)) 683 r.length (nI (lft q k))) := by
            unfold F179_24 F179_82 F179_122
            rw [if_neg p1, if_neg p2, Qk, ck, x651, o5, if_neg nlt, eA, en, cA, cr, nI_1, x652, o7, w_ne (by decide), w_ne (by decide), x651, o5, if_neg nlt, if_pos ge16]
          have S : S179_24 (nI (A + 1)) (nI (r.length + 1)) Q := by
            unfold S179_24 S179_82 S179_122
            simp only [s1, ck, eA, en, cA, cr, nI_1, w_ne (show 651 ≠ 683 by decide), w_ne (show 651 ≠ 682 by decide), x651, o5]
            exact ⟨fun _ => trivial, fun _ => ⟨fun _ => trivial, fun _ => ⟨vr, vA, vk, fun z => absurd z nlt, fun _ => ⟨vk, vr, vk, fun z => absurd z nlt, fun _ => ⟨vk, fun _ => trivial, fun z => absurd ge16 z⟩⟩⟩⟩⟩
          have hA1 : A - wa = A + 1 - w ∧ wa ≤ A ∧ wa ≤ 15 := by clear o16 o15; omega
          have hw' : wOk q nE (lft q k :: r) A := ⟨by omega, wa, hA1.2.1, hA1.2.2, o13, by rw [hA1.1]; exact w4⟩
          obtain ⟨Q', i1, i2, i3, i4, i5, i6⟩ := ih (lft q k :: r) (a_w (a_w Q 682 A (nI k)) 683 r.length (nI (lft q k))) F hw' (by omega) (by omega) (fun c j a b => by rw [w_ne (by omega), w_ne (by omega)]; exact hx c j a b) ⟨w_eq, sOk_fr r (fun i hi => by rw [w_nk (by omega), w_ne (by decide)]) s2⟩
          refine ⟨Q', sf_s e S i1, (it_s (B := fun (s : Int32 × Int32 × aQ) => F179_24 s.1 s.2.1 s.2.2) (s := (nI (A + 1), nI (r.length + 1), Q)) e).trans i2, ?_, fun i hi => ?_, fun c j a b => ?_, i6⟩
          · rw [pp, if_pos g6, ← List.append_assoc]
            rw [show pst q (lft q k :: r) = pst q r ++ post q 15 (lft q k) from rfl] at i3
            have ln := pst_len hE (lft q k :: r) A hw'
            rw [show pst q (lft q k :: r) = pst q r ++ post q 15 (lft q k) from rfl] at ln
            rw [tOk_app, ln]
            refine ⟨i3, ?_, trivial⟩
            rw [Nat.zero_add, i4 A (Nat.le_refl _), w_ne (by decide), w_eq]
          · rw [i4 i (by omega), w_ne (by decide), w_nk (by omega)]
          · rw [i5 c j a b, w_ne b, w_ne a]
        · obtain ⟨wb, g2, g3, g4⟩ := o16 (by omega)
          obtain ⟨p8, p9⟩ := o8 (by omega)
          have o3' := o3 (by omega)
          have ge16 : ¬ (16 : Int32) ≤ nI (10 + opn q k) := nI_ge (b := 16) (by omega) (by decide)
          have e : F179_24 (nI (A + 1)) (nI (r.length + 1)) Q = .inl (nI A, nI (r.length + 1 + 1), a_w (a_w (a_w Q 682 A (nI k)) 683 r.length (nI (lft q k))) 683 (r.length + 1) (nI (rgt q k))) := by
            unfold F179_24 F179_82 F179_122
            rw [if_neg p1, if_neg p2, Qk, ck, x651, o5, if_neg nlt, eA, en, cA, cr, nI_1, x652, o7, w_ne (by decide), w_ne (by decide), x651, o5, if_neg nlt, if_neg ge16, cr1, nI_1, w_ne (by decide), w_ne (by decide), x653, p9]
          have S : S179_24 (nI (A + 1)) (nI (r.length + 1)) Q := by
            unfold S179_24 S179_82 S179_122
            simp only [s1, ck, eA, en, cA, cr, nI_1, w_ne (show 651 ≠ 683 by decide), w_ne (show 651 ≠ 682 by decide), x651, o5]
            exact ⟨fun _ => trivial, fun _ => ⟨fun _ => trivial, fun _ => ⟨vr, vA, vk, fun z => absurd z nlt, fun _ => ⟨vk, vr, vk, fun z => absurd z nlt, fun _ => ⟨vk, fun z => absurd z ge16, fun _ => ⟨vk, vr1, trivial⟩⟩⟩⟩⟩⟩
          have hA1 : A - wb - wa = A + 1 - w ∧ wb ≤ A ∧ wb ≤ 15 ∧ wa ≤ A - wb ∧ wa ≤ 15 := by clear o16 o15; omega
          have hw' : wOk q nE (rgt q k :: lft q k :: r) A := ⟨by omega, wb, hA1.2.1, hA1.2.2.1, g2, by omega, wa, hA1.2.2.2.1, hA1.2.2.2.2, o13, by rw [hA1.1]; exact w4⟩
          have hl2 : r.length + 1 + 1 ≤ A := wOk_len hE _ _ hw'
          obtain ⟨Q', i1, i2, i3, i4, i5, i6⟩ := ih (rgt q k :: lft q k :: r) (a_w (a_w (a_w Q 682 A (nI k)) 683 r.length (nI (lft q k))) 683 (r.length + 1) (nI (rgt q k))) F hw' (by omega) (by omega) (fun c j a b => by rw [w_ne (by omega), w_ne (by omega), w_ne (by omega)]; exact hx c j a b) ⟨w_eq, by rw [w_nk (by omega), w_eq], sOk_fr r (fun i hi => by rw [w_nk (by omega), w_nk (by omega), w_ne (by decide)]) s2⟩
          refine ⟨Q', sf_s e S i1, (it_s (B := fun (s : Int32 × Int32 × aQ) => F179_24 s.1 s.2.1 s.2.2) (s := (nI (A + 1), nI (r.length + 1), Q)) e).trans i2, ?_, fun i hi => ?_, fun c j a b => ?_, i6⟩
          · rw [pp, if_neg g6, ← List.append_assoc, ← List.append_assoc]
            rw [show pst q (rgt q k :: lft q k :: r) = pst q r ++ post q 15 (lft q k) ++ post q 15 (rgt q k) from rfl] at i3
            have ln := pst_len hE (rgt q k :: lft q k :: r) A hw'
            rw [show pst q (rgt q k :: lft q k :: r) = pst q r ++ post q 15 (lft q k) ++ post q 15 (rgt q k) from rfl] at ln
            rw [tOk_app, ln]
            refine ⟨i3, ?_, trivial⟩
            rw [Nat.zero_add, i4 A (Nat.le_refl _), w_ne (by decide), w_ne (by decide), w_eq]
          · rw [i4 i (by omega), w_ne (by decide), w_ne (by decide), w_nk (by omega)]
          · rw [i5 c j a b, w_ne b, w_ne b, w_ne a]
theorem F179_eq (hE : iE q nE) {e w : Nat} {Q : aQ} (he : e < nE) (hw0 : w ≤ 15) (hw : q.1 7 e = nI w) (h654 : q.1 654 e = nI w) (hx : exR q Q) : S179_0 (nI e) Q ∧ tOk (F179_0 (nI e) Q) 0 (post q 15 e) ∧ (F179_0 (nI e) Q).1 650 43 = nI w ∧ (∀ c j, ¬ c = 682 → ¬ c = 683 → ¬ (c = 650 ∧ j = 43) → (F179_0 (nI e) Q).1 c j = Q.1 c j) ∧ (F179_0 (nI e) Q).2 = Q.2 := by
  have h60 := hE.1
  have ce : (nI e).toNatClampNeg = e := nI_clamp (by omega)
  have ve : vp_in (nI e) 60 := vp_in_nI (by omega) (by decide)
  have x654 : Q.1 654 e = nI w := (hx 654 e (by decide) (by decide)).trans h654
  have c0 : (0 : Int32).toNatClampNeg = 0 := by decide
  obtain ⟨Q', i1, i2, i3, i4, i5, i6⟩ := order_loop hE w [e] (a_w (a_w Q 650 43 (nI w)) 683 0 (nI e)) 200 ⟨he, w, Nat.le_refl _, hw0, hw, by unfold wOk; omega⟩ hw0 (by omega) (fun c j a b => by rw [w_ne (by omega), w_ne (by omega)]; exact hx c j a b) ⟨w_eq, trivial⟩
  have i2' : a_it (fun (s : Int32 × Int32 × aQ) => F179_24 s.1 s.2.1 s.2.2) 200 (nI w, 1, a_w (a_w Q 650 43 (nI w)) 683 0 (nI e)) = some Q' := i2
  unfold S179_0 F179_0 F179_125 S179_125
  rw [ce, x654, c0, a_lp_eq i2']
  refine ⟨⟨ve, i1, trivial⟩, i3, ?_, fun c j a b d => ?_, i6⟩
  · rw [i5 650 43 (by decide) (by decide), w_ne (by decide), w_eq]
  · rw [i5 c j a b, w_ne b, w_get, if_neg d]
end
