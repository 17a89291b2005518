/-! the model: may a condition be true, and narrowing -/
theorem ex_v {P : Pc} (h : okP P) (t : Bool) : (∃ v, v ∈ vals P ∧ isT v.1 v.2 = t) ↔ mayB t P = true := by
  rw [val_c' h]
  have a := ex_0 h.1
  have b := ex_0 h.2.R
  have i1 : ∀ n : Int, isT 1 n = t ↔ (if t = true then ¬ n = 0 else n = 0) := fun n => by cases t <;> simp [isT]
  have i2 : ∀ n : Int, isT 2 n = t ↔ (if t = true then ¬ n = 0 else n = 0) := fun n => by cases t <;> simp [isT]
  have i4 : isT 4 0 = t ↔ t = false := by cases t <;> simp [isT]
  simp only [i1, i2, i4]
  unfold mayB hasTr hasFa nS tS
  cases t with
  | true =>
    simp only [if_true, Bool.or_eq_true]
    rw [a.2, b.2]
    simp
  | false =>
    simp only [Bool.false_eq_true, if_false, Bool.or_eq_true]
    rw [a.1, b.1]
    simp [or_assoc]
section
variable {q Q : aQ} {nE e : Nat} {x : Nat → Pc} {P : Pc}
theorem F151_b {a : Nat × Int} (h : vOk a.1 a.2) {Q : aQ} : F151_0 (nI a.1) (Int32.toInt64 (iI a.2)) Q = bI (isT a.1 a.2) ∧ S151_0 (nI a.1) (Int32.toInt64 (iI a.2)) Q := by
  have ba : bd a.2 := by have := h.lt.2.1; unfold bd; omega
  rw [i64_i ba]
  exact F151_eq h.lt.1 h.sml
theorem F151_big {t : Nat} {x : Int} {q : aQ} (ht : t < 16) (hx : -4000000000000000000 ≤ x ∧ x ≤ 4000000000000000000) : F151_0 (nI t) (lI x) q = bI (isT t x) ∧ S151_0 (nI t) (lI x) q := by
  have e : lg_cmp (lI x) 0 = 0 ↔ x = 0 := by
    rw [lg_eq]
    exact ⟨fun h => lI_inj (y := 0) (by omega) (by omega) h, fun h => by subst h; rfl⟩
  refine ⟨?_, by unfold S151_0 S151_10; simp⟩
  unfold F151_0 F151_10 isT bI
  have e1 : nI t = 1 ↔ t = 1 := nI_eq (b := 1) (by omega) (by decide)
  have e2 : nI t = 2 ↔ t = 2 := nI_eq (b := 2) (by omega) (by decide)
  by_cases h0 : x = 0
  · rw [if_pos (e.mpr h0)]; subst h0; simp
  · rw [if_neg (fun z => h0 (e.mp z))]
    by_cases h1 : t = 1
    · rw [if_pos (e1.mpr h1)]; simp [h1, h0]
    · rw [if_neg (fun z => h1 (e1.mp z))]
      by_cases h2 : t = 2
      · rw [if_pos (e2.mpr h2)]; simp [h2, h0]
      · rw [if_neg (fun z => h2 (e2.mp z))]; simp [h1, h2]
theorem bI_eq {a b : Bool} : (bI a = bI b) ↔ ((a == b) = true) := by cases a <;> cases b <;> decide
theorem F167_loop {L : List (Nat × Int)} {t : Bool} (hL : L.length < 60) : ∀ S i Q b F, L.length = i + S.length → S.length < F → (∀ v, v ∈ S → vOk v.1 v.2) → Q.1 650 29 = nI L.length → lst Q 675 676 i S → a_sf (fun (s : Int32 × Int32 × aQ) => F167_10 (bI t) s.1 s.2.1 s.2.2) (fun (s : Int32 × Int32 × aQ) => S167_10 (bI t) s.1 s.2.1 s.2.2) F (bI b, nI i, Q) ∧ a_it (fun (s : Int32 × Int32 × aQ) => F167_10 (bI t) s.1 s.2.1 s.2.2) F (bI b, nI i, Q) = some (bI (b || S.any fun v => isT v.1 v.2 == t), Q) := by
  intro S
  induction S with
  | nil =>
    intro i Q b F hk hF hv h29 hl
    obtain ⟨F, rfl⟩ : ∃ k, F = k + 1 := ⟨F - 1, by simp at hF; omega⟩
    have le : nI L.length ≤ nI i := nI_le (by simp at hk; omega) (by simp at hk; omega)
    have e1 : F167_10 (bI t) (bI b) (nI i) Q = .inr (bI b, Q) := by unfold F167_10; rw [h29, if_pos le]
    have S1 : S167_10 (bI t) (bI b) (nI i) Q := by unfold S167_10; rw [h29]; exact ⟨fun _ => trivial, fun z => absurd le z⟩
    refine ⟨sf_e e1 S1, ?_⟩
    rw [List.any_nil, Bool.or_false]
    exact it_e e1
  | cons a S ih =>
    intro i Q b F hk hF hv h29 hl
    have hk : L.length = i + (S.length + 1) := hk
    have hF : S.length + 1 < F := hF
    obtain ⟨F, rfl⟩ : ∃ k, F = k + 1 := ⟨F - 1, by omega⟩
    have le : ¬ nI L.length ≤ nI i := nI_ge (by omega) (by omega)
    have ci : (nI i).toNatClampNeg = i := nI_clamp (by omega)
    have vi : vp_in (nI i) 60 := vp_in_nI (by omega) (by decide)
    obtain ⟨l1, l2, l3⟩ := hl
    obtain ⟨g1, g2⟩ := F151_b (hv a List.mem_cons_self) (Q := Q)
    have e1 : F167_10 (bI t) (bI b) (nI i) Q = .inl (bI (b || (isT a.1 a.2 == t)), nI (i + 1), Q) := by
      unfold F167_10 F167_45 F167_50
      rw [h29, if_neg le, ci, l1, l2, g1, nI_1]
      cases b with
      | true => rw [if_neg (show ¬ bI true = 0 by decide)]; rfl
      | false =>
        rw [if_pos (show bI false = 0 from rfl)]
        by_cases c : bI (isT a.1 a.2) = bI t
        · rw [if_pos c, bI_eq.mp c]; rfl
        · rw [if_neg c]
          have : (isT a.1 a.2 == t) = false := by rw [← Bool.not_eq_true]; exact fun z => c (bI_eq.mpr z)
          rw [this]; rfl
    have S1 : S167_10 (bI t) (bI b) (nI i) Q := by
      unfold S167_10 S167_45 S167_50
      rw [h29, ci, l1, l2]
      refine ⟨fun z => absurd z le, fun _ => ⟨fun _ => ?_, fun _ => trivial⟩⟩
      first
        | exact ⟨vi, vi, g2, fun _ => trivial, fun _ => trivial⟩
        | simp [vi, g2]
    obtain ⟨r1, r2⟩ := ih (i + 1) Q (b || (isT a.1 a.2 == t)) F (by omega) (by omega) (fun v h => hv v (List.mem_cons_of_mem _ h)) h29 l3
    refine ⟨sf_s e1 S1 r1, ?_⟩
    rw [List.any_cons, ← Bool.or_assoc]
    exact (it_s (B := fun (s : Int32 × Int32 × aQ) => F167_10 (bI t) s.1 s.2.1 s.2.2) (s := (bI b, nI i, Q)) e1).trans r2
theorem F167_eq {t : Bool} (he : e < 60) (hP : okP P) (hm : mpAt Q 671 672 e P) : S167_0 (nI e) (bI t) Q ∧ ∃ Q', F167_0 (nI e) (bI t) Q = (bI (mayB t P), Q') ∧ frL Q Q' := by
  obtain ⟨s1, s2, s3⟩ := F161_eq (f := true) (i := e) he hP hm
  have sI : srcI true e = nI e := if_pos rfl
  rw [sI] at s1 s2 s3
  have ln := vals_len P
  obtain ⟨r1, r2⟩ := F167_loop (t := t) (L := vals P) (by omega) (vals P) 0 (F161_0 (nI e) Q) false 200 (by omega) (by omega) (fun v hv => (val_ok hv).1) s3.1 s3.2
  have r2' : a_it (fun (s : Int32 × Int32 × aQ) => F167_10 (bI t) s.1 s.2.1 s.2.2) 200 (0, 0, F161_0 (nI e) Q) = some (bI (false || (vals P).any fun v => isT v.1 v.2 == t), F161_0 (nI e) Q) := r2
  have an : (false || (vals P).any fun v => isT v.1 v.2 == t) = mayB t P := by
    rw [Bool.false_or]
    refine Bool.eq_iff_iff.mpr ?_
    rw [← ex_v hP t, List.any_eq_true]
    simp
  rw [an] at r2'
  unfold S167_0 F167_0 S167_5 F167_5 F167_57 S167_57
  rw [a_lp_eq r2']
  exact ⟨⟨s1, r1, bI_or, trivial⟩, _, rfl, s2⟩
theorem F169_eq {v : Nat} (hv : v < 5) (hf : fitAt Q P) : S169_0 (nI v) Q ∧ mpAt (F169_0 (nI v) Q) 669 670 v P ∧ (∀ c j, ¬ (c = 669 ∧ j = v) → ¬ (c = 670 ∧ 4 * v ≤ j ∧ j < 4 * v + 4) → (F169_0 (nI v) Q).1 c j = Q.1 c j) ∧ (F169_0 (nI v) Q).2 = Q.2 := by
  have ce : (nI v).toNatClampNeg = v := nI_clamp (by omega)
  have ve : vp_in (nI v) 5 := vp_in_nI hv (by decide)
  obtain ⟨Q', r1, r2, r3, r4, r5, -⟩ := copyN (B := fun s => F169_12 (nI v) s.1 s.2) (SB := fun s => S169_12 (nI v) s.1 s.2) 4 670 (4 * v) 679 0 (fun _ => True) (by decide) (fun _ _ _ _ _ => trivial) (fun Q _ => ⟨by show F169_12 (nI v) (nI 4) Q = _; unfold F169_12; rw [if_pos l4], by show S169_12 (nI v) (nI 4) Q; exact ⟨fun _ => trivial, fun z => absurd l4 z⟩⟩) (fun Q k hk _ => by
    obtain ⟨c1, c2⟩ := c4k (i := v) (k := k) (N := 20) (by omega) (by decide)
    have ck : (nI k).toNatClampNeg = k := nI_clamp (by omega)
    have vk : vp_in (nI k) 4 := vp_in_nI hk (by decide)
    refine ⟨?_, ?_⟩
    · show F169_12 (nI v) (nI k) Q = _
      unfold F169_12
      rw [if_neg (n4 hk), c1, ck, nI_1, Nat.zero_add]
    · exact ⟨fun z => absurd z (n4 hk), fun _ => ⟨vk, c2, trivial⟩⟩) 4 0 (a_w Q 669 v (Q.1 650 35)) 200 rfl (by decide) trivial
  have r2' : a_it (fun (s : Int32 × aQ) => F169_12 (nI v) s.1 s.2) 200 (0, a_w Q 669 v (Q.1 650 35)) = some Q' := r2
  unfold S169_0 F169_0 F169_39
  rw [ce, a_lp_eq r2']
  refine ⟨⟨ve, r1, trivial⟩, ?_, fun c j a b => ?_, r5⟩
  · refine mp_cong hf ?_ (fun k hk => ?_)
    · rw [r4 669 v (by omega), w_eq]
    · show Q'.1 670 (4 * v + k) = Q.1 679 k
      rw [r3 k (by omega) hk, w_ne (by decide), Nat.zero_add]
  · rw [r4 c j (by omega), w_get, if_neg a]
/-- whether a value fits the condition -/
def fitC (pl cm : Bool) (o : Nat) (t : Bool) (M : List (Nat × Int)) (a : Nat × Int) : Bool := (pl && (isT a.1 a.2 == t)) || (cm && M.any fun b => !((wk o a.1 a.2 b.1 b.2).1 == 0) && (isT (wk o a.1 a.2 b.1 b.2).1 (wk o a.1 a.2 b.1 b.2).2 == t))
/-- working out touches little -/
def frK (q q' : aQ) : Prop := (∀ c j, ¬ (c = 650 ∧ j = 37) → q'.1 c j = q.1 c j) ∧ (∀ c j, ¬ (c = 650 ∧ j = 38) → q'.2 c j = q.2 c j)
theorem frK.rf {q : aQ} : frK q q := ⟨fun _ _ _ => rfl, fun _ _ _ => rfl⟩
theorem frK.tr {q q1 q2 : aQ} (h : frK q q1) (k : frK q1 q2) : frK q q2 := ⟨fun c j x => (k.1 c j x).trans (h.1 c j x), fun c j x => (k.2 c j x).trans (h.2 c j x)⟩
/-- the right values from j on, for one left value -/
theorem F168_in {a : Nat × Int} {M : List (Nat × Int)} {v3 v5 : Int32} {cm t : Bool} {i o : Nat} (he : e < 60) (hi : i < 60) (ho : o ≤ 7) (ha : vOk a.1 a.2) (hM60 : M.length < 60) : ∀ S j Q b F, M.length = j + S.length → S.length < F → (∀ b, b ∈ S → vOk b.1 b.2) → (cm = true → Q.1 651 e = nI (10 + o)) → Q.1 650 32 = nI M.length → Q.1 675 i = nI a.1 → Q.1 676 i = iI a.2 → lst Q 677 678 j S → ∃ Q', a_sf (fun (s : Int32 × Int32 × aQ) => F168_175 (nI e) (bI t) v3 (bI cm) v5 (nI i) s.1 s.2.1 s.2.2) (fun (s : Int32 × Int32 × aQ) => S168_175 (nI e) (bI t) v3 (bI cm) v5 (nI i) s.1 s.2.1 s.2.2) F (bI b, nI j, Q) ∧ a_it (fun (s : Int32 × Int32 × aQ) => F168_175 (nI e) (bI t) v3 (bI cm) v5 (nI i) s.1 s.2.1 s.2.2) F (bI b, nI j, Q) = some (bI (b || (cm && S.any fun c => !((wk o a.1 a.2 c.1 c.2).1 == 0) && (isT (wk o a.1 a.2 c.1 c.2).1 (wk o a.1 a.2 c.1 c.2).2 == t))), Q') ∧ frK Q Q' := by
  have ce : (nI e).toNatClampNeg = e := nI_clamp (by omega)
  have ve : vp_in (nI e) 60 := vp_in_nI he (by decide)
  have ci : (nI i).toNatClampNeg = i := nI_clamp (by omega)
  have vi : vp_in (nI i) 60 := vp_in_nI hi (by decide)
  have ba : bd a.2 := by have := ha.lt.2.1; unfold bd; omega
  -- when it ends at once
  have stop : ∀ S j Q b F, (nI M.length ≤ nI j ∨ cm = false ∨ b = true) → Q.1 650 32 = nI M.length → (b || (cm && S)) = b → ∃ Q', a_sf (fun (s : Int32 × Int32 × aQ) => F168_175 (nI e) (bI t) v3 (bI cm) v5 (nI i) s.1 s.2.1 s.2.2) (fun (s : Int32 × Int32 × aQ) => S168_175 (nI e) (bI t) v3 (bI cm) v5 (nI i) s.1 s.2.1 s.2.2) (F + 1) (bI b, nI j, Q) ∧ a_it (fun (s : Int32 × Int32 × aQ) => F168_175 (nI e) (bI t) v3 (bI cm) v5 (nI i) s.1 s.2.1 s.2.2) (F + 1) (bI b, nI j, Q) = some (bI (b || (cm && S)), Q') ∧ frK Q Q' := by
    intro S j Q b F hc h32 hb
    by_cases le : nI M.length ≤ nI j
    · have e1 : F168_175 (nI e) (bI t) v3 (bI cm) v5 (nI i) (bI b) (nI j) Q = .inr (bI b, Q) := by
        unfold F168_175
        rw [h32, if_pos le]
      refine ⟨Q, sf_e e1 ?_, ?_, frK.rf⟩
      · show S168_175 (nI e) (bI t) v3 (bI cm) v5 (nI i) (bI b) (nI j) Q
        unfold S168_175
        rw [h32]
        exact ⟨fun _ => trivial, fun z => absurd le z⟩
      · rw [hb]; exact it_e e1
    · by_cases c0 : cm = false
      · subst c0
        have e1 : F168_175 (nI e) (bI t) v3 (bI false) v5 (nI i) (bI b) (nI j) Q = .inr (bI b, Q) := by
          unfold F168_175
          rw [h32, if_neg le, if_pos (show bI false = 0 from rfl)]
        refine ⟨Q, sf_e e1 ?_, ?_, frK.rf⟩
        · show S168_175 (nI e) (bI t) v3 (bI false) v5 (nI i) (bI b) (nI j) Q
          unfold S168_175
          rw [h32]
          exact ⟨fun z => absurd z le, fun _ => ⟨fun _ => trivial, fun z => absurd (show bI false = 0 from rfl) z⟩⟩
        · rw [hb]; exact it_e e1
      · have ct : cm = true := by simpa using c0
        have bt : b = true := by
          rcases hc with z | z | z
          · exact absurd z le
          · exact absurd z c0
          · exact z
        subst ct bt
        have e1 : F168_175 (nI e) (bI t) v3 (bI true) v5 (nI i) (bI true) (nI j) Q = .inr (bI true, Q) := by
          unfold F168_175
          rw [h32, if_neg le, if_neg (show ¬ bI true = 0 by decide), if_neg (show ¬ bI true = 0 by decide)]
        refine ⟨Q, sf_e e1 ?_, ?_, frK.rf⟩
        · show S168_175 (nI e) (bI t) v3 (bI true) v5 (nI i) (bI true) (nI j) Q
          unfold S168_175
          rw [h32]
          exact ⟨fun z => absurd z le, fun _ => ⟨fun z => absurd z (by decide), fun _ => ⟨fun z => absurd z (by decide), fun _ => trivial⟩⟩⟩
        · rw [hb]; exact it_e e1
  intro S
  induction S with
  | nil =>
    intro j Q b F hk hF hv h651 h32 h1 h2 hl
    obtain ⟨F, rfl⟩ : ∃ k, F = k + 1 := ⟨F - 1, by simp at hF; omega⟩
    have le : nI M.length ≤ nI j := nI_le (by simp at hk; omega) (by simp at hk; omega)
    rw [List.any_nil]
    exact stop false j Q b F (Or.inl le) h32 (by cases b <;> cases cm <;> rfl)
  | cons c S ih =>
    intro j Q b F hk hF hv h651 h32 h1 h2 hl
    have hk : M.length = j + (S.length + 1) := hk
    have hF : S.length + 1 < F := hF
    obtain ⟨F, rfl⟩ : ∃ k, F = k + 1 := ⟨F - 1, by omega⟩
    by_cases c0 : cm = false ∨ b = true
    · exact stop _ j Q b F (Or.inr c0) h32 (by rcases c0 with z | z <;> subst z <;> simp)
    · have ct : cm = true := by cases cm <;> simp_all
      have bf : b = false := by cases b <;> simp_all
      subst ct bf
      have le : ¬ nI M.length ≤ nI j := nI_ge (by omega) (by omega)
      have cj : (nI j).toNatClampNeg = j := nI_clamp (by omega)
      have vj : vp_in (nI j) 60 := vp_in_nI (by omega) (by decide)
      obtain ⟨l1, l2, l3⟩ := hl
      have hc := hv c List.mem_cons_self
      have bc : bd c.2 := by have := hc.lt.2.1; unfold bd; omega
      have d10 : nI (10 + o) - 10 = nI o := nI_s10
      obtain ⟨w1, w2⟩ := F154_eq (q := Q) ho ha.lt.1 hc.lt.1 ha.sml hc.sml
      have wb := wk_b (o := o) ha hc
      obtain ⟨g1, g37, g38, -⟩ := F152_fr (n := 0) (t := nI (wk o a.1 a.2 c.1 c.2).1) (x := lI (wk o a.1 a.2 c.1 c.2).2) (Q := Q)
      have u0 : frK Q (F152_0 (nI (wk o a.1 a.2 c.1 c.2).1) (lI (wk o a.1 a.2 c.1 c.2).2) Q) := by
        unfold F152_0
        refine ⟨fun c j x => by rw [wl_i, w_get, if_neg x], fun c j x => by rw [wl_get, if_neg x, w_l]⟩
      have st : ∃ Q1, F168_175 (nI e) (bI t) v3 (bI true) v5 (nI i) (bI false) (nI j) Q = .inl (bI (!((wk o a.1 a.2 c.1 c.2).1 == 0) && (isT (wk o a.1 a.2 c.1 c.2).1 (wk o a.1 a.2 c.1 c.2).2 == t)), nI (j + 1), Q1) ∧ S168_175 (nI e) (bI t) v3 (bI true) v5 (nI i) (bI false) (nI j) Q ∧ frK Q Q1 := by
        refine ⟨F152_0 (nI (wk o a.1 a.2 c.1 c.2).1) (lI (wk o a.1 a.2 c.1 c.2).2) Q, ?_, ?_, u0⟩
        · unfold F168_175
          rw [h32, if_neg le, if_neg (show ¬ bI true = 0 by decide), if_pos (show bI false = 0 from rfl), ce, h651 rfl, d10, ci, cj, h1, h2, l1, l2, i64_i ba, i64_i bc, w1]
          unfold F168_237 F168_263 F168_264
          rw [g37, g38, nI_1]
          rcases wb with ⟨z1, z2⟩ | ⟨z1, z2, z3⟩
          · rw [if_pos (by rw [z1]; rfl), z1]; rfl
          · have n0 : ¬ nI (wk o a.1 a.2 c.1 c.2).1 = 0 := nI_ne0 (by omega) (by omega)
            have nb : ((wk o a.1 a.2 c.1 c.2).1 == 0) = false := by simp; omega
            obtain ⟨T1, T2⟩ := F151_big (q := F152_0 (nI (wk o a.1 a.2 c.1 c.2).1) (lI (wk o a.1 a.2 c.1 c.2).2) Q) (t := (wk o a.1 a.2 c.1 c.2).1) (x := (wk o a.1 a.2 c.1 c.2).2) (by omega) (by omega)
            rw [if_neg n0, T1, nb]
            by_cases y : bI (isT (wk o a.1 a.2 c.1 c.2).1 (wk o a.1 a.2 c.1 c.2).2) = bI t
            · rw [if_pos y, bI_eq.mp y]; rfl
            · rw [if_neg y]
              have : (isT (wk o a.1 a.2 c.1 c.2).1 (wk o a.1 a.2 c.1 c.2).2 == t) = false := by rw [← Bool.not_eq_true]; exact fun z => y (bI_eq.mpr z)
              rw [this]; rfl
        · unfold S168_175
          rw [h32, ce, h651 rfl, d10, ci, cj, h1, h2, l1, l2, i64_i ba, i64_i bc, w1]
          unfold S168_237 S168_263 S168_264
          rw [g37, g38]
          refine ⟨fun z => absurd z le, fun _ => ⟨fun z => absurd z (by decide), fun _ => ⟨fun _ => ⟨ve, vi, vi, vj, vj, w2, fun _ => trivial, fun z => ?_⟩, fun z => absurd (show bI false = 0 from rfl) z⟩⟩⟩
          rcases wb with ⟨z1, z2⟩ | ⟨z1, z2, z3⟩
          · exact absurd (by rw [z1]; rfl) z
          · obtain ⟨T1, T2⟩ := F151_big (q := F152_0 (nI (wk o a.1 a.2 c.1 c.2).1) (lI (wk o a.1 a.2 c.1 c.2).2) Q) (t := (wk o a.1 a.2 c.1 c.2).1) (x := (wk o a.1 a.2 c.1 c.2).2) (by omega) (by omega)
            exact ⟨T2, fun _ => trivial, fun _ => trivial⟩
      obtain ⟨Q1, e1, S1, u1⟩ := st
      obtain ⟨Q', r1, r2, r3⟩ := ih (j + 1) Q1 _ F (by omega) (by omega) (fun x hx => hv x (List.mem_cons_of_mem _ hx)) (fun z => by rw [u1.1 651 e (by omega)]; exact h651 z) (by rw [u1.1 650 32 (by omega)]; exact h32) (by rw [u1.1 675 i (by omega)]; exact h1) (by rw [u1.1 676 i (by omega)]; exact h2) (lst_fr S (j + 1) (fun x _ _ => ⟨u1.1 677 x (by omega), u1.1 678 x (by omega)⟩) l3)
      refine ⟨Q', sf_s e1 S1 r1, ?_, u1.tr r3⟩
      rw [List.any_cons, Bool.false_or]
      have := (it_s (B := fun (s : Int32 × Int32 × aQ) => F168_175 (nI e) (bI t) v3 (bI true) v5 (nI i) s.1 s.2.1 s.2.2) (s := (bI false, nI j, Q)) e1).trans r2
      rw [Bool.true_and] at this ⊢
      exact this
end
