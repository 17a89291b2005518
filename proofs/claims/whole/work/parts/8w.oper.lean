/-! the model pictures an operation -/
theorem val_ok {P : Pc} {v : Nat × Int} (h : v ∈ vals P) : vOk v.1 v.2 ∧ (v.1 = 1 ∨ v.1 = 2 ∨ v.1 = 4) ∧ -289 ≤ v.2 ∧ v.2 ≤ 289 := by
  rw [mem_vals] at h
  rcases h with ⟨a, b, c⟩ | ⟨a, b, c, d⟩ | ⟨a, b⟩
  · rw [mem_rp] at b
    exact ⟨Or.inl ⟨a, by omega, by omega⟩, Or.inl a, by omega, by omega⟩
  · rw [mem_rp] at b
    exact ⟨Or.inr (Or.inl ⟨a, by omega, by omega⟩), Or.inr (Or.inl a), by omega, by omega⟩
  · rw [a]; exact ⟨Or.inr (Or.inr ⟨rfl, rfl⟩), Or.inr (Or.inr rfl), by decide, by decide⟩
theorem i64_i {n : Int} (h : bd n) : Int32.toInt64 (iI n) = lI n := by rw [toI64, iI_t h]
theorem erL_app (L M : List (Nat × Int)) : erL (L ++ M) = orE (erL L) (erL M) := by
  unfold erL orE
  simp [List.mem_append, Bool.decide_or]
theorem orE_no (E : Er) : orE E noE = E := by
  obtain ⟨a, b, c⟩ := E
  cases a <;> cases b <;> cases c <;> rfl
theorem orE_as (a b c : Er) : orE (orE a b) c = orE a (orE b c) := by
  unfold orE
  simp [Bool.or_assoc]
theorem joP_eP {P : Pc} (h : okP P) : joP P eP = P := leP_jo (okP_le h)
/-- fit and errors so far -/
def accm (e : Nat) (Q : aQ) (P : Pc) (E : Er) : Prop := fitAt Q P ∧ Q.1 673 e = erM E ∧ okP P
def frO (e : Nat) (q q' : aQ) : Prop := (∀ c j, ¬ c = 679 → ¬ (c = 650 ∧ (j = 35 ∨ j = 37)) → ¬ (c = 673 ∧ j = e) → q'.1 c j = q.1 c j) ∧ (∀ c j, ¬ (c = 650 ∧ j = 38) → q'.2 c j = q.2 c j)
theorem frO.rf {e : Nat} {q : aQ} : frO e q q := ⟨fun _ _ _ _ _ => rfl, fun _ _ _ => rfl⟩
theorem frO.tr {e : Nat} {q q1 q2 : aQ} (h : frO e q q1) (k : frO e q1 q2) : frO e q q2 := ⟨fun c j x y z => (k.1 c j x y z).trans (h.1 c j x y z), fun c j x => (k.2 c j x).trans (h.2 c j x)⟩
section
variable {Q : aQ} {P : Pc} {E : Er} {e o : Nat}
/-- one pair of values -/
theorem pair_step {a b : Nat × Int} {v3 v4 v5 v6 : Int32} (he : e < 60) (ho : o ≤ 7) (ha : vOk a.1 a.2) (hb : vOk b.1 b.2) (h : accm e Q P E) : ∃ Q', F165_198 (nI e) (nI o) v3 v4 v5 v6 (F154_0 (nI o) (nI a.1) (lI a.2) (nI b.1) (lI b.2) Q) = .inl (v6 + 1, Q') ∧ S154_0 (nI o) (nI a.1) (lI a.2) (nI b.1) (lI b.2) Q ∧ S165_198 (nI e) (nI o) v3 v4 v5 v6 (F154_0 (nI o) (nI a.1) (lI a.2) (nI b.1) (lI b.2) Q) ∧ frO e Q Q' ∧ accm e Q' (joP P (one (wk o a.1 a.2 b.1 b.2))) (orE E (erL [wk o a.1 a.2 b.1 b.2])) := by
  have ce : (nI e).toNatClampNeg = e := nI_clamp (by omega)
  have ve : vp_in (nI e) 60 := vp_in_nI he (by decide)
  obtain ⟨w1, w2⟩ := F154_eq (q := Q) ho ha.lt.1 hb.lt.1 ha.sml hb.sml
  have wb := wk_b (o := o) ha hb
  have w2' : (wk o a.1 a.2 b.1 b.2).1 = 2 → 0 ≤ (wk o a.1 a.2 b.1 b.2).2 := by
    intro z
    obtain ⟨c1, c2, c3⟩ := wk_2 z
    rw [c3]
    rcases ha with g | g | g <;> rcases hb with k | k | k <;> omega
  rw [w1]
  generalize hw : wk o a.1 a.2 b.1 b.2 = w at *
  obtain ⟨h1, h2, h3⟩ := h
  obtain ⟨g1, g37, g38, -⟩ := F152_fr (n := 0) (t := nI w.1) (x := lI w.2) (Q := Q)
  have f0 : fitAt (F152_0 (nI w.1) (lI w.2) Q) P := mp_cong h1 (g1.1 650 35 (by decide) (by omega)) (fun k _ => g1.1 679 k (by decide) (by omega))
  have e0 : (F152_0 (nI w.1) (lI w.2) Q).1 673 e = erM E := by rw [g1.1 673 e (by decide) (by omega)]; exact h2
  have u0 : frO e Q (F152_0 (nI w.1) (lI w.2) Q) := by
    unfold F152_0
    refine ⟨fun c j x y z => by rw [wl_i, w_get, if_neg (by omega)], fun c j x => by rw [wl_get, if_neg x, w_l]⟩
  unfold F165_198 F165_240 S165_198 S165_240
  rw [g37, g38, ce, e0]
  rcases wb with ⟨z1, z2⟩ | ⟨z1, z2, z3⟩
  · have n0 : nI w.1 = 0 := by rw [z1]; rfl
    rw [if_pos n0]
    have jj : joP P (one w) = P := by
      have : one w = eP := by unfold one; rw [if_neg (by omega), if_neg (by omega), if_neg (by omega)]
      rw [this]; exact joP_eP h3
    have em : erM E ||| (1 <<< (Int64.toInt32 (lI w.2) &&& 31)) = erM (orE E (erL [w])) := by
      obtain ⟨t, x⟩ := w
      dsimp only at z1 z2
      subst z1
      obtain ⟨p, q, r⟩ := E
      rcases z2 with rfl | rfl <;> cases p <;> cases q <;> cases r <;> decide
    rw [em, jj]
    refine ⟨_, rfl, w2, ⟨fun _ => ⟨ve, ve, trivial⟩, fun z => absurd n0 z⟩, u0.tr ⟨fun c j x y z => by rw [w_get, if_neg z], fun _ _ _ => rfl⟩, ?_, w_eq, h3⟩
    exact mp_cong f0 (w_ne (by decide)) (fun k _ => w_ne (by decide))
  · have n0 : ¬ nI w.1 = 0 := nI_ne0 (by omega) (by omega)
    rw [if_neg n0]
    obtain ⟨k1, k2, k3⟩ := F158_eq (t := w.1) (n := w.2) h3 f0 (by omega) (by unfold big; omega) w2'
    have er0 : erL [w] = noE := by
      unfold erL noE
      have n1 : ¬ (0, 1) ∈ [w] := fun z => by rw [List.mem_singleton] at z; rw [← z] at z1; simp at z1
      have n3 : ¬ (0, 3) ∈ [w] := fun z => by rw [List.mem_singleton] at z; rw [← z] at z1; simp at z1
      rw [decide_eq_false n1, decide_eq_false n3]
    rw [er0, orE_no]
    refine ⟨_, rfl, w2, ⟨fun z => absurd z n0, fun _ => ⟨k1, trivial⟩⟩, u0.tr ⟨fun c j x y z => k2.1 c j x (by omega), fun c j _ => by rw [k2.2]⟩, k3, ?_, joP_ok h3 (one_ok w2')⟩
    rw [k2.1 673 e (by decide) (by omega)]; exact e0
/-- one left value with the right values from j on -/
theorem inner_loop {a : Nat × Int} {M : List (Nat × Int)} {v3 : Int32} {i : Nat} (he : e < 60) (hi : i < 60) (ho : o ≤ 7) (ha : vOk a.1 a.2) (hM60 : M.length < 60) : ∀ S j Q P E F, M.length = j + S.length → S.length < F → (∀ b, b ∈ S → vOk b.1 b.2) → Q.1 675 i = nI a.1 → Q.1 676 i = iI a.2 → lst Q 677 678 j S → accm e Q P E → ∃ Q', a_sf (fun (s : Int32 × aQ) => F165_156 (nI e) (nI o) v3 (nI i) (nI M.length) s.1 s.2) (fun (s : Int32 × aQ) => S165_156 (nI e) (nI o) v3 (nI i) (nI M.length) s.1 s.2) F (nI j, Q) ∧ a_it (fun (s : Int32 × aQ) => F165_156 (nI e) (nI o) v3 (nI i) (nI M.length) s.1 s.2) F (nI j, Q) = some Q' ∧ frO e Q Q' ∧ accm e Q' (hulL P (S.map fun b => wk o a.1 a.2 b.1 b.2)) (orE E (erL (S.map fun b => wk o a.1 a.2 b.1 b.2))) := by
  have ci : (nI i).toNatClampNeg = i := nI_clamp (by omega)
  have vi : vp_in (nI i) 60 := vp_in_nI hi (by decide)
  have ba : bd a.2 := by have := ha.lt.2.1; unfold bd; omega
  intro S
  induction S with
  | nil =>
    intro j Q P E F hk hF hb h1 h2 hl h
    obtain ⟨F, rfl⟩ : ∃ k, F = k + 1 := ⟨F - 1, by simp at hF; omega⟩
    have le : nI M.length ≤ nI j := nI_le (by simp at hk; omega) (by simp at hk; omega)
    have e1 : F165_156 (nI e) (nI o) v3 (nI i) (nI M.length) (nI j) Q = .inr Q := by unfold F165_156; rw [if_pos le]
    refine ⟨Q, sf_e e1 ⟨fun _ => trivial, fun z => absurd le z⟩, it_e e1, frO.rf, ?_⟩
    show accm e Q P (orE E noE)
    rw [orE_no]; exact h
  | cons b S ih =>
    intro j Q P E F hk hF hb h1 h2 hl h
    have hk : M.length = j + (S.length + 1) := hk
    have hF : S.length + 1 < F := hF
    obtain ⟨F, rfl⟩ : ∃ k, F = k + 1 := ⟨F - 1, by omega⟩
    have le : ¬ nI M.length ≤ nI j := nI_ge (by omega) (by omega)
    have cj : (nI j).toNatClampNeg = j := nI_clamp (by omega)
    have vj : vp_in (nI j) 60 := vp_in_nI (by omega) (by decide)
    obtain ⟨l1, l2, l3⟩ := hl
    have hb0 := hb b List.mem_cons_self
    have bb : bd b.2 := by have := hb0.lt.2.1; unfold bd; omega
    obtain ⟨Q1, p1, p2, p3, p4, p5⟩ := pair_step (v3 := v3) (v4 := nI i) (v5 := nI M.length) (v6 := nI j) he ho ha hb0 h
    have ee : F165_156 (nI e) (nI o) v3 (nI i) (nI M.length) (nI j) Q = .inl (nI (j + 1), Q1) := by
      unfold F165_156
      rw [if_neg le, ci, cj, h1, h2, l1, l2, i64_i ba, i64_i bb, p1, nI_1]
    have SS : S165_156 (nI e) (nI o) v3 (nI i) (nI M.length) (nI j) Q := by
      unfold S165_156
      rw [ci, cj, h1, h2, l1, l2, i64_i ba, i64_i bb]
      exact ⟨fun z => absurd z le, fun _ => ⟨vi, vi, vj, vj, p2, p3⟩⟩
    obtain ⟨Q', r1, r2, r3, r4⟩ := ih (j + 1) Q1 _ _ F (by omega) (by omega) (fun x hx => hb x (List.mem_cons_of_mem _ hx)) (by rw [p4.1 675 i (by decide) (by omega) (by omega)]; exact h1) (by rw [p4.1 676 i (by decide) (by omega) (by omega)]; exact h2) (lst_fr S (j + 1) (fun x _ _ => ⟨p4.1 677 x (by decide) (by omega) (by omega), p4.1 678 x (by decide) (by omega) (by omega)⟩) l3) p5
    refine ⟨Q', sf_s ee SS r1, (it_s (B := fun (s : Int32 × aQ) => F165_156 (nI e) (nI o) v3 (nI i) (nI M.length) s.1 s.2) (s := (nI j, Q)) ee).trans r2, p4.tr r3, ?_⟩
    show accm e Q' (hulL (joP P (one (wk o a.1 a.2 b.1 b.2))) (S.map fun b => wk o a.1 a.2 b.1 b.2)) (orE E (erL ([wk o a.1 a.2 b.1 b.2] ++ S.map fun b => wk o a.1 a.2 b.1 b.2)))
    rw [erL_app, ← orE_as]
    exact r4
/-- all left values with all right values -/
theorem outer_loop {L M : List (Nat × Int)} {v3 : Int32} (he : e < 60) (ho : o ≤ 7) (hL60 : L.length < 60) (hM60 : M.length < 60) (hM : ∀ b, b ∈ M → vOk b.1 b.2) : ∀ S i Q P E F, L.length = i + S.length → S.length < F → (∀ b, b ∈ S → vOk b.1 b.2) → Q.1 650 29 = nI L.length → (if v3 = 0 then Q.1 650 32 else 1) = nI M.length → lst Q 675 676 i S → lst Q 677 678 0 M → accm e Q P E → ∃ Q', a_sf (fun (s : Int32 × aQ) => F165_130 (nI e) (nI o) v3 s.1 s.2) (fun (s : Int32 × aQ) => S165_130 (nI e) (nI o) v3 s.1 s.2) F (nI i, Q) ∧ a_it (fun (s : Int32 × aQ) => F165_130 (nI e) (nI o) v3 s.1 s.2) F (nI i, Q) = some Q' ∧ frO e Q Q' ∧ accm e Q' (hulL P (prods o S M)) (orE E (erL (prods o S M))) := by
  intro S
  induction S with
  | nil =>
    intro i Q P E F hk hF hb h29 h32 hl hm h
    obtain ⟨F, rfl⟩ : ∃ k, F = k + 1 := ⟨F - 1, by simp at hF; omega⟩
    have le : nI L.length ≤ nI i := nI_le (by simp at hk; omega) (by simp at hk; omega)
    have e1 : F165_130 (nI e) (nI o) v3 (nI i) Q = .inr Q := by unfold F165_130; rw [h29, if_pos le]
    have S1 : S165_130 (nI e) (nI o) v3 (nI i) Q := by unfold S165_130; rw [h29]; exact ⟨fun _ => trivial, fun z => absurd le z⟩
    refine ⟨Q, sf_e e1 S1, it_e e1, frO.rf, ?_⟩
    show accm e Q P (orE E noE)
    rw [orE_no]; exact h
  | cons a S ih =>
    intro i Q P E F hk hF hb h29 h32 hl hm h
    have hk : L.length = i + (S.length + 1) := hk
    have hF : S.length + 1 < F := hF
    obtain ⟨F, rfl⟩ : ∃ k, F = k + 1 := ⟨F - 1, by omega⟩
    have le : ¬ nI L.length ≤ nI i := nI_ge (by omega) (by omega)
    obtain ⟨l1, l2, l3⟩ := hl
    obtain ⟨Q1, p1, p2, p3, p4⟩ := inner_loop (v3 := v3) (M := M) he (show i < 60 by omega) ho (hb a List.mem_cons_self) hM60 M 0 Q P E 200 (by omega) (by omega) hM l1 l2 hm h
    have p2' : a_it (fun (s : Int32 × aQ) => F165_156 (nI e) (nI o) v3 (nI i) (nI M.length) s.1 s.2) 200 (0, Q) = some Q1 := p2
    have ee : F165_130 (nI e) (nI o) v3 (nI i) Q = .inl (nI (i + 1), Q1) := by
      unfold F165_130
      rw [h29, if_neg le]
      have : F165_151 (nI e) (nI o) v3 (nI i) (nI M.length) Q = .inl (nI (i + 1), Q1) := by
        unfold F165_151 F165_246
        rw [a_lp_eq p2', nI_1]
      by_cases c : v3 = 0
      · rw [if_pos c] at h32; rw [if_pos c, h32]; exact this
      · rw [if_neg c] at h32; rw [if_neg c, h32]; exact this
    have SS : S165_130 (nI e) (nI o) v3 (nI i) Q := by
      unfold S165_130
      rw [h29]
      have : S165_151 (nI e) (nI o) v3 (nI i) (nI M.length) Q := by
        unfold S165_151 S165_246
        exact ⟨p1, trivial⟩
      refine ⟨fun z => absurd z le, fun _ => ⟨fun c => ?_, fun c => ?_⟩⟩
      · rw [if_pos c] at h32; rw [h32]; exact this
      · rw [if_neg c] at h32; rw [h32]; exact this
    obtain ⟨Q', r1, r2, r3, r4⟩ := ih (i + 1) Q1 _ _ F (by omega) (by omega) (fun x hx => hb x (List.mem_cons_of_mem _ hx)) (by rw [p3.1 650 29 (by decide) (by omega) (by omega)]; exact h29) (by rw [p3.1 650 32 (by decide) (by omega) (by omega)]; exact h32) (lst_fr S (i + 1) (fun x _ _ => ⟨p3.1 675 x (by decide) (by omega) (by omega), p3.1 676 x (by decide) (by omega) (by omega)⟩) l3) (lst_fr M 0 (fun x _ _ => ⟨p3.1 677 x (by decide) (by omega) (by omega), p3.1 678 x (by decide) (by omega) (by omega)⟩) hm) p4
    refine ⟨Q', sf_s ee SS r1, (it_s (B := fun (s : Int32 × aQ) => F165_130 (nI e) (nI o) v3 s.1 s.2) (s := (nI i, Q)) ee).trans r2, p3.tr r3, ?_⟩
    have pr : prods o (a :: S) M = (M.map fun b => wk o a.1 a.2 b.1 b.2) ++ prods o S M := by
      unfold prods; rw [List.flatMap_cons]
    rw [pr, erL_app, ← orE_as, hulL_app]
    exact r4
end
