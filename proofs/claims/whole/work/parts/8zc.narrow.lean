/-! the model narrows -/
section
variable {q Q : aQ} {nE e : Nat} {x : Nat → Pc} {P : Pc}
def frN2 (q q' : aQ) : Prop := (∀ c j, ¬ c = 679 → ¬ (c = 650 ∧ (j = 35 ∨ j = 37)) → q'.1 c j = q.1 c j) ∧ (∀ c j, ¬ (c = 650 ∧ j = 38) → q'.2 c j = q.2 c j)
theorem frN2.rf {q : aQ} : frN2 q q := ⟨fun _ _ _ _ => rfl, fun _ _ _ => rfl⟩
theorem frN2.tr {q q1 q2 : aQ} (h : frN2 q q1) (k : frN2 q1 q2) : frN2 q q2 := ⟨fun c j x y => (k.1 c j x y).trans (h.1 c j x y), fun c j x => (k.2 c j x).trans (h.2 c j x)⟩
theorem F168_out {L M : List (Nat × Int)} {v5 : Int32} {pl cm t : Bool} {o : Nat} (he : e < 60) (ho : o ≤ 7) (hL60 : L.length < 60) (hM60 : M.length < 60) (hM : ∀ b, b ∈ M → vOk b.1 b.2) : ∀ S i Q P F, L.length = i + S.length → S.length < F → (∀ b, b ∈ S → vOk b.1 b.2) → (cm = true → Q.1 651 e = nI (10 + o)) → Q.1 650 29 = nI L.length → Q.1 650 32 = nI M.length → lst Q 675 676 i S → lst Q 677 678 0 M → fitAt Q P → okP P → ∃ Q', a_sf (fun (s : Int32 × aQ) => F168_130 (nI e) (bI t) (bI pl) (bI cm) v5 s.1 s.2) (fun (s : Int32 × aQ) => S168_130 (nI e) (bI t) (bI pl) (bI cm) v5 s.1 s.2) F (nI i, Q) ∧ a_it (fun (s : Int32 × aQ) => F168_130 (nI e) (bI t) (bI pl) (bI cm) v5 s.1 s.2) F (nI i, Q) = some Q' ∧ frN2 Q Q' ∧ fitAt Q' (hulL P (S.filter (fitC pl cm o t M))) ∧ okP (hulL P (S.filter (fitC pl cm o t M))) := by
  intro S
  induction S with
  | nil =>
    intro i Q P F hk hF hb h651 h29 h32 hl hm hf hP
    obtain ⟨F, rfl⟩ : ∃ k, F = k + 1 := ⟨F - 1, by simp at hF; omega⟩
    have le : nI L.length ≤ nI i := nI_le (by simp at hk; omega) (by simp at hk; omega)
    have e1 : F168_130 (nI e) (bI t) (bI pl) (bI cm) v5 (nI i) Q = .inr Q := by unfold F168_130; rw [h29, if_pos le]
    have S1 : S168_130 (nI e) (bI t) (bI pl) (bI cm) v5 (nI i) Q := by unfold S168_130; rw [h29]; exact ⟨fun _ => trivial, fun z => absurd le z⟩
    exact ⟨Q, sf_e e1 S1, it_e e1, frN2.rf, hf, hP⟩
  | cons a S ih =>
    intro i Q P F hk hF hb h651 h29 h32 hl hm hf hP
    have hk : L.length = i + (S.length + 1) := hk
    have hF : S.length + 1 < F := hF
    obtain ⟨F, rfl⟩ : ∃ k, F = k + 1 := ⟨F - 1, by omega⟩
    have le : ¬ nI L.length ≤ nI i := nI_ge (by omega) (by omega)
    have ci : (nI i).toNatClampNeg = i := nI_clamp (by omega)
    have vi : vp_in (nI i) 60 := vp_in_nI (by omega) (by decide)
    obtain ⟨l1, l2, l3⟩ := hl
    have ha := hb a List.mem_cons_self
    have ba : bd a.2 := by have := ha.lt.2.1; unfold bd; omega
    obtain ⟨Q1, p1, p2, p3⟩ := F168_in (v3 := bI pl) (v5 := v5) (cm := cm) (t := t) (o := o) he (show i < 60 by omega) ho ha hM60 M 0 Q (pl && (isT a.1 a.2 == t)) 200 (by omega) (by omega) hM h651 h32 l1 l2 hm
    have p2' : a_it (fun (s : Int32 × Int32 × aQ) => F168_175 (nI e) (bI t) (bI pl) (bI cm) v5 (nI i) s.1 s.2.1 s.2.2) 200 (bI (pl && (isT a.1 a.2 == t)), 0, Q) = some (bI (fitC pl cm o t M a), Q1) := p2
    have p1' : a_sf (fun (s : Int32 × Int32 × aQ) => F168_175 (nI e) (bI t) (bI pl) (bI cm) v5 (nI i) s.1 s.2.1 s.2.2) (fun (s : Int32 × Int32 × aQ) => S168_175 (nI e) (bI t) (bI pl) (bI cm) v5 (nI i) s.1 s.2.1 s.2.2) 200 (bI (pl && (isT a.1 a.2 == t)), 0, Q) := p1
    have f1 : fitAt Q1 P := mp_cong hf (p3.1 650 35 (by omega)) (fun k _ => p3.1 679 k (by omega))
    have r1 : Q1.1 675 i = nI a.1 := by rw [p3.1 675 i (by omega)]; exact l1
    have r2 : Q1.1 676 i = iI a.2 := by rw [p3.1 676 i (by omega)]; exact l2
    have u1 : frN2 Q Q1 := ⟨fun c j x y => p3.1 c j (by omega), p3.2⟩
    -- what is fitted
    have body : ∃ Q2, F168_170 (nI e) (bI t) (bI pl) (bI cm) v5 (nI i) (bI (pl && (isT a.1 a.2 == t))) Q = .inl (nI (i + 1), Q2) ∧ S168_170 (nI e) (bI t) (bI pl) (bI cm) v5 (nI i) (bI (pl && (isT a.1 a.2 == t))) Q ∧ frN2 Q Q2 ∧ fitAt Q2 (if fitC pl cm o t M a = true then joP P (one a) else P) ∧ okP (if fitC pl cm o t M a = true then joP P (one a) else P) := by
      unfold F168_170 S168_170
      rw [a_lp_eq p2']
      unfold F168_272 S168_272 F168_296 S168_296
      dsimp only
      rw [ci, r1, r2, i64_i ba, nI_1]
      cases hfc : fitC pl cm o t M a with
      | false =>
        rw [if_pos (show bI false = 0 from rfl), if_neg (by decide)]
        exact ⟨Q1, rfl, ⟨p1', fun _ => trivial, fun z => absurd (show bI false = 0 from rfl) z⟩, u1, f1, hP⟩
      | true =>
        have a2 : a.1 = 2 → 0 ≤ a.2 := fun z => by rcases ha with g | g | g <;> omega
        obtain ⟨k1, k2, k3⟩ := F158_eq (t := a.1) (n := a.2) hP f1 (by have := ha.lt.2.2; omega) (by have := ha.lt.2.1; unfold big; omega) a2
        rw [if_neg (show ¬ bI true = 0 by decide), if_pos rfl]
        exact ⟨_, rfl, ⟨p1', fun z => absurd z (by decide), fun _ => ⟨vi, vi, k1, trivial⟩⟩, u1.tr ⟨fun c j x y => k2.1 c j x (by omega), fun c j _ => by rw [k2.2]⟩, k3, joP_ok hP (one_ok a2)⟩
    obtain ⟨Q2, b1, b2, b3, b4, b5⟩ := body
    obtain ⟨g1, g2⟩ := F151_b ha (Q := Q)
    have e1 : F168_130 (nI e) (bI t) (bI pl) (bI cm) v5 (nI i) Q = .inl (nI (i + 1), Q2) := by
      unfold F168_130 F168_169
      rw [h29, if_neg le, ci, l1, l2, g1]
      cases pl with
      | false => rw [if_pos (show bI false = 0 from rfl)]; exact b1
      | true =>
        rw [if_neg (show ¬ bI true = 0 by decide)]
        by_cases y : bI (isT a.1 a.2) = bI t
        · rw [if_pos y]; rw [bI_eq.mp y] at b1; exact b1
        · rw [if_neg y]
          have : (isT a.1 a.2 == t) = false := by rw [← Bool.not_eq_true]; exact fun z => y (bI_eq.mpr z)
          rw [this] at b1; exact b1
    have S1 : S168_130 (nI e) (bI t) (bI pl) (bI cm) v5 (nI i) Q := by
      unfold S168_130 S168_169
      rw [h29, ci, l1, l2]
      refine ⟨fun z => absurd z le, fun _ => ⟨fun z => ?_, fun z => ⟨vi, vi, g2, fun y => ?_, fun y => ?_⟩⟩⟩
      · have : pl = false := bI_t.mp z
        subst this; exact b2
      · have : pl = true := by cases pl; exact absurd (show bI false = 0 from rfl) z; rfl
        subst this
        rw [g1] at y
        rw [bI_eq.mp y] at b2; exact b2
      · have : pl = true := by cases pl; exact absurd (show bI false = 0 from rfl) z; rfl
        subst this
        rw [g1] at y
        have : (isT a.1 a.2 == t) = false := by rw [← Bool.not_eq_true]; exact fun z => y (bI_eq.mpr z)
        rw [this] at b2; exact b2
    obtain ⟨Q', c1, c2, c3, c4, c5⟩ := ih (i + 1) Q2 _ F (by omega) (by omega) (fun y hy => hb y (List.mem_cons_of_mem _ hy)) (fun z => by rw [b3.1 651 e (by decide) (by omega)]; exact h651 z) (by rw [b3.1 650 29 (by decide) (by omega)]; exact h29) (by rw [b3.1 650 32 (by decide) (by omega)]; exact h32) (lst_fr S (i + 1) (fun y _ _ => ⟨b3.1 675 y (by decide) (by omega), b3.1 676 y (by decide) (by omega)⟩) l3) (lst_fr M 0 (fun y _ _ => ⟨b3.1 677 y (by decide) (by omega), b3.1 678 y (by decide) (by omega)⟩) hm) b4 b5
    have fe : hulL P ((a :: S).filter (fitC pl cm o t M)) = hulL (if fitC pl cm o t M a = true then joP P (one a) else P) (S.filter (fitC pl cm o t M)) := by
      rw [List.filter_cons]
      split
      · rfl
      · rfl
    rw [fe]
    exact ⟨Q', sf_s e1 S1 c1, (it_s (B := fun (s : Int32 × aQ) => F168_130 (nI e) (bI t) (bI pl) (bI cm) v5 s.1 s.2) (s := (nI i, Q)) e1).trans c2, b3.tr c3, c4, c5⟩
/-- what narrowing changes -/
def frH (q q' : aQ) : Prop := (∀ c j, ¬ (669 ≤ c ∧ c ≤ 679) → ¬ (c = 650 ∧ (j = 29 ∨ j = 32 ∨ j = 35 ∨ j = 37)) → q'.1 c j = q.1 c j) ∧ (∀ c j, ¬ (c = 650 ∧ j = 38) → q'.2 c j = q.2 c j)
theorem frH.rf {q : aQ} : frH q q := ⟨fun _ _ _ _ => rfl, fun _ _ _ => rfl⟩
theorem frH.tr {q q1 q2 : aQ} (h : frH q q1) (k : frH q1 q2) : frH q q2 := ⟨fun c j x y => (k.1 c j x y).trans (h.1 c j x y), fun c j x => (k.2 c j x).trans (h.2 c j x)⟩
/-- the work of narrowing, once it is known what to narrow by -/
theorem F168_work {pl cm t : Bool} {o v r : Nat} {R : Pc} (he : e < 60) (ho : o ≤ 7) (hv : v < 5) (hr : r < 60) (hx : stOk x) (hh : hereAt Q x) (hR : okP R) (hm : mpAt Q 671 672 r R) (h651 : cm = true → Q.1 651 e = nI (10 + o)) : S168_112 (nI e) (bI t) (bI pl) (bI cm) (nI v) (nI r) Q ∧ frH Q (F168_112 (nI e) (bI t) (bI pl) (bI cm) (nI v) (nI r) Q) ∧ hereAt (F168_112 (nI e) (bI t) (bI pl) (bI cm) (nI v) (nI r) Q) (upS x v (hul ((vals (x v)).filter (fitC pl cm o t (vals R))))) := by
  have sR : srcI true r = nI r := if_pos rfl
  obtain ⟨a1, a2, a3⟩ := F162_eq (f := true) (i := r) hr hR hm
  rw [sR] at a1 a2 a3
  have h1 : hereAt (F162_0 (nI r) Q) x := fun w hw => (hh w hw).fr (a2.1 669 w (by omega) (by omega)) (fun k _ => a2.1 670 _ (by omega) (by omega))
  have sV : srcI false v = -1 - nI v := if_neg (by decide)
  obtain ⟨b1, b2, b3⟩ := F161_eq (f := false) (i := v) hv (hx v hv) (h1 v hv)
  rw [sV] at b1 b2 b3
  obtain ⟨c1, c2, c3⟩ := F157_eq (q := F161_0 (-1 - nI v) (F162_0 (nI r) Q))
  have ln1 := vals_len (x v)
  have ln2 := vals_len R
  have g : ∀ c j, ¬ (675 ≤ c ∧ c ≤ 679) → ¬ (c = 650 ∧ (j = 29 ∨ j = 32 ∨ j = 35)) → (F157_0 (F161_0 (-1 - nI v) (F162_0 (nI r) Q))).1 c j = Q.1 c j := fun c j y z => by
    rw [c2.1 c j (by omega) (by omega), b2.1 c j (by omega) (by omega) (by omega), a2.1 c j (by omega) (by omega)]
  have l29 : (F157_0 (F161_0 (-1 - nI v) (F162_0 (nI r) Q))).1 650 29 = nI (vals (x v)).length := by rw [c2.1 650 29 (by decide) (by omega)]; exact b3.1
  have l32 : (F157_0 (F161_0 (-1 - nI v) (F162_0 (nI r) Q))).1 650 32 = nI (vals R).length := by rw [c2.1 650 32 (by decide) (by omega), b2.1 650 32 (by decide) (by decide) (by omega)]; exact a3.1
  have ll : lst (F157_0 (F161_0 (-1 - nI v) (F162_0 (nI r) Q))) 675 676 0 (vals (x v)) := lst_fr _ 0 (fun j _ _ => ⟨c2.1 675 j (by decide) (by omega), c2.1 676 j (by decide) (by omega)⟩) b3.2
  have lr : lst (F157_0 (F161_0 (-1 - nI v) (F162_0 (nI r) Q))) 677 678 0 (vals R) := lst_fr _ 0 (fun j _ _ => ⟨by rw [c2.1 677 j (by decide) (by omega), b2.1 677 j (by decide) (by decide) (by omega)], by rw [c2.1 678 j (by decide) (by omega), b2.1 678 j (by decide) (by decide) (by omega)]⟩) a3.2
  have lg : ∀ c j, (F157_0 (F161_0 (-1 - nI v) (F162_0 (nI r) Q))).2 c j = Q.2 c j := fun c j => by rw [c2.2, b2.2, a2.2]
  have w651 : cm = true → (F157_0 (F161_0 (-1 - nI v) (F162_0 (nI r) Q))).1 651 e = nI (10 + o) := fun z => by rw [g 651 e (by omega) (by omega)]; exact h651 z
  generalize hQ3 : F157_0 (F161_0 (-1 - nI v) (F162_0 (nI r) Q)) = Q3 at *
  obtain ⟨Q4, d1, d2, d3, d4, d5⟩ := F168_out (v5 := nI v) (pl := pl) (cm := cm) (t := t) (L := vals (x v)) (M := vals R) he ho (by omega) (by omega) (fun b hb => (val_ok hb).1) (vals (x v)) 0 Q3 eP 200 (by omega) (by omega) (fun b hb => (val_ok hb).1) w651 l29 l32 ll lr c3 eP_ok
  have d2' : a_it (fun (s : Int32 × aQ) => F168_130 (nI e) (bI t) (bI pl) (bI cm) (nI v) s.1 s.2) 200 (0, Q3) = some Q4 := d2
  rw [hulL_e] at d4 d5
  obtain ⟨f1, f2, f3, f4⟩ := F169_eq hv d4
  unfold S168_112 F168_112 S168_115 F168_115 S168_123 F168_123 S168_127 F168_127 S168_302 F168_302
  rw [hQ3, a_lp_eq d2']
  refine ⟨⟨a1, b1, c1, d1, f1, trivial⟩, ⟨fun c j y z => ?_, fun c j y => ?_⟩, fun w hw => ?_⟩
  · rw [f3 c j (by omega) (by omega), d3.1 c j (by omega) (by omega), g c j (by omega) (by omega)]
  · rw [f4, d3.2 c j y, lg]
  · unfold upS
    by_cases e : w = v
    · rw [if_pos e, e]; exact f2
    · rw [if_neg e]
      refine (hh w hw).fr ?_ (fun k hk => ?_)
      · rw [f3 669 w (by omega) (by omega), d3.1 669 w (by decide) (by omega), g 669 w (by omega) (by omega)]
      · rw [f3 670 _ (by omega) (by omega), d3.1 670 _ (by decide) (by omega), g 670 _ (by omega) (by omega)]
theorem filT {t : Bool} {L M : List (Nat × Int)} : L.filter (fitC true false 0 t M) = narT t L := by
  unfold narT
  congr 1
  funext a
  unfold fitC
  simp
theorem filO {o : Nat} {t : Bool} {L M : List (Nat × Int)} : L.filter (fitC false true o t M) = narO o t L M := by
  unfold narO
  congr 1
theorem F168_eq {t : Bool} (hE : iE q nE) (he : e < nE) (hx : stOk x) (ex : ∀ c j, 651 ≤ c ∧ c ≤ 654 → Q.1 c j = q.1 c j) (hh : hereAt Q x) (hm : mpE Q e (PE q x e)) (hr : ¬ q.1 2 e = -1 → opn q e ≤ 5 → mpE Q (rgt q e) (PE q x (rgt q e))) : S168_0 (nI e) (bI t) Q ∧ frH Q (F168_0 (nI e) (bI t) Q) ∧ hereAt (F168_0 (nI e) (bI t) Q) (nr2 q e t x x) := by
  have h60 := hE.1
  have ce : (nI e).toNatClampNeg = e := nI_clamp (by omega)
  have ve : vp_in (nI e) 60 := vp_in_nI (by omega) (by decide)
  have n10 : ¬ (1 : Int32) = 0 := by decide
  unfold nr2 nv
  by_cases h45 : q.1 2 e = 4 ∨ q.1 2 e = 5
  · -- a comparison
    obtain ⟨n1, o5', o44, o55⟩ := op45 h45
    obtain ⟨w, wa, o1, o2, o3, o4, o5, o6, o7, o8, -⟩ := op_of hE he n1
    obtain ⟨p8, p9⟩ := o8 o5'
    have o3' := o3 o5'
    have x651 : Q.1 651 e = nI (10 + opn q e) := by rw [ex 651 e (by omega)]; exact o5
    have x652 : Q.1 652 e = nI (lft q e) := by rw [ex 652 e (by omega)]; exact o7
    have x653 : Q.1 653 e = nI (rgt q e) := by rw [ex 653 e (by omega)]; exact p9
    have ca : (nI (lft q e)).toNatClampNeg = lft q e := nI_clamp (by omega)
    have va : vp_in (nI (lft q e)) 60 := vp_in_nI (by omega) (by decide)
    have k45 : opn q e = 4 ∨ opn q e = 5 := h45.imp o44 o55
    have n3 : ¬ nI (10 + opn q e) = 3 := fun z => by have := nI_inj (b := 3) (by omega) (by decide) z; omega
    have F15 : ∀ A : Prop, True := fun _ => trivial
    have F38 : F168_0 (nI e) (bI t) Q = F168_38 (nI e) (bI t) 0 Q := by
      unfold F168_0 F168_15
      rw [ce, x651, if_neg n3]
      rcases k45 with z | z
      · rw [z, if_pos (by decide)]
      · rw [z, if_neg (by decide), if_pos (by decide)]
    have S38 : S168_38 (nI e) (bI t) 0 Q → S168_0 (nI e) (bI t) Q := by
      intro y
      unfold S168_0 S168_15
      rw [ce, x651]
      refine ⟨ve, fun z => absurd z n3, fun _ => ?_⟩
      rcases k45 with z | z
      · rw [z]; exact ⟨ve, fun _ => y, fun w => absurd (by decide) w⟩
      · rw [z]; exact ⟨ve, fun w => absurd w (by decide), fun _ => ⟨ve, fun _ => y, fun w => absurd (by decide) w⟩⟩
    rw [F38, if_pos h45]
    -- is the left part a variable?
    have l3 : Q.1 651 (lft q e) = 3 ↔ (q.1 2 (lft q e) = -1 ∧ q.1 3 (lft q e) = 3) := by
      rw [ex 651 _ (by omega)]
      by_cases lf : q.1 2 (lft q e) = -1
      · obtain ⟨-, l1, -⟩ := leaf_of hE (show lft q e < nE by omega) lf
        rw [l1]
        exact ⟨fun z => ⟨lf, z⟩, fun z => z.2⟩
      · obtain ⟨w', wa', q1, q2, q3, q4, q5, -⟩ := op_of hE (show lft q e < nE by omega) lf
        rw [q5]
        exact ⟨fun z => by have := nI_inj (b := 3) (by omega) (by decide) z; omega, fun z => absurd z.1 lf⟩
    unfold F168_38 S168_38 at *
    rw [ce, x652, ca] at S38 ⊢
    unfold vN
    by_cases hv : q.1 2 (lft q e) = -1 ∧ q.1 3 (lft q e) = 3
    · obtain ⟨v5, v4, -, -⟩ := vN_lt (v := (q.1 4 (lft q e)).toNatClampNeg) hE (show lft q e < nE by omega) (by unfold vN; rw [if_pos hv])
      rw [if_pos (l3.mpr hv), if_pos hv]
      dsimp only
      generalize hvv : (q.1 4 (lft q e)).toNatClampNeg = v at *
      obtain ⟨-, -, l2⟩ := leaf_of hE (show lft q e < nE by omega) hv.1
      have x652l : Q.1 652 (lft q e) = nI v := by rw [ex 652 _ (by omega), l2]; exact v4
      have okB := PE_ok hE hx (e := rgt q e) (by omega)
      obtain ⟨k1, k2, k3⟩ := F168_work (pl := false) (cm := true) (t := t) (o := opn q e) (v := v) (r := rgt q e) (show e < 60 by omega) (by omega) v5 (by omega) hx hh okB.1 (hr n1 o5').1 (fun _ => x651)
      have k1' : S168_112 (nI e) (bI t) 0 1 (nI v) (nI (rgt q e)) Q := k1
      have k2' : frH Q (F168_112 (nI e) (bI t) 0 1 (nI v) (nI (rgt q e)) Q) := k2
      have k3' : hereAt (F168_112 (nI e) (bI t) 0 1 (nI v) (nI (rgt q e)) Q) _ := k3
      have F58 : F168_58 (nI e) (bI t) 0 1 Q = F168_112 (nI e) (bI t) 0 1 (nI v) (nI (rgt q e)) Q ∧ S168_58 (nI e) (bI t) 0 1 Q := by
        unfold F168_58 F168_70 F168_94 S168_58 S168_70 S168_94
        rw [if_pos rfl, if_neg n10, if_pos rfl, if_neg n10, ce, x652, ca, x652l, x653]
        exact ⟨rfl, fun _ => ⟨fun z => absurd z n10, fun _ => ⟨fun _ => ⟨ve, va, fun z => absurd z n10, fun _ => ⟨ve, k1'⟩⟩, fun z => absurd rfl z⟩⟩, fun z => absurd rfl z⟩
      rw [F58.1]
      refine ⟨S38 ⟨ve, va, fun _ => F58.2, fun z => absurd (l3.mpr hv) z⟩, k2', ?_⟩
      rw [filO] at k3'
      have np : nrP q e t (x v) x = hul (narO (opn q e) t (vals (x v)) (vals (PE q x (rgt q e)).1)) := by
        unfold nrP
        rcases h45 with z | z
        · rw [if_pos z, o44 z]
        · rw [if_neg (by rw [z]; decide), if_pos z, o55 z]
      rw [np]
      exact k3'
    · rw [if_neg (fun z => hv (l3.mp z)), if_neg hv]
      have F58 : F168_57 (nI e) (bI t) 0 Q = Q ∧ S168_57 (nI e) (bI t) 0 Q := by
        unfold F168_57 F168_58 S168_57 S168_58
        rw [if_pos rfl, if_pos rfl]
        exact ⟨rfl, fun _ => ⟨fun _ => trivial, fun z => absurd rfl z⟩, fun z => absurd rfl z⟩
      rw [F58.1]
      exact ⟨S38 ⟨ve, va, fun z => absurd (l3.mp z) hv, fun _ => F58.2⟩, frH.rf, hh⟩
  · rw [if_neg h45]
    have n14 : ¬ Q.1 651 e = 14 ∧ ¬ Q.1 651 e = 15 := by
      rw [ex 651 e (by omega)]
      by_cases lf : q.1 2 e = -1
      · obtain ⟨l0, l1, -⟩ := leaf_of hE he lf
        have := leaf_lt10 l0
        rw [l1]
        constructor
        · intro z; rw [z] at this; exact absurd this (by decide)
        · intro z; rw [z] at this; exact absurd this (by decide)
      · obtain ⟨w', wa', q1, q2, q3, q4, q5, -⟩ := op_of hE he lf
        rw [q5]
        rw [q4] at h45
        constructor
        · intro z
          have := nI_inj (b := 14) (by omega) (by decide) z
          have : opn q e = 4 := by omega
          exact h45 (Or.inl (by rw [this]; rfl))
        · intro z
          have := nI_inj (b := 15) (by omega) (by decide) z
          have : opn q e = 5 := by omega
          exact h45 (Or.inr (by rw [this]; rfl))
    have l3 : Q.1 651 e = 3 ↔ (q.1 2 e = -1 ∧ q.1 3 e = 3) := by
      rw [ex 651 _ (by omega)]
      by_cases lf : q.1 2 e = -1
      · obtain ⟨-, l1, -⟩ := leaf_of hE he lf
        rw [l1]
        exact ⟨fun z => ⟨lf, z⟩, fun z => z.2⟩
      · obtain ⟨w', wa', q1, q2, q3, q4, q5, -⟩ := op_of hE he lf
        rw [q5]
        exact ⟨fun z => by have := nI_inj (b := 3) (by omega) (by decide) z; omega, fun z => absurd z.1 lf⟩
    unfold F168_0 S168_0 F168_15 S168_15 vN
    rw [ce]
    by_cases hv : q.1 2 e = -1 ∧ q.1 3 e = 3
    · obtain ⟨v5, v4, -, -⟩ := vN_lt (v := (q.1 4 e).toNatClampNeg) hE he (by unfold vN; rw [if_pos hv])
      rw [if_pos (l3.mpr hv), if_neg n14.1, if_neg n14.2, if_pos hv]
      dsimp only
      generalize hvv : (q.1 4 e).toNatClampNeg = v at *
      obtain ⟨-, -, l2⟩ := leaf_of hE he hv.1
      have x652 : Q.1 652 e = nI v := by rw [ex 652 _ (by omega), l2]; exact v4
      have okE := PE_ok hE hx he
      obtain ⟨k1, k2, k3⟩ := F168_work (pl := true) (cm := false) (t := t) (o := 0) (v := v) (r := e) (show e < 60 by omega) (by omega) v5 (by omega) hx hh okE.1 hm.1 (fun z => by cases z)
      have k1' : S168_112 (nI e) (bI t) 1 0 (nI v) (nI e) Q := k1
      have k2' : frH Q (F168_112 (nI e) (bI t) 1 0 (nI v) (nI e) Q) := k2
      have k3' : hereAt (F168_112 (nI e) (bI t) 1 0 (nI v) (nI e) Q) _ := k3
      have F57 : F168_57 (nI e) (bI t) 1 Q = F168_112 (nI e) (bI t) 1 0 (nI v) (nI e) Q ∧ S168_57 (nI e) (bI t) 1 Q := by
        unfold F168_57 F168_58 F168_70 F168_94 S168_57 S168_58 S168_70 S168_94
        rw [if_neg n10, if_neg n10, if_pos rfl, ce, x652]
        exact ⟨rfl, fun z => absurd z n10, fun _ => ⟨fun z => absurd z n10, fun _ => ⟨ve, fun _ => k1', fun z => absurd rfl z⟩⟩⟩
      rw [F57.1]
      refine ⟨⟨ve, fun _ => ⟨ve, fun z => absurd z n14.1, fun _ => ⟨ve, fun z => absurd z n14.2, fun _ => F57.2⟩⟩, fun z => absurd (l3.mpr hv) z⟩, k2', ?_⟩
      rw [filT] at k3'
      have np : nrP q e t (x v) x = hul (narT t (vals (x v))) := by
        unfold nrP
        rw [if_neg (fun z => h45 (Or.inl z)), if_neg (fun z => h45 (Or.inr z))]
      rw [np]
      exact k3'
    · rw [if_neg (fun z => hv (l3.mp z)), if_neg n14.1, if_neg n14.2, if_neg hv]
      have F57 : F168_57 (nI e) (bI t) 0 Q = Q ∧ S168_57 (nI e) (bI t) 0 Q := by
        unfold F168_57 F168_58 S168_57 S168_58
        rw [if_pos rfl, if_pos rfl]
        exact ⟨rfl, fun _ => ⟨fun _ => trivial, fun z => absurd rfl z⟩, fun z => absurd rfl z⟩
      rw [F57.1]
      exact ⟨⟨ve, fun z => absurd (l3.mp z) hv, fun _ => ⟨ve, fun z => absurd z n14.1, fun _ => ⟨ve, fun z => absurd z n14.2, fun _ => F57.2⟩⟩⟩, frH.rf, hh⟩
end
