/-! the model pictures an expression -/
section
variable {q Q : aQ} {nE e : Nat} {x : Nat → Pc}
/-- the fit is done: keep it, with the errors -/
theorem keep_e {Q0 : aQ} {P : Pc} {E : Er} (he : e < 60) (u : frQ e Q0 Q) (hf : fitAt Q P) (h : Q.1 673 e = erM E) : S163_0 (nI e) Q ∧ frQ e Q0 (F163_0 (nI e) Q) ∧ mpE (F163_0 (nI e) Q) e (P, E) := by
  obtain ⟨k1, k2, k3, k4⟩ := F163_eq he hf
  exact ⟨k1, u.tr (keep_q he hf), k2, by rw [k3 673 e (by omega) (by omega)]; exact h⟩
theorem lI0 : (0 : Int64) = lI 0 := rfl
theorem F164_eq (hE : iE q nE) (he : e < nE) (h : q.1 2 e = -1) (ex : ∀ c j, 651 ≤ c ∧ c ≤ 654 → Q.1 c j = q.1 c j) (hx : stOk x) (hh : hereAt Q x) : S164_0 (nI e) Q ∧ frQ e Q (F164_0 (nI e) Q) ∧ mpE (F164_0 (nI e) Q) e (lfP q x e) := by
  have h60 := hE.1
  obtain ⟨hl, l1, l2⟩ := leaf_of hE he h
  have ce : (nI e).toNatClampNeg = e := nI_clamp (by omega)
  have ve : vp_in (nI e) 60 := vp_in_nI (by omega) (by decide)
  have u0 : frQ e Q (a_w Q 673 e 0) := frQ.w
  obtain ⟨f1, f2, f3⟩ := F157_eq (q := a_w Q 673 e 0)
  have u1 : frQ e Q (F157_0 (a_w Q 673 e 0)) := u0.tr f2.fq
  have e1 : (F157_0 (a_w Q 673 e 0)).1 673 e = erM noE := by rw [f2.1 673 e (by decide) (by omega), w_eq]; rfl
  have x651 : (F157_0 (a_w Q 673 e 0)).1 651 e = q.1 3 e := by rw [u1.1 651 e (by omega) (by omega) (by omega) (by omega), ex 651 e (by omega)]; exact l1
  have x652 : (F157_0 (a_w Q 673 e 0)).1 652 e = q.1 4 e := by rw [u1.1 652 e (by omega) (by omega) (by omega) (by omega), ex 652 e (by omega)]; exact l2
  have hh1 : hereAt (F157_0 (a_w Q 673 e 0)) x := hh.fq u1
  unfold S164_0 F164_0
  rw [ce]
  generalize hQ1 : F157_0 (a_w Q 673 e 0) = Q1 at *
  -- a value is fitted, then kept
  have put : ∀ (t : Nat) (n : Int), (t = 1 ∨ t = 2 ∨ t = 4) → big n → (t = 2 → 0 ≤ n) → S158_0 (nI t) (lI n) Q1 ∧ S163_0 (nI e) (F158_0 (nI t) (lI n) Q1) ∧ frQ e Q (F163_0 (nI e) (F158_0 (nI t) (lI n) Q1)) ∧ mpE (F163_0 (nI e) (F158_0 (nI t) (lI n) Q1)) e (one (t, n), noE) := by
    intro t n ht hn h2
    obtain ⟨k1, k2, k3⟩ := F158_eq eP_ok f3 ht hn h2
    have je : joP eP (one (t, n)) = one (t, n) := by
      refine leP.as (joP_lub.mpr ⟨eP_one _, leP.rf⟩) le_jo2
    rw [je] at k3
    obtain ⟨m1, m2, m3⟩ := keep_e (by omega) (u1.tr k2.fq) k3 (by rw [k2.1 673 e (by decide) (by omega)]; exact e1)
    exact ⟨k1, m1, m2, m3⟩
  unfold F164_11 S164_11 F164_34 F164_54 F164_73 F164_94 F164_102 F164_170 S164_34 S164_54 S164_73 S164_94 S164_102 S164_170 lfP
  rw [ce, x651, x652]
  rcases hl with ⟨a, b, c⟩ | ⟨a, b, c⟩ | a | ⟨a, v, b, c⟩ | a
  · rw [a, if_pos rfl, if_pos rfl, toI64]
    obtain ⟨p1, p2, p3, p4⟩ := put 1 (q.1 4 e).toInt (Or.inl rfl) (by
      have := Int32.toInt_lt (q.1 4 e); have := Int32.le_toInt (q.1 4 e); unfold big; omega) (fun z => by cases z)
    exact ⟨⟨ve, f1, ve, ve, fun _ => ⟨p1, p2, trivial⟩, fun z => absurd rfl z⟩, p3, p4⟩
  · have a0 : ¬ (1 : Int32) = 0 := by decide
    rw [a, if_neg a0, if_pos rfl, if_neg a0, if_pos rfl, toI64]
    rw [Int32.lt_iff_toInt_lt] at b
    obtain ⟨p1, p2, p3, p4⟩ := put 2 (q.1 4 e).toInt (Or.inr (Or.inl rfl)) (by
      have := Int32.toInt_lt (q.1 4 e); have := Int32.le_toInt (q.1 4 e); unfold big; omega) (fun _ => Int.not_lt.mp b)
    exact ⟨⟨ve, f1, ve, ve, fun z => absurd z a0, fun _ => ⟨ve, fun _ => ⟨p1, p2, trivial⟩, fun z => absurd rfl z⟩⟩, p3, p4⟩
  · have a0 : ¬ (2 : Int32) = 0 := by decide
    have a1 : ¬ (2 : Int32) = 1 := by decide
    rw [a, if_neg a0, if_neg a1, if_pos rfl, if_neg a0, if_neg a1, if_pos rfl, lI0]
    obtain ⟨p1, p2, p3, p4⟩ := put 4 0 (Or.inr (Or.inr rfl)) (by unfold big; omega) (fun z => by cases z)
    exact ⟨⟨ve, f1, ve, ve, fun z => absurd z a0, fun _ => ⟨ve, fun z => absurd z a1, fun _ => ⟨ve, fun _ => ⟨p1, p2, trivial⟩, fun z => absurd rfl z⟩⟩⟩, p3, p4⟩
  · have a0 : ¬ (3 : Int32) = 0 := by decide
    have a1 : ¬ (3 : Int32) = 1 := by decide
    have a2 : ¬ (3 : Int32) = 2 := by decide
    have a4 : ¬ (3 : Int32) = 4 := by decide
    have cv : (nI v).toNatClampNeg = v := nI_clamp (by omega)
    have vv : vp_in (nI v) 5 := vp_in_nI b (by decide)
    obtain ⟨m1, m2, m3⟩ := hh1 v b
    obtain ⟨-, -, t8, t7, -⟩ := tyN_b (x v)
    rw [a, if_neg a0, if_neg a1, if_neg a2, if_neg a4, if_neg a0, if_neg a1, if_neg a2, if_pos rfl, c, cv, m1]
    -- with the errors s0
    have fin : ∀ s0, s0 = erM (false, (x v).2.2.2, false) → S164_127 (nI e) (nI v) s0 (nI e) Q1 ∧ frQ e Q (F164_127 (nI e) (nI v) s0 (nI e) Q1) ∧ mpE (F164_127 (nI e) (nI v) s0 (nI e) Q1) e (strU (x v), (false, (x v).2.2.2, false)) := by
      intro s0 hs0
      have u2 : frQ e Q (a_w (a_w Q1 673 e s0) 650 35 (nI (tyN (x v)) &&& 7)) := (u1.tr frQ.w).tr ⟨fun c j a b z w => by rw [w_get, if_neg (by omega)], fun _ _ _ => rfl⟩
      obtain ⟨Q', r1, r2, r3, r4, r5, -⟩ := copyN (B := fun s => F164_143 (nI e) (nI v) s.1 s.2) (SB := fun s => S164_143 (nI e) (nI v) s.1 s.2) 4 679 0 670 (4 * v) (fun _ => True) (by decide) (fun _ _ _ _ _ => trivial) (fun Q _ => ⟨by show F164_143 (nI e) (nI v) (nI 4) Q = _; unfold F164_143; rw [if_pos l4], by show S164_143 (nI e) (nI v) (nI 4) Q; exact ⟨fun _ => trivial, fun z => absurd l4 z⟩⟩) (fun Q k hk _ => by
        obtain ⟨c1, c2⟩ := c4k (i := v) (k := k) (N := 20) (by omega) (by decide)
        have ck : (nI k).toNatClampNeg = k := nI_clamp (by omega)
        have vk : vp_in (nI k) 4 := vp_in_nI hk (by decide)
        refine ⟨?_, ?_⟩
        · show F164_143 (nI e) (nI v) (nI k) Q = _
          unfold F164_143
          rw [if_neg (n4 hk), c1, ck, nI_1, Nat.zero_add]
        · exact ⟨fun z => absurd z (n4 hk), fun _ => ⟨c2, vk, trivial⟩⟩) 4 0 (a_w (a_w Q1 673 e s0) 650 35 (nI (tyN (x v)) &&& 7)) 200 rfl (by decide) trivial
      have r2' : a_it (fun (s : Int32 × aQ) => F164_143 (nI e) (nI v) s.1 s.2) 200 (0, a_w (a_w Q1 673 e s0) 650 35 (nI (tyN (x v)) &&& 7)) = some Q' := r2
      have u3 : frQ e Q Q' := u2.tr ⟨fun c j a b z w => r4 c j (by omega), fun c j _ => by rw [r5]⟩
      have g0 : fitAt Q' (strU (x v)) := by
        refine ⟨?_, fun z => ?_, fun z => ?_⟩
        · rw [r4 650 35 (by omega), w_eq]; exact t7
        · have := m2 z
          have q0 := r3 0 (by omega) (by decide)
          have q1 := r3 1 (by omega) (by decide)
          rw [w_ne (by decide), w_ne (by decide)] at q0 q1
          exact ⟨q0.trans this.1, q1.trans this.2⟩
        · have := m3 z
          have q0 := r3 2 (by omega) (by decide)
          have q1 := r3 3 (by omega) (by decide)
          rw [w_ne (by decide), w_ne (by decide)] at q0 q1
          exact ⟨q0.trans this.1, q1.trans this.2⟩
      obtain ⟨m1', m2', m3'⟩ := keep_e (E := (false, (x v).2.2.2, false)) (by omega) u3 g0 (by rw [r4 673 e (by omega), w_ne (by decide), w_eq]; exact hs0)
      unfold S164_127 F164_127 F164_170 S164_170
      rw [ce, cv, m1, a_lp_eq r2']
      exact ⟨⟨ve, vv, r1, m1', trivial⟩, m2', m3'⟩
    cases hu : (x v).2.2.2 with
    | false =>
      rw [hu] at fin
      obtain ⟨k1, k2, k3⟩ := fin 0 rfl
      rw [if_pos (t8.mpr hu)]
      exact ⟨⟨ve, f1, ve, ve, fun z => absurd z a0, fun _ => ⟨ve, fun z => absurd z a1, fun _ => ⟨ve, fun z => absurd z a2, fun _ => ⟨ve, fun z => absurd z a4, fun _ => ⟨vv, fun _ => k1, fun z => absurd (t8.mpr hu) z⟩⟩⟩⟩⟩, k2, k3⟩
    | true =>
      rw [hu] at fin
      have n8 : ¬ nI (tyN (x v)) &&& 8 = 0 := fun z => by rw [t8.mp z] at hu; cases hu
      obtain ⟨k1, k2, k3⟩ := fin 4 rfl
      rw [if_neg n8]
      exact ⟨⟨ve, f1, ve, ve, fun z => absurd z a0, fun _ => ⟨ve, fun z => absurd z a1, fun _ => ⟨ve, fun z => absurd z a2, fun _ => ⟨ve, fun z => absurd z a4, fun _ => ⟨vv, fun z => absurd z n8, fun _ => k1⟩⟩⟩⟩⟩, k2, k3⟩
  · have a0 : ¬ (4 : Int32) = 0 := by decide
    have a1 : ¬ (4 : Int32) = 1 := by decide
    have a2 : ¬ (4 : Int32) = 2 := by decide
    have a3 : ¬ (4 : Int32) = 3 := by decide
    rw [a, if_neg a0, if_neg a1, if_neg a2, if_pos rfl, if_neg a0, if_neg a1, if_neg a2, if_neg a3]
    obtain ⟨k1, k2, k3⟩ := F158_eq (t := 1) (n := -289) eP_ok f3 (Or.inl rfl) (by unfold big; omega) (fun z => by cases z)
    obtain ⟨j1, j2, j3⟩ := F158_eq (t := 1) (n := 289) (joP_ok eP_ok (one_ok (fun z => by cases z))) k3 (Or.inl rfl) (by unfold big; omega) (fun z => by cases z)
    have hj : joP (joP eP (one (1, -289))) (one (1, 289)) = hul [(1, -289), (1, 289)] := by rw [← hulL_e]; rfl
    rw [hj] at j3
    obtain ⟨m1, m2, m3⟩ := keep_e (E := noE) (show e < 60 by omega) ((u1.tr k2.fq).tr j2.fq) j3 (by rw [j2.1 673 e (by decide) (by omega), k2.1 673 e (by decide) (by omega)]; exact e1)
    exact ⟨⟨ve, f1, ve, ve, fun z => absurd z a0, fun _ => ⟨ve, fun z => absurd z a1, fun _ => ⟨ve, fun z => absurd z a2, fun _ => ⟨ve, fun _ => ⟨k1, j1, m1, trivial⟩, fun z => absurd rfl z⟩⟩⟩⟩, m2, m3⟩
end
