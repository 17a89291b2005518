/-! the model pictures an operation: all of it -/
theorem wk_67 {o a b : Nat} {x y : Int} (h : o = 6 ∨ o = 7) : wk o a x b y = wk o a x 4 0 := by
  rcases h with rfl | rfl <;> simp [wk]
theorem prods_1 {o : Nat} {L : List (Nat × Int)} {b : Nat × Int} (h : o = 6 ∨ o = 7) : prods o L [b] = sing o L := by
  unfold prods sing
  induction L with
  | nil => rfl
  | cons a L ih =>
    rw [List.flatMap_cons, List.map_cons, ih, List.map_cons, List.map_nil, wk_67 h]
    rfl
theorem vals_ne {P : Pc} (hP : okP P) (h : hasV P = true) : vals P ≠ [] := by
  intro z
  have a : ∀ v, ¬ v ∈ vals P := fun v hv => by rw [z] at hv; cases hv
  unfold hasV at h
  rw [Bool.or_eq_true, Bool.or_eq_true] at h
  rcases h with (h | h) | h
  · obtain ⟨n, hn⟩ := (ex_n' hP).mpr h
    exact a (1, n) ((in_vals hP).1 n |>.mpr hn)
  · obtain ⟨n, hn⟩ := (ex_t' hP).mpr h
    exact a (2, n) ((in_vals hP).2.1 n |>.mpr hn)
  · exact a (4, 0) ((in_vals hP).2.2 0 |>.mpr ⟨rfl, h⟩)
section
variable {q Q : aQ} {nE e : Nat} {x : Nat → Pc}
theorem mpE.fr {k : Nat} {r : Pc × Er} {Q Q1 : aQ} (h : mpE Q k r) (u : frQ e Q Q1) (hk : k ≠ e) : mpE Q1 k r := by
  refine ⟨h.1.fr (u.1 671 k (by omega) (by omega) (by omega) (by omega)) (fun j hj => u.1 672 _ (by omega) (by omega) (by omega) (by omega)), ?_⟩
  rw [u.1 673 k (by omega) (by omega) (by omega) (by omega)]; exact h.2
theorem F165_eq (hE : iE q nE) (he : e < nE) (h : ¬ q.1 2 e = -1) (ex : ∀ c j, 651 ≤ c ∧ c ≤ 654 → Q.1 c j = q.1 c j) (hx : stOk x) (ha : mpE Q (lft q e) (PE q x (lft q e))) (hb : opn q e ≤ 5 → mpE Q (rgt q e) (PE q x (rgt q e))) : S165_0 (nI e) Q ∧ frQ e Q (F165_0 (nI e) Q) ∧ mpE (F165_0 (nI e) Q) e (PE q x e) := by
  have h60 := hE.1
  obtain ⟨w, wa, o1, o2, o3, o4, o5, o6, o7, o8, o9, -⟩ := op_of hE he h
  have ce : (nI e).toNatClampNeg = e := nI_clamp (by omega)
  have ve : vp_in (nI e) 60 := vp_in_nI (by omega) (by decide)
  have ca : (nI (lft q e)).toNatClampNeg = lft q e := nI_clamp (by omega)
  have va : vp_in (nI (lft q e)) 60 := vp_in_nI (by omega) (by decide)
  have okA := PE_ok hE hx (e := lft q e) (by omega)
  have pe := PE_op (x := x) hE he h
  have x651 : Q.1 651 e = nI (10 + opn q e) := by rw [ex 651 e (by omega)]; exact o5
  have x652 : Q.1 652 e = nI (lft q e) := by rw [ex 652 e (by omega)]; exact o7
  -- errors of the left part, the fit cleared
  have u0 : frQ e Q (a_w Q 673 e (erM (PE q x (lft q e)).2)) := frQ.w
  obtain ⟨f1, f2, f3⟩ := F157_eq (q := a_w Q 673 e (erM (PE q x (lft q e)).2))
  have u1 : frQ e Q (F157_0 (a_w Q 673 e (erM (PE q x (lft q e)).2))) := u0.tr f2.fq
  have e1 : (F157_0 (a_w Q 673 e (erM (PE q x (lft q e)).2))).1 673 e = erM (PE q x (lft q e)).2 := by rw [f2.1 673 e (by decide) (by omega), w_eq]
  have F21 : ∀ v3, F165_21 (nI e) (nI (opn q e)) v3 Q = F165_43 (nI e) (nI (opn q e)) v3 (F157_0 (a_w Q 673 e (erM (PE q x (lft q e)).2))) := by
    intro v3
    unfold F165_21
    rw [ce, x652, ca, ha.2]
  have S21 : ∀ v3, S165_43 (nI e) (nI (opn q e)) v3 (F157_0 (a_w Q 673 e (erM (PE q x (lft q e)).2))) → S165_21 (nI e) (nI (opn q e)) v3 Q := by
    intro v3 z
    unfold S165_21
    rw [ce, x652, ca, ha.2]
    exact ⟨ve, va, ve, f1, z⟩
  have a1 := ha.fr u1 (by omega)
  have x652' : (F157_0 (a_w Q 673 e (erM (PE q x (lft q e)).2))).1 652 e = nI (lft q e) := by rw [u1.1 652 e (by omega) (by omega) (by omega) (by omega)]; exact x652
  have x653' : (F157_0 (a_w Q 673 e (erM (PE q x (lft q e)).2))).1 653 e = Q.1 653 e := u1.1 653 e (by omega) (by omega) (by omega) (by omega)
  generalize F157_0 (a_w Q 673 e (erM (PE q x (lft q e)).2)) = Q1 at *
  obtain ⟨m1, -, -⟩ := a1.1
  have m1 : Q1.1 671 (lft q e) = nI (tyN (PE q x (lft q e)).1) := m1
  obtain ⟨-, -, -, -, t0⟩ := tyN_b (PE q x (lft q e)).1
  -- the flag
  have top : ∀ v3, (if opn q e < 6 then v3 = 0 else v3 = 1) → (S165_43 (nI e) (nI (opn q e)) v3 Q1 ∧ frQ e Q (F165_43 (nI e) (nI (opn q e)) v3 Q1) ∧ mpE (F165_43 (nI e) (nI (opn q e)) v3 Q1) e (PE q x e)) → S165_0 (nI e) Q ∧ frQ e Q (F165_0 (nI e) Q) ∧ mpE (F165_0 (nI e) Q) e (PE q x e) := by
    intro v3 hv z
    have d10 : nI (10 + opn q e) - 10 = nI (opn q e) := nI_s10
    unfold S165_0 F165_0
    rw [ce, x651, d10]
    by_cases c : opn q e < 6
    · rw [if_pos c] at hv
      subst hv
      have lt : nI (opn q e) < (6 : Int32) := nI_lt (b := 6) c (by decide)
      rw [if_pos lt, F21]
      exact ⟨⟨ve, fun _ => S21 _ z.1, fun y => absurd lt y⟩, z.2⟩
    · rw [if_neg c] at hv
      subst hv
      have lt : ¬ nI (opn q e) < (6 : Int32) := nI_nlt (b := 6) (by omega) (by omega)
      rw [if_neg lt, F21]
      exact ⟨⟨ve, fun y => absurd y lt, fun _ => S21 _ z.1⟩, z.2⟩
  by_cases hv : hasV (PE q x (lft q e)).1 = false
  · rw [if_pos hv] at pe
    have z0 : Q1.1 671 (lft q e) = 0 := by rw [m1]; exact t0.mpr ⟨okA.2, hv⟩
    obtain ⟨k1, k2, k3⟩ := keep_e (E := (PE q x (lft q e)).2) (show e < 60 by omega) u1 f3 e1
    refine top (if opn q e < 6 then 0 else 1) (by split <;> rfl) ?_
    unfold S165_43 F165_43 S165_252 F165_252
    rw [ce, x652', ca, if_pos z0, pe]
    exact ⟨⟨ve, va, fun _ => ⟨k1, trivial⟩, fun y => absurd z0 y⟩, k2, k3⟩
  · have hvt : hasV (PE q x (lft q e)).1 = true := by simpa using hv
    rw [if_neg hv] at pe
    have nz : ¬ Q1.1 671 (lft q e) = 0 := by rw [m1]; exact fun y => by rw [(t0.mp y).2] at hvt; cases hvt
    have lnA := vals_len (PE q x (lft q e)).1
    have vA : ∀ b, b ∈ vals (PE q x (lft q e)).1 → vOk b.1 b.2 := fun b hb => (val_ok hb).1
    have sA : srcI true (lft q e) = nI (lft q e) := if_pos rfl
    by_cases g6 : 6 ≤ opn q e
    · rw [if_pos g6] at pe
      have o67 : opn q e = 6 ∨ opn q e = 7 := by omega
      have n10 : ¬ (1 : Int32) = 0 := by decide
      have u2 : frQ e Q (a_w Q1 673 e (erM (PE q x (lft q e)).2)) := u1.tr frQ.w
      have a2 := ha.fr u2 (by omega)
      obtain ⟨r1, r2, r3⟩ := F162_eq (f := true) (show lft q e < 60 by omega) okA.1 a2.1
      rw [sA] at r1 r2 r3
      have u3 := u2.tr (r2.fq (e := e))
      have a3 := ha.fr u3 (by omega)
      obtain ⟨s1, s2, s3⟩ := F161_eq (f := true) (show lft q e < 60 by omega) okA.1 a3.1
      rw [sA] at s1 s2 s3
      have u4 := u3.tr (s2.lr.fq (e := e))
      have c2 : (F161_0 (nI (lft q e)) (F162_0 (nI (lft q e)) (a_w Q1 673 e (erM (PE q x (lft q e)).2)))).1 650 32 = nI (vals (PE q x (lft q e)).1).length := by rw [s2.1 650 32 (by decide) (by decide) (by omega)]; exact r3.1
      have l2 : lst (F161_0 (nI (lft q e)) (F162_0 (nI (lft q e)) (a_w Q1 673 e (erM (PE q x (lft q e)).2)))) 677 678 0 (vals (PE q x (lft q e)).1) := lst_fr _ 0 (fun j _ _ => ⟨s2.1 677 j (by decide) (by decide) (by omega), s2.1 678 j (by decide) (by decide) (by omega)⟩) r3.2
      have ac : accm e (F161_0 (nI (lft q e)) (F162_0 (nI (lft q e)) (a_w Q1 673 e (erM (PE q x (lft q e)).2)))) eP (PE q x (lft q e)).2 := by
        refine ⟨mp_cong f3 ?_ (fun k _ => ?_), ?_, eP_ok⟩
        · rw [s2.1 650 35 (by decide) (by decide) (by omega), r2.1 650 35 (by omega) (by omega), w_ne (by decide)]
        · rw [s2.1 679 k (by decide) (by decide) (by omega), r2.1 679 k (by omega) (by omega), w_ne (by decide)]
        · rw [s2.1 673 e (by decide) (by decide) (by omega), r2.1 673 e (by omega) (by omega), w_eq]
      have x652'' : (F162_0 (nI (lft q e)) (a_w Q1 673 e (erM (PE q x (lft q e)).2))).1 652 e = nI (lft q e) := by rw [r2.1 652 e (by omega) (by omega), w_ne (by decide)]; exact x652'
      generalize hQ3 : F161_0 (nI (lft q e)) (F162_0 (nI (lft q e)) (a_w Q1 673 e (erM (PE q x (lft q e)).2))) = Q3 at *
      -- the right list's first value
      obtain ⟨b0, bs, hbs⟩ : ∃ b bs, vals (PE q x (lft q e)).1 = b :: bs := by
        cases hl : vals (PE q x (lft q e)).1 with
        | nil => exact absurd hl (vals_ne okA.1 hvt)
        | cons b bs => exact ⟨b, bs, rfl⟩
      have lb : lst Q3 677 678 0 [b0] := by
        rw [hbs] at l2
        exact ⟨l2.1, l2.2.1, trivial⟩
      obtain ⟨Q4, t1, t2, t3, t4⟩ := outer_loop (o := opn q e) (v3 := 1) (L := vals (PE q x (lft q e)).1) (M := [b0]) (show e < 60 by omega) o1 (by omega) (show 1 < 60 by decide) (fun b hb => by rw [List.mem_singleton] at hb; rw [hb]; exact vA b0 (by rw [hbs]; exact List.mem_cons_self)) (vals (PE q x (lft q e)).1) 0 Q3 eP _ 200 (by omega) (by omega) vA s3.1 (by rw [if_neg n10]; rfl) s3.2 lb ac
      rw [prods_1 o67, hulL_e] at t4
      have t2' : a_it (fun (s : Int32 × aQ) => F165_130 (nI e) (nI (opn q e)) 1 s.1 s.2) 200 (0, Q3) = some Q4 := t2
      obtain ⟨k1, k2, k3⟩ := keep_e (show e < 60 by omega) (u4.tr t3.fq) t4.1 t4.2.1
      refine top 1 (by rw [if_neg (by omega)]) ?_
      unfold S165_43 F165_43 S165_93 F165_93 S165_114 F165_114 S165_117 F165_117 S165_127 F165_127 S165_252 F165_252
      rw [ce, x652', ca, if_neg nz, if_neg n10, if_neg n10, e1, x652'', hQ3, a_lp_eq t2', pe]
      exact ⟨⟨ve, va, fun y => absurd y nz, fun _ => ⟨fun y => absurd y n10, fun _ => ⟨ve, ve, fun y => absurd y n10, fun _ => ⟨ve, r1, ve, s1, t1, k1, trivial⟩⟩⟩⟩, k2, k3⟩
    · rw [if_neg g6] at pe
      obtain ⟨p8, p9⟩ := o8 (by omega)
      have o3' := o3 (by omega)
      have hb' := hb (by omega)
      have cb : (nI (rgt q e)).toNatClampNeg = rgt q e := nI_clamp (by omega)
      have vb : vp_in (nI (rgt q e)) 60 := vp_in_nI (by omega) (by decide)
      have okB := PE_ok hE hx (e := rgt q e) (by omega)
      have lnB := vals_len (PE q x (rgt q e)).1
      have vB : ∀ b, b ∈ vals (PE q x (rgt q e)).1 → vOk b.1 b.2 := fun b hb => (val_ok hb).1
      have sB : srcI true (rgt q e) = nI (rgt q e) := if_pos rfl
      have x653 : Q1.1 653 e = nI (rgt q e) := by rw [x653', ex 653 e (by omega)]; exact p9
      have b1 := hb'.fr u1 (by omega)
      have em : erM (PE q x (lft q e)).2 ||| erM (PE q x (rgt q e)).2 = erM (orE (PE q x (lft q e)).2 (PE q x (rgt q e)).2) := erM_or _ _
      have u2 : frQ e Q (a_w Q1 673 e (erM (orE (PE q x (lft q e)).2 (PE q x (rgt q e)).2))) := u1.tr frQ.w
      have b2 := hb'.fr u2 (by omega)
      obtain ⟨r1, r2, r3⟩ := F162_eq (f := true) (show rgt q e < 60 by omega) okB.1 b2.1
      rw [sB] at r1 r2 r3
      have u3 := u2.tr (r2.fq (e := e))
      have a3 := ha.fr u3 (by omega)
      obtain ⟨s1, s2, s3⟩ := F161_eq (f := true) (show lft q e < 60 by omega) okA.1 a3.1
      rw [sA] at s1 s2 s3
      have u4 := u3.tr (s2.lr.fq (e := e))
      generalize hQ2 : F162_0 (nI (rgt q e)) (a_w Q1 673 e (erM (orE (PE q x (lft q e)).2 (PE q x (rgt q e)).2))) = Q2 at *
      have c2 : (F161_0 (nI (lft q e)) Q2).1 650 32 = nI (vals (PE q x (rgt q e)).1).length := by rw [s2.1 650 32 (by decide) (by decide) (by omega)]; exact r3.1
      have l2 : lst (F161_0 (nI (lft q e)) Q2) 677 678 0 (vals (PE q x (rgt q e)).1) := lst_fr _ 0 (fun j _ _ => ⟨s2.1 677 j (by decide) (by decide) (by omega), s2.1 678 j (by decide) (by decide) (by omega)⟩) r3.2
      have ac : accm e (F161_0 (nI (lft q e)) Q2) eP (orE (PE q x (lft q e)).2 (PE q x (rgt q e)).2) := by
        refine ⟨mp_cong f3 ?_ (fun k _ => ?_), ?_, eP_ok⟩
        · rw [s2.1 650 35 (by decide) (by decide) (by omega), r2.1 650 35 (by omega) (by omega), w_ne (by decide)]
        · rw [s2.1 679 k (by decide) (by decide) (by omega), r2.1 679 k (by omega) (by omega), w_ne (by decide)]
        · rw [s2.1 673 e (by decide) (by decide) (by omega), r2.1 673 e (by omega) (by omega), w_eq]
      have x652'' : Q2.1 652 e = nI (lft q e) := by rw [r2.1 652 e (by omega) (by omega), w_ne (by decide)]; exact x652'
      generalize hQ3 : F161_0 (nI (lft q e)) Q2 = Q3 at *
      obtain ⟨Q4, t1, t2, t3, t4⟩ := outer_loop (o := opn q e) (v3 := 0) (L := vals (PE q x (lft q e)).1) (M := vals (PE q x (rgt q e)).1) (show e < 60 by omega) o1 (by omega) (by omega) vB (vals (PE q x (lft q e)).1) 0 Q3 eP _ 200 (by omega) (by omega) vA s3.1 (by rw [if_pos rfl]; exact c2) s3.2 l2 ac
      rw [hulL_e] at t4
      have t2' : a_it (fun (s : Int32 × aQ) => F165_130 (nI e) (nI (opn q e)) 0 s.1 s.2) 200 (0, Q3) = some Q4 := t2
      obtain ⟨k1, k2, k3⟩ := keep_e (show e < 60 by omega) (u4.tr t3.fq) t4.1 t4.2.1
      refine top 0 (by rw [if_pos (by omega)]) ?_
      unfold S165_43 F165_43 S165_93 F165_93 S165_114 F165_114 S165_117 F165_117 S165_127 F165_127 S165_252 F165_252
      rw [ce, x652', ca, if_neg nz, if_pos rfl, if_pos rfl, e1, x653, cb, b1.2, em, hQ2, x652'', hQ3, a_lp_eq t2', pe]
      exact ⟨⟨ve, va, fun y => absurd y nz, fun _ => ⟨fun _ => ⟨ve, ve, vb, ve, fun _ => ⟨ve, r1, ve, s1, t1, k1, trivial⟩, fun y => absurd rfl y⟩, fun y => absurd rfl y⟩⟩, k2, k3⟩
end
