/-! painting an expression: the class -/
theorem iI_self (x : Int32) : x = iI x.toInt := (Int32.ofInt_toInt x).symm
section
variable {q : aQ} {nE : Nat} {x : Nat → Pc} {sa : Nat}
theorem one1 {z : Int} : one (1, z) = (incR eR z z, eR, false, false) := by rw [inc_eR (Int.le_refl z)]; rfl
theorem one2 {z : Int} : one (2, z) = (eR, incR eR z z, false, false) := by rw [inc_eR (Int.le_refl z)]; rfl
theorem F103_eq {e r : Nat} {Q : aQ} (hE : iE q nE) (he : e < nE) (h : q.1 2 e = -1) (ex : ∀ c j, 1 ≤ c ∧ c ≤ 7 → Q.1 c j = q.1 c j) (hs : stAt Q sa x) (k : pcAt Q r eP) (n : r + 2 < sa ∨ sa + 16 < r) : S103_0 (nI e) sa r Q ∧ ∃ Q', F103_0 (nI e) sa r Q = (erM (lfP q x e).2, Q') ∧ updP Q Q' r (lfP q x e).1 := by
  have h60 := hE.1
  obtain ⟨hl, -⟩ := leaf_of hE he h
  have ce : (nI e).toNatClampNeg = e := nI_clamp (by omega)
  have ve : vp_in (nI e) 60 := vp_in_nI (by omega) (by decide)
  have r3 : Q.1 3 e = q.1 3 e := ex 3 e (by omega)
  have r4 : Q.1 4 e = q.1 4 e := ex 4 e (by omega)
  have n10 : ¬ (1 : Int32) = 0 := by decide
  unfold S103_0 F103_0 lfP
  rw [ce, r3, r4]
  rcases hl with ⟨a, b, c⟩ | ⟨a, b, c⟩ | a | ⟨a, v, b, c⟩ | a
  · rw [Int32.lt_iff_toInt_lt] at b c
    have bb : bd (q.1 4 e).toInt := ⟨Int.not_lt.mp b, Int.not_lt.mp c⟩
    rw [a, if_pos rfl, if_pos rfl, one1]
    refine ⟨⟨ve, ve, fun _ => ⟨S82_ok, trivial⟩, fun z => absurd rfl z⟩, _, rfl, ?_⟩
    have u := F82_eq k.1 eR_ok bb bb
    rw [← iI_self] at u
    exact updP_n k u
  · rw [Int32.lt_iff_toInt_lt] at b c
    have bb : bd (q.1 4 e).toInt := ⟨by have := Int.not_lt.mp b; have e0 : (0 : Int32).toInt = 0 := rfl; unfold bd at *; omega, Int.not_lt.mp c⟩
    rw [a, if_neg n10, if_pos rfl, if_neg n10, if_pos rfl, one2]
    refine ⟨⟨ve, ve, fun z => absurd z n10, fun _ => ⟨fun _ => ⟨S82_ok, trivial⟩, fun z => absurd rfl z⟩⟩, _, rfl, ?_⟩
    have u := F82_eq k.2.1 eR_ok bb bb
    rw [← iI_self] at u
    exact updP_t k u
  · have a0 : ¬ (2 : Int32) = 0 := by decide
    have a1 : ¬ (2 : Int32) = 1 := by decide
    rw [a, if_neg a0, if_neg a1, if_pos rfl, if_neg a0, if_neg a1, if_pos rfl]
    exact ⟨⟨ve, ve, fun z => absurd z a0, fun _ => ⟨fun z => absurd z a1, fun _ => ⟨fun _ => trivial, fun z => absurd rfl z⟩⟩⟩, _, rfl, updP_o (a' := true) k⟩
  · have a0 : ¬ (3 : Int32) = 0 := by decide
    have a1 : ¬ (3 : Int32) = 1 := by decide
    have a2 : ¬ (3 : Int32) = 2 := by decide
    have cv : (nI v).toNatClampNeg = v := nI_clamp (by omega)
    have vv : vp_in (nI v) 5 := vp_in_nI b (by decide)
    obtain ⟨hp, hok⟩ := hs v b
    have ap : apt r (sa + 2 + 3 * v) := by unfold apt; omega
    obtain ⟨f1, f2⟩ := F64_eq (p := r) hp ap
    have f1 : updP Q (F64_0 r (sa + 2 + 3 * v) Q) r ((x v).1, (x v).2.1, (x v).2.2.1, (x v).2.2.2) := f1
    have u := f1.tr (updP_u (b' := false) f1.1)
    have hp2 := hp.ne u ap
    have e3 : (a_w (F64_0 r (sa + 2 + 3 * v) Q) r 3 0).1 (sa + 2 + 3 * v) 3 = bI (x v).2.2.2 := hp2.2.2.2
    rw [a, if_neg a0, if_neg a1, if_neg a2, if_pos rfl, if_neg a0, if_neg a1, if_neg a2, if_pos rfl, c, cv]
    unfold F103_96 S103_96
    rw [cv, e3]
    refine ⟨⟨ve, ve, fun z => absurd z a0, fun _ => ⟨fun z => absurd z a1, fun _ => ⟨fun z => absurd z a2, fun _ => ⟨fun _ => ⟨vv, f2, vv, fun _ => trivial, fun _ => trivial⟩, fun z => absurd rfl z⟩⟩⟩⟩, a_w (F64_0 r (sa + 2 + 3 * v) Q) r 3 0, ?_, u⟩
    cases (x v).2.2.2 <;> rfl
  · have a0 : ¬ (4 : Int32) = 0 := by decide
    have a1 : ¬ (4 : Int32) = 1 := by decide
    have a2 : ¬ (4 : Int32) = 2 := by decide
    have a3 : ¬ (4 : Int32) = 3 := by decide
    rw [a, if_neg a0, if_neg a1, if_neg a2, if_neg a3, if_neg a0, if_neg a1, if_neg a2, if_neg a3]
    refine ⟨⟨ve, ve, fun z => absurd z a0, fun _ => ⟨fun z => absurd z a1, fun _ => ⟨fun z => absurd z a2, fun _ => ⟨fun z => absurd z a3, fun _ => ⟨⟨S82_ok, trivial⟩, trivial⟩⟩⟩⟩⟩, _, rfl, ?_⟩
    have u := F82_eq (a := -1000) (b := 1000) k.1 eR_ok b16.2.2.2 b16.2.2.1
    exact updP_n k u
/-- what painting changes: each picture is left alone, or is right -/
def pnt (q : aQ) (x : Nat → Pc) (Q Q' : aQ) : Prop := (∀ c j, ¬ (42 ≤ c ∧ c ≤ 221) → Q'.1 c j = Q.1 c j) ∧ Q'.2 = Q.2 ∧ ∀ k, k < 60 → (∀ c j, 42 + 3 * k ≤ c ∧ c ≤ 44 + 3 * k → Q'.1 c j = Q.1 c j) ∨ pcAt Q' (42 + 3 * k) (PE q x k).1
theorem pnt.rf {Q : aQ} : pnt q x Q Q := ⟨fun _ _ _ => rfl, rfl, fun _ _ => Or.inl fun _ _ _ => rfl⟩
theorem pnt.tr {Q Q1 Q2 : aQ} (h : pnt q x Q Q1) (k : pnt q x Q1 Q2) : pnt q x Q Q2 := by
  refine ⟨fun c j n => (k.1 c j n).trans (h.1 c j n), k.2.1.trans h.2.1, fun e he => ?_⟩
  rcases k.2.2 e he with g | g
  · rcases h.2.2 e he with f | f
    · exact Or.inl fun c j z => (g c j z).trans (f c j z)
    · exact Or.inr (f.fr (fun c j z => g c j (by omega)))
  · exact Or.inr g
theorem pnt.keep {Q Q1 : aQ} {e : Nat} (h : pnt q x Q Q1) (he : e < 60) (k : pcAt Q (42 + 3 * e) (PE q x e).1) : pcAt Q1 (42 + 3 * e) (PE q x e).1 := by
  rcases h.2.2 e he with f | f
  · exact k.fr (fun c j z => f c j (by omega))
  · exact f
theorem pnt.st {Q Q1 : aQ} (h : pnt q x Q Q1) (hsa : sa = 21 ∨ 222 ≤ sa) (k : stAt Q sa x) : stAt Q1 sa x := k.fr (fun c j z => h.1 c j (by omega))
theorem pnt.of {Q Q1 : aQ} {e : Nat} (he : e < 60) (u : updP Q Q1 (42 + 3 * e) (PE q x e).1) : pnt q x Q Q1 := by
  refine ⟨fun c j n => u.2.1 c j (by omega), u.2.2, fun k hk => ?_⟩
  by_cases h : k = e
  · subst h; exact Or.inr u.1
  · exact Or.inl fun c j z => u.2.1 c j (by omega)
theorem erM_no {a : Er} : erM a ||| erM noE = erM a := by
  rw [erM_or]
  obtain ⟨a1, a2, a3⟩ := a
  cases a1 <;> cases a2 <;> cases a3 <;> rfl
theorem F102_eq (hE : iE q nE) (hx : stOk x) (hsa : sa = 21 ∨ 222 ≤ sa) : ∀ f e d w Q, e < nE → q.1 7 e = nI w → w ≤ f → d + w ≤ 16 → (∀ c j, 1 ≤ c ∧ c ≤ 7 → Q.1 c j = q.1 c j) → stAt Q sa x → ∃ Q', S102 f (nI e) sa (nI d) Q ∧ F102 f (nI e) sa (nI d) Q = (erM (PE q x e).2, Q') ∧ pnt q x Q Q' ∧ pcAt Q' (42 + 3 * e) (PE q x e).1 ∧ (∀ c j, 44 + 3 * e < c → Q'.1 c j = Q.1 c j) ∧ (¬ q.1 2 e = -1 → opn q e ≤ 5 → hasV (PE q x (lft q e)).1 = true → pcAt Q' (42 + 3 * rgt q e) (PE q x (rgt q e)).1) := by
  have h60 := hE.1
  intro f
  induction f with
  | zero =>
    intro e d w Q he hw hwf
    obtain ⟨w', w1, w2, w3, -⟩ := iE_w hE he
    have := nI_inj (b := w') (by omega) (by omega) (hw.symm.trans w3)
    omega
  | succ f ih =>
    intro e d w Q he hw hwf hd ex hs
    obtain ⟨w', w1, w2, w3, -⟩ := iE_w hE he
    have ww := nI_inj (b := w') (by omega) (by omega) (hw.symm.trans w3)
    have ce : (nI e).toNatClampNeg = e := nI_clamp (by omega)
    have ve : vp_in (nI e) 60 := vp_in_nI (by omega) (by decide)
    have d15 : nI d ≤ 15 := nI_le15 (by omega)
    obtain ⟨c1, c2⟩ := F63_eq (q := Q) (p := 42 + 3 * e)
    have ex0 : ∀ c j, 1 ≤ c ∧ c ≤ 7 → (F63_0 (42 + 3 * e) Q).1 c j = q.1 c j := fun c j z => (c1.2.1 c j (by omega)).trans (ex c j z)
    have hs0 : stAt (F63_0 (42 + 3 * e) Q) sa x := hs.fr (fun c j z => c1.2.1 c j (by omega))
    have r2 : (F63_0 (42 + 3 * e) Q).1 2 e = q.1 2 e := ex0 2 e (by omega)
    have r5 : (F63_0 (42 + 3 * e) Q).1 5 e = q.1 5 e := ex0 5 e (by omega)
    have r6 : (F63_0 (42 + 3 * e) Q).1 6 e = q.1 6 e := ex0 6 e (by omega)
    have FF : F102 (f + 1) (nI e) sa (nI d) Q = F102_13 (F102 f) (nI e) sa (nI d) (42 + 3 * e) (F63_0 (42 + 3 * e) Q) := by
      show F102_0 (F102 f) (nI e) sa (nI d) Q = _
      unfold F102_0
      rw [ce]
    have SS : S102_13 (F102 f) (S102 f) (nI e) sa (nI d) (42 + 3 * e) (F63_0 (42 + 3 * e) Q) → S102 (f + 1) (nI e) sa (nI d) Q := by
      intro z
      show S102_0 (F102 f) (S102 f) (nI e) sa (nI d) Q
      unfold S102_0
      rw [ce]
      exact ⟨ve, c2, z⟩
    rw [FF]
    by_cases h : q.1 2 e = -1
    · obtain ⟨s1, Q', s2, s3⟩ := F103_eq (r := 42 + 3 * e) hE he h ex0 hs0 c1.1 (by omega)
      have hPE : PE q x e = lfP q x e := PE_lf h
      have u : updP Q Q' (42 + 3 * e) (PE q x e).1 := by rw [hPE]; exact c1.tr s3
      refine ⟨Q', SS ?_, ?_, pnt.of (by omega) u, u.1, fun c j z => u.2.1 c j (by omega), fun z => absurd h z⟩
      · unfold S102_13
        rw [ce, r2]
        exact ⟨fun _ => ⟨ve, fun _ => ⟨s1, trivial⟩, fun z => absurd h z⟩, fun z => absurd d15 z⟩
      · unfold F102_13
        rw [ce, if_pos d15, r2, if_pos h, s2, hPE]
    · obtain ⟨w', wa, o1, o2, o3, o4, o5, o6, o7, o8, o9, o10, o11, o12, o13, o14, o15, o16⟩ := op_of hE he h
      have ew : w = w' := nI_inj (by omega) (by omega) (hw.symm.trans o10)
      subst ew
      have ha : wa + 1 ≤ w := by
        by_cases g : opn q e ≤ 5
        · obtain ⟨wb, g1, g2, g3⟩ := o16 g; omega
        · have := o15 (by omega); omega
      have ca : (nI (lft q e)).toNatClampNeg = lft q e := nI_clamp (by omega)
      have va : vp_in (nI (lft q e)) 60 := vp_in_nI (by omega) (by decide)
      obtain ⟨Q1, a1, a2, a3, a4, a5, -⟩ := ih (lft q e) (d + 1) wa (F63_0 (42 + 3 * e) Q) (by omega) o13 (by omega) (by omega) ex0 hs0
      have okA := PE_ok hE hx (e := lft q e) (by omega)
      have pe := PE_op (x := x) hE he h
      have ex1 : ∀ c j, 1 ≤ c ∧ c ≤ 7 → Q1.1 c j = q.1 c j := fun c j z => (a3.1 c j (by omega)).trans (ex0 c j z)
      have hs1 := a3.st hsa hs0
      -- the picture of e is still clear
      have pc1 : pcAt Q1 (42 + 3 * e) eP := c1.1.fr (fun c j z => a5 c j (by omega))
      have F13 : F102_13 (F102 f) (nI e) sa (nI d) (42 + 3 * e) (F63_0 (42 + 3 * e) Q) = F102_68 (F102 f) (nI e) sa (nI d) (42 + 3 * e) (nI (opn q e)) (nI (lft q e)) (erM (PE q x (lft q e)).2) Q1 := by
        unfold F102_13
        rw [if_pos d15, ce, r2, if_neg h, o4, r5, o6, nI_1, a2]
      have S13 : S102_68 (F102 f) (S102 f) (nI e) sa (nI d) (42 + 3 * e) (nI (opn q e)) (nI (lft q e)) (erM (PE q x (lft q e)).2) Q1 → S102 (f + 1) (nI e) sa (nI d) Q := by
        intro z
        refine SS ?_
        unfold S102_13
        rw [ce, r2, o4, r5, o6, nI_1, a2]
        exact ⟨fun _ => ⟨ve, fun z => absurd (o4.trans z) h, fun _ => ⟨ve, a1, z⟩⟩, fun z => absurd d15 z⟩
      rw [F13]
      have q16 : Q1.1 6 e = q.1 6 e := ex1 6 e (by omega)
      -- all that changed since Q, when at last the picture of e is right
      have all : ∀ Q2 Q3, pnt q x Q1 Q2 → (∀ c j, 44 + 3 * e < c → Q2.1 c j = Q1.1 c j) → updP Q2 Q3 (42 + 3 * e) (PE q x e).1 → pnt q x Q Q3 ∧ (∀ c j, 44 + 3 * e < c → Q3.1 c j = Q.1 c j) := by
        intro Q2 Q3 h2 h3 u
        refine ⟨⟨fun c j n => ?_, ?_, fun k hk => ?_⟩, fun c j n => ?_⟩
        · rw [u.2.1 c j (by omega), h2.1 c j n, a3.1 c j n, c1.2.1 c j (by omega)]
        · rw [u.2.2, h2.2.1, a3.2.1, c1.2.2]
        · by_cases ke : k = e
          · subst ke; exact Or.inr u.1
          · rcases (a3.tr h2).2.2 k hk with g | g
            · exact Or.inl fun c j z => by rw [u.2.1 c j (by omega), g c j z, c1.2.1 c j (by omega)]
            · exact Or.inr (g.fr (fun c j z => u.2.1 c j (by omega)))
        · rw [u.2.1 c j (by omega), h3 c j n, a5 c j (by omega), c1.2.1 c j (by omega)]
      by_cases hv : hasV (PE q x (lft q e)).1 = false
      · -- the left part has no value
        rw [if_pos hv] at pe
        have f67 : F67_0 (42 + 3 * lft q e) Q1 = 0 := by rw [F67_eq a4 okA.1, hv]; rfl
        have pc : pcAt Q1 (42 + 3 * e) (PE q x e).1 := by rw [pe]; exact pc1
        obtain ⟨z1, z2⟩ := all Q1 Q1 pnt.rf (fun _ _ _ => rfl) (updP.rf pc)
        refine ⟨Q1, S13 ?_, ?_, z1, pc, z2, fun _ _ z => by rw [hv] at z; cases z⟩
        · unfold S102_68
          rw [ca]
          exact ⟨va, S67_ok, fun _ => trivial, fun z => absurd f67 z⟩
        · unfold F102_68
          rw [ca, if_pos f67, pe]
      · have hvt : hasV (PE q x (lft q e)).1 = true := by simpa using hv
        rw [if_neg hv] at pe
        have f67 : ¬ F67_0 (42 + 3 * lft q e) Q1 = 0 := by rw [F67_eq a4 okA.1, hvt]; decide
        have s29 : S29_0 (nI (opn q e)) Q1 := by unfold S29_0; simp
        by_cases g6 : 6 ≤ opn q e
        · rw [if_pos g6] at pe
          have o67 : opn q e = 6 ∨ opn q e = 7 := by omega
          have f29 : ¬ F29_0 (nI (opn q e)) Q1 = 0 := by
            unfold F29_0
            rcases o67 with z | z <;> rw [z] <;> decide
          obtain ⟨t1, Q3, t2, t3⟩ := F104_eq (r := 42 + 3 * e) o67 a4 okA.1 pc1 (by unfold apt; omega)
          have u : updP Q1 Q3 (42 + 3 * e) (PE q x e).1 := by rw [pe]; exact t3
          obtain ⟨z1, z2⟩ := all Q1 Q3 pnt.rf (fun _ _ _ => rfl) u
          refine ⟨Q3, S13 ?_, ?_, z1, u.1, z2, fun _ z => by omega⟩
          · unfold S102_68
            rw [ca]
            exact ⟨va, S67_ok, fun z => absurd z f67, fun _ => ⟨s29, fun z => absurd z f29, fun _ => ⟨va, t1, trivial⟩⟩⟩
          · unfold F102_68 F102_110
            rw [ca, if_neg f67, if_neg f29, t2, pe, erM_or]
        · rw [if_neg g6] at pe
          obtain ⟨wb, g2, g3, g4⟩ := o16 (by omega)
          obtain ⟨p8, p9⟩ := o8 (by omega)
          have o3' := o3 (by omega)
          clear o16 o15 o8 o9 o3
          have f29 : F29_0 (nI (opn q e)) Q1 = 0 := by
            have c6 : opn q e = 0 ∨ opn q e = 1 ∨ opn q e = 2 ∨ opn q e = 3 ∨ opn q e = 4 ∨ opn q e = 5 := by omega
            unfold F29_0
            rcases c6 with z | z | z | z | z | z <;> rw [z] <;> decide
          have cb : (nI (rgt q e)).toNatClampNeg = rgt q e := nI_clamp (by omega)
          have vb : vp_in (nI (rgt q e)) 60 := vp_in_nI (by omega) (by decide)
          obtain ⟨Q2, b1, b2, b3, b4, b5, -⟩ := ih (rgt q e) (d + 1) wb Q1 (by omega) g2 (by omega) (by omega) ex1 hs1
          have okB := PE_ok hE hx (e := rgt q e) (by omega)
          have a4' := b3.keep (by omega) a4
          have pc2 : pcAt Q2 (42 + 3 * e) eP := pc1.fr (fun c j z => b5 c j (by omega))
          have F68 : F102_68 (F102 f) (nI e) sa (nI d) (42 + 3 * e) (nI (opn q e)) (nI (lft q e)) (erM (PE q x (lft q e)).2) Q1 = F102_135 (F102 f) (42 + 3 * e) (nI (opn q e)) (nI (lft q e)) (nI (rgt q e)) (erM (PE q x (rgt q e)).2) (erM (PE q x (lft q e)).2) Q2 := by
            unfold F102_68
            rw [ca, if_neg f67, if_pos f29, ce, q16, p8, nI_1, b2]
          have S68 : S102_135 (F102 f) (S102 f) (42 + 3 * e) (nI (opn q e)) (nI (lft q e)) (nI (rgt q e)) (erM (PE q x (rgt q e)).2) (erM (PE q x (lft q e)).2) Q2 → S102 (f + 1) (nI e) sa (nI d) Q := by
            intro z
            refine S13 ?_
            unfold S102_68
            rw [ca, ce, q16, p8, nI_1, b2]
            exact ⟨va, S67_ok, fun z => absurd z f67, fun _ => ⟨s29, fun _ => ⟨ve, b1, z⟩, fun z => absurd f29 z⟩⟩
          rw [F68]
          by_cases hw' : hasV (PE q x (rgt q e)).1 = false
          · have g67 : F67_0 (42 + 3 * rgt q e) Q2 = 0 := by rw [F67_eq b4 okB.1, hw']; rfl
            have nil : prods (opn q e) (vals (PE q x (lft q e)).1) (vals (PE q x (rgt q e)).1) = [] := by
              rw [vals_n okB.1 hw']
              refine List.eq_nil_iff_forall_not_mem.mpr fun v hv => ?_
              obtain ⟨a, -, b, hb, -⟩ := mem_prods.mp hv
              cases hb
            have pe' : PE q x e = (eP, orE (PE q x (lft q e)).2 (PE q x (rgt q e)).2) := by
              rw [pe, nil]
              refine Prod.ext rfl ?_
              show orE (orE (PE q x (lft q e)).2 (PE q x (rgt q e)).2) noE = _
              obtain ⟨r1, r2, r3⟩ := orE (PE q x (lft q e)).2 (PE q x (rgt q e)).2
              cases r1 <;> cases r2 <;> cases r3 <;> rfl
            have u : updP Q2 Q2 (42 + 3 * e) (PE q x e).1 := updP.rf (by rw [pe']; exact pc2)
            obtain ⟨z1, z2⟩ := all Q2 Q2 b3 (fun c j z => b5 c j (by omega)) u
            refine ⟨Q2, S68 ?_, ?_, z1, u.1, z2, fun _ _ _ => b4⟩
            · unfold S102_135
              rw [cb]
              exact ⟨vb, S67_ok, fun _ => trivial, fun z => absurd g67 z⟩
            · unfold F102_135
              rw [cb, if_pos g67, pe', erM_or]
          · have hwt : hasV (PE q x (rgt q e)).1 = true := by simpa using hw'
            have g67 : ¬ F67_0 (42 + 3 * rgt q e) Q2 = 0 := by rw [F67_eq b4 okB.1, hwt]; decide
            obtain ⟨t1, Q3, t2, t3⟩ := F105_eq (o := opn q e) (r := 42 + 3 * e) (by omega) a4' b4 okA.1 okB.1 hvt hwt pc2 (by unfold apt; omega) (by unfold apt; omega)
            have u : updP Q2 Q3 (42 + 3 * e) (PE q x e).1 := by rw [pe]; exact t3
            obtain ⟨z1, z2⟩ := all Q2 Q3 b3 (fun c j z => b5 c j (by omega)) u
            refine ⟨Q3, S68 ?_, ?_, z1, u.1, z2, fun _ _ _ => b4.fr (fun c j z => u.2.1 c j (by omega))⟩
            · unfold S102_135
              rw [cb, ca]
              exact ⟨vb, S67_ok, fun z => absurd z g67, fun _ => ⟨va, vb, t1, trivial⟩⟩
            · unfold F102_135 F102_177
              rw [cb, if_neg g67, ca, t2, pe, erM_or, erM_or]
end
