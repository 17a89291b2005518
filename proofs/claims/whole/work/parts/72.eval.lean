/-! what an expression comes to: the class -/
def setT (q : aQ) (tk : Nat) : aQ := a_w q 647 4 (nI tk)
theorem a_w_2 {q : aQ} {a k : Nat} {x y : Int32} : a_w (a_w q a k x) a k y = a_w q a k y := by
  refine Prod.ext ?_ rfl
  funext b j
  rw [w_get, w_get]
  by_cases h : b = a ∧ j = k
  · rw [if_pos h, w_get, if_pos h]
  · rw [if_neg h, w_get, if_neg h, if_neg h]
theorem setT_2 {q : aQ} {a b : Nat} : setT (setT q a) b = setT q b := a_w_2
theorem setT_r {q : aQ} {tk c j : Nat} (h : ¬ (c = 647 ∧ j = 4)) : (setT q tk).1 c j = q.1 c j := by
  unfold setT
  rw [w_get, if_neg h]
theorem setT_l {q : aQ} {tk : Nat} : (setT q tk).2 = q.2 := rfl
theorem setT_4 {q : aQ} {tk : Nat} : (setT q tk).1 647 4 = nI tk := w_eq
section
variable {q : aQ} {nE fd : Nat} {va : Nat → Nat × Int}
theorem F128_i {t : Nat} {y : Int32} {q : aQ} (ht : t < 16) : F128_0 (nI t) (Int32.toInt64 y) q = pk t y.toInt := by
  rw [F128_eq ht, Int32.toInt_toInt64]
theorem F122_eq {tk : Nat} (hN : iN q fd) (ht : tk ≤ fd) : F122_0 (setT q tk) = (if tk < fd then (q.1 648 tk, setT q (tk + 1)) else (0, setT q tk)) ∧ S122_0 (setT q tk) := by
  have h8 := hN.1
  have e3 : (setT q tk).1 647 3 = nI fd := (setT_r (by omega)).trans hN.2.1
  have ct : (nI tk).toNatClampNeg = tk := nI_clamp (by omega)
  unfold F122_0 S122_0
  rw [e3, setT_4, ct, setT_r (by omega), nI_1]
  by_cases h : tk < fd
  · have n : ¬ nI fd ≤ nI tk := nI_ge h (by omega)
    rw [if_neg n, if_pos h]
    exact ⟨by rw [show a_w (setT q tk) 647 4 (nI (tk + 1)) = setT q (tk + 1) from setT_2], fun _ => trivial, fun _ => ⟨vp_in_nI (by omega) (by decide), trivial⟩⟩
  · have n : nI fd ≤ nI tk := nI_le (by omega) (by omega)
    rw [if_pos n, if_neg h]
    exact ⟨rfl, fun _ => trivial, fun z => absurd n z⟩
theorem F121_eq {e tk : Nat} (hE : iE q nE) (he : e < nE) (h : q.1 2 e = -1) (hN : iN q fd) (hv : vaOk va) (hV : ∀ v, v < 5 → q.2 649 v = pk (va v).1 (va v).2) (ht : tk ≤ fd) : F121_0 (nI e) (setT q tk) = (cE (lfv q va fd e tk).1, setT q (lfv q va fd e tk).2) ∧ S121_0 (nI e) (setT q tk) := by
  have h60 := hE.1
  obtain ⟨hl, -⟩ := leaf_of hE he h
  have ce : (nI e).toNatClampNeg = e := nI_clamp (by omega)
  have ve : vp_in (nI e) 60 := vp_in_nI (by omega) (by decide)
  have r3 : (setT q tk).1 3 e = q.1 3 e := setT_r (by omega)
  have r4 : (setT q tk).1 4 e = q.1 4 e := setT_r (by omega)
  have F := F122_eq hN ht
  unfold F121_0 S121_0 F121_87 S121_87 F121_114 S121_114 lfv
  rw [ce, r3, r4, setT_l]
  have i1 : ∀ y : Int32, F128_0 1 (Int32.toInt64 y) (setT q tk) = pk 1 y.toInt := fun y => F128_i (t := 1) (by decide)
  have i2 : ∀ y : Int32, F128_0 2 (Int32.toInt64 y) (setT q tk) = pk 2 y.toInt := fun y => F128_i (t := 2) (by decide)
  have i4 : F128_0 4 0 (setT q tk) = pk 4 0 := F128_eq (t := 4) (y := 0) (by decide)
  have i0 : F128_0 0 2 (setT q tk) = pk 0 2 := F128_eq (t := 0) (y := 2) (by decide)
  have i1' : ∀ (y : Int32) (Q : aQ), F128_0 1 (Int32.toInt64 y) Q = pk 1 y.toInt := fun y Q => F128_i (t := 1) (by decide)
  have n10 : ¬ (1 : Int32) = 0 := by decide
  rcases hl with ⟨a, b, c⟩ | ⟨a, b, c⟩ | a | ⟨a, v, b, c⟩ | a
  · rw [a]
    rw [if_pos rfl, if_pos rfl, i1]
    exact ⟨rfl, ve, ve, fun _ => ⟨trivial, trivial⟩, fun z => absurd rfl z⟩
  · rw [a]
    rw [if_neg n10, if_pos rfl, if_neg n10, if_pos rfl, i2]
    exact ⟨rfl, ve, ve, fun z => absurd z n10, fun _ => ⟨fun _ => ⟨trivial, trivial⟩, fun z => absurd rfl z⟩⟩
  · have a20 : ¬ (2 : Int32) = 0 := by decide
    have a21 : ¬ (2 : Int32) = 1 := by decide
    rw [a, if_neg a20, if_neg a21, if_pos rfl, if_neg a20, if_neg a21, if_pos rfl, i4]
    exact ⟨rfl, ve, ve, fun z => absurd z a20, fun _ => ⟨fun z => absurd z a21, fun _ => ⟨fun _ => ⟨trivial, trivial⟩, fun z => absurd rfl z⟩⟩⟩
  · have a0 : ¬ (3 : Int32) = 0 := by decide
    have a1 : ¬ (3 : Int32) = 1 := by decide
    have a2 : ¬ (3 : Int32) = 2 := by decide
    have cv : (nI v).toNatClampNeg = v := nI_clamp (by omega)
    have vv : vp_in (nI v) 5 := vp_in_nI b (by decide)
    have t16 : (va v).1 < 16 := by
      rcases hv v b with g | g
      · exact g.lt.1
      · rw [g]; decide
    have t8 : F129_0 (q.2 649 v) (setT q tk) = 8 ↔ (va v).1 = 8 := by
      rw [hV v b, F129_eq t16]
      exact nI_eq (b := 8) (by omega) (by decide)
    rw [a, if_neg a0, if_neg a1, if_neg a2, if_pos rfl, if_neg a0, if_neg a1, if_neg a2, if_pos rfl, c, cv, i0]
    refine ⟨?_, ve, ve, fun z => absurd z a0, fun _ => ⟨fun z => absurd z a1, fun _ => ⟨fun z => absurd z a2, fun _ => ⟨fun _ => ⟨vv, trivial, fun _ => ⟨fun _ => ⟨trivial, trivial⟩, fun z => absurd rfl z⟩, fun _ => ⟨fun _ => ⟨trivial, trivial⟩, fun _ => ⟨vv, trivial⟩⟩⟩, fun z => absurd rfl z⟩⟩⟩⟩
    by_cases h8 : (va v).1 = 8
    · rw [if_pos (t8.mpr h8), if_pos h8, if_pos rfl]; rfl
    · rw [if_neg (fun z => h8 (t8.mp z)), if_neg h8, if_neg n10, hV v b]
      have n9 : ¬ (va v).1 = 9 := by
        rcases hv v b with g | g
        · have := g.lt.2.2; omega
        · rw [g]; decide
      have e9 : cE (va v) = pk (va v).1 (va v).2 := cE_t (t := (va v).1) (x := (va v).2) n9
      exact congrArg (fun z => (z, setT q tk)) e9.symm
  · have a0 : ¬ (4 : Int32) = 0 := by decide
    have a1 : ¬ (4 : Int32) = 1 := by decide
    have a2 : ¬ (4 : Int32) = 2 := by decide
    have a3 : ¬ (4 : Int32) = 3 := by decide
    rw [a, if_neg a0, if_neg a1, if_neg a2, if_neg a3, if_neg a0, if_neg a1, if_neg a2, if_neg a3, F.1]
    refine ⟨?_, ve, ve, fun z => absurd z a0, fun _ => ⟨fun z => absurd z a1, fun _ => ⟨fun z => absurd z a2, fun _ => ⟨fun z => absurd z a3, fun _ => ⟨F.2, trivial, trivial⟩⟩⟩⟩⟩
    by_cases h1 : tk < fd
    · rw [if_pos h1, if_pos h1]
      dsimp only
      rw [i1']; rfl
    · rw [if_neg h1, if_neg h1]
      dsimp only
      rw [i1']; rfl
/-- an answer of workOut is a failure just where the value is one -/
theorem cE_stop {r : Nat × Int} (h : rOk r) : F129_0 (cE r) q = 0 ↔ (r.1 = 0 ∨ r.1 = 9) := by
  rcases h with h | h | h
  · have hl := h.lt
    have : ¬ r.1 = 9 := by omega
    have e : cE r = pk r.1 r.2 := cE_t (t := r.1) (x := r.2) this
    rw [e, F129_eq (by omega)]
    constructor
    · intro z; have := nI_inj (b := 0) (by omega) (by decide) z; omega
    · intro z; omega
  · have e : cE r = pk r.1 r.2 := cE_t (t := r.1) (x := r.2) (by omega)
    rw [e, F129_eq (by omega), h.1]
    exact ⟨fun _ => Or.inl rfl, fun _ => rfl⟩
  · rw [h]
    show F129_0 (pk 0 9) q = 0 ↔ _
    rw [F129_eq (by decide)]
    exact ⟨fun _ => Or.inr rfl, fun _ => rfl⟩
theorem cE_v {r : Nat × Int} (h : vOk r.1 r.2) : cE r = pk r.1 r.2 := cE_t (t := r.1) (x := r.2) (by have := h.lt; omega)
theorem F120_eq (hE : iE q nE) (hN : iN q fd) (hv : vaOk va) (hV : ∀ v, v < 5 → q.2 649 v = pk (va v).1 (va v).2) : ∀ f e d tk w, e < nE → q.1 7 e = nI w → w ≤ f → d + w ≤ 16 → tk ≤ fd → F120 f (nI e) (nI d) (setT q tk) = (cE (ev q va fd f e tk).1, setT q (ev q va fd f e tk).2) ∧ S120 f (nI e) (nI d) (setT q tk) := by
  have h60 := hE.1
  intro f
  induction f with
  | zero =>
    intro e d tk w he hw hwf
    obtain ⟨w', w1, w2, w3, -⟩ := iE_w hE he
    rw [hw] at w3
    have := nI_inj (by omega) (by omega) w3
    omega
  | succ f ih =>
    intro e d tk w he hw hwf hd ht
    have hw15 : 1 ≤ w ∧ w ≤ 15 := by
      obtain ⟨w', w1, w2, w3, -⟩ := iE_w hE he
      rw [hw] at w3
      have := nI_inj (b := w') (by omega) (by omega) w3
      omega
    have ce : (nI e).toNatClampNeg = e := nI_clamp (by omega)
    have ve : vp_in (nI e) 60 := vp_in_nI (by omega) (by decide)
    have d15 : nI d ≤ (15 : Int32) := nI_le (b := 15) (by omega) (by decide)
    have r2 : (setT q tk).1 2 e = q.1 2 e := setT_r (by omega)
    have r5 : (setT q tk).1 5 e = q.1 5 e := setT_r (by omega)
    show F120_0 (F120 f) (nI e) (nI d) (setT q tk) = _ ∧ S120_0 (F120 f) (S120 f) (nI e) (nI d) (setT q tk)
    unfold F120_0 S120_0 ev
    rw [if_pos d15, ce, r2]
    by_cases h : q.1 2 e = -1
    · have L := F121_eq (tk := tk) hE he h hN hv hV ht
      rw [if_pos h, if_pos h, L.1]
      exact ⟨rfl, fun _ => ⟨ve, fun _ => ⟨L.2, trivial⟩, fun z => absurd h z⟩, fun z => absurd d15 z⟩
    · obtain ⟨w', wa, o1, o2, o3, o4, o5, o6, o7, o8, o9, o10, o11, o12, o13, o14, o15, o16⟩ := op_of hE he h
      have ew : w = w' := nI_inj (by omega) (by omega) (hw.symm.trans o10)
      subst ew
      have ha : wa ≤ w - 1 := by
        by_cases g : opn q e ≤ 5
        · obtain ⟨wb, g1, g2, g3⟩ := o16 g; omega
        · have := o15 (by omega); omega
      have A := ih (lft q e) (d + 1) tk wa (by omega) o13 (by omega) (by omega) ht
      have ra := ev_ok hE hN hv f (lft q e) tk (by omega)
      have ta : (ev q va fd f (lft q e) tk).2 ≤ fd := tk_le f (lft q e) tk ht
      rw [if_neg h, if_neg h, r5, o6, nI_1, A.1, o4]
      generalize ev q va fd f (lft q e) tk = a at A ra ta ⊢
      dsimp only
      unfold F120_51 S120_51
      have sa := cE_stop (q := setT q a.2) ra
      by_cases g1 : a.1.1 = 0 ∨ a.1.1 = 9
      · rw [if_pos (sa.mpr g1), if_pos g1]
        exact ⟨rfl, fun _ => ⟨ve, fun z => absurd (o4 ▸ z) h, fun _ => ⟨ve, A.2, trivial, fun _ => trivial, fun z => absurd (sa.mpr g1) z⟩⟩, fun z => absurd d15 z⟩
      · have va1 := rOk_v ra g1
        have sa' : ¬ F129_0 (cE a.1) (setT q a.2) = 0 := fun z => g1 (sa.mp z)
        rw [if_neg sa', if_neg g1]
        by_cases g6 : 6 ≤ opn q e
        · have f29 : F29_0 (nI (opn q e)) (setT q a.2) = 1 := F29_hi (by omega)
          have n1 : ¬ (1 : Int32) = 0 := by decide
          have R := F123_eq (o := opn q e) (q := setT q a.2) (by omega) va1
          rw [f29, if_neg n1, if_pos g6, cE_v va1, R.1]
          exact ⟨rfl, fun _ => ⟨ve, fun z => absurd (o4 ▸ z) h, fun _ => ⟨ve, A.2, trivial, fun z => absurd (cE_v va1 ▸ z) sa', fun _ => ⟨S29_ok, fun z => absurd z n1, fun _ => ⟨R.2, trivial⟩⟩⟩⟩, fun z => absurd d15 z⟩
        · have f29 : F29_0 (nI (opn q e)) (setT q a.2) = 0 := F29_lo (by omega)
          obtain ⟨wb, g2, g3, g4⟩ := o16 (by omega)
          have r6 : (setT q a.2).1 6 e = nI (rgt q e) := (setT_r (by omega)).trans (o8 (by omega)).1
          have B := ih (rgt q e) (d + 1) a.2 wb (by have := o3 (by omega); omega) g2 (by omega) (by omega) ta
          have rb := ev_ok hE hN hv f (rgt q e) a.2 (by have := o3 (by omega); omega)
          rw [f29, if_pos rfl, if_neg g6, ce, r6, nI_1, B.1]
          generalize ev q va fd f (rgt q e) a.2 = b at B rb ⊢
          dsimp only
          unfold F120_94 S120_94
          have sb := cE_stop (q := setT q b.2) rb
          by_cases g5 : b.1.1 = 0 ∨ b.1.1 = 9
          · rw [if_pos (sb.mpr g5), if_pos g5]
            exact ⟨rfl, fun _ => ⟨ve, fun z => absurd (o4 ▸ z) h, fun _ => ⟨ve, A.2, trivial, fun z => absurd z sa', fun _ => ⟨S29_ok, fun _ => ⟨ve, B.2, trivial, fun _ => trivial, fun z => absurd (sb.mpr g5) z⟩, fun z => absurd rfl z⟩⟩⟩, fun z => absurd d15 z⟩
          · have vb := rOk_v rb g5
            have sb' : ¬ F129_0 (cE b.1) (setT q b.2) = 0 := fun z => g5 (sb.mp z)
            have R := F124_eq (o := opn q e) (q := setT q b.2) (by omega) va1 vb
            rw [if_neg sb', if_neg g5, cE_v va1, cE_v vb, R.1]
            rw [cE_v vb] at sb'
            rw [cE_v va1] at sa'
            exact ⟨rfl, fun _ => ⟨ve, fun z => absurd (o4 ▸ z) h, fun _ => ⟨ve, A.2, trivial, fun z => absurd z sa', fun _ => ⟨S29_ok, fun _ => ⟨ve, B.2, trivial, fun z => absurd z sb', fun _ => ⟨R.2, trivial⟩⟩, fun z => absurd rfl z⟩⟩⟩, fun z => absurd d15 z⟩
/-- fuel beyond the weight changes nothing -/
theorem ev_f (hE : iE q nE) : ∀ f g e tk w, e < nE → w ≤ 15 → q.1 7 e = nI w → w ≤ f → w ≤ g → ev q va fd f e tk = ev q va fd g e tk := by
  have h60 := hE.1
  intro f
  induction f with
  | zero =>
    intro g e tk w he hw0 hw hwf
    obtain ⟨w', w1, w2, w3, -⟩ := iE_w hE he
    rw [hw] at w3
    have := nI_inj (by omega) (by omega) w3
    omega
  | succ f ih =>
    intro g e tk w he hw0 hw hwf hwg
    have hw15 : 1 ≤ w ∧ w ≤ 15 := by
      obtain ⟨w', w1, w2, w3, -⟩ := iE_w hE he
      have w3' := hw.symm.trans w3
      have := nI_inj (b := w') (by omega) (by omega) w3'
      omega
    obtain ⟨g, rfl⟩ : ∃ k, g = k + 1 := ⟨g - 1, by omega⟩
    unfold ev
    by_cases h : q.1 2 e = -1
    · rw [if_pos h, if_pos h]
    · obtain ⟨w', wa, o1, o2, o3, o4, o5, o6, o7, o8, o9, o10, o11, o12, o13, o14, o15, o16⟩ := op_of hE he h
      have ew : w = w' := nI_inj (by omega) (by omega) (hw.symm.trans o10)
      subst ew
      have ha : wa ≤ w - 1 := by
        by_cases g : opn q e ≤ 5
        · obtain ⟨wb, g1, g2, g3⟩ := o16 g; omega
        · have := o15 (by omega); omega
      rw [if_neg h, if_neg h, ih g (lft q e) tk wa (by omega) (by omega) o13 (by omega) (by omega)]
      by_cases g6 : 6 ≤ opn q e
      · rw [if_pos g6, if_pos g6]
      · obtain ⟨wb, g2, g3, g4⟩ := o16 (by omega)
        rw [if_neg g6, if_neg g6, ih g (rgt q e) _ wb (by have := o3 (by omega); omega) (by omega) g2 (by omega) (by omega)]
end
