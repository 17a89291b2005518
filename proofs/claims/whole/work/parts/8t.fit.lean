/-! the model fits a value -/
def big (n : Int) : Prop := -9000000000000000000 ≤ n ∧ n ≤ 9000000000000000000
section
variable {q : aQ} {P : Pc}
theorem jo_cmp {R : Rn} {n : Int} (hR : okR R) : (isE R = true → joR R (loF n, hiF n) = (loF n, hiF n)) ∧ (isE R = false → mL (joR R (loF n, hiF n)).1 = (if mL (loF n) ≤ mL R.1 then mL (loF n) else mL R.1) ∧ mH (joR R (loF n, hiF n)).2 = (if mH R.2 ≤ mH (hiF n) then mH (hiF n) else mH R.2)) := by
  constructor
  · intro e
    rw [isE_eR hR e]
    exact (joR_eR (Or.inr ⟨loF_ok, hiF_ok, lohi (Int.le_refl n)⟩)).2
  · intro e
    have o := ok_ne hR (by rw [e]; decide)
    have a := loF_ok (x := n)
    have b := hiF_ok (x := n)
    have c1 := mL_le a o.1
    have c2 := mH_le o.2.1 b
    unfold joR
    dsimp only
    constructor
    · by_cases c : loF n ≤ R.1
      · rw [if_pos (c1.mpr c)]
        by_cases d : loF n < R.1
        · rw [if_pos d]
        · rw [if_neg d, show R.1 = loF n by omega]
      · rw [if_neg (fun z => c (c1.mp z)), if_neg (by omega)]
    · by_cases c : R.2 ≤ hiF n
      · rw [if_pos (c2.mpr c)]
        by_cases d : R.2 < hiF n
        · rw [if_pos d]
        · rw [if_neg d, show R.2 = hiF n by omega]
      · rw [if_neg (fun z => c (c2.mp z)), if_neg (by omega)]
theorem F158_k {R : Rn} {n : Int} {k : Nat} {v1 : Int32} (hR : okR R) (hn : big n) (hk : k = 0 ∨ k = 2) (hb : isE R = false → q.1 679 k = mL R.1 ∧ q.1 679 (k + 1) = mH R.2) : F158_31 v1 (lI n) (nI k) (bI (!isE R)) q = a_w (a_w (a_w q 679 k (mL (joR R (loF n, hiF n)).1)) 679 (k + 1) (mH (joR R (loF n, hiF n)).2)) 650 35 (q.1 650 35 ||| v1) ∧ S158_31 v1 (lI n) (nI k) (bI (!isE R)) q := by
  have ck : (nI k).toNatClampNeg = k := nI_clamp (by omega)
  have ck1 : (nI (k + 1)).toNatClampNeg = k + 1 := nI_clamp (by omega)
  have vk : vp_in (nI k) 4 := vp_in_nI (by omega) (by decide)
  have vk1 : vp_in (nI (k + 1)) 4 := vp_in_nI (by omega) (by decide)
  obtain ⟨l1, l2⟩ := F155_eq (q := q) hn
  have l3 : ∀ Q : aQ, F156_0 (lI n) Q = mH (hiF n) := fun Q => (F156_eq hn).1
  have l4 : ∀ Q : aQ, S156_0 (lI n) Q := fun Q => (F156_eq hn).2
  obtain ⟨j1, j2⟩ := jo_cmp (n := n) hR
  have r35 : ∀ (x y : Int32), (a_w (a_w q 679 k x) 679 (k + 1) y).1 650 35 = q.1 650 35 := fun x y => by rw [w_ne (by decide), w_ne (by decide)]
  -- the high part
  have hi0 : ∀ x, F158_72 v1 (lI n) (nI k) 0 x (nI k) q = a_w (a_w (a_w q 679 k x) 679 (k + 1) (mH (hiF n))) 650 35 (q.1 650 35 ||| v1) ∧ S158_72 v1 (lI n) (nI k) 0 x (nI k) q := by
    intro x
    unfold F158_72 F158_114 F158_118 F158_119 S158_72 S158_114 S158_118 S158_119
    rw [if_pos rfl, ck, nI_1, ck1, l3, r35]
    exact ⟨rfl, vk, fun _ => ⟨l4 _, vk1, trivial⟩, fun z => absurd rfl z⟩
  cases he : isE R with
  | true =>
    rw [j1 he]
    obtain ⟨h1, h2⟩ := hi0 (mL (loF n))
    unfold F158_31 F158_68 S158_31 S158_68
    rw [if_pos (show bI (!true) = 0 from rfl), l1]
    exact ⟨h1, fun _ => ⟨l2, h2⟩, fun z => absurd (show bI (!true) = 0 from rfl) z⟩
  | false =>
    obtain ⟨b1, b2⟩ := hb he
    obtain ⟨m1, m2⟩ := j2 he
    have n0 : ¬ bI (!false) = 0 := by decide
    have hi1 : ∀ x, F158_72 v1 (lI n) (nI k) (bI (!false)) x (nI k) q = a_w (a_w (a_w q 679 k x) 679 (k + 1) (mH (joR R (loF n, hiF n)).2)) 650 35 (q.1 650 35 ||| v1) ∧ S158_72 v1 (lI n) (nI k) (bI (!false)) x (nI k) q := by
      intro x
      have rb : (a_w q 679 k x).1 679 (k + 1) = mH R.2 := by rw [w_nk (by omega)]; exact b2
      unfold F158_72 F158_114 F158_118 F158_119 S158_72 S158_114 S158_118 S158_119
      rw [if_neg n0, ck, nI_1, ck1, l3, rb, r35, r35, m2]
      refine ⟨?_, vk, fun z => absurd z n0, fun _ => ⟨vk1, l4 _, fun _ => ⟨l4 _, vk1, trivial⟩, fun _ => ⟨vk1, vk1, trivial⟩⟩⟩
      split <;> rfl
    unfold F158_31 F158_68 S158_31 S158_68
    rw [if_neg n0, l1, ck, b1]
    refine ⟨?_, fun z => absurd z n0, fun _ => ⟨vk, l2, fun _ => ⟨l2, (hi1 _).2⟩, fun _ => ⟨vk, (hi1 _).2⟩⟩⟩
    by_cases c : mL (loF n) ≤ mL R.1
    · rw [if_pos c, (hi1 _).1, m1, if_pos c]
    · rw [if_neg c, (hi1 _).1, m1, if_neg c]
theorem F158_eq {t : Nat} {n : Int} (hP : okP P) (hf : fitAt q P) (ht : t = 1 ∨ t = 2 ∨ t = 4) (hn : big n) (h2 : t = 2 → 0 ≤ n) : S158_0 (nI t) (lI n) q ∧ frF q (F158_0 (nI t) (lI n) q) ∧ fitAt (F158_0 (nI t) (lI n) q) (joP P (one (t, n))) := by
  obtain ⟨f1, f2, f3⟩ := hf
  obtain ⟨⟨t1, t2⟩, -⟩ := tyN_b P
  have okO : okP (one (t, n)) := one_ok h2
  have or := tyN_or P (one (t, n)) (isE_jo hP.1 okO.1) (isE_jo hP.2.R okO.2.R)
  have ie : ∀ {r : Rn}, okR r → (loF n, hiF n) = r → isE r = false := fun {r} _ e => by
    rw [← e, ← Bool.not_eq_true, isE_t]
    have := lohi (Int.le_refl n)
    dsimp only; omega
  have jeN : joR P.1 eR = P.1 := (joR_eR hP.1).1
  have jeT : joR P.2.1 eR = P.2.1 := (joR_eR hP.2.R).1
  rcases ht with rfl | rfl | rfl
  · have e1 : one (1, n) = ((loF n, hiF n), eR, false, false) := rfl
    have ty1 : tyN (one (1, n)) = 1 := by
      rw [e1, tyN_B]
      dsimp only
      rw [ie (r := (loF n, hiF n)) okO.1 rfl]; rfl
    obtain ⟨k1, k2⟩ := F158_k (R := P.1) (v1 := 1) (k := 0) hP.1 hn (Or.inl rfl) f2
    have sm : (if q.1 650 35 &&& 1 = 0 then (0 : Int32) else 1) = bI (!isE P.1) := by
      rw [f1]
      cases h : isE P.1 with
      | true => rw [if_pos (t1.mpr h)]; rfl
      | false => rw [if_neg (fun z => by rw [t1.mp z] at h; cases h)]; rfl
    have F : F158_0 1 (lI n) q = F158_31 1 (lI n) (nI 0) (bI (!isE P.1)) q := by
      unfold F158_0 F158_10
      rw [if_neg (by decide), if_neg (by decide), ← sm]
      split <;> rfl
    have S : S158_0 1 (lI n) q := by
      unfold S158_0 S158_10
      refine ⟨fun z => absurd z (by decide), fun _ => ⟨fun z => absurd z (by decide), fun _ => ⟨fun z => ?_, fun z => ?_⟩⟩⟩
      · rw [if_pos z] at sm; rw [← sm] at k2; exact k2
      · rw [if_neg z] at sm; rw [← sm] at k2; exact k2
    refine ⟨S, ?_, ?_⟩
    · show frF q (F158_0 1 (lI n) q)
      rw [F, k1]
      exact ⟨fun c j a b => by rw [w_get, if_neg b, w_ne a, w_ne a], rfl⟩
    · show fitAt (F158_0 1 (lI n) q) _
      rw [F, k1]
      refine ⟨?_, fun _ => ⟨?_, ?_⟩, fun z => ?_⟩
      · rw [w_eq, f1, ← or, ty1]; rfl
      · show (a_w _ 650 35 _).1 679 0 = _
        rw [w_ne (by decide), w_nk (by decide), w_eq]; rfl
      · show (a_w _ 650 35 _).1 679 1 = _
        rw [w_ne (by decide), w_eq]; rfl
      · show (a_w _ 650 35 _).1 679 2 = _ ∧ (a_w _ 650 35 _).1 679 3 = _
        rw [w_ne (by decide), w_nk (by decide), w_nk (by decide), w_ne (by decide), w_nk (by decide), w_nk (by decide)]
        rw [e1] at z ⊢
        rw [show (joP P ((loF n, hiF n), eR, false, false)).2.1 = P.2.1 from jeT] at z ⊢
        exact f3 z
  · have e1 : one (2, n) = (eR, (loF n, hiF n), false, false) := rfl
    have ty1 : tyN (one (2, n)) = 2 := by
      rw [e1, tyN_B]
      dsimp only
      rw [ie (r := (loF n, hiF n)) (okO.2.R) rfl]; rfl
    obtain ⟨k1, k2⟩ := F158_k (R := P.2.1) (v1 := 2) (k := 2) hP.2.R hn (Or.inr rfl) f3
    have sm : (if q.1 650 35 &&& 2 = 0 then (0 : Int32) else 1) = bI (!isE P.2.1) := by
      rw [f1]
      cases h : isE P.2.1 with
      | true => rw [if_pos (t2.mpr h)]; rfl
      | false => rw [if_neg (fun z => by rw [t2.mp z] at h; cases h)]; rfl
    have F : F158_0 2 (lI n) q = F158_31 2 (lI n) (nI 2) (bI (!isE P.2.1)) q := by
      unfold F158_0 F158_10
      rw [if_pos rfl, if_neg (by decide), ← sm]
      split <;> rfl
    have S : S158_0 2 (lI n) q := by
      unfold S158_0 S158_10
      refine ⟨fun _ => ⟨fun z => absurd z (by decide), fun _ => ⟨fun z => ?_, fun z => ?_⟩⟩, fun z => absurd rfl z⟩
      · rw [if_pos z] at sm; rw [← sm] at k2; exact k2
      · rw [if_neg z] at sm; rw [← sm] at k2; exact k2
    refine ⟨S, ?_, ?_⟩
    · show frF q (F158_0 2 (lI n) q)
      rw [F, k1]
      exact ⟨fun c j a b => by rw [w_get, if_neg b, w_ne a, w_ne a], rfl⟩
    · show fitAt (F158_0 2 (lI n) q) _
      rw [F, k1]
      refine ⟨?_, fun z => ?_, fun _ => ⟨?_, ?_⟩⟩
      · rw [w_eq, f1, ← or, ty1]; rfl
      · show (a_w _ 650 35 _).1 679 0 = _ ∧ (a_w _ 650 35 _).1 679 1 = _
        rw [w_ne (by decide), w_nk (by decide), w_nk (by decide), w_ne (by decide), w_nk (by decide), w_nk (by decide)]
        rw [e1] at z ⊢
        rw [show (joP P (eR, (loF n, hiF n), false, false)).1 = P.1 from jeN] at z ⊢
        exact f2 z
      · show (a_w _ 650 35 _).1 679 2 = _
        rw [w_ne (by decide), w_nk (by decide), w_eq]; rfl
      · show (a_w _ 650 35 _).1 679 3 = _
        rw [w_ne (by decide), w_eq]; rfl
  · have e1 : one (4, n) = (eR, eR, true, false) := rfl
    have ty1 : tyN (one (4, n)) = 4 := rfl
    have F : F158_0 4 (lI n) q = a_w q 650 35 (q.1 650 35 ||| 4) := by
      unfold F158_0 F158_10 F158_119
      rw [if_neg (by decide), if_pos rfl]
    have S : S158_0 4 (lI n) q := by
      unfold S158_0 S158_10 S158_119
      exact ⟨fun z => absurd z (by decide), fun _ => ⟨fun _ => trivial, fun z => absurd rfl z⟩⟩
    refine ⟨S, ?_, ?_⟩
    · show frF q (F158_0 4 (lI n) q)
      rw [F]
      exact ⟨fun c j a b => by rw [w_get, if_neg b], rfl⟩
    · show fitAt (F158_0 4 (lI n) q) _
      rw [F]
      refine ⟨?_, fun z => ?_, fun z => ?_⟩
      · rw [w_eq, f1, ← or, ty1]; rfl
      · show (a_w _ 650 35 _).1 679 0 = _ ∧ (a_w _ 650 35 _).1 679 1 = _
        rw [w_ne (by decide), w_ne (by decide)]
        rw [e1] at z ⊢
        rw [show (joP P (eR, eR, true, false)).1 = P.1 from jeN] at z ⊢
        exact f2 z
      · show (a_w _ 650 35 _).1 679 2 = _ ∧ (a_w _ 650 35 _).1 679 3 = _
        rw [w_ne (by decide), w_ne (by decide)]
        rw [e1] at z ⊢
        rw [show (joP P (eR, eR, true, false)).2.1 = P.2.1 from jeT] at z ⊢
        exact f3 z
end
