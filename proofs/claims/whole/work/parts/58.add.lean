def addM0 (q : aQ) (n m B : Nat) (o : Nat → Nat) (k det e : Int32) : aQ := a_w (a_w (a_w (a_w (a_w (a_w q 655 n k) 656 n det) 657 n e) 659 n (nI B)) 658 n (arI m o)) 660 n (-1)
def addM1 (q : aQ) (n m B : Nat) (o : Nat → Nat) (k det e : Int32) : aQ := a_w (a_w (if q.1 662 B = -1 then a_w (addM0 q n m B o k det e) 661 B (nI n) else a_w (addM0 q n m B o k det e) 660 (q.1 662 B).toNatClampNeg (nI n)) 662 B (nI n)) 650 5 (nI (n + 1))
def addM (q : aQ) (n m B : Nat) (o : Nat → Nat) (k det e : Int32) (op : Bool) : aQ := if op then a_w (a_w (addM1 q n m B o k det e) 663 m (nI (2 * n))) 650 14 (nI (m + 1)) else addM1 q n m B o k det e
theorem i_div2 {a b : Nat} (hb : b < 2) (ha : a < 1000) : nI (2 * a + b) / 2 = nI a := by
  rw [show (2 : Int32) = nI 2 from rfl, pk_div (by omega) (by decide) (by decide)]
  congr 1
  omega
theorem add_model {q : aQ} {n m B : Nat} {o p : Nat → Nat} {k det e : Int32} {op : Bool} (hn : n < 24) (hm5 : m ≤ 5) (c2 : q.1 650 5 = nI n) (c4 : q.1 650 14 = nI m) (hB : B = curB m o p) (h48 : B < 49) (hlk : lk (q.1 662 B) n) (hop : ¬ m = 0 → q.1 663 (m - 1) = nI B ∧ p (m - 1) < 2 ∧ o (m - 1) < n) (hk : (op = true ↔ ¬ k < 4)) : F136_0 k det e q = (nI n, addM q n m B o k det e op) ∧ S136_0 k det e q := by
  have cn : (nI n).toNatClampNeg = n := nI_clamp (by omega)
  have cm : (nI m).toNatClampNeg = m := nI_clamp (by omega)
  have cB : (nI B).toNatClampNeg = B := nI_clamp (by omega)
  have vn : vp_in (nI n) 24 := vp_in_nI hn (by decide)
  have vm : vp_in (nI m) 6 := vp_in_nI (by omega) (by decide)
  have vB : vp_in (nI B) 49 := vp_in_nI (by omega) (by decide)
  have par : (if nI B = (48 : Int32) then (-1 : Int32) else nI B / 2) = arI m o := by
    unfold arI
    by_cases hm : m = 0
    · have : B = 48 := by rw [hB]; unfold curB; rw [if_pos hm]
      rw [if_pos hm, this, if_pos (by decide)]
    · rw [if_neg hm]
      obtain ⟨-, g2, g3⟩ := hop hm
      have e : B = 2 * o (m - 1) + p (m - 1) := by rw [hB]; unfold curB; rw [if_neg hm]
      rw [if_neg (fun z => by have := nI_inj (b := 48) (by omega) (by decide) z; omega), e, i_div2 g2 (by omega)]
  -- from the block on
  have body : F136_29 k det e (nI n) (nI B) q = (nI n, addM q n m B o k det e op) ∧ S136_29 k det e (nI n) (nI B) q := by
    have key : ∀ s0, s0 = arI m o → F136_85 k (nI n) (nI B) s0 (nI n) (a_w (a_w (a_w (a_w q 655 n k) 656 n det) 657 n e) 659 n (nI B)) = (nI n, addM q n m B o k det e op) ∧ S136_85 k (nI n) (nI B) s0 (nI n) (a_w (a_w (a_w (a_w q 655 n k) 656 n det) 657 n e) 659 n (nI B)) := by
      intro s0 hs0
      subst hs0
      unfold F136_85 S136_85 F136_130 S136_130 addM addM1 addM0
      rcases hlk with hx | ⟨t, ht, hx⟩
      · by_cases h4 : k < 4
        · have ho : op = false := by cases op with
            | false => rfl
            | true => exact absurd h4 (hk.mp rfl)
          simp [w_get, hx, cn, cB, vn, vB, h4, ho, c2, nI_1, show (-1 : Int32) < 0 from by decide]
        · have ho : op = true := hk.mpr h4
          simp [w_get, hx, cn, cB, cm, vn, vB, vm, h4, ho, c2, c4, nI_1, nI_2, show (-1 : Int32) < 0 from by decide]
      · have hx1 := nI_nm1 (t := t) (by omega)
        have hx0 : ¬ nI t < 0 := nI_pos (by omega)
        have ct : (nI t).toNatClampNeg = t := nI_clamp (by omega)
        have vt : vp_in (nI t) 24 := vp_in_nI (by omega) (by decide)
        by_cases h4 : k < 4
        · have ho : op = false := by cases op with
            | false => rfl
            | true => exact absurd h4 (hk.mp rfl)
          simp [w_get, hx, hx0, hx1, ct, vt, cn, cB, vn, vB, h4, ho, c2, nI_1]
        · have ho : op = true := hk.mpr h4
          simp [w_get, hx, hx0, hx1, ct, vt, cn, cB, cm, vn, vB, vm, h4, ho, c2, c4, nI_1, nI_2]
    unfold F136_29 S136_29
    simp only [cn]
    by_cases h48' : nI B = (48 : Int32)
    · rw [if_pos h48'] at par
      have kk := key (-1) par
      rw [if_pos h48']
      exact ⟨kk.1, vn, vn, vn, vn, fun _ => kk.2, fun z => absurd h48' z⟩
    · rw [if_neg h48'] at par
      have kk := key (nI B / 2) par
      rw [if_neg h48']
      exact ⟨kk.1, vn, vn, vn, vn, fun z => absurd z h48', fun _ => kk.2⟩
  unfold F136_0 S136_0
  rw [c2, c4]
  by_cases hm : m = 0
  · have e0 : nI m = (0 : Int32) := by rw [hm]; rfl
    have e48 : nI B = (48 : Int32) := by
      have : B = 48 := by rw [hB]; unfold curB; rw [if_pos hm]
      rw [this]; rfl
    rw [if_pos e0, ← e48]
    exact ⟨body.1, fun _ => body.2, fun z => absurd e0 z⟩
  · have e0 : ¬ nI m = (0 : Int32) := nI_ne0 (by omega) (by omega)
    have cm1 : (nI (m - 1)).toNatClampNeg = m - 1 := nI_clamp (by omega)
    rw [if_neg e0, nI_m1 hm, cm1, (hop hm).1]
    exact ⟨body.1, fun z => absurd z e0, fun _ => ⟨vp_in_nI (by omega) (by decide), body.2⟩⟩
