/-! Program.add, and the model's -/
def addB (q : aQ) (n : Nat) (k det e ar pt : Int32) : aQ := a_w (a_w (a_w (a_w (a_w (a_w (a_w (a_w (a_w q 8 7 (nI (n + 1))) 9 n k) 10 n det) 11 n e) 14 n (-1)) 15 (2 * n) (-1)) 15 (2 * n + 1) (-1)) 12 n ar) 13 n pt
def lw (q : aQ) (x : Option (Nat × Nat)) (n : Nat) : aQ := match x with
  | none => q
  | some (a, i) => a_w q a i (nI n)
def clk (q : aQ) (m : Nat) (o p : Nat → Nat) : Option (Nat × Nat) := if q.1 18 m = -1 then (if m = 0 then none else some (15, curB m o p)) else some (14, (q.1 18 m).toNatClampNeg)
def mlk (q : aQ) (m : Nat) (o p : Nat → Nat) : Nat × Nat := if q.1 18 m = -1 then (661, curB m o p) else (660, (q.1 18 m).toNatClampNeg)
def arI (m : Nat) (o : Nat → Nat) : Int32 := if m = 0 then -1 else nI (o (m - 1))
def ptI (m : Nat) (p : Nat → Nat) : Int32 := if m = 0 then 0 else nI (p (m - 1))
def addC (q : aQ) (n m : Nat) (o p : Nat → Nat) (k det e : Int32) : aQ := a_w (lw (addB q n k det e (arI m o) (ptI m p)) (clk q m o p) n) 18 m (nI n)
theorem nI_m1 {m : Nat} (h : ¬ m = 0) : nI m - 1 = nI (m - 1) := by
  obtain ⟨j, rfl⟩ : ∃ j, m = j + 1 := ⟨m - 1, by omega⟩
  exact nI_pred j
theorem nI_2 (n : Nat) : (2 : Int32) * nI n = nI (2 * n) := pk_mul 2 n
theorem nI_nm1 {t : Nat} (h : t < 1000) : ¬ nI t = (-1 : Int32) := fun z => by
  have h1 : ¬ nI t < 0 := nI_pos (by omega)
  rw [z] at h1
  exact h1 (by decide)
theorem add_class {q : aQ} {nE n m : Nat} {o p : Nat → Nat} (h : iP q nE n m o p) (hn : n < 24) (k det e : Int32) : F35_0 k det e q = (nI n, addC q n m o p k det e) ∧ S35_0 k det e q := by
  have hlat := h.lat
  have hcur := h.cur
  obtain ⟨h24, h5, c1, c2, c3, c4, hS, hO, t0, hl, hb, z0, z1⟩ := h
  have cn : (nI n).toNatClampNeg = n := nI_clamp (by omega)
  have cm : (nI m).toNatClampNeg = m := nI_clamp (by omega)
  have c2n : (nI (2 * n)).toNatClampNeg = 2 * n := nI_clamp (by omega)
  have c2n1 : (nI (2 * n + 1)).toNatClampNeg = 2 * n + 1 := nI_clamp (by omega)
  have vn : vp_in (nI n) 24 := vp_in_nI hn (by decide)
  have vm : vp_in (nI m) 6 := vp_in_nI (by omega) (by decide)
  have v2n : vp_in (nI (2 * n)) 48 := vp_in_nI (by omega) (by decide)
  have v2n1 : vp_in (nI (2 * n + 1)) 48 := vp_in_nI (by omega) (by decide)
  have h24' : nI n < (24 : Int32) := nI_lt (b := 24) hn (by decide)
  have hlk := hl (curB m o p) (by
    by_cases hm : m = 0
    · unfold curB; rw [if_pos hm]; decide
    · have := (hcur hm).1; omega)
  rw [← hlat] at hlk
  unfold F35_0 S35_0 F35_84 S35_84 F36_0 S36_0 F36_22 S36_22 F36_45 S36_45 F36_104 S36_104 addC clk lw addB arI ptI
  simp only [c1, nI_2, nI_1, cn, c2n, c2n1]
  by_cases hm : m = 0
  · subst hm
    have e0 : q.1 8 11 = 0 := c3
    rcases hlk with hx | ⟨t, ht, hx⟩
    · simp [w_get, e0, hx, h24', vn, v2n, v2n1, show vp_in (0 : Int32) 6 from vp_in_nI (n := 0) (by decide) (by decide), cn]
    · have hx1 := nI_nm1 (t := t) (by omega)
      have ct : (nI t).toNatClampNeg = t := nI_clamp (by omega)
      have vt : vp_in (nI t) 24 := vp_in_nI (by omega) (by decide)
      simp [w_get, e0, hx, hx1, ct, vt, h24', vn, v2n, v2n1, show vp_in (0 : Int32) 6 from vp_in_nI (n := 0) (by decide) (by decide), cn]
  · have hm1 := nI_m1 hm
    have cm1 : (nI (m - 1)).toNatClampNeg = m - 1 := nI_clamp (by omega)
    have vm1 : vp_in (nI (m - 1)) 5 := vp_in_nI (by omega) (by decide)
    have em : ¬ nI m ≤ (0 : Int32) := nI_nle (by omega) (by omega)
    have ho := hO (m - 1) (by omega)
    have ho1 := ho.1
    have ho2 := ho.2.1
    have ho3 := ho.2.2.1
    have ho4 := ho.2.2.2.1
    have hcb := (hcur hm).2
    have hcl := (hcur hm).1
    have ho5 := nI_nm1 (t := o (m - 1)) (by omega)
    have hB : nI (2 * o (m - 1)) + nI (p (m - 1)) = nI (curB m o p) := by rw [nI_add, hcb]
    have cB : (nI (curB m o p)).toNatClampNeg = curB m o p := nI_clamp (by omega)
    have vB : vp_in (nI (curB m o p)) 48 := vp_in_nI (by omega) (by decide)
    rcases hlk with hx | ⟨t, ht, hx⟩
    · simp [w_get, c3, em, hm, hm1, cm, cm1, vm, vm1, ho3, ho4, ho5, hx, h24', vn, v2n, v2n1, cn, nI_2, hB, cB, vB]
    · have hx1 := nI_nm1 (t := t) (by omega)
      have ct : (nI t).toNatClampNeg = t := nI_clamp (by omega)
      have vt : vp_in (nI t) 24 := vp_in_nI (by omega) (by decide)
      simp [w_get, c3, em, hm, hm1, cm, cm1, vm, vm1, ho3, ho4, ho5, hx, hx1, ct, vt, h24', vn, v2n, v2n1, cn]
