/-! one operation on two values: the class -/
def cap (r : Nat × Int) : Nat × Int := if r.1 ≠ 0 ∧ (r.2 < -1000000000 ∨ 1000000000 < r.2) then (9, 0) else r
/-- how the class writes what an expression came to -/
def cE (r : Nat × Int) : Int64 := if r.1 = 9 then pk 0 9 else pk r.1 r.2
theorem vOk.lt {t : Nat} {x : Int} (h : vOk t x) : t < 16 ∧ (-1000000000 ≤ x ∧ x ≤ 1000000000) ∧ (t = 1 ∨ t = 2 ∨ t = 4) := by
  rcases h with h | h | h <;> omega
theorem F126_eq {q : aQ} : F126_0 1 q = pk 1 1 ∧ F126_0 0 q = pk 1 0 := by
  constructor <;> (unfold F126_0 F126_10 F128_0; decide)
theorem cap_s {t : Nat} {x : Int} (h : -1000000000 ≤ x ∧ x ≤ 1000000000) : cap (t, x) = (t, x) := by unfold cap; rw [if_neg (by dsimp; omega)]
theorem cap_o {t : Nat} {x : Int} (h0 : t ≠ 0) (h : x < -1000000000 ∨ 1000000000 < x) : cap (t, x) = (9, 0) := by unfold cap; rw [if_pos ⟨h0, h⟩]
theorem cE_t {t : Nat} {x : Int} (h : ¬ t = 9) : cE (t, x) = pk t x := by unfold cE; rw [if_neg h]
theorem F125_eq {t : Nat} {r : Int} {q : aQ} (ht : t = 1 ∨ t = 2) (hr : -4000000000000000000 ≤ r ∧ r ≤ 4000000000000000000) : F125_0 (nI t) (lI r) q = cE (cap (t, r)) := by
  have er : (lI r).toInt = r := lI_t (by omega)
  have e1 : lg_cmp (lI r) (-1000000000) < 0 ↔ r < -1000000000 := by rw [lg_lt, er]; rfl
  have e2 : 0 < lg_cmp (lI r) 1000000000 ↔ 1000000000 < r := by rw [lg_gt, er]; rfl
  have over : F128_0 0 9 q = pk 0 9 := by unfold F128_0; decide
  have n10 : ¬ (1 : Int32) = 0 := by decide
  have a0 : t ≠ 0 := by omega
  have a9 : ¬ t = 9 := by omega
  unfold F125_0 F125_20 F125_21
  rw [over, F128_eq (by omega), er, if_pos rfl, if_neg n10]
  by_cases c1 : r < -1000000000
  · rw [if_pos (e1.mpr c1), cap_o a0 (Or.inl c1)]; rfl
  · rw [if_neg (fun z => c1 (e1.mp z))]
    by_cases c2 : 1000000000 < r
    · rw [if_pos (e2.mpr c2), cap_o a0 (Or.inr c2)]; rfl
    · rw [if_neg (fun z => c2 (e2.mp z)), cap_s (by omega), cE_t a9]
theorem S125_ok {a : Int32} {b : Int64} {q : aQ} : S125_0 a b q := by unfold S125_0 S125_20 S125_21 S128_0; simp
theorem S126_ok {a : Int32} {q : aQ} : S126_0 a q := by unfold S126_0 S126_10 S128_0; simp
theorem cE_1 {x : Int} : cE (1, x) = pk 1 x := rfl
theorem cE_0 {x : Int} : cE (0, x) = pk 0 x := rfl
theorem cap_0 {x : Int} : cap (0, x) = (0, x) := rfl
section
variable {o xt yt : Nat} {x y : Int} {q : aQ}
theorem F124_eq (ho : o ≤ 5) (hx : vOk xt x) (hy : vOk yt y) : F124_0 (nI o) (pk xt x) (pk yt y) q = cE (cap (wk o xt x yt y)) ∧ S124_0 (nI o) (pk xt x) (pk yt y) q := by
  have bx := hx.lt
  have bY := hy.lt
  have smx : sm x := by unfold sm; omega
  have smy : sm y := by unfold sm; omega
  have tx := F129_eq (t := xt) (x := x) (q := q) bx.1
  have ty := F129_eq (t := yt) (x := y) (q := q) bY.1
  have ax := F130_eq (t := xt) (x := x) (q := q) bx.1 (by omega)
  have ay := F130_eq (t := yt) (x := y) (q := q) bY.1 (by omega)
  have en : ∀ (a b : Nat), a < 16 → b < 16 → (nI a = nI b ↔ a = b) := fun a b ha hb => nI_eq (by omega) (by omega)
  have o0 : nI o = 0 ↔ o = 0 := en o 0 (by omega) (by decide)
  have o1 : nI o = 1 ↔ o = 1 := en o 1 (by omega) (by decide)
  have o2 : nI o = 2 ↔ o = 2 := en o 2 (by omega) (by decide)
  have o3 : nI o = 3 ↔ o = 3 := en o 3 (by omega) (by decide)
  have o4 : nI o = 4 ↔ o = 4 := en o 4 (by omega) (by decide)
  have o5 : nI o = 5 ↔ o = 5 := en o 5 (by omega) (by decide)
  have x1 : nI xt = 1 ↔ xt = 1 := en xt 1 bx.1 (by decide)
  have x2 : nI xt = 2 ↔ xt = 2 := en xt 2 bx.1 (by decide)
  have y1 : nI yt = 1 ↔ yt = 1 := en yt 1 bY.1 (by decide)
  have y2 : nI yt = 2 ↔ yt = 2 := en yt 2 bY.1 (by decide)
  have same : lg_cmp (pk xt x) (pk yt y) = 0 ↔ xt = yt ∧ x = y := by
    rw [lg_eq]
    exact pk_inj bx.1 bY.1 (by omega) (by omega)
  have lge : 0 ≤ lg_cmp (lI x) (lI y) ↔ ¬ x < y := by rw [lg_ge, sm_t smx, sm_t smy]; omega
  have ly0 : lg_cmp (lI y) 0 = 0 ↔ y = 0 := by
    rw [lg_eq]
    exact ⟨fun h => lI_inj (y := 0) (by omega) (by omega) h, fun h => by subst h; rfl⟩
  have t1 : F126_0 1 q = pk 1 1 := F126_eq.1
  have t0 : F126_0 0 q = pk 1 0 := F126_eq.2
  have f1 : F128_0 0 1 q = pk 0 1 := by unfold F128_0; decide
  have f3 : F128_0 0 3 q = pk 0 3 := by unfold F128_0; decide
  have n10 : ¬ (1 : Int32) = 0 := by decide
  have mb : -1000000000000000000 ≤ x * y ∧ x * y ≤ 1000000000000000000 := by
    have h1 : x.natAbs * y.natAbs ≤ 1000000000 * 1000000000 := Nat.mul_le_mul (by omega) (by omega)
    rw [← Int.natAbs_mul] at h1
    omega
  constructor
  · unfold F124_0 F124_16 F124_40 F124_41 F124_63 F124_64 F124_75 F124_80 F124_97 F124_103 F124_223
    simp only [tx, ty, ax, ay, o0, o1, o2, o3, o4, o5, x1, x2, y1, y2, same, lge, ly0, t1, t0, f1, f3, n10, lI_add, lI_sub, lI_mul]
    have h6 : o = 0 ∨ o = 1 ∨ o = 2 ∨ o = 3 ∨ o = 4 ∨ o = 5 := by omega
    have p1 : F125_0 1 (lI (x - y)) q = cE (cap (1, x - y)) := F125_eq (t := 1) (Or.inl rfl) (by omega)
    have p2 : F125_0 1 (lI (x * y)) q = cE (cap (1, x * y)) := F125_eq (t := 1) (Or.inl rfl) (by omega)
    have p3 : ¬ y = 0 → F125_0 1 (F189_0 (lI x) (lI y) q) q = cE (cap (1, x.fdiv y)) := by
      intro h0
      rw [(F189_eq smx smy h0).1]
      have := fd_sm (x := x) (y := y) (by omega) h0
      unfold sm at this
      exact F125_eq (t := 1) (Or.inl rfl) (by omega)
    have p0 : (xt = 1 ∨ xt = 2) → F125_0 (nI xt) (lI (x + y)) q = cE (cap (xt, x + y)) := fun h => F125_eq h (by omega)
    have c1 : cE (cap (1, 1)) = pk 1 1 := rfl
    have c0 : cE (cap (1, 0)) = pk 1 0 := rfl
    have d1 : cE (cap (0, 1)) = pk 0 1 := rfl
    have d3 : cE (cap (0, 3)) = pk 0 3 := rfl
    have s4 : xt = 4 → x = 0 := by rcases hx with h | h | h <;> omega
    have r4 : yt = 4 → y = 0 := by rcases hy with h | h | h <;> omega
    unfold wk
    have hxc := bx.2.2
    have hyc := bY.2.2
    rcases h6 with rfl | rfl | rfl | rfl | rfl | rfl
    · rcases hxc with rfl | rfl | rfl <;> rcases hyc with rfl | rfl | rfl <;> simp [p0, d1]
    · rcases hxc with rfl | rfl | rfl <;> rcases hyc with rfl | rfl | rfl <;> simp [p1, d1]
    · rcases hxc with rfl | rfl | rfl <;> rcases hyc with rfl | rfl | rfl <;> simp [p2, d1]
    · rcases hxc with rfl | rfl | rfl <;> rcases hyc with rfl | rfl | rfl <;> simp [d1] <;> (by_cases h0 : y = 0 <;> simp [h0, d3, p3])
    · rcases hxc with rfl | rfl | rfl <;> rcases hyc with rfl | rfl | rfl <;> simp [d1] <;> (by_cases hl : x < y <;> simp [hl, c1, c0] <;> omega)
    · by_cases e1 : xt = yt
      · by_cases e2 : x = y
        · simp [e1, e2, c1]
        · have : ¬ xt = 4 := fun z => e2 (by rw [s4 z, r4 (e1 ▸ z)])
          have t4 : ¬ yt = 4 := fun z => this (e1.trans z)
          simp [e1, e2, c0, t4]
      · simp [e1, c0]
  · unfold S124_0 S124_16 S124_40 S124_41 S124_63 S124_64 S124_75 S124_80 S124_97 S124_103 S124_223
    simp only [tx, ty, ax, ay, ly0]
    have D : ¬ y = 0 → S189_0 (lI x) (lI y) q := fun h0 => (F189_eq smx smy h0).2
    have a1 : ∀ a b, S125_0 a b q := fun _ _ => S125_ok
    have a2 : ∀ a, S126_0 a q := fun _ => S126_ok
    unfold S128_0 S129_0 S130_0
    simp [a1, a2]
    exact fun _ => ⟨fun _ => ⟨fun _ => ⟨fun _ _ _ _ _ => D, fun _ _ _ _ => D⟩, fun _ _ _ => ⟨fun _ _ _ _ _ => D, fun _ _ _ _ _ _ => D⟩⟩, fun _ _ _ => ⟨fun _ _ _ _ _ => D, fun _ _ _ _ _ _ => D⟩⟩
theorem F127_eq (hx : vOk xt x) : F127_0 (pk xt x) q = (if isT xt x then 1 else 0) ∧ S127_0 (pk xt x) q := by
  have bx := hx.lt
  have tx := F129_eq (t := xt) (x := x) (q := q) bx.1
  have ax := F130_eq (t := xt) (x := x) (q := q) bx.1 (by omega)
  have e0 : lg_cmp (lI x) 0 = 0 ↔ x = 0 := by
    rw [lg_eq]
    exact ⟨fun h => lI_inj (y := 0) (by omega) (by omega) h, fun h => by subst h; rfl⟩
  constructor
  · unfold F127_0 isT
    rw [tx, ax]
    have x4 : nI xt = 4 ↔ xt = 4 := nI_eq (b := 4) (by omega) (by decide)
    by_cases h0 : x = 0
    · rw [if_pos (e0.mpr h0)]; simp [h0]
    · rw [if_neg (fun z => h0 (e0.mp z))]
      rcases hx with h | h | h
      · rw [if_neg (fun z => by have := x4.mp z; omega)]; simp [h.1, h0]
      · rw [if_neg (fun z => by have := x4.mp z; omega)]; simp [h.1, h0]
      · exact absurd h.2 h0
  · unfold S127_0 S129_0 S130_0
    simp
theorem F123_eq (ho : o = 6 ∨ o = 7) (hx : vOk xt x) : F123_0 (nI o) (pk xt x) q = cE (cap (wk o xt x 4 0)) ∧ S123_0 (nI o) (pk xt x) q := by
  have bx := hx.lt
  have tx := F129_eq (t := xt) (x := x) (q := q) bx.1
  have ax := F130_eq (t := xt) (x := x) (q := q) bx.1 (by omega)
  have T := F127_eq (q := q) hx
  have t1 : F126_0 1 q = pk 1 1 := F126_eq.1
  have t0 : F126_0 0 q = pk 1 0 := F126_eq.2
  have f1 : F128_0 0 1 q = pk 0 1 := by unfold F128_0; decide
  have c1 : cE (cap (1, 1)) = pk 1 1 := rfl
  have c0 : cE (cap (1, 0)) = pk 1 0 := rfl
  have d1 : cE (cap (0, 1)) = pk 0 1 := rfl
  have smx : sm x := by unfold sm; omega
  have fx : F128_0 1 (lI x) q = pk 1 x := by
    have := F128_eq (t := 1) (y := lI x) (q := q) (by decide)
    rw [sm_t smx] at this
    exact this
  constructor
  · unfold F123_0 F123_18
    rw [tx, ax, T.1, t1, t0, f1, fx]
    have x2 : nI xt = 2 ↔ xt = 2 := nI_eq (b := 2) (by omega) (by decide)
    unfold wk
    rcases ho with rfl | rfl
    · rw [if_pos (by decide)]
      by_cases h : isT xt x = true <;> simp [h, c0, c1]
    · rw [if_neg (by decide)]
      by_cases h : xt = 2
      · simp [h, x2]
        rw [cap_s (by omega)]
        rfl
      · simp [h, x2, d1]
  · unfold S123_0 S123_18
    have a2 : ∀ a, S126_0 a q := fun _ => S126_ok
    have T2 := T.2
    unfold S128_0 S129_0 S130_0
    simp [a2, T2]
end
