/-! one operation on two values: both sides -/
def isT (t : Nat) (x : Int) : Bool := (t == 1 || t == 2) && !(x == 0)
/-- what an operation gives: (type, amount), or (0, kind of error) -/
def wk (o xt : Nat) (x : Int) (yt : Nat) (y : Int) : Nat × Int :=
  if o = 0 ∧ (xt = 1 ∧ yt = 1 ∨ xt = 2 ∧ yt = 2) then (xt, x + y)
  else if o = 1 ∧ (xt = 1 ∧ yt = 1) then (1, x - y)
  else if o = 2 ∧ (xt = 1 ∧ yt = 1) then (1, x * y)
  else if o = 3 ∧ (xt = 1 ∧ yt = 1) then (if y = 0 then (0, 3) else (1, x.fdiv y))
  else if o = 4 ∧ (xt = 1 ∧ yt = 1 ∨ xt = 2 ∧ yt = 2) then (1, if x < y then 1 else 0)
  else if o = 5 then (1, if xt = yt ∧ (xt = 4 ∨ x = y) then 1 else 0)
  else if o = 6 then (1, if isT xt x then 0 else 1)
  else if o = 7 ∧ xt = 2 then (1, x)
  else (0, 1)
theorem F152_2 {a c : Int32} {b d : Int64} {q : aQ} : F152_0 a b (F152_0 c d q) = F152_0 a b q := by
  unfold F152_0
  refine Prod.ext ?_ ?_
  · funext x j
    show (a_w (a_wl (a_w q 650 37 c) 650 38 d) 650 37 a).1 x j = (a_w q 650 37 a).1 x j
    rw [w_get, w_get]
    by_cases h : x = 650 ∧ j = 37
    · rw [if_pos h, if_pos h]
    · rw [if_neg h, if_neg h]
      show (a_w q 650 37 c).1 x j = _
      rw [w_get, if_neg h]
  · funext x j
    rw [wl_get, wl_get]
    by_cases h : x = 650 ∧ j = 38
    · rw [if_pos h, if_pos h]
    · rw [if_neg h, if_neg h]
      show (a_wl (a_w q 650 37 c) 650 38 d).2 x j = _
      rw [wl_get, if_neg h]
      rfl
theorem F151_eq {t : Nat} {x : Int} {q : aQ} (ht : t < 16) (hx : sm x) : F151_0 (nI t) (lI x) q = (if isT t x then 1 else 0) ∧ S151_0 (nI t) (lI x) q := by
  have e : lg_cmp (lI x) 0 = 0 ↔ x = 0 := by
    rw [lg_eq]
    constructor
    · intro h; have := congrArg Int64.toInt h; rw [sm_t hx] at this; exact this
    · intro h; subst h; rfl
  refine ⟨?_, by unfold S151_0 S151_10; simp⟩
  unfold F151_0 F151_10 isT
  have e1 : nI t = 1 ↔ t = 1 := nI_eq (b := 1) (by omega) (by decide)
  have e2 : nI t = 2 ↔ t = 2 := nI_eq (b := 2) (by omega) (by decide)
  by_cases h0 : x = 0
  · rw [if_pos (e.mpr h0)]; subst h0; simp
  · rw [if_neg (fun z => h0 (e.mp z))]
    by_cases h1 : t = 1
    · rw [if_pos (e1.mpr h1)]; simp [h1, h0]
    · rw [if_neg (fun z => h1 (e1.mp z))]
      by_cases h2 : t = 2
      · rw [if_pos (e2.mpr h2)]; simp [h2, h0]
      · rw [if_neg (fun z => h2 (e2.mp z))]; simp [h1, h2]
section
variable {o xt yt : Nat} {x y : Int} {q : aQ}
theorem F154_eq (ho : o ≤ 7) (hxt : xt < 16) (hyt : yt < 16) (hx : sm x) (hy : sm y) : F154_0 (nI o) (nI xt) (lI x) (nI yt) (lI y) q = F152_0 (nI (wk o xt x yt y).1) (lI (wk o xt x yt y).2) q ∧ S154_0 (nI o) (nI xt) (lI x) (nI yt) (lI y) q := by
  have en : ∀ (a b : Nat), a < 16 → b < 16 → (nI a = nI b ↔ a = b) := fun a b ha hb => nI_eq (by omega) (by omega)
  have o0 : nI o = 0 ↔ o = 0 := en o 0 (by omega) (by decide)
  have o1 : nI o = 1 ↔ o = 1 := en o 1 (by omega) (by decide)
  have o2 : nI o = 2 ↔ o = 2 := en o 2 (by omega) (by decide)
  have o3 : nI o = 3 ↔ o = 3 := en o 3 (by omega) (by decide)
  have o4 : nI o = 4 ↔ o = 4 := en o 4 (by omega) (by decide)
  have o5 : nI o = 5 ↔ o = 5 := en o 5 (by omega) (by decide)
  have o6 : nI o = 6 ↔ o = 6 := en o 6 (by omega) (by decide)
  have o7 : nI o = 7 ↔ o = 7 := en o 7 (by omega) (by decide)
  have x1 : nI xt = 1 ↔ xt = 1 := en xt 1 hxt (by decide)
  have x2 : nI xt = 2 ↔ xt = 2 := en xt 2 hxt (by decide)
  have x4 : nI xt = 4 ↔ xt = 4 := en xt 4 hxt (by decide)
  have y1 : nI yt = 1 ↔ yt = 1 := en yt 1 hyt (by decide)
  have y2 : nI yt = 2 ↔ yt = 2 := en yt 2 hyt (by decide)
  have xy : nI xt = nI yt ↔ xt = yt := en xt yt hxt hyt
  have lxy : lg_cmp (lI x) (lI y) = 0 ↔ x = y := by
    rw [lg_eq]
    unfold sm at hx hy
    exact ⟨fun h => lI_inj (by omega) (by omega) h, fun h => by rw [h]⟩
  have lge : 0 ≤ lg_cmp (lI x) (lI y) ↔ ¬ x < y := by rw [lg_ge, sm_t hx, sm_t hy]; omega
  have ly0 : lg_cmp (lI y) 0 = 0 ↔ y = 0 := by
    rw [lg_eq]
    unfold sm at hy
    exact ⟨fun h => lI_inj (y := 0) (by omega) (by omega) h, fun h => by subst h; rfl⟩
  have T := F151_eq (q := F152_0 0 1 q) hxt hx
  have n10 : ¬ (1 : Int32) = 0 := by decide
  constructor
  · unfold F154_0 F154_15 F154_16 F154_33 F154_34 F154_42 F154_56 F154_65 F154_68 F154_87 F154_90 F154_109 F154_112 F154_135 F154_154 F154_157 F154_160 F154_175 F154_189 F154_192 F154_195 F154_220 F154_224 F154_225 F154_228 F154_252 F154_255
    simp only [F152_2, o0, o1, o2, o3, o4, o5, o6, o7, x1, x2, x4, y1, y2, xy, lxy, lge, ly0, T.1, lI_add, lI_sub, lI_mul, n10]
    unfold wk
    have D : ¬ y = 0 → F153_0 (lI x) (lI y) (F152_0 0 1 q) = lI (x.fdiv y) := fun h0 => (F153_eq hx hy h0).1
    have k1 : nI 1 = 1 := rfl
    have k0 : nI 0 = 0 := rfl
    have j0 : lI 0 = 0 := rfl
    have j1 : lI 1 = 1 := rfl
    have j3 : lI 3 = 3 := rfl
    have ite2 : ∀ (b : Prop) [Decidable b], lI (if b then 1 else 0) = if b then 1 else 0 := fun b _ => by split <;> rfl
    have ite3 : ∀ (b : Prop) [Decidable b], lI (if b then 0 else 1) = if b then 0 else 1 := fun b _ => by split <;> rfl
    have h8 : o = 0 ∨ o = 1 ∨ o = 2 ∨ o = 3 ∨ o = 4 ∨ o = 5 ∨ o = 6 ∨ o = 7 := by omega
    by_cases hx1 : xt = 1 <;> by_cases hx2 : xt = 2 <;> by_cases hy1 : yt = 1 <;> by_cases hy2 : yt = 2 <;> first
      | omega
      | (rcases h8 with rfl | rfl | rfl | rfl | rfl | rfl | rfl | rfl <;> simp [hx1, hx2, hy1, hy2, k1, k0, j0, j1, ite2, ite3] <;> first
          | done
          | (by_cases hy0 : y = 0 <;> simp [hy0, D, k1, k0, j3] <;> done)
          | (by_cases hlt : x < y <;> simp [hlt, Int.not_lt.mp, j0, j1] <;> omega)
          | (by_cases hT : isT 1 x = true <;> simp [hT, j0, j1] <;> done)
          | (by_cases hT : isT 2 x = true <;> simp [hT, j0, j1] <;> done)
          | (by_cases hT : isT xt x = true <;> simp [hT, j0, j1] <;> done)
          | (by_cases hq : x = y <;> simp [hq, j0, j1] <;> done)
          | (by_cases hq : xt = yt <;> by_cases h4 : xt = 4 <;> by_cases hq2 : x = y <;> simp [hq, h4, hq2, j0, j1] <;> simp_all [j0, j1] <;> done))
  · unfold S154_0 S154_15 S154_16 S154_33 S154_34 S154_42 S154_56 S154_65 S154_68 S154_87 S154_90 S154_109 S154_112 S154_135 S154_154 S154_157 S154_160 S154_175 S154_189 S154_192 S154_195 S154_220 S154_224 S154_225 S154_228 S154_252 S154_255
    simp only [o0, o1, o2, o3, o4, o5, o6, o7, x1, x2, x4, y1, y2, xy, lxy, lge, ly0, n10]
    have D : ¬ y = 0 → S153_0 (lI x) (lI y) (F152_0 0 1 q) := fun h0 => (F153_eq hx hy h0).2
    have T2 := T.2
    unfold S152_0
    have h8 : o = 0 ∨ o = 1 ∨ o = 2 ∨ o = 3 ∨ o = 4 ∨ o = 5 ∨ o = 6 ∨ o = 7 := by omega
    rcases h8 with rfl | rfl | rfl | rfl | rfl | rfl | rfl | rfl <;> simp [T2] <;> exact fun _ _ => ⟨fun z w => absurd z w, D⟩
end
