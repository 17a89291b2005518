/-! narrowing a state by a condition -/
def vN (q : aQ) (k : Nat) : Option Nat := if q.1 2 k = -1 ∧ q.1 3 k = 3 then some (q.1 4 k).toNatClampNeg else none
/-- the variable of which a condition tells something -/
def nv (q : aQ) (e : Nat) : Option Nat := if q.1 2 e = 4 ∨ q.1 2 e = 5 then vN q (lft q e) else vN q e
def upS (x : Nat → Pc) (v : Nat) (p : Pc) : Nat → Pc := fun u => if u = v then p else x u
/-- the values of v for which the condition e, with pictures by z, is t -/
def nrP (q : aQ) (e : Nat) (t : Bool) (p : Pc) (z : Nat → Pc) : Pc := if q.1 2 e = 4 then hul (narO 4 t (vals p) (vals (PE q z (rgt q e)).1)) else if q.1 2 e = 5 then hul (narO 5 t (vals p) (vals (PE q z (rgt q e)).1)) else hul (narT t (vals p))
def nr2 (q : aQ) (e : Nat) (t : Bool) (x z : Nat → Pc) : Nat → Pc := match nv q e with
  | none => x
  | some v => upS x v (nrP q e t (x v) z)
theorem vN_lt {q : aQ} {nE k v : Nat} (hE : iE q nE) (hk : k < nE) (h : vN q k = some v) : v < 5 ∧ q.1 4 k = nI v ∧ q.1 2 k = -1 ∧ q.1 3 k = 3 := by
  unfold vN at h
  split at h
  · rename_i c
    injection h with h
    obtain ⟨hl, -⟩ := leaf_of hE hk c.1
    rcases hl with ⟨a, -⟩ | ⟨a, -⟩ | a | ⟨a, u, b, e⟩ | a
    · rw [a] at c; exact absurd c.2 (by decide)
    · rw [a] at c; exact absurd c.2 (by decide)
    · rw [a] at c; exact absurd c.2 (by decide)
    · rw [e, nI_clamp (by omega)] at h
      subst h
      exact ⟨b, e, c⟩
    · rw [a] at c; exact absurd c.2 (by decide)
  · cases h
theorem op45 {q : aQ} {e : Nat} (h : q.1 2 e = 4 ∨ q.1 2 e = 5) : ¬ q.1 2 e = -1 ∧ opn q e ≤ 5 ∧ (q.1 2 e = 4 → opn q e = 4) ∧ (q.1 2 e = 5 → opn q e = 5) := by
  unfold opn
  rcases h with h | h <;> rw [h] <;> decide
theorem nv_lt {q : aQ} {nE e v : Nat} (hE : iE q nE) (he : e < nE) (h : nv q e = some v) : v < 5 := by
  unfold nv at h
  split at h
  · rename_i c
    obtain ⟨w, wa, o1, o2, -⟩ := op_of hE he (op45 c).1
    exact (vN_lt hE (by omega) h).1
  · exact (vN_lt hE he h).1
def onI : Option Nat → Int32
  | none => -1
  | some v => nI v
section
variable {q Q : aQ} {nE e : Nat} {x z : Nat → Pc} {t : Bool}
theorem F30_v {k : Nat} (hE : iE q nE) (hk : k < nE) (ex : ∀ c j, 1 ≤ c ∧ c ≤ 7 → Q.1 c j = q.1 c j) : F30_40 (nI k) Q = onI (vN q k) ∧ S30_40 (nI k) Q := by
  have h60 := hE.1
  have ck : (nI k).toNatClampNeg = k := nI_clamp (by omega)
  have vk : vp_in (nI k) 60 := vp_in_nI (by omega) (by decide)
  have n10 : ¬ (1 : Int32) = 0 := by decide
  refine ⟨?_, ?_⟩
  · cases hv : vN q k with
    | none =>
      unfold vN at hv
      unfold F30_40 F30_65 F30_66
      rw [ck, ex 2 k (by omega), ex 3 k (by omega), if_neg n10, if_pos rfl]
      split at hv
      · cases hv
      · rename_i c
        by_cases c1 : q.1 2 k = -1
        · rw [if_pos c1, if_neg (fun w => c ⟨c1, w⟩)]; rfl
        · rw [if_neg c1]; rfl
    | some v =>
      obtain ⟨a1, a2, a3, a4⟩ := vN_lt hE hk hv
      unfold F30_40 F30_65 F30_66
      rw [ck, ex 2 k (by omega), ex 3 k (by omega), ex 4 k (by omega), if_pos a3, if_pos a4, if_neg n10, a2]; rfl
  · unfold S30_40 S30_65 S30_66
    exact ⟨vk, fun _ => ⟨vk, fun _ => ⟨fun _ => trivial, fun _ => ⟨vk, trivial⟩⟩, fun _ => ⟨fun _ => trivial, fun _ => ⟨vk, trivial⟩⟩⟩, fun _ => ⟨fun _ => trivial, fun _ => ⟨vk, trivial⟩⟩⟩
theorem F30_eq (hE : iE q nE) (he : e < nE) (ex : ∀ c j, 1 ≤ c ∧ c ≤ 7 → Q.1 c j = q.1 c j) : F30_0 (nI e) Q = onI (nv q e) ∧ S30_0 (nI e) Q := by
  have h60 := hE.1
  have ce : (nI e).toNatClampNeg = e := nI_clamp (by omega)
  have ve : vp_in (nI e) 60 := vp_in_nI (by omega) (by decide)
  have n10 : ¬ (1 : Int32) = 0 := by decide
  have r2 := ex 2 e (by omega)
  have r5 := ex 5 e (by omega)
  unfold F30_0 S30_0 F30_20 S30_20 F30_25 S30_25 nv
  rw [ce, r2, r5]
  by_cases c : q.1 2 e = 4 ∨ q.1 2 e = 5
  · obtain ⟨w, wa, o1, o2, o3, o4, o5, o6, -⟩ := op_of hE he (op45 c).1
    obtain ⟨f1, f2⟩ := F30_v (k := lft q e) hE (by omega) ex
    rw [if_pos c, o6, if_neg n10, f1]
    refine ⟨?_, ve, fun _ => ⟨fun z => absurd z n10, fun _ => ⟨ve, f2⟩⟩, fun c4 => ⟨ve, fun _ => ⟨fun z => absurd z n10, fun _ => ⟨ve, f2⟩⟩, fun c5 => absurd (c.resolve_left c4) c5⟩⟩
    by_cases c4 : q.1 2 e = 4
    · rw [if_pos c4]
    · rw [if_neg c4, if_pos (c.resolve_left c4)]
  · obtain ⟨f1, f2⟩ := F30_v (k := e) hE he ex
    rw [if_neg c, if_neg (fun w => c (Or.inl w)), if_neg (fun w => c (Or.inr w)), if_pos rfl, f1]
    exact ⟨rfl, ve, fun w => absurd (Or.inl w) c, fun _ => ⟨ve, fun w => absurd (Or.inr w) c, fun _ => ⟨fun _ => f2, fun w => absurd rfl w⟩⟩⟩
theorem narO_ok {o : Nat} {p s : Pc} : okP (hul (narO o t (vals p) (vals s))) := hul_ok _ (fun v hv h2 => vals_2 (mem_narO.mp hv).1 h2)
theorem narT_ok {p : Pc} : okP (hul (narT t (vals p))) := hul_ok _ (fun v hv h2 => vals_2 (mem_narT.mp hv).1 h2)
theorem nrP_ok {p : Pc} : okP (nrP q e t p z) := by
  unfold nrP
  split
  · exact narO_ok
  split
  · exact narO_ok
  · exact narT_ok
theorem F109_eq (hE : iE q nE) (he : e < nE) (hz : stOk z) (ex : ∀ c j, 1 ≤ c ∧ c ≤ 7 → Q.1 c j = q.1 c j) (hs : stAt Q 21 x) (hr : q.1 2 e = 4 ∨ q.1 2 e = 5 → pcAt Q (42 + 3 * rgt q e) (PE q z (rgt q e)).1 ∧ hasV (PE q z (rgt q e)).1 = true) : S109_0 21 (nI e) (bI t) Q ∧ updS Q (F109_0 21 (nI e) (bI t) Q) 21 (nr2 q e t x z) := by
  have h60 := hE.1
  have ce : (nI e).toNatClampNeg = e := nI_clamp (by omega)
  have ve : vp_in (nI e) 60 := vp_in_nI (by omega) (by decide)
  obtain ⟨f1, f2⟩ := F30_eq hE he ex
  unfold S109_0 F109_0 nr2
  rw [f1]
  cases hn : nv q e with
  | none =>
    rw [show onI none = -1 from rfl, if_pos rfl]
    exact ⟨⟨f2, fun _ => trivial, fun w => absurd rfl w⟩, hs, fun _ _ _ => rfl, rfl⟩
  | some v =>
    dsimp only
    have v5 := nv_lt hE he hn
    have cv : (nI v).toNatClampNeg = v := nI_clamp (by omega)
    have vv : vp_in (nI v) 5 := vp_in_nI v5 (by decide)
    have nm : ¬ nI v = (-1 : Int32) := nI_nm1 (by omega)
    obtain ⟨hp, hok⟩ := hs v v5
    have hp' : pcAt Q (21 + 2 + 3 * v) ((x v).1, (x v).2.1, (x v).2.2.1, (x v).2.2.2) := hp
    have u0 : updP Q (a_w Q (21 + 2 + 3 * v) 3 0) (21 + 2 + 3 * v) (strU (x v)) := updP_u (b' := false) hp'
    have r2 : (a_w Q (21 + 2 + 3 * v) 3 0).1 2 e = q.1 2 e := by rw [w_ne (by omega)]; exact ex 2 e (by omega)
    have r6 : (a_w Q (21 + 2 + 3 * v) 3 0).1 6 e = q.1 6 e := by rw [w_ne (by omega)]; exact ex 6 e (by omega)
    -- when the variable's picture is right, the state is
    have fin : ∀ Q' P, updP Q Q' (21 + 2 + 3 * v) P → okP P → updS Q Q' 21 (upS x v P) := by
      intro Q' P u hP
      refine ⟨fun w hw => ?_, fun c j n => u.2.1 c j (by omega), u.2.2⟩
      unfold upS
      by_cases e : w = v
      · subst e; rw [if_pos rfl]; exact ⟨u.1, hP⟩
      · rw [if_neg e]
        exact ⟨(hs w hw).1.fr (fun c j z => u.2.1 c j (by omega)), (hs w hw).2⟩
    rw [show onI (some v) = nI v from rfl, if_neg nm, cv, ce, r2, r6]
    unfold nrP
    by_cases c4 : q.1 2 e = 4
    · obtain ⟨w, wa, o1, o2, o3, o4, o5, o6, o7, o8, -⟩ := op_of hE he (op45 (Or.inl c4)).1
      have p8 := (o8 (op45 (Or.inl c4)).2.1).1
      have o3' := o3 (op45 (Or.inl c4)).2.1
      have cb : (nI (rgt q e)).toNatClampNeg = rgt q e := nI_clamp (by omega)
      have vb : vp_in (nI (rgt q e)) 60 := vp_in_nI (by omega) (by decide)
      obtain ⟨g1, g2⟩ := hr (Or.inl c4)
      have okB := (PE_ok hE hz (e := rgt q e) (by omega)).1
      have ap : apt (21 + 2 + 3 * v) (42 + 3 * rgt q e) := by unfold apt; omega
      obtain ⟨k1, k2⟩ := F77_eq (t := t) u0.1 (g1.ne u0 ap) (strU_ok hok) okB ap rfl
      have ne : kLes t (strU (x v)) (PE q z (rgt q e)).1 = hul (narO 4 t (vals (x v)) (vals (PE q z (rgt q e)).1)) := (narl_eq t hok okB).symm
      rw [if_pos c4, if_pos c4, p8, cb]
      refine ⟨⟨f2, fun w => absurd w nm, fun _ => ⟨vv, ve, fun _ => ⟨ve, vb, k2, trivial⟩, fun w => absurd c4 w⟩⟩, ?_⟩
      refine fin _ _ ?_ narO_ok
      rw [← ne]
      exact u0.tr k1
    · by_cases c5 : q.1 2 e = 5
      · obtain ⟨w, wa, o1, o2, o3, o4, o5, o6, o7, o8, -⟩ := op_of hE he (op45 (Or.inr c5)).1
        have p8 := (o8 (op45 (Or.inr c5)).2.1).1
        have o3' := o3 (op45 (Or.inr c5)).2.1
        have cb : (nI (rgt q e)).toNatClampNeg = rgt q e := nI_clamp (by omega)
        have vb : vp_in (nI (rgt q e)) 60 := vp_in_nI (by omega) (by decide)
        obtain ⟨g1, g2⟩ := hr (Or.inr c5)
        have okB := (PE_ok hE hz (e := rgt q e) (by omega)).1
        have ap : apt (21 + 2 + 3 * v) (42 + 3 * rgt q e) := by unfold apt; omega
        obtain ⟨k1, k2⟩ := F78_eq (t := t) u0.1 (g1.ne u0 ap) (strU_ok hok) okB ap rfl
        have ne : kEqu t (strU (x v)) (PE q z (rgt q e)).1 = hul (narO 5 t (vals (x v)) (vals (PE q z (rgt q e)).1)) := by
          cases t with
          | true => exact (narE_t hok okB).symm
          | false => exact (narE_f hok okB g2).symm
        rw [if_neg c4, if_pos c5, if_neg c4, if_pos c5, p8, cb]
        refine ⟨⟨f2, fun w => absurd w nm, fun _ => ⟨vv, ve, fun w => absurd w c4, fun _ => ⟨fun _ => ⟨ve, vb, k2, trivial⟩, fun w => absurd c5 w⟩⟩⟩, ?_⟩
        refine fin _ _ ?_ narO_ok
        rw [← ne]
        exact u0.tr k1
      · obtain ⟨k1, k2⟩ := F76_eq (t := t) u0.1 (strU_ok hok) rfl
        have ne : kTru t (strU (x v)) = hul (narT t (vals (x v))) := (nart_eq t hok).symm
        rw [if_neg c4, if_neg c5, if_neg c4, if_neg c5]
        refine ⟨⟨f2, fun w => absurd w nm, fun _ => ⟨vv, ve, fun w => absurd w c4, fun _ => ⟨fun w => absurd w c5, fun _ => ⟨k2, trivial⟩⟩⟩⟩, ?_⟩
        refine fin _ _ ?_ narT_ok
        rw [← ne]
        exact u0.tr k1
end
