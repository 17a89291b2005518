/-! the cells behind the two constructors (wip/whole/gen20.py): shapes, references; what is a Range, a Picture, a State; loops -/
abbrev aQ : Type := (Nat → Nat → Int32) × (Nat → Nat → Int64)
def nk0 : Nat × Nat := (686, 4607)
def sh0L : List (Nat × Nat) := [(0, 0), (1, 0), (16, 60), (16, 60), (16, 60), (16, 60), (16, 60), (16, 60), (2, 0), (16, 24), (16, 24), (16, 24), (16, 24), (16, 24), (16, 24), (16, 48), (16, 5), (16, 5), (16, 6), (3, 0), (19, 25), (4, 0), (20, 5), (5, 0), (6, 0), (6, 0), (5, 0), (6, 0), (6, 0), (5, 0), (6, 0), (6, 0), (5, 0), (6, 0), (6, 0), (5, 0), (6, 0), (6, 0), (17, 25), (17, 120), (7, 0), (20, 60)]
def sh0M : List (Nat × Nat) := [(8, 0), (16, 8), (18, 5), (9, 0), (16, 60), (16, 60), (16, 60), (16, 60), (16, 24), (16, 24), (16, 24), (16, 24), (16, 24), (16, 24), (16, 49), (16, 49), (16, 6), (16, 8), (17, 25), (16, 125), (16, 500), (17, 120), (16, 5), (16, 20), (16, 60), (16, 240), (16, 60), (17, 60), (16, 60), (16, 60), (16, 60), (16, 60), (16, 4), (16, 5), (18, 5), (16, 16), (16, 18), (16, 16), (18, 16)]
def sh0 (a : Nat) : Nat × Nat :=
  if a < 42 then sh0L.getD a (31, 0)
  else if a < 222 then (if (a - 42) % 3 = 0 then (5, 0) else (6, 0))
  else if a < 647 then (if (a - 222) % 17 = 0 then (4, 0) else if (a - 222) % 17 = 1 then (20, 5) else if ((a - 222) % 17 - 2) % 3 = 0 then (5, 0) else (6, 0))
  else sh0M.getD (a - 647) (31, 0)
def mr0L : List (List (Option Nat)) := [[some 1, some 8, some 19, some 647], [some 2, some 3, some 4, some 5, some 6, some 7], [], [], [], [], [], [], [some 9, some 10, some 11, some 12, some 13, some 14, some 15, none, some 16, some 17, some 18], [], [], [], [], [], [], [], [], [], [], [some 8, some 40, some 20, some 21, some 38, some 39], [some 222, some 239, some 256, some 273, some 290, some 307, some 324, some 341, some 358, some 375, some 392, some 409, some 426, some 443, some 460, some 477, some 494, some 511, some 528, some 545, some 562, some 579, some 596, some 613, some 630], [some 22], [some 23, some 26, some 29, some 32, some 35], [some 24, some 25], [], [], [some 27, some 28], [], [], [some 30, some 31], [], [], [some 33, some 34], [], [], [some 36, some 37], [], [], [], [], [some 1, some 41], [some 42, some 45, some 48, some 51, some 54, some 57, some 60, some 63, some 66, some 69, some 72, some 75, some 78, some 81, some 84, some 87, some 90, some 93, some 96, some 99, some 102, some 105, some 108, some 111, some 114, some 117, some 120, some 123, some 126, some 129, some 132, some 135, some 138, some 141, some 144, some 147, some 150, some 153, some 156, some 159, some 162, some 165, some 168, some 171, some 174, some 177, some 180, some 183, some 186, some 189, some 192, some 195, some 198, some 201, some 204, some 207, some 210, some 213, some 216, some 219]]
def mr0M : List (List (Option Nat)) := [[some 8, some 1, some 648, none, none, some 649], [], [], [none, some 651, some 652, some 653, some 654, none, some 655, some 656, some 657, some 658, some 659, some 660, some 661, some 662, none, some 663, none, some 664, some 665, some 666, some 667, some 668, none, some 669, some 670, some 671, some 672, some 673, some 674, none, some 675, some 676, none, some 677, some 678, none, some 679, none, none, none, some 680, some 681, none, none, some 682, some 683, some 684, some 685], [], [], [], [], [], [], [], [], [], [], [], [], [], [], [], [], [], [], [], [], [], [], [], [], [], [], [], [], [], [], [], [], [], [], []]
def mr0 (a k : Nat) : Option Nat :=
  if a < 42 then (mr0L.getD a []).getD k none
  else if a < 222 then (if (a - 42) % 3 = 0 then (if k = 0 then some (a + 1) else if k = 1 then some (a + 2) else none) else none)
  else if a < 647 then (if (a - 222) % 17 = 0 then (if k = 0 then some (a + 1) else none) else if (a - 222) % 17 = 1 then (if k < 5 then some (a + 1 + 3 * k) else none) else if ((a - 222) % 17 - 2) % 3 = 0 then (if k = 0 then some (a + 1) else if k = 1 then some (a + 2) else none) else none)
  else (mr0M.getD (a - 647) []).getD k none
def hp (q : aQ) : aH := (nk0, sh0, q.1, q.2, mr0)
def a_w (q : aQ) (a k : Nat) (x : Int32) : aQ := (a_u2 q.1 a k x, q.2)
def a_wl (q : aQ) (a k : Nat) (x : Int64) : aQ := (q.1, a_u2 q.2 a k x)
theorem hp_m {h' : aH} {q : aQ} (h : h'.1 = nk0) : (hp q).1.1 ≤ h'.1.1 ∧ (hp q).1.2 ≤ h'.1.2 := by rw [h]; exact ⟨Nat.le_refl _, Nat.le_refl _⟩
def isRng (r : Nat) : Prop := sh0 r = (6, 0)
def isPic (p : Nat) : Prop := sh0 p = (5, 0) ∧ sh0 (p + 1) = (6, 0) ∧ sh0 (p + 2) = (6, 0) ∧ mr0 p 0 = some (p + 1) ∧ mr0 p 1 = some (p + 2)
def isSt (s : Nat) : Prop := sh0 s = (4, 0) ∧ sh0 (s + 1) = (20, 5) ∧ mr0 s 0 = some (s + 1) ∧ ∀ v, v < 5 → mr0 (s + 1) v = some (s + 2 + 3 * v) ∧ isPic (s + 2 + 3 * v)
theorem rg_s {r : Nat} (h : isRng r) : (sh0 r).1 = 6 := by rw [h]
theorem pc_s {p : Nat} (h : isPic p) : (sh0 p).1 = 5 := by rw [h.1]
theorem st_s {s : Nat} (h : isSt s) : (sh0 s).1 = 4 := by rw [h.1]
theorem pc_r0 {p : Nat} (h : isPic p) : isRng (p + 1) := h.2.1
theorem pc_r1 {p : Nat} (h : isPic p) : isRng (p + 2) := h.2.2.1
theorem pc_v0 {p : Nat} {q : aQ} (h : isPic p) : a_gv (hp q) p 5 0 = .ref (p + 1) := by
  show va_rf (mr0 p 0) = _
  rw [h.2.2.2.1]; rfl
theorem pc_v1 {p : Nat} {q : aQ} (h : isPic p) : a_gv (hp q) p 5 1 = .ref (p + 2) := by
  show va_rf (mr0 p 1) = _
  rw [h.2.2.2.2]; rfl
theorem st_v {s : Nat} {q : aQ} (h : isSt s) : a_gv (hp q) s 4 0 = .ref (s + 1) := by
  show va_rf (mr0 s 0) = _
  rw [h.2.2.1]; rfl
theorem vp_lt {i : Int32} {n : Nat} (h : vp_in i n) : i.toNatClampNeg < n := Nat.not_le.mp fun q => h (Or.inr q)
theorem st_a {s : Nat} (h : isSt s) : sh0 (s + 1) = (20, 5) := h.2.1
theorem st_m {s : Nat} {i : Int32} (h : isSt s) (hi : vp_in i 5) : mr0 (s + 1) i.toNatClampNeg = some (s + 2 + 3 * i.toNatClampNeg) := (h.2.2.2 _ (vp_lt hi)).1
theorem st_p {s : Nat} {i : Int32} (h : isSt s) (hi : vp_in i 5) : isPic (s + 2 + 3 * i.toNatClampNeg) := (h.2.2.2 _ (vp_lt hi)).2
theorem isSt_21 : isSt 21 := by unfold isSt isPic; decide +kernel
theorem isSt_b : ∀ k, k < 25 → isSt (222 + 17 * k) ∧ mr0 20 k = some (222 + 17 * k) := by unfold isSt isPic; decide +kernel
theorem isPic_p : ∀ k, k < 60 → isPic (42 + 3 * k) ∧ mr0 41 k = some (42 + 3 * k) := by unfold isPic; decide +kernel
theorem st_b {i : Int32} (hi : vp_in i 25) : isSt (222 + 17 * i.toNatClampNeg) := (isSt_b _ (vp_lt hi)).1
theorem mr_b {i : Int32} (hi : vp_in i 25) : mr0 20 i.toNatClampNeg = some (222 + 17 * i.toNatClampNeg) := (isSt_b _ (vp_lt hi)).2
theorem pc_p {i : Int32} (hi : vp_in i 60) : isPic (42 + 3 * i.toNatClampNeg) := (isPic_p _ (vp_lt hi)).1
theorem mr_p {i : Int32} (hi : vp_in i 60) : mr0 41 i.toNatClampNeg = some (42 + 3 * i.toNatClampNeg) := (isPic_p _ (vp_lt hi)).2
-- what is owed at an end
def gI (r : Option Value) (h' : aH) (o : Int32 × aQ) : Prop := r = some (.int o.1) ∧ h' = hp o.2
def gJ (r : Option Value) (h' : aH) (o : Int64 × aQ) : Prop := r = some (.long o.1) ∧ h' = hp o.2
def gR (r : Option Value) (h' : aH) (o : Nat × aQ) : Prop := r = some (.ref o.1) ∧ h' = hp o.2
def gV (r : Option Value) (h' : aH) (o : aQ) : Prop := r = none ∧ h' = hp o
def gL {σ ε : Type} (P : σ → Prop) (Q : ε → Prop) (o : σ ⊕ ε) : Prop := match o with
  | .inl s => P s
  | .inr e => Q e
def gE {ε ρ : Type} (Q : ε → Prop) (K : ρ → Prop) (o : ε ⊕ ρ) : Prop := match o with
  | .inl s => Q s
  | .inr e => K e
-- loops
def a_it {σ ε : Type} (B : σ → σ ⊕ ε) : Nat → σ → Option ε
  | 0, _ => none
  | n + 1, s => match B s with
    | .inl s' => a_it B n s'
    | .inr e => some e
def a_sf {σ ε : Type} (B : σ → σ ⊕ ε) (SB : σ → Prop) : Nat → σ → Prop
  | 0, _ => False
  | n + 1, s => SB s ∧ match B s with
    | .inl s' => a_sf B SB n s'
    | .inr _ => True
def a_lp {σ ε : Type} (B : σ → σ ⊕ ε) (n : Nat) (s : σ) (e : ε) : ε := (a_it B n s).getD e
theorem a_lp_eq {σ ε : Type} {B : σ → σ ⊕ ε} {n : Nat} {s : σ} {e0 e : ε} (h : a_it B n s = some e) : a_lp B n s e0 = e := by unfold a_lp; rw [h]; rfl
theorem x_loop {σ ε : Type} (B : σ → σ ⊕ ε) (SB : σ → Prop) (P : σ → Prop) (Q : ε → Prop) (hstep : ∀ s, SB s → gL P Q (B s) → P s) : ∀ (n : Nat) (s : σ), a_sf B SB n s → (∀ e, a_it B n s = some e → Q e) → P s := by
  intro n
  induction n with
  | zero => intro s hs _; exact hs.elim
  | succ n ih =>
    intro s hs hQ
    obtain ⟨h1, h2⟩ := hs
    refine hstep s h1 ?_
    unfold a_it at hQ
    cases hB : B s with
    | inl s' =>
      rw [hB] at h2 hQ
      exact ih s' h2 hQ
    | inr e =>
      rw [hB] at hQ
      exact hQ e rfl
theorem sw_ne {x : Int32} {k : Int} (h : ¬ x = Int32.ofInt k) (hk : -2147483648 ≤ k ∧ k ≤ 2147483647) : x.toInt ≠ k := by
  intro q
  apply h
  apply Int32.toInt_inj.mp
  rw [q, Int32.toInt_ofInt_of_le (by omega) (by omega)]
section AP
variable {l : Launch} {X : aX} {i : Nat} {cf : aK} {d : Nat} {r : Option Value} {h' : aH} {pc : Nat} {lo : List (Option Value)} {st : List Value} {q : aQ}
theorem p_is {a n : Nat} {j x : Int32} (hc : cf pc = some .iastore) (hs : sh0 a = (16, n)) (hj : vp_in j n) (K : AW l X i cf d r h' (pc + 1) lo st (hp (a_w q a (Int32.toNatClampNeg j) x))) : AW l X i cf d r h' pc lo (.int x :: .int j :: .ref a :: st) (hp q) := x_is hc hs hj K
theorem p_zs {a n : Nat} {j x : Int32} (hc : cf pc = some .bastore) (hs : sh0 a = (17, n)) (hj : vp_in j n) (hv : x = 0 ∨ x = 1) (K : AW l X i cf d r h' (pc + 1) lo st (hp (a_w q a (Int32.toNatClampNeg j) x))) : AW l X i cf d r h' pc lo (.int x :: .int j :: .ref a :: st) (hp q) := x_zs hc hs hj hv K
theorem p_lt {a n : Nat} {j : Int32} {x : Int64} (hc : cf pc = some .lastore) (hs : sh0 a = (18, n)) (hj : vp_in j n) (K : AW l X i cf d r h' (pc + 1) lo st (hp (a_wl q a (Int32.toNatClampNeg j) x))) : AW l X i cf d r h' pc lo (.long x :: .int j :: .ref a :: st) (hp q) := x_lt hc hs hj K
theorem p_ia {a n : Nat} {j v : Int32} (hc : cf pc = some .iaload) (hs : sh0 a = (16, n)) (hj : vp_in j n) (hv : q.1 a (Int32.toNatClampNeg j) = v) (K : AW l X i cf d r h' (pc + 1) lo (.int v :: st) (hp q)) : AW l X i cf d r h' pc lo (.int j :: .ref a :: st) (hp q) := x_ia hc hs hj (by subst hv; exact K)
theorem p_za {a n : Nat} {j v : Int32} (hc : cf pc = some .baload) (hs : sh0 a = (17, n)) (hj : vp_in j n) (hv : q.1 a (Int32.toNatClampNeg j) = v) (K : AW l X i cf d r h' (pc + 1) lo (.int v :: st) (hp q)) : AW l X i cf d r h' pc lo (.int j :: .ref a :: st) (hp q) := x_za hc hs hj (by subst hv; exact K)
theorem p_la {a n : Nat} {j : Int32} {v : Int64} (hc : cf pc = some .laload) (hs : sh0 a = (18, n)) (hj : vp_in j n) (hv : q.2 a (Int32.toNatClampNeg j) = v) (K : AW l X i cf d r h' (pc + 1) lo (.long v :: st) (hp q)) : AW l X i cf d r h' pc lo (.int j :: .ref a :: st) (hp q) := x_la hc hs hj (by subst hv; exact K)
theorem pv_i {a ci k : Nat} {x : Int32} (h : a_kd ci k = 0) : a_pv (hp q) a ci k (.int x) = some (hp (a_w q a k x)) := by unfold a_pv; rw [h]; rfl
theorem pv_z {a ci k : Nat} {x : Int32} (h : a_kd ci k = 1) (hx : x = 0 ∨ x = 1) : a_pv (hp q) a ci k (.int x) = some (hp (a_w q a k x)) := by unfold a_pv; rw [h]; exact if_pos hx
theorem pv_l {a ci k : Nat} {x : Int64} (h : a_kd ci k = 2) : a_pv (hp q) a ci k (.long x) = some (hp (a_wl q a k x)) := by unfold a_pv; rw [h]; rfl
end AP
