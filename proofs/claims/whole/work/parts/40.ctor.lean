/-! constructors (wip/whole/gen40.py): heaps of which the first m cells have their last shapes; references, ints and longs are given tables -/
def hcp (m w : Nat) (R : Nat → Nat → Option Nat) (I : Nat → Nat → Int32) (J : Nat → Nat → Int64) : aH := ((m, w), (fun a => if a < m then sh0 a else (31, 0)), I, J, R)
theorem hcp_nw {m w t n k : Nat} {R : Nat → Nat → Option Nat} {I : Nat → Nat → Int32} {J : Nat → Nat → Int64} (hs : sh0 m = (t, n)) : a_nw (hcp m w R I J) t n k = hcp (m + 1) (w + k) R I J := by
  unfold a_nw hcp
  refine Prod.ext rfl (Prod.ext ?_ rfl)
  funext i
  show (if i = m then (t, n) else if i < m then sh0 i else (31, 0)) = if i < m + 1 then sh0 i else (31, 0)
  by_cases h : i = m
  · subst h; rw [if_pos rfl, if_pos (by omega), hs]
  · rw [if_neg h]
    by_cases h2 : i < m
    · rw [if_pos h2, if_pos (by omega)]
    · rw [if_neg h2, if_neg (by omega)]
theorem hcp_sh {m w a : Nat} {s : Nat × Nat} {R : Nat → Nat → Option Nat} {I : Nat → Nat → Int32} {J : Nat → Nat → Int64} (ha : a < m) (hs : sh0 a = s) : (hcp m w R I J).2.1 a = s := by
  show (if a < m then sh0 a else (31, 0)) = s
  rw [if_pos ha, hs]
section AC
variable {l : Launch} {X : aX} {i : Nat} {cf : aK} {d : Nat} {r : Option Value} {h' : aH} {pc : Nat} {lo : List (Option Value)} {st : List Value} {m w : Nat} {R : Nat → Nat → Option Nat} {I : Nat → Nat → Int32} {J : Nat → Nat → Int64}
theorem c_new {ix ci ne : Nat} (hc : cf pc = some (.new ix)) (hl : a_find a_CL (m_o i) ix = some (ci, ne)) (hs : sh0 m = (ci, 0)) (hn : m + 1 ≤ h'.1.1) (hw : w + a_nf ci ≤ h'.1.2) (K : AW l X i cf d r h' (pc + 3) lo (.ref m :: st) (hcp (m + 1) (w + a_nf ci) R I J)) : AW l X i cf d r h' pc lo st (hcp m w R I J) := x_new hc hl hn hw (by rw [hcp_nw hs]; exact K)
theorem c_na {t : ArrayType} {tg : Nat} {n : Int32} {N : Nat} (hc : cf pc = some (.newarray t)) (ht : (t = .int ∧ tg = 16) ∨ (t = .boolean ∧ tg = 17) ∨ (t = .long ∧ tg = 18)) (hn0 : ¬ n < 0) (hN : n.toNatClampNeg = N) (hbt : N * 8 ≤ 536870912) (hs : sh0 m = (tg, N)) (hn : m + 1 ≤ h'.1.1) (hw : w + N ≤ h'.1.2) (K : AW l X i cf d r h' (pc + 2) lo (.ref m :: st) (hcp (m + 1) (w + N) R I J)) : AW l X i cf d r h' pc lo (.int n :: st) (hcp m w R I J) := x_na hc ht hn0 hN hbt hn hw (by rw [hcp_nw hs]; exact K)
theorem c_an {ix ci ne tg : Nat} {n : Int32} {N : Nat} (hc : cf pc = some (.anewarray ix)) (hl : a_find a_CL (m_o i) ix = some (ci, ne)) (ht : (ci = 4 ∧ tg = 19) ∨ (ci = 5 ∧ tg = 20)) (hn0 : ¬ n < 0) (hN : n.toNatClampNeg = N) (hbt : N * 4 ≤ 536870912) (hs : sh0 m = (tg, N)) (hn : m + 1 ≤ h'.1.1) (hw : w + N ≤ h'.1.2) (K : AW l X i cf d r h' (pc + 3) lo (.ref m :: st) (hcp (m + 1) (w + N) R I J)) : AW l X i cf d r h' pc lo (.int n :: st) (hcp m w R I J) := x_an hc hl ht hn0 hN hbt hn hw (by rw [hcp_nw hs]; exact K)
theorem c_pF {ix c a v : Nat} (hc : cf pc = some (.putfield ix)) (hf : a_find a_FL (m_o i) ix = some (c, 0)) (hnf : (a_Tf (c / 64) (c % 64)).2.2.2 = true) (hk : m_k i = 2) (ho : c / 64 = m_o i) (ha : a < m) (hs : sh0 a = (c / 64, 0)) (hkd : a_kd (c / 64) (c % 64) = 3) (K : AW l X i cf d r h' (pc + 3) lo st (hcp m w (a_u2 R a (c % 64) (some v)) I J)) : AW l X i cf d r h' pc lo (.ref v :: .ref a :: st) (hcp m w R I J) := x_pF hc hf hnf hk ho (by rw [hcp_sh ha hs]) (h2 := hcp m w (a_u2 R a (c % 64) (some v)) I J) (by unfold a_pv; rw [hkd]; rfl) K
theorem c_pi {ix c ne a : Nat} {x : Int32} (hc : cf pc = some (.putfield ix)) (hf : a_find a_FL (m_o i) ix = some (c, ne)) (hnf : (a_Tf (c / 64) (c % 64)).2.2.2 = false) (ha : a < m) (hs : sh0 a = (c / 64, 0)) (hkd : a_kd (c / 64) (c % 64) = 0) (K : AW l X i cf d r h' (pc + 3) lo st (hcp m w R (a_u2 I a (c % 64) x) J)) : AW l X i cf d r h' pc lo (.int x :: .ref a :: st) (hcp m w R I J) := x_pf hc hf hnf (by rw [hcp_sh ha hs]) (h2 := hcp m w R (a_u2 I a (c % 64) x) J) (by unfold a_pv; rw [hkd]; rfl) K
theorem c_gr {ix c ne a v : Nat} (hc : cf pc = some (.getfield ix)) (hf : a_find a_FL (m_o i) ix = some (c, ne)) (ha : a < m) (hs : sh0 a = (c / 64, 0)) (hkd : a_kd (c / 64) (c % 64) = 3) (hv : R a (c % 64) = some v) (K : AW l X i cf d r h' (pc + 3) lo (.ref v :: st) (hcp m w R I J)) : AW l X i cf d r h' pc lo (.ref a :: st) (hcp m w R I J) := x_gf hc hf (by rw [hcp_sh ha hs]) (by unfold a_gv; rw [hkd, if_neg (by decide), if_pos rfl]; show va_rf (R a (c % 64)) = _; rw [hv]; rfl) K
theorem c_as {a n t v ci : Nat} {j : Int32} {k : Nat} (hc : cf pc = some .aastore) (ha : a < m) (hs : sh0 a = (t, n)) (ht : (t = 19 ∧ ci = 4) ∨ (t = 20 ∧ ci = 5)) (hva : v < m) (hv : sh0 v = (ci, 0)) (hj : vp_in j n) (hk : j.toNatClampNeg = k) (K : AW l X i cf d r h' (pc + 1) lo st (hcp m w (a_u2 R a k (some v)) I J)) : AW l X i cf d r h' pc lo (.ref v :: .int j :: .ref a :: st) (hcp m w R I J) := x_as hc (hcp_sh ha hs) ht (by rw [hcp_sh hva hv]) hj (by rw [hk]; exact K)
theorem c_is {a n : Nat} {j x : Int32} {k : Nat} (hc : cf pc = some .iastore) (ha : a < m) (hs : sh0 a = (16, n)) (hj : vp_in j n) (hk : j.toNatClampNeg = k) (K : AW l X i cf d r h' (pc + 1) lo st (hcp m w R (a_u2 I a k x) J)) : AW l X i cf d r h' pc lo (.int x :: .int j :: .ref a :: st) (hcp m w R I J) := x_is hc (hcp_sh ha hs) hj (by rw [hk]; exact K)
theorem c_lt {a n : Nat} {j : Int32} {x : Int64} {k : Nat} (hc : cf pc = some .lastore) (ha : a < m) (hs : sh0 a = (18, n)) (hj : vp_in j n) (hk : j.toNatClampNeg = k) (K : AW l X i cf d r h' (pc + 1) lo st (hcp m w R I (a_u2 J a k x))) : AW l X i cf d r h' pc lo (.long x :: .int j :: .ref a :: st) (hcp m w R I J) := x_lt hc (hcp_sh ha hs) hj (by rw [hk]; exact K)
end AC
def rngI (I : Nat → Nat → Int32) (a : Nat) : Nat → Nat → Int32 := a_u2 (a_u2 I a 0 1001) a 1 (-1001)
set_option maxRecDepth 100000 in
/-- Range.clear, on any heap -/
theorem K80 {l : Launch} {X : aX} {d m w a : Nat} {R : Nat → Nat → Option Nat} {I : Nat → Nat → Int32} {J : Nat → Nat → Int64} (ha : a < m) (hs : sh0 a = (6, 0)) : Call l X d 80 [.ref a] (hcp m w R I J) none (hcp m w R (rngI I a) J) := by
  refine Call.of ok80 (by decide) (Nat.le_of_ble_eq_true rfl) ⟨Nat.le_refl _, Nat.le_refl _⟩ ?_
  refine x_run (pc' := 4) (lo' := [some (.ref a)]) (st' := [.int 1001, .ref a]) 2 rfl ?_
  refine c_pi (c := 384) (ne := 0) rfl (by decide +kernel) (by decide +kernel) ha hs (by decide +kernel) ?_
  refine x_run (pc' := 11) (lo' := [some (.ref a)]) (st' := [.int (-1001), .ref a]) 2 rfl ?_
  refine c_pi (c := 385) (ne := 0) rfl (by decide +kernel) (by decide +kernel) ha hs (by decide +kernel) ?_
  exact x_ret rfl (by decide +kernel)
set_option maxRecDepth 100000 in
theorem K79 {l : Launch} {X : aX} {d m w a : Nat} {R : Nat → Nat → Option Nat} {I : Nat → Nat → Int32} {J : Nat → Nat → Int64} (hd : 2 ≤ d) (ha : a < m) (hs : sh0 a = (6, 0)) : Call l X d 79 [.ref a] (hcp m w R I J) none (hcp m w R (rngI I a) J) := by
  refine Call.of ok79 (by decide) (Nat.le_of_ble_eq_true rfl) ⟨Nat.le_refl _, Nat.le_refl _⟩ ?_
  refine x_run (pc' := 1) (lo' := [some (.ref a)]) (st' := [.ref a]) 1 rfl ?_
  refine x_oi (ne := 0) rfl (by decide +kernel) (Nat.le_of_ble_eq_true rfl) (by omega) ?_
  refine x_run (pc' := 5) (lo' := [some (.ref a)]) (st' := [.ref a]) 1 rfl ?_
  refine x_cv (j := 80) (ne := 0) (d' := 1) (vs := []) (rest := []) rfl (by decide +kernel) (by decide +kernel) (by decide) (show 0 = _ from by decide +kernel) (by rw [hcp_sh ha hs]; decide +kernel) (by decide +kernel) rfl (Nat.le_of_ble_eq_true rfl) (by omega) (K80 ha hs) ⟨Nat.le_refl _, Nat.le_refl _⟩ ?_
  exact x_ret rfl (by decide +kernel)
def picR (R : Nat → Nat → Option Nat) (p : Nat) : Nat → Nat → Option Nat := a_u2 (a_u2 R p 0 (some (p + 1))) p 1 (some (p + 2))
def picI (I : Nat → Nat → Int32) (p : Nat) : Nat → Nat → Int32 := rngI (rngI I (p + 1)) (p + 2)
def isPicS (p : Nat) : Prop := sh0 p = (5, 0) ∧ sh0 (p + 1) = (6, 0) ∧ sh0 (p + 2) = (6, 0)
set_option maxRecDepth 100000 in
set_option maxHeartbeats 4000000 in
/-- Picture(), of the cell p that was made last -/
theorem K62 {l : Launch} {X : aX} {d p w : Nat} {R : Nat → Nat → Option Nat} {I : Nat → Nat → Int32} {J : Nat → Nat → Int64} (hd : 3 ≤ d) (hs : isPicS p) : Call l X d 62 [.ref p] (hcp (p + 1) w R I J) none (hcp (p + 1 + 1 + 1) (w + 2 + 2) (picR R p) (picI I p) J) := by
  obtain ⟨s0, s1, s2⟩ := hs
  refine Call.of ok62 (by decide) (Nat.le_of_ble_eq_true rfl) ⟨show p + 1 ≤ p + 1 + 1 + 1 by omega, show w ≤ w + 2 + 2 by omega⟩ ?_
  refine x_run (pc' := 1) (lo' := [some (.ref p)]) (st' := [.ref p]) 1 rfl ?_
  refine x_oi (ne := 0) rfl (by decide +kernel) (Nat.le_of_ble_eq_true rfl) (by omega) ?_
  refine x_run (pc' := 5) (lo' := [some (.ref p)]) (st' := [.ref p]) 1 rfl ?_
  refine c_new (ci := 6) (ne := 0) rfl (by decide +kernel) s1 (show p + 1 + 1 ≤ p + 1 + 1 + 1 by omega) (show w + 2 ≤ w + 2 + 2 by omega) ?_
  refine x_run (pc' := 9) (lo' := [some (.ref p)]) (st' := [.ref (p + 1), .ref (p + 1), .ref p]) 1 rfl ?_
  refine x_ci (j := 79) (ne := 0) (d' := 2) (vs := []) (rest := [.ref (p + 1), .ref p]) rfl (by decide +kernel) (by decide +kernel) (by decide) (show 0 = _ from by decide +kernel) rfl (Nat.le_of_ble_eq_true rfl) (by omega) (K79 (Nat.le_refl 2) (by omega) s1) ⟨show p + 1 + 1 ≤ p + 1 + 1 + 1 by omega, show w + 2 ≤ w + 2 + 2 by omega⟩ ?_
  refine c_pF (c := 320) rfl (by decide +kernel) (by decide +kernel) (by decide +kernel) (by decide +kernel) (by omega) s0 (by decide +kernel) ?_
  refine x_run (pc' := 16) (lo' := [some (.ref p)]) (st' := [.ref p]) 1 rfl ?_
  refine c_new (ci := 6) (ne := 0) rfl (by decide +kernel) s2 (show p + 1 + 1 + 1 ≤ p + 1 + 1 + 1 by omega) (show w + 2 + 2 ≤ w + 2 + 2 by omega) ?_
  refine x_run (pc' := 20) (lo' := [some (.ref p)]) (st' := [.ref (p + 2), .ref (p + 2), .ref p]) 1 rfl ?_
  refine x_ci (j := 79) (ne := 0) (d' := 2) (vs := []) (rest := [.ref (p + 2), .ref p]) rfl (by decide +kernel) (by decide +kernel) (by decide) (show 0 = _ from by decide +kernel) rfl (Nat.le_of_ble_eq_true rfl) (by omega) (K79 (Nat.le_refl 2) (by omega) s2) ⟨Nat.le_refl _, Nat.le_refl _⟩ ?_
  refine c_pF (c := 321) rfl (by decide +kernel) (by decide +kernel) (by decide +kernel) (by decide +kernel) (by omega) s0 (by decide +kernel) ?_
  exact x_ret rfl (by decide +kernel)
def stR (R : Nat → Nat → Option Nat) (m : Nat) : Nat → Nat → Option Nat := a_u2 (picR (a_u2 (picR (a_u2 (picR (a_u2 (picR (a_u2 (picR (a_u2 R m 0 (some (m + 1))) (m + 2)) (m + 1) 0 (some (m + 2))) (m + 5)) (m + 1) 1 (some (m + 5))) (m + 8)) (m + 1) 2 (some (m + 8))) (m + 11)) (m + 1) 3 (some (m + 11))) (m + 14)) (m + 1) 4 (some (m + 14))
def stI (I : Nat → Nat → Int32) (m : Nat) : Nat → Nat → Int32 := picI (picI (picI (picI (picI (I) (m + 2)) (m + 5)) (m + 8)) (m + 11)) (m + 14)
def isStS (m : Nat) : Prop := sh0 m = (4, 0) ∧ sh0 (m + 1) = (20, 5) ∧ isPicS (m + 2) ∧ isPicS (m + 5) ∧ isPicS (m + 8) ∧ isPicS (m + 11) ∧ isPicS (m + 14)
set_option maxRecDepth 100000 in
set_option maxHeartbeats 4000000 in
/-- State(), of the cell m that was made last -/
theorem K57 {l : Launch} {X : aX} {d m w : Nat} {R : Nat → Nat → Option Nat} {I : Nat → Nat → Int32} {J : Nat → Nat → Int64} (hd : 4 ≤ d) (hs : isStS m) : Call l X d 57 [.ref m] (hcp (m + 1) w R I J) none (hcp (m + 17) (w + 45) (stR R m) (stI I m) J) := by
  obtain ⟨s0, s1, p0, p1, p2, p3, p4⟩ := hs
  refine Call.of ok57 (by decide) (Nat.le_of_ble_eq_true rfl) ⟨show m + 1 ≤ m + 17 by omega, show w ≤ w + 45 by omega⟩ ?_
  refine x_run (pc' := 1) (lo' := [some (.ref m), none]) (st' := [.ref m]) 1 rfl ?_
  refine x_oi (ne := 0) rfl (by decide +kernel) (Nat.le_of_ble_eq_true rfl) (by omega) ?_
  refine x_run (pc' := 6) (lo' := [some (.ref m), none]) (st' := [.int 5, .ref m]) 2 rfl ?_
  refine c_an (ci := 5) (ne := 0) (tg := 20) (N := 5) rfl (by decide +kernel) (by decide) (by decide +kernel) (by decide +kernel) (by decide) s1 (show m + 1 + 1 ≤ m + 17 by omega) (show w + 5 ≤ w + 45 by omega) ?_
  refine c_pF (c := 256) rfl (by decide +kernel) (by decide +kernel) (by decide +kernel) (by decide +kernel) (by omega) s0 (by decide +kernel) ?_
  refine x_run (pc' := 16) (lo' := [some (.ref m), some (.int 0)]) (st' := [.int 5, .int 0]) 4 rfl ?_
  refine x_ic 38 rfl rfl (fun hc => absurd hc (show ¬ (5 : Int32) ≤ 0 by decide)) (fun _ => ?_)
  refine x_run (pc' := 20) (lo' := [some (.ref m), some (.int 0)]) (st' := [.ref m]) 1 rfl ?_
  refine c_gr (c := 256) (ne := 0) (v := m + 1) rfl (by decide +kernel) (by omega) s0 (by decide +kernel) (by simp [picR, a_u2]) ?_
  refine x_run (pc' := 24) (lo' := [some (.ref m), some (.int 0)]) (st' := [.int 0, .ref (m + 1)]) 1 rfl ?_
  refine c_new (ci := 5) (ne := 0) rfl (by decide +kernel) p0.1 (show m + 2 + 1 ≤ m + 17 by omega) (show w + 5 + 4 ≤ w + 45 by omega) ?_
  refine x_run (pc' := 28) (lo' := [some (.ref m), some (.int 0)]) (st' := [.ref (m + 2), .ref (m + 2), .int 0, .ref (m + 1)]) 1 rfl ?_
  refine x_ci (j := 62) (ne := 1) (d' := 3) (vs := []) (rest := [.ref (m + 2), .int 0, .ref (m + 1)]) rfl (by decide +kernel) (by decide +kernel) (by decide) (show 0 = _ from by decide +kernel) rfl (Nat.le_of_ble_eq_true rfl) (by omega) (K62 (p := m + 2) (Nat.le_refl 3) p0) ⟨(show m + 5 ≤ m + 17 by omega), (show w + 13 ≤ w + 45 by omega)⟩ ?_
  refine c_as (n := 5) (t := 20) (ci := 5) (k := 0) rfl (by omega) s1 (by decide) (by omega) p0.1 (by unfold vp_in; decide +kernel) (by decide +kernel) ?_
  refine x_run (pc' := 16) (lo' := [some (.ref m), some (.int 1)]) (st' := [.int 5, .int 1]) 4 rfl ?_
  refine x_ic 38 rfl rfl (fun hc => absurd hc (show ¬ (5 : Int32) ≤ 1 by decide)) (fun _ => ?_)
  refine x_run (pc' := 20) (lo' := [some (.ref m), some (.int 1)]) (st' := [.ref m]) 1 rfl ?_
  refine c_gr (c := 256) (ne := 0) (v := m + 1) rfl (by decide +kernel) (by omega) s0 (by decide +kernel) (by simp [picR, a_u2]) ?_
  refine x_run (pc' := 24) (lo' := [some (.ref m), some (.int 1)]) (st' := [.int 1, .ref (m + 1)]) 1 rfl ?_
  refine c_new (ci := 5) (ne := 0) rfl (by decide +kernel) p1.1 (show m + 5 + 1 ≤ m + 17 by omega) (show w + 13 + 4 ≤ w + 45 by omega) ?_
  refine x_run (pc' := 28) (lo' := [some (.ref m), some (.int 1)]) (st' := [.ref (m + 5), .ref (m + 5), .int 1, .ref (m + 1)]) 1 rfl ?_
  refine x_ci (j := 62) (ne := 1) (d' := 3) (vs := []) (rest := [.ref (m + 5), .int 1, .ref (m + 1)]) rfl (by decide +kernel) (by decide +kernel) (by decide) (show 0 = _ from by decide +kernel) rfl (Nat.le_of_ble_eq_true rfl) (by omega) (K62 (p := m + 5) (Nat.le_refl 3) p1) ⟨(show m + 8 ≤ m + 17 by omega), (show w + 21 ≤ w + 45 by omega)⟩ ?_
  refine c_as (n := 5) (t := 20) (ci := 5) (k := 1) rfl (by omega) s1 (by decide) (by omega) p1.1 (by unfold vp_in; decide +kernel) (by decide +kernel) ?_
  refine x_run (pc' := 16) (lo' := [some (.ref m), some (.int 2)]) (st' := [.int 5, .int 2]) 4 rfl ?_
  refine x_ic 38 rfl rfl (fun hc => absurd hc (show ¬ (5 : Int32) ≤ 2 by decide)) (fun _ => ?_)
  refine x_run (pc' := 20) (lo' := [some (.ref m), some (.int 2)]) (st' := [.ref m]) 1 rfl ?_
  refine c_gr (c := 256) (ne := 0) (v := m + 1) rfl (by decide +kernel) (by omega) s0 (by decide +kernel) (by simp [picR, a_u2]) ?_
  refine x_run (pc' := 24) (lo' := [some (.ref m), some (.int 2)]) (st' := [.int 2, .ref (m + 1)]) 1 rfl ?_
  refine c_new (ci := 5) (ne := 0) rfl (by decide +kernel) p2.1 (show m + 8 + 1 ≤ m + 17 by omega) (show w + 21 + 4 ≤ w + 45 by omega) ?_
  refine x_run (pc' := 28) (lo' := [some (.ref m), some (.int 2)]) (st' := [.ref (m + 8), .ref (m + 8), .int 2, .ref (m + 1)]) 1 rfl ?_
  refine x_ci (j := 62) (ne := 1) (d' := 3) (vs := []) (rest := [.ref (m + 8), .int 2, .ref (m + 1)]) rfl (by decide +kernel) (by decide +kernel) (by decide) (show 0 = _ from by decide +kernel) rfl (Nat.le_of_ble_eq_true rfl) (by omega) (K62 (p := m + 8) (Nat.le_refl 3) p2) ⟨(show m + 11 ≤ m + 17 by omega), (show w + 29 ≤ w + 45 by omega)⟩ ?_
  refine c_as (n := 5) (t := 20) (ci := 5) (k := 2) rfl (by omega) s1 (by decide) (by omega) p2.1 (by unfold vp_in; decide +kernel) (by decide +kernel) ?_
  refine x_run (pc' := 16) (lo' := [some (.ref m), some (.int 3)]) (st' := [.int 5, .int 3]) 4 rfl ?_
  refine x_ic 38 rfl rfl (fun hc => absurd hc (show ¬ (5 : Int32) ≤ 3 by decide)) (fun _ => ?_)
  refine x_run (pc' := 20) (lo' := [some (.ref m), some (.int 3)]) (st' := [.ref m]) 1 rfl ?_
  refine c_gr (c := 256) (ne := 0) (v := m + 1) rfl (by decide +kernel) (by omega) s0 (by decide +kernel) (by simp [picR, a_u2]) ?_
  refine x_run (pc' := 24) (lo' := [some (.ref m), some (.int 3)]) (st' := [.int 3, .ref (m + 1)]) 1 rfl ?_
  refine c_new (ci := 5) (ne := 0) rfl (by decide +kernel) p3.1 (show m + 11 + 1 ≤ m + 17 by omega) (show w + 29 + 4 ≤ w + 45 by omega) ?_
  refine x_run (pc' := 28) (lo' := [some (.ref m), some (.int 3)]) (st' := [.ref (m + 11), .ref (m + 11), .int 3, .ref (m + 1)]) 1 rfl ?_
  refine x_ci (j := 62) (ne := 1) (d' := 3) (vs := []) (rest := [.ref (m + 11), .int 3, .ref (m + 1)]) rfl (by decide +kernel) (by decide +kernel) (by decide) (show 0 = _ from by decide +kernel) rfl (Nat.le_of_ble_eq_true rfl) (by omega) (K62 (p := m + 11) (Nat.le_refl 3) p3) ⟨(show m + 14 ≤ m + 17 by omega), (show w + 37 ≤ w + 45 by omega)⟩ ?_
  refine c_as (n := 5) (t := 20) (ci := 5) (k := 3) rfl (by omega) s1 (by decide) (by omega) p3.1 (by unfold vp_in; decide +kernel) (by decide +kernel) ?_
  refine x_run (pc' := 16) (lo' := [some (.ref m), some (.int 4)]) (st' := [.int 5, .int 4]) 4 rfl ?_
  refine x_ic 38 rfl rfl (fun hc => absurd hc (show ¬ (5 : Int32) ≤ 4 by decide)) (fun _ => ?_)
  refine x_run (pc' := 20) (lo' := [some (.ref m), some (.int 4)]) (st' := [.ref m]) 1 rfl ?_
  refine c_gr (c := 256) (ne := 0) (v := m + 1) rfl (by decide +kernel) (by omega) s0 (by decide +kernel) (by simp [picR, a_u2]) ?_
  refine x_run (pc' := 24) (lo' := [some (.ref m), some (.int 4)]) (st' := [.int 4, .ref (m + 1)]) 1 rfl ?_
  refine c_new (ci := 5) (ne := 0) rfl (by decide +kernel) p4.1 (show m + 14 + 1 ≤ m + 17 by omega) (show w + 37 + 4 ≤ w + 45 by omega) ?_
  refine x_run (pc' := 28) (lo' := [some (.ref m), some (.int 4)]) (st' := [.ref (m + 14), .ref (m + 14), .int 4, .ref (m + 1)]) 1 rfl ?_
  refine x_ci (j := 62) (ne := 1) (d' := 3) (vs := []) (rest := [.ref (m + 14), .int 4, .ref (m + 1)]) rfl (by decide +kernel) (by decide +kernel) (by decide) (show 0 = _ from by decide +kernel) rfl (Nat.le_of_ble_eq_true rfl) (by omega) (K62 (p := m + 14) (Nat.le_refl 3) p4) ⟨(show m + 17 ≤ m + 17 by omega), (show w + 45 ≤ w + 45 by omega)⟩ ?_
  refine c_as (n := 5) (t := 20) (ci := 5) (k := 4) rfl (by omega) s1 (by decide) (by omega) p4.1 (by unfold vp_in; decide +kernel) (by decide +kernel) ?_
  refine x_run (pc' := 16) (lo' := [some (.ref m), some (.int 5)]) (st' := [.int 5, .int 5]) 4 rfl ?_
  refine x_ic 38 rfl rfl (fun _ => ?_) (fun hc => absurd (show (5 : Int32) ≤ 5 by decide) hc)
  exact x_ret rfl (by decide +kernel)
def pnR (R : Nat → Nat → Option Nat) : Nat → Nat → Nat → Option Nat
  | 0 => R
  | k + 1 => a_u2 (picR (pnR R k) (42 + 3 * k)) 41 k (some (42 + 3 * k))
def pnI (I : Nat → Nat → Int32) : Nat → Nat → Nat → Int32
  | 0 => I
  | k + 1 => picI (pnI I k) (42 + 3 * k)
theorem pnR_40 (R : Nat → Nat → Option Nat) : ∀ k, pnR R k 40 = R 40
  | 0 => rfl
  | k + 1 => by
    show a_u2 (picR (pnR R k) (42 + 3 * k)) 41 k _ 40 = _
    unfold picR
    rw [a_u2_ne (by decide), a_u2_ne (by omega), a_u2_ne (by omega), pnR_40 R k]
theorem isPicS_p {k : Nat} (h : k < 60) : isPicS (42 + 3 * k) := ⟨(isPic_p k h).1.1, (isPic_p k h).1.2.1, (isPic_p k h).1.2.2.1⟩
theorem vp_nI {k n : Nat} (h : k < n) (hn : n < 2 ^ 31) : vp_in (nI k) n := vp_in_nI h hn
set_option maxRecDepth 100000 in
set_option maxHeartbeats 4000000 in
theorem L101 {l : Launch} {X : aX} {d w : Nat} {R : Nat → Nat → Option Nat} {I : Nat → Nat → Int32} {J : Nat → Nat → Int64} (hd : 4 ≤ d) (hR : R 40 1 = some 41) : ∀ (n k : Nat), k + n = 60 → AW l X 101 c101 d none (hcp 222 (w + 480) (pnR R 60) (pnI I 60) J) 20 [some (.ref 40), some (.ref 1), some (.int (nI k))] [] (hcp (42 + 3 * k) (w + 8 * k) (pnR R k) (pnI I k) J) := by
  intro n
  induction n with
  | zero =>
    intro k hk
    have hk : k = 60 := by omega
    subst hk
    refine x_run (pc' := 23) (lo' := [some (.ref 40), some (.ref 1), some (.int (nI 60))]) (st' := [.int 60, .int (nI 60)]) 2 rfl ?_
    refine x_ic 45 rfl rfl (fun _ => ?_) (fun hc => absurd (show (60 : Int32) ≤ nI 60 by decide) hc)
    exact x_ret rfl (by decide +kernel)
  | succ n ih =>
    intro k hk
    refine x_run (pc' := 23) (lo' := [some (.ref 40), some (.ref 1), some (.int (nI k))]) (st' := [.int 60, .int (nI k)]) 2 rfl ?_
    refine x_ic 45 rfl rfl (fun hc => absurd hc (show ¬ nI 60 ≤ nI k from nI_ge (by omega) (by omega))) (fun _ => ?_)
    refine x_run (pc' := 27) (lo' := [some (.ref 40), some (.ref 1), some (.int (nI k))]) (st' := [.ref 40]) 1 rfl ?_
    refine c_gr (c := 449) (ne := 0) (v := 41) rfl (by decide +kernel) (by omega) (by decide +kernel) (by decide +kernel) (by rw [pnR_40]; exact hR) ?_
    refine x_run (pc' := 31) (lo' := [some (.ref 40), some (.ref 1), some (.int (nI k))]) (st' := [.int (nI k), .ref 41]) 1 rfl ?_
    refine c_new (ci := 5) (ne := 0) rfl (by decide +kernel) (isPicS_p (by omega)).1 (show 42 + 3 * k + 1 ≤ 222 by omega) (show w + 8 * k + 4 ≤ w + 480 by omega) ?_
    refine x_run (pc' := 35) (lo' := [some (.ref 40), some (.ref 1), some (.int (nI k))]) (st' := [.ref (42 + 3 * k), .ref (42 + 3 * k), .int (nI k), .ref 41]) 1 rfl ?_
    refine x_ci (j := 62) (ne := 1) (d' := 3) (vs := []) (rest := [.ref (42 + 3 * k), .int (nI k), .ref 41]) rfl (by decide +kernel) (by decide +kernel) (by decide) (show 0 = _ from by decide +kernel) rfl (Nat.le_of_ble_eq_true rfl) (by omega) (K62 (p := 42 + 3 * k) (Nat.le_refl 3) (isPicS_p (by omega))) ⟨show 42 + 3 * k + 1 + 1 + 1 ≤ 222 by omega, show w + 8 * k + 4 + 2 + 2 ≤ w + 480 by omega⟩ ?_
    refine c_as (n := 60) (t := 20) (ci := 5) (k := k) rfl (by omega) (by decide +kernel) (by decide) (by omega) (isPicS_p (by omega)).1 (vp_nI (by omega) (by decide)) (nI_clamp (by omega)) ?_
    refine x_run (pc' := 20) (lo' := [some (.ref 40), some (.ref 1), some (.int (nI k + 1))]) (st' := []) 2 rfl ?_
    rw [nI_1]
    exact ih (k + 1) (by omega)
set_option maxRecDepth 100000 in
set_option maxHeartbeats 4000000 in
theorem K101 {l : Launch} {X : aX} {d w : Nat} {R : Nat → Nat → Option Nat} {I : Nat → Nat → Int32} {J : Nat → Nat → Int64} (hd : 5 ≤ d) : Call l X d 101 [.ref 40, .ref 1] (hcp 41 w R I J) none (hcp 222 (w + 540) (pnR (a_u2 (a_u2 R 40 1 (some 41)) 40 0 (some 1)) 60) (pnI I 60) J) := by
  refine Call.of ok101 (by decide) (Nat.le_of_ble_eq_true rfl) ⟨show 41 ≤ 222 by decide, show w ≤ w + 540 by omega⟩ ?_
  refine x_run (pc' := 1) (lo' := [some (.ref (40)), some (.ref (1)), none]) (st' := [.ref (40)]) 1 rfl ?_
  refine x_oi (ne := 0) rfl (by decide +kernel) (Nat.le_of_ble_eq_true rfl) (by omega) ?_
  refine x_run (pc' := 7) (lo' := [some (.ref (40)), some (.ref (1)), none]) (st' := [.int 60, .ref (40)]) 2 rfl ?_
  refine c_an (ci := 5) (ne := 0) (tg := 20) (N := 60) rfl (by decide +kernel) (by decide) (by decide +kernel) (by decide +kernel) (by decide) (by decide +kernel) (show 41 + 1 ≤ 222 by omega) (show w + 0 + 60 ≤ w + 540 by omega) ?_
  refine c_pF (c := 449) rfl (by decide +kernel) (by decide +kernel) (by decide +kernel) (by decide +kernel) (by decide) (by decide +kernel) (by decide +kernel) ?_
  refine x_run (pc' := 15) (lo' := [some (.ref (40)), some (.ref (1)), none]) (st' := [.ref (1), .ref (40)]) 2 rfl ?_
  refine c_pF (c := 448) rfl (by decide +kernel) (by decide +kernel) (by decide +kernel) (by decide +kernel) (by decide) (by decide +kernel) (by decide +kernel) ?_
  refine x_run (pc' := 20) (lo' := [some (.ref (40)), some (.ref (1)), some (.int 0)]) (st' := []) 2 rfl ?_
  exact L101 (w := w + 60) (R := (a_u2 (a_u2 R 40 1 (some 41)) 40 0 (some 1))) (by omega) rfl 60 0 rfl
def fcR (R : Nat → Nat → Option Nat) : Nat → Nat → Nat → Option Nat
  | 0 => R
  | k + 1 => a_u2 (stR (fcR R k) (222 + 17 * k)) 20 k (some (222 + 17 * k))
def fcI (I : Nat → Nat → Int32) : Nat → Nat → Nat → Int32
  | 0 => I
  | k + 1 => stI (fcI I k) (222 + 17 * k)
theorem stR_lt {R : Nat → Nat → Option Nat} {m a : Nat} (h : a < m) : stR R m a = R a := by
  unfold stR picR
  rw [a_u2_ne (by omega), a_u2_ne (by omega), a_u2_ne (by omega), a_u2_ne (by omega), a_u2_ne (by omega), a_u2_ne (by omega), a_u2_ne (by omega), a_u2_ne (by omega), a_u2_ne (by omega), a_u2_ne (by omega), a_u2_ne (by omega), a_u2_ne (by omega), a_u2_ne (by omega), a_u2_ne (by omega), a_u2_ne (by omega), a_u2_ne (by omega)]
theorem fcR_19 (R : Nat → Nat → Option Nat) : ∀ k, fcR R k 19 = R 19
  | 0 => rfl
  | k + 1 => by
    show a_u2 (stR (fcR R k) (222 + 17 * k)) 20 k _ 19 = _
    rw [a_u2_ne (by decide), stR_lt (by omega), fcR_19 R k]
theorem isStS_21 : isStS 21 := by unfold isStS isPicS; decide +kernel
theorem isPicS_of {p : Nat} (h : isPic p) : isPicS p := ⟨h.1, h.2.1, h.2.2.1⟩
theorem isStS_b (k : Nat) (h : k < 25) : isStS (222 + 17 * k) := by
  have hs := (isSt_b k h).1
  exact ⟨hs.1, hs.2.1, isPicS_of (hs.2.2.2 0 (by decide)).2, isPicS_of (hs.2.2.2 1 (by decide)).2, isPicS_of (hs.2.2.2 2 (by decide)).2, isPicS_of (hs.2.2.2 3 (by decide)).2, isPicS_of (hs.2.2.2 4 (by decide)).2⟩
set_option maxRecDepth 100000 in
set_option maxHeartbeats 4000000 in
theorem L45 {l : Launch} {X : aX} {d w : Nat} {R : Nat → Nat → Option Nat} {I : Nat → Nat → Int32} {J : Nat → Nat → Int64} (hd : 5 ≤ d) (hR : R 19 2 = some 20) : ∀ (n k : Nat), k + n = 25 → AW l X 45 c45 d none (hcp 647 (w + 1150) (fcR R 25) (fcI I 25) J) 64 [some (.ref 19), some (.ref 8), some (.ref 1), some (.int (nI k))] [] (hcp (222 + 17 * k) (w + 46 * k) (fcR R k) (fcI I k) J) := by
  intro n
  induction n with
  | zero =>
    intro k hk
    have hk : k = 25 := by omega
    subst hk
    refine x_run (pc' := 67) (lo' := [some (.ref 19), some (.ref 8), some (.ref 1), some (.int (nI 25))]) (st' := [.int 24, .int (nI 25)]) 2 rfl ?_
    refine x_ic 89 rfl rfl (fun _ => ?_) (fun hc => absurd (show (24 : Int32) < nI 25 by decide) hc)
    exact x_ret rfl (by decide +kernel)
  | succ n ih =>
    intro k hk
    refine x_run (pc' := 67) (lo' := [some (.ref 19), some (.ref 8), some (.ref 1), some (.int (nI k))]) (st' := [.int 24, .int (nI k)]) 2 rfl ?_
    refine x_ic 89 rfl rfl (fun hc => absurd hc (show ¬ nI 24 < nI k from nI_nlt (by omega) (by decide))) (fun _ => ?_)
    refine x_run (pc' := 71) (lo' := [some (.ref 19), some (.ref 8), some (.ref 1), some (.int (nI k))]) (st' := [.ref 19]) 1 rfl ?_
    refine c_gr (c := 194) (ne := 0) (v := 20) rfl (by decide +kernel) (by omega) (by decide +kernel) (by decide +kernel) (by rw [fcR_19]; exact hR) ?_
    refine x_run (pc' := 75) (lo' := [some (.ref 19), some (.ref 8), some (.ref 1), some (.int (nI k))]) (st' := [.int (nI k), .ref 20]) 1 rfl ?_
    refine c_new (ci := 4) (ne := 0) rfl (by decide +kernel) (isStS_b k (by omega)).1 (show 222 + 17 * k + 1 ≤ 647 by omega) (show w + 46 * k + 1 ≤ w + 1150 by omega) ?_
    refine x_run (pc' := 79) (lo' := [some (.ref 19), some (.ref 8), some (.ref 1), some (.int (nI k))]) (st' := [.ref (222 + 17 * k), .ref (222 + 17 * k), .int (nI k), .ref 20]) 1 rfl ?_
    refine x_ci (j := 57) (ne := 0) (d' := 4) (vs := []) (rest := [.ref (222 + 17 * k), .int (nI k), .ref 20]) rfl (by decide +kernel) (by decide +kernel) (by decide) (show 0 = _ from by decide +kernel) rfl (Nat.le_of_ble_eq_true rfl) (by omega) (K57 (m := 222 + 17 * k) (Nat.le_refl 4) (isStS_b k (by omega))) ⟨show 222 + 17 * k + 17 ≤ 647 by omega, show w + 46 * k + 1 + 45 ≤ w + 1150 by omega⟩ ?_
    refine c_as (n := 25) (t := 19) (ci := 4) (k := k) rfl (by omega) (by decide +kernel) (by decide) (by omega) (isStS_b k (by omega)).1 (vp_nI (by omega) (by decide)) (nI_clamp (by omega)) ?_
    refine x_run (pc' := 64) (lo' := [some (.ref 19), some (.ref 8), some (.ref 1), some (.int (nI k + 1))]) (st' := []) 2 rfl ?_
    rw [nI_1]
    exact ih (k + 1) (by omega)
set_option maxRecDepth 100000 in
set_option maxHeartbeats 4000000 in
theorem K45 {l : Launch} {X : aX} {d w : Nat} {R : Nat → Nat → Option Nat} {I : Nat → Nat → Int32} {J : Nat → Nat → Int64} (hd : 6 ≤ d) : Call l X d 45 [.ref 19, .ref 8, .ref 1] (hcp 20 w R I J) none (hcp 647 (w + 1908) (fcR (a_u2 (pnR (a_u2 (a_u2 (a_u2 (a_u2 (a_u2 (a_u2 (stR (a_u2 R 19 2 (some 20)) 21) 19 3 (some 21)) 19 4 (some 38)) 19 5 (some 39)) 19 0 (some 8)) 40 1 (some 41)) 40 0 (some 1)) 60) 19 1 (some 40)) 25) (fcI (pnI (a_u2 (stI I 21) 19 7 (-1)) 60) 25) J) := by
  refine Call.of ok45 (by decide) (Nat.le_of_ble_eq_true rfl) ⟨show 20 ≤ 647 by decide, show w ≤ w + 1908 by omega⟩ ?_
  refine x_run (pc' := 1) (lo' := [some (.ref (19)), some (.ref (8)), some (.ref (1)), none]) (st' := [.ref (19)]) 1 rfl ?_
  refine x_oi (ne := 0) rfl (by decide +kernel) (Nat.le_of_ble_eq_true rfl) (by omega) ?_
  refine x_run (pc' := 7) (lo' := [some (.ref (19)), some (.ref (8)), some (.ref (1)), none]) (st' := [.int 25, .ref (19)]) 2 rfl ?_
  refine c_an (ci := 4) (ne := 0) (tg := 19) (N := 25) rfl (by decide +kernel) (by decide) (by decide +kernel) (by decide +kernel) (by decide) (by decide +kernel) (show 20 + 1 ≤ 647 by omega) (show w + 0 + 25 ≤ w + 1908 by omega) ?_
  refine c_pF (c := 194) rfl (by decide +kernel) (by decide +kernel) (by decide +kernel) (by decide +kernel) (by decide) (by decide +kernel) (by decide +kernel) ?_
  refine x_run (pc' := 14) (lo' := [some (.ref (19)), some (.ref (8)), some (.ref (1)), none]) (st' := [.ref (19)]) 1 rfl ?_
  refine c_new (ci := 4) (ne := 0) rfl (by decide +kernel) (by decide +kernel) (show 21 + 1 ≤ 647 by omega) (show w + 25 + 1 ≤ w + 1908 by omega) ?_
  refine x_run (pc' := 18) (lo' := [some (.ref (19)), some (.ref (8)), some (.ref (1)), none]) (st' := [.ref (21), .ref (21), .ref (19)]) 1 rfl ?_
  refine x_ci (j := 57) (ne := 0) (d' := 4) (vs := []) (rest := [.ref (21), .ref (19)]) rfl (by decide +kernel) (by decide +kernel) (by decide) (show 0 = _ from by decide +kernel) rfl (Nat.le_of_ble_eq_true rfl) (by omega) (K57 (m := 21) (Nat.le_refl 4) isStS_21) ⟨(show 38 ≤ 647 by omega), (show w + 71 ≤ w + 1908 by omega)⟩ ?_
  refine c_pF (c := 195) rfl (by decide +kernel) (by decide +kernel) (by decide +kernel) (by decide +kernel) (by decide) (by decide +kernel) (by decide +kernel) ?_
  refine x_run (pc' := 27) (lo' := [some (.ref (19)), some (.ref (8)), some (.ref (1)), none]) (st' := [.int 25, .ref (19)]) 2 rfl ?_
  refine c_na (tg := 17) (N := 25) rfl (Or.inr (Or.inl ⟨rfl, rfl⟩)) (by decide +kernel) (by decide +kernel) (by decide) (by decide +kernel) (show 38 + 1 ≤ 647 by omega) (show w + 71 + 25 ≤ w + 1908 by omega) ?_
  refine c_pF (c := 196) rfl (by decide +kernel) (by decide +kernel) (by decide +kernel) (by decide +kernel) (by decide) (by decide +kernel) (by decide +kernel) ?_
  refine x_run (pc' := 35) (lo' := [some (.ref (19)), some (.ref (8)), some (.ref (1)), none]) (st' := [.int 120, .ref (19)]) 2 rfl ?_
  refine c_na (tg := 17) (N := 120) rfl (Or.inr (Or.inl ⟨rfl, rfl⟩)) (by decide +kernel) (by decide +kernel) (by decide) (by decide +kernel) (show 39 + 1 ≤ 647 by omega) (show w + 96 + 120 ≤ w + 1908 by omega) ?_
  refine c_pF (c := 197) rfl (by decide +kernel) (by decide +kernel) (by decide +kernel) (by decide +kernel) (by decide) (by decide +kernel) (by decide +kernel) ?_
  refine x_run (pc' := 42) (lo' := [some (.ref (19)), some (.ref (8)), some (.ref (1)), none]) (st' := [.int (-1), .ref (19)]) 2 rfl ?_
  refine c_pi (c := 199) (ne := 0) rfl (by decide +kernel) (by decide +kernel) (by decide) (by decide +kernel) (by decide +kernel) ?_
  refine x_run (pc' := 47) (lo' := [some (.ref (19)), some (.ref (8)), some (.ref (1)), none]) (st' := [.ref (8), .ref (19)]) 2 rfl ?_
  refine c_pF (c := 192) rfl (by decide +kernel) (by decide +kernel) (by decide +kernel) (by decide +kernel) (by decide) (by decide +kernel) (by decide +kernel) ?_
  refine x_run (pc' := 51) (lo' := [some (.ref (19)), some (.ref (8)), some (.ref (1)), none]) (st' := [.ref (19)]) 1 rfl ?_
  refine c_new (ci := 7) (ne := 0) rfl (by decide +kernel) (by decide +kernel) (show 40 + 1 ≤ 647 by omega) (show w + 216 + 2 ≤ w + 1908 by omega) ?_
  refine x_run (pc' := 56) (lo' := [some (.ref (19)), some (.ref (8)), some (.ref (1)), none]) (st' := [.ref (1), .ref (40), .ref (40), .ref (19)]) 2 rfl ?_
  refine x_ci (j := 101) (ne := 0) (d' := 5) (vs := [.ref (1)]) (rest := [.ref (40), .ref (19)]) rfl (by decide +kernel) (by decide +kernel) (by decide) (show 1 = _ from by decide +kernel) rfl (Nat.le_of_ble_eq_true rfl) (by omega) (K101 (Nat.le_refl 5)) ⟨(show 222 ≤ 647 by omega), (show w + 758 ≤ w + 1908 by omega)⟩ ?_
  refine c_pF (c := 193) rfl (by decide +kernel) (by decide +kernel) (by decide +kernel) (by decide +kernel) (by decide) (by decide +kernel) (by decide +kernel) ?_
  refine x_run (pc' := 64) (lo' := [some (.ref (19)), some (.ref (8)), some (.ref (1)), some (.int 0)]) (st' := []) 2 rfl ?_
  exact L45 (w := w + 758) (R := (a_u2 (pnR (a_u2 (a_u2 (a_u2 (a_u2 (a_u2 (a_u2 (stR (a_u2 R 19 2 (some 20)) 21) 19 3 (some 21)) 19 4 (some 38)) 19 5 (some 39)) 19 0 (some 8)) 40 1 (some 41)) 40 0 (some 1)) 60) 19 1 (some 40))) (by omega) rfl 25 0 rfl
set_option maxRecDepth 100000 in
set_option maxHeartbeats 4000000 in
theorem K24 {l : Launch} {X : aX} {d w : Nat} {R : Nat → Nat → Option Nat} {I : Nat → Nat → Int32} {J : Nat → Nat → Int64} (hd : 2 ≤ d) : Call l X d 24 [.ref 1] (hcp 2 w R I J) none (hcp 8 (w + 360) (a_u2 (a_u2 (a_u2 (a_u2 (a_u2 (a_u2 R 1 0 (some 2)) 1 1 (some 3)) 1 2 (some 4)) 1 3 (some 5)) 1 4 (some 6)) 1 5 (some 7)) I J) := by
  refine Call.of ok24 (by decide) (Nat.le_of_ble_eq_true rfl) ⟨show 2 ≤ 8 by decide, show w ≤ w + 360 by omega⟩ ?_
  refine x_run (pc' := 1) (lo' := [some (.ref (1))]) (st' := [.ref (1)]) 1 rfl ?_
  refine x_oi (ne := 0) rfl (by decide +kernel) (Nat.le_of_ble_eq_true rfl) (by omega) ?_
  refine x_run (pc' := 7) (lo' := [some (.ref (1))]) (st' := [.int 60, .ref (1)]) 2 rfl ?_
  refine c_na (tg := 16) (N := 60) rfl (Or.inl ⟨rfl, rfl⟩) (by decide +kernel) (by decide +kernel) (by decide) (by decide +kernel) (show 2 + 1 ≤ 8 by omega) (show w + 0 + 60 ≤ w + 360 by omega) ?_
  refine c_pF (c := 64) rfl (by decide +kernel) (by decide +kernel) (by decide +kernel) (by decide +kernel) (by decide) (by decide +kernel) (by decide +kernel) ?_
  refine x_run (pc' := 15) (lo' := [some (.ref (1))]) (st' := [.int 60, .ref (1)]) 2 rfl ?_
  refine c_na (tg := 16) (N := 60) rfl (Or.inl ⟨rfl, rfl⟩) (by decide +kernel) (by decide +kernel) (by decide) (by decide +kernel) (show 3 + 1 ≤ 8 by omega) (show w + 60 + 60 ≤ w + 360 by omega) ?_
  refine c_pF (c := 65) rfl (by decide +kernel) (by decide +kernel) (by decide +kernel) (by decide +kernel) (by decide) (by decide +kernel) (by decide +kernel) ?_
  refine x_run (pc' := 23) (lo' := [some (.ref (1))]) (st' := [.int 60, .ref (1)]) 2 rfl ?_
  refine c_na (tg := 16) (N := 60) rfl (Or.inl ⟨rfl, rfl⟩) (by decide +kernel) (by decide +kernel) (by decide) (by decide +kernel) (show 4 + 1 ≤ 8 by omega) (show w + 120 + 60 ≤ w + 360 by omega) ?_
  refine c_pF (c := 66) rfl (by decide +kernel) (by decide +kernel) (by decide +kernel) (by decide +kernel) (by decide) (by decide +kernel) (by decide +kernel) ?_
  refine x_run (pc' := 31) (lo' := [some (.ref (1))]) (st' := [.int 60, .ref (1)]) 2 rfl ?_
  refine c_na (tg := 16) (N := 60) rfl (Or.inl ⟨rfl, rfl⟩) (by decide +kernel) (by decide +kernel) (by decide) (by decide +kernel) (show 5 + 1 ≤ 8 by omega) (show w + 180 + 60 ≤ w + 360 by omega) ?_
  refine c_pF (c := 67) rfl (by decide +kernel) (by decide +kernel) (by decide +kernel) (by decide +kernel) (by decide) (by decide +kernel) (by decide +kernel) ?_
  refine x_run (pc' := 39) (lo' := [some (.ref (1))]) (st' := [.int 60, .ref (1)]) 2 rfl ?_
  refine c_na (tg := 16) (N := 60) rfl (Or.inl ⟨rfl, rfl⟩) (by decide +kernel) (by decide +kernel) (by decide) (by decide +kernel) (show 6 + 1 ≤ 8 by omega) (show w + 240 + 60 ≤ w + 360 by omega) ?_
  refine c_pF (c := 68) rfl (by decide +kernel) (by decide +kernel) (by decide +kernel) (by decide +kernel) (by decide) (by decide +kernel) (by decide +kernel) ?_
  refine x_run (pc' := 47) (lo' := [some (.ref (1))]) (st' := [.int 60, .ref (1)]) 2 rfl ?_
  refine c_na (tg := 16) (N := 60) rfl (Or.inl ⟨rfl, rfl⟩) (by decide +kernel) (by decide +kernel) (by decide) (by decide +kernel) (show 7 + 1 ≤ 8 by omega) (show w + 300 + 60 ≤ w + 360 by omega) ?_
  refine c_pF (c := 69) rfl (by decide +kernel) (by decide +kernel) (by decide +kernel) (by decide +kernel) (by decide) (by decide +kernel) (by decide +kernel) ?_
  exact x_ret rfl (by decide +kernel)
set_option maxRecDepth 100000 in
set_option maxHeartbeats 4000000 in
theorem K31 {l : Launch} {X : aX} {d w : Nat} {R : Nat → Nat → Option Nat} {I : Nat → Nat → Int32} {J : Nat → Nat → Int64} (hd : 2 ≤ d) : Call l X d 31 [.ref 8] (hcp 9 w R I J) none (hcp 19 (w + 208) (a_u2 (a_u2 (a_u2 (a_u2 (a_u2 (a_u2 (a_u2 (a_u2 (a_u2 (a_u2 R 8 0 (some 9)) 8 1 (some 10)) 8 2 (some 11)) 8 3 (some 12)) 8 4 (some 13)) 8 5 (some 14)) 8 6 (some 15)) 8 8 (some 16)) 8 9 (some 17)) 8 10 (some 18)) (a_u2 I 18 0 (-1)) J) := by
  refine Call.of ok31 (by decide) (Nat.le_of_ble_eq_true rfl) ⟨show 9 ≤ 19 by decide, show w ≤ w + 208 by omega⟩ ?_
  refine x_run (pc' := 1) (lo' := [some (.ref (8))]) (st' := [.ref (8)]) 1 rfl ?_
  refine x_oi (ne := 0) rfl (by decide +kernel) (Nat.le_of_ble_eq_true rfl) (by omega) ?_
  refine x_run (pc' := 7) (lo' := [some (.ref (8))]) (st' := [.int 24, .ref (8)]) 2 rfl ?_
  refine c_na (tg := 16) (N := 24) rfl (Or.inl ⟨rfl, rfl⟩) (by decide +kernel) (by decide +kernel) (by decide) (by decide +kernel) (show 9 + 1 ≤ 19 by omega) (show w + 0 + 24 ≤ w + 208 by omega) ?_
  refine c_pF (c := 128) rfl (by decide +kernel) (by decide +kernel) (by decide +kernel) (by decide +kernel) (by decide) (by decide +kernel) (by decide +kernel) ?_
  refine x_run (pc' := 15) (lo' := [some (.ref (8))]) (st' := [.int 24, .ref (8)]) 2 rfl ?_
  refine c_na (tg := 16) (N := 24) rfl (Or.inl ⟨rfl, rfl⟩) (by decide +kernel) (by decide +kernel) (by decide) (by decide +kernel) (show 10 + 1 ≤ 19 by omega) (show w + 24 + 24 ≤ w + 208 by omega) ?_
  refine c_pF (c := 129) rfl (by decide +kernel) (by decide +kernel) (by decide +kernel) (by decide +kernel) (by decide) (by decide +kernel) (by decide +kernel) ?_
  refine x_run (pc' := 23) (lo' := [some (.ref (8))]) (st' := [.int 24, .ref (8)]) 2 rfl ?_
  refine c_na (tg := 16) (N := 24) rfl (Or.inl ⟨rfl, rfl⟩) (by decide +kernel) (by decide +kernel) (by decide) (by decide +kernel) (show 11 + 1 ≤ 19 by omega) (show w + 48 + 24 ≤ w + 208 by omega) ?_
  refine c_pF (c := 130) rfl (by decide +kernel) (by decide +kernel) (by decide +kernel) (by decide +kernel) (by decide) (by decide +kernel) (by decide +kernel) ?_
  refine x_run (pc' := 31) (lo' := [some (.ref (8))]) (st' := [.int 24, .ref (8)]) 2 rfl ?_
  refine c_na (tg := 16) (N := 24) rfl (Or.inl ⟨rfl, rfl⟩) (by decide +kernel) (by decide +kernel) (by decide) (by decide +kernel) (show 12 + 1 ≤ 19 by omega) (show w + 72 + 24 ≤ w + 208 by omega) ?_
  refine c_pF (c := 131) rfl (by decide +kernel) (by decide +kernel) (by decide +kernel) (by decide +kernel) (by decide) (by decide +kernel) (by decide +kernel) ?_
  refine x_run (pc' := 39) (lo' := [some (.ref (8))]) (st' := [.int 24, .ref (8)]) 2 rfl ?_
  refine c_na (tg := 16) (N := 24) rfl (Or.inl ⟨rfl, rfl⟩) (by decide +kernel) (by decide +kernel) (by decide) (by decide +kernel) (show 13 + 1 ≤ 19 by omega) (show w + 96 + 24 ≤ w + 208 by omega) ?_
  refine c_pF (c := 132) rfl (by decide +kernel) (by decide +kernel) (by decide +kernel) (by decide +kernel) (by decide) (by decide +kernel) (by decide +kernel) ?_
  refine x_run (pc' := 47) (lo' := [some (.ref (8))]) (st' := [.int 24, .ref (8)]) 2 rfl ?_
  refine c_na (tg := 16) (N := 24) rfl (Or.inl ⟨rfl, rfl⟩) (by decide +kernel) (by decide +kernel) (by decide) (by decide +kernel) (show 14 + 1 ≤ 19 by omega) (show w + 120 + 24 ≤ w + 208 by omega) ?_
  refine c_pF (c := 133) rfl (by decide +kernel) (by decide +kernel) (by decide +kernel) (by decide +kernel) (by decide) (by decide +kernel) (by decide +kernel) ?_
  refine x_run (pc' := 55) (lo' := [some (.ref (8))]) (st' := [.int 48, .ref (8)]) 2 rfl ?_
  refine c_na (tg := 16) (N := 48) rfl (Or.inl ⟨rfl, rfl⟩) (by decide +kernel) (by decide +kernel) (by decide) (by decide +kernel) (show 15 + 1 ≤ 19 by omega) (show w + 144 + 48 ≤ w + 208 by omega) ?_
  refine c_pF (c := 134) rfl (by decide +kernel) (by decide +kernel) (by decide +kernel) (by decide +kernel) (by decide) (by decide +kernel) (by decide +kernel) ?_
  refine x_run (pc' := 62) (lo' := [some (.ref (8))]) (st' := [.int 5, .ref (8)]) 2 rfl ?_
  refine c_na (tg := 16) (N := 5) rfl (Or.inl ⟨rfl, rfl⟩) (by decide +kernel) (by decide +kernel) (by decide) (by decide +kernel) (show 16 + 1 ≤ 19 by omega) (show w + 192 + 5 ≤ w + 208 by omega) ?_
  refine c_pF (c := 136) rfl (by decide +kernel) (by decide +kernel) (by decide +kernel) (by decide +kernel) (by decide) (by decide +kernel) (by decide +kernel) ?_
  refine x_run (pc' := 69) (lo' := [some (.ref (8))]) (st' := [.int 5, .ref (8)]) 2 rfl ?_
  refine c_na (tg := 16) (N := 5) rfl (Or.inl ⟨rfl, rfl⟩) (by decide +kernel) (by decide +kernel) (by decide) (by decide +kernel) (show 17 + 1 ≤ 19 by omega) (show w + 197 + 5 ≤ w + 208 by omega) ?_
  refine c_pF (c := 137) rfl (by decide +kernel) (by decide +kernel) (by decide +kernel) (by decide +kernel) (by decide) (by decide +kernel) (by decide +kernel) ?_
  refine x_run (pc' := 77) (lo' := [some (.ref (8))]) (st' := [.int 6, .ref (8)]) 2 rfl ?_
  refine c_na (tg := 16) (N := 6) rfl (Or.inl ⟨rfl, rfl⟩) (by decide +kernel) (by decide +kernel) (by decide) (by decide +kernel) (show 18 + 1 ≤ 19 by omega) (show w + 202 + 6 ≤ w + 208 by omega) ?_
  refine c_pF (c := 138) rfl (by decide +kernel) (by decide +kernel) (by decide +kernel) (by decide +kernel) (by decide) (by decide +kernel) (by decide +kernel) ?_
  refine x_run (pc' := 83) (lo' := [some (.ref (8))]) (st' := [.ref (8)]) 1 rfl ?_
  refine c_gr (c := 138) (ne := 0) (v := 18) rfl (by decide +kernel) (by decide) (by decide +kernel) (by decide +kernel) rfl ?_
  refine x_run (pc' := 88) (lo' := [some (.ref (8))]) (st' := [.int (-1), .int 0, .ref (18)]) 2 rfl ?_
  refine c_is (n := 6) (k := 0) rfl (by decide) (by decide +kernel) (by unfold vp_in; decide +kernel) (by decide +kernel) ?_
  exact x_ret rfl (by decide +kernel)
def fillJ (J : Nat → Nat → Int64) (x : Int64) : Nat → Nat → Int64 := a_u2 (a_u2 (a_u2 (a_u2 (a_u2 J 649 0 x) 649 1 x) 649 2 x) 649 3 x) 649 4 x
set_option maxRecDepth 100000 in
set_option maxHeartbeats 4000000 in
theorem K128 {l : Launch} {X : aX} {d : Nat} {t : Int32} {a : Int64} {h : aH} : Call l X d 128 [.int t, .long a] h (some (.long ((a <<< (Int32.toInt64 4 &&& 63)) ||| (Int32.toInt64 t)))) h := by
  refine Call.of ok128 (by decide) (Nat.le_of_ble_eq_true rfl) ⟨Nat.le_refl _, Nat.le_refl _⟩ ?_
  refine x_run (pc' := 6) (lo' := [some (.int t), some (.long a), none]) (st' := [.long ((a <<< (Int32.toInt64 4 &&& 63)) ||| (Int32.toInt64 t))]) 6 rfl ?_
  exact x_lret rfl (by decide +kernel)
set_option maxRecDepth 100000 in
set_option maxHeartbeats 4000000 in
theorem K192 {l : Launch} {X : aX} {d w : Nat} {R : Nat → Nat → Option Nat} {I : Nat → Nat → Int32} {J : Nat → Nat → Int64} {m : Nat} {x : Int64} (hm : 649 < m) : Call l X d 192 [.ref 649, .long x] (hcp m w R I J) none (hcp m w R I (fillJ J x)) := by
  refine Call.of ok192 (by decide) (Nat.le_of_ble_eq_true rfl) ⟨Nat.le_refl _, Nat.le_refl _⟩ ?_
  refine x_run (pc' := 3) (lo' := [some (.ref 649), some (.long x), none, some (.int 0), none]) (st' := [.ref 649]) 3 rfl ?_
  refine x_ln (n := 5) (t := 18) rfl (hcp_sh hm (by decide +kernel)) (by decide) ?_
  refine x_run (pc' := 6) (lo' := [some (.ref 649), some (.long x), none, some (.int 0), some (.int 5)]) (st' := []) 1 rfl ?_
  refine x_run (pc' := 9) (lo' := [some (.ref 649), some (.long x), none, some (.int 0), some (.int 5)]) (st' := [.int 5, .int 0]) 2 rfl ?_
  refine x_ic 22 rfl rfl (fun hc => absurd hc (show ¬ (5 : Int32) ≤ 0 by decide)) (fun _ => ?_)
  refine x_run (pc' := 15) (lo' := [some (.ref 649), some (.long x), none, some (.int 0), some (.int 5)]) (st' := [.long x, .int 0, .ref 649]) 3 rfl ?_
  refine c_lt (n := 5) (k := 0) rfl hm (by decide +kernel) (by unfold vp_in; decide +kernel) (by decide +kernel) ?_
  refine x_run (pc' := 6) (lo' := [some (.ref 649), some (.long x), none, some (.int 1), some (.int 5)]) (st' := []) 2 rfl ?_
  refine x_run (pc' := 9) (lo' := [some (.ref 649), some (.long x), none, some (.int 1), some (.int 5)]) (st' := [.int 5, .int 1]) 2 rfl ?_
  refine x_ic 22 rfl rfl (fun hc => absurd hc (show ¬ (5 : Int32) ≤ 1 by decide)) (fun _ => ?_)
  refine x_run (pc' := 15) (lo' := [some (.ref 649), some (.long x), none, some (.int 1), some (.int 5)]) (st' := [.long x, .int 1, .ref 649]) 3 rfl ?_
  refine c_lt (n := 5) (k := 1) rfl hm (by decide +kernel) (by unfold vp_in; decide +kernel) (by decide +kernel) ?_
  refine x_run (pc' := 6) (lo' := [some (.ref 649), some (.long x), none, some (.int 2), some (.int 5)]) (st' := []) 2 rfl ?_
  refine x_run (pc' := 9) (lo' := [some (.ref 649), some (.long x), none, some (.int 2), some (.int 5)]) (st' := [.int 5, .int 2]) 2 rfl ?_
  refine x_ic 22 rfl rfl (fun hc => absurd hc (show ¬ (5 : Int32) ≤ 2 by decide)) (fun _ => ?_)
  refine x_run (pc' := 15) (lo' := [some (.ref 649), some (.long x), none, some (.int 2), some (.int 5)]) (st' := [.long x, .int 2, .ref 649]) 3 rfl ?_
  refine c_lt (n := 5) (k := 2) rfl hm (by decide +kernel) (by unfold vp_in; decide +kernel) (by decide +kernel) ?_
  refine x_run (pc' := 6) (lo' := [some (.ref 649), some (.long x), none, some (.int 3), some (.int 5)]) (st' := []) 2 rfl ?_
  refine x_run (pc' := 9) (lo' := [some (.ref 649), some (.long x), none, some (.int 3), some (.int 5)]) (st' := [.int 5, .int 3]) 2 rfl ?_
  refine x_ic 22 rfl rfl (fun hc => absurd hc (show ¬ (5 : Int32) ≤ 3 by decide)) (fun _ => ?_)
  refine x_run (pc' := 15) (lo' := [some (.ref 649), some (.long x), none, some (.int 3), some (.int 5)]) (st' := [.long x, .int 3, .ref 649]) 3 rfl ?_
  refine c_lt (n := 5) (k := 3) rfl hm (by decide +kernel) (by unfold vp_in; decide +kernel) (by decide +kernel) ?_
  refine x_run (pc' := 6) (lo' := [some (.ref 649), some (.long x), none, some (.int 4), some (.int 5)]) (st' := []) 2 rfl ?_
  refine x_run (pc' := 9) (lo' := [some (.ref 649), some (.long x), none, some (.int 4), some (.int 5)]) (st' := [.int 5, .int 4]) 2 rfl ?_
  refine x_ic 22 rfl rfl (fun hc => absurd hc (show ¬ (5 : Int32) ≤ 4 by decide)) (fun _ => ?_)
  refine x_run (pc' := 15) (lo' := [some (.ref 649), some (.long x), none, some (.int 4), some (.int 5)]) (st' := [.long x, .int 4, .ref 649]) 3 rfl ?_
  refine c_lt (n := 5) (k := 4) rfl hm (by decide +kernel) (by unfold vp_in; decide +kernel) (by decide +kernel) ?_
  refine x_run (pc' := 6) (lo' := [some (.ref 649), some (.long x), none, some (.int 5), some (.int 5)]) (st' := []) 2 rfl ?_
  refine x_run (pc' := 9) (lo' := [some (.ref 649), some (.long x), none, some (.int 5), some (.int 5)]) (st' := [.int 5, .int 5]) 2 rfl ?_
  refine x_ic 22 rfl rfl (fun _ => ?_) (fun hc => absurd (show (5 : Int32) ≤ 5 by decide) hc)
  exact x_ret rfl (by decide +kernel)
set_option maxRecDepth 100000 in
set_option maxHeartbeats 4000000 in
theorem K110 {l : Launch} {X : aX} {d w : Nat} {R : Nat → Nat → Option Nat} {I : Nat → Nat → Int32} {J : Nat → Nat → Int64} (hd : 2 ≤ d) : Call l X d 110 [.ref 647, .ref 8, .ref 1] (hcp 648 w R I J) none (hcp 650 (w + 13) (a_u2 (a_u2 (a_u2 (a_u2 R 647 2 (some 648)) 647 5 (some 649)) 647 0 (some 8)) 647 1 (some 1)) (a_u2 I 647 7 (-1)) (fillJ J (((0 : Int64) <<< (Int32.toInt64 4 &&& 63)) ||| (Int32.toInt64 8)))) := by
  refine Call.of ok110 (by decide) (Nat.le_of_ble_eq_true rfl) ⟨show 648 ≤ 650 by decide, show w ≤ w + 13 by omega⟩ ?_
  refine x_run (pc' := 1) (lo' := [some (.ref (647)), some (.ref (8)), some (.ref (1))]) (st' := [.ref (647)]) 1 rfl ?_
  refine x_oi (ne := 0) rfl (by decide +kernel) (Nat.le_of_ble_eq_true rfl) (by omega) ?_
  refine x_run (pc' := 7) (lo' := [some (.ref (647)), some (.ref (8)), some (.ref (1))]) (st' := [.int 8, .ref (647)]) 2 rfl ?_
  refine c_na (tg := 16) (N := 8) rfl (Or.inl ⟨rfl, rfl⟩) (by decide +kernel) (by decide +kernel) (by decide) (by decide +kernel) (show 648 + 1 ≤ 650 by omega) (show w + 0 + 8 ≤ w + 13 by omega) ?_
  refine c_pF (c := 514) rfl (by decide +kernel) (by decide +kernel) (by decide +kernel) (by decide +kernel) (by decide) (by decide +kernel) (by decide +kernel) ?_
  refine x_run (pc' := 14) (lo' := [some (.ref (647)), some (.ref (8)), some (.ref (1))]) (st' := [.int 5, .ref (647)]) 2 rfl ?_
  refine c_na (tg := 18) (N := 5) rfl (Or.inr (Or.inr ⟨rfl, rfl⟩)) (by decide +kernel) (by decide +kernel) (by decide) (by decide +kernel) (show 649 + 1 ≤ 650 by omega) (show w + 8 + 5 ≤ w + 13 by omega) ?_
  refine c_pF (c := 517) rfl (by decide +kernel) (by decide +kernel) (by decide +kernel) (by decide +kernel) (by decide) (by decide +kernel) (by decide +kernel) ?_
  refine x_run (pc' := 21) (lo' := [some (.ref (647)), some (.ref (8)), some (.ref (1))]) (st' := [.int (-1), .ref (647)]) 2 rfl ?_
  refine c_pi (c := 519) (ne := 0) rfl (by decide +kernel) (by decide +kernel) (by decide) (by decide +kernel) (by decide +kernel) ?_
  refine x_run (pc' := 26) (lo' := [some (.ref (647)), some (.ref (8)), some (.ref (1))]) (st' := [.ref (8), .ref (647)]) 2 rfl ?_
  refine c_pF (c := 512) rfl (by decide +kernel) (by decide +kernel) (by decide +kernel) (by decide +kernel) (by decide) (by decide +kernel) (by decide +kernel) ?_
  refine x_run (pc' := 31) (lo' := [some (.ref (647)), some (.ref (8)), some (.ref (1))]) (st' := [.ref (1), .ref (647)]) 2 rfl ?_
  refine c_pF (c := 513) rfl (by decide +kernel) (by decide +kernel) (by decide +kernel) (by decide +kernel) (by decide) (by decide +kernel) (by decide +kernel) ?_
  refine x_run (pc' := 35) (lo' := [some (.ref (647)), some (.ref (8)), some (.ref (1))]) (st' := [.ref (647)]) 1 rfl ?_
  refine c_gr (c := 517) (ne := 0) (v := 649) rfl (by decide +kernel) (by decide) (by decide +kernel) (by decide +kernel) rfl ?_
  refine x_run (pc' := 41) (lo' := [some (.ref (647)), some (.ref (8)), some (.ref (1))]) (st' := [.long 0, .int 8, .ref (649)]) 2 rfl ?_
  refine x_cs (j := 128) (ne := 0) (d' := 1) (vs := [.int 8, .long 0]) (rest := [.ref 649]) rfl (by decide +kernel) (by decide +kernel) (by decide) (show 2 = _ from by decide +kernel) rfl (Nat.le_of_ble_eq_true rfl) (by omega) K128 ⟨Nat.le_refl _, Nat.le_refl _⟩ ?_
  refine x_cs (j := 192) (ne := 0) (d' := 1) (vs := [.ref 649, .long (((0 : Int64) <<< (Int32.toInt64 4 &&& 63)) ||| (Int32.toInt64 8))]) (rest := []) rfl (by decide +kernel) (by decide +kernel) (by decide) (show 2 = _ from by decide +kernel) rfl (Nat.le_of_ble_eq_true rfl) (by omega) (K192 (by decide)) ⟨Nat.le_refl _, Nat.le_refl _⟩ ?_
  exact x_ret rfl (by decide +kernel)
set_option maxRecDepth 100000 in
set_option maxHeartbeats 4000000 in
theorem K1 {l : Launch} {X : aX} {d w : Nat} {R : Nat → Nat → Option Nat} {I : Nat → Nat → Int32} {J : Nat → Nat → Int64} (hd : 7 ≤ d) : Call l X d 1 [.ref 0] (hcp 1 w R I J) none (hcp 650 (w + 2524) (a_u2 (a_u2 (a_u2 (a_u2 (a_u2 (a_u2 (fcR (a_u2 (pnR (a_u2 (a_u2 (a_u2 (a_u2 (a_u2 (a_u2 (stR (a_u2 (a_u2 (a_u2 (a_u2 (a_u2 (a_u2 (a_u2 (a_u2 (a_u2 (a_u2 (a_u2 (a_u2 (a_u2 (a_u2 (a_u2 (a_u2 (a_u2 (a_u2 (a_u2 R 1 0 (some 2)) 1 1 (some 3)) 1 2 (some 4)) 1 3 (some 5)) 1 4 (some 6)) 1 5 (some 7)) 0 0 (some 1)) 8 0 (some 9)) 8 1 (some 10)) 8 2 (some 11)) 8 3 (some 12)) 8 4 (some 13)) 8 5 (some 14)) 8 6 (some 15)) 8 8 (some 16)) 8 9 (some 17)) 8 10 (some 18)) 0 1 (some 8)) 19 2 (some 20)) 21) 19 3 (some 21)) 19 4 (some 38)) 19 5 (some 39)) 19 0 (some 8)) 40 1 (some 41)) 40 0 (some 1)) 60) 19 1 (some 40)) 25) 0 2 (some 19)) 647 2 (some 648)) 647 5 (some 649)) 647 0 (some 8)) 647 1 (some 1)) 0 3 (some 647)) (a_u2 (fcI (pnI (a_u2 (stI (a_u2 I 18 0 (-1)) 21) 19 7 (-1)) 60) 25) 647 7 (-1)) (fillJ J (((0 : Int64) <<< (Int32.toInt64 4 &&& 63)) ||| (Int32.toInt64 8)))) := by
  refine Call.of ok1 (by decide) (Nat.le_of_ble_eq_true rfl) ⟨show 1 ≤ 650 by decide, show w ≤ w + 2524 by omega⟩ ?_
  refine x_run (pc' := 1) (lo' := [some (.ref (0))]) (st' := [.ref (0)]) 1 rfl ?_
  refine x_oi (ne := 0) rfl (by decide +kernel) (Nat.le_of_ble_eq_true rfl) (by omega) ?_
  refine x_run (pc' := 5) (lo' := [some (.ref (0))]) (st' := [.ref (0)]) 1 rfl ?_
  refine c_new (ci := 1) (ne := 0) rfl (by decide +kernel) (by decide +kernel) (show 1 + 1 ≤ 650 by omega) (show w + 0 + 7 ≤ w + 2524 by omega) ?_
  refine x_run (pc' := 9) (lo' := [some (.ref (0))]) (st' := [.ref (1), .ref (1), .ref (0)]) 1 rfl ?_
  refine x_ci (j := 24) (ne := 1) (d' := 2) (vs := []) (rest := [.ref (1), .ref (0)]) rfl (by decide +kernel) (by decide +kernel) (by decide) (show 0 = _ from by decide +kernel) rfl (Nat.le_of_ble_eq_true rfl) (by omega) (K24 (Nat.le_refl 2)) ⟨(show 8 ≤ 650 by omega), (show w + 367 ≤ w + 2524 by omega)⟩ ?_
  refine c_pF (c := 0) rfl (by decide +kernel) (by decide +kernel) (by decide +kernel) (by decide +kernel) (by decide) (by decide +kernel) (by decide +kernel) ?_
  refine x_run (pc' := 16) (lo' := [some (.ref (0))]) (st' := [.ref (0)]) 1 rfl ?_
  refine c_new (ci := 2) (ne := 0) rfl (by decide +kernel) (by decide +kernel) (show 8 + 1 ≤ 650 by omega) (show w + 367 + 12 ≤ w + 2524 by omega) ?_
  refine x_run (pc' := 20) (lo' := [some (.ref (0))]) (st' := [.ref (8), .ref (8), .ref (0)]) 1 rfl ?_
  refine x_ci (j := 31) (ne := 0) (d' := 2) (vs := []) (rest := [.ref (8), .ref (0)]) rfl (by decide +kernel) (by decide +kernel) (by decide) (show 0 = _ from by decide +kernel) rfl (Nat.le_of_ble_eq_true rfl) (by omega) (K31 (Nat.le_refl 2)) ⟨(show 19 ≤ 650 by omega), (show w + 587 ≤ w + 2524 by omega)⟩ ?_
  refine c_pF (c := 1) rfl (by decide +kernel) (by decide +kernel) (by decide +kernel) (by decide +kernel) (by decide) (by decide +kernel) (by decide +kernel) ?_
  refine x_run (pc' := 27) (lo' := [some (.ref (0))]) (st' := [.ref (0)]) 1 rfl ?_
  refine c_new (ci := 3) (ne := 0) rfl (by decide +kernel) (by decide +kernel) (show 19 + 1 ≤ 650 by omega) (show w + 587 + 8 ≤ w + 2524 by omega) ?_
  refine x_run (pc' := 32) (lo' := [some (.ref (0))]) (st' := [.ref (0), .ref (19), .ref (19), .ref (0)]) 2 rfl ?_
  refine c_gr (c := 1) (ne := 0) (v := 8) rfl (by decide +kernel) (by decide) (by decide +kernel) (by decide +kernel) rfl ?_
  refine x_run (pc' := 36) (lo' := [some (.ref (0))]) (st' := [.ref (0), .ref (8), .ref (19), .ref (19), .ref (0)]) 1 rfl ?_
  refine c_gr (c := 0) (ne := 0) (v := 1) rfl (by decide +kernel) (by decide) (by decide +kernel) (by decide +kernel) rfl ?_
  refine x_ci (j := 45) (ne := 0) (d' := 6) (vs := [.ref (8), .ref (1)]) (rest := [.ref (19), .ref (0)]) rfl (by decide +kernel) (by decide +kernel) (by decide) (show 2 = _ from by decide +kernel) rfl (Nat.le_of_ble_eq_true rfl) (by omega) (K45 (Nat.le_refl 6)) ⟨(show 647 ≤ 650 by omega), (show w + 2503 ≤ w + 2524 by omega)⟩ ?_
  refine c_pF (c := 2) rfl (by decide +kernel) (by decide +kernel) (by decide +kernel) (by decide +kernel) (by decide) (by decide +kernel) (by decide +kernel) ?_
  refine x_run (pc' := 46) (lo' := [some (.ref (0))]) (st' := [.ref (0)]) 1 rfl ?_
  refine c_new (ci := 8) (ne := 0) rfl (by decide +kernel) (by decide +kernel) (show 647 + 1 ≤ 650 by omega) (show w + 2503 + 8 ≤ w + 2524 by omega) ?_
  refine x_run (pc' := 51) (lo' := [some (.ref (0))]) (st' := [.ref (0), .ref (647), .ref (647), .ref (0)]) 2 rfl ?_
  refine c_gr (c := 1) (ne := 0) (v := 8) rfl (by decide +kernel) (by decide) (by decide +kernel) (by decide +kernel) rfl ?_
  refine x_run (pc' := 55) (lo' := [some (.ref (0))]) (st' := [.ref (0), .ref (8), .ref (647), .ref (647), .ref (0)]) 1 rfl ?_
  refine c_gr (c := 0) (ne := 0) (v := 1) rfl (by decide +kernel) (by decide) (by decide +kernel) (by decide +kernel) rfl ?_
  refine x_ci (j := 110) (ne := 0) (d' := 2) (vs := [.ref (8), .ref (1)]) (rest := [.ref (647), .ref (0)]) rfl (by decide +kernel) (by decide +kernel) (by decide) (show 2 = _ from by decide +kernel) rfl (Nat.le_of_ble_eq_true rfl) (by omega) (K110 (Nat.le_refl 2)) ⟨(show 650 ≤ 650 by omega), (show w + 2524 ≤ w + 2524 by omega)⟩ ?_
  refine c_pF (c := 3) rfl (by decide +kernel) (by decide +kernel) (by decide +kernel) (by decide +kernel) (by decide) (by decide +kernel) (by decide +kernel) ?_
  exact x_ret rfl (by decide +kernel)
def mdI (I : Nat → Nat → Int32) : Nat → Nat → Nat → Int32
  | 0 => I
  | k + 1 => a_u2 (a_u2 (mdI I k) 661 k (-1)) 662 k (-1)
def heldI (I : Nat → Nat → Int32) : Nat → Nat → Int32 := a_u2 (a_u2 (a_u2 (a_u2 (a_u2 I 680 0 8) 680 1 8) 680 2 8) 680 3 8) 680 4 8
def mdR (R : Nat → Nat → Option Nat) : Nat → Nat → Option Nat := (a_u2 (a_u2 (a_u2 (a_u2 (a_u2 (a_u2 (a_u2 (a_u2 (a_u2 (a_u2 (a_u2 (a_u2 (a_u2 (a_u2 (a_u2 (a_u2 (a_u2 (a_u2 (a_u2 (a_u2 (a_u2 (a_u2 (a_u2 (a_u2 (a_u2 (a_u2 (a_u2 (a_u2 (a_u2 (a_u2 (a_u2 (a_u2 (a_u2 (a_u2 (a_u2 R 650 1 (some 651)) 650 2 (some 652)) 650 3 (some 653)) 650 4 (some 654)) 650 6 (some 655)) 650 7 (some 656)) 650 8 (some 657)) 650 9 (some 658)) 650 10 (some 659)) 650 11 (some 660)) 650 12 (some 661)) 650 13 (some 662)) 650 15 (some 663)) 650 17 (some 664)) 650 18 (some 665)) 650 19 (some 666)) 650 20 (some 667)) 650 21 (some 668)) 650 23 (some 669)) 650 24 (some 670)) 650 25 (some 671)) 650 26 (some 672)) 650 27 (some 673)) 650 28 (some 674)) 650 30 (some 675)) 650 31 (some 676)) 650 33 (some 677)) 650 34 (some 678)) 650 36 (some 679)) 650 40 (some 680)) 650 41 (some 681)) 650 44 (some 682)) 650 45 (some 683)) 650 46 (some 684)) 650 47 (some 685))
set_option maxRecDepth 100000 in
set_option maxHeartbeats 4000000 in
theorem L131 {l : Launch} {X : aX} {d w : Nat} {R : Nat → Nat → Option Nat} {I : Nat → Nat → Int32} {J : Nat → Nat → Int64} (h1 : R 650 12 = some 661) (h2 : R 650 13 = some 662) : ∀ (n k : Nat), k + n = 49 → AW l X 131 c131 d none (hcp 686 w R (heldI (mdI I 49)) J) 315 [some (.ref 650), some (.int (nI 49))] [] (hcp 686 w R (mdI I 49) J) → AW l X 131 c131 d none (hcp 686 w R (heldI (mdI I 49)) J) 289 [some (.ref 650), some (.int (nI k))] [] (hcp 686 w R (mdI I k) J) := by
  intro n
  induction n with
  | zero =>
    intro k hk K
    have hk : k = 49 := by omega
    subst hk
    refine x_run (pc' := 292) (lo' := [some (.ref 650), some (.int (nI 49))]) (st' := [.int 49, .int (nI 49)]) 2 rfl ?_
    exact x_ic 315 rfl rfl (fun _ => K) (fun hc => absurd (show (49 : Int32) ≤ nI 49 by decide) hc)
  | succ n ih =>
    intro k hk K
    refine x_run (pc' := 292) (lo' := [some (.ref 650), some (.int (nI k))]) (st' := [.int 49, .int (nI k)]) 2 rfl ?_
    refine x_ic 315 rfl rfl (fun hc => absurd hc (show ¬ nI 49 ≤ nI k from nI_ge (by omega) (by omega))) (fun _ => ?_)
    refine x_run (pc' := 296) (lo' := [some (.ref 650), some (.int (nI k))]) (st' := [.ref 650]) 1 rfl ?_
    refine c_gr (c := 588) (ne := 0) (v := 661) rfl (by decide +kernel) (by decide) (by decide +kernel) (by decide +kernel) h1 ?_
    refine x_run (pc' := 301) (lo' := [some (.ref 650), some (.int (nI k))]) (st' := [.int (-1), .int (nI k), .ref 661]) 2 rfl ?_
    refine c_is (n := 49) (k := k) rfl (by decide) (by decide +kernel) (vp_nI (by omega) (by decide)) (nI_clamp (by omega)) ?_
    refine x_run (pc' := 303) (lo' := [some (.ref 650), some (.int (nI k))]) (st' := [.ref 650]) 1 rfl ?_
    refine c_gr (c := 589) (ne := 0) (v := 662) rfl (by decide +kernel) (by decide) (by decide +kernel) (by decide +kernel) h2 ?_
    refine x_run (pc' := 308) (lo' := [some (.ref 650), some (.int (nI k))]) (st' := [.int (-1), .int (nI k), .ref 662]) 2 rfl ?_
    refine c_is (n := 49) (k := k) rfl (by decide) (by decide +kernel) (vp_nI (by omega) (by decide)) (nI_clamp (by omega)) ?_
    refine x_run (pc' := 289) (lo' := [some (.ref 650), some (.int (nI k + 1))]) (st' := []) 2 rfl ?_
    rw [nI_1]
    exact ih (k + 1) (by omega) K
set_option maxRecDepth 100000 in
set_option maxHeartbeats 4000000 in
theorem K131 {l : Launch} {X : aX} {d w : Nat} {R : Nat → Nat → Option Nat} {I : Nat → Nat → Int32} {J : Nat → Nat → Int64} (hd : 2 ≤ d) : Call l X d 131 [.ref 650] (hcp 651 w R I J) none (hcp 686 (w + 2031) (mdR R) (heldI (mdI (a_u2 I 650 39 (-1)) 49)) J) := by
  refine Call.of ok131 (by decide) (Nat.le_of_ble_eq_true rfl) ⟨show 651 ≤ 686 by decide, show w ≤ w + 2031 by omega⟩ ?_
  refine x_run (pc' := 1) (lo' := [some (.ref (650)), none]) (st' := [.ref (650)]) 1 rfl ?_
  refine x_oi (ne := 0) rfl (by decide +kernel) (Nat.le_of_ble_eq_true rfl) (by omega) ?_
  refine x_run (pc' := 7) (lo' := [some (.ref (650)), none]) (st' := [.int 60, .ref (650)]) 2 rfl ?_
  refine c_na (tg := 16) (N := 60) rfl (Or.inl ⟨rfl, rfl⟩) (by decide +kernel) (by decide +kernel) (by decide) (by decide +kernel) (show 651 + 1 ≤ 686 by omega) (show w + 0 + 60 ≤ w + 2031 by omega) ?_
  refine c_pF (c := 577) rfl (by decide +kernel) (by decide +kernel) (by decide +kernel) (by decide +kernel) (by decide) (by decide +kernel) (by decide +kernel) ?_
  refine x_run (pc' := 15) (lo' := [some (.ref (650)), none]) (st' := [.int 60, .ref (650)]) 2 rfl ?_
  refine c_na (tg := 16) (N := 60) rfl (Or.inl ⟨rfl, rfl⟩) (by decide +kernel) (by decide +kernel) (by decide) (by decide +kernel) (show 652 + 1 ≤ 686 by omega) (show w + 60 + 60 ≤ w + 2031 by omega) ?_
  refine c_pF (c := 578) rfl (by decide +kernel) (by decide +kernel) (by decide +kernel) (by decide +kernel) (by decide) (by decide +kernel) (by decide +kernel) ?_
  refine x_run (pc' := 23) (lo' := [some (.ref (650)), none]) (st' := [.int 60, .ref (650)]) 2 rfl ?_
  refine c_na (tg := 16) (N := 60) rfl (Or.inl ⟨rfl, rfl⟩) (by decide +kernel) (by decide +kernel) (by decide) (by decide +kernel) (show 653 + 1 ≤ 686 by omega) (show w + 120 + 60 ≤ w + 2031 by omega) ?_
  refine c_pF (c := 579) rfl (by decide +kernel) (by decide +kernel) (by decide +kernel) (by decide +kernel) (by decide) (by decide +kernel) (by decide +kernel) ?_
  refine x_run (pc' := 31) (lo' := [some (.ref (650)), none]) (st' := [.int 60, .ref (650)]) 2 rfl ?_
  refine c_na (tg := 16) (N := 60) rfl (Or.inl ⟨rfl, rfl⟩) (by decide +kernel) (by decide +kernel) (by decide) (by decide +kernel) (show 654 + 1 ≤ 686 by omega) (show w + 180 + 60 ≤ w + 2031 by omega) ?_
  refine c_pF (c := 580) rfl (by decide +kernel) (by decide +kernel) (by decide +kernel) (by decide +kernel) (by decide) (by decide +kernel) (by decide +kernel) ?_
  refine x_run (pc' := 39) (lo' := [some (.ref (650)), none]) (st' := [.int 24, .ref (650)]) 2 rfl ?_
  refine c_na (tg := 16) (N := 24) rfl (Or.inl ⟨rfl, rfl⟩) (by decide +kernel) (by decide +kernel) (by decide) (by decide +kernel) (show 655 + 1 ≤ 686 by omega) (show w + 240 + 24 ≤ w + 2031 by omega) ?_
  refine c_pF (c := 582) rfl (by decide +kernel) (by decide +kernel) (by decide +kernel) (by decide +kernel) (by decide) (by decide +kernel) (by decide +kernel) ?_
  refine x_run (pc' := 47) (lo' := [some (.ref (650)), none]) (st' := [.int 24, .ref (650)]) 2 rfl ?_
  refine c_na (tg := 16) (N := 24) rfl (Or.inl ⟨rfl, rfl⟩) (by decide +kernel) (by decide +kernel) (by decide) (by decide +kernel) (show 656 + 1 ≤ 686 by omega) (show w + 264 + 24 ≤ w + 2031 by omega) ?_
  refine c_pF (c := 583) rfl (by decide +kernel) (by decide +kernel) (by decide +kernel) (by decide +kernel) (by decide) (by decide +kernel) (by decide +kernel) ?_
  refine x_run (pc' := 55) (lo' := [some (.ref (650)), none]) (st' := [.int 24, .ref (650)]) 2 rfl ?_
  refine c_na (tg := 16) (N := 24) rfl (Or.inl ⟨rfl, rfl⟩) (by decide +kernel) (by decide +kernel) (by decide) (by decide +kernel) (show 657 + 1 ≤ 686 by omega) (show w + 288 + 24 ≤ w + 2031 by omega) ?_
  refine c_pF (c := 584) rfl (by decide +kernel) (by decide +kernel) (by decide +kernel) (by decide +kernel) (by decide) (by decide +kernel) (by decide +kernel) ?_
  refine x_run (pc' := 63) (lo' := [some (.ref (650)), none]) (st' := [.int 24, .ref (650)]) 2 rfl ?_
  refine c_na (tg := 16) (N := 24) rfl (Or.inl ⟨rfl, rfl⟩) (by decide +kernel) (by decide +kernel) (by decide) (by decide +kernel) (show 658 + 1 ≤ 686 by omega) (show w + 312 + 24 ≤ w + 2031 by omega) ?_
  refine c_pF (c := 585) rfl (by decide +kernel) (by decide +kernel) (by decide +kernel) (by decide +kernel) (by decide) (by decide +kernel) (by decide +kernel) ?_
  refine x_run (pc' := 71) (lo' := [some (.ref (650)), none]) (st' := [.int 24, .ref (650)]) 2 rfl ?_
  refine c_na (tg := 16) (N := 24) rfl (Or.inl ⟨rfl, rfl⟩) (by decide +kernel) (by decide +kernel) (by decide) (by decide +kernel) (show 659 + 1 ≤ 686 by omega) (show w + 336 + 24 ≤ w + 2031 by omega) ?_
  refine c_pF (c := 586) rfl (by decide +kernel) (by decide +kernel) (by decide +kernel) (by decide +kernel) (by decide) (by decide +kernel) (by decide +kernel) ?_
  refine x_run (pc' := 79) (lo' := [some (.ref (650)), none]) (st' := [.int 24, .ref (650)]) 2 rfl ?_
  refine c_na (tg := 16) (N := 24) rfl (Or.inl ⟨rfl, rfl⟩) (by decide +kernel) (by decide +kernel) (by decide) (by decide +kernel) (show 660 + 1 ≤ 686 by omega) (show w + 360 + 24 ≤ w + 2031 by omega) ?_
  refine c_pF (c := 587) rfl (by decide +kernel) (by decide +kernel) (by decide +kernel) (by decide +kernel) (by decide) (by decide +kernel) (by decide +kernel) ?_
  refine x_run (pc' := 87) (lo' := [some (.ref (650)), none]) (st' := [.int 49, .ref (650)]) 2 rfl ?_
  refine c_na (tg := 16) (N := 49) rfl (Or.inl ⟨rfl, rfl⟩) (by decide +kernel) (by decide +kernel) (by decide) (by decide +kernel) (show 661 + 1 ≤ 686 by omega) (show w + 384 + 49 ≤ w + 2031 by omega) ?_
  refine c_pF (c := 588) rfl (by decide +kernel) (by decide +kernel) (by decide +kernel) (by decide +kernel) (by decide) (by decide +kernel) (by decide +kernel) ?_
  refine x_run (pc' := 95) (lo' := [some (.ref (650)), none]) (st' := [.int 49, .ref (650)]) 2 rfl ?_
  refine c_na (tg := 16) (N := 49) rfl (Or.inl ⟨rfl, rfl⟩) (by decide +kernel) (by decide +kernel) (by decide) (by decide +kernel) (show 662 + 1 ≤ 686 by omega) (show w + 433 + 49 ≤ w + 2031 by omega) ?_
  refine c_pF (c := 589) rfl (by decide +kernel) (by decide +kernel) (by decide +kernel) (by decide +kernel) (by decide) (by decide +kernel) (by decide +kernel) ?_
  refine x_run (pc' := 103) (lo' := [some (.ref (650)), none]) (st' := [.int 6, .ref (650)]) 2 rfl ?_
  refine c_na (tg := 16) (N := 6) rfl (Or.inl ⟨rfl, rfl⟩) (by decide +kernel) (by decide +kernel) (by decide) (by decide +kernel) (show 663 + 1 ≤ 686 by omega) (show w + 482 + 6 ≤ w + 2031 by omega) ?_
  refine c_pF (c := 591) rfl (by decide +kernel) (by decide +kernel) (by decide +kernel) (by decide +kernel) (by decide) (by decide +kernel) (by decide +kernel) ?_
  refine x_run (pc' := 111) (lo' := [some (.ref (650)), none]) (st' := [.int 8, .ref (650)]) 2 rfl ?_
  refine c_na (tg := 16) (N := 8) rfl (Or.inl ⟨rfl, rfl⟩) (by decide +kernel) (by decide +kernel) (by decide) (by decide +kernel) (show 664 + 1 ≤ 686 by omega) (show w + 488 + 8 ≤ w + 2031 by omega) ?_
  refine c_pF (c := 593) rfl (by decide +kernel) (by decide +kernel) (by decide +kernel) (by decide +kernel) (by decide) (by decide +kernel) (by decide +kernel) ?_
  refine x_run (pc' := 119) (lo' := [some (.ref (650)), none]) (st' := [.int 25, .ref (650)]) 2 rfl ?_
  refine c_na (tg := 17) (N := 25) rfl (Or.inr (Or.inl ⟨rfl, rfl⟩)) (by decide +kernel) (by decide +kernel) (by decide) (by decide +kernel) (show 665 + 1 ≤ 686 by omega) (show w + 496 + 25 ≤ w + 2031 by omega) ?_
  refine c_pF (c := 594) rfl (by decide +kernel) (by decide +kernel) (by decide +kernel) (by decide +kernel) (by decide) (by decide +kernel) (by decide +kernel) ?_
  refine x_run (pc' := 127) (lo' := [some (.ref (650)), none]) (st' := [.int 125, .ref (650)]) 2 rfl ?_
  refine c_na (tg := 16) (N := 125) rfl (Or.inl ⟨rfl, rfl⟩) (by decide +kernel) (by decide +kernel) (by decide) (by decide +kernel) (show 666 + 1 ≤ 686 by omega) (show w + 521 + 125 ≤ w + 2031 by omega) ?_
  refine c_pF (c := 595) rfl (by decide +kernel) (by decide +kernel) (by decide +kernel) (by decide +kernel) (by decide) (by decide +kernel) (by decide +kernel) ?_
  refine x_run (pc' := 136) (lo' := [some (.ref (650)), none]) (st' := [.int 500, .ref (650)]) 2 rfl ?_
  refine c_na (tg := 16) (N := 500) rfl (Or.inl ⟨rfl, rfl⟩) (by decide +kernel) (by decide +kernel) (by decide) (by decide +kernel) (show 667 + 1 ≤ 686 by omega) (show w + 646 + 500 ≤ w + 2031 by omega) ?_
  refine c_pF (c := 596) rfl (by decide +kernel) (by decide +kernel) (by decide +kernel) (by decide +kernel) (by decide) (by decide +kernel) (by decide +kernel) ?_
  refine x_run (pc' := 144) (lo' := [some (.ref (650)), none]) (st' := [.int 120, .ref (650)]) 2 rfl ?_
  refine c_na (tg := 17) (N := 120) rfl (Or.inr (Or.inl ⟨rfl, rfl⟩)) (by decide +kernel) (by decide +kernel) (by decide) (by decide +kernel) (show 668 + 1 ≤ 686 by omega) (show w + 1146 + 120 ≤ w + 2031 by omega) ?_
  refine c_pF (c := 597) rfl (by decide +kernel) (by decide +kernel) (by decide +kernel) (by decide +kernel) (by decide) (by decide +kernel) (by decide +kernel) ?_
  refine x_run (pc' := 151) (lo' := [some (.ref (650)), none]) (st' := [.int 5, .ref (650)]) 2 rfl ?_
  refine c_na (tg := 16) (N := 5) rfl (Or.inl ⟨rfl, rfl⟩) (by decide +kernel) (by decide +kernel) (by decide) (by decide +kernel) (show 669 + 1 ≤ 686 by omega) (show w + 1266 + 5 ≤ w + 2031 by omega) ?_
  refine c_pF (c := 599) rfl (by decide +kernel) (by decide +kernel) (by decide +kernel) (by decide +kernel) (by decide) (by decide +kernel) (by decide +kernel) ?_
  refine x_run (pc' := 159) (lo' := [some (.ref (650)), none]) (st' := [.int 20, .ref (650)]) 2 rfl ?_
  refine c_na (tg := 16) (N := 20) rfl (Or.inl ⟨rfl, rfl⟩) (by decide +kernel) (by decide +kernel) (by decide) (by decide +kernel) (show 670 + 1 ≤ 686 by omega) (show w + 1271 + 20 ≤ w + 2031 by omega) ?_
  refine c_pF (c := 600) rfl (by decide +kernel) (by decide +kernel) (by decide +kernel) (by decide +kernel) (by decide) (by decide +kernel) (by decide +kernel) ?_
  refine x_run (pc' := 167) (lo' := [some (.ref (650)), none]) (st' := [.int 60, .ref (650)]) 2 rfl ?_
  refine c_na (tg := 16) (N := 60) rfl (Or.inl ⟨rfl, rfl⟩) (by decide +kernel) (by decide +kernel) (by decide) (by decide +kernel) (show 671 + 1 ≤ 686 by omega) (show w + 1291 + 60 ≤ w + 2031 by omega) ?_
  refine c_pF (c := 601) rfl (by decide +kernel) (by decide +kernel) (by decide +kernel) (by decide +kernel) (by decide) (by decide +kernel) (by decide +kernel) ?_
  refine x_run (pc' := 176) (lo' := [some (.ref (650)), none]) (st' := [.int 240, .ref (650)]) 2 rfl ?_
  refine c_na (tg := 16) (N := 240) rfl (Or.inl ⟨rfl, rfl⟩) (by decide +kernel) (by decide +kernel) (by decide) (by decide +kernel) (show 672 + 1 ≤ 686 by omega) (show w + 1351 + 240 ≤ w + 2031 by omega) ?_
  refine c_pF (c := 602) rfl (by decide +kernel) (by decide +kernel) (by decide +kernel) (by decide +kernel) (by decide) (by decide +kernel) (by decide +kernel) ?_
  refine x_run (pc' := 184) (lo' := [some (.ref (650)), none]) (st' := [.int 60, .ref (650)]) 2 rfl ?_
  refine c_na (tg := 16) (N := 60) rfl (Or.inl ⟨rfl, rfl⟩) (by decide +kernel) (by decide +kernel) (by decide) (by decide +kernel) (show 673 + 1 ≤ 686 by omega) (show w + 1591 + 60 ≤ w + 2031 by omega) ?_
  refine c_pF (c := 603) rfl (by decide +kernel) (by decide +kernel) (by decide +kernel) (by decide +kernel) (by decide) (by decide +kernel) (by decide +kernel) ?_
  refine x_run (pc' := 192) (lo' := [some (.ref (650)), none]) (st' := [.int 60, .ref (650)]) 2 rfl ?_
  refine c_na (tg := 17) (N := 60) rfl (Or.inr (Or.inl ⟨rfl, rfl⟩)) (by decide +kernel) (by decide +kernel) (by decide) (by decide +kernel) (show 674 + 1 ≤ 686 by omega) (show w + 1651 + 60 ≤ w + 2031 by omega) ?_
  refine c_pF (c := 604) rfl (by decide +kernel) (by decide +kernel) (by decide +kernel) (by decide +kernel) (by decide) (by decide +kernel) (by decide +kernel) ?_
  refine x_run (pc' := 200) (lo' := [some (.ref (650)), none]) (st' := [.int 60, .ref (650)]) 2 rfl ?_
  refine c_na (tg := 16) (N := 60) rfl (Or.inl ⟨rfl, rfl⟩) (by decide +kernel) (by decide +kernel) (by decide) (by decide +kernel) (show 675 + 1 ≤ 686 by omega) (show w + 1711 + 60 ≤ w + 2031 by omega) ?_
  refine c_pF (c := 606) rfl (by decide +kernel) (by decide +kernel) (by decide +kernel) (by decide +kernel) (by decide) (by decide +kernel) (by decide +kernel) ?_
  refine x_run (pc' := 208) (lo' := [some (.ref (650)), none]) (st' := [.int 60, .ref (650)]) 2 rfl ?_
  refine c_na (tg := 16) (N := 60) rfl (Or.inl ⟨rfl, rfl⟩) (by decide +kernel) (by decide +kernel) (by decide) (by decide +kernel) (show 676 + 1 ≤ 686 by omega) (show w + 1771 + 60 ≤ w + 2031 by omega) ?_
  refine c_pF (c := 607) rfl (by decide +kernel) (by decide +kernel) (by decide +kernel) (by decide +kernel) (by decide) (by decide +kernel) (by decide +kernel) ?_
  refine x_run (pc' := 216) (lo' := [some (.ref (650)), none]) (st' := [.int 60, .ref (650)]) 2 rfl ?_
  refine c_na (tg := 16) (N := 60) rfl (Or.inl ⟨rfl, rfl⟩) (by decide +kernel) (by decide +kernel) (by decide) (by decide +kernel) (show 677 + 1 ≤ 686 by omega) (show w + 1831 + 60 ≤ w + 2031 by omega) ?_
  refine c_pF (c := 609) rfl (by decide +kernel) (by decide +kernel) (by decide +kernel) (by decide +kernel) (by decide) (by decide +kernel) (by decide +kernel) ?_
  refine x_run (pc' := 224) (lo' := [some (.ref (650)), none]) (st' := [.int 60, .ref (650)]) 2 rfl ?_
  refine c_na (tg := 16) (N := 60) rfl (Or.inl ⟨rfl, rfl⟩) (by decide +kernel) (by decide +kernel) (by decide) (by decide +kernel) (show 678 + 1 ≤ 686 by omega) (show w + 1891 + 60 ≤ w + 2031 by omega) ?_
  refine c_pF (c := 610) rfl (by decide +kernel) (by decide +kernel) (by decide +kernel) (by decide +kernel) (by decide) (by decide +kernel) (by decide +kernel) ?_
  refine x_run (pc' := 231) (lo' := [some (.ref (650)), none]) (st' := [.int 4, .ref (650)]) 2 rfl ?_
  refine c_na (tg := 16) (N := 4) rfl (Or.inl ⟨rfl, rfl⟩) (by decide +kernel) (by decide +kernel) (by decide) (by decide +kernel) (show 679 + 1 ≤ 686 by omega) (show w + 1951 + 4 ≤ w + 2031 by omega) ?_
  refine c_pF (c := 612) rfl (by decide +kernel) (by decide +kernel) (by decide +kernel) (by decide +kernel) (by decide) (by decide +kernel) (by decide +kernel) ?_
  refine x_run (pc' := 238) (lo' := [some (.ref (650)), none]) (st' := [.int (-1), .ref (650)]) 2 rfl ?_
  refine c_pi (c := 615) (ne := 0) rfl (by decide +kernel) (by decide +kernel) (by decide) (by decide +kernel) (by decide +kernel) ?_
  refine x_run (pc' := 243) (lo' := [some (.ref (650)), none]) (st' := [.int 5, .ref (650)]) 2 rfl ?_
  refine c_na (tg := 16) (N := 5) rfl (Or.inl ⟨rfl, rfl⟩) (by decide +kernel) (by decide +kernel) (by decide) (by decide +kernel) (show 680 + 1 ≤ 686 by omega) (show w + 1955 + 5 ≤ w + 2031 by omega) ?_
  refine c_pF (c := 616) rfl (by decide +kernel) (by decide +kernel) (by decide +kernel) (by decide +kernel) (by decide) (by decide +kernel) (by decide +kernel) ?_
  refine x_run (pc' := 250) (lo' := [some (.ref (650)), none]) (st' := [.int 5, .ref (650)]) 2 rfl ?_
  refine c_na (tg := 18) (N := 5) rfl (Or.inr (Or.inr ⟨rfl, rfl⟩)) (by decide +kernel) (by decide +kernel) (by decide) (by decide +kernel) (show 681 + 1 ≤ 686 by omega) (show w + 1960 + 5 ≤ w + 2031 by omega) ?_
  refine c_pF (c := 617) rfl (by decide +kernel) (by decide +kernel) (by decide +kernel) (by decide +kernel) (by decide) (by decide +kernel) (by decide +kernel) ?_
  refine x_run (pc' := 258) (lo' := [some (.ref (650)), none]) (st' := [.int 16, .ref (650)]) 2 rfl ?_
  refine c_na (tg := 16) (N := 16) rfl (Or.inl ⟨rfl, rfl⟩) (by decide +kernel) (by decide +kernel) (by decide) (by decide +kernel) (show 682 + 1 ≤ 686 by omega) (show w + 1965 + 16 ≤ w + 2031 by omega) ?_
  refine c_pF (c := 620) rfl (by decide +kernel) (by decide +kernel) (by decide +kernel) (by decide +kernel) (by decide) (by decide +kernel) (by decide +kernel) ?_
  refine x_run (pc' := 266) (lo' := [some (.ref (650)), none]) (st' := [.int 18, .ref (650)]) 2 rfl ?_
  refine c_na (tg := 16) (N := 18) rfl (Or.inl ⟨rfl, rfl⟩) (by decide +kernel) (by decide +kernel) (by decide) (by decide +kernel) (show 683 + 1 ≤ 686 by omega) (show w + 1981 + 18 ≤ w + 2031 by omega) ?_
  refine c_pF (c := 621) rfl (by decide +kernel) (by decide +kernel) (by decide +kernel) (by decide +kernel) (by decide) (by decide +kernel) (by decide +kernel) ?_
  refine x_run (pc' := 274) (lo' := [some (.ref (650)), none]) (st' := [.int 16, .ref (650)]) 2 rfl ?_
  refine c_na (tg := 16) (N := 16) rfl (Or.inl ⟨rfl, rfl⟩) (by decide +kernel) (by decide +kernel) (by decide) (by decide +kernel) (show 684 + 1 ≤ 686 by omega) (show w + 1999 + 16 ≤ w + 2031 by omega) ?_
  refine c_pF (c := 622) rfl (by decide +kernel) (by decide +kernel) (by decide +kernel) (by decide +kernel) (by decide) (by decide +kernel) (by decide +kernel) ?_
  refine x_run (pc' := 282) (lo' := [some (.ref (650)), none]) (st' := [.int 16, .ref (650)]) 2 rfl ?_
  refine c_na (tg := 18) (N := 16) rfl (Or.inr (Or.inr ⟨rfl, rfl⟩)) (by decide +kernel) (by decide +kernel) (by decide) (by decide +kernel) (show 685 + 1 ≤ 686 by omega) (show w + 2015 + 16 ≤ w + 2031 by omega) ?_
  refine c_pF (c := 623) rfl (by decide +kernel) (by decide +kernel) (by decide +kernel) (by decide +kernel) (by decide) (by decide +kernel) (by decide +kernel) ?_
  refine x_run (pc' := 289) (lo' := [some (.ref (650)), some (.int 0)]) (st' := []) 2 rfl ?_
  refine L131 (w := w + 2031) (R := mdR R) (I := (a_u2 I 650 39 (-1))) rfl rfl 49 0 rfl ?_
  refine x_run (pc' := 319) (lo' := [some (.ref (650)), some (.int 0)]) (st' := [.int 5, .int 0]) 4 rfl ?_
  refine x_ic 336 rfl rfl (fun hc => absurd hc (show ¬ (5 : Int32) ≤ 0 by decide)) (fun _ => ?_)
  refine x_run (pc' := 323) (lo' := [some (.ref (650)), some (.int 0)]) (st' := [.ref (650)]) 1 rfl ?_
  refine c_gr (c := 616) (ne := 0) (v := 680) rfl (by decide +kernel) (by decide) (by decide +kernel) (by decide +kernel) rfl ?_
  refine x_run (pc' := 329) (lo' := [some (.ref (650)), some (.int 0)]) (st' := [.int 8, .int 0, .ref (680)]) 2 rfl ?_
  refine c_is (n := 5) (k := 0) rfl (by decide) (by decide +kernel) (by unfold vp_in; decide +kernel) (by decide +kernel) ?_
  refine x_run (pc' := 319) (lo' := [some (.ref (650)), some (.int 1)]) (st' := [.int 5, .int 1]) 4 rfl ?_
  refine x_ic 336 rfl rfl (fun hc => absurd hc (show ¬ (5 : Int32) ≤ 1 by decide)) (fun _ => ?_)
  refine x_run (pc' := 323) (lo' := [some (.ref (650)), some (.int 1)]) (st' := [.ref (650)]) 1 rfl ?_
  refine c_gr (c := 616) (ne := 0) (v := 680) rfl (by decide +kernel) (by decide) (by decide +kernel) (by decide +kernel) rfl ?_
  refine x_run (pc' := 329) (lo' := [some (.ref (650)), some (.int 1)]) (st' := [.int 8, .int 1, .ref (680)]) 2 rfl ?_
  refine c_is (n := 5) (k := 1) rfl (by decide) (by decide +kernel) (by unfold vp_in; decide +kernel) (by decide +kernel) ?_
  refine x_run (pc' := 319) (lo' := [some (.ref (650)), some (.int 2)]) (st' := [.int 5, .int 2]) 4 rfl ?_
  refine x_ic 336 rfl rfl (fun hc => absurd hc (show ¬ (5 : Int32) ≤ 2 by decide)) (fun _ => ?_)
  refine x_run (pc' := 323) (lo' := [some (.ref (650)), some (.int 2)]) (st' := [.ref (650)]) 1 rfl ?_
  refine c_gr (c := 616) (ne := 0) (v := 680) rfl (by decide +kernel) (by decide) (by decide +kernel) (by decide +kernel) rfl ?_
  refine x_run (pc' := 329) (lo' := [some (.ref (650)), some (.int 2)]) (st' := [.int 8, .int 2, .ref (680)]) 2 rfl ?_
  refine c_is (n := 5) (k := 2) rfl (by decide) (by decide +kernel) (by unfold vp_in; decide +kernel) (by decide +kernel) ?_
  refine x_run (pc' := 319) (lo' := [some (.ref (650)), some (.int 3)]) (st' := [.int 5, .int 3]) 4 rfl ?_
  refine x_ic 336 rfl rfl (fun hc => absurd hc (show ¬ (5 : Int32) ≤ 3 by decide)) (fun _ => ?_)
  refine x_run (pc' := 323) (lo' := [some (.ref (650)), some (.int 3)]) (st' := [.ref (650)]) 1 rfl ?_
  refine c_gr (c := 616) (ne := 0) (v := 680) rfl (by decide +kernel) (by decide) (by decide +kernel) (by decide +kernel) rfl ?_
  refine x_run (pc' := 329) (lo' := [some (.ref (650)), some (.int 3)]) (st' := [.int 8, .int 3, .ref (680)]) 2 rfl ?_
  refine c_is (n := 5) (k := 3) rfl (by decide) (by decide +kernel) (by unfold vp_in; decide +kernel) (by decide +kernel) ?_
  refine x_run (pc' := 319) (lo' := [some (.ref (650)), some (.int 4)]) (st' := [.int 5, .int 4]) 4 rfl ?_
  refine x_ic 336 rfl rfl (fun hc => absurd hc (show ¬ (5 : Int32) ≤ 4 by decide)) (fun _ => ?_)
  refine x_run (pc' := 323) (lo' := [some (.ref (650)), some (.int 4)]) (st' := [.ref (650)]) 1 rfl ?_
  refine c_gr (c := 616) (ne := 0) (v := 680) rfl (by decide +kernel) (by decide) (by decide +kernel) (by decide +kernel) rfl ?_
  refine x_run (pc' := 329) (lo' := [some (.ref (650)), some (.int 4)]) (st' := [.int 8, .int 4, .ref (680)]) 2 rfl ?_
  refine c_is (n := 5) (k := 4) rfl (by decide) (by decide +kernel) (by unfold vp_in; decide +kernel) (by decide +kernel) ?_
  refine x_run (pc' := 319) (lo' := [some (.ref (650)), some (.int 5)]) (st' := [.int 5, .int 5]) 4 rfl ?_
  refine x_ic 336 rfl rfl (fun _ => ?_) (fun hc => absurd (show (5 : Int32) ≤ 5 by decide) hc)
  exact x_ret rfl (by decide +kernel)
