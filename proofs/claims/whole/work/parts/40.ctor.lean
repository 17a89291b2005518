/-! constructors (wip/whole/gen40.py): heaps of which the first m cells have their last shapes; references, ints and longs are given tables -/
def hcp (m w : Nat) (R : Nat → Nat → Option Nat) (I : Nat → Nat → Int32) (J : Nat → Nat → Int64) : aH := ((m, w), (fun a => if a < m then sh0 a else (31, 0)), I, J, R)
theorem hcp_nw {m w t n k : Nat} {R : Nat → Nat → Option Nat} {I : Nat → Nat → Int32} {J : Nat → Nat → Int64} (hs : sh0 m = (t, n)) : a_nw (hcp m w R I J) t n k = hcp (m + 1) (w + k) R I J := by
  unfold a_nw hcp
  refine Prod.ext rfl (Prod.ext ?_ rfl)
  funext i
  show (if i = m then (t, n) else if i < m then sh0 i else (31, 0)) = if i < m + 1 then sh0 i else (31, 0)
  by_cases h : i = m
  · subst h; rw [if_pos rfl, if_pos (by omega), hs]
  · rw [if_neg h]
    by_cases h2 : i < m
    · rw [if_pos h2, if_pos (by omega)]
    · rw [if_neg h2, if_neg (by omega)]
theorem hcp_sh {m w a : Nat} {s : Nat × Nat} {R : Nat → Nat → Option Nat} {I : Nat → Nat → Int32} {J : Nat → Nat → Int64} (ha : a < m) (hs : sh0 a = s) : (hcp m w R I J).2.1 a = s := by
  show (if a < m then sh0 a else (31, 0)) = s
  rw [if_pos ha, hs]
section AC
variable {l : Launch} {X : aX} {i : Nat} {cf : aK} {d : Nat} {r : Option Value} {h' : aH} {pc : Nat} {lo : List (Option Value)} {st : List Value} {m w : Nat} {R : Nat → Nat → Option Nat} {I : Nat → Nat → Int32} {J : Nat → Nat → Int64}
theorem c_new {ix ci ne : Nat} (hc : cf pc = some (.new ix)) (hl : a_find a_CL (m_o i) ix = some (ci, ne)) (hs : sh0 m = (ci, 0)) (hn : m + 1 ≤ h'.1.1) (hw : w + a_nf ci ≤ h'.1.2) (K : AW l X i cf d r h' (pc + 3) lo (.ref m :: st) (hcp (m + 1) (w + a_nf ci) R I J)) : AW l X i cf d r h' pc lo st (hcp m w R I J) := x_new hc hl hn hw (by rw [hcp_nw hs]; exact K)
theorem c_na {t : ArrayType} {tg : Nat} {n : Int32} {N : Nat} (hc : cf pc = some (.newarray t)) (ht : (t = .int ∧ tg = 16) ∨ (t = .boolean ∧ tg = 17) ∨ (t = .long ∧ tg = 18)) (hn0 : ¬ n < 0) (hN : n.toNatClampNeg = N) (hbt : N * 8 ≤ 536870912) (hs : sh0 m = (tg, N)) (hn : m + 1 ≤ h'.1.1) (hw : w + N ≤ h'.1.2) (K : AW l X i cf d r h' (pc + 2) lo (.ref m :: st) (hcp (m + 1) (w + N) R I J)) : AW l X i cf d r h' pc lo (.int n :: st) (hcp m w R I J) := x_na hc ht hn0 hN hbt hn hw (by rw [hcp_nw hs]; exact K)
theorem c_an {ix ci ne tg : Nat} {n : Int32} {N : Nat} (hc : cf pc = some (.anewarray ix)) (hl : a_find a_CL (m_o i) ix = some (ci, ne)) (ht : (ci = 4 ∧ tg = 19) ∨ (ci = 5 ∧ tg = 20)) (hn0 : ¬ n < 0) (hN : n.toNatClampNeg = N) (hbt : N * 4 ≤ 536870912) (hs : sh0 m = (tg, N)) (hn : m + 1 ≤ h'.1.1) (hw : w + N ≤ h'.1.2) (K : AW l X i cf d r h' (pc + 3) lo (.ref m :: st) (hcp (m + 1) (w + N) R I J)) : AW l X i cf d r h' pc lo (.int n :: st) (hcp m w R I J) := x_an hc hl ht hn0 hN hbt hn hw (by rw [hcp_nw hs]; exact K)
theorem c_pF {ix c a v : Nat} (hc : cf pc = some (.putfield ix)) (hf : a_find a_FL (m_o i) ix = some (c, 0)) (hnf : (a_Tf (c / 64) (c % 64)).2.2.2 = true) (hk : m_k i = 2) (ho : c / 64 = m_o i) (ha : a < m) (hs : sh0 a = (c / 64, 0)) (hkd : a_kd (c / 64) (c % 64) = 3) (K : AW l X i cf d r h' (pc + 3) lo st (hcp m w (a_u2 R a (c % 64) (some v)) I J)) : AW l X i cf d r h' pc lo (.ref v :: .ref a :: st) (hcp m w R I J) := x_pF hc hf hnf hk ho (by rw [hcp_sh ha hs]) (h2 := hcp m w (a_u2 R a (c % 64) (some v)) I J) (by unfold a_pv; rw [hkd]; rfl) K
theorem c_pi {ix c ne a : Nat} {x : Int32} (hc : cf pc = some (.putfield ix)) (hf : a_find a_FL (m_o i) ix = some (c, ne)) (hnf : (a_Tf (c / 64) (c % 64)).2.2.2 = false) (ha : a < m) (hs : sh0 a = (c / 64, 0)) (hkd : a_kd (c / 64) (c % 64) = 0) (K : AW l X i cf d r h' (pc + 3) lo st (hcp m w R (a_u2 I a (c % 64) x) J)) : AW l X i cf d r h' pc lo (.int x :: .ref a :: st) (hcp m w R I J) := x_pf hc hf hnf (by rw [hcp_sh ha hs]) (h2 := hcp m w R (a_u2 I a (c % 64) x) J) (by unfold a_pv; rw [hkd]; rfl) K
theorem c_gr {ix c ne a v : Nat} (hc : cf pc = some (.getfield ix)) (hf : a_find a_FL (m_o i) ix = some (c, ne)) (ha : a < m) (hs : sh0 a = (c / 64, 0)) (hkd : a_kd (c / 64) (c % 64) = 3) (hv : R a (c % 64) = some v) (K : AW l X i cf d r h' (pc + 3) lo (.ref v :: st) (hcp m w R I J)) : AW l X i cf d r h' pc lo (.ref a :: st) (hcp m w R I J) := x_gf hc hf (by rw [hcp_sh ha hs]) (by unfold a_gv; rw [hkd, if_neg (by decide), if_pos rfl]; show va_rf (R a (c % 64)) = _; rw [hv]; rfl) K
theorem c_as {a n t v ci : Nat} {j : Int32} {k : Nat} (hc : cf pc = some .aastore) (ha : a < m) (hs : sh0 a = (t, n)) (ht : (t = 19 ∧ ci = 4) ∨ (t = 20 ∧ ci = 5)) (hva : v < m) (hv : sh0 v = (ci, 0)) (hj : vp_in j n) (hk : j.toNatClampNeg = k) (K : AW l X i cf d r h' (pc + 1) lo st (hcp m w (a_u2 R a k (some v)) I J)) : AW l X i cf d r h' pc lo (.ref v :: .int j :: .ref a :: st) (hcp m w R I J) := x_as hc (hcp_sh ha hs) ht (by rw [hcp_sh hva hv]) hj (by rw [hk]; exact K)
theorem c_is {a n : Nat} {j x : Int32} {k : Nat} (hc : cf pc = some .iastore) (ha : a < m) (hs : sh0 a = (16, n)) (hj : vp_in j n) (hk : j.toNatClampNeg = k) (K : AW l X i cf d r h' (pc + 1) lo st (hcp m w R (a_u2 I a k x) J)) : AW l X i cf d r h' pc lo (.int x :: .int j :: .ref a :: st) (hcp m w R I J) := x_is hc (hcp_sh ha hs) hj (by rw [hk]; exact K)
theorem c_lt {a n : Nat} {j : Int32} {x : Int64} {k : Nat} (hc : cf pc = some .lastore) (ha : a < m) (hs : sh0 a = (18, n)) (hj : vp_in j n) (hk : j.toNatClampNeg = k) (K : AW l X i cf d r h' (pc + 1) lo st (hcp m w R I (a_u2 J a k x))) : AW l X i cf d r h' pc lo (.long x :: .int j :: .ref a :: st) (hcp m w R I J) := x_lt hc (hcp_sh ha hs) hj (by rw [hk]; exact K)
end AC
def rngI (I : Nat → Nat → Int32) (a : Nat) : Nat → Nat → Int32 := a_u2 (a_u2 I a 0 1001) a 1 (-1001)
set_option maxRecDepth 100000 in
/-- Range.clear, on any heap -/
theorem K80 {l : Launch} {X : aX} {d m w a : Nat} {R : Nat → Nat → Option Nat} {I : Nat → Nat → Int32} {J : Nat → Nat → Int64} (ha : a < m) (hs : sh0 a = (6, 0)) : Call l X d 80 [.ref a] (hcp m w R I J) none (hcp m w R (rngI I a) J) := by
  refine Call.of ok80 (by decide) (Nat.le_of_ble_eq_true rfl) ⟨Nat.le_refl _, Nat.le_refl _⟩ ?_
  refine x_run (pc' := 4) (lo' := [some (.ref a)]) (st' := [.int 1001, .ref a]) 2 rfl ?_
  refine c_pi (c := 384) (ne := 0) rfl (by decide +kernel) (by decide +kernel) ha hs (by decide +kernel) ?_
  refine x_run (pc' := 11) (lo' := [some (.ref a)]) (st' := [.int (-1001), .ref a]) 2 rfl ?_
  refine c_pi (c := 385) (ne := 0) rfl (by decide +kernel) (by decide +kernel) ha hs (by decide +kernel) ?_
  exact x_ret rfl (by decide +kernel)
set_option maxRecDepth 100000 in
theorem K79 {l : Launch} {X : aX} {d m w a : Nat} {R : Nat → Nat → Option Nat} {I : Nat → Nat → Int32} {J : Nat → Nat → Int64} (hd : 2 ≤ d) (ha : a < m) (hs : sh0 a = (6, 0)) : Call l X d 79 [.ref a] (hcp m w R I J) none (hcp m w R (rngI I a) J) := by
  refine Call.of ok79 (by decide) (Nat.le_of_ble_eq_true rfl) ⟨Nat.le_refl _, Nat.le_refl _⟩ ?_
  refine x_run (pc' := 1) (lo' := [some (.ref a)]) (st' := [.ref a]) 1 rfl ?_
  refine x_oi (ne := 0) rfl (by decide +kernel) (Nat.le_of_ble_eq_true rfl) (by omega) ?_
  refine x_run (pc' := 5) (lo' := [some (.ref a)]) (st' := [.ref a]) 1 rfl ?_
  refine x_cv (j := 80) (ne := 0) (d' := 1) (vs := []) (rest := []) rfl (by decide +kernel) (by decide +kernel) (by decide) (show 0 = _ from by decide +kernel) (by rw [hcp_sh ha hs]; decide +kernel) (by decide +kernel) rfl (Nat.le_of_ble_eq_true rfl) (by omega) (K80 ha hs) ⟨Nat.le_refl _, Nat.le_refl _⟩ ?_
  exact x_ret rfl (by decide +kernel)
def picR (R : Nat → Nat → Option Nat) (p : Nat) : Nat → Nat → Option Nat := a_u2 (a_u2 R p 0 (some (p + 1))) p 1 (some (p + 2))
def picI (I : Nat → Nat → Int32) (p : Nat) : Nat → Nat → Int32 := rngI (rngI I (p + 1)) (p + 2)
def isPicS (p : Nat) : Prop := sh0 p = (5, 0) ∧ sh0 (p + 1) = (6, 0) ∧ sh0 (p + 2) = (6, 0)
set_option maxRecDepth 100000 in
set_option maxHeartbeats 4000000 in
/-- Picture(), of the cell p that was made last -/
theorem K62 {l : Launch} {X : aX} {d p w : Nat} {R : Nat → Nat → Option Nat} {I : Nat → Nat → Int32} {J : Nat → Nat → Int64} (hd : 3 ≤ d) (hs : isPicS p) : Call l X d 62 [.ref p] (hcp (p + 1) w R I J) none (hcp (p + 1 + 1 + 1) (w + 2 + 2) (picR R p) (picI I p) J) := by
  obtain ⟨s0, s1, s2⟩ := hs
  refine Call.of ok62 (by decide) (Nat.le_of_ble_eq_true rfl) ⟨show p + 1 ≤ p + 1 + 1 + 1 by omega, show w ≤ w + 2 + 2 by omega⟩ ?_
  refine x_run (pc' := 1) (lo' := [some (.ref p)]) (st' := [.ref p]) 1 rfl ?_
  refine x_oi (ne := 0) rfl (by decide +kernel) (Nat.le_of_ble_eq_true rfl) (by omega) ?_
  refine x_run (pc' := 5) (lo' := [some (.ref p)]) (st' := [.ref p]) 1 rfl ?_
  refine c_new (ci := 6) (ne := 0) rfl (by decide +kernel) s1 (show p + 1 + 1 ≤ p + 1 + 1 + 1 by omega) (show w + 2 ≤ w + 2 + 2 by omega) ?_
  refine x_run (pc' := 9) (lo' := [some (.ref p)]) (st' := [.ref (p + 1), .ref (p + 1), .ref p]) 1 rfl ?_
  refine x_ci (j := 79) (ne := 0) (d' := 2) (vs := []) (rest := [.ref (p + 1), .ref p]) rfl (by decide +kernel) (by decide +kernel) (by decide) (show 0 = _ from by decide +kernel) rfl (Nat.le_of_ble_eq_true rfl) (by omega) (K79 (Nat.le_refl 2) (by omega) s1) ⟨show p + 1 + 1 ≤ p + 1 + 1 + 1 by omega, show w + 2 ≤ w + 2 + 2 by omega⟩ ?_
  refine c_pF (c := 320) rfl (by decide +kernel) (by decide +kernel) (by decide +kernel) (by decide +kernel) (by omega) s0 (by decide +kernel) ?_
  refine x_run (pc' := 16) (lo' := [some (.ref p)]) (st' := [.ref p]) 1 rfl ?_
  refine c_new (ci := 6) (ne := 0) rfl (by decide +kernel) s2 (show p + 1 + 1 + 1 ≤ p + 1 + 1 + 1 by omega) (show w + 2 + 2 ≤ w + 2 + 2 by omega) ?_
  refine x_run (pc' := 20) (lo' := [some (.ref p)]) (st' := [.ref (p + 2), .ref (p + 2), .ref p]) 1 rfl ?_
  refine x_ci (j := 79) (ne := 0) (d' := 2) (vs := []) (rest := [.ref (p + 2), .ref p]) rfl (by decide +kernel) (by decide +kernel) (by decide) (show 0 = _ from by decide +kernel) rfl (Nat.le_of_ble_eq_true rfl) (by omega) (K79 (Nat.le_refl 2) (by omega) s2) ⟨Nat.le_refl _, Nat.le_refl _⟩ ?_
  refine c_pF (c := 321) rfl (by decide +kernel) (by decide +kernel) (by decide +kernel) (by decide +kernel) (by omega) s0 (by decide +kernel) ?_
  exact x_ret rfl (by decide +kernel)
def stR (R : Nat → Nat → Option Nat) (m : Nat) : Nat → Nat → Option Nat := a_u2 (picR (a_u2 (picR (a_u2 (picR (a_u2 (picR (a_u2 (picR (a_u2 R m 0 (some (m + 1))) (m + 2)) (m + 1) 0 (some (m + 2))) (m + 5)) (m + 1) 1 (some (m + 5))) (m + 8)) (m + 1) 2 (some (m + 8))) (m + 11)) (m + 1) 3 (some (m + 11))) (m + 14)) (m + 1) 4 (some (m + 14))
def stI (I : Nat → Nat → Int32) (m : Nat) : Nat → Nat → Int32 := picI (picI (picI (picI (picI (I) (m + 2)) (m + 5)) (m + 8)) (m + 11)) (m + 14)
def isStS (m : Nat) : Prop := sh0 m = (4, 0) ∧ sh0 (m + 1) = (20, 5) ∧ isPicS (m + 2) ∧ isPicS (m + 5) ∧ isPicS (m + 8) ∧ isPicS (m + 11) ∧ isPicS (m + 14)
set_option maxRecDepth 100000 in
set_option maxHeartbeats 4000000 in
/-- State(), of the cell m that was made last -/
theorem K57 {l : Launch} {X : aX} {d m w : Nat} {R : Nat → Nat → Option Nat} {I : Nat → Nat → Int32} {J : Nat → Nat → Int64} (hd : 4 ≤ d) (hs : isStS m) : Call l X d 57 [.ref m] (hcp (m + 1) w R I J) none (hcp (m + 17) (w + 45) (stR R m) (stI I m) J) := by
  obtain ⟨s0, s1, p0, p1, p2, p3, p4⟩ := hs
  refine Call.of ok57 (by decide) (Nat.le_of_ble_eq_true rfl) ⟨show m + 1 ≤ m + 17 by omega, show w ≤ w + 45 by omega⟩ ?_
  refine x_run (pc' := 1) (lo' := [some (.ref m), none]) (st' := [.ref m]) 1 rfl ?_
  refine x_oi (ne := 0) rfl (by decide +kernel) (Nat.le_of_ble_eq_true rfl) (by omega) ?_
  refine x_run (pc' := 6) (lo' := [some (.ref m), none]) (st' := [.int 5, .ref m]) 2 rfl ?_
  refine c_an (ci := 5) (ne := 0) (tg := 20) (N := 5) rfl (by decide +kernel) (by decide) (by decide +kernel) (by decide +kernel) (by decide) s1 (show m + 1 + 1 ≤ m + 17 by omega) (show w + 5 ≤ w + 45 by omega) ?_
  refine c_pF (c := 256) rfl (by decide +kernel) (by decide +kernel) (by decide +kernel) (by decide +kernel) (by omega) s0 (by decide +kernel) ?_
  refine x_run (pc' := 16) (lo' := [some (.ref m), some (.int 0)]) (st' := [.int 5, .int 0]) 4 rfl ?_
  refine x_ic 38 rfl rfl (fun hc => absurd hc (show ¬ (5 : Int32) ≤ 0 by decide)) (fun _ => ?_)
  refine x_run (pc' := 20) (lo' := [some (.ref m), some (.int 0)]) (st' := [.ref m]) 1 rfl ?_
  refine c_gr (c := 256) (ne := 0) (v := m + 1) rfl (by decide +kernel) (by omega) s0 (by decide +kernel) (by simp [picR, a_u2]) ?_
  refine x_run (pc' := 24) (lo' := [some (.ref m), some (.int 0)]) (st' := [.int 0, .ref (m + 1)]) 1 rfl ?_
  refine c_new (ci := 5) (ne := 0) rfl (by decide +kernel) p0.1 (show m + 2 + 1 ≤ m + 17 by omega) (show w + 5 + 4 ≤ w + 45 by omega) ?_
  refine x_run (pc' := 28) (lo' := [some (.ref m), some (.int 0)]) (st' := [.ref (m + 2), .ref (m + 2), .int 0, .ref (m + 1)]) 1 rfl ?_
  refine x_ci (j := 62) (ne := 1) (d' := 3) (vs := []) (rest := [.ref (m + 2), .int 0, .ref (m + 1)]) rfl (by decide +kernel) (by decide +kernel) (by decide) (show 0 = _ from by decide +kernel) rfl (Nat.le_of_ble_eq_true rfl) (by omega) (K62 (p := m + 2) (Nat.le_refl 3) p0) ⟨(show m + 5 ≤ m + 17 by omega), (show w + 13 ≤ w + 45 by omega)⟩ ?_
  refine c_as (n := 5) (t := 20) (ci := 5) (k := 0) rfl (by omega) s1 (by decide) (by omega) p0.1 (by unfold vp_in; decide +kernel) (by decide +kernel) ?_
  refine x_run (pc' := 16) (lo' := [some (.ref m), some (.int 1)]) (st' := [.int 5, .int 1]) 4 rfl ?_
  refine x_ic 38 rfl rfl (fun hc => absurd hc (show ¬ (5 : Int32) ≤ 1 by decide)) (fun _ => ?_)
  refine x_run (pc' := 20) (lo' := [some (.ref m), some (.int 1)]) (st' := [.ref m]) 1 rfl ?_
  refine c_gr (c := 256) (ne := 0) (v := m + 1) rfl (by decide +kernel) (by omega) s0 (by decide +kernel) (by simp [picR, a_u2]) ?_
  refine x_run (pc' := 24) (lo' := [some (.ref m), some (.int 1)]) (st' := [.int 1, .ref (m + 1)]) 1 rfl ?_
  refine c_new (ci := 5) (ne := 0) rfl (by decide +kernel) p1.1 (show m + 5 + 1 ≤ m + 17 by omega) (show w + 13 + 4 ≤ w + 45 by omega) ?_
  refine x_run (pc' := 28) (lo' := [some (.ref m), some (.int 1)]) (st' := [.ref (m + 5), .ref (m + 5), .int 1, .ref (m + 1)]) 1 rfl ?_
  refine x_ci (j := 62) (ne := 1) (d' := 3) (vs := []) (rest := [.ref (m + 5), .int 1, .ref (m + 1)]) rfl (by decide +kernel) (by decide +kernel) (by decide) (show 0 = _ from by decide +kernel) rfl (Nat.le_of_ble_eq_true rfl) (by omega) (K62 (p := m + 5) (Nat.le_refl 3) p1) ⟨(show m + 8 ≤ m + 17 by omega), (show w + 21 ≤ w + 45 by omega)⟩ ?_
  refine c_as (n := 5) (t := 20) (ci := 5) (k := 1) rfl (by omega) s1 (by decide) (by omega) p1.1 (by unfold vp_in; decide +kernel) (by decide +kernel) ?_
  refine x_run (pc' := 16) (lo' := [some (.ref m), some (.int 2)]) (st' := [.int 5, .int 2]) 4 rfl ?_
  refine x_ic 38 rfl rfl (fun hc => absurd hc (show ¬ (5 : Int32) ≤ 2 by decide)) (fun _ => ?_)
  refine x_run (pc' := 20) (lo' := [some (.ref m), some (.int 2)]) (st' := [.ref m]) 1 rfl ?_
  refine c_gr (c := 256) (ne := 0) (v := m + 1) rfl (by decide +kernel) (by omega) s0 (by decide +kernel) (by simp [picR, a_u2]) ?_
  refine x_run (pc' := 24) (lo' := [some (.ref m), some (.int 2)]) (st' := [.int 2, .ref (m + 1)]) 1 rfl ?_
  refine c_new (ci := 5) (ne := 0) rfl (by decide +kernel) p2.1 (show m + 8 + 1 ≤ m + 17 by omega) (show w + 21 + 4 ≤ w + 45 by omega) ?_
  refine x_run (pc' := 28) (lo' := [some (.ref m), some (.int 2)]) (st' := [.ref (m + 8), .ref (m + 8), .int 2, .ref (m + 1)]) 1 rfl ?_
  refine x_ci (j := 62) (ne := 1) (d' := 3) (vs := []) (rest := [.ref (m + 8), .int 2, .ref (m + 1)]) rfl (by decide +kernel) (by decide +kernel) (by decide) (show 0 = _ from by decide +kernel) rfl (Nat.le_of_ble_eq_true rfl) (by omega) (K62 (p := m + 8) (Nat.le_refl 3) p2) ⟨(show m + 11 ≤ m + 17 by omega), (show w + 29 ≤ w + 45 by omega)⟩ ?_
  refine c_as (n := 5) (t := 20) (ci := 5) (k := 2) rfl (by omega) s1 (by decide) (by omega) p2.1 (by unfold vp_in; decide +kernel) (by decide +kernel) ?_
  refine x_run (pc' := 16) (lo' := [some (.ref m), some (.int 3)]) (st' := [.int 5, .int 3]) 4 rfl ?_
  refine x_ic 38 rfl rfl (fun hc => absurd hc (show ¬ (5 : Int32) ≤ 3 by decide)) (fun _ => ?_)
  refine x_run (pc' := 20) (lo' := [some (.ref m), some (.int 3)]) (st' := [.ref m]) 1 rfl ?_
  refine c_gr (c := 256) (ne := 0) (v := m + 1) rfl (by decide +kernel) (by omega) s0 (by decide +kernel) (by simp [picR, a_u2]) ?_
  refine x_run (pc' := 24) (lo' := [some (.ref m), some (.int 3)]) (st' := [.int 3, .ref (m + 1)]) 1 rfl ?_
  refine c_new (ci := 5) (ne := 0) rfl (by decide +kernel) p3.1 (show m + 11 + 1 ≤ m + 17 by omega) (show w + 29 + 4 ≤ w + 45 by omega) ?_
  refine x_run (pc' := 28) (lo' := [some (.ref m), some (.int 3)]) (st' := [.ref (m + 11), .ref (m + 11), .int 3, .ref (m + 1)]) 1 rfl ?_
  refine x_ci (j := 62) (ne := 1) (d' := 3) (vs := []) (rest := [.ref (m + 11), .int 3, .ref (m + 1)]) rfl (by decide +kernel) (by decide +kernel) (by decide) (show 0 = _ from by decide +kernel) rfl (Nat.le_of_ble_eq_true rfl) (by omega) (K62 (p := m + 11) (Nat.le_refl 3) p3) ⟨(show m + 14 ≤ m + 17 by omega), (show w + 37 ≤ w + 45 by omega)⟩ ?_
  refine c_as (n := 5) (t := 20) (ci := 5) (k := 3) rfl (by omega) s1 (by decide) (by omega) p3.1 (by unfold vp_in; decide +kernel) (by decide +kernel) ?_
  refine x_run (pc' := 16) (lo' := [some (.ref m), some (.int 4)]) (st' := [.int 5, .int 4]) 4 rfl ?_
  refine x_ic 38 rfl rfl (fun hc => absurd hc (show ¬ (5 : Int32) ≤ 4 by decide)) (fun _ => ?_)
  refine x_run (pc' := 20) (lo' := [some (.ref m), some (.int 4)]) (st' := [.ref m]) 1 rfl ?_
  refine c_gr (c := 256) (ne := 0) (v := m + 1) rfl (by decide +kernel) (by omega) s0 (by decide +kernel) (by simp [picR, a_u2]) ?_
  refine x_run (pc' := 24) (lo' := [some (.ref m), some (.int 4)]) (st' := [.int 4, .ref (m + 1)]) 1 rfl ?_
  refine c_new (ci := 5) (ne := 0) rfl (by decide +kernel) p4.1 (show m + 14 + 1 ≤ m + 17 by omega) (show w + 37 + 4 ≤ w + 45 by omega) ?_
  refine x_run (pc' := 28) (lo' := [some (.ref m), some (.int 4)]) (st' := [.ref (m + 14), .ref (m + 14), .int 4, .ref (m + 1)]) 1 rfl ?_
  refine x_ci (j := 62) (ne := 1) (d' := 3) (vs := []) (rest := [.ref (m + 14), .int 4, .ref (m + 1)]) rfl (by decide +kernel) (by decide +kernel) (by decide) (show 0 = _ from by decide +kernel) rfl (Nat.le_of_ble_eq_true rfl) (by omega) (K62 (p := m + 14) (Nat.le_refl 3) p4) ⟨(show m + 17 ≤ m + 17 by omega), (show w + 45 ≤ w + 45 by omega)⟩ ?_
  refine c_as (n := 5) (t := 20) (ci := 5) (k := 4) rfl (by omega) s1 (by decide) (by omega) p4.1 (by unfold vp_in; decide +kernel) (by decide +kernel) ?_
  refine x_run (pc' := 16) (lo' := [some (.ref m), some (.int 5)]) (st' := [.int 5, .int 5]) 4 rfl ?_
  refine x_ic 38 rfl rfl (fun _ => ?_) (fun hc => absurd (show (5 : Int32) ≤ 5 by decide) hc)
  exact x_ret rfl (by decide +kernel)
