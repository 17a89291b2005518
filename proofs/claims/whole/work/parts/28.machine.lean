/-! written by wip/whole/gen3.py: what methods do (F), what they need (S), the walk (A), the contract (T) -/
/-- java/lang/Math.floorDiv(JJ)J -/
def F189_0 (v0 : Int64) (v2 : Int64) (q : aQ) : Int64 := (if 0 ≤ (lg_cmp (v0 ^^^ v2) 0) then (v0 / v2) else (if (lg_cmp ((v0 / v2) * v2) v0) = 0 then (v0 / v2) else ((v0 / v2) - 1)))
def S189_0 (v0 : Int64) (v2 : Int64) (q : aQ) : Prop := ¬ v2 = 0 ∧ (((0 ≤ (lg_cmp (v0 ^^^ v2) 0)) → True) ∧ (¬ (0 ≤ (lg_cmp (v0 ^^^ v2) 0)) → (((lg_cmp ((v0 / v2) * v2) v0) = 0) → True) ∧ (¬ ((lg_cmp ((v0 / v2) * v2) v0) = 0) → True)))
set_option maxRecDepth 100000 in
set_option maxHeartbeats 4000000 in
theorem A189_0 {l : Launch} {X : aX} {d : Nat} {r : Option Value} {h' : aH} {v0 : Int64} {v2 : Int64} {q : aQ} (hd : 1 ≤ d) (hN : h'.1 = nk0) (hG : gJ r h' (F189_0 v0 v2 q, q)) (hS : S189_0 v0 v2 q) : AW l X 189 c189 d r h' 0 [some (.long v0), none, some (.long v2), none, none, none] [] (hp q) := by
  unfold F189_0 at hG
  unfold S189_0 at hS
  refine x_run (pc' := 2) (lo' := [some (.long v0), none, some (.long v2), none, none, none]) (st' := [.long v2, .long v0]) 2 rfl ?_
  obtain ⟨o1, hS⟩ := hS
  refine x_ldiv rfl o1 ?_
  refine x_run (pc' := 10) (lo' := [some (.long v0), none, some (.long v2), none, some (.long (v0 / v2)), none]) (st' := [.int (lg_cmp (v0 ^^^ v2) 0)]) 6 rfl ?_
  refine x_if 27 rfl rfl (fun (hc2 : 0 ≤ (lg_cmp (v0 ^^^ v2) 0)) => ?_) (fun (hc2 : ¬ 0 ≤ (lg_cmp (v0 ^^^ v2) 0)) => ?_)
  · rw [if_pos hc2] at hG
    replace hS := hS.1 hc2
    refine x_run (pc' := 29) (lo' := [some (.long v0), none, some (.long v2), none, some (.long (v0 / v2)), none]) (st' := [.long (v0 / v2)]) 1 rfl ?_
    obtain ⟨rfl, rfl⟩ := hG
    exact x_lret rfl (by decide +kernel)
  · rw [if_neg hc2] at hG
    replace hS := hS.2 hc2
    refine x_run (pc' := 19) (lo' := [some (.long v0), none, some (.long v2), none, some (.long (v0 / v2)), none]) (st' := [.int (lg_cmp ((v0 / v2) * v2) v0)]) 5 rfl ?_
    refine x_if 27 rfl rfl (fun (hc3 : (lg_cmp ((v0 / v2) * v2) v0) = 0) => ?_) (fun (hc3 : ¬ (lg_cmp ((v0 / v2) * v2) v0) = 0) => ?_)
    · rw [if_pos hc3] at hG
      replace hS := hS.1 hc3
      refine x_run (pc' := 29) (lo' := [some (.long v0), none, some (.long v2), none, some (.long (v0 / v2)), none]) (st' := [.long (v0 / v2)]) 1 rfl ?_
      obtain ⟨rfl, rfl⟩ := hG
      exact x_lret rfl (by decide +kernel)
    · rw [if_neg hc3] at hG
      replace hS := hS.2 hc3
      refine x_run (pc' := 26) (lo' := [some (.long v0), none, some (.long v2), none, some (.long (v0 / v2)), none]) (st' := [.long ((v0 / v2) - 1)]) 3 rfl ?_
      obtain ⟨rfl, rfl⟩ := hG
      exact x_lret rfl (by decide +kernel)
theorem T189 {l : Launch} {X : aX} {d : Nat} {v0 : Int64} {v2 : Int64} {q : aQ} (hd : 1 ≤ d) (hS : S189_0 v0 v2 q) : Call l X d 189 [.long v0, .long v2] (hp q) (some (.long (F189_0 v0 v2 q))) (hp q) := Call.of ok189 (by decide) (Nat.le_of_ble_eq_true rfl) ⟨Nat.le_refl _, Nat.le_refl _⟩ (A189_0 hd rfl ⟨rfl, rfl⟩ hS)
/-- java/util/Arrays.fill([JJ)V -/
def F192_6 (v1 : Int64) (v4 : Int32) (v3 : Int32) (q : aQ) : (Int32 × aQ) ⊕ (aQ) := (if v4 ≤ v3 then .inr q else .inl ((v3 + 1), (a_wl q 649 (Int32.toNatClampNeg v3) v1)))
def S192_6 (v1 : Int64) (v4 : Int32) (v3 : Int32) (q : aQ) : Prop := ((v4 ≤ v3) → True) ∧ (¬ (v4 ≤ v3) → vp_in v3 5 ∧ (True))
set_option maxRecDepth 100000 in
set_option maxHeartbeats 4000000 in
theorem A192_6 {l : Launch} {X : aX} {d : Nat} {r : Option Value} {h' : aH} {v1 : Int64} {v4 : Int32} {v3 : Int32} {q : aQ} (hd : 1 ≤ d) (hN : h'.1 = nk0) (hG : gL (fun (s : Int32 × aQ) => AW l X 192 c192 d r h' 6 [some (.ref 649), some (.long v1), none, some (.int s.1), some (.int v4)] [] (hp s.2)) (fun (e : aQ) => AW l X 192 c192 d r h' 22 [none, none, none, none, none] [] (hp e)) (F192_6 v1 v4 v3 q)) (hS : S192_6 v1 v4 v3 q) : AW l X 192 c192 d r h' 6 [some (.ref 649), some (.long v1), none, some (.int v3), some (.int v4)] [] (hp q) := by
  unfold F192_6 at hG
  unfold S192_6 at hS
  refine x_run (pc' := 9) (lo' := [some (.ref 649), some (.long v1), none, some (.int v3), some (.int v4)]) (st' := [.int v4, .int v3]) 2 rfl ?_
  refine x_ic 22 rfl rfl (fun (hc1 : v4 ≤ v3) => ?_) (fun (hc1 : ¬ v4 ≤ v3) => ?_)
  · rw [if_pos hc1] at hG
    replace hS := hS.1 hc1
    refine x_kill [0, 1, 3, 4] ?_
    exact hG
  · rw [if_neg hc1] at hG
    replace hS := hS.2 hc1
    refine x_run (pc' := 15) (lo' := [some (.ref 649), some (.long v1), none, some (.int v3), some (.int v4)]) (st' := [.long v1, .int v3, .ref 649]) 3 rfl ?_
    obtain ⟨o2, hS⟩ := hS
    refine p_lt (n := 5) rfl rfl o2 ?_
    refine x_run (pc' := 6) (lo' := [some (.ref 649), some (.long v1), none, some (.int (v3 + 1)), some (.int v4)]) (st' := []) 2 rfl ?_
    exact hG
def F192_22 (q : aQ) : aQ := q
def S192_22 (q : aQ) : Prop := True
set_option maxRecDepth 100000 in
set_option maxHeartbeats 4000000 in
theorem A192_22 {l : Launch} {X : aX} {d : Nat} {r : Option Value} {h' : aH} {q : aQ} (hd : 1 ≤ d) (hN : h'.1 = nk0) (hG : gV r h' (F192_22 q)) (hS : S192_22 q) : AW l X 192 c192 d r h' 22 [none, none, none, none, none] [] (hp q) := by
  unfold F192_22 at hG
  unfold S192_22 at hS
  obtain ⟨rfl, rfl⟩ := hG
  exact x_ret rfl (by decide +kernel)
def F192_0 (v1 : Int64) (q : aQ) : aQ := (fun (e3 : aQ) => F192_22 e3) (a_lp (fun (s : Int32 × aQ) => F192_6 v1 5 s.1 s.2) 200 (0, q) q)
def S192_0 (v1 : Int64) (q : aQ) : Prop := a_sf (fun (s : Int32 × aQ) => F192_6 v1 5 s.1 s.2) (fun (s : Int32 × aQ) => S192_6 v1 5 s.1 s.2) 200 (0, q) ∧ (fun (e3 : aQ) => S192_22 e3) (a_lp (fun (s : Int32 × aQ) => F192_6 v1 5 s.1 s.2) 200 (0, q) q)
set_option maxRecDepth 100000 in
set_option maxHeartbeats 4000000 in
theorem A192_0 {l : Launch} {X : aX} {d : Nat} {r : Option Value} {h' : aH} {v1 : Int64} {q : aQ} (hd : 1 ≤ d) (hN : h'.1 = nk0) (hG : gV r h' (F192_0 v1 q)) (hS : S192_0 v1 q) : AW l X 192 c192 d r h' 0 [some (.ref 649), some (.long v1), none, none, none] [] (hp q) := by
  unfold F192_0 at hG
  unfold S192_0 at hS
  refine x_run (pc' := 3) (lo' := [some (.ref 649), some (.long v1), none, some (.int 0), none]) (st' := [.ref 649]) 3 rfl ?_
  refine x_ln (n := 5) rfl rfl (by decide) ?_
  refine x_run (pc' := 6) (lo' := [some (.ref 649), some (.long v1), none, some (.int 0), some (.int 5)]) (st' := []) 1 rfl ?_
  obtain ⟨ho, hS⟩ := hS
  refine x_loop (fun (s : Int32 × aQ) => F192_6 v1 5 s.1 s.2) (fun (s : Int32 × aQ) => S192_6 v1 5 s.1 s.2) (fun (s : Int32 × aQ) => AW l X 192 c192 d r h' 6 [some (.ref 649), some (.long v1), none, some (.int s.1), some (.int 5)] [] (hp s.2)) (fun (e : aQ) => AW l X 192 c192 d r h' 22 [none, none, none, none, none] [] (hp e)) (fun s hs hg => A192_6 hd hN hg hs) 200 (0, q) ho (fun e3 he => ?_)
  rw [a_lp_eq he] at hG hS
  try dsimp only at hG hS
  exact A192_22 hd hN hG hS
theorem T192 {l : Launch} {X : aX} {d : Nat} {v1 : Int64} {q : aQ} (hd : 1 ≤ d) (hS : S192_0 v1 q) : Call l X d 192 [.ref 649, .long v1] (hp q) none (hp (F192_0 v1 q)) := Call.of ok192 (by decide) (Nat.le_of_ble_eq_true rfl) ⟨Nat.le_refl _, Nat.le_refl _⟩ (A192_0 hd rfl ⟨rfl, rfl⟩ hS)
/-- TypeForecast$Machine.addInput(I)Z -/
def F111_0 (v1 : Int32) (q : aQ) : Int32 × aQ := (if 8 ≤ (q.1 647 3) then (0, q) else (if v1 < (-1000000000) then (0, q) else (if v1 ≤ 1000000000 then (1, (a_w (a_w q 647 3 ((q.1 647 3) + 1)) 648 (Int32.toNatClampNeg (q.1 647 3)) v1)) else (0, q))))
def S111_0 (v1 : Int32) (q : aQ) : Prop := ((8 ≤ (q.1 647 3)) → True) ∧ (¬ (8 ≤ (q.1 647 3)) → ((v1 < (-1000000000)) → True) ∧ (¬ (v1 < (-1000000000)) → ((v1 ≤ 1000000000) → vp_in (q.1 647 3) 8 ∧ (True)) ∧ (¬ (v1 ≤ 1000000000) → True)))
set_option maxRecDepth 100000 in
set_option maxHeartbeats 4000000 in
theorem A111_0 {l : Launch} {X : aX} {d : Nat} {r : Option Value} {h' : aH} {v1 : Int32} {q : aQ} (hd : 1 ≤ d) (hN : h'.1 = nk0) (hG : gI r h' (F111_0 v1 q)) (hS : S111_0 v1 q) : AW l X 111 c111 d r h' 0 [some (.ref 647), some (.int v1)] [] (hp q) := by
  unfold F111_0 at hG
  unfold S111_0 at hS
  refine x_run (pc' := 1) (lo' := [some (.ref 647), some (.int v1)]) (st' := [.ref 647]) 1 rfl ?_
  refine x_gf (c := 515) (ne := 0) (v := .int (q.1 647 3)) rfl (by decide +kernel) rfl rfl ?_
  refine x_run (pc' := 6) (lo' := [some (.ref 647), some (.int v1)]) (st' := [.int 8, .int (q.1 647 3)]) 1 rfl ?_
  refine x_ic 21 rfl rfl (fun (hc1 : 8 ≤ (q.1 647 3)) => ?_) (fun (hc1 : ¬ 8 ≤ (q.1 647 3)) => ?_)
  · rw [if_pos hc1] at hG
    replace hS := hS.1 hc1
    refine x_run (pc' := 22) (lo' := [some (.ref 647), some (.int v1)]) (st' := [.int 0]) 1 rfl ?_
    obtain ⟨rfl, rfl⟩ := hG
    exact x_zret rfl (by decide +kernel) (Or.inl rfl)
  · rw [if_neg hc1] at hG
    replace hS := hS.2 hc1
    refine x_run (pc' := 10) (lo' := [some (.ref 647), some (.int v1)]) (st' := [.int v1]) 1 rfl ?_
    refine x_ldc (v := (-1000000000)) (ne := 0) rfl (by decide +kernel) ?_
    refine x_ic 21 rfl rfl (fun (hc2 : v1 < (-1000000000)) => ?_) (fun (hc2 : ¬ v1 < (-1000000000)) => ?_)
    · rw [if_pos hc2] at hG
      replace hS := hS.1 hc2
      refine x_run (pc' := 22) (lo' := [some (.ref 647), some (.int v1)]) (st' := [.int 0]) 1 rfl ?_
      obtain ⟨rfl, rfl⟩ := hG
      exact x_zret rfl (by decide +kernel) (Or.inl rfl)
    · rw [if_neg hc2] at hG
      replace hS := hS.2 hc2
      refine x_run (pc' := 16) (lo' := [some (.ref 647), some (.int v1)]) (st' := [.int v1]) 1 rfl ?_
      refine x_ldc (v := 1000000000) (ne := 0) rfl (by decide +kernel) ?_
      refine x_ic 23 rfl rfl (fun (hc3 : v1 ≤ 1000000000) => ?_) (fun (hc3 : ¬ v1 ≤ 1000000000) => ?_)
      · rw [if_pos hc3] at hG
        replace hS := hS.1 hc3
        refine x_run (pc' := 24) (lo' := [some (.ref 647), some (.int v1)]) (st' := [.ref 647]) 1 rfl ?_
        refine x_gf (c := 514) (ne := 0) (v := .ref 648) rfl (by decide +kernel) rfl rfl ?_
        refine x_run (pc' := 29) (lo' := [some (.ref 647), some (.int v1)]) (st' := [.ref 647, .ref 647, .ref 648]) 2 rfl ?_
        refine x_gf (c := 515) (ne := 0) (v := .int (q.1 647 3)) rfl (by decide +kernel) rfl rfl ?_
        refine x_run (pc' := 35) (lo' := [some (.ref 647), some (.int v1)]) (st' := [.int ((q.1 647 3) + 1), .ref 647, .int (q.1 647 3), .ref 648]) 3 rfl ?_
        refine x_pf (c := 515) (ne := 0) (h2 := hp (a_w q 647 3 ((q.1 647 3) + 1))) rfl (by decide +kernel) (by decide +kernel) rfl (pv_i rfl) ?_
        refine x_run (pc' := 39) (lo' := [some (.ref 647), some (.int v1)]) (st' := [.int v1, .int (q.1 647 3), .ref 648]) 1 rfl ?_
        obtain ⟨o4, hS⟩ := hS
        refine p_is (n := 8) rfl rfl o4 ?_
        refine x_run (pc' := 41) (lo' := [some (.ref 647), some (.int v1)]) (st' := [.int 1]) 1 rfl ?_
        obtain ⟨rfl, rfl⟩ := hG
        exact x_zret rfl (by decide +kernel) (Or.inr rfl)
      · rw [if_neg hc3] at hG
        replace hS := hS.2 hc3
        refine x_run (pc' := 22) (lo' := [some (.ref 647), some (.int v1)]) (st' := [.int 0]) 1 rfl ?_
        obtain ⟨rfl, rfl⟩ := hG
        exact x_zret rfl (by decide +kernel) (Or.inl rfl)
theorem T111 {l : Launch} {X : aX} {d : Nat} {v1 : Int32} {q : aQ} (hd : 1 ≤ d) (hS : S111_0 v1 q) : Call l X d 111 [.ref 647, .int v1] (hp q) (some (.int (F111_0 v1 q).1)) (hp (F111_0 v1 q).2) := Call.of ok111 (by decide) (Nat.le_of_ble_eq_true rfl) ⟨Nat.le_refl _, Nat.le_refl _⟩ (A111_0 hd rfl ⟨rfl, rfl⟩ hS)
/-- TypeForecast$Machine.lastPlace()I -/
def F112_0 (q : aQ) : Int32 := (q.1 647 7)
def S112_0 (q : aQ) : Prop := True
set_option maxRecDepth 100000 in
set_option maxHeartbeats 4000000 in
theorem A112_0 {l : Launch} {X : aX} {d : Nat} {r : Option Value} {h' : aH} {q : aQ} (hd : 1 ≤ d) (hN : h'.1 = nk0) (hG : gI r h' (F112_0 q, q)) (hS : S112_0 q) : AW l X 112 c112 d r h' 0 [some (.ref 647)] [] (hp q) := by
  unfold F112_0 at hG
  unfold S112_0 at hS
  refine x_run (pc' := 1) (lo' := [some (.ref 647)]) (st' := [.ref 647]) 1 rfl ?_
  refine x_gf (c := 519) (ne := 0) (v := .int (q.1 647 7)) rfl (by decide +kernel) rfl rfl ?_
  obtain ⟨rfl, rfl⟩ := hG
  exact x_iret rfl (by decide +kernel)
theorem T112 {l : Launch} {X : aX} {d : Nat} {q : aQ} (hd : 1 ≤ d) (hS : S112_0 q) : Call l X d 112 [.ref 647] (hp q) (some (.int (F112_0 q))) (hp q) := Call.of ok112 (by decide) (Nat.le_of_ble_eq_true rfl) ⟨Nat.le_refl _, Nat.le_refl _⟩ (A112_0 hd rfl ⟨rfl, rfl⟩ hS)
/-- TypeForecast$Machine.typeIn(J)I -/
def F129_0 (v0 : Int64) (q : aQ) : Int32 := ((Int64.toInt32 v0) &&& 15)
def S129_0 (v0 : Int64) (q : aQ) : Prop := True
set_option maxRecDepth 100000 in
set_option maxHeartbeats 4000000 in
theorem A129_0 {l : Launch} {X : aX} {d : Nat} {r : Option Value} {h' : aH} {v0 : Int64} {q : aQ} (hd : 1 ≤ d) (hN : h'.1 = nk0) (hG : gI r h' (F129_0 v0 q, q)) (hS : S129_0 v0 q) : AW l X 129 c129 d r h' 0 [some (.long v0), none] [] (hp q) := by
  unfold F129_0 at hG
  unfold S129_0 at hS
  refine x_run (pc' := 5) (lo' := [some (.long v0), none]) (st' := [.int ((Int64.toInt32 v0) &&& 15)]) 4 rfl ?_
  obtain ⟨rfl, rfl⟩ := hG
  exact x_iret rfl (by decide +kernel)
theorem T129 {l : Launch} {X : aX} {d : Nat} {v0 : Int64} {q : aQ} (hd : 1 ≤ d) (hS : S129_0 v0 q) : Call l X d 129 [.long v0] (hp q) (some (.int (F129_0 v0 q))) (hp q) := Call.of ok129 (by decide) (Nat.le_of_ble_eq_true rfl) ⟨Nat.le_refl _, Nat.le_refl _⟩ (A129_0 hd rfl ⟨rfl, rfl⟩ hS)
/-- TypeForecast$Machine.typeOf(I)I -/
def F113_0 (v1 : Int32) (q : aQ) : Int32 := (F129_0 (q.2 649 (Int32.toNatClampNeg v1)) q)
def S113_0 (v1 : Int32) (q : aQ) : Prop := vp_in v1 5 ∧ (S129_0 (q.2 649 (Int32.toNatClampNeg v1)) q ∧ (True))
set_option maxRecDepth 100000 in
set_option maxHeartbeats 4000000 in
theorem A113_0 {l : Launch} {X : aX} {d : Nat} {r : Option Value} {h' : aH} {v1 : Int32} {q : aQ} (hd : 2 ≤ d) (hN : h'.1 = nk0) (hG : gI r h' (F113_0 v1 q, q)) (hS : S113_0 v1 q) : AW l X 113 c113 d r h' 0 [some (.ref 647), some (.int v1)] [] (hp q) := by
  unfold F113_0 at hG
  unfold S113_0 at hS
  refine x_run (pc' := 1) (lo' := [some (.ref 647), some (.int v1)]) (st' := [.ref 647]) 1 rfl ?_
  refine x_gf (c := 517) (ne := 0) (v := .ref 649) rfl (by decide +kernel) rfl rfl ?_
  refine x_run (pc' := 5) (lo' := [some (.ref 647), some (.int v1)]) (st' := [.int v1, .ref 649]) 1 rfl ?_
  obtain ⟨o1, hS⟩ := hS
  refine p_la (n := 5) (v := (q.2 649 (Int32.toNatClampNeg v1))) rfl rfl o1 rfl ?_
  obtain ⟨o2, hS⟩ := hS
  refine x_cs (j := 129) (ne := 0) (vs := [.long (q.2 649 (Int32.toNatClampNeg v1))]) (rest := []) rfl (by decide +kernel) (by decide +kernel) (by decide) (Eq.trans rfl (show 1 = _ from by decide +kernel)) rfl (Nat.le_of_ble_eq_true rfl) (by omega) (T129 (Nat.le_refl 1) o2) (hp_m hN) ?_
  show AW l X 113 c113 d r h' 9 [some (.ref 647), some (.int v1)] [.int (F129_0 (q.2 649 (Int32.toNatClampNeg v1)) q)] (hp q)
  obtain ⟨rfl, rfl⟩ := hG
  exact x_iret rfl (by decide +kernel)
theorem T113 {l : Launch} {X : aX} {d : Nat} {v1 : Int32} {q : aQ} (hd : 2 ≤ d) (hS : S113_0 v1 q) : Call l X d 113 [.ref 647, .int v1] (hp q) (some (.int (F113_0 v1 q))) (hp q) := Call.of ok113 (by decide) (Nat.le_of_ble_eq_true rfl) ⟨Nat.le_refl _, Nat.le_refl _⟩ (A113_0 hd rfl ⟨rfl, rfl⟩ hS)
/-- TypeForecast$Machine.amountIn(J)J -/
def F130_0 (v0 : Int64) (q : aQ) : Int64 := (v0 >>> (Int32.toInt64 4 &&& 63))
def S130_0 (v0 : Int64) (q : aQ) : Prop := True
set_option maxRecDepth 100000 in
set_option maxHeartbeats 4000000 in
theorem A130_0 {l : Launch} {X : aX} {d : Nat} {r : Option Value} {h' : aH} {v0 : Int64} {q : aQ} (hd : 1 ≤ d) (hN : h'.1 = nk0) (hG : gJ r h' (F130_0 v0 q, q)) (hS : S130_0 v0 q) : AW l X 130 c130 d r h' 0 [some (.long v0), none] [] (hp q) := by
  unfold F130_0 at hG
  unfold S130_0 at hS
  refine x_run (pc' := 3) (lo' := [some (.long v0), none]) (st' := [.long (v0 >>> (Int32.toInt64 4 &&& 63))]) 3 rfl ?_
  obtain ⟨rfl, rfl⟩ := hG
  exact x_lret rfl (by decide +kernel)
theorem T130 {l : Launch} {X : aX} {d : Nat} {v0 : Int64} {q : aQ} (hd : 1 ≤ d) (hS : S130_0 v0 q) : Call l X d 130 [.long v0] (hp q) (some (.long (F130_0 v0 q))) (hp q) := Call.of ok130 (by decide) (Nat.le_of_ble_eq_true rfl) ⟨Nat.le_refl _, Nat.le_refl _⟩ (A130_0 hd rfl ⟨rfl, rfl⟩ hS)
/-- TypeForecast$Machine.amountOf(I)I -/
def F114_0 (v1 : Int32) (q : aQ) : Int32 := (Int64.toInt32 (F130_0 (q.2 649 (Int32.toNatClampNeg v1)) q))
def S114_0 (v1 : Int32) (q : aQ) : Prop := vp_in v1 5 ∧ (S130_0 (q.2 649 (Int32.toNatClampNeg v1)) q ∧ (True))
set_option maxRecDepth 100000 in
set_option maxHeartbeats 4000000 in
theorem A114_0 {l : Launch} {X : aX} {d : Nat} {r : Option Value} {h' : aH} {v1 : Int32} {q : aQ} (hd : 2 ≤ d) (hN : h'.1 = nk0) (hG : gI r h' (F114_0 v1 q, q)) (hS : S114_0 v1 q) : AW l X 114 c114 d r h' 0 [some (.ref 647), some (.int v1)] [] (hp q) := by
  unfold F114_0 at hG
  unfold S114_0 at hS
  refine x_run (pc' := 1) (lo' := [some (.ref 647), some (.int v1)]) (st' := [.ref 647]) 1 rfl ?_
  refine x_gf (c := 517) (ne := 0) (v := .ref 649) rfl (by decide +kernel) rfl rfl ?_
  refine x_run (pc' := 5) (lo' := [some (.ref 647), some (.int v1)]) (st' := [.int v1, .ref 649]) 1 rfl ?_
  obtain ⟨o1, hS⟩ := hS
  refine p_la (n := 5) (v := (q.2 649 (Int32.toNatClampNeg v1))) rfl rfl o1 rfl ?_
  obtain ⟨o2, hS⟩ := hS
  refine x_cs (j := 130) (ne := 0) (vs := [.long (q.2 649 (Int32.toNatClampNeg v1))]) (rest := []) rfl (by decide +kernel) (by decide +kernel) (by decide) (Eq.trans rfl (show 1 = _ from by decide +kernel)) rfl (Nat.le_of_ble_eq_true rfl) (by omega) (T130 (Nat.le_refl 1) o2) (hp_m hN) ?_
  show AW l X 114 c114 d r h' 9 [some (.ref 647), some (.int v1)] [.long (F130_0 (q.2 649 (Int32.toNatClampNeg v1)) q)] (hp q)
  refine x_run (pc' := 10) (lo' := [some (.ref 647), some (.int v1)]) (st' := [.int (Int64.toInt32 (F130_0 (q.2 649 (Int32.toNatClampNeg v1)) q))]) 1 rfl ?_
  obtain ⟨rfl, rfl⟩ := hG
  exact x_iret rfl (by decide +kernel)
theorem T114 {l : Launch} {X : aX} {d : Nat} {v1 : Int32} {q : aQ} (hd : 2 ≤ d) (hS : S114_0 v1 q) : Call l X d 114 [.ref 647, .int v1] (hp q) (some (.int (F114_0 v1 q))) (hp q) := Call.of ok114 (by decide) (Nat.le_of_ble_eq_true rfl) ⟨Nat.le_refl _, Nat.le_refl _⟩ (A114_0 hd rfl ⟨rfl, rfl⟩ hS)
/-- TypeForecast$Machine.value(IJ)J -/
def F128_0 (v0 : Int32) (v1 : Int64) (q : aQ) : Int64 := ((v1 <<< (Int32.toInt64 4 &&& 63)) ||| (Int32.toInt64 v0))
def S128_0 (v0 : Int32) (v1 : Int64) (q : aQ) : Prop := True
set_option maxRecDepth 100000 in
set_option maxHeartbeats 4000000 in
theorem A128_0 {l : Launch} {X : aX} {d : Nat} {r : Option Value} {h' : aH} {v0 : Int32} {v1 : Int64} {q : aQ} (hd : 1 ≤ d) (hN : h'.1 = nk0) (hG : gJ r h' (F128_0 v0 v1 q, q)) (hS : S128_0 v0 v1 q) : AW l X 128 c128 d r h' 0 [some (.int v0), some (.long v1), none] [] (hp q) := by
  unfold F128_0 at hG
  unfold S128_0 at hS
  refine x_run (pc' := 6) (lo' := [some (.int v0), some (.long v1), none]) (st' := [.long ((v1 <<< (Int32.toInt64 4 &&& 63)) ||| (Int32.toInt64 v0))]) 6 rfl ?_
  obtain ⟨rfl, rfl⟩ := hG
  exact x_lret rfl (by decide +kernel)
theorem T128 {l : Launch} {X : aX} {d : Nat} {v0 : Int32} {v1 : Int64} {q : aQ} (hd : 1 ≤ d) (hS : S128_0 v0 v1 q) : Call l X d 128 [.int v0, .long v1] (hp q) (some (.long (F128_0 v0 v1 q))) (hp q) := Call.of ok128 (by decide) (Nat.le_of_ble_eq_true rfl) ⟨Nat.le_refl _, Nat.le_refl _⟩ (A128_0 hd rfl ⟨rfl, rfl⟩ hS)
/-- TypeForecast$Machine.nextInput()I -/
def F122_0 (q : aQ) : Int32 × aQ := (if (q.1 647 3) ≤ (q.1 647 4) then (0, q) else ((q.1 648 (Int32.toNatClampNeg (q.1 647 4))), (a_w q 647 4 ((q.1 647 4) + 1))))
def S122_0 (q : aQ) : Prop := (((q.1 647 3) ≤ (q.1 647 4)) → True) ∧ (¬ ((q.1 647 3) ≤ (q.1 647 4)) → vp_in (q.1 647 4) 8 ∧ (True))
set_option maxRecDepth 100000 in
set_option maxHeartbeats 4000000 in
theorem A122_0 {l : Launch} {X : aX} {d : Nat} {r : Option Value} {h' : aH} {q : aQ} (hd : 1 ≤ d) (hN : h'.1 = nk0) (hG : gI r h' (F122_0 q)) (hS : S122_0 q) : AW l X 122 c122 d r h' 0 [some (.ref 647)] [] (hp q) := by
  unfold F122_0 at hG
  unfold S122_0 at hS
  refine x_run (pc' := 1) (lo' := [some (.ref 647)]) (st' := [.ref 647]) 1 rfl ?_
  refine x_gf (c := 516) (ne := 0) (v := .int (q.1 647 4)) rfl (by decide +kernel) rfl rfl ?_
  refine x_run (pc' := 5) (lo' := [some (.ref 647)]) (st' := [.ref 647, .int (q.1 647 4)]) 1 rfl ?_
  refine x_gf (c := 515) (ne := 0) (v := .int (q.1 647 3)) rfl (by decide +kernel) rfl rfl ?_
  refine x_ic 30 rfl rfl (fun (hc1 : (q.1 647 3) ≤ (q.1 647 4)) => ?_) (fun (hc1 : ¬ (q.1 647 3) ≤ (q.1 647 4)) => ?_)
  · rw [if_pos hc1] at hG
    replace hS := hS.1 hc1
    refine x_run (pc' := 31) (lo' := [some (.ref 647)]) (st' := [.int 0]) 1 rfl ?_
    obtain ⟨rfl, rfl⟩ := hG
    exact x_iret rfl (by decide +kernel)
  · rw [if_neg hc1] at hG
    replace hS := hS.2 hc1
    refine x_run (pc' := 12) (lo' := [some (.ref 647)]) (st' := [.ref 647]) 1 rfl ?_
    refine x_gf (c := 514) (ne := 0) (v := .ref 648) rfl (by decide +kernel) rfl rfl ?_
    refine x_run (pc' := 17) (lo' := [some (.ref 647)]) (st' := [.ref 647, .ref 647, .ref 648]) 2 rfl ?_
    refine x_gf (c := 516) (ne := 0) (v := .int (q.1 647 4)) rfl (by decide +kernel) rfl rfl ?_
    refine x_run (pc' := 23) (lo' := [some (.ref 647)]) (st' := [.int ((q.1 647 4) + 1), .ref 647, .int (q.1 647 4), .ref 648]) 3 rfl ?_
    refine x_pf (c := 516) (ne := 0) (h2 := hp (a_w q 647 4 ((q.1 647 4) + 1))) rfl (by decide +kernel) (by decide +kernel) rfl (pv_i rfl) ?_
    obtain ⟨o2, hS⟩ := hS
    refine p_ia (n := 8) (v := (q.1 648 (Int32.toNatClampNeg (q.1 647 4)))) rfl rfl o2 rfl ?_
    refine x_run (pc' := 31) (lo' := [some (.ref 647)]) (st' := [.int (q.1 648 (Int32.toNatClampNeg (q.1 647 4)))]) 1 rfl ?_
    obtain ⟨rfl, rfl⟩ := hG
    exact x_iret rfl (by decide +kernel)
theorem T122 {l : Launch} {X : aX} {d : Nat} {q : aQ} (hd : 1 ≤ d) (hS : S122_0 q) : Call l X d 122 [.ref 647] (hp q) (some (.int (F122_0 q).1)) (hp (F122_0 q).2) := Call.of ok122 (by decide) (Nat.le_of_ble_eq_true rfl) ⟨Nat.le_refl _, Nat.le_refl _⟩ (A122_0 hd rfl ⟨rfl, rfl⟩ hS)
/-- TypeForecast$Machine.leafValue(I)J -/
def F121_114 (s0 : Int32) (s1 : Int32) (q : aQ) : Int64 × aQ := ((F128_0 s1 (Int32.toInt64 s0) q), q)
def S121_114 (s0 : Int32) (s1 : Int32) (q : aQ) : Prop := S128_0 s1 (Int32.toInt64 s0) q ∧ (True)
set_option maxRecDepth 100000 in
set_option maxHeartbeats 4000000 in
theorem A121_114 {l : Launch} {X : aX} {d : Nat} {r : Option Value} {h' : aH} {s0 : Int32} {s1 : Int32} {q : aQ} (hd : 2 ≤ d) (hN : h'.1 = nk0) (hG : gJ r h' (F121_114 s0 s1 q)) (hS : S121_114 s0 s1 q) : AW l X 121 c121 d r h' 114 [none, none, none, none] [.int s0, .int s1] (hp q) := by
  unfold F121_114 at hG
  unfold S121_114 at hS
  refine x_run (pc' := 115) (lo' := [none, none, none, none]) (st' := [.long (Int32.toInt64 s0), .int s1]) 1 rfl ?_
  obtain ⟨o5, hS⟩ := hS
  refine x_cs (j := 128) (ne := 0) (vs := [.int s1, .long (Int32.toInt64 s0)]) (rest := []) rfl (by decide +kernel) (by decide +kernel) (by decide) (Eq.trans rfl (show 2 = _ from by decide +kernel)) rfl (Nat.le_of_ble_eq_true rfl) (by omega) (T128 (Nat.le_refl 1) o5) (hp_m hN) ?_
  show AW l X 121 c121 d r h' 118 [none, none, none, none] [.long (F128_0 s1 (Int32.toInt64 s0) q)] (hp q)
  obtain ⟨rfl, rfl⟩ := hG
  exact x_lret rfl (by decide +kernel)
def F121_87 (v2 : Int32) (s0 : Int32) (q : aQ) : Int64 × aQ := (if s0 = 0 then ((F128_0 0 2 q), q) else ((q.2 649 (Int32.toNatClampNeg v2)), q))
def S121_87 (v2 : Int32) (s0 : Int32) (q : aQ) : Prop := ((s0 = 0) → S128_0 0 2 q ∧ (True)) ∧ (¬ (s0 = 0) → vp_in v2 5 ∧ (True))
set_option maxRecDepth 100000 in
set_option maxHeartbeats 4000000 in
theorem A121_87 {l : Launch} {X : aX} {d : Nat} {r : Option Value} {h' : aH} {v2 : Int32} {s0 : Int32} {q : aQ} (hd : 2 ≤ d) (hN : h'.1 = nk0) (hG : gJ r h' (F121_87 v2 s0 q)) (hS : S121_87 v2 s0 q) : AW l X 121 c121 d r h' 87 [some (.ref 647), none, some (.int v2), none] [.int s0] (hp q) := by
  unfold F121_87 at hG
  unfold S121_87 at hS
  refine x_run (pc' := 89) (lo' := [some (.ref 647), none, some (.int v2), some (.int s0)]) (st' := [.int s0]) 2 rfl ?_
  refine x_if 101 rfl rfl (fun (hc12 : s0 = 0) => ?_) (fun (hc12 : ¬ s0 = 0) => ?_)
  · rw [if_pos hc12] at hG
    replace hS := hS.1 hc12
    refine x_run (pc' := 102) (lo' := [some (.ref 647), none, some (.int v2), some (.int s0)]) (st' := [.int 0]) 1 rfl ?_
    refine x_ldc2 (v := 2) (ne := 0) rfl (by decide +kernel) ?_
    obtain ⟨o13, hS⟩ := hS
    refine x_cs (j := 128) (ne := 0) (vs := [.int 0, .long 2]) (rest := []) rfl (by decide +kernel) (by decide +kernel) (by decide) (Eq.trans rfl (show 2 = _ from by decide +kernel)) rfl (Nat.le_of_ble_eq_true rfl) (by omega) (T128 (Nat.le_refl 1) o13) (hp_m hN) ?_
    show AW l X 121 c121 d r h' 108 [some (.ref 647), none, some (.int v2), some (.int s0)] [.long (F128_0 0 2 q)] (hp q)
    obtain ⟨rfl, rfl⟩ := hG
    exact x_lret rfl (by decide +kernel)
  · rw [if_neg hc12] at hG
    replace hS := hS.2 hc12
    refine x_run (pc' := 93) (lo' := [some (.ref 647), none, some (.int v2), some (.int s0)]) (st' := [.ref 647]) 1 rfl ?_
    refine x_gf (c := 517) (ne := 0) (v := .ref 649) rfl (by decide +kernel) rfl rfl ?_
    refine x_run (pc' := 97) (lo' := [some (.ref 647), none, some (.int v2), some (.int s0)]) (st' := [.int v2, .ref 649]) 1 rfl ?_
    obtain ⟨o14, hS⟩ := hS
    refine p_la (n := 5) (v := (q.2 649 (Int32.toNatClampNeg v2))) rfl rfl o14 rfl ?_
    refine x_run (pc' := 108) (lo' := [some (.ref 647), none, some (.int v2), some (.int s0)]) (st' := [.long (q.2 649 (Int32.toNatClampNeg v2))]) 1 rfl ?_
    obtain ⟨rfl, rfl⟩ := hG
    exact x_lret rfl (by decide +kernel)
def F121_0 (v1 : Int32) (q : aQ) : Int64 × aQ := (if (q.1 3 (Int32.toNatClampNeg v1)) = 0 then ((F128_0 1 (Int32.toInt64 (q.1 4 (Int32.toNatClampNeg v1))) q), q) else (if (q.1 3 (Int32.toNatClampNeg v1)) = 1 then ((F128_0 2 (Int32.toInt64 (q.1 4 (Int32.toNatClampNeg v1))) q), q) else (if (q.1 3 (Int32.toNatClampNeg v1)) = 2 then ((F128_0 4 0 q), q) else (if (q.1 3 (Int32.toNatClampNeg v1)) = 3 then (if (F129_0 (q.2 649 (Int32.toNatClampNeg (q.1 4 (Int32.toNatClampNeg v1)))) q) = 8 then F121_87 (q.1 4 (Int32.toNatClampNeg v1)) 0 q else F121_87 (q.1 4 (Int32.toNatClampNeg v1)) 1 q) else F121_114 ((F122_0 q).1) 1 ((F122_0 q).2)))))
def S121_0 (v1 : Int32) (q : aQ) : Prop := vp_in v1 60 ∧ (vp_in v1 60 ∧ ((((q.1 3 (Int32.toNatClampNeg v1)) = 0) → S128_0 1 (Int32.toInt64 (q.1 4 (Int32.toNatClampNeg v1))) q ∧ (True)) ∧ (¬ ((q.1 3 (Int32.toNatClampNeg v1)) = 0) → (((q.1 3 (Int32.toNatClampNeg v1)) = 1) → S128_0 2 (Int32.toInt64 (q.1 4 (Int32.toNatClampNeg v1))) q ∧ (True)) ∧ (¬ ((q.1 3 (Int32.toNatClampNeg v1)) = 1) → (((q.1 3 (Int32.toNatClampNeg v1)) = 2) → S128_0 4 0 q ∧ (True)) ∧ (¬ ((q.1 3 (Int32.toNatClampNeg v1)) = 2) → (((q.1 3 (Int32.toNatClampNeg v1)) = 3) → vp_in (q.1 4 (Int32.toNatClampNeg v1)) 5 ∧ (S129_0 (q.2 649 (Int32.toNatClampNeg (q.1 4 (Int32.toNatClampNeg v1)))) q ∧ ((((F129_0 (q.2 649 (Int32.toNatClampNeg (q.1 4 (Int32.toNatClampNeg v1)))) q) = 8) → S121_87 (q.1 4 (Int32.toNatClampNeg v1)) 0 q) ∧ (¬ ((F129_0 (q.2 649 (Int32.toNatClampNeg (q.1 4 (Int32.toNatClampNeg v1)))) q) = 8) → S121_87 (q.1 4 (Int32.toNatClampNeg v1)) 1 q)))) ∧ (¬ ((q.1 3 (Int32.toNatClampNeg v1)) = 3) → S122_0 q ∧ (S121_114 ((F122_0 q).1) 1 ((F122_0 q).2))))))))
set_option maxRecDepth 100000 in
set_option maxHeartbeats 4000000 in
theorem A121_0 {l : Launch} {X : aX} {d : Nat} {r : Option Value} {h' : aH} {v1 : Int32} {q : aQ} (hd : 2 ≤ d) (hN : h'.1 = nk0) (hG : gJ r h' (F121_0 v1 q)) (hS : S121_0 v1 q) : AW l X 121 c121 d r h' 0 [some (.ref 647), some (.int v1), none, none] [] (hp q) := by
  unfold F121_0 at hG
  unfold S121_0 at hS
  refine x_run (pc' := 1) (lo' := [some (.ref 647), some (.int v1), none, none]) (st' := [.ref 647]) 1 rfl ?_
  refine x_gf (c := 513) (ne := 0) (v := .ref 1) rfl (by decide +kernel) rfl rfl ?_
  refine x_gf (c := 66) (ne := 1) (v := .ref 4) rfl (by decide +kernel) rfl rfl ?_
  refine x_run (pc' := 8) (lo' := [some (.ref 647), some (.int v1), none, none]) (st' := [.int v1, .ref 4]) 1 rfl ?_
  obtain ⟨o1, hS⟩ := hS
  refine p_ia (n := 60) (v := (q.1 4 (Int32.toNatClampNeg v1))) rfl rfl o1 rfl ?_
  refine x_run (pc' := 11) (lo' := [some (.ref 647), some (.int v1), some (.int (q.1 4 (Int32.toNatClampNeg v1))), none]) (st' := [.ref 647]) 2 rfl ?_
  refine x_gf (c := 513) (ne := 0) (v := .ref 1) rfl (by decide +kernel) rfl rfl ?_
  refine x_gf (c := 65) (ne := 1) (v := .ref 3) rfl (by decide +kernel) rfl rfl ?_
  refine x_run (pc' := 18) (lo' := [some (.ref 647), some (.int v1), some (.int (q.1 4 (Int32.toNatClampNeg v1))), none]) (st' := [.int v1, .ref 3]) 1 rfl ?_
  obtain ⟨o2, hS⟩ := hS
  refine p_ia (n := 60) (v := (q.1 3 (Int32.toNatClampNeg v1))) rfl rfl o2 rfl ?_
  by_cases hc15 : (q.1 3 (Int32.toNatClampNeg v1)) = 0
  · rw [if_pos hc15] at hG
    replace hS := hS.1 hc15
    refine x_tsIn (off := 29) 48 rfl (by rw [hc15]; decide) (by rw [hc15]; decide) (by rw [hc15]; rfl) rfl ?_
    refine x_run (pc' := 51) (lo' := [some (.ref 647), some (.int v1), some (.int (q.1 4 (Int32.toNatClampNeg v1))), none]) (st' := [.long (Int32.toInt64 (q.1 4 (Int32.toNatClampNeg v1))), .int 1]) 3 rfl ?_
    obtain ⟨o6, hS⟩ := hS
    refine x_cs (j := 128) (ne := 0) (vs := [.int 1, .long (Int32.toInt64 (q.1 4 (Int32.toNatClampNeg v1)))]) (rest := []) rfl (by decide +kernel) (by decide +kernel) (by decide) (Eq.trans rfl (show 2 = _ from by decide +kernel)) rfl (Nat.le_of_ble_eq_true rfl) (by omega) (T128 (Nat.le_refl 1) o6) (hp_m hN) ?_
    show AW l X 121 c121 d r h' 54 [some (.ref 647), some (.int v1), some (.int (q.1 4 (Int32.toNatClampNeg v1))), none] [.long (F128_0 1 (Int32.toInt64 (q.1 4 (Int32.toNatClampNeg v1))) q)] (hp q)
    obtain ⟨rfl, rfl⟩ := hG
    exact x_lret rfl (by decide +kernel)
  · rw [if_neg hc15] at hG
    replace hS := hS.2 hc15
    by_cases hc16 : (q.1 3 (Int32.toNatClampNeg v1)) = 1
    · rw [if_pos hc16] at hG
      replace hS := hS.1 hc16
      refine x_tsIn (off := 36) 55 rfl (by rw [hc16]; decide) (by rw [hc16]; decide) (by rw [hc16]; rfl) rfl ?_
      refine x_run (pc' := 58) (lo' := [some (.ref 647), some (.int v1), some (.int (q.1 4 (Int32.toNatClampNeg v1))), none]) (st' := [.long (Int32.toInt64 (q.1 4 (Int32.toNatClampNeg v1))), .int 2]) 3 rfl ?_
      obtain ⟨o7, hS⟩ := hS
      refine x_cs (j := 128) (ne := 0) (vs := [.int 2, .long (Int32.toInt64 (q.1 4 (Int32.toNatClampNeg v1)))]) (rest := []) rfl (by decide +kernel) (by decide +kernel) (by decide) (Eq.trans rfl (show 2 = _ from by decide +kernel)) rfl (Nat.le_of_ble_eq_true rfl) (by omega) (T128 (Nat.le_refl 1) o7) (hp_m hN) ?_
      show AW l X 121 c121 d r h' 61 [some (.ref 647), some (.int v1), some (.int (q.1 4 (Int32.toNatClampNeg v1))), none] [.long (F128_0 2 (Int32.toInt64 (q.1 4 (Int32.toNatClampNeg v1))) q)] (hp q)
      obtain ⟨rfl, rfl⟩ := hG
      exact x_lret rfl (by decide +kernel)
    · rw [if_neg hc16] at hG
      replace hS := hS.2 hc16
      by_cases hc17 : (q.1 3 (Int32.toNatClampNeg v1)) = 2
      · rw [if_pos hc17] at hG
        replace hS := hS.1 hc17
        refine x_tsIn (off := 43) 62 rfl (by rw [hc17]; decide) (by rw [hc17]; decide) (by rw [hc17]; rfl) rfl ?_
        refine x_run (pc' := 64) (lo' := [some (.ref 647), some (.int v1), some (.int (q.1 4 (Int32.toNatClampNeg v1))), none]) (st' := [.long 0, .int 4]) 2 rfl ?_
        obtain ⟨o8, hS⟩ := hS
        refine x_cs (j := 128) (ne := 0) (vs := [.int 4, .long 0]) (rest := []) rfl (by decide +kernel) (by decide +kernel) (by decide) (Eq.trans rfl (show 2 = _ from by decide +kernel)) rfl (Nat.le_of_ble_eq_true rfl) (by omega) (T128 (Nat.le_refl 1) o8) (hp_m hN) ?_
        show AW l X 121 c121 d r h' 67 [some (.ref 647), some (.int v1), some (.int (q.1 4 (Int32.toNatClampNeg v1))), none] [.long (F128_0 4 0 q)] (hp q)
        obtain ⟨rfl, rfl⟩ := hG
        exact x_lret rfl (by decide +kernel)
      · rw [if_neg hc17] at hG
        replace hS := hS.2 hc17
        by_cases hc18 : (q.1 3 (Int32.toNatClampNeg v1)) = 3
        · rw [if_pos hc18] at hG
          replace hS := hS.1 hc18
          refine x_tsIn (off := 49) 68 rfl (by rw [hc18]; decide) (by rw [hc18]; decide) (by rw [hc18]; rfl) rfl ?_
          refine x_run (pc' := 69) (lo' := [some (.ref 647), some (.int v1), some (.int (q.1 4 (Int32.toNatClampNeg v1))), none]) (st' := [.ref 647]) 1 rfl ?_
          refine x_gf (c := 517) (ne := 0) (v := .ref 649) rfl (by decide +kernel) rfl rfl ?_
          refine x_run (pc' := 73) (lo' := [some (.ref 647), some (.int v1), some (.int (q.1 4 (Int32.toNatClampNeg v1))), none]) (st' := [.int (q.1 4 (Int32.toNatClampNeg v1)), .ref 649]) 1 rfl ?_
          obtain ⟨o9, hS⟩ := hS
          refine p_la (n := 5) (v := (q.2 649 (Int32.toNatClampNeg (q.1 4 (Int32.toNatClampNeg v1))))) rfl rfl o9 rfl ?_
          obtain ⟨o10, hS⟩ := hS
          refine x_cs (j := 129) (ne := 0) (vs := [.long (q.2 649 (Int32.toNatClampNeg (q.1 4 (Int32.toNatClampNeg v1))))]) (rest := []) rfl (by decide +kernel) (by decide +kernel) (by decide) (Eq.trans rfl (show 1 = _ from by decide +kernel)) rfl (Nat.le_of_ble_eq_true rfl) (by omega) (T129 (Nat.le_refl 1) o10) (hp_m hN) ?_
          show AW l X 121 c121 d r h' 77 [some (.ref 647), some (.int v1), some (.int (q.1 4 (Int32.toNatClampNeg v1))), none] [.int (F129_0 (q.2 649 (Int32.toNatClampNeg (q.1 4 (Int32.toNatClampNeg v1)))) q)] (hp q)
          refine x_run (pc' := 79) (lo' := [some (.ref 647), some (.int v1), some (.int (q.1 4 (Int32.toNatClampNeg v1))), none]) (st' := [.int 8, .int (F129_0 (q.2 649 (Int32.toNatClampNeg (q.1 4 (Int32.toNatClampNeg v1)))) q)]) 1 rfl ?_
          refine x_ic 86 rfl rfl (fun (hc11 : (F129_0 (q.2 649 (Int32.toNatClampNeg (q.1 4 (Int32.toNatClampNeg v1)))) q) = 8) => ?_) (fun (hc11 : ¬ (F129_0 (q.2 649 (Int32.toNatClampNeg (q.1 4 (Int32.toNatClampNeg v1)))) q) = 8) => ?_)
          · rw [if_pos hc11] at hG
            replace hS := hS.1 hc11
            refine x_run (pc' := 87) (lo' := [some (.ref 647), some (.int v1), some (.int (q.1 4 (Int32.toNatClampNeg v1))), none]) (st' := [.int 0]) 1 rfl ?_
            refine x_kill [1] ?_
            exact A121_87 hd hN hG hS
          · rw [if_neg hc11] at hG
            replace hS := hS.2 hc11
            refine x_run (pc' := 87) (lo' := [some (.ref 647), some (.int v1), some (.int (q.1 4 (Int32.toNatClampNeg v1))), none]) (st' := [.int 1]) 2 rfl ?_
            refine x_kill [1] ?_
            exact A121_87 hd hN hG hS
        · rw [if_neg hc18] at hG
          replace hS := hS.2 hc18
          refine x_tsOut 109 rfl (by have z0 := sw_ne (k := 0) hc15 (by decide); have z1 := sw_ne (k := 1) hc16 (by decide); have z2 := sw_ne (k := 2) hc17 (by decide); have z3 := sw_ne (k := 3) hc18 (by decide); omega) rfl ?_
          refine x_run (pc' := 111) (lo' := [some (.ref 647), some (.int v1), some (.int (q.1 4 (Int32.toNatClampNeg v1))), none]) (st' := [.ref 647, .int 1]) 2 rfl ?_
          obtain ⟨o4, hS⟩ := hS
          refine x_cv (j := 122) (ne := 0) (vs := []) (rest := [.int 1]) rfl (by decide +kernel) (by decide +kernel) (by decide) (Eq.trans rfl (show 0 = _ from by decide +kernel)) rfl (by decide +kernel) rfl (Nat.le_of_ble_eq_true rfl) (by omega) (T122 (Nat.le_refl 1) o4) (hp_m hN) ?_
          show AW l X 121 c121 d r h' 114 [some (.ref 647), some (.int v1), some (.int (q.1 4 (Int32.toNatClampNeg v1))), none] [.int (F122_0 q).1, .int 1] (hp (F122_0 q).2)
          refine x_kill [0, 1, 2] ?_
          exact A121_114 hd hN hG hS
theorem T121 {l : Launch} {X : aX} {d : Nat} {v1 : Int32} {q : aQ} (hd : 2 ≤ d) (hS : S121_0 v1 q) : Call l X d 121 [.ref 647, .int v1] (hp q) (some (.long (F121_0 v1 q).1)) (hp (F121_0 v1 q).2) := Call.of ok121 (by decide) (Nat.le_of_ble_eq_true rfl) ⟨Nat.le_refl _, Nat.le_refl _⟩ (A121_0 hd rfl ⟨rfl, rfl⟩ hS)
/-- TypeForecast$Machine.isTrue(J)Z -/
def F127_0 (v0 : Int64) (q : aQ) : Int32 := (if (F129_0 v0 q) = 4 then 0 else (if (lg_cmp (F130_0 v0 q) 0) = 0 then 0 else 1))
def S127_0 (v0 : Int64) (q : aQ) : Prop := S129_0 v0 q ∧ ((((F129_0 v0 q) = 4) → True) ∧ (¬ ((F129_0 v0 q) = 4) → S130_0 v0 q ∧ ((((lg_cmp (F130_0 v0 q) 0) = 0) → True) ∧ (¬ ((lg_cmp (F130_0 v0 q) 0) = 0) → True))))
set_option maxRecDepth 100000 in
set_option maxHeartbeats 4000000 in
theorem A127_0 {l : Launch} {X : aX} {d : Nat} {r : Option Value} {h' : aH} {v0 : Int64} {q : aQ} (hd : 2 ≤ d) (hN : h'.1 = nk0) (hG : gI r h' (F127_0 v0 q, q)) (hS : S127_0 v0 q) : AW l X 127 c127 d r h' 0 [some (.long v0), none] [] (hp q) := by
  unfold F127_0 at hG
  unfold S127_0 at hS
  refine x_run (pc' := 1) (lo' := [some (.long v0), none]) (st' := [.long v0]) 1 rfl ?_
  obtain ⟨o1, hS⟩ := hS
  refine x_cs (j := 129) (ne := 0) (vs := [.long v0]) (rest := []) rfl (by decide +kernel) (by decide +kernel) (by decide) (Eq.trans rfl (show 1 = _ from by decide +kernel)) rfl (Nat.le_of_ble_eq_true rfl) (by omega) (T129 (Nat.le_refl 1) o1) (hp_m hN) ?_
  show AW l X 127 c127 d r h' 4 [some (.long v0), none] [.int (F129_0 v0 q)] (hp q)
  refine x_run (pc' := 5) (lo' := [some (.long v0), none]) (st' := [.int 4, .int (F129_0 v0 q)]) 1 rfl ?_
  refine x_ic 21 rfl rfl (fun (hc2 : (F129_0 v0 q) = 4) => ?_) (fun (hc2 : ¬ (F129_0 v0 q) = 4) => ?_)
  · rw [if_pos hc2] at hG
    replace hS := hS.1 hc2
    refine x_run (pc' := 22) (lo' := [some (.long v0), none]) (st' := [.int 0]) 1 rfl ?_
    obtain ⟨rfl, rfl⟩ := hG
    exact x_zret rfl (by decide +kernel) (Or.inl rfl)
  · rw [if_neg hc2] at hG
    replace hS := hS.2 hc2
    refine x_run (pc' := 9) (lo' := [some (.long v0), none]) (st' := [.long v0]) 1 rfl ?_
    obtain ⟨o3, hS⟩ := hS
    refine x_cs (j := 130) (ne := 0) (vs := [.long v0]) (rest := []) rfl (by decide +kernel) (by decide +kernel) (by decide) (Eq.trans rfl (show 1 = _ from by decide +kernel)) rfl (Nat.le_of_ble_eq_true rfl) (by omega) (T130 (Nat.le_refl 1) o3) (hp_m hN) ?_
    show AW l X 127 c127 d r h' 12 [some (.long v0), none] [.long (F130_0 v0 q)] (hp q)
    refine x_run (pc' := 14) (lo' := [some (.long v0), none]) (st' := [.int (lg_cmp (F130_0 v0 q) 0)]) 2 rfl ?_
    refine x_if 21 rfl rfl (fun (hc4 : (lg_cmp (F130_0 v0 q) 0) = 0) => ?_) (fun (hc4 : ¬ (lg_cmp (F130_0 v0 q) 0) = 0) => ?_)
    · rw [if_pos hc4] at hG
      replace hS := hS.1 hc4
      refine x_run (pc' := 22) (lo' := [some (.long v0), none]) (st' := [.int 0]) 1 rfl ?_
      obtain ⟨rfl, rfl⟩ := hG
      exact x_zret rfl (by decide +kernel) (Or.inl rfl)
    · rw [if_neg hc4] at hG
      replace hS := hS.2 hc4
      refine x_run (pc' := 22) (lo' := [some (.long v0), none]) (st' := [.int 1]) 2 rfl ?_
      obtain ⟨rfl, rfl⟩ := hG
      exact x_zret rfl (by decide +kernel) (Or.inr rfl)
theorem T127 {l : Launch} {X : aX} {d : Nat} {v0 : Int64} {q : aQ} (hd : 2 ≤ d) (hS : S127_0 v0 q) : Call l X d 127 [.long v0] (hp q) (some (.int (F127_0 v0 q))) (hp q) := Call.of ok127 (by decide) (Nat.le_of_ble_eq_true rfl) ⟨Nat.le_refl _, Nat.le_refl _⟩ (A127_0 hd rfl ⟨rfl, rfl⟩ hS)
/-- TypeForecast$Machine.truth(Z)J -/
def F126_10 (s0 : Int64) (s1 : Int32) (q : aQ) : Int64 := (F128_0 s1 s0 q)
def S126_10 (s0 : Int64) (s1 : Int32) (q : aQ) : Prop := S128_0 s1 s0 q ∧ (True)
set_option maxRecDepth 100000 in
set_option maxHeartbeats 4000000 in
theorem A126_10 {l : Launch} {X : aX} {d : Nat} {r : Option Value} {h' : aH} {s0 : Int64} {s1 : Int32} {q : aQ} (hd : 2 ≤ d) (hN : h'.1 = nk0) (hG : gJ r h' (F126_10 s0 s1 q, q)) (hS : S126_10 s0 s1 q) : AW l X 126 c126 d r h' 10 [none] [.long s0, .int s1] (hp q) := by
  unfold F126_10 at hG
  unfold S126_10 at hS
  obtain ⟨o2, hS⟩ := hS
  refine x_cs (j := 128) (ne := 0) (vs := [.int s1, .long s0]) (rest := []) rfl (by decide +kernel) (by decide +kernel) (by decide) (Eq.trans rfl (show 2 = _ from by decide +kernel)) rfl (Nat.le_of_ble_eq_true rfl) (by omega) (T128 (Nat.le_refl 1) o2) (hp_m hN) ?_
  show AW l X 126 c126 d r h' 13 [none] [.long (F128_0 s1 s0 q)] (hp q)
  obtain ⟨rfl, rfl⟩ := hG
  exact x_lret rfl (by decide +kernel)
def F126_0 (v0 : Int32) (q : aQ) : Int64 := (if v0 = 0 then F126_10 0 1 q else F126_10 1 1 q)
def S126_0 (v0 : Int32) (q : aQ) : Prop := ((v0 = 0) → S126_10 0 1 q) ∧ (¬ (v0 = 0) → S126_10 1 1 q)
set_option maxRecDepth 100000 in
set_option maxHeartbeats 4000000 in
theorem A126_0 {l : Launch} {X : aX} {d : Nat} {r : Option Value} {h' : aH} {v0 : Int32} {q : aQ} (hd : 2 ≤ d) (hN : h'.1 = nk0) (hG : gJ r h' (F126_0 v0 q, q)) (hS : S126_0 v0 q) : AW l X 126 c126 d r h' 0 [some (.int v0)] [] (hp q) := by
  unfold F126_0 at hG
  unfold S126_0 at hS
  refine x_run (pc' := 2) (lo' := [some (.int v0)]) (st' := [.int v0, .int 1]) 2 rfl ?_
  refine x_if 9 rfl rfl (fun (hc1 : v0 = 0) => ?_) (fun (hc1 : ¬ v0 = 0) => ?_)
  · rw [if_pos hc1] at hG
    replace hS := hS.1 hc1
    refine x_run (pc' := 10) (lo' := [some (.int v0)]) (st' := [.long 0, .int 1]) 1 rfl ?_
    refine x_kill [0] ?_
    exact A126_10 hd hN hG hS
  · rw [if_neg hc1] at hG
    replace hS := hS.2 hc1
    refine x_run (pc' := 10) (lo' := [some (.int v0)]) (st' := [.long 1, .int 1]) 2 rfl ?_
    refine x_kill [0] ?_
    exact A126_10 hd hN hG hS
theorem T126 {l : Launch} {X : aX} {d : Nat} {v0 : Int32} {q : aQ} (hd : 2 ≤ d) (hS : S126_0 v0 q) : Call l X d 126 [.int v0] (hp q) (some (.long (F126_0 v0 q))) (hp q) := Call.of ok126 (by decide) (Nat.le_of_ble_eq_true rfl) ⟨Nat.le_refl _, Nat.le_refl _⟩ (A126_0 hd rfl ⟨rfl, rfl⟩ hS)
/-- TypeForecast$Machine.single(IJ)J -/
def F123_18 (s0 : Int32) (q : aQ) : Int64 := (F126_0 s0 q)
def S123_18 (s0 : Int32) (q : aQ) : Prop := S126_0 s0 q ∧ (True)
set_option maxRecDepth 100000 in
set_option maxHeartbeats 4000000 in
theorem A123_18 {l : Launch} {X : aX} {d : Nat} {r : Option Value} {h' : aH} {s0 : Int32} {q : aQ} (hd : 3 ≤ d) (hN : h'.1 = nk0) (hG : gJ r h' (F123_18 s0 q, q)) (hS : S123_18 s0 q) : AW l X 123 c123 d r h' 18 [none, none, none] [.int s0] (hp q) := by
  unfold F123_18 at hG
  unfold S123_18 at hS
  obtain ⟨o9, hS⟩ := hS
  refine x_cs (j := 126) (ne := 0) (vs := [.int s0]) (rest := []) rfl (by decide +kernel) (by decide +kernel) (by decide) (Eq.trans rfl (show 1 = _ from by decide +kernel)) rfl (Nat.le_of_ble_eq_true rfl) (by omega) (T126 (Nat.le_refl 2) o9) (hp_m hN) ?_
  show AW l X 123 c123 d r h' 21 [none, none, none] [.long (F126_0 s0 q)] (hp q)
  obtain ⟨rfl, rfl⟩ := hG
  exact x_lret rfl (by decide +kernel)
def F123_0 (v0 : Int32) (v1 : Int64) (q : aQ) : Int64 := (if v0 = 6 then (if (F127_0 v1 q) = 0 then F123_18 1 q else F123_18 0 q) else (if (F129_0 v1 q) = 2 then (F128_0 1 (F130_0 v1 q) q) else (F128_0 0 1 q)))
def S123_0 (v0 : Int32) (v1 : Int64) (q : aQ) : Prop := ((v0 = 6) → S127_0 v1 q ∧ ((((F127_0 v1 q) = 0) → S123_18 1 q) ∧ (¬ ((F127_0 v1 q) = 0) → S123_18 0 q))) ∧ (¬ (v0 = 6) → S129_0 v1 q ∧ ((((F129_0 v1 q) = 2) → S130_0 v1 q ∧ (S128_0 1 (F130_0 v1 q) q ∧ (True))) ∧ (¬ ((F129_0 v1 q) = 2) → S128_0 0 1 q ∧ (True))))
set_option maxRecDepth 100000 in
set_option maxHeartbeats 4000000 in
theorem A123_0 {l : Launch} {X : aX} {d : Nat} {r : Option Value} {h' : aH} {v0 : Int32} {v1 : Int64} {q : aQ} (hd : 3 ≤ d) (hN : h'.1 = nk0) (hG : gJ r h' (F123_0 v0 v1 q, q)) (hS : S123_0 v0 v1 q) : AW l X 123 c123 d r h' 0 [some (.int v0), some (.long v1), none] [] (hp q) := by
  unfold F123_0 at hG
  unfold S123_0 at hS
  refine x_run (pc' := 3) (lo' := [some (.int v0), some (.long v1), none]) (st' := [.int 6, .int v0]) 2 rfl ?_
  refine x_ic 22 rfl rfl (fun (hc1 : ¬ v0 = 6) => ?_) (fun (hc1 : v0 = 6) => ?_)
  · rw [if_neg hc1] at hG
    replace hS := hS.2 hc1
    refine x_run (pc' := 23) (lo' := [some (.int v0), some (.long v1), none]) (st' := [.long v1]) 1 rfl ?_
    obtain ⟨o2, hS⟩ := hS
    refine x_cs (j := 129) (ne := 0) (vs := [.long v1]) (rest := []) rfl (by decide +kernel) (by decide +kernel) (by decide) (Eq.trans rfl (show 1 = _ from by decide +kernel)) rfl (Nat.le_of_ble_eq_true rfl) (by omega) (T129 (Nat.le_refl 1) o2) (hp_m hN) ?_
    show AW l X 123 c123 d r h' 26 [some (.int v0), some (.long v1), none] [.int (F129_0 v1 q)] (hp q)
    refine x_run (pc' := 27) (lo' := [some (.int v0), some (.long v1), none]) (st' := [.int 2, .int (F129_0 v1 q)]) 1 rfl ?_
    refine x_ic 41 rfl rfl (fun (hc3 : ¬ (F129_0 v1 q) = 2) => ?_) (fun (hc3 : (F129_0 v1 q) = 2) => ?_)
    · rw [if_neg hc3] at hG
      replace hS := hS.2 hc3
      refine x_run (pc' := 43) (lo' := [some (.int v0), some (.long v1), none]) (st' := [.long 1, .int 0]) 2 rfl ?_
      obtain ⟨o4, hS⟩ := hS
      refine x_cs (j := 128) (ne := 0) (vs := [.int 0, .long 1]) (rest := []) rfl (by decide +kernel) (by decide +kernel) (by decide) (Eq.trans rfl (show 2 = _ from by decide +kernel)) rfl (Nat.le_of_ble_eq_true rfl) (by omega) (T128 (Nat.le_refl 1) o4) (hp_m hN) ?_
      show AW l X 123 c123 d r h' 46 [some (.int v0), some (.long v1), none] [.long (F128_0 0 1 q)] (hp q)
      obtain ⟨rfl, rfl⟩ := hG
      exact x_lret rfl (by decide +kernel)
    · rw [if_pos hc3] at hG
      replace hS := hS.1 hc3
      refine x_run (pc' := 32) (lo' := [some (.int v0), some (.long v1), none]) (st' := [.long v1, .int 1]) 2 rfl ?_
      obtain ⟨o5, hS⟩ := hS
      refine x_cs (j := 130) (ne := 0) (vs := [.long v1]) (rest := [.int 1]) rfl (by decide +kernel) (by decide +kernel) (by decide) (Eq.trans rfl (show 1 = _ from by decide +kernel)) rfl (Nat.le_of_ble_eq_true rfl) (by omega) (T130 (Nat.le_refl 1) o5) (hp_m hN) ?_
      show AW l X 123 c123 d r h' 35 [some (.int v0), some (.long v1), none] [.long (F130_0 v1 q), .int 1] (hp q)
      obtain ⟨o6, hS⟩ := hS
      refine x_cs (j := 128) (ne := 0) (vs := [.int 1, .long (F130_0 v1 q)]) (rest := []) rfl (by decide +kernel) (by decide +kernel) (by decide) (Eq.trans rfl (show 2 = _ from by decide +kernel)) rfl (Nat.le_of_ble_eq_true rfl) (by omega) (T128 (Nat.le_refl 1) o6) (hp_m hN) ?_
      show AW l X 123 c123 d r h' 38 [some (.int v0), some (.long v1), none] [.long (F128_0 1 (F130_0 v1 q) q)] (hp q)
      refine x_run (pc' := 46) (lo' := [some (.int v0), some (.long v1), none]) (st' := [.long (F128_0 1 (F130_0 v1 q) q)]) 1 rfl ?_
      obtain ⟨rfl, rfl⟩ := hG
      exact x_lret rfl (by decide +kernel)
  · rw [if_pos hc1] at hG
    replace hS := hS.1 hc1
    refine x_run (pc' := 7) (lo' := [some (.int v0), some (.long v1), none]) (st' := [.long v1]) 1 rfl ?_
    obtain ⟨o7, hS⟩ := hS
    refine x_cs (j := 127) (ne := 0) (vs := [.long v1]) (rest := []) rfl (by decide +kernel) (by decide +kernel) (by decide) (Eq.trans rfl (show 1 = _ from by decide +kernel)) rfl (Nat.le_of_ble_eq_true rfl) (by omega) (T127 (Nat.le_refl 2) o7) (hp_m hN) ?_
    show AW l X 123 c123 d r h' 10 [some (.int v0), some (.long v1), none] [.int (F127_0 v1 q)] (hp q)
    refine x_if 17 rfl rfl (fun (hc8 : ¬ (F127_0 v1 q) = 0) => ?_) (fun (hc8 : (F127_0 v1 q) = 0) => ?_)
    · rw [if_neg hc8] at hG
      replace hS := hS.2 hc8
      refine x_run (pc' := 18) (lo' := [some (.int v0), some (.long v1), none]) (st' := [.int 0]) 1 rfl ?_
      refine x_kill [0, 1] ?_
      exact A123_18 hd hN hG hS
    · rw [if_pos hc8] at hG
      replace hS := hS.1 hc8
      refine x_run (pc' := 18) (lo' := [some (.int v0), some (.long v1), none]) (st' := [.int 1]) 2 rfl ?_
      refine x_kill [0, 1] ?_
      exact A123_18 hd hN hG hS
theorem T123 {l : Launch} {X : aX} {d : Nat} {v0 : Int32} {v1 : Int64} {q : aQ} (hd : 3 ≤ d) (hS : S123_0 v0 v1 q) : Call l X d 123 [.int v0, .long v1] (hp q) (some (.long (F123_0 v0 v1 q))) (hp q) := Call.of ok123 (by decide) (Nat.le_of_ble_eq_true rfl) ⟨Nat.le_refl _, Nat.le_refl _⟩ (A123_0 hd rfl ⟨rfl, rfl⟩ hS)
/-- TypeForecast$Machine.checked(IJ)J -/
def F125_21 (v0 : Int32) (v1 : Int64) (s0 : Int32) (q : aQ) : Int64 := (if s0 = 0 then (F128_0 0 9 q) else (F128_0 v0 v1 q))
def S125_21 (v0 : Int32) (v1 : Int64) (s0 : Int32) (q : aQ) : Prop := ((s0 = 0) → S128_0 0 9 q ∧ (True)) ∧ (¬ (s0 = 0) → S128_0 v0 v1 q ∧ (True))
set_option maxRecDepth 100000 in
set_option maxHeartbeats 4000000 in
theorem A125_21 {l : Launch} {X : aX} {d : Nat} {r : Option Value} {h' : aH} {v0 : Int32} {v1 : Int64} {s0 : Int32} {q : aQ} (hd : 2 ≤ d) (hN : h'.1 = nk0) (hG : gJ r h' (F125_21 v0 v1 s0 q, q)) (hS : S125_21 v0 v1 s0 q) : AW l X 125 c125 d r h' 21 [some (.int v0), some (.long v1), none, none] [.int s0] (hp q) := by
  unfold F125_21 at hG
  unfold S125_21 at hS
  refine x_run (pc' := 23) (lo' := [some (.int v0), some (.long v1), none, some (.int s0)]) (st' := [.int s0]) 2 rfl ?_
  refine x_if 34 rfl rfl (fun (hc2 : s0 = 0) => ?_) (fun (hc2 : ¬ s0 = 0) => ?_)
  · rw [if_pos hc2] at hG
    replace hS := hS.1 hc2
    refine x_run (pc' := 35) (lo' := [some (.int v0), some (.long v1), none, some (.int s0)]) (st' := [.int 0]) 1 rfl ?_
    refine x_ldc2 (v := 9) (ne := 0) rfl (by decide +kernel) ?_
    obtain ⟨o3, hS⟩ := hS
    refine x_cs (j := 128) (ne := 0) (vs := [.int 0, .long 9]) (rest := []) rfl (by decide +kernel) (by decide +kernel) (by decide) (Eq.trans rfl (show 2 = _ from by decide +kernel)) rfl (Nat.le_of_ble_eq_true rfl) (by omega) (T128 (Nat.le_refl 1) o3) (hp_m hN) ?_
    show AW l X 125 c125 d r h' 41 [some (.int v0), some (.long v1), none, some (.int s0)] [.long (F128_0 0 9 q)] (hp q)
    obtain ⟨rfl, rfl⟩ := hG
    exact x_lret rfl (by decide +kernel)
  · rw [if_neg hc2] at hG
    replace hS := hS.2 hc2
    refine x_run (pc' := 28) (lo' := [some (.int v0), some (.long v1), none, some (.int s0)]) (st' := [.long v1, .int v0]) 2 rfl ?_
    obtain ⟨o4, hS⟩ := hS
    refine x_cs (j := 128) (ne := 0) (vs := [.int v0, .long v1]) (rest := []) rfl (by decide +kernel) (by decide +kernel) (by decide) (Eq.trans rfl (show 2 = _ from by decide +kernel)) rfl (Nat.le_of_ble_eq_true rfl) (by omega) (T128 (Nat.le_refl 1) o4) (hp_m hN) ?_
    show AW l X 125 c125 d r h' 31 [some (.int v0), some (.long v1), none, some (.int s0)] [.long (F128_0 v0 v1 q)] (hp q)
    refine x_run (pc' := 41) (lo' := [some (.int v0), some (.long v1), none, some (.int s0)]) (st' := [.long (F128_0 v0 v1 q)]) 1 rfl ?_
    obtain ⟨rfl, rfl⟩ := hG
    exact x_lret rfl (by decide +kernel)
def F125_20 (v0 : Int32) (v1 : Int64) (q : aQ) : Int64 := F125_21 v0 v1 0 q
def S125_20 (v0 : Int32) (v1 : Int64) (q : aQ) : Prop := S125_21 v0 v1 0 q
set_option maxRecDepth 100000 in
set_option maxHeartbeats 4000000 in
theorem A125_20 {l : Launch} {X : aX} {d : Nat} {r : Option Value} {h' : aH} {v0 : Int32} {v1 : Int64} {q : aQ} (hd : 2 ≤ d) (hN : h'.1 = nk0) (hG : gJ r h' (F125_20 v0 v1 q, q)) (hS : S125_20 v0 v1 q) : AW l X 125 c125 d r h' 20 [some (.int v0), some (.long v1), none, none] [] (hp q) := by
  unfold F125_20 at hG
  unfold S125_20 at hS
  refine x_run (pc' := 21) (lo' := [some (.int v0), some (.long v1), none, none]) (st' := [.int 0]) 1 rfl ?_
  exact A125_21 hd hN hG hS
def F125_0 (v0 : Int32) (v1 : Int64) (q : aQ) : Int64 := (if (lg_cmp v1 (-1000000000)) < 0 then F125_20 v0 v1 q else (if 0 < (lg_cmp v1 1000000000) then F125_20 v0 v1 q else F125_21 v0 v1 1 q))
def S125_0 (v0 : Int32) (v1 : Int64) (q : aQ) : Prop := (((lg_cmp v1 (-1000000000)) < 0) → S125_20 v0 v1 q) ∧ (¬ ((lg_cmp v1 (-1000000000)) < 0) → ((0 < (lg_cmp v1 1000000000)) → S125_20 v0 v1 q) ∧ (¬ (0 < (lg_cmp v1 1000000000)) → S125_21 v0 v1 1 q))
set_option maxRecDepth 100000 in
set_option maxHeartbeats 4000000 in
theorem A125_0 {l : Launch} {X : aX} {d : Nat} {r : Option Value} {h' : aH} {v0 : Int32} {v1 : Int64} {q : aQ} (hd : 2 ≤ d) (hN : h'.1 = nk0) (hG : gJ r h' (F125_0 v0 v1 q, q)) (hS : S125_0 v0 v1 q) : AW l X 125 c125 d r h' 0 [some (.int v0), some (.long v1), none, none] [] (hp q) := by
  unfold F125_0 at hG
  unfold S125_0 at hS
  refine x_run (pc' := 1) (lo' := [some (.int v0), some (.long v1), none, none]) (st' := [.long v1]) 1 rfl ?_
  refine x_ldc2 (v := (-1000000000)) (ne := 0) rfl (by decide +kernel) ?_
  refine x_run (pc' := 5) (lo' := [some (.int v0), some (.long v1), none, none]) (st' := [.int (lg_cmp v1 (-1000000000))]) 1 rfl ?_
  refine x_if 20 rfl rfl (fun (hc1 : (lg_cmp v1 (-1000000000)) < 0) => ?_) (fun (hc1 : ¬ (lg_cmp v1 (-1000000000)) < 0) => ?_)
  · rw [if_pos hc1] at hG
    replace hS := hS.1 hc1
    exact A125_20 hd hN hG hS
  · rw [if_neg hc1] at hG
    replace hS := hS.2 hc1
    refine x_run (pc' := 9) (lo' := [some (.int v0), some (.long v1), none, none]) (st' := [.long v1]) 1 rfl ?_
    refine x_ldc2 (v := 1000000000) (ne := 0) rfl (by decide +kernel) ?_
    refine x_run (pc' := 13) (lo' := [some (.int v0), some (.long v1), none, none]) (st' := [.int (lg_cmp v1 1000000000)]) 1 rfl ?_
    refine x_if 20 rfl rfl (fun (hc5 : 0 < (lg_cmp v1 1000000000)) => ?_) (fun (hc5 : ¬ 0 < (lg_cmp v1 1000000000)) => ?_)
    · rw [if_pos hc5] at hG
      replace hS := hS.1 hc5
      exact A125_20 hd hN hG hS
    · rw [if_neg hc5] at hG
      replace hS := hS.2 hc5
      refine x_run (pc' := 21) (lo' := [some (.int v0), some (.long v1), none, none]) (st' := [.int 1]) 2 rfl ?_
      exact A125_21 hd hN hG hS
theorem T125 {l : Launch} {X : aX} {d : Nat} {v0 : Int32} {v1 : Int64} {q : aQ} (hd : 2 ≤ d) (hS : S125_0 v0 v1 q) : Call l X d 125 [.int v0, .long v1] (hp q) (some (.long (F125_0 v0 v1 q))) (hp q) := Call.of ok125 (by decide) (Nat.le_of_ble_eq_true rfl) ⟨Nat.le_refl _, Nat.le_refl _⟩ (A125_0 hd rfl ⟨rfl, rfl⟩ hS)
/-- TypeForecast$Machine.pair(IJJ)J -/
def F124_223 (s0 : Int32) (q : aQ) : Int64 := (F126_0 s0 q)
def S124_223 (s0 : Int32) (q : aQ) : Prop := S126_0 s0 q ∧ (True)
set_option maxRecDepth 100000 in
set_option maxHeartbeats 4000000 in
theorem A124_223 {l : Launch} {X : aX} {d : Nat} {r : Option Value} {h' : aH} {s0 : Int32} {q : aQ} (hd : 3 ≤ d) (hN : h'.1 = nk0) (hG : gJ r h' (F124_223 s0 q, q)) (hS : S124_223 s0 q) : AW l X 124 c124 d r h' 223 [none, none, none, none, none, none, none, none, none, none, none, none] [.int s0] (hp q) := by
  unfold F124_223 at hG
  unfold S124_223 at hS
  obtain ⟨o12, hS⟩ := hS
  refine x_cs (j := 126) (ne := 0) (vs := [.int s0]) (rest := []) rfl (by decide +kernel) (by decide +kernel) (by decide) (Eq.trans rfl (show 1 = _ from by decide +kernel)) rfl (Nat.le_of_ble_eq_true rfl) (by omega) (T126 (Nat.le_refl 2) o12) (hp_m hN) ?_
  show AW l X 124 c124 d r h' 226 [none, none, none, none, none, none, none, none, none, none, none, none] [.long (F126_0 s0 q)] (hp q)
  obtain ⟨rfl, rfl⟩ := hG
  exact x_lret rfl (by decide +kernel)
def F124_103 (v0 : Int32) (v1 : Int64) (v3 : Int64) (q : aQ) : Int64 := (if v0 = 0 then (F125_0 (F129_0 v1 q) ((F130_0 v1 q) + (F130_0 v3 q)) q) else (if v0 = 1 then (F125_0 1 ((F130_0 v1 q) - (F130_0 v3 q)) q) else (if v0 = 2 then (F125_0 1 ((F130_0 v1 q) * (F130_0 v3 q)) q) else (if v0 = 3 then (if (lg_cmp (F130_0 v3 q) 0) = 0 then (F128_0 0 3 q) else (F125_0 1 (F189_0 (F130_0 v1 q) (F130_0 v3 q) q) q)) else (if 0 ≤ (lg_cmp (F130_0 v1 q) (F130_0 v3 q)) then F124_223 0 q else F124_223 1 q)))))
def S124_103 (v0 : Int32) (v1 : Int64) (v3 : Int64) (q : aQ) : Prop := S130_0 v1 q ∧ (S130_0 v3 q ∧ (((v0 = 0) → S129_0 v1 q ∧ (S125_0 (F129_0 v1 q) ((F130_0 v1 q) + (F130_0 v3 q)) q ∧ (True))) ∧ (¬ (v0 = 0) → ((v0 = 1) → S125_0 1 ((F130_0 v1 q) - (F130_0 v3 q)) q ∧ (True)) ∧ (¬ (v0 = 1) → ((v0 = 2) → S125_0 1 ((F130_0 v1 q) * (F130_0 v3 q)) q ∧ (True)) ∧ (¬ (v0 = 2) → ((v0 = 3) → (((lg_cmp (F130_0 v3 q) 0) = 0) → S128_0 0 3 q ∧ (True)) ∧ (¬ ((lg_cmp (F130_0 v3 q) 0) = 0) → S189_0 (F130_0 v1 q) (F130_0 v3 q) q ∧ (S125_0 1 (F189_0 (F130_0 v1 q) (F130_0 v3 q) q) q ∧ (True)))) ∧ (¬ (v0 = 3) → ((0 ≤ (lg_cmp (F130_0 v1 q) (F130_0 v3 q))) → S124_223 0 q) ∧ (¬ (0 ≤ (lg_cmp (F130_0 v1 q) (F130_0 v3 q))) → S124_223 1 q)))))))
set_option maxRecDepth 100000 in
set_option maxHeartbeats 4000000 in
theorem A124_103 {l : Launch} {X : aX} {d : Nat} {r : Option Value} {h' : aH} {v0 : Int32} {v1 : Int64} {v3 : Int64} {q : aQ} (hd : 3 ≤ d) (hN : h'.1 = nk0) (hG : gJ r h' (F124_103 v0 v1 v3 q, q)) (hS : S124_103 v0 v1 v3 q) : AW l X 124 c124 d r h' 103 [some (.int v0), some (.long v1), none, some (.long v3), none, none, none, none, none, none, none, none] [] (hp q) := by
  unfold F124_103 at hG
  unfold S124_103 at hS
  refine x_run (pc' := 104) (lo' := [some (.int v0), some (.long v1), none, some (.long v3), none, none, none, none, none, none, none, none]) (st' := [.long v1]) 1 rfl ?_
  obtain ⟨o8, hS⟩ := hS
  refine x_cs (j := 130) (ne := 0) (vs := [.long v1]) (rest := []) rfl (by decide +kernel) (by decide +kernel) (by decide) (Eq.trans rfl (show 1 = _ from by decide +kernel)) rfl (Nat.le_of_ble_eq_true rfl) (by omega) (T130 (Nat.le_refl 1) o8) (hp_m hN) ?_
  show AW l X 124 c124 d r h' 107 [some (.int v0), some (.long v1), none, some (.long v3), none, none, none, none, none, none, none, none] [.long (F130_0 v1 q)] (hp q)
  refine x_run (pc' := 110) (lo' := [some (.int v0), some (.long v1), none, some (.long v3), none, none, none, none, some (.long (F130_0 v1 q)), none, none, none]) (st' := [.long v3]) 2 rfl ?_
  obtain ⟨o9, hS⟩ := hS
  refine x_cs (j := 130) (ne := 0) (vs := [.long v3]) (rest := []) rfl (by decide +kernel) (by decide +kernel) (by decide) (Eq.trans rfl (show 1 = _ from by decide +kernel)) rfl (Nat.le_of_ble_eq_true rfl) (by omega) (T130 (Nat.le_refl 1) o9) (hp_m hN) ?_
  show AW l X 124 c124 d r h' 113 [some (.int v0), some (.long v1), none, some (.long v3), none, none, none, none, some (.long (F130_0 v1 q)), none, none, none] [.long (F130_0 v3 q)] (hp q)
  refine x_run (pc' := 116) (lo' := [some (.int v0), some (.long v1), none, some (.long v3), none, none, none, none, some (.long (F130_0 v1 q)), none, some (.long (F130_0 v3 q)), none]) (st' := [.int v0]) 2 rfl ?_
  by_cases hc21 : v0 = 0
  · rw [if_pos hc21] at hG
    replace hS := hS.1 hc21
    refine x_tsIn (off := 32) 148 rfl (by rw [hc21]; decide) (by rw [hc21]; decide) (by rw [hc21]; rfl) rfl ?_
    refine x_run (pc' := 149) (lo' := [some (.int v0), some (.long v1), none, some (.long v3), none, none, none, none, some (.long (F130_0 v1 q)), none, some (.long (F130_0 v3 q)), none]) (st' := [.long v1]) 1 rfl ?_
    obtain ⟨o13, hS⟩ := hS
    refine x_cs (j := 129) (ne := 0) (vs := [.long v1]) (rest := []) rfl (by decide +kernel) (by decide +kernel) (by decide) (Eq.trans rfl (show 1 = _ from by decide +kernel)) rfl (Nat.le_of_ble_eq_true rfl) (by omega) (T129 (Nat.le_refl 1) o13) (hp_m hN) ?_
    show AW l X 124 c124 d r h' 152 [some (.int v0), some (.long v1), none, some (.long v3), none, none, none, none, some (.long (F130_0 v1 q)), none, some (.long (F130_0 v3 q)), none] [.int (F129_0 v1 q)] (hp q)
    refine x_run (pc' := 157) (lo' := [some (.int v0), some (.long v1), none, some (.long v3), none, none, none, none, some (.long (F130_0 v1 q)), none, some (.long (F130_0 v3 q)), none]) (st' := [.long ((F130_0 v1 q) + (F130_0 v3 q)), .int (F129_0 v1 q)]) 3 rfl ?_
    obtain ⟨o14, hS⟩ := hS
    refine x_cs (j := 125) (ne := 0) (vs := [.int (F129_0 v1 q), .long ((F130_0 v1 q) + (F130_0 v3 q))]) (rest := []) rfl (by decide +kernel) (by decide +kernel) (by decide) (Eq.trans rfl (show 2 = _ from by decide +kernel)) rfl (Nat.le_of_ble_eq_true rfl) (by omega) (T125 (Nat.le_refl 2) o14) (hp_m hN) ?_
    show AW l X 124 c124 d r h' 160 [some (.int v0), some (.long v1), none, some (.long v3), none, none, none, none, some (.long (F130_0 v1 q)), none, some (.long (F130_0 v3 q)), none] [.long (F125_0 (F129_0 v1 q) ((F130_0 v1 q) + (F130_0 v3 q)) q)] (hp q)
    obtain ⟨rfl, rfl⟩ := hG
    exact x_lret rfl (by decide +kernel)
  · rw [if_neg hc21] at hG
    replace hS := hS.2 hc21
    by_cases hc22 : v0 = 1
    · rw [if_pos hc22] at hG
      replace hS := hS.1 hc22
      refine x_tsIn (off := 45) 161 rfl (by rw [hc22]; decide) (by rw [hc22]; decide) (by rw [hc22]; rfl) rfl ?_
      refine x_run (pc' := 167) (lo' := [some (.int v0), some (.long v1), none, some (.long v3), none, none, none, none, some (.long (F130_0 v1 q)), none, some (.long (F130_0 v3 q)), none]) (st' := [.long ((F130_0 v1 q) - (F130_0 v3 q)), .int 1]) 4 rfl ?_
      obtain ⟨o15, hS⟩ := hS
      refine x_cs (j := 125) (ne := 0) (vs := [.int 1, .long ((F130_0 v1 q) - (F130_0 v3 q))]) (rest := []) rfl (by decide +kernel) (by decide +kernel) (by decide) (Eq.trans rfl (show 2 = _ from by decide +kernel)) rfl (Nat.le_of_ble_eq_true rfl) (by omega) (T125 (Nat.le_refl 2) o15) (hp_m hN) ?_
      show AW l X 124 c124 d r h' 170 [some (.int v0), some (.long v1), none, some (.long v3), none, none, none, none, some (.long (F130_0 v1 q)), none, some (.long (F130_0 v3 q)), none] [.long (F125_0 1 ((F130_0 v1 q) - (F130_0 v3 q)) q)] (hp q)
      obtain ⟨rfl, rfl⟩ := hG
      exact x_lret rfl (by decide +kernel)
    · rw [if_neg hc22] at hG
      replace hS := hS.2 hc22
      by_cases hc23 : v0 = 2
      · rw [if_pos hc23] at hG
        replace hS := hS.1 hc23
        refine x_tsIn (off := 55) 171 rfl (by rw [hc23]; decide) (by rw [hc23]; decide) (by rw [hc23]; rfl) rfl ?_
        refine x_run (pc' := 177) (lo' := [some (.int v0), some (.long v1), none, some (.long v3), none, none, none, none, some (.long (F130_0 v1 q)), none, some (.long (F130_0 v3 q)), none]) (st' := [.long ((F130_0 v1 q) * (F130_0 v3 q)), .int 1]) 4 rfl ?_
        obtain ⟨o16, hS⟩ := hS
        refine x_cs (j := 125) (ne := 0) (vs := [.int 1, .long ((F130_0 v1 q) * (F130_0 v3 q))]) (rest := []) rfl (by decide +kernel) (by decide +kernel) (by decide) (Eq.trans rfl (show 2 = _ from by decide +kernel)) rfl (Nat.le_of_ble_eq_true rfl) (by omega) (T125 (Nat.le_refl 2) o16) (hp_m hN) ?_
        show AW l X 124 c124 d r h' 180 [some (.int v0), some (.long v1), none, some (.long v3), none, none, none, none, some (.long (F130_0 v1 q)), none, some (.long (F130_0 v3 q)), none] [.long (F125_0 1 ((F130_0 v1 q) * (F130_0 v3 q)) q)] (hp q)
        obtain ⟨rfl, rfl⟩ := hG
        exact x_lret rfl (by decide +kernel)
      · rw [if_neg hc23] at hG
        replace hS := hS.2 hc23
        by_cases hc24 : v0 = 3
        · rw [if_pos hc24] at hG
          replace hS := hS.1 hc24
          refine x_tsIn (off := 65) 181 rfl (by rw [hc24]; decide) (by rw [hc24]; decide) (by rw [hc24]; rfl) rfl ?_
          refine x_run (pc' := 185) (lo' := [some (.int v0), some (.long v1), none, some (.long v3), none, none, none, none, some (.long (F130_0 v1 q)), none, some (.long (F130_0 v3 q)), none]) (st' := [.int (lg_cmp (F130_0 v3 q) 0)]) 3 rfl ?_
          refine x_if 198 rfl rfl (fun (hc17 : ¬ (lg_cmp (F130_0 v3 q) 0) = 0) => ?_) (fun (hc17 : (lg_cmp (F130_0 v3 q) 0) = 0) => ?_)
          · rw [if_neg hc17] at hG
            replace hS := hS.2 hc17
            refine x_run (pc' := 203) (lo' := [some (.int v0), some (.long v1), none, some (.long v3), none, none, none, none, some (.long (F130_0 v1 q)), none, some (.long (F130_0 v3 q)), none]) (st' := [.long (F130_0 v3 q), .long (F130_0 v1 q), .int 1]) 3 rfl ?_
            obtain ⟨o18, hS⟩ := hS
            refine x_cs (j := 189) (ne := 0) (vs := [.long (F130_0 v1 q), .long (F130_0 v3 q)]) (rest := [.int 1]) rfl (by decide +kernel) (by decide +kernel) (by decide) (Eq.trans rfl (show 2 = _ from by decide +kernel)) rfl (Nat.le_of_ble_eq_true rfl) (by omega) (T189 (Nat.le_refl 1) o18) (hp_m hN) ?_
            show AW l X 124 c124 d r h' 206 [some (.int v0), some (.long v1), none, some (.long v3), none, none, none, none, some (.long (F130_0 v1 q)), none, some (.long (F130_0 v3 q)), none] [.long (F189_0 (F130_0 v1 q) (F130_0 v3 q) q), .int 1] (hp q)
            obtain ⟨o19, hS⟩ := hS
            refine x_cs (j := 125) (ne := 0) (vs := [.int 1, .long (F189_0 (F130_0 v1 q) (F130_0 v3 q) q)]) (rest := []) rfl (by decide +kernel) (by decide +kernel) (by decide) (Eq.trans rfl (show 2 = _ from by decide +kernel)) rfl (Nat.le_of_ble_eq_true rfl) (by omega) (T125 (Nat.le_refl 2) o19) (hp_m hN) ?_
            show AW l X 124 c124 d r h' 209 [some (.int v0), some (.long v1), none, some (.long v3), none, none, none, none, some (.long (F130_0 v1 q)), none, some (.long (F130_0 v3 q)), none] [.long (F125_0 1 (F189_0 (F130_0 v1 q) (F130_0 v3 q) q) q)] (hp q)
            obtain ⟨rfl, rfl⟩ := hG
            exact x_lret rfl (by decide +kernel)
          · rw [if_pos hc17] at hG
            replace hS := hS.1 hc17
            refine x_run (pc' := 189) (lo' := [some (.int v0), some (.long v1), none, some (.long v3), none, none, none, none, some (.long (F130_0 v1 q)), none, some (.long (F130_0 v3 q)), none]) (st' := [.int 0]) 1 rfl ?_
            refine x_ldc2 (v := 3) (ne := 0) rfl (by decide +kernel) ?_
            obtain ⟨o20, hS⟩ := hS
            refine x_cs (j := 128) (ne := 0) (vs := [.int 0, .long 3]) (rest := []) rfl (by decide +kernel) (by decide +kernel) (by decide) (Eq.trans rfl (show 2 = _ from by decide +kernel)) rfl (Nat.le_of_ble_eq_true rfl) (by omega) (T128 (Nat.le_refl 1) o20) (hp_m hN) ?_
            show AW l X 124 c124 d r h' 195 [some (.int v0), some (.long v1), none, some (.long v3), none, none, none, none, some (.long (F130_0 v1 q)), none, some (.long (F130_0 v3 q)), none] [.long (F128_0 0 3 q)] (hp q)
            refine x_run (pc' := 209) (lo' := [some (.int v0), some (.long v1), none, some (.long v3), none, none, none, none, some (.long (F130_0 v1 q)), none, some (.long (F130_0 v3 q)), none]) (st' := [.long (F128_0 0 3 q)]) 1 rfl ?_
            obtain ⟨rfl, rfl⟩ := hG
            exact x_lret rfl (by decide +kernel)
        · rw [if_neg hc24] at hG
          replace hS := hS.2 hc24
          refine x_tsOut 210 rfl (by have z0 := sw_ne (k := 0) hc21 (by decide); have z1 := sw_ne (k := 1) hc22 (by decide); have z2 := sw_ne (k := 2) hc23 (by decide); have z3 := sw_ne (k := 3) hc24 (by decide); omega) rfl ?_
          refine x_run (pc' := 215) (lo' := [some (.int v0), some (.long v1), none, some (.long v3), none, none, none, none, some (.long (F130_0 v1 q)), none, some (.long (F130_0 v3 q)), none]) (st' := [.int (lg_cmp (F130_0 v1 q) (F130_0 v3 q))]) 3 rfl ?_
          refine x_if 222 rfl rfl (fun (hc11 : 0 ≤ (lg_cmp (F130_0 v1 q) (F130_0 v3 q))) => ?_) (fun (hc11 : ¬ 0 ≤ (lg_cmp (F130_0 v1 q) (F130_0 v3 q))) => ?_)
          · rw [if_pos hc11] at hG
            replace hS := hS.1 hc11
            refine x_run (pc' := 223) (lo' := [some (.int v0), some (.long v1), none, some (.long v3), none, none, none, none, some (.long (F130_0 v1 q)), none, some (.long (F130_0 v3 q)), none]) (st' := [.int 0]) 1 rfl ?_
            refine x_kill [0, 1, 3, 8, 10] ?_
            exact A124_223 hd hN hG hS
          · rw [if_neg hc11] at hG
            replace hS := hS.2 hc11
            refine x_run (pc' := 223) (lo' := [some (.int v0), some (.long v1), none, some (.long v3), none, none, none, none, some (.long (F130_0 v1 q)), none, some (.long (F130_0 v3 q)), none]) (st' := [.int 1]) 2 rfl ?_
            refine x_kill [0, 1, 3, 8, 10] ?_
            exact A124_223 hd hN hG hS
def F124_97 (q : aQ) : Int64 := (F128_0 0 1 q)
def S124_97 (q : aQ) : Prop := S128_0 0 1 q ∧ (True)
set_option maxRecDepth 100000 in
set_option maxHeartbeats 4000000 in
theorem A124_97 {l : Launch} {X : aX} {d : Nat} {r : Option Value} {h' : aH} {q : aQ} (hd : 3 ≤ d) (hN : h'.1 = nk0) (hG : gJ r h' (F124_97 q, q)) (hS : S124_97 q) : AW l X 124 c124 d r h' 97 [none, none, none, none, none, none, none, none, none, none, none, none] [] (hp q) := by
  unfold F124_97 at hG
  unfold S124_97 at hS
  refine x_run (pc' := 99) (lo' := [none, none, none, none, none, none, none, none, none, none, none, none]) (st' := [.long 1, .int 0]) 2 rfl ?_
  obtain ⟨o26, hS⟩ := hS
  refine x_cs (j := 128) (ne := 0) (vs := [.int 0, .long 1]) (rest := []) rfl (by decide +kernel) (by decide +kernel) (by decide) (Eq.trans rfl (show 2 = _ from by decide +kernel)) rfl (Nat.le_of_ble_eq_true rfl) (by omega) (T128 (Nat.le_refl 1) o26) (hp_m hN) ?_
  show AW l X 124 c124 d r h' 102 [none, none, none, none, none, none, none, none, none, none, none, none] [.long (F128_0 0 1 q)] (hp q)
  obtain ⟨rfl, rfl⟩ := hG
  exact x_lret rfl (by decide +kernel)
def F124_80 (v0 : Int32) (v1 : Int64) (v3 : Int64) (v5 : Int32) (v6 : Int32) (s0 : Int32) (q : aQ) : Int64 := (if v5 = 0 then (if v6 = 0 then F124_97 q else (if s0 = 0 then F124_97 q else F124_103 v0 v1 v3 q)) else F124_103 v0 v1 v3 q)
def S124_80 (v0 : Int32) (v1 : Int64) (v3 : Int64) (v5 : Int32) (v6 : Int32) (s0 : Int32) (q : aQ) : Prop := ((v5 = 0) → ((v6 = 0) → S124_97 q) ∧ (¬ (v6 = 0) → ((s0 = 0) → S124_97 q) ∧ (¬ (s0 = 0) → S124_103 v0 v1 v3 q))) ∧ (¬ (v5 = 0) → S124_103 v0 v1 v3 q)
set_option maxRecDepth 100000 in
set_option maxHeartbeats 4000000 in
theorem A124_80 {l : Launch} {X : aX} {d : Nat} {r : Option Value} {h' : aH} {v0 : Int32} {v1 : Int64} {v3 : Int64} {v5 : Int32} {v6 : Int32} {s0 : Int32} {q : aQ} (hd : 3 ≤ d) (hN : h'.1 = nk0) (hG : gJ r h' (F124_80 v0 v1 v3 v5 v6 s0 q, q)) (hS : S124_80 v0 v1 v3 v5 v6 s0 q) : AW l X 124 c124 d r h' 80 [some (.int v0), some (.long v1), none, some (.long v3), none, some (.int v5), some (.int v6), none, none, none, none, none] [.int s0] (hp q) := by
  unfold F124_80 at hG
  unfold S124_80 at hS
  refine x_run (pc' := 84) (lo' := [some (.int v0), some (.long v1), none, some (.long v3), none, some (.int v5), some (.int v6), some (.int s0), none, none, none, none]) (st' := [.int v5]) 2 rfl ?_
  refine x_if 103 rfl rfl (fun (hc7 : ¬ v5 = 0) => ?_) (fun (hc7 : v5 = 0) => ?_)
  · rw [if_neg hc7] at hG
    replace hS := hS.2 hc7
    refine x_kill [5, 6, 7] ?_
    exact A124_103 hd hN hG hS
  · rw [if_pos hc7] at hG
    replace hS := hS.1 hc7
    refine x_run (pc' := 89) (lo' := [some (.int v0), some (.long v1), none, some (.long v3), none, some (.int v5), some (.int v6), some (.int s0), none, none, none, none]) (st' := [.int v6]) 1 rfl ?_
    refine x_if 97 rfl rfl (fun (hc25 : v6 = 0) => ?_) (fun (hc25 : ¬ v6 = 0) => ?_)
    · rw [if_pos hc25] at hG
      replace hS := hS.1 hc25
      refine x_kill [0, 1, 3, 5, 6, 7] ?_
      exact A124_97 hd hN hG hS
    · rw [if_neg hc25] at hG
      replace hS := hS.2 hc25
      refine x_run (pc' := 94) (lo' := [some (.int v0), some (.long v1), none, some (.long v3), none, some (.int v5), some (.int v6), some (.int s0), none, none, none, none]) (st' := [.int s0]) 1 rfl ?_
      refine x_if 103 rfl rfl (fun (hc27 : ¬ s0 = 0) => ?_) (fun (hc27 : s0 = 0) => ?_)
      · rw [if_neg hc27] at hG
        replace hS := hS.2 hc27
        refine x_kill [5, 6, 7] ?_
        exact A124_103 hd hN hG hS
      · rw [if_pos hc27] at hG
        replace hS := hS.1 hc27
        refine x_kill [0, 1, 3, 5, 6, 7] ?_
        exact A124_97 hd hN hG hS
def F124_75 (v0 : Int32) (v1 : Int64) (v3 : Int64) (v5 : Int32) (v6 : Int32) (q : aQ) : Int64 := F124_80 v0 v1 v3 v5 v6 1 q
def S124_75 (v0 : Int32) (v1 : Int64) (v3 : Int64) (v5 : Int32) (v6 : Int32) (q : aQ) : Prop := S124_80 v0 v1 v3 v5 v6 1 q
set_option maxRecDepth 100000 in
set_option maxHeartbeats 4000000 in
theorem A124_75 {l : Launch} {X : aX} {d : Nat} {r : Option Value} {h' : aH} {v0 : Int32} {v1 : Int64} {v3 : Int64} {v5 : Int32} {v6 : Int32} {q : aQ} (hd : 3 ≤ d) (hN : h'.1 = nk0) (hG : gJ r h' (F124_75 v0 v1 v3 v5 v6 q, q)) (hS : S124_75 v0 v1 v3 v5 v6 q) : AW l X 124 c124 d r h' 75 [some (.int v0), some (.long v1), none, some (.long v3), none, some (.int v5), some (.int v6), none, none, none, none, none] [] (hp q) := by
  unfold F124_75 at hG
  unfold S124_75 at hS
  refine x_run (pc' := 80) (lo' := [some (.int v0), some (.long v1), none, some (.long v3), none, some (.int v5), some (.int v6), none, none, none, none, none]) (st' := [.int 1]) 2 rfl ?_
  exact A124_80 hd hN hG hS
def F124_64 (v0 : Int32) (v1 : Int64) (v3 : Int64) (v5 : Int32) (s0 : Int32) (q : aQ) : Int64 := (if v0 = 0 then F124_75 v0 v1 v3 v5 s0 q else (if v0 = 4 then F124_75 v0 v1 v3 v5 s0 q else F124_80 v0 v1 v3 v5 s0 0 q))
def S124_64 (v0 : Int32) (v1 : Int64) (v3 : Int64) (v5 : Int32) (s0 : Int32) (q : aQ) : Prop := ((v0 = 0) → S124_75 v0 v1 v3 v5 s0 q) ∧ (¬ (v0 = 0) → ((v0 = 4) → S124_75 v0 v1 v3 v5 s0 q) ∧ (¬ (v0 = 4) → S124_80 v0 v1 v3 v5 s0 0 q))
set_option maxRecDepth 100000 in
set_option maxHeartbeats 4000000 in
theorem A124_64 {l : Launch} {X : aX} {d : Nat} {r : Option Value} {h' : aH} {v0 : Int32} {v1 : Int64} {v3 : Int64} {v5 : Int32} {s0 : Int32} {q : aQ} (hd : 3 ≤ d) (hN : h'.1 = nk0) (hG : gJ r h' (F124_64 v0 v1 v3 v5 s0 q, q)) (hS : S124_64 v0 v1 v3 v5 s0 q) : AW l X 124 c124 d r h' 64 [some (.int v0), some (.long v1), none, some (.long v3), none, some (.int v5), none, none, none, none, none, none] [.int s0] (hp q) := by
  unfold F124_64 at hG
  unfold S124_64 at hS
  refine x_run (pc' := 67) (lo' := [some (.int v0), some (.long v1), none, some (.long v3), none, some (.int v5), some (.int s0), none, none, none, none, none]) (st' := [.int v0]) 2 rfl ?_
  refine x_if 75 rfl rfl (fun (hc6 : v0 = 0) => ?_) (fun (hc6 : ¬ v0 = 0) => ?_)
  · rw [if_pos hc6] at hG
    replace hS := hS.1 hc6
    exact A124_75 hd hN hG hS
  · rw [if_neg hc6] at hG
    replace hS := hS.2 hc6
    refine x_run (pc' := 72) (lo' := [some (.int v0), some (.long v1), none, some (.long v3), none, some (.int v5), some (.int s0), none, none, none, none, none]) (st' := [.int 4, .int v0]) 2 rfl ?_
    refine x_ic 79 rfl rfl (fun (hc28 : ¬ v0 = 4) => ?_) (fun (hc28 : v0 = 4) => ?_)
    · rw [if_neg hc28] at hG
      replace hS := hS.2 hc28
      refine x_run (pc' := 80) (lo' := [some (.int v0), some (.long v1), none, some (.long v3), none, some (.int v5), some (.int s0), none, none, none, none, none]) (st' := [.int 0]) 1 rfl ?_
      exact A124_80 hd hN hG hS
    · rw [if_pos hc28] at hG
      replace hS := hS.1 hc28
      exact A124_75 hd hN hG hS
def F124_63 (v0 : Int32) (v1 : Int64) (v3 : Int64) (v5 : Int32) (q : aQ) : Int64 := F124_64 v0 v1 v3 v5 0 q
def S124_63 (v0 : Int32) (v1 : Int64) (v3 : Int64) (v5 : Int32) (q : aQ) : Prop := S124_64 v0 v1 v3 v5 0 q
set_option maxRecDepth 100000 in
set_option maxHeartbeats 4000000 in
theorem A124_63 {l : Launch} {X : aX} {d : Nat} {r : Option Value} {h' : aH} {v0 : Int32} {v1 : Int64} {v3 : Int64} {v5 : Int32} {q : aQ} (hd : 3 ≤ d) (hN : h'.1 = nk0) (hG : gJ r h' (F124_63 v0 v1 v3 v5 q, q)) (hS : S124_63 v0 v1 v3 v5 q) : AW l X 124 c124 d r h' 63 [some (.int v0), some (.long v1), none, some (.long v3), none, some (.int v5), none, none, none, none, none, none] [] (hp q) := by
  unfold F124_63 at hG
  unfold S124_63 at hS
  refine x_run (pc' := 64) (lo' := [some (.int v0), some (.long v1), none, some (.long v3), none, some (.int v5), none, none, none, none, none, none]) (st' := [.int 0]) 1 rfl ?_
  exact A124_64 hd hN hG hS
def F124_41 (v0 : Int32) (v1 : Int64) (v3 : Int64) (s0 : Int32) (q : aQ) : Int64 := (if (F129_0 v1 q) = 2 then (if (F129_0 v3 q) = 2 then F124_64 v0 v1 v3 s0 1 q else F124_63 v0 v1 v3 s0 q) else F124_63 v0 v1 v3 s0 q)
def S124_41 (v0 : Int32) (v1 : Int64) (v3 : Int64) (s0 : Int32) (q : aQ) : Prop := S129_0 v1 q ∧ ((((F129_0 v1 q) = 2) → S129_0 v3 q ∧ ((((F129_0 v3 q) = 2) → S124_64 v0 v1 v3 s0 1 q) ∧ (¬ ((F129_0 v3 q) = 2) → S124_63 v0 v1 v3 s0 q))) ∧ (¬ ((F129_0 v1 q) = 2) → S124_63 v0 v1 v3 s0 q))
set_option maxRecDepth 100000 in
set_option maxHeartbeats 4000000 in
theorem A124_41 {l : Launch} {X : aX} {d : Nat} {r : Option Value} {h' : aH} {v0 : Int32} {v1 : Int64} {v3 : Int64} {s0 : Int32} {q : aQ} (hd : 3 ≤ d) (hN : h'.1 = nk0) (hG : gJ r h' (F124_41 v0 v1 v3 s0 q, q)) (hS : S124_41 v0 v1 v3 s0 q) : AW l X 124 c124 d r h' 41 [some (.int v0), some (.long v1), none, some (.long v3), none, none, none, none, none, none, none, none] [.int s0] (hp q) := by
  unfold F124_41 at hG
  unfold S124_41 at hS
  refine x_run (pc' := 44) (lo' := [some (.int v0), some (.long v1), none, some (.long v3), none, some (.int s0), none, none, none, none, none, none]) (st' := [.long v1]) 2 rfl ?_
  obtain ⟨o4, hS⟩ := hS
  refine x_cs (j := 129) (ne := 0) (vs := [.long v1]) (rest := []) rfl (by decide +kernel) (by decide +kernel) (by decide) (Eq.trans rfl (show 1 = _ from by decide +kernel)) rfl (Nat.le_of_ble_eq_true rfl) (by omega) (T129 (Nat.le_refl 1) o4) (hp_m hN) ?_
  show AW l X 124 c124 d r h' 47 [some (.int v0), some (.long v1), none, some (.long v3), none, some (.int s0), none, none, none, none, none, none] [.int (F129_0 v1 q)] (hp q)
  refine x_run (pc' := 48) (lo' := [some (.int v0), some (.long v1), none, some (.long v3), none, some (.int s0), none, none, none, none, none, none]) (st' := [.int 2, .int (F129_0 v1 q)]) 1 rfl ?_
  refine x_ic 63 rfl rfl (fun (hc5 : ¬ (F129_0 v1 q) = 2) => ?_) (fun (hc5 : (F129_0 v1 q) = 2) => ?_)
  · rw [if_neg hc5] at hG
    replace hS := hS.2 hc5
    exact A124_63 hd hN hG hS
  · rw [if_pos hc5] at hG
    replace hS := hS.1 hc5
    refine x_run (pc' := 52) (lo' := [some (.int v0), some (.long v1), none, some (.long v3), none, some (.int s0), none, none, none, none, none, none]) (st' := [.long v3]) 1 rfl ?_
    obtain ⟨o29, hS⟩ := hS
    refine x_cs (j := 129) (ne := 0) (vs := [.long v3]) (rest := []) rfl (by decide +kernel) (by decide +kernel) (by decide) (Eq.trans rfl (show 1 = _ from by decide +kernel)) rfl (Nat.le_of_ble_eq_true rfl) (by omega) (T129 (Nat.le_refl 1) o29) (hp_m hN) ?_
    show AW l X 124 c124 d r h' 55 [some (.int v0), some (.long v1), none, some (.long v3), none, some (.int s0), none, none, none, none, none, none] [.int (F129_0 v3 q)] (hp q)
    refine x_run (pc' := 56) (lo' := [some (.int v0), some (.long v1), none, some (.long v3), none, some (.int s0), none, none, none, none, none, none]) (st' := [.int 2, .int (F129_0 v3 q)]) 1 rfl ?_
    refine x_ic 63 rfl rfl (fun (hc30 : ¬ (F129_0 v3 q) = 2) => ?_) (fun (hc30 : (F129_0 v3 q) = 2) => ?_)
    · rw [if_neg hc30] at hG
      replace hS := hS.2 hc30
      exact A124_63 hd hN hG hS
    · rw [if_pos hc30] at hG
      replace hS := hS.1 hc30
      refine x_run (pc' := 64) (lo' := [some (.int v0), some (.long v1), none, some (.long v3), none, some (.int s0), none, none, none, none, none, none]) (st' := [.int 1]) 2 rfl ?_
      exact A124_64 hd hN hG hS
def F124_40 (v0 : Int32) (v1 : Int64) (v3 : Int64) (q : aQ) : Int64 := F124_41 v0 v1 v3 0 q
def S124_40 (v0 : Int32) (v1 : Int64) (v3 : Int64) (q : aQ) : Prop := S124_41 v0 v1 v3 0 q
set_option maxRecDepth 100000 in
set_option maxHeartbeats 4000000 in
theorem A124_40 {l : Launch} {X : aX} {d : Nat} {r : Option Value} {h' : aH} {v0 : Int32} {v1 : Int64} {v3 : Int64} {q : aQ} (hd : 3 ≤ d) (hN : h'.1 = nk0) (hG : gJ r h' (F124_40 v0 v1 v3 q, q)) (hS : S124_40 v0 v1 v3 q) : AW l X 124 c124 d r h' 40 [some (.int v0), some (.long v1), none, some (.long v3), none, none, none, none, none, none, none, none] [] (hp q) := by
  unfold F124_40 at hG
  unfold S124_40 at hS
  refine x_run (pc' := 41) (lo' := [some (.int v0), some (.long v1), none, some (.long v3), none, none, none, none, none, none, none, none]) (st' := [.int 0]) 1 rfl ?_
  exact A124_41 hd hN hG hS
def F124_16 (s0 : Int32) (q : aQ) : Int64 := (F126_0 s0 q)
def S124_16 (s0 : Int32) (q : aQ) : Prop := S126_0 s0 q ∧ (True)
set_option maxRecDepth 100000 in
set_option maxHeartbeats 4000000 in
theorem A124_16 {l : Launch} {X : aX} {d : Nat} {r : Option Value} {h' : aH} {s0 : Int32} {q : aQ} (hd : 3 ≤ d) (hN : h'.1 = nk0) (hG : gJ r h' (F124_16 s0 q, q)) (hS : S124_16 s0 q) : AW l X 124 c124 d r h' 16 [none, none, none, none, none, none, none, none, none, none, none, none] [.int s0] (hp q) := by
  unfold F124_16 at hG
  unfold S124_16 at hS
  obtain ⟨o34, hS⟩ := hS
  refine x_cs (j := 126) (ne := 0) (vs := [.int s0]) (rest := []) rfl (by decide +kernel) (by decide +kernel) (by decide) (Eq.trans rfl (show 1 = _ from by decide +kernel)) rfl (Nat.le_of_ble_eq_true rfl) (by omega) (T126 (Nat.le_refl 2) o34) (hp_m hN) ?_
  show AW l X 124 c124 d r h' 19 [none, none, none, none, none, none, none, none, none, none, none, none] [.long (F126_0 s0 q)] (hp q)
  obtain ⟨rfl, rfl⟩ := hG
  exact x_lret rfl (by decide +kernel)
def F124_0 (v0 : Int32) (v1 : Int64) (v3 : Int64) (q : aQ) : Int64 := (if v0 = 5 then (if (lg_cmp v1 v3) = 0 then F124_16 1 q else F124_16 0 q) else (if (F129_0 v1 q) = 1 then (if (F129_0 v3 q) = 1 then F124_41 v0 v1 v3 1 q else F124_40 v0 v1 v3 q) else F124_40 v0 v1 v3 q))
def S124_0 (v0 : Int32) (v1 : Int64) (v3 : Int64) (q : aQ) : Prop := ((v0 = 5) → (((lg_cmp v1 v3) = 0) → S124_16 1 q) ∧ (¬ ((lg_cmp v1 v3) = 0) → S124_16 0 q)) ∧ (¬ (v0 = 5) → S129_0 v1 q ∧ ((((F129_0 v1 q) = 1) → S129_0 v3 q ∧ ((((F129_0 v3 q) = 1) → S124_41 v0 v1 v3 1 q) ∧ (¬ ((F129_0 v3 q) = 1) → S124_40 v0 v1 v3 q))) ∧ (¬ ((F129_0 v1 q) = 1) → S124_40 v0 v1 v3 q)))
set_option maxRecDepth 100000 in
set_option maxHeartbeats 4000000 in
theorem A124_0 {l : Launch} {X : aX} {d : Nat} {r : Option Value} {h' : aH} {v0 : Int32} {v1 : Int64} {v3 : Int64} {q : aQ} (hd : 3 ≤ d) (hN : h'.1 = nk0) (hG : gJ r h' (F124_0 v0 v1 v3 q, q)) (hS : S124_0 v0 v1 v3 q) : AW l X 124 c124 d r h' 0 [some (.int v0), some (.long v1), none, some (.long v3), none, none, none, none, none, none, none, none] [] (hp q) := by
  unfold F124_0 at hG
  unfold S124_0 at hS
  refine x_run (pc' := 2) (lo' := [some (.int v0), some (.long v1), none, some (.long v3), none, none, none, none, none, none, none, none]) (st' := [.int 5, .int v0]) 2 rfl ?_
  refine x_ic 20 rfl rfl (fun (hc1 : ¬ v0 = 5) => ?_) (fun (hc1 : v0 = 5) => ?_)
  · rw [if_neg hc1] at hG
    replace hS := hS.2 hc1
    refine x_run (pc' := 21) (lo' := [some (.int v0), some (.long v1), none, some (.long v3), none, none, none, none, none, none, none, none]) (st' := [.long v1]) 1 rfl ?_
    obtain ⟨o2, hS⟩ := hS
    refine x_cs (j := 129) (ne := 0) (vs := [.long v1]) (rest := []) rfl (by decide +kernel) (by decide +kernel) (by decide) (Eq.trans rfl (show 1 = _ from by decide +kernel)) rfl (Nat.le_of_ble_eq_true rfl) (by omega) (T129 (Nat.le_refl 1) o2) (hp_m hN) ?_
    show AW l X 124 c124 d r h' 24 [some (.int v0), some (.long v1), none, some (.long v3), none, none, none, none, none, none, none, none] [.int (F129_0 v1 q)] (hp q)
    refine x_run (pc' := 25) (lo' := [some (.int v0), some (.long v1), none, some (.long v3), none, none, none, none, none, none, none, none]) (st' := [.int 1, .int (F129_0 v1 q)]) 1 rfl ?_
    refine x_ic 40 rfl rfl (fun (hc3 : ¬ (F129_0 v1 q) = 1) => ?_) (fun (hc3 : (F129_0 v1 q) = 1) => ?_)
    · rw [if_neg hc3] at hG
      replace hS := hS.2 hc3
      exact A124_40 hd hN hG hS
    · rw [if_pos hc3] at hG
      replace hS := hS.1 hc3
      refine x_run (pc' := 29) (lo' := [some (.int v0), some (.long v1), none, some (.long v3), none, none, none, none, none, none, none, none]) (st' := [.long v3]) 1 rfl ?_
      obtain ⟨o31, hS⟩ := hS
      refine x_cs (j := 129) (ne := 0) (vs := [.long v3]) (rest := []) rfl (by decide +kernel) (by decide +kernel) (by decide) (Eq.trans rfl (show 1 = _ from by decide +kernel)) rfl (Nat.le_of_ble_eq_true rfl) (by omega) (T129 (Nat.le_refl 1) o31) (hp_m hN) ?_
      show AW l X 124 c124 d r h' 32 [some (.int v0), some (.long v1), none, some (.long v3), none, none, none, none, none, none, none, none] [.int (F129_0 v3 q)] (hp q)
      refine x_run (pc' := 33) (lo' := [some (.int v0), some (.long v1), none, some (.long v3), none, none, none, none, none, none, none, none]) (st' := [.int 1, .int (F129_0 v3 q)]) 1 rfl ?_
      refine x_ic 40 rfl rfl (fun (hc32 : ¬ (F129_0 v3 q) = 1) => ?_) (fun (hc32 : (F129_0 v3 q) = 1) => ?_)
      · rw [if_neg hc32] at hG
        replace hS := hS.2 hc32
        exact A124_40 hd hN hG hS
      · rw [if_pos hc32] at hG
        replace hS := hS.1 hc32
        refine x_run (pc' := 41) (lo' := [some (.int v0), some (.long v1), none, some (.long v3), none, none, none, none, none, none, none, none]) (st' := [.int 1]) 2 rfl ?_
        exact A124_41 hd hN hG hS
  · rw [if_pos hc1] at hG
    replace hS := hS.1 hc1
    refine x_run (pc' := 8) (lo' := [some (.int v0), some (.long v1), none, some (.long v3), none, none, none, none, none, none, none, none]) (st' := [.int (lg_cmp v1 v3)]) 3 rfl ?_
    refine x_if 15 rfl rfl (fun (hc33 : ¬ (lg_cmp v1 v3) = 0) => ?_) (fun (hc33 : (lg_cmp v1 v3) = 0) => ?_)
    · rw [if_neg hc33] at hG
      replace hS := hS.2 hc33
      refine x_run (pc' := 16) (lo' := [some (.int v0), some (.long v1), none, some (.long v3), none, none, none, none, none, none, none, none]) (st' := [.int 0]) 1 rfl ?_
      refine x_kill [0, 1, 3] ?_
      exact A124_16 hd hN hG hS
    · rw [if_pos hc33] at hG
      replace hS := hS.1 hc33
      refine x_run (pc' := 16) (lo' := [some (.int v0), some (.long v1), none, some (.long v3), none, none, none, none, none, none, none, none]) (st' := [.int 1]) 2 rfl ?_
      refine x_kill [0, 1, 3] ?_
      exact A124_16 hd hN hG hS
theorem T124 {l : Launch} {X : aX} {d : Nat} {v0 : Int32} {v1 : Int64} {v3 : Int64} {q : aQ} (hd : 3 ≤ d) (hS : S124_0 v0 v1 v3 q) : Call l X d 124 [.int v0, .long v1, .long v3] (hp q) (some (.long (F124_0 v0 v1 v3 q))) (hp q) := Call.of ok124 (by decide) (Nat.le_of_ble_eq_true rfl) ⟨Nat.le_refl _, Nat.le_refl _⟩ (A124_0 hd rfl ⟨rfl, rfl⟩ hS)
/-- TypeForecast$Machine.workOut(II)J -/
def F120_94 (rec : Int32 → Int32 → aQ → Int64 × aQ) (v3 : Int32) (v4 : Int64) (s0 : Int64) (q : aQ) : Int64 × aQ := (if (F129_0 s0 q) = 0 then (s0, q) else ((F124_0 v3 v4 s0 q), q))
def S120_94 (rec : Int32 → Int32 → aQ → Int64 × aQ) (recS : Int32 → Int32 → aQ → Prop) (v3 : Int32) (v4 : Int64) (s0 : Int64) (q : aQ) : Prop := S129_0 s0 q ∧ ((((F129_0 s0 q) = 0) → True) ∧ (¬ ((F129_0 s0 q) = 0) → S124_0 v3 v4 s0 q ∧ (True)))
set_option maxRecDepth 100000 in
set_option maxHeartbeats 4000000 in
theorem A120_94 {l : Launch} {X : aX} {d : Nat} {r : Option Value} {h' : aH} {v3 : Int32} {v4 : Int64} {s0 : Int64} {q : aQ} (hd : 4 ≤ d) (hN : h'.1 = nk0) {rec : Int32 → Int32 → aQ → Int64 × aQ} {recS : Int32 → Int32 → aQ → Prop} (hR : ∀ (a0 : Int32) (a1 : Int32) (q : aQ), recS a0 a1 q → Call l X (d - 1) 120 [.ref 647, .int a0, .int a1] (hp q) (some (.long (rec a0 a1 q).1)) (hp (rec a0 a1 q).2)) (hG : gJ r h' (F120_94 rec v3 v4 s0 q)) (hS : S120_94 rec recS v3 v4 s0 q) : AW l X 120 c120 d r h' 94 [none, none, none, some (.int v3), some (.long v4), none, none, none] [.long s0] (hp q) := by
  unfold F120_94 at hG
  unfold S120_94 at hS
  refine x_run (pc' := 98) (lo' := [none, none, none, some (.int v3), some (.long v4), none, some (.long s0), none]) (st' := [.long s0]) 2 rfl ?_
  obtain ⟨o12, hS⟩ := hS
  refine x_cs (j := 129) (ne := 0) (vs := [.long s0]) (rest := []) rfl (by decide +kernel) (by decide +kernel) (by decide) (Eq.trans rfl (show 1 = _ from by decide +kernel)) rfl (Nat.le_of_ble_eq_true rfl) (by omega) (T129 (Nat.le_refl 1) o12) (hp_m hN) ?_
  show AW l X 120 c120 d r h' 101 [none, none, none, some (.int v3), some (.long v4), none, some (.long s0), none] [.int (F129_0 s0 q)] (hp q)
  refine x_if 107 rfl rfl (fun (hc13 : ¬ (F129_0 s0 q) = 0) => ?_) (fun (hc13 : (F129_0 s0 q) = 0) => ?_)
  · rw [if_neg hc13] at hG
    replace hS := hS.2 hc13
    refine x_run (pc' := 112) (lo' := [none, none, none, some (.int v3), some (.long v4), none, some (.long s0), none]) (st' := [.long s0, .long v4, .int v3]) 3 rfl ?_
    obtain ⟨o14, hS⟩ := hS
    refine x_cs (j := 124) (ne := 0) (vs := [.int v3, .long v4, .long s0]) (rest := []) rfl (by decide +kernel) (by decide +kernel) (by decide) (Eq.trans rfl (show 3 = _ from by decide +kernel)) rfl (Nat.le_of_ble_eq_true rfl) (by omega) (T124 (Nat.le_refl 3) o14) (hp_m hN) ?_
    show AW l X 120 c120 d r h' 115 [none, none, none, some (.int v3), some (.long v4), none, some (.long s0), none] [.long (F124_0 v3 v4 s0 q)] (hp q)
    obtain ⟨rfl, rfl⟩ := hG
    exact x_lret rfl (by decide +kernel)
  · rw [if_pos hc13] at hG
    replace hS := hS.1 hc13
    refine x_run (pc' := 106) (lo' := [none, none, none, some (.int v3), some (.long v4), none, some (.long s0), none]) (st' := [.long s0]) 1 rfl ?_
    obtain ⟨rfl, rfl⟩ := hG
    exact x_lret rfl (by decide +kernel)
def F120_51 (rec : Int32 → Int32 → aQ → Int64 × aQ) (v1 : Int32) (v2 : Int32) (v3 : Int32) (s0 : Int64) (q : aQ) : Int64 × aQ := (if (F129_0 s0 q) = 0 then (s0, q) else (if (F29_0 v3 q) = 0 then F120_94 rec v3 s0 ((rec (q.1 6 (Int32.toNatClampNeg v1)) (v2 + 1) q).1) ((rec (q.1 6 (Int32.toNatClampNeg v1)) (v2 + 1) q).2) else ((F123_0 v3 s0 q), q)))
def S120_51 (rec : Int32 → Int32 → aQ → Int64 × aQ) (recS : Int32 → Int32 → aQ → Prop) (v1 : Int32) (v2 : Int32) (v3 : Int32) (s0 : Int64) (q : aQ) : Prop := S129_0 s0 q ∧ ((((F129_0 s0 q) = 0) → True) ∧ (¬ ((F129_0 s0 q) = 0) → S29_0 v3 q ∧ ((((F29_0 v3 q) = 0) → vp_in v1 60 ∧ (recS (q.1 6 (Int32.toNatClampNeg v1)) (v2 + 1) q ∧ (S120_94 rec recS v3 s0 ((rec (q.1 6 (Int32.toNatClampNeg v1)) (v2 + 1) q).1) ((rec (q.1 6 (Int32.toNatClampNeg v1)) (v2 + 1) q).2)))) ∧ (¬ ((F29_0 v3 q) = 0) → S123_0 v3 s0 q ∧ (True)))))
set_option maxRecDepth 100000 in
set_option maxHeartbeats 4000000 in
theorem A120_51 {l : Launch} {X : aX} {d : Nat} {r : Option Value} {h' : aH} {v1 : Int32} {v2 : Int32} {v3 : Int32} {s0 : Int64} {q : aQ} (hd : 4 ≤ d) (hN : h'.1 = nk0) {rec : Int32 → Int32 → aQ → Int64 × aQ} {recS : Int32 → Int32 → aQ → Prop} (hR : ∀ (a0 : Int32) (a1 : Int32) (q : aQ), recS a0 a1 q → Call l X (d - 1) 120 [.ref 647, .int a0, .int a1] (hp q) (some (.long (rec a0 a1 q).1)) (hp (rec a0 a1 q).2)) (hG : gJ r h' (F120_51 rec v1 v2 v3 s0 q)) (hS : S120_51 rec recS v1 v2 v3 s0 q) : AW l X 120 c120 d r h' 51 [some (.ref 647), some (.int v1), some (.int v2), some (.int v3), none, none, none, none] [.long s0] (hp q) := by
  unfold F120_51 at hG
  unfold S120_51 at hS
  refine x_run (pc' := 55) (lo' := [some (.ref 647), some (.int v1), some (.int v2), some (.int v3), some (.long s0), none, none, none]) (st' := [.long s0]) 2 rfl ?_
  obtain ⟨o6, hS⟩ := hS
  refine x_cs (j := 129) (ne := 0) (vs := [.long s0]) (rest := []) rfl (by decide +kernel) (by decide +kernel) (by decide) (Eq.trans rfl (show 1 = _ from by decide +kernel)) rfl (Nat.le_of_ble_eq_true rfl) (by omega) (T129 (Nat.le_refl 1) o6) (hp_m hN) ?_
  show AW l X 120 c120 d r h' 58 [some (.ref 647), some (.int v1), some (.int v2), some (.int v3), some (.long s0), none, none, none] [.int (F129_0 s0 q)] (hp q)
  refine x_if 64 rfl rfl (fun (hc7 : ¬ (F129_0 s0 q) = 0) => ?_) (fun (hc7 : (F129_0 s0 q) = 0) => ?_)
  · rw [if_neg hc7] at hG
    replace hS := hS.2 hc7
    refine x_run (pc' := 65) (lo' := [some (.ref 647), some (.int v1), some (.int v2), some (.int v3), some (.long s0), none, none, none]) (st' := [.int v3]) 1 rfl ?_
    obtain ⟨o8, hS⟩ := hS
    refine x_cs (j := 29) (ne := 0) (vs := [.int v3]) (rest := []) rfl (by decide +kernel) (by decide +kernel) (by decide) (Eq.trans rfl (show 1 = _ from by decide +kernel)) rfl (Nat.le_of_ble_eq_true rfl) (by omega) (T29 (Nat.le_refl 1) o8) (hp_m hN) ?_
    show AW l X 120 c120 d r h' 68 [some (.ref 647), some (.int v1), some (.int v2), some (.int v3), some (.long s0), none, none, none] [.int (F29_0 v3 q)] (hp q)
    refine x_if 78 rfl rfl (fun (hc9 : (F29_0 v3 q) = 0) => ?_) (fun (hc9 : ¬ (F29_0 v3 q) = 0) => ?_)
    · rw [if_pos hc9] at hG
      replace hS := hS.1 hc9
      refine x_run (pc' := 80) (lo' := [some (.ref 647), some (.int v1), some (.int v2), some (.int v3), some (.long s0), none, none, none]) (st' := [.ref 647, .ref 647]) 2 rfl ?_
      refine x_gf (c := 513) (ne := 0) (v := .ref 1) rfl (by decide +kernel) rfl rfl ?_
      refine x_gf (c := 68) (ne := 1) (v := .ref 6) rfl (by decide +kernel) rfl rfl ?_
      refine x_run (pc' := 87) (lo' := [some (.ref 647), some (.int v1), some (.int v2), some (.int v3), some (.long s0), none, none, none]) (st' := [.int v1, .ref 6, .ref 647]) 1 rfl ?_
      obtain ⟨o10, hS⟩ := hS
      refine p_ia (n := 60) (v := (q.1 6 (Int32.toNatClampNeg v1))) rfl rfl o10 rfl ?_
      refine x_run (pc' := 91) (lo' := [some (.ref 647), some (.int v1), some (.int v2), some (.int v3), some (.long s0), none, none, none]) (st' := [.int (v2 + 1), .int (q.1 6 (Int32.toNatClampNeg v1)), .ref 647]) 3 rfl ?_
      obtain ⟨o11, hS⟩ := hS
      refine x_cv (j := 120) (ne := 0) (vs := [.int (q.1 6 (Int32.toNatClampNeg v1)), .int (v2 + 1)]) (rest := []) rfl (by decide +kernel) (by decide +kernel) (by decide) (Eq.trans rfl (show 2 = _ from by decide +kernel)) rfl (by decide +kernel) rfl (Nat.le_of_ble_eq_true rfl) (by omega) (hR (q.1 6 (Int32.toNatClampNeg v1)) (v2 + 1) q o11) (hp_m hN) ?_
      show AW l X 120 c120 d r h' 94 [some (.ref 647), some (.int v1), some (.int v2), some (.int v3), some (.long s0), none, none, none] [.long (rec (q.1 6 (Int32.toNatClampNeg v1)) (v2 + 1) q).1] (hp (rec (q.1 6 (Int32.toNatClampNeg v1)) (v2 + 1) q).2)
      refine x_kill [0, 1, 2] ?_
      exact A120_94 hd hN hR hG hS
    · rw [if_neg hc9] at hG
      replace hS := hS.2 hc9
      refine x_run (pc' := 74) (lo' := [some (.ref 647), some (.int v1), some (.int v2), some (.int v3), some (.long s0), none, none, none]) (st' := [.long s0, .int v3]) 2 rfl ?_
      obtain ⟨o15, hS⟩ := hS
      refine x_cs (j := 123) (ne := 0) (vs := [.int v3, .long s0]) (rest := []) rfl (by decide +kernel) (by decide +kernel) (by decide) (Eq.trans rfl (show 2 = _ from by decide +kernel)) rfl (Nat.le_of_ble_eq_true rfl) (by omega) (T123 (Nat.le_refl 3) o15) (hp_m hN) ?_
      show AW l X 120 c120 d r h' 77 [some (.ref 647), some (.int v1), some (.int v2), some (.int v3), some (.long s0), none, none, none] [.long (F123_0 v3 s0 q)] (hp q)
      obtain ⟨rfl, rfl⟩ := hG
      exact x_lret rfl (by decide +kernel)
  · rw [if_pos hc7] at hG
    replace hS := hS.1 hc7
    refine x_run (pc' := 63) (lo' := [some (.ref 647), some (.int v1), some (.int v2), some (.int v3), some (.long s0), none, none, none]) (st' := [.long s0]) 1 rfl ?_
    obtain ⟨rfl, rfl⟩ := hG
    exact x_lret rfl (by decide +kernel)
def F120_0 (rec : Int32 → Int32 → aQ → Int64 × aQ) (v1 : Int32) (v2 : Int32) (q : aQ) : Int64 × aQ := (if v2 ≤ 15 then (if (q.1 2 (Int32.toNatClampNeg v1)) = (-1) then ((F121_0 v1 q).1, (F121_0 v1 q).2) else F120_51 rec v1 v2 (q.1 2 (Int32.toNatClampNeg v1)) ((rec (q.1 5 (Int32.toNatClampNeg v1)) (v2 + 1) q).1) ((rec (q.1 5 (Int32.toNatClampNeg v1)) (v2 + 1) q).2)) else ((F128_0 0 9 q), q))
def S120_0 (rec : Int32 → Int32 → aQ → Int64 × aQ) (recS : Int32 → Int32 → aQ → Prop) (v1 : Int32) (v2 : Int32) (q : aQ) : Prop := ((v2 ≤ 15) → vp_in v1 60 ∧ ((((q.1 2 (Int32.toNatClampNeg v1)) = (-1)) → S121_0 v1 q ∧ (True)) ∧ (¬ ((q.1 2 (Int32.toNatClampNeg v1)) = (-1)) → vp_in v1 60 ∧ (recS (q.1 5 (Int32.toNatClampNeg v1)) (v2 + 1) q ∧ (S120_51 rec recS v1 v2 (q.1 2 (Int32.toNatClampNeg v1)) ((rec (q.1 5 (Int32.toNatClampNeg v1)) (v2 + 1) q).1) ((rec (q.1 5 (Int32.toNatClampNeg v1)) (v2 + 1) q).2)))))) ∧ (¬ (v2 ≤ 15) → S128_0 0 9 q ∧ (True))
set_option maxRecDepth 100000 in
set_option maxHeartbeats 4000000 in
theorem A120_0 {l : Launch} {X : aX} {d : Nat} {r : Option Value} {h' : aH} {v1 : Int32} {v2 : Int32} {q : aQ} (hd : 4 ≤ d) (hN : h'.1 = nk0) {rec : Int32 → Int32 → aQ → Int64 × aQ} {recS : Int32 → Int32 → aQ → Prop} (hR : ∀ (a0 : Int32) (a1 : Int32) (q : aQ), recS a0 a1 q → Call l X (d - 1) 120 [.ref 647, .int a0, .int a1] (hp q) (some (.long (rec a0 a1 q).1)) (hp (rec a0 a1 q).2)) (hG : gJ r h' (F120_0 rec v1 v2 q)) (hS : S120_0 rec recS v1 v2 q) : AW l X 120 c120 d r h' 0 [some (.ref 647), some (.int v1), some (.int v2), none, none, none, none, none] [] (hp q) := by
  unfold F120_0 at hG
  unfold S120_0 at hS
  refine x_run (pc' := 3) (lo' := [some (.ref 647), some (.int v1), some (.int v2), none, none, none, none, none]) (st' := [.int 15, .int v2]) 2 rfl ?_
  refine x_ic 14 rfl rfl (fun (hc1 : v2 ≤ 15) => ?_) (fun (hc1 : ¬ v2 ≤ 15) => ?_)
  · rw [if_pos hc1] at hG
    replace hS := hS.1 hc1
    refine x_run (pc' := 15) (lo' := [some (.ref 647), some (.int v1), some (.int v2), none, none, none, none, none]) (st' := [.ref 647]) 1 rfl ?_
    refine x_gf (c := 513) (ne := 0) (v := .ref 1) rfl (by decide +kernel) rfl rfl ?_
    refine x_gf (c := 64) (ne := 1) (v := .ref 2) rfl (by decide +kernel) rfl rfl ?_
    refine x_run (pc' := 22) (lo' := [some (.ref 647), some (.int v1), some (.int v2), none, none, none, none, none]) (st' := [.int v1, .ref 2]) 1 rfl ?_
    obtain ⟨o2, hS⟩ := hS
    refine p_ia (n := 60) (v := (q.1 2 (Int32.toNatClampNeg v1))) rfl rfl o2 rfl ?_
    refine x_run (pc' := 26) (lo' := [some (.ref 647), some (.int v1), some (.int v2), some (.int (q.1 2 (Int32.toNatClampNeg v1))), none, none, none, none]) (st' := [.int (-1), .int (q.1 2 (Int32.toNatClampNeg v1))]) 3 rfl ?_
    refine x_ic 35 rfl rfl (fun (hc3 : ¬ (q.1 2 (Int32.toNatClampNeg v1)) = (-1)) => ?_) (fun (hc3 : (q.1 2 (Int32.toNatClampNeg v1)) = (-1)) => ?_)
    · rw [if_neg hc3] at hG
      replace hS := hS.2 hc3
      refine x_run (pc' := 37) (lo' := [some (.ref 647), some (.int v1), some (.int v2), some (.int (q.1 2 (Int32.toNatClampNeg v1))), none, none, none, none]) (st' := [.ref 647, .ref 647]) 2 rfl ?_
      refine x_gf (c := 513) (ne := 0) (v := .ref 1) rfl (by decide +kernel) rfl rfl ?_
      refine x_gf (c := 67) (ne := 1) (v := .ref 5) rfl (by decide +kernel) rfl rfl ?_
      refine x_run (pc' := 44) (lo' := [some (.ref 647), some (.int v1), some (.int v2), some (.int (q.1 2 (Int32.toNatClampNeg v1))), none, none, none, none]) (st' := [.int v1, .ref 5, .ref 647]) 1 rfl ?_
      obtain ⟨o4, hS⟩ := hS
      refine p_ia (n := 60) (v := (q.1 5 (Int32.toNatClampNeg v1))) rfl rfl o4 rfl ?_
      refine x_run (pc' := 48) (lo' := [some (.ref 647), some (.int v1), some (.int v2), some (.int (q.1 2 (Int32.toNatClampNeg v1))), none, none, none, none]) (st' := [.int (v2 + 1), .int (q.1 5 (Int32.toNatClampNeg v1)), .ref 647]) 3 rfl ?_
      obtain ⟨o5, hS⟩ := hS
      refine x_cv (j := 120) (ne := 0) (vs := [.int (q.1 5 (Int32.toNatClampNeg v1)), .int (v2 + 1)]) (rest := []) rfl (by decide +kernel) (by decide +kernel) (by decide) (Eq.trans rfl (show 2 = _ from by decide +kernel)) rfl (by decide +kernel) rfl (Nat.le_of_ble_eq_true rfl) (by omega) (hR (q.1 5 (Int32.toNatClampNeg v1)) (v2 + 1) q o5) (hp_m hN) ?_
      show AW l X 120 c120 d r h' 51 [some (.ref 647), some (.int v1), some (.int v2), some (.int (q.1 2 (Int32.toNatClampNeg v1))), none, none, none, none] [.long (rec (q.1 5 (Int32.toNatClampNeg v1)) (v2 + 1) q).1] (hp (rec (q.1 5 (Int32.toNatClampNeg v1)) (v2 + 1) q).2)
      exact A120_51 hd hN hR hG hS
    · rw [if_pos hc3] at hG
      replace hS := hS.1 hc3
      refine x_run (pc' := 31) (lo' := [some (.ref 647), some (.int v1), some (.int v2), some (.int (q.1 2 (Int32.toNatClampNeg v1))), none, none, none, none]) (st' := [.int v1, .ref 647]) 2 rfl ?_
      obtain ⟨o16, hS⟩ := hS
      refine x_cv (j := 121) (ne := 0) (vs := [.int v1]) (rest := []) rfl (by decide +kernel) (by decide +kernel) (by decide) (Eq.trans rfl (show 1 = _ from by decide +kernel)) rfl (by decide +kernel) rfl (Nat.le_of_ble_eq_true rfl) (by omega) (T121 (Nat.le_refl 2) o16) (hp_m hN) ?_
      show AW l X 120 c120 d r h' 34 [some (.ref 647), some (.int v1), some (.int v2), some (.int (q.1 2 (Int32.toNatClampNeg v1))), none, none, none, none] [.long (F121_0 v1 q).1] (hp (F121_0 v1 q).2)
      obtain ⟨rfl, rfl⟩ := hG
      exact x_lret rfl (by decide +kernel)
  · rw [if_neg hc1] at hG
    replace hS := hS.2 hc1
    refine x_run (pc' := 7) (lo' := [some (.ref 647), some (.int v1), some (.int v2), none, none, none, none, none]) (st' := [.int 0]) 1 rfl ?_
    refine x_ldc2 (v := 9) (ne := 0) rfl (by decide +kernel) ?_
    obtain ⟨o17, hS⟩ := hS
    refine x_cs (j := 128) (ne := 0) (vs := [.int 0, .long 9]) (rest := []) rfl (by decide +kernel) (by decide +kernel) (by decide) (Eq.trans rfl (show 2 = _ from by decide +kernel)) rfl (Nat.le_of_ble_eq_true rfl) (by omega) (T128 (Nat.le_refl 1) o17) (hp_m hN) ?_
    show AW l X 120 c120 d r h' 13 [some (.ref 647), some (.int v1), some (.int v2), none, none, none, none, none] [.long (F128_0 0 9 q)] (hp q)
    obtain ⟨rfl, rfl⟩ := hG
    exact x_lret rfl (by decide +kernel)
def F120 : Nat → Int32 → Int32 → aQ → Int64 × aQ
  | 0 => fun _ _ q => (0, q)
  | n + 1 => F120_0 (F120 n)
def S120 : Nat → Int32 → Int32 → aQ → Prop
  | 0 => fun _ _ _ => False
  | n + 1 => S120_0 (F120 n) (S120 n)
theorem T120 {l : Launch} {X : aX} : ∀ (n : Nat) {d : Nat} {v1 : Int32} {v2 : Int32} {q : aQ} (hd : 4 + n ≤ d) (hS : S120 n v1 v2 q), Call l X d 120 [.ref 647, .int v1, .int v2] (hp q) (some (.long (F120 n v1 v2 q).1)) (hp (F120 n v1 v2 q).2) := by
  intro n
  induction n with
  | zero => intros; rename_i hS; exact hS.elim
  | succ n ih =>
    intro d v1 v2 q hd hS
    exact Call.of ok120 (by decide) (Nat.le_of_ble_eq_true rfl) ⟨Nat.le_refl _, Nat.le_refl _⟩ (A120_0 (by omega) rfl (fun a0 a1 q hs => ih (by omega) hs) ⟨rfl, rfl⟩ hS)
/-- TypeForecast$Machine.stop(II)I -/
def F116_0 (v1 : Int32) (v2 : Int32) (q : aQ) : Int32 × aQ := (v2, (a_w (a_w q 647 7 v1) 647 6 v2))
def S116_0 (v1 : Int32) (v2 : Int32) (q : aQ) : Prop := True
set_option maxRecDepth 100000 in
set_option maxHeartbeats 4000000 in
theorem A116_0 {l : Launch} {X : aX} {d : Nat} {r : Option Value} {h' : aH} {v1 : Int32} {v2 : Int32} {q : aQ} (hd : 1 ≤ d) (hN : h'.1 = nk0) (hG : gI r h' (F116_0 v1 v2 q)) (hS : S116_0 v1 v2 q) : AW l X 116 c116 d r h' 0 [some (.ref 647), some (.int v1), some (.int v2)] [] (hp q) := by
  unfold F116_0 at hG
  unfold S116_0 at hS
  refine x_run (pc' := 2) (lo' := [some (.ref 647), some (.int v1), some (.int v2)]) (st' := [.int v1, .ref 647]) 2 rfl ?_
  refine x_pf (c := 519) (ne := 0) (h2 := hp (a_w q 647 7 v1)) rfl (by decide +kernel) (by decide +kernel) rfl (pv_i rfl) ?_
  refine x_run (pc' := 7) (lo' := [some (.ref 647), some (.int v1), some (.int v2)]) (st' := [.int v2, .ref 647]) 2 rfl ?_
  refine x_pf (c := 518) (ne := 0) (h2 := hp (a_w (a_w q 647 7 v1) 647 6 v2)) rfl (by decide +kernel) (by decide +kernel) rfl (pv_i rfl) ?_
  refine x_run (pc' := 11) (lo' := [some (.ref 647), some (.int v1), some (.int v2)]) (st' := [.int v2]) 1 rfl ?_
  obtain ⟨rfl, rfl⟩ := hG
  exact x_iret rfl (by decide +kernel)
theorem T116 {l : Launch} {X : aX} {d : Nat} {v1 : Int32} {v2 : Int32} {q : aQ} (hd : 1 ≤ d) (hS : S116_0 v1 v2 q) : Call l X d 116 [.ref 647, .int v1, .int v2] (hp q) (some (.int (F116_0 v1 v2 q).1)) (hp (F116_0 v1 v2 q).2) := Call.of ok116 (by decide) (Nat.le_of_ble_eq_true rfl) ⟨Nat.le_refl _, Nat.le_refl _⟩ (A116_0 hd rfl ⟨rfl, rfl⟩ hS)
/-- TypeForecast$Machine.fail(II)I -/
def F119_42 (v3 : Int32) (s0 : Int32) (q : aQ) : Int32 × aQ := (v3, q)
def S119_42 (v3 : Int32) (s0 : Int32) (q : aQ) : Prop := True
set_option maxRecDepth 100000 in
set_option maxHeartbeats 4000000 in
theorem A119_42 {l : Launch} {X : aX} {d : Nat} {r : Option Value} {h' : aH} {v3 : Int32} {s0 : Int32} {q : aQ} (hd : 4 ≤ d) (hN : h'.1 = nk0) (hG : gI r h' (F119_42 v3 s0 q)) (hS : S119_42 v3 s0 q) : AW l X 119 c119 d r h' 42 [none, none, none, some (.int v3)] [.int s0] (hp q) := by
  unfold F119_42 at hG
  unfold S119_42 at hS
  refine x_run (pc' := 44) (lo' := [none, none, none, some (.int v3)]) (st' := [.int v3]) 2 rfl ?_
  obtain ⟨rfl, rfl⟩ := hG
  exact x_iret rfl (by decide +kernel)
def F119_13 (s0 : Int32) (q : aQ) : Int32 × aQ := ((-1), q)
def S119_13 (s0 : Int32) (q : aQ) : Prop := True
set_option maxRecDepth 100000 in
set_option maxHeartbeats 4000000 in
theorem A119_13 {l : Launch} {X : aX} {d : Nat} {r : Option Value} {h' : aH} {s0 : Int32} {q : aQ} (hd : 4 ≤ d) (hN : h'.1 = nk0) (hG : gI r h' (F119_13 s0 q)) (hS : S119_13 s0 q) : AW l X 119 c119 d r h' 13 [none, none, none, none] [.int s0] (hp q) := by
  unfold F119_13 at hG
  unfold S119_13 at hS
  refine x_run (pc' := 15) (lo' := [none, none, none, none]) (st' := [.int (-1)]) 2 rfl ?_
  obtain ⟨rfl, rfl⟩ := hG
  exact x_iret rfl (by decide +kernel)
def F119_0 (v1 : Int32) (v2 : Int32) (q : aQ) : Int32 × aQ := (if v2 = 9 then F119_13 ((F116_0 v1 (-2) q).1) ((F116_0 v1 (-2) q).2) else (if (F44_0 v1 v2 q) = (-1) then F119_42 (F44_0 v1 v2 q) ((F116_0 v1 ((100 * v2) + v1) q).1) ((F116_0 v1 ((100 * v2) + v1) q).2) else ((F44_0 v1 v2 q), q)))
def S119_0 (v1 : Int32) (v2 : Int32) (q : aQ) : Prop := ((v2 = 9) → S116_0 v1 (-2) q ∧ (S119_13 ((F116_0 v1 (-2) q).1) ((F116_0 v1 (-2) q).2))) ∧ (¬ (v2 = 9) → S44_0 v1 v2 q ∧ ((((F44_0 v1 v2 q) = (-1)) → S116_0 v1 ((100 * v2) + v1) q ∧ (S119_42 (F44_0 v1 v2 q) ((F116_0 v1 ((100 * v2) + v1) q).1) ((F116_0 v1 ((100 * v2) + v1) q).2))) ∧ (¬ ((F44_0 v1 v2 q) = (-1)) → True)))
set_option maxRecDepth 100000 in
set_option maxHeartbeats 4000000 in
theorem A119_0 {l : Launch} {X : aX} {d : Nat} {r : Option Value} {h' : aH} {v1 : Int32} {v2 : Int32} {q : aQ} (hd : 4 ≤ d) (hN : h'.1 = nk0) (hG : gI r h' (F119_0 v1 v2 q)) (hS : S119_0 v1 v2 q) : AW l X 119 c119 d r h' 0 [some (.ref 647), some (.int v1), some (.int v2), none] [] (hp q) := by
  unfold F119_0 at hG
  unfold S119_0 at hS
  refine x_run (pc' := 3) (lo' := [some (.ref 647), some (.int v1), some (.int v2), none]) (st' := [.int 9, .int v2]) 2 rfl ?_
  refine x_ic 16 rfl rfl (fun (hc1 : ¬ v2 = 9) => ?_) (fun (hc1 : v2 = 9) => ?_)
  · rw [if_neg hc1] at hG
    replace hS := hS.2 hc1
    refine x_run (pc' := 17) (lo' := [some (.ref 647), some (.int v1), some (.int v2), none]) (st' := [.ref 647]) 1 rfl ?_
    refine x_gf (c := 512) (ne := 0) (v := .ref 8) rfl (by decide +kernel) rfl rfl ?_
    refine x_run (pc' := 22) (lo' := [some (.ref 647), some (.int v1), some (.int v2), none]) (st' := [.int v2, .int v1, .ref 8]) 2 rfl ?_
    obtain ⟨o2, hS⟩ := hS
    refine x_cv (j := 44) (ne := 0) (vs := [.int v1, .int v2]) (rest := []) rfl (by decide +kernel) (by decide +kernel) (by decide) (Eq.trans rfl (show 2 = _ from by decide +kernel)) rfl (by decide +kernel) rfl (Nat.le_of_ble_eq_true rfl) (by omega) (T44 (Nat.le_refl 3) o2) (hp_m hN) ?_
    show AW l X 119 c119 d r h' 25 [some (.ref 647), some (.int v1), some (.int v2), none] [.int (F44_0 v1 v2 q)] (hp q)
    refine x_run (pc' := 28) (lo' := [some (.ref 647), some (.int v1), some (.int v2), some (.int (F44_0 v1 v2 q))]) (st' := [.int (-1), .int (F44_0 v1 v2 q)]) 3 rfl ?_
    refine x_ic 43 rfl rfl (fun (hc3 : ¬ (F44_0 v1 v2 q) = (-1)) => ?_) (fun (hc3 : (F44_0 v1 v2 q) = (-1)) => ?_)
    · rw [if_neg hc3] at hG
      replace hS := hS.2 hc3
      refine x_run (pc' := 44) (lo' := [some (.ref 647), some (.int v1), some (.int v2), some (.int (F44_0 v1 v2 q))]) (st' := [.int (F44_0 v1 v2 q)]) 1 rfl ?_
      obtain ⟨rfl, rfl⟩ := hG
      exact x_iret rfl (by decide +kernel)
    · rw [if_pos hc3] at hG
      replace hS := hS.1 hc3
      refine x_run (pc' := 39) (lo' := [some (.ref 647), some (.int v1), some (.int v2), some (.int (F44_0 v1 v2 q))]) (st' := [.int ((100 * v2) + v1), .int v1, .ref 647]) 7 rfl ?_
      obtain ⟨o4, hS⟩ := hS
      refine x_cv (j := 116) (ne := 0) (vs := [.int v1, .int ((100 * v2) + v1)]) (rest := []) rfl (by decide +kernel) (by decide +kernel) (by decide) (Eq.trans rfl (show 2 = _ from by decide +kernel)) rfl (by decide +kernel) rfl (Nat.le_of_ble_eq_true rfl) (by omega) (T116 (Nat.le_refl 1) o4) (hp_m hN) ?_
      show AW l X 119 c119 d r h' 42 [some (.ref 647), some (.int v1), some (.int v2), some (.int (F44_0 v1 v2 q))] [.int (F116_0 v1 ((100 * v2) + v1) q).1] (hp (F116_0 v1 ((100 * v2) + v1) q).2)
      refine x_kill [0, 1, 2] ?_
      exact A119_42 hd hN hG hS
  · rw [if_pos hc1] at hG
    replace hS := hS.1 hc1
    refine x_run (pc' := 10) (lo' := [some (.ref 647), some (.int v1), some (.int v2), none]) (st' := [.int (-2), .int v1, .ref 647]) 3 rfl ?_
    obtain ⟨o5, hS⟩ := hS
    refine x_cv (j := 116) (ne := 0) (vs := [.int v1, .int (-2)]) (rest := []) rfl (by decide +kernel) (by decide +kernel) (by decide) (Eq.trans rfl (show 2 = _ from by decide +kernel)) rfl (by decide +kernel) rfl (Nat.le_of_ble_eq_true rfl) (by omega) (T116 (Nat.le_refl 1) o5) (hp_m hN) ?_
    show AW l X 119 c119 d r h' 13 [some (.ref 647), some (.int v1), some (.int v2), none] [.int (F116_0 v1 (-2) q).1] (hp (F116_0 v1 (-2) q).2)
    refine x_kill [0, 1, 2] ?_
    exact A119_13 hd hN hG hS
theorem T119 {l : Launch} {X : aX} {d : Nat} {v1 : Int32} {v2 : Int32} {q : aQ} (hd : 4 ≤ d) (hS : S119_0 v1 v2 q) : Call l X d 119 [.ref 647, .int v1, .int v2] (hp q) (some (.int (F119_0 v1 v2 q).1)) (hp (F119_0 v1 v2 q).2) := Call.of ok119 (by decide) (Nat.le_of_ble_eq_true rfl) ⟨Nat.le_refl _, Nat.le_refl _⟩ (A119_0 hd rfl ⟨rfl, rfl⟩ hS)
/-- TypeForecast$Machine.stepWith(IJ)I -/
def F118_71 (s0 : Int32) (s1 : Int32) (q : aQ) : Int32 × aQ := ((F42_0 s1 s0 q), q)
def S118_71 (s0 : Int32) (s1 : Int32) (q : aQ) : Prop := S42_0 s1 s0 q ∧ (True)
set_option maxRecDepth 100000 in
set_option maxHeartbeats 4000000 in
theorem A118_71 {l : Launch} {X : aX} {d : Nat} {r : Option Value} {h' : aH} {s0 : Int32} {s1 : Int32} {q : aQ} (hd : 5 ≤ d) (hN : h'.1 = nk0) (hG : gI r h' (F118_71 s0 s1 q)) (hS : S118_71 s0 s1 q) : AW l X 118 c118 d r h' 71 [none, none, none, none] [.int s0, .int s1, .ref 8] (hp q) := by
  unfold F118_71 at hG
  unfold S118_71 at hS
  obtain ⟨o7, hS⟩ := hS
  refine x_cv (j := 42) (ne := 0) (vs := [.int s1, .int s0]) (rest := []) rfl (by decide +kernel) (by decide +kernel) (by decide) (Eq.trans rfl (show 2 = _ from by decide +kernel)) rfl (by decide +kernel) rfl (Nat.le_of_ble_eq_true rfl) (by omega) (T42 (Nat.le_refl 2) o7) (hp_m hN) ?_
  show AW l X 118 c118 d r h' 74 [none, none, none, none] [.int (F42_0 s1 s0 q)] (hp q)
  obtain ⟨rfl, rfl⟩ := hG
  exact x_iret rfl (by decide +kernel)
def F118_0 (v1 : Int32) (v2 : Int64) (q : aQ) : Int32 × aQ := (if (F129_0 v2 q) = 0 then ((F119_0 v1 (Int64.toInt32 (F130_0 v2 q)) q).1, (F119_0 v1 (Int64.toInt32 (F130_0 v2 q)) q).2) else (if (q.1 9 (Int32.toNatClampNeg v1)) = 0 then ((F43_0 v1 (a_wl q 649 (Int32.toNatClampNeg (q.1 10 (Int32.toNatClampNeg v1))) v2)), (a_wl q 649 (Int32.toNatClampNeg (q.1 10 (Int32.toNatClampNeg v1))) v2)) else (if (F127_0 v2 q) = 0 then F118_71 1 v1 q else F118_71 0 v1 q)))
def S118_0 (v1 : Int32) (v2 : Int64) (q : aQ) : Prop := S129_0 v2 q ∧ ((((F129_0 v2 q) = 0) → S130_0 v2 q ∧ (S119_0 v1 (Int64.toInt32 (F130_0 v2 q)) q ∧ (True))) ∧ (¬ ((F129_0 v2 q) = 0) → vp_in v1 24 ∧ ((((q.1 9 (Int32.toNatClampNeg v1)) = 0) → vp_in v1 24 ∧ (vp_in (q.1 10 (Int32.toNatClampNeg v1)) 5 ∧ (S43_0 v1 (a_wl q 649 (Int32.toNatClampNeg (q.1 10 (Int32.toNatClampNeg v1))) v2) ∧ (True)))) ∧ (¬ ((q.1 9 (Int32.toNatClampNeg v1)) = 0) → S127_0 v2 q ∧ ((((F127_0 v2 q) = 0) → S118_71 1 v1 q) ∧ (¬ ((F127_0 v2 q) = 0) → S118_71 0 v1 q))))))
set_option maxRecDepth 100000 in
set_option maxHeartbeats 4000000 in
theorem A118_0 {l : Launch} {X : aX} {d : Nat} {r : Option Value} {h' : aH} {v1 : Int32} {v2 : Int64} {q : aQ} (hd : 5 ≤ d) (hN : h'.1 = nk0) (hG : gI r h' (F118_0 v1 v2 q)) (hS : S118_0 v1 v2 q) : AW l X 118 c118 d r h' 0 [some (.ref 647), some (.int v1), some (.long v2), none] [] (hp q) := by
  unfold F118_0 at hG
  unfold S118_0 at hS
  refine x_run (pc' := 1) (lo' := [some (.ref 647), some (.int v1), some (.long v2), none]) (st' := [.long v2]) 1 rfl ?_
  obtain ⟨o1, hS⟩ := hS
  refine x_cs (j := 129) (ne := 0) (vs := [.long v2]) (rest := []) rfl (by decide +kernel) (by decide +kernel) (by decide) (Eq.trans rfl (show 1 = _ from by decide +kernel)) rfl (Nat.le_of_ble_eq_true rfl) (by omega) (T129 (Nat.le_refl 1) o1) (hp_m hN) ?_
  show AW l X 118 c118 d r h' 4 [some (.ref 647), some (.int v1), some (.long v2), none] [.int (F129_0 v2 q)] (hp q)
  refine x_if 18 rfl rfl (fun (hc2 : ¬ (F129_0 v2 q) = 0) => ?_) (fun (hc2 : (F129_0 v2 q) = 0) => ?_)
  · rw [if_neg hc2] at hG
    replace hS := hS.2 hc2
    refine x_run (pc' := 19) (lo' := [some (.ref 647), some (.int v1), some (.long v2), none]) (st' := [.ref 647]) 1 rfl ?_
    refine x_gf (c := 512) (ne := 0) (v := .ref 8) rfl (by decide +kernel) rfl rfl ?_
    refine x_gf (c := 128) (ne := 1) (v := .ref 9) rfl (by decide +kernel) rfl rfl ?_
    refine x_run (pc' := 26) (lo' := [some (.ref 647), some (.int v1), some (.long v2), none]) (st' := [.int v1, .ref 9]) 1 rfl ?_
    obtain ⟨o3, hS⟩ := hS
    refine p_ia (n := 24) (v := (q.1 9 (Int32.toNatClampNeg v1))) rfl rfl o3 rfl ?_
    refine x_if 54 rfl rfl (fun (hc4 : ¬ (q.1 9 (Int32.toNatClampNeg v1)) = 0) => ?_) (fun (hc4 : (q.1 9 (Int32.toNatClampNeg v1)) = 0) => ?_)
    · rw [if_neg hc4] at hG
      replace hS := hS.2 hc4
      refine x_run (pc' := 55) (lo' := [some (.ref 647), some (.int v1), some (.long v2), none]) (st' := [.ref 647]) 1 rfl ?_
      refine x_gf (c := 512) (ne := 0) (v := .ref 8) rfl (by decide +kernel) rfl rfl ?_
      refine x_run (pc' := 60) (lo' := [some (.ref 647), some (.int v1), some (.long v2), none]) (st' := [.long v2, .int v1, .ref 8]) 2 rfl ?_
      obtain ⟨o5, hS⟩ := hS
      refine x_cs (j := 127) (ne := 0) (vs := [.long v2]) (rest := [.int v1, .ref 8]) rfl (by decide +kernel) (by decide +kernel) (by decide) (Eq.trans rfl (show 1 = _ from by decide +kernel)) rfl (Nat.le_of_ble_eq_true rfl) (by omega) (T127 (Nat.le_refl 2) o5) (hp_m hN) ?_
      show AW l X 118 c118 d r h' 63 [some (.ref 647), some (.int v1), some (.long v2), none] [.int (F127_0 v2 q), .int v1, .ref 8] (hp q)
      refine x_if 70 rfl rfl (fun (hc6 : (F127_0 v2 q) = 0) => ?_) (fun (hc6 : ¬ (F127_0 v2 q) = 0) => ?_)
      · rw [if_pos hc6] at hG
        replace hS := hS.1 hc6
        refine x_run (pc' := 71) (lo' := [some (.ref 647), some (.int v1), some (.long v2), none]) (st' := [.int 1, .int v1, .ref 8]) 1 rfl ?_
        refine x_kill [0, 1, 2] ?_
        exact A118_71 hd hN hG hS
      · rw [if_neg hc6] at hG
        replace hS := hS.2 hc6
        refine x_run (pc' := 71) (lo' := [some (.ref 647), some (.int v1), some (.long v2), none]) (st' := [.int 0, .int v1, .ref 8]) 2 rfl ?_
        refine x_kill [0, 1, 2] ?_
        exact A118_71 hd hN hG hS
    · rw [if_pos hc4] at hG
      replace hS := hS.1 hc4
      refine x_run (pc' := 31) (lo' := [some (.ref 647), some (.int v1), some (.long v2), none]) (st' := [.ref 647]) 1 rfl ?_
      refine x_gf (c := 517) (ne := 0) (v := .ref 649) rfl (by decide +kernel) rfl rfl ?_
      refine x_run (pc' := 35) (lo' := [some (.ref 647), some (.int v1), some (.long v2), none]) (st' := [.ref 647, .ref 649]) 1 rfl ?_
      refine x_gf (c := 512) (ne := 0) (v := .ref 8) rfl (by decide +kernel) rfl rfl ?_
      refine x_gf (c := 129) (ne := 1) (v := .ref 10) rfl (by decide +kernel) rfl rfl ?_
      refine x_run (pc' := 42) (lo' := [some (.ref 647), some (.int v1), some (.long v2), none]) (st' := [.int v1, .ref 10, .ref 649]) 1 rfl ?_
      obtain ⟨o8, hS⟩ := hS
      refine p_ia (n := 24) (v := (q.1 10 (Int32.toNatClampNeg v1))) rfl rfl o8 rfl ?_
      refine x_run (pc' := 44) (lo' := [some (.ref 647), some (.int v1), some (.long v2), none]) (st' := [.long v2, .int (q.1 10 (Int32.toNatClampNeg v1)), .ref 649]) 1 rfl ?_
      obtain ⟨o9, hS⟩ := hS
      refine p_lt (n := 5) rfl rfl o9 ?_
      refine x_run (pc' := 46) (lo' := [some (.ref 647), some (.int v1), some (.long v2), none]) (st' := [.ref 647]) 1 rfl ?_
      refine x_gf (c := 512) (ne := 0) (v := .ref 8) rfl (by decide +kernel) rfl rfl ?_
      refine x_run (pc' := 50) (lo' := [some (.ref 647), some (.int v1), some (.long v2), none]) (st' := [.int v1, .ref 8]) 1 rfl ?_
      obtain ⟨o10, hS⟩ := hS
      refine x_cv (j := 43) (ne := 0) (vs := [.int v1]) (rest := []) rfl (by decide +kernel) (by decide +kernel) (by decide) (Eq.trans rfl (show 1 = _ from by decide +kernel)) rfl (by decide +kernel) rfl (Nat.le_of_ble_eq_true rfl) (by omega) (T43 (Nat.le_refl 1) o10) (hp_m hN) ?_
      show AW l X 118 c118 d r h' 53 [some (.ref 647), some (.int v1), some (.long v2), none] [.int (F43_0 v1 (a_wl q 649 (Int32.toNatClampNeg (q.1 10 (Int32.toNatClampNeg v1))) v2))] (hp (a_wl q 649 (Int32.toNatClampNeg (q.1 10 (Int32.toNatClampNeg v1))) v2))
      obtain ⟨rfl, rfl⟩ := hG
      exact x_iret rfl (by decide +kernel)
  · rw [if_pos hc2] at hG
    replace hS := hS.1 hc2
    refine x_run (pc' := 10) (lo' := [some (.ref 647), some (.int v1), some (.long v2), none]) (st' := [.long v2, .int v1, .ref 647]) 3 rfl ?_
    obtain ⟨o11, hS⟩ := hS
    refine x_cs (j := 130) (ne := 0) (vs := [.long v2]) (rest := [.int v1, .ref 647]) rfl (by decide +kernel) (by decide +kernel) (by decide) (Eq.trans rfl (show 1 = _ from by decide +kernel)) rfl (Nat.le_of_ble_eq_true rfl) (by omega) (T130 (Nat.le_refl 1) o11) (hp_m hN) ?_
    show AW l X 118 c118 d r h' 13 [some (.ref 647), some (.int v1), some (.long v2), none] [.long (F130_0 v2 q), .int v1, .ref 647] (hp q)
    refine x_run (pc' := 14) (lo' := [some (.ref 647), some (.int v1), some (.long v2), none]) (st' := [.int (Int64.toInt32 (F130_0 v2 q)), .int v1, .ref 647]) 1 rfl ?_
    obtain ⟨o12, hS⟩ := hS
    refine x_cv (j := 119) (ne := 0) (vs := [.int v1, .int (Int64.toInt32 (F130_0 v2 q))]) (rest := []) rfl (by decide +kernel) (by decide +kernel) (by decide) (Eq.trans rfl (show 2 = _ from by decide +kernel)) rfl (by decide +kernel) rfl (Nat.le_of_ble_eq_true rfl) (by omega) (T119 (Nat.le_refl 4) o12) (hp_m hN) ?_
    show AW l X 118 c118 d r h' 17 [some (.ref 647), some (.int v1), some (.long v2), none] [.int (F119_0 v1 (Int64.toInt32 (F130_0 v2 q)) q).1] (hp (F119_0 v1 (Int64.toInt32 (F130_0 v2 q)) q).2)
    obtain ⟨rfl, rfl⟩ := hG
    exact x_iret rfl (by decide +kernel)
theorem T118 {l : Launch} {X : aX} {d : Nat} {v1 : Int32} {v2 : Int64} {q : aQ} (hd : 5 ≤ d) (hS : S118_0 v1 v2 q) : Call l X d 118 [.ref 647, .int v1, .long v2] (hp q) (some (.int (F118_0 v1 v2 q).1)) (hp (F118_0 v1 v2 q).2) := Call.of ok118 (by decide) (Nat.le_of_ble_eq_true rfl) ⟨Nat.le_refl _, Nat.le_refl _⟩ (A118_0 hd rfl ⟨rfl, rfl⟩ hS)
/-- TypeForecast$Machine.step(I)I -/
def F117_27 (s0 : Int64) (s1 : Int32) (q : aQ) : Int32 × aQ := ((F118_0 s1 s0 q).1, (F118_0 s1 s0 q).2)
def S117_27 (s0 : Int64) (s1 : Int32) (q : aQ) : Prop := S118_0 s1 s0 q ∧ (True)
set_option maxRecDepth 100000 in
set_option maxHeartbeats 4000000 in
theorem A117_27 {l : Launch} {X : aX} {d : Nat} {r : Option Value} {h' : aH} {s0 : Int64} {s1 : Int32} {q : aQ} (hd : 22 ≤ d) (hN : h'.1 = nk0) (hG : gI r h' (F117_27 s0 s1 q)) (hS : S117_27 s0 s1 q) : AW l X 117 c117 d r h' 27 [none, none] [.long s0, .int s1, .ref 647] (hp q) := by
  unfold F117_27 at hG
  unfold S117_27 at hS
  obtain ⟨o16, hS⟩ := hS
  refine x_cv (j := 118) (ne := 0) (vs := [.int s1, .long s0]) (rest := []) rfl (by decide +kernel) (by decide +kernel) (by decide) (Eq.trans rfl (show 2 = _ from by decide +kernel)) rfl (by decide +kernel) rfl (Nat.le_of_ble_eq_true rfl) (by omega) (T118 (Nat.le_refl 5) o16) (hp_m hN) ?_
  show AW l X 117 c117 d r h' 30 [none, none] [.int (F118_0 s1 s0 q).1] (hp (F118_0 s1 s0 q).2)
  obtain ⟨rfl, rfl⟩ := hG
  exact x_iret rfl (by decide +kernel)
def F117_0 (v1 : Int32) (q : aQ) : Int32 × aQ := (if (F34_0 v1 q) = 0 then (if (q.1 9 (Int32.toNatClampNeg v1)) = 1 then ((F119_0 v1 (q.1 10 (Int32.toNatClampNeg v1)) q).1, (F119_0 v1 (q.1 10 (Int32.toNatClampNeg v1)) q).2) else (if (q.1 9 (Int32.toNatClampNeg v1)) = 2 then ((F43_0 (q.1 10 (Int32.toNatClampNeg v1)) q), q) else (if (q.1 9 (Int32.toNatClampNeg v1)) = 3 then ((q.1 10 (Int32.toNatClampNeg v1)), q) else ((F42_0 v1 0 q), q)))) else F117_27 ((F120 17 (q.1 11 (Int32.toNatClampNeg v1)) 1 q).1) v1 ((F120 17 (q.1 11 (Int32.toNatClampNeg v1)) 1 q).2))
def S117_0 (v1 : Int32) (q : aQ) : Prop := S34_0 v1 q ∧ ((((F34_0 v1 q) = 0) → vp_in v1 24 ∧ ((((q.1 9 (Int32.toNatClampNeg v1)) = 1) → vp_in v1 24 ∧ (S119_0 v1 (q.1 10 (Int32.toNatClampNeg v1)) q ∧ (True))) ∧ (¬ ((q.1 9 (Int32.toNatClampNeg v1)) = 1) → (((q.1 9 (Int32.toNatClampNeg v1)) = 2) → vp_in v1 24 ∧ (S43_0 (q.1 10 (Int32.toNatClampNeg v1)) q ∧ (True))) ∧ (¬ ((q.1 9 (Int32.toNatClampNeg v1)) = 2) → (((q.1 9 (Int32.toNatClampNeg v1)) = 3) → vp_in v1 24 ∧ (True)) ∧ (¬ ((q.1 9 (Int32.toNatClampNeg v1)) = 3) → S42_0 v1 0 q ∧ (True)))))) ∧ (¬ ((F34_0 v1 q) = 0) → vp_in v1 24 ∧ (S120 17 (q.1 11 (Int32.toNatClampNeg v1)) 1 q ∧ (S117_27 ((F120 17 (q.1 11 (Int32.toNatClampNeg v1)) 1 q).1) v1 ((F120 17 (q.1 11 (Int32.toNatClampNeg v1)) 1 q).2)))))
set_option maxRecDepth 100000 in
set_option maxHeartbeats 4000000 in
theorem A117_0 {l : Launch} {X : aX} {d : Nat} {r : Option Value} {h' : aH} {v1 : Int32} {q : aQ} (hd : 22 ≤ d) (hN : h'.1 = nk0) (hG : gI r h' (F117_0 v1 q)) (hS : S117_0 v1 q) : AW l X 117 c117 d r h' 0 [some (.ref 647), some (.int v1)] [] (hp q) := by
  unfold F117_0 at hG
  unfold S117_0 at hS
  refine x_run (pc' := 1) (lo' := [some (.ref 647), some (.int v1)]) (st' := [.ref 647]) 1 rfl ?_
  refine x_gf (c := 512) (ne := 0) (v := .ref 8) rfl (by decide +kernel) rfl rfl ?_
  refine x_run (pc' := 5) (lo' := [some (.ref 647), some (.int v1)]) (st' := [.int v1, .ref 8]) 1 rfl ?_
  obtain ⟨o1, hS⟩ := hS
  refine x_cv (j := 34) (ne := 0) (vs := [.int v1]) (rest := []) rfl (by decide +kernel) (by decide +kernel) (by decide) (Eq.trans rfl (show 1 = _ from by decide +kernel)) rfl (by decide +kernel) rfl (Nat.le_of_ble_eq_true rfl) (by omega) (T34 (Nat.le_refl 1) o1) (hp_m hN) ?_
  show AW l X 117 c117 d r h' 8 [some (.ref 647), some (.int v1)] [.int (F34_0 v1 q)] (hp q)
  refine x_if 31 rfl rfl (fun (hc2 : (F34_0 v1 q) = 0) => ?_) (fun (hc2 : ¬ (F34_0 v1 q) = 0) => ?_)
  · rw [if_pos hc2] at hG
    replace hS := hS.1 hc2
    refine x_run (pc' := 32) (lo' := [some (.ref 647), some (.int v1)]) (st' := [.ref 647]) 1 rfl ?_
    refine x_gf (c := 512) (ne := 0) (v := .ref 8) rfl (by decide +kernel) rfl rfl ?_
    refine x_gf (c := 128) (ne := 1) (v := .ref 9) rfl (by decide +kernel) rfl rfl ?_
    refine x_run (pc' := 39) (lo' := [some (.ref 647), some (.int v1)]) (st' := [.int v1, .ref 9]) 1 rfl ?_
    obtain ⟨o3, hS⟩ := hS
    refine p_ia (n := 24) (v := (q.1 9 (Int32.toNatClampNeg v1))) rfl rfl o3 rfl ?_
    by_cases hc11 : (q.1 9 (Int32.toNatClampNeg v1)) = 1
    · rw [if_pos hc11] at hG
      replace hS := hS.1 hc11
      refine x_tsIn (off := 28) 68 rfl (by rw [hc11]; decide) (by rw [hc11]; decide) (by rw [hc11]; rfl) rfl ?_
      refine x_run (pc' := 71) (lo' := [some (.ref 647), some (.int v1)]) (st' := [.ref 647, .int v1, .ref 647]) 3 rfl ?_
      refine x_gf (c := 512) (ne := 0) (v := .ref 8) rfl (by decide +kernel) rfl rfl ?_
      refine x_gf (c := 129) (ne := 1) (v := .ref 10) rfl (by decide +kernel) rfl rfl ?_
      refine x_run (pc' := 78) (lo' := [some (.ref 647), some (.int v1)]) (st' := [.int v1, .ref 10, .int v1, .ref 647]) 1 rfl ?_
      obtain ⟨o6, hS⟩ := hS
      refine p_ia (n := 24) (v := (q.1 10 (Int32.toNatClampNeg v1))) rfl rfl o6 rfl ?_
      obtain ⟨o7, hS⟩ := hS
      refine x_cv (j := 119) (ne := 0) (vs := [.int v1, .int (q.1 10 (Int32.toNatClampNeg v1))]) (rest := []) rfl (by decide +kernel) (by decide +kernel) (by decide) (Eq.trans rfl (show 2 = _ from by decide +kernel)) rfl (by decide +kernel) rfl (Nat.le_of_ble_eq_true rfl) (by omega) (T119 (Nat.le_refl 4) o7) (hp_m hN) ?_
      show AW l X 117 c117 d r h' 82 [some (.ref 647), some (.int v1)] [.int (F119_0 v1 (q.1 10 (Int32.toNatClampNeg v1)) q).1] (hp (F119_0 v1 (q.1 10 (Int32.toNatClampNeg v1)) q).2)
      obtain ⟨rfl, rfl⟩ := hG
      exact x_iret rfl (by decide +kernel)
    · rw [if_neg hc11] at hG
      replace hS := hS.2 hc11
      by_cases hc12 : (q.1 9 (Int32.toNatClampNeg v1)) = 2
      · rw [if_pos hc12] at hG
        replace hS := hS.1 hc12
        refine x_tsIn (off := 43) 83 rfl (by rw [hc12]; decide) (by rw [hc12]; decide) (by rw [hc12]; rfl) rfl ?_
        refine x_run (pc' := 84) (lo' := [some (.ref 647), some (.int v1)]) (st' := [.ref 647]) 1 rfl ?_
        refine x_gf (c := 512) (ne := 0) (v := .ref 8) rfl (by decide +kernel) rfl rfl ?_
        refine x_run (pc' := 88) (lo' := [some (.ref 647), some (.int v1)]) (st' := [.ref 647, .ref 8]) 1 rfl ?_
        refine x_gf (c := 512) (ne := 0) (v := .ref 8) rfl (by decide +kernel) rfl rfl ?_
        refine x_gf (c := 129) (ne := 1) (v := .ref 10) rfl (by decide +kernel) rfl rfl ?_
        refine x_run (pc' := 95) (lo' := [some (.ref 647), some (.int v1)]) (st' := [.int v1, .ref 10, .ref 8]) 1 rfl ?_
        obtain ⟨o8, hS⟩ := hS
        refine p_ia (n := 24) (v := (q.1 10 (Int32.toNatClampNeg v1))) rfl rfl o8 rfl ?_
        obtain ⟨o9, hS⟩ := hS
        refine x_cv (j := 43) (ne := 0) (vs := [.int (q.1 10 (Int32.toNatClampNeg v1))]) (rest := []) rfl (by decide +kernel) (by decide +kernel) (by decide) (Eq.trans rfl (show 1 = _ from by decide +kernel)) rfl (by decide +kernel) rfl (Nat.le_of_ble_eq_true rfl) (by omega) (T43 (Nat.le_refl 1) o9) (hp_m hN) ?_
        show AW l X 117 c117 d r h' 99 [some (.ref 647), some (.int v1)] [.int (F43_0 (q.1 10 (Int32.toNatClampNeg v1)) q)] (hp q)
        obtain ⟨rfl, rfl⟩ := hG
        exact x_iret rfl (by decide +kernel)
      · rw [if_neg hc12] at hG
        replace hS := hS.2 hc12
        by_cases hc13 : (q.1 9 (Int32.toNatClampNeg v1)) = 3
        · rw [if_pos hc13] at hG
          replace hS := hS.1 hc13
          refine x_tsIn (off := 60) 100 rfl (by rw [hc13]; decide) (by rw [hc13]; decide) (by rw [hc13]; rfl) rfl ?_
          refine x_run (pc' := 101) (lo' := [some (.ref 647), some (.int v1)]) (st' := [.ref 647]) 1 rfl ?_
          refine x_gf (c := 512) (ne := 0) (v := .ref 8) rfl (by decide +kernel) rfl rfl ?_
          refine x_gf (c := 129) (ne := 1) (v := .ref 10) rfl (by decide +kernel) rfl rfl ?_
          refine x_run (pc' := 108) (lo' := [some (.ref 647), some (.int v1)]) (st' := [.int v1, .ref 10]) 1 rfl ?_
          obtain ⟨o10, hS⟩ := hS
          refine p_ia (n := 24) (v := (q.1 10 (Int32.toNatClampNeg v1))) rfl rfl o10 rfl ?_
          obtain ⟨rfl, rfl⟩ := hG
          exact x_iret rfl (by decide +kernel)
        · rw [if_neg hc13] at hG
          replace hS := hS.2 hc13
          refine x_tsOut 110 rfl (by have z0 := sw_ne (k := 1) hc11 (by decide); have z1 := sw_ne (k := 2) hc12 (by decide); have z2 := sw_ne (k := 3) hc13 (by decide); omega) rfl ?_
          refine x_run (pc' := 111) (lo' := [some (.ref 647), some (.int v1)]) (st' := [.ref 647]) 1 rfl ?_
          refine x_gf (c := 512) (ne := 0) (v := .ref 8) rfl (by decide +kernel) rfl rfl ?_
          refine x_run (pc' := 116) (lo' := [some (.ref 647), some (.int v1)]) (st' := [.int 0, .int v1, .ref 8]) 2 rfl ?_
          obtain ⟨o5, hS⟩ := hS
          refine x_cv (j := 42) (ne := 0) (vs := [.int v1, .int 0]) (rest := []) rfl (by decide +kernel) (by decide +kernel) (by decide) (Eq.trans rfl (show 2 = _ from by decide +kernel)) rfl (by decide +kernel) rfl (Nat.le_of_ble_eq_true rfl) (by omega) (T42 (Nat.le_refl 2) o5) (hp_m hN) ?_
          show AW l X 117 c117 d r h' 119 [some (.ref 647), some (.int v1)] [.int (F42_0 v1 0 q)] (hp q)
          obtain ⟨rfl, rfl⟩ := hG
          exact x_iret rfl (by decide +kernel)
  · rw [if_neg hc2] at hG
    replace hS := hS.2 hc2
    refine x_run (pc' := 15) (lo' := [some (.ref 647), some (.int v1)]) (st' := [.ref 647, .ref 647, .int v1, .ref 647]) 4 rfl ?_
    refine x_gf (c := 512) (ne := 0) (v := .ref 8) rfl (by decide +kernel) rfl rfl ?_
    refine x_gf (c := 130) (ne := 1) (v := .ref 11) rfl (by decide +kernel) rfl rfl ?_
    refine x_run (pc' := 22) (lo' := [some (.ref 647), some (.int v1)]) (st' := [.int v1, .ref 11, .ref 647, .int v1, .ref 647]) 1 rfl ?_
    obtain ⟨o14, hS⟩ := hS
    refine p_ia (n := 24) (v := (q.1 11 (Int32.toNatClampNeg v1))) rfl rfl o14 rfl ?_
    refine x_run (pc' := 24) (lo' := [some (.ref 647), some (.int v1)]) (st' := [.int 1, .int (q.1 11 (Int32.toNatClampNeg v1)), .ref 647, .int v1, .ref 647]) 1 rfl ?_
    obtain ⟨o15, hS⟩ := hS
    refine x_cv (j := 120) (ne := 0) (vs := [.int (q.1 11 (Int32.toNatClampNeg v1)), .int 1]) (rest := [.int v1, .ref 647]) rfl (by decide +kernel) (by decide +kernel) (by decide) (Eq.trans rfl (show 2 = _ from by decide +kernel)) rfl (by decide +kernel) rfl (Nat.le_of_ble_eq_true rfl) (by omega) (T120 17 (Nat.le_refl _) o15) (hp_m hN) ?_
    show AW l X 117 c117 d r h' 27 [some (.ref 647), some (.int v1)] [.long (F120 17 (q.1 11 (Int32.toNatClampNeg v1)) 1 q).1, .int v1, .ref 647] (hp (F120 17 (q.1 11 (Int32.toNatClampNeg v1)) 1 q).2)
    refine x_kill [0, 1] ?_
    exact A117_27 hd hN hG hS
theorem T117 {l : Launch} {X : aX} {d : Nat} {v1 : Int32} {q : aQ} (hd : 22 ≤ d) (hS : S117_0 v1 q) : Call l X d 117 [.ref 647, .int v1] (hp q) (some (.int (F117_0 v1 q).1)) (hp (F117_0 v1 q).2) := Call.of ok117 (by decide) (Nat.le_of_ble_eq_true rfl) ⟨Nat.le_refl _, Nat.le_refl _⟩ (A117_0 hd rfl ⟨rfl, rfl⟩ hS)
/-- TypeForecast$Machine.execute(I)I -/
def F115_44 (v1 : Int32) (v3 : Int32) (s0 : Int32) (q : aQ) : (Int32 × Int32 × aQ) ⊕ ((Int32 × aQ) ⊕ (Int32 × aQ)) := (if s0 = (-1) then .inr (.inr ((q.1 647 6), q)) else .inl (s0, (v3 + 1), q))
def S115_44 (v1 : Int32) (v3 : Int32) (s0 : Int32) (q : aQ) : Prop := ((s0 = (-1)) → True) ∧ (¬ (s0 = (-1)) → True)
set_option maxRecDepth 100000 in
set_option maxHeartbeats 4000000 in
theorem A115_44 {l : Launch} {X : aX} {d : Nat} {r : Option Value} {h' : aH} {v1 : Int32} {v3 : Int32} {s0 : Int32} {q : aQ} (hd : 23 ≤ d) (hN : h'.1 = nk0) (hG : gL (fun (s : Int32 × Int32 × aQ) => AW l X 115 c115 d r h' 28 [some (.ref 647), some (.int v1), some (.int s.1), some (.int s.2.1)] [] (hp s.2.2)) (gE (fun (e : Int32 × aQ) => AW l X 115 c115 d r h' 61 [some (.ref 647), none, some (.int e.1), none] [] (hp e.2)) (fun o => gI r h' o)) (F115_44 v1 v3 s0 q)) (hS : S115_44 v1 v3 s0 q) : AW l X 115 c115 d r h' 44 [some (.ref 647), some (.int v1), none, some (.int v3)] [.int s0] (hp q) := by
  unfold F115_44 at hG
  unfold S115_44 at hS
  refine x_run (pc' := 47) (lo' := [some (.ref 647), some (.int v1), some (.int s0), some (.int v3)]) (st' := [.int (-1), .int s0]) 3 rfl ?_
  refine x_ic 55 rfl rfl (fun (hc7 : ¬ s0 = (-1)) => ?_) (fun (hc7 : s0 = (-1)) => ?_)
  · rw [if_neg hc7] at hG
    replace hS := hS.2 hc7
    refine x_run (pc' := 28) (lo' := [some (.ref 647), some (.int v1), some (.int s0), some (.int (v3 + 1))]) (st' := []) 2 rfl ?_
    exact hG
  · rw [if_pos hc7] at hG
    replace hS := hS.1 hc7
    refine x_run (pc' := 51) (lo' := [some (.ref 647), some (.int v1), some (.int s0), some (.int v3)]) (st' := [.ref 647]) 1 rfl ?_
    refine x_gf (c := 518) (ne := 0) (v := .int (q.1 647 6)) rfl (by decide +kernel) rfl rfl ?_
    obtain ⟨rfl, rfl⟩ := hG
    exact x_iret rfl (by decide +kernel)
def F115_28 (v1 : Int32) (v2 : Int32) (v3 : Int32) (q : aQ) : (Int32 × Int32 × aQ) ⊕ ((Int32 × aQ) ⊕ (Int32 × aQ)) := (if v1 ≤ v3 then .inr (.inl (v2, q)) else (if v2 = 24 then .inr (.inl (v2, q)) else F115_44 v1 v3 ((F117_0 v2 q).1) ((F117_0 v2 q).2)))
def S115_28 (v1 : Int32) (v2 : Int32) (v3 : Int32) (q : aQ) : Prop := ((v1 ≤ v3) → True) ∧ (¬ (v1 ≤ v3) → ((v2 = 24) → True) ∧ (¬ (v2 = 24) → S117_0 v2 q ∧ (S115_44 v1 v3 ((F117_0 v2 q).1) ((F117_0 v2 q).2))))
set_option maxRecDepth 100000 in
set_option maxHeartbeats 4000000 in
theorem A115_28 {l : Launch} {X : aX} {d : Nat} {r : Option Value} {h' : aH} {v1 : Int32} {v2 : Int32} {v3 : Int32} {q : aQ} (hd : 23 ≤ d) (hN : h'.1 = nk0) (hG : gL (fun (s : Int32 × Int32 × aQ) => AW l X 115 c115 d r h' 28 [some (.ref 647), some (.int v1), some (.int s.1), some (.int s.2.1)] [] (hp s.2.2)) (gE (fun (e : Int32 × aQ) => AW l X 115 c115 d r h' 61 [some (.ref 647), none, some (.int e.1), none] [] (hp e.2)) (fun o => gI r h' o)) (F115_28 v1 v2 v3 q)) (hS : S115_28 v1 v2 v3 q) : AW l X 115 c115 d r h' 28 [some (.ref 647), some (.int v1), some (.int v2), some (.int v3)] [] (hp q) := by
  unfold F115_28 at hG
  unfold S115_28 at hS
  refine x_run (pc' := 30) (lo' := [some (.ref 647), some (.int v1), some (.int v2), some (.int v3)]) (st' := [.int v1, .int v3]) 2 rfl ?_
  refine x_ic 61 rfl rfl (fun (hc4 : v1 ≤ v3) => ?_) (fun (hc4 : ¬ v1 ≤ v3) => ?_)
  · rw [if_pos hc4] at hG
    replace hS := hS.1 hc4
    refine x_kill [1, 3] ?_
    exact hG
  · rw [if_neg hc4] at hG
    replace hS := hS.2 hc4
    refine x_run (pc' := 36) (lo' := [some (.ref 647), some (.int v1), some (.int v2), some (.int v3)]) (st' := [.int 24, .int v2]) 2 rfl ?_
    refine x_ic 61 rfl rfl (fun (hc5 : v2 = 24) => ?_) (fun (hc5 : ¬ v2 = 24) => ?_)
    · rw [if_pos hc5] at hG
      replace hS := hS.1 hc5
      refine x_kill [1, 3] ?_
      exact hG
    · rw [if_neg hc5] at hG
      replace hS := hS.2 hc5
      refine x_run (pc' := 41) (lo' := [some (.ref 647), some (.int v1), some (.int v2), some (.int v3)]) (st' := [.int v2, .ref 647]) 2 rfl ?_
      obtain ⟨o6, hS⟩ := hS
      refine x_cv (j := 117) (ne := 0) (vs := [.int v2]) (rest := []) rfl (by decide +kernel) (by decide +kernel) (by decide) (Eq.trans rfl (show 1 = _ from by decide +kernel)) rfl (by decide +kernel) rfl (Nat.le_of_ble_eq_true rfl) (by omega) (T117 (Nat.le_refl 22) o6) (hp_m hN) ?_
      show AW l X 115 c115 d r h' 44 [some (.ref 647), some (.int v1), some (.int v2), some (.int v3)] [.int (F117_0 v2 q).1] (hp (F117_0 v2 q).2)
      refine x_kill [2] ?_
      exact A115_44 hd hN hG hS
def F115_73 (s0 : Int32) (q : aQ) : Int32 × aQ := (s0, q)
def S115_73 (s0 : Int32) (q : aQ) : Prop := True
set_option maxRecDepth 100000 in
set_option maxHeartbeats 4000000 in
theorem A115_73 {l : Launch} {X : aX} {d : Nat} {r : Option Value} {h' : aH} {s0 : Int32} {q : aQ} (hd : 23 ≤ d) (hN : h'.1 = nk0) (hG : gI r h' (F115_73 s0 q)) (hS : S115_73 s0 q) : AW l X 115 c115 d r h' 73 [none, none, none, none] [.int s0] (hp q) := by
  unfold F115_73 at hG
  unfold S115_73 at hS
  refine x_run (pc' := 83) (lo' := [none, none, none, none]) (st' := [.int s0]) 1 rfl ?_
  obtain ⟨rfl, rfl⟩ := hG
  exact x_iret rfl (by decide +kernel)
def F115_61 (v2 : Int32) (q : aQ) : Int32 × aQ := (if v2 = 24 then F115_73 ((F116_0 (-1) 0 q).1) ((F116_0 (-1) 0 q).2) else ((F116_0 v2 (-2) q).1, (F116_0 v2 (-2) q).2))
def S115_61 (v2 : Int32) (q : aQ) : Prop := ((v2 = 24) → S116_0 (-1) 0 q ∧ (S115_73 ((F116_0 (-1) 0 q).1) ((F116_0 (-1) 0 q).2))) ∧ (¬ (v2 = 24) → S116_0 v2 (-2) q ∧ (True))
set_option maxRecDepth 100000 in
set_option maxHeartbeats 4000000 in
theorem A115_61 {l : Launch} {X : aX} {d : Nat} {r : Option Value} {h' : aH} {v2 : Int32} {q : aQ} (hd : 23 ≤ d) (hN : h'.1 = nk0) (hG : gI r h' (F115_61 v2 q)) (hS : S115_61 v2 q) : AW l X 115 c115 d r h' 61 [some (.ref 647), none, some (.int v2), none] [] (hp q) := by
  unfold F115_61 at hG
  unfold S115_61 at hS
  refine x_run (pc' := 64) (lo' := [some (.ref 647), none, some (.int v2), none]) (st' := [.int 24, .int v2]) 2 rfl ?_
  refine x_ic 76 rfl rfl (fun (hc9 : ¬ v2 = 24) => ?_) (fun (hc9 : v2 = 24) => ?_)
  · rw [if_neg hc9] at hG
    replace hS := hS.2 hc9
    refine x_run (pc' := 80) (lo' := [some (.ref 647), none, some (.int v2), none]) (st' := [.int (-2), .int v2, .ref 647]) 3 rfl ?_
    obtain ⟨o10, hS⟩ := hS
    refine x_cv (j := 116) (ne := 0) (vs := [.int v2, .int (-2)]) (rest := []) rfl (by decide +kernel) (by decide +kernel) (by decide) (Eq.trans rfl (show 2 = _ from by decide +kernel)) rfl (by decide +kernel) rfl (Nat.le_of_ble_eq_true rfl) (by omega) (T116 (Nat.le_refl 1) o10) (hp_m hN) ?_
    show AW l X 115 c115 d r h' 83 [some (.ref 647), none, some (.int v2), none] [.int (F116_0 v2 (-2) q).1] (hp (F116_0 v2 (-2) q).2)
    obtain ⟨rfl, rfl⟩ := hG
    exact x_iret rfl (by decide +kernel)
  · rw [if_pos hc9] at hG
    replace hS := hS.1 hc9
    refine x_run (pc' := 70) (lo' := [some (.ref 647), none, some (.int v2), none]) (st' := [.int 0, .int (-1), .ref 647]) 3 rfl ?_
    obtain ⟨o11, hS⟩ := hS
    refine x_cv (j := 116) (ne := 0) (vs := [.int (-1), .int 0]) (rest := []) rfl (by decide +kernel) (by decide +kernel) (by decide) (Eq.trans rfl (show 2 = _ from by decide +kernel)) rfl (by decide +kernel) rfl (Nat.le_of_ble_eq_true rfl) (by omega) (T116 (Nat.le_refl 1) o11) (hp_m hN) ?_
    show AW l X 115 c115 d r h' 73 [some (.ref 647), none, some (.int v2), none] [.int (F116_0 (-1) 0 q).1] (hp (F116_0 (-1) 0 q).2)
    refine x_kill [0, 2] ?_
    exact A115_73 hd hN hG hS
def F115_13 (v1 : Int32) (q : aQ) : Int32 × aQ := (match a_lp (fun (s : Int32 × Int32 × aQ) => F115_28 v1 s.1 s.2.1 s.2.2) 1002 ((F41_0 (a_w q 647 4 0)), 0, (a_w q 647 4 0)) (.inl ((F41_0 (a_w q 647 4 0)), (a_w q 647 4 0))) with
    | .inl e8 => F115_61 e8.1 e8.2
    | .inr o12 => o12)
def S115_13 (v1 : Int32) (q : aQ) : Prop := S41_0 (a_w q 647 4 0) ∧ (a_sf (fun (s : Int32 × Int32 × aQ) => F115_28 v1 s.1 s.2.1 s.2.2) (fun (s : Int32 × Int32 × aQ) => S115_28 v1 s.1 s.2.1 s.2.2) 1002 ((F41_0 (a_w q 647 4 0)), 0, (a_w q 647 4 0)) ∧ (match a_lp (fun (s : Int32 × Int32 × aQ) => F115_28 v1 s.1 s.2.1 s.2.2) 1002 ((F41_0 (a_w q 647 4 0)), 0, (a_w q 647 4 0)) (.inl ((F41_0 (a_w q 647 4 0)), (a_w q 647 4 0))) with
    | .inl e8 => S115_61 e8.1 e8.2
    | .inr _ => True))
set_option maxRecDepth 100000 in
set_option maxHeartbeats 4000000 in
theorem A115_13 {l : Launch} {X : aX} {d : Nat} {r : Option Value} {h' : aH} {v1 : Int32} {q : aQ} (hd : 23 ≤ d) (hN : h'.1 = nk0) (hG : gI r h' (F115_13 v1 q)) (hS : S115_13 v1 q) : AW l X 115 c115 d r h' 13 [some (.ref 647), some (.int v1), none, none] [] (hp q) := by
  unfold F115_13 at hG
  unfold S115_13 at hS
  refine x_run (pc' := 15) (lo' := [some (.ref 647), some (.int v1), none, none]) (st' := [.int 0, .ref 647]) 2 rfl ?_
  refine x_pf (c := 516) (ne := 0) (h2 := hp (a_w q 647 4 0)) rfl (by decide +kernel) (by decide +kernel) rfl (pv_i rfl) ?_
  refine x_run (pc' := 19) (lo' := [some (.ref 647), some (.int v1), none, none]) (st' := [.ref 647]) 1 rfl ?_
  refine x_gf (c := 512) (ne := 0) (v := .ref 8) rfl (by decide +kernel) rfl rfl ?_
  obtain ⟨o3, hS⟩ := hS
  refine x_cv (j := 41) (ne := 0) (vs := []) (rest := []) rfl (by decide +kernel) (by decide +kernel) (by decide) (Eq.trans rfl (show 0 = _ from by decide +kernel)) rfl (by decide +kernel) rfl (Nat.le_of_ble_eq_true rfl) (by omega) (T41 (Nat.le_refl 1) o3) (hp_m hN) ?_
  show AW l X 115 c115 d r h' 25 [some (.ref 647), some (.int v1), none, none] [.int (F41_0 (a_w q 647 4 0))] (hp (a_w q 647 4 0))
  refine x_run (pc' := 28) (lo' := [some (.ref 647), some (.int v1), some (.int (F41_0 (a_w q 647 4 0))), some (.int 0)]) (st' := []) 3 rfl ?_
  obtain ⟨ho, hS⟩ := hS
  refine x_loop (fun (s : Int32 × Int32 × aQ) => F115_28 v1 s.1 s.2.1 s.2.2) (fun (s : Int32 × Int32 × aQ) => S115_28 v1 s.1 s.2.1 s.2.2) (fun (s : Int32 × Int32 × aQ) => AW l X 115 c115 d r h' 28 [some (.ref 647), some (.int v1), some (.int s.1), some (.int s.2.1)] [] (hp s.2.2)) (gE (fun (e : Int32 × aQ) => AW l X 115 c115 d r h' 61 [some (.ref 647), none, some (.int e.1), none] [] (hp e.2)) (fun o => gI r h' o)) (fun s hs hg => A115_28 hd hN hg hs) 1002 ((F41_0 (a_w q 647 4 0)), 0, (a_w q 647 4 0)) ho (fun ex he => ?_)
  rw [a_lp_eq he] at hG hS
  cases ex with
  | inl e8 =>
    dsimp only at hG hS
    exact A115_61 hd hN hG hS
  | inr o12 => exact hG
def F115_0 (v1 : Int32) (q : aQ) : Int32 × aQ := F115_13 v1 (F192_0 (F128_0 8 0 q) q)
def S115_0 (v1 : Int32) (q : aQ) : Prop := S128_0 8 0 q ∧ (S192_0 (F128_0 8 0 q) q ∧ (S115_13 v1 (F192_0 (F128_0 8 0 q) q)))
set_option maxRecDepth 100000 in
set_option maxHeartbeats 4000000 in
theorem A115_0 {l : Launch} {X : aX} {d : Nat} {r : Option Value} {h' : aH} {v1 : Int32} {q : aQ} (hd : 23 ≤ d) (hN : h'.1 = nk0) (hG : gI r h' (F115_0 v1 q)) (hS : S115_0 v1 q) : AW l X 115 c115 d r h' 0 [some (.ref 647), some (.int v1), none, none] [] (hp q) := by
  unfold F115_0 at hG
  unfold S115_0 at hS
  refine x_run (pc' := 1) (lo' := [some (.ref 647), some (.int v1), none, none]) (st' := [.ref 647]) 1 rfl ?_
  refine x_gf (c := 517) (ne := 0) (v := .ref 649) rfl (by decide +kernel) rfl rfl ?_
  refine x_run (pc' := 7) (lo' := [some (.ref 647), some (.int v1), none, none]) (st' := [.long 0, .int 8, .ref 649]) 2 rfl ?_
  obtain ⟨o1, hS⟩ := hS
  refine x_cs (j := 128) (ne := 0) (vs := [.int 8, .long 0]) (rest := [.ref 649]) rfl (by decide +kernel) (by decide +kernel) (by decide) (Eq.trans rfl (show 2 = _ from by decide +kernel)) rfl (Nat.le_of_ble_eq_true rfl) (by omega) (T128 (Nat.le_refl 1) o1) (hp_m hN) ?_
  show AW l X 115 c115 d r h' 10 [some (.ref 647), some (.int v1), none, none] [.long (F128_0 8 0 q), .ref 649] (hp q)
  obtain ⟨o2, hS⟩ := hS
  refine x_cs (j := 192) (ne := 0) (vs := [.ref 649, .long (F128_0 8 0 q)]) (rest := []) rfl (by decide +kernel) (by decide +kernel) (by decide) (Eq.trans rfl (show 2 = _ from by decide +kernel)) rfl (Nat.le_of_ble_eq_true rfl) (by omega) (T192 (Nat.le_refl 1) o2) (hp_m hN) ?_
  show AW l X 115 c115 d r h' 13 [some (.ref 647), some (.int v1), none, none] [] (hp (F192_0 (F128_0 8 0 q) q))
  exact A115_13 hd hN hG hS
theorem T115 {l : Launch} {X : aX} {d : Nat} {v1 : Int32} {q : aQ} (hd : 23 ≤ d) (hS : S115_0 v1 q) : Call l X d 115 [.ref 647, .int v1] (hp q) (some (.int (F115_0 v1 q).1)) (hp (F115_0 v1 q).2) := Call.of ok115 (by decide) (Nat.le_of_ble_eq_true rfl) ⟨Nat.le_refl _, Nat.le_refl _⟩ (A115_0 hd rfl ⟨rfl, rfl⟩ hS)
