/-! written by wip/whole/gen3.py: what methods do (F), what they need (S), the walk (A), the contract (T) -/
/-- TypeForecastModel.forget()V -/
def F132_2 (v1 : Int32) (q : aQ) : (Int32 × aQ) ⊕ (aQ) := (if 25 ≤ v1 then .inr q else .inl ((v1 + 1), (a_w q 665 (Int32.toNatClampNeg v1) 0)))
def S132_2 (v1 : Int32) (q : aQ) : Prop := ((25 ≤ v1) → True) ∧ (¬ (25 ≤ v1) → vp_in v1 25 ∧ (True))
set_option maxRecDepth 100000 in
set_option maxHeartbeats 4000000 in
theorem A132_2 {l : Launch} {X : aX} {d : Nat} {r : Option Value} {h' : aH} {v1 : Int32} {q : aQ} (hd : 1 ≤ d) (hN : h'.1 = nk0) (hG : gL (fun (s : Int32 × aQ) => AW l X 132 c132 d r h' 2 [some (.ref 650), some (.int s.1)] [] (hp s.2)) (fun (e : aQ) => AW l X 132 c132 d r h' 21 [some (.ref 650), none] [] (hp e)) (F132_2 v1 q)) (hS : S132_2 v1 q) : AW l X 132 c132 d r h' 2 [some (.ref 650), some (.int v1)] [] (hp q) := by
  unfold F132_2 at hG
  unfold S132_2 at hS
  refine x_run (pc' := 5) (lo' := [some (.ref 650), some (.int v1)]) (st' := [.int 25, .int v1]) 2 rfl ?_
  refine x_ic 21 rfl rfl (fun (hc1 : 25 ≤ v1) => ?_) (fun (hc1 : ¬ 25 ≤ v1) => ?_)
  · rw [if_pos hc1] at hG
    replace hS := hS.1 hc1
    refine x_kill [1] ?_
    exact hG
  · rw [if_neg hc1] at hG
    replace hS := hS.2 hc1
    refine x_run (pc' := 9) (lo' := [some (.ref 650), some (.int v1)]) (st' := [.ref 650]) 1 rfl ?_
    refine x_gf (c := 594) (ne := 0) (v := .ref 665) rfl (by decide +kernel) rfl rfl ?_
    refine x_run (pc' := 14) (lo' := [some (.ref 650), some (.int v1)]) (st' := [.int 0, .int v1, .ref 665]) 2 rfl ?_
    obtain ⟨o2, hS⟩ := hS
    refine p_zs (n := 25) rfl rfl o2 (Or.inl rfl) ?_
    refine x_run (pc' := 2) (lo' := [some (.ref 650), some (.int (v1 + 1))]) (st' := []) 2 rfl ?_
    exact hG
def F132_23 (v1 : Int32) (q : aQ) : (Int32 × aQ) ⊕ (aQ) := (if 120 ≤ v1 then .inr q else .inl ((v1 + 1), (a_w q 668 (Int32.toNatClampNeg v1) 0)))
def S132_23 (v1 : Int32) (q : aQ) : Prop := ((120 ≤ v1) → True) ∧ (¬ (120 ≤ v1) → vp_in v1 120 ∧ (True))
set_option maxRecDepth 100000 in
set_option maxHeartbeats 4000000 in
theorem A132_23 {l : Launch} {X : aX} {d : Nat} {r : Option Value} {h' : aH} {v1 : Int32} {q : aQ} (hd : 1 ≤ d) (hN : h'.1 = nk0) (hG : gL (fun (s : Int32 × aQ) => AW l X 132 c132 d r h' 23 [some (.ref 650), some (.int s.1)] [] (hp s.2)) (fun (e : aQ) => AW l X 132 c132 d r h' 42 [none, none] [] (hp e)) (F132_23 v1 q)) (hS : S132_23 v1 q) : AW l X 132 c132 d r h' 23 [some (.ref 650), some (.int v1)] [] (hp q) := by
  unfold F132_23 at hG
  unfold S132_23 at hS
  refine x_run (pc' := 26) (lo' := [some (.ref 650), some (.int v1)]) (st' := [.int 120, .int v1]) 2 rfl ?_
  refine x_ic 42 rfl rfl (fun (hc4 : 120 ≤ v1) => ?_) (fun (hc4 : ¬ 120 ≤ v1) => ?_)
  · rw [if_pos hc4] at hG
    replace hS := hS.1 hc4
    refine x_kill [0, 1] ?_
    exact hG
  · rw [if_neg hc4] at hG
    replace hS := hS.2 hc4
    refine x_run (pc' := 30) (lo' := [some (.ref 650), some (.int v1)]) (st' := [.ref 650]) 1 rfl ?_
    refine x_gf (c := 597) (ne := 0) (v := .ref 668) rfl (by decide +kernel) rfl rfl ?_
    refine x_run (pc' := 35) (lo' := [some (.ref 650), some (.int v1)]) (st' := [.int 0, .int v1, .ref 668]) 2 rfl ?_
    obtain ⟨o5, hS⟩ := hS
    refine p_zs (n := 120) rfl rfl o5 (Or.inl rfl) ?_
    refine x_run (pc' := 23) (lo' := [some (.ref 650), some (.int (v1 + 1))]) (st' := []) 2 rfl ?_
    exact hG
def F132_42 (q : aQ) : aQ := q
def S132_42 (q : aQ) : Prop := True
set_option maxRecDepth 100000 in
set_option maxHeartbeats 4000000 in
theorem A132_42 {l : Launch} {X : aX} {d : Nat} {r : Option Value} {h' : aH} {q : aQ} (hd : 1 ≤ d) (hN : h'.1 = nk0) (hG : gV r h' (F132_42 q)) (hS : S132_42 q) : AW l X 132 c132 d r h' 42 [none, none] [] (hp q) := by
  unfold F132_42 at hG
  unfold S132_42 at hS
  obtain ⟨rfl, rfl⟩ := hG
  exact x_ret rfl (by decide +kernel)
def F132_21 (q : aQ) : aQ := (fun (e6 : aQ) => F132_42 e6) (a_lp (fun (s : Int32 × aQ) => F132_23 s.1 s.2) 200 (0, q) q)
def S132_21 (q : aQ) : Prop := a_sf (fun (s : Int32 × aQ) => F132_23 s.1 s.2) (fun (s : Int32 × aQ) => S132_23 s.1 s.2) 200 (0, q) ∧ (fun (e6 : aQ) => S132_42 e6) (a_lp (fun (s : Int32 × aQ) => F132_23 s.1 s.2) 200 (0, q) q)
set_option maxRecDepth 100000 in
set_option maxHeartbeats 4000000 in
theorem A132_21 {l : Launch} {X : aX} {d : Nat} {r : Option Value} {h' : aH} {q : aQ} (hd : 1 ≤ d) (hN : h'.1 = nk0) (hG : gV r h' (F132_21 q)) (hS : S132_21 q) : AW l X 132 c132 d r h' 21 [some (.ref 650), none] [] (hp q) := by
  unfold F132_21 at hG
  unfold S132_21 at hS
  refine x_run (pc' := 23) (lo' := [some (.ref 650), some (.int 0)]) (st' := []) 2 rfl ?_
  obtain ⟨ho, hS⟩ := hS
  refine x_loop (fun (s : Int32 × aQ) => F132_23 s.1 s.2) (fun (s : Int32 × aQ) => S132_23 s.1 s.2) (fun (s : Int32 × aQ) => AW l X 132 c132 d r h' 23 [some (.ref 650), some (.int s.1)] [] (hp s.2)) (fun (e : aQ) => AW l X 132 c132 d r h' 42 [none, none] [] (hp e)) (fun s hs hg => A132_23 hd hN hg hs) 200 (0, q) ho (fun e6 he => ?_)
  rw [a_lp_eq he] at hG hS
  try dsimp only at hG hS
  exact A132_42 hd hN hG hS
def F132_0 (q : aQ) : aQ := (fun (e3 : aQ) => F132_21 e3) (a_lp (fun (s : Int32 × aQ) => F132_2 s.1 s.2) 200 (0, q) q)
def S132_0 (q : aQ) : Prop := a_sf (fun (s : Int32 × aQ) => F132_2 s.1 s.2) (fun (s : Int32 × aQ) => S132_2 s.1 s.2) 200 (0, q) ∧ (fun (e3 : aQ) => S132_21 e3) (a_lp (fun (s : Int32 × aQ) => F132_2 s.1 s.2) 200 (0, q) q)
set_option maxRecDepth 100000 in
set_option maxHeartbeats 4000000 in
theorem A132_0 {l : Launch} {X : aX} {d : Nat} {r : Option Value} {h' : aH} {q : aQ} (hd : 1 ≤ d) (hN : h'.1 = nk0) (hG : gV r h' (F132_0 q)) (hS : S132_0 q) : AW l X 132 c132 d r h' 0 [some (.ref 650), none] [] (hp q) := by
  unfold F132_0 at hG
  unfold S132_0 at hS
  refine x_run (pc' := 2) (lo' := [some (.ref 650), some (.int 0)]) (st' := []) 2 rfl ?_
  obtain ⟨ho, hS⟩ := hS
  refine x_loop (fun (s : Int32 × aQ) => F132_2 s.1 s.2) (fun (s : Int32 × aQ) => S132_2 s.1 s.2) (fun (s : Int32 × aQ) => AW l X 132 c132 d r h' 2 [some (.ref 650), some (.int s.1)] [] (hp s.2)) (fun (e : aQ) => AW l X 132 c132 d r h' 21 [some (.ref 650), none] [] (hp e)) (fun s hs hg => A132_2 hd hN hg hs) 200 (0, q) ho (fun e3 he => ?_)
  rw [a_lp_eq he] at hG hS
  try dsimp only at hG hS
  exact A132_21 hd hN hG hS
theorem T132 {l : Launch} {X : aX} {d : Nat} {q : aQ} (hd : 1 ≤ d) (hS : S132_0 q) : Call l X d 132 [.ref 650] (hp q) none (hp (F132_0 q)) := Call.of ok132 (by decide) (Nat.le_of_ble_eq_true rfl) ⟨Nat.le_refl _, Nat.le_refl _⟩ (A132_0 hd rfl ⟨rfl, rfl⟩ hS)
/-- TypeForecastModel.mayBe(IZ)Z -/
def F167_50 (v2 : Int32) (v4 : Int32) (s0 : Int32) (q : aQ) : (Int32 × Int32 × aQ) ⊕ (Int32 × aQ) := .inl (s0, (v4 + 1), q)
def S167_50 (v2 : Int32) (v4 : Int32) (s0 : Int32) (q : aQ) : Prop := True
set_option maxRecDepth 100000 in
set_option maxHeartbeats 4000000 in
theorem A167_50 {l : Launch} {X : aX} {d : Nat} {r : Option Value} {h' : aH} {v2 : Int32} {v4 : Int32} {s0 : Int32} {q : aQ} (hd : 3 ≤ d) (hN : h'.1 = nk0) (hG : gL (fun (s : Int32 × Int32 × aQ) => AW l X 167 c167 d r h' 10 [some (.ref 650), none, some (.int v2), some (.int s.1), some (.int s.2.1)] [] (hp s.2.2)) (fun (e : Int32 × aQ) => AW l X 167 c167 d r h' 57 [none, none, none, some (.int e.1), none] [] (hp e.2)) (F167_50 v2 v4 s0 q)) (hS : S167_50 v2 v4 s0 q) : AW l X 167 c167 d r h' 50 [some (.ref 650), none, some (.int v2), none, some (.int v4)] [.int s0] (hp q) := by
  unfold F167_50 at hG
  unfold S167_50 at hS
  refine x_run (pc' := 10) (lo' := [some (.ref 650), none, some (.int v2), some (.int s0), some (.int (v4 + 1))]) (st' := []) 3 rfl ?_
  exact hG
def F167_45 (v2 : Int32) (v4 : Int32) (q : aQ) : (Int32 × Int32 × aQ) ⊕ (Int32 × aQ) := F167_50 v2 v4 1 q
def S167_45 (v2 : Int32) (v4 : Int32) (q : aQ) : Prop := S167_50 v2 v4 1 q
set_option maxRecDepth 100000 in
set_option maxHeartbeats 4000000 in
theorem A167_45 {l : Launch} {X : aX} {d : Nat} {r : Option Value} {h' : aH} {v2 : Int32} {v4 : Int32} {q : aQ} (hd : 3 ≤ d) (hN : h'.1 = nk0) (hG : gL (fun (s : Int32 × Int32 × aQ) => AW l X 167 c167 d r h' 10 [some (.ref 650), none, some (.int v2), some (.int s.1), some (.int s.2.1)] [] (hp s.2.2)) (fun (e : Int32 × aQ) => AW l X 167 c167 d r h' 57 [none, none, none, some (.int e.1), none] [] (hp e.2)) (F167_45 v2 v4 q)) (hS : S167_45 v2 v4 q) : AW l X 167 c167 d r h' 45 [some (.ref 650), none, some (.int v2), none, some (.int v4)] [] (hp q) := by
  unfold F167_45 at hG
  unfold S167_45 at hS
  refine x_run (pc' := 50) (lo' := [some (.ref 650), none, some (.int v2), none, some (.int v4)]) (st' := [.int 1]) 2 rfl ?_
  exact A167_50 hd hN hG hS
def F167_10 (v2 : Int32) (v3 : Int32) (v4 : Int32) (q : aQ) : (Int32 × Int32 × aQ) ⊕ (Int32 × aQ) := (if (q.1 650 29) ≤ v4 then .inr (v3, q) else (if v3 = 0 then (if (F151_0 (q.1 675 (Int32.toNatClampNeg v4)) (Int32.toInt64 (q.1 676 (Int32.toNatClampNeg v4))) q) = v2 then F167_45 v2 v4 q else F167_50 v2 v4 0 q) else F167_45 v2 v4 q))
def S167_10 (v2 : Int32) (v3 : Int32) (v4 : Int32) (q : aQ) : Prop := (((q.1 650 29) ≤ v4) → True) ∧ (¬ ((q.1 650 29) ≤ v4) → ((v3 = 0) → vp_in v4 60 ∧ (vp_in v4 60 ∧ (S151_0 (q.1 675 (Int32.toNatClampNeg v4)) (Int32.toInt64 (q.1 676 (Int32.toNatClampNeg v4))) q ∧ ((((F151_0 (q.1 675 (Int32.toNatClampNeg v4)) (Int32.toInt64 (q.1 676 (Int32.toNatClampNeg v4))) q) = v2) → S167_45 v2 v4 q) ∧ (¬ ((F151_0 (q.1 675 (Int32.toNatClampNeg v4)) (Int32.toInt64 (q.1 676 (Int32.toNatClampNeg v4))) q) = v2) → S167_50 v2 v4 0 q))))) ∧ (¬ (v3 = 0) → S167_45 v2 v4 q))
set_option maxRecDepth 100000 in
set_option maxHeartbeats 4000000 in
theorem A167_10 {l : Launch} {X : aX} {d : Nat} {r : Option Value} {h' : aH} {v2 : Int32} {v3 : Int32} {v4 : Int32} {q : aQ} (hd : 3 ≤ d) (hN : h'.1 = nk0) (hG : gL (fun (s : Int32 × Int32 × aQ) => AW l X 167 c167 d r h' 10 [some (.ref 650), none, some (.int v2), some (.int s.1), some (.int s.2.1)] [] (hp s.2.2)) (fun (e : Int32 × aQ) => AW l X 167 c167 d r h' 57 [none, none, none, some (.int e.1), none] [] (hp e.2)) (F167_10 v2 v3 v4 q)) (hS : S167_10 v2 v3 v4 q) : AW l X 167 c167 d r h' 10 [some (.ref 650), none, some (.int v2), some (.int v3), some (.int v4)] [] (hp q) := by
  unfold F167_10 at hG
  unfold S167_10 at hS
  refine x_run (pc' := 13) (lo' := [some (.ref 650), none, some (.int v2), some (.int v3), some (.int v4)]) (st' := [.ref 650, .int v4]) 2 rfl ?_
  refine x_gf (c := 605) (ne := 0) (v := .int (q.1 650 29)) rfl (by decide +kernel) rfl rfl ?_
  refine x_ic 57 rfl rfl (fun (hc2 : (q.1 650 29) ≤ v4) => ?_) (fun (hc2 : ¬ (q.1 650 29) ≤ v4) => ?_)
  · rw [if_pos hc2] at hG
    replace hS := hS.1 hc2
    refine x_kill [0, 2, 4] ?_
    exact hG
  · rw [if_neg hc2] at hG
    replace hS := hS.2 hc2
    refine x_run (pc' := 20) (lo' := [some (.ref 650), none, some (.int v2), some (.int v3), some (.int v4)]) (st' := [.int v3]) 1 rfl ?_
    refine x_if 45 rfl rfl (fun (hc3 : ¬ v3 = 0) => ?_) (fun (hc3 : v3 = 0) => ?_)
    · rw [if_neg hc3] at hG
      replace hS := hS.2 hc3
      refine x_kill [3] ?_
      exact A167_45 hd hN hG hS
    · rw [if_pos hc3] at hG
      replace hS := hS.1 hc3
      refine x_run (pc' := 24) (lo' := [some (.ref 650), none, some (.int v2), some (.int v3), some (.int v4)]) (st' := [.ref 650]) 1 rfl ?_
      refine x_gf (c := 606) (ne := 0) (v := .ref 675) rfl (by decide +kernel) rfl rfl ?_
      refine x_run (pc' := 29) (lo' := [some (.ref 650), none, some (.int v2), some (.int v3), some (.int v4)]) (st' := [.int v4, .ref 675]) 1 rfl ?_
      obtain ⟨o4, hS⟩ := hS
      refine p_ia (n := 60) (v := (q.1 675 (Int32.toNatClampNeg v4))) rfl rfl o4 rfl ?_
      refine x_run (pc' := 31) (lo' := [some (.ref 650), none, some (.int v2), some (.int v3), some (.int v4)]) (st' := [.ref 650, .int (q.1 675 (Int32.toNatClampNeg v4))]) 1 rfl ?_
      refine x_gf (c := 607) (ne := 0) (v := .ref 676) rfl (by decide +kernel) rfl rfl ?_
      refine x_run (pc' := 36) (lo' := [some (.ref 650), none, some (.int v2), some (.int v3), some (.int v4)]) (st' := [.int v4, .ref 676, .int (q.1 675 (Int32.toNatClampNeg v4))]) 1 rfl ?_
      obtain ⟨o5, hS⟩ := hS
      refine p_ia (n := 60) (v := (q.1 676 (Int32.toNatClampNeg v4))) rfl rfl o5 rfl ?_
      refine x_run (pc' := 38) (lo' := [some (.ref 650), none, some (.int v2), some (.int v3), some (.int v4)]) (st' := [.long (Int32.toInt64 (q.1 676 (Int32.toNatClampNeg v4))), .int (q.1 675 (Int32.toNatClampNeg v4))]) 1 rfl ?_
      obtain ⟨o6, hS⟩ := hS
      refine x_cs (j := 151) (ne := 0) (vs := [.int (q.1 675 (Int32.toNatClampNeg v4)), .long (Int32.toInt64 (q.1 676 (Int32.toNatClampNeg v4)))]) (rest := []) rfl (by decide +kernel) (by decide +kernel) (by decide) (Eq.trans rfl (show 2 = _ from by decide +kernel)) rfl (Nat.le_of_ble_eq_true rfl) (by omega) (T151 (Nat.le_refl 1) o6) (hp_m hN) ?_
      show AW l X 167 c167 d r h' 41 [some (.ref 650), none, some (.int v2), some (.int v3), some (.int v4)] [.int (F151_0 (q.1 675 (Int32.toNatClampNeg v4)) (Int32.toInt64 (q.1 676 (Int32.toNatClampNeg v4))) q)] (hp q)
      refine x_run (pc' := 42) (lo' := [some (.ref 650), none, some (.int v2), some (.int v3), some (.int v4)]) (st' := [.int v2, .int (F151_0 (q.1 675 (Int32.toNatClampNeg v4)) (Int32.toInt64 (q.1 676 (Int32.toNatClampNeg v4))) q)]) 1 rfl ?_
      refine x_ic 49 rfl rfl (fun (hc7 : ¬ (F151_0 (q.1 675 (Int32.toNatClampNeg v4)) (Int32.toInt64 (q.1 676 (Int32.toNatClampNeg v4))) q) = v2) => ?_) (fun (hc7 : (F151_0 (q.1 675 (Int32.toNatClampNeg v4)) (Int32.toInt64 (q.1 676 (Int32.toNatClampNeg v4))) q) = v2) => ?_)
      · rw [if_neg hc7] at hG
        replace hS := hS.2 hc7
        refine x_run (pc' := 50) (lo' := [some (.ref 650), none, some (.int v2), some (.int v3), some (.int v4)]) (st' := [.int 0]) 1 rfl ?_
        refine x_kill [3] ?_
        exact A167_50 hd hN hG hS
      · rw [if_pos hc7] at hG
        replace hS := hS.1 hc7
        refine x_kill [3] ?_
        exact A167_45 hd hN hG hS
def F167_57 (v3 : Int32) (q : aQ) : Int32 × aQ := (v3, q)
def S167_57 (v3 : Int32) (q : aQ) : Prop := (v3 = 0 ∨ v3 = 1) ∧ (True)
set_option maxRecDepth 100000 in
set_option maxHeartbeats 4000000 in
theorem A167_57 {l : Launch} {X : aX} {d : Nat} {r : Option Value} {h' : aH} {v3 : Int32} {q : aQ} (hd : 3 ≤ d) (hN : h'.1 = nk0) (hG : gI r h' (F167_57 v3 q)) (hS : S167_57 v3 q) : AW l X 167 c167 d r h' 57 [none, none, none, some (.int v3), none] [] (hp q) := by
  unfold F167_57 at hG
  unfold S167_57 at hS
  refine x_run (pc' := 58) (lo' := [none, none, none, some (.int v3), none]) (st' := [.int v3]) 1 rfl ?_
  obtain ⟨o9, hS⟩ := hS
  obtain ⟨rfl, rfl⟩ := hG
  exact x_zret rfl (by decide +kernel) o9
def F167_5 (v2 : Int32) (q : aQ) : Int32 × aQ := (fun (e8 : Int32 × aQ) => F167_57 e8.1 e8.2) (a_lp (fun (s : Int32 × Int32 × aQ) => F167_10 v2 s.1 s.2.1 s.2.2) 200 (0, 0, q) (0, q))
def S167_5 (v2 : Int32) (q : aQ) : Prop := a_sf (fun (s : Int32 × Int32 × aQ) => F167_10 v2 s.1 s.2.1 s.2.2) (fun (s : Int32 × Int32 × aQ) => S167_10 v2 s.1 s.2.1 s.2.2) 200 (0, 0, q) ∧ (fun (e8 : Int32 × aQ) => S167_57 e8.1 e8.2) (a_lp (fun (s : Int32 × Int32 × aQ) => F167_10 v2 s.1 s.2.1 s.2.2) 200 (0, 0, q) (0, q))
set_option maxRecDepth 100000 in
set_option maxHeartbeats 4000000 in
theorem A167_5 {l : Launch} {X : aX} {d : Nat} {r : Option Value} {h' : aH} {v2 : Int32} {q : aQ} (hd : 3 ≤ d) (hN : h'.1 = nk0) (hG : gI r h' (F167_5 v2 q)) (hS : S167_5 v2 q) : AW l X 167 c167 d r h' 5 [some (.ref 650), none, some (.int v2), none, none] [] (hp q) := by
  unfold F167_5 at hG
  unfold S167_5 at hS
  refine x_run (pc' := 10) (lo' := [some (.ref 650), none, some (.int v2), some (.int 0), some (.int 0)]) (st' := []) 4 rfl ?_
  obtain ⟨ho, hS⟩ := hS
  refine x_loop (fun (s : Int32 × Int32 × aQ) => F167_10 v2 s.1 s.2.1 s.2.2) (fun (s : Int32 × Int32 × aQ) => S167_10 v2 s.1 s.2.1 s.2.2) (fun (s : Int32 × Int32 × aQ) => AW l X 167 c167 d r h' 10 [some (.ref 650), none, some (.int v2), some (.int s.1), some (.int s.2.1)] [] (hp s.2.2)) (fun (e : Int32 × aQ) => AW l X 167 c167 d r h' 57 [none, none, none, some (.int e.1), none] [] (hp e.2)) (fun s hs hg => A167_10 hd hN hg hs) 200 (0, 0, q) ho (fun e8 he => ?_)
  rw [a_lp_eq he] at hG hS
  try dsimp only at hG hS
  exact A167_57 hd hN hG hS
def F167_0 (v1 : Int32) (v2 : Int32) (q : aQ) : Int32 × aQ := F167_5 v2 (F161_0 v1 q)
def S167_0 (v1 : Int32) (v2 : Int32) (q : aQ) : Prop := S161_0 v1 q ∧ (S167_5 v2 (F161_0 v1 q))
set_option maxRecDepth 100000 in
set_option maxHeartbeats 4000000 in
theorem A167_0 {l : Launch} {X : aX} {d : Nat} {r : Option Value} {h' : aH} {v1 : Int32} {v2 : Int32} {q : aQ} (hd : 3 ≤ d) (hN : h'.1 = nk0) (hG : gI r h' (F167_0 v1 v2 q)) (hS : S167_0 v1 v2 q) : AW l X 167 c167 d r h' 0 [some (.ref 650), some (.int v1), some (.int v2), none, none] [] (hp q) := by
  unfold F167_0 at hG
  unfold S167_0 at hS
  refine x_run (pc' := 2) (lo' := [some (.ref 650), some (.int v1), some (.int v2), none, none]) (st' := [.int v1, .ref 650]) 2 rfl ?_
  obtain ⟨o1, hS⟩ := hS
  refine x_cv (j := 161) (ne := 0) (vs := [.int v1]) (rest := []) rfl (by decide +kernel) (by decide +kernel) (by decide) (Eq.trans rfl (show 1 = _ from by decide +kernel)) rfl (by decide +kernel) rfl (Nat.le_of_ble_eq_true rfl) (by omega) (T161 (Nat.le_refl 2) o1) (hp_m hN) ?_
  show AW l X 167 c167 d r h' 5 [some (.ref 650), some (.int v1), some (.int v2), none, none] [] (hp (F161_0 v1 q))
  refine x_kill [1] ?_
  exact A167_5 hd hN hG hS
theorem T167 {l : Launch} {X : aX} {d : Nat} {v1 : Int32} {v2 : Int32} {q : aQ} (hd : 3 ≤ d) (hS : S167_0 v1 v2 q) : Call l X d 167 [.ref 650, .int v1, .int v2] (hp q) (some (.int (F167_0 v1 v2 q).1)) (hp (F167_0 v1 v2 q).2) := Call.of ok167 (by decide) (Nat.le_of_ble_eq_true rfl) ⟨Nat.le_refl _, Nat.le_refl _⟩ (A167_0 hd rfl ⟨rfl, rfl⟩ hS)
/-- TypeForecastModel.setHere(I)V -/
def F169_12 (v1 : Int32) (v2 : Int32) (q : aQ) : (Int32 × aQ) ⊕ (aQ) := (if 4 ≤ v2 then .inr q else .inl ((v2 + 1), (a_w q 670 (Int32.toNatClampNeg ((4 * v1) + v2)) (q.1 679 (Int32.toNatClampNeg v2)))))
def S169_12 (v1 : Int32) (v2 : Int32) (q : aQ) : Prop := ((4 ≤ v2) → True) ∧ (¬ (4 ≤ v2) → vp_in v2 4 ∧ (vp_in ((4 * v1) + v2) 20 ∧ (True)))
set_option maxRecDepth 100000 in
set_option maxHeartbeats 4000000 in
theorem A169_12 {l : Launch} {X : aX} {d : Nat} {r : Option Value} {h' : aH} {v1 : Int32} {v2 : Int32} {q : aQ} (hd : 1 ≤ d) (hN : h'.1 = nk0) (hG : gL (fun (s : Int32 × aQ) => AW l X 169 c169 d r h' 12 [some (.ref 650), some (.int v1), some (.int s.1)] [] (hp s.2)) (fun (e : aQ) => AW l X 169 c169 d r h' 39 [none, none, none] [] (hp e)) (F169_12 v1 v2 q)) (hS : S169_12 v1 v2 q) : AW l X 169 c169 d r h' 12 [some (.ref 650), some (.int v1), some (.int v2)] [] (hp q) := by
  unfold F169_12 at hG
  unfold S169_12 at hS
  refine x_run (pc' := 14) (lo' := [some (.ref 650), some (.int v1), some (.int v2)]) (st' := [.int 4, .int v2]) 2 rfl ?_
  refine x_ic 39 rfl rfl (fun (hc2 : 4 ≤ v2) => ?_) (fun (hc2 : ¬ 4 ≤ v2) => ?_)
  · rw [if_pos hc2] at hG
    replace hS := hS.1 hc2
    refine x_kill [0, 1, 2] ?_
    exact hG
  · rw [if_neg hc2] at hG
    replace hS := hS.2 hc2
    refine x_run (pc' := 18) (lo' := [some (.ref 650), some (.int v1), some (.int v2)]) (st' := [.ref 650]) 1 rfl ?_
    refine x_gf (c := 600) (ne := 0) (v := .ref 670) rfl (by decide +kernel) rfl rfl ?_
    refine x_run (pc' := 27) (lo' := [some (.ref 650), some (.int v1), some (.int v2)]) (st' := [.ref 650, .int ((4 * v1) + v2), .ref 670]) 6 rfl ?_
    refine x_gf (c := 612) (ne := 0) (v := .ref 679) rfl (by decide +kernel) rfl rfl ?_
    refine x_run (pc' := 31) (lo' := [some (.ref 650), some (.int v1), some (.int v2)]) (st' := [.int v2, .ref 679, .int ((4 * v1) + v2), .ref 670]) 1 rfl ?_
    obtain ⟨o3, hS⟩ := hS
    refine p_ia (n := 4) (v := (q.1 679 (Int32.toNatClampNeg v2))) rfl rfl o3 rfl ?_
    obtain ⟨o4, hS⟩ := hS
    refine p_is (n := 20) rfl rfl o4 ?_
    refine x_run (pc' := 12) (lo' := [some (.ref 650), some (.int v1), some (.int (v2 + 1))]) (st' := []) 2 rfl ?_
    exact hG
def F169_39 (q : aQ) : aQ := q
def S169_39 (q : aQ) : Prop := True
set_option maxRecDepth 100000 in
set_option maxHeartbeats 4000000 in
theorem A169_39 {l : Launch} {X : aX} {d : Nat} {r : Option Value} {h' : aH} {q : aQ} (hd : 1 ≤ d) (hN : h'.1 = nk0) (hG : gV r h' (F169_39 q)) (hS : S169_39 q) : AW l X 169 c169 d r h' 39 [none, none, none] [] (hp q) := by
  unfold F169_39 at hG
  unfold S169_39 at hS
  obtain ⟨rfl, rfl⟩ := hG
  exact x_ret rfl (by decide +kernel)
def F169_0 (v1 : Int32) (q : aQ) : aQ := (fun (e5 : aQ) => F169_39 e5) (a_lp (fun (s : Int32 × aQ) => F169_12 v1 s.1 s.2) 200 (0, (a_w q 669 (Int32.toNatClampNeg v1) (q.1 650 35))) (a_w q 669 (Int32.toNatClampNeg v1) (q.1 650 35)))
def S169_0 (v1 : Int32) (q : aQ) : Prop := vp_in v1 5 ∧ (a_sf (fun (s : Int32 × aQ) => F169_12 v1 s.1 s.2) (fun (s : Int32 × aQ) => S169_12 v1 s.1 s.2) 200 (0, (a_w q 669 (Int32.toNatClampNeg v1) (q.1 650 35))) ∧ (fun (e5 : aQ) => S169_39 e5) (a_lp (fun (s : Int32 × aQ) => F169_12 v1 s.1 s.2) 200 (0, (a_w q 669 (Int32.toNatClampNeg v1) (q.1 650 35))) (a_w q 669 (Int32.toNatClampNeg v1) (q.1 650 35))))
set_option maxRecDepth 100000 in
set_option maxHeartbeats 4000000 in
theorem A169_0 {l : Launch} {X : aX} {d : Nat} {r : Option Value} {h' : aH} {v1 : Int32} {q : aQ} (hd : 1 ≤ d) (hN : h'.1 = nk0) (hG : gV r h' (F169_0 v1 q)) (hS : S169_0 v1 q) : AW l X 169 c169 d r h' 0 [some (.ref 650), some (.int v1), none] [] (hp q) := by
  unfold F169_0 at hG
  unfold S169_0 at hS
  refine x_run (pc' := 1) (lo' := [some (.ref 650), some (.int v1), none]) (st' := [.ref 650]) 1 rfl ?_
  refine x_gf (c := 599) (ne := 0) (v := .ref 669) rfl (by decide +kernel) rfl rfl ?_
  refine x_run (pc' := 6) (lo' := [some (.ref 650), some (.int v1), none]) (st' := [.ref 650, .int v1, .ref 669]) 2 rfl ?_
  refine x_gf (c := 611) (ne := 0) (v := .int (q.1 650 35)) rfl (by decide +kernel) rfl rfl ?_
  obtain ⟨o1, hS⟩ := hS
  refine p_is (n := 5) rfl rfl o1 ?_
  refine x_run (pc' := 12) (lo' := [some (.ref 650), some (.int v1), some (.int 0)]) (st' := []) 2 rfl ?_
  obtain ⟨ho, hS⟩ := hS
  refine x_loop (fun (s : Int32 × aQ) => F169_12 v1 s.1 s.2) (fun (s : Int32 × aQ) => S169_12 v1 s.1 s.2) (fun (s : Int32 × aQ) => AW l X 169 c169 d r h' 12 [some (.ref 650), some (.int v1), some (.int s.1)] [] (hp s.2)) (fun (e : aQ) => AW l X 169 c169 d r h' 39 [none, none, none] [] (hp e)) (fun s hs hg => A169_12 hd hN hg hs) 200 (0, (a_w q 669 (Int32.toNatClampNeg v1) (q.1 650 35))) ho (fun e5 he => ?_)
  rw [a_lp_eq he] at hG hS
  try dsimp only at hG hS
  exact A169_39 hd hN hG hS
theorem T169 {l : Launch} {X : aX} {d : Nat} {v1 : Int32} {q : aQ} (hd : 1 ≤ d) (hS : S169_0 v1 q) : Call l X d 169 [.ref 650, .int v1] (hp q) none (hp (F169_0 v1 q)) := Call.of ok169 (by decide) (Nat.le_of_ble_eq_true rfl) ⟨Nat.le_refl _, Nat.le_refl _⟩ (A169_0 hd rfl ⟨rfl, rfl⟩ hS)
/-- TypeForecastModel.narrow(IZ)V -/
def F168_264 (v1 : Int32) (v2 : Int32) (v3 : Int32) (v4 : Int32) (v5 : Int32) (v6 : Int32) (v8 : Int32) (s0 : Int32) (q : aQ) : (Int32 × Int32 × aQ) ⊕ (Int32 × aQ) := .inl (s0, (v8 + 1), q)
def S168_264 (v1 : Int32) (v2 : Int32) (v3 : Int32) (v4 : Int32) (v5 : Int32) (v6 : Int32) (v8 : Int32) (s0 : Int32) (q : aQ) : Prop := True
set_option maxRecDepth 100000 in
set_option maxHeartbeats 4000000 in
theorem A168_264 {l : Launch} {X : aX} {d : Nat} {r : Option Value} {h' : aH} {v1 : Int32} {v2 : Int32} {v3 : Int32} {v4 : Int32} {v5 : Int32} {v6 : Int32} {v8 : Int32} {s0 : Int32} {q : aQ} (hd : 4 ≤ d) (hN : h'.1 = nk0) (hG : gL (fun (s : Int32 × Int32 × aQ) => AW l X 168 c168 d r h' 175 [some (.ref 650), some (.int v1), some (.int v2), some (.int v3), some (.int v4), some (.int v5), some (.int v6), some (.int s.1), some (.int s.2.1)] [] (hp s.2.2)) (fun (e : Int32 × aQ) => AW l X 168 c168 d r h' 272 [some (.ref 650), some (.int v1), some (.int v2), some (.int v3), some (.int v4), some (.int v5), some (.int v6), some (.int e.1), none] [] (hp e.2)) (F168_264 v1 v2 v3 v4 v5 v6 v8 s0 q)) (hS : S168_264 v1 v2 v3 v4 v5 v6 v8 s0 q) : AW l X 168 c168 d r h' 264 [some (.ref 650), some (.int v1), some (.int v2), some (.int v3), some (.int v4), some (.int v5), some (.int v6), none, some (.int v8)] [.int s0] (hp q) := by
  unfold F168_264 at hG
  unfold S168_264 at hS
  refine x_run (pc' := 175) (lo' := [some (.ref 650), some (.int v1), some (.int v2), some (.int v3), some (.int v4), some (.int v5), some (.int v6), some (.int s0), some (.int (v8 + 1))]) (st' := []) 3 rfl ?_
  exact hG
def F168_263 (v1 : Int32) (v2 : Int32) (v3 : Int32) (v4 : Int32) (v5 : Int32) (v6 : Int32) (v8 : Int32) (q : aQ) : (Int32 × Int32 × aQ) ⊕ (Int32 × aQ) := F168_264 v1 v2 v3 v4 v5 v6 v8 0 q
def S168_263 (v1 : Int32) (v2 : Int32) (v3 : Int32) (v4 : Int32) (v5 : Int32) (v6 : Int32) (v8 : Int32) (q : aQ) : Prop := S168_264 v1 v2 v3 v4 v5 v6 v8 0 q
set_option maxRecDepth 100000 in
set_option maxHeartbeats 4000000 in
theorem A168_263 {l : Launch} {X : aX} {d : Nat} {r : Option Value} {h' : aH} {v1 : Int32} {v2 : Int32} {v3 : Int32} {v4 : Int32} {v5 : Int32} {v6 : Int32} {v8 : Int32} {q : aQ} (hd : 4 ≤ d) (hN : h'.1 = nk0) (hG : gL (fun (s : Int32 × Int32 × aQ) => AW l X 168 c168 d r h' 175 [some (.ref 650), some (.int v1), some (.int v2), some (.int v3), some (.int v4), some (.int v5), some (.int v6), some (.int s.1), some (.int s.2.1)] [] (hp s.2.2)) (fun (e : Int32 × aQ) => AW l X 168 c168 d r h' 272 [some (.ref 650), some (.int v1), some (.int v2), some (.int v3), some (.int v4), some (.int v5), some (.int v6), some (.int e.1), none] [] (hp e.2)) (F168_263 v1 v2 v3 v4 v5 v6 v8 q)) (hS : S168_263 v1 v2 v3 v4 v5 v6 v8 q) : AW l X 168 c168 d r h' 263 [some (.ref 650), some (.int v1), some (.int v2), some (.int v3), some (.int v4), some (.int v5), some (.int v6), none, some (.int v8)] [] (hp q) := by
  unfold F168_263 at hG
  unfold S168_263 at hS
  refine x_run (pc' := 264) (lo' := [some (.ref 650), some (.int v1), some (.int v2), some (.int v3), some (.int v4), some (.int v5), some (.int v6), none, some (.int v8)]) (st' := [.int 0]) 1 rfl ?_
  exact A168_264 hd hN hG hS
def F168_237 (v1 : Int32) (v2 : Int32) (v3 : Int32) (v4 : Int32) (v5 : Int32) (v6 : Int32) (v8 : Int32) (q : aQ) : (Int32 × Int32 × aQ) ⊕ (Int32 × aQ) := (if (q.1 650 37) = 0 then F168_263 v1 v2 v3 v4 v5 v6 v8 q else (if (F151_0 (q.1 650 37) (q.2 650 38) q) = v2 then F168_264 v1 v2 v3 v4 v5 v6 v8 1 q else F168_263 v1 v2 v3 v4 v5 v6 v8 q))
def S168_237 (v1 : Int32) (v2 : Int32) (v3 : Int32) (v4 : Int32) (v5 : Int32) (v6 : Int32) (v8 : Int32) (q : aQ) : Prop := (((q.1 650 37) = 0) → S168_263 v1 v2 v3 v4 v5 v6 v8 q) ∧ (¬ ((q.1 650 37) = 0) → S151_0 (q.1 650 37) (q.2 650 38) q ∧ ((((F151_0 (q.1 650 37) (q.2 650 38) q) = v2) → S168_264 v1 v2 v3 v4 v5 v6 v8 1 q) ∧ (¬ ((F151_0 (q.1 650 37) (q.2 650 38) q) = v2) → S168_263 v1 v2 v3 v4 v5 v6 v8 q)))
set_option maxRecDepth 100000 in
set_option maxHeartbeats 4000000 in
theorem A168_237 {l : Launch} {X : aX} {d : Nat} {r : Option Value} {h' : aH} {v1 : Int32} {v2 : Int32} {v3 : Int32} {v4 : Int32} {v5 : Int32} {v6 : Int32} {v8 : Int32} {q : aQ} (hd : 4 ≤ d) (hN : h'.1 = nk0) (hG : gL (fun (s : Int32 × Int32 × aQ) => AW l X 168 c168 d r h' 175 [some (.ref 650), some (.int v1), some (.int v2), some (.int v3), some (.int v4), some (.int v5), some (.int v6), some (.int s.1), some (.int s.2.1)] [] (hp s.2.2)) (fun (e : Int32 × aQ) => AW l X 168 c168 d r h' 272 [some (.ref 650), some (.int v1), some (.int v2), some (.int v3), some (.int v4), some (.int v5), some (.int v6), some (.int e.1), none] [] (hp e.2)) (F168_237 v1 v2 v3 v4 v5 v6 v8 q)) (hS : S168_237 v1 v2 v3 v4 v5 v6 v8 q) : AW l X 168 c168 d r h' 237 [some (.ref 650), some (.int v1), some (.int v2), some (.int v3), some (.int v4), some (.int v5), some (.int v6), none, some (.int v8)] [] (hp q) := by
  unfold F168_237 at hG
  unfold S168_237 at hS
  refine x_run (pc' := 238) (lo' := [some (.ref 650), some (.int v1), some (.int v2), some (.int v3), some (.int v4), some (.int v5), some (.int v6), none, some (.int v8)]) (st' := [.ref 650]) 1 rfl ?_
  refine x_gf (c := 613) (ne := 0) (v := .int (q.1 650 37)) rfl (by decide +kernel) rfl rfl ?_
  refine x_if 263 rfl rfl (fun (hc27 : (q.1 650 37) = 0) => ?_) (fun (hc27 : ¬ (q.1 650 37) = 0) => ?_)
  · rw [if_pos hc27] at hG
    replace hS := hS.1 hc27
    exact A168_263 hd hN hG hS
  · rw [if_neg hc27] at hG
    replace hS := hS.2 hc27
    refine x_run (pc' := 245) (lo' := [some (.ref 650), some (.int v1), some (.int v2), some (.int v3), some (.int v4), some (.int v5), some (.int v6), none, some (.int v8)]) (st' := [.ref 650]) 1 rfl ?_
    refine x_gf (c := 613) (ne := 0) (v := .int (q.1 650 37)) rfl (by decide +kernel) rfl rfl ?_
    refine x_run (pc' := 249) (lo' := [some (.ref 650), some (.int v1), some (.int v2), some (.int v3), some (.int v4), some (.int v5), some (.int v6), none, some (.int v8)]) (st' := [.ref 650, .int (q.1 650 37)]) 1 rfl ?_
    refine x_gf (c := 614) (ne := 0) (v := .long (q.2 650 38)) rfl (by decide +kernel) rfl rfl ?_
    obtain ⟨o28, hS⟩ := hS
    refine x_cs (j := 151) (ne := 0) (vs := [.int (q.1 650 37), .long (q.2 650 38)]) (rest := []) rfl (by decide +kernel) (by decide +kernel) (by decide) (Eq.trans rfl (show 2 = _ from by decide +kernel)) rfl (Nat.le_of_ble_eq_true rfl) (by omega) (T151 (Nat.le_refl 1) o28) (hp_m hN) ?_
    show AW l X 168 c168 d r h' 255 [some (.ref 650), some (.int v1), some (.int v2), some (.int v3), some (.int v4), some (.int v5), some (.int v6), none, some (.int v8)] [.int (F151_0 (q.1 650 37) (q.2 650 38) q)] (hp q)
    refine x_run (pc' := 256) (lo' := [some (.ref 650), some (.int v1), some (.int v2), some (.int v3), some (.int v4), some (.int v5), some (.int v6), none, some (.int v8)]) (st' := [.int v2, .int (F151_0 (q.1 650 37) (q.2 650 38) q)]) 1 rfl ?_
    refine x_ic 263 rfl rfl (fun (hc29 : ¬ (F151_0 (q.1 650 37) (q.2 650 38) q) = v2) => ?_) (fun (hc29 : (F151_0 (q.1 650 37) (q.2 650 38) q) = v2) => ?_)
    · rw [if_neg hc29] at hG
      replace hS := hS.2 hc29
      exact A168_263 hd hN hG hS
    · rw [if_pos hc29] at hG
      replace hS := hS.1 hc29
      refine x_run (pc' := 264) (lo' := [some (.ref 650), some (.int v1), some (.int v2), some (.int v3), some (.int v4), some (.int v5), some (.int v6), none, some (.int v8)]) (st' := [.int 1]) 2 rfl ?_
      exact A168_264 hd hN hG hS
def F168_175 (v1 : Int32) (v2 : Int32) (v3 : Int32) (v4 : Int32) (v5 : Int32) (v6 : Int32) (v7 : Int32) (v8 : Int32) (q : aQ) : (Int32 × Int32 × aQ) ⊕ (Int32 × aQ) := (if (q.1 650 32) ≤ v8 then .inr (v7, q) else (if v4 = 0 then .inr (v7, q) else (if v7 = 0 then F168_237 v1 v2 v3 v4 v5 v6 v8 (F154_0 ((q.1 651 (Int32.toNatClampNeg v1)) - 10) (q.1 675 (Int32.toNatClampNeg v6)) (Int32.toInt64 (q.1 676 (Int32.toNatClampNeg v6))) (q.1 677 (Int32.toNatClampNeg v8)) (Int32.toInt64 (q.1 678 (Int32.toNatClampNeg v8))) q) else .inr (v7, q))))
def S168_175 (v1 : Int32) (v2 : Int32) (v3 : Int32) (v4 : Int32) (v5 : Int32) (v6 : Int32) (v7 : Int32) (v8 : Int32) (q : aQ) : Prop := (((q.1 650 32) ≤ v8) → True) ∧ (¬ ((q.1 650 32) ≤ v8) → ((v4 = 0) → True) ∧ (¬ (v4 = 0) → ((v7 = 0) → vp_in v1 60 ∧ (vp_in v6 60 ∧ (vp_in v6 60 ∧ (vp_in v8 60 ∧ (vp_in v8 60 ∧ (S154_0 ((q.1 651 (Int32.toNatClampNeg v1)) - 10) (q.1 675 (Int32.toNatClampNeg v6)) (Int32.toInt64 (q.1 676 (Int32.toNatClampNeg v6))) (q.1 677 (Int32.toNatClampNeg v8)) (Int32.toInt64 (q.1 678 (Int32.toNatClampNeg v8))) q ∧ (S168_237 v1 v2 v3 v4 v5 v6 v8 (F154_0 ((q.1 651 (Int32.toNatClampNeg v1)) - 10) (q.1 675 (Int32.toNatClampNeg v6)) (Int32.toInt64 (q.1 676 (Int32.toNatClampNeg v6))) (q.1 677 (Int32.toNatClampNeg v8)) (Int32.toInt64 (q.1 678 (Int32.toNatClampNeg v8))) q)))))))) ∧ (¬ (v7 = 0) → True)))
set_option maxRecDepth 100000 in
set_option maxHeartbeats 4000000 in
theorem A168_175 {l : Launch} {X : aX} {d : Nat} {r : Option Value} {h' : aH} {v1 : Int32} {v2 : Int32} {v3 : Int32} {v4 : Int32} {v5 : Int32} {v6 : Int32} {v7 : Int32} {v8 : Int32} {q : aQ} (hd : 4 ≤ d) (hN : h'.1 = nk0) (hG : gL (fun (s : Int32 × Int32 × aQ) => AW l X 168 c168 d r h' 175 [some (.ref 650), some (.int v1), some (.int v2), some (.int v3), some (.int v4), some (.int v5), some (.int v6), some (.int s.1), some (.int s.2.1)] [] (hp s.2.2)) (fun (e : Int32 × aQ) => AW l X 168 c168 d r h' 272 [some (.ref 650), some (.int v1), some (.int v2), some (.int v3), some (.int v4), some (.int v5), some (.int v6), some (.int e.1), none] [] (hp e.2)) (F168_175 v1 v2 v3 v4 v5 v6 v7 v8 q)) (hS : S168_175 v1 v2 v3 v4 v5 v6 v7 v8 q) : AW l X 168 c168 d r h' 175 [some (.ref 650), some (.int v1), some (.int v2), some (.int v3), some (.int v4), some (.int v5), some (.int v6), some (.int v7), some (.int v8)] [] (hp q) := by
  unfold F168_175 at hG
  unfold S168_175 at hS
  refine x_run (pc' := 178) (lo' := [some (.ref 650), some (.int v1), some (.int v2), some (.int v3), some (.int v4), some (.int v5), some (.int v6), some (.int v7), some (.int v8)]) (st' := [.ref 650, .int v8]) 2 rfl ?_
  refine x_gf (c := 608) (ne := 0) (v := .int (q.1 650 32)) rfl (by decide +kernel) rfl rfl ?_
  refine x_ic 272 rfl rfl (fun (hc18 : (q.1 650 32) ≤ v8) => ?_) (fun (hc18 : ¬ (q.1 650 32) ≤ v8) => ?_)
  · rw [if_pos hc18] at hG
    replace hS := hS.1 hc18
    refine x_kill [8] ?_
    exact hG
  · rw [if_neg hc18] at hG
    replace hS := hS.2 hc18
    refine x_run (pc' := 186) (lo' := [some (.ref 650), some (.int v1), some (.int v2), some (.int v3), some (.int v4), some (.int v5), some (.int v6), some (.int v7), some (.int v8)]) (st' := [.int v4]) 1 rfl ?_
    refine x_if 272 rfl rfl (fun (hc19 : v4 = 0) => ?_) (fun (hc19 : ¬ v4 = 0) => ?_)
    · rw [if_pos hc19] at hG
      replace hS := hS.1 hc19
      refine x_kill [8] ?_
      exact hG
    · rw [if_neg hc19] at hG
      replace hS := hS.2 hc19
      refine x_run (pc' := 191) (lo' := [some (.ref 650), some (.int v1), some (.int v2), some (.int v3), some (.int v4), some (.int v5), some (.int v6), some (.int v7), some (.int v8)]) (st' := [.int v7]) 1 rfl ?_
      refine x_if 272 rfl rfl (fun (hc20 : ¬ v7 = 0) => ?_) (fun (hc20 : v7 = 0) => ?_)
      · rw [if_neg hc20] at hG
        replace hS := hS.2 hc20
        refine x_kill [8] ?_
        exact hG
      · rw [if_pos hc20] at hG
        replace hS := hS.1 hc20
        refine x_run (pc' := 196) (lo' := [some (.ref 650), some (.int v1), some (.int v2), some (.int v3), some (.int v4), some (.int v5), some (.int v6), some (.int v7), some (.int v8)]) (st' := [.ref 650, .ref 650]) 2 rfl ?_
        refine x_gf (c := 577) (ne := 0) (v := .ref 651) rfl (by decide +kernel) rfl rfl ?_
        refine x_run (pc' := 200) (lo' := [some (.ref 650), some (.int v1), some (.int v2), some (.int v3), some (.int v4), some (.int v5), some (.int v6), some (.int v7), some (.int v8)]) (st' := [.int v1, .ref 651, .ref 650]) 1 rfl ?_
        obtain ⟨o21, hS⟩ := hS
        refine p_ia (n := 60) (v := (q.1 651 (Int32.toNatClampNeg v1))) rfl rfl o21 rfl ?_
        refine x_run (pc' := 205) (lo' := [some (.ref 650), some (.int v1), some (.int v2), some (.int v3), some (.int v4), some (.int v5), some (.int v6), some (.int v7), some (.int v8)]) (st' := [.ref 650, .int ((q.1 651 (Int32.toNatClampNeg v1)) - 10), .ref 650]) 3 rfl ?_
        refine x_gf (c := 606) (ne := 0) (v := .ref 675) rfl (by decide +kernel) rfl rfl ?_
        refine x_run (pc' := 210) (lo' := [some (.ref 650), some (.int v1), some (.int v2), some (.int v3), some (.int v4), some (.int v5), some (.int v6), some (.int v7), some (.int v8)]) (st' := [.int v6, .ref 675, .int ((q.1 651 (Int32.toNatClampNeg v1)) - 10), .ref 650]) 1 rfl ?_
        obtain ⟨o22, hS⟩ := hS
        refine p_ia (n := 60) (v := (q.1 675 (Int32.toNatClampNeg v6))) rfl rfl o22 rfl ?_
        refine x_run (pc' := 212) (lo' := [some (.ref 650), some (.int v1), some (.int v2), some (.int v3), some (.int v4), some (.int v5), some (.int v6), some (.int v7), some (.int v8)]) (st' := [.ref 650, .int (q.1 675 (Int32.toNatClampNeg v6)), .int ((q.1 651 (Int32.toNatClampNeg v1)) - 10), .ref 650]) 1 rfl ?_
        refine x_gf (c := 607) (ne := 0) (v := .ref 676) rfl (by decide +kernel) rfl rfl ?_
        refine x_run (pc' := 217) (lo' := [some (.ref 650), some (.int v1), some (.int v2), some (.int v3), some (.int v4), some (.int v5), some (.int v6), some (.int v7), some (.int v8)]) (st' := [.int v6, .ref 676, .int (q.1 675 (Int32.toNatClampNeg v6)), .int ((q.1 651 (Int32.toNatClampNeg v1)) - 10), .ref 650]) 1 rfl ?_
        obtain ⟨o23, hS⟩ := hS
        refine p_ia (n := 60) (v := (q.1 676 (Int32.toNatClampNeg v6))) rfl rfl o23 rfl ?_
        refine x_run (pc' := 220) (lo' := [some (.ref 650), some (.int v1), some (.int v2), some (.int v3), some (.int v4), some (.int v5), some (.int v6), some (.int v7), some (.int v8)]) (st' := [.ref 650, .long (Int32.toInt64 (q.1 676 (Int32.toNatClampNeg v6))), .int (q.1 675 (Int32.toNatClampNeg v6)), .int ((q.1 651 (Int32.toNatClampNeg v1)) - 10), .ref 650]) 2 rfl ?_
        refine x_gf (c := 609) (ne := 0) (v := .ref 677) rfl (by decide +kernel) rfl rfl ?_
        refine x_run (pc' := 225) (lo' := [some (.ref 650), some (.int v1), some (.int v2), some (.int v3), some (.int v4), some (.int v5), some (.int v6), some (.int v7), some (.int v8)]) (st' := [.int v8, .ref 677, .long (Int32.toInt64 (q.1 676 (Int32.toNatClampNeg v6))), .int (q.1 675 (Int32.toNatClampNeg v6)), .int ((q.1 651 (Int32.toNatClampNeg v1)) - 10), .ref 650]) 1 rfl ?_
        obtain ⟨o24, hS⟩ := hS
        refine p_ia (n := 60) (v := (q.1 677 (Int32.toNatClampNeg v8))) rfl rfl o24 rfl ?_
        refine x_run (pc' := 227) (lo' := [some (.ref 650), some (.int v1), some (.int v2), some (.int v3), some (.int v4), some (.int v5), some (.int v6), some (.int v7), some (.int v8)]) (st' := [.ref 650, .int (q.1 677 (Int32.toNatClampNeg v8)), .long (Int32.toInt64 (q.1 676 (Int32.toNatClampNeg v6))), .int (q.1 675 (Int32.toNatClampNeg v6)), .int ((q.1 651 (Int32.toNatClampNeg v1)) - 10), .ref 650]) 1 rfl ?_
        refine x_gf (c := 610) (ne := 0) (v := .ref 678) rfl (by decide +kernel) rfl rfl ?_
        refine x_run (pc' := 232) (lo' := [some (.ref 650), some (.int v1), some (.int v2), some (.int v3), some (.int v4), some (.int v5), some (.int v6), some (.int v7), some (.int v8)]) (st' := [.int v8, .ref 678, .int (q.1 677 (Int32.toNatClampNeg v8)), .long (Int32.toInt64 (q.1 676 (Int32.toNatClampNeg v6))), .int (q.1 675 (Int32.toNatClampNeg v6)), .int ((q.1 651 (Int32.toNatClampNeg v1)) - 10), .ref 650]) 1 rfl ?_
        obtain ⟨o25, hS⟩ := hS
        refine p_ia (n := 60) (v := (q.1 678 (Int32.toNatClampNeg v8))) rfl rfl o25 rfl ?_
        refine x_run (pc' := 234) (lo' := [some (.ref 650), some (.int v1), some (.int v2), some (.int v3), some (.int v4), some (.int v5), some (.int v6), some (.int v7), some (.int v8)]) (st' := [.long (Int32.toInt64 (q.1 678 (Int32.toNatClampNeg v8))), .int (q.1 677 (Int32.toNatClampNeg v8)), .long (Int32.toInt64 (q.1 676 (Int32.toNatClampNeg v6))), .int (q.1 675 (Int32.toNatClampNeg v6)), .int ((q.1 651 (Int32.toNatClampNeg v1)) - 10), .ref 650]) 1 rfl ?_
        obtain ⟨o26, hS⟩ := hS
        refine x_cv (j := 154) (ne := 0) (vs := [.int ((q.1 651 (Int32.toNatClampNeg v1)) - 10), .int (q.1 675 (Int32.toNatClampNeg v6)), .long (Int32.toInt64 (q.1 676 (Int32.toNatClampNeg v6))), .int (q.1 677 (Int32.toNatClampNeg v8)), .long (Int32.toInt64 (q.1 678 (Int32.toNatClampNeg v8)))]) (rest := []) rfl (by decide +kernel) (by decide +kernel) (by decide) (Eq.trans rfl (show 5 = _ from by decide +kernel)) rfl (by decide +kernel) rfl (Nat.le_of_ble_eq_true rfl) (by omega) (T154 (Nat.le_refl 2) o26) (hp_m hN) ?_
        show AW l X 168 c168 d r h' 237 [some (.ref 650), some (.int v1), some (.int v2), some (.int v3), some (.int v4), some (.int v5), some (.int v6), some (.int v7), some (.int v8)] [] (hp (F154_0 ((q.1 651 (Int32.toNatClampNeg v1)) - 10) (q.1 675 (Int32.toNatClampNeg v6)) (Int32.toInt64 (q.1 676 (Int32.toNatClampNeg v6))) (q.1 677 (Int32.toNatClampNeg v8)) (Int32.toInt64 (q.1 678 (Int32.toNatClampNeg v8))) q))
        refine x_kill [7] ?_
        exact A168_237 hd hN hG hS
def F168_296 (v1 : Int32) (v2 : Int32) (v3 : Int32) (v4 : Int32) (v5 : Int32) (v6 : Int32) (q : aQ) : (Int32 × aQ) ⊕ (aQ) := .inl ((v6 + 1), q)
def S168_296 (v1 : Int32) (v2 : Int32) (v3 : Int32) (v4 : Int32) (v5 : Int32) (v6 : Int32) (q : aQ) : Prop := True
set_option maxRecDepth 100000 in
set_option maxHeartbeats 4000000 in
theorem A168_296 {l : Launch} {X : aX} {d : Nat} {r : Option Value} {h' : aH} {v1 : Int32} {v2 : Int32} {v3 : Int32} {v4 : Int32} {v5 : Int32} {v6 : Int32} {q : aQ} (hd : 4 ≤ d) (hN : h'.1 = nk0) (hG : gL (fun (s : Int32 × aQ) => AW l X 168 c168 d r h' 130 [some (.ref 650), some (.int v1), some (.int v2), some (.int v3), some (.int v4), some (.int v5), some (.int s.1), none, none] [] (hp s.2)) (fun (e : aQ) => AW l X 168 c168 d r h' 302 [some (.ref 650), none, none, none, none, some (.int v5), none, none, none] [] (hp e)) (F168_296 v1 v2 v3 v4 v5 v6 q)) (hS : S168_296 v1 v2 v3 v4 v5 v6 q) : AW l X 168 c168 d r h' 296 [some (.ref 650), some (.int v1), some (.int v2), some (.int v3), some (.int v4), some (.int v5), some (.int v6), none, none] [] (hp q) := by
  unfold F168_296 at hG
  unfold S168_296 at hS
  refine x_run (pc' := 130) (lo' := [some (.ref 650), some (.int v1), some (.int v2), some (.int v3), some (.int v4), some (.int v5), some (.int (v6 + 1)), none, none]) (st' := []) 2 rfl ?_
  exact hG
def F168_272 (v1 : Int32) (v2 : Int32) (v3 : Int32) (v4 : Int32) (v5 : Int32) (v6 : Int32) (v7 : Int32) (q : aQ) : (Int32 × aQ) ⊕ (aQ) := (if v7 = 0 then F168_296 v1 v2 v3 v4 v5 v6 q else F168_296 v1 v2 v3 v4 v5 v6 (F158_0 (q.1 675 (Int32.toNatClampNeg v6)) (Int32.toInt64 (q.1 676 (Int32.toNatClampNeg v6))) q))
def S168_272 (v1 : Int32) (v2 : Int32) (v3 : Int32) (v4 : Int32) (v5 : Int32) (v6 : Int32) (v7 : Int32) (q : aQ) : Prop := ((v7 = 0) → S168_296 v1 v2 v3 v4 v5 v6 q) ∧ (¬ (v7 = 0) → vp_in v6 60 ∧ (vp_in v6 60 ∧ (S158_0 (q.1 675 (Int32.toNatClampNeg v6)) (Int32.toInt64 (q.1 676 (Int32.toNatClampNeg v6))) q ∧ (S168_296 v1 v2 v3 v4 v5 v6 (F158_0 (q.1 675 (Int32.toNatClampNeg v6)) (Int32.toInt64 (q.1 676 (Int32.toNatClampNeg v6))) q)))))
set_option maxRecDepth 100000 in
set_option maxHeartbeats 4000000 in
theorem A168_272 {l : Launch} {X : aX} {d : Nat} {r : Option Value} {h' : aH} {v1 : Int32} {v2 : Int32} {v3 : Int32} {v4 : Int32} {v5 : Int32} {v6 : Int32} {v7 : Int32} {q : aQ} (hd : 4 ≤ d) (hN : h'.1 = nk0) (hG : gL (fun (s : Int32 × aQ) => AW l X 168 c168 d r h' 130 [some (.ref 650), some (.int v1), some (.int v2), some (.int v3), some (.int v4), some (.int v5), some (.int s.1), none, none] [] (hp s.2)) (fun (e : aQ) => AW l X 168 c168 d r h' 302 [some (.ref 650), none, none, none, none, some (.int v5), none, none, none] [] (hp e)) (F168_272 v1 v2 v3 v4 v5 v6 v7 q)) (hS : S168_272 v1 v2 v3 v4 v5 v6 v7 q) : AW l X 168 c168 d r h' 272 [some (.ref 650), some (.int v1), some (.int v2), some (.int v3), some (.int v4), some (.int v5), some (.int v6), some (.int v7), none] [] (hp q) := by
  unfold F168_272 at hG
  unfold S168_272 at hS
  refine x_run (pc' := 274) (lo' := [some (.ref 650), some (.int v1), some (.int v2), some (.int v3), some (.int v4), some (.int v5), some (.int v6), some (.int v7), none]) (st' := [.int v7]) 1 rfl ?_
  refine x_if 296 rfl rfl (fun (hc31 : v7 = 0) => ?_) (fun (hc31 : ¬ v7 = 0) => ?_)
  · rw [if_pos hc31] at hG
    replace hS := hS.1 hc31
    refine x_kill [7] ?_
    exact A168_296 hd hN hG hS
  · rw [if_neg hc31] at hG
    replace hS := hS.2 hc31
    refine x_run (pc' := 279) (lo' := [some (.ref 650), some (.int v1), some (.int v2), some (.int v3), some (.int v4), some (.int v5), some (.int v6), some (.int v7), none]) (st' := [.ref 650, .ref 650]) 2 rfl ?_
    refine x_gf (c := 606) (ne := 0) (v := .ref 675) rfl (by decide +kernel) rfl rfl ?_
    refine x_run (pc' := 284) (lo' := [some (.ref 650), some (.int v1), some (.int v2), some (.int v3), some (.int v4), some (.int v5), some (.int v6), some (.int v7), none]) (st' := [.int v6, .ref 675, .ref 650]) 1 rfl ?_
    obtain ⟨o32, hS⟩ := hS
    refine p_ia (n := 60) (v := (q.1 675 (Int32.toNatClampNeg v6))) rfl rfl o32 rfl ?_
    refine x_run (pc' := 286) (lo' := [some (.ref 650), some (.int v1), some (.int v2), some (.int v3), some (.int v4), some (.int v5), some (.int v6), some (.int v7), none]) (st' := [.ref 650, .int (q.1 675 (Int32.toNatClampNeg v6)), .ref 650]) 1 rfl ?_
    refine x_gf (c := 607) (ne := 0) (v := .ref 676) rfl (by decide +kernel) rfl rfl ?_
    refine x_run (pc' := 291) (lo' := [some (.ref 650), some (.int v1), some (.int v2), some (.int v3), some (.int v4), some (.int v5), some (.int v6), some (.int v7), none]) (st' := [.int v6, .ref 676, .int (q.1 675 (Int32.toNatClampNeg v6)), .ref 650]) 1 rfl ?_
    obtain ⟨o33, hS⟩ := hS
    refine p_ia (n := 60) (v := (q.1 676 (Int32.toNatClampNeg v6))) rfl rfl o33 rfl ?_
    refine x_run (pc' := 293) (lo' := [some (.ref 650), some (.int v1), some (.int v2), some (.int v3), some (.int v4), some (.int v5), some (.int v6), some (.int v7), none]) (st' := [.long (Int32.toInt64 (q.1 676 (Int32.toNatClampNeg v6))), .int (q.1 675 (Int32.toNatClampNeg v6)), .ref 650]) 1 rfl ?_
    obtain ⟨o34, hS⟩ := hS
    refine x_cv (j := 158) (ne := 0) (vs := [.int (q.1 675 (Int32.toNatClampNeg v6)), .long (Int32.toInt64 (q.1 676 (Int32.toNatClampNeg v6)))]) (rest := []) rfl (by decide +kernel) (by decide +kernel) (by decide) (Eq.trans rfl (show 2 = _ from by decide +kernel)) rfl (by decide +kernel) rfl (Nat.le_of_ble_eq_true rfl) (by omega) (T158 (Nat.le_refl 2) o34) (hp_m hN) ?_
    show AW l X 168 c168 d r h' 296 [some (.ref 650), some (.int v1), some (.int v2), some (.int v3), some (.int v4), some (.int v5), some (.int v6), some (.int v7), none] [] (hp (F158_0 (q.1 675 (Int32.toNatClampNeg v6)) (Int32.toInt64 (q.1 676 (Int32.toNatClampNeg v6))) q))
    refine x_kill [7] ?_
    exact A168_296 hd hN hG hS
def F168_170 (v1 : Int32) (v2 : Int32) (v3 : Int32) (v4 : Int32) (v5 : Int32) (v6 : Int32) (s0 : Int32) (q : aQ) : (Int32 × aQ) ⊕ (aQ) := (fun (e30 : Int32 × aQ) => F168_272 v1 v2 v3 v4 v5 v6 e30.1 e30.2) (a_lp (fun (s : Int32 × Int32 × aQ) => F168_175 v1 v2 v3 v4 v5 v6 s.1 s.2.1 s.2.2) 200 (s0, 0, q) (s0, q))
def S168_170 (v1 : Int32) (v2 : Int32) (v3 : Int32) (v4 : Int32) (v5 : Int32) (v6 : Int32) (s0 : Int32) (q : aQ) : Prop := a_sf (fun (s : Int32 × Int32 × aQ) => F168_175 v1 v2 v3 v4 v5 v6 s.1 s.2.1 s.2.2) (fun (s : Int32 × Int32 × aQ) => S168_175 v1 v2 v3 v4 v5 v6 s.1 s.2.1 s.2.2) 200 (s0, 0, q) ∧ (fun (e30 : Int32 × aQ) => S168_272 v1 v2 v3 v4 v5 v6 e30.1 e30.2) (a_lp (fun (s : Int32 × Int32 × aQ) => F168_175 v1 v2 v3 v4 v5 v6 s.1 s.2.1 s.2.2) 200 (s0, 0, q) (s0, q))
set_option maxRecDepth 100000 in
set_option maxHeartbeats 4000000 in
theorem A168_170 {l : Launch} {X : aX} {d : Nat} {r : Option Value} {h' : aH} {v1 : Int32} {v2 : Int32} {v3 : Int32} {v4 : Int32} {v5 : Int32} {v6 : Int32} {s0 : Int32} {q : aQ} (hd : 4 ≤ d) (hN : h'.1 = nk0) (hG : gL (fun (s : Int32 × aQ) => AW l X 168 c168 d r h' 130 [some (.ref 650), some (.int v1), some (.int v2), some (.int v3), some (.int v4), some (.int v5), some (.int s.1), none, none] [] (hp s.2)) (fun (e : aQ) => AW l X 168 c168 d r h' 302 [some (.ref 650), none, none, none, none, some (.int v5), none, none, none] [] (hp e)) (F168_170 v1 v2 v3 v4 v5 v6 s0 q)) (hS : S168_170 v1 v2 v3 v4 v5 v6 s0 q) : AW l X 168 c168 d r h' 170 [some (.ref 650), some (.int v1), some (.int v2), some (.int v3), some (.int v4), some (.int v5), some (.int v6), none, none] [.int s0] (hp q) := by
  unfold F168_170 at hG
  unfold S168_170 at hS
  refine x_run (pc' := 175) (lo' := [some (.ref 650), some (.int v1), some (.int v2), some (.int v3), some (.int v4), some (.int v5), some (.int v6), some (.int s0), some (.int 0)]) (st' := []) 3 rfl ?_
  obtain ⟨ho, hS⟩ := hS
  refine x_loop (fun (s : Int32 × Int32 × aQ) => F168_175 v1 v2 v3 v4 v5 v6 s.1 s.2.1 s.2.2) (fun (s : Int32 × Int32 × aQ) => S168_175 v1 v2 v3 v4 v5 v6 s.1 s.2.1 s.2.2) (fun (s : Int32 × Int32 × aQ) => AW l X 168 c168 d r h' 175 [some (.ref 650), some (.int v1), some (.int v2), some (.int v3), some (.int v4), some (.int v5), some (.int v6), some (.int s.1), some (.int s.2.1)] [] (hp s.2.2)) (fun (e : Int32 × aQ) => AW l X 168 c168 d r h' 272 [some (.ref 650), some (.int v1), some (.int v2), some (.int v3), some (.int v4), some (.int v5), some (.int v6), some (.int e.1), none] [] (hp e.2)) (fun s hs hg => A168_175 hd hN hg hs) 200 (s0, 0, q) ho (fun e30 he => ?_)
  rw [a_lp_eq he] at hG hS
  try dsimp only at hG hS
  exact A168_272 hd hN hG hS
def F168_169 (v1 : Int32) (v2 : Int32) (v3 : Int32) (v4 : Int32) (v5 : Int32) (v6 : Int32) (q : aQ) : (Int32 × aQ) ⊕ (aQ) := F168_170 v1 v2 v3 v4 v5 v6 0 q
def S168_169 (v1 : Int32) (v2 : Int32) (v3 : Int32) (v4 : Int32) (v5 : Int32) (v6 : Int32) (q : aQ) : Prop := S168_170 v1 v2 v3 v4 v5 v6 0 q
set_option maxRecDepth 100000 in
set_option maxHeartbeats 4000000 in
theorem A168_169 {l : Launch} {X : aX} {d : Nat} {r : Option Value} {h' : aH} {v1 : Int32} {v2 : Int32} {v3 : Int32} {v4 : Int32} {v5 : Int32} {v6 : Int32} {q : aQ} (hd : 4 ≤ d) (hN : h'.1 = nk0) (hG : gL (fun (s : Int32 × aQ) => AW l X 168 c168 d r h' 130 [some (.ref 650), some (.int v1), some (.int v2), some (.int v3), some (.int v4), some (.int v5), some (.int s.1), none, none] [] (hp s.2)) (fun (e : aQ) => AW l X 168 c168 d r h' 302 [some (.ref 650), none, none, none, none, some (.int v5), none, none, none] [] (hp e)) (F168_169 v1 v2 v3 v4 v5 v6 q)) (hS : S168_169 v1 v2 v3 v4 v5 v6 q) : AW l X 168 c168 d r h' 169 [some (.ref 650), some (.int v1), some (.int v2), some (.int v3), some (.int v4), some (.int v5), some (.int v6), none, none] [] (hp q) := by
  unfold F168_169 at hG
  unfold S168_169 at hS
  refine x_run (pc' := 170) (lo' := [some (.ref 650), some (.int v1), some (.int v2), some (.int v3), some (.int v4), some (.int v5), some (.int v6), none, none]) (st' := [.int 0]) 1 rfl ?_
  exact A168_170 hd hN hG hS
def F168_130 (v1 : Int32) (v2 : Int32) (v3 : Int32) (v4 : Int32) (v5 : Int32) (v6 : Int32) (q : aQ) : (Int32 × aQ) ⊕ (aQ) := (if (q.1 650 29) ≤ v6 then .inr q else (if v3 = 0 then F168_169 v1 v2 v3 v4 v5 v6 q else (if (F151_0 (q.1 675 (Int32.toNatClampNeg v6)) (Int32.toInt64 (q.1 676 (Int32.toNatClampNeg v6))) q) = v2 then F168_170 v1 v2 v3 v4 v5 v6 1 q else F168_169 v1 v2 v3 v4 v5 v6 q)))
def S168_130 (v1 : Int32) (v2 : Int32) (v3 : Int32) (v4 : Int32) (v5 : Int32) (v6 : Int32) (q : aQ) : Prop := (((q.1 650 29) ≤ v6) → True) ∧ (¬ ((q.1 650 29) ≤ v6) → ((v3 = 0) → S168_169 v1 v2 v3 v4 v5 v6 q) ∧ (¬ (v3 = 0) → vp_in v6 60 ∧ (vp_in v6 60 ∧ (S151_0 (q.1 675 (Int32.toNatClampNeg v6)) (Int32.toInt64 (q.1 676 (Int32.toNatClampNeg v6))) q ∧ ((((F151_0 (q.1 675 (Int32.toNatClampNeg v6)) (Int32.toInt64 (q.1 676 (Int32.toNatClampNeg v6))) q) = v2) → S168_170 v1 v2 v3 v4 v5 v6 1 q) ∧ (¬ ((F151_0 (q.1 675 (Int32.toNatClampNeg v6)) (Int32.toInt64 (q.1 676 (Int32.toNatClampNeg v6))) q) = v2) → S168_169 v1 v2 v3 v4 v5 v6 q))))))
set_option maxRecDepth 100000 in
set_option maxHeartbeats 4000000 in
theorem A168_130 {l : Launch} {X : aX} {d : Nat} {r : Option Value} {h' : aH} {v1 : Int32} {v2 : Int32} {v3 : Int32} {v4 : Int32} {v5 : Int32} {v6 : Int32} {q : aQ} (hd : 4 ≤ d) (hN : h'.1 = nk0) (hG : gL (fun (s : Int32 × aQ) => AW l X 168 c168 d r h' 130 [some (.ref 650), some (.int v1), some (.int v2), some (.int v3), some (.int v4), some (.int v5), some (.int s.1), none, none] [] (hp s.2)) (fun (e : aQ) => AW l X 168 c168 d r h' 302 [some (.ref 650), none, none, none, none, some (.int v5), none, none, none] [] (hp e)) (F168_130 v1 v2 v3 v4 v5 v6 q)) (hS : S168_130 v1 v2 v3 v4 v5 v6 q) : AW l X 168 c168 d r h' 130 [some (.ref 650), some (.int v1), some (.int v2), some (.int v3), some (.int v4), some (.int v5), some (.int v6), none, none] [] (hp q) := by
  unfold F168_130 at hG
  unfold S168_130 at hS
  refine x_run (pc' := 133) (lo' := [some (.ref 650), some (.int v1), some (.int v2), some (.int v3), some (.int v4), some (.int v5), some (.int v6), none, none]) (st' := [.ref 650, .int v6]) 2 rfl ?_
  refine x_gf (c := 605) (ne := 0) (v := .int (q.1 650 29)) rfl (by decide +kernel) rfl rfl ?_
  refine x_ic 302 rfl rfl (fun (hc16 : (q.1 650 29) ≤ v6) => ?_) (fun (hc16 : ¬ (q.1 650 29) ≤ v6) => ?_)
  · rw [if_pos hc16] at hG
    replace hS := hS.1 hc16
    refine x_kill [1, 2, 3, 4, 6] ?_
    exact hG
  · rw [if_neg hc16] at hG
    replace hS := hS.2 hc16
    refine x_run (pc' := 140) (lo' := [some (.ref 650), some (.int v1), some (.int v2), some (.int v3), some (.int v4), some (.int v5), some (.int v6), none, none]) (st' := [.int v3]) 1 rfl ?_
    refine x_if 169 rfl rfl (fun (hc17 : v3 = 0) => ?_) (fun (hc17 : ¬ v3 = 0) => ?_)
    · rw [if_pos hc17] at hG
      replace hS := hS.1 hc17
      exact A168_169 hd hN hG hS
    · rw [if_neg hc17] at hG
      replace hS := hS.2 hc17
      refine x_run (pc' := 144) (lo' := [some (.ref 650), some (.int v1), some (.int v2), some (.int v3), some (.int v4), some (.int v5), some (.int v6), none, none]) (st' := [.ref 650]) 1 rfl ?_
      refine x_gf (c := 606) (ne := 0) (v := .ref 675) rfl (by decide +kernel) rfl rfl ?_
      refine x_run (pc' := 149) (lo' := [some (.ref 650), some (.int v1), some (.int v2), some (.int v3), some (.int v4), some (.int v5), some (.int v6), none, none]) (st' := [.int v6, .ref 675]) 1 rfl ?_
      obtain ⟨o35, hS⟩ := hS
      refine p_ia (n := 60) (v := (q.1 675 (Int32.toNatClampNeg v6))) rfl rfl o35 rfl ?_
      refine x_run (pc' := 151) (lo' := [some (.ref 650), some (.int v1), some (.int v2), some (.int v3), some (.int v4), some (.int v5), some (.int v6), none, none]) (st' := [.ref 650, .int (q.1 675 (Int32.toNatClampNeg v6))]) 1 rfl ?_
      refine x_gf (c := 607) (ne := 0) (v := .ref 676) rfl (by decide +kernel) rfl rfl ?_
      refine x_run (pc' := 156) (lo' := [some (.ref 650), some (.int v1), some (.int v2), some (.int v3), some (.int v4), some (.int v5), some (.int v6), none, none]) (st' := [.int v6, .ref 676, .int (q.1 675 (Int32.toNatClampNeg v6))]) 1 rfl ?_
      obtain ⟨o36, hS⟩ := hS
      refine p_ia (n := 60) (v := (q.1 676 (Int32.toNatClampNeg v6))) rfl rfl o36 rfl ?_
      refine x_run (pc' := 158) (lo' := [some (.ref 650), some (.int v1), some (.int v2), some (.int v3), some (.int v4), some (.int v5), some (.int v6), none, none]) (st' := [.long (Int32.toInt64 (q.1 676 (Int32.toNatClampNeg v6))), .int (q.1 675 (Int32.toNatClampNeg v6))]) 1 rfl ?_
      obtain ⟨o37, hS⟩ := hS
      refine x_cs (j := 151) (ne := 0) (vs := [.int (q.1 675 (Int32.toNatClampNeg v6)), .long (Int32.toInt64 (q.1 676 (Int32.toNatClampNeg v6)))]) (rest := []) rfl (by decide +kernel) (by decide +kernel) (by decide) (Eq.trans rfl (show 2 = _ from by decide +kernel)) rfl (Nat.le_of_ble_eq_true rfl) (by omega) (T151 (Nat.le_refl 1) o37) (hp_m hN) ?_
      show AW l X 168 c168 d r h' 161 [some (.ref 650), some (.int v1), some (.int v2), some (.int v3), some (.int v4), some (.int v5), some (.int v6), none, none] [.int (F151_0 (q.1 675 (Int32.toNatClampNeg v6)) (Int32.toInt64 (q.1 676 (Int32.toNatClampNeg v6))) q)] (hp q)
      refine x_run (pc' := 162) (lo' := [some (.ref 650), some (.int v1), some (.int v2), some (.int v3), some (.int v4), some (.int v5), some (.int v6), none, none]) (st' := [.int v2, .int (F151_0 (q.1 675 (Int32.toNatClampNeg v6)) (Int32.toInt64 (q.1 676 (Int32.toNatClampNeg v6))) q)]) 1 rfl ?_
      refine x_ic 169 rfl rfl (fun (hc38 : ¬ (F151_0 (q.1 675 (Int32.toNatClampNeg v6)) (Int32.toInt64 (q.1 676 (Int32.toNatClampNeg v6))) q) = v2) => ?_) (fun (hc38 : (F151_0 (q.1 675 (Int32.toNatClampNeg v6)) (Int32.toInt64 (q.1 676 (Int32.toNatClampNeg v6))) q) = v2) => ?_)
      · rw [if_neg hc38] at hG
        replace hS := hS.2 hc38
        exact A168_169 hd hN hG hS
      · rw [if_pos hc38] at hG
        replace hS := hS.1 hc38
        refine x_run (pc' := 170) (lo' := [some (.ref 650), some (.int v1), some (.int v2), some (.int v3), some (.int v4), some (.int v5), some (.int v6), none, none]) (st' := [.int 1]) 2 rfl ?_
        exact A168_170 hd hN hG hS
def F168_302 (v5 : Int32) (q : aQ) : aQ := (F169_0 v5 q)
def S168_302 (v5 : Int32) (q : aQ) : Prop := S169_0 v5 q ∧ (True)
set_option maxRecDepth 100000 in
set_option maxHeartbeats 4000000 in
theorem A168_302 {l : Launch} {X : aX} {d : Nat} {r : Option Value} {h' : aH} {v5 : Int32} {q : aQ} (hd : 4 ≤ d) (hN : h'.1 = nk0) (hG : gV r h' (F168_302 v5 q)) (hS : S168_302 v5 q) : AW l X 168 c168 d r h' 302 [some (.ref 650), none, none, none, none, some (.int v5), none, none, none] [] (hp q) := by
  unfold F168_302 at hG
  unfold S168_302 at hS
  refine x_run (pc' := 305) (lo' := [some (.ref 650), none, none, none, none, some (.int v5), none, none, none]) (st' := [.int v5, .ref 650]) 2 rfl ?_
  obtain ⟨o40, hS⟩ := hS
  refine x_cv (j := 169) (ne := 0) (vs := [.int v5]) (rest := []) rfl (by decide +kernel) (by decide +kernel) (by decide) (Eq.trans rfl (show 1 = _ from by decide +kernel)) rfl (by decide +kernel) rfl (Nat.le_of_ble_eq_true rfl) (by omega) (T169 (Nat.le_refl 1) o40) (hp_m hN) ?_
  show AW l X 168 c168 d r h' 308 [some (.ref 650), none, none, none, none, some (.int v5), none, none, none] [] (hp (F169_0 v5 q))
  obtain ⟨rfl, rfl⟩ := hG
  exact x_ret rfl (by decide +kernel)
def F168_127 (v1 : Int32) (v2 : Int32) (v3 : Int32) (v4 : Int32) (v5 : Int32) (q : aQ) : aQ := (fun (e39 : aQ) => F168_302 v5 e39) (a_lp (fun (s : Int32 × aQ) => F168_130 v1 v2 v3 v4 v5 s.1 s.2) 200 (0, q) q)
def S168_127 (v1 : Int32) (v2 : Int32) (v3 : Int32) (v4 : Int32) (v5 : Int32) (q : aQ) : Prop := a_sf (fun (s : Int32 × aQ) => F168_130 v1 v2 v3 v4 v5 s.1 s.2) (fun (s : Int32 × aQ) => S168_130 v1 v2 v3 v4 v5 s.1 s.2) 200 (0, q) ∧ (fun (e39 : aQ) => S168_302 v5 e39) (a_lp (fun (s : Int32 × aQ) => F168_130 v1 v2 v3 v4 v5 s.1 s.2) 200 (0, q) q)
set_option maxRecDepth 100000 in
set_option maxHeartbeats 4000000 in
theorem A168_127 {l : Launch} {X : aX} {d : Nat} {r : Option Value} {h' : aH} {v1 : Int32} {v2 : Int32} {v3 : Int32} {v4 : Int32} {v5 : Int32} {q : aQ} (hd : 4 ≤ d) (hN : h'.1 = nk0) (hG : gV r h' (F168_127 v1 v2 v3 v4 v5 q)) (hS : S168_127 v1 v2 v3 v4 v5 q) : AW l X 168 c168 d r h' 127 [some (.ref 650), some (.int v1), some (.int v2), some (.int v3), some (.int v4), some (.int v5), none, none, none] [] (hp q) := by
  unfold F168_127 at hG
  unfold S168_127 at hS
  refine x_run (pc' := 130) (lo' := [some (.ref 650), some (.int v1), some (.int v2), some (.int v3), some (.int v4), some (.int v5), some (.int 0), none, none]) (st' := []) 2 rfl ?_
  obtain ⟨ho, hS⟩ := hS
  refine x_loop (fun (s : Int32 × aQ) => F168_130 v1 v2 v3 v4 v5 s.1 s.2) (fun (s : Int32 × aQ) => S168_130 v1 v2 v3 v4 v5 s.1 s.2) (fun (s : Int32 × aQ) => AW l X 168 c168 d r h' 130 [some (.ref 650), some (.int v1), some (.int v2), some (.int v3), some (.int v4), some (.int v5), some (.int s.1), none, none] [] (hp s.2)) (fun (e : aQ) => AW l X 168 c168 d r h' 302 [some (.ref 650), none, none, none, none, some (.int v5), none, none, none] [] (hp e)) (fun s hs hg => A168_130 hd hN hg hs) 200 (0, q) ho (fun e39 he => ?_)
  rw [a_lp_eq he] at hG hS
  try dsimp only at hG hS
  exact A168_302 hd hN hG hS
def F168_123 (v1 : Int32) (v2 : Int32) (v3 : Int32) (v4 : Int32) (v5 : Int32) (q : aQ) : aQ := F168_127 v1 v2 v3 v4 v5 (F157_0 q)
def S168_123 (v1 : Int32) (v2 : Int32) (v3 : Int32) (v4 : Int32) (v5 : Int32) (q : aQ) : Prop := S157_0 q ∧ (S168_127 v1 v2 v3 v4 v5 (F157_0 q))
set_option maxRecDepth 100000 in
set_option maxHeartbeats 4000000 in
theorem A168_123 {l : Launch} {X : aX} {d : Nat} {r : Option Value} {h' : aH} {v1 : Int32} {v2 : Int32} {v3 : Int32} {v4 : Int32} {v5 : Int32} {q : aQ} (hd : 4 ≤ d) (hN : h'.1 = nk0) (hG : gV r h' (F168_123 v1 v2 v3 v4 v5 q)) (hS : S168_123 v1 v2 v3 v4 v5 q) : AW l X 168 c168 d r h' 123 [some (.ref 650), some (.int v1), some (.int v2), some (.int v3), some (.int v4), some (.int v5), none, none, none] [] (hp q) := by
  unfold F168_123 at hG
  unfold S168_123 at hS
  refine x_run (pc' := 124) (lo' := [some (.ref 650), some (.int v1), some (.int v2), some (.int v3), some (.int v4), some (.int v5), none, none, none]) (st' := [.ref 650]) 1 rfl ?_
  obtain ⟨o15, hS⟩ := hS
  refine x_cv (j := 157) (ne := 0) (vs := []) (rest := []) rfl (by decide +kernel) (by decide +kernel) (by decide) (Eq.trans rfl (show 0 = _ from by decide +kernel)) rfl (by decide +kernel) rfl (Nat.le_of_ble_eq_true rfl) (by omega) (T157 (Nat.le_refl 1) o15) (hp_m hN) ?_
  show AW l X 168 c168 d r h' 127 [some (.ref 650), some (.int v1), some (.int v2), some (.int v3), some (.int v4), some (.int v5), none, none, none] [] (hp (F157_0 q))
  exact A168_127 hd hN hG hS
def F168_115 (v1 : Int32) (v2 : Int32) (v3 : Int32) (v4 : Int32) (v5 : Int32) (q : aQ) : aQ := F168_123 v1 v2 v3 v4 v5 (F161_0 ((-1) - v5) q)
def S168_115 (v1 : Int32) (v2 : Int32) (v3 : Int32) (v4 : Int32) (v5 : Int32) (q : aQ) : Prop := S161_0 ((-1) - v5) q ∧ (S168_123 v1 v2 v3 v4 v5 (F161_0 ((-1) - v5) q))
set_option maxRecDepth 100000 in
set_option maxHeartbeats 4000000 in
theorem A168_115 {l : Launch} {X : aX} {d : Nat} {r : Option Value} {h' : aH} {v1 : Int32} {v2 : Int32} {v3 : Int32} {v4 : Int32} {v5 : Int32} {q : aQ} (hd : 4 ≤ d) (hN : h'.1 = nk0) (hG : gV r h' (F168_115 v1 v2 v3 v4 v5 q)) (hS : S168_115 v1 v2 v3 v4 v5 q) : AW l X 168 c168 d r h' 115 [some (.ref 650), some (.int v1), some (.int v2), some (.int v3), some (.int v4), some (.int v5), none, none, none] [] (hp q) := by
  unfold F168_115 at hG
  unfold S168_115 at hS
  refine x_run (pc' := 120) (lo' := [some (.ref 650), some (.int v1), some (.int v2), some (.int v3), some (.int v4), some (.int v5), none, none, none]) (st' := [.int ((-1) - v5), .ref 650]) 4 rfl ?_
  obtain ⟨o14, hS⟩ := hS
  refine x_cv (j := 161) (ne := 0) (vs := [.int ((-1) - v5)]) (rest := []) rfl (by decide +kernel) (by decide +kernel) (by decide) (Eq.trans rfl (show 1 = _ from by decide +kernel)) rfl (by decide +kernel) rfl (Nat.le_of_ble_eq_true rfl) (by omega) (T161 (Nat.le_refl 2) o14) (hp_m hN) ?_
  show AW l X 168 c168 d r h' 123 [some (.ref 650), some (.int v1), some (.int v2), some (.int v3), some (.int v4), some (.int v5), none, none, none] [] (hp (F161_0 ((-1) - v5) q))
  exact A168_123 hd hN hG hS
def F168_112 (v1 : Int32) (v2 : Int32) (v3 : Int32) (v4 : Int32) (v5 : Int32) (s0 : Int32) (q : aQ) : aQ := F168_115 v1 v2 v3 v4 v5 (F162_0 s0 q)
def S168_112 (v1 : Int32) (v2 : Int32) (v3 : Int32) (v4 : Int32) (v5 : Int32) (s0 : Int32) (q : aQ) : Prop := S162_0 s0 q ∧ (S168_115 v1 v2 v3 v4 v5 (F162_0 s0 q))
set_option maxRecDepth 100000 in
set_option maxHeartbeats 4000000 in
theorem A168_112 {l : Launch} {X : aX} {d : Nat} {r : Option Value} {h' : aH} {v1 : Int32} {v2 : Int32} {v3 : Int32} {v4 : Int32} {v5 : Int32} {s0 : Int32} {q : aQ} (hd : 4 ≤ d) (hN : h'.1 = nk0) (hG : gV r h' (F168_112 v1 v2 v3 v4 v5 s0 q)) (hS : S168_112 v1 v2 v3 v4 v5 s0 q) : AW l X 168 c168 d r h' 112 [some (.ref 650), some (.int v1), some (.int v2), some (.int v3), some (.int v4), some (.int v5), none, none, none] [.int s0, .ref 650] (hp q) := by
  unfold F168_112 at hG
  unfold S168_112 at hS
  obtain ⟨o13, hS⟩ := hS
  refine x_cv (j := 162) (ne := 0) (vs := [.int s0]) (rest := []) rfl (by decide +kernel) (by decide +kernel) (by decide) (Eq.trans rfl (show 1 = _ from by decide +kernel)) rfl (by decide +kernel) rfl (Nat.le_of_ble_eq_true rfl) (by omega) (T162 (Nat.le_refl 3) o13) (hp_m hN) ?_
  show AW l X 168 c168 d r h' 115 [some (.ref 650), some (.int v1), some (.int v2), some (.int v3), some (.int v4), some (.int v5), none, none, none] [] (hp (F162_0 s0 q))
  exact A168_115 hd hN hG hS
def F168_94 (v1 : Int32) (v2 : Int32) (v3 : Int32) (v4 : Int32) (s0 : Int32) (q : aQ) : aQ := (if v4 = 0 then F168_112 v1 v2 v3 v4 s0 v1 q else F168_112 v1 v2 v3 v4 s0 (q.1 653 (Int32.toNatClampNeg v1)) q)
def S168_94 (v1 : Int32) (v2 : Int32) (v3 : Int32) (v4 : Int32) (s0 : Int32) (q : aQ) : Prop := ((v4 = 0) → S168_112 v1 v2 v3 v4 s0 v1 q) ∧ (¬ (v4 = 0) → vp_in v1 60 ∧ (S168_112 v1 v2 v3 v4 s0 (q.1 653 (Int32.toNatClampNeg v1)) q))
set_option maxRecDepth 100000 in
set_option maxHeartbeats 4000000 in
theorem A168_94 {l : Launch} {X : aX} {d : Nat} {r : Option Value} {h' : aH} {v1 : Int32} {v2 : Int32} {v3 : Int32} {v4 : Int32} {s0 : Int32} {q : aQ} (hd : 4 ≤ d) (hN : h'.1 = nk0) (hG : gV r h' (F168_94 v1 v2 v3 v4 s0 q)) (hS : S168_94 v1 v2 v3 v4 s0 q) : AW l X 168 c168 d r h' 94 [some (.ref 650), some (.int v1), some (.int v2), some (.int v3), some (.int v4), none, none, none, none] [.int s0] (hp q) := by
  unfold F168_94 at hG
  unfold S168_94 at hS
  refine x_run (pc' := 99) (lo' := [some (.ref 650), some (.int v1), some (.int v2), some (.int v3), some (.int v4), some (.int s0), none, none, none]) (st' := [.int v4, .ref 650]) 3 rfl ?_
  refine x_if 111 rfl rfl (fun (hc12 : v4 = 0) => ?_) (fun (hc12 : ¬ v4 = 0) => ?_)
  · rw [if_pos hc12] at hG
    replace hS := hS.1 hc12
    refine x_run (pc' := 112) (lo' := [some (.ref 650), some (.int v1), some (.int v2), some (.int v3), some (.int v4), some (.int s0), none, none, none]) (st' := [.int v1, .ref 650]) 1 rfl ?_
    exact A168_112 hd hN hG hS
  · rw [if_neg hc12] at hG
    replace hS := hS.2 hc12
    refine x_run (pc' := 103) (lo' := [some (.ref 650), some (.int v1), some (.int v2), some (.int v3), some (.int v4), some (.int s0), none, none, none]) (st' := [.ref 650, .ref 650]) 1 rfl ?_
    refine x_gf (c := 579) (ne := 0) (v := .ref 653) rfl (by decide +kernel) rfl rfl ?_
    refine x_run (pc' := 107) (lo' := [some (.ref 650), some (.int v1), some (.int v2), some (.int v3), some (.int v4), some (.int s0), none, none, none]) (st' := [.int v1, .ref 653, .ref 650]) 1 rfl ?_
    obtain ⟨o41, hS⟩ := hS
    refine p_ia (n := 60) (v := (q.1 653 (Int32.toNatClampNeg v1))) rfl rfl o41 rfl ?_
    refine x_run (pc' := 112) (lo' := [some (.ref 650), some (.int v1), some (.int v2), some (.int v3), some (.int v4), some (.int s0), none, none, none]) (st' := [.int (q.1 653 (Int32.toNatClampNeg v1)), .ref 650]) 1 rfl ?_
    exact A168_112 hd hN hG hS
def F168_70 (v1 : Int32) (v2 : Int32) (v3 : Int32) (v4 : Int32) (q : aQ) : aQ := (if v3 = 0 then F168_94 v1 v2 v3 v4 (q.1 652 (Int32.toNatClampNeg (q.1 652 (Int32.toNatClampNeg v1)))) q else F168_94 v1 v2 v3 v4 (q.1 652 (Int32.toNatClampNeg v1)) q)
def S168_70 (v1 : Int32) (v2 : Int32) (v3 : Int32) (v4 : Int32) (q : aQ) : Prop := ((v3 = 0) → vp_in v1 60 ∧ (vp_in (q.1 652 (Int32.toNatClampNeg v1)) 60 ∧ (S168_94 v1 v2 v3 v4 (q.1 652 (Int32.toNatClampNeg (q.1 652 (Int32.toNatClampNeg v1)))) q))) ∧ (¬ (v3 = 0) → vp_in v1 60 ∧ (S168_94 v1 v2 v3 v4 (q.1 652 (Int32.toNatClampNeg v1)) q))
set_option maxRecDepth 100000 in
set_option maxHeartbeats 4000000 in
theorem A168_70 {l : Launch} {X : aX} {d : Nat} {r : Option Value} {h' : aH} {v1 : Int32} {v2 : Int32} {v3 : Int32} {v4 : Int32} {q : aQ} (hd : 4 ≤ d) (hN : h'.1 = nk0) (hG : gV r h' (F168_70 v1 v2 v3 v4 q)) (hS : S168_70 v1 v2 v3 v4 q) : AW l X 168 c168 d r h' 70 [some (.ref 650), some (.int v1), some (.int v2), some (.int v3), some (.int v4), none, none, none, none] [] (hp q) := by
  unfold F168_70 at hG
  unfold S168_70 at hS
  refine x_run (pc' := 71) (lo' := [some (.ref 650), some (.int v1), some (.int v2), some (.int v3), some (.int v4), none, none, none, none]) (st' := [.int v3]) 1 rfl ?_
  refine x_if 83 rfl rfl (fun (hc9 : v3 = 0) => ?_) (fun (hc9 : ¬ v3 = 0) => ?_)
  · rw [if_pos hc9] at hG
    replace hS := hS.1 hc9
    refine x_run (pc' := 84) (lo' := [some (.ref 650), some (.int v1), some (.int v2), some (.int v3), some (.int v4), none, none, none, none]) (st' := [.ref 650]) 1 rfl ?_
    refine x_gf (c := 578) (ne := 0) (v := .ref 652) rfl (by decide +kernel) rfl rfl ?_
    refine x_run (pc' := 88) (lo' := [some (.ref 650), some (.int v1), some (.int v2), some (.int v3), some (.int v4), none, none, none, none]) (st' := [.ref 650, .ref 652]) 1 rfl ?_
    refine x_gf (c := 578) (ne := 0) (v := .ref 652) rfl (by decide +kernel) rfl rfl ?_
    refine x_run (pc' := 92) (lo' := [some (.ref 650), some (.int v1), some (.int v2), some (.int v3), some (.int v4), none, none, none, none]) (st' := [.int v1, .ref 652, .ref 652]) 1 rfl ?_
    obtain ⟨o10, hS⟩ := hS
    refine p_ia (n := 60) (v := (q.1 652 (Int32.toNatClampNeg v1))) rfl rfl o10 rfl ?_
    obtain ⟨o11, hS⟩ := hS
    refine p_ia (n := 60) (v := (q.1 652 (Int32.toNatClampNeg (q.1 652 (Int32.toNatClampNeg v1))))) rfl rfl o11 rfl ?_
    exact A168_94 hd hN hG hS
  · rw [if_neg hc9] at hG
    replace hS := hS.2 hc9
    refine x_run (pc' := 75) (lo' := [some (.ref 650), some (.int v1), some (.int v2), some (.int v3), some (.int v4), none, none, none, none]) (st' := [.ref 650]) 1 rfl ?_
    refine x_gf (c := 578) (ne := 0) (v := .ref 652) rfl (by decide +kernel) rfl rfl ?_
    refine x_run (pc' := 79) (lo' := [some (.ref 650), some (.int v1), some (.int v2), some (.int v3), some (.int v4), none, none, none, none]) (st' := [.int v1, .ref 652]) 1 rfl ?_
    obtain ⟨o42, hS⟩ := hS
    refine p_ia (n := 60) (v := (q.1 652 (Int32.toNatClampNeg v1))) rfl rfl o42 rfl ?_
    refine x_run (pc' := 94) (lo' := [some (.ref 650), some (.int v1), some (.int v2), some (.int v3), some (.int v4), none, none, none, none]) (st' := [.int (q.1 652 (Int32.toNatClampNeg v1))]) 1 rfl ?_
    exact A168_94 hd hN hG hS
def F168_58 (v1 : Int32) (v2 : Int32) (v3 : Int32) (s0 : Int32) (q : aQ) : aQ := (if v3 = 0 then (if s0 = 0 then q else F168_70 v1 v2 v3 s0 q) else F168_70 v1 v2 v3 s0 q)
def S168_58 (v1 : Int32) (v2 : Int32) (v3 : Int32) (s0 : Int32) (q : aQ) : Prop := ((v3 = 0) → ((s0 = 0) → True) ∧ (¬ (s0 = 0) → S168_70 v1 v2 v3 s0 q)) ∧ (¬ (v3 = 0) → S168_70 v1 v2 v3 s0 q)
set_option maxRecDepth 100000 in
set_option maxHeartbeats 4000000 in
theorem A168_58 {l : Launch} {X : aX} {d : Nat} {r : Option Value} {h' : aH} {v1 : Int32} {v2 : Int32} {v3 : Int32} {s0 : Int32} {q : aQ} (hd : 4 ≤ d) (hN : h'.1 = nk0) (hG : gV r h' (F168_58 v1 v2 v3 s0 q)) (hS : S168_58 v1 v2 v3 s0 q) : AW l X 168 c168 d r h' 58 [some (.ref 650), some (.int v1), some (.int v2), some (.int v3), none, none, none, none, none] [.int s0] (hp q) := by
  unfold F168_58 at hG
  unfold S168_58 at hS
  refine x_run (pc' := 61) (lo' := [some (.ref 650), some (.int v1), some (.int v2), some (.int v3), some (.int s0), none, none, none, none]) (st' := [.int v3]) 2 rfl ?_
  refine x_if 70 rfl rfl (fun (hc8 : ¬ v3 = 0) => ?_) (fun (hc8 : v3 = 0) => ?_)
  · rw [if_neg hc8] at hG
    replace hS := hS.2 hc8
    exact A168_70 hd hN hG hS
  · rw [if_pos hc8] at hG
    replace hS := hS.1 hc8
    refine x_run (pc' := 66) (lo' := [some (.ref 650), some (.int v1), some (.int v2), some (.int v3), some (.int s0), none, none, none, none]) (st' := [.int s0]) 1 rfl ?_
    refine x_if 70 rfl rfl (fun (hc43 : ¬ s0 = 0) => ?_) (fun (hc43 : s0 = 0) => ?_)
    · rw [if_neg hc43] at hG
      replace hS := hS.2 hc43
      exact A168_70 hd hN hG hS
    · rw [if_pos hc43] at hG
      replace hS := hS.1 hc43
      obtain ⟨rfl, rfl⟩ := hG
      exact x_ret rfl (by decide +kernel)
def F168_57 (v1 : Int32) (v2 : Int32) (v3 : Int32) (q : aQ) : aQ := F168_58 v1 v2 v3 0 q
def S168_57 (v1 : Int32) (v2 : Int32) (v3 : Int32) (q : aQ) : Prop := S168_58 v1 v2 v3 0 q
set_option maxRecDepth 100000 in
set_option maxHeartbeats 4000000 in
theorem A168_57 {l : Launch} {X : aX} {d : Nat} {r : Option Value} {h' : aH} {v1 : Int32} {v2 : Int32} {v3 : Int32} {q : aQ} (hd : 4 ≤ d) (hN : h'.1 = nk0) (hG : gV r h' (F168_57 v1 v2 v3 q)) (hS : S168_57 v1 v2 v3 q) : AW l X 168 c168 d r h' 57 [some (.ref 650), some (.int v1), some (.int v2), some (.int v3), none, none, none, none, none] [] (hp q) := by
  unfold F168_57 at hG
  unfold S168_57 at hS
  refine x_run (pc' := 58) (lo' := [some (.ref 650), some (.int v1), some (.int v2), some (.int v3), none, none, none, none, none]) (st' := [.int 0]) 1 rfl ?_
  exact A168_58 hd hN hG hS
def F168_38 (v1 : Int32) (v2 : Int32) (v3 : Int32) (q : aQ) : aQ := (if (q.1 651 (Int32.toNatClampNeg (q.1 652 (Int32.toNatClampNeg v1)))) = 3 then F168_58 v1 v2 v3 1 q else F168_57 v1 v2 v3 q)
def S168_38 (v1 : Int32) (v2 : Int32) (v3 : Int32) (q : aQ) : Prop := vp_in v1 60 ∧ (vp_in (q.1 652 (Int32.toNatClampNeg v1)) 60 ∧ ((((q.1 651 (Int32.toNatClampNeg (q.1 652 (Int32.toNatClampNeg v1)))) = 3) → S168_58 v1 v2 v3 1 q) ∧ (¬ ((q.1 651 (Int32.toNatClampNeg (q.1 652 (Int32.toNatClampNeg v1)))) = 3) → S168_57 v1 v2 v3 q)))
set_option maxRecDepth 100000 in
set_option maxHeartbeats 4000000 in
theorem A168_38 {l : Launch} {X : aX} {d : Nat} {r : Option Value} {h' : aH} {v1 : Int32} {v2 : Int32} {v3 : Int32} {q : aQ} (hd : 4 ≤ d) (hN : h'.1 = nk0) (hG : gV r h' (F168_38 v1 v2 v3 q)) (hS : S168_38 v1 v2 v3 q) : AW l X 168 c168 d r h' 38 [some (.ref 650), some (.int v1), some (.int v2), some (.int v3), none, none, none, none, none] [] (hp q) := by
  unfold F168_38 at hG
  unfold S168_38 at hS
  refine x_run (pc' := 39) (lo' := [some (.ref 650), some (.int v1), some (.int v2), some (.int v3), none, none, none, none, none]) (st' := [.ref 650]) 1 rfl ?_
  refine x_gf (c := 577) (ne := 0) (v := .ref 651) rfl (by decide +kernel) rfl rfl ?_
  refine x_run (pc' := 43) (lo' := [some (.ref 650), some (.int v1), some (.int v2), some (.int v3), none, none, none, none, none]) (st' := [.ref 650, .ref 651]) 1 rfl ?_
  refine x_gf (c := 578) (ne := 0) (v := .ref 652) rfl (by decide +kernel) rfl rfl ?_
  refine x_run (pc' := 47) (lo' := [some (.ref 650), some (.int v1), some (.int v2), some (.int v3), none, none, none, none, none]) (st' := [.int v1, .ref 652, .ref 651]) 1 rfl ?_
  obtain ⟨o5, hS⟩ := hS
  refine p_ia (n := 60) (v := (q.1 652 (Int32.toNatClampNeg v1))) rfl rfl o5 rfl ?_
  obtain ⟨o6, hS⟩ := hS
  refine p_ia (n := 60) (v := (q.1 651 (Int32.toNatClampNeg (q.1 652 (Int32.toNatClampNeg v1))))) rfl rfl o6 rfl ?_
  refine x_run (pc' := 50) (lo' := [some (.ref 650), some (.int v1), some (.int v2), some (.int v3), none, none, none, none, none]) (st' := [.int 3, .int (q.1 651 (Int32.toNatClampNeg (q.1 652 (Int32.toNatClampNeg v1))))]) 1 rfl ?_
  refine x_ic 57 rfl rfl (fun (hc7 : ¬ (q.1 651 (Int32.toNatClampNeg (q.1 652 (Int32.toNatClampNeg v1)))) = 3) => ?_) (fun (hc7 : (q.1 651 (Int32.toNatClampNeg (q.1 652 (Int32.toNatClampNeg v1)))) = 3) => ?_)
  · rw [if_neg hc7] at hG
    replace hS := hS.2 hc7
    exact A168_57 hd hN hG hS
  · rw [if_pos hc7] at hG
    replace hS := hS.1 hc7
    refine x_run (pc' := 58) (lo' := [some (.ref 650), some (.int v1), some (.int v2), some (.int v3), none, none, none, none, none]) (st' := [.int 1]) 2 rfl ?_
    exact A168_58 hd hN hG hS
def F168_15 (v1 : Int32) (v2 : Int32) (s0 : Int32) (q : aQ) : aQ := (if (q.1 651 (Int32.toNatClampNeg v1)) = 14 then F168_38 v1 v2 s0 q else (if (q.1 651 (Int32.toNatClampNeg v1)) = 15 then F168_38 v1 v2 s0 q else F168_57 v1 v2 s0 q))
def S168_15 (v1 : Int32) (v2 : Int32) (s0 : Int32) (q : aQ) : Prop := vp_in v1 60 ∧ ((((q.1 651 (Int32.toNatClampNeg v1)) = 14) → S168_38 v1 v2 s0 q) ∧ (¬ ((q.1 651 (Int32.toNatClampNeg v1)) = 14) → vp_in v1 60 ∧ ((((q.1 651 (Int32.toNatClampNeg v1)) = 15) → S168_38 v1 v2 s0 q) ∧ (¬ ((q.1 651 (Int32.toNatClampNeg v1)) = 15) → S168_57 v1 v2 s0 q))))
set_option maxRecDepth 100000 in
set_option maxHeartbeats 4000000 in
theorem A168_15 {l : Launch} {X : aX} {d : Nat} {r : Option Value} {h' : aH} {v1 : Int32} {v2 : Int32} {s0 : Int32} {q : aQ} (hd : 4 ≤ d) (hN : h'.1 = nk0) (hG : gV r h' (F168_15 v1 v2 s0 q)) (hS : S168_15 v1 v2 s0 q) : AW l X 168 c168 d r h' 15 [some (.ref 650), some (.int v1), some (.int v2), none, none, none, none, none, none] [.int s0] (hp q) := by
  unfold F168_15 at hG
  unfold S168_15 at hS
  refine x_run (pc' := 17) (lo' := [some (.ref 650), some (.int v1), some (.int v2), some (.int s0), none, none, none, none, none]) (st' := [.ref 650]) 2 rfl ?_
  refine x_gf (c := 577) (ne := 0) (v := .ref 651) rfl (by decide +kernel) rfl rfl ?_
  refine x_run (pc' := 21) (lo' := [some (.ref 650), some (.int v1), some (.int v2), some (.int s0), none, none, none, none, none]) (st' := [.int v1, .ref 651]) 1 rfl ?_
  obtain ⟨o3, hS⟩ := hS
  refine p_ia (n := 60) (v := (q.1 651 (Int32.toNatClampNeg v1))) rfl rfl o3 rfl ?_
  refine x_run (pc' := 24) (lo' := [some (.ref 650), some (.int v1), some (.int v2), some (.int s0), none, none, none, none, none]) (st' := [.int 14, .int (q.1 651 (Int32.toNatClampNeg v1))]) 1 rfl ?_
  refine x_ic 38 rfl rfl (fun (hc4 : (q.1 651 (Int32.toNatClampNeg v1)) = 14) => ?_) (fun (hc4 : ¬ (q.1 651 (Int32.toNatClampNeg v1)) = 14) => ?_)
  · rw [if_pos hc4] at hG
    replace hS := hS.1 hc4
    exact A168_38 hd hN hG hS
  · rw [if_neg hc4] at hG
    replace hS := hS.2 hc4
    refine x_run (pc' := 28) (lo' := [some (.ref 650), some (.int v1), some (.int v2), some (.int s0), none, none, none, none, none]) (st' := [.ref 650]) 1 rfl ?_
    refine x_gf (c := 577) (ne := 0) (v := .ref 651) rfl (by decide +kernel) rfl rfl ?_
    refine x_run (pc' := 32) (lo' := [some (.ref 650), some (.int v1), some (.int v2), some (.int s0), none, none, none, none, none]) (st' := [.int v1, .ref 651]) 1 rfl ?_
    obtain ⟨o44, hS⟩ := hS
    refine p_ia (n := 60) (v := (q.1 651 (Int32.toNatClampNeg v1))) rfl rfl o44 rfl ?_
    refine x_run (pc' := 35) (lo' := [some (.ref 650), some (.int v1), some (.int v2), some (.int s0), none, none, none, none, none]) (st' := [.int 15, .int (q.1 651 (Int32.toNatClampNeg v1))]) 1 rfl ?_
    refine x_ic 57 rfl rfl (fun (hc45 : ¬ (q.1 651 (Int32.toNatClampNeg v1)) = 15) => ?_) (fun (hc45 : (q.1 651 (Int32.toNatClampNeg v1)) = 15) => ?_)
    · rw [if_neg hc45] at hG
      replace hS := hS.2 hc45
      exact A168_57 hd hN hG hS
    · rw [if_pos hc45] at hG
      replace hS := hS.1 hc45
      exact A168_38 hd hN hG hS
def F168_0 (v1 : Int32) (v2 : Int32) (q : aQ) : aQ := (if (q.1 651 (Int32.toNatClampNeg v1)) = 3 then F168_15 v1 v2 1 q else F168_15 v1 v2 0 q)
def S168_0 (v1 : Int32) (v2 : Int32) (q : aQ) : Prop := vp_in v1 60 ∧ ((((q.1 651 (Int32.toNatClampNeg v1)) = 3) → S168_15 v1 v2 1 q) ∧ (¬ ((q.1 651 (Int32.toNatClampNeg v1)) = 3) → S168_15 v1 v2 0 q))
set_option maxRecDepth 100000 in
set_option maxHeartbeats 4000000 in
theorem A168_0 {l : Launch} {X : aX} {d : Nat} {r : Option Value} {h' : aH} {v1 : Int32} {v2 : Int32} {q : aQ} (hd : 4 ≤ d) (hN : h'.1 = nk0) (hG : gV r h' (F168_0 v1 v2 q)) (hS : S168_0 v1 v2 q) : AW l X 168 c168 d r h' 0 [some (.ref 650), some (.int v1), some (.int v2), none, none, none, none, none, none] [] (hp q) := by
  unfold F168_0 at hG
  unfold S168_0 at hS
  refine x_run (pc' := 1) (lo' := [some (.ref 650), some (.int v1), some (.int v2), none, none, none, none, none, none]) (st' := [.ref 650]) 1 rfl ?_
  refine x_gf (c := 577) (ne := 0) (v := .ref 651) rfl (by decide +kernel) rfl rfl ?_
  refine x_run (pc' := 5) (lo' := [some (.ref 650), some (.int v1), some (.int v2), none, none, none, none, none, none]) (st' := [.int v1, .ref 651]) 1 rfl ?_
  obtain ⟨o1, hS⟩ := hS
  refine p_ia (n := 60) (v := (q.1 651 (Int32.toNatClampNeg v1))) rfl rfl o1 rfl ?_
  refine x_run (pc' := 7) (lo' := [some (.ref 650), some (.int v1), some (.int v2), none, none, none, none, none, none]) (st' := [.int 3, .int (q.1 651 (Int32.toNatClampNeg v1))]) 1 rfl ?_
  refine x_ic 14 rfl rfl (fun (hc2 : ¬ (q.1 651 (Int32.toNatClampNeg v1)) = 3) => ?_) (fun (hc2 : (q.1 651 (Int32.toNatClampNeg v1)) = 3) => ?_)
  · rw [if_neg hc2] at hG
    replace hS := hS.2 hc2
    refine x_run (pc' := 15) (lo' := [some (.ref 650), some (.int v1), some (.int v2), none, none, none, none, none, none]) (st' := [.int 0]) 1 rfl ?_
    exact A168_15 hd hN hG hS
  · rw [if_pos hc2] at hG
    replace hS := hS.1 hc2
    refine x_run (pc' := 15) (lo' := [some (.ref 650), some (.int v1), some (.int v2), none, none, none, none, none, none]) (st' := [.int 1]) 2 rfl ?_
    exact A168_15 hd hN hG hS
theorem T168 {l : Launch} {X : aX} {d : Nat} {v1 : Int32} {v2 : Int32} {q : aQ} (hd : 4 ≤ d) (hS : S168_0 v1 v2 q) : Call l X d 168 [.ref 650, .int v1, .int v2] (hp q) none (hp (F168_0 v1 v2 q)) := Call.of ok168 (by decide) (Nat.le_of_ble_eq_true rfl) ⟨Nat.le_refl _, Nat.le_refl _⟩ (A168_0 hd rfl ⟨rfl, rfl⟩ hS)
/-- TypeForecastModel.load(I)V -/
def F170_2 (v1 : Int32) (v2 : Int32) (q : aQ) : (Int32 × aQ) ⊕ (aQ) := (if 5 ≤ v2 then .inr q else .inl ((v2 + 1), (a_w q 669 (Int32.toNatClampNeg v2) (q.1 666 (Int32.toNatClampNeg ((5 * v1) + v2))))))
def S170_2 (v1 : Int32) (v2 : Int32) (q : aQ) : Prop := ((5 ≤ v2) → True) ∧ (¬ (5 ≤ v2) → vp_in ((5 * v1) + v2) 125 ∧ (vp_in v2 5 ∧ (True)))
set_option maxRecDepth 100000 in
set_option maxHeartbeats 4000000 in
theorem A170_2 {l : Launch} {X : aX} {d : Nat} {r : Option Value} {h' : aH} {v1 : Int32} {v2 : Int32} {q : aQ} (hd : 1 ≤ d) (hN : h'.1 = nk0) (hG : gL (fun (s : Int32 × aQ) => AW l X 170 c170 d r h' 2 [some (.ref 650), some (.int v1), some (.int s.1)] [] (hp s.2)) (fun (e : aQ) => AW l X 170 c170 d r h' 29 [some (.ref 650), some (.int v1), none] [] (hp e)) (F170_2 v1 v2 q)) (hS : S170_2 v1 v2 q) : AW l X 170 c170 d r h' 2 [some (.ref 650), some (.int v1), some (.int v2)] [] (hp q) := by
  unfold F170_2 at hG
  unfold S170_2 at hS
  refine x_run (pc' := 4) (lo' := [some (.ref 650), some (.int v1), some (.int v2)]) (st' := [.int 5, .int v2]) 2 rfl ?_
  refine x_ic 29 rfl rfl (fun (hc1 : 5 ≤ v2) => ?_) (fun (hc1 : ¬ 5 ≤ v2) => ?_)
  · rw [if_pos hc1] at hG
    replace hS := hS.1 hc1
    refine x_kill [2] ?_
    exact hG
  · rw [if_neg hc1] at hG
    replace hS := hS.2 hc1
    refine x_run (pc' := 8) (lo' := [some (.ref 650), some (.int v1), some (.int v2)]) (st' := [.ref 650]) 1 rfl ?_
    refine x_gf (c := 599) (ne := 0) (v := .ref 669) rfl (by decide +kernel) rfl rfl ?_
    refine x_run (pc' := 13) (lo' := [some (.ref 650), some (.int v1), some (.int v2)]) (st' := [.ref 650, .int v2, .ref 669]) 2 rfl ?_
    refine x_gf (c := 595) (ne := 0) (v := .ref 666) rfl (by decide +kernel) rfl rfl ?_
    refine x_run (pc' := 21) (lo' := [some (.ref 650), some (.int v1), some (.int v2)]) (st' := [.int ((5 * v1) + v2), .ref 666, .int v2, .ref 669]) 5 rfl ?_
    obtain ⟨o2, hS⟩ := hS
    refine p_ia (n := 125) (v := (q.1 666 (Int32.toNatClampNeg ((5 * v1) + v2)))) rfl rfl o2 rfl ?_
    obtain ⟨o3, hS⟩ := hS
    refine p_is (n := 5) rfl rfl o3 ?_
    refine x_run (pc' := 2) (lo' := [some (.ref 650), some (.int v1), some (.int (v2 + 1))]) (st' := []) 2 rfl ?_
    exact hG
def F170_31 (v1 : Int32) (v2 : Int32) (q : aQ) : (Int32 × aQ) ⊕ (aQ) := (if 20 ≤ v2 then .inr q else .inl ((v2 + 1), (a_w q 670 (Int32.toNatClampNeg v2) (q.1 667 (Int32.toNatClampNeg ((20 * v1) + v2))))))
def S170_31 (v1 : Int32) (v2 : Int32) (q : aQ) : Prop := ((20 ≤ v2) → True) ∧ (¬ (20 ≤ v2) → vp_in ((20 * v1) + v2) 500 ∧ (vp_in v2 20 ∧ (True)))
set_option maxRecDepth 100000 in
set_option maxHeartbeats 4000000 in
theorem A170_31 {l : Launch} {X : aX} {d : Nat} {r : Option Value} {h' : aH} {v1 : Int32} {v2 : Int32} {q : aQ} (hd : 1 ≤ d) (hN : h'.1 = nk0) (hG : gL (fun (s : Int32 × aQ) => AW l X 170 c170 d r h' 31 [some (.ref 650), some (.int v1), some (.int s.1)] [] (hp s.2)) (fun (e : aQ) => AW l X 170 c170 d r h' 60 [none, none, none] [] (hp e)) (F170_31 v1 v2 q)) (hS : S170_31 v1 v2 q) : AW l X 170 c170 d r h' 31 [some (.ref 650), some (.int v1), some (.int v2)] [] (hp q) := by
  unfold F170_31 at hG
  unfold S170_31 at hS
  refine x_run (pc' := 34) (lo' := [some (.ref 650), some (.int v1), some (.int v2)]) (st' := [.int 20, .int v2]) 2 rfl ?_
  refine x_ic 60 rfl rfl (fun (hc5 : 20 ≤ v2) => ?_) (fun (hc5 : ¬ 20 ≤ v2) => ?_)
  · rw [if_pos hc5] at hG
    replace hS := hS.1 hc5
    refine x_kill [0, 1, 2] ?_
    exact hG
  · rw [if_neg hc5] at hG
    replace hS := hS.2 hc5
    refine x_run (pc' := 38) (lo' := [some (.ref 650), some (.int v1), some (.int v2)]) (st' := [.ref 650]) 1 rfl ?_
    refine x_gf (c := 600) (ne := 0) (v := .ref 670) rfl (by decide +kernel) rfl rfl ?_
    refine x_run (pc' := 43) (lo' := [some (.ref 650), some (.int v1), some (.int v2)]) (st' := [.ref 650, .int v2, .ref 670]) 2 rfl ?_
    refine x_gf (c := 596) (ne := 0) (v := .ref 667) rfl (by decide +kernel) rfl rfl ?_
    refine x_run (pc' := 52) (lo' := [some (.ref 650), some (.int v1), some (.int v2)]) (st' := [.int ((20 * v1) + v2), .ref 667, .int v2, .ref 670]) 5 rfl ?_
    obtain ⟨o6, hS⟩ := hS
    refine p_ia (n := 500) (v := (q.1 667 (Int32.toNatClampNeg ((20 * v1) + v2)))) rfl rfl o6 rfl ?_
    obtain ⟨o7, hS⟩ := hS
    refine p_is (n := 20) rfl rfl o7 ?_
    refine x_run (pc' := 31) (lo' := [some (.ref 650), some (.int v1), some (.int (v2 + 1))]) (st' := []) 2 rfl ?_
    exact hG
def F170_60 (q : aQ) : aQ := q
def S170_60 (q : aQ) : Prop := True
set_option maxRecDepth 100000 in
set_option maxHeartbeats 4000000 in
theorem A170_60 {l : Launch} {X : aX} {d : Nat} {r : Option Value} {h' : aH} {q : aQ} (hd : 1 ≤ d) (hN : h'.1 = nk0) (hG : gV r h' (F170_60 q)) (hS : S170_60 q) : AW l X 170 c170 d r h' 60 [none, none, none] [] (hp q) := by
  unfold F170_60 at hG
  unfold S170_60 at hS
  obtain ⟨rfl, rfl⟩ := hG
  exact x_ret rfl (by decide +kernel)
def F170_29 (v1 : Int32) (q : aQ) : aQ := (fun (e8 : aQ) => F170_60 e8) (a_lp (fun (s : Int32 × aQ) => F170_31 v1 s.1 s.2) 200 (0, q) q)
def S170_29 (v1 : Int32) (q : aQ) : Prop := a_sf (fun (s : Int32 × aQ) => F170_31 v1 s.1 s.2) (fun (s : Int32 × aQ) => S170_31 v1 s.1 s.2) 200 (0, q) ∧ (fun (e8 : aQ) => S170_60 e8) (a_lp (fun (s : Int32 × aQ) => F170_31 v1 s.1 s.2) 200 (0, q) q)
set_option maxRecDepth 100000 in
set_option maxHeartbeats 4000000 in
theorem A170_29 {l : Launch} {X : aX} {d : Nat} {r : Option Value} {h' : aH} {v1 : Int32} {q : aQ} (hd : 1 ≤ d) (hN : h'.1 = nk0) (hG : gV r h' (F170_29 v1 q)) (hS : S170_29 v1 q) : AW l X 170 c170 d r h' 29 [some (.ref 650), some (.int v1), none] [] (hp q) := by
  unfold F170_29 at hG
  unfold S170_29 at hS
  refine x_run (pc' := 31) (lo' := [some (.ref 650), some (.int v1), some (.int 0)]) (st' := []) 2 rfl ?_
  obtain ⟨ho, hS⟩ := hS
  refine x_loop (fun (s : Int32 × aQ) => F170_31 v1 s.1 s.2) (fun (s : Int32 × aQ) => S170_31 v1 s.1 s.2) (fun (s : Int32 × aQ) => AW l X 170 c170 d r h' 31 [some (.ref 650), some (.int v1), some (.int s.1)] [] (hp s.2)) (fun (e : aQ) => AW l X 170 c170 d r h' 60 [none, none, none] [] (hp e)) (fun s hs hg => A170_31 hd hN hg hs) 200 (0, q) ho (fun e8 he => ?_)
  rw [a_lp_eq he] at hG hS
  try dsimp only at hG hS
  exact A170_60 hd hN hG hS
def F170_0 (v1 : Int32) (q : aQ) : aQ := (fun (e4 : aQ) => F170_29 v1 e4) (a_lp (fun (s : Int32 × aQ) => F170_2 v1 s.1 s.2) 200 (0, q) q)
def S170_0 (v1 : Int32) (q : aQ) : Prop := a_sf (fun (s : Int32 × aQ) => F170_2 v1 s.1 s.2) (fun (s : Int32 × aQ) => S170_2 v1 s.1 s.2) 200 (0, q) ∧ (fun (e4 : aQ) => S170_29 v1 e4) (a_lp (fun (s : Int32 × aQ) => F170_2 v1 s.1 s.2) 200 (0, q) q)
set_option maxRecDepth 100000 in
set_option maxHeartbeats 4000000 in
theorem A170_0 {l : Launch} {X : aX} {d : Nat} {r : Option Value} {h' : aH} {v1 : Int32} {q : aQ} (hd : 1 ≤ d) (hN : h'.1 = nk0) (hG : gV r h' (F170_0 v1 q)) (hS : S170_0 v1 q) : AW l X 170 c170 d r h' 0 [some (.ref 650), some (.int v1), none] [] (hp q) := by
  unfold F170_0 at hG
  unfold S170_0 at hS
  refine x_run (pc' := 2) (lo' := [some (.ref 650), some (.int v1), some (.int 0)]) (st' := []) 2 rfl ?_
  obtain ⟨ho, hS⟩ := hS
  refine x_loop (fun (s : Int32 × aQ) => F170_2 v1 s.1 s.2) (fun (s : Int32 × aQ) => S170_2 v1 s.1 s.2) (fun (s : Int32 × aQ) => AW l X 170 c170 d r h' 2 [some (.ref 650), some (.int v1), some (.int s.1)] [] (hp s.2)) (fun (e : aQ) => AW l X 170 c170 d r h' 29 [some (.ref 650), some (.int v1), none] [] (hp e)) (fun s hs hg => A170_2 hd hN hg hs) 200 (0, q) ho (fun e4 he => ?_)
  rw [a_lp_eq he] at hG hS
  try dsimp only at hG hS
  exact A170_29 hd hN hG hS
theorem T170 {l : Launch} {X : aX} {d : Nat} {v1 : Int32} {q : aQ} (hd : 1 ≤ d) (hS : S170_0 v1 q) : Call l X d 170 [.ref 650, .int v1] (hp q) none (hp (F170_0 v1 q)) := Call.of ok170 (by decide) (Nat.le_of_ble_eq_true rfl) ⟨Nat.le_refl _, Nat.le_refl _⟩ (A170_0 hd rfl ⟨rfl, rfl⟩ hS)
/-- TypeForecastModel.joinBound(IIZZ)V -/
def F171_68 (v1 : Int32) (v2 : Int32) (s0 : Int32) (q : aQ) : aQ := (a_w (a_w q 650 22 s0) 667 (Int32.toNatClampNeg v1) v2)
def S171_68 (v1 : Int32) (v2 : Int32) (s0 : Int32) (q : aQ) : Prop := (s0 = 0 ∨ s0 = 1) ∧ (vp_in v1 500 ∧ (True))
set_option maxRecDepth 100000 in
set_option maxHeartbeats 4000000 in
theorem A171_68 {l : Launch} {X : aX} {d : Nat} {r : Option Value} {h' : aH} {v1 : Int32} {v2 : Int32} {s0 : Int32} {q : aQ} (hd : 1 ≤ d) (hN : h'.1 = nk0) (hG : gV r h' (F171_68 v1 v2 s0 q)) (hS : S171_68 v1 v2 s0 q) : AW l X 171 c171 d r h' 68 [some (.ref 650), some (.int v1), some (.int v2), none, none, none, none] [.int s0, .ref 650] (hp q) := by
  unfold F171_68 at hG
  unfold S171_68 at hS
  obtain ⟨o6, hS⟩ := hS
  refine x_pf (c := 598) (ne := 0) (h2 := hp (a_w q 650 22 s0)) rfl (by decide +kernel) (by decide +kernel) rfl (pv_z rfl o6) ?_
  refine x_run (pc' := 72) (lo' := [some (.ref 650), some (.int v1), some (.int v2), none, none, none, none]) (st' := [.ref 650]) 1 rfl ?_
  refine x_gf (c := 596) (ne := 0) (v := .ref 667) rfl (by decide +kernel) rfl rfl ?_
  refine x_run (pc' := 77) (lo' := [some (.ref 650), some (.int v1), some (.int v2), none, none, none, none]) (st' := [.int v2, .int v1, .ref 667]) 2 rfl ?_
  obtain ⟨o7, hS⟩ := hS
  refine p_is (n := 500) rfl rfl o7 ?_
  obtain ⟨rfl, rfl⟩ := hG
  exact x_ret rfl (by decide +kernel)
def F171_63 (v1 : Int32) (v2 : Int32) (q : aQ) : aQ := F171_68 v1 v2 1 q
def S171_63 (v1 : Int32) (v2 : Int32) (q : aQ) : Prop := S171_68 v1 v2 1 q
set_option maxRecDepth 100000 in
set_option maxHeartbeats 4000000 in
theorem A171_63 {l : Launch} {X : aX} {d : Nat} {r : Option Value} {h' : aH} {v1 : Int32} {v2 : Int32} {q : aQ} (hd : 1 ≤ d) (hN : h'.1 = nk0) (hG : gV r h' (F171_63 v1 v2 q)) (hS : S171_63 v1 v2 q) : AW l X 171 c171 d r h' 63 [some (.ref 650), some (.int v1), some (.int v2), none, none, none, none] [.ref 650] (hp q) := by
  unfold F171_63 at hG
  unfold S171_63 at hS
  refine x_run (pc' := 68) (lo' := [some (.ref 650), some (.int v1), some (.int v2), none, none, none, none]) (st' := [.int 1, .ref 650]) 2 rfl ?_
  exact A171_68 hd hN hG hS
def F171_49 (v1 : Int32) (v2 : Int32) (v5 : Int32) (q : aQ) : aQ := (if (q.1 650 22) = 0 then (if v5 = v2 then F171_68 v1 v2 0 q else F171_63 v1 v2 q) else F171_63 v1 v2 q)
def S171_49 (v1 : Int32) (v2 : Int32) (v5 : Int32) (q : aQ) : Prop := (((q.1 650 22) = 0) → ((v5 = v2) → S171_68 v1 v2 0 q) ∧ (¬ (v5 = v2) → S171_63 v1 v2 q)) ∧ (¬ ((q.1 650 22) = 0) → S171_63 v1 v2 q)
set_option maxRecDepth 100000 in
set_option maxHeartbeats 4000000 in
theorem A171_49 {l : Launch} {X : aX} {d : Nat} {r : Option Value} {h' : aH} {v1 : Int32} {v2 : Int32} {v5 : Int32} {q : aQ} (hd : 1 ≤ d) (hN : h'.1 = nk0) (hG : gV r h' (F171_49 v1 v2 v5 q)) (hS : S171_49 v1 v2 v5 q) : AW l X 171 c171 d r h' 49 [some (.ref 650), some (.int v1), some (.int v2), none, none, some (.int v5), none] [] (hp q) := by
  unfold F171_49 at hG
  unfold S171_49 at hS
  refine x_run (pc' := 51) (lo' := [some (.ref 650), some (.int v1), some (.int v2), none, none, some (.int v5), none]) (st' := [.ref 650, .ref 650]) 2 rfl ?_
  refine x_gf (c := 598) (ne := 0) (v := .int (q.1 650 22)) rfl (by decide +kernel) rfl rfl ?_
  refine x_if 63 rfl rfl (fun (hc5 : ¬ (q.1 650 22) = 0) => ?_) (fun (hc5 : (q.1 650 22) = 0) => ?_)
  · rw [if_neg hc5] at hG
    replace hS := hS.2 hc5
    refine x_kill [5] ?_
    exact A171_63 hd hN hG hS
  · rw [if_pos hc5] at hG
    replace hS := hS.1 hc5
    refine x_run (pc' := 60) (lo' := [some (.ref 650), some (.int v1), some (.int v2), none, none, some (.int v5), none]) (st' := [.int v2, .int v5, .ref 650]) 2 rfl ?_
    refine x_ic 67 rfl rfl (fun (hc8 : v5 = v2) => ?_) (fun (hc8 : ¬ v5 = v2) => ?_)
    · rw [if_pos hc8] at hG
      replace hS := hS.1 hc8
      refine x_run (pc' := 68) (lo' := [some (.ref 650), some (.int v1), some (.int v2), none, none, some (.int v5), none]) (st' := [.int 0, .ref 650]) 1 rfl ?_
      refine x_kill [5] ?_
      exact A171_68 hd hN hG hS
    · rw [if_neg hc8] at hG
      replace hS := hS.2 hc8
      refine x_kill [5] ?_
      exact A171_63 hd hN hG hS
def F171_38 (v1 : Int32) (v2 : Int32) (v3 : Int32) (v5 : Int32) (s0 : Int32) (q : aQ) : aQ := (if v3 = 0 then F171_49 v1 v2 v5 q else (if s0 = 0 then q else F171_49 v1 v2 v5 q))
def S171_38 (v1 : Int32) (v2 : Int32) (v3 : Int32) (v5 : Int32) (s0 : Int32) (q : aQ) : Prop := ((v3 = 0) → S171_49 v1 v2 v5 q) ∧ (¬ (v3 = 0) → ((s0 = 0) → True) ∧ (¬ (s0 = 0) → S171_49 v1 v2 v5 q))
set_option maxRecDepth 100000 in
set_option maxHeartbeats 4000000 in
theorem A171_38 {l : Launch} {X : aX} {d : Nat} {r : Option Value} {h' : aH} {v1 : Int32} {v2 : Int32} {v3 : Int32} {v5 : Int32} {s0 : Int32} {q : aQ} (hd : 1 ≤ d) (hN : h'.1 = nk0) (hG : gV r h' (F171_38 v1 v2 v3 v5 s0 q)) (hS : S171_38 v1 v2 v3 v5 s0 q) : AW l X 171 c171 d r h' 38 [some (.ref 650), some (.int v1), some (.int v2), some (.int v3), none, some (.int v5), none] [.int s0] (hp q) := by
  unfold F171_38 at hG
  unfold S171_38 at hS
  refine x_run (pc' := 41) (lo' := [some (.ref 650), some (.int v1), some (.int v2), some (.int v3), none, some (.int v5), some (.int s0)]) (st' := [.int v3]) 2 rfl ?_
  refine x_if 49 rfl rfl (fun (hc4 : v3 = 0) => ?_) (fun (hc4 : ¬ v3 = 0) => ?_)
  · rw [if_pos hc4] at hG
    replace hS := hS.1 hc4
    refine x_kill [3, 6] ?_
    exact A171_49 hd hN hG hS
  · rw [if_neg hc4] at hG
    replace hS := hS.2 hc4
    refine x_run (pc' := 46) (lo' := [some (.ref 650), some (.int v1), some (.int v2), some (.int v3), none, some (.int v5), some (.int s0)]) (st' := [.int s0]) 1 rfl ?_
    refine x_if 78 rfl rfl (fun (hc9 : s0 = 0) => ?_) (fun (hc9 : ¬ s0 = 0) => ?_)
    · rw [if_pos hc9] at hG
      replace hS := hS.1 hc9
      obtain ⟨rfl, rfl⟩ := hG
      exact x_ret rfl (by decide +kernel)
    · rw [if_neg hc9] at hG
      replace hS := hS.2 hc9
      refine x_kill [3, 6] ?_
      exact A171_49 hd hN hG hS
def F171_0 (v1 : Int32) (v2 : Int32) (v3 : Int32) (v4 : Int32) (q : aQ) : aQ := (if v4 = 0 then (if v2 ≤ (q.1 667 (Int32.toNatClampNeg v1)) then F171_38 v1 v2 v3 (q.1 667 (Int32.toNatClampNeg v1)) 0 q else F171_38 v1 v2 v3 (q.1 667 (Int32.toNatClampNeg v1)) 1 q) else (if (q.1 667 (Int32.toNatClampNeg v1)) ≤ v2 then F171_38 v1 v2 v3 (q.1 667 (Int32.toNatClampNeg v1)) 0 q else F171_38 v1 v2 v3 (q.1 667 (Int32.toNatClampNeg v1)) 1 q))
def S171_0 (v1 : Int32) (v2 : Int32) (v3 : Int32) (v4 : Int32) (q : aQ) : Prop := vp_in v1 500 ∧ (((v4 = 0) → ((v2 ≤ (q.1 667 (Int32.toNatClampNeg v1))) → S171_38 v1 v2 v3 (q.1 667 (Int32.toNatClampNeg v1)) 0 q) ∧ (¬ (v2 ≤ (q.1 667 (Int32.toNatClampNeg v1))) → S171_38 v1 v2 v3 (q.1 667 (Int32.toNatClampNeg v1)) 1 q)) ∧ (¬ (v4 = 0) → (((q.1 667 (Int32.toNatClampNeg v1)) ≤ v2) → S171_38 v1 v2 v3 (q.1 667 (Int32.toNatClampNeg v1)) 0 q) ∧ (¬ ((q.1 667 (Int32.toNatClampNeg v1)) ≤ v2) → S171_38 v1 v2 v3 (q.1 667 (Int32.toNatClampNeg v1)) 1 q)))
set_option maxRecDepth 100000 in
set_option maxHeartbeats 4000000 in
theorem A171_0 {l : Launch} {X : aX} {d : Nat} {r : Option Value} {h' : aH} {v1 : Int32} {v2 : Int32} {v3 : Int32} {v4 : Int32} {q : aQ} (hd : 1 ≤ d) (hN : h'.1 = nk0) (hG : gV r h' (F171_0 v1 v2 v3 v4 q)) (hS : S171_0 v1 v2 v3 v4 q) : AW l X 171 c171 d r h' 0 [some (.ref 650), some (.int v1), some (.int v2), some (.int v3), some (.int v4), none, none] [] (hp q) := by
  unfold F171_0 at hG
  unfold S171_0 at hS
  refine x_run (pc' := 1) (lo' := [some (.ref 650), some (.int v1), some (.int v2), some (.int v3), some (.int v4), none, none]) (st' := [.ref 650]) 1 rfl ?_
  refine x_gf (c := 596) (ne := 0) (v := .ref 667) rfl (by decide +kernel) rfl rfl ?_
  refine x_run (pc' := 5) (lo' := [some (.ref 650), some (.int v1), some (.int v2), some (.int v3), some (.int v4), none, none]) (st' := [.int v1, .ref 667]) 1 rfl ?_
  obtain ⟨o1, hS⟩ := hS
  refine p_ia (n := 500) (v := (q.1 667 (Int32.toNatClampNeg v1))) rfl rfl o1 rfl ?_
  refine x_run (pc' := 10) (lo' := [some (.ref 650), some (.int v1), some (.int v2), some (.int v3), some (.int v4), some (.int (q.1 667 (Int32.toNatClampNeg v1))), none]) (st' := [.int v4]) 2 rfl ?_
  refine x_if 27 rfl rfl (fun (hc2 : v4 = 0) => ?_) (fun (hc2 : ¬ v4 = 0) => ?_)
  · rw [if_pos hc2] at hG
    replace hS := hS.1 hc2
    refine x_run (pc' := 30) (lo' := [some (.ref 650), some (.int v1), some (.int v2), some (.int v3), some (.int v4), some (.int (q.1 667 (Int32.toNatClampNeg v1))), none]) (st' := [.int (q.1 667 (Int32.toNatClampNeg v1)), .int v2]) 2 rfl ?_
    refine x_ic 37 rfl rfl (fun (hc3 : v2 ≤ (q.1 667 (Int32.toNatClampNeg v1))) => ?_) (fun (hc3 : ¬ v2 ≤ (q.1 667 (Int32.toNatClampNeg v1))) => ?_)
    · rw [if_pos hc3] at hG
      replace hS := hS.1 hc3
      refine x_run (pc' := 38) (lo' := [some (.ref 650), some (.int v1), some (.int v2), some (.int v3), some (.int v4), some (.int (q.1 667 (Int32.toNatClampNeg v1))), none]) (st' := [.int 0]) 1 rfl ?_
      refine x_kill [4] ?_
      exact A171_38 hd hN hG hS
    · rw [if_neg hc3] at hG
      replace hS := hS.2 hc3
      refine x_run (pc' := 38) (lo' := [some (.ref 650), some (.int v1), some (.int v2), some (.int v3), some (.int v4), some (.int (q.1 667 (Int32.toNatClampNeg v1))), none]) (st' := [.int 1]) 2 rfl ?_
      refine x_kill [4] ?_
      exact A171_38 hd hN hG hS
  · rw [if_neg hc2] at hG
    replace hS := hS.2 hc2
    refine x_run (pc' := 16) (lo' := [some (.ref 650), some (.int v1), some (.int v2), some (.int v3), some (.int v4), some (.int (q.1 667 (Int32.toNatClampNeg v1))), none]) (st' := [.int (q.1 667 (Int32.toNatClampNeg v1)), .int v2]) 2 rfl ?_
    refine x_ic 23 rfl rfl (fun (hc10 : (q.1 667 (Int32.toNatClampNeg v1)) ≤ v2) => ?_) (fun (hc10 : ¬ (q.1 667 (Int32.toNatClampNeg v1)) ≤ v2) => ?_)
    · rw [if_pos hc10] at hG
      replace hS := hS.1 hc10
      refine x_run (pc' := 38) (lo' := [some (.ref 650), some (.int v1), some (.int v2), some (.int v3), some (.int v4), some (.int (q.1 667 (Int32.toNatClampNeg v1))), none]) (st' := [.int 0]) 2 rfl ?_
      refine x_kill [4] ?_
      exact A171_38 hd hN hG hS
    · rw [if_neg hc10] at hG
      replace hS := hS.2 hc10
      refine x_run (pc' := 38) (lo' := [some (.ref 650), some (.int v1), some (.int v2), some (.int v3), some (.int v4), some (.int (q.1 667 (Int32.toNatClampNeg v1))), none]) (st' := [.int 1]) 2 rfl ?_
      refine x_kill [4] ?_
      exact A171_38 hd hN hG hS
theorem T171 {l : Launch} {X : aX} {d : Nat} {v1 : Int32} {v2 : Int32} {v3 : Int32} {v4 : Int32} {q : aQ} (hd : 1 ≤ d) (hS : S171_0 v1 v2 v3 v4 q) : Call l X d 171 [.ref 650, .int v1, .int v2, .int v3, .int v4] (hp q) none (hp (F171_0 v1 v2 v3 v4 q)) := Call.of ok171 (by decide) (Nat.le_of_ble_eq_true rfl) ⟨Nat.le_refl _, Nat.le_refl _⟩ (A171_0 hd rfl ⟨rfl, rfl⟩ hS)
/-- TypeForecastModel.flow(I)V -/
def F172_119 (v1 : Int32) (v2 : Int32) (v3 : Int32) (v4 : Int32) (v5 : Int32) (q : aQ) : (Int32 × aQ) ⊕ (aQ) := .inl ((v5 + 1), q)
def S172_119 (v1 : Int32) (v2 : Int32) (v3 : Int32) (v4 : Int32) (v5 : Int32) (q : aQ) : Prop := True
set_option maxRecDepth 100000 in
set_option maxHeartbeats 4000000 in
theorem A172_119 {l : Launch} {X : aX} {d : Nat} {r : Option Value} {h' : aH} {v1 : Int32} {v2 : Int32} {v3 : Int32} {v4 : Int32} {v5 : Int32} {q : aQ} (hd : 2 ≤ d) (hN : h'.1 = nk0) (hG : gL (fun (s : Int32 × aQ) => AW l X 172 c172 d r h' 42 [some (.ref 650), some (.int v1), some (.int v2), some (.int v3), some (.int v4), some (.int s.1), none] [] (hp s.2)) (fun (e : aQ) => AW l X 172 c172 d r h' 125 [some (.ref 650), some (.int v1), some (.int v2), some (.int v3), some (.int v4), none, none] [] (hp e)) (F172_119 v1 v2 v3 v4 v5 q)) (hS : S172_119 v1 v2 v3 v4 v5 q) : AW l X 172 c172 d r h' 119 [some (.ref 650), some (.int v1), some (.int v2), some (.int v3), some (.int v4), some (.int v5), none] [] (hp q) := by
  unfold F172_119 at hG
  unfold S172_119 at hS
  refine x_run (pc' := 42) (lo' := [some (.ref 650), some (.int v1), some (.int v2), some (.int v3), some (.int v4), some (.int (v5 + 1)), none]) (st' := []) 2 rfl ?_
  exact hG
def F172_116 (v1 : Int32) (v2 : Int32) (v3 : Int32) (v4 : Int32) (v5 : Int32) (s0 : Int32) (s1 : Int32) (s2 : Int32) (s3 : Int32) (q : aQ) : (Int32 × aQ) ⊕ (aQ) := F172_119 v1 v2 v3 v4 v5 (F171_0 s3 s2 s1 s0 q)
def S172_116 (v1 : Int32) (v2 : Int32) (v3 : Int32) (v4 : Int32) (v5 : Int32) (s0 : Int32) (s1 : Int32) (s2 : Int32) (s3 : Int32) (q : aQ) : Prop := S171_0 s3 s2 s1 s0 q ∧ (S172_119 v1 v2 v3 v4 v5 (F171_0 s3 s2 s1 s0 q))
set_option maxRecDepth 100000 in
set_option maxHeartbeats 4000000 in
theorem A172_116 {l : Launch} {X : aX} {d : Nat} {r : Option Value} {h' : aH} {v1 : Int32} {v2 : Int32} {v3 : Int32} {v4 : Int32} {v5 : Int32} {s0 : Int32} {s1 : Int32} {s2 : Int32} {s3 : Int32} {q : aQ} (hd : 2 ≤ d) (hN : h'.1 = nk0) (hG : gL (fun (s : Int32 × aQ) => AW l X 172 c172 d r h' 42 [some (.ref 650), some (.int v1), some (.int v2), some (.int v3), some (.int v4), some (.int s.1), none] [] (hp s.2)) (fun (e : aQ) => AW l X 172 c172 d r h' 125 [some (.ref 650), some (.int v1), some (.int v2), some (.int v3), some (.int v4), none, none] [] (hp e)) (F172_116 v1 v2 v3 v4 v5 s0 s1 s2 s3 q)) (hS : S172_116 v1 v2 v3 v4 v5 s0 s1 s2 s3 q) : AW l X 172 c172 d r h' 116 [some (.ref 650), some (.int v1), some (.int v2), some (.int v3), some (.int v4), some (.int v5), none] [.int s0, .int s1, .int s2, .int s3, .ref 650] (hp q) := by
  unfold F172_116 at hG
  unfold S172_116 at hS
  obtain ⟨o11, hS⟩ := hS
  refine x_cv (j := 171) (ne := 0) (vs := [.int s3, .int s2, .int s1, .int s0]) (rest := []) rfl (by decide +kernel) (by decide +kernel) (by decide) (Eq.trans rfl (show 4 = _ from by decide +kernel)) rfl (by decide +kernel) rfl (Nat.le_of_ble_eq_true rfl) (by omega) (T171 (Nat.le_refl 1) o11) (hp_m hN) ?_
  show AW l X 172 c172 d r h' 119 [some (.ref 650), some (.int v1), some (.int v2), some (.int v3), some (.int v4), some (.int v5), none] [] (hp (F171_0 s3 s2 s1 s0 q))
  exact A172_119 hd hN hG hS
def F172_104 (v1 : Int32) (v2 : Int32) (v3 : Int32) (v4 : Int32) (v5 : Int32) (s0 : Int32) (s1 : Int32) (s2 : Int32) (q : aQ) : (Int32 × aQ) ⊕ (aQ) := (if (v5 &&& 1) = 0 then F172_116 v1 v2 v3 v4 v5 1 s0 s1 s2 q else F172_116 v1 v2 v3 v4 v5 0 s0 s1 s2 q)
def S172_104 (v1 : Int32) (v2 : Int32) (v3 : Int32) (v4 : Int32) (v5 : Int32) (s0 : Int32) (s1 : Int32) (s2 : Int32) (q : aQ) : Prop := (((v5 &&& 1) = 0) → S172_116 v1 v2 v3 v4 v5 1 s0 s1 s2 q) ∧ (¬ ((v5 &&& 1) = 0) → S172_116 v1 v2 v3 v4 v5 0 s0 s1 s2 q)
set_option maxRecDepth 100000 in
set_option maxHeartbeats 4000000 in
theorem A172_104 {l : Launch} {X : aX} {d : Nat} {r : Option Value} {h' : aH} {v1 : Int32} {v2 : Int32} {v3 : Int32} {v4 : Int32} {v5 : Int32} {s0 : Int32} {s1 : Int32} {s2 : Int32} {q : aQ} (hd : 2 ≤ d) (hN : h'.1 = nk0) (hG : gL (fun (s : Int32 × aQ) => AW l X 172 c172 d r h' 42 [some (.ref 650), some (.int v1), some (.int v2), some (.int v3), some (.int v4), some (.int s.1), none] [] (hp s.2)) (fun (e : aQ) => AW l X 172 c172 d r h' 125 [some (.ref 650), some (.int v1), some (.int v2), some (.int v3), some (.int v4), none, none] [] (hp e)) (F172_104 v1 v2 v3 v4 v5 s0 s1 s2 q)) (hS : S172_104 v1 v2 v3 v4 v5 s0 s1 s2 q) : AW l X 172 c172 d r h' 104 [some (.ref 650), some (.int v1), some (.int v2), some (.int v3), some (.int v4), some (.int v5), none] [.int s0, .int s1, .int s2, .ref 650] (hp q) := by
  unfold F172_104 at hG
  unfold S172_104 at hS
  refine x_run (pc' := 108) (lo' := [some (.ref 650), some (.int v1), some (.int v2), some (.int v3), some (.int v4), some (.int v5), none]) (st' := [.int (v5 &&& 1), .int s0, .int s1, .int s2, .ref 650]) 3 rfl ?_
  refine x_if 115 rfl rfl (fun (hc10 : ¬ (v5 &&& 1) = 0) => ?_) (fun (hc10 : (v5 &&& 1) = 0) => ?_)
  · rw [if_neg hc10] at hG
    replace hS := hS.2 hc10
    refine x_run (pc' := 116) (lo' := [some (.ref 650), some (.int v1), some (.int v2), some (.int v3), some (.int v4), some (.int v5), none]) (st' := [.int 0, .int s0, .int s1, .int s2, .ref 650]) 1 rfl ?_
    exact A172_116 hd hN hG hS
  · rw [if_pos hc10] at hG
    replace hS := hS.1 hc10
    refine x_run (pc' := 116) (lo' := [some (.ref 650), some (.int v1), some (.int v2), some (.int v3), some (.int v4), some (.int v5), none]) (st' := [.int 1, .int s0, .int s1, .int s2, .ref 650]) 2 rfl ?_
    exact A172_116 hd hN hG hS
def F172_59 (v1 : Int32) (v2 : Int32) (v3 : Int32) (v4 : Int32) (v5 : Int32) (s0 : Int32) (q : aQ) : (Int32 × aQ) ⊕ (aQ) := (if (v4 &&& s0) = 0 then F172_119 v1 v2 v3 v4 v5 q else (if (v3 &&& s0) = 0 then F172_104 v1 v2 v3 v4 v5 0 (q.1 670 (Int32.toNatClampNeg ((4 * v2) + v5))) (((20 * v1) + (4 * v2)) + v5) q else F172_104 v1 v2 v3 v4 v5 1 (q.1 670 (Int32.toNatClampNeg ((4 * v2) + v5))) (((20 * v1) + (4 * v2)) + v5) q))
def S172_59 (v1 : Int32) (v2 : Int32) (v3 : Int32) (v4 : Int32) (v5 : Int32) (s0 : Int32) (q : aQ) : Prop := (((v4 &&& s0) = 0) → S172_119 v1 v2 v3 v4 v5 q) ∧ (¬ ((v4 &&& s0) = 0) → vp_in ((4 * v2) + v5) 20 ∧ ((((v3 &&& s0) = 0) → S172_104 v1 v2 v3 v4 v5 0 (q.1 670 (Int32.toNatClampNeg ((4 * v2) + v5))) (((20 * v1) + (4 * v2)) + v5) q) ∧ (¬ ((v3 &&& s0) = 0) → S172_104 v1 v2 v3 v4 v5 1 (q.1 670 (Int32.toNatClampNeg ((4 * v2) + v5))) (((20 * v1) + (4 * v2)) + v5) q)))
set_option maxRecDepth 100000 in
set_option maxHeartbeats 4000000 in
theorem A172_59 {l : Launch} {X : aX} {d : Nat} {r : Option Value} {h' : aH} {v1 : Int32} {v2 : Int32} {v3 : Int32} {v4 : Int32} {v5 : Int32} {s0 : Int32} {q : aQ} (hd : 2 ≤ d) (hN : h'.1 = nk0) (hG : gL (fun (s : Int32 × aQ) => AW l X 172 c172 d r h' 42 [some (.ref 650), some (.int v1), some (.int v2), some (.int v3), some (.int v4), some (.int s.1), none] [] (hp s.2)) (fun (e : aQ) => AW l X 172 c172 d r h' 125 [some (.ref 650), some (.int v1), some (.int v2), some (.int v3), some (.int v4), none, none] [] (hp e)) (F172_59 v1 v2 v3 v4 v5 s0 q)) (hS : S172_59 v1 v2 v3 v4 v5 s0 q) : AW l X 172 c172 d r h' 59 [some (.ref 650), some (.int v1), some (.int v2), some (.int v3), some (.int v4), some (.int v5), none] [.int s0] (hp q) := by
  unfold F172_59 at hG
  unfold S172_59 at hS
  refine x_run (pc' := 66) (lo' := [some (.ref 650), some (.int v1), some (.int v2), some (.int v3), some (.int v4), some (.int v5), some (.int s0)]) (st' := [.int (v4 &&& s0)]) 4 rfl ?_
  refine x_if 119 rfl rfl (fun (hc7 : (v4 &&& s0) = 0) => ?_) (fun (hc7 : ¬ (v4 &&& s0) = 0) => ?_)
  · rw [if_pos hc7] at hG
    replace hS := hS.1 hc7
    refine x_kill [6] ?_
    exact A172_119 hd hN hG hS
  · rw [if_neg hc7] at hG
    replace hS := hS.2 hc7
    refine x_run (pc' := 82) (lo' := [some (.ref 650), some (.int v1), some (.int v2), some (.int v3), some (.int v4), some (.int v5), some (.int s0)]) (st' := [.ref 650, .int (((20 * v1) + (4 * v2)) + v5), .ref 650]) 11 rfl ?_
    refine x_gf (c := 600) (ne := 0) (v := .ref 670) rfl (by decide +kernel) rfl rfl ?_
    refine x_run (pc' := 91) (lo' := [some (.ref 650), some (.int v1), some (.int v2), some (.int v3), some (.int v4), some (.int v5), some (.int s0)]) (st' := [.int ((4 * v2) + v5), .ref 670, .int (((20 * v1) + (4 * v2)) + v5), .ref 650]) 5 rfl ?_
    obtain ⟨o8, hS⟩ := hS
    refine p_ia (n := 20) (v := (q.1 670 (Int32.toNatClampNeg ((4 * v2) + v5)))) rfl rfl o8 rfl ?_
    refine x_run (pc' := 96) (lo' := [some (.ref 650), some (.int v1), some (.int v2), some (.int v3), some (.int v4), some (.int v5), some (.int s0)]) (st' := [.int (v3 &&& s0), .int (q.1 670 (Int32.toNatClampNeg ((4 * v2) + v5))), .int (((20 * v1) + (4 * v2)) + v5), .ref 650]) 3 rfl ?_
    refine x_if 103 rfl rfl (fun (hc9 : (v3 &&& s0) = 0) => ?_) (fun (hc9 : ¬ (v3 &&& s0) = 0) => ?_)
    · rw [if_pos hc9] at hG
      replace hS := hS.1 hc9
      refine x_run (pc' := 104) (lo' := [some (.ref 650), some (.int v1), some (.int v2), some (.int v3), some (.int v4), some (.int v5), some (.int s0)]) (st' := [.int 0, .int (q.1 670 (Int32.toNatClampNeg ((4 * v2) + v5))), .int (((20 * v1) + (4 * v2)) + v5), .ref 650]) 1 rfl ?_
      refine x_kill [6] ?_
      exact A172_104 hd hN hG hS
    · rw [if_neg hc9] at hG
      replace hS := hS.2 hc9
      refine x_run (pc' := 104) (lo' := [some (.ref 650), some (.int v1), some (.int v2), some (.int v3), some (.int v4), some (.int v5), some (.int s0)]) (st' := [.int 1, .int (q.1 670 (Int32.toNatClampNeg ((4 * v2) + v5))), .int (((20 * v1) + (4 * v2)) + v5), .ref 650]) 2 rfl ?_
      refine x_kill [6] ?_
      exact A172_104 hd hN hG hS
def F172_42 (v1 : Int32) (v2 : Int32) (v3 : Int32) (v4 : Int32) (v5 : Int32) (q : aQ) : (Int32 × aQ) ⊕ (aQ) := (if 4 ≤ v5 then .inr q else (if 2 ≤ v5 then F172_59 v1 v2 v3 v4 v5 2 q else F172_59 v1 v2 v3 v4 v5 1 q))
def S172_42 (v1 : Int32) (v2 : Int32) (v3 : Int32) (v4 : Int32) (v5 : Int32) (q : aQ) : Prop := ((4 ≤ v5) → True) ∧ (¬ (4 ≤ v5) → ((2 ≤ v5) → S172_59 v1 v2 v3 v4 v5 2 q) ∧ (¬ (2 ≤ v5) → S172_59 v1 v2 v3 v4 v5 1 q))
set_option maxRecDepth 100000 in
set_option maxHeartbeats 4000000 in
theorem A172_42 {l : Launch} {X : aX} {d : Nat} {r : Option Value} {h' : aH} {v1 : Int32} {v2 : Int32} {v3 : Int32} {v4 : Int32} {v5 : Int32} {q : aQ} (hd : 2 ≤ d) (hN : h'.1 = nk0) (hG : gL (fun (s : Int32 × aQ) => AW l X 172 c172 d r h' 42 [some (.ref 650), some (.int v1), some (.int v2), some (.int v3), some (.int v4), some (.int s.1), none] [] (hp s.2)) (fun (e : aQ) => AW l X 172 c172 d r h' 125 [some (.ref 650), some (.int v1), some (.int v2), some (.int v3), some (.int v4), none, none] [] (hp e)) (F172_42 v1 v2 v3 v4 v5 q)) (hS : S172_42 v1 v2 v3 v4 v5 q) : AW l X 172 c172 d r h' 42 [some (.ref 650), some (.int v1), some (.int v2), some (.int v3), some (.int v4), some (.int v5), none] [] (hp q) := by
  unfold F172_42 at hG
  unfold S172_42 at hS
  refine x_run (pc' := 45) (lo' := [some (.ref 650), some (.int v1), some (.int v2), some (.int v3), some (.int v4), some (.int v5), none]) (st' := [.int 4, .int v5]) 2 rfl ?_
  refine x_ic 125 rfl rfl (fun (hc5 : 4 ≤ v5) => ?_) (fun (hc5 : ¬ 4 ≤ v5) => ?_)
  · rw [if_pos hc5] at hG
    replace hS := hS.1 hc5
    refine x_kill [5] ?_
    exact hG
  · rw [if_neg hc5] at hG
    replace hS := hS.2 hc5
    refine x_run (pc' := 51) (lo' := [some (.ref 650), some (.int v1), some (.int v2), some (.int v3), some (.int v4), some (.int v5), none]) (st' := [.int 2, .int v5]) 2 rfl ?_
    refine x_ic 58 rfl rfl (fun (hc6 : 2 ≤ v5) => ?_) (fun (hc6 : ¬ 2 ≤ v5) => ?_)
    · rw [if_pos hc6] at hG
      replace hS := hS.1 hc6
      refine x_run (pc' := 59) (lo' := [some (.ref 650), some (.int v1), some (.int v2), some (.int v3), some (.int v4), some (.int v5), none]) (st' := [.int 2]) 1 rfl ?_
      exact A172_59 hd hN hG hS
    · rw [if_neg hc6] at hG
      replace hS := hS.2 hc6
      refine x_run (pc' := 59) (lo' := [some (.ref 650), some (.int v1), some (.int v2), some (.int v3), some (.int v4), some (.int v5), none]) (st' := [.int 1]) 2 rfl ?_
      exact A172_59 hd hN hG hS
def F172_146 (v1 : Int32) (v2 : Int32) (v3 : Int32) (v4 : Int32) (s0 : Int32) (q : aQ) : (Int32 × aQ) ⊕ (aQ) := .inl ((v2 + 1), (a_w (a_w q 650 22 s0) 666 (Int32.toNatClampNeg ((5 * v1) + v2)) (v3 ||| v4)))
def S172_146 (v1 : Int32) (v2 : Int32) (v3 : Int32) (v4 : Int32) (s0 : Int32) (q : aQ) : Prop := (s0 = 0 ∨ s0 = 1) ∧ (vp_in ((5 * v1) + v2) 125 ∧ (True))
set_option maxRecDepth 100000 in
set_option maxHeartbeats 4000000 in
theorem A172_146 {l : Launch} {X : aX} {d : Nat} {r : Option Value} {h' : aH} {v1 : Int32} {v2 : Int32} {v3 : Int32} {v4 : Int32} {s0 : Int32} {q : aQ} (hd : 2 ≤ d) (hN : h'.1 = nk0) (hG : gL (fun (s : Int32 × aQ) => AW l X 172 c172 d r h' 2 [some (.ref 650), some (.int v1), some (.int s.1), none, none, none, none] [] (hp s.2)) (fun (e : aQ) => AW l X 172 c172 d r h' 169 [some (.ref 650), some (.int v1), none, none, none, none, none] [] (hp e)) (F172_146 v1 v2 v3 v4 s0 q)) (hS : S172_146 v1 v2 v3 v4 s0 q) : AW l X 172 c172 d r h' 146 [some (.ref 650), some (.int v1), some (.int v2), some (.int v3), some (.int v4), none, none] [.int s0, .ref 650] (hp q) := by
  unfold F172_146 at hG
  unfold S172_146 at hS
  obtain ⟨o14, hS⟩ := hS
  refine x_pf (c := 598) (ne := 0) (h2 := hp (a_w q 650 22 s0)) rfl (by decide +kernel) (by decide +kernel) rfl (pv_z rfl o14) ?_
  refine x_run (pc' := 150) (lo' := [some (.ref 650), some (.int v1), some (.int v2), some (.int v3), some (.int v4), none, none]) (st' := [.ref 650]) 1 rfl ?_
  refine x_gf (c := 595) (ne := 0) (v := .ref 666) rfl (by decide +kernel) rfl rfl ?_
  refine x_run (pc' := 162) (lo' := [some (.ref 650), some (.int v1), some (.int v2), some (.int v3), some (.int v4), none, none]) (st' := [.int (v3 ||| v4), .int ((5 * v1) + v2), .ref 666]) 8 rfl ?_
  obtain ⟨o15, hS⟩ := hS
  refine p_is (n := 125) rfl rfl o15 ?_
  refine x_run (pc' := 2) (lo' := [some (.ref 650), some (.int v1), some (.int (v2 + 1)), some (.int v3), some (.int v4), none, none]) (st' := []) 2 rfl ?_
  refine x_kill [3, 4] ?_
  exact hG
def F172_141 (v1 : Int32) (v2 : Int32) (v3 : Int32) (v4 : Int32) (q : aQ) : (Int32 × aQ) ⊕ (aQ) := F172_146 v1 v2 v3 v4 1 q
def S172_141 (v1 : Int32) (v2 : Int32) (v3 : Int32) (v4 : Int32) (q : aQ) : Prop := S172_146 v1 v2 v3 v4 1 q
set_option maxRecDepth 100000 in
set_option maxHeartbeats 4000000 in
theorem A172_141 {l : Launch} {X : aX} {d : Nat} {r : Option Value} {h' : aH} {v1 : Int32} {v2 : Int32} {v3 : Int32} {v4 : Int32} {q : aQ} (hd : 2 ≤ d) (hN : h'.1 = nk0) (hG : gL (fun (s : Int32 × aQ) => AW l X 172 c172 d r h' 2 [some (.ref 650), some (.int v1), some (.int s.1), none, none, none, none] [] (hp s.2)) (fun (e : aQ) => AW l X 172 c172 d r h' 169 [some (.ref 650), some (.int v1), none, none, none, none, none] [] (hp e)) (F172_141 v1 v2 v3 v4 q)) (hS : S172_141 v1 v2 v3 v4 q) : AW l X 172 c172 d r h' 141 [some (.ref 650), some (.int v1), some (.int v2), some (.int v3), some (.int v4), none, none] [.ref 650] (hp q) := by
  unfold F172_141 at hG
  unfold S172_141 at hS
  refine x_run (pc' := 146) (lo' := [some (.ref 650), some (.int v1), some (.int v2), some (.int v3), some (.int v4), none, none]) (st' := [.int 1, .ref 650]) 2 rfl ?_
  exact A172_146 hd hN hG hS
def F172_125 (v1 : Int32) (v2 : Int32) (v3 : Int32) (v4 : Int32) (q : aQ) : (Int32 × aQ) ⊕ (aQ) := (if (q.1 650 22) = 0 then (if (v3 ||| v4) = v3 then F172_146 v1 v2 v3 v4 0 q else F172_141 v1 v2 v3 v4 q) else F172_141 v1 v2 v3 v4 q)
def S172_125 (v1 : Int32) (v2 : Int32) (v3 : Int32) (v4 : Int32) (q : aQ) : Prop := (((q.1 650 22) = 0) → (((v3 ||| v4) = v3) → S172_146 v1 v2 v3 v4 0 q) ∧ (¬ ((v3 ||| v4) = v3) → S172_141 v1 v2 v3 v4 q)) ∧ (¬ ((q.1 650 22) = 0) → S172_141 v1 v2 v3 v4 q)
set_option maxRecDepth 100000 in
set_option maxHeartbeats 4000000 in
theorem A172_125 {l : Launch} {X : aX} {d : Nat} {r : Option Value} {h' : aH} {v1 : Int32} {v2 : Int32} {v3 : Int32} {v4 : Int32} {q : aQ} (hd : 2 ≤ d) (hN : h'.1 = nk0) (hG : gL (fun (s : Int32 × aQ) => AW l X 172 c172 d r h' 2 [some (.ref 650), some (.int v1), some (.int s.1), none, none, none, none] [] (hp s.2)) (fun (e : aQ) => AW l X 172 c172 d r h' 169 [some (.ref 650), some (.int v1), none, none, none, none, none] [] (hp e)) (F172_125 v1 v2 v3 v4 q)) (hS : S172_125 v1 v2 v3 v4 q) : AW l X 172 c172 d r h' 125 [some (.ref 650), some (.int v1), some (.int v2), some (.int v3), some (.int v4), none, none] [] (hp q) := by
  unfold F172_125 at hG
  unfold S172_125 at hS
  refine x_run (pc' := 127) (lo' := [some (.ref 650), some (.int v1), some (.int v2), some (.int v3), some (.int v4), none, none]) (st' := [.ref 650, .ref 650]) 2 rfl ?_
  refine x_gf (c := 598) (ne := 0) (v := .int (q.1 650 22)) rfl (by decide +kernel) rfl rfl ?_
  refine x_if 141 rfl rfl (fun (hc13 : ¬ (q.1 650 22) = 0) => ?_) (fun (hc13 : (q.1 650 22) = 0) => ?_)
  · rw [if_neg hc13] at hG
    replace hS := hS.2 hc13
    exact A172_141 hd hN hG hS
  · rw [if_pos hc13] at hG
    replace hS := hS.1 hc13
    refine x_run (pc' := 138) (lo' := [some (.ref 650), some (.int v1), some (.int v2), some (.int v3), some (.int v4), none, none]) (st' := [.int v3, .int (v3 ||| v4), .ref 650]) 4 rfl ?_
    refine x_ic 145 rfl rfl (fun (hc16 : (v3 ||| v4) = v3) => ?_) (fun (hc16 : ¬ (v3 ||| v4) = v3) => ?_)
    · rw [if_pos hc16] at hG
      replace hS := hS.1 hc16
      refine x_run (pc' := 146) (lo' := [some (.ref 650), some (.int v1), some (.int v2), some (.int v3), some (.int v4), none, none]) (st' := [.int 0, .ref 650]) 1 rfl ?_
      exact A172_146 hd hN hG hS
    · rw [if_neg hc16] at hG
      replace hS := hS.2 hc16
      exact A172_141 hd hN hG hS
def F172_30 (v1 : Int32) (v2 : Int32) (s0 : Int32) (q : aQ) : (Int32 × aQ) ⊕ (aQ) := (fun (e12 : aQ) => F172_125 v1 v2 s0 (q.1 669 (Int32.toNatClampNeg v2)) e12) (a_lp (fun (s : Int32 × aQ) => F172_42 v1 v2 s0 (q.1 669 (Int32.toNatClampNeg v2)) s.1 s.2) 200 (0, q) q)
def S172_30 (v1 : Int32) (v2 : Int32) (s0 : Int32) (q : aQ) : Prop := vp_in v2 5 ∧ (a_sf (fun (s : Int32 × aQ) => F172_42 v1 v2 s0 (q.1 669 (Int32.toNatClampNeg v2)) s.1 s.2) (fun (s : Int32 × aQ) => S172_42 v1 v2 s0 (q.1 669 (Int32.toNatClampNeg v2)) s.1 s.2) 200 (0, q) ∧ (fun (e12 : aQ) => S172_125 v1 v2 s0 (q.1 669 (Int32.toNatClampNeg v2)) e12) (a_lp (fun (s : Int32 × aQ) => F172_42 v1 v2 s0 (q.1 669 (Int32.toNatClampNeg v2)) s.1 s.2) 200 (0, q) q))
set_option maxRecDepth 100000 in
set_option maxHeartbeats 4000000 in
theorem A172_30 {l : Launch} {X : aX} {d : Nat} {r : Option Value} {h' : aH} {v1 : Int32} {v2 : Int32} {s0 : Int32} {q : aQ} (hd : 2 ≤ d) (hN : h'.1 = nk0) (hG : gL (fun (s : Int32 × aQ) => AW l X 172 c172 d r h' 2 [some (.ref 650), some (.int v1), some (.int s.1), none, none, none, none] [] (hp s.2)) (fun (e : aQ) => AW l X 172 c172 d r h' 169 [some (.ref 650), some (.int v1), none, none, none, none, none] [] (hp e)) (F172_30 v1 v2 s0 q)) (hS : S172_30 v1 v2 s0 q) : AW l X 172 c172 d r h' 30 [some (.ref 650), some (.int v1), some (.int v2), none, none, none, none] [.int s0] (hp q) := by
  unfold F172_30 at hG
  unfold S172_30 at hS
  refine x_run (pc' := 32) (lo' := [some (.ref 650), some (.int v1), some (.int v2), some (.int s0), none, none, none]) (st' := [.ref 650]) 2 rfl ?_
  refine x_gf (c := 599) (ne := 0) (v := .ref 669) rfl (by decide +kernel) rfl rfl ?_
  refine x_run (pc' := 36) (lo' := [some (.ref 650), some (.int v1), some (.int v2), some (.int s0), none, none, none]) (st' := [.int v2, .ref 669]) 1 rfl ?_
  obtain ⟨o4, hS⟩ := hS
  refine p_ia (n := 5) (v := (q.1 669 (Int32.toNatClampNeg v2))) rfl rfl o4 rfl ?_
  refine x_run (pc' := 42) (lo' := [some (.ref 650), some (.int v1), some (.int v2), some (.int s0), some (.int (q.1 669 (Int32.toNatClampNeg v2))), some (.int 0), none]) (st' := []) 3 rfl ?_
  obtain ⟨ho, hS⟩ := hS
  refine x_loop (fun (s : Int32 × aQ) => F172_42 v1 v2 s0 (q.1 669 (Int32.toNatClampNeg v2)) s.1 s.2) (fun (s : Int32 × aQ) => S172_42 v1 v2 s0 (q.1 669 (Int32.toNatClampNeg v2)) s.1 s.2) (fun (s : Int32 × aQ) => AW l X 172 c172 d r h' 42 [some (.ref 650), some (.int v1), some (.int v2), some (.int s0), some (.int (q.1 669 (Int32.toNatClampNeg v2))), some (.int s.1), none] [] (hp s.2)) (fun (e : aQ) => AW l X 172 c172 d r h' 125 [some (.ref 650), some (.int v1), some (.int v2), some (.int s0), some (.int (q.1 669 (Int32.toNatClampNeg v2))), none, none] [] (hp e)) (fun s hs hg => A172_42 hd hN hg hs) 200 (0, q) ho (fun e12 he => ?_)
  rw [a_lp_eq he] at hG hS
  try dsimp only at hG hS
  exact A172_125 hd hN hG hS
def F172_2 (v1 : Int32) (v2 : Int32) (q : aQ) : (Int32 × aQ) ⊕ (aQ) := (if 5 ≤ v2 then .inr q else (if (q.1 665 (Int32.toNatClampNeg v1)) = 0 then F172_30 v1 v2 0 q else F172_30 v1 v2 (q.1 666 (Int32.toNatClampNeg ((5 * v1) + v2))) q))
def S172_2 (v1 : Int32) (v2 : Int32) (q : aQ) : Prop := ((5 ≤ v2) → True) ∧ (¬ (5 ≤ v2) → vp_in v1 25 ∧ ((((q.1 665 (Int32.toNatClampNeg v1)) = 0) → S172_30 v1 v2 0 q) ∧ (¬ ((q.1 665 (Int32.toNatClampNeg v1)) = 0) → vp_in ((5 * v1) + v2) 125 ∧ (S172_30 v1 v2 (q.1 666 (Int32.toNatClampNeg ((5 * v1) + v2))) q))))
set_option maxRecDepth 100000 in
set_option maxHeartbeats 4000000 in
theorem A172_2 {l : Launch} {X : aX} {d : Nat} {r : Option Value} {h' : aH} {v1 : Int32} {v2 : Int32} {q : aQ} (hd : 2 ≤ d) (hN : h'.1 = nk0) (hG : gL (fun (s : Int32 × aQ) => AW l X 172 c172 d r h' 2 [some (.ref 650), some (.int v1), some (.int s.1), none, none, none, none] [] (hp s.2)) (fun (e : aQ) => AW l X 172 c172 d r h' 169 [some (.ref 650), some (.int v1), none, none, none, none, none] [] (hp e)) (F172_2 v1 v2 q)) (hS : S172_2 v1 v2 q) : AW l X 172 c172 d r h' 2 [some (.ref 650), some (.int v1), some (.int v2), none, none, none, none] [] (hp q) := by
  unfold F172_2 at hG
  unfold S172_2 at hS
  refine x_run (pc' := 4) (lo' := [some (.ref 650), some (.int v1), some (.int v2), none, none, none, none]) (st' := [.int 5, .int v2]) 2 rfl ?_
  refine x_ic 169 rfl rfl (fun (hc1 : 5 ≤ v2) => ?_) (fun (hc1 : ¬ 5 ≤ v2) => ?_)
  · rw [if_pos hc1] at hG
    replace hS := hS.1 hc1
    refine x_kill [2] ?_
    exact hG
  · rw [if_neg hc1] at hG
    replace hS := hS.2 hc1
    refine x_run (pc' := 8) (lo' := [some (.ref 650), some (.int v1), some (.int v2), none, none, none, none]) (st' := [.ref 650]) 1 rfl ?_
    refine x_gf (c := 594) (ne := 0) (v := .ref 665) rfl (by decide +kernel) rfl rfl ?_
    refine x_run (pc' := 12) (lo' := [some (.ref 650), some (.int v1), some (.int v2), none, none, none, none]) (st' := [.int v1, .ref 665]) 1 rfl ?_
    obtain ⟨o2, hS⟩ := hS
    refine p_za (n := 25) (v := (q.1 665 (Int32.toNatClampNeg v1))) rfl rfl o2 rfl ?_
    refine x_if 29 rfl rfl (fun (hc3 : (q.1 665 (Int32.toNatClampNeg v1)) = 0) => ?_) (fun (hc3 : ¬ (q.1 665 (Int32.toNatClampNeg v1)) = 0) => ?_)
    · rw [if_pos hc3] at hG
      replace hS := hS.1 hc3
      refine x_run (pc' := 30) (lo' := [some (.ref 650), some (.int v1), some (.int v2), none, none, none, none]) (st' := [.int 0]) 1 rfl ?_
      exact A172_30 hd hN hG hS
    · rw [if_neg hc3] at hG
      replace hS := hS.2 hc3
      refine x_run (pc' := 17) (lo' := [some (.ref 650), some (.int v1), some (.int v2), none, none, none, none]) (st' := [.ref 650]) 1 rfl ?_
      refine x_gf (c := 595) (ne := 0) (v := .ref 666) rfl (by decide +kernel) rfl rfl ?_
      refine x_run (pc' := 25) (lo' := [some (.ref 650), some (.int v1), some (.int v2), none, none, none, none]) (st' := [.int ((5 * v1) + v2), .ref 666]) 5 rfl ?_
      obtain ⟨o17, hS⟩ := hS
      refine p_ia (n := 125) (v := (q.1 666 (Int32.toNatClampNeg ((5 * v1) + v2)))) rfl rfl o17 rfl ?_
      refine x_run (pc' := 30) (lo' := [some (.ref 650), some (.int v1), some (.int v2), none, none, none, none]) (st' := [.int (q.1 666 (Int32.toNatClampNeg ((5 * v1) + v2)))]) 1 rfl ?_
      exact A172_30 hd hN hG hS
def F172_191 (v1 : Int32) (s0 : Int32) (q : aQ) : aQ := (a_w (a_w q 650 22 s0) 665 (Int32.toNatClampNeg v1) 1)
def S172_191 (v1 : Int32) (s0 : Int32) (q : aQ) : Prop := (s0 = 0 ∨ s0 = 1) ∧ (vp_in v1 25 ∧ (True))
set_option maxRecDepth 100000 in
set_option maxHeartbeats 4000000 in
theorem A172_191 {l : Launch} {X : aX} {d : Nat} {r : Option Value} {h' : aH} {v1 : Int32} {s0 : Int32} {q : aQ} (hd : 2 ≤ d) (hN : h'.1 = nk0) (hG : gV r h' (F172_191 v1 s0 q)) (hS : S172_191 v1 s0 q) : AW l X 172 c172 d r h' 191 [some (.ref 650), some (.int v1), none, none, none, none, none] [.int s0, .ref 650] (hp q) := by
  unfold F172_191 at hG
  unfold S172_191 at hS
  obtain ⟨o20, hS⟩ := hS
  refine x_pf (c := 598) (ne := 0) (h2 := hp (a_w q 650 22 s0)) rfl (by decide +kernel) (by decide +kernel) rfl (pv_z rfl o20) ?_
  refine x_run (pc' := 195) (lo' := [some (.ref 650), some (.int v1), none, none, none, none, none]) (st' := [.ref 650]) 1 rfl ?_
  refine x_gf (c := 594) (ne := 0) (v := .ref 665) rfl (by decide +kernel) rfl rfl ?_
  refine x_run (pc' := 200) (lo' := [some (.ref 650), some (.int v1), none, none, none, none, none]) (st' := [.int 1, .int v1, .ref 665]) 2 rfl ?_
  obtain ⟨o21, hS⟩ := hS
  refine p_zs (n := 25) rfl rfl o21 (Or.inr rfl) ?_
  obtain ⟨rfl, rfl⟩ := hG
  exact x_ret rfl (by decide +kernel)
def F172_186 (v1 : Int32) (q : aQ) : aQ := F172_191 v1 1 q
def S172_186 (v1 : Int32) (q : aQ) : Prop := S172_191 v1 1 q
set_option maxRecDepth 100000 in
set_option maxHeartbeats 4000000 in
theorem A172_186 {l : Launch} {X : aX} {d : Nat} {r : Option Value} {h' : aH} {v1 : Int32} {q : aQ} (hd : 2 ≤ d) (hN : h'.1 = nk0) (hG : gV r h' (F172_186 v1 q)) (hS : S172_186 v1 q) : AW l X 172 c172 d r h' 186 [some (.ref 650), some (.int v1), none, none, none, none, none] [.ref 650] (hp q) := by
  unfold F172_186 at hG
  unfold S172_186 at hS
  refine x_run (pc' := 191) (lo' := [some (.ref 650), some (.int v1), none, none, none, none, none]) (st' := [.int 1, .ref 650]) 2 rfl ?_
  exact A172_191 hd hN hG hS
def F172_169 (v1 : Int32) (q : aQ) : aQ := (if (q.1 650 22) = 0 then (if (q.1 665 (Int32.toNatClampNeg v1)) = 0 then F172_186 v1 q else F172_191 v1 0 q) else F172_186 v1 q)
def S172_169 (v1 : Int32) (q : aQ) : Prop := (((q.1 650 22) = 0) → vp_in v1 25 ∧ ((((q.1 665 (Int32.toNatClampNeg v1)) = 0) → S172_186 v1 q) ∧ (¬ ((q.1 665 (Int32.toNatClampNeg v1)) = 0) → S172_191 v1 0 q))) ∧ (¬ ((q.1 650 22) = 0) → S172_186 v1 q)
set_option maxRecDepth 100000 in
set_option maxHeartbeats 4000000 in
theorem A172_169 {l : Launch} {X : aX} {d : Nat} {r : Option Value} {h' : aH} {v1 : Int32} {q : aQ} (hd : 2 ≤ d) (hN : h'.1 = nk0) (hG : gV r h' (F172_169 v1 q)) (hS : S172_169 v1 q) : AW l X 172 c172 d r h' 169 [some (.ref 650), some (.int v1), none, none, none, none, none] [] (hp q) := by
  unfold F172_169 at hG
  unfold S172_169 at hS
  refine x_run (pc' := 171) (lo' := [some (.ref 650), some (.int v1), none, none, none, none, none]) (st' := [.ref 650, .ref 650]) 2 rfl ?_
  refine x_gf (c := 598) (ne := 0) (v := .int (q.1 650 22)) rfl (by decide +kernel) rfl rfl ?_
  refine x_if 186 rfl rfl (fun (hc19 : ¬ (q.1 650 22) = 0) => ?_) (fun (hc19 : (q.1 650 22) = 0) => ?_)
  · rw [if_neg hc19] at hG
    replace hS := hS.2 hc19
    exact A172_186 hd hN hG hS
  · rw [if_pos hc19] at hG
    replace hS := hS.1 hc19
    refine x_run (pc' := 178) (lo' := [some (.ref 650), some (.int v1), none, none, none, none, none]) (st' := [.ref 650, .ref 650]) 1 rfl ?_
    refine x_gf (c := 594) (ne := 0) (v := .ref 665) rfl (by decide +kernel) rfl rfl ?_
    refine x_run (pc' := 182) (lo' := [some (.ref 650), some (.int v1), none, none, none, none, none]) (st' := [.int v1, .ref 665, .ref 650]) 1 rfl ?_
    obtain ⟨o22, hS⟩ := hS
    refine p_za (n := 25) (v := (q.1 665 (Int32.toNatClampNeg v1))) rfl rfl o22 rfl ?_
    refine x_if 190 rfl rfl (fun (hc23 : ¬ (q.1 665 (Int32.toNatClampNeg v1)) = 0) => ?_) (fun (hc23 : (q.1 665 (Int32.toNatClampNeg v1)) = 0) => ?_)
    · rw [if_neg hc23] at hG
      replace hS := hS.2 hc23
      refine x_run (pc' := 191) (lo' := [some (.ref 650), some (.int v1), none, none, none, none, none]) (st' := [.int 0, .ref 650]) 1 rfl ?_
      exact A172_191 hd hN hG hS
    · rw [if_pos hc23] at hG
      replace hS := hS.1 hc23
      exact A172_186 hd hN hG hS
def F172_0 (v1 : Int32) (q : aQ) : aQ := (fun (e18 : aQ) => F172_169 v1 e18) (a_lp (fun (s : Int32 × aQ) => F172_2 v1 s.1 s.2) 200 (0, q) q)
def S172_0 (v1 : Int32) (q : aQ) : Prop := a_sf (fun (s : Int32 × aQ) => F172_2 v1 s.1 s.2) (fun (s : Int32 × aQ) => S172_2 v1 s.1 s.2) 200 (0, q) ∧ (fun (e18 : aQ) => S172_169 v1 e18) (a_lp (fun (s : Int32 × aQ) => F172_2 v1 s.1 s.2) 200 (0, q) q)
set_option maxRecDepth 100000 in
set_option maxHeartbeats 4000000 in
theorem A172_0 {l : Launch} {X : aX} {d : Nat} {r : Option Value} {h' : aH} {v1 : Int32} {q : aQ} (hd : 2 ≤ d) (hN : h'.1 = nk0) (hG : gV r h' (F172_0 v1 q)) (hS : S172_0 v1 q) : AW l X 172 c172 d r h' 0 [some (.ref 650), some (.int v1), none, none, none, none, none] [] (hp q) := by
  unfold F172_0 at hG
  unfold S172_0 at hS
  refine x_run (pc' := 2) (lo' := [some (.ref 650), some (.int v1), some (.int 0), none, none, none, none]) (st' := []) 2 rfl ?_
  obtain ⟨ho, hS⟩ := hS
  refine x_loop (fun (s : Int32 × aQ) => F172_2 v1 s.1 s.2) (fun (s : Int32 × aQ) => S172_2 v1 s.1 s.2) (fun (s : Int32 × aQ) => AW l X 172 c172 d r h' 2 [some (.ref 650), some (.int v1), some (.int s.1), none, none, none, none] [] (hp s.2)) (fun (e : aQ) => AW l X 172 c172 d r h' 169 [some (.ref 650), some (.int v1), none, none, none, none, none] [] (hp e)) (fun s hs hg => A172_2 hd hN hg hs) 200 (0, q) ho (fun e18 he => ?_)
  rw [a_lp_eq he] at hG hS
  try dsimp only at hG hS
  exact A172_169 hd hN hG hS
theorem T172 {l : Launch} {X : aX} {d : Nat} {v1 : Int32} {q : aQ} (hd : 2 ≤ d) (hS : S172_0 v1 q) : Call l X d 172 [.ref 650, .int v1] (hp q) none (hp (F172_0 v1 q)) := Call.of ok172 (by decide) (Nat.le_of_ble_eq_true rfl) ⟨Nat.le_refl _, Nat.le_refl _⟩ (A172_0 hd rfl ⟨rfl, rfl⟩ hS)
/-- TypeForecastModel.mayRaise(II)V -/
def F173_53 (v1 : Int32) (v2 : Int32) (v3 : Int32) (q : aQ) : (Int32 × aQ) ⊕ (aQ) := .inl ((v3 + 1), q)
def S173_53 (v1 : Int32) (v2 : Int32) (v3 : Int32) (q : aQ) : Prop := True
set_option maxRecDepth 100000 in
set_option maxHeartbeats 4000000 in
theorem A173_53 {l : Launch} {X : aX} {d : Nat} {r : Option Value} {h' : aH} {v1 : Int32} {v2 : Int32} {v3 : Int32} {q : aQ} (hd : 3 ≤ d) (hN : h'.1 = nk0) (hG : gL (fun (s : Int32 × aQ) => AW l X 173 c173 d r h' 2 [some (.ref 650), some (.int v1), some (.int v2), some (.int s.1), none] [] (hp s.2)) (fun (e : aQ) => AW l X 173 c173 d r h' 59 [none, none, none, none, none] [] (hp e)) (F173_53 v1 v2 v3 q)) (hS : S173_53 v1 v2 v3 q) : AW l X 173 c173 d r h' 53 [some (.ref 650), some (.int v1), some (.int v2), some (.int v3), none] [] (hp q) := by
  unfold F173_53 at hG
  unfold S173_53 at hS
  refine x_run (pc' := 2) (lo' := [some (.ref 650), some (.int v1), some (.int v2), some (.int (v3 + 1)), none]) (st' := []) 2 rfl ?_
  exact hG
def F173_39 (v1 : Int32) (v2 : Int32) (v3 : Int32) (q : aQ) : (Int32 × aQ) ⊕ (aQ) := F173_53 v1 v2 v3 q
def S173_39 (v1 : Int32) (v2 : Int32) (v3 : Int32) (q : aQ) : Prop := S173_53 v1 v2 v3 q
set_option maxRecDepth 100000 in
set_option maxHeartbeats 4000000 in
theorem A173_39 {l : Launch} {X : aX} {d : Nat} {r : Option Value} {h' : aH} {v1 : Int32} {v2 : Int32} {v3 : Int32} {q : aQ} (hd : 3 ≤ d) (hN : h'.1 = nk0) (hG : gL (fun (s : Int32 × aQ) => AW l X 173 c173 d r h' 2 [some (.ref 650), some (.int v1), some (.int v2), some (.int s.1), none] [] (hp s.2)) (fun (e : aQ) => AW l X 173 c173 d r h' 59 [none, none, none, none, none] [] (hp e)) (F173_39 v1 v2 v3 q)) (hS : S173_39 v1 v2 v3 q) : AW l X 173 c173 d r h' 39 [some (.ref 650), some (.int v1), some (.int v2), some (.int v3), none] [] (hp q) := by
  unfold F173_39 at hG
  unfold S173_39 at hS
  refine x_run (pc' := 53) (lo' := [some (.ref 650), some (.int v1), some (.int v2), some (.int v3), none]) (st' := []) 1 rfl ?_
  exact A173_53 hd hN hG hS
def F173_2 (v1 : Int32) (v2 : Int32) (v3 : Int32) (q : aQ) : (Int32 × aQ) ⊕ (aQ) := (if 4 < v3 then .inr q else (if ((v2 >>> (v3 &&& 31)) &&& 1) = 0 then F173_53 v1 v2 v3 q else (if (F149_0 v1 v3 q) < 0 then F173_53 v1 v2 v3 (a_w q 668 (Int32.toNatClampNeg ((5 * v1) + v3)) 1) else F173_39 v1 v2 v3 (F172_0 (F147_0 (F149_0 v1 v3 q) 1 q) q))))
def S173_2 (v1 : Int32) (v2 : Int32) (v3 : Int32) (q : aQ) : Prop := ((4 < v3) → True) ∧ (¬ (4 < v3) → ((((v2 >>> (v3 &&& 31)) &&& 1) = 0) → S173_53 v1 v2 v3 q) ∧ (¬ (((v2 >>> (v3 &&& 31)) &&& 1) = 0) → S149_0 v1 v3 q ∧ ((((F149_0 v1 v3 q) < 0) → vp_in ((5 * v1) + v3) 120 ∧ (S173_53 v1 v2 v3 (a_w q 668 (Int32.toNatClampNeg ((5 * v1) + v3)) 1))) ∧ (¬ ((F149_0 v1 v3 q) < 0) → S147_0 (F149_0 v1 v3 q) 1 q ∧ (S172_0 (F147_0 (F149_0 v1 v3 q) 1 q) q ∧ (S173_39 v1 v2 v3 (F172_0 (F147_0 (F149_0 v1 v3 q) 1 q) q)))))))
set_option maxRecDepth 100000 in
set_option maxHeartbeats 4000000 in
theorem A173_2 {l : Launch} {X : aX} {d : Nat} {r : Option Value} {h' : aH} {v1 : Int32} {v2 : Int32} {v3 : Int32} {q : aQ} (hd : 3 ≤ d) (hN : h'.1 = nk0) (hG : gL (fun (s : Int32 × aQ) => AW l X 173 c173 d r h' 2 [some (.ref 650), some (.int v1), some (.int v2), some (.int s.1), none] [] (hp s.2)) (fun (e : aQ) => AW l X 173 c173 d r h' 59 [none, none, none, none, none] [] (hp e)) (F173_2 v1 v2 v3 q)) (hS : S173_2 v1 v2 v3 q) : AW l X 173 c173 d r h' 2 [some (.ref 650), some (.int v1), some (.int v2), some (.int v3), none] [] (hp q) := by
  unfold F173_2 at hG
  unfold S173_2 at hS
  refine x_run (pc' := 4) (lo' := [some (.ref 650), some (.int v1), some (.int v2), some (.int v3), none]) (st' := [.int 4, .int v3]) 2 rfl ?_
  refine x_ic 59 rfl rfl (fun (hc1 : 4 < v3) => ?_) (fun (hc1 : ¬ 4 < v3) => ?_)
  · rw [if_pos hc1] at hG
    replace hS := hS.1 hc1
    refine x_kill [0, 1, 2, 3] ?_
    exact hG
  · rw [if_neg hc1] at hG
    replace hS := hS.2 hc1
    refine x_run (pc' := 12) (lo' := [some (.ref 650), some (.int v1), some (.int v2), some (.int v3), none]) (st' := [.int ((v2 >>> (v3 &&& 31)) &&& 1)]) 5 rfl ?_
    refine x_if 53 rfl rfl (fun (hc2 : ((v2 >>> (v3 &&& 31)) &&& 1) = 0) => ?_) (fun (hc2 : ¬ ((v2 >>> (v3 &&& 31)) &&& 1) = 0) => ?_)
    · rw [if_pos hc2] at hG
      replace hS := hS.1 hc2
      exact A173_53 hd hN hG hS
    · rw [if_neg hc2] at hG
      replace hS := hS.2 hc2
      refine x_run (pc' := 18) (lo' := [some (.ref 650), some (.int v1), some (.int v2), some (.int v3), none]) (st' := [.int v3, .int v1, .ref 650]) 3 rfl ?_
      obtain ⟨o3, hS⟩ := hS
      refine x_cv (j := 149) (ne := 0) (vs := [.int v1, .int v3]) (rest := []) rfl (by decide +kernel) (by decide +kernel) (by decide) (Eq.trans rfl (show 2 = _ from by decide +kernel)) rfl (by decide +kernel) rfl (Nat.le_of_ble_eq_true rfl) (by omega) (T149 (Nat.le_refl 1) o3) (hp_m hN) ?_
      show AW l X 173 c173 d r h' 21 [some (.ref 650), some (.int v1), some (.int v2), some (.int v3), none] [.int (F149_0 v1 v3 q)] (hp q)
      refine x_run (pc' := 25) (lo' := [some (.ref 650), some (.int v1), some (.int v2), some (.int v3), some (.int (F149_0 v1 v3 q))]) (st' := [.int (F149_0 v1 v3 q)]) 2 rfl ?_
      refine x_if 42 rfl rfl (fun (hc4 : (F149_0 v1 v3 q) < 0) => ?_) (fun (hc4 : ¬ (F149_0 v1 v3 q) < 0) => ?_)
      · rw [if_pos hc4] at hG
        replace hS := hS.1 hc4
        refine x_run (pc' := 43) (lo' := [some (.ref 650), some (.int v1), some (.int v2), some (.int v3), some (.int (F149_0 v1 v3 q))]) (st' := [.ref 650]) 1 rfl ?_
        refine x_gf (c := 597) (ne := 0) (v := .ref 668) rfl (by decide +kernel) rfl rfl ?_
        refine x_run (pc' := 52) (lo' := [some (.ref 650), some (.int v1), some (.int v2), some (.int v3), some (.int (F149_0 v1 v3 q))]) (st' := [.int 1, .int ((5 * v1) + v3), .ref 668]) 6 rfl ?_
        obtain ⟨o5, hS⟩ := hS
        refine p_zs (n := 120) rfl rfl o5 (Or.inr rfl) ?_
        refine x_kill [4] ?_
        exact A173_53 hd hN hG hS
      · rw [if_neg hc4] at hG
        replace hS := hS.2 hc4
        refine x_run (pc' := 33) (lo' := [some (.ref 650), some (.int v1), some (.int v2), some (.int v3), some (.int (F149_0 v1 v3 q))]) (st' := [.int 1, .int (F149_0 v1 v3 q), .ref 650, .ref 650]) 4 rfl ?_
        obtain ⟨o6, hS⟩ := hS
        refine x_cv (j := 147) (ne := 0) (vs := [.int (F149_0 v1 v3 q), .int 1]) (rest := [.ref 650]) rfl (by decide +kernel) (by decide +kernel) (by decide) (Eq.trans rfl (show 2 = _ from by decide +kernel)) rfl (by decide +kernel) rfl (Nat.le_of_ble_eq_true rfl) (by omega) (T147 (Nat.le_refl 2) o6) (hp_m hN) ?_
        show AW l X 173 c173 d r h' 36 [some (.ref 650), some (.int v1), some (.int v2), some (.int v3), some (.int (F149_0 v1 v3 q))] [.int (F147_0 (F149_0 v1 v3 q) 1 q), .ref 650] (hp q)
        obtain ⟨o7, hS⟩ := hS
        refine x_cv (j := 172) (ne := 0) (vs := [.int (F147_0 (F149_0 v1 v3 q) 1 q)]) (rest := []) rfl (by decide +kernel) (by decide +kernel) (by decide) (Eq.trans rfl (show 1 = _ from by decide +kernel)) rfl (by decide +kernel) rfl (Nat.le_of_ble_eq_true rfl) (by omega) (T172 (Nat.le_refl 2) o7) (hp_m hN) ?_
        show AW l X 173 c173 d r h' 39 [some (.ref 650), some (.int v1), some (.int v2), some (.int v3), some (.int (F149_0 v1 v3 q))] [] (hp (F172_0 (F147_0 (F149_0 v1 v3 q) 1 q) q))
        refine x_kill [4] ?_
        exact A173_39 hd hN hG hS
def F173_59 (q : aQ) : aQ := q
def S173_59 (q : aQ) : Prop := True
set_option maxRecDepth 100000 in
set_option maxHeartbeats 4000000 in
theorem A173_59 {l : Launch} {X : aX} {d : Nat} {r : Option Value} {h' : aH} {q : aQ} (hd : 3 ≤ d) (hN : h'.1 = nk0) (hG : gV r h' (F173_59 q)) (hS : S173_59 q) : AW l X 173 c173 d r h' 59 [none, none, none, none, none] [] (hp q) := by
  unfold F173_59 at hG
  unfold S173_59 at hS
  obtain ⟨rfl, rfl⟩ := hG
  exact x_ret rfl (by decide +kernel)
def F173_0 (v1 : Int32) (v2 : Int32) (q : aQ) : aQ := (fun (e8 : aQ) => F173_59 e8) (a_lp (fun (s : Int32 × aQ) => F173_2 v1 v2 s.1 s.2) 200 (1, q) q)
def S173_0 (v1 : Int32) (v2 : Int32) (q : aQ) : Prop := a_sf (fun (s : Int32 × aQ) => F173_2 v1 v2 s.1 s.2) (fun (s : Int32 × aQ) => S173_2 v1 v2 s.1 s.2) 200 (1, q) ∧ (fun (e8 : aQ) => S173_59 e8) (a_lp (fun (s : Int32 × aQ) => F173_2 v1 v2 s.1 s.2) 200 (1, q) q)
set_option maxRecDepth 100000 in
set_option maxHeartbeats 4000000 in
theorem A173_0 {l : Launch} {X : aX} {d : Nat} {r : Option Value} {h' : aH} {v1 : Int32} {v2 : Int32} {q : aQ} (hd : 3 ≤ d) (hN : h'.1 = nk0) (hG : gV r h' (F173_0 v1 v2 q)) (hS : S173_0 v1 v2 q) : AW l X 173 c173 d r h' 0 [some (.ref 650), some (.int v1), some (.int v2), none, none] [] (hp q) := by
  unfold F173_0 at hG
  unfold S173_0 at hS
  refine x_run (pc' := 2) (lo' := [some (.ref 650), some (.int v1), some (.int v2), some (.int 1), none]) (st' := []) 2 rfl ?_
  obtain ⟨ho, hS⟩ := hS
  refine x_loop (fun (s : Int32 × aQ) => F173_2 v1 v2 s.1 s.2) (fun (s : Int32 × aQ) => S173_2 v1 v2 s.1 s.2) (fun (s : Int32 × aQ) => AW l X 173 c173 d r h' 2 [some (.ref 650), some (.int v1), some (.int v2), some (.int s.1), none] [] (hp s.2)) (fun (e : aQ) => AW l X 173 c173 d r h' 59 [none, none, none, none, none] [] (hp e)) (fun s hs hg => A173_2 hd hN hg hs) 200 (1, q) ho (fun e8 he => ?_)
  rw [a_lp_eq he] at hG hS
  try dsimp only at hG hS
  exact A173_59 hd hN hG hS
theorem T173 {l : Launch} {X : aX} {d : Nat} {v1 : Int32} {v2 : Int32} {q : aQ} (hd : 3 ≤ d) (hS : S173_0 v1 v2 q) : Call l X d 173 [.ref 650, .int v1, .int v2] (hp q) none (hp (F173_0 v1 v2 q)) := Call.of ok173 (by decide) (Nat.le_of_ble_eq_true rfl) ⟨Nat.le_refl _, Nat.le_refl _⟩ (A173_0 hd rfl ⟨rfl, rfl⟩ hS)
/-- TypeForecastModel.through(I)V -/
def F174_352 (s0 : Int32) (q : aQ) : aQ := (F172_0 s0 q)
def S174_352 (s0 : Int32) (q : aQ) : Prop := S172_0 s0 q ∧ (True)
set_option maxRecDepth 100000 in
set_option maxHeartbeats 4000000 in
theorem A174_352 {l : Launch} {X : aX} {d : Nat} {r : Option Value} {h' : aH} {s0 : Int32} {q : aQ} (hd : 6 ≤ d) (hN : h'.1 = nk0) (hG : gV r h' (F174_352 s0 q)) (hS : S174_352 s0 q) : AW l X 174 c174 d r h' 352 [none, none, none] [.int s0, .ref 650] (hp q) := by
  unfold F174_352 at hG
  unfold S174_352 at hS
  obtain ⟨o23, hS⟩ := hS
  refine x_cv (j := 172) (ne := 0) (vs := [.int s0]) (rest := []) rfl (by decide +kernel) (by decide +kernel) (by decide) (Eq.trans rfl (show 1 = _ from by decide +kernel)) rfl (by decide +kernel) rfl (Nat.le_of_ble_eq_true rfl) (by omega) (T172 (Nat.le_refl 2) o23) (hp_m hN) ?_
  show AW l X 174 c174 d r h' 355 [none, none, none] [] (hp (F172_0 s0 q))
  obtain ⟨rfl, rfl⟩ := hG
  exact x_ret rfl (by decide +kernel)
def F174_327 (v1 : Int32) (q : aQ) : aQ := (if (q.1 655 (Int32.toNatClampNeg v1)) = 5 then F174_352 (F146_0 v1 q) q else F174_352 (F147_0 v1 1 q) q)
def S174_327 (v1 : Int32) (q : aQ) : Prop := vp_in v1 24 ∧ ((((q.1 655 (Int32.toNatClampNeg v1)) = 5) → S146_0 v1 q ∧ (S174_352 (F146_0 v1 q) q)) ∧ (¬ ((q.1 655 (Int32.toNatClampNeg v1)) = 5) → S147_0 v1 1 q ∧ (S174_352 (F147_0 v1 1 q) q)))
set_option maxRecDepth 100000 in
set_option maxHeartbeats 4000000 in
theorem A174_327 {l : Launch} {X : aX} {d : Nat} {r : Option Value} {h' : aH} {v1 : Int32} {q : aQ} (hd : 6 ≤ d) (hN : h'.1 = nk0) (hG : gV r h' (F174_327 v1 q)) (hS : S174_327 v1 q) : AW l X 174 c174 d r h' 327 [some (.ref 650), some (.int v1), none] [] (hp q) := by
  unfold F174_327 at hG
  unfold S174_327 at hS
  refine x_run (pc' := 329) (lo' := [some (.ref 650), some (.int v1), none]) (st' := [.ref 650, .ref 650]) 2 rfl ?_
  refine x_gf (c := 582) (ne := 0) (v := .ref 655) rfl (by decide +kernel) rfl rfl ?_
  refine x_run (pc' := 333) (lo' := [some (.ref 650), some (.int v1), none]) (st' := [.int v1, .ref 655, .ref 650]) 1 rfl ?_
  obtain ⟨o20, hS⟩ := hS
  refine p_ia (n := 24) (v := (q.1 655 (Int32.toNatClampNeg v1))) rfl rfl o20 rfl ?_
  refine x_run (pc' := 335) (lo' := [some (.ref 650), some (.int v1), none]) (st' := [.int 5, .int (q.1 655 (Int32.toNatClampNeg v1)), .ref 650]) 1 rfl ?_
  refine x_ic 346 rfl rfl (fun (hc21 : ¬ (q.1 655 (Int32.toNatClampNeg v1)) = 5) => ?_) (fun (hc21 : (q.1 655 (Int32.toNatClampNeg v1)) = 5) => ?_)
  · rw [if_neg hc21] at hG
    replace hS := hS.2 hc21
    refine x_run (pc' := 349) (lo' := [some (.ref 650), some (.int v1), none]) (st' := [.int 1, .int v1, .ref 650, .ref 650]) 3 rfl ?_
    obtain ⟨o22, hS⟩ := hS
    refine x_cv (j := 147) (ne := 0) (vs := [.int v1, .int 1]) (rest := [.ref 650]) rfl (by decide +kernel) (by decide +kernel) (by decide) (Eq.trans rfl (show 2 = _ from by decide +kernel)) rfl (by decide +kernel) rfl (Nat.le_of_ble_eq_true rfl) (by omega) (T147 (Nat.le_refl 2) o22) (hp_m hN) ?_
    show AW l X 174 c174 d r h' 352 [some (.ref 650), some (.int v1), none] [.int (F147_0 v1 1 q), .ref 650] (hp q)
    refine x_kill [0, 1] ?_
    exact A174_352 hd hN hG hS
  · rw [if_pos hc21] at hG
    replace hS := hS.1 hc21
    refine x_run (pc' := 340) (lo' := [some (.ref 650), some (.int v1), none]) (st' := [.int v1, .ref 650, .ref 650]) 2 rfl ?_
    obtain ⟨o24, hS⟩ := hS
    refine x_cv (j := 146) (ne := 0) (vs := [.int v1]) (rest := [.ref 650]) rfl (by decide +kernel) (by decide +kernel) (by decide) (Eq.trans rfl (show 1 = _ from by decide +kernel)) rfl (by decide +kernel) rfl (Nat.le_of_ble_eq_true rfl) (by omega) (T146 (Nat.le_refl 1) o24) (hp_m hN) ?_
    show AW l X 174 c174 d r h' 343 [some (.ref 650), some (.int v1), none] [.int (F146_0 v1 q), .ref 650] (hp q)
    refine x_run (pc' := 352) (lo' := [some (.ref 650), some (.int v1), none]) (st' := [.int (F146_0 v1 q), .ref 650]) 1 rfl ?_
    refine x_kill [0, 1] ?_
    exact A174_352 hd hN hG hS
def F174_313 (v1 : Int32) (s0 : Int32) (q : aQ) : aQ := (if s0 = 0 then q else F174_327 v1 (F168_0 (q.1 657 (Int32.toNatClampNeg v1)) 0 q))
def S174_313 (v1 : Int32) (s0 : Int32) (q : aQ) : Prop := ((s0 = 0) → True) ∧ (¬ (s0 = 0) → vp_in v1 24 ∧ (S168_0 (q.1 657 (Int32.toNatClampNeg v1)) 0 q ∧ (S174_327 v1 (F168_0 (q.1 657 (Int32.toNatClampNeg v1)) 0 q))))
set_option maxRecDepth 100000 in
set_option maxHeartbeats 4000000 in
theorem A174_313 {l : Launch} {X : aX} {d : Nat} {r : Option Value} {h' : aH} {v1 : Int32} {s0 : Int32} {q : aQ} (hd : 6 ≤ d) (hN : h'.1 = nk0) (hG : gV r h' (F174_313 v1 s0 q)) (hS : S174_313 v1 s0 q) : AW l X 174 c174 d r h' 313 [some (.ref 650), some (.int v1), none] [.int s0] (hp q) := by
  unfold F174_313 at hG
  unfold S174_313 at hS
  refine x_if 355 rfl rfl (fun (hc17 : s0 = 0) => ?_) (fun (hc17 : ¬ s0 = 0) => ?_)
  · rw [if_pos hc17] at hG
    replace hS := hS.1 hc17
    obtain ⟨rfl, rfl⟩ := hG
    exact x_ret rfl (by decide +kernel)
  · rw [if_neg hc17] at hG
    replace hS := hS.2 hc17
    refine x_run (pc' := 318) (lo' := [some (.ref 650), some (.int v1), none]) (st' := [.ref 650, .ref 650]) 2 rfl ?_
    refine x_gf (c := 584) (ne := 0) (v := .ref 657) rfl (by decide +kernel) rfl rfl ?_
    refine x_run (pc' := 322) (lo' := [some (.ref 650), some (.int v1), none]) (st' := [.int v1, .ref 657, .ref 650]) 1 rfl ?_
    obtain ⟨o18, hS⟩ := hS
    refine p_ia (n := 24) (v := (q.1 657 (Int32.toNatClampNeg v1))) rfl rfl o18 rfl ?_
    refine x_run (pc' := 324) (lo' := [some (.ref 650), some (.int v1), none]) (st' := [.int 0, .int (q.1 657 (Int32.toNatClampNeg v1)), .ref 650]) 1 rfl ?_
    obtain ⟨o19, hS⟩ := hS
    refine x_cv (j := 168) (ne := 0) (vs := [.int (q.1 657 (Int32.toNatClampNeg v1)), .int 0]) (rest := []) rfl (by decide +kernel) (by decide +kernel) (by decide) (Eq.trans rfl (show 2 = _ from by decide +kernel)) rfl (by decide +kernel) rfl (Nat.le_of_ble_eq_true rfl) (by omega) (T168 (Nat.le_refl 4) o19) (hp_m hN) ?_
    show AW l X 174 c174 d r h' 327 [some (.ref 650), some (.int v1), none] [] (hp (F168_0 (q.1 657 (Int32.toNatClampNeg v1)) 0 q))
    exact A174_327 hd hN hG hS
def F174_302 (v1 : Int32) (q : aQ) : aQ := F174_313 v1 ((F167_0 (q.1 657 (Int32.toNatClampNeg v1)) 0 q).1) ((F167_0 (q.1 657 (Int32.toNatClampNeg v1)) 0 q).2)
def S174_302 (v1 : Int32) (q : aQ) : Prop := vp_in v1 24 ∧ (S167_0 (q.1 657 (Int32.toNatClampNeg v1)) 0 q ∧ (S174_313 v1 ((F167_0 (q.1 657 (Int32.toNatClampNeg v1)) 0 q).1) ((F167_0 (q.1 657 (Int32.toNatClampNeg v1)) 0 q).2)))
set_option maxRecDepth 100000 in
set_option maxHeartbeats 4000000 in
theorem A174_302 {l : Launch} {X : aX} {d : Nat} {r : Option Value} {h' : aH} {v1 : Int32} {q : aQ} (hd : 6 ≤ d) (hN : h'.1 = nk0) (hG : gV r h' (F174_302 v1 q)) (hS : S174_302 v1 q) : AW l X 174 c174 d r h' 302 [some (.ref 650), some (.int v1), none] [] (hp q) := by
  unfold F174_302 at hG
  unfold S174_302 at hS
  refine x_run (pc' := 304) (lo' := [some (.ref 650), some (.int v1), none]) (st' := [.ref 650, .ref 650]) 2 rfl ?_
  refine x_gf (c := 584) (ne := 0) (v := .ref 657) rfl (by decide +kernel) rfl rfl ?_
  refine x_run (pc' := 308) (lo' := [some (.ref 650), some (.int v1), none]) (st' := [.int v1, .ref 657, .ref 650]) 1 rfl ?_
  obtain ⟨o15, hS⟩ := hS
  refine p_ia (n := 24) (v := (q.1 657 (Int32.toNatClampNeg v1))) rfl rfl o15 rfl ?_
  refine x_run (pc' := 310) (lo' := [some (.ref 650), some (.int v1), none]) (st' := [.int 0, .int (q.1 657 (Int32.toNatClampNeg v1)), .ref 650]) 1 rfl ?_
  obtain ⟨o16, hS⟩ := hS
  refine x_cv (j := 167) (ne := 0) (vs := [.int (q.1 657 (Int32.toNatClampNeg v1)), .int 0]) (rest := []) rfl (by decide +kernel) (by decide +kernel) (by decide) (Eq.trans rfl (show 2 = _ from by decide +kernel)) rfl (by decide +kernel) rfl (Nat.le_of_ble_eq_true rfl) (by omega) (T167 (Nat.le_refl 3) o16) (hp_m hN) ?_
  show AW l X 174 c174 d r h' 313 [some (.ref 650), some (.int v1), none] [.int (F167_0 (q.1 657 (Int32.toNatClampNeg v1)) 0 q).1] (hp (F167_0 (q.1 657 (Int32.toNatClampNeg v1)) 0 q).2)
  exact A174_313 hd hN hG hS
def F174_292 (v1 : Int32) (q : aQ) : aQ := F174_302 v1 (F166_0 (q.1 657 (Int32.toNatClampNeg v1)) q)
def S174_292 (v1 : Int32) (q : aQ) : Prop := vp_in v1 24 ∧ (S166_0 (q.1 657 (Int32.toNatClampNeg v1)) q ∧ (S174_302 v1 (F166_0 (q.1 657 (Int32.toNatClampNeg v1)) q)))
set_option maxRecDepth 100000 in
set_option maxHeartbeats 4000000 in
theorem A174_292 {l : Launch} {X : aX} {d : Nat} {r : Option Value} {h' : aH} {v1 : Int32} {q : aQ} (hd : 6 ≤ d) (hN : h'.1 = nk0) (hG : gV r h' (F174_292 v1 q)) (hS : S174_292 v1 q) : AW l X 174 c174 d r h' 292 [some (.ref 650), some (.int v1), none] [] (hp q) := by
  unfold F174_292 at hG
  unfold S174_292 at hS
  refine x_run (pc' := 294) (lo' := [some (.ref 650), some (.int v1), none]) (st' := [.ref 650, .ref 650]) 2 rfl ?_
  refine x_gf (c := 584) (ne := 0) (v := .ref 657) rfl (by decide +kernel) rfl rfl ?_
  refine x_run (pc' := 298) (lo' := [some (.ref 650), some (.int v1), none]) (st' := [.int v1, .ref 657, .ref 650]) 1 rfl ?_
  obtain ⟨o13, hS⟩ := hS
  refine p_ia (n := 24) (v := (q.1 657 (Int32.toNatClampNeg v1))) rfl rfl o13 rfl ?_
  obtain ⟨o14, hS⟩ := hS
  refine x_cv (j := 166) (ne := 0) (vs := [.int (q.1 657 (Int32.toNatClampNeg v1))]) (rest := []) rfl (by decide +kernel) (by decide +kernel) (by decide) (Eq.trans rfl (show 1 = _ from by decide +kernel)) rfl (by decide +kernel) rfl (Nat.le_of_ble_eq_true rfl) (by omega) (T166 (Nat.le_refl 5) o14) (hp_m hN) ?_
  show AW l X 174 c174 d r h' 302 [some (.ref 650), some (.int v1), none] [] (hp (F166_0 (q.1 657 (Int32.toNatClampNeg v1)) q))
  exact A174_302 hd hN hG hS
def F174_287 (v1 : Int32) (q : aQ) : aQ := F174_292 v1 (F170_0 v1 q)
def S174_287 (v1 : Int32) (q : aQ) : Prop := S170_0 v1 q ∧ (S174_292 v1 (F170_0 v1 q))
set_option maxRecDepth 100000 in
set_option maxHeartbeats 4000000 in
theorem A174_287 {l : Launch} {X : aX} {d : Nat} {r : Option Value} {h' : aH} {v1 : Int32} {q : aQ} (hd : 6 ≤ d) (hN : h'.1 = nk0) (hG : gV r h' (F174_287 v1 q)) (hS : S174_287 v1 q) : AW l X 174 c174 d r h' 287 [some (.ref 650), some (.int v1), none] [] (hp q) := by
  unfold F174_287 at hG
  unfold S174_287 at hS
  refine x_run (pc' := 289) (lo' := [some (.ref 650), some (.int v1), none]) (st' := [.int v1, .ref 650]) 2 rfl ?_
  obtain ⟨o12, hS⟩ := hS
  refine x_cv (j := 170) (ne := 0) (vs := [.int v1]) (rest := []) rfl (by decide +kernel) (by decide +kernel) (by decide) (Eq.trans rfl (show 1 = _ from by decide +kernel)) rfl (by decide +kernel) rfl (Nat.le_of_ble_eq_true rfl) (by omega) (T170 (Nat.le_refl 1) o12) (hp_m hN) ?_
  show AW l X 174 c174 d r h' 292 [some (.ref 650), some (.int v1), none] [] (hp (F170_0 v1 q))
  exact A174_292 hd hN hG hS
def F174_277 (v1 : Int32) (q : aQ) : aQ := F174_287 v1 (F172_0 (F147_0 v1 0 q) q)
def S174_277 (v1 : Int32) (q : aQ) : Prop := S147_0 v1 0 q ∧ (S172_0 (F147_0 v1 0 q) q ∧ (S174_287 v1 (F172_0 (F147_0 v1 0 q) q)))
set_option maxRecDepth 100000 in
set_option maxHeartbeats 4000000 in
theorem A174_277 {l : Launch} {X : aX} {d : Nat} {r : Option Value} {h' : aH} {v1 : Int32} {q : aQ} (hd : 6 ≤ d) (hN : h'.1 = nk0) (hG : gV r h' (F174_277 v1 q)) (hS : S174_277 v1 q) : AW l X 174 c174 d r h' 277 [some (.ref 650), some (.int v1), none] [] (hp q) := by
  unfold F174_277 at hG
  unfold S174_277 at hS
  refine x_run (pc' := 281) (lo' := [some (.ref 650), some (.int v1), none]) (st' := [.int 0, .int v1, .ref 650, .ref 650]) 4 rfl ?_
  obtain ⟨o27, hS⟩ := hS
  refine x_cv (j := 147) (ne := 0) (vs := [.int v1, .int 0]) (rest := [.ref 650]) rfl (by decide +kernel) (by decide +kernel) (by decide) (Eq.trans rfl (show 2 = _ from by decide +kernel)) rfl (by decide +kernel) rfl (Nat.le_of_ble_eq_true rfl) (by omega) (T147 (Nat.le_refl 2) o27) (hp_m hN) ?_
  show AW l X 174 c174 d r h' 284 [some (.ref 650), some (.int v1), none] [.int (F147_0 v1 0 q), .ref 650] (hp q)
  obtain ⟨o28, hS⟩ := hS
  refine x_cv (j := 172) (ne := 0) (vs := [.int (F147_0 v1 0 q)]) (rest := []) rfl (by decide +kernel) (by decide +kernel) (by decide) (Eq.trans rfl (show 1 = _ from by decide +kernel)) rfl (by decide +kernel) rfl (Nat.le_of_ble_eq_true rfl) (by omega) (T172 (Nat.le_refl 2) o28) (hp_m hN) ?_
  show AW l X 174 c174 d r h' 287 [some (.ref 650), some (.int v1), none] [] (hp (F172_0 (F147_0 v1 0 q) q))
  exact A174_287 hd hN hG hS
def F174_263 (v1 : Int32) (s0 : Int32) (q : aQ) : aQ := (if s0 = 0 then F174_287 v1 q else F174_277 v1 (F168_0 (q.1 657 (Int32.toNatClampNeg v1)) 1 q))
def S174_263 (v1 : Int32) (s0 : Int32) (q : aQ) : Prop := ((s0 = 0) → S174_287 v1 q) ∧ (¬ (s0 = 0) → vp_in v1 24 ∧ (S168_0 (q.1 657 (Int32.toNatClampNeg v1)) 1 q ∧ (S174_277 v1 (F168_0 (q.1 657 (Int32.toNatClampNeg v1)) 1 q))))
set_option maxRecDepth 100000 in
set_option maxHeartbeats 4000000 in
theorem A174_263 {l : Launch} {X : aX} {d : Nat} {r : Option Value} {h' : aH} {v1 : Int32} {s0 : Int32} {q : aQ} (hd : 6 ≤ d) (hN : h'.1 = nk0) (hG : gV r h' (F174_263 v1 s0 q)) (hS : S174_263 v1 s0 q) : AW l X 174 c174 d r h' 263 [some (.ref 650), some (.int v1), none] [.int s0] (hp q) := by
  unfold F174_263 at hG
  unfold S174_263 at hS
  refine x_if 287 rfl rfl (fun (hc11 : s0 = 0) => ?_) (fun (hc11 : ¬ s0 = 0) => ?_)
  · rw [if_pos hc11] at hG
    replace hS := hS.1 hc11
    exact A174_287 hd hN hG hS
  · rw [if_neg hc11] at hG
    replace hS := hS.2 hc11
    refine x_run (pc' := 268) (lo' := [some (.ref 650), some (.int v1), none]) (st' := [.ref 650, .ref 650]) 2 rfl ?_
    refine x_gf (c := 584) (ne := 0) (v := .ref 657) rfl (by decide +kernel) rfl rfl ?_
    refine x_run (pc' := 272) (lo' := [some (.ref 650), some (.int v1), none]) (st' := [.int v1, .ref 657, .ref 650]) 1 rfl ?_
    obtain ⟨o25, hS⟩ := hS
    refine p_ia (n := 24) (v := (q.1 657 (Int32.toNatClampNeg v1))) rfl rfl o25 rfl ?_
    refine x_run (pc' := 274) (lo' := [some (.ref 650), some (.int v1), none]) (st' := [.int 1, .int (q.1 657 (Int32.toNatClampNeg v1)), .ref 650]) 1 rfl ?_
    obtain ⟨o26, hS⟩ := hS
    refine x_cv (j := 168) (ne := 0) (vs := [.int (q.1 657 (Int32.toNatClampNeg v1)), .int 1]) (rest := []) rfl (by decide +kernel) (by decide +kernel) (by decide) (Eq.trans rfl (show 2 = _ from by decide +kernel)) rfl (by decide +kernel) rfl (Nat.le_of_ble_eq_true rfl) (by omega) (T168 (Nat.le_refl 4) o26) (hp_m hN) ?_
    show AW l X 174 c174 d r h' 277 [some (.ref 650), some (.int v1), none] [] (hp (F168_0 (q.1 657 (Int32.toNatClampNeg v1)) 1 q))
    exact A174_277 hd hN hG hS
def F174_252 (v1 : Int32) (q : aQ) : aQ := F174_263 v1 ((F167_0 (q.1 657 (Int32.toNatClampNeg v1)) 1 q).1) ((F167_0 (q.1 657 (Int32.toNatClampNeg v1)) 1 q).2)
def S174_252 (v1 : Int32) (q : aQ) : Prop := vp_in v1 24 ∧ (S167_0 (q.1 657 (Int32.toNatClampNeg v1)) 1 q ∧ (S174_263 v1 ((F167_0 (q.1 657 (Int32.toNatClampNeg v1)) 1 q).1) ((F167_0 (q.1 657 (Int32.toNatClampNeg v1)) 1 q).2)))
set_option maxRecDepth 100000 in
set_option maxHeartbeats 4000000 in
theorem A174_252 {l : Launch} {X : aX} {d : Nat} {r : Option Value} {h' : aH} {v1 : Int32} {q : aQ} (hd : 6 ≤ d) (hN : h'.1 = nk0) (hG : gV r h' (F174_252 v1 q)) (hS : S174_252 v1 q) : AW l X 174 c174 d r h' 252 [some (.ref 650), some (.int v1), none] [] (hp q) := by
  unfold F174_252 at hG
  unfold S174_252 at hS
  refine x_run (pc' := 254) (lo' := [some (.ref 650), some (.int v1), none]) (st' := [.ref 650, .ref 650]) 2 rfl ?_
  refine x_gf (c := 584) (ne := 0) (v := .ref 657) rfl (by decide +kernel) rfl rfl ?_
  refine x_run (pc' := 258) (lo' := [some (.ref 650), some (.int v1), none]) (st' := [.int v1, .ref 657, .ref 650]) 1 rfl ?_
  obtain ⟨o9, hS⟩ := hS
  refine p_ia (n := 24) (v := (q.1 657 (Int32.toNatClampNeg v1))) rfl rfl o9 rfl ?_
  refine x_run (pc' := 260) (lo' := [some (.ref 650), some (.int v1), none]) (st' := [.int 1, .int (q.1 657 (Int32.toNatClampNeg v1)), .ref 650]) 1 rfl ?_
  obtain ⟨o10, hS⟩ := hS
  refine x_cv (j := 167) (ne := 0) (vs := [.int (q.1 657 (Int32.toNatClampNeg v1)), .int 1]) (rest := []) rfl (by decide +kernel) (by decide +kernel) (by decide) (Eq.trans rfl (show 2 = _ from by decide +kernel)) rfl (by decide +kernel) rfl (Nat.le_of_ble_eq_true rfl) (by omega) (T167 (Nat.le_refl 3) o10) (hp_m hN) ?_
  show AW l X 174 c174 d r h' 263 [some (.ref 650), some (.int v1), none] [.int (F167_0 (q.1 657 (Int32.toNatClampNeg v1)) 1 q).1] (hp (F167_0 (q.1 657 (Int32.toNatClampNeg v1)) 1 q).2)
  exact A174_263 hd hN hG hS
def F174_236 (v1 : Int32) (q : aQ) : aQ := F174_252 v1 (F173_0 v1 (q.1 673 (Int32.toNatClampNeg (q.1 657 (Int32.toNatClampNeg v1)))) q)
def S174_236 (v1 : Int32) (q : aQ) : Prop := vp_in v1 24 ∧ (vp_in (q.1 657 (Int32.toNatClampNeg v1)) 60 ∧ (S173_0 v1 (q.1 673 (Int32.toNatClampNeg (q.1 657 (Int32.toNatClampNeg v1)))) q ∧ (S174_252 v1 (F173_0 v1 (q.1 673 (Int32.toNatClampNeg (q.1 657 (Int32.toNatClampNeg v1)))) q))))
set_option maxRecDepth 100000 in
set_option maxHeartbeats 4000000 in
theorem A174_236 {l : Launch} {X : aX} {d : Nat} {r : Option Value} {h' : aH} {v1 : Int32} {q : aQ} (hd : 6 ≤ d) (hN : h'.1 = nk0) (hG : gV r h' (F174_236 v1 q)) (hS : S174_236 v1 q) : AW l X 174 c174 d r h' 236 [some (.ref 650), some (.int v1), none] [] (hp q) := by
  unfold F174_236 at hG
  unfold S174_236 at hS
  refine x_run (pc' := 239) (lo' := [some (.ref 650), some (.int v1), none]) (st' := [.ref 650, .int v1, .ref 650]) 3 rfl ?_
  refine x_gf (c := 603) (ne := 0) (v := .ref 673) rfl (by decide +kernel) rfl rfl ?_
  refine x_run (pc' := 243) (lo' := [some (.ref 650), some (.int v1), none]) (st' := [.ref 650, .ref 673, .int v1, .ref 650]) 1 rfl ?_
  refine x_gf (c := 584) (ne := 0) (v := .ref 657) rfl (by decide +kernel) rfl rfl ?_
  refine x_run (pc' := 247) (lo' := [some (.ref 650), some (.int v1), none]) (st' := [.int v1, .ref 657, .ref 673, .int v1, .ref 650]) 1 rfl ?_
  obtain ⟨o6, hS⟩ := hS
  refine p_ia (n := 24) (v := (q.1 657 (Int32.toNatClampNeg v1))) rfl rfl o6 rfl ?_
  obtain ⟨o7, hS⟩ := hS
  refine p_ia (n := 60) (v := (q.1 673 (Int32.toNatClampNeg (q.1 657 (Int32.toNatClampNeg v1))))) rfl rfl o7 rfl ?_
  obtain ⟨o8, hS⟩ := hS
  refine x_cv (j := 173) (ne := 0) (vs := [.int v1, .int (q.1 673 (Int32.toNatClampNeg (q.1 657 (Int32.toNatClampNeg v1))))]) (rest := []) rfl (by decide +kernel) (by decide +kernel) (by decide) (Eq.trans rfl (show 2 = _ from by decide +kernel)) rfl (by decide +kernel) rfl (Nat.le_of_ble_eq_true rfl) (by omega) (T173 (Nat.le_refl 3) o8) (hp_m hN) ?_
  show AW l X 174 c174 d r h' 252 [some (.ref 650), some (.int v1), none] [] (hp (F173_0 v1 (q.1 673 (Int32.toNatClampNeg (q.1 657 (Int32.toNatClampNeg v1)))) q))
  exact A174_252 hd hN hG hS
def F174_116 (v1 : Int32) (v2 : Int32) (q : aQ) : (Int32 × aQ) ⊕ (aQ) := (if 4 ≤ v2 then .inr q else .inl ((v2 + 1), (a_w q 670 (Int32.toNatClampNeg ((4 * (q.1 656 (Int32.toNatClampNeg v1))) + v2)) (q.1 672 (Int32.toNatClampNeg ((4 * (q.1 657 (Int32.toNatClampNeg v1))) + v2))))))
def S174_116 (v1 : Int32) (v2 : Int32) (q : aQ) : Prop := ((4 ≤ v2) → True) ∧ (¬ (4 ≤ v2) → vp_in v1 24 ∧ (vp_in v1 24 ∧ (vp_in ((4 * (q.1 657 (Int32.toNatClampNeg v1))) + v2) 240 ∧ (vp_in ((4 * (q.1 656 (Int32.toNatClampNeg v1))) + v2) 20 ∧ (True)))))
set_option maxRecDepth 100000 in
set_option maxHeartbeats 4000000 in
theorem A174_116 {l : Launch} {X : aX} {d : Nat} {r : Option Value} {h' : aH} {v1 : Int32} {v2 : Int32} {q : aQ} (hd : 6 ≤ d) (hN : h'.1 = nk0) (hG : gL (fun (s : Int32 × aQ) => AW l X 174 c174 d r h' 116 [some (.ref 650), some (.int v1), some (.int s.1)] [] (hp s.2)) (fun (e : aQ) => AW l X 174 c174 d r h' 157 [some (.ref 650), some (.int v1), none] [] (hp e)) (F174_116 v1 v2 q)) (hS : S174_116 v1 v2 q) : AW l X 174 c174 d r h' 116 [some (.ref 650), some (.int v1), some (.int v2)] [] (hp q) := by
  unfold F174_116 at hG
  unfold S174_116 at hS
  refine x_run (pc' := 118) (lo' := [some (.ref 650), some (.int v1), some (.int v2)]) (st' := [.int 4, .int v2]) 2 rfl ?_
  refine x_ic 157 rfl rfl (fun (hc41 : 4 ≤ v2) => ?_) (fun (hc41 : ¬ 4 ≤ v2) => ?_)
  · rw [if_pos hc41] at hG
    replace hS := hS.1 hc41
    refine x_kill [2] ?_
    exact hG
  · rw [if_neg hc41] at hG
    replace hS := hS.2 hc41
    refine x_run (pc' := 122) (lo' := [some (.ref 650), some (.int v1), some (.int v2)]) (st' := [.ref 650]) 1 rfl ?_
    refine x_gf (c := 600) (ne := 0) (v := .ref 670) rfl (by decide +kernel) rfl rfl ?_
    refine x_run (pc' := 127) (lo' := [some (.ref 650), some (.int v1), some (.int v2)]) (st' := [.ref 650, .int 4, .ref 670]) 2 rfl ?_
    refine x_gf (c := 583) (ne := 0) (v := .ref 656) rfl (by decide +kernel) rfl rfl ?_
    refine x_run (pc' := 131) (lo' := [some (.ref 650), some (.int v1), some (.int v2)]) (st' := [.int v1, .ref 656, .int 4, .ref 670]) 1 rfl ?_
    obtain ⟨o42, hS⟩ := hS
    refine p_ia (n := 24) (v := (q.1 656 (Int32.toNatClampNeg v1))) rfl rfl o42 rfl ?_
    refine x_run (pc' := 136) (lo' := [some (.ref 650), some (.int v1), some (.int v2)]) (st' := [.ref 650, .int ((4 * (q.1 656 (Int32.toNatClampNeg v1))) + v2), .ref 670]) 4 rfl ?_
    refine x_gf (c := 602) (ne := 0) (v := .ref 672) rfl (by decide +kernel) rfl rfl ?_
    refine x_run (pc' := 141) (lo' := [some (.ref 650), some (.int v1), some (.int v2)]) (st' := [.ref 650, .int 4, .ref 672, .int ((4 * (q.1 656 (Int32.toNatClampNeg v1))) + v2), .ref 670]) 2 rfl ?_
    refine x_gf (c := 584) (ne := 0) (v := .ref 657) rfl (by decide +kernel) rfl rfl ?_
    refine x_run (pc' := 145) (lo' := [some (.ref 650), some (.int v1), some (.int v2)]) (st' := [.int v1, .ref 657, .int 4, .ref 672, .int ((4 * (q.1 656 (Int32.toNatClampNeg v1))) + v2), .ref 670]) 1 rfl ?_
    obtain ⟨o43, hS⟩ := hS
    refine p_ia (n := 24) (v := (q.1 657 (Int32.toNatClampNeg v1))) rfl rfl o43 rfl ?_
    refine x_run (pc' := 149) (lo' := [some (.ref 650), some (.int v1), some (.int v2)]) (st' := [.int ((4 * (q.1 657 (Int32.toNatClampNeg v1))) + v2), .ref 672, .int ((4 * (q.1 656 (Int32.toNatClampNeg v1))) + v2), .ref 670]) 3 rfl ?_
    obtain ⟨o44, hS⟩ := hS
    refine p_ia (n := 240) (v := (q.1 672 (Int32.toNatClampNeg ((4 * (q.1 657 (Int32.toNatClampNeg v1))) + v2)))) rfl rfl o44 rfl ?_
    obtain ⟨o45, hS⟩ := hS
    refine p_is (n := 20) rfl rfl o45 ?_
    refine x_run (pc' := 116) (lo' := [some (.ref 650), some (.int v1), some (.int (v2 + 1))]) (st' := []) 2 rfl ?_
    exact hG
def F174_166 (q : aQ) : aQ := q
def S174_166 (q : aQ) : Prop := True
set_option maxRecDepth 100000 in
set_option maxHeartbeats 4000000 in
theorem A174_166 {l : Launch} {X : aX} {d : Nat} {r : Option Value} {h' : aH} {q : aQ} (hd : 6 ≤ d) (hN : h'.1 = nk0) (hG : gV r h' (F174_166 q)) (hS : S174_166 q) : AW l X 174 c174 d r h' 166 [none, none, none] [] (hp q) := by
  unfold F174_166 at hG
  unfold S174_166 at hS
  refine x_run (pc' := 355) (lo' := [none, none, none]) (st' := []) 1 rfl ?_
  obtain ⟨rfl, rfl⟩ := hG
  exact x_ret rfl (by decide +kernel)
def F174_157 (v1 : Int32) (q : aQ) : aQ := F174_166 (F172_0 (F146_0 v1 q) q)
def S174_157 (v1 : Int32) (q : aQ) : Prop := S146_0 v1 q ∧ (S172_0 (F146_0 v1 q) q ∧ (S174_166 (F172_0 (F146_0 v1 q) q)))
set_option maxRecDepth 100000 in
set_option maxHeartbeats 4000000 in
theorem A174_157 {l : Launch} {X : aX} {d : Nat} {r : Option Value} {h' : aH} {v1 : Int32} {q : aQ} (hd : 6 ≤ d) (hN : h'.1 = nk0) (hG : gV r h' (F174_157 v1 q)) (hS : S174_157 v1 q) : AW l X 174 c174 d r h' 157 [some (.ref 650), some (.int v1), none] [] (hp q) := by
  unfold F174_157 at hG
  unfold S174_157 at hS
  refine x_run (pc' := 160) (lo' := [some (.ref 650), some (.int v1), none]) (st' := [.int v1, .ref 650, .ref 650]) 3 rfl ?_
  obtain ⟨o47, hS⟩ := hS
  refine x_cv (j := 146) (ne := 0) (vs := [.int v1]) (rest := [.ref 650]) rfl (by decide +kernel) (by decide +kernel) (by decide) (Eq.trans rfl (show 1 = _ from by decide +kernel)) rfl (by decide +kernel) rfl (Nat.le_of_ble_eq_true rfl) (by omega) (T146 (Nat.le_refl 1) o47) (hp_m hN) ?_
  show AW l X 174 c174 d r h' 163 [some (.ref 650), some (.int v1), none] [.int (F146_0 v1 q), .ref 650] (hp q)
  obtain ⟨o48, hS⟩ := hS
  refine x_cv (j := 172) (ne := 0) (vs := [.int (F146_0 v1 q)]) (rest := []) rfl (by decide +kernel) (by decide +kernel) (by decide) (Eq.trans rfl (show 1 = _ from by decide +kernel)) rfl (by decide +kernel) rfl (Nat.le_of_ble_eq_true rfl) (by omega) (T172 (Nat.le_refl 2) o48) (hp_m hN) ?_
  show AW l X 174 c174 d r h' 166 [some (.ref 650), some (.int v1), none] [] (hp (F172_0 (F146_0 v1 q) q))
  refine x_kill [0, 1] ?_
  exact A174_166 hd hN hG hS
def F174_78 (v1 : Int32) (q : aQ) : aQ := (if (q.1 671 (Int32.toNatClampNeg (q.1 657 (Int32.toNatClampNeg v1)))) = 0 then q else (fun (e46 : aQ) => F174_157 v1 e46) (a_lp (fun (s : Int32 × aQ) => F174_116 v1 s.1 s.2) 200 (0, (a_w q 669 (Int32.toNatClampNeg (q.1 656 (Int32.toNatClampNeg v1))) (q.1 671 (Int32.toNatClampNeg (q.1 657 (Int32.toNatClampNeg v1)))))) (a_w q 669 (Int32.toNatClampNeg (q.1 656 (Int32.toNatClampNeg v1))) (q.1 671 (Int32.toNatClampNeg (q.1 657 (Int32.toNatClampNeg v1)))))))
def S174_78 (v1 : Int32) (q : aQ) : Prop := vp_in v1 24 ∧ (vp_in (q.1 657 (Int32.toNatClampNeg v1)) 60 ∧ ((((q.1 671 (Int32.toNatClampNeg (q.1 657 (Int32.toNatClampNeg v1)))) = 0) → True) ∧ (¬ ((q.1 671 (Int32.toNatClampNeg (q.1 657 (Int32.toNatClampNeg v1)))) = 0) → vp_in v1 24 ∧ (vp_in v1 24 ∧ (vp_in (q.1 657 (Int32.toNatClampNeg v1)) 60 ∧ (vp_in (q.1 656 (Int32.toNatClampNeg v1)) 5 ∧ (a_sf (fun (s : Int32 × aQ) => F174_116 v1 s.1 s.2) (fun (s : Int32 × aQ) => S174_116 v1 s.1 s.2) 200 (0, (a_w q 669 (Int32.toNatClampNeg (q.1 656 (Int32.toNatClampNeg v1))) (q.1 671 (Int32.toNatClampNeg (q.1 657 (Int32.toNatClampNeg v1)))))) ∧ (fun (e46 : aQ) => S174_157 v1 e46) (a_lp (fun (s : Int32 × aQ) => F174_116 v1 s.1 s.2) 200 (0, (a_w q 669 (Int32.toNatClampNeg (q.1 656 (Int32.toNatClampNeg v1))) (q.1 671 (Int32.toNatClampNeg (q.1 657 (Int32.toNatClampNeg v1)))))) (a_w q 669 (Int32.toNatClampNeg (q.1 656 (Int32.toNatClampNeg v1))) (q.1 671 (Int32.toNatClampNeg (q.1 657 (Int32.toNatClampNeg v1)))))))))))))
set_option maxRecDepth 100000 in
set_option maxHeartbeats 4000000 in
theorem A174_78 {l : Launch} {X : aX} {d : Nat} {r : Option Value} {h' : aH} {v1 : Int32} {q : aQ} (hd : 6 ≤ d) (hN : h'.1 = nk0) (hG : gV r h' (F174_78 v1 q)) (hS : S174_78 v1 q) : AW l X 174 c174 d r h' 78 [some (.ref 650), some (.int v1), none] [] (hp q) := by
  unfold F174_78 at hG
  unfold S174_78 at hS
  refine x_run (pc' := 79) (lo' := [some (.ref 650), some (.int v1), none]) (st' := [.ref 650]) 1 rfl ?_
  refine x_gf (c := 601) (ne := 0) (v := .ref 671) rfl (by decide +kernel) rfl rfl ?_
  refine x_run (pc' := 83) (lo' := [some (.ref 650), some (.int v1), none]) (st' := [.ref 650, .ref 671]) 1 rfl ?_
  refine x_gf (c := 584) (ne := 0) (v := .ref 657) rfl (by decide +kernel) rfl rfl ?_
  refine x_run (pc' := 87) (lo' := [some (.ref 650), some (.int v1), none]) (st' := [.int v1, .ref 657, .ref 671]) 1 rfl ?_
  obtain ⟨o34, hS⟩ := hS
  refine p_ia (n := 24) (v := (q.1 657 (Int32.toNatClampNeg v1))) rfl rfl o34 rfl ?_
  obtain ⟨o35, hS⟩ := hS
  refine p_ia (n := 60) (v := (q.1 671 (Int32.toNatClampNeg (q.1 657 (Int32.toNatClampNeg v1))))) rfl rfl o35 rfl ?_
  refine x_if 355 rfl rfl (fun (hc36 : (q.1 671 (Int32.toNatClampNeg (q.1 657 (Int32.toNatClampNeg v1)))) = 0) => ?_) (fun (hc36 : ¬ (q.1 671 (Int32.toNatClampNeg (q.1 657 (Int32.toNatClampNeg v1)))) = 0) => ?_)
  · rw [if_pos hc36] at hG
    replace hS := hS.1 hc36
    obtain ⟨rfl, rfl⟩ := hG
    exact x_ret rfl (by decide +kernel)
  · rw [if_neg hc36] at hG
    replace hS := hS.2 hc36
    refine x_run (pc' := 93) (lo' := [some (.ref 650), some (.int v1), none]) (st' := [.ref 650]) 1 rfl ?_
    refine x_gf (c := 599) (ne := 0) (v := .ref 669) rfl (by decide +kernel) rfl rfl ?_
    refine x_run (pc' := 97) (lo' := [some (.ref 650), some (.int v1), none]) (st' := [.ref 650, .ref 669]) 1 rfl ?_
    refine x_gf (c := 583) (ne := 0) (v := .ref 656) rfl (by decide +kernel) rfl rfl ?_
    refine x_run (pc' := 101) (lo' := [some (.ref 650), some (.int v1), none]) (st' := [.int v1, .ref 656, .ref 669]) 1 rfl ?_
    obtain ⟨o37, hS⟩ := hS
    refine p_ia (n := 24) (v := (q.1 656 (Int32.toNatClampNeg v1))) rfl rfl o37 rfl ?_
    refine x_run (pc' := 103) (lo' := [some (.ref 650), some (.int v1), none]) (st' := [.ref 650, .int (q.1 656 (Int32.toNatClampNeg v1)), .ref 669]) 1 rfl ?_
    refine x_gf (c := 601) (ne := 0) (v := .ref 671) rfl (by decide +kernel) rfl rfl ?_
    refine x_run (pc' := 107) (lo' := [some (.ref 650), some (.int v1), none]) (st' := [.ref 650, .ref 671, .int (q.1 656 (Int32.toNatClampNeg v1)), .ref 669]) 1 rfl ?_
    refine x_gf (c := 584) (ne := 0) (v := .ref 657) rfl (by decide +kernel) rfl rfl ?_
    refine x_run (pc' := 111) (lo' := [some (.ref 650), some (.int v1), none]) (st' := [.int v1, .ref 657, .ref 671, .int (q.1 656 (Int32.toNatClampNeg v1)), .ref 669]) 1 rfl ?_
    obtain ⟨o38, hS⟩ := hS
    refine p_ia (n := 24) (v := (q.1 657 (Int32.toNatClampNeg v1))) rfl rfl o38 rfl ?_
    obtain ⟨o39, hS⟩ := hS
    refine p_ia (n := 60) (v := (q.1 671 (Int32.toNatClampNeg (q.1 657 (Int32.toNatClampNeg v1))))) rfl rfl o39 rfl ?_
    obtain ⟨o40, hS⟩ := hS
    refine p_is (n := 5) rfl rfl o40 ?_
    refine x_run (pc' := 116) (lo' := [some (.ref 650), some (.int v1), some (.int 0)]) (st' := []) 2 rfl ?_
    obtain ⟨ho, hS⟩ := hS
    refine x_loop (fun (s : Int32 × aQ) => F174_116 v1 s.1 s.2) (fun (s : Int32 × aQ) => S174_116 v1 s.1 s.2) (fun (s : Int32 × aQ) => AW l X 174 c174 d r h' 116 [some (.ref 650), some (.int v1), some (.int s.1)] [] (hp s.2)) (fun (e : aQ) => AW l X 174 c174 d r h' 157 [some (.ref 650), some (.int v1), none] [] (hp e)) (fun s hs hg => A174_116 hd hN hg hs) 200 (0, (a_w q 669 (Int32.toNatClampNeg (q.1 656 (Int32.toNatClampNeg v1))) (q.1 671 (Int32.toNatClampNeg (q.1 657 (Int32.toNatClampNeg v1)))))) ho (fun e46 he => ?_)
    rw [a_lp_eq he] at hG hS
    try dsimp only at hG hS
    exact A174_157 hd hN hG hS
def F174_62 (v1 : Int32) (q : aQ) : aQ := F174_78 v1 (F173_0 v1 (q.1 673 (Int32.toNatClampNeg (q.1 657 (Int32.toNatClampNeg v1)))) q)
def S174_62 (v1 : Int32) (q : aQ) : Prop := vp_in v1 24 ∧ (vp_in (q.1 657 (Int32.toNatClampNeg v1)) 60 ∧ (S173_0 v1 (q.1 673 (Int32.toNatClampNeg (q.1 657 (Int32.toNatClampNeg v1)))) q ∧ (S174_78 v1 (F173_0 v1 (q.1 673 (Int32.toNatClampNeg (q.1 657 (Int32.toNatClampNeg v1)))) q))))
set_option maxRecDepth 100000 in
set_option maxHeartbeats 4000000 in
theorem A174_62 {l : Launch} {X : aX} {d : Nat} {r : Option Value} {h' : aH} {v1 : Int32} {q : aQ} (hd : 6 ≤ d) (hN : h'.1 = nk0) (hG : gV r h' (F174_62 v1 q)) (hS : S174_62 v1 q) : AW l X 174 c174 d r h' 62 [some (.ref 650), some (.int v1), none] [] (hp q) := by
  unfold F174_62 at hG
  unfold S174_62 at hS
  refine x_run (pc' := 65) (lo' := [some (.ref 650), some (.int v1), none]) (st' := [.ref 650, .int v1, .ref 650]) 3 rfl ?_
  refine x_gf (c := 603) (ne := 0) (v := .ref 673) rfl (by decide +kernel) rfl rfl ?_
  refine x_run (pc' := 69) (lo' := [some (.ref 650), some (.int v1), none]) (st' := [.ref 650, .ref 673, .int v1, .ref 650]) 1 rfl ?_
  refine x_gf (c := 584) (ne := 0) (v := .ref 657) rfl (by decide +kernel) rfl rfl ?_
  refine x_run (pc' := 73) (lo' := [some (.ref 650), some (.int v1), none]) (st' := [.int v1, .ref 657, .ref 673, .int v1, .ref 650]) 1 rfl ?_
  obtain ⟨o31, hS⟩ := hS
  refine p_ia (n := 24) (v := (q.1 657 (Int32.toNatClampNeg v1))) rfl rfl o31 rfl ?_
  obtain ⟨o32, hS⟩ := hS
  refine p_ia (n := 60) (v := (q.1 673 (Int32.toNatClampNeg (q.1 657 (Int32.toNatClampNeg v1))))) rfl rfl o32 rfl ?_
  obtain ⟨o33, hS⟩ := hS
  refine x_cv (j := 173) (ne := 0) (vs := [.int v1, .int (q.1 673 (Int32.toNatClampNeg (q.1 657 (Int32.toNatClampNeg v1))))]) (rest := []) rfl (by decide +kernel) (by decide +kernel) (by decide) (Eq.trans rfl (show 2 = _ from by decide +kernel)) rfl (by decide +kernel) rfl (Nat.le_of_ble_eq_true rfl) (by omega) (T173 (Nat.le_refl 3) o33) (hp_m hN) ?_
  show AW l X 174 c174 d r h' 78 [some (.ref 650), some (.int v1), none] [] (hp (F173_0 v1 (q.1 673 (Int32.toNatClampNeg (q.1 657 (Int32.toNatClampNeg v1)))) q))
  exact A174_78 hd hN hG hS
def F174_182 (q : aQ) : aQ := q
def S174_182 (q : aQ) : Prop := True
set_option maxRecDepth 100000 in
set_option maxHeartbeats 4000000 in
theorem A174_182 {l : Launch} {X : aX} {d : Nat} {r : Option Value} {h' : aH} {q : aQ} (hd : 6 ≤ d) (hN : h'.1 = nk0) (hG : gV r h' (F174_182 q)) (hS : S174_182 q) : AW l X 174 c174 d r h' 182 [none, none, none] [] (hp q) := by
  unfold F174_182 at hG
  unfold S174_182 at hS
  refine x_run (pc' := 355) (lo' := [none, none, none]) (st' := []) 1 rfl ?_
  obtain ⟨rfl, rfl⟩ := hG
  exact x_ret rfl (by decide +kernel)
def F174_198 (q : aQ) : aQ := q
def S174_198 (q : aQ) : Prop := True
set_option maxRecDepth 100000 in
set_option maxHeartbeats 4000000 in
theorem A174_198 {l : Launch} {X : aX} {d : Nat} {r : Option Value} {h' : aH} {q : aQ} (hd : 6 ≤ d) (hN : h'.1 = nk0) (hG : gV r h' (F174_198 q)) (hS : S174_198 q) : AW l X 174 c174 d r h' 198 [none, none, none] [] (hp q) := by
  unfold F174_198 at hG
  unfold S174_198 at hS
  refine x_run (pc' := 355) (lo' := [none, none, none]) (st' := []) 1 rfl ?_
  obtain ⟨rfl, rfl⟩ := hG
  exact x_ret rfl (by decide +kernel)
def F174_210 (q : aQ) : aQ := q
def S174_210 (q : aQ) : Prop := True
set_option maxRecDepth 100000 in
set_option maxHeartbeats 4000000 in
theorem A174_210 {l : Launch} {X : aX} {d : Nat} {r : Option Value} {h' : aH} {q : aQ} (hd : 6 ≤ d) (hN : h'.1 = nk0) (hG : gV r h' (F174_210 q)) (hS : S174_210 q) : AW l X 174 c174 d r h' 210 [none, none, none] [] (hp q) := by
  unfold F174_210 at hG
  unfold S174_210 at hS
  refine x_run (pc' := 355) (lo' := [none, none, none]) (st' := []) 1 rfl ?_
  obtain ⟨rfl, rfl⟩ := hG
  exact x_ret rfl (by decide +kernel)
def F174_223 (q : aQ) : aQ := q
def S174_223 (q : aQ) : Prop := True
set_option maxRecDepth 100000 in
set_option maxHeartbeats 4000000 in
theorem A174_223 {l : Launch} {X : aX} {d : Nat} {r : Option Value} {h' : aH} {q : aQ} (hd : 6 ≤ d) (hN : h'.1 = nk0) (hG : gV r h' (F174_223 q)) (hS : S174_223 q) : AW l X 174 c174 d r h' 223 [none, none, none] [] (hp q) := by
  unfold F174_223 at hG
  unfold S174_223 at hS
  refine x_run (pc' := 355) (lo' := [none, none, none]) (st' := []) 1 rfl ?_
  obtain ⟨rfl, rfl⟩ := hG
  exact x_ret rfl (by decide +kernel)
def F174_5 (v1 : Int32) (q : aQ) : aQ := (if (q.1 655 (Int32.toNatClampNeg v1)) = 0 then F174_62 v1 (F166_0 (q.1 657 (Int32.toNatClampNeg v1)) q) else (if (q.1 655 (Int32.toNatClampNeg v1)) = 1 then F174_182 (F173_0 v1 (1 <<< ((q.1 656 (Int32.toNatClampNeg v1)) &&& 31)) q) else (if (q.1 655 (Int32.toNatClampNeg v1)) = 2 then F174_198 (F172_0 (F146_0 (F148_0 v1 q) q) q) else (if (q.1 655 (Int32.toNatClampNeg v1)) = 3 then F174_210 (F172_0 (F148_0 v1 q) q) else (if (q.1 655 (Int32.toNatClampNeg v1)) = 4 then F174_236 v1 (F166_0 (q.1 657 (Int32.toNatClampNeg v1)) q) else (if (q.1 655 (Int32.toNatClampNeg v1)) = 5 then F174_236 v1 (F166_0 (q.1 657 (Int32.toNatClampNeg v1)) q) else (if (q.1 655 (Int32.toNatClampNeg v1)) = 6 then F174_223 (F172_0 (F147_0 v1 0 q) q) else F174_236 v1 (F166_0 (q.1 657 (Int32.toNatClampNeg v1)) q))))))))
def S174_5 (v1 : Int32) (q : aQ) : Prop := vp_in v1 24 ∧ ((((q.1 655 (Int32.toNatClampNeg v1)) = 0) → vp_in v1 24 ∧ (S166_0 (q.1 657 (Int32.toNatClampNeg v1)) q ∧ (S174_62 v1 (F166_0 (q.1 657 (Int32.toNatClampNeg v1)) q)))) ∧ (¬ ((q.1 655 (Int32.toNatClampNeg v1)) = 0) → (((q.1 655 (Int32.toNatClampNeg v1)) = 1) → vp_in v1 24 ∧ (S173_0 v1 (1 <<< ((q.1 656 (Int32.toNatClampNeg v1)) &&& 31)) q ∧ (S174_182 (F173_0 v1 (1 <<< ((q.1 656 (Int32.toNatClampNeg v1)) &&& 31)) q)))) ∧ (¬ ((q.1 655 (Int32.toNatClampNeg v1)) = 1) → (((q.1 655 (Int32.toNatClampNeg v1)) = 2) → S148_0 v1 q ∧ (S146_0 (F148_0 v1 q) q ∧ (S172_0 (F146_0 (F148_0 v1 q) q) q ∧ (S174_198 (F172_0 (F146_0 (F148_0 v1 q) q) q))))) ∧ (¬ ((q.1 655 (Int32.toNatClampNeg v1)) = 2) → (((q.1 655 (Int32.toNatClampNeg v1)) = 3) → S148_0 v1 q ∧ (S172_0 (F148_0 v1 q) q ∧ (S174_210 (F172_0 (F148_0 v1 q) q)))) ∧ (¬ ((q.1 655 (Int32.toNatClampNeg v1)) = 3) → (((q.1 655 (Int32.toNatClampNeg v1)) = 4) → vp_in v1 24 ∧ (S166_0 (q.1 657 (Int32.toNatClampNeg v1)) q ∧ (S174_236 v1 (F166_0 (q.1 657 (Int32.toNatClampNeg v1)) q)))) ∧ (¬ ((q.1 655 (Int32.toNatClampNeg v1)) = 4) → (((q.1 655 (Int32.toNatClampNeg v1)) = 5) → vp_in v1 24 ∧ (S166_0 (q.1 657 (Int32.toNatClampNeg v1)) q ∧ (S174_236 v1 (F166_0 (q.1 657 (Int32.toNatClampNeg v1)) q)))) ∧ (¬ ((q.1 655 (Int32.toNatClampNeg v1)) = 5) → (((q.1 655 (Int32.toNatClampNeg v1)) = 6) → S147_0 v1 0 q ∧ (S172_0 (F147_0 v1 0 q) q ∧ (S174_223 (F172_0 (F147_0 v1 0 q) q)))) ∧ (¬ ((q.1 655 (Int32.toNatClampNeg v1)) = 6) → vp_in v1 24 ∧ (S166_0 (q.1 657 (Int32.toNatClampNeg v1)) q ∧ (S174_236 v1 (F166_0 (q.1 657 (Int32.toNatClampNeg v1)) q)))))))))))
set_option maxRecDepth 100000 in
set_option maxHeartbeats 4000000 in
theorem A174_5 {l : Launch} {X : aX} {d : Nat} {r : Option Value} {h' : aH} {v1 : Int32} {q : aQ} (hd : 6 ≤ d) (hN : h'.1 = nk0) (hG : gV r h' (F174_5 v1 q)) (hS : S174_5 v1 q) : AW l X 174 c174 d r h' 5 [some (.ref 650), some (.int v1), none] [] (hp q) := by
  unfold F174_5 at hG
  unfold S174_5 at hS
  refine x_run (pc' := 6) (lo' := [some (.ref 650), some (.int v1), none]) (st' := [.ref 650]) 1 rfl ?_
  refine x_gf (c := 582) (ne := 0) (v := .ref 655) rfl (by decide +kernel) rfl rfl ?_
  refine x_run (pc' := 10) (lo' := [some (.ref 650), some (.int v1), none]) (st' := [.int v1, .ref 655]) 1 rfl ?_
  obtain ⟨o2, hS⟩ := hS
  refine p_ia (n := 24) (v := (q.1 655 (Int32.toNatClampNeg v1))) rfl rfl o2 rfl ?_
  by_cases hc62 : (q.1 655 (Int32.toNatClampNeg v1)) = 0
  · rw [if_pos hc62] at hG
    replace hS := hS.1 hc62
    refine x_tsIn (off := 41) 52 rfl (by rw [hc62]; decide) (by rw [hc62]; decide) (by rw [hc62]; rfl) rfl ?_
    refine x_run (pc' := 54) (lo' := [some (.ref 650), some (.int v1), none]) (st' := [.ref 650, .ref 650]) 2 rfl ?_
    refine x_gf (c := 584) (ne := 0) (v := .ref 657) rfl (by decide +kernel) rfl rfl ?_
    refine x_run (pc' := 58) (lo' := [some (.ref 650), some (.int v1), none]) (st' := [.int v1, .ref 657, .ref 650]) 1 rfl ?_
    obtain ⟨o29, hS⟩ := hS
    refine p_ia (n := 24) (v := (q.1 657 (Int32.toNatClampNeg v1))) rfl rfl o29 rfl ?_
    obtain ⟨o30, hS⟩ := hS
    refine x_cv (j := 166) (ne := 0) (vs := [.int (q.1 657 (Int32.toNatClampNeg v1))]) (rest := []) rfl (by decide +kernel) (by decide +kernel) (by decide) (Eq.trans rfl (show 1 = _ from by decide +kernel)) rfl (by decide +kernel) rfl (Nat.le_of_ble_eq_true rfl) (by omega) (T166 (Nat.le_refl 5) o30) (hp_m hN) ?_
    show AW l X 174 c174 d r h' 62 [some (.ref 650), some (.int v1), none] [] (hp (F166_0 (q.1 657 (Int32.toNatClampNeg v1)) q))
    exact A174_62 hd hN hG hS
  · rw [if_neg hc62] at hG
    replace hS := hS.2 hc62
    by_cases hc63 : (q.1 655 (Int32.toNatClampNeg v1)) = 1
    · rw [if_pos hc63] at hG
      replace hS := hS.1 hc63
      refine x_tsIn (off := 158) 169 rfl (by rw [hc63]; decide) (by rw [hc63]; decide) (by rw [hc63]; rfl) rfl ?_
      refine x_run (pc' := 173) (lo' := [some (.ref 650), some (.int v1), none]) (st' := [.ref 650, .int 1, .int v1, .ref 650]) 4 rfl ?_
      refine x_gf (c := 583) (ne := 0) (v := .ref 656) rfl (by decide +kernel) rfl rfl ?_
      refine x_run (pc' := 177) (lo' := [some (.ref 650), some (.int v1), none]) (st' := [.int v1, .ref 656, .int 1, .int v1, .ref 650]) 1 rfl ?_
      obtain ⟨o49, hS⟩ := hS
      refine p_ia (n := 24) (v := (q.1 656 (Int32.toNatClampNeg v1))) rfl rfl o49 rfl ?_
      refine x_run (pc' := 179) (lo' := [some (.ref 650), some (.int v1), none]) (st' := [.int (1 <<< ((q.1 656 (Int32.toNatClampNeg v1)) &&& 31)), .int v1, .ref 650]) 1 rfl ?_
      obtain ⟨o50, hS⟩ := hS
      refine x_cv (j := 173) (ne := 0) (vs := [.int v1, .int (1 <<< ((q.1 656 (Int32.toNatClampNeg v1)) &&& 31))]) (rest := []) rfl (by decide +kernel) (by decide +kernel) (by decide) (Eq.trans rfl (show 2 = _ from by decide +kernel)) rfl (by decide +kernel) rfl (Nat.le_of_ble_eq_true rfl) (by omega) (T173 (Nat.le_refl 3) o50) (hp_m hN) ?_
      show AW l X 174 c174 d r h' 182 [some (.ref 650), some (.int v1), none] [] (hp (F173_0 v1 (1 <<< ((q.1 656 (Int32.toNatClampNeg v1)) &&& 31)) q))
      refine x_kill [0, 1] ?_
      exact A174_182 hd hN hG hS
    · rw [if_neg hc63] at hG
      replace hS := hS.2 hc63
      by_cases hc64 : (q.1 655 (Int32.toNatClampNeg v1)) = 2
      · rw [if_pos hc64] at hG
        replace hS := hS.1 hc64
        refine x_tsIn (off := 174) 185 rfl (by rw [hc64]; decide) (by rw [hc64]; decide) (by rw [hc64]; rfl) rfl ?_
        refine x_run (pc' := 189) (lo' := [some (.ref 650), some (.int v1), none]) (st' := [.int v1, .ref 650, .ref 650, .ref 650]) 4 rfl ?_
        obtain ⟨o51, hS⟩ := hS
        refine x_cv (j := 148) (ne := 0) (vs := [.int v1]) (rest := [.ref 650, .ref 650]) rfl (by decide +kernel) (by decide +kernel) (by decide) (Eq.trans rfl (show 1 = _ from by decide +kernel)) rfl (by decide +kernel) rfl (Nat.le_of_ble_eq_true rfl) (by omega) (T148 (Nat.le_refl 1) o51) (hp_m hN) ?_
        show AW l X 174 c174 d r h' 192 [some (.ref 650), some (.int v1), none] [.int (F148_0 v1 q), .ref 650, .ref 650] (hp q)
        obtain ⟨o52, hS⟩ := hS
        refine x_cv (j := 146) (ne := 0) (vs := [.int (F148_0 v1 q)]) (rest := [.ref 650]) rfl (by decide +kernel) (by decide +kernel) (by decide) (Eq.trans rfl (show 1 = _ from by decide +kernel)) rfl (by decide +kernel) rfl (Nat.le_of_ble_eq_true rfl) (by omega) (T146 (Nat.le_refl 1) o52) (hp_m hN) ?_
        show AW l X 174 c174 d r h' 195 [some (.ref 650), some (.int v1), none] [.int (F146_0 (F148_0 v1 q) q), .ref 650] (hp q)
        obtain ⟨o53, hS⟩ := hS
        refine x_cv (j := 172) (ne := 0) (vs := [.int (F146_0 (F148_0 v1 q) q)]) (rest := []) rfl (by decide +kernel) (by decide +kernel) (by decide) (Eq.trans rfl (show 1 = _ from by decide +kernel)) rfl (by decide +kernel) rfl (Nat.le_of_ble_eq_true rfl) (by omega) (T172 (Nat.le_refl 2) o53) (hp_m hN) ?_
        show AW l X 174 c174 d r h' 198 [some (.ref 650), some (.int v1), none] [] (hp (F172_0 (F146_0 (F148_0 v1 q) q) q))
        refine x_kill [0, 1] ?_
        exact A174_198 hd hN hG hS
      · rw [if_neg hc64] at hG
        replace hS := hS.2 hc64
        by_cases hc65 : (q.1 655 (Int32.toNatClampNeg v1)) = 3
        · rw [if_pos hc65] at hG
          replace hS := hS.1 hc65
          refine x_tsIn (off := 190) 201 rfl (by rw [hc65]; decide) (by rw [hc65]; decide) (by rw [hc65]; rfl) rfl ?_
          refine x_run (pc' := 204) (lo' := [some (.ref 650), some (.int v1), none]) (st' := [.int v1, .ref 650, .ref 650]) 3 rfl ?_
          obtain ⟨o54, hS⟩ := hS
          refine x_cv (j := 148) (ne := 0) (vs := [.int v1]) (rest := [.ref 650]) rfl (by decide +kernel) (by decide +kernel) (by decide) (Eq.trans rfl (show 1 = _ from by decide +kernel)) rfl (by decide +kernel) rfl (Nat.le_of_ble_eq_true rfl) (by omega) (T148 (Nat.le_refl 1) o54) (hp_m hN) ?_
          show AW l X 174 c174 d r h' 207 [some (.ref 650), some (.int v1), none] [.int (F148_0 v1 q), .ref 650] (hp q)
          obtain ⟨o55, hS⟩ := hS
          refine x_cv (j := 172) (ne := 0) (vs := [.int (F148_0 v1 q)]) (rest := []) rfl (by decide +kernel) (by decide +kernel) (by decide) (Eq.trans rfl (show 1 = _ from by decide +kernel)) rfl (by decide +kernel) rfl (Nat.le_of_ble_eq_true rfl) (by omega) (T172 (Nat.le_refl 2) o55) (hp_m hN) ?_
          show AW l X 174 c174 d r h' 210 [some (.ref 650), some (.int v1), none] [] (hp (F172_0 (F148_0 v1 q) q))
          refine x_kill [0, 1] ?_
          exact A174_210 hd hN hG hS
        · rw [if_neg hc65] at hG
          replace hS := hS.2 hc65
          by_cases hc66 : (q.1 655 (Int32.toNatClampNeg v1)) = 4
          · rw [if_pos hc66] at hG
            replace hS := hS.1 hc66
            refine x_tsIn (off := 215) 226 rfl (by rw [hc66]; decide) (by rw [hc66]; decide) (by rw [hc66]; rfl) rfl ?_
            refine x_run (pc' := 228) (lo' := [some (.ref 650), some (.int v1), none]) (st' := [.ref 650, .ref 650]) 2 rfl ?_
            refine x_gf (c := 584) (ne := 0) (v := .ref 657) rfl (by decide +kernel) rfl rfl ?_
            refine x_run (pc' := 232) (lo' := [some (.ref 650), some (.int v1), none]) (st' := [.int v1, .ref 657, .ref 650]) 1 rfl ?_
            obtain ⟨o56, hS⟩ := hS
            refine p_ia (n := 24) (v := (q.1 657 (Int32.toNatClampNeg v1))) rfl rfl o56 rfl ?_
            obtain ⟨o57, hS⟩ := hS
            refine x_cv (j := 166) (ne := 0) (vs := [.int (q.1 657 (Int32.toNatClampNeg v1))]) (rest := []) rfl (by decide +kernel) (by decide +kernel) (by decide) (Eq.trans rfl (show 1 = _ from by decide +kernel)) rfl (by decide +kernel) rfl (Nat.le_of_ble_eq_true rfl) (by omega) (T166 (Nat.le_refl 5) o57) (hp_m hN) ?_
            show AW l X 174 c174 d r h' 236 [some (.ref 650), some (.int v1), none] [] (hp (F166_0 (q.1 657 (Int32.toNatClampNeg v1)) q))
            exact A174_236 hd hN hG hS
          · rw [if_neg hc66] at hG
            replace hS := hS.2 hc66
            by_cases hc67 : (q.1 655 (Int32.toNatClampNeg v1)) = 5
            · rw [if_pos hc67] at hG
              replace hS := hS.1 hc67
              refine x_tsIn (off := 215) 226 rfl (by rw [hc67]; decide) (by rw [hc67]; decide) (by rw [hc67]; rfl) rfl ?_
              refine x_run (pc' := 228) (lo' := [some (.ref 650), some (.int v1), none]) (st' := [.ref 650, .ref 650]) 2 rfl ?_
              refine x_gf (c := 584) (ne := 0) (v := .ref 657) rfl (by decide +kernel) rfl rfl ?_
              refine x_run (pc' := 232) (lo' := [some (.ref 650), some (.int v1), none]) (st' := [.int v1, .ref 657, .ref 650]) 1 rfl ?_
              obtain ⟨o58, hS⟩ := hS
              refine p_ia (n := 24) (v := (q.1 657 (Int32.toNatClampNeg v1))) rfl rfl o58 rfl ?_
              obtain ⟨o59, hS⟩ := hS
              refine x_cv (j := 166) (ne := 0) (vs := [.int (q.1 657 (Int32.toNatClampNeg v1))]) (rest := []) rfl (by decide +kernel) (by decide +kernel) (by decide) (Eq.trans rfl (show 1 = _ from by decide +kernel)) rfl (by decide +kernel) rfl (Nat.le_of_ble_eq_true rfl) (by omega) (T166 (Nat.le_refl 5) o59) (hp_m hN) ?_
              show AW l X 174 c174 d r h' 236 [some (.ref 650), some (.int v1), none] [] (hp (F166_0 (q.1 657 (Int32.toNatClampNeg v1)) q))
              exact A174_236 hd hN hG hS
            · rw [if_neg hc67] at hG
              replace hS := hS.2 hc67
              by_cases hc68 : (q.1 655 (Int32.toNatClampNeg v1)) = 6
              · rw [if_pos hc68] at hG
                replace hS := hS.1 hc68
                refine x_tsIn (off := 202) 213 rfl (by rw [hc68]; decide) (by rw [hc68]; decide) (by rw [hc68]; rfl) rfl ?_
                refine x_run (pc' := 217) (lo' := [some (.ref 650), some (.int v1), none]) (st' := [.int 0, .int v1, .ref 650, .ref 650]) 4 rfl ?_
                obtain ⟨o60, hS⟩ := hS
                refine x_cv (j := 147) (ne := 0) (vs := [.int v1, .int 0]) (rest := [.ref 650]) rfl (by decide +kernel) (by decide +kernel) (by decide) (Eq.trans rfl (show 2 = _ from by decide +kernel)) rfl (by decide +kernel) rfl (Nat.le_of_ble_eq_true rfl) (by omega) (T147 (Nat.le_refl 2) o60) (hp_m hN) ?_
                show AW l X 174 c174 d r h' 220 [some (.ref 650), some (.int v1), none] [.int (F147_0 v1 0 q), .ref 650] (hp q)
                obtain ⟨o61, hS⟩ := hS
                refine x_cv (j := 172) (ne := 0) (vs := [.int (F147_0 v1 0 q)]) (rest := []) rfl (by decide +kernel) (by decide +kernel) (by decide) (Eq.trans rfl (show 1 = _ from by decide +kernel)) rfl (by decide +kernel) rfl (Nat.le_of_ble_eq_true rfl) (by omega) (T172 (Nat.le_refl 2) o61) (hp_m hN) ?_
                show AW l X 174 c174 d r h' 223 [some (.ref 650), some (.int v1), none] [] (hp (F172_0 (F147_0 v1 0 q) q))
                refine x_kill [0, 1] ?_
                exact A174_223 hd hN hG hS
              · rw [if_neg hc68] at hG
                replace hS := hS.2 hc68
                refine x_tsOut 226 rfl (by have z0 := sw_ne (k := 0) hc62 (by decide); have z1 := sw_ne (k := 1) hc63 (by decide); have z2 := sw_ne (k := 2) hc64 (by decide); have z3 := sw_ne (k := 3) hc65 (by decide); have z4 := sw_ne (k := 4) hc66 (by decide); have z5 := sw_ne (k := 5) hc67 (by decide); have z6 := sw_ne (k := 6) hc68 (by decide); omega) rfl ?_
                refine x_run (pc' := 228) (lo' := [some (.ref 650), some (.int v1), none]) (st' := [.ref 650, .ref 650]) 2 rfl ?_
                refine x_gf (c := 584) (ne := 0) (v := .ref 657) rfl (by decide +kernel) rfl rfl ?_
                refine x_run (pc' := 232) (lo' := [some (.ref 650), some (.int v1), none]) (st' := [.int v1, .ref 657, .ref 650]) 1 rfl ?_
                obtain ⟨o4, hS⟩ := hS
                refine p_ia (n := 24) (v := (q.1 657 (Int32.toNatClampNeg v1))) rfl rfl o4 rfl ?_
                obtain ⟨o5, hS⟩ := hS
                refine x_cv (j := 166) (ne := 0) (vs := [.int (q.1 657 (Int32.toNatClampNeg v1))]) (rest := []) rfl (by decide +kernel) (by decide +kernel) (by decide) (Eq.trans rfl (show 1 = _ from by decide +kernel)) rfl (by decide +kernel) rfl (Nat.le_of_ble_eq_true rfl) (by omega) (T166 (Nat.le_refl 5) o5) (hp_m hN) ?_
                show AW l X 174 c174 d r h' 236 [some (.ref 650), some (.int v1), none] [] (hp (F166_0 (q.1 657 (Int32.toNatClampNeg v1)) q))
                exact A174_236 hd hN hG hS
def F174_0 (v1 : Int32) (q : aQ) : aQ := F174_5 v1 (F170_0 v1 q)
def S174_0 (v1 : Int32) (q : aQ) : Prop := S170_0 v1 q ∧ (S174_5 v1 (F170_0 v1 q))
set_option maxRecDepth 100000 in
set_option maxHeartbeats 4000000 in
theorem A174_0 {l : Launch} {X : aX} {d : Nat} {r : Option Value} {h' : aH} {v1 : Int32} {q : aQ} (hd : 6 ≤ d) (hN : h'.1 = nk0) (hG : gV r h' (F174_0 v1 q)) (hS : S174_0 v1 q) : AW l X 174 c174 d r h' 0 [some (.ref 650), some (.int v1), none] [] (hp q) := by
  unfold F174_0 at hG
  unfold S174_0 at hS
  refine x_run (pc' := 2) (lo' := [some (.ref 650), some (.int v1), none]) (st' := [.int v1, .ref 650]) 2 rfl ?_
  obtain ⟨o1, hS⟩ := hS
  refine x_cv (j := 170) (ne := 0) (vs := [.int v1]) (rest := []) rfl (by decide +kernel) (by decide +kernel) (by decide) (Eq.trans rfl (show 1 = _ from by decide +kernel)) rfl (by decide +kernel) rfl (Nat.le_of_ble_eq_true rfl) (by omega) (T170 (Nat.le_refl 1) o1) (hp_m hN) ?_
  show AW l X 174 c174 d r h' 5 [some (.ref 650), some (.int v1), none] [] (hp (F170_0 v1 q))
  exact A174_5 hd hN hG hS
theorem T174 {l : Launch} {X : aX} {d : Nat} {v1 : Int32} {q : aQ} (hd : 6 ≤ d) (hS : S174_0 v1 q) : Call l X d 174 [.ref 650, .int v1] (hp q) none (hp (F174_0 v1 q)) := Call.of ok174 (by decide) (Nat.le_of_ble_eq_true rfl) ⟨Nat.le_refl _, Nat.le_refl _⟩ (A174_0 hd rfl ⟨rfl, rfl⟩ hS)
/-- TypeForecastModel.look()I -/
def F175_15 (v1 : Int32) (q : aQ) : (Int32 × aQ) ⊕ (aQ) := (if 5 ≤ v1 then .inr q else .inl ((v1 + 1), (a_w q 669 (Int32.toNatClampNeg v1) 8)))
def S175_15 (v1 : Int32) (q : aQ) : Prop := ((5 ≤ v1) → True) ∧ (¬ (5 ≤ v1) → vp_in v1 5 ∧ (True))
set_option maxRecDepth 100000 in
set_option maxHeartbeats 4000000 in
theorem A175_15 {l : Launch} {X : aX} {d : Nat} {r : Option Value} {h' : aH} {v1 : Int32} {q : aQ} (hd : 7 ≤ d) (hN : h'.1 = nk0) (hG : gL (fun (s : Int32 × aQ) => AW l X 175 c175 d r h' 15 [some (.ref 650), some (.int s.1), none] [] (hp s.2)) (fun (e : aQ) => AW l X 175 c175 d r h' 34 [some (.ref 650), none, none] [] (hp e)) (F175_15 v1 q)) (hS : S175_15 v1 q) : AW l X 175 c175 d r h' 15 [some (.ref 650), some (.int v1), none] [] (hp q) := by
  unfold F175_15 at hG
  unfold S175_15 at hS
  refine x_run (pc' := 17) (lo' := [some (.ref 650), some (.int v1), none]) (st' := [.int 5, .int v1]) 2 rfl ?_
  refine x_ic 34 rfl rfl (fun (hc3 : 5 ≤ v1) => ?_) (fun (hc3 : ¬ 5 ≤ v1) => ?_)
  · rw [if_pos hc3] at hG
    replace hS := hS.1 hc3
    refine x_kill [1] ?_
    exact hG
  · rw [if_neg hc3] at hG
    replace hS := hS.2 hc3
    refine x_run (pc' := 21) (lo' := [some (.ref 650), some (.int v1), none]) (st' := [.ref 650]) 1 rfl ?_
    refine x_gf (c := 599) (ne := 0) (v := .ref 669) rfl (by decide +kernel) rfl rfl ?_
    refine x_run (pc' := 27) (lo' := [some (.ref 650), some (.int v1), none]) (st' := [.int 8, .int v1, .ref 669]) 2 rfl ?_
    obtain ⟨o4, hS⟩ := hS
    refine p_is (n := 5) rfl rfl o4 ?_
    refine x_run (pc' := 15) (lo' := [some (.ref 650), some (.int (v1 + 1)), none]) (st' := []) 2 rfl ?_
    exact hG
def F175_92 (v1 : Int32) (v2 : Int32) (q : aQ) : (Int32 × aQ) ⊕ (aQ) := .inl ((v2 + 1), q)
def S175_92 (v1 : Int32) (v2 : Int32) (q : aQ) : Prop := True
set_option maxRecDepth 100000 in
set_option maxHeartbeats 4000000 in
theorem A175_92 {l : Launch} {X : aX} {d : Nat} {r : Option Value} {h' : aH} {v1 : Int32} {v2 : Int32} {q : aQ} (hd : 7 ≤ d) (hN : h'.1 = nk0) (hG : gL (fun (s : Int32 × aQ) => AW l X 175 c175 d r h' 70 [some (.ref 650), some (.int v1), some (.int s.1)] [] (hp s.2)) (fun (e : aQ) => AW l X 175 c175 d r h' 98 [some (.ref 650), some (.int v1), none] [] (hp e)) (F175_92 v1 v2 q)) (hS : S175_92 v1 v2 q) : AW l X 175 c175 d r h' 92 [some (.ref 650), some (.int v1), some (.int v2)] [] (hp q) := by
  unfold F175_92 at hG
  unfold S175_92 at hS
  refine x_run (pc' := 70) (lo' := [some (.ref 650), some (.int v1), some (.int (v2 + 1))]) (st' := []) 2 rfl ?_
  exact hG
def F175_70 (v1 : Int32) (v2 : Int32) (q : aQ) : (Int32 × aQ) ⊕ (aQ) := (if (q.1 650 5) ≤ v2 then .inr q else (if (q.1 665 (Int32.toNatClampNeg v2)) = 0 then F175_92 v1 v2 q else F175_92 v1 v2 (F174_0 v2 q)))
def S175_70 (v1 : Int32) (v2 : Int32) (q : aQ) : Prop := (((q.1 650 5) ≤ v2) → True) ∧ (¬ ((q.1 650 5) ≤ v2) → vp_in v2 25 ∧ ((((q.1 665 (Int32.toNatClampNeg v2)) = 0) → S175_92 v1 v2 q) ∧ (¬ ((q.1 665 (Int32.toNatClampNeg v2)) = 0) → S174_0 v2 q ∧ (S175_92 v1 v2 (F174_0 v2 q)))))
set_option maxRecDepth 100000 in
set_option maxHeartbeats 4000000 in
theorem A175_70 {l : Launch} {X : aX} {d : Nat} {r : Option Value} {h' : aH} {v1 : Int32} {v2 : Int32} {q : aQ} (hd : 7 ≤ d) (hN : h'.1 = nk0) (hG : gL (fun (s : Int32 × aQ) => AW l X 175 c175 d r h' 70 [some (.ref 650), some (.int v1), some (.int s.1)] [] (hp s.2)) (fun (e : aQ) => AW l X 175 c175 d r h' 98 [some (.ref 650), some (.int v1), none] [] (hp e)) (F175_70 v1 v2 q)) (hS : S175_70 v1 v2 q) : AW l X 175 c175 d r h' 70 [some (.ref 650), some (.int v1), some (.int v2)] [] (hp q) := by
  unfold F175_70 at hG
  unfold S175_70 at hS
  refine x_run (pc' := 72) (lo' := [some (.ref 650), some (.int v1), some (.int v2)]) (st' := [.ref 650, .int v2]) 2 rfl ?_
  refine x_gf (c := 581) (ne := 0) (v := .int (q.1 650 5)) rfl (by decide +kernel) rfl rfl ?_
  refine x_ic 98 rfl rfl (fun (hc10 : (q.1 650 5) ≤ v2) => ?_) (fun (hc10 : ¬ (q.1 650 5) ≤ v2) => ?_)
  · rw [if_pos hc10] at hG
    replace hS := hS.1 hc10
    refine x_kill [2] ?_
    exact hG
  · rw [if_neg hc10] at hG
    replace hS := hS.2 hc10
    refine x_run (pc' := 79) (lo' := [some (.ref 650), some (.int v1), some (.int v2)]) (st' := [.ref 650]) 1 rfl ?_
    refine x_gf (c := 594) (ne := 0) (v := .ref 665) rfl (by decide +kernel) rfl rfl ?_
    refine x_run (pc' := 83) (lo' := [some (.ref 650), some (.int v1), some (.int v2)]) (st' := [.int v2, .ref 665]) 1 rfl ?_
    obtain ⟨o11, hS⟩ := hS
    refine p_za (n := 25) (v := (q.1 665 (Int32.toNatClampNeg v2))) rfl rfl o11 rfl ?_
    refine x_if 92 rfl rfl (fun (hc12 : (q.1 665 (Int32.toNatClampNeg v2)) = 0) => ?_) (fun (hc12 : ¬ (q.1 665 (Int32.toNatClampNeg v2)) = 0) => ?_)
    · rw [if_pos hc12] at hG
      replace hS := hS.1 hc12
      exact A175_92 hd hN hG hS
    · rw [if_neg hc12] at hG
      replace hS := hS.2 hc12
      refine x_run (pc' := 89) (lo' := [some (.ref 650), some (.int v1), some (.int v2)]) (st' := [.int v2, .ref 650]) 2 rfl ?_
      obtain ⟨o13, hS⟩ := hS
      refine x_cv (j := 174) (ne := 0) (vs := [.int v2]) (rest := []) rfl (by decide +kernel) (by decide +kernel) (by decide) (Eq.trans rfl (show 1 = _ from by decide +kernel)) rfl (by decide +kernel) rfl (Nat.le_of_ble_eq_true rfl) (by omega) (T174 (Nat.le_refl 6) o13) (hp_m hN) ?_
      show AW l X 175 c175 d r h' 92 [some (.ref 650), some (.int v1), some (.int v2)] [] (hp (F174_0 v2 q))
      exact A175_92 hd hN hG hS
def F175_98 (v1 : Int32) (q : aQ) : (Int32 × aQ) ⊕ (aQ) := .inl ((v1 + 1), q)
def S175_98 (v1 : Int32) (q : aQ) : Prop := True
set_option maxRecDepth 100000 in
set_option maxHeartbeats 4000000 in
theorem A175_98 {l : Launch} {X : aX} {d : Nat} {r : Option Value} {h' : aH} {v1 : Int32} {q : aQ} (hd : 7 ≤ d) (hN : h'.1 = nk0) (hG : gL (fun (s : Int32 × aQ) => AW l X 175 c175 d r h' 49 [some (.ref 650), some (.int s.1), none] [] (hp s.2)) (fun (e : aQ) => AW l X 175 c175 d r h' 104 [some (.ref 650), none, none] [] (hp e)) (F175_98 v1 q)) (hS : S175_98 v1 q) : AW l X 175 c175 d r h' 98 [some (.ref 650), some (.int v1), none] [] (hp q) := by
  unfold F175_98 at hG
  unfold S175_98 at hS
  refine x_run (pc' := 49) (lo' := [some (.ref 650), some (.int (v1 + 1)), none]) (st' := []) 2 rfl ?_
  exact hG
def F175_49 (v1 : Int32) (q : aQ) : (Int32 × aQ) ⊕ (aQ) := (if 20000 ≤ v1 then .inr q else (if (q.1 650 22) = 0 then .inr q else (fun (e14 : aQ) => F175_98 v1 e14) (a_lp (fun (s : Int32 × aQ) => F175_70 v1 s.1 s.2) 200 (0, (a_w q 650 22 0)) (a_w q 650 22 0))))
def S175_49 (v1 : Int32) (q : aQ) : Prop := ((20000 ≤ v1) → True) ∧ (¬ (20000 ≤ v1) → (((q.1 650 22) = 0) → True) ∧ (¬ ((q.1 650 22) = 0) → a_sf (fun (s : Int32 × aQ) => F175_70 v1 s.1 s.2) (fun (s : Int32 × aQ) => S175_70 v1 s.1 s.2) 200 (0, (a_w q 650 22 0)) ∧ (fun (e14 : aQ) => S175_98 v1 e14) (a_lp (fun (s : Int32 × aQ) => F175_70 v1 s.1 s.2) 200 (0, (a_w q 650 22 0)) (a_w q 650 22 0))))
set_option maxRecDepth 100000 in
set_option maxHeartbeats 4000000 in
theorem A175_49 {l : Launch} {X : aX} {d : Nat} {r : Option Value} {h' : aH} {v1 : Int32} {q : aQ} (hd : 7 ≤ d) (hN : h'.1 = nk0) (hG : gL (fun (s : Int32 × aQ) => AW l X 175 c175 d r h' 49 [some (.ref 650), some (.int s.1), none] [] (hp s.2)) (fun (e : aQ) => AW l X 175 c175 d r h' 104 [some (.ref 650), none, none] [] (hp e)) (F175_49 v1 q)) (hS : S175_49 v1 q) : AW l X 175 c175 d r h' 49 [some (.ref 650), some (.int v1), none] [] (hp q) := by
  unfold F175_49 at hG
  unfold S175_49 at hS
  refine x_run (pc' := 53) (lo' := [some (.ref 650), some (.int v1), none]) (st' := [.int 20000, .int v1]) 2 rfl ?_
  refine x_ic 104 rfl rfl (fun (hc8 : 20000 ≤ v1) => ?_) (fun (hc8 : ¬ 20000 ≤ v1) => ?_)
  · rw [if_pos hc8] at hG
    replace hS := hS.1 hc8
    refine x_kill [1] ?_
    exact hG
  · rw [if_neg hc8] at hG
    replace hS := hS.2 hc8
    refine x_run (pc' := 57) (lo' := [some (.ref 650), some (.int v1), none]) (st' := [.ref 650]) 1 rfl ?_
    refine x_gf (c := 598) (ne := 0) (v := .int (q.1 650 22)) rfl (by decide +kernel) rfl rfl ?_
    refine x_if 104 rfl rfl (fun (hc9 : (q.1 650 22) = 0) => ?_) (fun (hc9 : ¬ (q.1 650 22) = 0) => ?_)
    · rw [if_pos hc9] at hG
      replace hS := hS.1 hc9
      refine x_kill [1] ?_
      exact hG
    · rw [if_neg hc9] at hG
      replace hS := hS.2 hc9
      refine x_run (pc' := 65) (lo' := [some (.ref 650), some (.int v1), none]) (st' := [.int 0, .ref 650]) 2 rfl ?_
      refine x_pf (c := 598) (ne := 0) (h2 := hp (a_w q 650 22 0)) rfl (by decide +kernel) (by decide +kernel) rfl (pv_z rfl (Or.inl rfl)) ?_
      refine x_run (pc' := 70) (lo' := [some (.ref 650), some (.int v1), some (.int 0)]) (st' := []) 2 rfl ?_
      obtain ⟨ho, hS⟩ := hS
      refine x_loop (fun (s : Int32 × aQ) => F175_70 v1 s.1 s.2) (fun (s : Int32 × aQ) => S175_70 v1 s.1 s.2) (fun (s : Int32 × aQ) => AW l X 175 c175 d r h' 70 [some (.ref 650), some (.int v1), some (.int s.1)] [] (hp s.2)) (fun (e : aQ) => AW l X 175 c175 d r h' 98 [some (.ref 650), some (.int v1), none] [] (hp e)) (fun s hs hg => A175_70 hd hN hg hs) 200 (0, (a_w q 650 22 0)) ho (fun e14 he => ?_)
      rw [a_lp_eq he] at hG hS
      try dsimp only at hG hS
      exact A175_98 hd hN hG hS
def F175_130 (v2 : Int32) (s0 : Int32) (q : aQ) : (Int32 × Int32 × aQ) ⊕ (Int32 × aQ) := .inl (s0, (v2 + 1), q)
def S175_130 (v2 : Int32) (s0 : Int32) (q : aQ) : Prop := True
set_option maxRecDepth 100000 in
set_option maxHeartbeats 4000000 in
theorem A175_130 {l : Launch} {X : aX} {d : Nat} {r : Option Value} {h' : aH} {v2 : Int32} {s0 : Int32} {q : aQ} (hd : 7 ≤ d) (hN : h'.1 = nk0) (hG : gL (fun (s : Int32 × Int32 × aQ) => AW l X 175 c175 d r h' 108 [some (.ref 650), some (.int s.1), some (.int s.2.1)] [] (hp s.2.2)) (fun (e : Int32 × aQ) => AW l X 175 c175 d r h' 137 [none, some (.int e.1), none] [] (hp e.2)) (F175_130 v2 s0 q)) (hS : S175_130 v2 s0 q) : AW l X 175 c175 d r h' 130 [some (.ref 650), none, some (.int v2)] [.int s0] (hp q) := by
  unfold F175_130 at hG
  unfold S175_130 at hS
  refine x_run (pc' := 108) (lo' := [some (.ref 650), some (.int s0), some (.int (v2 + 1))]) (st' := []) 3 rfl ?_
  exact hG
def F175_108 (v1 : Int32) (v2 : Int32) (q : aQ) : (Int32 × Int32 × aQ) ⊕ (Int32 × aQ) := (if 120 ≤ v2 then .inr (v1, q) else (if (q.1 668 (Int32.toNatClampNeg v2)) = 0 then F175_130 v2 v1 q else F175_130 v2 (v1 + 1) q))
def S175_108 (v1 : Int32) (v2 : Int32) (q : aQ) : Prop := ((120 ≤ v2) → True) ∧ (¬ (120 ≤ v2) → vp_in v2 120 ∧ ((((q.1 668 (Int32.toNatClampNeg v2)) = 0) → S175_130 v2 v1 q) ∧ (¬ ((q.1 668 (Int32.toNatClampNeg v2)) = 0) → S175_130 v2 (v1 + 1) q)))
set_option maxRecDepth 100000 in
set_option maxHeartbeats 4000000 in
theorem A175_108 {l : Launch} {X : aX} {d : Nat} {r : Option Value} {h' : aH} {v1 : Int32} {v2 : Int32} {q : aQ} (hd : 7 ≤ d) (hN : h'.1 = nk0) (hG : gL (fun (s : Int32 × Int32 × aQ) => AW l X 175 c175 d r h' 108 [some (.ref 650), some (.int s.1), some (.int s.2.1)] [] (hp s.2.2)) (fun (e : Int32 × aQ) => AW l X 175 c175 d r h' 137 [none, some (.int e.1), none] [] (hp e.2)) (F175_108 v1 v2 q)) (hS : S175_108 v1 v2 q) : AW l X 175 c175 d r h' 108 [some (.ref 650), some (.int v1), some (.int v2)] [] (hp q) := by
  unfold F175_108 at hG
  unfold S175_108 at hS
  refine x_run (pc' := 111) (lo' := [some (.ref 650), some (.int v1), some (.int v2)]) (st' := [.int 120, .int v2]) 2 rfl ?_
  refine x_ic 137 rfl rfl (fun (hc16 : 120 ≤ v2) => ?_) (fun (hc16 : ¬ 120 ≤ v2) => ?_)
  · rw [if_pos hc16] at hG
    replace hS := hS.1 hc16
    refine x_kill [0, 2] ?_
    exact hG
  · rw [if_neg hc16] at hG
    replace hS := hS.2 hc16
    refine x_run (pc' := 115) (lo' := [some (.ref 650), some (.int v1), some (.int v2)]) (st' := [.ref 650]) 1 rfl ?_
    refine x_gf (c := 597) (ne := 0) (v := .ref 668) rfl (by decide +kernel) rfl rfl ?_
    refine x_run (pc' := 119) (lo' := [some (.ref 650), some (.int v1), some (.int v2)]) (st' := [.int v2, .ref 668]) 1 rfl ?_
    obtain ⟨o17, hS⟩ := hS
    refine p_za (n := 120) (v := (q.1 668 (Int32.toNatClampNeg v2))) rfl rfl o17 rfl ?_
    refine x_if 129 rfl rfl (fun (hc18 : (q.1 668 (Int32.toNatClampNeg v2)) = 0) => ?_) (fun (hc18 : ¬ (q.1 668 (Int32.toNatClampNeg v2)) = 0) => ?_)
    · rw [if_pos hc18] at hG
      replace hS := hS.1 hc18
      refine x_run (pc' := 130) (lo' := [some (.ref 650), some (.int v1), some (.int v2)]) (st' := [.int v1]) 1 rfl ?_
      refine x_kill [1] ?_
      exact A175_130 hd hN hG hS
    · rw [if_neg hc18] at hG
      replace hS := hS.2 hc18
      refine x_run (pc' := 130) (lo' := [some (.ref 650), some (.int v1), some (.int v2)]) (st' := [.int (v1 + 1)]) 4 rfl ?_
      refine x_kill [1] ?_
      exact A175_130 hd hN hG hS
def F175_137 (v1 : Int32) (q : aQ) : Int32 × aQ := (v1, q)
def S175_137 (v1 : Int32) (q : aQ) : Prop := True
set_option maxRecDepth 100000 in
set_option maxHeartbeats 4000000 in
theorem A175_137 {l : Launch} {X : aX} {d : Nat} {r : Option Value} {h' : aH} {v1 : Int32} {q : aQ} (hd : 7 ≤ d) (hN : h'.1 = nk0) (hG : gI r h' (F175_137 v1 q)) (hS : S175_137 v1 q) : AW l X 175 c175 d r h' 137 [none, some (.int v1), none] [] (hp q) := by
  unfold F175_137 at hG
  unfold S175_137 at hS
  refine x_run (pc' := 138) (lo' := [none, some (.int v1), none]) (st' := [.int v1]) 1 rfl ?_
  obtain ⟨rfl, rfl⟩ := hG
  exact x_iret rfl (by decide +kernel)
def F175_104 (q : aQ) : Int32 × aQ := (fun (e19 : Int32 × aQ) => F175_137 e19.1 e19.2) (a_lp (fun (s : Int32 × Int32 × aQ) => F175_108 s.1 s.2.1 s.2.2) 200 (0, 0, q) (0, q))
def S175_104 (q : aQ) : Prop := a_sf (fun (s : Int32 × Int32 × aQ) => F175_108 s.1 s.2.1 s.2.2) (fun (s : Int32 × Int32 × aQ) => S175_108 s.1 s.2.1 s.2.2) 200 (0, 0, q) ∧ (fun (e19 : Int32 × aQ) => S175_137 e19.1 e19.2) (a_lp (fun (s : Int32 × Int32 × aQ) => F175_108 s.1 s.2.1 s.2.2) 200 (0, 0, q) (0, q))
set_option maxRecDepth 100000 in
set_option maxHeartbeats 4000000 in
theorem A175_104 {l : Launch} {X : aX} {d : Nat} {r : Option Value} {h' : aH} {q : aQ} (hd : 7 ≤ d) (hN : h'.1 = nk0) (hG : gI r h' (F175_104 q)) (hS : S175_104 q) : AW l X 175 c175 d r h' 104 [some (.ref 650), none, none] [] (hp q) := by
  unfold F175_104 at hG
  unfold S175_104 at hS
  refine x_run (pc' := 108) (lo' := [some (.ref 650), some (.int 0), some (.int 0)]) (st' := []) 4 rfl ?_
  obtain ⟨ho, hS⟩ := hS
  refine x_loop (fun (s : Int32 × Int32 × aQ) => F175_108 s.1 s.2.1 s.2.2) (fun (s : Int32 × Int32 × aQ) => S175_108 s.1 s.2.1 s.2.2) (fun (s : Int32 × Int32 × aQ) => AW l X 175 c175 d r h' 108 [some (.ref 650), some (.int s.1), some (.int s.2.1)] [] (hp s.2.2)) (fun (e : Int32 × aQ) => AW l X 175 c175 d r h' 137 [none, some (.int e.1), none] [] (hp e.2)) (fun s hs hg => A175_108 hd hN hg hs) 200 (0, 0, q) ho (fun e19 he => ?_)
  rw [a_lp_eq he] at hG hS
  try dsimp only at hG hS
  exact A175_137 hd hN hG hS
def F175_47 (q : aQ) : Int32 × aQ := (fun (e15 : aQ) => F175_104 e15) (a_lp (fun (s : Int32 × aQ) => F175_49 s.1 s.2) 20001 (0, q) q)
def S175_47 (q : aQ) : Prop := a_sf (fun (s : Int32 × aQ) => F175_49 s.1 s.2) (fun (s : Int32 × aQ) => S175_49 s.1 s.2) 20001 (0, q) ∧ (fun (e15 : aQ) => S175_104 e15) (a_lp (fun (s : Int32 × aQ) => F175_49 s.1 s.2) 20001 (0, q) q)
set_option maxRecDepth 100000 in
set_option maxHeartbeats 4000000 in
theorem A175_47 {l : Launch} {X : aX} {d : Nat} {r : Option Value} {h' : aH} {q : aQ} (hd : 7 ≤ d) (hN : h'.1 = nk0) (hG : gI r h' (F175_47 q)) (hS : S175_47 q) : AW l X 175 c175 d r h' 47 [some (.ref 650), none, none] [] (hp q) := by
  unfold F175_47 at hG
  unfold S175_47 at hS
  refine x_run (pc' := 49) (lo' := [some (.ref 650), some (.int 0), none]) (st' := []) 2 rfl ?_
  obtain ⟨ho, hS⟩ := hS
  refine x_loop (fun (s : Int32 × aQ) => F175_49 s.1 s.2) (fun (s : Int32 × aQ) => S175_49 s.1 s.2) (fun (s : Int32 × aQ) => AW l X 175 c175 d r h' 49 [some (.ref 650), some (.int s.1), none] [] (hp s.2)) (fun (e : aQ) => AW l X 175 c175 d r h' 104 [some (.ref 650), none, none] [] (hp e)) (fun s hs hg => A175_49 hd hN hg hs) 20001 (0, q) ho (fun e15 he => ?_)
  rw [a_lp_eq he] at hG hS
  try dsimp only at hG hS
  exact A175_104 hd hN hG hS
def F175_34 (q : aQ) : Int32 × aQ := F175_47 (F172_0 (F150_0 (a_w q 650 22 1)) (a_w q 650 22 1))
def S175_34 (q : aQ) : Prop := S150_0 (a_w q 650 22 1) ∧ (S172_0 (F150_0 (a_w q 650 22 1)) (a_w q 650 22 1) ∧ (S175_47 (F172_0 (F150_0 (a_w q 650 22 1)) (a_w q 650 22 1))))
set_option maxRecDepth 100000 in
set_option maxHeartbeats 4000000 in
theorem A175_34 {l : Launch} {X : aX} {d : Nat} {r : Option Value} {h' : aH} {q : aQ} (hd : 7 ≤ d) (hN : h'.1 = nk0) (hG : gI r h' (F175_34 q)) (hS : S175_34 q) : AW l X 175 c175 d r h' 34 [some (.ref 650), none, none] [] (hp q) := by
  unfold F175_34 at hG
  unfold S175_34 at hS
  refine x_run (pc' := 36) (lo' := [some (.ref 650), none, none]) (st' := [.int 1, .ref 650]) 2 rfl ?_
  refine x_pf (c := 598) (ne := 0) (h2 := hp (a_w q 650 22 1)) rfl (by decide +kernel) (by decide +kernel) rfl (pv_z rfl (Or.inr rfl)) ?_
  refine x_run (pc' := 41) (lo' := [some (.ref 650), none, none]) (st' := [.ref 650, .ref 650]) 2 rfl ?_
  obtain ⟨o6, hS⟩ := hS
  refine x_cv (j := 150) (ne := 0) (vs := []) (rest := [.ref 650]) rfl (by decide +kernel) (by decide +kernel) (by decide) (Eq.trans rfl (show 0 = _ from by decide +kernel)) rfl (by decide +kernel) rfl (Nat.le_of_ble_eq_true rfl) (by omega) (T150 (Nat.le_refl 1) o6) (hp_m hN) ?_
  show AW l X 175 c175 d r h' 44 [some (.ref 650), none, none] [.int (F150_0 (a_w q 650 22 1)), .ref 650] (hp (a_w q 650 22 1))
  obtain ⟨o7, hS⟩ := hS
  refine x_cv (j := 172) (ne := 0) (vs := [.int (F150_0 (a_w q 650 22 1))]) (rest := []) rfl (by decide +kernel) (by decide +kernel) (by decide) (Eq.trans rfl (show 1 = _ from by decide +kernel)) rfl (by decide +kernel) rfl (Nat.le_of_ble_eq_true rfl) (by omega) (T172 (Nat.le_refl 2) o7) (hp_m hN) ?_
  show AW l X 175 c175 d r h' 47 [some (.ref 650), none, none] [] (hp (F172_0 (F150_0 (a_w q 650 22 1)) (a_w q 650 22 1)))
  exact A175_47 hd hN hG hS
def F175_13 (q : aQ) : Int32 × aQ := (fun (e5 : aQ) => F175_34 e5) (a_lp (fun (s : Int32 × aQ) => F175_15 s.1 s.2) 200 (0, q) q)
def S175_13 (q : aQ) : Prop := a_sf (fun (s : Int32 × aQ) => F175_15 s.1 s.2) (fun (s : Int32 × aQ) => S175_15 s.1 s.2) 200 (0, q) ∧ (fun (e5 : aQ) => S175_34 e5) (a_lp (fun (s : Int32 × aQ) => F175_15 s.1 s.2) 200 (0, q) q)
set_option maxRecDepth 100000 in
set_option maxHeartbeats 4000000 in
theorem A175_13 {l : Launch} {X : aX} {d : Nat} {r : Option Value} {h' : aH} {q : aQ} (hd : 7 ≤ d) (hN : h'.1 = nk0) (hG : gI r h' (F175_13 q)) (hS : S175_13 q) : AW l X 175 c175 d r h' 13 [some (.ref 650), none, none] [] (hp q) := by
  unfold F175_13 at hG
  unfold S175_13 at hS
  refine x_run (pc' := 15) (lo' := [some (.ref 650), some (.int 0), none]) (st' := []) 2 rfl ?_
  obtain ⟨ho, hS⟩ := hS
  refine x_loop (fun (s : Int32 × aQ) => F175_15 s.1 s.2) (fun (s : Int32 × aQ) => S175_15 s.1 s.2) (fun (s : Int32 × aQ) => AW l X 175 c175 d r h' 15 [some (.ref 650), some (.int s.1), none] [] (hp s.2)) (fun (e : aQ) => AW l X 175 c175 d r h' 34 [some (.ref 650), none, none] [] (hp e)) (fun s hs hg => A175_15 hd hN hg hs) 200 (0, q) ho (fun e5 he => ?_)
  rw [a_lp_eq he] at hG hS
  try dsimp only at hG hS
  exact A175_34 hd hN hG hS
def F175_0 (q : aQ) : Int32 × aQ := (if (q.1 650 14) ≤ 0 then F175_13 (F132_0 q) else ((-1), q))
def S175_0 (q : aQ) : Prop := (((q.1 650 14) ≤ 0) → S132_0 q ∧ (S175_13 (F132_0 q))) ∧ (¬ ((q.1 650 14) ≤ 0) → True)
set_option maxRecDepth 100000 in
set_option maxHeartbeats 4000000 in
theorem A175_0 {l : Launch} {X : aX} {d : Nat} {r : Option Value} {h' : aH} {q : aQ} (hd : 7 ≤ d) (hN : h'.1 = nk0) (hG : gI r h' (F175_0 q)) (hS : S175_0 q) : AW l X 175 c175 d r h' 0 [some (.ref 650), none, none] [] (hp q) := by
  unfold F175_0 at hG
  unfold S175_0 at hS
  refine x_run (pc' := 1) (lo' := [some (.ref 650), none, none]) (st' := [.ref 650]) 1 rfl ?_
  refine x_gf (c := 590) (ne := 0) (v := .int (q.1 650 14)) rfl (by decide +kernel) rfl rfl ?_
  refine x_if 9 rfl rfl (fun (hc1 : (q.1 650 14) ≤ 0) => ?_) (fun (hc1 : ¬ (q.1 650 14) ≤ 0) => ?_)
  · rw [if_pos hc1] at hG
    replace hS := hS.1 hc1
    refine x_run (pc' := 10) (lo' := [some (.ref 650), none, none]) (st' := [.ref 650]) 1 rfl ?_
    obtain ⟨o2, hS⟩ := hS
    refine x_cv (j := 132) (ne := 0) (vs := []) (rest := []) rfl (by decide +kernel) (by decide +kernel) (by decide) (Eq.trans rfl (show 0 = _ from by decide +kernel)) rfl (by decide +kernel) rfl (Nat.le_of_ble_eq_true rfl) (by omega) (T132 (Nat.le_refl 1) o2) (hp_m hN) ?_
    show AW l X 175 c175 d r h' 13 [some (.ref 650), none, none] [] (hp (F132_0 q))
    exact A175_13 hd hN hG hS
  · rw [if_neg hc1] at hG
    replace hS := hS.2 hc1
    refine x_run (pc' := 8) (lo' := [some (.ref 650), none, none]) (st' := [.int (-1)]) 1 rfl ?_
    obtain ⟨rfl, rfl⟩ := hG
    exact x_iret rfl (by decide +kernel)
theorem T175 {l : Launch} {X : aX} {d : Nat} {q : aQ} (hd : 7 ≤ d) (hS : S175_0 q) : Call l X d 175 [.ref 650] (hp q) (some (.int (F175_0 q).1)) (hp (F175_0 q).2) := Call.of ok175 (by decide) (Nat.le_of_ble_eq_true rfl) ⟨Nat.le_refl _, Nat.le_refl _⟩ (A175_0 hd rfl ⟨rfl, rfl⟩ hS)
/-- TypeForecastModel.alarm(II)Z -/
def F176_0 (v1 : Int32) (v2 : Int32) (q : aQ) : Int32 := (if v1 < 1 then 0 else (if 4 < v1 then 0 else (if v2 < 0 then 0 else (if (q.1 650 5) ≤ v2 then 0 else (if (q.1 668 (Int32.toNatClampNeg ((5 * v2) + v1))) = 0 then 0 else 1)))))
def S176_0 (v1 : Int32) (v2 : Int32) (q : aQ) : Prop := ((v1 < 1) → True) ∧ (¬ (v1 < 1) → ((4 < v1) → True) ∧ (¬ (4 < v1) → ((v2 < 0) → True) ∧ (¬ (v2 < 0) → (((q.1 650 5) ≤ v2) → True) ∧ (¬ ((q.1 650 5) ≤ v2) → vp_in ((5 * v2) + v1) 120 ∧ ((((q.1 668 (Int32.toNatClampNeg ((5 * v2) + v1))) = 0) → True) ∧ (¬ ((q.1 668 (Int32.toNatClampNeg ((5 * v2) + v1))) = 0) → True))))))
set_option maxRecDepth 100000 in
set_option maxHeartbeats 4000000 in
theorem A176_0 {l : Launch} {X : aX} {d : Nat} {r : Option Value} {h' : aH} {v1 : Int32} {v2 : Int32} {q : aQ} (hd : 1 ≤ d) (hN : h'.1 = nk0) (hG : gI r h' (F176_0 v1 v2 q, q)) (hS : S176_0 v1 v2 q) : AW l X 176 c176 d r h' 0 [some (.ref 650), some (.int v1), some (.int v2)] [] (hp q) := by
  unfold F176_0 at hG
  unfold S176_0 at hS
  refine x_run (pc' := 2) (lo' := [some (.ref 650), some (.int v1), some (.int v2)]) (st' := [.int 1, .int v1]) 2 rfl ?_
  refine x_ic 39 rfl rfl (fun (hc1 : v1 < 1) => ?_) (fun (hc1 : ¬ v1 < 1) => ?_)
  · rw [if_pos hc1] at hG
    replace hS := hS.1 hc1
    refine x_run (pc' := 40) (lo' := [some (.ref 650), some (.int v1), some (.int v2)]) (st' := [.int 0]) 1 rfl ?_
    obtain ⟨rfl, rfl⟩ := hG
    exact x_zret rfl (by decide +kernel) (Or.inl rfl)
  · rw [if_neg hc1] at hG
    replace hS := hS.2 hc1
    refine x_run (pc' := 7) (lo' := [some (.ref 650), some (.int v1), some (.int v2)]) (st' := [.int 4, .int v1]) 2 rfl ?_
    refine x_ic 39 rfl rfl (fun (hc2 : 4 < v1) => ?_) (fun (hc2 : ¬ 4 < v1) => ?_)
    · rw [if_pos hc2] at hG
      replace hS := hS.1 hc2
      refine x_run (pc' := 40) (lo' := [some (.ref 650), some (.int v1), some (.int v2)]) (st' := [.int 0]) 1 rfl ?_
      obtain ⟨rfl, rfl⟩ := hG
      exact x_zret rfl (by decide +kernel) (Or.inl rfl)
    · rw [if_neg hc2] at hG
      replace hS := hS.2 hc2
      refine x_run (pc' := 11) (lo' := [some (.ref 650), some (.int v1), some (.int v2)]) (st' := [.int v2]) 1 rfl ?_
      refine x_if 39 rfl rfl (fun (hc3 : v2 < 0) => ?_) (fun (hc3 : ¬ v2 < 0) => ?_)
      · rw [if_pos hc3] at hG
        replace hS := hS.1 hc3
        refine x_run (pc' := 40) (lo' := [some (.ref 650), some (.int v1), some (.int v2)]) (st' := [.int 0]) 1 rfl ?_
        obtain ⟨rfl, rfl⟩ := hG
        exact x_zret rfl (by decide +kernel) (Or.inl rfl)
      · rw [if_neg hc3] at hG
        replace hS := hS.2 hc3
        refine x_run (pc' := 16) (lo' := [some (.ref 650), some (.int v1), some (.int v2)]) (st' := [.ref 650, .int v2]) 2 rfl ?_
        refine x_gf (c := 581) (ne := 0) (v := .int (q.1 650 5)) rfl (by decide +kernel) rfl rfl ?_
        refine x_ic 39 rfl rfl (fun (hc4 : (q.1 650 5) ≤ v2) => ?_) (fun (hc4 : ¬ (q.1 650 5) ≤ v2) => ?_)
        · rw [if_pos hc4] at hG
          replace hS := hS.1 hc4
          refine x_run (pc' := 40) (lo' := [some (.ref 650), some (.int v1), some (.int v2)]) (st' := [.int 0]) 1 rfl ?_
          obtain ⟨rfl, rfl⟩ := hG
          exact x_zret rfl (by decide +kernel) (Or.inl rfl)
        · rw [if_neg hc4] at hG
          replace hS := hS.2 hc4
          refine x_run (pc' := 23) (lo' := [some (.ref 650), some (.int v1), some (.int v2)]) (st' := [.ref 650]) 1 rfl ?_
          refine x_gf (c := 597) (ne := 0) (v := .ref 668) rfl (by decide +kernel) rfl rfl ?_
          refine x_run (pc' := 31) (lo' := [some (.ref 650), some (.int v1), some (.int v2)]) (st' := [.int ((5 * v2) + v1), .ref 668]) 5 rfl ?_
          obtain ⟨o5, hS⟩ := hS
          refine p_za (n := 120) (v := (q.1 668 (Int32.toNatClampNeg ((5 * v2) + v1)))) rfl rfl o5 rfl ?_
          refine x_if 39 rfl rfl (fun (hc6 : (q.1 668 (Int32.toNatClampNeg ((5 * v2) + v1))) = 0) => ?_) (fun (hc6 : ¬ (q.1 668 (Int32.toNatClampNeg ((5 * v2) + v1))) = 0) => ?_)
          · rw [if_pos hc6] at hG
            replace hS := hS.1 hc6
            refine x_run (pc' := 40) (lo' := [some (.ref 650), some (.int v1), some (.int v2)]) (st' := [.int 0]) 1 rfl ?_
            obtain ⟨rfl, rfl⟩ := hG
            exact x_zret rfl (by decide +kernel) (Or.inl rfl)
          · rw [if_neg hc6] at hG
            replace hS := hS.2 hc6
            refine x_run (pc' := 40) (lo' := [some (.ref 650), some (.int v1), some (.int v2)]) (st' := [.int 1]) 2 rfl ?_
            obtain ⟨rfl, rfl⟩ := hG
            exact x_zret rfl (by decide +kernel) (Or.inr rfl)
theorem T176 {l : Launch} {X : aX} {d : Nat} {v1 : Int32} {v2 : Int32} {q : aQ} (hd : 1 ≤ d) (hS : S176_0 v1 v2 q) : Call l X d 176 [.ref 650, .int v1, .int v2] (hp q) (some (.int (F176_0 v1 v2 q))) (hp q) := Call.of ok176 (by decide) (Nat.le_of_ble_eq_true rfl) ⟨Nat.le_refl _, Nat.le_refl _⟩ (A176_0 hd rfl ⟨rfl, rfl⟩ hS)
/-- TypeForecastModel.seen(II)I -/
def F177_34 (v2 : Int32) (s0 : Int32) (q : aQ) : Int32 := (if (q.1 665 (Int32.toNatClampNeg s0)) = 0 then 0 else (q.1 666 (Int32.toNatClampNeg ((5 * s0) + v2))))
def S177_34 (v2 : Int32) (s0 : Int32) (q : aQ) : Prop := vp_in s0 25 ∧ ((((q.1 665 (Int32.toNatClampNeg s0)) = 0) → True) ∧ (¬ ((q.1 665 (Int32.toNatClampNeg s0)) = 0) → vp_in ((5 * s0) + v2) 125 ∧ (True)))
set_option maxRecDepth 100000 in
set_option maxHeartbeats 4000000 in
theorem A177_34 {l : Launch} {X : aX} {d : Nat} {r : Option Value} {h' : aH} {v2 : Int32} {s0 : Int32} {q : aQ} (hd : 1 ≤ d) (hN : h'.1 = nk0) (hG : gI r h' (F177_34 v2 s0 q, q)) (hS : S177_34 v2 s0 q) : AW l X 177 c177 d r h' 34 [some (.ref 650), none, some (.int v2), none] [.int s0] (hp q) := by
  unfold F177_34 at hG
  unfold S177_34 at hS
  refine x_run (pc' := 36) (lo' := [some (.ref 650), none, some (.int v2), some (.int s0)]) (st' := [.ref 650]) 2 rfl ?_
  refine x_gf (c := 594) (ne := 0) (v := .ref 665) rfl (by decide +kernel) rfl rfl ?_
  refine x_run (pc' := 40) (lo' := [some (.ref 650), none, some (.int v2), some (.int s0)]) (st' := [.int s0, .ref 665]) 1 rfl ?_
  obtain ⟨o6, hS⟩ := hS
  refine p_za (n := 25) (v := (q.1 665 (Int32.toNatClampNeg s0))) rfl rfl o6 rfl ?_
  refine x_if 57 rfl rfl (fun (hc7 : (q.1 665 (Int32.toNatClampNeg s0)) = 0) => ?_) (fun (hc7 : ¬ (q.1 665 (Int32.toNatClampNeg s0)) = 0) => ?_)
  · rw [if_pos hc7] at hG
    replace hS := hS.1 hc7
    refine x_run (pc' := 58) (lo' := [some (.ref 650), none, some (.int v2), some (.int s0)]) (st' := [.int 0]) 1 rfl ?_
    obtain ⟨rfl, rfl⟩ := hG
    exact x_iret rfl (by decide +kernel)
  · rw [if_neg hc7] at hG
    replace hS := hS.2 hc7
    refine x_run (pc' := 45) (lo' := [some (.ref 650), none, some (.int v2), some (.int s0)]) (st' := [.ref 650]) 1 rfl ?_
    refine x_gf (c := 595) (ne := 0) (v := .ref 666) rfl (by decide +kernel) rfl rfl ?_
    refine x_run (pc' := 53) (lo' := [some (.ref 650), none, some (.int v2), some (.int s0)]) (st' := [.int ((5 * s0) + v2), .ref 666]) 5 rfl ?_
    obtain ⟨o8, hS⟩ := hS
    refine p_ia (n := 125) (v := (q.1 666 (Int32.toNatClampNeg ((5 * s0) + v2)))) rfl rfl o8 rfl ?_
    refine x_run (pc' := 58) (lo' := [some (.ref 650), none, some (.int v2), some (.int s0)]) (st' := [.int (q.1 666 (Int32.toNatClampNeg ((5 * s0) + v2)))]) 1 rfl ?_
    obtain ⟨rfl, rfl⟩ := hG
    exact x_iret rfl (by decide +kernel)
def F177_0 (v1 : Int32) (v2 : Int32) (q : aQ) : Int32 := (if v2 < 0 then (-1) else (if 4 < v2 then (-1) else (if v1 < (-1) then (-1) else (if v1 < (q.1 650 5) then (if 0 ≤ v1 then F177_34 v2 v1 q else F177_34 v2 24 q) else (-1)))))
def S177_0 (v1 : Int32) (v2 : Int32) (q : aQ) : Prop := ((v2 < 0) → True) ∧ (¬ (v2 < 0) → ((4 < v2) → True) ∧ (¬ (4 < v2) → ((v1 < (-1)) → True) ∧ (¬ (v1 < (-1)) → ((v1 < (q.1 650 5)) → ((0 ≤ v1) → S177_34 v2 v1 q) ∧ (¬ (0 ≤ v1) → S177_34 v2 24 q)) ∧ (¬ (v1 < (q.1 650 5)) → True))))
set_option maxRecDepth 100000 in
set_option maxHeartbeats 4000000 in
theorem A177_0 {l : Launch} {X : aX} {d : Nat} {r : Option Value} {h' : aH} {v1 : Int32} {v2 : Int32} {q : aQ} (hd : 1 ≤ d) (hN : h'.1 = nk0) (hG : gI r h' (F177_0 v1 v2 q, q)) (hS : S177_0 v1 v2 q) : AW l X 177 c177 d r h' 0 [some (.ref 650), some (.int v1), some (.int v2), none] [] (hp q) := by
  unfold F177_0 at hG
  unfold S177_0 at hS
  refine x_run (pc' := 1) (lo' := [some (.ref 650), some (.int v1), some (.int v2), none]) (st' := [.int v2]) 1 rfl ?_
  refine x_if 22 rfl rfl (fun (hc1 : v2 < 0) => ?_) (fun (hc1 : ¬ v2 < 0) => ?_)
  · rw [if_pos hc1] at hG
    replace hS := hS.1 hc1
    refine x_run (pc' := 23) (lo' := [some (.ref 650), some (.int v1), some (.int v2), none]) (st' := [.int (-1)]) 1 rfl ?_
    obtain ⟨rfl, rfl⟩ := hG
    exact x_iret rfl (by decide +kernel)
  · rw [if_neg hc1] at hG
    replace hS := hS.2 hc1
    refine x_run (pc' := 6) (lo' := [some (.ref 650), some (.int v1), some (.int v2), none]) (st' := [.int 4, .int v2]) 2 rfl ?_
    refine x_ic 22 rfl rfl (fun (hc2 : 4 < v2) => ?_) (fun (hc2 : ¬ 4 < v2) => ?_)
    · rw [if_pos hc2] at hG
      replace hS := hS.1 hc2
      refine x_run (pc' := 23) (lo' := [some (.ref 650), some (.int v1), some (.int v2), none]) (st' := [.int (-1)]) 1 rfl ?_
      obtain ⟨rfl, rfl⟩ := hG
      exact x_iret rfl (by decide +kernel)
    · rw [if_neg hc2] at hG
      replace hS := hS.2 hc2
      refine x_run (pc' := 11) (lo' := [some (.ref 650), some (.int v1), some (.int v2), none]) (st' := [.int (-1), .int v1]) 2 rfl ?_
      refine x_ic 22 rfl rfl (fun (hc3 : v1 < (-1)) => ?_) (fun (hc3 : ¬ v1 < (-1)) => ?_)
      · rw [if_pos hc3] at hG
        replace hS := hS.1 hc3
        refine x_run (pc' := 23) (lo' := [some (.ref 650), some (.int v1), some (.int v2), none]) (st' := [.int (-1)]) 1 rfl ?_
        obtain ⟨rfl, rfl⟩ := hG
        exact x_iret rfl (by decide +kernel)
      · rw [if_neg hc3] at hG
        replace hS := hS.2 hc3
        refine x_run (pc' := 16) (lo' := [some (.ref 650), some (.int v1), some (.int v2), none]) (st' := [.ref 650, .int v1]) 2 rfl ?_
        refine x_gf (c := 581) (ne := 0) (v := .int (q.1 650 5)) rfl (by decide +kernel) rfl rfl ?_
        refine x_ic 24 rfl rfl (fun (hc4 : v1 < (q.1 650 5)) => ?_) (fun (hc4 : ¬ v1 < (q.1 650 5)) => ?_)
        · rw [if_pos hc4] at hG
          replace hS := hS.1 hc4
          refine x_run (pc' := 25) (lo' := [some (.ref 650), some (.int v1), some (.int v2), none]) (st' := [.int v1]) 1 rfl ?_
          refine x_if 33 rfl rfl (fun (hc5 : 0 ≤ v1) => ?_) (fun (hc5 : ¬ 0 ≤ v1) => ?_)
          · rw [if_pos hc5] at hG
            replace hS := hS.1 hc5
            refine x_run (pc' := 34) (lo' := [some (.ref 650), some (.int v1), some (.int v2), none]) (st' := [.int v1]) 1 rfl ?_
            refine x_kill [1] ?_
            exact A177_34 hd hN hG hS
          · rw [if_neg hc5] at hG
            replace hS := hS.2 hc5
            refine x_run (pc' := 34) (lo' := [some (.ref 650), some (.int v1), some (.int v2), none]) (st' := [.int 24]) 2 rfl ?_
            refine x_kill [1] ?_
            exact A177_34 hd hN hG hS
        · rw [if_neg hc4] at hG
          replace hS := hS.2 hc4
          refine x_run (pc' := 23) (lo' := [some (.ref 650), some (.int v1), some (.int v2), none]) (st' := [.int (-1)]) 1 rfl ?_
          obtain ⟨rfl, rfl⟩ := hG
          exact x_iret rfl (by decide +kernel)
theorem T177 {l : Launch} {X : aX} {d : Nat} {v1 : Int32} {v2 : Int32} {q : aQ} (hd : 1 ≤ d) (hS : S177_0 v1 v2 q) : Call l X d 177 [.ref 650, .int v1, .int v2] (hp q) (some (.int (F177_0 v1 v2 q))) (hp q) := Call.of ok177 (by decide) (Nat.le_of_ble_eq_true rfl) ⟨Nat.le_refl _, Nat.le_refl _⟩ (A177_0 hd rfl ⟨rfl, rfl⟩ hS)
/-- TypeForecastModel.bound(III)I -/
def F178_57 (v2 : Int32) (v3 : Int32) (s0 : Int32) (s1 : Int32) (q : aQ) : Int32 := (q.1 667 (Int32.toNatClampNeg (((s1 * s0) + (4 * v2)) + v3)))
def S178_57 (v2 : Int32) (v3 : Int32) (s0 : Int32) (s1 : Int32) (q : aQ) : Prop := vp_in (((s1 * s0) + (4 * v2)) + v3) 500 ∧ (True)
set_option maxRecDepth 100000 in
set_option maxHeartbeats 4000000 in
theorem A178_57 {l : Launch} {X : aX} {d : Nat} {r : Option Value} {h' : aH} {v2 : Int32} {v3 : Int32} {s0 : Int32} {s1 : Int32} {q : aQ} (hd : 2 ≤ d) (hN : h'.1 = nk0) (hG : gI r h' (F178_57 v2 v3 s0 s1 q, q)) (hS : S178_57 v2 v3 s0 s1 q) : AW l X 178 c178 d r h' 57 [none, none, some (.int v2), some (.int v3), none] [.int s0, .int s1, .ref 667] (hp q) := by
  unfold F178_57 at hG
  unfold S178_57 at hS
  refine x_run (pc' := 64) (lo' := [none, none, some (.int v2), some (.int v3), none]) (st' := [.int (((s1 * s0) + (4 * v2)) + v3), .ref 667]) 7 rfl ?_
  obtain ⟨o8, hS⟩ := hS
  refine p_ia (n := 500) (v := (q.1 667 (Int32.toNatClampNeg (((s1 * s0) + (4 * v2)) + v3)))) rfl rfl o8 rfl ?_
  obtain ⟨rfl, rfl⟩ := hG
  exact x_iret rfl (by decide +kernel)
def F178_34 (v1 : Int32) (v2 : Int32) (v3 : Int32) (s0 : Int32) (s1 : Int32) (q : aQ) : Int32 := (if (s1 &&& s0) = 0 then 99 else (if 0 ≤ v1 then F178_57 v2 v3 v1 20 q else F178_57 v2 v3 24 20 q))
def S178_34 (v1 : Int32) (v2 : Int32) (v3 : Int32) (s0 : Int32) (s1 : Int32) (q : aQ) : Prop := (((s1 &&& s0) = 0) → True) ∧ (¬ ((s1 &&& s0) = 0) → ((0 ≤ v1) → S178_57 v2 v3 v1 20 q) ∧ (¬ (0 ≤ v1) → S178_57 v2 v3 24 20 q))
set_option maxRecDepth 100000 in
set_option maxHeartbeats 4000000 in
theorem A178_34 {l : Launch} {X : aX} {d : Nat} {r : Option Value} {h' : aH} {v1 : Int32} {v2 : Int32} {v3 : Int32} {s0 : Int32} {s1 : Int32} {q : aQ} (hd : 2 ≤ d) (hN : h'.1 = nk0) (hG : gI r h' (F178_34 v1 v2 v3 s0 s1 q, q)) (hS : S178_34 v1 v2 v3 s0 s1 q) : AW l X 178 c178 d r h' 34 [some (.ref 650), some (.int v1), some (.int v2), some (.int v3), none] [.int s0, .int s1] (hp q) := by
  unfold F178_34 at hG
  unfold S178_34 at hS
  refine x_run (pc' := 35) (lo' := [some (.ref 650), some (.int v1), some (.int v2), some (.int v3), none]) (st' := [.int (s1 &&& s0)]) 1 rfl ?_
  refine x_if 41 rfl rfl (fun (hc6 : ¬ (s1 &&& s0) = 0) => ?_) (fun (hc6 : (s1 &&& s0) = 0) => ?_)
  · rw [if_neg hc6] at hG
    replace hS := hS.2 hc6
    refine x_run (pc' := 42) (lo' := [some (.ref 650), some (.int v1), some (.int v2), some (.int v3), none]) (st' := [.ref 650]) 1 rfl ?_
    refine x_gf (c := 596) (ne := 0) (v := .ref 667) rfl (by decide +kernel) rfl rfl ?_
    refine x_run (pc' := 48) (lo' := [some (.ref 650), some (.int v1), some (.int v2), some (.int v3), none]) (st' := [.int v1, .int 20, .ref 667]) 2 rfl ?_
    refine x_if 56 rfl rfl (fun (hc7 : 0 ≤ v1) => ?_) (fun (hc7 : ¬ 0 ≤ v1) => ?_)
    · rw [if_pos hc7] at hG
      replace hS := hS.1 hc7
      refine x_run (pc' := 57) (lo' := [some (.ref 650), some (.int v1), some (.int v2), some (.int v3), none]) (st' := [.int v1, .int 20, .ref 667]) 1 rfl ?_
      refine x_kill [0, 1] ?_
      exact A178_57 hd hN hG hS
    · rw [if_neg hc7] at hG
      replace hS := hS.2 hc7
      refine x_run (pc' := 57) (lo' := [some (.ref 650), some (.int v1), some (.int v2), some (.int v3), none]) (st' := [.int 24, .int 20, .ref 667]) 2 rfl ?_
      refine x_kill [0, 1] ?_
      exact A178_57 hd hN hG hS
  · rw [if_pos hc6] at hG
    replace hS := hS.1 hc6
    refine x_run (pc' := 40) (lo' := [some (.ref 650), some (.int v1), some (.int v2), some (.int v3), none]) (st' := [.int 99]) 1 rfl ?_
    obtain ⟨rfl, rfl⟩ := hG
    exact x_iret rfl (by decide +kernel)
def F178_0 (v1 : Int32) (v2 : Int32) (v3 : Int32) (q : aQ) : Int32 := (if (F177_0 v1 v2 q) < 0 then 99 else (if v3 < 0 then 99 else (if 3 < v3 then 99 else (if 2 ≤ v3 then F178_34 v1 v2 v3 2 (F177_0 v1 v2 q) q else F178_34 v1 v2 v3 1 (F177_0 v1 v2 q) q))))
def S178_0 (v1 : Int32) (v2 : Int32) (v3 : Int32) (q : aQ) : Prop := S177_0 v1 v2 q ∧ ((((F177_0 v1 v2 q) < 0) → True) ∧ (¬ ((F177_0 v1 v2 q) < 0) → ((v3 < 0) → True) ∧ (¬ (v3 < 0) → ((3 < v3) → True) ∧ (¬ (3 < v3) → ((2 ≤ v3) → S178_34 v1 v2 v3 2 (F177_0 v1 v2 q) q) ∧ (¬ (2 ≤ v3) → S178_34 v1 v2 v3 1 (F177_0 v1 v2 q) q)))))
set_option maxRecDepth 100000 in
set_option maxHeartbeats 4000000 in
theorem A178_0 {l : Launch} {X : aX} {d : Nat} {r : Option Value} {h' : aH} {v1 : Int32} {v2 : Int32} {v3 : Int32} {q : aQ} (hd : 2 ≤ d) (hN : h'.1 = nk0) (hG : gI r h' (F178_0 v1 v2 v3 q, q)) (hS : S178_0 v1 v2 v3 q) : AW l X 178 c178 d r h' 0 [some (.ref 650), some (.int v1), some (.int v2), some (.int v3), none] [] (hp q) := by
  unfold F178_0 at hG
  unfold S178_0 at hS
  refine x_run (pc' := 3) (lo' := [some (.ref 650), some (.int v1), some (.int v2), some (.int v3), none]) (st' := [.int v2, .int v1, .ref 650]) 3 rfl ?_
  obtain ⟨o1, hS⟩ := hS
  refine x_cv (j := 177) (ne := 0) (vs := [.int v1, .int v2]) (rest := []) rfl (by decide +kernel) (by decide +kernel) (by decide) (Eq.trans rfl (show 2 = _ from by decide +kernel)) rfl (by decide +kernel) rfl (Nat.le_of_ble_eq_true rfl) (by omega) (T177 (Nat.le_refl 1) o1) (hp_m hN) ?_
  show AW l X 178 c178 d r h' 6 [some (.ref 650), some (.int v1), some (.int v2), some (.int v3), none] [.int (F177_0 v1 v2 q)] (hp q)
  refine x_run (pc' := 10) (lo' := [some (.ref 650), some (.int v1), some (.int v2), some (.int v3), some (.int (F177_0 v1 v2 q))]) (st' := [.int (F177_0 v1 v2 q)]) 2 rfl ?_
  refine x_if 38 rfl rfl (fun (hc2 : (F177_0 v1 v2 q) < 0) => ?_) (fun (hc2 : ¬ (F177_0 v1 v2 q) < 0) => ?_)
  · rw [if_pos hc2] at hG
    replace hS := hS.1 hc2
    refine x_run (pc' := 40) (lo' := [some (.ref 650), some (.int v1), some (.int v2), some (.int v3), some (.int (F177_0 v1 v2 q))]) (st' := [.int 99]) 1 rfl ?_
    obtain ⟨rfl, rfl⟩ := hG
    exact x_iret rfl (by decide +kernel)
  · rw [if_neg hc2] at hG
    replace hS := hS.2 hc2
    refine x_run (pc' := 14) (lo' := [some (.ref 650), some (.int v1), some (.int v2), some (.int v3), some (.int (F177_0 v1 v2 q))]) (st' := [.int v3]) 1 rfl ?_
    refine x_if 38 rfl rfl (fun (hc3 : v3 < 0) => ?_) (fun (hc3 : ¬ v3 < 0) => ?_)
    · rw [if_pos hc3] at hG
      replace hS := hS.1 hc3
      refine x_run (pc' := 40) (lo' := [some (.ref 650), some (.int v1), some (.int v2), some (.int v3), some (.int (F177_0 v1 v2 q))]) (st' := [.int 99]) 1 rfl ?_
      obtain ⟨rfl, rfl⟩ := hG
      exact x_iret rfl (by decide +kernel)
    · rw [if_neg hc3] at hG
      replace hS := hS.2 hc3
      refine x_run (pc' := 19) (lo' := [some (.ref 650), some (.int v1), some (.int v2), some (.int v3), some (.int (F177_0 v1 v2 q))]) (st' := [.int 3, .int v3]) 2 rfl ?_
      refine x_ic 38 rfl rfl (fun (hc4 : 3 < v3) => ?_) (fun (hc4 : ¬ 3 < v3) => ?_)
      · rw [if_pos hc4] at hG
        replace hS := hS.1 hc4
        refine x_run (pc' := 40) (lo' := [some (.ref 650), some (.int v1), some (.int v2), some (.int v3), some (.int (F177_0 v1 v2 q))]) (st' := [.int 99]) 1 rfl ?_
        obtain ⟨rfl, rfl⟩ := hG
        exact x_iret rfl (by decide +kernel)
      · rw [if_neg hc4] at hG
        replace hS := hS.2 hc4
        refine x_run (pc' := 26) (lo' := [some (.ref 650), some (.int v1), some (.int v2), some (.int v3), some (.int (F177_0 v1 v2 q))]) (st' := [.int 2, .int v3, .int (F177_0 v1 v2 q)]) 3 rfl ?_
        refine x_ic 33 rfl rfl (fun (hc5 : 2 ≤ v3) => ?_) (fun (hc5 : ¬ 2 ≤ v3) => ?_)
        · rw [if_pos hc5] at hG
          replace hS := hS.1 hc5
          refine x_run (pc' := 34) (lo' := [some (.ref 650), some (.int v1), some (.int v2), some (.int v3), some (.int (F177_0 v1 v2 q))]) (st' := [.int 2, .int (F177_0 v1 v2 q)]) 1 rfl ?_
          refine x_kill [4] ?_
          exact A178_34 hd hN hG hS
        · rw [if_neg hc5] at hG
          replace hS := hS.2 hc5
          refine x_run (pc' := 34) (lo' := [some (.ref 650), some (.int v1), some (.int v2), some (.int v3), some (.int (F177_0 v1 v2 q))]) (st' := [.int 1, .int (F177_0 v1 v2 q)]) 2 rfl ?_
          refine x_kill [4] ?_
          exact A178_34 hd hN hG hS
theorem T178 {l : Launch} {X : aX} {d : Nat} {v1 : Int32} {v2 : Int32} {v3 : Int32} {q : aQ} (hd : 2 ≤ d) (hS : S178_0 v1 v2 v3 q) : Call l X d 178 [.ref 650, .int v1, .int v2, .int v3] (hp q) (some (.int (F178_0 v1 v2 v3 q))) (hp q) := Call.of ok178 (by decide) (Nat.le_of_ble_eq_true rfl) ⟨Nat.le_refl _, Nat.le_refl _⟩ (A178_0 hd rfl ⟨rfl, rfl⟩ hS)
