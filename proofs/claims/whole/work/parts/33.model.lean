/-! written by wip/whole/gen3.py: what methods do (F), what they need (S), the walk (A), the contract (T) -/
/-- TypeForecastModel.order(I)V -/
def F179_122 (v2 : Int32) (v3 : Int32) (q : aQ) : (Int32 × Int32 × aQ) ⊕ (aQ) := .inl (v2, v3, q)
def S179_122 (v2 : Int32) (v3 : Int32) (q : aQ) : Prop := True
set_option maxRecDepth 100000 in
set_option maxHeartbeats 4000000 in
theorem A179_122 {l : Launch} {X : aX} {d : Nat} {r : Option Value} {h' : aH} {v2 : Int32} {v3 : Int32} {q : aQ} (hd : 1 ≤ d) (hN : h'.1 = nk0) (hG : gL (fun (s : Int32 × Int32 × aQ) => AW l X 179 c179 d r h' 24 [some (.ref 650), none, some (.int s.1), some (.int s.2.1), none] [] (hp s.2.2)) (fun (e : aQ) => AW l X 179 c179 d r h' 125 [none, none, none, none, none] [] (hp e)) (F179_122 v2 v3 q)) (hS : S179_122 v2 v3 q) : AW l X 179 c179 d r h' 122 [some (.ref 650), none, some (.int v2), some (.int v3), none] [] (hp q) := by
  unfold F179_122 at hG
  unfold S179_122 at hS
  refine x_run (pc' := 24) (lo' := [some (.ref 650), none, some (.int v2), some (.int v3), none]) (st' := []) 1 rfl ?_
  exact hG
def F179_82 (v2 : Int32) (v3 : Int32) (v4 : Int32) (q : aQ) : (Int32 × Int32 × aQ) ⊕ (aQ) := (if (q.1 651 (Int32.toNatClampNeg v4)) < 10 then F179_122 v2 v3 q else (if 16 ≤ (q.1 651 (Int32.toNatClampNeg v4)) then F179_122 v2 v3 q else F179_122 v2 (v3 + 1) (a_w q 683 (Int32.toNatClampNeg v3) (q.1 653 (Int32.toNatClampNeg v4)))))
def S179_82 (v2 : Int32) (v3 : Int32) (v4 : Int32) (q : aQ) : Prop := vp_in v4 60 ∧ ((((q.1 651 (Int32.toNatClampNeg v4)) < 10) → S179_122 v2 v3 q) ∧ (¬ ((q.1 651 (Int32.toNatClampNeg v4)) < 10) → vp_in v4 60 ∧ (((16 ≤ (q.1 651 (Int32.toNatClampNeg v4))) → S179_122 v2 v3 q) ∧ (¬ (16 ≤ (q.1 651 (Int32.toNatClampNeg v4))) → vp_in v4 60 ∧ (vp_in v3 18 ∧ (S179_122 v2 (v3 + 1) (a_w q 683 (Int32.toNatClampNeg v3) (q.1 653 (Int32.toNatClampNeg v4)))))))))
set_option maxRecDepth 100000 in
set_option maxHeartbeats 4000000 in
theorem A179_82 {l : Launch} {X : aX} {d : Nat} {r : Option Value} {h' : aH} {v2 : Int32} {v3 : Int32} {v4 : Int32} {q : aQ} (hd : 1 ≤ d) (hN : h'.1 = nk0) (hG : gL (fun (s : Int32 × Int32 × aQ) => AW l X 179 c179 d r h' 24 [some (.ref 650), none, some (.int s.1), some (.int s.2.1), none] [] (hp s.2.2)) (fun (e : aQ) => AW l X 179 c179 d r h' 125 [none, none, none, none, none] [] (hp e)) (F179_82 v2 v3 v4 q)) (hS : S179_82 v2 v3 v4 q) : AW l X 179 c179 d r h' 82 [some (.ref 650), none, some (.int v2), some (.int v3), some (.int v4)] [] (hp q) := by
  unfold F179_82 at hG
  unfold S179_82 at hS
  refine x_run (pc' := 83) (lo' := [some (.ref 650), none, some (.int v2), some (.int v3), some (.int v4)]) (st' := [.ref 650]) 1 rfl ?_
  refine x_gf (c := 577) (ne := 0) (v := .ref 651) rfl (by decide +kernel) rfl rfl ?_
  refine x_run (pc' := 88) (lo' := [some (.ref 650), none, some (.int v2), some (.int v3), some (.int v4)]) (st' := [.int v4, .ref 651]) 1 rfl ?_
  obtain ⟨o8, hS⟩ := hS
  refine p_ia (n := 60) (v := (q.1 651 (Int32.toNatClampNeg v4))) rfl rfl o8 rfl ?_
  refine x_run (pc' := 91) (lo' := [some (.ref 650), none, some (.int v2), some (.int v3), some (.int v4)]) (st' := [.int 10, .int (q.1 651 (Int32.toNatClampNeg v4))]) 1 rfl ?_
  refine x_ic 122 rfl rfl (fun (hc9 : (q.1 651 (Int32.toNatClampNeg v4)) < 10) => ?_) (fun (hc9 : ¬ (q.1 651 (Int32.toNatClampNeg v4)) < 10) => ?_)
  · rw [if_pos hc9] at hG
    replace hS := hS.1 hc9
    refine x_kill [4] ?_
    exact A179_122 hd hN hG hS
  · rw [if_neg hc9] at hG
    replace hS := hS.2 hc9
    refine x_run (pc' := 95) (lo' := [some (.ref 650), none, some (.int v2), some (.int v3), some (.int v4)]) (st' := [.ref 650]) 1 rfl ?_
    refine x_gf (c := 577) (ne := 0) (v := .ref 651) rfl (by decide +kernel) rfl rfl ?_
    refine x_run (pc' := 100) (lo' := [some (.ref 650), none, some (.int v2), some (.int v3), some (.int v4)]) (st' := [.int v4, .ref 651]) 1 rfl ?_
    obtain ⟨o10, hS⟩ := hS
    refine p_ia (n := 60) (v := (q.1 651 (Int32.toNatClampNeg v4))) rfl rfl o10 rfl ?_
    refine x_run (pc' := 103) (lo' := [some (.ref 650), none, some (.int v2), some (.int v3), some (.int v4)]) (st' := [.int 16, .int (q.1 651 (Int32.toNatClampNeg v4))]) 1 rfl ?_
    refine x_ic 122 rfl rfl (fun (hc11 : 16 ≤ (q.1 651 (Int32.toNatClampNeg v4))) => ?_) (fun (hc11 : ¬ 16 ≤ (q.1 651 (Int32.toNatClampNeg v4))) => ?_)
    · rw [if_pos hc11] at hG
      replace hS := hS.1 hc11
      refine x_kill [4] ?_
      exact A179_122 hd hN hG hS
    · rw [if_neg hc11] at hG
      replace hS := hS.2 hc11
      refine x_run (pc' := 107) (lo' := [some (.ref 650), none, some (.int v2), some (.int v3), some (.int v4)]) (st' := [.ref 650]) 1 rfl ?_
      refine x_gf (c := 621) (ne := 0) (v := .ref 683) rfl (by decide +kernel) rfl rfl ?_
      refine x_run (pc' := 112) (lo' := [some (.ref 650), none, some (.int v2), some (.int v3), some (.int v4)]) (st' := [.ref 650, .int v3, .ref 683]) 2 rfl ?_
      refine x_gf (c := 579) (ne := 0) (v := .ref 653) rfl (by decide +kernel) rfl rfl ?_
      refine x_run (pc' := 117) (lo' := [some (.ref 650), none, some (.int v2), some (.int v3), some (.int v4)]) (st' := [.int v4, .ref 653, .int v3, .ref 683]) 1 rfl ?_
      obtain ⟨o12, hS⟩ := hS
      refine p_ia (n := 60) (v := (q.1 653 (Int32.toNatClampNeg v4))) rfl rfl o12 rfl ?_
      obtain ⟨o13, hS⟩ := hS
      refine p_is (n := 18) rfl rfl o13 ?_
      refine x_run (pc' := 122) (lo' := [some (.ref 650), none, some (.int v2), some (.int (v3 + 1)), some (.int v4)]) (st' := []) 1 rfl ?_
      refine x_kill [4] ?_
      exact A179_122 hd hN hG hS
def F179_24 (v2 : Int32) (v3 : Int32) (q : aQ) : (Int32 × Int32 × aQ) ⊕ (aQ) := (if v3 ≤ 0 then .inr q else (if v2 ≤ 0 then .inr q else (if (q.1 651 (Int32.toNatClampNeg (q.1 683 (Int32.toNatClampNeg (v3 + (-1)))))) < 10 then F179_82 (v2 + (-1)) (v3 + (-1)) (q.1 683 (Int32.toNatClampNeg (v3 + (-1)))) (a_w q 682 (Int32.toNatClampNeg (v2 + (-1))) (q.1 683 (Int32.toNatClampNeg (v3 + (-1))))) else F179_82 (v2 + (-1)) ((v3 + (-1)) + 1) (q.1 683 (Int32.toNatClampNeg (v3 + (-1)))) (a_w (a_w q 682 (Int32.toNatClampNeg (v2 + (-1))) (q.1 683 (Int32.toNatClampNeg (v3 + (-1))))) 683 (Int32.toNatClampNeg (v3 + (-1))) (q.1 652 (Int32.toNatClampNeg (q.1 683 (Int32.toNatClampNeg (v3 + (-1))))))))))
def S179_24 (v2 : Int32) (v3 : Int32) (q : aQ) : Prop := ((v3 ≤ 0) → True) ∧ (¬ (v3 ≤ 0) → ((v2 ≤ 0) → True) ∧ (¬ (v2 ≤ 0) → vp_in (v3 + (-1)) 18 ∧ (vp_in (v2 + (-1)) 16 ∧ (vp_in (q.1 683 (Int32.toNatClampNeg (v3 + (-1)))) 60 ∧ ((((q.1 651 (Int32.toNatClampNeg (q.1 683 (Int32.toNatClampNeg (v3 + (-1)))))) < 10) → S179_82 (v2 + (-1)) (v3 + (-1)) (q.1 683 (Int32.toNatClampNeg (v3 + (-1)))) (a_w q 682 (Int32.toNatClampNeg (v2 + (-1))) (q.1 683 (Int32.toNatClampNeg (v3 + (-1)))))) ∧ (¬ ((q.1 651 (Int32.toNatClampNeg (q.1 683 (Int32.toNatClampNeg (v3 + (-1)))))) < 10) → vp_in (q.1 683 (Int32.toNatClampNeg (v3 + (-1)))) 60 ∧ (vp_in (v3 + (-1)) 18 ∧ (S179_82 (v2 + (-1)) ((v3 + (-1)) + 1) (q.1 683 (Int32.toNatClampNeg (v3 + (-1)))) (a_w (a_w q 682 (Int32.toNatClampNeg (v2 + (-1))) (q.1 683 (Int32.toNatClampNeg (v3 + (-1))))) 683 (Int32.toNatClampNeg (v3 + (-1))) (q.1 652 (Int32.toNatClampNeg (q.1 683 (Int32.toNatClampNeg (v3 + (-1)))))))))))))))
set_option maxRecDepth 100000 in
set_option maxHeartbeats 4000000 in
theorem A179_24 {l : Launch} {X : aX} {d : Nat} {r : Option Value} {h' : aH} {v2 : Int32} {v3 : Int32} {q : aQ} (hd : 1 ≤ d) (hN : h'.1 = nk0) (hG : gL (fun (s : Int32 × Int32 × aQ) => AW l X 179 c179 d r h' 24 [some (.ref 650), none, some (.int s.1), some (.int s.2.1), none] [] (hp s.2.2)) (fun (e : aQ) => AW l X 179 c179 d r h' 125 [none, none, none, none, none] [] (hp e)) (F179_24 v2 v3 q)) (hS : S179_24 v2 v3 q) : AW l X 179 c179 d r h' 24 [some (.ref 650), none, some (.int v2), some (.int v3), none] [] (hp q) := by
  unfold F179_24 at hG
  unfold S179_24 at hS
  refine x_run (pc' := 25) (lo' := [some (.ref 650), none, some (.int v2), some (.int v3), none]) (st' := [.int v3]) 1 rfl ?_
  refine x_if 125 rfl rfl (fun (hc2 : v3 ≤ 0) => ?_) (fun (hc2 : ¬ v3 ≤ 0) => ?_)
  · rw [if_pos hc2] at hG
    replace hS := hS.1 hc2
    refine x_kill [0, 2, 3] ?_
    exact hG
  · rw [if_neg hc2] at hG
    replace hS := hS.2 hc2
    refine x_run (pc' := 29) (lo' := [some (.ref 650), none, some (.int v2), some (.int v3), none]) (st' := [.int v2]) 1 rfl ?_
    refine x_if 125 rfl rfl (fun (hc3 : v2 ≤ 0) => ?_) (fun (hc3 : ¬ v2 ≤ 0) => ?_)
    · rw [if_pos hc3] at hG
      replace hS := hS.1 hc3
      refine x_kill [0, 2, 3] ?_
      exact hG
    · rw [if_neg hc3] at hG
      replace hS := hS.2 hc3
      refine x_run (pc' := 36) (lo' := [some (.ref 650), none, some (.int v2), some (.int (v3 + (-1))), none]) (st' := [.ref 650]) 2 rfl ?_
      refine x_gf (c := 621) (ne := 0) (v := .ref 683) rfl (by decide +kernel) rfl rfl ?_
      refine x_run (pc' := 40) (lo' := [some (.ref 650), none, some (.int v2), some (.int (v3 + (-1))), none]) (st' := [.int (v3 + (-1)), .ref 683]) 1 rfl ?_
      obtain ⟨o4, hS⟩ := hS
      refine p_ia (n := 18) (v := (q.1 683 (Int32.toNatClampNeg (v3 + (-1))))) rfl rfl o4 rfl ?_
      refine x_run (pc' := 47) (lo' := [some (.ref 650), none, some (.int (v2 + (-1))), some (.int (v3 + (-1))), some (.int (q.1 683 (Int32.toNatClampNeg (v3 + (-1)))))]) (st' := [.ref 650]) 3 rfl ?_
      refine x_gf (c := 620) (ne := 0) (v := .ref 682) rfl (by decide +kernel) rfl rfl ?_
      refine x_run (pc' := 53) (lo' := [some (.ref 650), none, some (.int (v2 + (-1))), some (.int (v3 + (-1))), some (.int (q.1 683 (Int32.toNatClampNeg (v3 + (-1)))))]) (st' := [.int (q.1 683 (Int32.toNatClampNeg (v3 + (-1)))), .int (v2 + (-1)), .ref 682]) 2 rfl ?_
      obtain ⟨o5, hS⟩ := hS
      refine p_is (n := 16) rfl rfl o5 ?_
      refine x_run (pc' := 55) (lo' := [some (.ref 650), none, some (.int (v2 + (-1))), some (.int (v3 + (-1))), some (.int (q.1 683 (Int32.toNatClampNeg (v3 + (-1)))))]) (st' := [.ref 650]) 1 rfl ?_
      refine x_gf (c := 577) (ne := 0) (v := .ref 651) rfl (by decide +kernel) rfl rfl ?_
      refine x_run (pc' := 60) (lo' := [some (.ref 650), none, some (.int (v2 + (-1))), some (.int (v3 + (-1))), some (.int (q.1 683 (Int32.toNatClampNeg (v3 + (-1)))))]) (st' := [.int (q.1 683 (Int32.toNatClampNeg (v3 + (-1)))), .ref 651]) 1 rfl ?_
      obtain ⟨o6, hS⟩ := hS
      refine p_ia (n := 60) (v := (q.1 651 (Int32.toNatClampNeg (q.1 683 (Int32.toNatClampNeg (v3 + (-1))))))) rfl rfl o6 rfl ?_
      refine x_run (pc' := 63) (lo' := [some (.ref 650), none, some (.int (v2 + (-1))), some (.int (v3 + (-1))), some (.int (q.1 683 (Int32.toNatClampNeg (v3 + (-1)))))]) (st' := [.int 10, .int (q.1 651 (Int32.toNatClampNeg (q.1 683 (Int32.toNatClampNeg (v3 + (-1))))))]) 1 rfl ?_
      refine x_ic 82 rfl rfl (fun (hc7 : (q.1 651 (Int32.toNatClampNeg (q.1 683 (Int32.toNatClampNeg (v3 + (-1)))))) < 10) => ?_) (fun (hc7 : ¬ (q.1 651 (Int32.toNatClampNeg (q.1 683 (Int32.toNatClampNeg (v3 + (-1)))))) < 10) => ?_)
      · rw [if_pos hc7] at hG
        replace hS := hS.1 hc7
        exact A179_82 hd hN hG hS
      · rw [if_neg hc7] at hG
        replace hS := hS.2 hc7
        refine x_run (pc' := 67) (lo' := [some (.ref 650), none, some (.int (v2 + (-1))), some (.int (v3 + (-1))), some (.int (q.1 683 (Int32.toNatClampNeg (v3 + (-1)))))]) (st' := [.ref 650]) 1 rfl ?_
        refine x_gf (c := 621) (ne := 0) (v := .ref 683) rfl (by decide +kernel) rfl rfl ?_
        refine x_run (pc' := 72) (lo' := [some (.ref 650), none, some (.int (v2 + (-1))), some (.int (v3 + (-1))), some (.int (q.1 683 (Int32.toNatClampNeg (v3 + (-1)))))]) (st' := [.ref 650, .int (v3 + (-1)), .ref 683]) 2 rfl ?_
        refine x_gf (c := 578) (ne := 0) (v := .ref 652) rfl (by decide +kernel) rfl rfl ?_
        refine x_run (pc' := 77) (lo' := [some (.ref 650), none, some (.int (v2 + (-1))), some (.int (v3 + (-1))), some (.int (q.1 683 (Int32.toNatClampNeg (v3 + (-1)))))]) (st' := [.int (q.1 683 (Int32.toNatClampNeg (v3 + (-1)))), .ref 652, .int (v3 + (-1)), .ref 683]) 1 rfl ?_
        obtain ⟨o14, hS⟩ := hS
        refine p_ia (n := 60) (v := (q.1 652 (Int32.toNatClampNeg (q.1 683 (Int32.toNatClampNeg (v3 + (-1))))))) rfl rfl o14 rfl ?_
        obtain ⟨o15, hS⟩ := hS
        refine p_is (n := 18) rfl rfl o15 ?_
        refine x_run (pc' := 82) (lo' := [some (.ref 650), none, some (.int (v2 + (-1))), some (.int ((v3 + (-1)) + 1)), some (.int (q.1 683 (Int32.toNatClampNeg (v3 + (-1)))))]) (st' := []) 1 rfl ?_
        exact A179_82 hd hN hG hS
def F179_125 (q : aQ) : aQ := q
def S179_125 (q : aQ) : Prop := True
set_option maxRecDepth 100000 in
set_option maxHeartbeats 4000000 in
theorem A179_125 {l : Launch} {X : aX} {d : Nat} {r : Option Value} {h' : aH} {q : aQ} (hd : 1 ≤ d) (hN : h'.1 = nk0) (hG : gV r h' (F179_125 q)) (hS : S179_125 q) : AW l X 179 c179 d r h' 125 [none, none, none, none, none] [] (hp q) := by
  unfold F179_125 at hG
  unfold S179_125 at hS
  obtain ⟨rfl, rfl⟩ := hG
  exact x_ret rfl (by decide +kernel)
def F179_0 (v1 : Int32) (q : aQ) : aQ := (fun (e16 : aQ) => F179_125 e16) (a_lp (fun (s : Int32 × Int32 × aQ) => F179_24 s.1 s.2.1 s.2.2) 200 ((q.1 654 (Int32.toNatClampNeg v1)), 1, (a_w (a_w q 650 43 (q.1 654 (Int32.toNatClampNeg v1))) 683 (Int32.toNatClampNeg 0) v1)) (a_w (a_w q 650 43 (q.1 654 (Int32.toNatClampNeg v1))) 683 (Int32.toNatClampNeg 0) v1))
def S179_0 (v1 : Int32) (q : aQ) : Prop := vp_in v1 60 ∧ (a_sf (fun (s : Int32 × Int32 × aQ) => F179_24 s.1 s.2.1 s.2.2) (fun (s : Int32 × Int32 × aQ) => S179_24 s.1 s.2.1 s.2.2) 200 ((q.1 654 (Int32.toNatClampNeg v1)), 1, (a_w (a_w q 650 43 (q.1 654 (Int32.toNatClampNeg v1))) 683 (Int32.toNatClampNeg 0) v1)) ∧ (fun (e16 : aQ) => S179_125 e16) (a_lp (fun (s : Int32 × Int32 × aQ) => F179_24 s.1 s.2.1 s.2.2) 200 ((q.1 654 (Int32.toNatClampNeg v1)), 1, (a_w (a_w q 650 43 (q.1 654 (Int32.toNatClampNeg v1))) 683 (Int32.toNatClampNeg 0) v1)) (a_w (a_w q 650 43 (q.1 654 (Int32.toNatClampNeg v1))) 683 (Int32.toNatClampNeg 0) v1)))
set_option maxRecDepth 100000 in
set_option maxHeartbeats 4000000 in
theorem A179_0 {l : Launch} {X : aX} {d : Nat} {r : Option Value} {h' : aH} {v1 : Int32} {q : aQ} (hd : 1 ≤ d) (hN : h'.1 = nk0) (hG : gV r h' (F179_0 v1 q)) (hS : S179_0 v1 q) : AW l X 179 c179 d r h' 0 [some (.ref 650), some (.int v1), none, none, none] [] (hp q) := by
  unfold F179_0 at hG
  unfold S179_0 at hS
  refine x_run (pc' := 2) (lo' := [some (.ref 650), some (.int v1), none, none, none]) (st' := [.ref 650, .ref 650]) 2 rfl ?_
  refine x_gf (c := 580) (ne := 0) (v := .ref 654) rfl (by decide +kernel) rfl rfl ?_
  refine x_run (pc' := 6) (lo' := [some (.ref 650), some (.int v1), none, none, none]) (st' := [.int v1, .ref 654, .ref 650]) 1 rfl ?_
  obtain ⟨o1, hS⟩ := hS
  refine p_ia (n := 60) (v := (q.1 654 (Int32.toNatClampNeg v1))) rfl rfl o1 rfl ?_
  refine x_pf (c := 619) (ne := 0) (h2 := hp (a_w q 650 43 (q.1 654 (Int32.toNatClampNeg v1)))) rfl (by decide +kernel) (by decide +kernel) rfl (pv_i rfl) ?_
  refine x_run (pc' := 11) (lo' := [some (.ref 650), some (.int v1), none, none, none]) (st' := [.ref 650]) 1 rfl ?_
  refine x_gf (c := 619) (ne := 0) (v := .int (q.1 654 (Int32.toNatClampNeg v1))) rfl (by decide +kernel) rfl rfl ?_
  refine x_run (pc' := 18) (lo' := [some (.ref 650), some (.int v1), some (.int (q.1 654 (Int32.toNatClampNeg v1))), some (.int 1), none]) (st' := [.ref 650]) 4 rfl ?_
  refine x_gf (c := 621) (ne := 0) (v := .ref 683) rfl (by decide +kernel) rfl rfl ?_
  refine x_run (pc' := 23) (lo' := [some (.ref 650), some (.int v1), some (.int (q.1 654 (Int32.toNatClampNeg v1))), some (.int 1), none]) (st' := [.int v1, .int 0, .ref 683]) 2 rfl ?_
  refine p_is (n := 18) rfl rfl (by unfold vp_in; decide +kernel) ?_
  refine x_kill [1] ?_
  obtain ⟨ho, hS⟩ := hS
  refine x_loop (fun (s : Int32 × Int32 × aQ) => F179_24 s.1 s.2.1 s.2.2) (fun (s : Int32 × Int32 × aQ) => S179_24 s.1 s.2.1 s.2.2) (fun (s : Int32 × Int32 × aQ) => AW l X 179 c179 d r h' 24 [some (.ref 650), none, some (.int s.1), some (.int s.2.1), none] [] (hp s.2.2)) (fun (e : aQ) => AW l X 179 c179 d r h' 125 [none, none, none, none, none] [] (hp e)) (fun s hs hg => A179_24 hd hN hg hs) 200 ((q.1 654 (Int32.toNatClampNeg v1)), 1, (a_w (a_w q 650 43 (q.1 654 (Int32.toNatClampNeg v1))) 683 (Int32.toNatClampNeg 0) v1)) ho (fun e16 he => ?_)
  rw [a_lp_eq he] at hG hS
  try dsimp only at hG hS
  exact A179_125 hd hN hG hS
theorem T179 {l : Launch} {X : aX} {d : Nat} {v1 : Int32} {q : aQ} (hd : 1 ≤ d) (hS : S179_0 v1 q) : Call l X d 179 [.ref 650, .int v1] (hp q) none (hp (F179_0 v1 q)) := Call.of ok179 (by decide) (Nat.le_of_ble_eq_true rfl) ⟨Nat.le_refl _, Nat.le_refl _⟩ (A179_0 hd rfl ⟨rfl, rfl⟩ hS)
/-- TypeForecastModel.leafValue(I)V -/
def F180_187 (s0 : Int64) (s1 : Int32) (q : aQ) : aQ := (F152_0 s1 s0 q)
def S180_187 (s0 : Int64) (s1 : Int32) (q : aQ) : Prop := S152_0 s1 s0 q ∧ (True)
set_option maxRecDepth 100000 in
set_option maxHeartbeats 4000000 in
theorem A180_187 {l : Launch} {X : aX} {d : Nat} {r : Option Value} {h' : aH} {s0 : Int64} {s1 : Int32} {q : aQ} (hd : 2 ≤ d) (hN : h'.1 = nk0) (hG : gV r h' (F180_187 s0 s1 q)) (hS : S180_187 s0 s1 q) : AW l X 180 c180 d r h' 187 [none, none, none, none] [.long s0, .int s1, .ref 650] (hp q) := by
  unfold F180_187 at hG
  unfold S180_187 at hS
  obtain ⟨o12, hS⟩ := hS
  refine x_cv (j := 152) (ne := 0) (vs := [.int s1, .long s0]) (rest := []) rfl (by decide +kernel) (by decide +kernel) (by decide) (Eq.trans rfl (show 2 = _ from by decide +kernel)) rfl (by decide +kernel) rfl (Nat.le_of_ble_eq_true rfl) (by omega) (T152 (Nat.le_refl 1) o12) (hp_m hN) ?_
  show AW l X 180 c180 d r h' 190 [none, none, none, none] [] (hp (F152_0 s1 s0 q))
  obtain ⟨rfl, rfl⟩ := hG
  exact x_ret rfl (by decide +kernel)
def F180_171 (v1 : Int32) (v2 : Int32) (s0 : Int32) (q : aQ) : aQ := (if (q.1 651 (Int32.toNatClampNeg v1)) = 2 then F180_187 0 s0 q else F180_187 (Int32.toInt64 v2) s0 q)
def S180_171 (v1 : Int32) (v2 : Int32) (s0 : Int32) (q : aQ) : Prop := vp_in v1 60 ∧ ((((q.1 651 (Int32.toNatClampNeg v1)) = 2) → S180_187 0 s0 q) ∧ (¬ ((q.1 651 (Int32.toNatClampNeg v1)) = 2) → S180_187 (Int32.toInt64 v2) s0 q))
set_option maxRecDepth 100000 in
set_option maxHeartbeats 4000000 in
theorem A180_171 {l : Launch} {X : aX} {d : Nat} {r : Option Value} {h' : aH} {v1 : Int32} {v2 : Int32} {s0 : Int32} {q : aQ} (hd : 2 ≤ d) (hN : h'.1 = nk0) (hG : gV r h' (F180_171 v1 v2 s0 q)) (hS : S180_171 v1 v2 s0 q) : AW l X 180 c180 d r h' 171 [some (.ref 650), some (.int v1), some (.int v2), none] [.int s0, .ref 650] (hp q) := by
  unfold F180_171 at hG
  unfold S180_171 at hS
  refine x_run (pc' := 172) (lo' := [some (.ref 650), some (.int v1), some (.int v2), none]) (st' := [.ref 650, .int s0, .ref 650]) 1 rfl ?_
  refine x_gf (c := 577) (ne := 0) (v := .ref 651) rfl (by decide +kernel) rfl rfl ?_
  refine x_run (pc' := 176) (lo' := [some (.ref 650), some (.int v1), some (.int v2), none]) (st' := [.int v1, .ref 651, .int s0, .ref 650]) 1 rfl ?_
  obtain ⟨o10, hS⟩ := hS
  refine p_ia (n := 60) (v := (q.1 651 (Int32.toNatClampNeg v1))) rfl rfl o10 rfl ?_
  refine x_run (pc' := 178) (lo' := [some (.ref 650), some (.int v1), some (.int v2), none]) (st' := [.int 2, .int (q.1 651 (Int32.toNatClampNeg v1)), .int s0, .ref 650]) 1 rfl ?_
  refine x_ic 185 rfl rfl (fun (hc11 : ¬ (q.1 651 (Int32.toNatClampNeg v1)) = 2) => ?_) (fun (hc11 : (q.1 651 (Int32.toNatClampNeg v1)) = 2) => ?_)
  · rw [if_neg hc11] at hG
    replace hS := hS.2 hc11
    refine x_run (pc' := 187) (lo' := [some (.ref 650), some (.int v1), some (.int v2), none]) (st' := [.long (Int32.toInt64 v2), .int s0, .ref 650]) 2 rfl ?_
    refine x_kill [0, 1, 2] ?_
    exact A180_187 hd hN hG hS
  · rw [if_pos hc11] at hG
    replace hS := hS.1 hc11
    refine x_run (pc' := 187) (lo' := [some (.ref 650), some (.int v1), some (.int v2), none]) (st' := [.long 0, .int s0, .ref 650]) 2 rfl ?_
    refine x_kill [0, 1, 2] ?_
    exact A180_187 hd hN hG hS
def F180_136 (s0 : Int32) (q : aQ) : aQ := (a_w q 650 42 s0)
def S180_136 (s0 : Int32) (q : aQ) : Prop := True
set_option maxRecDepth 100000 in
set_option maxHeartbeats 4000000 in
theorem A180_136 {l : Launch} {X : aX} {d : Nat} {r : Option Value} {h' : aH} {s0 : Int32} {q : aQ} (hd : 2 ≤ d) (hN : h'.1 = nk0) (hG : gV r h' (F180_136 s0 q)) (hS : S180_136 s0 q) : AW l X 180 c180 d r h' 136 [none, none, none, none] [.int s0, .ref 650] (hp q) := by
  unfold F180_136 at hG
  unfold S180_136 at hS
  refine x_pf (c := 618) (ne := 0) (h2 := hp (a_w q 650 42 s0)) rfl (by decide +kernel) (by decide +kernel) rfl (pv_i rfl) ?_
  refine x_run (pc' := 190) (lo' := [none, none, none, none]) (st' := []) 1 rfl ?_
  obtain ⟨rfl, rfl⟩ := hG
  exact x_ret rfl (by decide +kernel)
def F180_111 (q : aQ) : aQ := (if (q.1 650 16) ≤ (q.1 650 42) then F180_136 (q.1 650 42) q else F180_136 ((q.1 650 42) + 1) q)
def S180_111 (q : aQ) : Prop := (((q.1 650 16) ≤ (q.1 650 42)) → S180_136 (q.1 650 42) q) ∧ (¬ ((q.1 650 16) ≤ (q.1 650 42)) → S180_136 ((q.1 650 42) + 1) q)
set_option maxRecDepth 100000 in
set_option maxHeartbeats 4000000 in
theorem A180_111 {l : Launch} {X : aX} {d : Nat} {r : Option Value} {h' : aH} {q : aQ} (hd : 2 ≤ d) (hN : h'.1 = nk0) (hG : gV r h' (F180_111 q)) (hS : S180_111 q) : AW l X 180 c180 d r h' 111 [some (.ref 650), none, none, none] [] (hp q) := by
  unfold F180_111 at hG
  unfold S180_111 at hS
  refine x_run (pc' := 113) (lo' := [some (.ref 650), none, none, none]) (st' := [.ref 650, .ref 650]) 2 rfl ?_
  refine x_gf (c := 618) (ne := 0) (v := .int (q.1 650 42)) rfl (by decide +kernel) rfl rfl ?_
  refine x_run (pc' := 117) (lo' := [some (.ref 650), none, none, none]) (st' := [.ref 650, .int (q.1 650 42), .ref 650]) 1 rfl ?_
  refine x_gf (c := 592) (ne := 0) (v := .int (q.1 650 16)) rfl (by decide +kernel) rfl rfl ?_
  refine x_ic 132 rfl rfl (fun (hc15 : (q.1 650 16) ≤ (q.1 650 42)) => ?_) (fun (hc15 : ¬ (q.1 650 16) ≤ (q.1 650 42)) => ?_)
  · rw [if_pos hc15] at hG
    replace hS := hS.1 hc15
    refine x_run (pc' := 133) (lo' := [some (.ref 650), none, none, none]) (st' := [.ref 650, .ref 650]) 1 rfl ?_
    refine x_gf (c := 618) (ne := 0) (v := .int (q.1 650 42)) rfl (by decide +kernel) rfl rfl ?_
    refine x_kill [0] ?_
    exact A180_136 hd hN hG hS
  · rw [if_neg hc15] at hG
    replace hS := hS.2 hc15
    refine x_run (pc' := 124) (lo' := [some (.ref 650), none, none, none]) (st' := [.ref 650, .ref 650]) 1 rfl ?_
    refine x_gf (c := 618) (ne := 0) (v := .int (q.1 650 42)) rfl (by decide +kernel) rfl rfl ?_
    refine x_run (pc' := 136) (lo' := [some (.ref 650), none, none, none]) (st' := [.int ((q.1 650 42) + 1), .ref 650]) 3 rfl ?_
    refine x_kill [0] ?_
    exact A180_136 hd hN hG hS
def F180_108 (s0 : Int64) (s1 : Int32) (q : aQ) : aQ := F180_111 (F152_0 s1 s0 q)
def S180_108 (s0 : Int64) (s1 : Int32) (q : aQ) : Prop := S152_0 s1 s0 q ∧ (S180_111 (F152_0 s1 s0 q))
set_option maxRecDepth 100000 in
set_option maxHeartbeats 4000000 in
theorem A180_108 {l : Launch} {X : aX} {d : Nat} {r : Option Value} {h' : aH} {s0 : Int64} {s1 : Int32} {q : aQ} (hd : 2 ≤ d) (hN : h'.1 = nk0) (hG : gV r h' (F180_108 s0 s1 q)) (hS : S180_108 s0 s1 q) : AW l X 180 c180 d r h' 108 [some (.ref 650), none, none, none] [.long s0, .int s1, .ref 650] (hp q) := by
  unfold F180_108 at hG
  unfold S180_108 at hS
  obtain ⟨o14, hS⟩ := hS
  refine x_cv (j := 152) (ne := 0) (vs := [.int s1, .long s0]) (rest := []) rfl (by decide +kernel) (by decide +kernel) (by decide) (Eq.trans rfl (show 2 = _ from by decide +kernel)) rfl (by decide +kernel) rfl (Nat.le_of_ble_eq_true rfl) (by omega) (T152 (Nat.le_refl 1) o14) (hp_m hN) ?_
  show AW l X 180 c180 d r h' 111 [some (.ref 650), none, none, none] [] (hp (F152_0 s1 s0 q))
  exact A180_111 hd hN hG hS
def F180_68 (q : aQ) : aQ := q
def S180_68 (q : aQ) : Prop := True
set_option maxRecDepth 100000 in
set_option maxHeartbeats 4000000 in
theorem A180_68 {l : Launch} {X : aX} {d : Nat} {r : Option Value} {h' : aH} {q : aQ} (hd : 2 ≤ d) (hN : h'.1 = nk0) (hG : gV r h' (F180_68 q)) (hS : S180_68 q) : AW l X 180 c180 d r h' 68 [none, none, none, none] [] (hp q) := by
  unfold F180_68 at hG
  unfold S180_68 at hS
  refine x_run (pc' := 190) (lo' := [none, none, none, none]) (st' := []) 1 rfl ?_
  obtain ⟨rfl, rfl⟩ := hG
  exact x_ret rfl (by decide +kernel)
def F180_65 (s0 : Int64) (s1 : Int32) (q : aQ) : aQ := F180_68 (F152_0 s1 s0 q)
def S180_65 (s0 : Int64) (s1 : Int32) (q : aQ) : Prop := S152_0 s1 s0 q ∧ (S180_68 (F152_0 s1 s0 q))
set_option maxRecDepth 100000 in
set_option maxHeartbeats 4000000 in
theorem A180_65 {l : Launch} {X : aX} {d : Nat} {r : Option Value} {h' : aH} {s0 : Int64} {s1 : Int32} {q : aQ} (hd : 2 ≤ d) (hN : h'.1 = nk0) (hG : gV r h' (F180_65 s0 s1 q)) (hS : S180_65 s0 s1 q) : AW l X 180 c180 d r h' 65 [none, none, none, none] [.long s0, .int s1, .ref 650] (hp q) := by
  unfold F180_65 at hG
  unfold S180_65 at hS
  obtain ⟨o21, hS⟩ := hS
  refine x_cv (j := 152) (ne := 0) (vs := [.int s1, .long s0]) (rest := []) rfl (by decide +kernel) (by decide +kernel) (by decide) (Eq.trans rfl (show 2 = _ from by decide +kernel)) rfl (by decide +kernel) rfl (Nat.le_of_ble_eq_true rfl) (by omega) (T152 (Nat.le_refl 1) o21) (hp_m hN) ?_
  show AW l X 180 c180 d r h' 68 [none, none, none, none] [] (hp (F152_0 s1 s0 q))
  exact A180_68 hd hN hG hS
def F180_49 (v2 : Int32) (v3 : Int32) (s0 : Int32) (q : aQ) : aQ := (if v3 = 0 then F180_65 2 s0 q else F180_65 (q.2 681 (Int32.toNatClampNeg v2)) s0 q)
def S180_49 (v2 : Int32) (v3 : Int32) (s0 : Int32) (q : aQ) : Prop := ((v3 = 0) → S180_65 2 s0 q) ∧ (¬ (v3 = 0) → vp_in v2 5 ∧ (S180_65 (q.2 681 (Int32.toNatClampNeg v2)) s0 q))
set_option maxRecDepth 100000 in
set_option maxHeartbeats 4000000 in
theorem A180_49 {l : Launch} {X : aX} {d : Nat} {r : Option Value} {h' : aH} {v2 : Int32} {v3 : Int32} {s0 : Int32} {q : aQ} (hd : 2 ≤ d) (hN : h'.1 = nk0) (hG : gV r h' (F180_49 v2 v3 s0 q)) (hS : S180_49 v2 v3 s0 q) : AW l X 180 c180 d r h' 49 [some (.ref 650), none, some (.int v2), some (.int v3)] [.int s0, .ref 650] (hp q) := by
  unfold F180_49 at hG
  unfold S180_49 at hS
  refine x_run (pc' := 50) (lo' := [some (.ref 650), none, some (.int v2), some (.int v3)]) (st' := [.int v3, .int s0, .ref 650]) 1 rfl ?_
  refine x_if 62 rfl rfl (fun (hc20 : v3 = 0) => ?_) (fun (hc20 : ¬ v3 = 0) => ?_)
  · rw [if_pos hc20] at hG
    replace hS := hS.1 hc20
    refine x_ldc2 (v := 2) (ne := 0) rfl (by decide +kernel) ?_
    refine x_kill [0, 2, 3] ?_
    exact A180_65 hd hN hG hS
  · rw [if_neg hc20] at hG
    replace hS := hS.2 hc20
    refine x_run (pc' := 54) (lo' := [some (.ref 650), none, some (.int v2), some (.int v3)]) (st' := [.ref 650, .int s0, .ref 650]) 1 rfl ?_
    refine x_gf (c := 617) (ne := 0) (v := .ref 681) rfl (by decide +kernel) rfl rfl ?_
    refine x_run (pc' := 58) (lo' := [some (.ref 650), none, some (.int v2), some (.int v3)]) (st' := [.int v2, .ref 681, .int s0, .ref 650]) 1 rfl ?_
    obtain ⟨o22, hS⟩ := hS
    refine p_la (n := 5) (v := (q.2 681 (Int32.toNatClampNeg v2))) rfl rfl o22 rfl ?_
    refine x_run (pc' := 65) (lo' := [some (.ref 650), none, some (.int v2), some (.int v3)]) (st' := [.long (q.2 681 (Int32.toNatClampNeg v2)), .int s0, .ref 650]) 1 rfl ?_
    refine x_kill [0, 2, 3] ?_
    exact A180_65 hd hN hG hS
def F180_33 (v2 : Int32) (s0 : Int32) (q : aQ) : aQ := (if s0 = 0 then F180_49 v2 s0 0 q else F180_49 v2 s0 (q.1 680 (Int32.toNatClampNeg v2)) q)
def S180_33 (v2 : Int32) (s0 : Int32) (q : aQ) : Prop := ((s0 = 0) → S180_49 v2 s0 0 q) ∧ (¬ (s0 = 0) → vp_in v2 5 ∧ (S180_49 v2 s0 (q.1 680 (Int32.toNatClampNeg v2)) q))
set_option maxRecDepth 100000 in
set_option maxHeartbeats 4000000 in
theorem A180_33 {l : Launch} {X : aX} {d : Nat} {r : Option Value} {h' : aH} {v2 : Int32} {s0 : Int32} {q : aQ} (hd : 2 ≤ d) (hN : h'.1 = nk0) (hG : gV r h' (F180_33 v2 s0 q)) (hS : S180_33 v2 s0 q) : AW l X 180 c180 d r h' 33 [some (.ref 650), none, some (.int v2), none] [.int s0] (hp q) := by
  unfold F180_33 at hG
  unfold S180_33 at hS
  refine x_run (pc' := 36) (lo' := [some (.ref 650), none, some (.int v2), some (.int s0)]) (st' := [.int s0, .ref 650]) 3 rfl ?_
  refine x_if 48 rfl rfl (fun (hc19 : s0 = 0) => ?_) (fun (hc19 : ¬ s0 = 0) => ?_)
  · rw [if_pos hc19] at hG
    replace hS := hS.1 hc19
    refine x_run (pc' := 49) (lo' := [some (.ref 650), none, some (.int v2), some (.int s0)]) (st' := [.int 0, .ref 650]) 1 rfl ?_
    exact A180_49 hd hN hG hS
  · rw [if_neg hc19] at hG
    replace hS := hS.2 hc19
    refine x_run (pc' := 40) (lo' := [some (.ref 650), none, some (.int v2), some (.int s0)]) (st' := [.ref 650, .ref 650]) 1 rfl ?_
    refine x_gf (c := 616) (ne := 0) (v := .ref 680) rfl (by decide +kernel) rfl rfl ?_
    refine x_run (pc' := 44) (lo' := [some (.ref 650), none, some (.int v2), some (.int s0)]) (st' := [.int v2, .ref 680, .ref 650]) 1 rfl ?_
    obtain ⟨o23, hS⟩ := hS
    refine p_ia (n := 5) (v := (q.1 680 (Int32.toNatClampNeg v2))) rfl rfl o23 rfl ?_
    refine x_run (pc' := 49) (lo' := [some (.ref 650), none, some (.int v2), some (.int s0)]) (st' := [.int (q.1 680 (Int32.toNatClampNeg v2)), .ref 650]) 1 rfl ?_
    exact A180_49 hd hN hG hS
def F180_0 (v1 : Int32) (q : aQ) : aQ := (if (q.1 651 (Int32.toNatClampNeg v1)) = 3 then (if (q.1 680 (Int32.toNatClampNeg (q.1 652 (Int32.toNatClampNeg v1)))) = 8 then F180_33 (q.1 652 (Int32.toNatClampNeg v1)) 0 q else F180_33 (q.1 652 (Int32.toNatClampNeg v1)) 1 q) else (if (q.1 651 (Int32.toNatClampNeg v1)) = 4 then (if (q.1 650 16) ≤ (q.1 650 42) then F180_108 0 1 q else F180_108 (Int32.toInt64 (q.1 664 (Int32.toNatClampNeg (q.1 650 42)))) 1 q) else (if (q.1 651 (Int32.toNatClampNeg v1)) = 0 then F180_171 v1 (q.1 652 (Int32.toNatClampNeg v1)) 1 q else (if (q.1 651 (Int32.toNatClampNeg v1)) = 1 then F180_171 v1 (q.1 652 (Int32.toNatClampNeg v1)) 2 q else F180_171 v1 (q.1 652 (Int32.toNatClampNeg v1)) 4 q))))
def S180_0 (v1 : Int32) (q : aQ) : Prop := vp_in v1 60 ∧ (vp_in v1 60 ∧ ((((q.1 651 (Int32.toNatClampNeg v1)) = 3) → vp_in (q.1 652 (Int32.toNatClampNeg v1)) 5 ∧ ((((q.1 680 (Int32.toNatClampNeg (q.1 652 (Int32.toNatClampNeg v1)))) = 8) → S180_33 (q.1 652 (Int32.toNatClampNeg v1)) 0 q) ∧ (¬ ((q.1 680 (Int32.toNatClampNeg (q.1 652 (Int32.toNatClampNeg v1)))) = 8) → S180_33 (q.1 652 (Int32.toNatClampNeg v1)) 1 q))) ∧ (¬ ((q.1 651 (Int32.toNatClampNeg v1)) = 3) → vp_in v1 60 ∧ ((((q.1 651 (Int32.toNatClampNeg v1)) = 4) → (((q.1 650 16) ≤ (q.1 650 42)) → S180_108 0 1 q) ∧ (¬ ((q.1 650 16) ≤ (q.1 650 42)) → vp_in (q.1 650 42) 8 ∧ (S180_108 (Int32.toInt64 (q.1 664 (Int32.toNatClampNeg (q.1 650 42)))) 1 q))) ∧ (¬ ((q.1 651 (Int32.toNatClampNeg v1)) = 4) → vp_in v1 60 ∧ ((((q.1 651 (Int32.toNatClampNeg v1)) = 0) → S180_171 v1 (q.1 652 (Int32.toNatClampNeg v1)) 1 q) ∧ (¬ ((q.1 651 (Int32.toNatClampNeg v1)) = 0) → vp_in v1 60 ∧ ((((q.1 651 (Int32.toNatClampNeg v1)) = 1) → S180_171 v1 (q.1 652 (Int32.toNatClampNeg v1)) 2 q) ∧ (¬ ((q.1 651 (Int32.toNatClampNeg v1)) = 1) → S180_171 v1 (q.1 652 (Int32.toNatClampNeg v1)) 4 q)))))))))
set_option maxRecDepth 100000 in
set_option maxHeartbeats 4000000 in
theorem A180_0 {l : Launch} {X : aX} {d : Nat} {r : Option Value} {h' : aH} {v1 : Int32} {q : aQ} (hd : 2 ≤ d) (hN : h'.1 = nk0) (hG : gV r h' (F180_0 v1 q)) (hS : S180_0 v1 q) : AW l X 180 c180 d r h' 0 [some (.ref 650), some (.int v1), none, none] [] (hp q) := by
  unfold F180_0 at hG
  unfold S180_0 at hS
  refine x_run (pc' := 1) (lo' := [some (.ref 650), some (.int v1), none, none]) (st' := [.ref 650]) 1 rfl ?_
  refine x_gf (c := 578) (ne := 0) (v := .ref 652) rfl (by decide +kernel) rfl rfl ?_
  refine x_run (pc' := 5) (lo' := [some (.ref 650), some (.int v1), none, none]) (st' := [.int v1, .ref 652]) 1 rfl ?_
  obtain ⟨o1, hS⟩ := hS
  refine p_ia (n := 60) (v := (q.1 652 (Int32.toNatClampNeg v1))) rfl rfl o1 rfl ?_
  refine x_run (pc' := 8) (lo' := [some (.ref 650), some (.int v1), some (.int (q.1 652 (Int32.toNatClampNeg v1))), none]) (st' := [.ref 650]) 2 rfl ?_
  refine x_gf (c := 577) (ne := 0) (v := .ref 651) rfl (by decide +kernel) rfl rfl ?_
  refine x_run (pc' := 12) (lo' := [some (.ref 650), some (.int v1), some (.int (q.1 652 (Int32.toNatClampNeg v1))), none]) (st' := [.int v1, .ref 651]) 1 rfl ?_
  obtain ⟨o2, hS⟩ := hS
  refine p_ia (n := 60) (v := (q.1 651 (Int32.toNatClampNeg v1))) rfl rfl o2 rfl ?_
  refine x_run (pc' := 14) (lo' := [some (.ref 650), some (.int v1), some (.int (q.1 652 (Int32.toNatClampNeg v1))), none]) (st' := [.int 3, .int (q.1 651 (Int32.toNatClampNeg v1))]) 1 rfl ?_
  refine x_ic 71 rfl rfl (fun (hc3 : ¬ (q.1 651 (Int32.toNatClampNeg v1)) = 3) => ?_) (fun (hc3 : (q.1 651 (Int32.toNatClampNeg v1)) = 3) => ?_)
  · rw [if_neg hc3] at hG
    replace hS := hS.2 hc3
    refine x_run (pc' := 72) (lo' := [some (.ref 650), some (.int v1), some (.int (q.1 652 (Int32.toNatClampNeg v1))), none]) (st' := [.ref 650]) 1 rfl ?_
    refine x_gf (c := 577) (ne := 0) (v := .ref 651) rfl (by decide +kernel) rfl rfl ?_
    refine x_run (pc' := 76) (lo' := [some (.ref 650), some (.int v1), some (.int (q.1 652 (Int32.toNatClampNeg v1))), none]) (st' := [.int v1, .ref 651]) 1 rfl ?_
    obtain ⟨o4, hS⟩ := hS
    refine p_ia (n := 60) (v := (q.1 651 (Int32.toNatClampNeg v1))) rfl rfl o4 rfl ?_
    refine x_run (pc' := 78) (lo' := [some (.ref 650), some (.int v1), some (.int (q.1 652 (Int32.toNatClampNeg v1))), none]) (st' := [.int 4, .int (q.1 651 (Int32.toNatClampNeg v1))]) 1 rfl ?_
    refine x_ic 142 rfl rfl (fun (hc5 : ¬ (q.1 651 (Int32.toNatClampNeg v1)) = 4) => ?_) (fun (hc5 : (q.1 651 (Int32.toNatClampNeg v1)) = 4) => ?_)
    · rw [if_neg hc5] at hG
      replace hS := hS.2 hc5
      refine x_run (pc' := 144) (lo' := [some (.ref 650), some (.int v1), some (.int (q.1 652 (Int32.toNatClampNeg v1))), none]) (st' := [.ref 650, .ref 650]) 2 rfl ?_
      refine x_gf (c := 577) (ne := 0) (v := .ref 651) rfl (by decide +kernel) rfl rfl ?_
      refine x_run (pc' := 148) (lo' := [some (.ref 650), some (.int v1), some (.int (q.1 652 (Int32.toNatClampNeg v1))), none]) (st' := [.int v1, .ref 651, .ref 650]) 1 rfl ?_
      obtain ⟨o6, hS⟩ := hS
      refine p_ia (n := 60) (v := (q.1 651 (Int32.toNatClampNeg v1))) rfl rfl o6 rfl ?_
      refine x_if 156 rfl rfl (fun (hc7 : ¬ (q.1 651 (Int32.toNatClampNeg v1)) = 0) => ?_) (fun (hc7 : (q.1 651 (Int32.toNatClampNeg v1)) = 0) => ?_)
      · rw [if_neg hc7] at hG
        replace hS := hS.2 hc7
        refine x_run (pc' := 157) (lo' := [some (.ref 650), some (.int v1), some (.int (q.1 652 (Int32.toNatClampNeg v1))), none]) (st' := [.ref 650, .ref 650]) 1 rfl ?_
        refine x_gf (c := 577) (ne := 0) (v := .ref 651) rfl (by decide +kernel) rfl rfl ?_
        refine x_run (pc' := 161) (lo' := [some (.ref 650), some (.int v1), some (.int (q.1 652 (Int32.toNatClampNeg v1))), none]) (st' := [.int v1, .ref 651, .ref 650]) 1 rfl ?_
        obtain ⟨o8, hS⟩ := hS
        refine p_ia (n := 60) (v := (q.1 651 (Int32.toNatClampNeg v1))) rfl rfl o8 rfl ?_
        refine x_run (pc' := 163) (lo' := [some (.ref 650), some (.int v1), some (.int (q.1 652 (Int32.toNatClampNeg v1))), none]) (st' := [.int 1, .int (q.1 651 (Int32.toNatClampNeg v1)), .ref 650]) 1 rfl ?_
        refine x_ic 170 rfl rfl (fun (hc9 : ¬ (q.1 651 (Int32.toNatClampNeg v1)) = 1) => ?_) (fun (hc9 : (q.1 651 (Int32.toNatClampNeg v1)) = 1) => ?_)
        · rw [if_neg hc9] at hG
          replace hS := hS.2 hc9
          refine x_run (pc' := 171) (lo' := [some (.ref 650), some (.int v1), some (.int (q.1 652 (Int32.toNatClampNeg v1))), none]) (st' := [.int 4, .ref 650]) 1 rfl ?_
          exact A180_171 hd hN hG hS
        · rw [if_pos hc9] at hG
          replace hS := hS.1 hc9
          refine x_run (pc' := 171) (lo' := [some (.ref 650), some (.int v1), some (.int (q.1 652 (Int32.toNatClampNeg v1))), none]) (st' := [.int 2, .ref 650]) 2 rfl ?_
          exact A180_171 hd hN hG hS
      · rw [if_pos hc7] at hG
        replace hS := hS.1 hc7
        refine x_run (pc' := 171) (lo' := [some (.ref 650), some (.int v1), some (.int (q.1 652 (Int32.toNatClampNeg v1))), none]) (st' := [.int 1, .ref 650]) 2 rfl ?_
        exact A180_171 hd hN hG hS
    · rw [if_pos hc5] at hG
      replace hS := hS.1 hc5
      refine x_run (pc' := 84) (lo' := [some (.ref 650), some (.int v1), some (.int (q.1 652 (Int32.toNatClampNeg v1))), none]) (st' := [.ref 650, .int 1, .ref 650]) 3 rfl ?_
      refine x_gf (c := 618) (ne := 0) (v := .int (q.1 650 42)) rfl (by decide +kernel) rfl rfl ?_
      refine x_run (pc' := 88) (lo' := [some (.ref 650), some (.int v1), some (.int (q.1 652 (Int32.toNatClampNeg v1))), none]) (st' := [.ref 650, .int (q.1 650 42), .int 1, .ref 650]) 1 rfl ?_
      refine x_gf (c := 592) (ne := 0) (v := .int (q.1 650 16)) rfl (by decide +kernel) rfl rfl ?_
      refine x_ic 107 rfl rfl (fun (hc13 : (q.1 650 16) ≤ (q.1 650 42)) => ?_) (fun (hc13 : ¬ (q.1 650 16) ≤ (q.1 650 42)) => ?_)
      · rw [if_pos hc13] at hG
        replace hS := hS.1 hc13
        refine x_run (pc' := 108) (lo' := [some (.ref 650), some (.int v1), some (.int (q.1 652 (Int32.toNatClampNeg v1))), none]) (st' := [.long 0, .int 1, .ref 650]) 1 rfl ?_
        refine x_kill [1, 2] ?_
        exact A180_108 hd hN hG hS
      · rw [if_neg hc13] at hG
        replace hS := hS.2 hc13
        refine x_run (pc' := 95) (lo' := [some (.ref 650), some (.int v1), some (.int (q.1 652 (Int32.toNatClampNeg v1))), none]) (st' := [.ref 650, .int 1, .ref 650]) 1 rfl ?_
        refine x_gf (c := 593) (ne := 0) (v := .ref 664) rfl (by decide +kernel) rfl rfl ?_
        refine x_run (pc' := 99) (lo' := [some (.ref 650), some (.int v1), some (.int (q.1 652 (Int32.toNatClampNeg v1))), none]) (st' := [.ref 650, .ref 664, .int 1, .ref 650]) 1 rfl ?_
        refine x_gf (c := 618) (ne := 0) (v := .int (q.1 650 42)) rfl (by decide +kernel) rfl rfl ?_
        obtain ⟨o16, hS⟩ := hS
        refine p_ia (n := 8) (v := (q.1 664 (Int32.toNatClampNeg (q.1 650 42)))) rfl rfl o16 rfl ?_
        refine x_run (pc' := 108) (lo' := [some (.ref 650), some (.int v1), some (.int (q.1 652 (Int32.toNatClampNeg v1))), none]) (st' := [.long (Int32.toInt64 (q.1 664 (Int32.toNatClampNeg (q.1 650 42)))), .int 1, .ref 650]) 2 rfl ?_
        refine x_kill [1, 2] ?_
        exact A180_108 hd hN hG hS
  · rw [if_pos hc3] at hG
    replace hS := hS.1 hc3
    refine x_run (pc' := 18) (lo' := [some (.ref 650), some (.int v1), some (.int (q.1 652 (Int32.toNatClampNeg v1))), none]) (st' := [.ref 650]) 1 rfl ?_
    refine x_gf (c := 616) (ne := 0) (v := .ref 680) rfl (by decide +kernel) rfl rfl ?_
    refine x_run (pc' := 22) (lo' := [some (.ref 650), some (.int v1), some (.int (q.1 652 (Int32.toNatClampNeg v1))), none]) (st' := [.int (q.1 652 (Int32.toNatClampNeg v1)), .ref 680]) 1 rfl ?_
    obtain ⟨o17, hS⟩ := hS
    refine p_ia (n := 5) (v := (q.1 680 (Int32.toNatClampNeg (q.1 652 (Int32.toNatClampNeg v1))))) rfl rfl o17 rfl ?_
    refine x_run (pc' := 25) (lo' := [some (.ref 650), some (.int v1), some (.int (q.1 652 (Int32.toNatClampNeg v1))), none]) (st' := [.int 8, .int (q.1 680 (Int32.toNatClampNeg (q.1 652 (Int32.toNatClampNeg v1))))]) 1 rfl ?_
    refine x_ic 32 rfl rfl (fun (hc18 : (q.1 680 (Int32.toNatClampNeg (q.1 652 (Int32.toNatClampNeg v1)))) = 8) => ?_) (fun (hc18 : ¬ (q.1 680 (Int32.toNatClampNeg (q.1 652 (Int32.toNatClampNeg v1)))) = 8) => ?_)
    · rw [if_pos hc18] at hG
      replace hS := hS.1 hc18
      refine x_run (pc' := 33) (lo' := [some (.ref 650), some (.int v1), some (.int (q.1 652 (Int32.toNatClampNeg v1))), none]) (st' := [.int 0]) 1 rfl ?_
      refine x_kill [1] ?_
      exact A180_33 hd hN hG hS
    · rw [if_neg hc18] at hG
      replace hS := hS.2 hc18
      refine x_run (pc' := 33) (lo' := [some (.ref 650), some (.int v1), some (.int (q.1 652 (Int32.toNatClampNeg v1))), none]) (st' := [.int 1]) 2 rfl ?_
      refine x_kill [1] ?_
      exact A180_33 hd hN hG hS
theorem T180 {l : Launch} {X : aX} {d : Nat} {v1 : Int32} {q : aQ} (hd : 2 ≤ d) (hS : S180_0 v1 q) : Call l X d 180 [.ref 650, .int v1] (hp q) none (hp (F180_0 v1 q)) := Call.of ok180 (by decide) (Nat.le_of_ble_eq_true rfl) ⟨Nat.le_refl _, Nat.le_refl _⟩ (A180_0 hd rfl ⟨rfl, rfl⟩ hS)
/-- TypeForecastModel.value(I)V -/
def F181_174 (v2 : Int32) (v3 : Int32) (q : aQ) : (Int32 × Int32 × aQ) ⊕ ((aQ) ⊕ (aQ)) := (if 0 < (q.1 650 37) then .inl ((v2 + 1), (v3 + 1), (a_wl (a_w q 684 (Int32.toNatClampNeg v2) (q.1 650 37)) 685 (Int32.toNatClampNeg v2) (q.2 650 38))) else .inr (.inr q))
def S181_174 (v2 : Int32) (v3 : Int32) (q : aQ) : Prop := ((0 < (q.1 650 37)) → vp_in v2 16 ∧ (vp_in v2 16 ∧ (True))) ∧ (¬ (0 < (q.1 650 37)) → True)
set_option maxRecDepth 100000 in
set_option maxHeartbeats 4000000 in
theorem A181_174 {l : Launch} {X : aX} {d : Nat} {r : Option Value} {h' : aH} {v2 : Int32} {v3 : Int32} {q : aQ} (hd : 3 ≤ d) (hN : h'.1 = nk0) (hG : gL (fun (s : Int32 × Int32 × aQ) => AW l X 181 c181 d r h' 9 [some (.ref 650), none, some (.int s.1), some (.int s.2.1), none, none] [] (hp s.2.2)) (gE (fun (e : aQ) => AW l X 181 c181 d r h' 211 [none, none, none, none, none, none] [] (hp e)) (fun o => gV r h' o)) (F181_174 v2 v3 q)) (hS : S181_174 v2 v3 q) : AW l X 181 c181 d r h' 174 [some (.ref 650), none, some (.int v2), some (.int v3), none, none] [] (hp q) := by
  unfold F181_174 at hG
  unfold S181_174 at hS
  refine x_run (pc' := 175) (lo' := [some (.ref 650), none, some (.int v2), some (.int v3), none, none]) (st' := [.ref 650]) 1 rfl ?_
  refine x_gf (c := 613) (ne := 0) (v := .int (q.1 650 37)) rfl (by decide +kernel) rfl rfl ?_
  refine x_if 182 rfl rfl (fun (hc18 : 0 < (q.1 650 37)) => ?_) (fun (hc18 : ¬ 0 < (q.1 650 37)) => ?_)
  · rw [if_pos hc18] at hG
    replace hS := hS.1 hc18
    refine x_run (pc' := 183) (lo' := [some (.ref 650), none, some (.int v2), some (.int v3), none, none]) (st' := [.ref 650]) 1 rfl ?_
    refine x_gf (c := 622) (ne := 0) (v := .ref 684) rfl (by decide +kernel) rfl rfl ?_
    refine x_run (pc' := 188) (lo' := [some (.ref 650), none, some (.int v2), some (.int v3), none, none]) (st' := [.ref 650, .int v2, .ref 684]) 2 rfl ?_
    refine x_gf (c := 613) (ne := 0) (v := .int (q.1 650 37)) rfl (by decide +kernel) rfl rfl ?_
    obtain ⟨o19, hS⟩ := hS
    refine p_is (n := 16) rfl rfl o19 ?_
    refine x_run (pc' := 193) (lo' := [some (.ref 650), none, some (.int v2), some (.int v3), none, none]) (st' := [.ref 650]) 1 rfl ?_
    refine x_gf (c := 623) (ne := 0) (v := .ref 685) rfl (by decide +kernel) rfl rfl ?_
    refine x_run (pc' := 198) (lo' := [some (.ref 650), none, some (.int v2), some (.int v3), none, none]) (st' := [.ref 650, .int v2, .ref 685]) 2 rfl ?_
    refine x_gf (c := 614) (ne := 0) (v := .long (q.2 650 38)) rfl (by decide +kernel) rfl rfl ?_
    obtain ⟨o20, hS⟩ := hS
    refine p_lt (n := 16) rfl rfl o20 ?_
    refine x_run (pc' := 9) (lo' := [some (.ref 650), none, some (.int (v2 + 1)), some (.int (v3 + 1)), none, none]) (st' := []) 3 rfl ?_
    exact hG
  · rw [if_neg hc18] at hG
    replace hS := hS.2 hc18
    obtain ⟨rfl, rfl⟩ := hG
    exact x_ret rfl (by decide +kernel)
def F181_169 (v2 : Int32) (v3 : Int32) (q : aQ) : (Int32 × Int32 × aQ) ⊕ ((aQ) ⊕ (aQ)) := F181_174 v2 v3 (a_w q 650 37 (-1))
def S181_169 (v2 : Int32) (v3 : Int32) (q : aQ) : Prop := S181_174 v2 v3 (a_w q 650 37 (-1))
set_option maxRecDepth 100000 in
set_option maxHeartbeats 4000000 in
theorem A181_169 {l : Launch} {X : aX} {d : Nat} {r : Option Value} {h' : aH} {v2 : Int32} {v3 : Int32} {q : aQ} (hd : 3 ≤ d) (hN : h'.1 = nk0) (hG : gL (fun (s : Int32 × Int32 × aQ) => AW l X 181 c181 d r h' 9 [some (.ref 650), none, some (.int s.1), some (.int s.2.1), none, none] [] (hp s.2.2)) (gE (fun (e : aQ) => AW l X 181 c181 d r h' 211 [none, none, none, none, none, none] [] (hp e)) (fun o => gV r h' o)) (F181_169 v2 v3 q)) (hS : S181_169 v2 v3 q) : AW l X 181 c181 d r h' 169 [some (.ref 650), none, some (.int v2), some (.int v3), none, none] [] (hp q) := by
  unfold F181_169 at hG
  unfold S181_169 at hS
  refine x_run (pc' := 171) (lo' := [some (.ref 650), none, some (.int v2), some (.int v3), none, none]) (st' := [.int (-1), .ref 650]) 2 rfl ?_
  refine x_pf (c := 613) (ne := 0) (h2 := hp (a_w q 650 37 (-1))) rfl (by decide +kernel) (by decide +kernel) rfl (pv_i rfl) ?_
  exact A181_174 hd hN hG hS
def F181_140 (v2 : Int32) (v3 : Int32) (q : aQ) : (Int32 × Int32 × aQ) ⊕ ((aQ) ⊕ (aQ)) := (if (q.1 650 37) = 0 then F181_174 v2 v3 q else (if 0 < (lg_cmp (q.2 650 38) 1000000000) then F181_169 v2 v3 q else (if 0 ≤ (lg_cmp (q.2 650 38) (-1000000000)) then F181_174 v2 v3 q else F181_169 v2 v3 q)))
def S181_140 (v2 : Int32) (v3 : Int32) (q : aQ) : Prop := (((q.1 650 37) = 0) → S181_174 v2 v3 q) ∧ (¬ ((q.1 650 37) = 0) → ((0 < (lg_cmp (q.2 650 38) 1000000000)) → S181_169 v2 v3 q) ∧ (¬ (0 < (lg_cmp (q.2 650 38) 1000000000)) → ((0 ≤ (lg_cmp (q.2 650 38) (-1000000000))) → S181_174 v2 v3 q) ∧ (¬ (0 ≤ (lg_cmp (q.2 650 38) (-1000000000))) → S181_169 v2 v3 q)))
set_option maxRecDepth 100000 in
set_option maxHeartbeats 4000000 in
theorem A181_140 {l : Launch} {X : aX} {d : Nat} {r : Option Value} {h' : aH} {v2 : Int32} {v3 : Int32} {q : aQ} (hd : 3 ≤ d) (hN : h'.1 = nk0) (hG : gL (fun (s : Int32 × Int32 × aQ) => AW l X 181 c181 d r h' 9 [some (.ref 650), none, some (.int s.1), some (.int s.2.1), none, none] [] (hp s.2.2)) (gE (fun (e : aQ) => AW l X 181 c181 d r h' 211 [none, none, none, none, none, none] [] (hp e)) (fun o => gV r h' o)) (F181_140 v2 v3 q)) (hS : S181_140 v2 v3 q) : AW l X 181 c181 d r h' 140 [some (.ref 650), none, some (.int v2), some (.int v3), none, none] [] (hp q) := by
  unfold F181_140 at hG
  unfold S181_140 at hS
  refine x_run (pc' := 141) (lo' := [some (.ref 650), none, some (.int v2), some (.int v3), none, none]) (st' := [.ref 650]) 1 rfl ?_
  refine x_gf (c := 613) (ne := 0) (v := .int (q.1 650 37)) rfl (by decide +kernel) rfl rfl ?_
  refine x_if 174 rfl rfl (fun (hc17 : (q.1 650 37) = 0) => ?_) (fun (hc17 : ¬ (q.1 650 37) = 0) => ?_)
  · rw [if_pos hc17] at hG
    replace hS := hS.1 hc17
    exact A181_174 hd hN hG hS
  · rw [if_neg hc17] at hG
    replace hS := hS.2 hc17
    refine x_run (pc' := 148) (lo' := [some (.ref 650), none, some (.int v2), some (.int v3), none, none]) (st' := [.ref 650]) 1 rfl ?_
    refine x_gf (c := 614) (ne := 0) (v := .long (q.2 650 38)) rfl (by decide +kernel) rfl rfl ?_
    refine x_ldc2 (v := 1000000000) (ne := 0) rfl (by decide +kernel) ?_
    refine x_run (pc' := 155) (lo' := [some (.ref 650), none, some (.int v2), some (.int v3), none, none]) (st' := [.int (lg_cmp (q.2 650 38) 1000000000)]) 1 rfl ?_
    refine x_if 169 rfl rfl (fun (hc21 : 0 < (lg_cmp (q.2 650 38) 1000000000)) => ?_) (fun (hc21 : ¬ 0 < (lg_cmp (q.2 650 38) 1000000000)) => ?_)
    · rw [if_pos hc21] at hG
      replace hS := hS.1 hc21
      exact A181_169 hd hN hG hS
    · rw [if_neg hc21] at hG
      replace hS := hS.2 hc21
      refine x_run (pc' := 159) (lo' := [some (.ref 650), none, some (.int v2), some (.int v3), none, none]) (st' := [.ref 650]) 1 rfl ?_
      refine x_gf (c := 614) (ne := 0) (v := .long (q.2 650 38)) rfl (by decide +kernel) rfl rfl ?_
      refine x_ldc2 (v := (-1000000000)) (ne := 0) rfl (by decide +kernel) ?_
      refine x_run (pc' := 166) (lo' := [some (.ref 650), none, some (.int v2), some (.int v3), none, none]) (st' := [.int (lg_cmp (q.2 650 38) (-1000000000))]) 1 rfl ?_
      refine x_if 174 rfl rfl (fun (hc22 : 0 ≤ (lg_cmp (q.2 650 38) (-1000000000))) => ?_) (fun (hc22 : ¬ 0 ≤ (lg_cmp (q.2 650 38) (-1000000000))) => ?_)
      · rw [if_pos hc22] at hG
        replace hS := hS.1 hc22
        exact A181_174 hd hN hG hS
      · rw [if_neg hc22] at hG
        replace hS := hS.2 hc22
        exact A181_169 hd hN hG hS
def F181_137 (v2 : Int32) (v3 : Int32) (s0 : Int64) (s1 : Int32) (s2 : Int64) (s3 : Int32) (s4 : Int32) (q : aQ) : (Int32 × Int32 × aQ) ⊕ ((aQ) ⊕ (aQ)) := F181_140 v2 v3 (F154_0 s4 s3 s2 s1 s0 q)
def S181_137 (v2 : Int32) (v3 : Int32) (s0 : Int64) (s1 : Int32) (s2 : Int64) (s3 : Int32) (s4 : Int32) (q : aQ) : Prop := S154_0 s4 s3 s2 s1 s0 q ∧ (S181_140 v2 v3 (F154_0 s4 s3 s2 s1 s0 q))
set_option maxRecDepth 100000 in
set_option maxHeartbeats 4000000 in
theorem A181_137 {l : Launch} {X : aX} {d : Nat} {r : Option Value} {h' : aH} {v2 : Int32} {v3 : Int32} {s0 : Int64} {s1 : Int32} {s2 : Int64} {s3 : Int32} {s4 : Int32} {q : aQ} (hd : 3 ≤ d) (hN : h'.1 = nk0) (hG : gL (fun (s : Int32 × Int32 × aQ) => AW l X 181 c181 d r h' 9 [some (.ref 650), none, some (.int s.1), some (.int s.2.1), none, none] [] (hp s.2.2)) (gE (fun (e : aQ) => AW l X 181 c181 d r h' 211 [none, none, none, none, none, none] [] (hp e)) (fun o => gV r h' o)) (F181_137 v2 v3 s0 s1 s2 s3 s4 q)) (hS : S181_137 v2 v3 s0 s1 s2 s3 s4 q) : AW l X 181 c181 d r h' 137 [some (.ref 650), none, some (.int v2), some (.int v3), none, none] [.long s0, .int s1, .long s2, .int s3, .int s4, .ref 650] (hp q) := by
  unfold F181_137 at hG
  unfold S181_137 at hS
  obtain ⟨o16, hS⟩ := hS
  refine x_cv (j := 154) (ne := 0) (vs := [.int s4, .int s3, .long s2, .int s1, .long s0]) (rest := []) rfl (by decide +kernel) (by decide +kernel) (by decide) (Eq.trans rfl (show 5 = _ from by decide +kernel)) rfl (by decide +kernel) rfl (Nat.le_of_ble_eq_true rfl) (by omega) (T154 (Nat.le_refl 2) o16) (hp_m hN) ?_
  show AW l X 181 c181 d r h' 140 [some (.ref 650), none, some (.int v2), some (.int v3), none, none] [] (hp (F154_0 s4 s3 s2 s1 s0 q))
  exact A181_140 hd hN hG hS
def F181_120 (v2 : Int32) (v3 : Int32) (v5 : Int32) (s0 : Int32) (s1 : Int64) (s2 : Int32) (s3 : Int32) (q : aQ) : (Int32 × Int32 × aQ) ⊕ ((aQ) ⊕ (aQ)) := (if v5 = 0 then F181_137 v2 v3 (q.2 685 (Int32.toNatClampNeg (v2 + 1))) s0 s1 s2 s3 q else F181_137 v2 v3 0 s0 s1 s2 s3 q)
def S181_120 (v2 : Int32) (v3 : Int32) (v5 : Int32) (s0 : Int32) (s1 : Int64) (s2 : Int32) (s3 : Int32) (q : aQ) : Prop := ((v5 = 0) → vp_in (v2 + 1) 16 ∧ (S181_137 v2 v3 (q.2 685 (Int32.toNatClampNeg (v2 + 1))) s0 s1 s2 s3 q)) ∧ (¬ (v5 = 0) → S181_137 v2 v3 0 s0 s1 s2 s3 q)
set_option maxRecDepth 100000 in
set_option maxHeartbeats 4000000 in
theorem A181_120 {l : Launch} {X : aX} {d : Nat} {r : Option Value} {h' : aH} {v2 : Int32} {v3 : Int32} {v5 : Int32} {s0 : Int32} {s1 : Int64} {s2 : Int32} {s3 : Int32} {q : aQ} (hd : 3 ≤ d) (hN : h'.1 = nk0) (hG : gL (fun (s : Int32 × Int32 × aQ) => AW l X 181 c181 d r h' 9 [some (.ref 650), none, some (.int s.1), some (.int s.2.1), none, none] [] (hp s.2.2)) (gE (fun (e : aQ) => AW l X 181 c181 d r h' 211 [none, none, none, none, none, none] [] (hp e)) (fun o => gV r h' o)) (F181_120 v2 v3 v5 s0 s1 s2 s3 q)) (hS : S181_120 v2 v3 v5 s0 s1 s2 s3 q) : AW l X 181 c181 d r h' 120 [some (.ref 650), none, some (.int v2), some (.int v3), none, some (.int v5)] [.int s0, .long s1, .int s2, .int s3, .ref 650] (hp q) := by
  unfold F181_120 at hG
  unfold S181_120 at hS
  refine x_run (pc' := 122) (lo' := [some (.ref 650), none, some (.int v2), some (.int v3), none, some (.int v5)]) (st' := [.int v5, .int s0, .long s1, .int s2, .int s3, .ref 650]) 1 rfl ?_
  refine x_if 129 rfl rfl (fun (hc14 : v5 = 0) => ?_) (fun (hc14 : ¬ v5 = 0) => ?_)
  · rw [if_pos hc14] at hG
    replace hS := hS.1 hc14
    refine x_run (pc' := 130) (lo' := [some (.ref 650), none, some (.int v2), some (.int v3), none, some (.int v5)]) (st' := [.ref 650, .int s0, .long s1, .int s2, .int s3, .ref 650]) 1 rfl ?_
    refine x_gf (c := 623) (ne := 0) (v := .ref 685) rfl (by decide +kernel) rfl rfl ?_
    refine x_run (pc' := 136) (lo' := [some (.ref 650), none, some (.int v2), some (.int v3), none, some (.int v5)]) (st' := [.int (v2 + 1), .ref 685, .int s0, .long s1, .int s2, .int s3, .ref 650]) 3 rfl ?_
    obtain ⟨o15, hS⟩ := hS
    refine p_la (n := 16) (v := (q.2 685 (Int32.toNatClampNeg (v2 + 1)))) rfl rfl o15 rfl ?_
    refine x_kill [5] ?_
    exact A181_137 hd hN hG hS
  · rw [if_neg hc14] at hG
    replace hS := hS.2 hc14
    refine x_run (pc' := 137) (lo' := [some (.ref 650), none, some (.int v2), some (.int v3), none, some (.int v5)]) (st' := [.long 0, .int s0, .long s1, .int s2, .int s3, .ref 650]) 2 rfl ?_
    refine x_kill [5] ?_
    exact A181_137 hd hN hG hS
def F181_79 (v3 : Int32) (v4 : Int32) (v5 : Int32) (s0 : Int32) (q : aQ) : (Int32 × Int32 × aQ) ⊕ ((aQ) ⊕ (aQ)) := (if v5 = 0 then F181_120 s0 v3 v5 (q.1 684 (Int32.toNatClampNeg (s0 + 1))) (q.2 685 (Int32.toNatClampNeg s0)) (q.1 684 (Int32.toNatClampNeg s0)) ((q.1 651 (Int32.toNatClampNeg v4)) - 10) q else F181_120 s0 v3 v5 4 (q.2 685 (Int32.toNatClampNeg s0)) (q.1 684 (Int32.toNatClampNeg s0)) ((q.1 651 (Int32.toNatClampNeg v4)) - 10) q)
def S181_79 (v3 : Int32) (v4 : Int32) (v5 : Int32) (s0 : Int32) (q : aQ) : Prop := vp_in v4 60 ∧ (vp_in s0 16 ∧ (vp_in s0 16 ∧ (((v5 = 0) → vp_in (s0 + 1) 16 ∧ (S181_120 s0 v3 v5 (q.1 684 (Int32.toNatClampNeg (s0 + 1))) (q.2 685 (Int32.toNatClampNeg s0)) (q.1 684 (Int32.toNatClampNeg s0)) ((q.1 651 (Int32.toNatClampNeg v4)) - 10) q)) ∧ (¬ (v5 = 0) → S181_120 s0 v3 v5 4 (q.2 685 (Int32.toNatClampNeg s0)) (q.1 684 (Int32.toNatClampNeg s0)) ((q.1 651 (Int32.toNatClampNeg v4)) - 10) q))))
set_option maxRecDepth 100000 in
set_option maxHeartbeats 4000000 in
theorem A181_79 {l : Launch} {X : aX} {d : Nat} {r : Option Value} {h' : aH} {v3 : Int32} {v4 : Int32} {v5 : Int32} {s0 : Int32} {q : aQ} (hd : 3 ≤ d) (hN : h'.1 = nk0) (hG : gL (fun (s : Int32 × Int32 × aQ) => AW l X 181 c181 d r h' 9 [some (.ref 650), none, some (.int s.1), some (.int s.2.1), none, none] [] (hp s.2.2)) (gE (fun (e : aQ) => AW l X 181 c181 d r h' 211 [none, none, none, none, none, none] [] (hp e)) (fun o => gV r h' o)) (F181_79 v3 v4 v5 s0 q)) (hS : S181_79 v3 v4 v5 s0 q) : AW l X 181 c181 d r h' 79 [some (.ref 650), none, none, some (.int v3), some (.int v4), some (.int v5)] [.int s0] (hp q) := by
  unfold F181_79 at hG
  unfold S181_79 at hS
  refine x_run (pc' := 82) (lo' := [some (.ref 650), none, some (.int s0), some (.int v3), some (.int v4), some (.int v5)]) (st' := [.ref 650, .ref 650]) 3 rfl ?_
  refine x_gf (c := 577) (ne := 0) (v := .ref 651) rfl (by decide +kernel) rfl rfl ?_
  refine x_run (pc' := 87) (lo' := [some (.ref 650), none, some (.int s0), some (.int v3), some (.int v4), some (.int v5)]) (st' := [.int v4, .ref 651, .ref 650]) 1 rfl ?_
  obtain ⟨o9, hS⟩ := hS
  refine p_ia (n := 60) (v := (q.1 651 (Int32.toNatClampNeg v4))) rfl rfl o9 rfl ?_
  refine x_run (pc' := 92) (lo' := [some (.ref 650), none, some (.int s0), some (.int v3), some (.int v4), some (.int v5)]) (st' := [.ref 650, .int ((q.1 651 (Int32.toNatClampNeg v4)) - 10), .ref 650]) 3 rfl ?_
  refine x_gf (c := 622) (ne := 0) (v := .ref 684) rfl (by decide +kernel) rfl rfl ?_
  refine x_run (pc' := 96) (lo' := [some (.ref 650), none, some (.int s0), some (.int v3), some (.int v4), some (.int v5)]) (st' := [.int s0, .ref 684, .int ((q.1 651 (Int32.toNatClampNeg v4)) - 10), .ref 650]) 1 rfl ?_
  obtain ⟨o10, hS⟩ := hS
  refine p_ia (n := 16) (v := (q.1 684 (Int32.toNatClampNeg s0))) rfl rfl o10 rfl ?_
  refine x_run (pc' := 98) (lo' := [some (.ref 650), none, some (.int s0), some (.int v3), some (.int v4), some (.int v5)]) (st' := [.ref 650, .int (q.1 684 (Int32.toNatClampNeg s0)), .int ((q.1 651 (Int32.toNatClampNeg v4)) - 10), .ref 650]) 1 rfl ?_
  refine x_gf (c := 623) (ne := 0) (v := .ref 685) rfl (by decide +kernel) rfl rfl ?_
  refine x_run (pc' := 102) (lo' := [some (.ref 650), none, some (.int s0), some (.int v3), some (.int v4), some (.int v5)]) (st' := [.int s0, .ref 685, .int (q.1 684 (Int32.toNatClampNeg s0)), .int ((q.1 651 (Int32.toNatClampNeg v4)) - 10), .ref 650]) 1 rfl ?_
  obtain ⟨o11, hS⟩ := hS
  refine p_la (n := 16) (v := (q.2 685 (Int32.toNatClampNeg s0))) rfl rfl o11 rfl ?_
  refine x_run (pc' := 105) (lo' := [some (.ref 650), none, some (.int s0), some (.int v3), some (.int v4), some (.int v5)]) (st' := [.int v5, .long (q.2 685 (Int32.toNatClampNeg s0)), .int (q.1 684 (Int32.toNatClampNeg s0)), .int ((q.1 651 (Int32.toNatClampNeg v4)) - 10), .ref 650]) 1 rfl ?_
  refine x_if 112 rfl rfl (fun (hc12 : v5 = 0) => ?_) (fun (hc12 : ¬ v5 = 0) => ?_)
  · rw [if_pos hc12] at hG
    replace hS := hS.1 hc12
    refine x_run (pc' := 113) (lo' := [some (.ref 650), none, some (.int s0), some (.int v3), some (.int v4), some (.int v5)]) (st' := [.ref 650, .long (q.2 685 (Int32.toNatClampNeg s0)), .int (q.1 684 (Int32.toNatClampNeg s0)), .int ((q.1 651 (Int32.toNatClampNeg v4)) - 10), .ref 650]) 1 rfl ?_
    refine x_gf (c := 622) (ne := 0) (v := .ref 684) rfl (by decide +kernel) rfl rfl ?_
    refine x_run (pc' := 119) (lo' := [some (.ref 650), none, some (.int s0), some (.int v3), some (.int v4), some (.int v5)]) (st' := [.int (s0 + 1), .ref 684, .long (q.2 685 (Int32.toNatClampNeg s0)), .int (q.1 684 (Int32.toNatClampNeg s0)), .int ((q.1 651 (Int32.toNatClampNeg v4)) - 10), .ref 650]) 3 rfl ?_
    obtain ⟨o13, hS⟩ := hS
    refine p_ia (n := 16) (v := (q.1 684 (Int32.toNatClampNeg (s0 + 1)))) rfl rfl o13 rfl ?_
    refine x_kill [4] ?_
    exact A181_120 hd hN hG hS
  · rw [if_neg hc12] at hG
    replace hS := hS.2 hc12
    refine x_run (pc' := 120) (lo' := [some (.ref 650), none, some (.int s0), some (.int v3), some (.int v4), some (.int v5)]) (st' := [.int 4, .long (q.2 685 (Int32.toNatClampNeg s0)), .int (q.1 684 (Int32.toNatClampNeg s0)), .int ((q.1 651 (Int32.toNatClampNeg v4)) - 10), .ref 650]) 2 rfl ?_
    refine x_kill [4] ?_
    exact A181_120 hd hN hG hS
def F181_63 (v2 : Int32) (v3 : Int32) (v4 : Int32) (s0 : Int32) (q : aQ) : (Int32 × Int32 × aQ) ⊕ ((aQ) ⊕ (aQ)) := (if s0 = 0 then F181_79 v3 v4 s0 (v2 - 2) q else F181_79 v3 v4 s0 (v2 - 1) q)
def S181_63 (v2 : Int32) (v3 : Int32) (v4 : Int32) (s0 : Int32) (q : aQ) : Prop := ((s0 = 0) → S181_79 v3 v4 s0 (v2 - 2) q) ∧ (¬ (s0 = 0) → S181_79 v3 v4 s0 (v2 - 1) q)
set_option maxRecDepth 100000 in
set_option maxHeartbeats 4000000 in
theorem A181_63 {l : Launch} {X : aX} {d : Nat} {r : Option Value} {h' : aH} {v2 : Int32} {v3 : Int32} {v4 : Int32} {s0 : Int32} {q : aQ} (hd : 3 ≤ d) (hN : h'.1 = nk0) (hG : gL (fun (s : Int32 × Int32 × aQ) => AW l X 181 c181 d r h' 9 [some (.ref 650), none, some (.int s.1), some (.int s.2.1), none, none] [] (hp s.2.2)) (gE (fun (e : aQ) => AW l X 181 c181 d r h' 211 [none, none, none, none, none, none] [] (hp e)) (fun o => gV r h' o)) (F181_63 v2 v3 v4 s0 q)) (hS : S181_63 v2 v3 v4 s0 q) : AW l X 181 c181 d r h' 63 [some (.ref 650), none, some (.int v2), some (.int v3), some (.int v4), none] [.int s0] (hp q) := by
  unfold F181_63 at hG
  unfold S181_63 at hS
  refine x_run (pc' := 67) (lo' := [some (.ref 650), none, some (.int v2), some (.int v3), some (.int v4), some (.int s0)]) (st' := [.int s0]) 2 rfl ?_
  refine x_if 76 rfl rfl (fun (hc8 : s0 = 0) => ?_) (fun (hc8 : ¬ s0 = 0) => ?_)
  · rw [if_pos hc8] at hG
    replace hS := hS.1 hc8
    refine x_run (pc' := 79) (lo' := [some (.ref 650), none, some (.int v2), some (.int v3), some (.int v4), some (.int s0)]) (st' := [.int (v2 - 2)]) 3 rfl ?_
    refine x_kill [2] ?_
    exact A181_79 hd hN hG hS
  · rw [if_neg hc8] at hG
    replace hS := hS.2 hc8
    refine x_run (pc' := 79) (lo' := [some (.ref 650), none, some (.int v2), some (.int v3), some (.int v4), some (.int s0)]) (st' := [.int (v2 - 1)]) 4 rfl ?_
    refine x_kill [2] ?_
    exact A181_79 hd hN hG hS
def F181_43 (v2 : Int32) (v3 : Int32) (q : aQ) : (Int32 × Int32 × aQ) ⊕ ((aQ) ⊕ (aQ)) := F181_174 v2 v3 q
def S181_43 (v2 : Int32) (v3 : Int32) (q : aQ) : Prop := S181_174 v2 v3 q
set_option maxRecDepth 100000 in
set_option maxHeartbeats 4000000 in
theorem A181_43 {l : Launch} {X : aX} {d : Nat} {r : Option Value} {h' : aH} {v2 : Int32} {v3 : Int32} {q : aQ} (hd : 3 ≤ d) (hN : h'.1 = nk0) (hG : gL (fun (s : Int32 × Int32 × aQ) => AW l X 181 c181 d r h' 9 [some (.ref 650), none, some (.int s.1), some (.int s.2.1), none, none] [] (hp s.2.2)) (gE (fun (e : aQ) => AW l X 181 c181 d r h' 211 [none, none, none, none, none, none] [] (hp e)) (fun o => gV r h' o)) (F181_43 v2 v3 q)) (hS : S181_43 v2 v3 q) : AW l X 181 c181 d r h' 43 [some (.ref 650), none, some (.int v2), some (.int v3), none, none] [] (hp q) := by
  unfold F181_43 at hG
  unfold S181_43 at hS
  refine x_run (pc' := 174) (lo' := [some (.ref 650), none, some (.int v2), some (.int v3), none, none]) (st' := []) 1 rfl ?_
  exact A181_174 hd hN hG hS
def F181_9 (v2 : Int32) (v3 : Int32) (q : aQ) : (Int32 × Int32 × aQ) ⊕ ((aQ) ⊕ (aQ)) := (if (q.1 650 43) ≤ v3 then .inr (.inl q) else (if 10 ≤ (q.1 651 (Int32.toNatClampNeg (q.1 682 (Int32.toNatClampNeg v3)))) then (if (q.1 651 (Int32.toNatClampNeg (q.1 682 (Int32.toNatClampNeg v3)))) < 16 then F181_63 v2 v3 (q.1 682 (Int32.toNatClampNeg v3)) 0 q else F181_63 v2 v3 (q.1 682 (Int32.toNatClampNeg v3)) 1 q) else F181_43 v2 v3 (F180_0 (q.1 682 (Int32.toNatClampNeg v3)) q)))
def S181_9 (v2 : Int32) (v3 : Int32) (q : aQ) : Prop := (((q.1 650 43) ≤ v3) → True) ∧ (¬ ((q.1 650 43) ≤ v3) → vp_in v3 16 ∧ (vp_in (q.1 682 (Int32.toNatClampNeg v3)) 60 ∧ (((10 ≤ (q.1 651 (Int32.toNatClampNeg (q.1 682 (Int32.toNatClampNeg v3))))) → vp_in (q.1 682 (Int32.toNatClampNeg v3)) 60 ∧ ((((q.1 651 (Int32.toNatClampNeg (q.1 682 (Int32.toNatClampNeg v3)))) < 16) → S181_63 v2 v3 (q.1 682 (Int32.toNatClampNeg v3)) 0 q) ∧ (¬ ((q.1 651 (Int32.toNatClampNeg (q.1 682 (Int32.toNatClampNeg v3)))) < 16) → S181_63 v2 v3 (q.1 682 (Int32.toNatClampNeg v3)) 1 q))) ∧ (¬ (10 ≤ (q.1 651 (Int32.toNatClampNeg (q.1 682 (Int32.toNatClampNeg v3))))) → S180_0 (q.1 682 (Int32.toNatClampNeg v3)) q ∧ (S181_43 v2 v3 (F180_0 (q.1 682 (Int32.toNatClampNeg v3)) q))))))
set_option maxRecDepth 100000 in
set_option maxHeartbeats 4000000 in
theorem A181_9 {l : Launch} {X : aX} {d : Nat} {r : Option Value} {h' : aH} {v2 : Int32} {v3 : Int32} {q : aQ} (hd : 3 ≤ d) (hN : h'.1 = nk0) (hG : gL (fun (s : Int32 × Int32 × aQ) => AW l X 181 c181 d r h' 9 [some (.ref 650), none, some (.int s.1), some (.int s.2.1), none, none] [] (hp s.2.2)) (gE (fun (e : aQ) => AW l X 181 c181 d r h' 211 [none, none, none, none, none, none] [] (hp e)) (fun o => gV r h' o)) (F181_9 v2 v3 q)) (hS : S181_9 v2 v3 q) : AW l X 181 c181 d r h' 9 [some (.ref 650), none, some (.int v2), some (.int v3), none, none] [] (hp q) := by
  unfold F181_9 at hG
  unfold S181_9 at hS
  refine x_run (pc' := 11) (lo' := [some (.ref 650), none, some (.int v2), some (.int v3), none, none]) (st' := [.ref 650, .int v3]) 2 rfl ?_
  refine x_gf (c := 619) (ne := 0) (v := .int (q.1 650 43)) rfl (by decide +kernel) rfl rfl ?_
  refine x_ic 211 rfl rfl (fun (hc2 : (q.1 650 43) ≤ v3) => ?_) (fun (hc2 : ¬ (q.1 650 43) ≤ v3) => ?_)
  · rw [if_pos hc2] at hG
    replace hS := hS.1 hc2
    refine x_kill [0, 2, 3] ?_
    exact hG
  · rw [if_neg hc2] at hG
    replace hS := hS.2 hc2
    refine x_run (pc' := 18) (lo' := [some (.ref 650), none, some (.int v2), some (.int v3), none, none]) (st' := [.ref 650]) 1 rfl ?_
    refine x_gf (c := 620) (ne := 0) (v := .ref 682) rfl (by decide +kernel) rfl rfl ?_
    refine x_run (pc' := 22) (lo' := [some (.ref 650), none, some (.int v2), some (.int v3), none, none]) (st' := [.int v3, .ref 682]) 1 rfl ?_
    obtain ⟨o3, hS⟩ := hS
    refine p_ia (n := 16) (v := (q.1 682 (Int32.toNatClampNeg v3))) rfl rfl o3 rfl ?_
    refine x_run (pc' := 26) (lo' := [some (.ref 650), none, some (.int v2), some (.int v3), some (.int (q.1 682 (Int32.toNatClampNeg v3))), none]) (st' := [.ref 650]) 2 rfl ?_
    refine x_gf (c := 577) (ne := 0) (v := .ref 651) rfl (by decide +kernel) rfl rfl ?_
    refine x_run (pc' := 31) (lo' := [some (.ref 650), none, some (.int v2), some (.int v3), some (.int (q.1 682 (Int32.toNatClampNeg v3))), none]) (st' := [.int (q.1 682 (Int32.toNatClampNeg v3)), .ref 651]) 1 rfl ?_
    obtain ⟨o4, hS⟩ := hS
    refine p_ia (n := 60) (v := (q.1 651 (Int32.toNatClampNeg (q.1 682 (Int32.toNatClampNeg v3))))) rfl rfl o4 rfl ?_
    refine x_run (pc' := 34) (lo' := [some (.ref 650), none, some (.int v2), some (.int v3), some (.int (q.1 682 (Int32.toNatClampNeg v3))), none]) (st' := [.int 10, .int (q.1 651 (Int32.toNatClampNeg (q.1 682 (Int32.toNatClampNeg v3))))]) 1 rfl ?_
    refine x_ic 46 rfl rfl (fun (hc5 : 10 ≤ (q.1 651 (Int32.toNatClampNeg (q.1 682 (Int32.toNatClampNeg v3))))) => ?_) (fun (hc5 : ¬ 10 ≤ (q.1 651 (Int32.toNatClampNeg (q.1 682 (Int32.toNatClampNeg v3))))) => ?_)
    · rw [if_pos hc5] at hG
      replace hS := hS.1 hc5
      refine x_run (pc' := 47) (lo' := [some (.ref 650), none, some (.int v2), some (.int v3), some (.int (q.1 682 (Int32.toNatClampNeg v3))), none]) (st' := [.ref 650]) 1 rfl ?_
      refine x_gf (c := 577) (ne := 0) (v := .ref 651) rfl (by decide +kernel) rfl rfl ?_
      refine x_run (pc' := 52) (lo' := [some (.ref 650), none, some (.int v2), some (.int v3), some (.int (q.1 682 (Int32.toNatClampNeg v3))), none]) (st' := [.int (q.1 682 (Int32.toNatClampNeg v3)), .ref 651]) 1 rfl ?_
      obtain ⟨o6, hS⟩ := hS
      refine p_ia (n := 60) (v := (q.1 651 (Int32.toNatClampNeg (q.1 682 (Int32.toNatClampNeg v3))))) rfl rfl o6 rfl ?_
      refine x_run (pc' := 55) (lo' := [some (.ref 650), none, some (.int v2), some (.int v3), some (.int (q.1 682 (Int32.toNatClampNeg v3))), none]) (st' := [.int 16, .int (q.1 651 (Int32.toNatClampNeg (q.1 682 (Int32.toNatClampNeg v3))))]) 1 rfl ?_
      refine x_ic 62 rfl rfl (fun (hc7 : (q.1 651 (Int32.toNatClampNeg (q.1 682 (Int32.toNatClampNeg v3)))) < 16) => ?_) (fun (hc7 : ¬ (q.1 651 (Int32.toNatClampNeg (q.1 682 (Int32.toNatClampNeg v3)))) < 16) => ?_)
      · rw [if_pos hc7] at hG
        replace hS := hS.1 hc7
        refine x_run (pc' := 63) (lo' := [some (.ref 650), none, some (.int v2), some (.int v3), some (.int (q.1 682 (Int32.toNatClampNeg v3))), none]) (st' := [.int 0]) 1 rfl ?_
        exact A181_63 hd hN hG hS
      · rw [if_neg hc7] at hG
        replace hS := hS.2 hc7
        refine x_run (pc' := 63) (lo' := [some (.ref 650), none, some (.int v2), some (.int v3), some (.int (q.1 682 (Int32.toNatClampNeg v3))), none]) (st' := [.int 1]) 2 rfl ?_
        exact A181_63 hd hN hG hS
    · rw [if_neg hc5] at hG
      replace hS := hS.2 hc5
      refine x_run (pc' := 40) (lo' := [some (.ref 650), none, some (.int v2), some (.int v3), some (.int (q.1 682 (Int32.toNatClampNeg v3))), none]) (st' := [.int (q.1 682 (Int32.toNatClampNeg v3)), .ref 650]) 2 rfl ?_
      obtain ⟨o23, hS⟩ := hS
      refine x_cv (j := 180) (ne := 0) (vs := [.int (q.1 682 (Int32.toNatClampNeg v3))]) (rest := []) rfl (by decide +kernel) (by decide +kernel) (by decide) (Eq.trans rfl (show 1 = _ from by decide +kernel)) rfl (by decide +kernel) rfl (Nat.le_of_ble_eq_true rfl) (by omega) (T180 (Nat.le_refl 2) o23) (hp_m hN) ?_
      show AW l X 181 c181 d r h' 43 [some (.ref 650), none, some (.int v2), some (.int v3), some (.int (q.1 682 (Int32.toNatClampNeg v3))), none] [] (hp (F180_0 (q.1 682 (Int32.toNatClampNeg v3)) q))
      refine x_kill [4] ?_
      exact A181_43 hd hN hG hS
def F181_211 (q : aQ) : aQ := q
def S181_211 (q : aQ) : Prop := True
set_option maxRecDepth 100000 in
set_option maxHeartbeats 4000000 in
theorem A181_211 {l : Launch} {X : aX} {d : Nat} {r : Option Value} {h' : aH} {q : aQ} (hd : 3 ≤ d) (hN : h'.1 = nk0) (hG : gV r h' (F181_211 q)) (hS : S181_211 q) : AW l X 181 c181 d r h' 211 [none, none, none, none, none, none] [] (hp q) := by
  unfold F181_211 at hG
  unfold S181_211 at hS
  obtain ⟨rfl, rfl⟩ := hG
  exact x_ret rfl (by decide +kernel)
def F181_5 (q : aQ) : aQ := (match a_lp (fun (s : Int32 × Int32 × aQ) => F181_9 s.1 s.2.1 s.2.2) 200 (0, 0, q) (.inl q) with
    | .inl e24 => F181_211 e24
    | .inr o25 => o25)
def S181_5 (q : aQ) : Prop := a_sf (fun (s : Int32 × Int32 × aQ) => F181_9 s.1 s.2.1 s.2.2) (fun (s : Int32 × Int32 × aQ) => S181_9 s.1 s.2.1 s.2.2) 200 (0, 0, q) ∧ (match a_lp (fun (s : Int32 × Int32 × aQ) => F181_9 s.1 s.2.1 s.2.2) 200 (0, 0, q) (.inl q) with
    | .inl e24 => S181_211 e24
    | .inr _ => True)
set_option maxRecDepth 100000 in
set_option maxHeartbeats 4000000 in
theorem A181_5 {l : Launch} {X : aX} {d : Nat} {r : Option Value} {h' : aH} {q : aQ} (hd : 3 ≤ d) (hN : h'.1 = nk0) (hG : gV r h' (F181_5 q)) (hS : S181_5 q) : AW l X 181 c181 d r h' 5 [some (.ref 650), none, none, none, none, none] [] (hp q) := by
  unfold F181_5 at hG
  unfold S181_5 at hS
  refine x_run (pc' := 9) (lo' := [some (.ref 650), none, some (.int 0), some (.int 0), none, none]) (st' := []) 4 rfl ?_
  obtain ⟨ho, hS⟩ := hS
  refine x_loop (fun (s : Int32 × Int32 × aQ) => F181_9 s.1 s.2.1 s.2.2) (fun (s : Int32 × Int32 × aQ) => S181_9 s.1 s.2.1 s.2.2) (fun (s : Int32 × Int32 × aQ) => AW l X 181 c181 d r h' 9 [some (.ref 650), none, some (.int s.1), some (.int s.2.1), none, none] [] (hp s.2.2)) (gE (fun (e : aQ) => AW l X 181 c181 d r h' 211 [none, none, none, none, none, none] [] (hp e)) (fun o => gV r h' o)) (fun s hs hg => A181_9 hd hN hg hs) 200 (0, 0, q) ho (fun ex he => ?_)
  rw [a_lp_eq he] at hG hS
  cases ex with
  | inl e24 =>
    dsimp only at hG hS
    exact A181_211 hd hN hG hS
  | inr o25 => exact hG
def F181_0 (v1 : Int32) (q : aQ) : aQ := F181_5 (F179_0 v1 q)
def S181_0 (v1 : Int32) (q : aQ) : Prop := S179_0 v1 q ∧ (S181_5 (F179_0 v1 q))
set_option maxRecDepth 100000 in
set_option maxHeartbeats 4000000 in
theorem A181_0 {l : Launch} {X : aX} {d : Nat} {r : Option Value} {h' : aH} {v1 : Int32} {q : aQ} (hd : 3 ≤ d) (hN : h'.1 = nk0) (hG : gV r h' (F181_0 v1 q)) (hS : S181_0 v1 q) : AW l X 181 c181 d r h' 0 [some (.ref 650), some (.int v1), none, none, none, none] [] (hp q) := by
  unfold F181_0 at hG
  unfold S181_0 at hS
  refine x_run (pc' := 2) (lo' := [some (.ref 650), some (.int v1), none, none, none, none]) (st' := [.int v1, .ref 650]) 2 rfl ?_
  obtain ⟨o1, hS⟩ := hS
  refine x_cv (j := 179) (ne := 0) (vs := [.int v1]) (rest := []) rfl (by decide +kernel) (by decide +kernel) (by decide) (Eq.trans rfl (show 1 = _ from by decide +kernel)) rfl (by decide +kernel) rfl (Nat.le_of_ble_eq_true rfl) (by omega) (T179 (Nat.le_refl 1) o1) (hp_m hN) ?_
  show AW l X 181 c181 d r h' 5 [some (.ref 650), some (.int v1), none, none, none, none] [] (hp (F179_0 v1 q))
  refine x_kill [1] ?_
  exact A181_5 hd hN hG hS
theorem T181 {l : Launch} {X : aX} {d : Nat} {v1 : Int32} {q : aQ} (hd : 3 ≤ d) (hS : S181_0 v1 q) : Call l X d 181 [.ref 650, .int v1] (hp q) none (hp (F181_0 v1 q)) := Call.of ok181 (by decide) (Nat.le_of_ble_eq_true rfl) ⟨Nat.le_refl _, Nat.le_refl _⟩ (A181_0 hd rfl ⟨rfl, rfl⟩ hS)
/-- TypeForecastModel.done(I)I -/
def F182_20 (v1 : Int32) (q : aQ) : Int32 × aQ := (if (q.1 655 (Int32.toNatClampNeg v1)) = 2 then ((F146_0 (F148_0 v1 q) q), q) else ((F148_0 v1 q), q))
def S182_20 (v1 : Int32) (q : aQ) : Prop := S148_0 v1 q ∧ (vp_in v1 24 ∧ ((((q.1 655 (Int32.toNatClampNeg v1)) = 2) → S146_0 (F148_0 v1 q) q ∧ (True)) ∧ (¬ ((q.1 655 (Int32.toNatClampNeg v1)) = 2) → True)))
set_option maxRecDepth 100000 in
set_option maxHeartbeats 4000000 in
theorem A182_20 {l : Launch} {X : aX} {d : Nat} {r : Option Value} {h' : aH} {v1 : Int32} {q : aQ} (hd : 4 ≤ d) (hN : h'.1 = nk0) (hG : gI r h' (F182_20 v1 q)) (hS : S182_20 v1 q) : AW l X 182 c182 d r h' 20 [some (.ref 650), some (.int v1), none] [] (hp q) := by
  unfold F182_20 at hG
  unfold S182_20 at hS
  refine x_run (pc' := 22) (lo' := [some (.ref 650), some (.int v1), none]) (st' := [.int v1, .ref 650]) 2 rfl ?_
  obtain ⟨o3, hS⟩ := hS
  refine x_cv (j := 148) (ne := 0) (vs := [.int v1]) (rest := []) rfl (by decide +kernel) (by decide +kernel) (by decide) (Eq.trans rfl (show 1 = _ from by decide +kernel)) rfl (by decide +kernel) rfl (Nat.le_of_ble_eq_true rfl) (by omega) (T148 (Nat.le_refl 1) o3) (hp_m hN) ?_
  show AW l X 182 c182 d r h' 25 [some (.ref 650), some (.int v1), none] [.int (F148_0 v1 q)] (hp q)
  refine x_run (pc' := 27) (lo' := [some (.ref 650), some (.int v1), some (.int (F148_0 v1 q))]) (st' := [.ref 650]) 2 rfl ?_
  refine x_gf (c := 582) (ne := 0) (v := .ref 655) rfl (by decide +kernel) rfl rfl ?_
  refine x_run (pc' := 31) (lo' := [some (.ref 650), some (.int v1), some (.int (F148_0 v1 q))]) (st' := [.int v1, .ref 655]) 1 rfl ?_
  obtain ⟨o4, hS⟩ := hS
  refine p_ia (n := 24) (v := (q.1 655 (Int32.toNatClampNeg v1))) rfl rfl o4 rfl ?_
  refine x_run (pc' := 33) (lo' := [some (.ref 650), some (.int v1), some (.int (F148_0 v1 q))]) (st' := [.int 2, .int (q.1 655 (Int32.toNatClampNeg v1))]) 1 rfl ?_
  refine x_ic 44 rfl rfl (fun (hc5 : ¬ (q.1 655 (Int32.toNatClampNeg v1)) = 2) => ?_) (fun (hc5 : (q.1 655 (Int32.toNatClampNeg v1)) = 2) => ?_)
  · rw [if_neg hc5] at hG
    replace hS := hS.2 hc5
    refine x_run (pc' := 45) (lo' := [some (.ref 650), some (.int v1), some (.int (F148_0 v1 q))]) (st' := [.int (F148_0 v1 q)]) 1 rfl ?_
    obtain ⟨rfl, rfl⟩ := hG
    exact x_iret rfl (by decide +kernel)
  · rw [if_pos hc5] at hG
    replace hS := hS.1 hc5
    refine x_run (pc' := 38) (lo' := [some (.ref 650), some (.int v1), some (.int (F148_0 v1 q))]) (st' := [.int (F148_0 v1 q), .ref 650]) 2 rfl ?_
    obtain ⟨o6, hS⟩ := hS
    refine x_cv (j := 146) (ne := 0) (vs := [.int (F148_0 v1 q)]) (rest := []) rfl (by decide +kernel) (by decide +kernel) (by decide) (Eq.trans rfl (show 1 = _ from by decide +kernel)) rfl (by decide +kernel) rfl (Nat.le_of_ble_eq_true rfl) (by omega) (T146 (Nat.le_refl 1) o6) (hp_m hN) ?_
    show AW l X 182 c182 d r h' 41 [some (.ref 650), some (.int v1), some (.int (F148_0 v1 q))] [.int (F146_0 (F148_0 v1 q) q)] (hp q)
    refine x_run (pc' := 45) (lo' := [some (.ref 650), some (.int v1), some (.int (F148_0 v1 q))]) (st' := [.int (F146_0 (F148_0 v1 q) q)]) 1 rfl ?_
    obtain ⟨rfl, rfl⟩ := hG
    exact x_iret rfl (by decide +kernel)
def F182_96 (v1 : Int32) (q : aQ) : Int32 × aQ := (if 0 ≤ (q.1 650 37) then (if (q.1 650 37) = 0 then (if (F149_0 v1 (Int64.toInt32 (q.2 650 38)) q) < 0 then (((-1) - (Int64.toInt32 (q.2 650 38))), q) else ((F147_0 (F149_0 v1 (Int64.toInt32 (q.2 650 38)) q) 1 q), q)) else (if (q.1 655 (Int32.toNatClampNeg v1)) = 0 then ((F146_0 v1 (a_wl (a_w q 680 (Int32.toNatClampNeg (q.1 656 (Int32.toNatClampNeg v1))) (q.1 650 37)) 681 (Int32.toNatClampNeg (q.1 656 (Int32.toNatClampNeg v1))) (q.2 650 38))), (a_wl (a_w q 680 (Int32.toNatClampNeg (q.1 656 (Int32.toNatClampNeg v1))) (q.1 650 37)) 681 (Int32.toNatClampNeg (q.1 656 (Int32.toNatClampNeg v1))) (q.2 650 38))) else (if (F151_0 (q.1 650 37) (q.2 650 38) q) = 0 then (if (q.1 655 (Int32.toNatClampNeg v1)) = 5 then ((F146_0 v1 q), q) else ((F147_0 v1 1 q), q)) else ((F147_0 v1 0 q), q)))) else ((-10), q))
def S182_96 (v1 : Int32) (q : aQ) : Prop := ((0 ≤ (q.1 650 37)) → (((q.1 650 37) = 0) → S149_0 v1 (Int64.toInt32 (q.2 650 38)) q ∧ ((((F149_0 v1 (Int64.toInt32 (q.2 650 38)) q) < 0) → True) ∧ (¬ ((F149_0 v1 (Int64.toInt32 (q.2 650 38)) q) < 0) → S147_0 (F149_0 v1 (Int64.toInt32 (q.2 650 38)) q) 1 q ∧ (True)))) ∧ (¬ ((q.1 650 37) = 0) → vp_in v1 24 ∧ ((((q.1 655 (Int32.toNatClampNeg v1)) = 0) → vp_in v1 24 ∧ (vp_in (q.1 656 (Int32.toNatClampNeg v1)) 5 ∧ (vp_in v1 24 ∧ (vp_in (q.1 656 (Int32.toNatClampNeg v1)) 5 ∧ (S146_0 v1 (a_wl (a_w q 680 (Int32.toNatClampNeg (q.1 656 (Int32.toNatClampNeg v1))) (q.1 650 37)) 681 (Int32.toNatClampNeg (q.1 656 (Int32.toNatClampNeg v1))) (q.2 650 38)) ∧ (True)))))) ∧ (¬ ((q.1 655 (Int32.toNatClampNeg v1)) = 0) → S151_0 (q.1 650 37) (q.2 650 38) q ∧ ((((F151_0 (q.1 650 37) (q.2 650 38) q) = 0) → vp_in v1 24 ∧ ((((q.1 655 (Int32.toNatClampNeg v1)) = 5) → S146_0 v1 q ∧ (True)) ∧ (¬ ((q.1 655 (Int32.toNatClampNeg v1)) = 5) → S147_0 v1 1 q ∧ (True)))) ∧ (¬ ((F151_0 (q.1 650 37) (q.2 650 38) q) = 0) → S147_0 v1 0 q ∧ (True))))))) ∧ (¬ (0 ≤ (q.1 650 37)) → True)
set_option maxRecDepth 100000 in
set_option maxHeartbeats 4000000 in
theorem A182_96 {l : Launch} {X : aX} {d : Nat} {r : Option Value} {h' : aH} {v1 : Int32} {q : aQ} (hd : 4 ≤ d) (hN : h'.1 = nk0) (hG : gI r h' (F182_96 v1 q)) (hS : S182_96 v1 q) : AW l X 182 c182 d r h' 96 [some (.ref 650), some (.int v1), none] [] (hp q) := by
  unfold F182_96 at hG
  unfold S182_96 at hS
  refine x_run (pc' := 97) (lo' := [some (.ref 650), some (.int v1), none]) (st' := [.ref 650]) 1 rfl ?_
  refine x_gf (c := 613) (ne := 0) (v := .int (q.1 650 37)) rfl (by decide +kernel) rfl rfl ?_
  refine x_if 106 rfl rfl (fun (hc15 : 0 ≤ (q.1 650 37)) => ?_) (fun (hc15 : ¬ 0 ≤ (q.1 650 37)) => ?_)
  · rw [if_pos hc15] at hG
    replace hS := hS.1 hc15
    refine x_run (pc' := 107) (lo' := [some (.ref 650), some (.int v1), none]) (st' := [.ref 650]) 1 rfl ?_
    refine x_gf (c := 613) (ne := 0) (v := .int (q.1 650 37)) rfl (by decide +kernel) rfl rfl ?_
    refine x_if 145 rfl rfl (fun (hc16 : ¬ (q.1 650 37) = 0) => ?_) (fun (hc16 : (q.1 650 37) = 0) => ?_)
    · rw [if_neg hc16] at hG
      replace hS := hS.2 hc16
      refine x_run (pc' := 146) (lo' := [some (.ref 650), some (.int v1), none]) (st' := [.ref 650]) 1 rfl ?_
      refine x_gf (c := 582) (ne := 0) (v := .ref 655) rfl (by decide +kernel) rfl rfl ?_
      refine x_run (pc' := 150) (lo' := [some (.ref 650), some (.int v1), none]) (st' := [.int v1, .ref 655]) 1 rfl ?_
      obtain ⟨o17, hS⟩ := hS
      refine p_ia (n := 24) (v := (q.1 655 (Int32.toNatClampNeg v1))) rfl rfl o17 rfl ?_
      refine x_if 190 rfl rfl (fun (hc18 : ¬ (q.1 655 (Int32.toNatClampNeg v1)) = 0) => ?_) (fun (hc18 : (q.1 655 (Int32.toNatClampNeg v1)) = 0) => ?_)
      · rw [if_neg hc18] at hG
        replace hS := hS.2 hc18
        refine x_run (pc' := 191) (lo' := [some (.ref 650), some (.int v1), none]) (st' := [.ref 650]) 1 rfl ?_
        refine x_gf (c := 613) (ne := 0) (v := .int (q.1 650 37)) rfl (by decide +kernel) rfl rfl ?_
        refine x_run (pc' := 195) (lo' := [some (.ref 650), some (.int v1), none]) (st' := [.ref 650, .int (q.1 650 37)]) 1 rfl ?_
        refine x_gf (c := 614) (ne := 0) (v := .long (q.2 650 38)) rfl (by decide +kernel) rfl rfl ?_
        obtain ⟨o19, hS⟩ := hS
        refine x_cs (j := 151) (ne := 0) (vs := [.int (q.1 650 37), .long (q.2 650 38)]) (rest := []) rfl (by decide +kernel) (by decide +kernel) (by decide) (Eq.trans rfl (show 2 = _ from by decide +kernel)) rfl (Nat.le_of_ble_eq_true rfl) (by omega) (T151 (Nat.le_refl 1) o19) (hp_m hN) ?_
        show AW l X 182 c182 d r h' 201 [some (.ref 650), some (.int v1), none] [.int (F151_0 (q.1 650 37) (q.2 650 38) q)] (hp q)
        refine x_if 213 rfl rfl (fun (hc20 : (F151_0 (q.1 650 37) (q.2 650 38) q) = 0) => ?_) (fun (hc20 : ¬ (F151_0 (q.1 650 37) (q.2 650 38) q) = 0) => ?_)
        · rw [if_pos hc20] at hG
          replace hS := hS.1 hc20
          refine x_run (pc' := 214) (lo' := [some (.ref 650), some (.int v1), none]) (st' := [.ref 650]) 1 rfl ?_
          refine x_gf (c := 582) (ne := 0) (v := .ref 655) rfl (by decide +kernel) rfl rfl ?_
          refine x_run (pc' := 218) (lo' := [some (.ref 650), some (.int v1), none]) (st' := [.int v1, .ref 655]) 1 rfl ?_
          obtain ⟨o21, hS⟩ := hS
          refine p_ia (n := 24) (v := (q.1 655 (Int32.toNatClampNeg v1))) rfl rfl o21 rfl ?_
          refine x_run (pc' := 220) (lo' := [some (.ref 650), some (.int v1), none]) (st' := [.int 5, .int (q.1 655 (Int32.toNatClampNeg v1))]) 1 rfl ?_
          refine x_ic 231 rfl rfl (fun (hc22 : ¬ (q.1 655 (Int32.toNatClampNeg v1)) = 5) => ?_) (fun (hc22 : (q.1 655 (Int32.toNatClampNeg v1)) = 5) => ?_)
          · rw [if_neg hc22] at hG
            replace hS := hS.2 hc22
            refine x_run (pc' := 234) (lo' := [some (.ref 650), some (.int v1), none]) (st' := [.int 1, .int v1, .ref 650]) 3 rfl ?_
            obtain ⟨o23, hS⟩ := hS
            refine x_cv (j := 147) (ne := 0) (vs := [.int v1, .int 1]) (rest := []) rfl (by decide +kernel) (by decide +kernel) (by decide) (Eq.trans rfl (show 2 = _ from by decide +kernel)) rfl (by decide +kernel) rfl (Nat.le_of_ble_eq_true rfl) (by omega) (T147 (Nat.le_refl 2) o23) (hp_m hN) ?_
            show AW l X 182 c182 d r h' 237 [some (.ref 650), some (.int v1), none] [.int (F147_0 v1 1 q)] (hp q)
            obtain ⟨rfl, rfl⟩ := hG
            exact x_iret rfl (by decide +kernel)
          · rw [if_pos hc22] at hG
            replace hS := hS.1 hc22
            refine x_run (pc' := 225) (lo' := [some (.ref 650), some (.int v1), none]) (st' := [.int v1, .ref 650]) 2 rfl ?_
            obtain ⟨o24, hS⟩ := hS
            refine x_cv (j := 146) (ne := 0) (vs := [.int v1]) (rest := []) rfl (by decide +kernel) (by decide +kernel) (by decide) (Eq.trans rfl (show 1 = _ from by decide +kernel)) rfl (by decide +kernel) rfl (Nat.le_of_ble_eq_true rfl) (by omega) (T146 (Nat.le_refl 1) o24) (hp_m hN) ?_
            show AW l X 182 c182 d r h' 228 [some (.ref 650), some (.int v1), none] [.int (F146_0 v1 q)] (hp q)
            refine x_run (pc' := 237) (lo' := [some (.ref 650), some (.int v1), none]) (st' := [.int (F146_0 v1 q)]) 1 rfl ?_
            obtain ⟨rfl, rfl⟩ := hG
            exact x_iret rfl (by decide +kernel)
        · rw [if_neg hc20] at hG
          replace hS := hS.2 hc20
          refine x_run (pc' := 207) (lo' := [some (.ref 650), some (.int v1), none]) (st' := [.int 0, .int v1, .ref 650]) 3 rfl ?_
          obtain ⟨o25, hS⟩ := hS
          refine x_cv (j := 147) (ne := 0) (vs := [.int v1, .int 0]) (rest := []) rfl (by decide +kernel) (by decide +kernel) (by decide) (Eq.trans rfl (show 2 = _ from by decide +kernel)) rfl (by decide +kernel) rfl (Nat.le_of_ble_eq_true rfl) (by omega) (T147 (Nat.le_refl 2) o25) (hp_m hN) ?_
          show AW l X 182 c182 d r h' 210 [some (.ref 650), some (.int v1), none] [.int (F147_0 v1 0 q)] (hp q)
          refine x_run (pc' := 237) (lo' := [some (.ref 650), some (.int v1), none]) (st' := [.int (F147_0 v1 0 q)]) 1 rfl ?_
          obtain ⟨rfl, rfl⟩ := hG
          exact x_iret rfl (by decide +kernel)
      · rw [if_pos hc18] at hG
        replace hS := hS.1 hc18
        refine x_run (pc' := 155) (lo' := [some (.ref 650), some (.int v1), none]) (st' := [.ref 650]) 1 rfl ?_
        refine x_gf (c := 616) (ne := 0) (v := .ref 680) rfl (by decide +kernel) rfl rfl ?_
        refine x_run (pc' := 159) (lo' := [some (.ref 650), some (.int v1), none]) (st' := [.ref 650, .ref 680]) 1 rfl ?_
        refine x_gf (c := 583) (ne := 0) (v := .ref 656) rfl (by decide +kernel) rfl rfl ?_
        refine x_run (pc' := 163) (lo' := [some (.ref 650), some (.int v1), none]) (st' := [.int v1, .ref 656, .ref 680]) 1 rfl ?_
        obtain ⟨o26, hS⟩ := hS
        refine p_ia (n := 24) (v := (q.1 656 (Int32.toNatClampNeg v1))) rfl rfl o26 rfl ?_
        refine x_run (pc' := 165) (lo' := [some (.ref 650), some (.int v1), none]) (st' := [.ref 650, .int (q.1 656 (Int32.toNatClampNeg v1)), .ref 680]) 1 rfl ?_
        refine x_gf (c := 613) (ne := 0) (v := .int (q.1 650 37)) rfl (by decide +kernel) rfl rfl ?_
        obtain ⟨o27, hS⟩ := hS
        refine p_is (n := 5) rfl rfl o27 ?_
        refine x_run (pc' := 170) (lo' := [some (.ref 650), some (.int v1), none]) (st' := [.ref 650]) 1 rfl ?_
        refine x_gf (c := 617) (ne := 0) (v := .ref 681) rfl (by decide +kernel) rfl rfl ?_
        refine x_run (pc' := 174) (lo' := [some (.ref 650), some (.int v1), none]) (st' := [.ref 650, .ref 681]) 1 rfl ?_
        refine x_gf (c := 583) (ne := 0) (v := .ref 656) rfl (by decide +kernel) rfl rfl ?_
        refine x_run (pc' := 178) (lo' := [some (.ref 650), some (.int v1), none]) (st' := [.int v1, .ref 656, .ref 681]) 1 rfl ?_
        obtain ⟨o28, hS⟩ := hS
        refine p_ia (n := 24) (v := (q.1 656 (Int32.toNatClampNeg v1))) rfl rfl o28 rfl ?_
        refine x_run (pc' := 180) (lo' := [some (.ref 650), some (.int v1), none]) (st' := [.ref 650, .int (q.1 656 (Int32.toNatClampNeg v1)), .ref 681]) 1 rfl ?_
        refine x_gf (c := 614) (ne := 0) (v := .long (q.2 650 38)) rfl (by decide +kernel) rfl rfl ?_
        obtain ⟨o29, hS⟩ := hS
        refine p_lt (n := 5) rfl rfl o29 ?_
        refine x_run (pc' := 186) (lo' := [some (.ref 650), some (.int v1), none]) (st' := [.int v1, .ref 650]) 2 rfl ?_
        obtain ⟨o30, hS⟩ := hS
        refine x_cv (j := 146) (ne := 0) (vs := [.int v1]) (rest := []) rfl (by decide +kernel) (by decide +kernel) (by decide) (Eq.trans rfl (show 1 = _ from by decide +kernel)) rfl (by decide +kernel) rfl (Nat.le_of_ble_eq_true rfl) (by omega) (T146 (Nat.le_refl 1) o30) (hp_m hN) ?_
        show AW l X 182 c182 d r h' 189 [some (.ref 650), some (.int v1), none] [.int (F146_0 v1 (a_wl (a_w q 680 (Int32.toNatClampNeg (q.1 656 (Int32.toNatClampNeg v1))) (q.1 650 37)) 681 (Int32.toNatClampNeg (q.1 656 (Int32.toNatClampNeg v1))) (q.2 650 38)))] (hp (a_wl (a_w q 680 (Int32.toNatClampNeg (q.1 656 (Int32.toNatClampNeg v1))) (q.1 650 37)) 681 (Int32.toNatClampNeg (q.1 656 (Int32.toNatClampNeg v1))) (q.2 650 38)))
        obtain ⟨rfl, rfl⟩ := hG
        exact x_iret rfl (by decide +kernel)
    · rw [if_pos hc16] at hG
      replace hS := hS.1 hc16
      refine x_run (pc' := 116) (lo' := [some (.ref 650), some (.int v1), none]) (st' := [.ref 650, .int v1, .ref 650]) 3 rfl ?_
      refine x_gf (c := 614) (ne := 0) (v := .long (q.2 650 38)) rfl (by decide +kernel) rfl rfl ?_
      refine x_run (pc' := 120) (lo' := [some (.ref 650), some (.int v1), none]) (st' := [.int (Int64.toInt32 (q.2 650 38)), .int v1, .ref 650]) 1 rfl ?_
      obtain ⟨o31, hS⟩ := hS
      refine x_cv (j := 149) (ne := 0) (vs := [.int v1, .int (Int64.toInt32 (q.2 650 38))]) (rest := []) rfl (by decide +kernel) (by decide +kernel) (by decide) (Eq.trans rfl (show 2 = _ from by decide +kernel)) rfl (by decide +kernel) rfl (Nat.le_of_ble_eq_true rfl) (by omega) (T149 (Nat.le_refl 1) o31) (hp_m hN) ?_
      show AW l X 182 c182 d r h' 123 [some (.ref 650), some (.int v1), none] [.int (F149_0 v1 (Int64.toInt32 (q.2 650 38)) q)] (hp q)
      refine x_run (pc' := 125) (lo' := [some (.ref 650), some (.int v1), some (.int (F149_0 v1 (Int64.toInt32 (q.2 650 38)) q))]) (st' := [.int (F149_0 v1 (Int64.toInt32 (q.2 650 38)) q)]) 2 rfl ?_
      refine x_if 137 rfl rfl (fun (hc32 : (F149_0 v1 (Int64.toInt32 (q.2 650 38)) q) < 0) => ?_) (fun (hc32 : ¬ (F149_0 v1 (Int64.toInt32 (q.2 650 38)) q) < 0) => ?_)
      · rw [if_pos hc32] at hG
        replace hS := hS.1 hc32
        refine x_run (pc' := 139) (lo' := [some (.ref 650), some (.int v1), some (.int (F149_0 v1 (Int64.toInt32 (q.2 650 38)) q))]) (st' := [.ref 650, .int (-1)]) 2 rfl ?_
        refine x_gf (c := 614) (ne := 0) (v := .long (q.2 650 38)) rfl (by decide +kernel) rfl rfl ?_
        refine x_run (pc' := 144) (lo' := [some (.ref 650), some (.int v1), some (.int (F149_0 v1 (Int64.toInt32 (q.2 650 38)) q))]) (st' := [.int ((-1) - (Int64.toInt32 (q.2 650 38)))]) 2 rfl ?_
        obtain ⟨rfl, rfl⟩ := hG
        exact x_iret rfl (by decide +kernel)
      · rw [if_neg hc32] at hG
        replace hS := hS.2 hc32
        refine x_run (pc' := 131) (lo' := [some (.ref 650), some (.int v1), some (.int (F149_0 v1 (Int64.toInt32 (q.2 650 38)) q))]) (st' := [.int 1, .int (F149_0 v1 (Int64.toInt32 (q.2 650 38)) q), .ref 650]) 3 rfl ?_
        obtain ⟨o33, hS⟩ := hS
        refine x_cv (j := 147) (ne := 0) (vs := [.int (F149_0 v1 (Int64.toInt32 (q.2 650 38)) q), .int 1]) (rest := []) rfl (by decide +kernel) (by decide +kernel) (by decide) (Eq.trans rfl (show 2 = _ from by decide +kernel)) rfl (by decide +kernel) rfl (Nat.le_of_ble_eq_true rfl) (by omega) (T147 (Nat.le_refl 2) o33) (hp_m hN) ?_
        show AW l X 182 c182 d r h' 134 [some (.ref 650), some (.int v1), some (.int (F149_0 v1 (Int64.toInt32 (q.2 650 38)) q))] [.int (F147_0 (F149_0 v1 (Int64.toInt32 (q.2 650 38)) q) 1 q)] (hp q)
        refine x_run (pc' := 144) (lo' := [some (.ref 650), some (.int v1), some (.int (F149_0 v1 (Int64.toInt32 (q.2 650 38)) q))]) (st' := [.int (F147_0 (F149_0 v1 (Int64.toInt32 (q.2 650 38)) q) 1 q)]) 1 rfl ?_
        obtain ⟨rfl, rfl⟩ := hG
        exact x_iret rfl (by decide +kernel)
  · rw [if_neg hc15] at hG
    replace hS := hS.2 hc15
    refine x_run (pc' := 105) (lo' := [some (.ref 650), some (.int v1), none]) (st' := [.int (-10)]) 1 rfl ?_
    obtain ⟨rfl, rfl⟩ := hG
    exact x_iret rfl (by decide +kernel)
def F182_76 (v1 : Int32) (q : aQ) : Int32 × aQ := (if (q.1 655 (Int32.toNatClampNeg v1)) = 1 then F182_96 v1 q else F182_96 v1 (F181_0 (q.1 657 (Int32.toNatClampNeg v1)) q))
def S182_76 (v1 : Int32) (q : aQ) : Prop := vp_in v1 24 ∧ ((((q.1 655 (Int32.toNatClampNeg v1)) = 1) → S182_96 v1 q) ∧ (¬ ((q.1 655 (Int32.toNatClampNeg v1)) = 1) → vp_in v1 24 ∧ (S181_0 (q.1 657 (Int32.toNatClampNeg v1)) q ∧ (S182_96 v1 (F181_0 (q.1 657 (Int32.toNatClampNeg v1)) q)))))
set_option maxRecDepth 100000 in
set_option maxHeartbeats 4000000 in
theorem A182_76 {l : Launch} {X : aX} {d : Nat} {r : Option Value} {h' : aH} {v1 : Int32} {q : aQ} (hd : 4 ≤ d) (hN : h'.1 = nk0) (hG : gI r h' (F182_76 v1 q)) (hS : S182_76 v1 q) : AW l X 182 c182 d r h' 76 [some (.ref 650), some (.int v1), none] [] (hp q) := by
  unfold F182_76 at hG
  unfold S182_76 at hS
  refine x_run (pc' := 77) (lo' := [some (.ref 650), some (.int v1), none]) (st' := [.ref 650]) 1 rfl ?_
  refine x_gf (c := 582) (ne := 0) (v := .ref 655) rfl (by decide +kernel) rfl rfl ?_
  refine x_run (pc' := 81) (lo' := [some (.ref 650), some (.int v1), none]) (st' := [.int v1, .ref 655]) 1 rfl ?_
  obtain ⟨o13, hS⟩ := hS
  refine p_ia (n := 24) (v := (q.1 655 (Int32.toNatClampNeg v1))) rfl rfl o13 rfl ?_
  refine x_run (pc' := 83) (lo' := [some (.ref 650), some (.int v1), none]) (st' := [.int 1, .int (q.1 655 (Int32.toNatClampNeg v1))]) 1 rfl ?_
  refine x_ic 96 rfl rfl (fun (hc14 : (q.1 655 (Int32.toNatClampNeg v1)) = 1) => ?_) (fun (hc14 : ¬ (q.1 655 (Int32.toNatClampNeg v1)) = 1) => ?_)
  · rw [if_pos hc14] at hG
    replace hS := hS.1 hc14
    exact A182_96 hd hN hG hS
  · rw [if_neg hc14] at hG
    replace hS := hS.2 hc14
    refine x_run (pc' := 88) (lo' := [some (.ref 650), some (.int v1), none]) (st' := [.ref 650, .ref 650]) 2 rfl ?_
    refine x_gf (c := 584) (ne := 0) (v := .ref 657) rfl (by decide +kernel) rfl rfl ?_
    refine x_run (pc' := 92) (lo' := [some (.ref 650), some (.int v1), none]) (st' := [.int v1, .ref 657, .ref 650]) 1 rfl ?_
    obtain ⟨o34, hS⟩ := hS
    refine p_ia (n := 24) (v := (q.1 657 (Int32.toNatClampNeg v1))) rfl rfl o34 rfl ?_
    obtain ⟨o35, hS⟩ := hS
    refine x_cv (j := 181) (ne := 0) (vs := [.int (q.1 657 (Int32.toNatClampNeg v1))]) (rest := []) rfl (by decide +kernel) (by decide +kernel) (by decide) (Eq.trans rfl (show 1 = _ from by decide +kernel)) rfl (by decide +kernel) rfl (Nat.le_of_ble_eq_true rfl) (by omega) (T181 (Nat.le_refl 3) o35) (hp_m hN) ?_
    show AW l X 182 c182 d r h' 96 [some (.ref 650), some (.int v1), none] [] (hp (F181_0 (q.1 657 (Int32.toNatClampNeg v1)) q))
    exact A182_96 hd hN hG hS
def F182_0 (v1 : Int32) (q : aQ) : Int32 × aQ := (if (q.1 655 (Int32.toNatClampNeg v1)) = 2 then F182_20 v1 q else (if (q.1 655 (Int32.toNatClampNeg v1)) = 3 then F182_20 v1 q else (if (q.1 655 (Int32.toNatClampNeg v1)) = 6 then ((F147_0 v1 0 q), q) else F182_76 v1 (F152_0 0 (Int32.toInt64 (q.1 656 (Int32.toNatClampNeg v1))) q))))
def S182_0 (v1 : Int32) (q : aQ) : Prop := vp_in v1 24 ∧ ((((q.1 655 (Int32.toNatClampNeg v1)) = 2) → S182_20 v1 q) ∧ (¬ ((q.1 655 (Int32.toNatClampNeg v1)) = 2) → vp_in v1 24 ∧ ((((q.1 655 (Int32.toNatClampNeg v1)) = 3) → S182_20 v1 q) ∧ (¬ ((q.1 655 (Int32.toNatClampNeg v1)) = 3) → vp_in v1 24 ∧ ((((q.1 655 (Int32.toNatClampNeg v1)) = 6) → S147_0 v1 0 q ∧ (True)) ∧ (¬ ((q.1 655 (Int32.toNatClampNeg v1)) = 6) → vp_in v1 24 ∧ (S152_0 0 (Int32.toInt64 (q.1 656 (Int32.toNatClampNeg v1))) q ∧ (S182_76 v1 (F152_0 0 (Int32.toInt64 (q.1 656 (Int32.toNatClampNeg v1))) q)))))))))
set_option maxRecDepth 100000 in
set_option maxHeartbeats 4000000 in
theorem A182_0 {l : Launch} {X : aX} {d : Nat} {r : Option Value} {h' : aH} {v1 : Int32} {q : aQ} (hd : 4 ≤ d) (hN : h'.1 = nk0) (hG : gI r h' (F182_0 v1 q)) (hS : S182_0 v1 q) : AW l X 182 c182 d r h' 0 [some (.ref 650), some (.int v1), none] [] (hp q) := by
  unfold F182_0 at hG
  unfold S182_0 at hS
  refine x_run (pc' := 1) (lo' := [some (.ref 650), some (.int v1), none]) (st' := [.ref 650]) 1 rfl ?_
  refine x_gf (c := 582) (ne := 0) (v := .ref 655) rfl (by decide +kernel) rfl rfl ?_
  refine x_run (pc' := 5) (lo' := [some (.ref 650), some (.int v1), none]) (st' := [.int v1, .ref 655]) 1 rfl ?_
  obtain ⟨o1, hS⟩ := hS
  refine p_ia (n := 24) (v := (q.1 655 (Int32.toNatClampNeg v1))) rfl rfl o1 rfl ?_
  refine x_run (pc' := 7) (lo' := [some (.ref 650), some (.int v1), none]) (st' := [.int 2, .int (q.1 655 (Int32.toNatClampNeg v1))]) 1 rfl ?_
  refine x_ic 20 rfl rfl (fun (hc2 : (q.1 655 (Int32.toNatClampNeg v1)) = 2) => ?_) (fun (hc2 : ¬ (q.1 655 (Int32.toNatClampNeg v1)) = 2) => ?_)
  · rw [if_pos hc2] at hG
    replace hS := hS.1 hc2
    exact A182_20 hd hN hG hS
  · rw [if_neg hc2] at hG
    replace hS := hS.2 hc2
    refine x_run (pc' := 11) (lo' := [some (.ref 650), some (.int v1), none]) (st' := [.ref 650]) 1 rfl ?_
    refine x_gf (c := 582) (ne := 0) (v := .ref 655) rfl (by decide +kernel) rfl rfl ?_
    refine x_run (pc' := 15) (lo' := [some (.ref 650), some (.int v1), none]) (st' := [.int v1, .ref 655]) 1 rfl ?_
    obtain ⟨o7, hS⟩ := hS
    refine p_ia (n := 24) (v := (q.1 655 (Int32.toNatClampNeg v1))) rfl rfl o7 rfl ?_
    refine x_run (pc' := 17) (lo' := [some (.ref 650), some (.int v1), none]) (st' := [.int 3, .int (q.1 655 (Int32.toNatClampNeg v1))]) 1 rfl ?_
    refine x_ic 46 rfl rfl (fun (hc8 : ¬ (q.1 655 (Int32.toNatClampNeg v1)) = 3) => ?_) (fun (hc8 : (q.1 655 (Int32.toNatClampNeg v1)) = 3) => ?_)
    · rw [if_neg hc8] at hG
      replace hS := hS.2 hc8
      refine x_run (pc' := 47) (lo' := [some (.ref 650), some (.int v1), none]) (st' := [.ref 650]) 1 rfl ?_
      refine x_gf (c := 582) (ne := 0) (v := .ref 655) rfl (by decide +kernel) rfl rfl ?_
      refine x_run (pc' := 51) (lo' := [some (.ref 650), some (.int v1), none]) (st' := [.int v1, .ref 655]) 1 rfl ?_
      obtain ⟨o9, hS⟩ := hS
      refine p_ia (n := 24) (v := (q.1 655 (Int32.toNatClampNeg v1))) rfl rfl o9 rfl ?_
      refine x_run (pc' := 54) (lo' := [some (.ref 650), some (.int v1), none]) (st' := [.int 6, .int (q.1 655 (Int32.toNatClampNeg v1))]) 1 rfl ?_
      refine x_ic 64 rfl rfl (fun (hc10 : ¬ (q.1 655 (Int32.toNatClampNeg v1)) = 6) => ?_) (fun (hc10 : (q.1 655 (Int32.toNatClampNeg v1)) = 6) => ?_)
      · rw [if_neg hc10] at hG
        replace hS := hS.2 hc10
        refine x_run (pc' := 67) (lo' := [some (.ref 650), some (.int v1), none]) (st' := [.ref 650, .int 0, .ref 650]) 3 rfl ?_
        refine x_gf (c := 583) (ne := 0) (v := .ref 656) rfl (by decide +kernel) rfl rfl ?_
        refine x_run (pc' := 71) (lo' := [some (.ref 650), some (.int v1), none]) (st' := [.int v1, .ref 656, .int 0, .ref 650]) 1 rfl ?_
        obtain ⟨o11, hS⟩ := hS
        refine p_ia (n := 24) (v := (q.1 656 (Int32.toNatClampNeg v1))) rfl rfl o11 rfl ?_
        refine x_run (pc' := 73) (lo' := [some (.ref 650), some (.int v1), none]) (st' := [.long (Int32.toInt64 (q.1 656 (Int32.toNatClampNeg v1))), .int 0, .ref 650]) 1 rfl ?_
        obtain ⟨o12, hS⟩ := hS
        refine x_cv (j := 152) (ne := 0) (vs := [.int 0, .long (Int32.toInt64 (q.1 656 (Int32.toNatClampNeg v1)))]) (rest := []) rfl (by decide +kernel) (by decide +kernel) (by decide) (Eq.trans rfl (show 2 = _ from by decide +kernel)) rfl (by decide +kernel) rfl (Nat.le_of_ble_eq_true rfl) (by omega) (T152 (Nat.le_refl 1) o12) (hp_m hN) ?_
        show AW l X 182 c182 d r h' 76 [some (.ref 650), some (.int v1), none] [] (hp (F152_0 0 (Int32.toInt64 (q.1 656 (Int32.toNatClampNeg v1))) q))
        exact A182_76 hd hN hG hS
      · rw [if_pos hc10] at hG
        replace hS := hS.1 hc10
        refine x_run (pc' := 60) (lo' := [some (.ref 650), some (.int v1), none]) (st' := [.int 0, .int v1, .ref 650]) 3 rfl ?_
        obtain ⟨o36, hS⟩ := hS
        refine x_cv (j := 147) (ne := 0) (vs := [.int v1, .int 0]) (rest := []) rfl (by decide +kernel) (by decide +kernel) (by decide) (Eq.trans rfl (show 2 = _ from by decide +kernel)) rfl (by decide +kernel) rfl (Nat.le_of_ble_eq_true rfl) (by omega) (T147 (Nat.le_refl 2) o36) (hp_m hN) ?_
        show AW l X 182 c182 d r h' 63 [some (.ref 650), some (.int v1), none] [.int (F147_0 v1 0 q)] (hp q)
        obtain ⟨rfl, rfl⟩ := hG
        exact x_iret rfl (by decide +kernel)
    · rw [if_pos hc8] at hG
      replace hS := hS.1 hc8
      exact A182_20 hd hN hG hS
theorem T182 {l : Launch} {X : aX} {d : Nat} {v1 : Int32} {q : aQ} (hd : 4 ≤ d) (hS : S182_0 v1 q) : Call l X d 182 [.ref 650, .int v1] (hp q) (some (.int (F182_0 v1 q).1)) (hp (F182_0 v1 q).2) := Call.of ok182 (by decide) (Nat.le_of_ble_eq_true rfl) ⟨Nat.le_refl _, Nat.le_refl _⟩ (A182_0 hd rfl ⟨rfl, rfl⟩ hS)
/-- TypeForecastModel.run(I)I -/
def F183_22 (v1 : Int32) (v2 : Int32) (q : aQ) : (Int32 × aQ) ⊕ (aQ) := (if 5 ≤ v2 then .inr q else .inl ((v2 + 1), (a_wl (a_w q 680 (Int32.toNatClampNeg v2) 8) 681 (Int32.toNatClampNeg v2) 0)))
def S183_22 (v1 : Int32) (v2 : Int32) (q : aQ) : Prop := ((5 ≤ v2) → True) ∧ (¬ (5 ≤ v2) → vp_in v2 5 ∧ (vp_in v2 5 ∧ (True)))
set_option maxRecDepth 100000 in
set_option maxHeartbeats 4000000 in
theorem A183_22 {l : Launch} {X : aX} {d : Nat} {r : Option Value} {h' : aH} {v1 : Int32} {v2 : Int32} {q : aQ} (hd : 5 ≤ d) (hN : h'.1 = nk0) (hG : gL (fun (s : Int32 × aQ) => AW l X 183 c183 d r h' 22 [some (.ref 650), some (.int v1), some (.int s.1), none, none] [] (hp s.2)) (fun (e : aQ) => AW l X 183 c183 d r h' 48 [some (.ref 650), some (.int v1), none, none, none] [] (hp e)) (F183_22 v1 v2 q)) (hS : S183_22 v1 v2 q) : AW l X 183 c183 d r h' 22 [some (.ref 650), some (.int v1), some (.int v2), none, none] [] (hp q) := by
  unfold F183_22 at hG
  unfold S183_22 at hS
  refine x_run (pc' := 24) (lo' := [some (.ref 650), some (.int v1), some (.int v2), none, none]) (st' := [.int 5, .int v2]) 2 rfl ?_
  refine x_ic 48 rfl rfl (fun (hc4 : 5 ≤ v2) => ?_) (fun (hc4 : ¬ 5 ≤ v2) => ?_)
  · rw [if_pos hc4] at hG
    replace hS := hS.1 hc4
    refine x_kill [2] ?_
    exact hG
  · rw [if_neg hc4] at hG
    replace hS := hS.2 hc4
    refine x_run (pc' := 28) (lo' := [some (.ref 650), some (.int v1), some (.int v2), none, none]) (st' := [.ref 650]) 1 rfl ?_
    refine x_gf (c := 616) (ne := 0) (v := .ref 680) rfl (by decide +kernel) rfl rfl ?_
    refine x_run (pc' := 34) (lo' := [some (.ref 650), some (.int v1), some (.int v2), none, none]) (st' := [.int 8, .int v2, .ref 680]) 2 rfl ?_
    obtain ⟨o5, hS⟩ := hS
    refine p_is (n := 5) rfl rfl o5 ?_
    refine x_run (pc' := 36) (lo' := [some (.ref 650), some (.int v1), some (.int v2), none, none]) (st' := [.ref 650]) 1 rfl ?_
    refine x_gf (c := 617) (ne := 0) (v := .ref 681) rfl (by decide +kernel) rfl rfl ?_
    refine x_run (pc' := 41) (lo' := [some (.ref 650), some (.int v1), some (.int v2), none, none]) (st' := [.long 0, .int v2, .ref 681]) 2 rfl ?_
    obtain ⟨o6, hS⟩ := hS
    refine p_lt (n := 5) rfl rfl o6 ?_
    refine x_run (pc' := 22) (lo' := [some (.ref 650), some (.int v1), some (.int (v2 + 1)), none, none]) (st' := []) 2 rfl ?_
    exact hG
def F183_89 (v1 : Int32) (v2 : Int32) (v3 : Int32) (s0 : Int32) (q : aQ) : (Int32 × Int32 × aQ) ⊕ ((aQ) ⊕ (Int32 × aQ)) := (if 0 ≤ s0 then .inl (s0, (v3 + 1), q) else (if s0 = (-10) then .inr (.inr ((-2), q)) else .inr (.inr (((100 * ((-1) - s0)) + v2), q))))
def S183_89 (v1 : Int32) (v2 : Int32) (v3 : Int32) (s0 : Int32) (q : aQ) : Prop := ((0 ≤ s0) → True) ∧ (¬ (0 ≤ s0) → ((s0 = (-10)) → True) ∧ (¬ (s0 = (-10)) → True))
set_option maxRecDepth 100000 in
set_option maxHeartbeats 4000000 in
theorem A183_89 {l : Launch} {X : aX} {d : Nat} {r : Option Value} {h' : aH} {v1 : Int32} {v2 : Int32} {v3 : Int32} {s0 : Int32} {q : aQ} (hd : 5 ≤ d) (hN : h'.1 = nk0) (hG : gL (fun (s : Int32 × Int32 × aQ) => AW l X 183 c183 d r h' 65 [some (.ref 650), some (.int v1), some (.int s.1), some (.int s.2.1), none] [] (hp s.2.2)) (gE (fun (e : aQ) => AW l X 183 c183 d r h' 127 [some (.ref 650), none, none, none, none] [] (hp e)) (fun o => gI r h' o)) (F183_89 v1 v2 v3 s0 q)) (hS : S183_89 v1 v2 v3 s0 q) : AW l X 183 c183 d r h' 89 [some (.ref 650), some (.int v1), some (.int v2), some (.int v3), none] [.int s0] (hp q) := by
  unfold F183_89 at hG
  unfold S183_89 at hS
  refine x_run (pc' := 93) (lo' := [some (.ref 650), some (.int v1), some (.int v2), some (.int v3), some (.int s0)]) (st' := [.int s0]) 2 rfl ?_
  refine x_if 118 rfl rfl (fun (hc12 : 0 ≤ s0) => ?_) (fun (hc12 : ¬ 0 ≤ s0) => ?_)
  · rw [if_pos hc12] at hG
    replace hS := hS.1 hc12
    refine x_run (pc' := 65) (lo' := [some (.ref 650), some (.int v1), some (.int s0), some (.int (v3 + 1)), some (.int s0)]) (st' := []) 4 rfl ?_
    refine x_kill [4] ?_
    exact hG
  · rw [if_neg hc12] at hG
    replace hS := hS.2 hc12
    refine x_run (pc' := 100) (lo' := [some (.ref 650), some (.int v1), some (.int v2), some (.int v3), some (.int s0)]) (st' := [.int (-10), .int s0]) 2 rfl ?_
    refine x_ic 108 rfl rfl (fun (hc13 : ¬ s0 = (-10)) => ?_) (fun (hc13 : s0 = (-10)) => ?_)
    · rw [if_neg hc13] at hG
      replace hS := hS.2 hc13
      refine x_run (pc' := 117) (lo' := [some (.ref 650), some (.int v1), some (.int v2), some (.int v3), some (.int s0)]) (st' := [.int ((100 * ((-1) - s0)) + v2)]) 7 rfl ?_
      obtain ⟨rfl, rfl⟩ := hG
      exact x_iret rfl (by decide +kernel)
    · rw [if_pos hc13] at hG
      replace hS := hS.1 hc13
      refine x_run (pc' := 117) (lo' := [some (.ref 650), some (.int v1), some (.int v2), some (.int v3), some (.int s0)]) (st' := [.int (-2)]) 2 rfl ?_
      obtain ⟨rfl, rfl⟩ := hG
      exact x_iret rfl (by decide +kernel)
def F183_65 (v1 : Int32) (v2 : Int32) (v3 : Int32) (q : aQ) : (Int32 × Int32 × aQ) ⊕ ((aQ) ⊕ (Int32 × aQ)) := (if v2 = 24 then .inr (.inl q) else (if v3 = v1 then .inr (.inr ((-2), (a_w q 650 39 v2))) else F183_89 v1 v2 v3 ((F182_0 v2 (a_w q 650 39 v2)).1) ((F182_0 v2 (a_w q 650 39 v2)).2)))
def S183_65 (v1 : Int32) (v2 : Int32) (v3 : Int32) (q : aQ) : Prop := ((v2 = 24) → True) ∧ (¬ (v2 = 24) → ((v3 = v1) → True) ∧ (¬ (v3 = v1) → S182_0 v2 (a_w q 650 39 v2) ∧ (S183_89 v1 v2 v3 ((F182_0 v2 (a_w q 650 39 v2)).1) ((F182_0 v2 (a_w q 650 39 v2)).2))))
set_option maxRecDepth 100000 in
set_option maxHeartbeats 4000000 in
theorem A183_65 {l : Launch} {X : aX} {d : Nat} {r : Option Value} {h' : aH} {v1 : Int32} {v2 : Int32} {v3 : Int32} {q : aQ} (hd : 5 ≤ d) (hN : h'.1 = nk0) (hG : gL (fun (s : Int32 × Int32 × aQ) => AW l X 183 c183 d r h' 65 [some (.ref 650), some (.int v1), some (.int s.1), some (.int s.2.1), none] [] (hp s.2.2)) (gE (fun (e : aQ) => AW l X 183 c183 d r h' 127 [some (.ref 650), none, none, none, none] [] (hp e)) (fun o => gI r h' o)) (F183_65 v1 v2 v3 q)) (hS : S183_65 v1 v2 v3 q) : AW l X 183 c183 d r h' 65 [some (.ref 650), some (.int v1), some (.int v2), some (.int v3), none] [] (hp q) := by
  unfold F183_65 at hG
  unfold S183_65 at hS
  refine x_run (pc' := 68) (lo' := [some (.ref 650), some (.int v1), some (.int v2), some (.int v3), none]) (st' := [.int 24, .int v2]) 2 rfl ?_
  refine x_ic 127 rfl rfl (fun (hc9 : v2 = 24) => ?_) (fun (hc9 : ¬ v2 = 24) => ?_)
  · rw [if_pos hc9] at hG
    replace hS := hS.1 hc9
    refine x_kill [1, 2, 3] ?_
    exact hG
  · rw [if_neg hc9] at hG
    replace hS := hS.2 hc9
    refine x_run (pc' := 73) (lo' := [some (.ref 650), some (.int v1), some (.int v2), some (.int v3), none]) (st' := [.int v2, .ref 650]) 2 rfl ?_
    refine x_pf (c := 615) (ne := 0) (h2 := hp (a_w q 650 39 v2)) rfl (by decide +kernel) (by decide +kernel) rfl (pv_i rfl) ?_
    refine x_run (pc' := 78) (lo' := [some (.ref 650), some (.int v1), some (.int v2), some (.int v3), none]) (st' := [.int v1, .int v3]) 2 rfl ?_
    refine x_ic 84 rfl rfl (fun (hc10 : ¬ v3 = v1) => ?_) (fun (hc10 : v3 = v1) => ?_)
    · rw [if_neg hc10] at hG
      replace hS := hS.2 hc10
      refine x_run (pc' := 86) (lo' := [some (.ref 650), some (.int v1), some (.int v2), some (.int v3), none]) (st' := [.int v2, .ref 650]) 2 rfl ?_
      obtain ⟨o11, hS⟩ := hS
      refine x_cv (j := 182) (ne := 0) (vs := [.int v2]) (rest := []) rfl (by decide +kernel) (by decide +kernel) (by decide) (Eq.trans rfl (show 1 = _ from by decide +kernel)) rfl (by decide +kernel) rfl (Nat.le_of_ble_eq_true rfl) (by omega) (T182 (Nat.le_refl 4) o11) (hp_m hN) ?_
      show AW l X 183 c183 d r h' 89 [some (.ref 650), some (.int v1), some (.int v2), some (.int v3), none] [.int (F182_0 v2 (a_w q 650 39 v2)).1] (hp (F182_0 v2 (a_w q 650 39 v2)).2)
      exact A183_89 hd hN hG hS
    · rw [if_pos hc10] at hG
      replace hS := hS.1 hc10
      refine x_run (pc' := 83) (lo' := [some (.ref 650), some (.int v1), some (.int v2), some (.int v3), none]) (st' := [.int (-2)]) 1 rfl ?_
      obtain ⟨rfl, rfl⟩ := hG
      exact x_iret rfl (by decide +kernel)
def F183_127 (q : aQ) : Int32 × aQ := (0, (a_w q 650 39 (-1)))
def S183_127 (q : aQ) : Prop := True
set_option maxRecDepth 100000 in
set_option maxHeartbeats 4000000 in
theorem A183_127 {l : Launch} {X : aX} {d : Nat} {r : Option Value} {h' : aH} {q : aQ} (hd : 5 ≤ d) (hN : h'.1 = nk0) (hG : gI r h' (F183_127 q)) (hS : S183_127 q) : AW l X 183 c183 d r h' 127 [some (.ref 650), none, none, none, none] [] (hp q) := by
  unfold F183_127 at hG
  unfold S183_127 at hS
  refine x_run (pc' := 129) (lo' := [some (.ref 650), none, none, none, none]) (st' := [.int (-1), .ref 650]) 2 rfl ?_
  refine x_pf (c := 615) (ne := 0) (h2 := hp (a_w q 650 39 (-1))) rfl (by decide +kernel) (by decide +kernel) rfl (pv_i rfl) ?_
  refine x_run (pc' := 133) (lo' := [some (.ref 650), none, none, none, none]) (st' := [.int 0]) 1 rfl ?_
  obtain ⟨rfl, rfl⟩ := hG
  exact x_iret rfl (by decide +kernel)
def F183_48 (v1 : Int32) (q : aQ) : Int32 × aQ := (match a_lp (fun (s : Int32 × Int32 × aQ) => F183_65 v1 s.1 s.2.1 s.2.2) 1002 ((F150_0 (a_w (a_w q 650 42 0) 650 39 (-1))), 0, (a_w (a_w q 650 42 0) 650 39 (-1))) (.inl (a_w (a_w q 650 42 0) 650 39 (-1))) with
    | .inl e14 => F183_127 e14
    | .inr o15 => o15)
def S183_48 (v1 : Int32) (q : aQ) : Prop := S150_0 (a_w (a_w q 650 42 0) 650 39 (-1)) ∧ (a_sf (fun (s : Int32 × Int32 × aQ) => F183_65 v1 s.1 s.2.1 s.2.2) (fun (s : Int32 × Int32 × aQ) => S183_65 v1 s.1 s.2.1 s.2.2) 1002 ((F150_0 (a_w (a_w q 650 42 0) 650 39 (-1))), 0, (a_w (a_w q 650 42 0) 650 39 (-1))) ∧ (match a_lp (fun (s : Int32 × Int32 × aQ) => F183_65 v1 s.1 s.2.1 s.2.2) 1002 ((F150_0 (a_w (a_w q 650 42 0) 650 39 (-1))), 0, (a_w (a_w q 650 42 0) 650 39 (-1))) (.inl (a_w (a_w q 650 42 0) 650 39 (-1))) with
    | .inl e14 => S183_127 e14
    | .inr _ => True))
set_option maxRecDepth 100000 in
set_option maxHeartbeats 4000000 in
theorem A183_48 {l : Launch} {X : aX} {d : Nat} {r : Option Value} {h' : aH} {v1 : Int32} {q : aQ} (hd : 5 ≤ d) (hN : h'.1 = nk0) (hG : gI r h' (F183_48 v1 q)) (hS : S183_48 v1 q) : AW l X 183 c183 d r h' 48 [some (.ref 650), some (.int v1), none, none, none] [] (hp q) := by
  unfold F183_48 at hG
  unfold S183_48 at hS
  refine x_run (pc' := 50) (lo' := [some (.ref 650), some (.int v1), none, none, none]) (st' := [.int 0, .ref 650]) 2 rfl ?_
  refine x_pf (c := 618) (ne := 0) (h2 := hp (a_w q 650 42 0)) rfl (by decide +kernel) (by decide +kernel) rfl (pv_i rfl) ?_
  refine x_run (pc' := 55) (lo' := [some (.ref 650), some (.int v1), none, none, none]) (st' := [.int (-1), .ref 650]) 2 rfl ?_
  refine x_pf (c := 615) (ne := 0) (h2 := hp (a_w (a_w q 650 42 0) 650 39 (-1))) rfl (by decide +kernel) (by decide +kernel) rfl (pv_i rfl) ?_
  refine x_run (pc' := 59) (lo' := [some (.ref 650), some (.int v1), none, none, none]) (st' := [.ref 650]) 1 rfl ?_
  obtain ⟨o8, hS⟩ := hS
  refine x_cv (j := 150) (ne := 0) (vs := []) (rest := []) rfl (by decide +kernel) (by decide +kernel) (by decide) (Eq.trans rfl (show 0 = _ from by decide +kernel)) rfl (by decide +kernel) rfl (Nat.le_of_ble_eq_true rfl) (by omega) (T150 (Nat.le_refl 1) o8) (hp_m hN) ?_
  show AW l X 183 c183 d r h' 62 [some (.ref 650), some (.int v1), none, none, none] [.int (F150_0 (a_w (a_w q 650 42 0) 650 39 (-1)))] (hp (a_w (a_w q 650 42 0) 650 39 (-1)))
  refine x_run (pc' := 65) (lo' := [some (.ref 650), some (.int v1), some (.int (F150_0 (a_w (a_w q 650 42 0) 650 39 (-1)))), some (.int 0), none]) (st' := []) 3 rfl ?_
  obtain ⟨ho, hS⟩ := hS
  refine x_loop (fun (s : Int32 × Int32 × aQ) => F183_65 v1 s.1 s.2.1 s.2.2) (fun (s : Int32 × Int32 × aQ) => S183_65 v1 s.1 s.2.1 s.2.2) (fun (s : Int32 × Int32 × aQ) => AW l X 183 c183 d r h' 65 [some (.ref 650), some (.int v1), some (.int s.1), some (.int s.2.1), none] [] (hp s.2.2)) (gE (fun (e : aQ) => AW l X 183 c183 d r h' 127 [some (.ref 650), none, none, none, none] [] (hp e)) (fun o => gI r h' o)) (fun s hs hg => A183_65 hd hN hg hs) 1002 ((F150_0 (a_w (a_w q 650 42 0) 650 39 (-1))), 0, (a_w (a_w q 650 42 0) 650 39 (-1))) ho (fun ex he => ?_)
  rw [a_lp_eq he] at hG hS
  cases ex with
  | inl e14 =>
    dsimp only at hG hS
    exact A183_127 hd hN hG hS
  | inr o15 => exact hG
def F183_0 (v1 : Int32) (q : aQ) : Int32 × aQ := (if 0 < (q.1 650 14) then ((-1), q) else (if v1 < 0 then ((-1), q) else (if v1 ≤ 1000 then (fun (e7 : aQ) => F183_48 v1 e7) (a_lp (fun (s : Int32 × aQ) => F183_22 v1 s.1 s.2) 200 (0, q) q) else ((-1), q))))
def S183_0 (v1 : Int32) (q : aQ) : Prop := ((0 < (q.1 650 14)) → True) ∧ (¬ (0 < (q.1 650 14)) → ((v1 < 0) → True) ∧ (¬ (v1 < 0) → ((v1 ≤ 1000) → a_sf (fun (s : Int32 × aQ) => F183_22 v1 s.1 s.2) (fun (s : Int32 × aQ) => S183_22 v1 s.1 s.2) 200 (0, q) ∧ (fun (e7 : aQ) => S183_48 v1 e7) (a_lp (fun (s : Int32 × aQ) => F183_22 v1 s.1 s.2) 200 (0, q) q)) ∧ (¬ (v1 ≤ 1000) → True)))
set_option maxRecDepth 100000 in
set_option maxHeartbeats 4000000 in
theorem A183_0 {l : Launch} {X : aX} {d : Nat} {r : Option Value} {h' : aH} {v1 : Int32} {q : aQ} (hd : 5 ≤ d) (hN : h'.1 = nk0) (hG : gI r h' (F183_0 v1 q)) (hS : S183_0 v1 q) : AW l X 183 c183 d r h' 0 [some (.ref 650), some (.int v1), none, none, none] [] (hp q) := by
  unfold F183_0 at hG
  unfold S183_0 at hS
  refine x_run (pc' := 1) (lo' := [some (.ref 650), some (.int v1), none, none, none]) (st' := [.ref 650]) 1 rfl ?_
  refine x_gf (c := 590) (ne := 0) (v := .int (q.1 650 14)) rfl (by decide +kernel) rfl rfl ?_
  refine x_if 18 rfl rfl (fun (hc1 : 0 < (q.1 650 14)) => ?_) (fun (hc1 : ¬ 0 < (q.1 650 14)) => ?_)
  · rw [if_pos hc1] at hG
    replace hS := hS.1 hc1
    refine x_run (pc' := 19) (lo' := [some (.ref 650), some (.int v1), none, none, none]) (st' := [.int (-1)]) 1 rfl ?_
    obtain ⟨rfl, rfl⟩ := hG
    exact x_iret rfl (by decide +kernel)
  · rw [if_neg hc1] at hG
    replace hS := hS.2 hc1
    refine x_run (pc' := 8) (lo' := [some (.ref 650), some (.int v1), none, none, none]) (st' := [.int v1]) 1 rfl ?_
    refine x_if 18 rfl rfl (fun (hc2 : v1 < 0) => ?_) (fun (hc2 : ¬ v1 < 0) => ?_)
    · rw [if_pos hc2] at hG
      replace hS := hS.1 hc2
      refine x_run (pc' := 19) (lo' := [some (.ref 650), some (.int v1), none, none, none]) (st' := [.int (-1)]) 1 rfl ?_
      obtain ⟨rfl, rfl⟩ := hG
      exact x_iret rfl (by decide +kernel)
    · rw [if_neg hc2] at hG
      replace hS := hS.2 hc2
      refine x_run (pc' := 15) (lo' := [some (.ref 650), some (.int v1), none, none, none]) (st' := [.int 1000, .int v1]) 2 rfl ?_
      refine x_ic 20 rfl rfl (fun (hc3 : v1 ≤ 1000) => ?_) (fun (hc3 : ¬ v1 ≤ 1000) => ?_)
      · rw [if_pos hc3] at hG
        replace hS := hS.1 hc3
        refine x_run (pc' := 22) (lo' := [some (.ref 650), some (.int v1), some (.int 0), none, none]) (st' := []) 2 rfl ?_
        obtain ⟨ho, hS⟩ := hS
        refine x_loop (fun (s : Int32 × aQ) => F183_22 v1 s.1 s.2) (fun (s : Int32 × aQ) => S183_22 v1 s.1 s.2) (fun (s : Int32 × aQ) => AW l X 183 c183 d r h' 22 [some (.ref 650), some (.int v1), some (.int s.1), none, none] [] (hp s.2)) (fun (e : aQ) => AW l X 183 c183 d r h' 48 [some (.ref 650), some (.int v1), none, none, none] [] (hp e)) (fun s hs hg => A183_22 hd hN hg hs) 200 (0, q) ho (fun e7 he => ?_)
        rw [a_lp_eq he] at hG hS
        try dsimp only at hG hS
        exact A183_48 hd hN hG hS
      · rw [if_neg hc3] at hG
        replace hS := hS.2 hc3
        refine x_run (pc' := 19) (lo' := [some (.ref 650), some (.int v1), none, none, none]) (st' := [.int (-1)]) 1 rfl ?_
        obtain ⟨rfl, rfl⟩ := hG
        exact x_iret rfl (by decide +kernel)
theorem T183 {l : Launch} {X : aX} {d : Nat} {v1 : Int32} {q : aQ} (hd : 5 ≤ d) (hS : S183_0 v1 q) : Call l X d 183 [.ref 650, .int v1] (hp q) (some (.int (F183_0 v1 q).1)) (hp (F183_0 v1 q).2) := Call.of ok183 (by decide) (Nat.le_of_ble_eq_true rfl) ⟨Nat.le_refl _, Nat.le_refl _⟩ (A183_0 hd rfl ⟨rfl, rfl⟩ hS)
/-- TypeForecastModel.place()I -/
def F184_0 (q : aQ) : Int32 := (q.1 650 39)
def S184_0 (q : aQ) : Prop := True
set_option maxRecDepth 100000 in
set_option maxHeartbeats 4000000 in
theorem A184_0 {l : Launch} {X : aX} {d : Nat} {r : Option Value} {h' : aH} {q : aQ} (hd : 1 ≤ d) (hN : h'.1 = nk0) (hG : gI r h' (F184_0 q, q)) (hS : S184_0 q) : AW l X 184 c184 d r h' 0 [some (.ref 650)] [] (hp q) := by
  unfold F184_0 at hG
  unfold S184_0 at hS
  refine x_run (pc' := 1) (lo' := [some (.ref 650)]) (st' := [.ref 650]) 1 rfl ?_
  refine x_gf (c := 615) (ne := 0) (v := .int (q.1 650 39)) rfl (by decide +kernel) rfl rfl ?_
  obtain ⟨rfl, rfl⟩ := hG
  exact x_iret rfl (by decide +kernel)
theorem T184 {l : Launch} {X : aX} {d : Nat} {q : aQ} (hd : 1 ≤ d) (hS : S184_0 q) : Call l X d 184 [.ref 650] (hp q) (some (.int (F184_0 q))) (hp q) := Call.of ok184 (by decide) (Nat.le_of_ble_eq_true rfl) ⟨Nat.le_refl _, Nat.le_refl _⟩ (A184_0 hd rfl ⟨rfl, rfl⟩ hS)
/-- TypeForecastModel.type(I)I -/
def F185_0 (v1 : Int32) (q : aQ) : Int32 := (if v1 < 0 then (-1) else (if v1 ≤ 4 then (q.1 680 (Int32.toNatClampNeg v1)) else (-1)))
def S185_0 (v1 : Int32) (q : aQ) : Prop := ((v1 < 0) → True) ∧ (¬ (v1 < 0) → ((v1 ≤ 4) → vp_in v1 5 ∧ (True)) ∧ (¬ (v1 ≤ 4) → True))
set_option maxRecDepth 100000 in
set_option maxHeartbeats 4000000 in
theorem A185_0 {l : Launch} {X : aX} {d : Nat} {r : Option Value} {h' : aH} {v1 : Int32} {q : aQ} (hd : 1 ≤ d) (hN : h'.1 = nk0) (hG : gI r h' (F185_0 v1 q, q)) (hS : S185_0 v1 q) : AW l X 185 c185 d r h' 0 [some (.ref 650), some (.int v1)] [] (hp q) := by
  unfold F185_0 at hG
  unfold S185_0 at hS
  refine x_run (pc' := 1) (lo' := [some (.ref 650), some (.int v1)]) (st' := [.int v1]) 1 rfl ?_
  refine x_if 9 rfl rfl (fun (hc1 : v1 < 0) => ?_) (fun (hc1 : ¬ v1 < 0) => ?_)
  · rw [if_pos hc1] at hG
    replace hS := hS.1 hc1
    refine x_run (pc' := 19) (lo' := [some (.ref 650), some (.int v1)]) (st' := [.int (-1)]) 2 rfl ?_
    obtain ⟨rfl, rfl⟩ := hG
    exact x_iret rfl (by decide +kernel)
  · rw [if_neg hc1] at hG
    replace hS := hS.2 hc1
    refine x_run (pc' := 6) (lo' := [some (.ref 650), some (.int v1)]) (st' := [.int 4, .int v1]) 2 rfl ?_
    refine x_ic 13 rfl rfl (fun (hc2 : v1 ≤ 4) => ?_) (fun (hc2 : ¬ v1 ≤ 4) => ?_)
    · rw [if_pos hc2] at hG
      replace hS := hS.1 hc2
      refine x_run (pc' := 14) (lo' := [some (.ref 650), some (.int v1)]) (st' := [.ref 650]) 1 rfl ?_
      refine x_gf (c := 616) (ne := 0) (v := .ref 680) rfl (by decide +kernel) rfl rfl ?_
      refine x_run (pc' := 18) (lo' := [some (.ref 650), some (.int v1)]) (st' := [.int v1, .ref 680]) 1 rfl ?_
      obtain ⟨o3, hS⟩ := hS
      refine p_ia (n := 5) (v := (q.1 680 (Int32.toNatClampNeg v1))) rfl rfl o3 rfl ?_
      obtain ⟨rfl, rfl⟩ := hG
      exact x_iret rfl (by decide +kernel)
    · rw [if_neg hc2] at hG
      replace hS := hS.2 hc2
      refine x_run (pc' := 19) (lo' := [some (.ref 650), some (.int v1)]) (st' := [.int (-1)]) 2 rfl ?_
      obtain ⟨rfl, rfl⟩ := hG
      exact x_iret rfl (by decide +kernel)
theorem T185 {l : Launch} {X : aX} {d : Nat} {v1 : Int32} {q : aQ} (hd : 1 ≤ d) (hS : S185_0 v1 q) : Call l X d 185 [.ref 650, .int v1] (hp q) (some (.int (F185_0 v1 q))) (hp q) := Call.of ok185 (by decide) (Nat.le_of_ble_eq_true rfl) ⟨Nat.le_refl _, Nat.le_refl _⟩ (A185_0 hd rfl ⟨rfl, rfl⟩ hS)
/-- TypeForecastModel.number(I)I -/
def F186_33 (v1 : Int32) (q : aQ) : Int32 := (Int64.toInt32 (q.2 681 (Int32.toNatClampNeg v1)))
def S186_33 (v1 : Int32) (q : aQ) : Prop := vp_in v1 5 ∧ (True)
set_option maxRecDepth 100000 in
set_option maxHeartbeats 4000000 in
theorem A186_33 {l : Launch} {X : aX} {d : Nat} {r : Option Value} {h' : aH} {v1 : Int32} {q : aQ} (hd : 1 ≤ d) (hN : h'.1 = nk0) (hG : gI r h' (F186_33 v1 q, q)) (hS : S186_33 v1 q) : AW l X 186 c186 d r h' 33 [some (.ref 650), some (.int v1)] [] (hp q) := by
  unfold F186_33 at hG
  unfold S186_33 at hS
  refine x_run (pc' := 34) (lo' := [some (.ref 650), some (.int v1)]) (st' := [.ref 650]) 1 rfl ?_
  refine x_gf (c := 617) (ne := 0) (v := .ref 681) rfl (by decide +kernel) rfl rfl ?_
  refine x_run (pc' := 38) (lo' := [some (.ref 650), some (.int v1)]) (st' := [.int v1, .ref 681]) 1 rfl ?_
  obtain ⟨o5, hS⟩ := hS
  refine p_la (n := 5) (v := (q.2 681 (Int32.toNatClampNeg v1))) rfl rfl o5 rfl ?_
  refine x_run (pc' := 40) (lo' := [some (.ref 650), some (.int v1)]) (st' := [.int (Int64.toInt32 (q.2 681 (Int32.toNatClampNeg v1)))]) 1 rfl ?_
  obtain ⟨rfl, rfl⟩ := hG
  exact x_iret rfl (by decide +kernel)
def F186_0 (v1 : Int32) (q : aQ) : Int32 := (if v1 < 0 then 0 else (if 4 < v1 then 0 else (if (q.1 680 (Int32.toNatClampNeg v1)) = 1 then F186_33 v1 q else (if (q.1 680 (Int32.toNatClampNeg v1)) = 2 then F186_33 v1 q else 0))))
def S186_0 (v1 : Int32) (q : aQ) : Prop := ((v1 < 0) → True) ∧ (¬ (v1 < 0) → ((4 < v1) → True) ∧ (¬ (4 < v1) → vp_in v1 5 ∧ ((((q.1 680 (Int32.toNatClampNeg v1)) = 1) → S186_33 v1 q) ∧ (¬ ((q.1 680 (Int32.toNatClampNeg v1)) = 1) → vp_in v1 5 ∧ ((((q.1 680 (Int32.toNatClampNeg v1)) = 2) → S186_33 v1 q) ∧ (¬ ((q.1 680 (Int32.toNatClampNeg v1)) = 2) → True))))))
set_option maxRecDepth 100000 in
set_option maxHeartbeats 4000000 in
theorem A186_0 {l : Launch} {X : aX} {d : Nat} {r : Option Value} {h' : aH} {v1 : Int32} {q : aQ} (hd : 1 ≤ d) (hN : h'.1 = nk0) (hG : gI r h' (F186_0 v1 q, q)) (hS : S186_0 v1 q) : AW l X 186 c186 d r h' 0 [some (.ref 650), some (.int v1)] [] (hp q) := by
  unfold F186_0 at hG
  unfold S186_0 at hS
  refine x_run (pc' := 1) (lo' := [some (.ref 650), some (.int v1)]) (st' := [.int v1]) 1 rfl ?_
  refine x_if 29 rfl rfl (fun (hc1 : v1 < 0) => ?_) (fun (hc1 : ¬ v1 < 0) => ?_)
  · rw [if_pos hc1] at hG
    replace hS := hS.1 hc1
    refine x_run (pc' := 40) (lo' := [some (.ref 650), some (.int v1)]) (st' := [.int 0]) 2 rfl ?_
    obtain ⟨rfl, rfl⟩ := hG
    exact x_iret rfl (by decide +kernel)
  · rw [if_neg hc1] at hG
    replace hS := hS.2 hc1
    refine x_run (pc' := 6) (lo' := [some (.ref 650), some (.int v1)]) (st' := [.int 4, .int v1]) 2 rfl ?_
    refine x_ic 29 rfl rfl (fun (hc2 : 4 < v1) => ?_) (fun (hc2 : ¬ 4 < v1) => ?_)
    · rw [if_pos hc2] at hG
      replace hS := hS.1 hc2
      refine x_run (pc' := 40) (lo' := [some (.ref 650), some (.int v1)]) (st' := [.int 0]) 2 rfl ?_
      obtain ⟨rfl, rfl⟩ := hG
      exact x_iret rfl (by decide +kernel)
    · rw [if_neg hc2] at hG
      replace hS := hS.2 hc2
      refine x_run (pc' := 10) (lo' := [some (.ref 650), some (.int v1)]) (st' := [.ref 650]) 1 rfl ?_
      refine x_gf (c := 616) (ne := 0) (v := .ref 680) rfl (by decide +kernel) rfl rfl ?_
      refine x_run (pc' := 14) (lo' := [some (.ref 650), some (.int v1)]) (st' := [.int v1, .ref 680]) 1 rfl ?_
      obtain ⟨o3, hS⟩ := hS
      refine p_ia (n := 5) (v := (q.1 680 (Int32.toNatClampNeg v1))) rfl rfl o3 rfl ?_
      refine x_run (pc' := 16) (lo' := [some (.ref 650), some (.int v1)]) (st' := [.int 1, .int (q.1 680 (Int32.toNatClampNeg v1))]) 1 rfl ?_
      refine x_ic 33 rfl rfl (fun (hc4 : (q.1 680 (Int32.toNatClampNeg v1)) = 1) => ?_) (fun (hc4 : ¬ (q.1 680 (Int32.toNatClampNeg v1)) = 1) => ?_)
      · rw [if_pos hc4] at hG
        replace hS := hS.1 hc4
        exact A186_33 hd hN hG hS
      · rw [if_neg hc4] at hG
        replace hS := hS.2 hc4
        refine x_run (pc' := 20) (lo' := [some (.ref 650), some (.int v1)]) (st' := [.ref 650]) 1 rfl ?_
        refine x_gf (c := 616) (ne := 0) (v := .ref 680) rfl (by decide +kernel) rfl rfl ?_
        refine x_run (pc' := 24) (lo' := [some (.ref 650), some (.int v1)]) (st' := [.int v1, .ref 680]) 1 rfl ?_
        obtain ⟨o6, hS⟩ := hS
        refine p_ia (n := 5) (v := (q.1 680 (Int32.toNatClampNeg v1))) rfl rfl o6 rfl ?_
        refine x_run (pc' := 26) (lo' := [some (.ref 650), some (.int v1)]) (st' := [.int 2, .int (q.1 680 (Int32.toNatClampNeg v1))]) 1 rfl ?_
        refine x_ic 33 rfl rfl (fun (hc7 : (q.1 680 (Int32.toNatClampNeg v1)) = 2) => ?_) (fun (hc7 : ¬ (q.1 680 (Int32.toNatClampNeg v1)) = 2) => ?_)
        · rw [if_pos hc7] at hG
          replace hS := hS.1 hc7
          exact A186_33 hd hN hG hS
        · rw [if_neg hc7] at hG
          replace hS := hS.2 hc7
          refine x_run (pc' := 40) (lo' := [some (.ref 650), some (.int v1)]) (st' := [.int 0]) 2 rfl ?_
          obtain ⟨rfl, rfl⟩ := hG
          exact x_iret rfl (by decide +kernel)
theorem T186 {l : Launch} {X : aX} {d : Nat} {v1 : Int32} {q : aQ} (hd : 1 ≤ d) (hS : S186_0 v1 q) : Call l X d 186 [.ref 650, .int v1] (hp q) (some (.int (F186_0 v1 q))) (hp q) := Call.of ok186 (by decide) (Nat.le_of_ble_eq_true rfl) ⟨Nat.le_refl _, Nat.le_refl _⟩ (A186_0 hd rfl ⟨rfl, rfl⟩ hS)
