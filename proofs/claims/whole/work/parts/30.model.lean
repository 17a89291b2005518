/-! written by wip/whole/gen3.py: what methods do (F), what they need (S), the walk (A), the contract (T) -/
/-- TypeForecastModel.leaf(II)I -/
def F133_100 (v1 : Int32) (v2 : Int32) (q : aQ) : Int32 × aQ := ((((q.1 650 0) + 1) - 1), (a_w (a_w (a_w (a_w q 651 (Int32.toNatClampNeg (q.1 650 0)) v1) 652 (Int32.toNatClampNeg (q.1 650 0)) v2) 654 (Int32.toNatClampNeg (q.1 650 0)) 1) 650 0 ((q.1 650 0) + 1)))
def S133_100 (v1 : Int32) (v2 : Int32) (q : aQ) : Prop := vp_in (q.1 650 0) 60 ∧ (vp_in (q.1 650 0) 60 ∧ (vp_in (q.1 650 0) 60 ∧ (True)))
set_option maxRecDepth 100000 in
set_option maxHeartbeats 4000000 in
theorem A133_100 {l : Launch} {X : aX} {d : Nat} {r : Option Value} {h' : aH} {v1 : Int32} {v2 : Int32} {q : aQ} (hd : 1 ≤ d) (hN : h'.1 = nk0) (hG : gI r h' (F133_100 v1 v2 q)) (hS : S133_100 v1 v2 q) : AW l X 133 c133 d r h' 100 [some (.ref 650), some (.int v1), some (.int v2), none, none, none] [] (hp q) := by
  unfold F133_100 at hG
  unfold S133_100 at hS
  refine x_run (pc' := 101) (lo' := [some (.ref 650), some (.int v1), some (.int v2), none, none, none]) (st' := [.ref 650]) 1 rfl ?_
  refine x_gf (c := 577) (ne := 0) (v := .ref 651) rfl (by decide +kernel) rfl rfl ?_
  refine x_run (pc' := 105) (lo' := [some (.ref 650), some (.int v1), some (.int v2), none, none, none]) (st' := [.ref 650, .ref 651]) 1 rfl ?_
  refine x_gf (c := 576) (ne := 0) (v := .int (q.1 650 0)) rfl (by decide +kernel) rfl rfl ?_
  refine x_run (pc' := 109) (lo' := [some (.ref 650), some (.int v1), some (.int v2), none, none, none]) (st' := [.int v1, .int (q.1 650 0), .ref 651]) 1 rfl ?_
  obtain ⟨o6, hS⟩ := hS
  refine p_is (n := 60) rfl rfl o6 ?_
  refine x_run (pc' := 111) (lo' := [some (.ref 650), some (.int v1), some (.int v2), none, none, none]) (st' := [.ref 650]) 1 rfl ?_
  refine x_gf (c := 578) (ne := 0) (v := .ref 652) rfl (by decide +kernel) rfl rfl ?_
  refine x_run (pc' := 115) (lo' := [some (.ref 650), some (.int v1), some (.int v2), none, none, none]) (st' := [.ref 650, .ref 652]) 1 rfl ?_
  refine x_gf (c := 576) (ne := 0) (v := .int (q.1 650 0)) rfl (by decide +kernel) rfl rfl ?_
  refine x_run (pc' := 119) (lo' := [some (.ref 650), some (.int v1), some (.int v2), none, none, none]) (st' := [.int v2, .int (q.1 650 0), .ref 652]) 1 rfl ?_
  obtain ⟨o7, hS⟩ := hS
  refine p_is (n := 60) rfl rfl o7 ?_
  refine x_run (pc' := 121) (lo' := [some (.ref 650), some (.int v1), some (.int v2), none, none, none]) (st' := [.ref 650]) 1 rfl ?_
  refine x_gf (c := 580) (ne := 0) (v := .ref 654) rfl (by decide +kernel) rfl rfl ?_
  refine x_run (pc' := 125) (lo' := [some (.ref 650), some (.int v1), some (.int v2), none, none, none]) (st' := [.ref 650, .ref 654]) 1 rfl ?_
  refine x_gf (c := 576) (ne := 0) (v := .int (q.1 650 0)) rfl (by decide +kernel) rfl rfl ?_
  refine x_run (pc' := 129) (lo' := [some (.ref 650), some (.int v1), some (.int v2), none, none, none]) (st' := [.int 1, .int (q.1 650 0), .ref 654]) 1 rfl ?_
  obtain ⟨o8, hS⟩ := hS
  refine p_is (n := 60) rfl rfl o8 ?_
  refine x_run (pc' := 132) (lo' := [some (.ref 650), some (.int v1), some (.int v2), none, none, none]) (st' := [.ref 650, .ref 650]) 2 rfl ?_
  refine x_gf (c := 576) (ne := 0) (v := .int (q.1 650 0)) rfl (by decide +kernel) rfl rfl ?_
  refine x_run (pc' := 137) (lo' := [some (.ref 650), some (.int v1), some (.int v2), none, none, none]) (st' := [.int ((q.1 650 0) + 1), .ref 650]) 2 rfl ?_
  refine x_pf (c := 576) (ne := 0) (h2 := hp (a_w (a_w (a_w (a_w q 651 (Int32.toNatClampNeg (q.1 650 0)) v1) 652 (Int32.toNatClampNeg (q.1 650 0)) v2) 654 (Int32.toNatClampNeg (q.1 650 0)) 1) 650 0 ((q.1 650 0) + 1))) rfl (by decide +kernel) (by decide +kernel) rfl (pv_i rfl) ?_
  refine x_run (pc' := 141) (lo' := [some (.ref 650), some (.int v1), some (.int v2), none, none, none]) (st' := [.ref 650]) 1 rfl ?_
  refine x_gf (c := 576) (ne := 0) (v := .int ((q.1 650 0) + 1)) rfl (by decide +kernel) rfl rfl ?_
  refine x_run (pc' := 146) (lo' := [some (.ref 650), some (.int v1), some (.int v2), none, none, none]) (st' := [.int (((q.1 650 0) + 1) - 1)]) 2 rfl ?_
  obtain ⟨rfl, rfl⟩ := hG
  exact x_iret rfl (by decide +kernel)
def F133_63 (v1 : Int32) (v2 : Int32) (v3 : Int32) (v4 : Int32) (s0 : Int32) (q : aQ) : Int32 × aQ := (if (q.1 650 0) = 60 then ((-1), q) else (if v3 = 0 then (if v4 = 0 then (if s0 = 0 then (if v1 = 2 then F133_100 v1 v2 q else (if v1 = 4 then F133_100 v1 v2 q else ((-1), q))) else F133_100 v1 v2 q) else F133_100 v1 v2 q) else F133_100 v1 v2 q))
def S133_63 (v1 : Int32) (v2 : Int32) (v3 : Int32) (v4 : Int32) (s0 : Int32) (q : aQ) : Prop := (((q.1 650 0) = 60) → True) ∧ (¬ ((q.1 650 0) = 60) → ((v3 = 0) → ((v4 = 0) → ((s0 = 0) → ((v1 = 2) → S133_100 v1 v2 q) ∧ (¬ (v1 = 2) → ((v1 = 4) → S133_100 v1 v2 q) ∧ (¬ (v1 = 4) → True))) ∧ (¬ (s0 = 0) → S133_100 v1 v2 q)) ∧ (¬ (v4 = 0) → S133_100 v1 v2 q)) ∧ (¬ (v3 = 0) → S133_100 v1 v2 q))
set_option maxRecDepth 100000 in
set_option maxHeartbeats 4000000 in
theorem A133_63 {l : Launch} {X : aX} {d : Nat} {r : Option Value} {h' : aH} {v1 : Int32} {v2 : Int32} {v3 : Int32} {v4 : Int32} {s0 : Int32} {q : aQ} (hd : 1 ≤ d) (hN : h'.1 = nk0) (hG : gI r h' (F133_63 v1 v2 v3 v4 s0 q)) (hS : S133_63 v1 v2 v3 v4 s0 q) : AW l X 133 c133 d r h' 63 [some (.ref 650), some (.int v1), some (.int v2), some (.int v3), some (.int v4), none] [.int s0] (hp q) := by
  unfold F133_63 at hG
  unfold S133_63 at hS
  refine x_run (pc' := 66) (lo' := [some (.ref 650), some (.int v1), some (.int v2), some (.int v3), some (.int v4), some (.int s0)]) (st' := [.ref 650]) 2 rfl ?_
  refine x_gf (c := 576) (ne := 0) (v := .int (q.1 650 0)) rfl (by decide +kernel) rfl rfl ?_
  refine x_run (pc' := 71) (lo' := [some (.ref 650), some (.int v1), some (.int v2), some (.int v3), some (.int v4), some (.int s0)]) (st' := [.int 60, .int (q.1 650 0)]) 1 rfl ?_
  refine x_ic 98 rfl rfl (fun (hc4 : (q.1 650 0) = 60) => ?_) (fun (hc4 : ¬ (q.1 650 0) = 60) => ?_)
  · rw [if_pos hc4] at hG
    replace hS := hS.1 hc4
    refine x_run (pc' := 99) (lo' := [some (.ref 650), some (.int v1), some (.int v2), some (.int v3), some (.int v4), some (.int s0)]) (st' := [.int (-1)]) 1 rfl ?_
    obtain ⟨rfl, rfl⟩ := hG
    exact x_iret rfl (by decide +kernel)
  · rw [if_neg hc4] at hG
    replace hS := hS.2 hc4
    refine x_run (pc' := 75) (lo' := [some (.ref 650), some (.int v1), some (.int v2), some (.int v3), some (.int v4), some (.int s0)]) (st' := [.int v3]) 1 rfl ?_
    refine x_if 100 rfl rfl (fun (hc5 : ¬ v3 = 0) => ?_) (fun (hc5 : v3 = 0) => ?_)
    · rw [if_neg hc5] at hG
      replace hS := hS.2 hc5
      refine x_kill [3, 4, 5] ?_
      exact A133_100 hd hN hG hS
    · rw [if_pos hc5] at hG
      replace hS := hS.1 hc5
      refine x_run (pc' := 80) (lo' := [some (.ref 650), some (.int v1), some (.int v2), some (.int v3), some (.int v4), some (.int s0)]) (st' := [.int v4]) 1 rfl ?_
      refine x_if 100 rfl rfl (fun (hc9 : ¬ v4 = 0) => ?_) (fun (hc9 : v4 = 0) => ?_)
      · rw [if_neg hc9] at hG
        replace hS := hS.2 hc9
        refine x_kill [3, 4, 5] ?_
        exact A133_100 hd hN hG hS
      · rw [if_pos hc9] at hG
        replace hS := hS.1 hc9
        refine x_run (pc' := 85) (lo' := [some (.ref 650), some (.int v1), some (.int v2), some (.int v3), some (.int v4), some (.int s0)]) (st' := [.int s0]) 1 rfl ?_
        refine x_if 100 rfl rfl (fun (hc10 : ¬ s0 = 0) => ?_) (fun (hc10 : s0 = 0) => ?_)
        · rw [if_neg hc10] at hG
          replace hS := hS.2 hc10
          refine x_kill [3, 4, 5] ?_
          exact A133_100 hd hN hG hS
        · rw [if_pos hc10] at hG
          replace hS := hS.1 hc10
          refine x_run (pc' := 90) (lo' := [some (.ref 650), some (.int v1), some (.int v2), some (.int v3), some (.int v4), some (.int s0)]) (st' := [.int 2, .int v1]) 2 rfl ?_
          refine x_ic 100 rfl rfl (fun (hc11 : v1 = 2) => ?_) (fun (hc11 : ¬ v1 = 2) => ?_)
          · rw [if_pos hc11] at hG
            replace hS := hS.1 hc11
            refine x_kill [3, 4, 5] ?_
            exact A133_100 hd hN hG hS
          · rw [if_neg hc11] at hG
            replace hS := hS.2 hc11
            refine x_run (pc' := 95) (lo' := [some (.ref 650), some (.int v1), some (.int v2), some (.int v3), some (.int v4), some (.int s0)]) (st' := [.int 4, .int v1]) 2 rfl ?_
            refine x_ic 100 rfl rfl (fun (hc12 : v1 = 4) => ?_) (fun (hc12 : ¬ v1 = 4) => ?_)
            · rw [if_pos hc12] at hG
              replace hS := hS.1 hc12
              refine x_kill [3, 4, 5] ?_
              exact A133_100 hd hN hG hS
            · rw [if_neg hc12] at hG
              replace hS := hS.2 hc12
              refine x_run (pc' := 99) (lo' := [some (.ref 650), some (.int v1), some (.int v2), some (.int v3), some (.int v4), some (.int s0)]) (st' := [.int (-1)]) 1 rfl ?_
              obtain ⟨rfl, rfl⟩ := hG
              exact x_iret rfl (by decide +kernel)
def F133_62 (v1 : Int32) (v2 : Int32) (v3 : Int32) (v4 : Int32) (q : aQ) : Int32 × aQ := F133_63 v1 v2 v3 v4 0 q
def S133_62 (v1 : Int32) (v2 : Int32) (v3 : Int32) (v4 : Int32) (q : aQ) : Prop := S133_63 v1 v2 v3 v4 0 q
set_option maxRecDepth 100000 in
set_option maxHeartbeats 4000000 in
theorem A133_62 {l : Launch} {X : aX} {d : Nat} {r : Option Value} {h' : aH} {v1 : Int32} {v2 : Int32} {v3 : Int32} {v4 : Int32} {q : aQ} (hd : 1 ≤ d) (hN : h'.1 = nk0) (hG : gI r h' (F133_62 v1 v2 v3 v4 q)) (hS : S133_62 v1 v2 v3 v4 q) : AW l X 133 c133 d r h' 62 [some (.ref 650), some (.int v1), some (.int v2), some (.int v3), some (.int v4), none] [] (hp q) := by
  unfold F133_62 at hG
  unfold S133_62 at hS
  refine x_run (pc' := 63) (lo' := [some (.ref 650), some (.int v1), some (.int v2), some (.int v3), some (.int v4), none]) (st' := [.int 0]) 1 rfl ?_
  exact A133_63 hd hN hG hS
def F133_42 (v1 : Int32) (v2 : Int32) (v3 : Int32) (s0 : Int32) (q : aQ) : Int32 × aQ := (if v1 = 3 then (if v2 < 0 then F133_62 v1 v2 v3 s0 q else (if 4 < v2 then F133_62 v1 v2 v3 s0 q else F133_63 v1 v2 v3 s0 1 q)) else F133_62 v1 v2 v3 s0 q)
def S133_42 (v1 : Int32) (v2 : Int32) (v3 : Int32) (s0 : Int32) (q : aQ) : Prop := ((v1 = 3) → ((v2 < 0) → S133_62 v1 v2 v3 s0 q) ∧ (¬ (v2 < 0) → ((4 < v2) → S133_62 v1 v2 v3 s0 q) ∧ (¬ (4 < v2) → S133_63 v1 v2 v3 s0 1 q))) ∧ (¬ (v1 = 3) → S133_62 v1 v2 v3 s0 q)
set_option maxRecDepth 100000 in
set_option maxHeartbeats 4000000 in
theorem A133_42 {l : Launch} {X : aX} {d : Nat} {r : Option Value} {h' : aH} {v1 : Int32} {v2 : Int32} {v3 : Int32} {s0 : Int32} {q : aQ} (hd : 1 ≤ d) (hN : h'.1 = nk0) (hG : gI r h' (F133_42 v1 v2 v3 s0 q)) (hS : S133_42 v1 v2 v3 s0 q) : AW l X 133 c133 d r h' 42 [some (.ref 650), some (.int v1), some (.int v2), some (.int v3), none, none] [.int s0] (hp q) := by
  unfold F133_42 at hG
  unfold S133_42 at hS
  refine x_run (pc' := 46) (lo' := [some (.ref 650), some (.int v1), some (.int v2), some (.int v3), some (.int s0), none]) (st' := [.int 3, .int v1]) 3 rfl ?_
  refine x_ic 62 rfl rfl (fun (hc3 : ¬ v1 = 3) => ?_) (fun (hc3 : v1 = 3) => ?_)
  · rw [if_neg hc3] at hG
    replace hS := hS.2 hc3
    exact A133_62 hd hN hG hS
  · rw [if_pos hc3] at hG
    replace hS := hS.1 hc3
    refine x_run (pc' := 50) (lo' := [some (.ref 650), some (.int v1), some (.int v2), some (.int v3), some (.int s0), none]) (st' := [.int v2]) 1 rfl ?_
    refine x_if 62 rfl rfl (fun (hc13 : v2 < 0) => ?_) (fun (hc13 : ¬ v2 < 0) => ?_)
    · rw [if_pos hc13] at hG
      replace hS := hS.1 hc13
      exact A133_62 hd hN hG hS
    · rw [if_neg hc13] at hG
      replace hS := hS.2 hc13
      refine x_run (pc' := 55) (lo' := [some (.ref 650), some (.int v1), some (.int v2), some (.int v3), some (.int s0), none]) (st' := [.int 4, .int v2]) 2 rfl ?_
      refine x_ic 62 rfl rfl (fun (hc14 : 4 < v2) => ?_) (fun (hc14 : ¬ 4 < v2) => ?_)
      · rw [if_pos hc14] at hG
        replace hS := hS.1 hc14
        exact A133_62 hd hN hG hS
      · rw [if_neg hc14] at hG
        replace hS := hS.2 hc14
        refine x_run (pc' := 63) (lo' := [some (.ref 650), some (.int v1), some (.int v2), some (.int v3), some (.int s0), none]) (st' := [.int 1]) 2 rfl ?_
        exact A133_63 hd hN hG hS
def F133_41 (v1 : Int32) (v2 : Int32) (v3 : Int32) (q : aQ) : Int32 × aQ := F133_42 v1 v2 v3 0 q
def S133_41 (v1 : Int32) (v2 : Int32) (v3 : Int32) (q : aQ) : Prop := S133_42 v1 v2 v3 0 q
set_option maxRecDepth 100000 in
set_option maxHeartbeats 4000000 in
theorem A133_41 {l : Launch} {X : aX} {d : Nat} {r : Option Value} {h' : aH} {v1 : Int32} {v2 : Int32} {v3 : Int32} {q : aQ} (hd : 1 ≤ d) (hN : h'.1 = nk0) (hG : gI r h' (F133_41 v1 v2 v3 q)) (hS : S133_41 v1 v2 v3 q) : AW l X 133 c133 d r h' 41 [some (.ref 650), some (.int v1), some (.int v2), some (.int v3), none, none] [] (hp q) := by
  unfold F133_41 at hG
  unfold S133_41 at hS
  refine x_run (pc' := 42) (lo' := [some (.ref 650), some (.int v1), some (.int v2), some (.int v3), none, none]) (st' := [.int 0]) 1 rfl ?_
  exact A133_42 hd hN hG hS
def F133_21 (v1 : Int32) (v2 : Int32) (s0 : Int32) (q : aQ) : Int32 × aQ := (if v1 = 1 then (if v2 < 0 then F133_41 v1 v2 s0 q else (if 1000000000 < v2 then F133_41 v1 v2 s0 q else F133_42 v1 v2 s0 1 q)) else F133_41 v1 v2 s0 q)
def S133_21 (v1 : Int32) (v2 : Int32) (s0 : Int32) (q : aQ) : Prop := ((v1 = 1) → ((v2 < 0) → S133_41 v1 v2 s0 q) ∧ (¬ (v2 < 0) → ((1000000000 < v2) → S133_41 v1 v2 s0 q) ∧ (¬ (1000000000 < v2) → S133_42 v1 v2 s0 1 q))) ∧ (¬ (v1 = 1) → S133_41 v1 v2 s0 q)
set_option maxRecDepth 100000 in
set_option maxHeartbeats 4000000 in
theorem A133_21 {l : Launch} {X : aX} {d : Nat} {r : Option Value} {h' : aH} {v1 : Int32} {v2 : Int32} {s0 : Int32} {q : aQ} (hd : 1 ≤ d) (hN : h'.1 = nk0) (hG : gI r h' (F133_21 v1 v2 s0 q)) (hS : S133_21 v1 v2 s0 q) : AW l X 133 c133 d r h' 21 [some (.ref 650), some (.int v1), some (.int v2), none, none, none] [.int s0] (hp q) := by
  unfold F133_21 at hG
  unfold S133_21 at hS
  refine x_run (pc' := 24) (lo' := [some (.ref 650), some (.int v1), some (.int v2), some (.int s0), none, none]) (st' := [.int 1, .int v1]) 3 rfl ?_
  refine x_ic 41 rfl rfl (fun (hc2 : ¬ v1 = 1) => ?_) (fun (hc2 : v1 = 1) => ?_)
  · rw [if_neg hc2] at hG
    replace hS := hS.2 hc2
    exact A133_41 hd hN hG hS
  · rw [if_pos hc2] at hG
    replace hS := hS.1 hc2
    refine x_run (pc' := 28) (lo' := [some (.ref 650), some (.int v1), some (.int v2), some (.int s0), none, none]) (st' := [.int v2]) 1 rfl ?_
    refine x_if 41 rfl rfl (fun (hc15 : v2 < 0) => ?_) (fun (hc15 : ¬ v2 < 0) => ?_)
    · rw [if_pos hc15] at hG
      replace hS := hS.1 hc15
      exact A133_41 hd hN hG hS
    · rw [if_neg hc15] at hG
      replace hS := hS.2 hc15
      refine x_run (pc' := 32) (lo' := [some (.ref 650), some (.int v1), some (.int v2), some (.int s0), none, none]) (st' := [.int v2]) 1 rfl ?_
      refine x_ldc (v := 1000000000) (ne := 0) rfl (by decide +kernel) ?_
      refine x_ic 41 rfl rfl (fun (hc16 : 1000000000 < v2) => ?_) (fun (hc16 : ¬ 1000000000 < v2) => ?_)
      · rw [if_pos hc16] at hG
        replace hS := hS.1 hc16
        exact A133_41 hd hN hG hS
      · rw [if_neg hc16] at hG
        replace hS := hS.2 hc16
        refine x_run (pc' := 42) (lo' := [some (.ref 650), some (.int v1), some (.int v2), some (.int s0), none, none]) (st' := [.int 1]) 2 rfl ?_
        exact A133_42 hd hN hG hS
def F133_20 (v1 : Int32) (v2 : Int32) (q : aQ) : Int32 × aQ := F133_21 v1 v2 0 q
def S133_20 (v1 : Int32) (v2 : Int32) (q : aQ) : Prop := S133_21 v1 v2 0 q
set_option maxRecDepth 100000 in
set_option maxHeartbeats 4000000 in
theorem A133_20 {l : Launch} {X : aX} {d : Nat} {r : Option Value} {h' : aH} {v1 : Int32} {v2 : Int32} {q : aQ} (hd : 1 ≤ d) (hN : h'.1 = nk0) (hG : gI r h' (F133_20 v1 v2 q)) (hS : S133_20 v1 v2 q) : AW l X 133 c133 d r h' 20 [some (.ref 650), some (.int v1), some (.int v2), none, none, none] [] (hp q) := by
  unfold F133_20 at hG
  unfold S133_20 at hS
  refine x_run (pc' := 21) (lo' := [some (.ref 650), some (.int v1), some (.int v2), none, none, none]) (st' := [.int 0]) 1 rfl ?_
  exact A133_21 hd hN hG hS
def F133_0 (v1 : Int32) (v2 : Int32) (q : aQ) : Int32 × aQ := (if v1 = 0 then (if v2 < (-1000000000) then F133_20 v1 v2 q else (if 1000000000 < v2 then F133_20 v1 v2 q else F133_21 v1 v2 1 q)) else F133_20 v1 v2 q)
def S133_0 (v1 : Int32) (v2 : Int32) (q : aQ) : Prop := ((v1 = 0) → ((v2 < (-1000000000)) → S133_20 v1 v2 q) ∧ (¬ (v2 < (-1000000000)) → ((1000000000 < v2) → S133_20 v1 v2 q) ∧ (¬ (1000000000 < v2) → S133_21 v1 v2 1 q))) ∧ (¬ (v1 = 0) → S133_20 v1 v2 q)
set_option maxRecDepth 100000 in
set_option maxHeartbeats 4000000 in
theorem A133_0 {l : Launch} {X : aX} {d : Nat} {r : Option Value} {h' : aH} {v1 : Int32} {v2 : Int32} {q : aQ} (hd : 1 ≤ d) (hN : h'.1 = nk0) (hG : gI r h' (F133_0 v1 v2 q)) (hS : S133_0 v1 v2 q) : AW l X 133 c133 d r h' 0 [some (.ref 650), some (.int v1), some (.int v2), none, none, none] [] (hp q) := by
  unfold F133_0 at hG
  unfold S133_0 at hS
  refine x_run (pc' := 1) (lo' := [some (.ref 650), some (.int v1), some (.int v2), none, none, none]) (st' := [.int v1]) 1 rfl ?_
  refine x_if 20 rfl rfl (fun (hc1 : ¬ v1 = 0) => ?_) (fun (hc1 : v1 = 0) => ?_)
  · rw [if_neg hc1] at hG
    replace hS := hS.2 hc1
    exact A133_20 hd hN hG hS
  · rw [if_pos hc1] at hG
    replace hS := hS.1 hc1
    refine x_run (pc' := 5) (lo' := [some (.ref 650), some (.int v1), some (.int v2), none, none, none]) (st' := [.int v2]) 1 rfl ?_
    refine x_ldc (v := (-1000000000)) (ne := 0) rfl (by decide +kernel) ?_
    refine x_ic 20 rfl rfl (fun (hc17 : v2 < (-1000000000)) => ?_) (fun (hc17 : ¬ v2 < (-1000000000)) => ?_)
    · rw [if_pos hc17] at hG
      replace hS := hS.1 hc17
      exact A133_20 hd hN hG hS
    · rw [if_neg hc17] at hG
      replace hS := hS.2 hc17
      refine x_run (pc' := 11) (lo' := [some (.ref 650), some (.int v1), some (.int v2), none, none, none]) (st' := [.int v2]) 1 rfl ?_
      refine x_ldc (v := 1000000000) (ne := 0) rfl (by decide +kernel) ?_
      refine x_ic 20 rfl rfl (fun (hc18 : 1000000000 < v2) => ?_) (fun (hc18 : ¬ 1000000000 < v2) => ?_)
      · rw [if_pos hc18] at hG
        replace hS := hS.1 hc18
        exact A133_20 hd hN hG hS
      · rw [if_neg hc18] at hG
        replace hS := hS.2 hc18
        refine x_run (pc' := 21) (lo' := [some (.ref 650), some (.int v1), some (.int v2), none, none, none]) (st' := [.int 1]) 2 rfl ?_
        exact A133_21 hd hN hG hS
theorem T133 {l : Launch} {X : aX} {d : Nat} {v1 : Int32} {v2 : Int32} {q : aQ} (hd : 1 ≤ d) (hS : S133_0 v1 v2 q) : Call l X d 133 [.ref 650, .int v1, .int v2] (hp q) (some (.int (F133_0 v1 v2 q).1)) (hp (F133_0 v1 v2 q).2) := Call.of ok133 (by decide) (Nat.le_of_ble_eq_true rfl) ⟨Nat.le_refl _, Nat.le_refl _⟩ (A133_0 hd rfl ⟨rfl, rfl⟩ hS)
/-- TypeForecastModel.isExpression(I)Z -/
def F134_0 (v1 : Int32) (q : aQ) : Int32 := (if v1 < 0 then 0 else (if (q.1 650 0) ≤ v1 then 0 else 1))
def S134_0 (v1 : Int32) (q : aQ) : Prop := ((v1 < 0) → True) ∧ (¬ (v1 < 0) → (((q.1 650 0) ≤ v1) → True) ∧ (¬ ((q.1 650 0) ≤ v1) → True))
set_option maxRecDepth 100000 in
set_option maxHeartbeats 4000000 in
theorem A134_0 {l : Launch} {X : aX} {d : Nat} {r : Option Value} {h' : aH} {v1 : Int32} {q : aQ} (hd : 1 ≤ d) (hN : h'.1 = nk0) (hG : gI r h' (F134_0 v1 q, q)) (hS : S134_0 v1 q) : AW l X 134 c134 d r h' 0 [some (.ref 650), some (.int v1)] [] (hp q) := by
  unfold F134_0 at hG
  unfold S134_0 at hS
  refine x_run (pc' := 1) (lo' := [some (.ref 650), some (.int v1)]) (st' := [.int v1]) 1 rfl ?_
  refine x_if 16 rfl rfl (fun (hc1 : v1 < 0) => ?_) (fun (hc1 : ¬ v1 < 0) => ?_)
  · rw [if_pos hc1] at hG
    replace hS := hS.1 hc1
    refine x_run (pc' := 17) (lo' := [some (.ref 650), some (.int v1)]) (st' := [.int 0]) 1 rfl ?_
    obtain ⟨rfl, rfl⟩ := hG
    exact x_zret rfl (by decide +kernel) (Or.inl rfl)
  · rw [if_neg hc1] at hG
    replace hS := hS.2 hc1
    refine x_run (pc' := 6) (lo' := [some (.ref 650), some (.int v1)]) (st' := [.ref 650, .int v1]) 2 rfl ?_
    refine x_gf (c := 576) (ne := 0) (v := .int (q.1 650 0)) rfl (by decide +kernel) rfl rfl ?_
    refine x_ic 16 rfl rfl (fun (hc2 : (q.1 650 0) ≤ v1) => ?_) (fun (hc2 : ¬ (q.1 650 0) ≤ v1) => ?_)
    · rw [if_pos hc2] at hG
      replace hS := hS.1 hc2
      refine x_run (pc' := 17) (lo' := [some (.ref 650), some (.int v1)]) (st' := [.int 0]) 1 rfl ?_
      obtain ⟨rfl, rfl⟩ := hG
      exact x_zret rfl (by decide +kernel) (Or.inl rfl)
    · rw [if_neg hc2] at hG
      replace hS := hS.2 hc2
      refine x_run (pc' := 17) (lo' := [some (.ref 650), some (.int v1)]) (st' := [.int 1]) 2 rfl ?_
      obtain ⟨rfl, rfl⟩ := hG
      exact x_zret rfl (by decide +kernel) (Or.inr rfl)
theorem T134 {l : Launch} {X : aX} {d : Nat} {v1 : Int32} {q : aQ} (hd : 1 ≤ d) (hS : S134_0 v1 q) : Call l X d 134 [.ref 650, .int v1] (hp q) (some (.int (F134_0 v1 q))) (hp q) := Call.of ok134 (by decide) (Nat.le_of_ble_eq_true rfl) ⟨Nat.le_refl _, Nat.le_refl _⟩ (A134_0 hd rfl ⟨rfl, rfl⟩ hS)
/-- TypeForecastModel.apply(III)I -/
def F135_84 (v1 : Int32) (v2 : Int32) (v3 : Int32) (s0 : Int32) (s1 : Int32) (q : aQ) : Int32 × aQ := (if (s1 + s0) ≤ 15 then ((((q.1 650 0) + 1) - 1), (a_w (a_w (a_w (a_w (a_w q 651 (Int32.toNatClampNeg (q.1 650 0)) (10 + v1)) 652 (Int32.toNatClampNeg (q.1 650 0)) v2) 653 (Int32.toNatClampNeg (q.1 650 0)) v3) 654 (Int32.toNatClampNeg (q.1 650 0)) (s1 + s0)) 650 0 ((q.1 650 0) + 1))) else ((-1), q))
def S135_84 (v1 : Int32) (v2 : Int32) (v3 : Int32) (s0 : Int32) (s1 : Int32) (q : aQ) : Prop := (((s1 + s0) ≤ 15) → vp_in (q.1 650 0) 60 ∧ (vp_in (q.1 650 0) 60 ∧ (vp_in (q.1 650 0) 60 ∧ (vp_in (q.1 650 0) 60 ∧ (True))))) ∧ (¬ ((s1 + s0) ≤ 15) → True)
set_option maxRecDepth 100000 in
set_option maxHeartbeats 4000000 in
theorem A135_84 {l : Launch} {X : aX} {d : Nat} {r : Option Value} {h' : aH} {v1 : Int32} {v2 : Int32} {v3 : Int32} {s0 : Int32} {s1 : Int32} {q : aQ} (hd : 2 ≤ d) (hN : h'.1 = nk0) (hG : gI r h' (F135_84 v1 v2 v3 s0 s1 q)) (hS : S135_84 v1 v2 v3 s0 s1 q) : AW l X 135 c135 d r h' 84 [some (.ref 650), some (.int v1), some (.int v2), some (.int v3), none, none] [.int s0, .int s1] (hp q) := by
  unfold F135_84 at hG
  unfold S135_84 at hS
  refine x_run (pc' := 91) (lo' := [some (.ref 650), some (.int v1), some (.int v2), some (.int v3), none, some (.int (s1 + s0))]) (st' := [.int 15, .int (s1 + s0)]) 4 rfl ?_
  refine x_ic 96 rfl rfl (fun (hc11 : (s1 + s0) ≤ 15) => ?_) (fun (hc11 : ¬ (s1 + s0) ≤ 15) => ?_)
  · rw [if_pos hc11] at hG
    replace hS := hS.1 hc11
    refine x_run (pc' := 97) (lo' := [some (.ref 650), some (.int v1), some (.int v2), some (.int v3), none, some (.int (s1 + s0))]) (st' := [.ref 650]) 1 rfl ?_
    refine x_gf (c := 577) (ne := 0) (v := .ref 651) rfl (by decide +kernel) rfl rfl ?_
    refine x_run (pc' := 101) (lo' := [some (.ref 650), some (.int v1), some (.int v2), some (.int v3), none, some (.int (s1 + s0))]) (st' := [.ref 650, .ref 651]) 1 rfl ?_
    refine x_gf (c := 576) (ne := 0) (v := .int (q.1 650 0)) rfl (by decide +kernel) rfl rfl ?_
    refine x_run (pc' := 108) (lo' := [some (.ref 650), some (.int v1), some (.int v2), some (.int v3), none, some (.int (s1 + s0))]) (st' := [.int (10 + v1), .int (q.1 650 0), .ref 651]) 3 rfl ?_
    obtain ⟨o12, hS⟩ := hS
    refine p_is (n := 60) rfl rfl o12 ?_
    refine x_run (pc' := 110) (lo' := [some (.ref 650), some (.int v1), some (.int v2), some (.int v3), none, some (.int (s1 + s0))]) (st' := [.ref 650]) 1 rfl ?_
    refine x_gf (c := 578) (ne := 0) (v := .ref 652) rfl (by decide +kernel) rfl rfl ?_
    refine x_run (pc' := 114) (lo' := [some (.ref 650), some (.int v1), some (.int v2), some (.int v3), none, some (.int (s1 + s0))]) (st' := [.ref 650, .ref 652]) 1 rfl ?_
    refine x_gf (c := 576) (ne := 0) (v := .int (q.1 650 0)) rfl (by decide +kernel) rfl rfl ?_
    refine x_run (pc' := 118) (lo' := [some (.ref 650), some (.int v1), some (.int v2), some (.int v3), none, some (.int (s1 + s0))]) (st' := [.int v2, .int (q.1 650 0), .ref 652]) 1 rfl ?_
    obtain ⟨o13, hS⟩ := hS
    refine p_is (n := 60) rfl rfl o13 ?_
    refine x_run (pc' := 120) (lo' := [some (.ref 650), some (.int v1), some (.int v2), some (.int v3), none, some (.int (s1 + s0))]) (st' := [.ref 650]) 1 rfl ?_
    refine x_gf (c := 579) (ne := 0) (v := .ref 653) rfl (by decide +kernel) rfl rfl ?_
    refine x_run (pc' := 124) (lo' := [some (.ref 650), some (.int v1), some (.int v2), some (.int v3), none, some (.int (s1 + s0))]) (st' := [.ref 650, .ref 653]) 1 rfl ?_
    refine x_gf (c := 576) (ne := 0) (v := .int (q.1 650 0)) rfl (by decide +kernel) rfl rfl ?_
    refine x_run (pc' := 128) (lo' := [some (.ref 650), some (.int v1), some (.int v2), some (.int v3), none, some (.int (s1 + s0))]) (st' := [.int v3, .int (q.1 650 0), .ref 653]) 1 rfl ?_
    obtain ⟨o14, hS⟩ := hS
    refine p_is (n := 60) rfl rfl o14 ?_
    refine x_run (pc' := 130) (lo' := [some (.ref 650), some (.int v1), some (.int v2), some (.int v3), none, some (.int (s1 + s0))]) (st' := [.ref 650]) 1 rfl ?_
    refine x_gf (c := 580) (ne := 0) (v := .ref 654) rfl (by decide +kernel) rfl rfl ?_
    refine x_run (pc' := 134) (lo' := [some (.ref 650), some (.int v1), some (.int v2), some (.int v3), none, some (.int (s1 + s0))]) (st' := [.ref 650, .ref 654]) 1 rfl ?_
    refine x_gf (c := 576) (ne := 0) (v := .int (q.1 650 0)) rfl (by decide +kernel) rfl rfl ?_
    refine x_run (pc' := 139) (lo' := [some (.ref 650), some (.int v1), some (.int v2), some (.int v3), none, some (.int (s1 + s0))]) (st' := [.int (s1 + s0), .int (q.1 650 0), .ref 654]) 1 rfl ?_
    obtain ⟨o15, hS⟩ := hS
    refine p_is (n := 60) rfl rfl o15 ?_
    refine x_run (pc' := 142) (lo' := [some (.ref 650), some (.int v1), some (.int v2), some (.int v3), none, some (.int (s1 + s0))]) (st' := [.ref 650, .ref 650]) 2 rfl ?_
    refine x_gf (c := 576) (ne := 0) (v := .int (q.1 650 0)) rfl (by decide +kernel) rfl rfl ?_
    refine x_run (pc' := 147) (lo' := [some (.ref 650), some (.int v1), some (.int v2), some (.int v3), none, some (.int (s1 + s0))]) (st' := [.int ((q.1 650 0) + 1), .ref 650]) 2 rfl ?_
    refine x_pf (c := 576) (ne := 0) (h2 := hp (a_w (a_w (a_w (a_w (a_w q 651 (Int32.toNatClampNeg (q.1 650 0)) (10 + v1)) 652 (Int32.toNatClampNeg (q.1 650 0)) v2) 653 (Int32.toNatClampNeg (q.1 650 0)) v3) 654 (Int32.toNatClampNeg (q.1 650 0)) (s1 + s0)) 650 0 ((q.1 650 0) + 1))) rfl (by decide +kernel) (by decide +kernel) rfl (pv_i rfl) ?_
    refine x_run (pc' := 151) (lo' := [some (.ref 650), some (.int v1), some (.int v2), some (.int v3), none, some (.int (s1 + s0))]) (st' := [.ref 650]) 1 rfl ?_
    refine x_gf (c := 576) (ne := 0) (v := .int ((q.1 650 0) + 1)) rfl (by decide +kernel) rfl rfl ?_
    refine x_run (pc' := 156) (lo' := [some (.ref 650), some (.int v1), some (.int v2), some (.int v3), none, some (.int (s1 + s0))]) (st' := [.int (((q.1 650 0) + 1) - 1)]) 2 rfl ?_
    obtain ⟨rfl, rfl⟩ := hG
    exact x_iret rfl (by decide +kernel)
  · rw [if_neg hc11] at hG
    replace hS := hS.2 hc11
    refine x_run (pc' := 95) (lo' := [some (.ref 650), some (.int v1), some (.int v2), some (.int v3), none, some (.int (s1 + s0))]) (st' := [.int (-1)]) 1 rfl ?_
    obtain ⟨rfl, rfl⟩ := hG
    exact x_iret rfl (by decide +kernel)
def F135_61 (v1 : Int32) (v2 : Int32) (v3 : Int32) (v4 : Int32) (q : aQ) : Int32 × aQ := (if v4 = 0 then F135_84 v1 v2 v3 (q.1 654 (Int32.toNatClampNeg v3)) (1 + (q.1 654 (Int32.toNatClampNeg v2))) q else F135_84 v1 v2 v3 0 (1 + (q.1 654 (Int32.toNatClampNeg v2))) q)
def S135_61 (v1 : Int32) (v2 : Int32) (v3 : Int32) (v4 : Int32) (q : aQ) : Prop := vp_in v2 60 ∧ (((v4 = 0) → vp_in v3 60 ∧ (S135_84 v1 v2 v3 (q.1 654 (Int32.toNatClampNeg v3)) (1 + (q.1 654 (Int32.toNatClampNeg v2))) q)) ∧ (¬ (v4 = 0) → S135_84 v1 v2 v3 0 (1 + (q.1 654 (Int32.toNatClampNeg v2))) q))
set_option maxRecDepth 100000 in
set_option maxHeartbeats 4000000 in
theorem A135_61 {l : Launch} {X : aX} {d : Nat} {r : Option Value} {h' : aH} {v1 : Int32} {v2 : Int32} {v3 : Int32} {v4 : Int32} {q : aQ} (hd : 2 ≤ d) (hN : h'.1 = nk0) (hG : gI r h' (F135_61 v1 v2 v3 v4 q)) (hS : S135_61 v1 v2 v3 v4 q) : AW l X 135 c135 d r h' 61 [some (.ref 650), some (.int v1), some (.int v2), some (.int v3), some (.int v4), none] [] (hp q) := by
  unfold F135_61 at hG
  unfold S135_61 at hS
  refine x_run (pc' := 63) (lo' := [some (.ref 650), some (.int v1), some (.int v2), some (.int v3), some (.int v4), none]) (st' := [.ref 650, .int 1]) 2 rfl ?_
  refine x_gf (c := 580) (ne := 0) (v := .ref 654) rfl (by decide +kernel) rfl rfl ?_
  refine x_run (pc' := 67) (lo' := [some (.ref 650), some (.int v1), some (.int v2), some (.int v3), some (.int v4), none]) (st' := [.int v2, .ref 654, .int 1]) 1 rfl ?_
  obtain ⟨o8, hS⟩ := hS
  refine p_ia (n := 60) (v := (q.1 654 (Int32.toNatClampNeg v2))) rfl rfl o8 rfl ?_
  refine x_run (pc' := 71) (lo' := [some (.ref 650), some (.int v1), some (.int v2), some (.int v3), some (.int v4), none]) (st' := [.int v4, .int (1 + (q.1 654 (Int32.toNatClampNeg v2)))]) 2 rfl ?_
  refine x_if 78 rfl rfl (fun (hc9 : v4 = 0) => ?_) (fun (hc9 : ¬ v4 = 0) => ?_)
  · rw [if_pos hc9] at hG
    replace hS := hS.1 hc9
    refine x_run (pc' := 79) (lo' := [some (.ref 650), some (.int v1), some (.int v2), some (.int v3), some (.int v4), none]) (st' := [.ref 650, .int (1 + (q.1 654 (Int32.toNatClampNeg v2)))]) 1 rfl ?_
    refine x_gf (c := 580) (ne := 0) (v := .ref 654) rfl (by decide +kernel) rfl rfl ?_
    refine x_run (pc' := 83) (lo' := [some (.ref 650), some (.int v1), some (.int v2), some (.int v3), some (.int v4), none]) (st' := [.int v3, .ref 654, .int (1 + (q.1 654 (Int32.toNatClampNeg v2)))]) 1 rfl ?_
    obtain ⟨o10, hS⟩ := hS
    refine p_ia (n := 60) (v := (q.1 654 (Int32.toNatClampNeg v3))) rfl rfl o10 rfl ?_
    refine x_kill [4] ?_
    exact A135_84 hd hN hG hS
  · rw [if_neg hc9] at hG
    replace hS := hS.2 hc9
    refine x_run (pc' := 84) (lo' := [some (.ref 650), some (.int v1), some (.int v2), some (.int v3), some (.int v4), none]) (st' := [.int 0, .int (1 + (q.1 654 (Int32.toNatClampNeg v2)))]) 2 rfl ?_
    refine x_kill [4] ?_
    exact A135_84 hd hN hG hS
def F135_17 (v1 : Int32) (v2 : Int32) (v3 : Int32) (s0 : Int32) (q : aQ) : Int32 × aQ := (if (q.1 650 0) = 60 then ((-1), q) else (if v1 < 0 then ((-1), q) else (if 7 < v1 then ((-1), q) else (if (F134_0 v2 q) = 0 then ((-1), q) else (if s0 = 0 then (if (F134_0 v3 q) = 0 then ((-1), q) else F135_61 v1 v2 v3 s0 q) else F135_61 v1 v2 v3 s0 q)))))
def S135_17 (v1 : Int32) (v2 : Int32) (v3 : Int32) (s0 : Int32) (q : aQ) : Prop := (((q.1 650 0) = 60) → True) ∧ (¬ ((q.1 650 0) = 60) → ((v1 < 0) → True) ∧ (¬ (v1 < 0) → ((7 < v1) → True) ∧ (¬ (7 < v1) → S134_0 v2 q ∧ ((((F134_0 v2 q) = 0) → True) ∧ (¬ ((F134_0 v2 q) = 0) → ((s0 = 0) → S134_0 v3 q ∧ ((((F134_0 v3 q) = 0) → True) ∧ (¬ ((F134_0 v3 q) = 0) → S135_61 v1 v2 v3 s0 q))) ∧ (¬ (s0 = 0) → S135_61 v1 v2 v3 s0 q))))))
set_option maxRecDepth 100000 in
set_option maxHeartbeats 4000000 in
theorem A135_17 {l : Launch} {X : aX} {d : Nat} {r : Option Value} {h' : aH} {v1 : Int32} {v2 : Int32} {v3 : Int32} {s0 : Int32} {q : aQ} (hd : 2 ≤ d) (hN : h'.1 = nk0) (hG : gI r h' (F135_17 v1 v2 v3 s0 q)) (hS : S135_17 v1 v2 v3 s0 q) : AW l X 135 c135 d r h' 17 [some (.ref 650), some (.int v1), some (.int v2), some (.int v3), none, none] [.int s0] (hp q) := by
  unfold F135_17 at hG
  unfold S135_17 at hS
  refine x_run (pc' := 20) (lo' := [some (.ref 650), some (.int v1), some (.int v2), some (.int v3), some (.int s0), none]) (st' := [.ref 650]) 2 rfl ?_
  refine x_gf (c := 576) (ne := 0) (v := .int (q.1 650 0)) rfl (by decide +kernel) rfl rfl ?_
  refine x_run (pc' := 25) (lo' := [some (.ref 650), some (.int v1), some (.int v2), some (.int v3), some (.int s0), none]) (st' := [.int 60, .int (q.1 650 0)]) 1 rfl ?_
  refine x_ic 59 rfl rfl (fun (hc2 : (q.1 650 0) = 60) => ?_) (fun (hc2 : ¬ (q.1 650 0) = 60) => ?_)
  · rw [if_pos hc2] at hG
    replace hS := hS.1 hc2
    refine x_run (pc' := 60) (lo' := [some (.ref 650), some (.int v1), some (.int v2), some (.int v3), some (.int s0), none]) (st' := [.int (-1)]) 1 rfl ?_
    obtain ⟨rfl, rfl⟩ := hG
    exact x_iret rfl (by decide +kernel)
  · rw [if_neg hc2] at hG
    replace hS := hS.2 hc2
    refine x_run (pc' := 29) (lo' := [some (.ref 650), some (.int v1), some (.int v2), some (.int v3), some (.int s0), none]) (st' := [.int v1]) 1 rfl ?_
    refine x_if 59 rfl rfl (fun (hc3 : v1 < 0) => ?_) (fun (hc3 : ¬ v1 < 0) => ?_)
    · rw [if_pos hc3] at hG
      replace hS := hS.1 hc3
      refine x_run (pc' := 60) (lo' := [some (.ref 650), some (.int v1), some (.int v2), some (.int v3), some (.int s0), none]) (st' := [.int (-1)]) 1 rfl ?_
      obtain ⟨rfl, rfl⟩ := hG
      exact x_iret rfl (by decide +kernel)
    · rw [if_neg hc3] at hG
      replace hS := hS.2 hc3
      refine x_run (pc' := 35) (lo' := [some (.ref 650), some (.int v1), some (.int v2), some (.int v3), some (.int s0), none]) (st' := [.int 7, .int v1]) 2 rfl ?_
      refine x_ic 59 rfl rfl (fun (hc4 : 7 < v1) => ?_) (fun (hc4 : ¬ 7 < v1) => ?_)
      · rw [if_pos hc4] at hG
        replace hS := hS.1 hc4
        refine x_run (pc' := 60) (lo' := [some (.ref 650), some (.int v1), some (.int v2), some (.int v3), some (.int s0), none]) (st' := [.int (-1)]) 1 rfl ?_
        obtain ⟨rfl, rfl⟩ := hG
        exact x_iret rfl (by decide +kernel)
      · rw [if_neg hc4] at hG
        replace hS := hS.2 hc4
        refine x_run (pc' := 40) (lo' := [some (.ref 650), some (.int v1), some (.int v2), some (.int v3), some (.int s0), none]) (st' := [.int v2, .ref 650]) 2 rfl ?_
        obtain ⟨o5, hS⟩ := hS
        refine x_cv (j := 134) (ne := 0) (vs := [.int v2]) (rest := []) rfl (by decide +kernel) (by decide +kernel) (by decide) (Eq.trans rfl (show 1 = _ from by decide +kernel)) rfl (by decide +kernel) rfl (Nat.le_of_ble_eq_true rfl) (by omega) (T134 (Nat.le_refl 1) o5) (hp_m hN) ?_
        show AW l X 135 c135 d r h' 43 [some (.ref 650), some (.int v1), some (.int v2), some (.int v3), some (.int s0), none] [.int (F134_0 v2 q)] (hp q)
        refine x_if 59 rfl rfl (fun (hc6 : (F134_0 v2 q) = 0) => ?_) (fun (hc6 : ¬ (F134_0 v2 q) = 0) => ?_)
        · rw [if_pos hc6] at hG
          replace hS := hS.1 hc6
          refine x_run (pc' := 60) (lo' := [some (.ref 650), some (.int v1), some (.int v2), some (.int v3), some (.int s0), none]) (st' := [.int (-1)]) 1 rfl ?_
          obtain ⟨rfl, rfl⟩ := hG
          exact x_iret rfl (by decide +kernel)
        · rw [if_neg hc6] at hG
          replace hS := hS.2 hc6
          refine x_run (pc' := 48) (lo' := [some (.ref 650), some (.int v1), some (.int v2), some (.int v3), some (.int s0), none]) (st' := [.int s0]) 1 rfl ?_
          refine x_if 61 rfl rfl (fun (hc7 : ¬ s0 = 0) => ?_) (fun (hc7 : s0 = 0) => ?_)
          · rw [if_neg hc7] at hG
            replace hS := hS.2 hc7
            exact A135_61 hd hN hG hS
          · rw [if_pos hc7] at hG
            replace hS := hS.1 hc7
            refine x_run (pc' := 53) (lo' := [some (.ref 650), some (.int v1), some (.int v2), some (.int v3), some (.int s0), none]) (st' := [.int v3, .ref 650]) 2 rfl ?_
            obtain ⟨o16, hS⟩ := hS
            refine x_cv (j := 134) (ne := 0) (vs := [.int v3]) (rest := []) rfl (by decide +kernel) (by decide +kernel) (by decide) (Eq.trans rfl (show 1 = _ from by decide +kernel)) rfl (by decide +kernel) rfl (Nat.le_of_ble_eq_true rfl) (by omega) (T134 (Nat.le_refl 1) o16) (hp_m hN) ?_
            show AW l X 135 c135 d r h' 56 [some (.ref 650), some (.int v1), some (.int v2), some (.int v3), some (.int s0), none] [.int (F134_0 v3 q)] (hp q)
            refine x_if 61 rfl rfl (fun (hc17 : ¬ (F134_0 v3 q) = 0) => ?_) (fun (hc17 : (F134_0 v3 q) = 0) => ?_)
            · rw [if_neg hc17] at hG
              replace hS := hS.2 hc17
              exact A135_61 hd hN hG hS
            · rw [if_pos hc17] at hG
              replace hS := hS.1 hc17
              refine x_run (pc' := 60) (lo' := [some (.ref 650), some (.int v1), some (.int v2), some (.int v3), some (.int s0), none]) (st' := [.int (-1)]) 1 rfl ?_
              obtain ⟨rfl, rfl⟩ := hG
              exact x_iret rfl (by decide +kernel)
def F135_12 (v1 : Int32) (v2 : Int32) (v3 : Int32) (q : aQ) : Int32 × aQ := F135_17 v1 v2 v3 1 q
def S135_12 (v1 : Int32) (v2 : Int32) (v3 : Int32) (q : aQ) : Prop := S135_17 v1 v2 v3 1 q
set_option maxRecDepth 100000 in
set_option maxHeartbeats 4000000 in
theorem A135_12 {l : Launch} {X : aX} {d : Nat} {r : Option Value} {h' : aH} {v1 : Int32} {v2 : Int32} {v3 : Int32} {q : aQ} (hd : 2 ≤ d) (hN : h'.1 = nk0) (hG : gI r h' (F135_12 v1 v2 v3 q)) (hS : S135_12 v1 v2 v3 q) : AW l X 135 c135 d r h' 12 [some (.ref 650), some (.int v1), some (.int v2), some (.int v3), none, none] [] (hp q) := by
  unfold F135_12 at hG
  unfold S135_12 at hS
  refine x_run (pc' := 17) (lo' := [some (.ref 650), some (.int v1), some (.int v2), some (.int v3), none, none]) (st' := [.int 1]) 2 rfl ?_
  exact A135_17 hd hN hG hS
def F135_0 (v1 : Int32) (v2 : Int32) (v3 : Int32) (q : aQ) : Int32 × aQ := (if v1 = 6 then F135_12 v1 v2 v3 q else (if v1 = 7 then F135_12 v1 v2 v3 q else F135_17 v1 v2 v3 0 q))
def S135_0 (v1 : Int32) (v2 : Int32) (v3 : Int32) (q : aQ) : Prop := ((v1 = 6) → S135_12 v1 v2 v3 q) ∧ (¬ (v1 = 6) → ((v1 = 7) → S135_12 v1 v2 v3 q) ∧ (¬ (v1 = 7) → S135_17 v1 v2 v3 0 q))
set_option maxRecDepth 100000 in
set_option maxHeartbeats 4000000 in
theorem A135_0 {l : Launch} {X : aX} {d : Nat} {r : Option Value} {h' : aH} {v1 : Int32} {v2 : Int32} {v3 : Int32} {q : aQ} (hd : 2 ≤ d) (hN : h'.1 = nk0) (hG : gI r h' (F135_0 v1 v2 v3 q)) (hS : S135_0 v1 v2 v3 q) : AW l X 135 c135 d r h' 0 [some (.ref 650), some (.int v1), some (.int v2), some (.int v3), none, none] [] (hp q) := by
  unfold F135_0 at hG
  unfold S135_0 at hS
  refine x_run (pc' := 3) (lo' := [some (.ref 650), some (.int v1), some (.int v2), some (.int v3), none, none]) (st' := [.int 6, .int v1]) 2 rfl ?_
  refine x_ic 12 rfl rfl (fun (hc1 : v1 = 6) => ?_) (fun (hc1 : ¬ v1 = 6) => ?_)
  · rw [if_pos hc1] at hG
    replace hS := hS.1 hc1
    exact A135_12 hd hN hG hS
  · rw [if_neg hc1] at hG
    replace hS := hS.2 hc1
    refine x_run (pc' := 9) (lo' := [some (.ref 650), some (.int v1), some (.int v2), some (.int v3), none, none]) (st' := [.int 7, .int v1]) 2 rfl ?_
    refine x_ic 16 rfl rfl (fun (hc18 : ¬ v1 = 7) => ?_) (fun (hc18 : v1 = 7) => ?_)
    · rw [if_neg hc18] at hG
      replace hS := hS.2 hc18
      refine x_run (pc' := 17) (lo' := [some (.ref 650), some (.int v1), some (.int v2), some (.int v3), none, none]) (st' := [.int 0]) 1 rfl ?_
      exact A135_17 hd hN hG hS
    · rw [if_pos hc18] at hG
      replace hS := hS.1 hc18
      exact A135_12 hd hN hG hS
theorem T135 {l : Launch} {X : aX} {d : Nat} {v1 : Int32} {v2 : Int32} {v3 : Int32} {q : aQ} (hd : 2 ≤ d) (hS : S135_0 v1 v2 v3 q) : Call l X d 135 [.ref 650, .int v1, .int v2, .int v3] (hp q) (some (.int (F135_0 v1 v2 v3 q).1)) (hp (F135_0 v1 v2 v3 q).2) := Call.of ok135 (by decide) (Nat.le_of_ble_eq_true rfl) ⟨Nat.le_refl _, Nat.le_refl _⟩ (A135_0 hd rfl ⟨rfl, rfl⟩ hS)
/-- TypeForecastModel.add(III)I -/
def F136_130 (v1 : Int32) (v4 : Int32) (v5 : Int32) (q : aQ) : Int32 × aQ := (if v1 < 4 then (v4, (a_w (a_w q 662 (Int32.toNatClampNeg v5) v4) 650 5 ((q.1 650 5) + 1))) else (v4, (a_w (a_w (a_w (a_w q 662 (Int32.toNatClampNeg v5) v4) 650 5 ((q.1 650 5) + 1)) 663 (Int32.toNatClampNeg (q.1 650 14)) (2 * v4)) 650 14 ((q.1 650 14) + 1))))
def S136_130 (v1 : Int32) (v4 : Int32) (v5 : Int32) (q : aQ) : Prop := vp_in v5 49 ∧ (((v1 < 4) → True) ∧ (¬ (v1 < 4) → vp_in (q.1 650 14) 6 ∧ (True)))
set_option maxRecDepth 100000 in
set_option maxHeartbeats 4000000 in
theorem A136_130 {l : Launch} {X : aX} {d : Nat} {r : Option Value} {h' : aH} {v1 : Int32} {v4 : Int32} {v5 : Int32} {q : aQ} (hd : 1 ≤ d) (hN : h'.1 = nk0) (hG : gI r h' (F136_130 v1 v4 v5 q)) (hS : S136_130 v1 v4 v5 q) : AW l X 136 c136 d r h' 130 [some (.ref 650), some (.int v1), none, none, some (.int v4), some (.int v5)] [] (hp q) := by
  unfold F136_130 at hG
  unfold S136_130 at hS
  refine x_run (pc' := 131) (lo' := [some (.ref 650), some (.int v1), none, none, some (.int v4), some (.int v5)]) (st' := [.ref 650]) 1 rfl ?_
  refine x_gf (c := 589) (ne := 0) (v := .ref 662) rfl (by decide +kernel) rfl rfl ?_
  refine x_run (pc' := 138) (lo' := [some (.ref 650), some (.int v1), none, none, some (.int v4), some (.int v5)]) (st' := [.int v4, .int v5, .ref 662]) 2 rfl ?_
  obtain ⟨o13, hS⟩ := hS
  refine p_is (n := 49) rfl rfl o13 ?_
  refine x_run (pc' := 141) (lo' := [some (.ref 650), some (.int v1), none, none, some (.int v4), some (.int v5)]) (st' := [.ref 650, .ref 650]) 2 rfl ?_
  refine x_gf (c := 581) (ne := 0) (v := .int (q.1 650 5)) rfl (by decide +kernel) rfl rfl ?_
  refine x_run (pc' := 146) (lo' := [some (.ref 650), some (.int v1), none, none, some (.int v4), some (.int v5)]) (st' := [.int ((q.1 650 5) + 1), .ref 650]) 2 rfl ?_
  refine x_pf (c := 581) (ne := 0) (h2 := hp (a_w (a_w q 662 (Int32.toNatClampNeg v5) v4) 650 5 ((q.1 650 5) + 1))) rfl (by decide +kernel) (by decide +kernel) rfl (pv_i rfl) ?_
  refine x_run (pc' := 151) (lo' := [some (.ref 650), some (.int v1), none, none, some (.int v4), some (.int v5)]) (st' := [.int 4, .int v1]) 2 rfl ?_
  refine x_ic 177 rfl rfl (fun (hc14 : v1 < 4) => ?_) (fun (hc14 : ¬ v1 < 4) => ?_)
  · rw [if_pos hc14] at hG
    replace hS := hS.1 hc14
    refine x_run (pc' := 179) (lo' := [some (.ref 650), some (.int v1), none, none, some (.int v4), some (.int v5)]) (st' := [.int v4]) 1 rfl ?_
    obtain ⟨rfl, rfl⟩ := hG
    exact x_iret rfl (by decide +kernel)
  · rw [if_neg hc14] at hG
    replace hS := hS.2 hc14
    refine x_run (pc' := 155) (lo' := [some (.ref 650), some (.int v1), none, none, some (.int v4), some (.int v5)]) (st' := [.ref 650]) 1 rfl ?_
    refine x_gf (c := 591) (ne := 0) (v := .ref 663) rfl (by decide +kernel) rfl rfl ?_
    refine x_run (pc' := 159) (lo' := [some (.ref 650), some (.int v1), none, none, some (.int v4), some (.int v5)]) (st' := [.ref 650, .ref 663]) 1 rfl ?_
    refine x_gf (c := 590) (ne := 0) (v := .int (q.1 650 14)) rfl (by decide +kernel) rfl rfl ?_
    refine x_run (pc' := 166) (lo' := [some (.ref 650), some (.int v1), none, none, some (.int v4), some (.int v5)]) (st' := [.int (2 * v4), .int (q.1 650 14), .ref 663]) 3 rfl ?_
    obtain ⟨o15, hS⟩ := hS
    refine p_is (n := 6) rfl rfl o15 ?_
    refine x_run (pc' := 169) (lo' := [some (.ref 650), some (.int v1), none, none, some (.int v4), some (.int v5)]) (st' := [.ref 650, .ref 650]) 2 rfl ?_
    refine x_gf (c := 590) (ne := 0) (v := .int (q.1 650 14)) rfl (by decide +kernel) rfl rfl ?_
    refine x_run (pc' := 174) (lo' := [some (.ref 650), some (.int v1), none, none, some (.int v4), some (.int v5)]) (st' := [.int ((q.1 650 14) + 1), .ref 650]) 2 rfl ?_
    refine x_pf (c := 590) (ne := 0) (h2 := hp (a_w (a_w (a_w (a_w q 662 (Int32.toNatClampNeg v5) v4) 650 5 ((q.1 650 5) + 1)) 663 (Int32.toNatClampNeg (q.1 650 14)) (2 * v4)) 650 14 ((q.1 650 14) + 1))) rfl (by decide +kernel) (by decide +kernel) rfl (pv_i rfl) ?_
    refine x_run (pc' := 179) (lo' := [some (.ref 650), some (.int v1), none, none, some (.int v4), some (.int v5)]) (st' := [.int v4]) 1 rfl ?_
    obtain ⟨rfl, rfl⟩ := hG
    exact x_iret rfl (by decide +kernel)
def F136_85 (v1 : Int32) (v4 : Int32) (v5 : Int32) (s0 : Int32) (s1 : Int32) (q : aQ) : Int32 × aQ := (if (q.1 662 (Int32.toNatClampNeg v5)) < 0 then F136_130 v1 v4 v5 (a_w (a_w (a_w q 658 (Int32.toNatClampNeg s1) s0) 660 (Int32.toNatClampNeg v4) (-1)) 661 (Int32.toNatClampNeg v5) v4) else F136_130 v1 v4 v5 (a_w (a_w (a_w q 658 (Int32.toNatClampNeg s1) s0) 660 (Int32.toNatClampNeg v4) (-1)) 660 (Int32.toNatClampNeg (q.1 662 (Int32.toNatClampNeg v5))) v4))
def S136_85 (v1 : Int32) (v4 : Int32) (v5 : Int32) (s0 : Int32) (s1 : Int32) (q : aQ) : Prop := vp_in s1 24 ∧ (vp_in v4 24 ∧ (vp_in v5 49 ∧ ((((q.1 662 (Int32.toNatClampNeg v5)) < 0) → vp_in v5 49 ∧ (S136_130 v1 v4 v5 (a_w (a_w (a_w q 658 (Int32.toNatClampNeg s1) s0) 660 (Int32.toNatClampNeg v4) (-1)) 661 (Int32.toNatClampNeg v5) v4))) ∧ (¬ ((q.1 662 (Int32.toNatClampNeg v5)) < 0) → vp_in v5 49 ∧ (vp_in (q.1 662 (Int32.toNatClampNeg v5)) 24 ∧ (S136_130 v1 v4 v5 (a_w (a_w (a_w q 658 (Int32.toNatClampNeg s1) s0) 660 (Int32.toNatClampNeg v4) (-1)) 660 (Int32.toNatClampNeg (q.1 662 (Int32.toNatClampNeg v5))) v4)))))))
set_option maxRecDepth 100000 in
set_option maxHeartbeats 4000000 in
theorem A136_85 {l : Launch} {X : aX} {d : Nat} {r : Option Value} {h' : aH} {v1 : Int32} {v4 : Int32} {v5 : Int32} {s0 : Int32} {s1 : Int32} {q : aQ} (hd : 1 ≤ d) (hN : h'.1 = nk0) (hG : gI r h' (F136_85 v1 v4 v5 s0 s1 q)) (hS : S136_85 v1 v4 v5 s0 s1 q) : AW l X 136 c136 d r h' 85 [some (.ref 650), some (.int v1), none, none, some (.int v4), some (.int v5)] [.int s0, .int s1, .ref 658] (hp q) := by
  unfold F136_85 at hG
  unfold S136_85 at hS
  obtain ⟨o8, hS⟩ := hS
  refine p_is (n := 24) rfl rfl o8 ?_
  refine x_run (pc' := 87) (lo' := [some (.ref 650), some (.int v1), none, none, some (.int v4), some (.int v5)]) (st' := [.ref 650]) 1 rfl ?_
  refine x_gf (c := 587) (ne := 0) (v := .ref 660) rfl (by decide +kernel) rfl rfl ?_
  refine x_run (pc' := 93) (lo' := [some (.ref 650), some (.int v1), none, none, some (.int v4), some (.int v5)]) (st' := [.int (-1), .int v4, .ref 660]) 2 rfl ?_
  obtain ⟨o9, hS⟩ := hS
  refine p_is (n := 24) rfl rfl o9 ?_
  refine x_run (pc' := 95) (lo' := [some (.ref 650), some (.int v1), none, none, some (.int v4), some (.int v5)]) (st' := [.ref 650]) 1 rfl ?_
  refine x_gf (c := 589) (ne := 0) (v := .ref 662) rfl (by decide +kernel) rfl rfl ?_
  refine x_run (pc' := 100) (lo' := [some (.ref 650), some (.int v1), none, none, some (.int v4), some (.int v5)]) (st' := [.int v5, .ref 662]) 1 rfl ?_
  obtain ⟨o10, hS⟩ := hS
  refine p_ia (n := 49) (v := (q.1 662 (Int32.toNatClampNeg v5))) rfl rfl o10 rfl ?_
  refine x_if 121 rfl rfl (fun (hc11 : (q.1 662 (Int32.toNatClampNeg v5)) < 0) => ?_) (fun (hc11 : ¬ (q.1 662 (Int32.toNatClampNeg v5)) < 0) => ?_)
  · rw [if_pos hc11] at hG
    replace hS := hS.1 hc11
    refine x_run (pc' := 122) (lo' := [some (.ref 650), some (.int v1), none, none, some (.int v4), some (.int v5)]) (st' := [.ref 650]) 1 rfl ?_
    refine x_gf (c := 588) (ne := 0) (v := .ref 661) rfl (by decide +kernel) rfl rfl ?_
    refine x_run (pc' := 129) (lo' := [some (.ref 650), some (.int v1), none, none, some (.int v4), some (.int v5)]) (st' := [.int v4, .int v5, .ref 661]) 2 rfl ?_
    obtain ⟨o12, hS⟩ := hS
    refine p_is (n := 49) rfl rfl o12 ?_
    exact A136_130 hd hN hG hS
  · rw [if_neg hc11] at hG
    replace hS := hS.2 hc11
    refine x_run (pc' := 105) (lo' := [some (.ref 650), some (.int v1), none, none, some (.int v4), some (.int v5)]) (st' := [.ref 650]) 1 rfl ?_
    refine x_gf (c := 587) (ne := 0) (v := .ref 660) rfl (by decide +kernel) rfl rfl ?_
    refine x_run (pc' := 109) (lo' := [some (.ref 650), some (.int v1), none, none, some (.int v4), some (.int v5)]) (st' := [.ref 650, .ref 660]) 1 rfl ?_
    refine x_gf (c := 589) (ne := 0) (v := .ref 662) rfl (by decide +kernel) rfl rfl ?_
    refine x_run (pc' := 114) (lo' := [some (.ref 650), some (.int v1), none, none, some (.int v4), some (.int v5)]) (st' := [.int v5, .ref 662, .ref 660]) 1 rfl ?_
    obtain ⟨o16, hS⟩ := hS
    refine p_ia (n := 49) (v := (q.1 662 (Int32.toNatClampNeg v5))) rfl rfl o16 rfl ?_
    refine x_run (pc' := 117) (lo' := [some (.ref 650), some (.int v1), none, none, some (.int v4), some (.int v5)]) (st' := [.int v4, .int (q.1 662 (Int32.toNatClampNeg v5)), .ref 660]) 1 rfl ?_
    obtain ⟨o17, hS⟩ := hS
    refine p_is (n := 24) rfl rfl o17 ?_
    refine x_run (pc' := 130) (lo' := [some (.ref 650), some (.int v1), none, none, some (.int v4), some (.int v5)]) (st' := []) 1 rfl ?_
    exact A136_130 hd hN hG hS
def F136_29 (v1 : Int32) (v2 : Int32) (v3 : Int32) (v4 : Int32) (s0 : Int32) (q : aQ) : Int32 × aQ := (if s0 = 48 then F136_85 v1 v4 s0 (-1) v4 (a_w (a_w (a_w (a_w q 655 (Int32.toNatClampNeg v4) v1) 656 (Int32.toNatClampNeg v4) v2) 657 (Int32.toNatClampNeg v4) v3) 659 (Int32.toNatClampNeg v4) s0) else F136_85 v1 v4 s0 (s0 / 2) v4 (a_w (a_w (a_w (a_w q 655 (Int32.toNatClampNeg v4) v1) 656 (Int32.toNatClampNeg v4) v2) 657 (Int32.toNatClampNeg v4) v3) 659 (Int32.toNatClampNeg v4) s0))
def S136_29 (v1 : Int32) (v2 : Int32) (v3 : Int32) (v4 : Int32) (s0 : Int32) (q : aQ) : Prop := vp_in v4 24 ∧ (vp_in v4 24 ∧ (vp_in v4 24 ∧ (vp_in v4 24 ∧ (((s0 = 48) → S136_85 v1 v4 s0 (-1) v4 (a_w (a_w (a_w (a_w q 655 (Int32.toNatClampNeg v4) v1) 656 (Int32.toNatClampNeg v4) v2) 657 (Int32.toNatClampNeg v4) v3) 659 (Int32.toNatClampNeg v4) s0)) ∧ (¬ (s0 = 48) → S136_85 v1 v4 s0 (s0 / 2) v4 (a_w (a_w (a_w (a_w q 655 (Int32.toNatClampNeg v4) v1) 656 (Int32.toNatClampNeg v4) v2) 657 (Int32.toNatClampNeg v4) v3) 659 (Int32.toNatClampNeg v4) s0))))))
set_option maxRecDepth 100000 in
set_option maxHeartbeats 4000000 in
theorem A136_29 {l : Launch} {X : aX} {d : Nat} {r : Option Value} {h' : aH} {v1 : Int32} {v2 : Int32} {v3 : Int32} {v4 : Int32} {s0 : Int32} {q : aQ} (hd : 1 ≤ d) (hN : h'.1 = nk0) (hG : gI r h' (F136_29 v1 v2 v3 v4 s0 q)) (hS : S136_29 v1 v2 v3 v4 s0 q) : AW l X 136 c136 d r h' 29 [some (.ref 650), some (.int v1), some (.int v2), some (.int v3), some (.int v4), none] [.int s0] (hp q) := by
  unfold F136_29 at hG
  unfold S136_29 at hS
  refine x_run (pc' := 32) (lo' := [some (.ref 650), some (.int v1), some (.int v2), some (.int v3), some (.int v4), some (.int s0)]) (st' := [.ref 650]) 2 rfl ?_
  refine x_gf (c := 582) (ne := 0) (v := .ref 655) rfl (by decide +kernel) rfl rfl ?_
  refine x_run (pc' := 38) (lo' := [some (.ref 650), some (.int v1), some (.int v2), some (.int v3), some (.int v4), some (.int s0)]) (st' := [.int v1, .int v4, .ref 655]) 2 rfl ?_
  obtain ⟨o3, hS⟩ := hS
  refine p_is (n := 24) rfl rfl o3 ?_
  refine x_run (pc' := 40) (lo' := [some (.ref 650), some (.int v1), some (.int v2), some (.int v3), some (.int v4), some (.int s0)]) (st' := [.ref 650]) 1 rfl ?_
  refine x_gf (c := 583) (ne := 0) (v := .ref 656) rfl (by decide +kernel) rfl rfl ?_
  refine x_run (pc' := 46) (lo' := [some (.ref 650), some (.int v1), some (.int v2), some (.int v3), some (.int v4), some (.int s0)]) (st' := [.int v2, .int v4, .ref 656]) 2 rfl ?_
  obtain ⟨o4, hS⟩ := hS
  refine p_is (n := 24) rfl rfl o4 ?_
  refine x_run (pc' := 48) (lo' := [some (.ref 650), some (.int v1), some (.int v2), some (.int v3), some (.int v4), some (.int s0)]) (st' := [.ref 650]) 1 rfl ?_
  refine x_gf (c := 584) (ne := 0) (v := .ref 657) rfl (by decide +kernel) rfl rfl ?_
  refine x_run (pc' := 54) (lo' := [some (.ref 650), some (.int v1), some (.int v2), some (.int v3), some (.int v4), some (.int s0)]) (st' := [.int v3, .int v4, .ref 657]) 2 rfl ?_
  obtain ⟨o5, hS⟩ := hS
  refine p_is (n := 24) rfl rfl o5 ?_
  refine x_run (pc' := 56) (lo' := [some (.ref 650), some (.int v1), some (.int v2), some (.int v3), some (.int v4), some (.int s0)]) (st' := [.ref 650]) 1 rfl ?_
  refine x_gf (c := 586) (ne := 0) (v := .ref 659) rfl (by decide +kernel) rfl rfl ?_
  refine x_run (pc' := 63) (lo' := [some (.ref 650), some (.int v1), some (.int v2), some (.int v3), some (.int v4), some (.int s0)]) (st' := [.int s0, .int v4, .ref 659]) 2 rfl ?_
  obtain ⟨o6, hS⟩ := hS
  refine p_is (n := 24) rfl rfl o6 ?_
  refine x_run (pc' := 65) (lo' := [some (.ref 650), some (.int v1), some (.int v2), some (.int v3), some (.int v4), some (.int s0)]) (st' := [.ref 650]) 1 rfl ?_
  refine x_gf (c := 585) (ne := 0) (v := .ref 658) rfl (by decide +kernel) rfl rfl ?_
  refine x_run (pc' := 74) (lo' := [some (.ref 650), some (.int v1), some (.int v2), some (.int v3), some (.int v4), some (.int s0)]) (st' := [.int 48, .int s0, .int v4, .ref 658]) 3 rfl ?_
  refine x_ic 81 rfl rfl (fun (hc7 : ¬ s0 = 48) => ?_) (fun (hc7 : s0 = 48) => ?_)
  · rw [if_neg hc7] at hG
    replace hS := hS.2 hc7
    refine x_run (pc' := 84) (lo' := [some (.ref 650), some (.int v1), some (.int v2), some (.int v3), some (.int v4), some (.int s0)]) (st' := [.int 2, .int s0, .int v4, .ref 658]) 2 rfl ?_
    refine x_idiv rfl (by decide) ?_
    refine x_kill [2, 3] ?_
    exact A136_85 hd hN hG hS
  · rw [if_pos hc7] at hG
    replace hS := hS.1 hc7
    refine x_run (pc' := 85) (lo' := [some (.ref 650), some (.int v1), some (.int v2), some (.int v3), some (.int v4), some (.int s0)]) (st' := [.int (-1), .int v4, .ref 658]) 2 rfl ?_
    refine x_kill [2, 3] ?_
    exact A136_85 hd hN hG hS
def F136_0 (v1 : Int32) (v2 : Int32) (v3 : Int32) (q : aQ) : Int32 × aQ := (if (q.1 650 14) = 0 then F136_29 v1 v2 v3 (q.1 650 5) 48 q else F136_29 v1 v2 v3 (q.1 650 5) (q.1 663 (Int32.toNatClampNeg ((q.1 650 14) - 1))) q)
def S136_0 (v1 : Int32) (v2 : Int32) (v3 : Int32) (q : aQ) : Prop := (((q.1 650 14) = 0) → S136_29 v1 v2 v3 (q.1 650 5) 48 q) ∧ (¬ ((q.1 650 14) = 0) → vp_in ((q.1 650 14) - 1) 6 ∧ (S136_29 v1 v2 v3 (q.1 650 5) (q.1 663 (Int32.toNatClampNeg ((q.1 650 14) - 1))) q))
set_option maxRecDepth 100000 in
set_option maxHeartbeats 4000000 in
theorem A136_0 {l : Launch} {X : aX} {d : Nat} {r : Option Value} {h' : aH} {v1 : Int32} {v2 : Int32} {v3 : Int32} {q : aQ} (hd : 1 ≤ d) (hN : h'.1 = nk0) (hG : gI r h' (F136_0 v1 v2 v3 q)) (hS : S136_0 v1 v2 v3 q) : AW l X 136 c136 d r h' 0 [some (.ref 650), some (.int v1), some (.int v2), some (.int v3), none, none] [] (hp q) := by
  unfold F136_0 at hG
  unfold S136_0 at hS
  refine x_run (pc' := 1) (lo' := [some (.ref 650), some (.int v1), some (.int v2), some (.int v3), none, none]) (st' := [.ref 650]) 1 rfl ?_
  refine x_gf (c := 581) (ne := 0) (v := .int (q.1 650 5)) rfl (by decide +kernel) rfl rfl ?_
  refine x_run (pc' := 7) (lo' := [some (.ref 650), some (.int v1), some (.int v2), some (.int v3), some (.int (q.1 650 5)), none]) (st' := [.ref 650]) 2 rfl ?_
  refine x_gf (c := 590) (ne := 0) (v := .int (q.1 650 14)) rfl (by decide +kernel) rfl rfl ?_
  refine x_if 18 rfl rfl (fun (hc1 : ¬ (q.1 650 14) = 0) => ?_) (fun (hc1 : (q.1 650 14) = 0) => ?_)
  · rw [if_neg hc1] at hG
    replace hS := hS.2 hc1
    refine x_run (pc' := 19) (lo' := [some (.ref 650), some (.int v1), some (.int v2), some (.int v3), some (.int (q.1 650 5)), none]) (st' := [.ref 650]) 1 rfl ?_
    refine x_gf (c := 591) (ne := 0) (v := .ref 663) rfl (by decide +kernel) rfl rfl ?_
    refine x_run (pc' := 23) (lo' := [some (.ref 650), some (.int v1), some (.int v2), some (.int v3), some (.int (q.1 650 5)), none]) (st' := [.ref 650, .ref 663]) 1 rfl ?_
    refine x_gf (c := 590) (ne := 0) (v := .int (q.1 650 14)) rfl (by decide +kernel) rfl rfl ?_
    refine x_run (pc' := 28) (lo' := [some (.ref 650), some (.int v1), some (.int v2), some (.int v3), some (.int (q.1 650 5)), none]) (st' := [.int ((q.1 650 14) - 1), .ref 663]) 2 rfl ?_
    obtain ⟨o2, hS⟩ := hS
    refine p_ia (n := 6) (v := (q.1 663 (Int32.toNatClampNeg ((q.1 650 14) - 1)))) rfl rfl o2 rfl ?_
    exact A136_29 hd hN hG hS
  · rw [if_pos hc1] at hG
    replace hS := hS.1 hc1
    refine x_run (pc' := 29) (lo' := [some (.ref 650), some (.int v1), some (.int v2), some (.int v3), some (.int (q.1 650 5)), none]) (st' := [.int 48]) 2 rfl ?_
    exact A136_29 hd hN hG hS
theorem T136 {l : Launch} {X : aX} {d : Nat} {v1 : Int32} {v2 : Int32} {v3 : Int32} {q : aQ} (hd : 1 ≤ d) (hS : S136_0 v1 v2 v3 q) : Call l X d 136 [.ref 650, .int v1, .int v2, .int v3] (hp q) (some (.int (F136_0 v1 v2 v3 q).1)) (hp (F136_0 v1 v2 v3 q).2) := Call.of ok136 (by decide) (Nat.le_of_ble_eq_true rfl) ⟨Nat.le_refl _, Nat.le_refl _⟩ (A136_0 hd rfl ⟨rfl, rfl⟩ hS)
/-- TypeForecastModel.assign(II)I -/
def F137_0 (v1 : Int32) (v2 : Int32) (q : aQ) : Int32 × aQ := (if (q.1 650 5) = 24 then ((-1), q) else (if v1 < 0 then ((-1), q) else (if 4 < v1 then ((-1), q) else (if (F134_0 v2 q) = 0 then ((-1), q) else ((F136_0 0 v1 v2 q).1, (F136_0 0 v1 v2 q).2)))))
def S137_0 (v1 : Int32) (v2 : Int32) (q : aQ) : Prop := (((q.1 650 5) = 24) → True) ∧ (¬ ((q.1 650 5) = 24) → ((v1 < 0) → True) ∧ (¬ (v1 < 0) → ((4 < v1) → True) ∧ (¬ (4 < v1) → S134_0 v2 q ∧ ((((F134_0 v2 q) = 0) → True) ∧ (¬ ((F134_0 v2 q) = 0) → S136_0 0 v1 v2 q ∧ (True))))))
set_option maxRecDepth 100000 in
set_option maxHeartbeats 4000000 in
theorem A137_0 {l : Launch} {X : aX} {d : Nat} {r : Option Value} {h' : aH} {v1 : Int32} {v2 : Int32} {q : aQ} (hd : 2 ≤ d) (hN : h'.1 = nk0) (hG : gI r h' (F137_0 v1 v2 q)) (hS : S137_0 v1 v2 q) : AW l X 137 c137 d r h' 0 [some (.ref 650), some (.int v1), some (.int v2)] [] (hp q) := by
  unfold F137_0 at hG
  unfold S137_0 at hS
  refine x_run (pc' := 1) (lo' := [some (.ref 650), some (.int v1), some (.int v2)]) (st' := [.ref 650]) 1 rfl ?_
  refine x_gf (c := 581) (ne := 0) (v := .int (q.1 650 5)) rfl (by decide +kernel) rfl rfl ?_
  refine x_run (pc' := 6) (lo' := [some (.ref 650), some (.int v1), some (.int v2)]) (st' := [.int 24, .int (q.1 650 5)]) 1 rfl ?_
  refine x_ic 26 rfl rfl (fun (hc1 : (q.1 650 5) = 24) => ?_) (fun (hc1 : ¬ (q.1 650 5) = 24) => ?_)
  · rw [if_pos hc1] at hG
    replace hS := hS.1 hc1
    refine x_run (pc' := 37) (lo' := [some (.ref 650), some (.int v1), some (.int v2)]) (st' := [.int (-1)]) 2 rfl ?_
    obtain ⟨rfl, rfl⟩ := hG
    exact x_iret rfl (by decide +kernel)
  · rw [if_neg hc1] at hG
    replace hS := hS.2 hc1
    refine x_run (pc' := 10) (lo' := [some (.ref 650), some (.int v1), some (.int v2)]) (st' := [.int v1]) 1 rfl ?_
    refine x_if 26 rfl rfl (fun (hc2 : v1 < 0) => ?_) (fun (hc2 : ¬ v1 < 0) => ?_)
    · rw [if_pos hc2] at hG
      replace hS := hS.1 hc2
      refine x_run (pc' := 37) (lo' := [some (.ref 650), some (.int v1), some (.int v2)]) (st' := [.int (-1)]) 2 rfl ?_
      obtain ⟨rfl, rfl⟩ := hG
      exact x_iret rfl (by decide +kernel)
    · rw [if_neg hc2] at hG
      replace hS := hS.2 hc2
      refine x_run (pc' := 15) (lo' := [some (.ref 650), some (.int v1), some (.int v2)]) (st' := [.int 4, .int v1]) 2 rfl ?_
      refine x_ic 26 rfl rfl (fun (hc3 : 4 < v1) => ?_) (fun (hc3 : ¬ 4 < v1) => ?_)
      · rw [if_pos hc3] at hG
        replace hS := hS.1 hc3
        refine x_run (pc' := 37) (lo' := [some (.ref 650), some (.int v1), some (.int v2)]) (st' := [.int (-1)]) 2 rfl ?_
        obtain ⟨rfl, rfl⟩ := hG
        exact x_iret rfl (by decide +kernel)
      · rw [if_neg hc3] at hG
        replace hS := hS.2 hc3
        refine x_run (pc' := 20) (lo' := [some (.ref 650), some (.int v1), some (.int v2)]) (st' := [.int v2, .ref 650]) 2 rfl ?_
        obtain ⟨o4, hS⟩ := hS
        refine x_cv (j := 134) (ne := 0) (vs := [.int v2]) (rest := []) rfl (by decide +kernel) (by decide +kernel) (by decide) (Eq.trans rfl (show 1 = _ from by decide +kernel)) rfl (by decide +kernel) rfl (Nat.le_of_ble_eq_true rfl) (by omega) (T134 (Nat.le_refl 1) o4) (hp_m hN) ?_
        show AW l X 137 c137 d r h' 23 [some (.ref 650), some (.int v1), some (.int v2)] [.int (F134_0 v2 q)] (hp q)
        refine x_if 30 rfl rfl (fun (hc5 : ¬ (F134_0 v2 q) = 0) => ?_) (fun (hc5 : (F134_0 v2 q) = 0) => ?_)
        · rw [if_neg hc5] at hG
          replace hS := hS.2 hc5
          refine x_run (pc' := 34) (lo' := [some (.ref 650), some (.int v1), some (.int v2)]) (st' := [.int v2, .int v1, .int 0, .ref 650]) 4 rfl ?_
          obtain ⟨o6, hS⟩ := hS
          refine x_cv (j := 136) (ne := 0) (vs := [.int 0, .int v1, .int v2]) (rest := []) rfl (by decide +kernel) (by decide +kernel) (by decide) (Eq.trans rfl (show 3 = _ from by decide +kernel)) rfl (by decide +kernel) rfl (Nat.le_of_ble_eq_true rfl) (by omega) (T136 (Nat.le_refl 1) o6) (hp_m hN) ?_
          show AW l X 137 c137 d r h' 37 [some (.ref 650), some (.int v1), some (.int v2)] [.int (F136_0 0 v1 v2 q).1] (hp (F136_0 0 v1 v2 q).2)
          obtain ⟨rfl, rfl⟩ := hG
          exact x_iret rfl (by decide +kernel)
        · rw [if_pos hc5] at hG
          replace hS := hS.1 hc5
          refine x_run (pc' := 37) (lo' := [some (.ref 650), some (.int v1), some (.int v2)]) (st' := [.int (-1)]) 2 rfl ?_
          obtain ⟨rfl, rfl⟩ := hG
          exact x_iret rfl (by decide +kernel)
theorem T137 {l : Launch} {X : aX} {d : Nat} {v1 : Int32} {v2 : Int32} {q : aQ} (hd : 2 ≤ d) (hS : S137_0 v1 v2 q) : Call l X d 137 [.ref 650, .int v1, .int v2] (hp q) (some (.int (F137_0 v1 v2 q).1)) (hp (F137_0 v1 v2 q).2) := Call.of ok137 (by decide) (Nat.le_of_ble_eq_true rfl) ⟨Nat.le_refl _, Nat.le_refl _⟩ (A137_0 hd rfl ⟨rfl, rfl⟩ hS)
/-- TypeForecastModel.raise(I)I -/
def F138_0 (v1 : Int32) (q : aQ) : Int32 × aQ := (if (q.1 650 5) = 24 then ((-1), q) else (if v1 < 1 then ((-1), q) else (if v1 ≤ 4 then ((F136_0 1 v1 0 q).1, (F136_0 1 v1 0 q).2) else ((-1), q))))
def S138_0 (v1 : Int32) (q : aQ) : Prop := (((q.1 650 5) = 24) → True) ∧ (¬ ((q.1 650 5) = 24) → ((v1 < 1) → True) ∧ (¬ (v1 < 1) → ((v1 ≤ 4) → S136_0 1 v1 0 q ∧ (True)) ∧ (¬ (v1 ≤ 4) → True)))
set_option maxRecDepth 100000 in
set_option maxHeartbeats 4000000 in
theorem A138_0 {l : Launch} {X : aX} {d : Nat} {r : Option Value} {h' : aH} {v1 : Int32} {q : aQ} (hd : 2 ≤ d) (hN : h'.1 = nk0) (hG : gI r h' (F138_0 v1 q)) (hS : S138_0 v1 q) : AW l X 138 c138 d r h' 0 [some (.ref 650), some (.int v1)] [] (hp q) := by
  unfold F138_0 at hG
  unfold S138_0 at hS
  refine x_run (pc' := 1) (lo' := [some (.ref 650), some (.int v1)]) (st' := [.ref 650]) 1 rfl ?_
  refine x_gf (c := 581) (ne := 0) (v := .int (q.1 650 5)) rfl (by decide +kernel) rfl rfl ?_
  refine x_run (pc' := 6) (lo' := [some (.ref 650), some (.int v1)]) (st' := [.int 24, .int (q.1 650 5)]) 1 rfl ?_
  refine x_ic 19 rfl rfl (fun (hc1 : (q.1 650 5) = 24) => ?_) (fun (hc1 : ¬ (q.1 650 5) = 24) => ?_)
  · rw [if_pos hc1] at hG
    replace hS := hS.1 hc1
    refine x_run (pc' := 30) (lo' := [some (.ref 650), some (.int v1)]) (st' := [.int (-1)]) 2 rfl ?_
    obtain ⟨rfl, rfl⟩ := hG
    exact x_iret rfl (by decide +kernel)
  · rw [if_neg hc1] at hG
    replace hS := hS.2 hc1
    refine x_run (pc' := 11) (lo' := [some (.ref 650), some (.int v1)]) (st' := [.int 1, .int v1]) 2 rfl ?_
    refine x_ic 19 rfl rfl (fun (hc2 : v1 < 1) => ?_) (fun (hc2 : ¬ v1 < 1) => ?_)
    · rw [if_pos hc2] at hG
      replace hS := hS.1 hc2
      refine x_run (pc' := 30) (lo' := [some (.ref 650), some (.int v1)]) (st' := [.int (-1)]) 2 rfl ?_
      obtain ⟨rfl, rfl⟩ := hG
      exact x_iret rfl (by decide +kernel)
    · rw [if_neg hc2] at hG
      replace hS := hS.2 hc2
      refine x_run (pc' := 16) (lo' := [some (.ref 650), some (.int v1)]) (st' := [.int 4, .int v1]) 2 rfl ?_
      refine x_ic 23 rfl rfl (fun (hc3 : v1 ≤ 4) => ?_) (fun (hc3 : ¬ v1 ≤ 4) => ?_)
      · rw [if_pos hc3] at hG
        replace hS := hS.1 hc3
        refine x_run (pc' := 27) (lo' := [some (.ref 650), some (.int v1)]) (st' := [.int 0, .int v1, .int 1, .ref 650]) 4 rfl ?_
        obtain ⟨o4, hS⟩ := hS
        refine x_cv (j := 136) (ne := 0) (vs := [.int 1, .int v1, .int 0]) (rest := []) rfl (by decide +kernel) (by decide +kernel) (by decide) (Eq.trans rfl (show 3 = _ from by decide +kernel)) rfl (by decide +kernel) rfl (Nat.le_of_ble_eq_true rfl) (by omega) (T136 (Nat.le_refl 1) o4) (hp_m hN) ?_
        show AW l X 138 c138 d r h' 30 [some (.ref 650), some (.int v1)] [.int (F136_0 1 v1 0 q).1] (hp (F136_0 1 v1 0 q).2)
        obtain ⟨rfl, rfl⟩ := hG
        exact x_iret rfl (by decide +kernel)
      · rw [if_neg hc3] at hG
        replace hS := hS.2 hc3
        refine x_run (pc' := 30) (lo' := [some (.ref 650), some (.int v1)]) (st' := [.int (-1)]) 2 rfl ?_
        obtain ⟨rfl, rfl⟩ := hG
        exact x_iret rfl (by decide +kernel)
theorem T138 {l : Launch} {X : aX} {d : Nat} {v1 : Int32} {q : aQ} (hd : 2 ≤ d) (hS : S138_0 v1 q) : Call l X d 138 [.ref 650, .int v1] (hp q) (some (.int (F138_0 v1 q).1)) (hp (F138_0 v1 q).2) := Call.of ok138 (by decide) (Nat.le_of_ble_eq_true rfl) ⟨Nat.le_refl _, Nat.le_refl _⟩ (A138_0 hd rfl ⟨rfl, rfl⟩ hS)
/-- TypeForecastModel.leave(Z)I -/
def F139_38 (v1 : Int32) (v3 : Int32) (s0 : Int32) (q : aQ) : (Int32 × Int32 × aQ) ⊕ (Int32 × aQ) := .inl (s0, (v3 + 1), q)
def S139_38 (v1 : Int32) (v3 : Int32) (s0 : Int32) (q : aQ) : Prop := True
set_option maxRecDepth 100000 in
set_option maxHeartbeats 4000000 in
theorem A139_38 {l : Launch} {X : aX} {d : Nat} {r : Option Value} {h' : aH} {v1 : Int32} {v3 : Int32} {s0 : Int32} {q : aQ} (hd : 2 ≤ d) (hN : h'.1 = nk0) (hG : gL (fun (s : Int32 × Int32 × aQ) => AW l X 139 c139 d r h' 4 [some (.ref 650), some (.int v1), some (.int s.1), some (.int s.2.1)] [] (hp s.2.2)) (fun (e : Int32 × aQ) => AW l X 139 c139 d r h' 45 [some (.ref 650), some (.int v1), some (.int e.1), none] [] (hp e.2)) (F139_38 v1 v3 s0 q)) (hS : S139_38 v1 v3 s0 q) : AW l X 139 c139 d r h' 38 [some (.ref 650), some (.int v1), none, some (.int v3)] [.int s0] (hp q) := by
  unfold F139_38 at hG
  unfold S139_38 at hS
  refine x_run (pc' := 4) (lo' := [some (.ref 650), some (.int v1), some (.int s0), some (.int (v3 + 1))]) (st' := []) 3 rfl ?_
  exact hG
def F139_33 (v1 : Int32) (v3 : Int32) (q : aQ) : (Int32 × Int32 × aQ) ⊕ (Int32 × aQ) := F139_38 v1 v3 1 q
def S139_33 (v1 : Int32) (v3 : Int32) (q : aQ) : Prop := S139_38 v1 v3 1 q
set_option maxRecDepth 100000 in
set_option maxHeartbeats 4000000 in
theorem A139_33 {l : Launch} {X : aX} {d : Nat} {r : Option Value} {h' : aH} {v1 : Int32} {v3 : Int32} {q : aQ} (hd : 2 ≤ d) (hN : h'.1 = nk0) (hG : gL (fun (s : Int32 × Int32 × aQ) => AW l X 139 c139 d r h' 4 [some (.ref 650), some (.int v1), some (.int s.1), some (.int s.2.1)] [] (hp s.2.2)) (fun (e : Int32 × aQ) => AW l X 139 c139 d r h' 45 [some (.ref 650), some (.int v1), some (.int e.1), none] [] (hp e.2)) (F139_33 v1 v3 q)) (hS : S139_33 v1 v3 q) : AW l X 139 c139 d r h' 33 [some (.ref 650), some (.int v1), none, some (.int v3)] [] (hp q) := by
  unfold F139_33 at hG
  unfold S139_33 at hS
  refine x_run (pc' := 38) (lo' := [some (.ref 650), some (.int v1), none, some (.int v3)]) (st' := [.int 1]) 2 rfl ?_
  exact A139_38 hd hN hG hS
def F139_4 (v1 : Int32) (v2 : Int32) (v3 : Int32) (q : aQ) : (Int32 × Int32 × aQ) ⊕ (Int32 × aQ) := (if (q.1 650 14) ≤ v3 then .inr (v2, q) else (if v2 = 0 then (if (q.1 655 (Int32.toNatClampNeg ((q.1 663 (Int32.toNatClampNeg v3)) / 2))) = 5 then F139_33 v1 v3 q else F139_38 v1 v3 0 q) else F139_33 v1 v3 q))
def S139_4 (v1 : Int32) (v2 : Int32) (v3 : Int32) (q : aQ) : Prop := (((q.1 650 14) ≤ v3) → True) ∧ (¬ ((q.1 650 14) ≤ v3) → ((v2 = 0) → vp_in v3 6 ∧ (vp_in ((q.1 663 (Int32.toNatClampNeg v3)) / 2) 24 ∧ ((((q.1 655 (Int32.toNatClampNeg ((q.1 663 (Int32.toNatClampNeg v3)) / 2))) = 5) → S139_33 v1 v3 q) ∧ (¬ ((q.1 655 (Int32.toNatClampNeg ((q.1 663 (Int32.toNatClampNeg v3)) / 2))) = 5) → S139_38 v1 v3 0 q)))) ∧ (¬ (v2 = 0) → S139_33 v1 v3 q))
set_option maxRecDepth 100000 in
set_option maxHeartbeats 4000000 in
theorem A139_4 {l : Launch} {X : aX} {d : Nat} {r : Option Value} {h' : aH} {v1 : Int32} {v2 : Int32} {v3 : Int32} {q : aQ} (hd : 2 ≤ d) (hN : h'.1 = nk0) (hG : gL (fun (s : Int32 × Int32 × aQ) => AW l X 139 c139 d r h' 4 [some (.ref 650), some (.int v1), some (.int s.1), some (.int s.2.1)] [] (hp s.2.2)) (fun (e : Int32 × aQ) => AW l X 139 c139 d r h' 45 [some (.ref 650), some (.int v1), some (.int e.1), none] [] (hp e.2)) (F139_4 v1 v2 v3 q)) (hS : S139_4 v1 v2 v3 q) : AW l X 139 c139 d r h' 4 [some (.ref 650), some (.int v1), some (.int v2), some (.int v3)] [] (hp q) := by
  unfold F139_4 at hG
  unfold S139_4 at hS
  refine x_run (pc' := 6) (lo' := [some (.ref 650), some (.int v1), some (.int v2), some (.int v3)]) (st' := [.ref 650, .int v3]) 2 rfl ?_
  refine x_gf (c := 590) (ne := 0) (v := .int (q.1 650 14)) rfl (by decide +kernel) rfl rfl ?_
  refine x_ic 45 rfl rfl (fun (hc1 : (q.1 650 14) ≤ v3) => ?_) (fun (hc1 : ¬ (q.1 650 14) ≤ v3) => ?_)
  · rw [if_pos hc1] at hG
    replace hS := hS.1 hc1
    refine x_kill [3] ?_
    exact hG
  · rw [if_neg hc1] at hG
    replace hS := hS.2 hc1
    refine x_run (pc' := 13) (lo' := [some (.ref 650), some (.int v1), some (.int v2), some (.int v3)]) (st' := [.int v2]) 1 rfl ?_
    refine x_if 33 rfl rfl (fun (hc2 : ¬ v2 = 0) => ?_) (fun (hc2 : v2 = 0) => ?_)
    · rw [if_neg hc2] at hG
      replace hS := hS.2 hc2
      refine x_kill [2] ?_
      exact A139_33 hd hN hG hS
    · rw [if_pos hc2] at hG
      replace hS := hS.1 hc2
      refine x_run (pc' := 17) (lo' := [some (.ref 650), some (.int v1), some (.int v2), some (.int v3)]) (st' := [.ref 650]) 1 rfl ?_
      refine x_gf (c := 582) (ne := 0) (v := .ref 655) rfl (by decide +kernel) rfl rfl ?_
      refine x_run (pc' := 21) (lo' := [some (.ref 650), some (.int v1), some (.int v2), some (.int v3)]) (st' := [.ref 650, .ref 655]) 1 rfl ?_
      refine x_gf (c := 591) (ne := 0) (v := .ref 663) rfl (by decide +kernel) rfl rfl ?_
      refine x_run (pc' := 25) (lo' := [some (.ref 650), some (.int v1), some (.int v2), some (.int v3)]) (st' := [.int v3, .ref 663, .ref 655]) 1 rfl ?_
      obtain ⟨o3, hS⟩ := hS
      refine p_ia (n := 6) (v := (q.1 663 (Int32.toNatClampNeg v3))) rfl rfl o3 rfl ?_
      refine x_run (pc' := 27) (lo' := [some (.ref 650), some (.int v1), some (.int v2), some (.int v3)]) (st' := [.int 2, .int (q.1 663 (Int32.toNatClampNeg v3)), .ref 655]) 1 rfl ?_
      refine x_idiv rfl (by decide) ?_
      obtain ⟨o4, hS⟩ := hS
      refine p_ia (n := 24) (v := (q.1 655 (Int32.toNatClampNeg ((q.1 663 (Int32.toNatClampNeg v3)) / 2)))) rfl rfl o4 rfl ?_
      refine x_run (pc' := 30) (lo' := [some (.ref 650), some (.int v1), some (.int v2), some (.int v3)]) (st' := [.int 5, .int (q.1 655 (Int32.toNatClampNeg ((q.1 663 (Int32.toNatClampNeg v3)) / 2)))]) 1 rfl ?_
      refine x_ic 37 rfl rfl (fun (hc5 : ¬ (q.1 655 (Int32.toNatClampNeg ((q.1 663 (Int32.toNatClampNeg v3)) / 2))) = 5) => ?_) (fun (hc5 : (q.1 655 (Int32.toNatClampNeg ((q.1 663 (Int32.toNatClampNeg v3)) / 2))) = 5) => ?_)
      · rw [if_neg hc5] at hG
        replace hS := hS.2 hc5
        refine x_run (pc' := 38) (lo' := [some (.ref 650), some (.int v1), some (.int v2), some (.int v3)]) (st' := [.int 0]) 1 rfl ?_
        refine x_kill [2] ?_
        exact A139_38 hd hN hG hS
      · rw [if_pos hc5] at hG
        replace hS := hS.1 hc5
        refine x_kill [2] ?_
        exact A139_33 hd hN hG hS
def F139_72 (s0 : Int32) (q : aQ) : Int32 × aQ := ((F136_0 s0 0 0 q).1, (F136_0 s0 0 0 q).2)
def S139_72 (s0 : Int32) (q : aQ) : Prop := S136_0 s0 0 0 q ∧ (True)
set_option maxRecDepth 100000 in
set_option maxHeartbeats 4000000 in
theorem A139_72 {l : Launch} {X : aX} {d : Nat} {r : Option Value} {h' : aH} {s0 : Int32} {q : aQ} (hd : 2 ≤ d) (hN : h'.1 = nk0) (hG : gI r h' (F139_72 s0 q)) (hS : S139_72 s0 q) : AW l X 139 c139 d r h' 72 [none, none, none, none] [.int s0, .ref 650] (hp q) := by
  unfold F139_72 at hG
  unfold S139_72 at hS
  refine x_run (pc' := 74) (lo' := [none, none, none, none]) (st' := [.int 0, .int 0, .int s0, .ref 650]) 2 rfl ?_
  obtain ⟨o10, hS⟩ := hS
  refine x_cv (j := 136) (ne := 0) (vs := [.int s0, .int 0, .int 0]) (rest := []) rfl (by decide +kernel) (by decide +kernel) (by decide) (Eq.trans rfl (show 3 = _ from by decide +kernel)) rfl (by decide +kernel) rfl (Nat.le_of_ble_eq_true rfl) (by omega) (T136 (Nat.le_refl 1) o10) (hp_m hN) ?_
  show AW l X 139 c139 d r h' 77 [none, none, none, none] [.int (F136_0 s0 0 0 q).1] (hp (F136_0 s0 0 0 q).2)
  obtain ⟨rfl, rfl⟩ := hG
  exact x_iret rfl (by decide +kernel)
def F139_45 (v1 : Int32) (v2 : Int32) (q : aQ) : Int32 × aQ := (if (q.1 650 5) = 24 then ((-1), q) else (if v2 = 0 then ((-1), q) else (if v1 = 0 then F139_72 2 q else F139_72 3 q)))
def S139_45 (v1 : Int32) (v2 : Int32) (q : aQ) : Prop := (((q.1 650 5) = 24) → True) ∧ (¬ ((q.1 650 5) = 24) → ((v2 = 0) → True) ∧ (¬ (v2 = 0) → ((v1 = 0) → S139_72 2 q) ∧ (¬ (v1 = 0) → S139_72 3 q)))
set_option maxRecDepth 100000 in
set_option maxHeartbeats 4000000 in
theorem A139_45 {l : Launch} {X : aX} {d : Nat} {r : Option Value} {h' : aH} {v1 : Int32} {v2 : Int32} {q : aQ} (hd : 2 ≤ d) (hN : h'.1 = nk0) (hG : gI r h' (F139_45 v1 v2 q)) (hS : S139_45 v1 v2 q) : AW l X 139 c139 d r h' 45 [some (.ref 650), some (.int v1), some (.int v2), none] [] (hp q) := by
  unfold F139_45 at hG
  unfold S139_45 at hS
  refine x_run (pc' := 46) (lo' := [some (.ref 650), some (.int v1), some (.int v2), none]) (st' := [.ref 650]) 1 rfl ?_
  refine x_gf (c := 581) (ne := 0) (v := .int (q.1 650 5)) rfl (by decide +kernel) rfl rfl ?_
  refine x_run (pc' := 51) (lo' := [some (.ref 650), some (.int v1), some (.int v2), none]) (st' := [.int 24, .int (q.1 650 5)]) 1 rfl ?_
  refine x_ic 58 rfl rfl (fun (hc7 : (q.1 650 5) = 24) => ?_) (fun (hc7 : ¬ (q.1 650 5) = 24) => ?_)
  · rw [if_pos hc7] at hG
    replace hS := hS.1 hc7
    refine x_run (pc' := 77) (lo' := [some (.ref 650), some (.int v1), some (.int v2), none]) (st' := [.int (-1)]) 2 rfl ?_
    obtain ⟨rfl, rfl⟩ := hG
    exact x_iret rfl (by decide +kernel)
  · rw [if_neg hc7] at hG
    replace hS := hS.2 hc7
    refine x_run (pc' := 55) (lo' := [some (.ref 650), some (.int v1), some (.int v2), none]) (st' := [.int v2]) 1 rfl ?_
    refine x_if 62 rfl rfl (fun (hc8 : ¬ v2 = 0) => ?_) (fun (hc8 : v2 = 0) => ?_)
    · rw [if_neg hc8] at hG
      replace hS := hS.2 hc8
      refine x_run (pc' := 64) (lo' := [some (.ref 650), some (.int v1), some (.int v2), none]) (st' := [.int v1, .ref 650]) 2 rfl ?_
      refine x_if 71 rfl rfl (fun (hc9 : v1 = 0) => ?_) (fun (hc9 : ¬ v1 = 0) => ?_)
      · rw [if_pos hc9] at hG
        replace hS := hS.1 hc9
        refine x_run (pc' := 72) (lo' := [some (.ref 650), some (.int v1), some (.int v2), none]) (st' := [.int 2, .ref 650]) 1 rfl ?_
        refine x_kill [0, 1, 2] ?_
        exact A139_72 hd hN hG hS
      · rw [if_neg hc9] at hG
        replace hS := hS.2 hc9
        refine x_run (pc' := 72) (lo' := [some (.ref 650), some (.int v1), some (.int v2), none]) (st' := [.int 3, .ref 650]) 2 rfl ?_
        refine x_kill [0, 1, 2] ?_
        exact A139_72 hd hN hG hS
    · rw [if_pos hc8] at hG
      replace hS := hS.1 hc8
      refine x_run (pc' := 77) (lo' := [some (.ref 650), some (.int v1), some (.int v2), none]) (st' := [.int (-1)]) 2 rfl ?_
      obtain ⟨rfl, rfl⟩ := hG
      exact x_iret rfl (by decide +kernel)
def F139_0 (v1 : Int32) (q : aQ) : Int32 × aQ := (fun (e6 : Int32 × aQ) => F139_45 v1 e6.1 e6.2) (a_lp (fun (s : Int32 × Int32 × aQ) => F139_4 v1 s.1 s.2.1 s.2.2) 200 (0, 0, q) (0, q))
def S139_0 (v1 : Int32) (q : aQ) : Prop := a_sf (fun (s : Int32 × Int32 × aQ) => F139_4 v1 s.1 s.2.1 s.2.2) (fun (s : Int32 × Int32 × aQ) => S139_4 v1 s.1 s.2.1 s.2.2) 200 (0, 0, q) ∧ (fun (e6 : Int32 × aQ) => S139_45 v1 e6.1 e6.2) (a_lp (fun (s : Int32 × Int32 × aQ) => F139_4 v1 s.1 s.2.1 s.2.2) 200 (0, 0, q) (0, q))
set_option maxRecDepth 100000 in
set_option maxHeartbeats 4000000 in
theorem A139_0 {l : Launch} {X : aX} {d : Nat} {r : Option Value} {h' : aH} {v1 : Int32} {q : aQ} (hd : 2 ≤ d) (hN : h'.1 = nk0) (hG : gI r h' (F139_0 v1 q)) (hS : S139_0 v1 q) : AW l X 139 c139 d r h' 0 [some (.ref 650), some (.int v1), none, none] [] (hp q) := by
  unfold F139_0 at hG
  unfold S139_0 at hS
  refine x_run (pc' := 4) (lo' := [some (.ref 650), some (.int v1), some (.int 0), some (.int 0)]) (st' := []) 4 rfl ?_
  obtain ⟨ho, hS⟩ := hS
  refine x_loop (fun (s : Int32 × Int32 × aQ) => F139_4 v1 s.1 s.2.1 s.2.2) (fun (s : Int32 × Int32 × aQ) => S139_4 v1 s.1 s.2.1 s.2.2) (fun (s : Int32 × Int32 × aQ) => AW l X 139 c139 d r h' 4 [some (.ref 650), some (.int v1), some (.int s.1), some (.int s.2.1)] [] (hp s.2.2)) (fun (e : Int32 × aQ) => AW l X 139 c139 d r h' 45 [some (.ref 650), some (.int v1), some (.int e.1), none] [] (hp e.2)) (fun s hs hg => A139_4 hd hN hg hs) 200 (0, 0, q) ho (fun e6 he => ?_)
  rw [a_lp_eq he] at hG hS
  try dsimp only at hG hS
  exact A139_45 hd hN hG hS
theorem T139 {l : Launch} {X : aX} {d : Nat} {v1 : Int32} {q : aQ} (hd : 2 ≤ d) (hS : S139_0 v1 q) : Call l X d 139 [.ref 650, .int v1] (hp q) (some (.int (F139_0 v1 q).1)) (hp (F139_0 v1 q).2) := Call.of ok139 (by decide) (Nat.le_of_ble_eq_true rfl) ⟨Nat.le_refl _, Nat.le_refl _⟩ (A139_0 hd rfl ⟨rfl, rfl⟩ hS)
/-- TypeForecastModel.branch(I)I -/
def F140_0 (v1 : Int32) (q : aQ) : Int32 × aQ := (if (q.1 650 5) = 24 then ((-1), q) else (if (q.1 650 14) = 5 then ((-1), q) else (if (F134_0 v1 q) = 0 then ((-1), q) else ((F136_0 4 0 v1 q).1, (F136_0 4 0 v1 q).2))))
def S140_0 (v1 : Int32) (q : aQ) : Prop := (((q.1 650 5) = 24) → True) ∧ (¬ ((q.1 650 5) = 24) → (((q.1 650 14) = 5) → True) ∧ (¬ ((q.1 650 14) = 5) → S134_0 v1 q ∧ ((((F134_0 v1 q) = 0) → True) ∧ (¬ ((F134_0 v1 q) = 0) → S136_0 4 0 v1 q ∧ (True)))))
set_option maxRecDepth 100000 in
set_option maxHeartbeats 4000000 in
theorem A140_0 {l : Launch} {X : aX} {d : Nat} {r : Option Value} {h' : aH} {v1 : Int32} {q : aQ} (hd : 2 ≤ d) (hN : h'.1 = nk0) (hG : gI r h' (F140_0 v1 q)) (hS : S140_0 v1 q) : AW l X 140 c140 d r h' 0 [some (.ref 650), some (.int v1)] [] (hp q) := by
  unfold F140_0 at hG
  unfold S140_0 at hS
  refine x_run (pc' := 1) (lo' := [some (.ref 650), some (.int v1)]) (st' := [.ref 650]) 1 rfl ?_
  refine x_gf (c := 581) (ne := 0) (v := .int (q.1 650 5)) rfl (by decide +kernel) rfl rfl ?_
  refine x_run (pc' := 6) (lo' := [some (.ref 650), some (.int v1)]) (st' := [.int 24, .int (q.1 650 5)]) 1 rfl ?_
  refine x_ic 25 rfl rfl (fun (hc1 : (q.1 650 5) = 24) => ?_) (fun (hc1 : ¬ (q.1 650 5) = 24) => ?_)
  · rw [if_pos hc1] at hG
    replace hS := hS.1 hc1
    refine x_run (pc' := 36) (lo' := [some (.ref 650), some (.int v1)]) (st' := [.int (-1)]) 2 rfl ?_
    obtain ⟨rfl, rfl⟩ := hG
    exact x_iret rfl (by decide +kernel)
  · rw [if_neg hc1] at hG
    replace hS := hS.2 hc1
    refine x_run (pc' := 10) (lo' := [some (.ref 650), some (.int v1)]) (st' := [.ref 650]) 1 rfl ?_
    refine x_gf (c := 590) (ne := 0) (v := .int (q.1 650 14)) rfl (by decide +kernel) rfl rfl ?_
    refine x_run (pc' := 14) (lo' := [some (.ref 650), some (.int v1)]) (st' := [.int 5, .int (q.1 650 14)]) 1 rfl ?_
    refine x_ic 25 rfl rfl (fun (hc2 : (q.1 650 14) = 5) => ?_) (fun (hc2 : ¬ (q.1 650 14) = 5) => ?_)
    · rw [if_pos hc2] at hG
      replace hS := hS.1 hc2
      refine x_run (pc' := 36) (lo' := [some (.ref 650), some (.int v1)]) (st' := [.int (-1)]) 2 rfl ?_
      obtain ⟨rfl, rfl⟩ := hG
      exact x_iret rfl (by decide +kernel)
    · rw [if_neg hc2] at hG
      replace hS := hS.2 hc2
      refine x_run (pc' := 19) (lo' := [some (.ref 650), some (.int v1)]) (st' := [.int v1, .ref 650]) 2 rfl ?_
      obtain ⟨o3, hS⟩ := hS
      refine x_cv (j := 134) (ne := 0) (vs := [.int v1]) (rest := []) rfl (by decide +kernel) (by decide +kernel) (by decide) (Eq.trans rfl (show 1 = _ from by decide +kernel)) rfl (by decide +kernel) rfl (Nat.le_of_ble_eq_true rfl) (by omega) (T134 (Nat.le_refl 1) o3) (hp_m hN) ?_
      show AW l X 140 c140 d r h' 22 [some (.ref 650), some (.int v1)] [.int (F134_0 v1 q)] (hp q)
      refine x_if 29 rfl rfl (fun (hc4 : ¬ (F134_0 v1 q) = 0) => ?_) (fun (hc4 : (F134_0 v1 q) = 0) => ?_)
      · rw [if_neg hc4] at hG
        replace hS := hS.2 hc4
        refine x_run (pc' := 33) (lo' := [some (.ref 650), some (.int v1)]) (st' := [.int v1, .int 0, .int 4, .ref 650]) 4 rfl ?_
        obtain ⟨o5, hS⟩ := hS
        refine x_cv (j := 136) (ne := 0) (vs := [.int 4, .int 0, .int v1]) (rest := []) rfl (by decide +kernel) (by decide +kernel) (by decide) (Eq.trans rfl (show 3 = _ from by decide +kernel)) rfl (by decide +kernel) rfl (Nat.le_of_ble_eq_true rfl) (by omega) (T136 (Nat.le_refl 1) o5) (hp_m hN) ?_
        show AW l X 140 c140 d r h' 36 [some (.ref 650), some (.int v1)] [.int (F136_0 4 0 v1 q).1] (hp (F136_0 4 0 v1 q).2)
        obtain ⟨rfl, rfl⟩ := hG
        exact x_iret rfl (by decide +kernel)
      · rw [if_pos hc4] at hG
        replace hS := hS.1 hc4
        refine x_run (pc' := 36) (lo' := [some (.ref 650), some (.int v1)]) (st' := [.int (-1)]) 2 rfl ?_
        obtain ⟨rfl, rfl⟩ := hG
        exact x_iret rfl (by decide +kernel)
theorem T140 {l : Launch} {X : aX} {d : Nat} {v1 : Int32} {q : aQ} (hd : 2 ≤ d) (hS : S140_0 v1 q) : Call l X d 140 [.ref 650, .int v1] (hp q) (some (.int (F140_0 v1 q).1)) (hp (F140_0 v1 q).2) := Call.of ok140 (by decide) (Nat.le_of_ble_eq_true rfl) ⟨Nat.le_refl _, Nat.le_refl _⟩ (A140_0 hd rfl ⟨rfl, rfl⟩ hS)
/-- TypeForecastModel.loop(I)I -/
def F141_0 (v1 : Int32) (q : aQ) : Int32 × aQ := (if (q.1 650 5) = 24 then ((-1), q) else (if (q.1 650 14) = 5 then ((-1), q) else (if (F134_0 v1 q) = 0 then ((-1), q) else ((F136_0 5 0 v1 q).1, (F136_0 5 0 v1 q).2))))
def S141_0 (v1 : Int32) (q : aQ) : Prop := (((q.1 650 5) = 24) → True) ∧ (¬ ((q.1 650 5) = 24) → (((q.1 650 14) = 5) → True) ∧ (¬ ((q.1 650 14) = 5) → S134_0 v1 q ∧ ((((F134_0 v1 q) = 0) → True) ∧ (¬ ((F134_0 v1 q) = 0) → S136_0 5 0 v1 q ∧ (True)))))
set_option maxRecDepth 100000 in
set_option maxHeartbeats 4000000 in
theorem A141_0 {l : Launch} {X : aX} {d : Nat} {r : Option Value} {h' : aH} {v1 : Int32} {q : aQ} (hd : 2 ≤ d) (hN : h'.1 = nk0) (hG : gI r h' (F141_0 v1 q)) (hS : S141_0 v1 q) : AW l X 141 c141 d r h' 0 [some (.ref 650), some (.int v1)] [] (hp q) := by
  unfold F141_0 at hG
  unfold S141_0 at hS
  refine x_run (pc' := 1) (lo' := [some (.ref 650), some (.int v1)]) (st' := [.ref 650]) 1 rfl ?_
  refine x_gf (c := 581) (ne := 0) (v := .int (q.1 650 5)) rfl (by decide +kernel) rfl rfl ?_
  refine x_run (pc' := 6) (lo' := [some (.ref 650), some (.int v1)]) (st' := [.int 24, .int (q.1 650 5)]) 1 rfl ?_
  refine x_ic 25 rfl rfl (fun (hc1 : (q.1 650 5) = 24) => ?_) (fun (hc1 : ¬ (q.1 650 5) = 24) => ?_)
  · rw [if_pos hc1] at hG
    replace hS := hS.1 hc1
    refine x_run (pc' := 36) (lo' := [some (.ref 650), some (.int v1)]) (st' := [.int (-1)]) 2 rfl ?_
    obtain ⟨rfl, rfl⟩ := hG
    exact x_iret rfl (by decide +kernel)
  · rw [if_neg hc1] at hG
    replace hS := hS.2 hc1
    refine x_run (pc' := 10) (lo' := [some (.ref 650), some (.int v1)]) (st' := [.ref 650]) 1 rfl ?_
    refine x_gf (c := 590) (ne := 0) (v := .int (q.1 650 14)) rfl (by decide +kernel) rfl rfl ?_
    refine x_run (pc' := 14) (lo' := [some (.ref 650), some (.int v1)]) (st' := [.int 5, .int (q.1 650 14)]) 1 rfl ?_
    refine x_ic 25 rfl rfl (fun (hc2 : (q.1 650 14) = 5) => ?_) (fun (hc2 : ¬ (q.1 650 14) = 5) => ?_)
    · rw [if_pos hc2] at hG
      replace hS := hS.1 hc2
      refine x_run (pc' := 36) (lo' := [some (.ref 650), some (.int v1)]) (st' := [.int (-1)]) 2 rfl ?_
      obtain ⟨rfl, rfl⟩ := hG
      exact x_iret rfl (by decide +kernel)
    · rw [if_neg hc2] at hG
      replace hS := hS.2 hc2
      refine x_run (pc' := 19) (lo' := [some (.ref 650), some (.int v1)]) (st' := [.int v1, .ref 650]) 2 rfl ?_
      obtain ⟨o3, hS⟩ := hS
      refine x_cv (j := 134) (ne := 0) (vs := [.int v1]) (rest := []) rfl (by decide +kernel) (by decide +kernel) (by decide) (Eq.trans rfl (show 1 = _ from by decide +kernel)) rfl (by decide +kernel) rfl (Nat.le_of_ble_eq_true rfl) (by omega) (T134 (Nat.le_refl 1) o3) (hp_m hN) ?_
      show AW l X 141 c141 d r h' 22 [some (.ref 650), some (.int v1)] [.int (F134_0 v1 q)] (hp q)
      refine x_if 29 rfl rfl (fun (hc4 : ¬ (F134_0 v1 q) = 0) => ?_) (fun (hc4 : (F134_0 v1 q) = 0) => ?_)
      · rw [if_neg hc4] at hG
        replace hS := hS.2 hc4
        refine x_run (pc' := 33) (lo' := [some (.ref 650), some (.int v1)]) (st' := [.int v1, .int 0, .int 5, .ref 650]) 4 rfl ?_
        obtain ⟨o5, hS⟩ := hS
        refine x_cv (j := 136) (ne := 0) (vs := [.int 5, .int 0, .int v1]) (rest := []) rfl (by decide +kernel) (by decide +kernel) (by decide) (Eq.trans rfl (show 3 = _ from by decide +kernel)) rfl (by decide +kernel) rfl (Nat.le_of_ble_eq_true rfl) (by omega) (T136 (Nat.le_refl 1) o5) (hp_m hN) ?_
        show AW l X 141 c141 d r h' 36 [some (.ref 650), some (.int v1)] [.int (F136_0 5 0 v1 q).1] (hp (F136_0 5 0 v1 q).2)
        obtain ⟨rfl, rfl⟩ := hG
        exact x_iret rfl (by decide +kernel)
      · rw [if_pos hc4] at hG
        replace hS := hS.1 hc4
        refine x_run (pc' := 36) (lo' := [some (.ref 650), some (.int v1)]) (st' := [.int (-1)]) 2 rfl ?_
        obtain ⟨rfl, rfl⟩ := hG
        exact x_iret rfl (by decide +kernel)
theorem T141 {l : Launch} {X : aX} {d : Nat} {v1 : Int32} {q : aQ} (hd : 2 ≤ d) (hS : S141_0 v1 q) : Call l X d 141 [.ref 650, .int v1] (hp q) (some (.int (F141_0 v1 q).1)) (hp (F141_0 v1 q).2) := Call.of ok141 (by decide) (Nat.le_of_ble_eq_true rfl) ⟨Nat.le_refl _, Nat.le_refl _⟩ (A141_0 hd rfl ⟨rfl, rfl⟩ hS)
/-- TypeForecastModel.attempt(I)I -/
def F142_0 (v1 : Int32) (q : aQ) : Int32 × aQ := (if (q.1 650 5) = 24 then ((-1), q) else (if (q.1 650 14) = 5 then ((-1), q) else (if v1 < 0 then ((-1), q) else (if v1 ≤ 4 then ((F136_0 6 v1 0 q).1, (F136_0 6 v1 0 q).2) else ((-1), q)))))
def S142_0 (v1 : Int32) (q : aQ) : Prop := (((q.1 650 5) = 24) → True) ∧ (¬ ((q.1 650 5) = 24) → (((q.1 650 14) = 5) → True) ∧ (¬ ((q.1 650 14) = 5) → ((v1 < 0) → True) ∧ (¬ (v1 < 0) → ((v1 ≤ 4) → S136_0 6 v1 0 q ∧ (True)) ∧ (¬ (v1 ≤ 4) → True))))
set_option maxRecDepth 100000 in
set_option maxHeartbeats 4000000 in
theorem A142_0 {l : Launch} {X : aX} {d : Nat} {r : Option Value} {h' : aH} {v1 : Int32} {q : aQ} (hd : 2 ≤ d) (hN : h'.1 = nk0) (hG : gI r h' (F142_0 v1 q)) (hS : S142_0 v1 q) : AW l X 142 c142 d r h' 0 [some (.ref 650), some (.int v1)] [] (hp q) := by
  unfold F142_0 at hG
  unfold S142_0 at hS
  refine x_run (pc' := 1) (lo' := [some (.ref 650), some (.int v1)]) (st' := [.ref 650]) 1 rfl ?_
  refine x_gf (c := 581) (ne := 0) (v := .int (q.1 650 5)) rfl (by decide +kernel) rfl rfl ?_
  refine x_run (pc' := 6) (lo' := [some (.ref 650), some (.int v1)]) (st' := [.int 24, .int (q.1 650 5)]) 1 rfl ?_
  refine x_ic 26 rfl rfl (fun (hc1 : (q.1 650 5) = 24) => ?_) (fun (hc1 : ¬ (q.1 650 5) = 24) => ?_)
  · rw [if_pos hc1] at hG
    replace hS := hS.1 hc1
    refine x_run (pc' := 38) (lo' := [some (.ref 650), some (.int v1)]) (st' := [.int (-1)]) 2 rfl ?_
    obtain ⟨rfl, rfl⟩ := hG
    exact x_iret rfl (by decide +kernel)
  · rw [if_neg hc1] at hG
    replace hS := hS.2 hc1
    refine x_run (pc' := 10) (lo' := [some (.ref 650), some (.int v1)]) (st' := [.ref 650]) 1 rfl ?_
    refine x_gf (c := 590) (ne := 0) (v := .int (q.1 650 14)) rfl (by decide +kernel) rfl rfl ?_
    refine x_run (pc' := 14) (lo' := [some (.ref 650), some (.int v1)]) (st' := [.int 5, .int (q.1 650 14)]) 1 rfl ?_
    refine x_ic 26 rfl rfl (fun (hc2 : (q.1 650 14) = 5) => ?_) (fun (hc2 : ¬ (q.1 650 14) = 5) => ?_)
    · rw [if_pos hc2] at hG
      replace hS := hS.1 hc2
      refine x_run (pc' := 38) (lo' := [some (.ref 650), some (.int v1)]) (st' := [.int (-1)]) 2 rfl ?_
      obtain ⟨rfl, rfl⟩ := hG
      exact x_iret rfl (by decide +kernel)
    · rw [if_neg hc2] at hG
      replace hS := hS.2 hc2
      refine x_run (pc' := 18) (lo' := [some (.ref 650), some (.int v1)]) (st' := [.int v1]) 1 rfl ?_
      refine x_if 26 rfl rfl (fun (hc3 : v1 < 0) => ?_) (fun (hc3 : ¬ v1 < 0) => ?_)
      · rw [if_pos hc3] at hG
        replace hS := hS.1 hc3
        refine x_run (pc' := 38) (lo' := [some (.ref 650), some (.int v1)]) (st' := [.int (-1)]) 2 rfl ?_
        obtain ⟨rfl, rfl⟩ := hG
        exact x_iret rfl (by decide +kernel)
      · rw [if_neg hc3] at hG
        replace hS := hS.2 hc3
        refine x_run (pc' := 23) (lo' := [some (.ref 650), some (.int v1)]) (st' := [.int 4, .int v1]) 2 rfl ?_
        refine x_ic 30 rfl rfl (fun (hc4 : v1 ≤ 4) => ?_) (fun (hc4 : ¬ v1 ≤ 4) => ?_)
        · rw [if_pos hc4] at hG
          replace hS := hS.1 hc4
          refine x_run (pc' := 35) (lo' := [some (.ref 650), some (.int v1)]) (st' := [.int 0, .int v1, .int 6, .ref 650]) 4 rfl ?_
          obtain ⟨o5, hS⟩ := hS
          refine x_cv (j := 136) (ne := 0) (vs := [.int 6, .int v1, .int 0]) (rest := []) rfl (by decide +kernel) (by decide +kernel) (by decide) (Eq.trans rfl (show 3 = _ from by decide +kernel)) rfl (by decide +kernel) rfl (Nat.le_of_ble_eq_true rfl) (by omega) (T136 (Nat.le_refl 1) o5) (hp_m hN) ?_
          show AW l X 142 c142 d r h' 38 [some (.ref 650), some (.int v1)] [.int (F136_0 6 v1 0 q).1] (hp (F136_0 6 v1 0 q).2)
          obtain ⟨rfl, rfl⟩ := hG
          exact x_iret rfl (by decide +kernel)
        · rw [if_neg hc4] at hG
          replace hS := hS.2 hc4
          refine x_run (pc' := 38) (lo' := [some (.ref 650), some (.int v1)]) (st' := [.int (-1)]) 2 rfl ?_
          obtain ⟨rfl, rfl⟩ := hG
          exact x_iret rfl (by decide +kernel)
theorem T142 {l : Launch} {X : aX} {d : Nat} {v1 : Int32} {q : aQ} (hd : 2 ≤ d) (hS : S142_0 v1 q) : Call l X d 142 [.ref 650, .int v1] (hp q) (some (.int (F142_0 v1 q).1)) (hp (F142_0 v1 q).2) := Call.of ok142 (by decide) (Nat.le_of_ble_eq_true rfl) ⟨Nat.le_refl _, Nat.le_refl _⟩ (A142_0 hd rfl ⟨rfl, rfl⟩ hS)
/-- TypeForecastModel.otherwise()Z -/
def F143_22 (s0 : Int32) (q : aQ) : Int32 × aQ := (if (s0 &&& 1) = 1 then (0, q) else (if (q.1 655 (Int32.toNatClampNeg (s0 / 2))) = 5 then (0, q) else (1, (a_w q 663 (Int32.toNatClampNeg ((q.1 650 14) - 1)) (s0 + 1)))))
def S143_22 (s0 : Int32) (q : aQ) : Prop := (((s0 &&& 1) = 1) → True) ∧ (¬ ((s0 &&& 1) = 1) → vp_in (s0 / 2) 24 ∧ ((((q.1 655 (Int32.toNatClampNeg (s0 / 2))) = 5) → True) ∧ (¬ ((q.1 655 (Int32.toNatClampNeg (s0 / 2))) = 5) → vp_in ((q.1 650 14) - 1) 6 ∧ (True))))
set_option maxRecDepth 100000 in
set_option maxHeartbeats 4000000 in
theorem A143_22 {l : Launch} {X : aX} {d : Nat} {r : Option Value} {h' : aH} {s0 : Int32} {q : aQ} (hd : 1 ≤ d) (hN : h'.1 = nk0) (hG : gI r h' (F143_22 s0 q)) (hS : S143_22 s0 q) : AW l X 143 c143 d r h' 22 [some (.ref 650), none] [.int s0] (hp q) := by
  unfold F143_22 at hG
  unfold S143_22 at hS
  refine x_run (pc' := 27) (lo' := [some (.ref 650), some (.int s0)]) (st' := [.int 1, .int (s0 &&& 1)]) 5 rfl ?_
  refine x_ic 42 rfl rfl (fun (hc3 : (s0 &&& 1) = 1) => ?_) (fun (hc3 : ¬ (s0 &&& 1) = 1) => ?_)
  · rw [if_pos hc3] at hG
    replace hS := hS.1 hc3
    refine x_run (pc' := 43) (lo' := [some (.ref 650), some (.int s0)]) (st' := [.int 0]) 1 rfl ?_
    obtain ⟨rfl, rfl⟩ := hG
    exact x_zret rfl (by decide +kernel) (Or.inl rfl)
  · rw [if_neg hc3] at hG
    replace hS := hS.2 hc3
    refine x_run (pc' := 31) (lo' := [some (.ref 650), some (.int s0)]) (st' := [.ref 650]) 1 rfl ?_
    refine x_gf (c := 582) (ne := 0) (v := .ref 655) rfl (by decide +kernel) rfl rfl ?_
    refine x_run (pc' := 36) (lo' := [some (.ref 650), some (.int s0)]) (st' := [.int 2, .int s0, .ref 655]) 2 rfl ?_
    refine x_idiv rfl (by decide) ?_
    obtain ⟨o4, hS⟩ := hS
    refine p_ia (n := 24) (v := (q.1 655 (Int32.toNatClampNeg (s0 / 2)))) rfl rfl o4 rfl ?_
    refine x_run (pc' := 39) (lo' := [some (.ref 650), some (.int s0)]) (st' := [.int 5, .int (q.1 655 (Int32.toNatClampNeg (s0 / 2)))]) 1 rfl ?_
    refine x_ic 44 rfl rfl (fun (hc5 : ¬ (q.1 655 (Int32.toNatClampNeg (s0 / 2))) = 5) => ?_) (fun (hc5 : (q.1 655 (Int32.toNatClampNeg (s0 / 2))) = 5) => ?_)
    · rw [if_neg hc5] at hG
      replace hS := hS.2 hc5
      refine x_run (pc' := 45) (lo' := [some (.ref 650), some (.int s0)]) (st' := [.ref 650]) 1 rfl ?_
      refine x_gf (c := 591) (ne := 0) (v := .ref 663) rfl (by decide +kernel) rfl rfl ?_
      refine x_run (pc' := 49) (lo' := [some (.ref 650), some (.int s0)]) (st' := [.ref 650, .ref 663]) 1 rfl ?_
      refine x_gf (c := 590) (ne := 0) (v := .int (q.1 650 14)) rfl (by decide +kernel) rfl rfl ?_
      refine x_run (pc' := 57) (lo' := [some (.ref 650), some (.int s0)]) (st' := [.int (s0 + 1), .int ((q.1 650 14) - 1), .ref 663]) 5 rfl ?_
      obtain ⟨o6, hS⟩ := hS
      refine p_is (n := 6) rfl rfl o6 ?_
      refine x_run (pc' := 59) (lo' := [some (.ref 650), some (.int s0)]) (st' := [.int 1]) 1 rfl ?_
      obtain ⟨rfl, rfl⟩ := hG
      exact x_zret rfl (by decide +kernel) (Or.inr rfl)
    · rw [if_pos hc5] at hG
      replace hS := hS.1 hc5
      refine x_run (pc' := 43) (lo' := [some (.ref 650), some (.int s0)]) (st' := [.int 0]) 1 rfl ?_
      obtain ⟨rfl, rfl⟩ := hG
      exact x_zret rfl (by decide +kernel) (Or.inl rfl)
def F143_0 (q : aQ) : Int32 × aQ := (if (q.1 650 14) = 0 then F143_22 1 q else F143_22 (q.1 663 (Int32.toNatClampNeg ((q.1 650 14) - 1))) q)
def S143_0 (q : aQ) : Prop := (((q.1 650 14) = 0) → S143_22 1 q) ∧ (¬ ((q.1 650 14) = 0) → vp_in ((q.1 650 14) - 1) 6 ∧ (S143_22 (q.1 663 (Int32.toNatClampNeg ((q.1 650 14) - 1))) q))
set_option maxRecDepth 100000 in
set_option maxHeartbeats 4000000 in
theorem A143_0 {l : Launch} {X : aX} {d : Nat} {r : Option Value} {h' : aH} {q : aQ} (hd : 1 ≤ d) (hN : h'.1 = nk0) (hG : gI r h' (F143_0 q)) (hS : S143_0 q) : AW l X 143 c143 d r h' 0 [some (.ref 650), none] [] (hp q) := by
  unfold F143_0 at hG
  unfold S143_0 at hS
  refine x_run (pc' := 1) (lo' := [some (.ref 650), none]) (st' := [.ref 650]) 1 rfl ?_
  refine x_gf (c := 590) (ne := 0) (v := .int (q.1 650 14)) rfl (by decide +kernel) rfl rfl ?_
  refine x_if 11 rfl rfl (fun (hc1 : ¬ (q.1 650 14) = 0) => ?_) (fun (hc1 : (q.1 650 14) = 0) => ?_)
  · rw [if_neg hc1] at hG
    replace hS := hS.2 hc1
    refine x_run (pc' := 12) (lo' := [some (.ref 650), none]) (st' := [.ref 650]) 1 rfl ?_
    refine x_gf (c := 591) (ne := 0) (v := .ref 663) rfl (by decide +kernel) rfl rfl ?_
    refine x_run (pc' := 16) (lo' := [some (.ref 650), none]) (st' := [.ref 650, .ref 663]) 1 rfl ?_
    refine x_gf (c := 590) (ne := 0) (v := .int (q.1 650 14)) rfl (by decide +kernel) rfl rfl ?_
    refine x_run (pc' := 21) (lo' := [some (.ref 650), none]) (st' := [.int ((q.1 650 14) - 1), .ref 663]) 2 rfl ?_
    obtain ⟨o2, hS⟩ := hS
    refine p_ia (n := 6) (v := (q.1 663 (Int32.toNatClampNeg ((q.1 650 14) - 1)))) rfl rfl o2 rfl ?_
    exact A143_22 hd hN hG hS
  · rw [if_pos hc1] at hG
    replace hS := hS.1 hc1
    refine x_run (pc' := 22) (lo' := [some (.ref 650), none]) (st' := [.int 1]) 2 rfl ?_
    exact A143_22 hd hN hG hS
theorem T143 {l : Launch} {X : aX} {d : Nat} {q : aQ} (hd : 1 ≤ d) (hS : S143_0 q) : Call l X d 143 [.ref 650] (hp q) (some (.int (F143_0 q).1)) (hp (F143_0 q).2) := Call.of ok143 (by decide) (Nat.le_of_ble_eq_true rfl) ⟨Nat.le_refl _, Nat.le_refl _⟩ (A143_0 hd rfl ⟨rfl, rfl⟩ hS)
/-- TypeForecastModel.end()Z -/
def F144_28 (v1 : Int32) (s0 : Int32) (q : aQ) : Int32 × aQ := (v1, (a_w q 650 14 s0))
def S144_28 (v1 : Int32) (s0 : Int32) (q : aQ) : Prop := (v1 = 0 ∨ v1 = 1) ∧ (True)
set_option maxRecDepth 100000 in
set_option maxHeartbeats 4000000 in
theorem A144_28 {l : Launch} {X : aX} {d : Nat} {r : Option Value} {h' : aH} {v1 : Int32} {s0 : Int32} {q : aQ} (hd : 1 ≤ d) (hN : h'.1 = nk0) (hG : gI r h' (F144_28 v1 s0 q)) (hS : S144_28 v1 s0 q) : AW l X 144 c144 d r h' 28 [none, some (.int v1)] [.int s0, .ref 650] (hp q) := by
  unfold F144_28 at hG
  unfold S144_28 at hS
  refine x_pf (c := 590) (ne := 0) (h2 := hp (a_w q 650 14 s0)) rfl (by decide +kernel) (by decide +kernel) rfl (pv_i rfl) ?_
  refine x_run (pc' := 32) (lo' := [none, some (.int v1)]) (st' := [.int v1]) 1 rfl ?_
  obtain ⟨o3, hS⟩ := hS
  obtain ⟨rfl, rfl⟩ := hG
  exact x_zret rfl (by decide +kernel) o3
def F144_12 (s0 : Int32) (q : aQ) : Int32 × aQ := (if s0 = 0 then F144_28 s0 0 q else F144_28 s0 ((q.1 650 14) - 1) q)
def S144_12 (s0 : Int32) (q : aQ) : Prop := ((s0 = 0) → S144_28 s0 0 q) ∧ (¬ (s0 = 0) → S144_28 s0 ((q.1 650 14) - 1) q)
set_option maxRecDepth 100000 in
set_option maxHeartbeats 4000000 in
theorem A144_12 {l : Launch} {X : aX} {d : Nat} {r : Option Value} {h' : aH} {s0 : Int32} {q : aQ} (hd : 1 ≤ d) (hN : h'.1 = nk0) (hG : gI r h' (F144_12 s0 q)) (hS : S144_12 s0 q) : AW l X 144 c144 d r h' 12 [some (.ref 650), none] [.int s0] (hp q) := by
  unfold F144_12 at hG
  unfold S144_12 at hS
  refine x_run (pc' := 15) (lo' := [some (.ref 650), some (.int s0)]) (st' := [.int s0, .ref 650]) 3 rfl ?_
  refine x_if 27 rfl rfl (fun (hc2 : s0 = 0) => ?_) (fun (hc2 : ¬ s0 = 0) => ?_)
  · rw [if_pos hc2] at hG
    replace hS := hS.1 hc2
    refine x_run (pc' := 28) (lo' := [some (.ref 650), some (.int s0)]) (st' := [.int 0, .ref 650]) 1 rfl ?_
    refine x_kill [0] ?_
    exact A144_28 hd hN hG hS
  · rw [if_neg hc2] at hG
    replace hS := hS.2 hc2
    refine x_run (pc' := 19) (lo' := [some (.ref 650), some (.int s0)]) (st' := [.ref 650, .ref 650]) 1 rfl ?_
    refine x_gf (c := 590) (ne := 0) (v := .int (q.1 650 14)) rfl (by decide +kernel) rfl rfl ?_
    refine x_run (pc' := 28) (lo' := [some (.ref 650), some (.int s0)]) (st' := [.int ((q.1 650 14) - 1), .ref 650]) 3 rfl ?_
    refine x_kill [0] ?_
    exact A144_28 hd hN hG hS
def F144_0 (q : aQ) : Int32 × aQ := (if (q.1 650 14) ≤ 0 then F144_12 0 q else F144_12 1 q)
def S144_0 (q : aQ) : Prop := (((q.1 650 14) ≤ 0) → S144_12 0 q) ∧ (¬ ((q.1 650 14) ≤ 0) → S144_12 1 q)
set_option maxRecDepth 100000 in
set_option maxHeartbeats 4000000 in
theorem A144_0 {l : Launch} {X : aX} {d : Nat} {r : Option Value} {h' : aH} {q : aQ} (hd : 1 ≤ d) (hN : h'.1 = nk0) (hG : gI r h' (F144_0 q)) (hS : S144_0 q) : AW l X 144 c144 d r h' 0 [some (.ref 650), none] [] (hp q) := by
  unfold F144_0 at hG
  unfold S144_0 at hS
  refine x_run (pc' := 1) (lo' := [some (.ref 650), none]) (st' := [.ref 650]) 1 rfl ?_
  refine x_gf (c := 590) (ne := 0) (v := .int (q.1 650 14)) rfl (by decide +kernel) rfl rfl ?_
  refine x_if 11 rfl rfl (fun (hc1 : (q.1 650 14) ≤ 0) => ?_) (fun (hc1 : ¬ (q.1 650 14) ≤ 0) => ?_)
  · rw [if_pos hc1] at hG
    replace hS := hS.1 hc1
    refine x_run (pc' := 12) (lo' := [some (.ref 650), none]) (st' := [.int 0]) 1 rfl ?_
    exact A144_12 hd hN hG hS
  · rw [if_neg hc1] at hG
    replace hS := hS.2 hc1
    refine x_run (pc' := 12) (lo' := [some (.ref 650), none]) (st' := [.int 1]) 2 rfl ?_
    exact A144_12 hd hN hG hS
theorem T144 {l : Launch} {X : aX} {d : Nat} {q : aQ} (hd : 1 ≤ d) (hS : S144_0 q) : Call l X d 144 [.ref 650] (hp q) (some (.int (F144_0 q).1)) (hp (F144_0 q).2) := Call.of ok144 (by decide) (Nat.le_of_ble_eq_true rfl) ⟨Nat.le_refl _, Nat.le_refl _⟩ (A144_0 hd rfl ⟨rfl, rfl⟩ hS)
/-- TypeForecastModel.feed(I)Z -/
def F145_0 (v1 : Int32) (q : aQ) : Int32 × aQ := (if (q.1 650 16) = 8 then (0, q) else (if v1 < (-1000000000) then (0, q) else (if v1 ≤ 1000000000 then (1, (a_w (a_w q 664 (Int32.toNatClampNeg (q.1 650 16)) v1) 650 16 ((q.1 650 16) + 1))) else (0, q))))
def S145_0 (v1 : Int32) (q : aQ) : Prop := (((q.1 650 16) = 8) → True) ∧ (¬ ((q.1 650 16) = 8) → ((v1 < (-1000000000)) → True) ∧ (¬ (v1 < (-1000000000)) → ((v1 ≤ 1000000000) → vp_in (q.1 650 16) 8 ∧ (True)) ∧ (¬ (v1 ≤ 1000000000) → True)))
set_option maxRecDepth 100000 in
set_option maxHeartbeats 4000000 in
theorem A145_0 {l : Launch} {X : aX} {d : Nat} {r : Option Value} {h' : aH} {v1 : Int32} {q : aQ} (hd : 1 ≤ d) (hN : h'.1 = nk0) (hG : gI r h' (F145_0 v1 q)) (hS : S145_0 v1 q) : AW l X 145 c145 d r h' 0 [some (.ref 650), some (.int v1)] [] (hp q) := by
  unfold F145_0 at hG
  unfold S145_0 at hS
  refine x_run (pc' := 1) (lo' := [some (.ref 650), some (.int v1)]) (st' := [.ref 650]) 1 rfl ?_
  refine x_gf (c := 592) (ne := 0) (v := .int (q.1 650 16)) rfl (by decide +kernel) rfl rfl ?_
  refine x_run (pc' := 6) (lo' := [some (.ref 650), some (.int v1)]) (st' := [.int 8, .int (q.1 650 16)]) 1 rfl ?_
  refine x_ic 21 rfl rfl (fun (hc1 : (q.1 650 16) = 8) => ?_) (fun (hc1 : ¬ (q.1 650 16) = 8) => ?_)
  · rw [if_pos hc1] at hG
    replace hS := hS.1 hc1
    refine x_run (pc' := 22) (lo' := [some (.ref 650), some (.int v1)]) (st' := [.int 0]) 1 rfl ?_
    obtain ⟨rfl, rfl⟩ := hG
    exact x_zret rfl (by decide +kernel) (Or.inl rfl)
  · rw [if_neg hc1] at hG
    replace hS := hS.2 hc1
    refine x_run (pc' := 10) (lo' := [some (.ref 650), some (.int v1)]) (st' := [.int v1]) 1 rfl ?_
    refine x_ldc (v := (-1000000000)) (ne := 0) rfl (by decide +kernel) ?_
    refine x_ic 21 rfl rfl (fun (hc2 : v1 < (-1000000000)) => ?_) (fun (hc2 : ¬ v1 < (-1000000000)) => ?_)
    · rw [if_pos hc2] at hG
      replace hS := hS.1 hc2
      refine x_run (pc' := 22) (lo' := [some (.ref 650), some (.int v1)]) (st' := [.int 0]) 1 rfl ?_
      obtain ⟨rfl, rfl⟩ := hG
      exact x_zret rfl (by decide +kernel) (Or.inl rfl)
    · rw [if_neg hc2] at hG
      replace hS := hS.2 hc2
      refine x_run (pc' := 16) (lo' := [some (.ref 650), some (.int v1)]) (st' := [.int v1]) 1 rfl ?_
      refine x_ldc (v := 1000000000) (ne := 0) rfl (by decide +kernel) ?_
      refine x_ic 23 rfl rfl (fun (hc3 : v1 ≤ 1000000000) => ?_) (fun (hc3 : ¬ v1 ≤ 1000000000) => ?_)
      · rw [if_pos hc3] at hG
        replace hS := hS.1 hc3
        refine x_run (pc' := 24) (lo' := [some (.ref 650), some (.int v1)]) (st' := [.ref 650]) 1 rfl ?_
        refine x_gf (c := 593) (ne := 0) (v := .ref 664) rfl (by decide +kernel) rfl rfl ?_
        refine x_run (pc' := 28) (lo' := [some (.ref 650), some (.int v1)]) (st' := [.ref 650, .ref 664]) 1 rfl ?_
        refine x_gf (c := 592) (ne := 0) (v := .int (q.1 650 16)) rfl (by decide +kernel) rfl rfl ?_
        refine x_run (pc' := 32) (lo' := [some (.ref 650), some (.int v1)]) (st' := [.int v1, .int (q.1 650 16), .ref 664]) 1 rfl ?_
        obtain ⟨o4, hS⟩ := hS
        refine p_is (n := 8) rfl rfl o4 ?_
        refine x_run (pc' := 35) (lo' := [some (.ref 650), some (.int v1)]) (st' := [.ref 650, .ref 650]) 2 rfl ?_
        refine x_gf (c := 592) (ne := 0) (v := .int (q.1 650 16)) rfl (by decide +kernel) rfl rfl ?_
        refine x_run (pc' := 40) (lo' := [some (.ref 650), some (.int v1)]) (st' := [.int ((q.1 650 16) + 1), .ref 650]) 2 rfl ?_
        refine x_pf (c := 592) (ne := 0) (h2 := hp (a_w (a_w q 664 (Int32.toNatClampNeg (q.1 650 16)) v1) 650 16 ((q.1 650 16) + 1))) rfl (by decide +kernel) (by decide +kernel) rfl (pv_i rfl) ?_
        refine x_run (pc' := 44) (lo' := [some (.ref 650), some (.int v1)]) (st' := [.int 1]) 1 rfl ?_
        obtain ⟨rfl, rfl⟩ := hG
        exact x_zret rfl (by decide +kernel) (Or.inr rfl)
      · rw [if_neg hc3] at hG
        replace hS := hS.2 hc3
        refine x_run (pc' := 22) (lo' := [some (.ref 650), some (.int v1)]) (st' := [.int 0]) 1 rfl ?_
        obtain ⟨rfl, rfl⟩ := hG
        exact x_zret rfl (by decide +kernel) (Or.inl rfl)
theorem T145 {l : Launch} {X : aX} {d : Nat} {v1 : Int32} {q : aQ} (hd : 1 ≤ d) (hS : S145_0 v1 q) : Call l X d 145 [.ref 650, .int v1] (hp q) (some (.int (F145_0 v1 q).1)) (hp (F145_0 v1 q).2) := Call.of ok145 (by decide) (Nat.le_of_ble_eq_true rfl) ⟨Nat.le_refl _, Nat.le_refl _⟩ (A145_0 hd rfl ⟨rfl, rfl⟩ hS)
/-- TypeForecastModel.behind(I)I -/
def F146_4 (v2 : Int32) (v3 : Int32) (q : aQ) : (Int32 × Int32) ⊕ ((Int32) ⊕ (Int32)) := (if 8 ≤ v3 then .inr (.inl v2) else (if 0 ≤ (q.1 660 (Int32.toNatClampNeg v2)) then .inr (.inl v2) else (if 0 ≤ (q.1 658 (Int32.toNatClampNeg v2)) then (if (q.1 655 (Int32.toNatClampNeg (q.1 658 (Int32.toNatClampNeg v2)))) = 5 then .inr (.inr (q.1 658 (Int32.toNatClampNeg v2))) else .inl ((q.1 658 (Int32.toNatClampNeg v2)), (v3 + 1))) else .inr (.inr 24))))
def S146_4 (v2 : Int32) (v3 : Int32) (q : aQ) : Prop := ((8 ≤ v3) → True) ∧ (¬ (8 ≤ v3) → vp_in v2 24 ∧ (((0 ≤ (q.1 660 (Int32.toNatClampNeg v2))) → True) ∧ (¬ (0 ≤ (q.1 660 (Int32.toNatClampNeg v2))) → vp_in v2 24 ∧ (((0 ≤ (q.1 658 (Int32.toNatClampNeg v2))) → vp_in (q.1 658 (Int32.toNatClampNeg v2)) 24 ∧ ((((q.1 655 (Int32.toNatClampNeg (q.1 658 (Int32.toNatClampNeg v2)))) = 5) → True) ∧ (¬ ((q.1 655 (Int32.toNatClampNeg (q.1 658 (Int32.toNatClampNeg v2)))) = 5) → True))) ∧ (¬ (0 ≤ (q.1 658 (Int32.toNatClampNeg v2))) → True)))))
set_option maxRecDepth 100000 in
set_option maxHeartbeats 4000000 in
theorem A146_4 {l : Launch} {X : aX} {d : Nat} {r : Option Value} {h' : aH} {v2 : Int32} {v3 : Int32} {q : aQ} (hd : 1 ≤ d) (hN : h'.1 = nk0) (hG : gL (fun (s : Int32 × Int32) => AW l X 146 c146 d r h' 4 [some (.ref 650), none, some (.int s.1), some (.int s.2), none] [] (hp q)) (gE (fun (e : Int32) => AW l X 146 c146 d r h' 58 [some (.ref 650), none, some (.int e), none, none] [] (hp q)) (fun o => gI r h' (o, q))) (F146_4 v2 v3 q)) (hS : S146_4 v2 v3 q) : AW l X 146 c146 d r h' 4 [some (.ref 650), none, some (.int v2), some (.int v3), none] [] (hp q) := by
  unfold F146_4 at hG
  unfold S146_4 at hS
  refine x_run (pc' := 7) (lo' := [some (.ref 650), none, some (.int v2), some (.int v3), none]) (st' := [.int 8, .int v3]) 2 rfl ?_
  refine x_ic 58 rfl rfl (fun (hc1 : 8 ≤ v3) => ?_) (fun (hc1 : ¬ 8 ≤ v3) => ?_)
  · rw [if_pos hc1] at hG
    replace hS := hS.1 hc1
    refine x_kill [3] ?_
    exact hG
  · rw [if_neg hc1] at hG
    replace hS := hS.2 hc1
    refine x_run (pc' := 11) (lo' := [some (.ref 650), none, some (.int v2), some (.int v3), none]) (st' := [.ref 650]) 1 rfl ?_
    refine x_gf (c := 587) (ne := 0) (v := .ref 660) rfl (by decide +kernel) rfl rfl ?_
    refine x_run (pc' := 15) (lo' := [some (.ref 650), none, some (.int v2), some (.int v3), none]) (st' := [.int v2, .ref 660]) 1 rfl ?_
    obtain ⟨o2, hS⟩ := hS
    refine p_ia (n := 24) (v := (q.1 660 (Int32.toNatClampNeg v2))) rfl rfl o2 rfl ?_
    refine x_if 58 rfl rfl (fun (hc3 : 0 ≤ (q.1 660 (Int32.toNatClampNeg v2))) => ?_) (fun (hc3 : ¬ 0 ≤ (q.1 660 (Int32.toNatClampNeg v2))) => ?_)
    · rw [if_pos hc3] at hG
      replace hS := hS.1 hc3
      refine x_kill [3] ?_
      exact hG
    · rw [if_neg hc3] at hG
      replace hS := hS.2 hc3
      refine x_run (pc' := 20) (lo' := [some (.ref 650), none, some (.int v2), some (.int v3), none]) (st' := [.ref 650]) 1 rfl ?_
      refine x_gf (c := 585) (ne := 0) (v := .ref 658) rfl (by decide +kernel) rfl rfl ?_
      refine x_run (pc' := 24) (lo' := [some (.ref 650), none, some (.int v2), some (.int v3), none]) (st' := [.int v2, .ref 658]) 1 rfl ?_
      obtain ⟨o4, hS⟩ := hS
      refine p_ia (n := 24) (v := (q.1 658 (Int32.toNatClampNeg v2))) rfl rfl o4 rfl ?_
      refine x_run (pc' := 29) (lo' := [some (.ref 650), none, some (.int v2), some (.int v3), some (.int (q.1 658 (Int32.toNatClampNeg v2)))]) (st' := [.int (q.1 658 (Int32.toNatClampNeg v2))]) 2 rfl ?_
      refine x_if 35 rfl rfl (fun (hc5 : 0 ≤ (q.1 658 (Int32.toNatClampNeg v2))) => ?_) (fun (hc5 : ¬ 0 ≤ (q.1 658 (Int32.toNatClampNeg v2))) => ?_)
      · rw [if_pos hc5] at hG
        replace hS := hS.1 hc5
        refine x_run (pc' := 36) (lo' := [some (.ref 650), none, some (.int v2), some (.int v3), some (.int (q.1 658 (Int32.toNatClampNeg v2)))]) (st' := [.ref 650]) 1 rfl ?_
        refine x_gf (c := 582) (ne := 0) (v := .ref 655) rfl (by decide +kernel) rfl rfl ?_
        refine x_run (pc' := 41) (lo' := [some (.ref 650), none, some (.int v2), some (.int v3), some (.int (q.1 658 (Int32.toNatClampNeg v2)))]) (st' := [.int (q.1 658 (Int32.toNatClampNeg v2)), .ref 655]) 1 rfl ?_
        obtain ⟨o6, hS⟩ := hS
        refine p_ia (n := 24) (v := (q.1 655 (Int32.toNatClampNeg (q.1 658 (Int32.toNatClampNeg v2))))) rfl rfl o6 rfl ?_
        refine x_run (pc' := 43) (lo' := [some (.ref 650), none, some (.int v2), some (.int v3), some (.int (q.1 658 (Int32.toNatClampNeg v2)))]) (st' := [.int 5, .int (q.1 655 (Int32.toNatClampNeg (q.1 658 (Int32.toNatClampNeg v2))))]) 1 rfl ?_
        refine x_ic 49 rfl rfl (fun (hc7 : ¬ (q.1 655 (Int32.toNatClampNeg (q.1 658 (Int32.toNatClampNeg v2)))) = 5) => ?_) (fun (hc7 : (q.1 655 (Int32.toNatClampNeg (q.1 658 (Int32.toNatClampNeg v2)))) = 5) => ?_)
        · rw [if_neg hc7] at hG
          replace hS := hS.2 hc7
          refine x_run (pc' := 4) (lo' := [some (.ref 650), none, some (.int (q.1 658 (Int32.toNatClampNeg v2))), some (.int (v3 + 1)), some (.int (q.1 658 (Int32.toNatClampNeg v2)))]) (st' := []) 4 rfl ?_
          refine x_kill [4] ?_
          exact hG
        · rw [if_pos hc7] at hG
          replace hS := hS.1 hc7
          refine x_run (pc' := 48) (lo' := [some (.ref 650), none, some (.int v2), some (.int v3), some (.int (q.1 658 (Int32.toNatClampNeg v2)))]) (st' := [.int (q.1 658 (Int32.toNatClampNeg v2))]) 1 rfl ?_
          obtain ⟨rfl, rfl⟩ := hG
          exact x_iret rfl (by decide +kernel)
      · rw [if_neg hc5] at hG
        replace hS := hS.2 hc5
        refine x_run (pc' := 34) (lo' := [some (.ref 650), none, some (.int v2), some (.int v3), some (.int (q.1 658 (Int32.toNatClampNeg v2)))]) (st' := [.int 24]) 1 rfl ?_
        obtain ⟨rfl, rfl⟩ := hG
        exact x_iret rfl (by decide +kernel)
def F146_58 (v2 : Int32) (q : aQ) : Int32 := (q.1 660 (Int32.toNatClampNeg v2))
def S146_58 (v2 : Int32) (q : aQ) : Prop := vp_in v2 24 ∧ (True)
set_option maxRecDepth 100000 in
set_option maxHeartbeats 4000000 in
theorem A146_58 {l : Launch} {X : aX} {d : Nat} {r : Option Value} {h' : aH} {v2 : Int32} {q : aQ} (hd : 1 ≤ d) (hN : h'.1 = nk0) (hG : gI r h' (F146_58 v2 q, q)) (hS : S146_58 v2 q) : AW l X 146 c146 d r h' 58 [some (.ref 650), none, some (.int v2), none, none] [] (hp q) := by
  unfold F146_58 at hG
  unfold S146_58 at hS
  refine x_run (pc' := 59) (lo' := [some (.ref 650), none, some (.int v2), none, none]) (st' := [.ref 650]) 1 rfl ?_
  refine x_gf (c := 587) (ne := 0) (v := .ref 660) rfl (by decide +kernel) rfl rfl ?_
  refine x_run (pc' := 63) (lo' := [some (.ref 650), none, some (.int v2), none, none]) (st' := [.int v2, .ref 660]) 1 rfl ?_
  obtain ⟨o9, hS⟩ := hS
  refine p_ia (n := 24) (v := (q.1 660 (Int32.toNatClampNeg v2))) rfl rfl o9 rfl ?_
  obtain ⟨rfl, rfl⟩ := hG
  exact x_iret rfl (by decide +kernel)
def F146_0 (v1 : Int32) (q : aQ) : Int32 := (match a_lp (fun (s : Int32 × Int32) => F146_4 s.1 s.2 q) 200 (v1, 0) (.inl v1) with
    | .inl e8 => F146_58 e8 q
    | .inr o10 => o10)
def S146_0 (v1 : Int32) (q : aQ) : Prop := a_sf (fun (s : Int32 × Int32) => F146_4 s.1 s.2 q) (fun (s : Int32 × Int32) => S146_4 s.1 s.2 q) 200 (v1, 0) ∧ (match a_lp (fun (s : Int32 × Int32) => F146_4 s.1 s.2 q) 200 (v1, 0) (.inl v1) with
    | .inl e8 => S146_58 e8 q
    | .inr _ => True)
set_option maxRecDepth 100000 in
set_option maxHeartbeats 4000000 in
theorem A146_0 {l : Launch} {X : aX} {d : Nat} {r : Option Value} {h' : aH} {v1 : Int32} {q : aQ} (hd : 1 ≤ d) (hN : h'.1 = nk0) (hG : gI r h' (F146_0 v1 q, q)) (hS : S146_0 v1 q) : AW l X 146 c146 d r h' 0 [some (.ref 650), some (.int v1), none, none, none] [] (hp q) := by
  unfold F146_0 at hG
  unfold S146_0 at hS
  refine x_run (pc' := 4) (lo' := [some (.ref 650), some (.int v1), some (.int v1), some (.int 0), none]) (st' := []) 4 rfl ?_
  refine x_kill [1] ?_
  obtain ⟨ho, hS⟩ := hS
  refine x_loop (fun (s : Int32 × Int32) => F146_4 s.1 s.2 q) (fun (s : Int32 × Int32) => S146_4 s.1 s.2 q) (fun (s : Int32 × Int32) => AW l X 146 c146 d r h' 4 [some (.ref 650), none, some (.int s.1), some (.int s.2), none] [] (hp q)) (gE (fun (e : Int32) => AW l X 146 c146 d r h' 58 [some (.ref 650), none, some (.int e), none, none] [] (hp q)) (fun o => gI r h' (o, q))) (fun s hs hg => A146_4 hd hN hg hs) 200 (v1, 0) ho (fun ex he => ?_)
  rw [a_lp_eq he] at hG hS
  cases ex with
  | inl e8 =>
    dsimp only at hG hS
    exact A146_58 hd hN hG hS
  | inr o10 => exact hG
theorem T146 {l : Launch} {X : aX} {d : Nat} {v1 : Int32} {q : aQ} (hd : 1 ≤ d) (hS : S146_0 v1 q) : Call l X d 146 [.ref 650, .int v1] (hp q) (some (.int (F146_0 v1 q))) (hp q) := Call.of ok146 (by decide) (Nat.le_of_ble_eq_true rfl) ⟨Nat.le_refl _, Nat.le_refl _⟩ (A146_0 hd rfl ⟨rfl, rfl⟩ hS)
/-- TypeForecastModel.into(II)I -/
def F147_0 (v1 : Int32) (v2 : Int32) (q : aQ) : Int32 := (if (q.1 661 (Int32.toNatClampNeg ((2 * v1) + v2))) < 0 then (if (q.1 655 (Int32.toNatClampNeg v1)) = 5 then v1 else (F146_0 v1 q)) else (q.1 661 (Int32.toNatClampNeg ((2 * v1) + v2))))
def S147_0 (v1 : Int32) (v2 : Int32) (q : aQ) : Prop := vp_in ((2 * v1) + v2) 49 ∧ ((((q.1 661 (Int32.toNatClampNeg ((2 * v1) + v2))) < 0) → vp_in v1 24 ∧ ((((q.1 655 (Int32.toNatClampNeg v1)) = 5) → True) ∧ (¬ ((q.1 655 (Int32.toNatClampNeg v1)) = 5) → S146_0 v1 q ∧ (True)))) ∧ (¬ ((q.1 661 (Int32.toNatClampNeg ((2 * v1) + v2))) < 0) → True))
set_option maxRecDepth 100000 in
set_option maxHeartbeats 4000000 in
theorem A147_0 {l : Launch} {X : aX} {d : Nat} {r : Option Value} {h' : aH} {v1 : Int32} {v2 : Int32} {q : aQ} (hd : 2 ≤ d) (hN : h'.1 = nk0) (hG : gI r h' (F147_0 v1 v2 q, q)) (hS : S147_0 v1 v2 q) : AW l X 147 c147 d r h' 0 [some (.ref 650), some (.int v1), some (.int v2), none] [] (hp q) := by
  unfold F147_0 at hG
  unfold S147_0 at hS
  refine x_run (pc' := 1) (lo' := [some (.ref 650), some (.int v1), some (.int v2), none]) (st' := [.ref 650]) 1 rfl ?_
  refine x_gf (c := 588) (ne := 0) (v := .ref 661) rfl (by decide +kernel) rfl rfl ?_
  refine x_run (pc' := 9) (lo' := [some (.ref 650), some (.int v1), some (.int v2), none]) (st' := [.int ((2 * v1) + v2), .ref 661]) 5 rfl ?_
  obtain ⟨o1, hS⟩ := hS
  refine p_ia (n := 49) (v := (q.1 661 (Int32.toNatClampNeg ((2 * v1) + v2)))) rfl rfl o1 rfl ?_
  refine x_run (pc' := 12) (lo' := [some (.ref 650), some (.int v1), some (.int v2), some (.int (q.1 661 (Int32.toNatClampNeg ((2 * v1) + v2))))]) (st' := [.int (q.1 661 (Int32.toNatClampNeg ((2 * v1) + v2)))]) 2 rfl ?_
  refine x_if 19 rfl rfl (fun (hc2 : (q.1 661 (Int32.toNatClampNeg ((2 * v1) + v2))) < 0) => ?_) (fun (hc2 : ¬ (q.1 661 (Int32.toNatClampNeg ((2 * v1) + v2))) < 0) => ?_)
  · rw [if_pos hc2] at hG
    replace hS := hS.1 hc2
    refine x_run (pc' := 20) (lo' := [some (.ref 650), some (.int v1), some (.int v2), some (.int (q.1 661 (Int32.toNatClampNeg ((2 * v1) + v2))))]) (st' := [.ref 650]) 1 rfl ?_
    refine x_gf (c := 582) (ne := 0) (v := .ref 655) rfl (by decide +kernel) rfl rfl ?_
    refine x_run (pc' := 24) (lo' := [some (.ref 650), some (.int v1), some (.int v2), some (.int (q.1 661 (Int32.toNatClampNeg ((2 * v1) + v2))))]) (st' := [.int v1, .ref 655]) 1 rfl ?_
    obtain ⟨o3, hS⟩ := hS
    refine p_ia (n := 24) (v := (q.1 655 (Int32.toNatClampNeg v1))) rfl rfl o3 rfl ?_
    refine x_run (pc' := 26) (lo' := [some (.ref 650), some (.int v1), some (.int v2), some (.int (q.1 661 (Int32.toNatClampNeg ((2 * v1) + v2))))]) (st' := [.int 5, .int (q.1 655 (Int32.toNatClampNeg v1))]) 1 rfl ?_
    refine x_ic 33 rfl rfl (fun (hc4 : ¬ (q.1 655 (Int32.toNatClampNeg v1)) = 5) => ?_) (fun (hc4 : (q.1 655 (Int32.toNatClampNeg v1)) = 5) => ?_)
    · rw [if_neg hc4] at hG
      replace hS := hS.2 hc4
      refine x_run (pc' := 35) (lo' := [some (.ref 650), some (.int v1), some (.int v2), some (.int (q.1 661 (Int32.toNatClampNeg ((2 * v1) + v2))))]) (st' := [.int v1, .ref 650]) 2 rfl ?_
      obtain ⟨o5, hS⟩ := hS
      refine x_cv (j := 146) (ne := 0) (vs := [.int v1]) (rest := []) rfl (by decide +kernel) (by decide +kernel) (by decide) (Eq.trans rfl (show 1 = _ from by decide +kernel)) rfl (by decide +kernel) rfl (Nat.le_of_ble_eq_true rfl) (by omega) (T146 (Nat.le_refl 1) o5) (hp_m hN) ?_
      show AW l X 147 c147 d r h' 38 [some (.ref 650), some (.int v1), some (.int v2), some (.int (q.1 661 (Int32.toNatClampNeg ((2 * v1) + v2))))] [.int (F146_0 v1 q)] (hp q)
      obtain ⟨rfl, rfl⟩ := hG
      exact x_iret rfl (by decide +kernel)
    · rw [if_pos hc4] at hG
      replace hS := hS.1 hc4
      refine x_run (pc' := 38) (lo' := [some (.ref 650), some (.int v1), some (.int v2), some (.int (q.1 661 (Int32.toNatClampNeg ((2 * v1) + v2))))]) (st' := [.int v1]) 2 rfl ?_
      obtain ⟨rfl, rfl⟩ := hG
      exact x_iret rfl (by decide +kernel)
  · rw [if_neg hc2] at hG
    replace hS := hS.2 hc2
    refine x_run (pc' := 38) (lo' := [some (.ref 650), some (.int v1), some (.int v2), some (.int (q.1 661 (Int32.toNatClampNeg ((2 * v1) + v2))))]) (st' := [.int (q.1 661 (Int32.toNatClampNeg ((2 * v1) + v2)))]) 2 rfl ?_
    obtain ⟨rfl, rfl⟩ := hG
    exact x_iret rfl (by decide +kernel)
theorem T147 {l : Launch} {X : aX} {d : Nat} {v1 : Int32} {v2 : Int32} {q : aQ} (hd : 2 ≤ d) (hS : S147_0 v1 v2 q) : Call l X d 147 [.ref 650, .int v1, .int v2] (hp q) (some (.int (F147_0 v1 v2 q))) (hp q) := Call.of ok147 (by decide) (Nat.le_of_ble_eq_true rfl) ⟨Nat.le_refl _, Nat.le_refl _⟩ (A147_0 hd rfl ⟨rfl, rfl⟩ hS)
/-- TypeForecastModel.loopAround(I)I -/
def F148_7 (v2 : Int32) (q : aQ) : (Int32) ⊕ (Int32) := (if v2 < 0 then .inr v2 else (if (q.1 655 (Int32.toNatClampNeg v2)) = 5 then .inr v2 else .inl (q.1 658 (Int32.toNatClampNeg v2))))
def S148_7 (v2 : Int32) (q : aQ) : Prop := ((v2 < 0) → True) ∧ (¬ (v2 < 0) → vp_in v2 24 ∧ ((((q.1 655 (Int32.toNatClampNeg v2)) = 5) → True) ∧ (¬ ((q.1 655 (Int32.toNatClampNeg v2)) = 5) → vp_in v2 24 ∧ (True))))
set_option maxRecDepth 100000 in
set_option maxHeartbeats 4000000 in
theorem A148_7 {l : Launch} {X : aX} {d : Nat} {r : Option Value} {h' : aH} {v2 : Int32} {q : aQ} (hd : 1 ≤ d) (hN : h'.1 = nk0) (hG : gL (fun (s : Int32) => AW l X 148 c148 d r h' 7 [some (.ref 650), none, some (.int s)] [] (hp q)) (fun (e : Int32) => AW l X 148 c148 d r h' 31 [none, none, some (.int e)] [] (hp q)) (F148_7 v2 q)) (hS : S148_7 v2 q) : AW l X 148 c148 d r h' 7 [some (.ref 650), none, some (.int v2)] [] (hp q) := by
  unfold F148_7 at hG
  unfold S148_7 at hS
  refine x_run (pc' := 8) (lo' := [some (.ref 650), none, some (.int v2)]) (st' := [.int v2]) 1 rfl ?_
  refine x_if 31 rfl rfl (fun (hc2 : v2 < 0) => ?_) (fun (hc2 : ¬ v2 < 0) => ?_)
  · rw [if_pos hc2] at hG
    replace hS := hS.1 hc2
    refine x_kill [0] ?_
    exact hG
  · rw [if_neg hc2] at hG
    replace hS := hS.2 hc2
    refine x_run (pc' := 12) (lo' := [some (.ref 650), none, some (.int v2)]) (st' := [.ref 650]) 1 rfl ?_
    refine x_gf (c := 582) (ne := 0) (v := .ref 655) rfl (by decide +kernel) rfl rfl ?_
    refine x_run (pc' := 16) (lo' := [some (.ref 650), none, some (.int v2)]) (st' := [.int v2, .ref 655]) 1 rfl ?_
    obtain ⟨o3, hS⟩ := hS
    refine p_ia (n := 24) (v := (q.1 655 (Int32.toNatClampNeg v2))) rfl rfl o3 rfl ?_
    refine x_run (pc' := 18) (lo' := [some (.ref 650), none, some (.int v2)]) (st' := [.int 5, .int (q.1 655 (Int32.toNatClampNeg v2))]) 1 rfl ?_
    refine x_ic 31 rfl rfl (fun (hc4 : (q.1 655 (Int32.toNatClampNeg v2)) = 5) => ?_) (fun (hc4 : ¬ (q.1 655 (Int32.toNatClampNeg v2)) = 5) => ?_)
    · rw [if_pos hc4] at hG
      replace hS := hS.1 hc4
      refine x_kill [0] ?_
      exact hG
    · rw [if_neg hc4] at hG
      replace hS := hS.2 hc4
      refine x_run (pc' := 22) (lo' := [some (.ref 650), none, some (.int v2)]) (st' := [.ref 650]) 1 rfl ?_
      refine x_gf (c := 585) (ne := 0) (v := .ref 658) rfl (by decide +kernel) rfl rfl ?_
      refine x_run (pc' := 26) (lo' := [some (.ref 650), none, some (.int v2)]) (st' := [.int v2, .ref 658]) 1 rfl ?_
      obtain ⟨o5, hS⟩ := hS
      refine p_ia (n := 24) (v := (q.1 658 (Int32.toNatClampNeg v2))) rfl rfl o5 rfl ?_
      refine x_run (pc' := 7) (lo' := [some (.ref 650), none, some (.int (q.1 658 (Int32.toNatClampNeg v2)))]) (st' := []) 2 rfl ?_
      exact hG
def F148_31 (v2 : Int32) (q : aQ) : Int32 := v2
def S148_31 (v2 : Int32) (q : aQ) : Prop := True
set_option maxRecDepth 100000 in
set_option maxHeartbeats 4000000 in
theorem A148_31 {l : Launch} {X : aX} {d : Nat} {r : Option Value} {h' : aH} {v2 : Int32} {q : aQ} (hd : 1 ≤ d) (hN : h'.1 = nk0) (hG : gI r h' (F148_31 v2 q, q)) (hS : S148_31 v2 q) : AW l X 148 c148 d r h' 31 [none, none, some (.int v2)] [] (hp q) := by
  unfold F148_31 at hG
  unfold S148_31 at hS
  refine x_run (pc' := 32) (lo' := [none, none, some (.int v2)]) (st' := [.int v2]) 1 rfl ?_
  obtain ⟨rfl, rfl⟩ := hG
  exact x_iret rfl (by decide +kernel)
def F148_0 (v1 : Int32) (q : aQ) : Int32 := (fun (e6 : Int32) => F148_31 e6 q) (a_lp (fun (s : Int32) => F148_7 s q) 200 (q.1 658 (Int32.toNatClampNeg v1)) (q.1 658 (Int32.toNatClampNeg v1)))
def S148_0 (v1 : Int32) (q : aQ) : Prop := vp_in v1 24 ∧ (a_sf (fun (s : Int32) => F148_7 s q) (fun (s : Int32) => S148_7 s q) 200 (q.1 658 (Int32.toNatClampNeg v1)) ∧ (fun (e6 : Int32) => S148_31 e6 q) (a_lp (fun (s : Int32) => F148_7 s q) 200 (q.1 658 (Int32.toNatClampNeg v1)) (q.1 658 (Int32.toNatClampNeg v1))))
set_option maxRecDepth 100000 in
set_option maxHeartbeats 4000000 in
theorem A148_0 {l : Launch} {X : aX} {d : Nat} {r : Option Value} {h' : aH} {v1 : Int32} {q : aQ} (hd : 1 ≤ d) (hN : h'.1 = nk0) (hG : gI r h' (F148_0 v1 q, q)) (hS : S148_0 v1 q) : AW l X 148 c148 d r h' 0 [some (.ref 650), some (.int v1), none] [] (hp q) := by
  unfold F148_0 at hG
  unfold S148_0 at hS
  refine x_run (pc' := 1) (lo' := [some (.ref 650), some (.int v1), none]) (st' := [.ref 650]) 1 rfl ?_
  refine x_gf (c := 585) (ne := 0) (v := .ref 658) rfl (by decide +kernel) rfl rfl ?_
  refine x_run (pc' := 5) (lo' := [some (.ref 650), some (.int v1), none]) (st' := [.int v1, .ref 658]) 1 rfl ?_
  obtain ⟨o1, hS⟩ := hS
  refine p_ia (n := 24) (v := (q.1 658 (Int32.toNatClampNeg v1))) rfl rfl o1 rfl ?_
  refine x_run (pc' := 7) (lo' := [some (.ref 650), some (.int v1), some (.int (q.1 658 (Int32.toNatClampNeg v1)))]) (st' := []) 1 rfl ?_
  refine x_kill [1] ?_
  obtain ⟨ho, hS⟩ := hS
  refine x_loop (fun (s : Int32) => F148_7 s q) (fun (s : Int32) => S148_7 s q) (fun (s : Int32) => AW l X 148 c148 d r h' 7 [some (.ref 650), none, some (.int s)] [] (hp q)) (fun (e : Int32) => AW l X 148 c148 d r h' 31 [none, none, some (.int e)] [] (hp q)) (fun s hs hg => A148_7 hd hN hg hs) 200 (q.1 658 (Int32.toNatClampNeg v1)) ho (fun e6 he => ?_)
  rw [a_lp_eq he] at hG hS
  try dsimp only at hG hS
  exact A148_31 hd hN hG hS
theorem T148 {l : Launch} {X : aX} {d : Nat} {v1 : Int32} {q : aQ} (hd : 1 ≤ d) (hS : S148_0 v1 q) : Call l X d 148 [.ref 650, .int v1] (hp q) (some (.int (F148_0 v1 q))) (hp q) := Call.of ok148 (by decide) (Nat.le_of_ble_eq_true rfl) ⟨Nat.le_refl _, Nat.le_refl _⟩ (A148_0 hd rfl ⟨rfl, rfl⟩ hS)
/-- TypeForecastModel.catcher(II)I -/
def F149_68 (v2 : Int32) (v4 : Int32) (q : aQ) : (Int32) ⊕ ((Unit) ⊕ (Int32)) := .inl v4
def S149_68 (v2 : Int32) (v4 : Int32) (q : aQ) : Prop := True
set_option maxRecDepth 100000 in
set_option maxHeartbeats 4000000 in
theorem A149_68 {l : Launch} {X : aX} {d : Nat} {r : Option Value} {h' : aH} {v2 : Int32} {v4 : Int32} {q : aQ} (hd : 1 ≤ d) (hN : h'.1 = nk0) (hG : gL (fun (s : Int32) => AW l X 149 c149 d r h' 2 [some (.ref 650), none, some (.int v2), some (.int s), none] [] (hp q)) (gE (fun (e : Unit) => AW l X 149 c149 d r h' 74 [none, none, none, none, none] [] (hp q)) (fun o => gI r h' (o, q))) (F149_68 v2 v4 q)) (hS : S149_68 v2 v4 q) : AW l X 149 c149 d r h' 68 [some (.ref 650), none, some (.int v2), none, some (.int v4)] [] (hp q) := by
  unfold F149_68 at hG
  unfold S149_68 at hS
  refine x_run (pc' := 2) (lo' := [some (.ref 650), none, some (.int v2), some (.int v4), some (.int v4)]) (st' := []) 3 rfl ?_
  refine x_kill [4] ?_
  exact hG
def F149_2 (v2 : Int32) (v3 : Int32) (q : aQ) : (Int32) ⊕ ((Unit) ⊕ (Int32)) := (if (q.1 658 (Int32.toNatClampNeg v3)) < 0 then .inr (.inl ()) else (if (q.1 655 (Int32.toNatClampNeg (q.1 658 (Int32.toNatClampNeg v3)))) = 6 then (if (q.1 659 (Int32.toNatClampNeg v3)) = (2 * (q.1 658 (Int32.toNatClampNeg v3))) then (if (q.1 656 (Int32.toNatClampNeg (q.1 658 (Int32.toNatClampNeg v3)))) = 0 then .inr (.inr (q.1 658 (Int32.toNatClampNeg v3))) else (if (q.1 656 (Int32.toNatClampNeg (q.1 658 (Int32.toNatClampNeg v3)))) = v2 then .inr (.inr (q.1 658 (Int32.toNatClampNeg v3))) else F149_68 v2 (q.1 658 (Int32.toNatClampNeg v3)) q)) else F149_68 v2 (q.1 658 (Int32.toNatClampNeg v3)) q) else F149_68 v2 (q.1 658 (Int32.toNatClampNeg v3)) q))
def S149_2 (v2 : Int32) (v3 : Int32) (q : aQ) : Prop := vp_in v3 24 ∧ ((((q.1 658 (Int32.toNatClampNeg v3)) < 0) → True) ∧ (¬ ((q.1 658 (Int32.toNatClampNeg v3)) < 0) → vp_in v3 24 ∧ (vp_in (q.1 658 (Int32.toNatClampNeg v3)) 24 ∧ ((((q.1 655 (Int32.toNatClampNeg (q.1 658 (Int32.toNatClampNeg v3)))) = 6) → vp_in v3 24 ∧ ((((q.1 659 (Int32.toNatClampNeg v3)) = (2 * (q.1 658 (Int32.toNatClampNeg v3)))) → vp_in (q.1 658 (Int32.toNatClampNeg v3)) 24 ∧ ((((q.1 656 (Int32.toNatClampNeg (q.1 658 (Int32.toNatClampNeg v3)))) = 0) → True) ∧ (¬ ((q.1 656 (Int32.toNatClampNeg (q.1 658 (Int32.toNatClampNeg v3)))) = 0) → vp_in (q.1 658 (Int32.toNatClampNeg v3)) 24 ∧ ((((q.1 656 (Int32.toNatClampNeg (q.1 658 (Int32.toNatClampNeg v3)))) = v2) → True) ∧ (¬ ((q.1 656 (Int32.toNatClampNeg (q.1 658 (Int32.toNatClampNeg v3)))) = v2) → S149_68 v2 (q.1 658 (Int32.toNatClampNeg v3)) q))))) ∧ (¬ ((q.1 659 (Int32.toNatClampNeg v3)) = (2 * (q.1 658 (Int32.toNatClampNeg v3)))) → S149_68 v2 (q.1 658 (Int32.toNatClampNeg v3)) q))) ∧ (¬ ((q.1 655 (Int32.toNatClampNeg (q.1 658 (Int32.toNatClampNeg v3)))) = 6) → S149_68 v2 (q.1 658 (Int32.toNatClampNeg v3)) q)))))
set_option maxRecDepth 100000 in
set_option maxHeartbeats 4000000 in
theorem A149_2 {l : Launch} {X : aX} {d : Nat} {r : Option Value} {h' : aH} {v2 : Int32} {v3 : Int32} {q : aQ} (hd : 1 ≤ d) (hN : h'.1 = nk0) (hG : gL (fun (s : Int32) => AW l X 149 c149 d r h' 2 [some (.ref 650), none, some (.int v2), some (.int s), none] [] (hp q)) (gE (fun (e : Unit) => AW l X 149 c149 d r h' 74 [none, none, none, none, none] [] (hp q)) (fun o => gI r h' (o, q))) (F149_2 v2 v3 q)) (hS : S149_2 v2 v3 q) : AW l X 149 c149 d r h' 2 [some (.ref 650), none, some (.int v2), some (.int v3), none] [] (hp q) := by
  unfold F149_2 at hG
  unfold S149_2 at hS
  refine x_run (pc' := 3) (lo' := [some (.ref 650), none, some (.int v2), some (.int v3), none]) (st' := [.ref 650]) 1 rfl ?_
  refine x_gf (c := 585) (ne := 0) (v := .ref 658) rfl (by decide +kernel) rfl rfl ?_
  refine x_run (pc' := 7) (lo' := [some (.ref 650), none, some (.int v2), some (.int v3), none]) (st' := [.int v3, .ref 658]) 1 rfl ?_
  obtain ⟨o1, hS⟩ := hS
  refine p_ia (n := 24) (v := (q.1 658 (Int32.toNatClampNeg v3))) rfl rfl o1 rfl ?_
  refine x_if 74 rfl rfl (fun (hc2 : (q.1 658 (Int32.toNatClampNeg v3)) < 0) => ?_) (fun (hc2 : ¬ (q.1 658 (Int32.toNatClampNeg v3)) < 0) => ?_)
  · rw [if_pos hc2] at hG
    replace hS := hS.1 hc2
    refine x_kill [0, 2, 3] ?_
    exact hG
  · rw [if_neg hc2] at hG
    replace hS := hS.2 hc2
    refine x_run (pc' := 12) (lo' := [some (.ref 650), none, some (.int v2), some (.int v3), none]) (st' := [.ref 650]) 1 rfl ?_
    refine x_gf (c := 585) (ne := 0) (v := .ref 658) rfl (by decide +kernel) rfl rfl ?_
    refine x_run (pc' := 16) (lo' := [some (.ref 650), none, some (.int v2), some (.int v3), none]) (st' := [.int v3, .ref 658]) 1 rfl ?_
    obtain ⟨o3, hS⟩ := hS
    refine p_ia (n := 24) (v := (q.1 658 (Int32.toNatClampNeg v3))) rfl rfl o3 rfl ?_
    refine x_run (pc' := 20) (lo' := [some (.ref 650), none, some (.int v2), some (.int v3), some (.int (q.1 658 (Int32.toNatClampNeg v3)))]) (st' := [.ref 650]) 2 rfl ?_
    refine x_gf (c := 582) (ne := 0) (v := .ref 655) rfl (by decide +kernel) rfl rfl ?_
    refine x_run (pc' := 25) (lo' := [some (.ref 650), none, some (.int v2), some (.int v3), some (.int (q.1 658 (Int32.toNatClampNeg v3)))]) (st' := [.int (q.1 658 (Int32.toNatClampNeg v3)), .ref 655]) 1 rfl ?_
    obtain ⟨o4, hS⟩ := hS
    refine p_ia (n := 24) (v := (q.1 655 (Int32.toNatClampNeg (q.1 658 (Int32.toNatClampNeg v3))))) rfl rfl o4 rfl ?_
    refine x_run (pc' := 28) (lo' := [some (.ref 650), none, some (.int v2), some (.int v3), some (.int (q.1 658 (Int32.toNatClampNeg v3)))]) (st' := [.int 6, .int (q.1 655 (Int32.toNatClampNeg (q.1 658 (Int32.toNatClampNeg v3))))]) 1 rfl ?_
    refine x_ic 68 rfl rfl (fun (hc5 : ¬ (q.1 655 (Int32.toNatClampNeg (q.1 658 (Int32.toNatClampNeg v3)))) = 6) => ?_) (fun (hc5 : (q.1 655 (Int32.toNatClampNeg (q.1 658 (Int32.toNatClampNeg v3)))) = 6) => ?_)
    · rw [if_neg hc5] at hG
      replace hS := hS.2 hc5
      refine x_kill [3] ?_
      exact A149_68 hd hN hG hS
    · rw [if_pos hc5] at hG
      replace hS := hS.1 hc5
      refine x_run (pc' := 32) (lo' := [some (.ref 650), none, some (.int v2), some (.int v3), some (.int (q.1 658 (Int32.toNatClampNeg v3)))]) (st' := [.ref 650]) 1 rfl ?_
      refine x_gf (c := 586) (ne := 0) (v := .ref 659) rfl (by decide +kernel) rfl rfl ?_
      refine x_run (pc' := 36) (lo' := [some (.ref 650), none, some (.int v2), some (.int v3), some (.int (q.1 658 (Int32.toNatClampNeg v3)))]) (st' := [.int v3, .ref 659]) 1 rfl ?_
      obtain ⟨o6, hS⟩ := hS
      refine p_ia (n := 24) (v := (q.1 659 (Int32.toNatClampNeg v3))) rfl rfl o6 rfl ?_
      refine x_run (pc' := 41) (lo' := [some (.ref 650), none, some (.int v2), some (.int v3), some (.int (q.1 658 (Int32.toNatClampNeg v3)))]) (st' := [.int (2 * (q.1 658 (Int32.toNatClampNeg v3))), .int (q.1 659 (Int32.toNatClampNeg v3))]) 3 rfl ?_
      refine x_ic 68 rfl rfl (fun (hc7 : ¬ (q.1 659 (Int32.toNatClampNeg v3)) = (2 * (q.1 658 (Int32.toNatClampNeg v3)))) => ?_) (fun (hc7 : (q.1 659 (Int32.toNatClampNeg v3)) = (2 * (q.1 658 (Int32.toNatClampNeg v3)))) => ?_)
      · rw [if_neg hc7] at hG
        replace hS := hS.2 hc7
        refine x_kill [3] ?_
        exact A149_68 hd hN hG hS
      · rw [if_pos hc7] at hG
        replace hS := hS.1 hc7
        refine x_run (pc' := 45) (lo' := [some (.ref 650), none, some (.int v2), some (.int v3), some (.int (q.1 658 (Int32.toNatClampNeg v3)))]) (st' := [.ref 650]) 1 rfl ?_
        refine x_gf (c := 583) (ne := 0) (v := .ref 656) rfl (by decide +kernel) rfl rfl ?_
        refine x_run (pc' := 50) (lo' := [some (.ref 650), none, some (.int v2), some (.int v3), some (.int (q.1 658 (Int32.toNatClampNeg v3)))]) (st' := [.int (q.1 658 (Int32.toNatClampNeg v3)), .ref 656]) 1 rfl ?_
        obtain ⟨o8, hS⟩ := hS
        refine p_ia (n := 24) (v := (q.1 656 (Int32.toNatClampNeg (q.1 658 (Int32.toNatClampNeg v3))))) rfl rfl o8 rfl ?_
        refine x_if 65 rfl rfl (fun (hc9 : (q.1 656 (Int32.toNatClampNeg (q.1 658 (Int32.toNatClampNeg v3)))) = 0) => ?_) (fun (hc9 : ¬ (q.1 656 (Int32.toNatClampNeg (q.1 658 (Int32.toNatClampNeg v3)))) = 0) => ?_)
        · rw [if_pos hc9] at hG
          replace hS := hS.1 hc9
          refine x_run (pc' := 67) (lo' := [some (.ref 650), none, some (.int v2), some (.int v3), some (.int (q.1 658 (Int32.toNatClampNeg v3)))]) (st' := [.int (q.1 658 (Int32.toNatClampNeg v3))]) 1 rfl ?_
          obtain ⟨rfl, rfl⟩ := hG
          exact x_iret rfl (by decide +kernel)
        · rw [if_neg hc9] at hG
          replace hS := hS.2 hc9
          refine x_run (pc' := 55) (lo' := [some (.ref 650), none, some (.int v2), some (.int v3), some (.int (q.1 658 (Int32.toNatClampNeg v3)))]) (st' := [.ref 650]) 1 rfl ?_
          refine x_gf (c := 583) (ne := 0) (v := .ref 656) rfl (by decide +kernel) rfl rfl ?_
          refine x_run (pc' := 60) (lo' := [some (.ref 650), none, some (.int v2), some (.int v3), some (.int (q.1 658 (Int32.toNatClampNeg v3)))]) (st' := [.int (q.1 658 (Int32.toNatClampNeg v3)), .ref 656]) 1 rfl ?_
          obtain ⟨o10, hS⟩ := hS
          refine p_ia (n := 24) (v := (q.1 656 (Int32.toNatClampNeg (q.1 658 (Int32.toNatClampNeg v3))))) rfl rfl o10 rfl ?_
          refine x_run (pc' := 62) (lo' := [some (.ref 650), none, some (.int v2), some (.int v3), some (.int (q.1 658 (Int32.toNatClampNeg v3)))]) (st' := [.int v2, .int (q.1 656 (Int32.toNatClampNeg (q.1 658 (Int32.toNatClampNeg v3))))]) 1 rfl ?_
          refine x_ic 68 rfl rfl (fun (hc11 : ¬ (q.1 656 (Int32.toNatClampNeg (q.1 658 (Int32.toNatClampNeg v3)))) = v2) => ?_) (fun (hc11 : (q.1 656 (Int32.toNatClampNeg (q.1 658 (Int32.toNatClampNeg v3)))) = v2) => ?_)
          · rw [if_neg hc11] at hG
            replace hS := hS.2 hc11
            refine x_kill [3] ?_
            exact A149_68 hd hN hG hS
          · rw [if_pos hc11] at hG
            replace hS := hS.1 hc11
            refine x_run (pc' := 67) (lo' := [some (.ref 650), none, some (.int v2), some (.int v3), some (.int (q.1 658 (Int32.toNatClampNeg v3)))]) (st' := [.int (q.1 658 (Int32.toNatClampNeg v3))]) 1 rfl ?_
            obtain ⟨rfl, rfl⟩ := hG
            exact x_iret rfl (by decide +kernel)
def F149_74 (q : aQ) : Int32 := (-1)
def S149_74 (q : aQ) : Prop := True
set_option maxRecDepth 100000 in
set_option maxHeartbeats 4000000 in
theorem A149_74 {l : Launch} {X : aX} {d : Nat} {r : Option Value} {h' : aH} {q : aQ} (hd : 1 ≤ d) (hN : h'.1 = nk0) (hG : gI r h' (F149_74 q, q)) (hS : S149_74 q) : AW l X 149 c149 d r h' 74 [none, none, none, none, none] [] (hp q) := by
  unfold F149_74 at hG
  unfold S149_74 at hS
  refine x_run (pc' := 75) (lo' := [none, none, none, none, none]) (st' := [.int (-1)]) 1 rfl ?_
  obtain ⟨rfl, rfl⟩ := hG
  exact x_iret rfl (by decide +kernel)
def F149_0 (v1 : Int32) (v2 : Int32) (q : aQ) : Int32 := (match a_lp (fun (s : Int32) => F149_2 v2 s q) 200 v1 (.inl ()) with
    | .inl e12 => F149_74 q
    | .inr o13 => o13)
def S149_0 (v1 : Int32) (v2 : Int32) (q : aQ) : Prop := a_sf (fun (s : Int32) => F149_2 v2 s q) (fun (s : Int32) => S149_2 v2 s q) 200 v1 ∧ (match a_lp (fun (s : Int32) => F149_2 v2 s q) 200 v1 (.inl ()) with
    | .inl e12 => S149_74 q
    | .inr _ => True)
set_option maxRecDepth 100000 in
set_option maxHeartbeats 4000000 in
theorem A149_0 {l : Launch} {X : aX} {d : Nat} {r : Option Value} {h' : aH} {v1 : Int32} {v2 : Int32} {q : aQ} (hd : 1 ≤ d) (hN : h'.1 = nk0) (hG : gI r h' (F149_0 v1 v2 q, q)) (hS : S149_0 v1 v2 q) : AW l X 149 c149 d r h' 0 [some (.ref 650), some (.int v1), some (.int v2), none, none] [] (hp q) := by
  unfold F149_0 at hG
  unfold S149_0 at hS
  refine x_run (pc' := 2) (lo' := [some (.ref 650), some (.int v1), some (.int v2), some (.int v1), none]) (st' := []) 2 rfl ?_
  refine x_kill [1] ?_
  obtain ⟨ho, hS⟩ := hS
  refine x_loop (fun (s : Int32) => F149_2 v2 s q) (fun (s : Int32) => S149_2 v2 s q) (fun (s : Int32) => AW l X 149 c149 d r h' 2 [some (.ref 650), none, some (.int v2), some (.int s), none] [] (hp q)) (gE (fun (e : Unit) => AW l X 149 c149 d r h' 74 [none, none, none, none, none] [] (hp q)) (fun o => gI r h' (o, q))) (fun s hs hg => A149_2 hd hN hg hs) 200 v1 ho (fun ex he => ?_)
  rw [a_lp_eq he] at hG hS
  cases ex with
  | inl e12 =>
    dsimp only at hG hS
    exact A149_74 hd hN hG hS
  | inr o13 => exact hG
theorem T149 {l : Launch} {X : aX} {d : Nat} {v1 : Int32} {v2 : Int32} {q : aQ} (hd : 1 ≤ d) (hS : S149_0 v1 v2 q) : Call l X d 149 [.ref 650, .int v1, .int v2] (hp q) (some (.int (F149_0 v1 v2 q))) (hp q) := Call.of ok149 (by decide) (Nat.le_of_ble_eq_true rfl) ⟨Nat.le_refl _, Nat.le_refl _⟩ (A149_0 hd rfl ⟨rfl, rfl⟩ hS)
/-- TypeForecastModel.start()I -/
def F150_0 (q : aQ) : Int32 := (if 0 ≤ (q.1 661 (Int32.toNatClampNeg 48)) then (q.1 661 (Int32.toNatClampNeg 48)) else 24)
def S150_0 (q : aQ) : Prop := ((0 ≤ (q.1 661 (Int32.toNatClampNeg 48))) → True) ∧ (¬ (0 ≤ (q.1 661 (Int32.toNatClampNeg 48))) → True)
set_option maxRecDepth 100000 in
set_option maxHeartbeats 4000000 in
theorem A150_0 {l : Launch} {X : aX} {d : Nat} {r : Option Value} {h' : aH} {q : aQ} (hd : 1 ≤ d) (hN : h'.1 = nk0) (hG : gI r h' (F150_0 q, q)) (hS : S150_0 q) : AW l X 150 c150 d r h' 0 [some (.ref 650)] [] (hp q) := by
  unfold F150_0 at hG
  unfold S150_0 at hS
  refine x_run (pc' := 1) (lo' := [some (.ref 650)]) (st' := [.ref 650]) 1 rfl ?_
  refine x_gf (c := 588) (ne := 0) (v := .ref 661) rfl (by decide +kernel) rfl rfl ?_
  refine x_run (pc' := 6) (lo' := [some (.ref 650)]) (st' := [.int 48, .ref 661]) 1 rfl ?_
  refine p_ia (n := 49) (v := (q.1 661 (Int32.toNatClampNeg 48))) rfl rfl (by unfold vp_in; decide +kernel) rfl ?_
  refine x_if 15 rfl rfl (fun (hc1 : 0 ≤ (q.1 661 (Int32.toNatClampNeg 48))) => ?_) (fun (hc1 : ¬ 0 ≤ (q.1 661 (Int32.toNatClampNeg 48))) => ?_)
  · rw [if_pos hc1] at hG
    replace hS := hS.1 hc1
    refine x_run (pc' := 16) (lo' := [some (.ref 650)]) (st' := [.ref 650]) 1 rfl ?_
    refine x_gf (c := 588) (ne := 0) (v := .ref 661) rfl (by decide +kernel) rfl rfl ?_
    refine x_run (pc' := 21) (lo' := [some (.ref 650)]) (st' := [.int 48, .ref 661]) 1 rfl ?_
    refine p_ia (n := 49) (v := (q.1 661 (Int32.toNatClampNeg 48))) rfl rfl (by unfold vp_in; decide +kernel) rfl ?_
    obtain ⟨rfl, rfl⟩ := hG
    exact x_iret rfl (by decide +kernel)
  · rw [if_neg hc1] at hG
    replace hS := hS.2 hc1
    refine x_run (pc' := 22) (lo' := [some (.ref 650)]) (st' := [.int 24]) 2 rfl ?_
    obtain ⟨rfl, rfl⟩ := hG
    exact x_iret rfl (by decide +kernel)
theorem T150 {l : Launch} {X : aX} {d : Nat} {q : aQ} (hd : 1 ≤ d) (hS : S150_0 q) : Call l X d 150 [.ref 650] (hp q) (some (.int (F150_0 q))) (hp q) := Call.of ok150 (by decide) (Nat.le_of_ble_eq_true rfl) ⟨Nat.le_refl _, Nat.le_refl _⟩ (A150_0 hd rfl ⟨rfl, rfl⟩ hS)
/-- TypeForecastModel.isTrue(IJ)Z -/
def F151_10 (v1 : Int64) (q : aQ) : Int32 := (if (lg_cmp v1 0) = 0 then 0 else 1)
def S151_10 (v1 : Int64) (q : aQ) : Prop := (((lg_cmp v1 0) = 0) → True) ∧ (¬ ((lg_cmp v1 0) = 0) → True)
set_option maxRecDepth 100000 in
set_option maxHeartbeats 4000000 in
theorem A151_10 {l : Launch} {X : aX} {d : Nat} {r : Option Value} {h' : aH} {v1 : Int64} {q : aQ} (hd : 1 ≤ d) (hN : h'.1 = nk0) (hG : gI r h' (F151_10 v1 q, q)) (hS : S151_10 v1 q) : AW l X 151 c151 d r h' 10 [none, some (.long v1), none] [] (hp q) := by
  unfold F151_10 at hG
  unfold S151_10 at hS
  refine x_run (pc' := 13) (lo' := [none, some (.long v1), none]) (st' := [.int (lg_cmp v1 0)]) 3 rfl ?_
  refine x_if 20 rfl rfl (fun (hc2 : (lg_cmp v1 0) = 0) => ?_) (fun (hc2 : ¬ (lg_cmp v1 0) = 0) => ?_)
  · rw [if_pos hc2] at hG
    replace hS := hS.1 hc2
    refine x_run (pc' := 21) (lo' := [none, some (.long v1), none]) (st' := [.int 0]) 1 rfl ?_
    obtain ⟨rfl, rfl⟩ := hG
    exact x_zret rfl (by decide +kernel) (Or.inl rfl)
  · rw [if_neg hc2] at hG
    replace hS := hS.2 hc2
    refine x_run (pc' := 21) (lo' := [none, some (.long v1), none]) (st' := [.int 1]) 2 rfl ?_
    obtain ⟨rfl, rfl⟩ := hG
    exact x_zret rfl (by decide +kernel) (Or.inr rfl)
def F151_0 (v0 : Int32) (v1 : Int64) (q : aQ) : Int32 := (if v0 = 1 then F151_10 v1 q else (if v0 = 2 then F151_10 v1 q else 0))
def S151_0 (v0 : Int32) (v1 : Int64) (q : aQ) : Prop := ((v0 = 1) → S151_10 v1 q) ∧ (¬ (v0 = 1) → ((v0 = 2) → S151_10 v1 q) ∧ (¬ (v0 = 2) → True))
set_option maxRecDepth 100000 in
set_option maxHeartbeats 4000000 in
theorem A151_0 {l : Launch} {X : aX} {d : Nat} {r : Option Value} {h' : aH} {v0 : Int32} {v1 : Int64} {q : aQ} (hd : 1 ≤ d) (hN : h'.1 = nk0) (hG : gI r h' (F151_0 v0 v1 q, q)) (hS : S151_0 v0 v1 q) : AW l X 151 c151 d r h' 0 [some (.int v0), some (.long v1), none] [] (hp q) := by
  unfold F151_0 at hG
  unfold S151_0 at hS
  refine x_run (pc' := 2) (lo' := [some (.int v0), some (.long v1), none]) (st' := [.int 1, .int v0]) 2 rfl ?_
  refine x_ic 10 rfl rfl (fun (hc1 : v0 = 1) => ?_) (fun (hc1 : ¬ v0 = 1) => ?_)
  · rw [if_pos hc1] at hG
    replace hS := hS.1 hc1
    refine x_kill [0] ?_
    exact A151_10 hd hN hG hS
  · rw [if_neg hc1] at hG
    replace hS := hS.2 hc1
    refine x_run (pc' := 7) (lo' := [some (.int v0), some (.long v1), none]) (st' := [.int 2, .int v0]) 2 rfl ?_
    refine x_ic 20 rfl rfl (fun (hc3 : ¬ v0 = 2) => ?_) (fun (hc3 : v0 = 2) => ?_)
    · rw [if_neg hc3] at hG
      replace hS := hS.2 hc3
      refine x_run (pc' := 21) (lo' := [some (.int v0), some (.long v1), none]) (st' := [.int 0]) 1 rfl ?_
      obtain ⟨rfl, rfl⟩ := hG
      exact x_zret rfl (by decide +kernel) (Or.inl rfl)
    · rw [if_pos hc3] at hG
      replace hS := hS.1 hc3
      refine x_kill [0] ?_
      exact A151_10 hd hN hG hS
theorem T151 {l : Launch} {X : aX} {d : Nat} {v0 : Int32} {v1 : Int64} {q : aQ} (hd : 1 ≤ d) (hS : S151_0 v0 v1 q) : Call l X d 151 [.int v0, .long v1] (hp q) (some (.int (F151_0 v0 v1 q))) (hp q) := Call.of ok151 (by decide) (Nat.le_of_ble_eq_true rfl) ⟨Nat.le_refl _, Nat.le_refl _⟩ (A151_0 hd rfl ⟨rfl, rfl⟩ hS)
/-- TypeForecastModel.give(IJ)V -/
def F152_0 (v1 : Int32) (v2 : Int64) (q : aQ) : aQ := (a_wl (a_w q 650 37 v1) 650 38 v2)
def S152_0 (v1 : Int32) (v2 : Int64) (q : aQ) : Prop := True
set_option maxRecDepth 100000 in
set_option maxHeartbeats 4000000 in
theorem A152_0 {l : Launch} {X : aX} {d : Nat} {r : Option Value} {h' : aH} {v1 : Int32} {v2 : Int64} {q : aQ} (hd : 1 ≤ d) (hN : h'.1 = nk0) (hG : gV r h' (F152_0 v1 v2 q)) (hS : S152_0 v1 v2 q) : AW l X 152 c152 d r h' 0 [some (.ref 650), some (.int v1), some (.long v2), none] [] (hp q) := by
  unfold F152_0 at hG
  unfold S152_0 at hS
  refine x_run (pc' := 2) (lo' := [some (.ref 650), some (.int v1), some (.long v2), none]) (st' := [.int v1, .ref 650]) 2 rfl ?_
  refine x_pf (c := 613) (ne := 0) (h2 := hp (a_w q 650 37 v1)) rfl (by decide +kernel) (by decide +kernel) rfl (pv_i rfl) ?_
  refine x_run (pc' := 7) (lo' := [some (.ref 650), some (.int v1), some (.long v2), none]) (st' := [.long v2, .ref 650]) 2 rfl ?_
  refine x_pf (c := 614) (ne := 0) (h2 := hp (a_wl (a_w q 650 37 v1) 650 38 v2)) rfl (by decide +kernel) (by decide +kernel) rfl (pv_l rfl) ?_
  obtain ⟨rfl, rfl⟩ := hG
  exact x_ret rfl (by decide +kernel)
theorem T152 {l : Launch} {X : aX} {d : Nat} {v1 : Int32} {v2 : Int64} {q : aQ} (hd : 1 ≤ d) (hS : S152_0 v1 v2 q) : Call l X d 152 [.ref 650, .int v1, .long v2] (hp q) none (hp (F152_0 v1 v2 q)) := Call.of ok152 (by decide) (Nat.le_of_ble_eq_true rfl) ⟨Nat.le_refl _, Nat.le_refl _⟩ (A152_0 hd rfl ⟨rfl, rfl⟩ hS)
/-- TypeForecastModel.quotient(JJ)J -/
def F153_36 (v4 : Int64) (s0 : Int32) (s1 : Int32) (q : aQ) : Int64 := (if s1 = s0 then v4 else (v4 - 1))
def S153_36 (v4 : Int64) (s0 : Int32) (s1 : Int32) (q : aQ) : Prop := ((s1 = s0) → True) ∧ (¬ (s1 = s0) → True)
set_option maxRecDepth 100000 in
set_option maxHeartbeats 4000000 in
theorem A153_36 {l : Launch} {X : aX} {d : Nat} {r : Option Value} {h' : aH} {v4 : Int64} {s0 : Int32} {s1 : Int32} {q : aQ} (hd : 1 ≤ d) (hN : h'.1 = nk0) (hG : gJ r h' (F153_36 v4 s0 s1 q, q)) (hS : S153_36 v4 s0 s1 q) : AW l X 153 c153 d r h' 36 [none, none, none, none, some (.long v4), none] [.int s0, .int s1] (hp q) := by
  unfold F153_36 at hG
  unfold S153_36 at hS
  refine x_ic 46 rfl rfl (fun (hc5 : s1 = s0) => ?_) (fun (hc5 : ¬ s1 = s0) => ?_)
  · rw [if_pos hc5] at hG
    replace hS := hS.1 hc5
    refine x_run (pc' := 48) (lo' := [none, none, none, none, some (.long v4), none]) (st' := [.long v4]) 1 rfl ?_
    obtain ⟨rfl, rfl⟩ := hG
    exact x_lret rfl (by decide +kernel)
  · rw [if_neg hc5] at hG
    replace hS := hS.2 hc5
    refine x_run (pc' := 48) (lo' := [none, none, none, none, some (.long v4), none]) (st' := [.long (v4 - 1)]) 4 rfl ?_
    obtain ⟨rfl, rfl⟩ := hG
    exact x_lret rfl (by decide +kernel)
def F153_25 (v2 : Int64) (v4 : Int64) (s0 : Int32) (q : aQ) : Int64 := (if 0 ≤ (lg_cmp v2 0) then F153_36 v4 0 s0 q else F153_36 v4 1 s0 q)
def S153_25 (v2 : Int64) (v4 : Int64) (s0 : Int32) (q : aQ) : Prop := ((0 ≤ (lg_cmp v2 0)) → S153_36 v4 0 s0 q) ∧ (¬ (0 ≤ (lg_cmp v2 0)) → S153_36 v4 1 s0 q)
set_option maxRecDepth 100000 in
set_option maxHeartbeats 4000000 in
theorem A153_25 {l : Launch} {X : aX} {d : Nat} {r : Option Value} {h' : aH} {v2 : Int64} {v4 : Int64} {s0 : Int32} {q : aQ} (hd : 1 ≤ d) (hN : h'.1 = nk0) (hG : gJ r h' (F153_25 v2 v4 s0 q, q)) (hS : S153_25 v2 v4 s0 q) : AW l X 153 c153 d r h' 25 [none, none, some (.long v2), none, some (.long v4), none] [.int s0] (hp q) := by
  unfold F153_25 at hG
  unfold S153_25 at hS
  refine x_run (pc' := 28) (lo' := [none, none, some (.long v2), none, some (.long v4), none]) (st' := [.int (lg_cmp v2 0), .int s0]) 3 rfl ?_
  refine x_if 35 rfl rfl (fun (hc4 : 0 ≤ (lg_cmp v2 0)) => ?_) (fun (hc4 : ¬ 0 ≤ (lg_cmp v2 0)) => ?_)
  · rw [if_pos hc4] at hG
    replace hS := hS.1 hc4
    refine x_run (pc' := 36) (lo' := [none, none, some (.long v2), none, some (.long v4), none]) (st' := [.int 0, .int s0]) 1 rfl ?_
    refine x_kill [2] ?_
    exact A153_36 hd hN hG hS
  · rw [if_neg hc4] at hG
    replace hS := hS.2 hc4
    refine x_run (pc' := 36) (lo' := [none, none, some (.long v2), none, some (.long v4), none]) (st' := [.int 1, .int s0]) 2 rfl ?_
    refine x_kill [2] ?_
    exact A153_36 hd hN hG hS
def F153_0 (v0 : Int64) (v2 : Int64) (q : aQ) : Int64 := (if (lg_cmp ((v0 / v2) * v2) v0) = 0 then (v0 / v2) else (if 0 ≤ (lg_cmp v0 0) then F153_25 v2 (v0 / v2) 0 q else F153_25 v2 (v0 / v2) 1 q))
def S153_0 (v0 : Int64) (v2 : Int64) (q : aQ) : Prop := ¬ v2 = 0 ∧ ((((lg_cmp ((v0 / v2) * v2) v0) = 0) → True) ∧ (¬ ((lg_cmp ((v0 / v2) * v2) v0) = 0) → ((0 ≤ (lg_cmp v0 0)) → S153_25 v2 (v0 / v2) 0 q) ∧ (¬ (0 ≤ (lg_cmp v0 0)) → S153_25 v2 (v0 / v2) 1 q)))
set_option maxRecDepth 100000 in
set_option maxHeartbeats 4000000 in
theorem A153_0 {l : Launch} {X : aX} {d : Nat} {r : Option Value} {h' : aH} {v0 : Int64} {v2 : Int64} {q : aQ} (hd : 1 ≤ d) (hN : h'.1 = nk0) (hG : gJ r h' (F153_0 v0 v2 q, q)) (hS : S153_0 v0 v2 q) : AW l X 153 c153 d r h' 0 [some (.long v0), none, some (.long v2), none, none, none] [] (hp q) := by
  unfold F153_0 at hG
  unfold S153_0 at hS
  refine x_run (pc' := 2) (lo' := [some (.long v0), none, some (.long v2), none, none, none]) (st' := [.long v2, .long v0]) 2 rfl ?_
  obtain ⟨o1, hS⟩ := hS
  refine x_ldiv rfl o1 ?_
  refine x_run (pc' := 11) (lo' := [some (.long v0), none, some (.long v2), none, some (.long (v0 / v2)), none]) (st' := [.int (lg_cmp ((v0 / v2) * v2) v0)]) 6 rfl ?_
  refine x_if 46 rfl rfl (fun (hc2 : (lg_cmp ((v0 / v2) * v2) v0) = 0) => ?_) (fun (hc2 : ¬ (lg_cmp ((v0 / v2) * v2) v0) = 0) => ?_)
  · rw [if_pos hc2] at hG
    replace hS := hS.1 hc2
    refine x_run (pc' := 48) (lo' := [some (.long v0), none, some (.long v2), none, some (.long (v0 / v2)), none]) (st' := [.long (v0 / v2)]) 1 rfl ?_
    obtain ⟨rfl, rfl⟩ := hG
    exact x_lret rfl (by decide +kernel)
  · rw [if_neg hc2] at hG
    replace hS := hS.2 hc2
    refine x_run (pc' := 17) (lo' := [some (.long v0), none, some (.long v2), none, some (.long (v0 / v2)), none]) (st' := [.int (lg_cmp v0 0)]) 3 rfl ?_
    refine x_if 24 rfl rfl (fun (hc3 : 0 ≤ (lg_cmp v0 0)) => ?_) (fun (hc3 : ¬ 0 ≤ (lg_cmp v0 0)) => ?_)
    · rw [if_pos hc3] at hG
      replace hS := hS.1 hc3
      refine x_run (pc' := 25) (lo' := [some (.long v0), none, some (.long v2), none, some (.long (v0 / v2)), none]) (st' := [.int 0]) 1 rfl ?_
      refine x_kill [0] ?_
      exact A153_25 hd hN hG hS
    · rw [if_neg hc3] at hG
      replace hS := hS.2 hc3
      refine x_run (pc' := 25) (lo' := [some (.long v0), none, some (.long v2), none, some (.long (v0 / v2)), none]) (st' := [.int 1]) 2 rfl ?_
      refine x_kill [0] ?_
      exact A153_25 hd hN hG hS
theorem T153 {l : Launch} {X : aX} {d : Nat} {v0 : Int64} {v2 : Int64} {q : aQ} (hd : 1 ≤ d) (hS : S153_0 v0 v2 q) : Call l X d 153 [.long v0, .long v2] (hp q) (some (.long (F153_0 v0 v2 q))) (hp q) := Call.of ok153 (by decide) (Nat.le_of_ble_eq_true rfl) ⟨Nat.le_refl _, Nat.le_refl _⟩ (A153_0 hd rfl ⟨rfl, rfl⟩ hS)
/-- TypeForecastModel.low(J)I -/
def F155_0 (v0 : Int64) (q : aQ) : Int32 := (if 0 ≤ (lg_cmp v0 (-16)) then (if (lg_cmp v0 16) ≤ 0 then (Int64.toInt32 v0) else 16) else (-17))
def S155_0 (v0 : Int64) (q : aQ) : Prop := ((0 ≤ (lg_cmp v0 (-16))) → (((lg_cmp v0 16) ≤ 0) → True) ∧ (¬ ((lg_cmp v0 16) ≤ 0) → True)) ∧ (¬ (0 ≤ (lg_cmp v0 (-16))) → True)
set_option maxRecDepth 100000 in
set_option maxHeartbeats 4000000 in
theorem A155_0 {l : Launch} {X : aX} {d : Nat} {r : Option Value} {h' : aH} {v0 : Int64} {q : aQ} (hd : 1 ≤ d) (hN : h'.1 = nk0) (hG : gI r h' (F155_0 v0 q, q)) (hS : S155_0 v0 q) : AW l X 155 c155 d r h' 0 [some (.long v0), none] [] (hp q) := by
  unfold F155_0 at hG
  unfold S155_0 at hS
  refine x_run (pc' := 1) (lo' := [some (.long v0), none]) (st' := [.long v0]) 1 rfl ?_
  refine x_ldc2 (v := (-16)) (ne := 0) rfl (by decide +kernel) ?_
  refine x_run (pc' := 5) (lo' := [some (.long v0), none]) (st' := [.int (lg_cmp v0 (-16))]) 1 rfl ?_
  refine x_if 13 rfl rfl (fun (hc1 : 0 ≤ (lg_cmp v0 (-16))) => ?_) (fun (hc1 : ¬ 0 ≤ (lg_cmp v0 (-16))) => ?_)
  · rw [if_pos hc1] at hG
    replace hS := hS.1 hc1
    refine x_run (pc' := 14) (lo' := [some (.long v0), none]) (st' := [.long v0]) 1 rfl ?_
    refine x_ldc2 (v := 16) (ne := 0) rfl (by decide +kernel) ?_
    refine x_run (pc' := 18) (lo' := [some (.long v0), none]) (st' := [.int (lg_cmp v0 16)]) 1 rfl ?_
    refine x_if 26 rfl rfl (fun (hc2 : (lg_cmp v0 16) ≤ 0) => ?_) (fun (hc2 : ¬ (lg_cmp v0 16) ≤ 0) => ?_)
    · rw [if_pos hc2] at hG
      replace hS := hS.1 hc2
      refine x_run (pc' := 28) (lo' := [some (.long v0), none]) (st' := [.int (Int64.toInt32 v0)]) 2 rfl ?_
      obtain ⟨rfl, rfl⟩ := hG
      exact x_iret rfl (by decide +kernel)
    · rw [if_neg hc2] at hG
      replace hS := hS.2 hc2
      refine x_run (pc' := 28) (lo' := [some (.long v0), none]) (st' := [.int 16]) 2 rfl ?_
      obtain ⟨rfl, rfl⟩ := hG
      exact x_iret rfl (by decide +kernel)
  · rw [if_neg hc1] at hG
    replace hS := hS.2 hc1
    refine x_run (pc' := 28) (lo' := [some (.long v0), none]) (st' := [.int (-17)]) 2 rfl ?_
    obtain ⟨rfl, rfl⟩ := hG
    exact x_iret rfl (by decide +kernel)
theorem T155 {l : Launch} {X : aX} {d : Nat} {v0 : Int64} {q : aQ} (hd : 1 ≤ d) (hS : S155_0 v0 q) : Call l X d 155 [.long v0] (hp q) (some (.int (F155_0 v0 q))) (hp q) := Call.of ok155 (by decide) (Nat.le_of_ble_eq_true rfl) ⟨Nat.le_refl _, Nat.le_refl _⟩ (A155_0 hd rfl ⟨rfl, rfl⟩ hS)
/-- TypeForecastModel.high(J)I -/
def F156_0 (v0 : Int64) (q : aQ) : Int32 := (if (lg_cmp v0 16) ≤ 0 then (if 0 ≤ (lg_cmp v0 (-16)) then (Int64.toInt32 v0) else (-16)) else 17)
def S156_0 (v0 : Int64) (q : aQ) : Prop := (((lg_cmp v0 16) ≤ 0) → ((0 ≤ (lg_cmp v0 (-16))) → True) ∧ (¬ (0 ≤ (lg_cmp v0 (-16))) → True)) ∧ (¬ ((lg_cmp v0 16) ≤ 0) → True)
set_option maxRecDepth 100000 in
set_option maxHeartbeats 4000000 in
theorem A156_0 {l : Launch} {X : aX} {d : Nat} {r : Option Value} {h' : aH} {v0 : Int64} {q : aQ} (hd : 1 ≤ d) (hN : h'.1 = nk0) (hG : gI r h' (F156_0 v0 q, q)) (hS : S156_0 v0 q) : AW l X 156 c156 d r h' 0 [some (.long v0), none] [] (hp q) := by
  unfold F156_0 at hG
  unfold S156_0 at hS
  refine x_run (pc' := 1) (lo' := [some (.long v0), none]) (st' := [.long v0]) 1 rfl ?_
  refine x_ldc2 (v := 16) (ne := 0) rfl (by decide +kernel) ?_
  refine x_run (pc' := 5) (lo' := [some (.long v0), none]) (st' := [.int (lg_cmp v0 16)]) 1 rfl ?_
  refine x_if 13 rfl rfl (fun (hc1 : (lg_cmp v0 16) ≤ 0) => ?_) (fun (hc1 : ¬ (lg_cmp v0 16) ≤ 0) => ?_)
  · rw [if_pos hc1] at hG
    replace hS := hS.1 hc1
    refine x_run (pc' := 14) (lo' := [some (.long v0), none]) (st' := [.long v0]) 1 rfl ?_
    refine x_ldc2 (v := (-16)) (ne := 0) rfl (by decide +kernel) ?_
    refine x_run (pc' := 18) (lo' := [some (.long v0), none]) (st' := [.int (lg_cmp v0 (-16))]) 1 rfl ?_
    refine x_if 26 rfl rfl (fun (hc2 : 0 ≤ (lg_cmp v0 (-16))) => ?_) (fun (hc2 : ¬ 0 ≤ (lg_cmp v0 (-16))) => ?_)
    · rw [if_pos hc2] at hG
      replace hS := hS.1 hc2
      refine x_run (pc' := 28) (lo' := [some (.long v0), none]) (st' := [.int (Int64.toInt32 v0)]) 2 rfl ?_
      obtain ⟨rfl, rfl⟩ := hG
      exact x_iret rfl (by decide +kernel)
    · rw [if_neg hc2] at hG
      replace hS := hS.2 hc2
      refine x_run (pc' := 28) (lo' := [some (.long v0), none]) (st' := [.int (-16)]) 2 rfl ?_
      obtain ⟨rfl, rfl⟩ := hG
      exact x_iret rfl (by decide +kernel)
  · rw [if_neg hc1] at hG
    replace hS := hS.2 hc1
    refine x_run (pc' := 28) (lo' := [some (.long v0), none]) (st' := [.int 17]) 2 rfl ?_
    obtain ⟨rfl, rfl⟩ := hG
    exact x_iret rfl (by decide +kernel)
theorem T156 {l : Launch} {X : aX} {d : Nat} {v0 : Int64} {q : aQ} (hd : 1 ≤ d) (hS : S156_0 v0 q) : Call l X d 156 [.long v0] (hp q) (some (.int (F156_0 v0 q))) (hp q) := Call.of ok156 (by decide) (Nat.le_of_ble_eq_true rfl) ⟨Nat.le_refl _, Nat.le_refl _⟩ (A156_0 hd rfl ⟨rfl, rfl⟩ hS)
/-- TypeForecastModel.fitNone()V -/
def F157_7 (v1 : Int32) (q : aQ) : (Int32 × aQ) ⊕ (aQ) := (if 4 ≤ v1 then .inr q else .inl ((v1 + 1), (a_w q 679 (Int32.toNatClampNeg v1) 0)))
def S157_7 (v1 : Int32) (q : aQ) : Prop := ((4 ≤ v1) → True) ∧ (¬ (4 ≤ v1) → vp_in v1 4 ∧ (True))
set_option maxRecDepth 100000 in
set_option maxHeartbeats 4000000 in
theorem A157_7 {l : Launch} {X : aX} {d : Nat} {r : Option Value} {h' : aH} {v1 : Int32} {q : aQ} (hd : 1 ≤ d) (hN : h'.1 = nk0) (hG : gL (fun (s : Int32 × aQ) => AW l X 157 c157 d r h' 7 [some (.ref 650), some (.int s.1)] [] (hp s.2)) (fun (e : aQ) => AW l X 157 c157 d r h' 25 [none, none] [] (hp e)) (F157_7 v1 q)) (hS : S157_7 v1 q) : AW l X 157 c157 d r h' 7 [some (.ref 650), some (.int v1)] [] (hp q) := by
  unfold F157_7 at hG
  unfold S157_7 at hS
  refine x_run (pc' := 9) (lo' := [some (.ref 650), some (.int v1)]) (st' := [.int 4, .int v1]) 2 rfl ?_
  refine x_ic 25 rfl rfl (fun (hc1 : 4 ≤ v1) => ?_) (fun (hc1 : ¬ 4 ≤ v1) => ?_)
  · rw [if_pos hc1] at hG
    replace hS := hS.1 hc1
    refine x_kill [0, 1] ?_
    exact hG
  · rw [if_neg hc1] at hG
    replace hS := hS.2 hc1
    refine x_run (pc' := 13) (lo' := [some (.ref 650), some (.int v1)]) (st' := [.ref 650]) 1 rfl ?_
    refine x_gf (c := 612) (ne := 0) (v := .ref 679) rfl (by decide +kernel) rfl rfl ?_
    refine x_run (pc' := 18) (lo' := [some (.ref 650), some (.int v1)]) (st' := [.int 0, .int v1, .ref 679]) 2 rfl ?_
    obtain ⟨o2, hS⟩ := hS
    refine p_is (n := 4) rfl rfl o2 ?_
    refine x_run (pc' := 7) (lo' := [some (.ref 650), some (.int (v1 + 1))]) (st' := []) 2 rfl ?_
    exact hG
def F157_25 (q : aQ) : aQ := q
def S157_25 (q : aQ) : Prop := True
set_option maxRecDepth 100000 in
set_option maxHeartbeats 4000000 in
theorem A157_25 {l : Launch} {X : aX} {d : Nat} {r : Option Value} {h' : aH} {q : aQ} (hd : 1 ≤ d) (hN : h'.1 = nk0) (hG : gV r h' (F157_25 q)) (hS : S157_25 q) : AW l X 157 c157 d r h' 25 [none, none] [] (hp q) := by
  unfold F157_25 at hG
  unfold S157_25 at hS
  obtain ⟨rfl, rfl⟩ := hG
  exact x_ret rfl (by decide +kernel)
def F157_0 (q : aQ) : aQ := (fun (e3 : aQ) => F157_25 e3) (a_lp (fun (s : Int32 × aQ) => F157_7 s.1 s.2) 200 (0, (a_w q 650 35 0)) (a_w q 650 35 0))
def S157_0 (q : aQ) : Prop := a_sf (fun (s : Int32 × aQ) => F157_7 s.1 s.2) (fun (s : Int32 × aQ) => S157_7 s.1 s.2) 200 (0, (a_w q 650 35 0)) ∧ (fun (e3 : aQ) => S157_25 e3) (a_lp (fun (s : Int32 × aQ) => F157_7 s.1 s.2) 200 (0, (a_w q 650 35 0)) (a_w q 650 35 0))
set_option maxRecDepth 100000 in
set_option maxHeartbeats 4000000 in
theorem A157_0 {l : Launch} {X : aX} {d : Nat} {r : Option Value} {h' : aH} {q : aQ} (hd : 1 ≤ d) (hN : h'.1 = nk0) (hG : gV r h' (F157_0 q)) (hS : S157_0 q) : AW l X 157 c157 d r h' 0 [some (.ref 650), none] [] (hp q) := by
  unfold F157_0 at hG
  unfold S157_0 at hS
  refine x_run (pc' := 2) (lo' := [some (.ref 650), none]) (st' := [.int 0, .ref 650]) 2 rfl ?_
  refine x_pf (c := 611) (ne := 0) (h2 := hp (a_w q 650 35 0)) rfl (by decide +kernel) (by decide +kernel) rfl (pv_i rfl) ?_
  refine x_run (pc' := 7) (lo' := [some (.ref 650), some (.int 0)]) (st' := []) 2 rfl ?_
  obtain ⟨ho, hS⟩ := hS
  refine x_loop (fun (s : Int32 × aQ) => F157_7 s.1 s.2) (fun (s : Int32 × aQ) => S157_7 s.1 s.2) (fun (s : Int32 × aQ) => AW l X 157 c157 d r h' 7 [some (.ref 650), some (.int s.1)] [] (hp s.2)) (fun (e : aQ) => AW l X 157 c157 d r h' 25 [none, none] [] (hp e)) (fun s hs hg => A157_7 hd hN hg hs) 200 (0, (a_w q 650 35 0)) ho (fun e3 he => ?_)
  rw [a_lp_eq he] at hG hS
  try dsimp only at hG hS
  exact A157_25 hd hN hG hS
theorem T157 {l : Launch} {X : aX} {d : Nat} {q : aQ} (hd : 1 ≤ d) (hS : S157_0 q) : Call l X d 157 [.ref 650] (hp q) none (hp (F157_0 q)) := Call.of ok157 (by decide) (Nat.le_of_ble_eq_true rfl) ⟨Nat.le_refl _, Nat.le_refl _⟩ (A157_0 hd rfl ⟨rfl, rfl⟩ hS)
/-- TypeForecastModel.fitValue(IJ)V -/
def F158_119 (v1 : Int32) (q : aQ) : aQ := (a_w q 650 35 ((q.1 650 35) ||| v1))
def S158_119 (v1 : Int32) (q : aQ) : Prop := True
set_option maxRecDepth 100000 in
set_option maxHeartbeats 4000000 in
theorem A158_119 {l : Launch} {X : aX} {d : Nat} {r : Option Value} {h' : aH} {v1 : Int32} {q : aQ} (hd : 2 ≤ d) (hN : h'.1 = nk0) (hG : gV r h' (F158_119 v1 q)) (hS : S158_119 v1 q) : AW l X 158 c158 d r h' 119 [some (.ref 650), some (.int v1), none, none, none, none] [] (hp q) := by
  unfold F158_119 at hG
  unfold S158_119 at hS
  refine x_run (pc' := 121) (lo' := [some (.ref 650), some (.int v1), none, none, none, none]) (st' := [.ref 650, .ref 650]) 2 rfl ?_
  refine x_gf (c := 611) (ne := 0) (v := .int (q.1 650 35)) rfl (by decide +kernel) rfl rfl ?_
  refine x_run (pc' := 126) (lo' := [some (.ref 650), some (.int v1), none, none, none, none]) (st' := [.int ((q.1 650 35) ||| v1), .ref 650]) 2 rfl ?_
  refine x_pf (c := 611) (ne := 0) (h2 := hp (a_w q 650 35 ((q.1 650 35) ||| v1))) rfl (by decide +kernel) (by decide +kernel) rfl (pv_i rfl) ?_
  obtain ⟨rfl, rfl⟩ := hG
  exact x_ret rfl (by decide +kernel)
def F158_118 (v1 : Int32) (s0 : Int32) (s1 : Int32) (q : aQ) : aQ := F158_119 v1 (a_w q 679 (Int32.toNatClampNeg s1) s0)
def S158_118 (v1 : Int32) (s0 : Int32) (s1 : Int32) (q : aQ) : Prop := vp_in s1 4 ∧ (S158_119 v1 (a_w q 679 (Int32.toNatClampNeg s1) s0))
set_option maxRecDepth 100000 in
set_option maxHeartbeats 4000000 in
theorem A158_118 {l : Launch} {X : aX} {d : Nat} {r : Option Value} {h' : aH} {v1 : Int32} {s0 : Int32} {s1 : Int32} {q : aQ} (hd : 2 ≤ d) (hN : h'.1 = nk0) (hG : gV r h' (F158_118 v1 s0 s1 q)) (hS : S158_118 v1 s0 s1 q) : AW l X 158 c158 d r h' 118 [some (.ref 650), some (.int v1), none, none, none, none] [.int s0, .int s1, .ref 679] (hp q) := by
  unfold F158_118 at hG
  unfold S158_118 at hS
  obtain ⟨o9, hS⟩ := hS
  refine p_is (n := 4) rfl rfl o9 ?_
  exact A158_119 hd hN hG hS
def F158_114 (v1 : Int32) (v2 : Int64) (s0 : Int32) (q : aQ) : aQ := F158_118 v1 (F156_0 v2 q) s0 q
def S158_114 (v1 : Int32) (v2 : Int64) (s0 : Int32) (q : aQ) : Prop := S156_0 v2 q ∧ (S158_118 v1 (F156_0 v2 q) s0 q)
set_option maxRecDepth 100000 in
set_option maxHeartbeats 4000000 in
theorem A158_114 {l : Launch} {X : aX} {d : Nat} {r : Option Value} {h' : aH} {v1 : Int32} {v2 : Int64} {s0 : Int32} {q : aQ} (hd : 2 ≤ d) (hN : h'.1 = nk0) (hG : gV r h' (F158_114 v1 v2 s0 q)) (hS : S158_114 v1 v2 s0 q) : AW l X 158 c158 d r h' 114 [some (.ref 650), some (.int v1), some (.long v2), none, none, none] [.int s0, .ref 679] (hp q) := by
  unfold F158_114 at hG
  unfold S158_114 at hS
  refine x_run (pc' := 115) (lo' := [some (.ref 650), some (.int v1), some (.long v2), none, none, none]) (st' := [.long v2, .int s0, .ref 679]) 1 rfl ?_
  obtain ⟨o8, hS⟩ := hS
  refine x_cs (j := 156) (ne := 0) (vs := [.long v2]) (rest := [.int s0, .ref 679]) rfl (by decide +kernel) (by decide +kernel) (by decide) (Eq.trans rfl (show 1 = _ from by decide +kernel)) rfl (Nat.le_of_ble_eq_true rfl) (by omega) (T156 (Nat.le_refl 1) o8) (hp_m hN) ?_
  show AW l X 158 c158 d r h' 118 [some (.ref 650), some (.int v1), some (.long v2), none, none, none] [.int (F156_0 v2 q), .int s0, .ref 679] (hp q)
  refine x_kill [2] ?_
  exact A158_118 hd hN hG hS
def F158_72 (v1 : Int32) (v2 : Int64) (v4 : Int32) (v5 : Int32) (s0 : Int32) (s1 : Int32) (q : aQ) : aQ := (if v5 = 0 then F158_114 v1 v2 (v4 + 1) (a_w q 679 (Int32.toNatClampNeg s1) s0) else (if ((a_w q 679 (Int32.toNatClampNeg s1) s0).1 679 (Int32.toNatClampNeg (v4 + 1))) ≤ (F156_0 v2 (a_w q 679 (Int32.toNatClampNeg s1) s0)) then F158_114 v1 v2 (v4 + 1) (a_w q 679 (Int32.toNatClampNeg s1) s0) else F158_118 v1 ((a_w q 679 (Int32.toNatClampNeg s1) s0).1 679 (Int32.toNatClampNeg (v4 + 1))) (v4 + 1) (a_w q 679 (Int32.toNatClampNeg s1) s0)))
def S158_72 (v1 : Int32) (v2 : Int64) (v4 : Int32) (v5 : Int32) (s0 : Int32) (s1 : Int32) (q : aQ) : Prop := vp_in s1 4 ∧ (((v5 = 0) → S158_114 v1 v2 (v4 + 1) (a_w q 679 (Int32.toNatClampNeg s1) s0)) ∧ (¬ (v5 = 0) → vp_in (v4 + 1) 4 ∧ (S156_0 v2 (a_w q 679 (Int32.toNatClampNeg s1) s0) ∧ (((((a_w q 679 (Int32.toNatClampNeg s1) s0).1 679 (Int32.toNatClampNeg (v4 + 1))) ≤ (F156_0 v2 (a_w q 679 (Int32.toNatClampNeg s1) s0))) → S158_114 v1 v2 (v4 + 1) (a_w q 679 (Int32.toNatClampNeg s1) s0)) ∧ (¬ (((a_w q 679 (Int32.toNatClampNeg s1) s0).1 679 (Int32.toNatClampNeg (v4 + 1))) ≤ (F156_0 v2 (a_w q 679 (Int32.toNatClampNeg s1) s0))) → vp_in (v4 + 1) 4 ∧ (S158_118 v1 ((a_w q 679 (Int32.toNatClampNeg s1) s0).1 679 (Int32.toNatClampNeg (v4 + 1))) (v4 + 1) (a_w q 679 (Int32.toNatClampNeg s1) s0)))))))
set_option maxRecDepth 100000 in
set_option maxHeartbeats 4000000 in
theorem A158_72 {l : Launch} {X : aX} {d : Nat} {r : Option Value} {h' : aH} {v1 : Int32} {v2 : Int64} {v4 : Int32} {v5 : Int32} {s0 : Int32} {s1 : Int32} {q : aQ} (hd : 2 ≤ d) (hN : h'.1 = nk0) (hG : gV r h' (F158_72 v1 v2 v4 v5 s0 s1 q)) (hS : S158_72 v1 v2 v4 v5 s0 s1 q) : AW l X 158 c158 d r h' 72 [some (.ref 650), some (.int v1), some (.long v2), none, some (.int v4), some (.int v5)] [.int s0, .int s1, .ref 679] (hp q) := by
  unfold F158_72 at hG
  unfold S158_72 at hS
  obtain ⟨o6, hS⟩ := hS
  refine p_is (n := 4) rfl rfl o6 ?_
  refine x_run (pc' := 74) (lo' := [some (.ref 650), some (.int v1), some (.long v2), none, some (.int v4), some (.int v5)]) (st' := [.ref 650]) 1 rfl ?_
  refine x_gf (c := 612) (ne := 0) (v := .ref 679) rfl (by decide +kernel) rfl rfl ?_
  refine x_run (pc' := 83) (lo' := [some (.ref 650), some (.int v1), some (.long v2), none, some (.int v4), some (.int v5)]) (st' := [.int v5, .int (v4 + 1), .ref 679]) 4 rfl ?_
  refine x_if 114 rfl rfl (fun (hc7 : v5 = 0) => ?_) (fun (hc7 : ¬ v5 = 0) => ?_)
  · rw [if_pos hc7] at hG
    replace hS := hS.1 hc7
    refine x_kill [4, 5] ?_
    exact A158_114 hd hN hG hS
  · rw [if_neg hc7] at hG
    replace hS := hS.2 hc7
    refine x_run (pc' := 87) (lo' := [some (.ref 650), some (.int v1), some (.long v2), none, some (.int v4), some (.int v5)]) (st' := [.ref 650, .int (v4 + 1), .ref 679]) 1 rfl ?_
    refine x_gf (c := 612) (ne := 0) (v := .ref 679) rfl (by decide +kernel) rfl rfl ?_
    refine x_run (pc' := 94) (lo' := [some (.ref 650), some (.int v1), some (.long v2), none, some (.int v4), some (.int v5)]) (st' := [.int (v4 + 1), .ref 679, .int (v4 + 1), .ref 679]) 3 rfl ?_
    obtain ⟨o10, hS⟩ := hS
    refine p_ia (n := 4) (v := ((a_w q 679 (Int32.toNatClampNeg s1) s0).1 679 (Int32.toNatClampNeg (v4 + 1)))) rfl rfl o10 rfl ?_
    refine x_run (pc' := 96) (lo' := [some (.ref 650), some (.int v1), some (.long v2), none, some (.int v4), some (.int v5)]) (st' := [.long v2, .int ((a_w q 679 (Int32.toNatClampNeg s1) s0).1 679 (Int32.toNatClampNeg (v4 + 1))), .int (v4 + 1), .ref 679]) 1 rfl ?_
    obtain ⟨o11, hS⟩ := hS
    refine x_cs (j := 156) (ne := 0) (vs := [.long v2]) (rest := [.int ((a_w q 679 (Int32.toNatClampNeg s1) s0).1 679 (Int32.toNatClampNeg (v4 + 1))), .int (v4 + 1), .ref 679]) rfl (by decide +kernel) (by decide +kernel) (by decide) (Eq.trans rfl (show 1 = _ from by decide +kernel)) rfl (Nat.le_of_ble_eq_true rfl) (by omega) (T156 (Nat.le_refl 1) o11) (hp_m hN) ?_
    show AW l X 158 c158 d r h' 99 [some (.ref 650), some (.int v1), some (.long v2), none, some (.int v4), some (.int v5)] [.int (F156_0 v2 (a_w q 679 (Int32.toNatClampNeg s1) s0)), .int ((a_w q 679 (Int32.toNatClampNeg s1) s0).1 679 (Int32.toNatClampNeg (v4 + 1))), .int (v4 + 1), .ref 679] (hp (a_w q 679 (Int32.toNatClampNeg s1) s0))
    refine x_ic 114 rfl rfl (fun (hc12 : ((a_w q 679 (Int32.toNatClampNeg s1) s0).1 679 (Int32.toNatClampNeg (v4 + 1))) ≤ (F156_0 v2 (a_w q 679 (Int32.toNatClampNeg s1) s0))) => ?_) (fun (hc12 : ¬ ((a_w q 679 (Int32.toNatClampNeg s1) s0).1 679 (Int32.toNatClampNeg (v4 + 1))) ≤ (F156_0 v2 (a_w q 679 (Int32.toNatClampNeg s1) s0))) => ?_)
    · rw [if_pos hc12] at hG
      replace hS := hS.1 hc12
      refine x_kill [4, 5] ?_
      exact A158_114 hd hN hG hS
    · rw [if_neg hc12] at hG
      replace hS := hS.2 hc12
      refine x_run (pc' := 103) (lo' := [some (.ref 650), some (.int v1), some (.long v2), none, some (.int v4), some (.int v5)]) (st' := [.ref 650, .int (v4 + 1), .ref 679]) 1 rfl ?_
      refine x_gf (c := 612) (ne := 0) (v := .ref 679) rfl (by decide +kernel) rfl rfl ?_
      refine x_run (pc' := 110) (lo' := [some (.ref 650), some (.int v1), some (.long v2), none, some (.int v4), some (.int v5)]) (st' := [.int (v4 + 1), .ref 679, .int (v4 + 1), .ref 679]) 3 rfl ?_
      obtain ⟨o13, hS⟩ := hS
      refine p_ia (n := 4) (v := ((a_w q 679 (Int32.toNatClampNeg s1) s0).1 679 (Int32.toNatClampNeg (v4 + 1)))) rfl rfl o13 rfl ?_
      refine x_run (pc' := 118) (lo' := [some (.ref 650), some (.int v1), some (.long v2), none, some (.int v4), some (.int v5)]) (st' := [.int ((a_w q 679 (Int32.toNatClampNeg s1) s0).1 679 (Int32.toNatClampNeg (v4 + 1))), .int (v4 + 1), .ref 679]) 1 rfl ?_
      refine x_kill [2, 4, 5] ?_
      exact A158_118 hd hN hG hS
def F158_68 (v1 : Int32) (v2 : Int64) (v4 : Int32) (v5 : Int32) (s0 : Int32) (q : aQ) : aQ := F158_72 v1 v2 v4 v5 (F155_0 v2 q) s0 q
def S158_68 (v1 : Int32) (v2 : Int64) (v4 : Int32) (v5 : Int32) (s0 : Int32) (q : aQ) : Prop := S155_0 v2 q ∧ (S158_72 v1 v2 v4 v5 (F155_0 v2 q) s0 q)
set_option maxRecDepth 100000 in
set_option maxHeartbeats 4000000 in
theorem A158_68 {l : Launch} {X : aX} {d : Nat} {r : Option Value} {h' : aH} {v1 : Int32} {v2 : Int64} {v4 : Int32} {v5 : Int32} {s0 : Int32} {q : aQ} (hd : 2 ≤ d) (hN : h'.1 = nk0) (hG : gV r h' (F158_68 v1 v2 v4 v5 s0 q)) (hS : S158_68 v1 v2 v4 v5 s0 q) : AW l X 158 c158 d r h' 68 [some (.ref 650), some (.int v1), some (.long v2), none, some (.int v4), some (.int v5)] [.int s0, .ref 679] (hp q) := by
  unfold F158_68 at hG
  unfold S158_68 at hS
  refine x_run (pc' := 69) (lo' := [some (.ref 650), some (.int v1), some (.long v2), none, some (.int v4), some (.int v5)]) (st' := [.long v2, .int s0, .ref 679]) 1 rfl ?_
  obtain ⟨o5, hS⟩ := hS
  refine x_cs (j := 155) (ne := 0) (vs := [.long v2]) (rest := [.int s0, .ref 679]) rfl (by decide +kernel) (by decide +kernel) (by decide) (Eq.trans rfl (show 1 = _ from by decide +kernel)) rfl (Nat.le_of_ble_eq_true rfl) (by omega) (T155 (Nat.le_refl 1) o5) (hp_m hN) ?_
  show AW l X 158 c158 d r h' 72 [some (.ref 650), some (.int v1), some (.long v2), none, some (.int v4), some (.int v5)] [.int (F155_0 v2 q), .int s0, .ref 679] (hp q)
  exact A158_72 hd hN hG hS
def F158_31 (v1 : Int32) (v2 : Int64) (v4 : Int32) (s0 : Int32) (q : aQ) : aQ := (if s0 = 0 then F158_68 v1 v2 v4 s0 v4 q else (if (F155_0 v2 q) ≤ (q.1 679 (Int32.toNatClampNeg v4)) then F158_68 v1 v2 v4 s0 v4 q else F158_72 v1 v2 v4 s0 (q.1 679 (Int32.toNatClampNeg v4)) v4 q))
def S158_31 (v1 : Int32) (v2 : Int64) (v4 : Int32) (s0 : Int32) (q : aQ) : Prop := ((s0 = 0) → S158_68 v1 v2 v4 s0 v4 q) ∧ (¬ (s0 = 0) → vp_in v4 4 ∧ (S155_0 v2 q ∧ ((((F155_0 v2 q) ≤ (q.1 679 (Int32.toNatClampNeg v4))) → S158_68 v1 v2 v4 s0 v4 q) ∧ (¬ ((F155_0 v2 q) ≤ (q.1 679 (Int32.toNatClampNeg v4))) → vp_in v4 4 ∧ (S158_72 v1 v2 v4 s0 (q.1 679 (Int32.toNatClampNeg v4)) v4 q)))))
set_option maxRecDepth 100000 in
set_option maxHeartbeats 4000000 in
theorem A158_31 {l : Launch} {X : aX} {d : Nat} {r : Option Value} {h' : aH} {v1 : Int32} {v2 : Int64} {v4 : Int32} {s0 : Int32} {q : aQ} (hd : 2 ≤ d) (hN : h'.1 = nk0) (hG : gV r h' (F158_31 v1 v2 v4 s0 q)) (hS : S158_31 v1 v2 v4 s0 q) : AW l X 158 c158 d r h' 31 [some (.ref 650), some (.int v1), some (.long v2), none, some (.int v4), none] [.int s0] (hp q) := by
  unfold F158_31 at hG
  unfold S158_31 at hS
  refine x_run (pc' := 34) (lo' := [some (.ref 650), some (.int v1), some (.long v2), none, some (.int v4), some (.int s0)]) (st' := [.ref 650]) 2 rfl ?_
  refine x_gf (c := 612) (ne := 0) (v := .ref 679) rfl (by decide +kernel) rfl rfl ?_
  refine x_run (pc' := 41) (lo' := [some (.ref 650), some (.int v1), some (.long v2), none, some (.int v4), some (.int s0)]) (st' := [.int s0, .int v4, .ref 679]) 2 rfl ?_
  refine x_if 68 rfl rfl (fun (hc4 : s0 = 0) => ?_) (fun (hc4 : ¬ s0 = 0) => ?_)
  · rw [if_pos hc4] at hG
    replace hS := hS.1 hc4
    exact A158_68 hd hN hG hS
  · rw [if_neg hc4] at hG
    replace hS := hS.2 hc4
    refine x_run (pc' := 45) (lo' := [some (.ref 650), some (.int v1), some (.long v2), none, some (.int v4), some (.int s0)]) (st' := [.ref 650, .int v4, .ref 679]) 1 rfl ?_
    refine x_gf (c := 612) (ne := 0) (v := .ref 679) rfl (by decide +kernel) rfl rfl ?_
    refine x_run (pc' := 50) (lo' := [some (.ref 650), some (.int v1), some (.long v2), none, some (.int v4), some (.int s0)]) (st' := [.int v4, .ref 679, .int v4, .ref 679]) 1 rfl ?_
    obtain ⟨o14, hS⟩ := hS
    refine p_ia (n := 4) (v := (q.1 679 (Int32.toNatClampNeg v4))) rfl rfl o14 rfl ?_
    refine x_run (pc' := 52) (lo' := [some (.ref 650), some (.int v1), some (.long v2), none, some (.int v4), some (.int s0)]) (st' := [.long v2, .int (q.1 679 (Int32.toNatClampNeg v4)), .int v4, .ref 679]) 1 rfl ?_
    obtain ⟨o15, hS⟩ := hS
    refine x_cs (j := 155) (ne := 0) (vs := [.long v2]) (rest := [.int (q.1 679 (Int32.toNatClampNeg v4)), .int v4, .ref 679]) rfl (by decide +kernel) (by decide +kernel) (by decide) (Eq.trans rfl (show 1 = _ from by decide +kernel)) rfl (Nat.le_of_ble_eq_true rfl) (by omega) (T155 (Nat.le_refl 1) o15) (hp_m hN) ?_
    show AW l X 158 c158 d r h' 55 [some (.ref 650), some (.int v1), some (.long v2), none, some (.int v4), some (.int s0)] [.int (F155_0 v2 q), .int (q.1 679 (Int32.toNatClampNeg v4)), .int v4, .ref 679] (hp q)
    refine x_ic 68 rfl rfl (fun (hc16 : (F155_0 v2 q) ≤ (q.1 679 (Int32.toNatClampNeg v4))) => ?_) (fun (hc16 : ¬ (F155_0 v2 q) ≤ (q.1 679 (Int32.toNatClampNeg v4))) => ?_)
    · rw [if_pos hc16] at hG
      replace hS := hS.1 hc16
      exact A158_68 hd hN hG hS
    · rw [if_neg hc16] at hG
      replace hS := hS.2 hc16
      refine x_run (pc' := 59) (lo' := [some (.ref 650), some (.int v1), some (.long v2), none, some (.int v4), some (.int s0)]) (st' := [.ref 650, .int v4, .ref 679]) 1 rfl ?_
      refine x_gf (c := 612) (ne := 0) (v := .ref 679) rfl (by decide +kernel) rfl rfl ?_
      refine x_run (pc' := 64) (lo' := [some (.ref 650), some (.int v1), some (.long v2), none, some (.int v4), some (.int s0)]) (st' := [.int v4, .ref 679, .int v4, .ref 679]) 1 rfl ?_
      obtain ⟨o17, hS⟩ := hS
      refine p_ia (n := 4) (v := (q.1 679 (Int32.toNatClampNeg v4))) rfl rfl o17 rfl ?_
      refine x_run (pc' := 72) (lo' := [some (.ref 650), some (.int v1), some (.long v2), none, some (.int v4), some (.int s0)]) (st' := [.int (q.1 679 (Int32.toNatClampNeg v4)), .int v4, .ref 679]) 1 rfl ?_
      exact A158_72 hd hN hG hS
def F158_10 (v1 : Int32) (v2 : Int64) (s0 : Int32) (q : aQ) : aQ := (if v1 = 4 then F158_119 v1 q else (if ((q.1 650 35) &&& v1) = 0 then F158_31 v1 v2 s0 0 q else F158_31 v1 v2 s0 1 q))
def S158_10 (v1 : Int32) (v2 : Int64) (s0 : Int32) (q : aQ) : Prop := ((v1 = 4) → S158_119 v1 q) ∧ (¬ (v1 = 4) → ((((q.1 650 35) &&& v1) = 0) → S158_31 v1 v2 s0 0 q) ∧ (¬ (((q.1 650 35) &&& v1) = 0) → S158_31 v1 v2 s0 1 q))
set_option maxRecDepth 100000 in
set_option maxHeartbeats 4000000 in
theorem A158_10 {l : Launch} {X : aX} {d : Nat} {r : Option Value} {h' : aH} {v1 : Int32} {v2 : Int64} {s0 : Int32} {q : aQ} (hd : 2 ≤ d) (hN : h'.1 = nk0) (hG : gV r h' (F158_10 v1 v2 s0 q)) (hS : S158_10 v1 v2 s0 q) : AW l X 158 c158 d r h' 10 [some (.ref 650), some (.int v1), some (.long v2), none, none, none] [.int s0] (hp q) := by
  unfold F158_10 at hG
  unfold S158_10 at hS
  refine x_run (pc' := 14) (lo' := [some (.ref 650), some (.int v1), some (.long v2), none, some (.int s0), none]) (st' := [.int 4, .int v1]) 3 rfl ?_
  refine x_ic 119 rfl rfl (fun (hc2 : v1 = 4) => ?_) (fun (hc2 : ¬ v1 = 4) => ?_)
  · rw [if_pos hc2] at hG
    replace hS := hS.1 hc2
    refine x_kill [2, 4] ?_
    exact A158_119 hd hN hG hS
  · rw [if_neg hc2] at hG
    replace hS := hS.2 hc2
    refine x_run (pc' := 18) (lo' := [some (.ref 650), some (.int v1), some (.long v2), none, some (.int s0), none]) (st' := [.ref 650]) 1 rfl ?_
    refine x_gf (c := 611) (ne := 0) (v := .int (q.1 650 35)) rfl (by decide +kernel) rfl rfl ?_
    refine x_run (pc' := 23) (lo' := [some (.ref 650), some (.int v1), some (.long v2), none, some (.int s0), none]) (st' := [.int ((q.1 650 35) &&& v1)]) 2 rfl ?_
    refine x_if 30 rfl rfl (fun (hc3 : ((q.1 650 35) &&& v1) = 0) => ?_) (fun (hc3 : ¬ ((q.1 650 35) &&& v1) = 0) => ?_)
    · rw [if_pos hc3] at hG
      replace hS := hS.1 hc3
      refine x_run (pc' := 31) (lo' := [some (.ref 650), some (.int v1), some (.long v2), none, some (.int s0), none]) (st' := [.int 0]) 1 rfl ?_
      exact A158_31 hd hN hG hS
    · rw [if_neg hc3] at hG
      replace hS := hS.2 hc3
      refine x_run (pc' := 31) (lo' := [some (.ref 650), some (.int v1), some (.long v2), none, some (.int s0), none]) (st' := [.int 1]) 2 rfl ?_
      exact A158_31 hd hN hG hS
def F158_0 (v1 : Int32) (v2 : Int64) (q : aQ) : aQ := (if v1 = 2 then F158_10 v1 v2 2 q else F158_10 v1 v2 0 q)
def S158_0 (v1 : Int32) (v2 : Int64) (q : aQ) : Prop := ((v1 = 2) → S158_10 v1 v2 2 q) ∧ (¬ (v1 = 2) → S158_10 v1 v2 0 q)
set_option maxRecDepth 100000 in
set_option maxHeartbeats 4000000 in
theorem A158_0 {l : Launch} {X : aX} {d : Nat} {r : Option Value} {h' : aH} {v1 : Int32} {v2 : Int64} {q : aQ} (hd : 2 ≤ d) (hN : h'.1 = nk0) (hG : gV r h' (F158_0 v1 v2 q)) (hS : S158_0 v1 v2 q) : AW l X 158 c158 d r h' 0 [some (.ref 650), some (.int v1), some (.long v2), none, none, none] [] (hp q) := by
  unfold F158_0 at hG
  unfold S158_0 at hS
  refine x_run (pc' := 2) (lo' := [some (.ref 650), some (.int v1), some (.long v2), none, none, none]) (st' := [.int 2, .int v1]) 2 rfl ?_
  refine x_ic 9 rfl rfl (fun (hc1 : ¬ v1 = 2) => ?_) (fun (hc1 : v1 = 2) => ?_)
  · rw [if_neg hc1] at hG
    replace hS := hS.2 hc1
    refine x_run (pc' := 10) (lo' := [some (.ref 650), some (.int v1), some (.long v2), none, none, none]) (st' := [.int 0]) 1 rfl ?_
    exact A158_10 hd hN hG hS
  · rw [if_pos hc1] at hG
    replace hS := hS.1 hc1
    refine x_run (pc' := 10) (lo' := [some (.ref 650), some (.int v1), some (.long v2), none, none, none]) (st' := [.int 2]) 2 rfl ?_
    exact A158_10 hd hN hG hS
theorem T158 {l : Launch} {X : aX} {d : Nat} {v1 : Int32} {v2 : Int64} {q : aQ} (hd : 2 ≤ d) (hS : S158_0 v1 v2 q) : Call l X d 158 [.ref 650, .int v1, .long v2] (hp q) none (hp (F158_0 v1 v2 q)) := Call.of ok158 (by decide) (Nat.le_of_ble_eq_true rfl) ⟨Nat.le_refl _, Nat.le_refl _⟩ (A158_0 hd rfl ⟨rfl, rfl⟩ hS)
/-- TypeForecastModel.within(III)Z -/
def F159_11 (v0 : Int32) (v2 : Int32) (q : aQ) : Int32 := (if v2 = 17 then 1 else (if v2 < v0 then 0 else 1))
def S159_11 (v0 : Int32) (v2 : Int32) (q : aQ) : Prop := ((v2 = 17) → True) ∧ (¬ (v2 = 17) → ((v2 < v0) → True) ∧ (¬ (v2 < v0) → True))
set_option maxRecDepth 100000 in
set_option maxHeartbeats 4000000 in
theorem A159_11 {l : Launch} {X : aX} {d : Nat} {r : Option Value} {h' : aH} {v0 : Int32} {v2 : Int32} {q : aQ} (hd : 1 ≤ d) (hN : h'.1 = nk0) (hG : gI r h' (F159_11 v0 v2 q, q)) (hS : S159_11 v0 v2 q) : AW l X 159 c159 d r h' 11 [some (.int v0), none, some (.int v2)] [] (hp q) := by
  unfold F159_11 at hG
  unfold S159_11 at hS
  refine x_run (pc' := 14) (lo' := [some (.int v0), none, some (.int v2)]) (st' := [.int 17, .int v2]) 2 rfl ?_
  refine x_ic 22 rfl rfl (fun (hc2 : v2 = 17) => ?_) (fun (hc2 : ¬ v2 = 17) => ?_)
  · rw [if_pos hc2] at hG
    replace hS := hS.1 hc2
    refine x_run (pc' := 27) (lo' := [some (.int v0), none, some (.int v2)]) (st' := [.int 1]) 2 rfl ?_
    obtain ⟨rfl, rfl⟩ := hG
    exact x_zret rfl (by decide +kernel) (Or.inr rfl)
  · rw [if_neg hc2] at hG
    replace hS := hS.2 hc2
    refine x_run (pc' := 19) (lo' := [some (.int v0), none, some (.int v2)]) (st' := [.int v2, .int v0]) 2 rfl ?_
    refine x_ic 26 rfl rfl (fun (hc3 : v2 < v0) => ?_) (fun (hc3 : ¬ v2 < v0) => ?_)
    · rw [if_pos hc3] at hG
      replace hS := hS.1 hc3
      refine x_run (pc' := 27) (lo' := [some (.int v0), none, some (.int v2)]) (st' := [.int 0]) 1 rfl ?_
      obtain ⟨rfl, rfl⟩ := hG
      exact x_zret rfl (by decide +kernel) (Or.inl rfl)
    · rw [if_neg hc3] at hG
      replace hS := hS.2 hc3
      refine x_run (pc' := 27) (lo' := [some (.int v0), none, some (.int v2)]) (st' := [.int 1]) 2 rfl ?_
      obtain ⟨rfl, rfl⟩ := hG
      exact x_zret rfl (by decide +kernel) (Or.inr rfl)
def F159_0 (v0 : Int32) (v1 : Int32) (v2 : Int32) (q : aQ) : Int32 := (if v1 = (-17) then F159_11 v0 v2 q else (if v0 < v1 then 0 else F159_11 v0 v2 q))
def S159_0 (v0 : Int32) (v1 : Int32) (v2 : Int32) (q : aQ) : Prop := ((v1 = (-17)) → S159_11 v0 v2 q) ∧ (¬ (v1 = (-17)) → ((v0 < v1) → True) ∧ (¬ (v0 < v1) → S159_11 v0 v2 q))
set_option maxRecDepth 100000 in
set_option maxHeartbeats 4000000 in
theorem A159_0 {l : Launch} {X : aX} {d : Nat} {r : Option Value} {h' : aH} {v0 : Int32} {v1 : Int32} {v2 : Int32} {q : aQ} (hd : 1 ≤ d) (hN : h'.1 = nk0) (hG : gI r h' (F159_0 v0 v1 v2 q, q)) (hS : S159_0 v0 v1 v2 q) : AW l X 159 c159 d r h' 0 [some (.int v0), some (.int v1), some (.int v2)] [] (hp q) := by
  unfold F159_0 at hG
  unfold S159_0 at hS
  refine x_run (pc' := 3) (lo' := [some (.int v0), some (.int v1), some (.int v2)]) (st' := [.int (-17), .int v1]) 2 rfl ?_
  refine x_ic 11 rfl rfl (fun (hc1 : v1 = (-17)) => ?_) (fun (hc1 : ¬ v1 = (-17)) => ?_)
  · rw [if_pos hc1] at hG
    replace hS := hS.1 hc1
    refine x_kill [1] ?_
    exact A159_11 hd hN hG hS
  · rw [if_neg hc1] at hG
    replace hS := hS.2 hc1
    refine x_run (pc' := 8) (lo' := [some (.int v0), some (.int v1), some (.int v2)]) (st' := [.int v1, .int v0]) 2 rfl ?_
    refine x_ic 26 rfl rfl (fun (hc4 : v0 < v1) => ?_) (fun (hc4 : ¬ v0 < v1) => ?_)
    · rw [if_pos hc4] at hG
      replace hS := hS.1 hc4
      refine x_run (pc' := 27) (lo' := [some (.int v0), some (.int v1), some (.int v2)]) (st' := [.int 0]) 1 rfl ?_
      obtain ⟨rfl, rfl⟩ := hG
      exact x_zret rfl (by decide +kernel) (Or.inl rfl)
    · rw [if_neg hc4] at hG
      replace hS := hS.2 hc4
      refine x_kill [1] ?_
      exact A159_11 hd hN hG hS
theorem T159 {l : Launch} {X : aX} {d : Nat} {v0 : Int32} {v1 : Int32} {v2 : Int32} {q : aQ} (hd : 1 ≤ d) (hS : S159_0 v0 v1 v2 q) : Call l X d 159 [.int v0, .int v1, .int v2] (hp q) (some (.int (F159_0 v0 v1 v2 q))) (hp q) := Call.of ok159 (by decide) (Nat.le_of_ble_eq_true rfl) ⟨Nat.le_refl _, Nat.le_refl _⟩ (A159_0 hd rfl ⟨rfl, rfl⟩ hS)
/-- TypeForecastModel.leftValue(II)V -/
def F160_0 (v1 : Int32) (v2 : Int32) (q : aQ) : aQ := (a_w (a_w (a_w q 675 (Int32.toNatClampNeg (q.1 650 29)) v1) 676 (Int32.toNatClampNeg (q.1 650 29)) v2) 650 29 ((q.1 650 29) + 1))
def S160_0 (v1 : Int32) (v2 : Int32) (q : aQ) : Prop := vp_in (q.1 650 29) 60 ∧ (vp_in (q.1 650 29) 60 ∧ (True))
set_option maxRecDepth 100000 in
set_option maxHeartbeats 4000000 in
theorem A160_0 {l : Launch} {X : aX} {d : Nat} {r : Option Value} {h' : aH} {v1 : Int32} {v2 : Int32} {q : aQ} (hd : 1 ≤ d) (hN : h'.1 = nk0) (hG : gV r h' (F160_0 v1 v2 q)) (hS : S160_0 v1 v2 q) : AW l X 160 c160 d r h' 0 [some (.ref 650), some (.int v1), some (.int v2)] [] (hp q) := by
  unfold F160_0 at hG
  unfold S160_0 at hS
  refine x_run (pc' := 1) (lo' := [some (.ref 650), some (.int v1), some (.int v2)]) (st' := [.ref 650]) 1 rfl ?_
  refine x_gf (c := 606) (ne := 0) (v := .ref 675) rfl (by decide +kernel) rfl rfl ?_
  refine x_run (pc' := 5) (lo' := [some (.ref 650), some (.int v1), some (.int v2)]) (st' := [.ref 650, .ref 675]) 1 rfl ?_
  refine x_gf (c := 605) (ne := 0) (v := .int (q.1 650 29)) rfl (by decide +kernel) rfl rfl ?_
  refine x_run (pc' := 9) (lo' := [some (.ref 650), some (.int v1), some (.int v2)]) (st' := [.int v1, .int (q.1 650 29), .ref 675]) 1 rfl ?_
  obtain ⟨o1, hS⟩ := hS
  refine p_is (n := 60) rfl rfl o1 ?_
  refine x_run (pc' := 11) (lo' := [some (.ref 650), some (.int v1), some (.int v2)]) (st' := [.ref 650]) 1 rfl ?_
  refine x_gf (c := 607) (ne := 0) (v := .ref 676) rfl (by decide +kernel) rfl rfl ?_
  refine x_run (pc' := 15) (lo' := [some (.ref 650), some (.int v1), some (.int v2)]) (st' := [.ref 650, .ref 676]) 1 rfl ?_
  refine x_gf (c := 605) (ne := 0) (v := .int (q.1 650 29)) rfl (by decide +kernel) rfl rfl ?_
  refine x_run (pc' := 19) (lo' := [some (.ref 650), some (.int v1), some (.int v2)]) (st' := [.int v2, .int (q.1 650 29), .ref 676]) 1 rfl ?_
  obtain ⟨o2, hS⟩ := hS
  refine p_is (n := 60) rfl rfl o2 ?_
  refine x_run (pc' := 22) (lo' := [some (.ref 650), some (.int v1), some (.int v2)]) (st' := [.ref 650, .ref 650]) 2 rfl ?_
  refine x_gf (c := 605) (ne := 0) (v := .int (q.1 650 29)) rfl (by decide +kernel) rfl rfl ?_
  refine x_run (pc' := 27) (lo' := [some (.ref 650), some (.int v1), some (.int v2)]) (st' := [.int ((q.1 650 29) + 1), .ref 650]) 2 rfl ?_
  refine x_pf (c := 605) (ne := 0) (h2 := hp (a_w (a_w (a_w q 675 (Int32.toNatClampNeg (q.1 650 29)) v1) 676 (Int32.toNatClampNeg (q.1 650 29)) v2) 650 29 ((q.1 650 29) + 1))) rfl (by decide +kernel) (by decide +kernel) rfl (pv_i rfl) ?_
  obtain ⟨rfl, rfl⟩ := hG
  exact x_ret rfl (by decide +kernel)
theorem T160 {l : Launch} {X : aX} {d : Nat} {v1 : Int32} {v2 : Int32} {q : aQ} (hd : 1 ≤ d) (hS : S160_0 v1 v2 q) : Call l X d 160 [.ref 650, .int v1, .int v2] (hp q) none (hp (F160_0 v1 v2 q)) := Call.of ok160 (by decide) (Nat.le_of_ble_eq_true rfl) ⟨Nat.le_refl _, Nat.le_refl _⟩ (A160_0 hd rfl ⟨rfl, rfl⟩ hS)
