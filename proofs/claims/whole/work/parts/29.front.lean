/-! written by wip/whole/gen3.py: what methods do (F), what they need (S), the walk (A), the contract (T) -/
/-- TypeForecast.leaf(II)I -/
def F2_0 (v1 : Int32) (v2 : Int32) (q : aQ) : Int32 × aQ := ((F26_0 v1 v2 q).1, (F26_0 v1 v2 q).2)
def S2_0 (v1 : Int32) (v2 : Int32) (q : aQ) : Prop := S26_0 v1 v2 q ∧ (True)
set_option maxRecDepth 100000 in
set_option maxHeartbeats 4000000 in
theorem A2_0 {l : Launch} {X : aX} {d : Nat} {r : Option Value} {h' : aH} {v1 : Int32} {v2 : Int32} {q : aQ} (hd : 4 ≤ d) (hN : h'.1 = nk0) (hG : gI r h' (F2_0 v1 v2 q)) (hS : S2_0 v1 v2 q) : AW l X 2 c2 d r h' 0 [some (.ref 0), some (.int v1), some (.int v2)] [] (hp q) := by
  unfold F2_0 at hG
  unfold S2_0 at hS
  refine x_run (pc' := 1) (lo' := [some (.ref 0), some (.int v1), some (.int v2)]) (st' := [.ref 0]) 1 rfl ?_
  refine x_gf (c := 0) (ne := 0) (v := .ref 1) rfl (by decide +kernel) rfl rfl ?_
  refine x_run (pc' := 6) (lo' := [some (.ref 0), some (.int v1), some (.int v2)]) (st' := [.int v2, .int v1, .ref 1]) 2 rfl ?_
  obtain ⟨o1, hS⟩ := hS
  refine x_cv (j := 26) (ne := 0) (vs := [.int v1, .int v2]) (rest := []) rfl (by decide +kernel) (by decide +kernel) (by decide) (Eq.trans rfl (show 2 = _ from by decide +kernel)) rfl (by decide +kernel) rfl (Nat.le_of_ble_eq_true rfl) (by omega) (T26 (Nat.le_refl 3) o1) (hp_m hN) ?_
  show AW l X 2 c2 d r h' 9 [some (.ref 0), some (.int v1), some (.int v2)] [.int (F26_0 v1 v2 q).1] (hp (F26_0 v1 v2 q).2)
  obtain ⟨rfl, rfl⟩ := hG
  exact x_iret rfl (by decide +kernel)
theorem T2 {l : Launch} {X : aX} {d : Nat} {v1 : Int32} {v2 : Int32} {q : aQ} (hd : 4 ≤ d) (hS : S2_0 v1 v2 q) : Call l X d 2 [.ref 0, .int v1, .int v2] (hp q) (some (.int (F2_0 v1 v2 q).1)) (hp (F2_0 v1 v2 q).2) := Call.of ok2 (by decide) (Nat.le_of_ble_eq_true rfl) ⟨Nat.le_refl _, Nat.le_refl _⟩ (A2_0 hd rfl ⟨rfl, rfl⟩ hS)
/-- TypeForecast.apply(III)I -/
def F3_0 (v1 : Int32) (v2 : Int32) (v3 : Int32) (q : aQ) : Int32 × aQ := ((F28_0 v1 v2 v3 q).1, (F28_0 v1 v2 v3 q).2)
def S3_0 (v1 : Int32) (v2 : Int32) (v3 : Int32) (q : aQ) : Prop := S28_0 v1 v2 v3 q ∧ (True)
set_option maxRecDepth 100000 in
set_option maxHeartbeats 4000000 in
theorem A3_0 {l : Launch} {X : aX} {d : Nat} {r : Option Value} {h' : aH} {v1 : Int32} {v2 : Int32} {v3 : Int32} {q : aQ} (hd : 3 ≤ d) (hN : h'.1 = nk0) (hG : gI r h' (F3_0 v1 v2 v3 q)) (hS : S3_0 v1 v2 v3 q) : AW l X 3 c3 d r h' 0 [some (.ref 0), some (.int v1), some (.int v2), some (.int v3)] [] (hp q) := by
  unfold F3_0 at hG
  unfold S3_0 at hS
  refine x_run (pc' := 1) (lo' := [some (.ref 0), some (.int v1), some (.int v2), some (.int v3)]) (st' := [.ref 0]) 1 rfl ?_
  refine x_gf (c := 0) (ne := 0) (v := .ref 1) rfl (by decide +kernel) rfl rfl ?_
  refine x_run (pc' := 7) (lo' := [some (.ref 0), some (.int v1), some (.int v2), some (.int v3)]) (st' := [.int v3, .int v2, .int v1, .ref 1]) 3 rfl ?_
  obtain ⟨o1, hS⟩ := hS
  refine x_cv (j := 28) (ne := 0) (vs := [.int v1, .int v2, .int v3]) (rest := []) rfl (by decide +kernel) (by decide +kernel) (by decide) (Eq.trans rfl (show 3 = _ from by decide +kernel)) rfl (by decide +kernel) rfl (Nat.le_of_ble_eq_true rfl) (by omega) (T28 (Nat.le_refl 2) o1) (hp_m hN) ?_
  show AW l X 3 c3 d r h' 10 [some (.ref 0), some (.int v1), some (.int v2), some (.int v3)] [.int (F28_0 v1 v2 v3 q).1] (hp (F28_0 v1 v2 v3 q).2)
  obtain ⟨rfl, rfl⟩ := hG
  exact x_iret rfl (by decide +kernel)
theorem T3 {l : Launch} {X : aX} {d : Nat} {v1 : Int32} {v2 : Int32} {v3 : Int32} {q : aQ} (hd : 3 ≤ d) (hS : S3_0 v1 v2 v3 q) : Call l X d 3 [.ref 0, .int v1, .int v2, .int v3] (hp q) (some (.int (F3_0 v1 v2 v3 q).1)) (hp (F3_0 v1 v2 v3 q).2) := Call.of ok3 (by decide) (Nat.le_of_ble_eq_true rfl) ⟨Nat.le_refl _, Nat.le_refl _⟩ (A3_0 hd rfl ⟨rfl, rfl⟩ hS)
/-- TypeForecast.assign(II)I -/
def F4_0 (v1 : Int32) (v2 : Int32) (q : aQ) : Int32 × aQ := (if (F22_0 v1 q) = 0 then ((-1), q) else (if (F25_0 v2 q) = 0 then ((-1), q) else ((F35_0 0 v1 v2 q).1, (F35_0 0 v1 v2 q).2)))
def S4_0 (v1 : Int32) (v2 : Int32) (q : aQ) : Prop := S22_0 v1 q ∧ ((((F22_0 v1 q) = 0) → True) ∧ (¬ ((F22_0 v1 q) = 0) → S25_0 v2 q ∧ ((((F25_0 v2 q) = 0) → True) ∧ (¬ ((F25_0 v2 q) = 0) → S35_0 0 v1 v2 q ∧ (True)))))
set_option maxRecDepth 100000 in
set_option maxHeartbeats 4000000 in
theorem A4_0 {l : Launch} {X : aX} {d : Nat} {r : Option Value} {h' : aH} {v1 : Int32} {v2 : Int32} {q : aQ} (hd : 3 ≤ d) (hN : h'.1 = nk0) (hG : gI r h' (F4_0 v1 v2 q)) (hS : S4_0 v1 v2 q) : AW l X 4 c4 d r h' 0 [some (.ref 0), some (.int v1), some (.int v2)] [] (hp q) := by
  unfold F4_0 at hG
  unfold S4_0 at hS
  refine x_run (pc' := 1) (lo' := [some (.ref 0), some (.int v1), some (.int v2)]) (st' := [.int v1]) 1 rfl ?_
  obtain ⟨o1, hS⟩ := hS
  refine x_cs (j := 22) (ne := 0) (vs := [.int v1]) (rest := []) rfl (by decide +kernel) (by decide +kernel) (by decide) (Eq.trans rfl (show 1 = _ from by decide +kernel)) rfl (Nat.le_of_ble_eq_true rfl) (by omega) (T22 (Nat.le_refl 1) o1) (hp_m hN) ?_
  show AW l X 4 c4 d r h' 4 [some (.ref 0), some (.int v1), some (.int v2)] [.int (F22_0 v1 q)] (hp q)
  refine x_if 18 rfl rfl (fun (hc2 : (F22_0 v1 q) = 0) => ?_) (fun (hc2 : ¬ (F22_0 v1 q) = 0) => ?_)
  · rw [if_pos hc2] at hG
    replace hS := hS.1 hc2
    refine x_run (pc' := 19) (lo' := [some (.ref 0), some (.int v1), some (.int v2)]) (st' := [.int (-1)]) 1 rfl ?_
    obtain ⟨rfl, rfl⟩ := hG
    exact x_iret rfl (by decide +kernel)
  · rw [if_neg hc2] at hG
    replace hS := hS.2 hc2
    refine x_run (pc' := 8) (lo' := [some (.ref 0), some (.int v1), some (.int v2)]) (st' := [.ref 0]) 1 rfl ?_
    refine x_gf (c := 0) (ne := 0) (v := .ref 1) rfl (by decide +kernel) rfl rfl ?_
    refine x_run (pc' := 12) (lo' := [some (.ref 0), some (.int v1), some (.int v2)]) (st' := [.int v2, .ref 1]) 1 rfl ?_
    obtain ⟨o3, hS⟩ := hS
    refine x_cv (j := 25) (ne := 0) (vs := [.int v2]) (rest := []) rfl (by decide +kernel) (by decide +kernel) (by decide) (Eq.trans rfl (show 1 = _ from by decide +kernel)) rfl (by decide +kernel) rfl (Nat.le_of_ble_eq_true rfl) (by omega) (T25 (Nat.le_refl 1) o3) (hp_m hN) ?_
    show AW l X 4 c4 d r h' 15 [some (.ref 0), some (.int v1), some (.int v2)] [.int (F25_0 v2 q)] (hp q)
    refine x_if 20 rfl rfl (fun (hc4 : ¬ (F25_0 v2 q) = 0) => ?_) (fun (hc4 : (F25_0 v2 q) = 0) => ?_)
    · rw [if_neg hc4] at hG
      replace hS := hS.2 hc4
      refine x_run (pc' := 21) (lo' := [some (.ref 0), some (.int v1), some (.int v2)]) (st' := [.ref 0]) 1 rfl ?_
      refine x_gf (c := 1) (ne := 0) (v := .ref 8) rfl (by decide +kernel) rfl rfl ?_
      refine x_run (pc' := 27) (lo' := [some (.ref 0), some (.int v1), some (.int v2)]) (st' := [.int v2, .int v1, .int 0, .ref 8]) 3 rfl ?_
      obtain ⟨o5, hS⟩ := hS
      refine x_cv (j := 35) (ne := 0) (vs := [.int 0, .int v1, .int v2]) (rest := []) rfl (by decide +kernel) (by decide +kernel) (by decide) (Eq.trans rfl (show 3 = _ from by decide +kernel)) rfl (by decide +kernel) rfl (Nat.le_of_ble_eq_true rfl) (by omega) (T35 (Nat.le_refl 2) o5) (hp_m hN) ?_
      show AW l X 4 c4 d r h' 30 [some (.ref 0), some (.int v1), some (.int v2)] [.int (F35_0 0 v1 v2 q).1] (hp (F35_0 0 v1 v2 q).2)
      obtain ⟨rfl, rfl⟩ := hG
      exact x_iret rfl (by decide +kernel)
    · rw [if_pos hc4] at hG
      replace hS := hS.1 hc4
      refine x_run (pc' := 19) (lo' := [some (.ref 0), some (.int v1), some (.int v2)]) (st' := [.int (-1)]) 1 rfl ?_
      obtain ⟨rfl, rfl⟩ := hG
      exact x_iret rfl (by decide +kernel)
theorem T4 {l : Launch} {X : aX} {d : Nat} {v1 : Int32} {v2 : Int32} {q : aQ} (hd : 3 ≤ d) (hS : S4_0 v1 v2 q) : Call l X d 4 [.ref 0, .int v1, .int v2] (hp q) (some (.int (F4_0 v1 v2 q).1)) (hp (F4_0 v1 v2 q).2) := Call.of ok4 (by decide) (Nat.le_of_ble_eq_true rfl) ⟨Nat.le_refl _, Nat.le_refl _⟩ (A4_0 hd rfl ⟨rfl, rfl⟩ hS)
/-- TypeForecast.raise(I)I -/
def F5_0 (v1 : Int32) (q : aQ) : Int32 × aQ := (if (F23_0 v1 q) = 0 then ((-1), q) else ((F35_0 1 v1 0 q).1, (F35_0 1 v1 0 q).2))
def S5_0 (v1 : Int32) (q : aQ) : Prop := S23_0 v1 q ∧ ((((F23_0 v1 q) = 0) → True) ∧ (¬ ((F23_0 v1 q) = 0) → S35_0 1 v1 0 q ∧ (True)))
set_option maxRecDepth 100000 in
set_option maxHeartbeats 4000000 in
theorem A5_0 {l : Launch} {X : aX} {d : Nat} {r : Option Value} {h' : aH} {v1 : Int32} {q : aQ} (hd : 3 ≤ d) (hN : h'.1 = nk0) (hG : gI r h' (F5_0 v1 q)) (hS : S5_0 v1 q) : AW l X 5 c5 d r h' 0 [some (.ref 0), some (.int v1)] [] (hp q) := by
  unfold F5_0 at hG
  unfold S5_0 at hS
  refine x_run (pc' := 1) (lo' := [some (.ref 0), some (.int v1)]) (st' := [.int v1]) 1 rfl ?_
  obtain ⟨o1, hS⟩ := hS
  refine x_cs (j := 23) (ne := 0) (vs := [.int v1]) (rest := []) rfl (by decide +kernel) (by decide +kernel) (by decide) (Eq.trans rfl (show 1 = _ from by decide +kernel)) rfl (Nat.le_of_ble_eq_true rfl) (by omega) (T23 (Nat.le_refl 1) o1) (hp_m hN) ?_
  show AW l X 5 c5 d r h' 4 [some (.ref 0), some (.int v1)] [.int (F23_0 v1 q)] (hp q)
  refine x_if 9 rfl rfl (fun (hc2 : ¬ (F23_0 v1 q) = 0) => ?_) (fun (hc2 : (F23_0 v1 q) = 0) => ?_)
  · rw [if_neg hc2] at hG
    replace hS := hS.2 hc2
    refine x_run (pc' := 10) (lo' := [some (.ref 0), some (.int v1)]) (st' := [.ref 0]) 1 rfl ?_
    refine x_gf (c := 1) (ne := 0) (v := .ref 8) rfl (by decide +kernel) rfl rfl ?_
    refine x_run (pc' := 16) (lo' := [some (.ref 0), some (.int v1)]) (st' := [.int 0, .int v1, .int 1, .ref 8]) 3 rfl ?_
    obtain ⟨o3, hS⟩ := hS
    refine x_cv (j := 35) (ne := 0) (vs := [.int 1, .int v1, .int 0]) (rest := []) rfl (by decide +kernel) (by decide +kernel) (by decide) (Eq.trans rfl (show 3 = _ from by decide +kernel)) rfl (by decide +kernel) rfl (Nat.le_of_ble_eq_true rfl) (by omega) (T35 (Nat.le_refl 2) o3) (hp_m hN) ?_
    show AW l X 5 c5 d r h' 19 [some (.ref 0), some (.int v1)] [.int (F35_0 1 v1 0 q).1] (hp (F35_0 1 v1 0 q).2)
    obtain ⟨rfl, rfl⟩ := hG
    exact x_iret rfl (by decide +kernel)
  · rw [if_pos hc2] at hG
    replace hS := hS.1 hc2
    refine x_run (pc' := 8) (lo' := [some (.ref 0), some (.int v1)]) (st' := [.int (-1)]) 1 rfl ?_
    obtain ⟨rfl, rfl⟩ := hG
    exact x_iret rfl (by decide +kernel)
theorem T5 {l : Launch} {X : aX} {d : Nat} {v1 : Int32} {q : aQ} (hd : 3 ≤ d) (hS : S5_0 v1 q) : Call l X d 5 [.ref 0, .int v1] (hp q) (some (.int (F5_0 v1 q).1)) (hp (F5_0 v1 q).2) := Call.of ok5 (by decide) (Nat.le_of_ble_eq_true rfl) ⟨Nat.le_refl _, Nat.le_refl _⟩ (A5_0 hd rfl ⟨rfl, rfl⟩ hS)
/-- TypeForecast.leave(Z)I -/
def F6_28 (v2 : Int32) (s0 : Int32) (q : aQ) : Int32 × aQ := ((F35_0 s0 v2 0 q).1, (F35_0 s0 v2 0 q).2)
def S6_28 (v2 : Int32) (s0 : Int32) (q : aQ) : Prop := S35_0 s0 v2 0 q ∧ (True)
set_option maxRecDepth 100000 in
set_option maxHeartbeats 4000000 in
theorem A6_28 {l : Launch} {X : aX} {d : Nat} {r : Option Value} {h' : aH} {v2 : Int32} {s0 : Int32} {q : aQ} (hd : 3 ≤ d) (hN : h'.1 = nk0) (hG : gI r h' (F6_28 v2 s0 q)) (hS : S6_28 v2 s0 q) : AW l X 6 c6 d r h' 28 [none, none, some (.int v2)] [.int s0, .ref 8] (hp q) := by
  unfold F6_28 at hG
  unfold S6_28 at hS
  refine x_run (pc' := 30) (lo' := [none, none, some (.int v2)]) (st' := [.int 0, .int v2, .int s0, .ref 8]) 2 rfl ?_
  obtain ⟨o4, hS⟩ := hS
  refine x_cv (j := 35) (ne := 0) (vs := [.int s0, .int v2, .int 0]) (rest := []) rfl (by decide +kernel) (by decide +kernel) (by decide) (Eq.trans rfl (show 3 = _ from by decide +kernel)) rfl (by decide +kernel) rfl (Nat.le_of_ble_eq_true rfl) (by omega) (T35 (Nat.le_refl 2) o4) (hp_m hN) ?_
  show AW l X 6 c6 d r h' 33 [none, none, some (.int v2)] [.int (F35_0 s0 v2 0 q).1] (hp (F35_0 s0 v2 0 q).2)
  obtain ⟨rfl, rfl⟩ := hG
  exact x_iret rfl (by decide +kernel)
def F6_0 (v1 : Int32) (q : aQ) : Int32 × aQ := (if (F40_0 q) = (-1) then ((-1), q) else (if v1 = 0 then F6_28 (F40_0 q) 2 q else F6_28 (F40_0 q) 3 q))
def S6_0 (v1 : Int32) (q : aQ) : Prop := S40_0 q ∧ ((((F40_0 q) = (-1)) → True) ∧ (¬ ((F40_0 q) = (-1)) → ((v1 = 0) → S6_28 (F40_0 q) 2 q) ∧ (¬ (v1 = 0) → S6_28 (F40_0 q) 3 q)))
set_option maxRecDepth 100000 in
set_option maxHeartbeats 4000000 in
theorem A6_0 {l : Launch} {X : aX} {d : Nat} {r : Option Value} {h' : aH} {v1 : Int32} {q : aQ} (hd : 3 ≤ d) (hN : h'.1 = nk0) (hG : gI r h' (F6_0 v1 q)) (hS : S6_0 v1 q) : AW l X 6 c6 d r h' 0 [some (.ref 0), some (.int v1), none] [] (hp q) := by
  unfold F6_0 at hG
  unfold S6_0 at hS
  refine x_run (pc' := 1) (lo' := [some (.ref 0), some (.int v1), none]) (st' := [.ref 0]) 1 rfl ?_
  refine x_gf (c := 1) (ne := 0) (v := .ref 8) rfl (by decide +kernel) rfl rfl ?_
  obtain ⟨o1, hS⟩ := hS
  refine x_cv (j := 40) (ne := 0) (vs := []) (rest := []) rfl (by decide +kernel) (by decide +kernel) (by decide) (Eq.trans rfl (show 0 = _ from by decide +kernel)) rfl (by decide +kernel) rfl (Nat.le_of_ble_eq_true rfl) (by omega) (T40 (Nat.le_refl 1) o1) (hp_m hN) ?_
  show AW l X 6 c6 d r h' 7 [some (.ref 0), some (.int v1), none] [.int (F40_0 q)] (hp q)
  refine x_run (pc' := 10) (lo' := [some (.ref 0), some (.int v1), some (.int (F40_0 q))]) (st' := [.int (-1), .int (F40_0 q)]) 3 rfl ?_
  refine x_ic 15 rfl rfl (fun (hc2 : ¬ (F40_0 q) = (-1)) => ?_) (fun (hc2 : (F40_0 q) = (-1)) => ?_)
  · rw [if_neg hc2] at hG
    replace hS := hS.2 hc2
    refine x_run (pc' := 16) (lo' := [some (.ref 0), some (.int v1), some (.int (F40_0 q))]) (st' := [.ref 0]) 1 rfl ?_
    refine x_gf (c := 1) (ne := 0) (v := .ref 8) rfl (by decide +kernel) rfl rfl ?_
    refine x_run (pc' := 20) (lo' := [some (.ref 0), some (.int v1), some (.int (F40_0 q))]) (st' := [.int v1, .ref 8]) 1 rfl ?_
    refine x_if 27 rfl rfl (fun (hc3 : v1 = 0) => ?_) (fun (hc3 : ¬ v1 = 0) => ?_)
    · rw [if_pos hc3] at hG
      replace hS := hS.1 hc3
      refine x_run (pc' := 28) (lo' := [some (.ref 0), some (.int v1), some (.int (F40_0 q))]) (st' := [.int 2, .ref 8]) 1 rfl ?_
      refine x_kill [0, 1] ?_
      exact A6_28 hd hN hG hS
    · rw [if_neg hc3] at hG
      replace hS := hS.2 hc3
      refine x_run (pc' := 28) (lo' := [some (.ref 0), some (.int v1), some (.int (F40_0 q))]) (st' := [.int 3, .ref 8]) 2 rfl ?_
      refine x_kill [0, 1] ?_
      exact A6_28 hd hN hG hS
  · rw [if_pos hc2] at hG
    replace hS := hS.1 hc2
    refine x_run (pc' := 14) (lo' := [some (.ref 0), some (.int v1), some (.int (F40_0 q))]) (st' := [.int (-1)]) 1 rfl ?_
    obtain ⟨rfl, rfl⟩ := hG
    exact x_iret rfl (by decide +kernel)
theorem T6 {l : Launch} {X : aX} {d : Nat} {v1 : Int32} {q : aQ} (hd : 3 ≤ d) (hS : S6_0 v1 q) : Call l X d 6 [.ref 0, .int v1] (hp q) (some (.int (F6_0 v1 q).1)) (hp (F6_0 v1 q).2) := Call.of ok6 (by decide) (Nat.le_of_ble_eq_true rfl) ⟨Nat.le_refl _, Nat.le_refl _⟩ (A6_0 hd rfl ⟨rfl, rfl⟩ hS)
/-- TypeForecast.branch(I)I -/
def F7_0 (v1 : Int32) (q : aQ) : Int32 × aQ := (if (F25_0 v1 q) = 0 then ((-1), q) else ((F37_0 4 0 v1 q).1, (F37_0 4 0 v1 q).2))
def S7_0 (v1 : Int32) (q : aQ) : Prop := S25_0 v1 q ∧ ((((F25_0 v1 q) = 0) → True) ∧ (¬ ((F25_0 v1 q) = 0) → S37_0 4 0 v1 q ∧ (True)))
set_option maxRecDepth 100000 in
set_option maxHeartbeats 4000000 in
theorem A7_0 {l : Launch} {X : aX} {d : Nat} {r : Option Value} {h' : aH} {v1 : Int32} {q : aQ} (hd : 4 ≤ d) (hN : h'.1 = nk0) (hG : gI r h' (F7_0 v1 q)) (hS : S7_0 v1 q) : AW l X 7 c7 d r h' 0 [some (.ref 0), some (.int v1)] [] (hp q) := by
  unfold F7_0 at hG
  unfold S7_0 at hS
  refine x_run (pc' := 1) (lo' := [some (.ref 0), some (.int v1)]) (st' := [.ref 0]) 1 rfl ?_
  refine x_gf (c := 0) (ne := 0) (v := .ref 1) rfl (by decide +kernel) rfl rfl ?_
  refine x_run (pc' := 5) (lo' := [some (.ref 0), some (.int v1)]) (st' := [.int v1, .ref 1]) 1 rfl ?_
  obtain ⟨o1, hS⟩ := hS
  refine x_cv (j := 25) (ne := 0) (vs := [.int v1]) (rest := []) rfl (by decide +kernel) (by decide +kernel) (by decide) (Eq.trans rfl (show 1 = _ from by decide +kernel)) rfl (by decide +kernel) rfl (Nat.le_of_ble_eq_true rfl) (by omega) (T25 (Nat.le_refl 1) o1) (hp_m hN) ?_
  show AW l X 7 c7 d r h' 8 [some (.ref 0), some (.int v1)] [.int (F25_0 v1 q)] (hp q)
  refine x_if 13 rfl rfl (fun (hc2 : ¬ (F25_0 v1 q) = 0) => ?_) (fun (hc2 : (F25_0 v1 q) = 0) => ?_)
  · rw [if_neg hc2] at hG
    replace hS := hS.2 hc2
    refine x_run (pc' := 14) (lo' := [some (.ref 0), some (.int v1)]) (st' := [.ref 0]) 1 rfl ?_
    refine x_gf (c := 1) (ne := 0) (v := .ref 8) rfl (by decide +kernel) rfl rfl ?_
    refine x_run (pc' := 20) (lo' := [some (.ref 0), some (.int v1)]) (st' := [.int v1, .int 0, .int 4, .ref 8]) 3 rfl ?_
    obtain ⟨o3, hS⟩ := hS
    refine x_cv (j := 37) (ne := 0) (vs := [.int 4, .int 0, .int v1]) (rest := []) rfl (by decide +kernel) (by decide +kernel) (by decide) (Eq.trans rfl (show 3 = _ from by decide +kernel)) rfl (by decide +kernel) rfl (Nat.le_of_ble_eq_true rfl) (by omega) (T37 (Nat.le_refl 3) o3) (hp_m hN) ?_
    show AW l X 7 c7 d r h' 23 [some (.ref 0), some (.int v1)] [.int (F37_0 4 0 v1 q).1] (hp (F37_0 4 0 v1 q).2)
    obtain ⟨rfl, rfl⟩ := hG
    exact x_iret rfl (by decide +kernel)
  · rw [if_pos hc2] at hG
    replace hS := hS.1 hc2
    refine x_run (pc' := 12) (lo' := [some (.ref 0), some (.int v1)]) (st' := [.int (-1)]) 1 rfl ?_
    obtain ⟨rfl, rfl⟩ := hG
    exact x_iret rfl (by decide +kernel)
theorem T7 {l : Launch} {X : aX} {d : Nat} {v1 : Int32} {q : aQ} (hd : 4 ≤ d) (hS : S7_0 v1 q) : Call l X d 7 [.ref 0, .int v1] (hp q) (some (.int (F7_0 v1 q).1)) (hp (F7_0 v1 q).2) := Call.of ok7 (by decide) (Nat.le_of_ble_eq_true rfl) ⟨Nat.le_refl _, Nat.le_refl _⟩ (A7_0 hd rfl ⟨rfl, rfl⟩ hS)
/-- TypeForecast.loop(I)I -/
def F8_0 (v1 : Int32) (q : aQ) : Int32 × aQ := (if (F25_0 v1 q) = 0 then ((-1), q) else ((F37_0 5 0 v1 q).1, (F37_0 5 0 v1 q).2))
def S8_0 (v1 : Int32) (q : aQ) : Prop := S25_0 v1 q ∧ ((((F25_0 v1 q) = 0) → True) ∧ (¬ ((F25_0 v1 q) = 0) → S37_0 5 0 v1 q ∧ (True)))
set_option maxRecDepth 100000 in
set_option maxHeartbeats 4000000 in
theorem A8_0 {l : Launch} {X : aX} {d : Nat} {r : Option Value} {h' : aH} {v1 : Int32} {q : aQ} (hd : 4 ≤ d) (hN : h'.1 = nk0) (hG : gI r h' (F8_0 v1 q)) (hS : S8_0 v1 q) : AW l X 8 c8 d r h' 0 [some (.ref 0), some (.int v1)] [] (hp q) := by
  unfold F8_0 at hG
  unfold S8_0 at hS
  refine x_run (pc' := 1) (lo' := [some (.ref 0), some (.int v1)]) (st' := [.ref 0]) 1 rfl ?_
  refine x_gf (c := 0) (ne := 0) (v := .ref 1) rfl (by decide +kernel) rfl rfl ?_
  refine x_run (pc' := 5) (lo' := [some (.ref 0), some (.int v1)]) (st' := [.int v1, .ref 1]) 1 rfl ?_
  obtain ⟨o1, hS⟩ := hS
  refine x_cv (j := 25) (ne := 0) (vs := [.int v1]) (rest := []) rfl (by decide +kernel) (by decide +kernel) (by decide) (Eq.trans rfl (show 1 = _ from by decide +kernel)) rfl (by decide +kernel) rfl (Nat.le_of_ble_eq_true rfl) (by omega) (T25 (Nat.le_refl 1) o1) (hp_m hN) ?_
  show AW l X 8 c8 d r h' 8 [some (.ref 0), some (.int v1)] [.int (F25_0 v1 q)] (hp q)
  refine x_if 13 rfl rfl (fun (hc2 : ¬ (F25_0 v1 q) = 0) => ?_) (fun (hc2 : (F25_0 v1 q) = 0) => ?_)
  · rw [if_neg hc2] at hG
    replace hS := hS.2 hc2
    refine x_run (pc' := 14) (lo' := [some (.ref 0), some (.int v1)]) (st' := [.ref 0]) 1 rfl ?_
    refine x_gf (c := 1) (ne := 0) (v := .ref 8) rfl (by decide +kernel) rfl rfl ?_
    refine x_run (pc' := 20) (lo' := [some (.ref 0), some (.int v1)]) (st' := [.int v1, .int 0, .int 5, .ref 8]) 3 rfl ?_
    obtain ⟨o3, hS⟩ := hS
    refine x_cv (j := 37) (ne := 0) (vs := [.int 5, .int 0, .int v1]) (rest := []) rfl (by decide +kernel) (by decide +kernel) (by decide) (Eq.trans rfl (show 3 = _ from by decide +kernel)) rfl (by decide +kernel) rfl (Nat.le_of_ble_eq_true rfl) (by omega) (T37 (Nat.le_refl 3) o3) (hp_m hN) ?_
    show AW l X 8 c8 d r h' 23 [some (.ref 0), some (.int v1)] [.int (F37_0 5 0 v1 q).1] (hp (F37_0 5 0 v1 q).2)
    obtain ⟨rfl, rfl⟩ := hG
    exact x_iret rfl (by decide +kernel)
  · rw [if_pos hc2] at hG
    replace hS := hS.1 hc2
    refine x_run (pc' := 12) (lo' := [some (.ref 0), some (.int v1)]) (st' := [.int (-1)]) 1 rfl ?_
    obtain ⟨rfl, rfl⟩ := hG
    exact x_iret rfl (by decide +kernel)
theorem T8 {l : Launch} {X : aX} {d : Nat} {v1 : Int32} {q : aQ} (hd : 4 ≤ d) (hS : S8_0 v1 q) : Call l X d 8 [.ref 0, .int v1] (hp q) (some (.int (F8_0 v1 q).1)) (hp (F8_0 v1 q).2) := Call.of ok8 (by decide) (Nat.le_of_ble_eq_true rfl) ⟨Nat.le_refl _, Nat.le_refl _⟩ (A8_0 hd rfl ⟨rfl, rfl⟩ hS)
/-- TypeForecast.attempt(I)I -/
def F9_13 (v1 : Int32) (q : aQ) : Int32 × aQ := ((F37_0 6 v1 0 q).1, (F37_0 6 v1 0 q).2)
def S9_13 (v1 : Int32) (q : aQ) : Prop := S37_0 6 v1 0 q ∧ (True)
set_option maxRecDepth 100000 in
set_option maxHeartbeats 4000000 in
theorem A9_13 {l : Launch} {X : aX} {d : Nat} {r : Option Value} {h' : aH} {v1 : Int32} {q : aQ} (hd : 4 ≤ d) (hN : h'.1 = nk0) (hG : gI r h' (F9_13 v1 q)) (hS : S9_13 v1 q) : AW l X 9 c9 d r h' 13 [some (.ref 0), some (.int v1)] [] (hp q) := by
  unfold F9_13 at hG
  unfold S9_13 at hS
  refine x_run (pc' := 14) (lo' := [some (.ref 0), some (.int v1)]) (st' := [.ref 0]) 1 rfl ?_
  refine x_gf (c := 1) (ne := 0) (v := .ref 8) rfl (by decide +kernel) rfl rfl ?_
  refine x_run (pc' := 21) (lo' := [some (.ref 0), some (.int v1)]) (st' := [.int 0, .int v1, .int 6, .ref 8]) 3 rfl ?_
  obtain ⟨o2, hS⟩ := hS
  refine x_cv (j := 37) (ne := 0) (vs := [.int 6, .int v1, .int 0]) (rest := []) rfl (by decide +kernel) (by decide +kernel) (by decide) (Eq.trans rfl (show 3 = _ from by decide +kernel)) rfl (by decide +kernel) rfl (Nat.le_of_ble_eq_true rfl) (by omega) (T37 (Nat.le_refl 3) o2) (hp_m hN) ?_
  show AW l X 9 c9 d r h' 24 [some (.ref 0), some (.int v1)] [.int (F37_0 6 v1 0 q).1] (hp (F37_0 6 v1 0 q).2)
  obtain ⟨rfl, rfl⟩ := hG
  exact x_iret rfl (by decide +kernel)
def F9_0 (v1 : Int32) (q : aQ) : Int32 × aQ := (if v1 = 0 then F9_13 v1 q else (if (F23_0 v1 q) = 0 then ((-1), q) else F9_13 v1 q))
def S9_0 (v1 : Int32) (q : aQ) : Prop := ((v1 = 0) → S9_13 v1 q) ∧ (¬ (v1 = 0) → S23_0 v1 q ∧ ((((F23_0 v1 q) = 0) → True) ∧ (¬ ((F23_0 v1 q) = 0) → S9_13 v1 q)))
set_option maxRecDepth 100000 in
set_option maxHeartbeats 4000000 in
theorem A9_0 {l : Launch} {X : aX} {d : Nat} {r : Option Value} {h' : aH} {v1 : Int32} {q : aQ} (hd : 4 ≤ d) (hN : h'.1 = nk0) (hG : gI r h' (F9_0 v1 q)) (hS : S9_0 v1 q) : AW l X 9 c9 d r h' 0 [some (.ref 0), some (.int v1)] [] (hp q) := by
  unfold F9_0 at hG
  unfold S9_0 at hS
  refine x_run (pc' := 1) (lo' := [some (.ref 0), some (.int v1)]) (st' := [.int v1]) 1 rfl ?_
  refine x_if 13 rfl rfl (fun (hc1 : v1 = 0) => ?_) (fun (hc1 : ¬ v1 = 0) => ?_)
  · rw [if_pos hc1] at hG
    replace hS := hS.1 hc1
    exact A9_13 hd hN hG hS
  · rw [if_neg hc1] at hG
    replace hS := hS.2 hc1
    refine x_run (pc' := 5) (lo' := [some (.ref 0), some (.int v1)]) (st' := [.int v1]) 1 rfl ?_
    obtain ⟨o3, hS⟩ := hS
    refine x_cs (j := 23) (ne := 0) (vs := [.int v1]) (rest := []) rfl (by decide +kernel) (by decide +kernel) (by decide) (Eq.trans rfl (show 1 = _ from by decide +kernel)) rfl (Nat.le_of_ble_eq_true rfl) (by omega) (T23 (Nat.le_refl 1) o3) (hp_m hN) ?_
    show AW l X 9 c9 d r h' 8 [some (.ref 0), some (.int v1)] [.int (F23_0 v1 q)] (hp q)
    refine x_if 13 rfl rfl (fun (hc4 : ¬ (F23_0 v1 q) = 0) => ?_) (fun (hc4 : (F23_0 v1 q) = 0) => ?_)
    · rw [if_neg hc4] at hG
      replace hS := hS.2 hc4
      exact A9_13 hd hN hG hS
    · rw [if_pos hc4] at hG
      replace hS := hS.1 hc4
      refine x_run (pc' := 12) (lo' := [some (.ref 0), some (.int v1)]) (st' := [.int (-1)]) 1 rfl ?_
      obtain ⟨rfl, rfl⟩ := hG
      exact x_iret rfl (by decide +kernel)
theorem T9 {l : Launch} {X : aX} {d : Nat} {v1 : Int32} {q : aQ} (hd : 4 ≤ d) (hS : S9_0 v1 q) : Call l X d 9 [.ref 0, .int v1] (hp q) (some (.int (F9_0 v1 q).1)) (hp (F9_0 v1 q).2) := Call.of ok9 (by decide) (Nat.le_of_ble_eq_true rfl) ⟨Nat.le_refl _, Nat.le_refl _⟩ (A9_0 hd rfl ⟨rfl, rfl⟩ hS)
/-- TypeForecast.otherwise()Z -/
def F10_0 (q : aQ) : Int32 × aQ := ((F38_0 q).1, (F38_0 q).2)
def S10_0 (q : aQ) : Prop := S38_0 q ∧ (((F38_0 q).1 = 0 ∨ (F38_0 q).1 = 1) ∧ (True))
set_option maxRecDepth 100000 in
set_option maxHeartbeats 4000000 in
theorem A10_0 {l : Launch} {X : aX} {d : Nat} {r : Option Value} {h' : aH} {q : aQ} (hd : 2 ≤ d) (hN : h'.1 = nk0) (hG : gI r h' (F10_0 q)) (hS : S10_0 q) : AW l X 10 c10 d r h' 0 [some (.ref 0)] [] (hp q) := by
  unfold F10_0 at hG
  unfold S10_0 at hS
  refine x_run (pc' := 1) (lo' := [some (.ref 0)]) (st' := [.ref 0]) 1 rfl ?_
  refine x_gf (c := 1) (ne := 0) (v := .ref 8) rfl (by decide +kernel) rfl rfl ?_
  obtain ⟨o1, hS⟩ := hS
  refine x_cv (j := 38) (ne := 0) (vs := []) (rest := []) rfl (by decide +kernel) (by decide +kernel) (by decide) (Eq.trans rfl (show 0 = _ from by decide +kernel)) rfl (by decide +kernel) rfl (Nat.le_of_ble_eq_true rfl) (by omega) (T38 (Nat.le_refl 1) o1) (hp_m hN) ?_
  show AW l X 10 c10 d r h' 7 [some (.ref 0)] [.int (F38_0 q).1] (hp (F38_0 q).2)
  obtain ⟨o2, hS⟩ := hS
  obtain ⟨rfl, rfl⟩ := hG
  exact x_zret rfl (by decide +kernel) o2
theorem T10 {l : Launch} {X : aX} {d : Nat} {q : aQ} (hd : 2 ≤ d) (hS : S10_0 q) : Call l X d 10 [.ref 0] (hp q) (some (.int (F10_0 q).1)) (hp (F10_0 q).2) := Call.of ok10 (by decide) (Nat.le_of_ble_eq_true rfl) ⟨Nat.le_refl _, Nat.le_refl _⟩ (A10_0 hd rfl ⟨rfl, rfl⟩ hS)
/-- TypeForecast.end()Z -/
def F11_0 (q : aQ) : Int32 × aQ := ((F39_0 q).1, (F39_0 q).2)
def S11_0 (q : aQ) : Prop := S39_0 q ∧ (((F39_0 q).1 = 0 ∨ (F39_0 q).1 = 1) ∧ (True))
set_option maxRecDepth 100000 in
set_option maxHeartbeats 4000000 in
theorem A11_0 {l : Launch} {X : aX} {d : Nat} {r : Option Value} {h' : aH} {q : aQ} (hd : 2 ≤ d) (hN : h'.1 = nk0) (hG : gI r h' (F11_0 q)) (hS : S11_0 q) : AW l X 11 c11 d r h' 0 [some (.ref 0)] [] (hp q) := by
  unfold F11_0 at hG
  unfold S11_0 at hS
  refine x_run (pc' := 1) (lo' := [some (.ref 0)]) (st' := [.ref 0]) 1 rfl ?_
  refine x_gf (c := 1) (ne := 0) (v := .ref 8) rfl (by decide +kernel) rfl rfl ?_
  obtain ⟨o1, hS⟩ := hS
  refine x_cv (j := 39) (ne := 0) (vs := []) (rest := []) rfl (by decide +kernel) (by decide +kernel) (by decide) (Eq.trans rfl (show 0 = _ from by decide +kernel)) rfl (by decide +kernel) rfl (Nat.le_of_ble_eq_true rfl) (by omega) (T39 (Nat.le_refl 1) o1) (hp_m hN) ?_
  show AW l X 11 c11 d r h' 7 [some (.ref 0)] [.int (F39_0 q).1] (hp (F39_0 q).2)
  obtain ⟨o2, hS⟩ := hS
  obtain ⟨rfl, rfl⟩ := hG
  exact x_zret rfl (by decide +kernel) o2
theorem T11 {l : Launch} {X : aX} {d : Nat} {q : aQ} (hd : 2 ≤ d) (hS : S11_0 q) : Call l X d 11 [.ref 0] (hp q) (some (.int (F11_0 q).1)) (hp (F11_0 q).2) := Call.of ok11 (by decide) (Nat.le_of_ble_eq_true rfl) ⟨Nat.le_refl _, Nat.le_refl _⟩ (A11_0 hd rfl ⟨rfl, rfl⟩ hS)
/-- TypeForecast.feed(I)Z -/
def F12_0 (v1 : Int32) (q : aQ) : Int32 × aQ := ((F111_0 v1 q).1, (F111_0 v1 q).2)
def S12_0 (v1 : Int32) (q : aQ) : Prop := S111_0 v1 q ∧ (((F111_0 v1 q).1 = 0 ∨ (F111_0 v1 q).1 = 1) ∧ (True))
set_option maxRecDepth 100000 in
set_option maxHeartbeats 4000000 in
theorem A12_0 {l : Launch} {X : aX} {d : Nat} {r : Option Value} {h' : aH} {v1 : Int32} {q : aQ} (hd : 2 ≤ d) (hN : h'.1 = nk0) (hG : gI r h' (F12_0 v1 q)) (hS : S12_0 v1 q) : AW l X 12 c12 d r h' 0 [some (.ref 0), some (.int v1)] [] (hp q) := by
  unfold F12_0 at hG
  unfold S12_0 at hS
  refine x_run (pc' := 1) (lo' := [some (.ref 0), some (.int v1)]) (st' := [.ref 0]) 1 rfl ?_
  refine x_gf (c := 3) (ne := 0) (v := .ref 647) rfl (by decide +kernel) rfl rfl ?_
  refine x_run (pc' := 5) (lo' := [some (.ref 0), some (.int v1)]) (st' := [.int v1, .ref 647]) 1 rfl ?_
  obtain ⟨o1, hS⟩ := hS
  refine x_cv (j := 111) (ne := 0) (vs := [.int v1]) (rest := []) rfl (by decide +kernel) (by decide +kernel) (by decide) (Eq.trans rfl (show 1 = _ from by decide +kernel)) rfl (by decide +kernel) rfl (Nat.le_of_ble_eq_true rfl) (by omega) (T111 (Nat.le_refl 1) o1) (hp_m hN) ?_
  show AW l X 12 c12 d r h' 8 [some (.ref 0), some (.int v1)] [.int (F111_0 v1 q).1] (hp (F111_0 v1 q).2)
  obtain ⟨o2, hS⟩ := hS
  obtain ⟨rfl, rfl⟩ := hG
  exact x_zret rfl (by decide +kernel) o2
theorem T12 {l : Launch} {X : aX} {d : Nat} {v1 : Int32} {q : aQ} (hd : 2 ≤ d) (hS : S12_0 v1 q) : Call l X d 12 [.ref 0, .int v1] (hp q) (some (.int (F12_0 v1 q).1)) (hp (F12_0 v1 q).2) := Call.of ok12 (by decide) (Nat.le_of_ble_eq_true rfl) ⟨Nat.le_refl _, Nat.le_refl _⟩ (A12_0 hd rfl ⟨rfl, rfl⟩ hS)
/-- TypeForecast.look()I -/
def F13_0 (q : aQ) : Int32 × aQ := (if (F33_0 q) = 0 then ((F48_0 q).1, (F48_0 q).2) else ((-1), q))
def S13_0 (q : aQ) : Prop := S33_0 q ∧ ((((F33_0 q) = 0) → S48_0 q ∧ (True)) ∧ (¬ ((F33_0 q) = 0) → True))
set_option maxRecDepth 100000 in
set_option maxHeartbeats 4000000 in
theorem A13_0 {l : Launch} {X : aX} {d : Nat} {r : Option Value} {h' : aH} {q : aQ} (hd : 25 ≤ d) (hN : h'.1 = nk0) (hG : gI r h' (F13_0 q)) (hS : S13_0 q) : AW l X 13 c13 d r h' 0 [some (.ref 0)] [] (hp q) := by
  unfold F13_0 at hG
  unfold S13_0 at hS
  refine x_run (pc' := 1) (lo' := [some (.ref 0)]) (st' := [.ref 0]) 1 rfl ?_
  refine x_gf (c := 1) (ne := 0) (v := .ref 8) rfl (by decide +kernel) rfl rfl ?_
  obtain ⟨o1, hS⟩ := hS
  refine x_cv (j := 33) (ne := 0) (vs := []) (rest := []) rfl (by decide +kernel) (by decide +kernel) (by decide) (Eq.trans rfl (show 0 = _ from by decide +kernel)) rfl (by decide +kernel) rfl (Nat.le_of_ble_eq_true rfl) (by omega) (T33 (Nat.le_refl 1) o1) (hp_m hN) ?_
  show AW l X 13 c13 d r h' 7 [some (.ref 0)] [.int (F33_0 q)] (hp q)
  refine x_if 14 rfl rfl (fun (hc2 : (F33_0 q) = 0) => ?_) (fun (hc2 : ¬ (F33_0 q) = 0) => ?_)
  · rw [if_pos hc2] at hG
    replace hS := hS.1 hc2
    refine x_run (pc' := 15) (lo' := [some (.ref 0)]) (st' := [.ref 0]) 1 rfl ?_
    refine x_gf (c := 2) (ne := 0) (v := .ref 19) rfl (by decide +kernel) rfl rfl ?_
    obtain ⟨o3, hS⟩ := hS
    refine x_cv (j := 48) (ne := 0) (vs := []) (rest := []) rfl (by decide +kernel) (by decide +kernel) (by decide) (Eq.trans rfl (show 0 = _ from by decide +kernel)) rfl (by decide +kernel) rfl (Nat.le_of_ble_eq_true rfl) (by omega) (T48 (Nat.le_refl 24) o3) (hp_m hN) ?_
    show AW l X 13 c13 d r h' 21 [some (.ref 0)] [.int (F48_0 q).1] (hp (F48_0 q).2)
    obtain ⟨rfl, rfl⟩ := hG
    exact x_iret rfl (by decide +kernel)
  · rw [if_neg hc2] at hG
    replace hS := hS.2 hc2
    refine x_run (pc' := 21) (lo' := [some (.ref 0)]) (st' := [.int (-1)]) 2 rfl ?_
    obtain ⟨rfl, rfl⟩ := hG
    exact x_iret rfl (by decide +kernel)
theorem T13 {l : Launch} {X : aX} {d : Nat} {q : aQ} (hd : 25 ≤ d) (hS : S13_0 q) : Call l X d 13 [.ref 0] (hp q) (some (.int (F13_0 q).1)) (hp (F13_0 q).2) := Call.of ok13 (by decide) (Nat.le_of_ble_eq_true rfl) ⟨Nat.le_refl _, Nat.le_refl _⟩ (A13_0 hd rfl ⟨rfl, rfl⟩ hS)
/-- TypeForecast.alarm(II)Z -/
def F14_0 (v1 : Int32) (v2 : Int32) (q : aQ) : Int32 := (if (F23_0 v1 q) = 0 then 0 else (if (F32_0 v2 q) = 0 then 0 else (if (F47_0 v1 v2 q) = 0 then 0 else 1)))
def S14_0 (v1 : Int32) (v2 : Int32) (q : aQ) : Prop := S23_0 v1 q ∧ ((((F23_0 v1 q) = 0) → True) ∧ (¬ ((F23_0 v1 q) = 0) → S32_0 v2 q ∧ ((((F32_0 v2 q) = 0) → True) ∧ (¬ ((F32_0 v2 q) = 0) → S47_0 v1 v2 q ∧ ((((F47_0 v1 v2 q) = 0) → True) ∧ (¬ ((F47_0 v1 v2 q) = 0) → True))))))
set_option maxRecDepth 100000 in
set_option maxHeartbeats 4000000 in
theorem A14_0 {l : Launch} {X : aX} {d : Nat} {r : Option Value} {h' : aH} {v1 : Int32} {v2 : Int32} {q : aQ} (hd : 2 ≤ d) (hN : h'.1 = nk0) (hG : gI r h' (F14_0 v1 v2 q, q)) (hS : S14_0 v1 v2 q) : AW l X 14 c14 d r h' 0 [some (.ref 0), some (.int v1), some (.int v2)] [] (hp q) := by
  unfold F14_0 at hG
  unfold S14_0 at hS
  refine x_run (pc' := 1) (lo' := [some (.ref 0), some (.int v1), some (.int v2)]) (st' := [.int v1]) 1 rfl ?_
  obtain ⟨o1, hS⟩ := hS
  refine x_cs (j := 23) (ne := 0) (vs := [.int v1]) (rest := []) rfl (by decide +kernel) (by decide +kernel) (by decide) (Eq.trans rfl (show 1 = _ from by decide +kernel)) rfl (Nat.le_of_ble_eq_true rfl) (by omega) (T23 (Nat.le_refl 1) o1) (hp_m hN) ?_
  show AW l X 14 c14 d r h' 4 [some (.ref 0), some (.int v1), some (.int v2)] [.int (F23_0 v1 q)] (hp q)
  refine x_if 34 rfl rfl (fun (hc2 : (F23_0 v1 q) = 0) => ?_) (fun (hc2 : ¬ (F23_0 v1 q) = 0) => ?_)
  · rw [if_pos hc2] at hG
    replace hS := hS.1 hc2
    refine x_run (pc' := 35) (lo' := [some (.ref 0), some (.int v1), some (.int v2)]) (st' := [.int 0]) 1 rfl ?_
    obtain ⟨rfl, rfl⟩ := hG
    exact x_zret rfl (by decide +kernel) (Or.inl rfl)
  · rw [if_neg hc2] at hG
    replace hS := hS.2 hc2
    refine x_run (pc' := 8) (lo' := [some (.ref 0), some (.int v1), some (.int v2)]) (st' := [.ref 0]) 1 rfl ?_
    refine x_gf (c := 1) (ne := 0) (v := .ref 8) rfl (by decide +kernel) rfl rfl ?_
    refine x_run (pc' := 12) (lo' := [some (.ref 0), some (.int v1), some (.int v2)]) (st' := [.int v2, .ref 8]) 1 rfl ?_
    obtain ⟨o3, hS⟩ := hS
    refine x_cv (j := 32) (ne := 0) (vs := [.int v2]) (rest := []) rfl (by decide +kernel) (by decide +kernel) (by decide) (Eq.trans rfl (show 1 = _ from by decide +kernel)) rfl (by decide +kernel) rfl (Nat.le_of_ble_eq_true rfl) (by omega) (T32 (Nat.le_refl 1) o3) (hp_m hN) ?_
    show AW l X 14 c14 d r h' 15 [some (.ref 0), some (.int v1), some (.int v2)] [.int (F32_0 v2 q)] (hp q)
    refine x_if 34 rfl rfl (fun (hc4 : (F32_0 v2 q) = 0) => ?_) (fun (hc4 : ¬ (F32_0 v2 q) = 0) => ?_)
    · rw [if_pos hc4] at hG
      replace hS := hS.1 hc4
      refine x_run (pc' := 35) (lo' := [some (.ref 0), some (.int v1), some (.int v2)]) (st' := [.int 0]) 1 rfl ?_
      obtain ⟨rfl, rfl⟩ := hG
      exact x_zret rfl (by decide +kernel) (Or.inl rfl)
    · rw [if_neg hc4] at hG
      replace hS := hS.2 hc4
      refine x_run (pc' := 19) (lo' := [some (.ref 0), some (.int v1), some (.int v2)]) (st' := [.ref 0]) 1 rfl ?_
      refine x_gf (c := 2) (ne := 0) (v := .ref 19) rfl (by decide +kernel) rfl rfl ?_
      refine x_run (pc' := 24) (lo' := [some (.ref 0), some (.int v1), some (.int v2)]) (st' := [.int v2, .int v1, .ref 19]) 2 rfl ?_
      obtain ⟨o5, hS⟩ := hS
      refine x_cv (j := 47) (ne := 0) (vs := [.int v1, .int v2]) (rest := []) rfl (by decide +kernel) (by decide +kernel) (by decide) (Eq.trans rfl (show 2 = _ from by decide +kernel)) rfl (by decide +kernel) rfl (Nat.le_of_ble_eq_true rfl) (by omega) (T47 (Nat.le_refl 1) o5) (hp_m hN) ?_
      show AW l X 14 c14 d r h' 27 [some (.ref 0), some (.int v1), some (.int v2)] [.int (F47_0 v1 v2 q)] (hp q)
      refine x_if 34 rfl rfl (fun (hc6 : (F47_0 v1 v2 q) = 0) => ?_) (fun (hc6 : ¬ (F47_0 v1 v2 q) = 0) => ?_)
      · rw [if_pos hc6] at hG
        replace hS := hS.1 hc6
        refine x_run (pc' := 35) (lo' := [some (.ref 0), some (.int v1), some (.int v2)]) (st' := [.int 0]) 1 rfl ?_
        obtain ⟨rfl, rfl⟩ := hG
        exact x_zret rfl (by decide +kernel) (Or.inl rfl)
      · rw [if_neg hc6] at hG
        replace hS := hS.2 hc6
        refine x_run (pc' := 35) (lo' := [some (.ref 0), some (.int v1), some (.int v2)]) (st' := [.int 1]) 2 rfl ?_
        obtain ⟨rfl, rfl⟩ := hG
        exact x_zret rfl (by decide +kernel) (Or.inr rfl)
theorem T14 {l : Launch} {X : aX} {d : Nat} {v1 : Int32} {v2 : Int32} {q : aQ} (hd : 2 ≤ d) (hS : S14_0 v1 v2 q) : Call l X d 14 [.ref 0, .int v1, .int v2] (hp q) (some (.int (F14_0 v1 v2 q))) (hp q) := Call.of ok14 (by decide) (Nat.le_of_ble_eq_true rfl) ⟨Nat.le_refl _, Nat.le_refl _⟩ (A14_0 hd rfl ⟨rfl, rfl⟩ hS)
/-- TypeForecast.pictureBefore(II)LTypeForecast$Picture; -/
def F21_15 (v2 : Int32) (s0 : Int32) (q : aQ) : Nat := ((222 + 17 * (Int32.toNatClampNeg s0)) + 2 + 3 * (Int32.toNatClampNeg v2))
def S21_15 (v2 : Int32) (s0 : Int32) (q : aQ) : Prop := S46_0 s0 q ∧ (vp_in v2 5 ∧ (True))
set_option maxRecDepth 100000 in
set_option maxHeartbeats 4000000 in
theorem A21_15 {l : Launch} {X : aX} {d : Nat} {r : Option Value} {h' : aH} {v2 : Int32} {s0 : Int32} {q : aQ} (hd : 2 ≤ d) (hN : h'.1 = nk0) (hG : gR r h' (F21_15 v2 s0 q, q)) (hS : S21_15 v2 s0 q) : AW l X 21 c21 d r h' 15 [none, none, some (.int v2)] [.int s0, .ref 19] (hp q) := by
  unfold F21_15 at hG
  unfold S21_15 at hS
  obtain ⟨o2, hS⟩ := hS
  refine x_cv (j := 46) (ne := 0) (vs := [.int s0]) (rest := []) rfl (by decide +kernel) (by decide +kernel) (by decide) (Eq.trans rfl (show 1 = _ from by decide +kernel)) rfl (by decide +kernel) rfl (Nat.le_of_ble_eq_true rfl) (by omega) (T46 (Nat.le_refl 1) o2) (hp_m hN) ?_
  show AW l X 21 c21 d r h' 18 [none, none, some (.int v2)] [.ref (222 + 17 * (Int32.toNatClampNeg s0))] (hp q)
  refine x_gf (c := 256) (ne := 1) (v := .ref ((222 + 17 * (Int32.toNatClampNeg s0)) + 1)) rfl (by decide +kernel) (st_s (st_b (S46_in o2))) (st_v (st_b (S46_in o2))) ?_
  refine x_run (pc' := 22) (lo' := [none, none, some (.int v2)]) (st' := [.int v2, .ref ((222 + 17 * (Int32.toNatClampNeg s0)) + 1)]) 1 rfl ?_
  obtain ⟨o3, hS⟩ := hS
  refine x_aa (n := 5) (t := 20) (v := (222 + 17 * (Int32.toNatClampNeg s0)) + 2 + 3 * (Int32.toNatClampNeg v2)) rfl (st_a (st_b (S46_in o2))) (Or.inr rfl) o3 (st_m (st_b (S46_in o2)) o3) ?_
  obtain ⟨rfl, rfl⟩ := hG
  exact x_aret (C := "TypeForecast$Picture") rfl (by decide +kernel)
def F21_0 (v1 : Int32) (v2 : Int32) (q : aQ) : Nat := (if v1 = (-1) then F21_15 v2 24 q else F21_15 v2 v1 q)
def S21_0 (v1 : Int32) (v2 : Int32) (q : aQ) : Prop := ((v1 = (-1)) → S21_15 v2 24 q) ∧ (¬ (v1 = (-1)) → S21_15 v2 v1 q)
set_option maxRecDepth 100000 in
set_option maxHeartbeats 4000000 in
theorem A21_0 {l : Launch} {X : aX} {d : Nat} {r : Option Value} {h' : aH} {v1 : Int32} {v2 : Int32} {q : aQ} (hd : 2 ≤ d) (hN : h'.1 = nk0) (hG : gR r h' (F21_0 v1 v2 q, q)) (hS : S21_0 v1 v2 q) : AW l X 21 c21 d r h' 0 [some (.ref 0), some (.int v1), some (.int v2)] [] (hp q) := by
  unfold F21_0 at hG
  unfold S21_0 at hS
  refine x_run (pc' := 1) (lo' := [some (.ref 0), some (.int v1), some (.int v2)]) (st' := [.ref 0]) 1 rfl ?_
  refine x_gf (c := 2) (ne := 0) (v := .ref 19) rfl (by decide +kernel) rfl rfl ?_
  refine x_run (pc' := 6) (lo' := [some (.ref 0), some (.int v1), some (.int v2)]) (st' := [.int (-1), .int v1, .ref 19]) 2 rfl ?_
  refine x_ic 14 rfl rfl (fun (hc1 : ¬ v1 = (-1)) => ?_) (fun (hc1 : v1 = (-1)) => ?_)
  · rw [if_neg hc1] at hG
    replace hS := hS.2 hc1
    refine x_run (pc' := 15) (lo' := [some (.ref 0), some (.int v1), some (.int v2)]) (st' := [.int v1, .ref 19]) 1 rfl ?_
    refine x_kill [0, 1] ?_
    exact A21_15 hd hN hG hS
  · rw [if_pos hc1] at hG
    replace hS := hS.1 hc1
    refine x_run (pc' := 15) (lo' := [some (.ref 0), some (.int v1), some (.int v2)]) (st' := [.int 24, .ref 19]) 2 rfl ?_
    refine x_kill [0, 1] ?_
    exact A21_15 hd hN hG hS
theorem T21 {l : Launch} {X : aX} {d : Nat} {v1 : Int32} {v2 : Int32} {q : aQ} (hd : 2 ≤ d) (hS : S21_0 v1 v2 q) : Call l X d 21 [.ref 0, .int v1, .int v2] (hp q) (some (.ref (F21_0 v1 v2 q))) (hp q) := Call.of ok21 (by decide) (Nat.le_of_ble_eq_true rfl) ⟨Nat.le_refl _, Nat.le_refl _⟩ (A21_0 hd rfl ⟨rfl, rfl⟩ hS)
theorem P21_15 {v2 s0 : Int32} {q : aQ} (h : S21_15 v2 s0 q) : isPic (F21_15 v2 s0 q) := by
  unfold S21_15 at h
  exact st_p (st_b (S46_in h.1)) h.2.1
theorem P21 {v1 v2 : Int32} {q : aQ} (h : S21_0 v1 v2 q) : isPic (F21_0 v1 v2 q) := by
  unfold S21_0 at h
  unfold F21_0
  by_cases hc : v1 = (-1)
  · rw [if_pos hc]; exact P21_15 (h.1 hc)
  · rw [if_neg hc]; exact P21_15 (h.2 hc)
/-- TypeForecast.seen(II)I -/
def F15_25 (v1 : Int32) (v2 : Int32) (q : aQ) : Int32 := (F66_0 (F21_0 v1 v2 q) q)
def S15_25 (v1 : Int32) (v2 : Int32) (q : aQ) : Prop := S21_0 v1 v2 q ∧ (S66_0 (F21_0 v1 v2 q) q ∧ (True))
set_option maxRecDepth 100000 in
set_option maxHeartbeats 4000000 in
theorem A15_25 {l : Launch} {X : aX} {d : Nat} {r : Option Value} {h' : aH} {v1 : Int32} {v2 : Int32} {q : aQ} (hd : 3 ≤ d) (hN : h'.1 = nk0) (hG : gI r h' (F15_25 v1 v2 q, q)) (hS : S15_25 v1 v2 q) : AW l X 15 c15 d r h' 25 [some (.ref 0), some (.int v1), some (.int v2)] [] (hp q) := by
  unfold F15_25 at hG
  unfold S15_25 at hS
  refine x_run (pc' := 28) (lo' := [some (.ref 0), some (.int v1), some (.int v2)]) (st' := [.int v2, .int v1, .ref 0]) 3 rfl ?_
  obtain ⟨o4, hS⟩ := hS
  refine x_cv (j := 21) (ne := 0) (vs := [.int v1, .int v2]) (rest := []) rfl (by decide +kernel) (by decide +kernel) (by decide) (Eq.trans rfl (show 2 = _ from by decide +kernel)) rfl (by decide +kernel) rfl (Nat.le_of_ble_eq_true rfl) (by omega) (T21 (Nat.le_refl 2) o4) (hp_m hN) ?_
  show AW l X 15 c15 d r h' 31 [some (.ref 0), some (.int v1), some (.int v2)] [.ref (F21_0 v1 v2 q)] (hp q)
  obtain ⟨o5, hS⟩ := hS
  refine x_cv (j := 66) (ne := 0) (vs := []) (rest := []) rfl (by decide +kernel) (by decide +kernel) (by decide) (Eq.trans rfl (show 0 = _ from by decide +kernel)) (pc_s (P21 o4)) (by decide +kernel) rfl (Nat.le_of_ble_eq_true rfl) (by omega) (T66 (Nat.le_refl 2) (P21 o4) o5) (hp_m hN) ?_
  show AW l X 15 c15 d r h' 34 [some (.ref 0), some (.int v1), some (.int v2)] [.int (F66_0 (F21_0 v1 v2 q) q)] (hp q)
  obtain ⟨rfl, rfl⟩ := hG
  exact x_iret rfl (by decide +kernel)
def F15_0 (v1 : Int32) (v2 : Int32) (q : aQ) : Int32 := (if (F22_0 v2 q) = 0 then (-1) else (if v1 = (-1) then F15_25 v1 v2 q else (if (F32_0 v1 q) = 0 then (-1) else F15_25 v1 v2 q)))
def S15_0 (v1 : Int32) (v2 : Int32) (q : aQ) : Prop := S22_0 v2 q ∧ ((((F22_0 v2 q) = 0) → True) ∧ (¬ ((F22_0 v2 q) = 0) → ((v1 = (-1)) → S15_25 v1 v2 q) ∧ (¬ (v1 = (-1)) → S32_0 v1 q ∧ ((((F32_0 v1 q) = 0) → True) ∧ (¬ ((F32_0 v1 q) = 0) → S15_25 v1 v2 q)))))
set_option maxRecDepth 100000 in
set_option maxHeartbeats 4000000 in
theorem A15_0 {l : Launch} {X : aX} {d : Nat} {r : Option Value} {h' : aH} {v1 : Int32} {v2 : Int32} {q : aQ} (hd : 3 ≤ d) (hN : h'.1 = nk0) (hG : gI r h' (F15_0 v1 v2 q, q)) (hS : S15_0 v1 v2 q) : AW l X 15 c15 d r h' 0 [some (.ref 0), some (.int v1), some (.int v2)] [] (hp q) := by
  unfold F15_0 at hG
  unfold S15_0 at hS
  refine x_run (pc' := 1) (lo' := [some (.ref 0), some (.int v1), some (.int v2)]) (st' := [.int v2]) 1 rfl ?_
  obtain ⟨o1, hS⟩ := hS
  refine x_cs (j := 22) (ne := 0) (vs := [.int v2]) (rest := []) rfl (by decide +kernel) (by decide +kernel) (by decide) (Eq.trans rfl (show 1 = _ from by decide +kernel)) rfl (Nat.le_of_ble_eq_true rfl) (by omega) (T22 (Nat.le_refl 1) o1) (hp_m hN) ?_
  show AW l X 15 c15 d r h' 4 [some (.ref 0), some (.int v1), some (.int v2)] [.int (F22_0 v2 q)] (hp q)
  refine x_if 23 rfl rfl (fun (hc2 : (F22_0 v2 q) = 0) => ?_) (fun (hc2 : ¬ (F22_0 v2 q) = 0) => ?_)
  · rw [if_pos hc2] at hG
    replace hS := hS.1 hc2
    refine x_run (pc' := 24) (lo' := [some (.ref 0), some (.int v1), some (.int v2)]) (st' := [.int (-1)]) 1 rfl ?_
    obtain ⟨rfl, rfl⟩ := hG
    exact x_iret rfl (by decide +kernel)
  · rw [if_neg hc2] at hG
    replace hS := hS.2 hc2
    refine x_run (pc' := 9) (lo' := [some (.ref 0), some (.int v1), some (.int v2)]) (st' := [.int (-1), .int v1]) 2 rfl ?_
    refine x_ic 25 rfl rfl (fun (hc3 : v1 = (-1)) => ?_) (fun (hc3 : ¬ v1 = (-1)) => ?_)
    · rw [if_pos hc3] at hG
      replace hS := hS.1 hc3
      exact A15_25 hd hN hG hS
    · rw [if_neg hc3] at hG
      replace hS := hS.2 hc3
      refine x_run (pc' := 13) (lo' := [some (.ref 0), some (.int v1), some (.int v2)]) (st' := [.ref 0]) 1 rfl ?_
      refine x_gf (c := 1) (ne := 0) (v := .ref 8) rfl (by decide +kernel) rfl rfl ?_
      refine x_run (pc' := 17) (lo' := [some (.ref 0), some (.int v1), some (.int v2)]) (st' := [.int v1, .ref 8]) 1 rfl ?_
      obtain ⟨o6, hS⟩ := hS
      refine x_cv (j := 32) (ne := 0) (vs := [.int v1]) (rest := []) rfl (by decide +kernel) (by decide +kernel) (by decide) (Eq.trans rfl (show 1 = _ from by decide +kernel)) rfl (by decide +kernel) rfl (Nat.le_of_ble_eq_true rfl) (by omega) (T32 (Nat.le_refl 1) o6) (hp_m hN) ?_
      show AW l X 15 c15 d r h' 20 [some (.ref 0), some (.int v1), some (.int v2)] [.int (F32_0 v1 q)] (hp q)
      refine x_if 25 rfl rfl (fun (hc7 : ¬ (F32_0 v1 q) = 0) => ?_) (fun (hc7 : (F32_0 v1 q) = 0) => ?_)
      · rw [if_neg hc7] at hG
        replace hS := hS.2 hc7
        exact A15_25 hd hN hG hS
      · rw [if_pos hc7] at hG
        replace hS := hS.1 hc7
        refine x_run (pc' := 24) (lo' := [some (.ref 0), some (.int v1), some (.int v2)]) (st' := [.int (-1)]) 1 rfl ?_
        obtain ⟨rfl, rfl⟩ := hG
        exact x_iret rfl (by decide +kernel)
theorem T15 {l : Launch} {X : aX} {d : Nat} {v1 : Int32} {v2 : Int32} {q : aQ} (hd : 3 ≤ d) (hS : S15_0 v1 v2 q) : Call l X d 15 [.ref 0, .int v1, .int v2] (hp q) (some (.int (F15_0 v1 v2 q))) (hp q) := Call.of ok15 (by decide) (Nat.le_of_ble_eq_true rfl) ⟨Nat.le_refl _, Nat.le_refl _⟩ (A15_0 hd rfl ⟨rfl, rfl⟩ hS)
/-- TypeForecast.bound(III)I -/
def F16_71 (v3 : Int32) (s0 : Nat) (q : aQ) : Int32 := (if (v3 - v3 / 2 * 2) = 0 then (F99_0 s0 q) else (F100_0 s0 q))
def S16_71 (v3 : Int32) (s0 : Nat) (q : aQ) : Prop := (((v3 - v3 / 2 * 2) = 0) → S99_0 s0 q ∧ (True)) ∧ (¬ ((v3 - v3 / 2 * 2) = 0) → S100_0 s0 q ∧ (True))
set_option maxRecDepth 100000 in
set_option maxHeartbeats 4000000 in
theorem A16_71 {l : Launch} {X : aX} {d : Nat} {r : Option Value} {h' : aH} {v3 : Int32} {s0 : Nat} {q : aQ} (hd : 4 ≤ d) (hN : h'.1 = nk0) (fs0 : isRng s0) (hG : gI r h' (F16_71 v3 s0 q, q)) (hS : S16_71 v3 s0 q) : AW l X 16 c16 d r h' 71 [none, none, none, some (.int v3), none, none, none] [.ref s0] (hp q) := by
  unfold F16_71 at hG
  unfold S16_71 at hS
  refine x_run (pc' := 75) (lo' := [none, none, none, some (.int v3), none, none, some (.ref s0)]) (st' := [.int 2, .int v3]) 3 rfl ?_
  refine x_irem rfl (by decide) ?_
  refine x_if 87 rfl rfl (fun (hc9 : ¬ (v3 - v3 / 2 * 2) = 0) => ?_) (fun (hc9 : (v3 - v3 / 2 * 2) = 0) => ?_)
  · rw [if_neg hc9] at hG
    replace hS := hS.2 hc9
    refine x_run (pc' := 89) (lo' := [none, none, none, some (.int v3), none, none, some (.ref s0)]) (st' := [.ref s0]) 1 rfl ?_
    obtain ⟨o10, hS⟩ := hS
    refine x_cv (j := 100) (ne := 0) (vs := []) (rest := []) rfl (by decide +kernel) (by decide +kernel) (by decide) (Eq.trans rfl (show 0 = _ from by decide +kernel)) (rg_s fs0) (by decide +kernel) rfl (Nat.le_of_ble_eq_true rfl) (by omega) (T100 (Nat.le_refl 1) fs0 o10) (hp_m hN) ?_
    show AW l X 16 c16 d r h' 92 [none, none, none, some (.int v3), none, none, some (.ref s0)] [.int (F100_0 s0 q)] (hp q)
    obtain ⟨rfl, rfl⟩ := hG
    exact x_iret rfl (by decide +kernel)
  · rw [if_pos hc9] at hG
    replace hS := hS.1 hc9
    refine x_run (pc' := 81) (lo' := [none, none, none, some (.int v3), none, none, some (.ref s0)]) (st' := [.ref s0]) 1 rfl ?_
    obtain ⟨o11, hS⟩ := hS
    refine x_cv (j := 99) (ne := 0) (vs := []) (rest := []) rfl (by decide +kernel) (by decide +kernel) (by decide) (Eq.trans rfl (show 0 = _ from by decide +kernel)) (rg_s fs0) (by decide +kernel) rfl (Nat.le_of_ble_eq_true rfl) (by omega) (T99 (Nat.le_refl 1) fs0 o11) (hp_m hN) ?_
    show AW l X 16 c16 d r h' 84 [none, none, none, some (.int v3), none, none, some (.ref s0)] [.int (F99_0 s0 q)] (hp q)
    refine x_run (pc' := 92) (lo' := [none, none, none, some (.int v3), none, none, some (.ref s0)]) (st' := [.int (F99_0 s0 q)]) 1 rfl ?_
    obtain ⟨rfl, rfl⟩ := hG
    exact x_iret rfl (by decide +kernel)
def F16_38 (v1 : Int32) (v2 : Int32) (v3 : Int32) (s0 : Int32) (s1 : Int32) (q : aQ) : Int32 := (if (s1 &&& s0) = 0 then 99 else (if 2 ≤ v3 then F16_71 v3 ((F21_0 v1 v2 q) + 2) q else F16_71 v3 ((F21_0 v1 v2 q) + 1) q))
def S16_38 (v1 : Int32) (v2 : Int32) (v3 : Int32) (s0 : Int32) (s1 : Int32) (q : aQ) : Prop := (((s1 &&& s0) = 0) → True) ∧ (¬ ((s1 &&& s0) = 0) → S21_0 v1 v2 q ∧ (((2 ≤ v3) → S16_71 v3 ((F21_0 v1 v2 q) + 2) q) ∧ (¬ (2 ≤ v3) → S16_71 v3 ((F21_0 v1 v2 q) + 1) q)))
set_option maxRecDepth 100000 in
set_option maxHeartbeats 4000000 in
theorem A16_38 {l : Launch} {X : aX} {d : Nat} {r : Option Value} {h' : aH} {v1 : Int32} {v2 : Int32} {v3 : Int32} {s0 : Int32} {s1 : Int32} {q : aQ} (hd : 4 ≤ d) (hN : h'.1 = nk0) (hG : gI r h' (F16_38 v1 v2 v3 s0 s1 q, q)) (hS : S16_38 v1 v2 v3 s0 s1 q) : AW l X 16 c16 d r h' 38 [some (.ref 0), some (.int v1), some (.int v2), some (.int v3), none, none, none] [.int s0, .int s1] (hp q) := by
  unfold F16_38 at hG
  unfold S16_38 at hS
  refine x_run (pc' := 39) (lo' := [some (.ref 0), some (.int v1), some (.int v2), some (.int v3), none, none, none]) (st' := [.int (s1 &&& s0)]) 1 rfl ?_
  refine x_if 45 rfl rfl (fun (hc6 : ¬ (s1 &&& s0) = 0) => ?_) (fun (hc6 : (s1 &&& s0) = 0) => ?_)
  · rw [if_neg hc6] at hG
    replace hS := hS.2 hc6
    refine x_run (pc' := 48) (lo' := [some (.ref 0), some (.int v1), some (.int v2), some (.int v3), none, none, none]) (st' := [.int v2, .int v1, .ref 0]) 3 rfl ?_
    obtain ⟨o7, hS⟩ := hS
    refine x_cv (j := 21) (ne := 0) (vs := [.int v1, .int v2]) (rest := []) rfl (by decide +kernel) (by decide +kernel) (by decide) (Eq.trans rfl (show 2 = _ from by decide +kernel)) rfl (by decide +kernel) rfl (Nat.le_of_ble_eq_true rfl) (by omega) (T21 (Nat.le_refl 2) o7) (hp_m hN) ?_
    show AW l X 16 c16 d r h' 51 [some (.ref 0), some (.int v1), some (.int v2), some (.int v3), none, none, none] [.ref (F21_0 v1 v2 q)] (hp q)
    refine x_run (pc' := 55) (lo' := [some (.ref 0), some (.int v1), some (.int v2), some (.int v3), none, some (.ref (F21_0 v1 v2 q)), none]) (st' := [.int 2, .int v3]) 3 rfl ?_
    refine x_ic 66 rfl rfl (fun (hc8 : 2 ≤ v3) => ?_) (fun (hc8 : ¬ 2 ≤ v3) => ?_)
    · rw [if_pos hc8] at hG
      replace hS := hS.1 hc8
      refine x_run (pc' := 68) (lo' := [some (.ref 0), some (.int v1), some (.int v2), some (.int v3), none, some (.ref (F21_0 v1 v2 q)), none]) (st' := [.ref (F21_0 v1 v2 q)]) 1 rfl ?_
      refine x_gf (c := 321) (ne := 1) (v := .ref ((F21_0 v1 v2 q) + 2)) rfl (by decide +kernel) (pc_s (P21 o7)) (pc_v1 (P21 o7)) ?_
      refine x_kill [0, 1, 2, 5] ?_
      exact A16_71 hd hN (pc_r1 (P21 o7)) hG hS
    · rw [if_neg hc8] at hG
      replace hS := hS.2 hc8
      refine x_run (pc' := 60) (lo' := [some (.ref 0), some (.int v1), some (.int v2), some (.int v3), none, some (.ref (F21_0 v1 v2 q)), none]) (st' := [.ref (F21_0 v1 v2 q)]) 1 rfl ?_
      refine x_gf (c := 320) (ne := 1) (v := .ref ((F21_0 v1 v2 q) + 1)) rfl (by decide +kernel) (pc_s (P21 o7)) (pc_v0 (P21 o7)) ?_
      refine x_run (pc' := 71) (lo' := [some (.ref 0), some (.int v1), some (.int v2), some (.int v3), none, some (.ref (F21_0 v1 v2 q)), none]) (st' := [.ref ((F21_0 v1 v2 q) + 1)]) 1 rfl ?_
      refine x_kill [0, 1, 2, 5] ?_
      exact A16_71 hd hN (pc_r0 (P21 o7)) hG hS
  · rw [if_pos hc6] at hG
    replace hS := hS.1 hc6
    refine x_run (pc' := 44) (lo' := [some (.ref 0), some (.int v1), some (.int v2), some (.int v3), none, none, none]) (st' := [.int 99]) 1 rfl ?_
    obtain ⟨rfl, rfl⟩ := hG
    exact x_iret rfl (by decide +kernel)
def F16_0 (v1 : Int32) (v2 : Int32) (v3 : Int32) (q : aQ) : Int32 := (if (F15_0 v1 v2 q) = (-1) then 99 else (if v3 < 0 then 99 else (if v3 ≤ 3 then (if 2 ≤ v3 then F16_38 v1 v2 v3 2 (F15_0 v1 v2 q) q else F16_38 v1 v2 v3 1 (F15_0 v1 v2 q) q) else 99)))
def S16_0 (v1 : Int32) (v2 : Int32) (v3 : Int32) (q : aQ) : Prop := S15_0 v1 v2 q ∧ ((((F15_0 v1 v2 q) = (-1)) → True) ∧ (¬ ((F15_0 v1 v2 q) = (-1)) → ((v3 < 0) → True) ∧ (¬ (v3 < 0) → ((v3 ≤ 3) → ((2 ≤ v3) → S16_38 v1 v2 v3 2 (F15_0 v1 v2 q) q) ∧ (¬ (2 ≤ v3) → S16_38 v1 v2 v3 1 (F15_0 v1 v2 q) q)) ∧ (¬ (v3 ≤ 3) → True))))
set_option maxRecDepth 100000 in
set_option maxHeartbeats 4000000 in
theorem A16_0 {l : Launch} {X : aX} {d : Nat} {r : Option Value} {h' : aH} {v1 : Int32} {v2 : Int32} {v3 : Int32} {q : aQ} (hd : 4 ≤ d) (hN : h'.1 = nk0) (hG : gI r h' (F16_0 v1 v2 v3 q, q)) (hS : S16_0 v1 v2 v3 q) : AW l X 16 c16 d r h' 0 [some (.ref 0), some (.int v1), some (.int v2), some (.int v3), none, none, none] [] (hp q) := by
  unfold F16_0 at hG
  unfold S16_0 at hS
  refine x_run (pc' := 3) (lo' := [some (.ref 0), some (.int v1), some (.int v2), some (.int v3), none, none, none]) (st' := [.int v2, .int v1, .ref 0]) 3 rfl ?_
  obtain ⟨o1, hS⟩ := hS
  refine x_cv (j := 15) (ne := 0) (vs := [.int v1, .int v2]) (rest := []) rfl (by decide +kernel) (by decide +kernel) (by decide) (Eq.trans rfl (show 2 = _ from by decide +kernel)) rfl (by decide +kernel) rfl (Nat.le_of_ble_eq_true rfl) (by omega) (T15 (Nat.le_refl 3) o1) (hp_m hN) ?_
  show AW l X 16 c16 d r h' 6 [some (.ref 0), some (.int v1), some (.int v2), some (.int v3), none, none, none] [.int (F15_0 v1 v2 q)] (hp q)
  refine x_run (pc' := 11) (lo' := [some (.ref 0), some (.int v1), some (.int v2), some (.int v3), some (.int (F15_0 v1 v2 q)), none, none]) (st' := [.int (-1), .int (F15_0 v1 v2 q)]) 3 rfl ?_
  refine x_ic 23 rfl rfl (fun (hc2 : (F15_0 v1 v2 q) = (-1)) => ?_) (fun (hc2 : ¬ (F15_0 v1 v2 q) = (-1)) => ?_)
  · rw [if_pos hc2] at hG
    replace hS := hS.1 hc2
    refine x_run (pc' := 25) (lo' := [some (.ref 0), some (.int v1), some (.int v2), some (.int v3), some (.int (F15_0 v1 v2 q)), none, none]) (st' := [.int 99]) 1 rfl ?_
    obtain ⟨rfl, rfl⟩ := hG
    exact x_iret rfl (by decide +kernel)
  · rw [if_neg hc2] at hG
    replace hS := hS.2 hc2
    refine x_run (pc' := 15) (lo' := [some (.ref 0), some (.int v1), some (.int v2), some (.int v3), some (.int (F15_0 v1 v2 q)), none, none]) (st' := [.int v3]) 1 rfl ?_
    refine x_if 23 rfl rfl (fun (hc3 : v3 < 0) => ?_) (fun (hc3 : ¬ v3 < 0) => ?_)
    · rw [if_pos hc3] at hG
      replace hS := hS.1 hc3
      refine x_run (pc' := 25) (lo' := [some (.ref 0), some (.int v1), some (.int v2), some (.int v3), some (.int (F15_0 v1 v2 q)), none, none]) (st' := [.int 99]) 1 rfl ?_
      obtain ⟨rfl, rfl⟩ := hG
      exact x_iret rfl (by decide +kernel)
    · rw [if_neg hc3] at hG
      replace hS := hS.2 hc3
      refine x_run (pc' := 20) (lo' := [some (.ref 0), some (.int v1), some (.int v2), some (.int v3), some (.int (F15_0 v1 v2 q)), none, none]) (st' := [.int 3, .int v3]) 2 rfl ?_
      refine x_ic 26 rfl rfl (fun (hc4 : v3 ≤ 3) => ?_) (fun (hc4 : ¬ v3 ≤ 3) => ?_)
      · rw [if_pos hc4] at hG
        replace hS := hS.1 hc4
        refine x_run (pc' := 30) (lo' := [some (.ref 0), some (.int v1), some (.int v2), some (.int v3), some (.int (F15_0 v1 v2 q)), none, none]) (st' := [.int 2, .int v3, .int (F15_0 v1 v2 q)]) 3 rfl ?_
        refine x_ic 37 rfl rfl (fun (hc5 : 2 ≤ v3) => ?_) (fun (hc5 : ¬ 2 ≤ v3) => ?_)
        · rw [if_pos hc5] at hG
          replace hS := hS.1 hc5
          refine x_run (pc' := 38) (lo' := [some (.ref 0), some (.int v1), some (.int v2), some (.int v3), some (.int (F15_0 v1 v2 q)), none, none]) (st' := [.int 2, .int (F15_0 v1 v2 q)]) 1 rfl ?_
          refine x_kill [4] ?_
          exact A16_38 hd hN hG hS
        · rw [if_neg hc5] at hG
          replace hS := hS.2 hc5
          refine x_run (pc' := 38) (lo' := [some (.ref 0), some (.int v1), some (.int v2), some (.int v3), some (.int (F15_0 v1 v2 q)), none, none]) (st' := [.int 1, .int (F15_0 v1 v2 q)]) 2 rfl ?_
          refine x_kill [4] ?_
          exact A16_38 hd hN hG hS
      · rw [if_neg hc4] at hG
        replace hS := hS.2 hc4
        refine x_run (pc' := 25) (lo' := [some (.ref 0), some (.int v1), some (.int v2), some (.int v3), some (.int (F15_0 v1 v2 q)), none, none]) (st' := [.int 99]) 1 rfl ?_
        obtain ⟨rfl, rfl⟩ := hG
        exact x_iret rfl (by decide +kernel)
theorem T16 {l : Launch} {X : aX} {d : Nat} {v1 : Int32} {v2 : Int32} {v3 : Int32} {q : aQ} (hd : 4 ≤ d) (hS : S16_0 v1 v2 v3 q) : Call l X d 16 [.ref 0, .int v1, .int v2, .int v3] (hp q) (some (.int (F16_0 v1 v2 v3 q))) (hp q) := Call.of ok16 (by decide) (Nat.le_of_ble_eq_true rfl) ⟨Nat.le_refl _, Nat.le_refl _⟩ (A16_0 hd rfl ⟨rfl, rfl⟩ hS)
/-- TypeForecast.run(I)I -/
def F17_0 (v1 : Int32) (q : aQ) : Int32 × aQ := (if (F33_0 q) = 0 then (if v1 < 0 then ((-1), q) else (if v1 ≤ 1000 then ((F115_0 v1 q).1, (F115_0 v1 q).2) else ((-1), q))) else ((-1), q))
def S17_0 (v1 : Int32) (q : aQ) : Prop := S33_0 q ∧ ((((F33_0 q) = 0) → ((v1 < 0) → True) ∧ (¬ (v1 < 0) → ((v1 ≤ 1000) → S115_0 v1 q ∧ (True)) ∧ (¬ (v1 ≤ 1000) → True))) ∧ (¬ ((F33_0 q) = 0) → True))
set_option maxRecDepth 100000 in
set_option maxHeartbeats 4000000 in
theorem A17_0 {l : Launch} {X : aX} {d : Nat} {r : Option Value} {h' : aH} {v1 : Int32} {q : aQ} (hd : 24 ≤ d) (hN : h'.1 = nk0) (hG : gI r h' (F17_0 v1 q)) (hS : S17_0 v1 q) : AW l X 17 c17 d r h' 0 [some (.ref 0), some (.int v1)] [] (hp q) := by
  unfold F17_0 at hG
  unfold S17_0 at hS
  refine x_run (pc' := 1) (lo' := [some (.ref 0), some (.int v1)]) (st' := [.ref 0]) 1 rfl ?_
  refine x_gf (c := 1) (ne := 0) (v := .ref 8) rfl (by decide +kernel) rfl rfl ?_
  obtain ⟨o1, hS⟩ := hS
  refine x_cv (j := 33) (ne := 0) (vs := []) (rest := []) rfl (by decide +kernel) (by decide +kernel) (by decide) (Eq.trans rfl (show 0 = _ from by decide +kernel)) rfl (by decide +kernel) rfl (Nat.le_of_ble_eq_true rfl) (by omega) (T33 (Nat.le_refl 1) o1) (hp_m hN) ?_
  show AW l X 17 c17 d r h' 7 [some (.ref 0), some (.int v1)] [.int (F33_0 q)] (hp q)
  refine x_if 21 rfl rfl (fun (hc2 : ¬ (F33_0 q) = 0) => ?_) (fun (hc2 : (F33_0 q) = 0) => ?_)
  · rw [if_neg hc2] at hG
    replace hS := hS.2 hc2
    refine x_run (pc' := 22) (lo' := [some (.ref 0), some (.int v1)]) (st' := [.int (-1)]) 1 rfl ?_
    obtain ⟨rfl, rfl⟩ := hG
    exact x_iret rfl (by decide +kernel)
  · rw [if_pos hc2] at hG
    replace hS := hS.1 hc2
    refine x_run (pc' := 11) (lo' := [some (.ref 0), some (.int v1)]) (st' := [.int v1]) 1 rfl ?_
    refine x_if 21 rfl rfl (fun (hc3 : v1 < 0) => ?_) (fun (hc3 : ¬ v1 < 0) => ?_)
    · rw [if_pos hc3] at hG
      replace hS := hS.1 hc3
      refine x_run (pc' := 22) (lo' := [some (.ref 0), some (.int v1)]) (st' := [.int (-1)]) 1 rfl ?_
      obtain ⟨rfl, rfl⟩ := hG
      exact x_iret rfl (by decide +kernel)
    · rw [if_neg hc3] at hG
      replace hS := hS.2 hc3
      refine x_run (pc' := 18) (lo' := [some (.ref 0), some (.int v1)]) (st' := [.int 1000, .int v1]) 2 rfl ?_
      refine x_ic 23 rfl rfl (fun (hc4 : v1 ≤ 1000) => ?_) (fun (hc4 : ¬ v1 ≤ 1000) => ?_)
      · rw [if_pos hc4] at hG
        replace hS := hS.1 hc4
        refine x_run (pc' := 24) (lo' := [some (.ref 0), some (.int v1)]) (st' := [.ref 0]) 1 rfl ?_
        refine x_gf (c := 3) (ne := 0) (v := .ref 647) rfl (by decide +kernel) rfl rfl ?_
        refine x_run (pc' := 28) (lo' := [some (.ref 0), some (.int v1)]) (st' := [.int v1, .ref 647]) 1 rfl ?_
        obtain ⟨o5, hS⟩ := hS
        refine x_cv (j := 115) (ne := 0) (vs := [.int v1]) (rest := []) rfl (by decide +kernel) (by decide +kernel) (by decide) (Eq.trans rfl (show 1 = _ from by decide +kernel)) rfl (by decide +kernel) rfl (Nat.le_of_ble_eq_true rfl) (by omega) (T115 (Nat.le_refl 23) o5) (hp_m hN) ?_
        show AW l X 17 c17 d r h' 31 [some (.ref 0), some (.int v1)] [.int (F115_0 v1 q).1] (hp (F115_0 v1 q).2)
        obtain ⟨rfl, rfl⟩ := hG
        exact x_iret rfl (by decide +kernel)
      · rw [if_neg hc4] at hG
        replace hS := hS.2 hc4
        refine x_run (pc' := 22) (lo' := [some (.ref 0), some (.int v1)]) (st' := [.int (-1)]) 1 rfl ?_
        obtain ⟨rfl, rfl⟩ := hG
        exact x_iret rfl (by decide +kernel)
theorem T17 {l : Launch} {X : aX} {d : Nat} {v1 : Int32} {q : aQ} (hd : 24 ≤ d) (hS : S17_0 v1 q) : Call l X d 17 [.ref 0, .int v1] (hp q) (some (.int (F17_0 v1 q).1)) (hp (F17_0 v1 q).2) := Call.of ok17 (by decide) (Nat.le_of_ble_eq_true rfl) ⟨Nat.le_refl _, Nat.le_refl _⟩ (A17_0 hd rfl ⟨rfl, rfl⟩ hS)
/-- TypeForecast.place()I -/
def F18_0 (q : aQ) : Int32 := (F112_0 q)
def S18_0 (q : aQ) : Prop := S112_0 q ∧ (True)
set_option maxRecDepth 100000 in
set_option maxHeartbeats 4000000 in
theorem A18_0 {l : Launch} {X : aX} {d : Nat} {r : Option Value} {h' : aH} {q : aQ} (hd : 2 ≤ d) (hN : h'.1 = nk0) (hG : gI r h' (F18_0 q, q)) (hS : S18_0 q) : AW l X 18 c18 d r h' 0 [some (.ref 0)] [] (hp q) := by
  unfold F18_0 at hG
  unfold S18_0 at hS
  refine x_run (pc' := 1) (lo' := [some (.ref 0)]) (st' := [.ref 0]) 1 rfl ?_
  refine x_gf (c := 3) (ne := 0) (v := .ref 647) rfl (by decide +kernel) rfl rfl ?_
  obtain ⟨o1, hS⟩ := hS
  refine x_cv (j := 112) (ne := 0) (vs := []) (rest := []) rfl (by decide +kernel) (by decide +kernel) (by decide) (Eq.trans rfl (show 0 = _ from by decide +kernel)) rfl (by decide +kernel) rfl (Nat.le_of_ble_eq_true rfl) (by omega) (T112 (Nat.le_refl 1) o1) (hp_m hN) ?_
  show AW l X 18 c18 d r h' 7 [some (.ref 0)] [.int (F112_0 q)] (hp q)
  obtain ⟨rfl, rfl⟩ := hG
  exact x_iret rfl (by decide +kernel)
theorem T18 {l : Launch} {X : aX} {d : Nat} {q : aQ} (hd : 2 ≤ d) (hS : S18_0 q) : Call l X d 18 [.ref 0] (hp q) (some (.int (F18_0 q))) (hp q) := Call.of ok18 (by decide) (Nat.le_of_ble_eq_true rfl) ⟨Nat.le_refl _, Nat.le_refl _⟩ (A18_0 hd rfl ⟨rfl, rfl⟩ hS)
/-- TypeForecast.type(I)I -/
def F19_0 (v1 : Int32) (q : aQ) : Int32 := (if (F22_0 v1 q) = 0 then (-1) else (F113_0 v1 q))
def S19_0 (v1 : Int32) (q : aQ) : Prop := S22_0 v1 q ∧ ((((F22_0 v1 q) = 0) → True) ∧ (¬ ((F22_0 v1 q) = 0) → S113_0 v1 q ∧ (True)))
set_option maxRecDepth 100000 in
set_option maxHeartbeats 4000000 in
theorem A19_0 {l : Launch} {X : aX} {d : Nat} {r : Option Value} {h' : aH} {v1 : Int32} {q : aQ} (hd : 3 ≤ d) (hN : h'.1 = nk0) (hG : gI r h' (F19_0 v1 q, q)) (hS : S19_0 v1 q) : AW l X 19 c19 d r h' 0 [some (.ref 0), some (.int v1)] [] (hp q) := by
  unfold F19_0 at hG
  unfold S19_0 at hS
  refine x_run (pc' := 1) (lo' := [some (.ref 0), some (.int v1)]) (st' := [.int v1]) 1 rfl ?_
  obtain ⟨o1, hS⟩ := hS
  refine x_cs (j := 22) (ne := 0) (vs := [.int v1]) (rest := []) rfl (by decide +kernel) (by decide +kernel) (by decide) (Eq.trans rfl (show 1 = _ from by decide +kernel)) rfl (Nat.le_of_ble_eq_true rfl) (by omega) (T22 (Nat.le_refl 1) o1) (hp_m hN) ?_
  show AW l X 19 c19 d r h' 4 [some (.ref 0), some (.int v1)] [.int (F22_0 v1 q)] (hp q)
  refine x_if 18 rfl rfl (fun (hc2 : (F22_0 v1 q) = 0) => ?_) (fun (hc2 : ¬ (F22_0 v1 q) = 0) => ?_)
  · rw [if_pos hc2] at hG
    replace hS := hS.1 hc2
    refine x_run (pc' := 19) (lo' := [some (.ref 0), some (.int v1)]) (st' := [.int (-1)]) 1 rfl ?_
    obtain ⟨rfl, rfl⟩ := hG
    exact x_iret rfl (by decide +kernel)
  · rw [if_neg hc2] at hG
    replace hS := hS.2 hc2
    refine x_run (pc' := 8) (lo' := [some (.ref 0), some (.int v1)]) (st' := [.ref 0]) 1 rfl ?_
    refine x_gf (c := 3) (ne := 0) (v := .ref 647) rfl (by decide +kernel) rfl rfl ?_
    refine x_run (pc' := 12) (lo' := [some (.ref 0), some (.int v1)]) (st' := [.int v1, .ref 647]) 1 rfl ?_
    obtain ⟨o3, hS⟩ := hS
    refine x_cv (j := 113) (ne := 0) (vs := [.int v1]) (rest := []) rfl (by decide +kernel) (by decide +kernel) (by decide) (Eq.trans rfl (show 1 = _ from by decide +kernel)) rfl (by decide +kernel) rfl (Nat.le_of_ble_eq_true rfl) (by omega) (T113 (Nat.le_refl 2) o3) (hp_m hN) ?_
    show AW l X 19 c19 d r h' 15 [some (.ref 0), some (.int v1)] [.int (F113_0 v1 q)] (hp q)
    refine x_run (pc' := 19) (lo' := [some (.ref 0), some (.int v1)]) (st' := [.int (F113_0 v1 q)]) 1 rfl ?_
    obtain ⟨rfl, rfl⟩ := hG
    exact x_iret rfl (by decide +kernel)
theorem T19 {l : Launch} {X : aX} {d : Nat} {v1 : Int32} {q : aQ} (hd : 3 ≤ d) (hS : S19_0 v1 q) : Call l X d 19 [.ref 0, .int v1] (hp q) (some (.int (F19_0 v1 q))) (hp q) := Call.of ok19 (by decide) (Nat.le_of_ble_eq_true rfl) ⟨Nat.le_refl _, Nat.le_refl _⟩ (A19_0 hd rfl ⟨rfl, rfl⟩ hS)
/-- TypeForecast.number(I)I -/
def F20_0 (v1 : Int32) (q : aQ) : Int32 := (if (F22_0 v1 q) = 0 then 0 else (F114_0 v1 q))
def S20_0 (v1 : Int32) (q : aQ) : Prop := S22_0 v1 q ∧ ((((F22_0 v1 q) = 0) → True) ∧ (¬ ((F22_0 v1 q) = 0) → S114_0 v1 q ∧ (True)))
set_option maxRecDepth 100000 in
set_option maxHeartbeats 4000000 in
theorem A20_0 {l : Launch} {X : aX} {d : Nat} {r : Option Value} {h' : aH} {v1 : Int32} {q : aQ} (hd : 3 ≤ d) (hN : h'.1 = nk0) (hG : gI r h' (F20_0 v1 q, q)) (hS : S20_0 v1 q) : AW l X 20 c20 d r h' 0 [some (.ref 0), some (.int v1)] [] (hp q) := by
  unfold F20_0 at hG
  unfold S20_0 at hS
  refine x_run (pc' := 1) (lo' := [some (.ref 0), some (.int v1)]) (st' := [.int v1]) 1 rfl ?_
  obtain ⟨o1, hS⟩ := hS
  refine x_cs (j := 22) (ne := 0) (vs := [.int v1]) (rest := []) rfl (by decide +kernel) (by decide +kernel) (by decide) (Eq.trans rfl (show 1 = _ from by decide +kernel)) rfl (Nat.le_of_ble_eq_true rfl) (by omega) (T22 (Nat.le_refl 1) o1) (hp_m hN) ?_
  show AW l X 20 c20 d r h' 4 [some (.ref 0), some (.int v1)] [.int (F22_0 v1 q)] (hp q)
  refine x_if 18 rfl rfl (fun (hc2 : (F22_0 v1 q) = 0) => ?_) (fun (hc2 : ¬ (F22_0 v1 q) = 0) => ?_)
  · rw [if_pos hc2] at hG
    replace hS := hS.1 hc2
    refine x_run (pc' := 19) (lo' := [some (.ref 0), some (.int v1)]) (st' := [.int 0]) 1 rfl ?_
    obtain ⟨rfl, rfl⟩ := hG
    exact x_iret rfl (by decide +kernel)
  · rw [if_neg hc2] at hG
    replace hS := hS.2 hc2
    refine x_run (pc' := 8) (lo' := [some (.ref 0), some (.int v1)]) (st' := [.ref 0]) 1 rfl ?_
    refine x_gf (c := 3) (ne := 0) (v := .ref 647) rfl (by decide +kernel) rfl rfl ?_
    refine x_run (pc' := 12) (lo' := [some (.ref 0), some (.int v1)]) (st' := [.int v1, .ref 647]) 1 rfl ?_
    obtain ⟨o3, hS⟩ := hS
    refine x_cv (j := 114) (ne := 0) (vs := [.int v1]) (rest := []) rfl (by decide +kernel) (by decide +kernel) (by decide) (Eq.trans rfl (show 1 = _ from by decide +kernel)) rfl (by decide +kernel) rfl (Nat.le_of_ble_eq_true rfl) (by omega) (T114 (Nat.le_refl 2) o3) (hp_m hN) ?_
    show AW l X 20 c20 d r h' 15 [some (.ref 0), some (.int v1)] [.int (F114_0 v1 q)] (hp q)
    refine x_run (pc' := 19) (lo' := [some (.ref 0), some (.int v1)]) (st' := [.int (F114_0 v1 q)]) 1 rfl ?_
    obtain ⟨rfl, rfl⟩ := hG
    exact x_iret rfl (by decide +kernel)
theorem T20 {l : Launch} {X : aX} {d : Nat} {v1 : Int32} {q : aQ} (hd : 3 ≤ d) (hS : S20_0 v1 q) : Call l X d 20 [.ref 0, .int v1] (hp q) (some (.int (F20_0 v1 q))) (hp q) := Call.of ok20 (by decide) (Nat.le_of_ble_eq_true rfl) ⟨Nat.le_refl _, Nat.le_refl _⟩ (A20_0 hd rfl ⟨rfl, rfl⟩ hS)
