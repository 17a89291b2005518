/-! written by wip/whole/gen3.py: what methods do (F), what they need (S), the walk (A), the contract (T) -/
/-- TypeForecast.isVariable(I)Z -/
def F22_0 (v0 : Int32) (q : aQ) : Int32 := (if v0 < 0 then 0 else (if 5 ≤ v0 then 0 else 1))
def S22_0 (v0 : Int32) (q : aQ) : Prop := ((v0 < 0) → True) ∧ (¬ (v0 < 0) → ((5 ≤ v0) → True) ∧ (¬ (5 ≤ v0) → True))
set_option maxRecDepth 100000 in
set_option maxHeartbeats 4000000 in
theorem A22_0 {l : Launch} {X : aX} {d : Nat} {r : Option Value} {h' : aH} {v0 : Int32} {q : aQ} (hd : 1 ≤ d) (hN : h'.1 = nk0) (hG : gI r h' (F22_0 v0 q, q)) (hS : S22_0 v0 q) : AW l X 22 c22 d r h' 0 [some (.int v0)] [] (hp q) := by
  unfold F22_0 at hG
  unfold S22_0 at hS
  refine x_run (pc' := 1) (lo' := [some (.int v0)]) (st' := [.int v0]) 1 rfl ?_
  refine x_if 13 rfl rfl (fun (hc1 : v0 < 0) => ?_) (fun (hc1 : ¬ v0 < 0) => ?_)
  · rw [if_pos hc1] at hG
    replace hS := hS.1 hc1
    refine x_run (pc' := 14) (lo' := [some (.int v0)]) (st' := [.int 0]) 1 rfl ?_
    obtain ⟨rfl, rfl⟩ := hG
    exact x_zret rfl (by decide +kernel) (Or.inl rfl)
  · rw [if_neg hc1] at hG
    replace hS := hS.2 hc1
    refine x_run (pc' := 6) (lo' := [some (.int v0)]) (st' := [.int 5, .int v0]) 2 rfl ?_
    refine x_ic 13 rfl rfl (fun (hc2 : 5 ≤ v0) => ?_) (fun (hc2 : ¬ 5 ≤ v0) => ?_)
    · rw [if_pos hc2] at hG
      replace hS := hS.1 hc2
      refine x_run (pc' := 14) (lo' := [some (.int v0)]) (st' := [.int 0]) 1 rfl ?_
      obtain ⟨rfl, rfl⟩ := hG
      exact x_zret rfl (by decide +kernel) (Or.inl rfl)
    · rw [if_neg hc2] at hG
      replace hS := hS.2 hc2
      refine x_run (pc' := 14) (lo' := [some (.int v0)]) (st' := [.int 1]) 2 rfl ?_
      obtain ⟨rfl, rfl⟩ := hG
      exact x_zret rfl (by decide +kernel) (Or.inr rfl)
theorem T22 {l : Launch} {X : aX} {d : Nat} {v0 : Int32} {q : aQ} (hd : 1 ≤ d) (hS : S22_0 v0 q) : Call l X d 22 [.int v0] (hp q) (some (.int (F22_0 v0 q))) (hp q) := Call.of ok22 (by decide) (Nat.le_of_ble_eq_true rfl) ⟨Nat.le_refl _, Nat.le_refl _⟩ (A22_0 hd rfl ⟨rfl, rfl⟩ hS)
/-- TypeForecast.isErrorKind(I)Z -/
def F23_0 (v0 : Int32) (q : aQ) : Int32 := (if v0 < 1 then 0 else (if 4 < v0 then 0 else 1))
def S23_0 (v0 : Int32) (q : aQ) : Prop := ((v0 < 1) → True) ∧ (¬ (v0 < 1) → ((4 < v0) → True) ∧ (¬ (4 < v0) → True))
set_option maxRecDepth 100000 in
set_option maxHeartbeats 4000000 in
theorem A23_0 {l : Launch} {X : aX} {d : Nat} {r : Option Value} {h' : aH} {v0 : Int32} {q : aQ} (hd : 1 ≤ d) (hN : h'.1 = nk0) (hG : gI r h' (F23_0 v0 q, q)) (hS : S23_0 v0 q) : AW l X 23 c23 d r h' 0 [some (.int v0)] [] (hp q) := by
  unfold F23_0 at hG
  unfold S23_0 at hS
  refine x_run (pc' := 2) (lo' := [some (.int v0)]) (st' := [.int 1, .int v0]) 2 rfl ?_
  refine x_ic 14 rfl rfl (fun (hc1 : v0 < 1) => ?_) (fun (hc1 : ¬ v0 < 1) => ?_)
  · rw [if_pos hc1] at hG
    replace hS := hS.1 hc1
    refine x_run (pc' := 15) (lo' := [some (.int v0)]) (st' := [.int 0]) 1 rfl ?_
    obtain ⟨rfl, rfl⟩ := hG
    exact x_zret rfl (by decide +kernel) (Or.inl rfl)
  · rw [if_neg hc1] at hG
    replace hS := hS.2 hc1
    refine x_run (pc' := 7) (lo' := [some (.int v0)]) (st' := [.int 4, .int v0]) 2 rfl ?_
    refine x_ic 14 rfl rfl (fun (hc2 : 4 < v0) => ?_) (fun (hc2 : ¬ 4 < v0) => ?_)
    · rw [if_pos hc2] at hG
      replace hS := hS.1 hc2
      refine x_run (pc' := 15) (lo' := [some (.int v0)]) (st' := [.int 0]) 1 rfl ?_
      obtain ⟨rfl, rfl⟩ := hG
      exact x_zret rfl (by decide +kernel) (Or.inl rfl)
    · rw [if_neg hc2] at hG
      replace hS := hS.2 hc2
      refine x_run (pc' := 15) (lo' := [some (.int v0)]) (st' := [.int 1]) 2 rfl ?_
      obtain ⟨rfl, rfl⟩ := hG
      exact x_zret rfl (by decide +kernel) (Or.inr rfl)
theorem T23 {l : Launch} {X : aX} {d : Nat} {v0 : Int32} {q : aQ} (hd : 1 ≤ d) (hS : S23_0 v0 q) : Call l X d 23 [.int v0] (hp q) (some (.int (F23_0 v0 q))) (hp q) := Call.of ok23 (by decide) (Nat.le_of_ble_eq_true rfl) ⟨Nat.le_refl _, Nat.le_refl _⟩ (A23_0 hd rfl ⟨rfl, rfl⟩ hS)
/-- TypeForecast$Expressions.has(I)Z -/
def F25_0 (v1 : Int32) (q : aQ) : Int32 := (if v1 < 0 then 0 else (if (q.1 1 6) ≤ v1 then 0 else 1))
def S25_0 (v1 : Int32) (q : aQ) : Prop := ((v1 < 0) → True) ∧ (¬ (v1 < 0) → (((q.1 1 6) ≤ v1) → True) ∧ (¬ ((q.1 1 6) ≤ v1) → True))
set_option maxRecDepth 100000 in
set_option maxHeartbeats 4000000 in
theorem A25_0 {l : Launch} {X : aX} {d : Nat} {r : Option Value} {h' : aH} {v1 : Int32} {q : aQ} (hd : 1 ≤ d) (hN : h'.1 = nk0) (hG : gI r h' (F25_0 v1 q, q)) (hS : S25_0 v1 q) : AW l X 25 c25 d r h' 0 [some (.ref 1), some (.int v1)] [] (hp q) := by
  unfold F25_0 at hG
  unfold S25_0 at hS
  refine x_run (pc' := 1) (lo' := [some (.ref 1), some (.int v1)]) (st' := [.int v1]) 1 rfl ?_
  refine x_if 16 rfl rfl (fun (hc1 : v1 < 0) => ?_) (fun (hc1 : ¬ v1 < 0) => ?_)
  · rw [if_pos hc1] at hG
    replace hS := hS.1 hc1
    refine x_run (pc' := 17) (lo' := [some (.ref 1), some (.int v1)]) (st' := [.int 0]) 1 rfl ?_
    obtain ⟨rfl, rfl⟩ := hG
    exact x_zret rfl (by decide +kernel) (Or.inl rfl)
  · rw [if_neg hc1] at hG
    replace hS := hS.2 hc1
    refine x_run (pc' := 6) (lo' := [some (.ref 1), some (.int v1)]) (st' := [.ref 1, .int v1]) 2 rfl ?_
    refine x_gf (c := 70) (ne := 0) (v := .int (q.1 1 6)) rfl (by decide +kernel) rfl rfl ?_
    refine x_ic 16 rfl rfl (fun (hc2 : (q.1 1 6) ≤ v1) => ?_) (fun (hc2 : ¬ (q.1 1 6) ≤ v1) => ?_)
    · rw [if_pos hc2] at hG
      replace hS := hS.1 hc2
      refine x_run (pc' := 17) (lo' := [some (.ref 1), some (.int v1)]) (st' := [.int 0]) 1 rfl ?_
      obtain ⟨rfl, rfl⟩ := hG
      exact x_zret rfl (by decide +kernel) (Or.inl rfl)
    · rw [if_neg hc2] at hG
      replace hS := hS.2 hc2
      refine x_run (pc' := 17) (lo' := [some (.ref 1), some (.int v1)]) (st' := [.int 1]) 2 rfl ?_
      obtain ⟨rfl, rfl⟩ := hG
      exact x_zret rfl (by decide +kernel) (Or.inr rfl)
theorem T25 {l : Launch} {X : aX} {d : Nat} {v1 : Int32} {q : aQ} (hd : 1 ≤ d) (hS : S25_0 v1 q) : Call l X d 25 [.ref 1, .int v1] (hp q) (some (.int (F25_0 v1 q))) (hp q) := Call.of ok25 (by decide) (Nat.le_of_ble_eq_true rfl) ⟨Nat.le_refl _, Nat.le_refl _⟩ (A25_0 hd rfl ⟨rfl, rfl⟩ hS)
/-- TypeForecast$Expressions.isLeaf(II)Z -/
def F27_0 (v0 : Int32) (v1 : Int32) (q : aQ) : Int32 := (if v0 = 0 then (if v1 < (-1000000000) then 0 else (if 1000000000 < v1 then 0 else 1)) else (if v0 = 1 then (if v1 < 0 then 0 else (if 1000000000 < v1 then 0 else 1)) else (if v0 = 2 then 1 else (if v0 = 3 then (F22_0 v1 q) else (if v0 = 4 then 1 else 0)))))
def S27_0 (v0 : Int32) (v1 : Int32) (q : aQ) : Prop := ((v0 = 0) → ((v1 < (-1000000000)) → True) ∧ (¬ (v1 < (-1000000000)) → ((1000000000 < v1) → True) ∧ (¬ (1000000000 < v1) → True))) ∧ (¬ (v0 = 0) → ((v0 = 1) → ((v1 < 0) → True) ∧ (¬ (v1 < 0) → ((1000000000 < v1) → True) ∧ (¬ (1000000000 < v1) → True))) ∧ (¬ (v0 = 1) → ((v0 = 2) → True) ∧ (¬ (v0 = 2) → ((v0 = 3) → S22_0 v1 q ∧ (((F22_0 v1 q) = 0 ∨ (F22_0 v1 q) = 1) ∧ (True))) ∧ (¬ (v0 = 3) → ((v0 = 4) → True) ∧ (¬ (v0 = 4) → True)))))
set_option maxRecDepth 100000 in
set_option maxHeartbeats 4000000 in
theorem A27_0 {l : Launch} {X : aX} {d : Nat} {r : Option Value} {h' : aH} {v0 : Int32} {v1 : Int32} {q : aQ} (hd : 2 ≤ d) (hN : h'.1 = nk0) (hG : gI r h' (F27_0 v0 v1 q, q)) (hS : S27_0 v0 v1 q) : AW l X 27 c27 d r h' 0 [some (.int v0), some (.int v1)] [] (hp q) := by
  unfold F27_0 at hG
  unfold S27_0 at hS
  refine x_run (pc' := 1) (lo' := [some (.int v0), some (.int v1)]) (st' := [.int v0]) 1 rfl ?_
  by_cases hc8 : v0 = 0
  · rw [if_pos hc8] at hG
    replace hS := hS.1 hc8
    refine x_tsIn (off := 35) 36 rfl (by rw [hc8]; decide) (by rw [hc8]; decide) (by rw [hc8]; rfl) rfl ?_
    refine x_run (pc' := 37) (lo' := [some (.int v0), some (.int v1)]) (st' := [.int v1]) 1 rfl ?_
    refine x_ldc (v := (-1000000000)) (ne := 0) rfl (by decide +kernel) ?_
    refine x_ic 52 rfl rfl (fun (hc2 : v1 < (-1000000000)) => ?_) (fun (hc2 : ¬ v1 < (-1000000000)) => ?_)
    · rw [if_pos hc2] at hG
      replace hS := hS.1 hc2
      refine x_run (pc' := 53) (lo' := [some (.int v0), some (.int v1)]) (st' := [.int 0]) 1 rfl ?_
      obtain ⟨rfl, rfl⟩ := hG
      exact x_zret rfl (by decide +kernel) (Or.inl rfl)
    · rw [if_neg hc2] at hG
      replace hS := hS.2 hc2
      refine x_run (pc' := 43) (lo' := [some (.int v0), some (.int v1)]) (st' := [.int v1]) 1 rfl ?_
      refine x_ldc (v := 1000000000) (ne := 0) rfl (by decide +kernel) ?_
      refine x_ic 52 rfl rfl (fun (hc3 : 1000000000 < v1) => ?_) (fun (hc3 : ¬ 1000000000 < v1) => ?_)
      · rw [if_pos hc3] at hG
        replace hS := hS.1 hc3
        refine x_run (pc' := 53) (lo' := [some (.int v0), some (.int v1)]) (st' := [.int 0]) 1 rfl ?_
        obtain ⟨rfl, rfl⟩ := hG
        exact x_zret rfl (by decide +kernel) (Or.inl rfl)
      · rw [if_neg hc3] at hG
        replace hS := hS.2 hc3
        refine x_run (pc' := 53) (lo' := [some (.int v0), some (.int v1)]) (st' := [.int 1]) 2 rfl ?_
        obtain ⟨rfl, rfl⟩ := hG
        exact x_zret rfl (by decide +kernel) (Or.inr rfl)
  · rw [if_neg hc8] at hG
    replace hS := hS.2 hc8
    by_cases hc9 : v0 = 1
    · rw [if_pos hc9] at hG
      replace hS := hS.1 hc9
      refine x_tsIn (off := 53) 54 rfl (by rw [hc9]; decide) (by rw [hc9]; decide) (by rw [hc9]; rfl) rfl ?_
      refine x_run (pc' := 55) (lo' := [some (.int v0), some (.int v1)]) (st' := [.int v1]) 1 rfl ?_
      refine x_if 68 rfl rfl (fun (hc4 : v1 < 0) => ?_) (fun (hc4 : ¬ v1 < 0) => ?_)
      · rw [if_pos hc4] at hG
        replace hS := hS.1 hc4
        refine x_run (pc' := 69) (lo' := [some (.int v0), some (.int v1)]) (st' := [.int 0]) 1 rfl ?_
        obtain ⟨rfl, rfl⟩ := hG
        exact x_zret rfl (by decide +kernel) (Or.inl rfl)
      · rw [if_neg hc4] at hG
        replace hS := hS.2 hc4
        refine x_run (pc' := 59) (lo' := [some (.int v0), some (.int v1)]) (st' := [.int v1]) 1 rfl ?_
        refine x_ldc (v := 1000000000) (ne := 0) rfl (by decide +kernel) ?_
        refine x_ic 68 rfl rfl (fun (hc5 : 1000000000 < v1) => ?_) (fun (hc5 : ¬ 1000000000 < v1) => ?_)
        · rw [if_pos hc5] at hG
          replace hS := hS.1 hc5
          refine x_run (pc' := 69) (lo' := [some (.int v0), some (.int v1)]) (st' := [.int 0]) 1 rfl ?_
          obtain ⟨rfl, rfl⟩ := hG
          exact x_zret rfl (by decide +kernel) (Or.inl rfl)
        · rw [if_neg hc5] at hG
          replace hS := hS.2 hc5
          refine x_run (pc' := 69) (lo' := [some (.int v0), some (.int v1)]) (st' := [.int 1]) 2 rfl ?_
          obtain ⟨rfl, rfl⟩ := hG
          exact x_zret rfl (by decide +kernel) (Or.inr rfl)
    · rw [if_neg hc9] at hG
      replace hS := hS.2 hc9
      by_cases hc10 : v0 = 2
      · rw [if_pos hc10] at hG
        replace hS := hS.1 hc10
        refine x_tsIn (off := 74) 75 rfl (by rw [hc10]; decide) (by rw [hc10]; decide) (by rw [hc10]; rfl) rfl ?_
        refine x_run (pc' := 76) (lo' := [some (.int v0), some (.int v1)]) (st' := [.int 1]) 1 rfl ?_
        obtain ⟨rfl, rfl⟩ := hG
        exact x_zret rfl (by decide +kernel) (Or.inr rfl)
      · rw [if_neg hc10] at hG
        replace hS := hS.2 hc10
        by_cases hc11 : v0 = 3
        · rw [if_pos hc11] at hG
          replace hS := hS.1 hc11
          refine x_tsIn (off := 69) 70 rfl (by rw [hc11]; decide) (by rw [hc11]; decide) (by rw [hc11]; rfl) rfl ?_
          refine x_run (pc' := 71) (lo' := [some (.int v0), some (.int v1)]) (st' := [.int v1]) 1 rfl ?_
          obtain ⟨o6, hS⟩ := hS
          refine x_cs (j := 22) (ne := 1) (vs := [.int v1]) (rest := []) rfl (by decide +kernel) (by decide +kernel) (by decide) (Eq.trans rfl (show 1 = _ from by decide +kernel)) rfl (Nat.le_of_ble_eq_true rfl) (by omega) (T22 (Nat.le_refl 1) o6) (hp_m hN) ?_
          show AW l X 27 c27 d r h' 74 [some (.int v0), some (.int v1)] [.int (F22_0 v1 q)] (hp q)
          obtain ⟨o7, hS⟩ := hS
          obtain ⟨rfl, rfl⟩ := hG
          exact x_zret rfl (by decide +kernel) o7
        · rw [if_neg hc11] at hG
          replace hS := hS.2 hc11
          by_cases hc12 : v0 = 4
          · rw [if_pos hc12] at hG
            replace hS := hS.1 hc12
            refine x_tsIn (off := 74) 75 rfl (by rw [hc12]; decide) (by rw [hc12]; decide) (by rw [hc12]; rfl) rfl ?_
            refine x_run (pc' := 76) (lo' := [some (.int v0), some (.int v1)]) (st' := [.int 1]) 1 rfl ?_
            obtain ⟨rfl, rfl⟩ := hG
            exact x_zret rfl (by decide +kernel) (Or.inr rfl)
          · rw [if_neg hc12] at hG
            replace hS := hS.2 hc12
            refine x_tsOut 77 rfl (by have z0 := sw_ne (k := 0) hc8 (by decide); have z1 := sw_ne (k := 1) hc9 (by decide); have z2 := sw_ne (k := 2) hc10 (by decide); have z3 := sw_ne (k := 3) hc11 (by decide); have z4 := sw_ne (k := 4) hc12 (by decide); omega) rfl ?_
            refine x_run (pc' := 78) (lo' := [some (.int v0), some (.int v1)]) (st' := [.int 0]) 1 rfl ?_
            obtain ⟨rfl, rfl⟩ := hG
            exact x_zret rfl (by decide +kernel) (Or.inl rfl)
theorem T27 {l : Launch} {X : aX} {d : Nat} {v0 : Int32} {v1 : Int32} {q : aQ} (hd : 2 ≤ d) (hS : S27_0 v0 v1 q) : Call l X d 27 [.int v0, .int v1] (hp q) (some (.int (F27_0 v0 v1 q))) (hp q) := Call.of ok27 (by decide) (Nat.le_of_ble_eq_true rfl) ⟨Nat.le_refl _, Nat.le_refl _⟩ (A27_0 hd rfl ⟨rfl, rfl⟩ hS)
/-- TypeForecast$Expressions.addLeaf(II)I -/
def F26_0 (v1 : Int32) (v2 : Int32) (q : aQ) : Int32 × aQ := (if 60 ≤ (q.1 1 6) then ((-1), q) else (if (F27_0 v1 v2 q) = 0 then ((-1), q) else ((q.1 1 6), (a_w (a_w (a_w (a_w (a_w q 2 (Int32.toNatClampNeg (q.1 1 6)) (-1)) 3 (Int32.toNatClampNeg (q.1 1 6)) v1) 4 (Int32.toNatClampNeg (q.1 1 6)) v2) 7 (Int32.toNatClampNeg (q.1 1 6)) 1) 1 6 ((q.1 1 6) + 1)))))
def S26_0 (v1 : Int32) (v2 : Int32) (q : aQ) : Prop := ((60 ≤ (q.1 1 6)) → True) ∧ (¬ (60 ≤ (q.1 1 6)) → S27_0 v1 v2 q ∧ ((((F27_0 v1 v2 q) = 0) → True) ∧ (¬ ((F27_0 v1 v2 q) = 0) → vp_in (q.1 1 6) 60 ∧ (vp_in (q.1 1 6) 60 ∧ (vp_in (q.1 1 6) 60 ∧ (vp_in (q.1 1 6) 60 ∧ (True)))))))
set_option maxRecDepth 100000 in
set_option maxHeartbeats 4000000 in
theorem A26_0 {l : Launch} {X : aX} {d : Nat} {r : Option Value} {h' : aH} {v1 : Int32} {v2 : Int32} {q : aQ} (hd : 3 ≤ d) (hN : h'.1 = nk0) (hG : gI r h' (F26_0 v1 v2 q)) (hS : S26_0 v1 v2 q) : AW l X 26 c26 d r h' 0 [some (.ref 1), some (.int v1), some (.int v2)] [] (hp q) := by
  unfold F26_0 at hG
  unfold S26_0 at hS
  refine x_run (pc' := 1) (lo' := [some (.ref 1), some (.int v1), some (.int v2)]) (st' := [.ref 1]) 1 rfl ?_
  refine x_gf (c := 70) (ne := 0) (v := .int (q.1 1 6)) rfl (by decide +kernel) rfl rfl ?_
  refine x_run (pc' := 6) (lo' := [some (.ref 1), some (.int v1), some (.int v2)]) (st' := [.int 60, .int (q.1 1 6)]) 1 rfl ?_
  refine x_ic 17 rfl rfl (fun (hc1 : 60 ≤ (q.1 1 6)) => ?_) (fun (hc1 : ¬ 60 ≤ (q.1 1 6)) => ?_)
  · rw [if_pos hc1] at hG
    replace hS := hS.1 hc1
    refine x_run (pc' := 18) (lo' := [some (.ref 1), some (.int v1), some (.int v2)]) (st' := [.int (-1)]) 1 rfl ?_
    obtain ⟨rfl, rfl⟩ := hG
    exact x_iret rfl (by decide +kernel)
  · rw [if_neg hc1] at hG
    replace hS := hS.2 hc1
    refine x_run (pc' := 11) (lo' := [some (.ref 1), some (.int v1), some (.int v2)]) (st' := [.int v2, .int v1]) 2 rfl ?_
    obtain ⟨o2, hS⟩ := hS
    refine x_cs (j := 27) (ne := 0) (vs := [.int v1, .int v2]) (rest := []) rfl (by decide +kernel) (by decide +kernel) (by decide) (Eq.trans rfl (show 2 = _ from by decide +kernel)) rfl (Nat.le_of_ble_eq_true rfl) (by omega) (T27 (Nat.le_refl 2) o2) (hp_m hN) ?_
    show AW l X 26 c26 d r h' 14 [some (.ref 1), some (.int v1), some (.int v2)] [.int (F27_0 v1 v2 q)] (hp q)
    refine x_if 19 rfl rfl (fun (hc3 : ¬ (F27_0 v1 v2 q) = 0) => ?_) (fun (hc3 : (F27_0 v1 v2 q) = 0) => ?_)
    · rw [if_neg hc3] at hG
      replace hS := hS.2 hc3
      refine x_run (pc' := 20) (lo' := [some (.ref 1), some (.int v1), some (.int v2)]) (st' := [.ref 1]) 1 rfl ?_
      refine x_gf (c := 64) (ne := 0) (v := .ref 2) rfl (by decide +kernel) rfl rfl ?_
      refine x_run (pc' := 24) (lo' := [some (.ref 1), some (.int v1), some (.int v2)]) (st' := [.ref 1, .ref 2]) 1 rfl ?_
      refine x_gf (c := 70) (ne := 0) (v := .int (q.1 1 6)) rfl (by decide +kernel) rfl rfl ?_
      refine x_run (pc' := 28) (lo' := [some (.ref 1), some (.int v1), some (.int v2)]) (st' := [.int (-1), .int (q.1 1 6), .ref 2]) 1 rfl ?_
      obtain ⟨o4, hS⟩ := hS
      refine p_is (n := 60) rfl rfl o4 ?_
      refine x_run (pc' := 30) (lo' := [some (.ref 1), some (.int v1), some (.int v2)]) (st' := [.ref 1]) 1 rfl ?_
      refine x_gf (c := 65) (ne := 0) (v := .ref 3) rfl (by decide +kernel) rfl rfl ?_
      refine x_run (pc' := 34) (lo' := [some (.ref 1), some (.int v1), some (.int v2)]) (st' := [.ref 1, .ref 3]) 1 rfl ?_
      refine x_gf (c := 70) (ne := 0) (v := .int (q.1 1 6)) rfl (by decide +kernel) rfl rfl ?_
      refine x_run (pc' := 38) (lo' := [some (.ref 1), some (.int v1), some (.int v2)]) (st' := [.int v1, .int (q.1 1 6), .ref 3]) 1 rfl ?_
      obtain ⟨o5, hS⟩ := hS
      refine p_is (n := 60) rfl rfl o5 ?_
      refine x_run (pc' := 40) (lo' := [some (.ref 1), some (.int v1), some (.int v2)]) (st' := [.ref 1]) 1 rfl ?_
      refine x_gf (c := 66) (ne := 0) (v := .ref 4) rfl (by decide +kernel) rfl rfl ?_
      refine x_run (pc' := 44) (lo' := [some (.ref 1), some (.int v1), some (.int v2)]) (st' := [.ref 1, .ref 4]) 1 rfl ?_
      refine x_gf (c := 70) (ne := 0) (v := .int (q.1 1 6)) rfl (by decide +kernel) rfl rfl ?_
      refine x_run (pc' := 48) (lo' := [some (.ref 1), some (.int v1), some (.int v2)]) (st' := [.int v2, .int (q.1 1 6), .ref 4]) 1 rfl ?_
      obtain ⟨o6, hS⟩ := hS
      refine p_is (n := 60) rfl rfl o6 ?_
      refine x_run (pc' := 50) (lo' := [some (.ref 1), some (.int v1), some (.int v2)]) (st' := [.ref 1]) 1 rfl ?_
      refine x_gf (c := 69) (ne := 0) (v := .ref 7) rfl (by decide +kernel) rfl rfl ?_
      refine x_run (pc' := 54) (lo' := [some (.ref 1), some (.int v1), some (.int v2)]) (st' := [.ref 1, .ref 7]) 1 rfl ?_
      refine x_gf (c := 70) (ne := 0) (v := .int (q.1 1 6)) rfl (by decide +kernel) rfl rfl ?_
      refine x_run (pc' := 58) (lo' := [some (.ref 1), some (.int v1), some (.int v2)]) (st' := [.int 1, .int (q.1 1 6), .ref 7]) 1 rfl ?_
      obtain ⟨o7, hS⟩ := hS
      refine p_is (n := 60) rfl rfl o7 ?_
      refine x_run (pc' := 61) (lo' := [some (.ref 1), some (.int v1), some (.int v2)]) (st' := [.ref 1, .ref 1]) 2 rfl ?_
      refine x_gf (c := 70) (ne := 0) (v := .int (q.1 1 6)) rfl (by decide +kernel) rfl rfl ?_
      refine x_run (pc' := 67) (lo' := [some (.ref 1), some (.int v1), some (.int v2)]) (st' := [.int ((q.1 1 6) + 1), .ref 1, .int (q.1 1 6)]) 3 rfl ?_
      refine x_pf (c := 70) (ne := 0) (h2 := hp (a_w (a_w (a_w (a_w (a_w q 2 (Int32.toNatClampNeg (q.1 1 6)) (-1)) 3 (Int32.toNatClampNeg (q.1 1 6)) v1) 4 (Int32.toNatClampNeg (q.1 1 6)) v2) 7 (Int32.toNatClampNeg (q.1 1 6)) 1) 1 6 ((q.1 1 6) + 1))) rfl (by decide +kernel) (by decide +kernel) rfl (pv_i rfl) ?_
      obtain ⟨rfl, rfl⟩ := hG
      exact x_iret rfl (by decide +kernel)
    · rw [if_pos hc3] at hG
      replace hS := hS.1 hc3
      refine x_run (pc' := 18) (lo' := [some (.ref 1), some (.int v1), some (.int v2)]) (st' := [.int (-1)]) 1 rfl ?_
      obtain ⟨rfl, rfl⟩ := hG
      exact x_iret rfl (by decide +kernel)
theorem T26 {l : Launch} {X : aX} {d : Nat} {v1 : Int32} {v2 : Int32} {q : aQ} (hd : 3 ≤ d) (hS : S26_0 v1 v2 q) : Call l X d 26 [.ref 1, .int v1, .int v2] (hp q) (some (.int (F26_0 v1 v2 q).1)) (hp (F26_0 v1 v2 q).2) := Call.of ok26 (by decide) (Nat.le_of_ble_eq_true rfl) ⟨Nat.le_refl _, Nat.le_refl _⟩ (A26_0 hd rfl ⟨rfl, rfl⟩ hS)
/-- TypeForecast$Expressions.hasOnePart(I)Z -/
def F29_0 (v0 : Int32) (q : aQ) : Int32 := (if v0 = 6 then 1 else (if v0 = 7 then 1 else 0))
def S29_0 (v0 : Int32) (q : aQ) : Prop := ((v0 = 6) → True) ∧ (¬ (v0 = 6) → ((v0 = 7) → True) ∧ (¬ (v0 = 7) → True))
set_option maxRecDepth 100000 in
set_option maxHeartbeats 4000000 in
theorem A29_0 {l : Launch} {X : aX} {d : Nat} {r : Option Value} {h' : aH} {v0 : Int32} {q : aQ} (hd : 1 ≤ d) (hN : h'.1 = nk0) (hG : gI r h' (F29_0 v0 q, q)) (hS : S29_0 v0 q) : AW l X 29 c29 d r h' 0 [some (.int v0)] [] (hp q) := by
  unfold F29_0 at hG
  unfold S29_0 at hS
  refine x_run (pc' := 3) (lo' := [some (.int v0)]) (st' := [.int 6, .int v0]) 2 rfl ?_
  refine x_ic 12 rfl rfl (fun (hc1 : v0 = 6) => ?_) (fun (hc1 : ¬ v0 = 6) => ?_)
  · rw [if_pos hc1] at hG
    replace hS := hS.1 hc1
    refine x_run (pc' := 17) (lo' := [some (.int v0)]) (st' := [.int 1]) 2 rfl ?_
    obtain ⟨rfl, rfl⟩ := hG
    exact x_zret rfl (by decide +kernel) (Or.inr rfl)
  · rw [if_neg hc1] at hG
    replace hS := hS.2 hc1
    refine x_run (pc' := 9) (lo' := [some (.int v0)]) (st' := [.int 7, .int v0]) 2 rfl ?_
    refine x_ic 16 rfl rfl (fun (hc2 : ¬ v0 = 7) => ?_) (fun (hc2 : v0 = 7) => ?_)
    · rw [if_neg hc2] at hG
      replace hS := hS.2 hc2
      refine x_run (pc' := 17) (lo' := [some (.int v0)]) (st' := [.int 0]) 1 rfl ?_
      obtain ⟨rfl, rfl⟩ := hG
      exact x_zret rfl (by decide +kernel) (Or.inl rfl)
    · rw [if_pos hc2] at hG
      replace hS := hS.1 hc2
      refine x_run (pc' := 17) (lo' := [some (.int v0)]) (st' := [.int 1]) 2 rfl ?_
      obtain ⟨rfl, rfl⟩ := hG
      exact x_zret rfl (by decide +kernel) (Or.inr rfl)
theorem T29 {l : Launch} {X : aX} {d : Nat} {v0 : Int32} {q : aQ} (hd : 1 ≤ d) (hS : S29_0 v0 q) : Call l X d 29 [.int v0] (hp q) (some (.int (F29_0 v0 q))) (hp q) := Call.of ok29 (by decide) (Nat.le_of_ble_eq_true rfl) ⟨Nat.le_refl _, Nat.le_refl _⟩ (A29_0 hd rfl ⟨rfl, rfl⟩ hS)
/-- TypeForecast$Expressions.addOperation(III)I -/
def F28_123 (v5 : Int32) (s0 : Int32) (s1 : Int32) (q : aQ) : Int32 × aQ := ((q.1 1 6), (a_w (a_w (a_w q 6 (Int32.toNatClampNeg s1) s0) 7 (Int32.toNatClampNeg (q.1 1 6)) v5) 1 6 ((q.1 1 6) + 1)))
def S28_123 (v5 : Int32) (s0 : Int32) (s1 : Int32) (q : aQ) : Prop := vp_in s1 60 ∧ (vp_in (q.1 1 6) 60 ∧ (True))
set_option maxRecDepth 100000 in
set_option maxHeartbeats 4000000 in
theorem A28_123 {l : Launch} {X : aX} {d : Nat} {r : Option Value} {h' : aH} {v5 : Int32} {s0 : Int32} {s1 : Int32} {q : aQ} (hd : 2 ≤ d) (hN : h'.1 = nk0) (hG : gI r h' (F28_123 v5 s0 s1 q)) (hS : S28_123 v5 s0 s1 q) : AW l X 28 c28 d r h' 123 [some (.ref 1), none, none, none, none, some (.int v5)] [.int s0, .int s1, .ref 6] (hp q) := by
  unfold F28_123 at hG
  unfold S28_123 at hS
  obtain ⟨o15, hS⟩ := hS
  refine p_is (n := 60) rfl rfl o15 ?_
  refine x_run (pc' := 125) (lo' := [some (.ref 1), none, none, none, none, some (.int v5)]) (st' := [.ref 1]) 1 rfl ?_
  refine x_gf (c := 69) (ne := 0) (v := .ref 7) rfl (by decide +kernel) rfl rfl ?_
  refine x_run (pc' := 129) (lo' := [some (.ref 1), none, none, none, none, some (.int v5)]) (st' := [.ref 1, .ref 7]) 1 rfl ?_
  refine x_gf (c := 70) (ne := 0) (v := .int (q.1 1 6)) rfl (by decide +kernel) rfl rfl ?_
  refine x_run (pc' := 134) (lo' := [some (.ref 1), none, none, none, none, some (.int v5)]) (st' := [.int v5, .int (q.1 1 6), .ref 7]) 1 rfl ?_
  obtain ⟨o16, hS⟩ := hS
  refine p_is (n := 60) rfl rfl o16 ?_
  refine x_run (pc' := 137) (lo' := [some (.ref 1), none, none, none, none, some (.int v5)]) (st' := [.ref 1, .ref 1]) 2 rfl ?_
  refine x_gf (c := 70) (ne := 0) (v := .int (q.1 1 6)) rfl (by decide +kernel) rfl rfl ?_
  refine x_run (pc' := 143) (lo' := [some (.ref 1), none, none, none, none, some (.int v5)]) (st' := [.int ((q.1 1 6) + 1), .ref 1, .int (q.1 1 6)]) 3 rfl ?_
  refine x_pf (c := 70) (ne := 0) (h2 := hp (a_w (a_w (a_w q 6 (Int32.toNatClampNeg s1) s0) 7 (Int32.toNatClampNeg (q.1 1 6)) v5) 1 6 ((q.1 1 6) + 1))) rfl (by decide +kernel) (by decide +kernel) rfl (pv_i rfl) ?_
  obtain ⟨rfl, rfl⟩ := hG
  exact x_iret rfl (by decide +kernel)
def F28_73 (v1 : Int32) (v2 : Int32) (v3 : Int32) (v4 : Int32) (s0 : Int32) (s1 : Int32) (q : aQ) : Int32 × aQ := (if (s1 + s0) ≤ 15 then (if v4 = 0 then F28_123 (s1 + s0) v3 (q.1 1 6) (a_w (a_w q 2 (Int32.toNatClampNeg (q.1 1 6)) v1) 5 (Int32.toNatClampNeg (q.1 1 6)) v2) else F28_123 (s1 + s0) v2 (q.1 1 6) (a_w (a_w q 2 (Int32.toNatClampNeg (q.1 1 6)) v1) 5 (Int32.toNatClampNeg (q.1 1 6)) v2)) else ((-1), q))
def S28_73 (v1 : Int32) (v2 : Int32) (v3 : Int32) (v4 : Int32) (s0 : Int32) (s1 : Int32) (q : aQ) : Prop := (((s1 + s0) ≤ 15) → vp_in (q.1 1 6) 60 ∧ (vp_in (q.1 1 6) 60 ∧ (((v4 = 0) → S28_123 (s1 + s0) v3 (q.1 1 6) (a_w (a_w q 2 (Int32.toNatClampNeg (q.1 1 6)) v1) 5 (Int32.toNatClampNeg (q.1 1 6)) v2)) ∧ (¬ (v4 = 0) → S28_123 (s1 + s0) v2 (q.1 1 6) (a_w (a_w q 2 (Int32.toNatClampNeg (q.1 1 6)) v1) 5 (Int32.toNatClampNeg (q.1 1 6)) v2))))) ∧ (¬ ((s1 + s0) ≤ 15) → True)
set_option maxRecDepth 100000 in
set_option maxHeartbeats 4000000 in
theorem A28_73 {l : Launch} {X : aX} {d : Nat} {r : Option Value} {h' : aH} {v1 : Int32} {v2 : Int32} {v3 : Int32} {v4 : Int32} {s0 : Int32} {s1 : Int32} {q : aQ} (hd : 2 ≤ d) (hN : h'.1 = nk0) (hG : gI r h' (F28_73 v1 v2 v3 v4 s0 s1 q)) (hS : S28_73 v1 v2 v3 v4 s0 s1 q) : AW l X 28 c28 d r h' 73 [some (.ref 1), some (.int v1), some (.int v2), some (.int v3), some (.int v4), none] [.int s0, .int s1] (hp q) := by
  unfold F28_73 at hG
  unfold S28_73 at hS
  refine x_run (pc' := 80) (lo' := [some (.ref 1), some (.int v1), some (.int v2), some (.int v3), some (.int v4), some (.int (s1 + s0))]) (st' := [.int 15, .int (s1 + s0)]) 4 rfl ?_
  refine x_ic 85 rfl rfl (fun (hc11 : (s1 + s0) ≤ 15) => ?_) (fun (hc11 : ¬ (s1 + s0) ≤ 15) => ?_)
  · rw [if_pos hc11] at hG
    replace hS := hS.1 hc11
    refine x_run (pc' := 86) (lo' := [some (.ref 1), some (.int v1), some (.int v2), some (.int v3), some (.int v4), some (.int (s1 + s0))]) (st' := [.ref 1]) 1 rfl ?_
    refine x_gf (c := 64) (ne := 0) (v := .ref 2) rfl (by decide +kernel) rfl rfl ?_
    refine x_run (pc' := 90) (lo' := [some (.ref 1), some (.int v1), some (.int v2), some (.int v3), some (.int v4), some (.int (s1 + s0))]) (st' := [.ref 1, .ref 2]) 1 rfl ?_
    refine x_gf (c := 70) (ne := 0) (v := .int (q.1 1 6)) rfl (by decide +kernel) rfl rfl ?_
    refine x_run (pc' := 94) (lo' := [some (.ref 1), some (.int v1), some (.int v2), some (.int v3), some (.int v4), some (.int (s1 + s0))]) (st' := [.int v1, .int (q.1 1 6), .ref 2]) 1 rfl ?_
    obtain ⟨o12, hS⟩ := hS
    refine p_is (n := 60) rfl rfl o12 ?_
    refine x_run (pc' := 96) (lo' := [some (.ref 1), some (.int v1), some (.int v2), some (.int v3), some (.int v4), some (.int (s1 + s0))]) (st' := [.ref 1]) 1 rfl ?_
    refine x_gf (c := 67) (ne := 0) (v := .ref 5) rfl (by decide +kernel) rfl rfl ?_
    refine x_run (pc' := 100) (lo' := [some (.ref 1), some (.int v1), some (.int v2), some (.int v3), some (.int v4), some (.int (s1 + s0))]) (st' := [.ref 1, .ref 5]) 1 rfl ?_
    refine x_gf (c := 70) (ne := 0) (v := .int (q.1 1 6)) rfl (by decide +kernel) rfl rfl ?_
    refine x_run (pc' := 104) (lo' := [some (.ref 1), some (.int v1), some (.int v2), some (.int v3), some (.int v4), some (.int (s1 + s0))]) (st' := [.int v2, .int (q.1 1 6), .ref 5]) 1 rfl ?_
    obtain ⟨o13, hS⟩ := hS
    refine p_is (n := 60) rfl rfl o13 ?_
    refine x_run (pc' := 106) (lo' := [some (.ref 1), some (.int v1), some (.int v2), some (.int v3), some (.int v4), some (.int (s1 + s0))]) (st' := [.ref 1]) 1 rfl ?_
    refine x_gf (c := 68) (ne := 0) (v := .ref 6) rfl (by decide +kernel) rfl rfl ?_
    refine x_run (pc' := 110) (lo' := [some (.ref 1), some (.int v1), some (.int v2), some (.int v3), some (.int v4), some (.int (s1 + s0))]) (st' := [.ref 1, .ref 6]) 1 rfl ?_
    refine x_gf (c := 70) (ne := 0) (v := .int (q.1 1 6)) rfl (by decide +kernel) rfl rfl ?_
    refine x_run (pc' := 115) (lo' := [some (.ref 1), some (.int v1), some (.int v2), some (.int v3), some (.int v4), some (.int (s1 + s0))]) (st' := [.int v4, .int (q.1 1 6), .ref 6]) 1 rfl ?_
    refine x_if 122 rfl rfl (fun (hc14 : v4 = 0) => ?_) (fun (hc14 : ¬ v4 = 0) => ?_)
    · rw [if_pos hc14] at hG
      replace hS := hS.1 hc14
      refine x_run (pc' := 123) (lo' := [some (.ref 1), some (.int v1), some (.int v2), some (.int v3), some (.int v4), some (.int (s1 + s0))]) (st' := [.int v3, .int (q.1 1 6), .ref 6]) 1 rfl ?_
      refine x_kill [1, 2, 3, 4] ?_
      exact A28_123 hd hN hG hS
    · rw [if_neg hc14] at hG
      replace hS := hS.2 hc14
      refine x_run (pc' := 123) (lo' := [some (.ref 1), some (.int v1), some (.int v2), some (.int v3), some (.int v4), some (.int (s1 + s0))]) (st' := [.int v2, .int (q.1 1 6), .ref 6]) 2 rfl ?_
      refine x_kill [1, 2, 3, 4] ?_
      exact A28_123 hd hN hG hS
  · rw [if_neg hc11] at hG
    replace hS := hS.2 hc11
    refine x_run (pc' := 84) (lo' := [some (.ref 1), some (.int v1), some (.int v2), some (.int v3), some (.int v4), some (.int (s1 + s0))]) (st' := [.int (-1)]) 1 rfl ?_
    obtain ⟨rfl, rfl⟩ := hG
    exact x_iret rfl (by decide +kernel)
def F28_50 (v1 : Int32) (v2 : Int32) (v3 : Int32) (v4 : Int32) (q : aQ) : Int32 × aQ := (if v4 = 0 then F28_73 v1 v2 v3 v4 (q.1 7 (Int32.toNatClampNeg v3)) (1 + (q.1 7 (Int32.toNatClampNeg v2))) q else F28_73 v1 v2 v3 v4 0 (1 + (q.1 7 (Int32.toNatClampNeg v2))) q)
def S28_50 (v1 : Int32) (v2 : Int32) (v3 : Int32) (v4 : Int32) (q : aQ) : Prop := vp_in v2 60 ∧ (((v4 = 0) → vp_in v3 60 ∧ (S28_73 v1 v2 v3 v4 (q.1 7 (Int32.toNatClampNeg v3)) (1 + (q.1 7 (Int32.toNatClampNeg v2))) q)) ∧ (¬ (v4 = 0) → S28_73 v1 v2 v3 v4 0 (1 + (q.1 7 (Int32.toNatClampNeg v2))) q))
set_option maxRecDepth 100000 in
set_option maxHeartbeats 4000000 in
theorem A28_50 {l : Launch} {X : aX} {d : Nat} {r : Option Value} {h' : aH} {v1 : Int32} {v2 : Int32} {v3 : Int32} {v4 : Int32} {q : aQ} (hd : 2 ≤ d) (hN : h'.1 = nk0) (hG : gI r h' (F28_50 v1 v2 v3 v4 q)) (hS : S28_50 v1 v2 v3 v4 q) : AW l X 28 c28 d r h' 50 [some (.ref 1), some (.int v1), some (.int v2), some (.int v3), some (.int v4), none] [] (hp q) := by
  unfold F28_50 at hG
  unfold S28_50 at hS
  refine x_run (pc' := 52) (lo' := [some (.ref 1), some (.int v1), some (.int v2), some (.int v3), some (.int v4), none]) (st' := [.ref 1, .int 1]) 2 rfl ?_
  refine x_gf (c := 69) (ne := 0) (v := .ref 7) rfl (by decide +kernel) rfl rfl ?_
  refine x_run (pc' := 56) (lo' := [some (.ref 1), some (.int v1), some (.int v2), some (.int v3), some (.int v4), none]) (st' := [.int v2, .ref 7, .int 1]) 1 rfl ?_
  obtain ⟨o8, hS⟩ := hS
  refine p_ia (n := 60) (v := (q.1 7 (Int32.toNatClampNeg v2))) rfl rfl o8 rfl ?_
  refine x_run (pc' := 60) (lo' := [some (.ref 1), some (.int v1), some (.int v2), some (.int v3), some (.int v4), none]) (st' := [.int v4, .int (1 + (q.1 7 (Int32.toNatClampNeg v2)))]) 2 rfl ?_
  refine x_if 67 rfl rfl (fun (hc9 : v4 = 0) => ?_) (fun (hc9 : ¬ v4 = 0) => ?_)
  · rw [if_pos hc9] at hG
    replace hS := hS.1 hc9
    refine x_run (pc' := 68) (lo' := [some (.ref 1), some (.int v1), some (.int v2), some (.int v3), some (.int v4), none]) (st' := [.ref 1, .int (1 + (q.1 7 (Int32.toNatClampNeg v2)))]) 1 rfl ?_
    refine x_gf (c := 69) (ne := 0) (v := .ref 7) rfl (by decide +kernel) rfl rfl ?_
    refine x_run (pc' := 72) (lo' := [some (.ref 1), some (.int v1), some (.int v2), some (.int v3), some (.int v4), none]) (st' := [.int v3, .ref 7, .int (1 + (q.1 7 (Int32.toNatClampNeg v2)))]) 1 rfl ?_
    obtain ⟨o10, hS⟩ := hS
    refine p_ia (n := 60) (v := (q.1 7 (Int32.toNatClampNeg v3))) rfl rfl o10 rfl ?_
    exact A28_73 hd hN hG hS
  · rw [if_neg hc9] at hG
    replace hS := hS.2 hc9
    refine x_run (pc' := 73) (lo' := [some (.ref 1), some (.int v1), some (.int v2), some (.int v3), some (.int v4), none]) (st' := [.int 0, .int (1 + (q.1 7 (Int32.toNatClampNeg v2)))]) 2 rfl ?_
    exact A28_73 hd hN hG hS
def F28_0 (v1 : Int32) (v2 : Int32) (v3 : Int32) (q : aQ) : Int32 × aQ := (if 60 ≤ (q.1 1 6) then ((-1), q) else (if v1 < 0 then ((-1), q) else (if 7 < v1 then ((-1), q) else (if (F25_0 v2 q) = 0 then ((-1), q) else (if (F29_0 v1 q) = 0 then (if (F25_0 v3 q) = 0 then ((-1), q) else F28_50 v1 v2 v3 (F29_0 v1 q) q) else F28_50 v1 v2 v3 (F29_0 v1 q) q)))))
def S28_0 (v1 : Int32) (v2 : Int32) (v3 : Int32) (q : aQ) : Prop := ((60 ≤ (q.1 1 6)) → True) ∧ (¬ (60 ≤ (q.1 1 6)) → ((v1 < 0) → True) ∧ (¬ (v1 < 0) → ((7 < v1) → True) ∧ (¬ (7 < v1) → S25_0 v2 q ∧ ((((F25_0 v2 q) = 0) → True) ∧ (¬ ((F25_0 v2 q) = 0) → S29_0 v1 q ∧ ((((F29_0 v1 q) = 0) → S25_0 v3 q ∧ ((((F25_0 v3 q) = 0) → True) ∧ (¬ ((F25_0 v3 q) = 0) → S28_50 v1 v2 v3 (F29_0 v1 q) q))) ∧ (¬ ((F29_0 v1 q) = 0) → S28_50 v1 v2 v3 (F29_0 v1 q) q)))))))
set_option maxRecDepth 100000 in
set_option maxHeartbeats 4000000 in
theorem A28_0 {l : Launch} {X : aX} {d : Nat} {r : Option Value} {h' : aH} {v1 : Int32} {v2 : Int32} {v3 : Int32} {q : aQ} (hd : 2 ≤ d) (hN : h'.1 = nk0) (hG : gI r h' (F28_0 v1 v2 v3 q)) (hS : S28_0 v1 v2 v3 q) : AW l X 28 c28 d r h' 0 [some (.ref 1), some (.int v1), some (.int v2), some (.int v3), none, none] [] (hp q) := by
  unfold F28_0 at hG
  unfold S28_0 at hS
  refine x_run (pc' := 1) (lo' := [some (.ref 1), some (.int v1), some (.int v2), some (.int v3), none, none]) (st' := [.ref 1]) 1 rfl ?_
  refine x_gf (c := 70) (ne := 0) (v := .int (q.1 1 6)) rfl (by decide +kernel) rfl rfl ?_
  refine x_run (pc' := 6) (lo' := [some (.ref 1), some (.int v1), some (.int v2), some (.int v3), none, none]) (st' := [.int 60, .int (q.1 1 6)]) 1 rfl ?_
  refine x_ic 27 rfl rfl (fun (hc1 : 60 ≤ (q.1 1 6)) => ?_) (fun (hc1 : ¬ 60 ≤ (q.1 1 6)) => ?_)
  · rw [if_pos hc1] at hG
    replace hS := hS.1 hc1
    refine x_run (pc' := 28) (lo' := [some (.ref 1), some (.int v1), some (.int v2), some (.int v3), none, none]) (st' := [.int (-1)]) 1 rfl ?_
    obtain ⟨rfl, rfl⟩ := hG
    exact x_iret rfl (by decide +kernel)
  · rw [if_neg hc1] at hG
    replace hS := hS.2 hc1
    refine x_run (pc' := 10) (lo' := [some (.ref 1), some (.int v1), some (.int v2), some (.int v3), none, none]) (st' := [.int v1]) 1 rfl ?_
    refine x_if 27 rfl rfl (fun (hc2 : v1 < 0) => ?_) (fun (hc2 : ¬ v1 < 0) => ?_)
    · rw [if_pos hc2] at hG
      replace hS := hS.1 hc2
      refine x_run (pc' := 28) (lo' := [some (.ref 1), some (.int v1), some (.int v2), some (.int v3), none, none]) (st' := [.int (-1)]) 1 rfl ?_
      obtain ⟨rfl, rfl⟩ := hG
      exact x_iret rfl (by decide +kernel)
    · rw [if_neg hc2] at hG
      replace hS := hS.2 hc2
      refine x_run (pc' := 16) (lo' := [some (.ref 1), some (.int v1), some (.int v2), some (.int v3), none, none]) (st' := [.int 7, .int v1]) 2 rfl ?_
      refine x_ic 27 rfl rfl (fun (hc3 : 7 < v1) => ?_) (fun (hc3 : ¬ 7 < v1) => ?_)
      · rw [if_pos hc3] at hG
        replace hS := hS.1 hc3
        refine x_run (pc' := 28) (lo' := [some (.ref 1), some (.int v1), some (.int v2), some (.int v3), none, none]) (st' := [.int (-1)]) 1 rfl ?_
        obtain ⟨rfl, rfl⟩ := hG
        exact x_iret rfl (by decide +kernel)
      · rw [if_neg hc3] at hG
        replace hS := hS.2 hc3
        refine x_run (pc' := 21) (lo' := [some (.ref 1), some (.int v1), some (.int v2), some (.int v3), none, none]) (st' := [.int v2, .ref 1]) 2 rfl ?_
        obtain ⟨o4, hS⟩ := hS
        refine x_cv (j := 25) (ne := 0) (vs := [.int v2]) (rest := []) rfl (by decide +kernel) (by decide +kernel) (by decide) (Eq.trans rfl (show 1 = _ from by decide +kernel)) rfl (by decide +kernel) rfl (Nat.le_of_ble_eq_true rfl) (by omega) (T25 (Nat.le_refl 1) o4) (hp_m hN) ?_
        show AW l X 28 c28 d r h' 24 [some (.ref 1), some (.int v1), some (.int v2), some (.int v3), none, none] [.int (F25_0 v2 q)] (hp q)
        refine x_if 29 rfl rfl (fun (hc5 : ¬ (F25_0 v2 q) = 0) => ?_) (fun (hc5 : (F25_0 v2 q) = 0) => ?_)
        · rw [if_neg hc5] at hG
          replace hS := hS.2 hc5
          refine x_run (pc' := 30) (lo' := [some (.ref 1), some (.int v1), some (.int v2), some (.int v3), none, none]) (st' := [.int v1]) 1 rfl ?_
          obtain ⟨o6, hS⟩ := hS
          refine x_cs (j := 29) (ne := 0) (vs := [.int v1]) (rest := []) rfl (by decide +kernel) (by decide +kernel) (by decide) (Eq.trans rfl (show 1 = _ from by decide +kernel)) rfl (Nat.le_of_ble_eq_true rfl) (by omega) (T29 (Nat.le_refl 1) o6) (hp_m hN) ?_
          show AW l X 28 c28 d r h' 33 [some (.ref 1), some (.int v1), some (.int v2), some (.int v3), none, none] [.int (F29_0 v1 q)] (hp q)
          refine x_run (pc' := 37) (lo' := [some (.ref 1), some (.int v1), some (.int v2), some (.int v3), some (.int (F29_0 v1 q)), none]) (st' := [.int (F29_0 v1 q)]) 2 rfl ?_
          refine x_if 50 rfl rfl (fun (hc7 : ¬ (F29_0 v1 q) = 0) => ?_) (fun (hc7 : (F29_0 v1 q) = 0) => ?_)
          · rw [if_neg hc7] at hG
            replace hS := hS.2 hc7
            exact A28_50 hd hN hG hS
          · rw [if_pos hc7] at hG
            replace hS := hS.1 hc7
            refine x_run (pc' := 42) (lo' := [some (.ref 1), some (.int v1), some (.int v2), some (.int v3), some (.int (F29_0 v1 q)), none]) (st' := [.int v3, .ref 1]) 2 rfl ?_
            obtain ⟨o17, hS⟩ := hS
            refine x_cv (j := 25) (ne := 0) (vs := [.int v3]) (rest := []) rfl (by decide +kernel) (by decide +kernel) (by decide) (Eq.trans rfl (show 1 = _ from by decide +kernel)) rfl (by decide +kernel) rfl (Nat.le_of_ble_eq_true rfl) (by omega) (T25 (Nat.le_refl 1) o17) (hp_m hN) ?_
            show AW l X 28 c28 d r h' 45 [some (.ref 1), some (.int v1), some (.int v2), some (.int v3), some (.int (F29_0 v1 q)), none] [.int (F25_0 v3 q)] (hp q)
            refine x_if 50 rfl rfl (fun (hc18 : ¬ (F25_0 v3 q) = 0) => ?_) (fun (hc18 : (F25_0 v3 q) = 0) => ?_)
            · rw [if_neg hc18] at hG
              replace hS := hS.2 hc18
              exact A28_50 hd hN hG hS
            · rw [if_pos hc18] at hG
              replace hS := hS.1 hc18
              refine x_run (pc' := 49) (lo' := [some (.ref 1), some (.int v1), some (.int v2), some (.int v3), some (.int (F29_0 v1 q)), none]) (st' := [.int (-1)]) 1 rfl ?_
              obtain ⟨rfl, rfl⟩ := hG
              exact x_iret rfl (by decide +kernel)
        · rw [if_pos hc5] at hG
          replace hS := hS.1 hc5
          refine x_run (pc' := 28) (lo' := [some (.ref 1), some (.int v1), some (.int v2), some (.int v3), none, none]) (st' := [.int (-1)]) 1 rfl ?_
          obtain ⟨rfl, rfl⟩ := hG
          exact x_iret rfl (by decide +kernel)
theorem T28 {l : Launch} {X : aX} {d : Nat} {v1 : Int32} {v2 : Int32} {v3 : Int32} {q : aQ} (hd : 2 ≤ d) (hS : S28_0 v1 v2 v3 q) : Call l X d 28 [.ref 1, .int v1, .int v2, .int v3] (hp q) (some (.int (F28_0 v1 v2 v3 q).1)) (hp (F28_0 v1 v2 v3 q).2) := Call.of ok28 (by decide) (Nat.le_of_ble_eq_true rfl) ⟨Nat.le_refl _, Nat.le_refl _⟩ (A28_0 hd rfl ⟨rfl, rfl⟩ hS)
/-- TypeForecast$Expressions.narrowedVariable(I)I -/
def F30_66 (v3 : Int32) (s0 : Int32) (q : aQ) : Int32 := (if s0 = 0 then (-1) else (q.1 4 (Int32.toNatClampNeg v3)))
def S30_66 (v3 : Int32) (s0 : Int32) (q : aQ) : Prop := ((s0 = 0) → True) ∧ (¬ (s0 = 0) → vp_in v3 60 ∧ (True))
set_option maxRecDepth 100000 in
set_option maxHeartbeats 4000000 in
theorem A30_66 {l : Launch} {X : aX} {d : Nat} {r : Option Value} {h' : aH} {v3 : Int32} {s0 : Int32} {q : aQ} (hd : 1 ≤ d) (hN : h'.1 = nk0) (hG : gI r h' (F30_66 v3 s0 q, q)) (hS : S30_66 v3 s0 q) : AW l X 30 c30 d r h' 66 [some (.ref 1), none, none, some (.int v3), none] [.int s0] (hp q) := by
  unfold F30_66 at hG
  unfold S30_66 at hS
  refine x_run (pc' := 70) (lo' := [some (.ref 1), none, none, some (.int v3), some (.int s0)]) (st' := [.int s0]) 2 rfl ?_
  refine x_if 82 rfl rfl (fun (hc6 : s0 = 0) => ?_) (fun (hc6 : ¬ s0 = 0) => ?_)
  · rw [if_pos hc6] at hG
    replace hS := hS.1 hc6
    refine x_run (pc' := 83) (lo' := [some (.ref 1), none, none, some (.int v3), some (.int s0)]) (st' := [.int (-1)]) 1 rfl ?_
    obtain ⟨rfl, rfl⟩ := hG
    exact x_iret rfl (by decide +kernel)
  · rw [if_neg hc6] at hG
    replace hS := hS.2 hc6
    refine x_run (pc' := 74) (lo' := [some (.ref 1), none, none, some (.int v3), some (.int s0)]) (st' := [.ref 1]) 1 rfl ?_
    refine x_gf (c := 66) (ne := 0) (v := .ref 4) rfl (by decide +kernel) rfl rfl ?_
    refine x_run (pc' := 78) (lo' := [some (.ref 1), none, none, some (.int v3), some (.int s0)]) (st' := [.int v3, .ref 4]) 1 rfl ?_
    obtain ⟨o7, hS⟩ := hS
    refine p_ia (n := 60) (v := (q.1 4 (Int32.toNatClampNeg v3))) rfl rfl o7 rfl ?_
    refine x_run (pc' := 83) (lo' := [some (.ref 1), none, none, some (.int v3), some (.int s0)]) (st' := [.int (q.1 4 (Int32.toNatClampNeg v3))]) 1 rfl ?_
    obtain ⟨rfl, rfl⟩ := hG
    exact x_iret rfl (by decide +kernel)
def F30_65 (v3 : Int32) (q : aQ) : Int32 := F30_66 v3 0 q
def S30_65 (v3 : Int32) (q : aQ) : Prop := S30_66 v3 0 q
set_option maxRecDepth 100000 in
set_option maxHeartbeats 4000000 in
theorem A30_65 {l : Launch} {X : aX} {d : Nat} {r : Option Value} {h' : aH} {v3 : Int32} {q : aQ} (hd : 1 ≤ d) (hN : h'.1 = nk0) (hG : gI r h' (F30_65 v3 q, q)) (hS : S30_65 v3 q) : AW l X 30 c30 d r h' 65 [some (.ref 1), none, none, some (.int v3), none] [] (hp q) := by
  unfold F30_65 at hG
  unfold S30_65 at hS
  refine x_run (pc' := 66) (lo' := [some (.ref 1), none, none, some (.int v3), none]) (st' := [.int 0]) 1 rfl ?_
  exact A30_66 hd hN hG hS
def F30_40 (s0 : Int32) (q : aQ) : Int32 := (if (q.1 2 (Int32.toNatClampNeg s0)) = (-1) then (if (q.1 3 (Int32.toNatClampNeg s0)) = 3 then F30_66 s0 1 q else F30_65 s0 q) else F30_65 s0 q)
def S30_40 (s0 : Int32) (q : aQ) : Prop := vp_in s0 60 ∧ ((((q.1 2 (Int32.toNatClampNeg s0)) = (-1)) → vp_in s0 60 ∧ ((((q.1 3 (Int32.toNatClampNeg s0)) = 3) → S30_66 s0 1 q) ∧ (¬ ((q.1 3 (Int32.toNatClampNeg s0)) = 3) → S30_65 s0 q))) ∧ (¬ ((q.1 2 (Int32.toNatClampNeg s0)) = (-1)) → S30_65 s0 q))
set_option maxRecDepth 100000 in
set_option maxHeartbeats 4000000 in
theorem A30_40 {l : Launch} {X : aX} {d : Nat} {r : Option Value} {h' : aH} {s0 : Int32} {q : aQ} (hd : 1 ≤ d) (hN : h'.1 = nk0) (hG : gI r h' (F30_40 s0 q, q)) (hS : S30_40 s0 q) : AW l X 30 c30 d r h' 40 [some (.ref 1), none, none, none, none] [.int s0] (hp q) := by
  unfold F30_40 at hG
  unfold S30_40 at hS
  refine x_run (pc' := 42) (lo' := [some (.ref 1), none, none, some (.int s0), none]) (st' := [.ref 1]) 2 rfl ?_
  refine x_gf (c := 64) (ne := 0) (v := .ref 2) rfl (by decide +kernel) rfl rfl ?_
  refine x_run (pc' := 46) (lo' := [some (.ref 1), none, none, some (.int s0), none]) (st' := [.int s0, .ref 2]) 1 rfl ?_
  obtain ⟨o4, hS⟩ := hS
  refine p_ia (n := 60) (v := (q.1 2 (Int32.toNatClampNeg s0))) rfl rfl o4 rfl ?_
  refine x_run (pc' := 48) (lo' := [some (.ref 1), none, none, some (.int s0), none]) (st' := [.int (-1), .int (q.1 2 (Int32.toNatClampNeg s0))]) 1 rfl ?_
  refine x_ic 65 rfl rfl (fun (hc5 : ¬ (q.1 2 (Int32.toNatClampNeg s0)) = (-1)) => ?_) (fun (hc5 : (q.1 2 (Int32.toNatClampNeg s0)) = (-1)) => ?_)
  · rw [if_neg hc5] at hG
    replace hS := hS.2 hc5
    exact A30_65 hd hN hG hS
  · rw [if_pos hc5] at hG
    replace hS := hS.1 hc5
    refine x_run (pc' := 52) (lo' := [some (.ref 1), none, none, some (.int s0), none]) (st' := [.ref 1]) 1 rfl ?_
    refine x_gf (c := 65) (ne := 0) (v := .ref 3) rfl (by decide +kernel) rfl rfl ?_
    refine x_run (pc' := 56) (lo' := [some (.ref 1), none, none, some (.int s0), none]) (st' := [.int s0, .ref 3]) 1 rfl ?_
    obtain ⟨o8, hS⟩ := hS
    refine p_ia (n := 60) (v := (q.1 3 (Int32.toNatClampNeg s0))) rfl rfl o8 rfl ?_
    refine x_run (pc' := 58) (lo' := [some (.ref 1), none, none, some (.int s0), none]) (st' := [.int 3, .int (q.1 3 (Int32.toNatClampNeg s0))]) 1 rfl ?_
    refine x_ic 65 rfl rfl (fun (hc9 : ¬ (q.1 3 (Int32.toNatClampNeg s0)) = 3) => ?_) (fun (hc9 : (q.1 3 (Int32.toNatClampNeg s0)) = 3) => ?_)
    · rw [if_neg hc9] at hG
      replace hS := hS.2 hc9
      exact A30_65 hd hN hG hS
    · rw [if_pos hc9] at hG
      replace hS := hS.1 hc9
      refine x_run (pc' := 66) (lo' := [some (.ref 1), none, none, some (.int s0), none]) (st' := [.int 1]) 2 rfl ?_
      exact A30_66 hd hN hG hS
def F30_25 (v1 : Int32) (s0 : Int32) (q : aQ) : Int32 := (if s0 = 0 then F30_40 v1 q else F30_40 (q.1 5 (Int32.toNatClampNeg v1)) q)
def S30_25 (v1 : Int32) (s0 : Int32) (q : aQ) : Prop := ((s0 = 0) → S30_40 v1 q) ∧ (¬ (s0 = 0) → vp_in v1 60 ∧ (S30_40 (q.1 5 (Int32.toNatClampNeg v1)) q))
set_option maxRecDepth 100000 in
set_option maxHeartbeats 4000000 in
theorem A30_25 {l : Launch} {X : aX} {d : Nat} {r : Option Value} {h' : aH} {v1 : Int32} {s0 : Int32} {q : aQ} (hd : 1 ≤ d) (hN : h'.1 = nk0) (hG : gI r h' (F30_25 v1 s0 q, q)) (hS : S30_25 v1 s0 q) : AW l X 30 c30 d r h' 25 [some (.ref 1), some (.int v1), none, none, none] [.int s0] (hp q) := by
  unfold F30_25 at hG
  unfold S30_25 at hS
  refine x_run (pc' := 27) (lo' := [some (.ref 1), some (.int v1), some (.int s0), none, none]) (st' := [.int s0]) 2 rfl ?_
  refine x_if 39 rfl rfl (fun (hc3 : s0 = 0) => ?_) (fun (hc3 : ¬ s0 = 0) => ?_)
  · rw [if_pos hc3] at hG
    replace hS := hS.1 hc3
    refine x_run (pc' := 40) (lo' := [some (.ref 1), some (.int v1), some (.int s0), none, none]) (st' := [.int v1]) 1 rfl ?_
    refine x_kill [1, 2] ?_
    exact A30_40 hd hN hG hS
  · rw [if_neg hc3] at hG
    replace hS := hS.2 hc3
    refine x_run (pc' := 31) (lo' := [some (.ref 1), some (.int v1), some (.int s0), none, none]) (st' := [.ref 1]) 1 rfl ?_
    refine x_gf (c := 67) (ne := 0) (v := .ref 5) rfl (by decide +kernel) rfl rfl ?_
    refine x_run (pc' := 35) (lo' := [some (.ref 1), some (.int v1), some (.int s0), none, none]) (st' := [.int v1, .ref 5]) 1 rfl ?_
    obtain ⟨o10, hS⟩ := hS
    refine p_ia (n := 60) (v := (q.1 5 (Int32.toNatClampNeg v1))) rfl rfl o10 rfl ?_
    refine x_run (pc' := 40) (lo' := [some (.ref 1), some (.int v1), some (.int s0), none, none]) (st' := [.int (q.1 5 (Int32.toNatClampNeg v1))]) 1 rfl ?_
    refine x_kill [1, 2] ?_
    exact A30_40 hd hN hG hS
def F30_20 (v1 : Int32) (q : aQ) : Int32 := F30_25 v1 1 q
def S30_20 (v1 : Int32) (q : aQ) : Prop := S30_25 v1 1 q
set_option maxRecDepth 100000 in
set_option maxHeartbeats 4000000 in
theorem A30_20 {l : Launch} {X : aX} {d : Nat} {r : Option Value} {h' : aH} {v1 : Int32} {q : aQ} (hd : 1 ≤ d) (hN : h'.1 = nk0) (hG : gI r h' (F30_20 v1 q, q)) (hS : S30_20 v1 q) : AW l X 30 c30 d r h' 20 [some (.ref 1), some (.int v1), none, none, none] [] (hp q) := by
  unfold F30_20 at hG
  unfold S30_20 at hS
  refine x_run (pc' := 25) (lo' := [some (.ref 1), some (.int v1), none, none, none]) (st' := [.int 1]) 2 rfl ?_
  exact A30_25 hd hN hG hS
def F30_0 (v1 : Int32) (q : aQ) : Int32 := (if (q.1 2 (Int32.toNatClampNeg v1)) = 4 then F30_20 v1 q else (if (q.1 2 (Int32.toNatClampNeg v1)) = 5 then F30_20 v1 q else F30_25 v1 0 q))
def S30_0 (v1 : Int32) (q : aQ) : Prop := vp_in v1 60 ∧ ((((q.1 2 (Int32.toNatClampNeg v1)) = 4) → S30_20 v1 q) ∧ (¬ ((q.1 2 (Int32.toNatClampNeg v1)) = 4) → vp_in v1 60 ∧ ((((q.1 2 (Int32.toNatClampNeg v1)) = 5) → S30_20 v1 q) ∧ (¬ ((q.1 2 (Int32.toNatClampNeg v1)) = 5) → S30_25 v1 0 q))))
set_option maxRecDepth 100000 in
set_option maxHeartbeats 4000000 in
theorem A30_0 {l : Launch} {X : aX} {d : Nat} {r : Option Value} {h' : aH} {v1 : Int32} {q : aQ} (hd : 1 ≤ d) (hN : h'.1 = nk0) (hG : gI r h' (F30_0 v1 q, q)) (hS : S30_0 v1 q) : AW l X 30 c30 d r h' 0 [some (.ref 1), some (.int v1), none, none, none] [] (hp q) := by
  unfold F30_0 at hG
  unfold S30_0 at hS
  refine x_run (pc' := 1) (lo' := [some (.ref 1), some (.int v1), none, none, none]) (st' := [.ref 1]) 1 rfl ?_
  refine x_gf (c := 64) (ne := 0) (v := .ref 2) rfl (by decide +kernel) rfl rfl ?_
  refine x_run (pc' := 5) (lo' := [some (.ref 1), some (.int v1), none, none, none]) (st' := [.int v1, .ref 2]) 1 rfl ?_
  obtain ⟨o1, hS⟩ := hS
  refine p_ia (n := 60) (v := (q.1 2 (Int32.toNatClampNeg v1))) rfl rfl o1 rfl ?_
  refine x_run (pc' := 7) (lo' := [some (.ref 1), some (.int v1), none, none, none]) (st' := [.int 4, .int (q.1 2 (Int32.toNatClampNeg v1))]) 1 rfl ?_
  refine x_ic 20 rfl rfl (fun (hc2 : (q.1 2 (Int32.toNatClampNeg v1)) = 4) => ?_) (fun (hc2 : ¬ (q.1 2 (Int32.toNatClampNeg v1)) = 4) => ?_)
  · rw [if_pos hc2] at hG
    replace hS := hS.1 hc2
    exact A30_20 hd hN hG hS
  · rw [if_neg hc2] at hG
    replace hS := hS.2 hc2
    refine x_run (pc' := 11) (lo' := [some (.ref 1), some (.int v1), none, none, none]) (st' := [.ref 1]) 1 rfl ?_
    refine x_gf (c := 64) (ne := 0) (v := .ref 2) rfl (by decide +kernel) rfl rfl ?_
    refine x_run (pc' := 15) (lo' := [some (.ref 1), some (.int v1), none, none, none]) (st' := [.int v1, .ref 2]) 1 rfl ?_
    obtain ⟨o11, hS⟩ := hS
    refine p_ia (n := 60) (v := (q.1 2 (Int32.toNatClampNeg v1))) rfl rfl o11 rfl ?_
    refine x_run (pc' := 17) (lo' := [some (.ref 1), some (.int v1), none, none, none]) (st' := [.int 5, .int (q.1 2 (Int32.toNatClampNeg v1))]) 1 rfl ?_
    refine x_ic 24 rfl rfl (fun (hc12 : ¬ (q.1 2 (Int32.toNatClampNeg v1)) = 5) => ?_) (fun (hc12 : (q.1 2 (Int32.toNatClampNeg v1)) = 5) => ?_)
    · rw [if_neg hc12] at hG
      replace hS := hS.2 hc12
      refine x_run (pc' := 25) (lo' := [some (.ref 1), some (.int v1), none, none, none]) (st' := [.int 0]) 1 rfl ?_
      exact A30_25 hd hN hG hS
    · rw [if_pos hc12] at hG
      replace hS := hS.1 hc12
      exact A30_20 hd hN hG hS
theorem T30 {l : Launch} {X : aX} {d : Nat} {v1 : Int32} {q : aQ} (hd : 1 ≤ d) (hS : S30_0 v1 q) : Call l X d 30 [.ref 1, .int v1] (hp q) (some (.int (F30_0 v1 q))) (hp q) := Call.of ok30 (by decide) (Nat.le_of_ble_eq_true rfl) ⟨Nat.le_refl _, Nat.le_refl _⟩ (A30_0 hd rfl ⟨rfl, rfl⟩ hS)
