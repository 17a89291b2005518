/-! written by wip/whole/gen3.py: what methods do (F), what they need (S), the walk (A), the contract (T) -/
/-- TypeForecast$Program.has(I)Z -/
def F32_0 (v1 : Int32) (q : aQ) : Int32 := (if v1 < 0 then 0 else (if (q.1 8 7) ≤ v1 then 0 else 1))
def S32_0 (v1 : Int32) (q : aQ) : Prop := ((v1 < 0) → True) ∧ (¬ (v1 < 0) → (((q.1 8 7) ≤ v1) → True) ∧ (¬ ((q.1 8 7) ≤ v1) → True))
set_option maxRecDepth 100000 in
set_option maxHeartbeats 4000000 in
theorem A32_0 {l : Launch} {X : aX} {d : Nat} {r : Option Value} {h' : aH} {v1 : Int32} {q : aQ} (hd : 1 ≤ d) (hN : h'.1 = nk0) (hG : gI r h' (F32_0 v1 q, q)) (hS : S32_0 v1 q) : AW l X 32 c32 d r h' 0 [some (.ref 8), some (.int v1)] [] (hp q) := by
  unfold F32_0 at hG
  unfold S32_0 at hS
  refine x_run (pc' := 1) (lo' := [some (.ref 8), some (.int v1)]) (st' := [.int v1]) 1 rfl ?_
  refine x_if 16 rfl rfl (fun (hc1 : v1 < 0) => ?_) (fun (hc1 : ¬ v1 < 0) => ?_)
  · rw [if_pos hc1] at hG
    replace hS := hS.1 hc1
    refine x_run (pc' := 17) (lo' := [some (.ref 8), some (.int v1)]) (st' := [.int 0]) 1 rfl ?_
    obtain ⟨rfl, rfl⟩ := hG
    exact x_zret rfl (by decide +kernel) (Or.inl rfl)
  · rw [if_neg hc1] at hG
    replace hS := hS.2 hc1
    refine x_run (pc' := 6) (lo' := [some (.ref 8), some (.int v1)]) (st' := [.ref 8, .int v1]) 2 rfl ?_
    refine x_gf (c := 135) (ne := 0) (v := .int (q.1 8 7)) rfl (by decide +kernel) rfl rfl ?_
    refine x_ic 16 rfl rfl (fun (hc2 : (q.1 8 7) ≤ v1) => ?_) (fun (hc2 : ¬ (q.1 8 7) ≤ v1) => ?_)
    · rw [if_pos hc2] at hG
      replace hS := hS.1 hc2
      refine x_run (pc' := 17) (lo' := [some (.ref 8), some (.int v1)]) (st' := [.int 0]) 1 rfl ?_
      obtain ⟨rfl, rfl⟩ := hG
      exact x_zret rfl (by decide +kernel) (Or.inl rfl)
    · rw [if_neg hc2] at hG
      replace hS := hS.2 hc2
      refine x_run (pc' := 17) (lo' := [some (.ref 8), some (.int v1)]) (st' := [.int 1]) 2 rfl ?_
      obtain ⟨rfl, rfl⟩ := hG
      exact x_zret rfl (by decide +kernel) (Or.inr rfl)
theorem T32 {l : Launch} {X : aX} {d : Nat} {v1 : Int32} {q : aQ} (hd : 1 ≤ d) (hS : S32_0 v1 q) : Call l X d 32 [.ref 8, .int v1] (hp q) (some (.int (F32_0 v1 q))) (hp q) := Call.of ok32 (by decide) (Nat.le_of_ble_eq_true rfl) ⟨Nat.le_refl _, Nat.le_refl _⟩ (A32_0 hd rfl ⟨rfl, rfl⟩ hS)
/-- TypeForecast$Program.isOpen()Z -/
def F33_0 (q : aQ) : Int32 := (if (q.1 8 11) ≤ 0 then 0 else 1)
def S33_0 (q : aQ) : Prop := (((q.1 8 11) ≤ 0) → True) ∧ (¬ ((q.1 8 11) ≤ 0) → True)
set_option maxRecDepth 100000 in
set_option maxHeartbeats 4000000 in
theorem A33_0 {l : Launch} {X : aX} {d : Nat} {r : Option Value} {h' : aH} {q : aQ} (hd : 1 ≤ d) (hN : h'.1 = nk0) (hG : gI r h' (F33_0 q, q)) (hS : S33_0 q) : AW l X 33 c33 d r h' 0 [some (.ref 8)] [] (hp q) := by
  unfold F33_0 at hG
  unfold S33_0 at hS
  refine x_run (pc' := 1) (lo' := [some (.ref 8)]) (st' := [.ref 8]) 1 rfl ?_
  refine x_gf (c := 139) (ne := 0) (v := .int (q.1 8 11)) rfl (by decide +kernel) rfl rfl ?_
  refine x_if 11 rfl rfl (fun (hc1 : (q.1 8 11) ≤ 0) => ?_) (fun (hc1 : ¬ (q.1 8 11) ≤ 0) => ?_)
  · rw [if_pos hc1] at hG
    replace hS := hS.1 hc1
    refine x_run (pc' := 12) (lo' := [some (.ref 8)]) (st' := [.int 0]) 1 rfl ?_
    obtain ⟨rfl, rfl⟩ := hG
    exact x_zret rfl (by decide +kernel) (Or.inl rfl)
  · rw [if_neg hc1] at hG
    replace hS := hS.2 hc1
    refine x_run (pc' := 12) (lo' := [some (.ref 8)]) (st' := [.int 1]) 2 rfl ?_
    obtain ⟨rfl, rfl⟩ := hG
    exact x_zret rfl (by decide +kernel) (Or.inr rfl)
theorem T33 {l : Launch} {X : aX} {d : Nat} {q : aQ} (hd : 1 ≤ d) (hS : S33_0 q) : Call l X d 33 [.ref 8] (hp q) (some (.int (F33_0 q))) (hp q) := Call.of ok33 (by decide) (Nat.le_of_ble_eq_true rfl) ⟨Nat.le_refl _, Nat.le_refl _⟩ (A33_0 hd rfl ⟨rfl, rfl⟩ hS)
/-- TypeForecast$Program.worksOut(I)Z -/
def F34_0 (v1 : Int32) (q : aQ) : Int32 := (if (q.1 9 (Int32.toNatClampNeg v1)) = 0 then 1 else (if (q.1 9 (Int32.toNatClampNeg v1)) = 4 then 1 else (if (q.1 9 (Int32.toNatClampNeg v1)) = 5 then 1 else 0)))
def S34_0 (v1 : Int32) (q : aQ) : Prop := vp_in v1 24 ∧ ((((q.1 9 (Int32.toNatClampNeg v1)) = 0) → True) ∧ (¬ ((q.1 9 (Int32.toNatClampNeg v1)) = 0) → vp_in v1 24 ∧ ((((q.1 9 (Int32.toNatClampNeg v1)) = 4) → True) ∧ (¬ ((q.1 9 (Int32.toNatClampNeg v1)) = 4) → vp_in v1 24 ∧ ((((q.1 9 (Int32.toNatClampNeg v1)) = 5) → True) ∧ (¬ ((q.1 9 (Int32.toNatClampNeg v1)) = 5) → True))))))
set_option maxRecDepth 100000 in
set_option maxHeartbeats 4000000 in
theorem A34_0 {l : Launch} {X : aX} {d : Nat} {r : Option Value} {h' : aH} {v1 : Int32} {q : aQ} (hd : 1 ≤ d) (hN : h'.1 = nk0) (hG : gI r h' (F34_0 v1 q, q)) (hS : S34_0 v1 q) : AW l X 34 c34 d r h' 0 [some (.ref 8), some (.int v1)] [] (hp q) := by
  unfold F34_0 at hG
  unfold S34_0 at hS
  refine x_run (pc' := 1) (lo' := [some (.ref 8), some (.int v1)]) (st' := [.ref 8]) 1 rfl ?_
  refine x_gf (c := 128) (ne := 0) (v := .ref 9) rfl (by decide +kernel) rfl rfl ?_
  refine x_run (pc' := 5) (lo' := [some (.ref 8), some (.int v1)]) (st' := [.int v1, .ref 9]) 1 rfl ?_
  obtain ⟨o1, hS⟩ := hS
  refine p_ia (n := 24) (v := (q.1 9 (Int32.toNatClampNeg v1))) rfl rfl o1 rfl ?_
  refine x_if 29 rfl rfl (fun (hc2 : (q.1 9 (Int32.toNatClampNeg v1)) = 0) => ?_) (fun (hc2 : ¬ (q.1 9 (Int32.toNatClampNeg v1)) = 0) => ?_)
  · rw [if_pos hc2] at hG
    replace hS := hS.1 hc2
    refine x_run (pc' := 34) (lo' := [some (.ref 8), some (.int v1)]) (st' := [.int 1]) 2 rfl ?_
    obtain ⟨rfl, rfl⟩ := hG
    exact x_zret rfl (by decide +kernel) (Or.inr rfl)
  · rw [if_neg hc2] at hG
    replace hS := hS.2 hc2
    refine x_run (pc' := 10) (lo' := [some (.ref 8), some (.int v1)]) (st' := [.ref 8]) 1 rfl ?_
    refine x_gf (c := 128) (ne := 0) (v := .ref 9) rfl (by decide +kernel) rfl rfl ?_
    refine x_run (pc' := 14) (lo' := [some (.ref 8), some (.int v1)]) (st' := [.int v1, .ref 9]) 1 rfl ?_
    obtain ⟨o3, hS⟩ := hS
    refine p_ia (n := 24) (v := (q.1 9 (Int32.toNatClampNeg v1))) rfl rfl o3 rfl ?_
    refine x_run (pc' := 16) (lo' := [some (.ref 8), some (.int v1)]) (st' := [.int 4, .int (q.1 9 (Int32.toNatClampNeg v1))]) 1 rfl ?_
    refine x_ic 29 rfl rfl (fun (hc4 : (q.1 9 (Int32.toNatClampNeg v1)) = 4) => ?_) (fun (hc4 : ¬ (q.1 9 (Int32.toNatClampNeg v1)) = 4) => ?_)
    · rw [if_pos hc4] at hG
      replace hS := hS.1 hc4
      refine x_run (pc' := 34) (lo' := [some (.ref 8), some (.int v1)]) (st' := [.int 1]) 2 rfl ?_
      obtain ⟨rfl, rfl⟩ := hG
      exact x_zret rfl (by decide +kernel) (Or.inr rfl)
    · rw [if_neg hc4] at hG
      replace hS := hS.2 hc4
      refine x_run (pc' := 20) (lo' := [some (.ref 8), some (.int v1)]) (st' := [.ref 8]) 1 rfl ?_
      refine x_gf (c := 128) (ne := 0) (v := .ref 9) rfl (by decide +kernel) rfl rfl ?_
      refine x_run (pc' := 24) (lo' := [some (.ref 8), some (.int v1)]) (st' := [.int v1, .ref 9]) 1 rfl ?_
      obtain ⟨o5, hS⟩ := hS
      refine p_ia (n := 24) (v := (q.1 9 (Int32.toNatClampNeg v1))) rfl rfl o5 rfl ?_
      refine x_run (pc' := 26) (lo' := [some (.ref 8), some (.int v1)]) (st' := [.int 5, .int (q.1 9 (Int32.toNatClampNeg v1))]) 1 rfl ?_
      refine x_ic 33 rfl rfl (fun (hc6 : ¬ (q.1 9 (Int32.toNatClampNeg v1)) = 5) => ?_) (fun (hc6 : (q.1 9 (Int32.toNatClampNeg v1)) = 5) => ?_)
      · rw [if_neg hc6] at hG
        replace hS := hS.2 hc6
        refine x_run (pc' := 34) (lo' := [some (.ref 8), some (.int v1)]) (st' := [.int 0]) 1 rfl ?_
        obtain ⟨rfl, rfl⟩ := hG
        exact x_zret rfl (by decide +kernel) (Or.inl rfl)
      · rw [if_pos hc6] at hG
        replace hS := hS.1 hc6
        refine x_run (pc' := 34) (lo' := [some (.ref 8), some (.int v1)]) (st' := [.int 1]) 2 rfl ?_
        obtain ⟨rfl, rfl⟩ := hG
        exact x_zret rfl (by decide +kernel) (Or.inr rfl)
theorem T34 {l : Launch} {X : aX} {d : Nat} {v1 : Int32} {q : aQ} (hd : 1 ≤ d) (hS : S34_0 v1 q) : Call l X d 34 [.ref 8, .int v1] (hp q) (some (.int (F34_0 v1 q))) (hp q) := Call.of ok34 (by decide) (Nat.le_of_ble_eq_true rfl) ⟨Nat.le_refl _, Nat.le_refl _⟩ (A34_0 hd rfl ⟨rfl, rfl⟩ hS)
/-- TypeForecast$Program.link(I)V -/
def F36_104 (v1 : Int32) (q : aQ) : aQ := (a_w q 18 (Int32.toNatClampNeg (q.1 8 11)) v1)
def S36_104 (v1 : Int32) (q : aQ) : Prop := vp_in (q.1 8 11) 6 ∧ (True)
set_option maxRecDepth 100000 in
set_option maxHeartbeats 4000000 in
theorem A36_104 {l : Launch} {X : aX} {d : Nat} {r : Option Value} {h' : aH} {v1 : Int32} {q : aQ} (hd : 1 ≤ d) (hN : h'.1 = nk0) (hG : gV r h' (F36_104 v1 q)) (hS : S36_104 v1 q) : AW l X 36 c36 d r h' 104 [some (.ref 8), some (.int v1), none, none, none] [] (hp q) := by
  unfold F36_104 at hG
  unfold S36_104 at hS
  refine x_run (pc' := 105) (lo' := [some (.ref 8), some (.int v1), none, none, none]) (st' := [.ref 8]) 1 rfl ?_
  refine x_gf (c := 138) (ne := 0) (v := .ref 18) rfl (by decide +kernel) rfl rfl ?_
  refine x_run (pc' := 109) (lo' := [some (.ref 8), some (.int v1), none, none, none]) (st' := [.ref 8, .ref 18]) 1 rfl ?_
  refine x_gf (c := 139) (ne := 0) (v := .int (q.1 8 11)) rfl (by decide +kernel) rfl rfl ?_
  refine x_run (pc' := 113) (lo' := [some (.ref 8), some (.int v1), none, none, none]) (st' := [.int v1, .int (q.1 8 11), .ref 18]) 1 rfl ?_
  obtain ⟨o8, hS⟩ := hS
  refine p_is (n := 6) rfl rfl o8 ?_
  obtain ⟨rfl, rfl⟩ := hG
  exact x_ret rfl (by decide +kernel)
def F36_45 (v1 : Int32) (v2 : Int32) (s0 : Int32) (q : aQ) : aQ := (if (q.1 18 (Int32.toNatClampNeg (q.1 8 11))) = (-1) then (if v2 = (-1) then F36_104 v1 (a_w (a_w q 12 (Int32.toNatClampNeg v1) v2) 13 (Int32.toNatClampNeg v1) s0) else F36_104 v1 (a_w (a_w (a_w q 12 (Int32.toNatClampNeg v1) v2) 13 (Int32.toNatClampNeg v1) s0) 15 (Int32.toNatClampNeg ((2 * v2) + s0)) v1)) else F36_104 v1 (a_w (a_w (a_w q 12 (Int32.toNatClampNeg v1) v2) 13 (Int32.toNatClampNeg v1) s0) 14 (Int32.toNatClampNeg (q.1 18 (Int32.toNatClampNeg (q.1 8 11)))) v1))
def S36_45 (v1 : Int32) (v2 : Int32) (s0 : Int32) (q : aQ) : Prop := vp_in v1 24 ∧ (vp_in v1 24 ∧ (vp_in (q.1 8 11) 6 ∧ ((((q.1 18 (Int32.toNatClampNeg (q.1 8 11))) = (-1)) → ((v2 = (-1)) → S36_104 v1 (a_w (a_w q 12 (Int32.toNatClampNeg v1) v2) 13 (Int32.toNatClampNeg v1) s0)) ∧ (¬ (v2 = (-1)) → vp_in ((2 * v2) + s0) 48 ∧ (S36_104 v1 (a_w (a_w (a_w q 12 (Int32.toNatClampNeg v1) v2) 13 (Int32.toNatClampNeg v1) s0) 15 (Int32.toNatClampNeg ((2 * v2) + s0)) v1)))) ∧ (¬ ((q.1 18 (Int32.toNatClampNeg (q.1 8 11))) = (-1)) → vp_in (q.1 18 (Int32.toNatClampNeg (q.1 8 11))) 24 ∧ (S36_104 v1 (a_w (a_w (a_w q 12 (Int32.toNatClampNeg v1) v2) 13 (Int32.toNatClampNeg v1) s0) 14 (Int32.toNatClampNeg (q.1 18 (Int32.toNatClampNeg (q.1 8 11)))) v1))))))
set_option maxRecDepth 100000 in
set_option maxHeartbeats 4000000 in
theorem A36_45 {l : Launch} {X : aX} {d : Nat} {r : Option Value} {h' : aH} {v1 : Int32} {v2 : Int32} {s0 : Int32} {q : aQ} (hd : 1 ≤ d) (hN : h'.1 = nk0) (hG : gV r h' (F36_45 v1 v2 s0 q)) (hS : S36_45 v1 v2 s0 q) : AW l X 36 c36 d r h' 45 [some (.ref 8), some (.int v1), some (.int v2), none, none] [.int s0] (hp q) := by
  unfold F36_45 at hG
  unfold S36_45 at hS
  refine x_run (pc' := 47) (lo' := [some (.ref 8), some (.int v1), some (.int v2), some (.int s0), none]) (st' := [.ref 8]) 2 rfl ?_
  refine x_gf (c := 131) (ne := 0) (v := .ref 12) rfl (by decide +kernel) rfl rfl ?_
  refine x_run (pc' := 52) (lo' := [some (.ref 8), some (.int v1), some (.int v2), some (.int s0), none]) (st' := [.int v2, .int v1, .ref 12]) 2 rfl ?_
  obtain ⟨o3, hS⟩ := hS
  refine p_is (n := 24) rfl rfl o3 ?_
  refine x_run (pc' := 54) (lo' := [some (.ref 8), some (.int v1), some (.int v2), some (.int s0), none]) (st' := [.ref 8]) 1 rfl ?_
  refine x_gf (c := 132) (ne := 0) (v := .ref 13) rfl (by decide +kernel) rfl rfl ?_
  refine x_run (pc' := 59) (lo' := [some (.ref 8), some (.int v1), some (.int v2), some (.int s0), none]) (st' := [.int s0, .int v1, .ref 13]) 2 rfl ?_
  obtain ⟨o4, hS⟩ := hS
  refine p_is (n := 24) rfl rfl o4 ?_
  refine x_run (pc' := 61) (lo' := [some (.ref 8), some (.int v1), some (.int v2), some (.int s0), none]) (st' := [.ref 8]) 1 rfl ?_
  refine x_gf (c := 138) (ne := 0) (v := .ref 18) rfl (by decide +kernel) rfl rfl ?_
  refine x_run (pc' := 65) (lo' := [some (.ref 8), some (.int v1), some (.int v2), some (.int s0), none]) (st' := [.ref 8, .ref 18]) 1 rfl ?_
  refine x_gf (c := 139) (ne := 0) (v := .int (q.1 8 11)) rfl (by decide +kernel) rfl rfl ?_
  obtain ⟨o5, hS⟩ := hS
  refine p_ia (n := 6) (v := (q.1 18 (Int32.toNatClampNeg (q.1 8 11)))) rfl rfl o5 rfl ?_
  refine x_run (pc' := 74) (lo' := [some (.ref 8), some (.int v1), some (.int v2), some (.int s0), some (.int (q.1 18 (Int32.toNatClampNeg (q.1 8 11))))]) (st' := [.int (-1), .int (q.1 18 (Int32.toNatClampNeg (q.1 8 11)))]) 3 rfl ?_
  refine x_ic 88 rfl rfl (fun (hc6 : (q.1 18 (Int32.toNatClampNeg (q.1 8 11))) = (-1)) => ?_) (fun (hc6 : ¬ (q.1 18 (Int32.toNatClampNeg (q.1 8 11))) = (-1)) => ?_)
  · rw [if_pos hc6] at hG
    replace hS := hS.1 hc6
    refine x_run (pc' := 90) (lo' := [some (.ref 8), some (.int v1), some (.int v2), some (.int s0), some (.int (q.1 18 (Int32.toNatClampNeg (q.1 8 11))))]) (st' := [.int (-1), .int v2]) 2 rfl ?_
    refine x_ic 104 rfl rfl (fun (hc7 : v2 = (-1)) => ?_) (fun (hc7 : ¬ v2 = (-1)) => ?_)
    · rw [if_pos hc7] at hG
      replace hS := hS.1 hc7
      refine x_kill [2, 3, 4] ?_
      exact A36_104 hd hN hG hS
    · rw [if_neg hc7] at hG
      replace hS := hS.2 hc7
      refine x_run (pc' := 94) (lo' := [some (.ref 8), some (.int v1), some (.int v2), some (.int s0), some (.int (q.1 18 (Int32.toNatClampNeg (q.1 8 11))))]) (st' := [.ref 8]) 1 rfl ?_
      refine x_gf (c := 134) (ne := 0) (v := .ref 15) rfl (by decide +kernel) rfl rfl ?_
      refine x_run (pc' := 103) (lo' := [some (.ref 8), some (.int v1), some (.int v2), some (.int s0), some (.int (q.1 18 (Int32.toNatClampNeg (q.1 8 11))))]) (st' := [.int v1, .int ((2 * v2) + s0), .ref 15]) 6 rfl ?_
      obtain ⟨o9, hS⟩ := hS
      refine p_is (n := 48) rfl rfl o9 ?_
      refine x_kill [2, 3, 4] ?_
      exact A36_104 hd hN hG hS
  · rw [if_neg hc6] at hG
    replace hS := hS.2 hc6
    refine x_run (pc' := 78) (lo' := [some (.ref 8), some (.int v1), some (.int v2), some (.int s0), some (.int (q.1 18 (Int32.toNatClampNeg (q.1 8 11))))]) (st' := [.ref 8]) 1 rfl ?_
    refine x_gf (c := 133) (ne := 0) (v := .ref 14) rfl (by decide +kernel) rfl rfl ?_
    refine x_run (pc' := 84) (lo' := [some (.ref 8), some (.int v1), some (.int v2), some (.int s0), some (.int (q.1 18 (Int32.toNatClampNeg (q.1 8 11))))]) (st' := [.int v1, .int (q.1 18 (Int32.toNatClampNeg (q.1 8 11))), .ref 14]) 2 rfl ?_
    obtain ⟨o10, hS⟩ := hS
    refine p_is (n := 24) rfl rfl o10 ?_
    refine x_run (pc' := 104) (lo' := [some (.ref 8), some (.int v1), some (.int v2), some (.int s0), some (.int (q.1 18 (Int32.toNatClampNeg (q.1 8 11))))]) (st' := []) 1 rfl ?_
    refine x_kill [2, 3, 4] ?_
    exact A36_104 hd hN hG hS
def F36_22 (v1 : Int32) (s0 : Int32) (q : aQ) : aQ := (if (q.1 8 11) ≤ 0 then F36_45 v1 s0 0 q else F36_45 v1 s0 (q.1 17 (Int32.toNatClampNeg ((q.1 8 11) - 1))) q)
def S36_22 (v1 : Int32) (s0 : Int32) (q : aQ) : Prop := (((q.1 8 11) ≤ 0) → S36_45 v1 s0 0 q) ∧ (¬ ((q.1 8 11) ≤ 0) → vp_in ((q.1 8 11) - 1) 5 ∧ (S36_45 v1 s0 (q.1 17 (Int32.toNatClampNeg ((q.1 8 11) - 1))) q))
set_option maxRecDepth 100000 in
set_option maxHeartbeats 4000000 in
theorem A36_22 {l : Launch} {X : aX} {d : Nat} {r : Option Value} {h' : aH} {v1 : Int32} {s0 : Int32} {q : aQ} (hd : 1 ≤ d) (hN : h'.1 = nk0) (hG : gV r h' (F36_22 v1 s0 q)) (hS : S36_22 v1 s0 q) : AW l X 36 c36 d r h' 22 [some (.ref 8), some (.int v1), none, none, none] [.int s0] (hp q) := by
  unfold F36_22 at hG
  unfold S36_22 at hS
  refine x_run (pc' := 24) (lo' := [some (.ref 8), some (.int v1), some (.int s0), none, none]) (st' := [.ref 8]) 2 rfl ?_
  refine x_gf (c := 139) (ne := 0) (v := .int (q.1 8 11)) rfl (by decide +kernel) rfl rfl ?_
  refine x_if 44 rfl rfl (fun (hc2 : (q.1 8 11) ≤ 0) => ?_) (fun (hc2 : ¬ (q.1 8 11) ≤ 0) => ?_)
  · rw [if_pos hc2] at hG
    replace hS := hS.1 hc2
    refine x_run (pc' := 45) (lo' := [some (.ref 8), some (.int v1), some (.int s0), none, none]) (st' := [.int 0]) 1 rfl ?_
    exact A36_45 hd hN hG hS
  · rw [if_neg hc2] at hG
    replace hS := hS.2 hc2
    refine x_run (pc' := 31) (lo' := [some (.ref 8), some (.int v1), some (.int s0), none, none]) (st' := [.ref 8]) 1 rfl ?_
    refine x_gf (c := 137) (ne := 0) (v := .ref 17) rfl (by decide +kernel) rfl rfl ?_
    refine x_run (pc' := 35) (lo' := [some (.ref 8), some (.int v1), some (.int s0), none, none]) (st' := [.ref 8, .ref 17]) 1 rfl ?_
    refine x_gf (c := 139) (ne := 0) (v := .int (q.1 8 11)) rfl (by decide +kernel) rfl rfl ?_
    refine x_run (pc' := 40) (lo' := [some (.ref 8), some (.int v1), some (.int s0), none, none]) (st' := [.int ((q.1 8 11) - 1), .ref 17]) 2 rfl ?_
    obtain ⟨o11, hS⟩ := hS
    refine p_ia (n := 5) (v := (q.1 17 (Int32.toNatClampNeg ((q.1 8 11) - 1)))) rfl rfl o11 rfl ?_
    refine x_run (pc' := 45) (lo' := [some (.ref 8), some (.int v1), some (.int s0), none, none]) (st' := [.int (q.1 17 (Int32.toNatClampNeg ((q.1 8 11) - 1)))]) 1 rfl ?_
    exact A36_45 hd hN hG hS
def F36_0 (v1 : Int32) (q : aQ) : aQ := (if (q.1 8 11) ≤ 0 then F36_22 v1 (-1) q else F36_22 v1 (q.1 16 (Int32.toNatClampNeg ((q.1 8 11) - 1))) q)
def S36_0 (v1 : Int32) (q : aQ) : Prop := (((q.1 8 11) ≤ 0) → S36_22 v1 (-1) q) ∧ (¬ ((q.1 8 11) ≤ 0) → vp_in ((q.1 8 11) - 1) 5 ∧ (S36_22 v1 (q.1 16 (Int32.toNatClampNeg ((q.1 8 11) - 1))) q))
set_option maxRecDepth 100000 in
set_option maxHeartbeats 4000000 in
theorem A36_0 {l : Launch} {X : aX} {d : Nat} {r : Option Value} {h' : aH} {v1 : Int32} {q : aQ} (hd : 1 ≤ d) (hN : h'.1 = nk0) (hG : gV r h' (F36_0 v1 q)) (hS : S36_0 v1 q) : AW l X 36 c36 d r h' 0 [some (.ref 8), some (.int v1), none, none, none] [] (hp q) := by
  unfold F36_0 at hG
  unfold S36_0 at hS
  refine x_run (pc' := 1) (lo' := [some (.ref 8), some (.int v1), none, none, none]) (st' := [.ref 8]) 1 rfl ?_
  refine x_gf (c := 139) (ne := 0) (v := .int (q.1 8 11)) rfl (by decide +kernel) rfl rfl ?_
  refine x_if 21 rfl rfl (fun (hc1 : (q.1 8 11) ≤ 0) => ?_) (fun (hc1 : ¬ (q.1 8 11) ≤ 0) => ?_)
  · rw [if_pos hc1] at hG
    replace hS := hS.1 hc1
    refine x_run (pc' := 22) (lo' := [some (.ref 8), some (.int v1), none, none, none]) (st' := [.int (-1)]) 1 rfl ?_
    exact A36_22 hd hN hG hS
  · rw [if_neg hc1] at hG
    replace hS := hS.2 hc1
    refine x_run (pc' := 8) (lo' := [some (.ref 8), some (.int v1), none, none, none]) (st' := [.ref 8]) 1 rfl ?_
    refine x_gf (c := 136) (ne := 0) (v := .ref 16) rfl (by decide +kernel) rfl rfl ?_
    refine x_run (pc' := 12) (lo' := [some (.ref 8), some (.int v1), none, none, none]) (st' := [.ref 8, .ref 16]) 1 rfl ?_
    refine x_gf (c := 139) (ne := 0) (v := .int (q.1 8 11)) rfl (by decide +kernel) rfl rfl ?_
    refine x_run (pc' := 17) (lo' := [some (.ref 8), some (.int v1), none, none, none]) (st' := [.int ((q.1 8 11) - 1), .ref 16]) 2 rfl ?_
    obtain ⟨o12, hS⟩ := hS
    refine p_ia (n := 5) (v := (q.1 16 (Int32.toNatClampNeg ((q.1 8 11) - 1)))) rfl rfl o12 rfl ?_
    refine x_run (pc' := 22) (lo' := [some (.ref 8), some (.int v1), none, none, none]) (st' := [.int (q.1 16 (Int32.toNatClampNeg ((q.1 8 11) - 1)))]) 1 rfl ?_
    exact A36_22 hd hN hG hS
theorem T36 {l : Launch} {X : aX} {d : Nat} {v1 : Int32} {q : aQ} (hd : 1 ≤ d) (hS : S36_0 v1 q) : Call l X d 36 [.ref 8, .int v1] (hp q) none (hp (F36_0 v1 q)) := Call.of ok36 (by decide) (Nat.le_of_ble_eq_true rfl) ⟨Nat.le_refl _, Nat.le_refl _⟩ (A36_0 hd rfl ⟨rfl, rfl⟩ hS)
/-- TypeForecast$Program.add(III)I -/
def F35_84 (v4 : Int32) (q : aQ) : Int32 × aQ := (v4, q)
def S35_84 (v4 : Int32) (q : aQ) : Prop := True
set_option maxRecDepth 100000 in
set_option maxHeartbeats 4000000 in
theorem A35_84 {l : Launch} {X : aX} {d : Nat} {r : Option Value} {h' : aH} {v4 : Int32} {q : aQ} (hd : 2 ≤ d) (hN : h'.1 = nk0) (hG : gI r h' (F35_84 v4 q)) (hS : S35_84 v4 q) : AW l X 35 c35 d r h' 84 [none, none, none, none, some (.int v4)] [] (hp q) := by
  unfold F35_84 at hG
  unfold S35_84 at hS
  refine x_run (pc' := 86) (lo' := [none, none, none, none, some (.int v4)]) (st' := [.int v4]) 1 rfl ?_
  obtain ⟨rfl, rfl⟩ := hG
  exact x_iret rfl (by decide +kernel)
def F35_0 (v1 : Int32) (v2 : Int32) (v3 : Int32) (q : aQ) : Int32 × aQ := (if (q.1 8 7) < 24 then F35_84 (q.1 8 7) (F36_0 (q.1 8 7) (a_w (a_w (a_w (a_w (a_w (a_w (a_w q 8 7 ((q.1 8 7) + 1)) 9 (Int32.toNatClampNeg (q.1 8 7)) v1) 10 (Int32.toNatClampNeg (q.1 8 7)) v2) 11 (Int32.toNatClampNeg (q.1 8 7)) v3) 14 (Int32.toNatClampNeg (q.1 8 7)) (-1)) 15 (Int32.toNatClampNeg (2 * (q.1 8 7))) (-1)) 15 (Int32.toNatClampNeg ((2 * (q.1 8 7)) + 1)) (-1))) else ((-1), q))
def S35_0 (v1 : Int32) (v2 : Int32) (v3 : Int32) (q : aQ) : Prop := (((q.1 8 7) < 24) → vp_in (q.1 8 7) 24 ∧ (vp_in (q.1 8 7) 24 ∧ (vp_in (q.1 8 7) 24 ∧ (vp_in (q.1 8 7) 24 ∧ (vp_in (2 * (q.1 8 7)) 48 ∧ (vp_in ((2 * (q.1 8 7)) + 1) 48 ∧ (S36_0 (q.1 8 7) (a_w (a_w (a_w (a_w (a_w (a_w (a_w q 8 7 ((q.1 8 7) + 1)) 9 (Int32.toNatClampNeg (q.1 8 7)) v1) 10 (Int32.toNatClampNeg (q.1 8 7)) v2) 11 (Int32.toNatClampNeg (q.1 8 7)) v3) 14 (Int32.toNatClampNeg (q.1 8 7)) (-1)) 15 (Int32.toNatClampNeg (2 * (q.1 8 7))) (-1)) 15 (Int32.toNatClampNeg ((2 * (q.1 8 7)) + 1)) (-1)) ∧ (S35_84 (q.1 8 7) (F36_0 (q.1 8 7) (a_w (a_w (a_w (a_w (a_w (a_w (a_w q 8 7 ((q.1 8 7) + 1)) 9 (Int32.toNatClampNeg (q.1 8 7)) v1) 10 (Int32.toNatClampNeg (q.1 8 7)) v2) 11 (Int32.toNatClampNeg (q.1 8 7)) v3) 14 (Int32.toNatClampNeg (q.1 8 7)) (-1)) 15 (Int32.toNatClampNeg (2 * (q.1 8 7))) (-1)) 15 (Int32.toNatClampNeg ((2 * (q.1 8 7)) + 1)) (-1))))))))))) ∧ (¬ ((q.1 8 7) < 24) → True)
set_option maxRecDepth 100000 in
set_option maxHeartbeats 4000000 in
theorem A35_0 {l : Launch} {X : aX} {d : Nat} {r : Option Value} {h' : aH} {v1 : Int32} {v2 : Int32} {v3 : Int32} {q : aQ} (hd : 2 ≤ d) (hN : h'.1 = nk0) (hG : gI r h' (F35_0 v1 v2 v3 q)) (hS : S35_0 v1 v2 v3 q) : AW l X 35 c35 d r h' 0 [some (.ref 8), some (.int v1), some (.int v2), some (.int v3), none] [] (hp q) := by
  unfold F35_0 at hG
  unfold S35_0 at hS
  refine x_run (pc' := 1) (lo' := [some (.ref 8), some (.int v1), some (.int v2), some (.int v3), none]) (st' := [.ref 8]) 1 rfl ?_
  refine x_gf (c := 135) (ne := 0) (v := .int (q.1 8 7)) rfl (by decide +kernel) rfl rfl ?_
  refine x_run (pc' := 6) (lo' := [some (.ref 8), some (.int v1), some (.int v2), some (.int v3), none]) (st' := [.int 24, .int (q.1 8 7)]) 1 rfl ?_
  refine x_ic 11 rfl rfl (fun (hc1 : (q.1 8 7) < 24) => ?_) (fun (hc1 : ¬ (q.1 8 7) < 24) => ?_)
  · rw [if_pos hc1] at hG
    replace hS := hS.1 hc1
    refine x_run (pc' := 13) (lo' := [some (.ref 8), some (.int v1), some (.int v2), some (.int v3), none]) (st' := [.ref 8, .ref 8]) 2 rfl ?_
    refine x_gf (c := 135) (ne := 0) (v := .int (q.1 8 7)) rfl (by decide +kernel) rfl rfl ?_
    refine x_run (pc' := 19) (lo' := [some (.ref 8), some (.int v1), some (.int v2), some (.int v3), none]) (st' := [.int ((q.1 8 7) + 1), .ref 8, .int (q.1 8 7)]) 3 rfl ?_
    refine x_pf (c := 135) (ne := 0) (h2 := hp (a_w q 8 7 ((q.1 8 7) + 1))) rfl (by decide +kernel) (by decide +kernel) rfl (pv_i rfl) ?_
    refine x_run (pc' := 25) (lo' := [some (.ref 8), some (.int v1), some (.int v2), some (.int v3), some (.int (q.1 8 7))]) (st' := [.ref 8]) 2 rfl ?_
    refine x_gf (c := 128) (ne := 0) (v := .ref 9) rfl (by decide +kernel) rfl rfl ?_
    refine x_run (pc' := 31) (lo' := [some (.ref 8), some (.int v1), some (.int v2), some (.int v3), some (.int (q.1 8 7))]) (st' := [.int v1, .int (q.1 8 7), .ref 9]) 2 rfl ?_
    obtain ⟨o2, hS⟩ := hS
    refine p_is (n := 24) rfl rfl o2 ?_
    refine x_run (pc' := 33) (lo' := [some (.ref 8), some (.int v1), some (.int v2), some (.int v3), some (.int (q.1 8 7))]) (st' := [.ref 8]) 1 rfl ?_
    refine x_gf (c := 129) (ne := 0) (v := .ref 10) rfl (by decide +kernel) rfl rfl ?_
    refine x_run (pc' := 39) (lo' := [some (.ref 8), some (.int v1), some (.int v2), some (.int v3), some (.int (q.1 8 7))]) (st' := [.int v2, .int (q.1 8 7), .ref 10]) 2 rfl ?_
    obtain ⟨o3, hS⟩ := hS
    refine p_is (n := 24) rfl rfl o3 ?_
    refine x_run (pc' := 41) (lo' := [some (.ref 8), some (.int v1), some (.int v2), some (.int v3), some (.int (q.1 8 7))]) (st' := [.ref 8]) 1 rfl ?_
    refine x_gf (c := 130) (ne := 0) (v := .ref 11) rfl (by decide +kernel) rfl rfl ?_
    refine x_run (pc' := 47) (lo' := [some (.ref 8), some (.int v1), some (.int v2), some (.int v3), some (.int (q.1 8 7))]) (st' := [.int v3, .int (q.1 8 7), .ref 11]) 2 rfl ?_
    obtain ⟨o4, hS⟩ := hS
    refine p_is (n := 24) rfl rfl o4 ?_
    refine x_run (pc' := 49) (lo' := [some (.ref 8), some (.int v1), some (.int v2), some (.int v3), some (.int (q.1 8 7))]) (st' := [.ref 8]) 1 rfl ?_
    refine x_gf (c := 133) (ne := 0) (v := .ref 14) rfl (by decide +kernel) rfl rfl ?_
    refine x_run (pc' := 55) (lo' := [some (.ref 8), some (.int v1), some (.int v2), some (.int v3), some (.int (q.1 8 7))]) (st' := [.int (-1), .int (q.1 8 7), .ref 14]) 2 rfl ?_
    obtain ⟨o5, hS⟩ := hS
    refine p_is (n := 24) rfl rfl o5 ?_
    refine x_run (pc' := 57) (lo' := [some (.ref 8), some (.int v1), some (.int v2), some (.int v3), some (.int (q.1 8 7))]) (st' := [.ref 8]) 1 rfl ?_
    refine x_gf (c := 134) (ne := 0) (v := .ref 15) rfl (by decide +kernel) rfl rfl ?_
    refine x_run (pc' := 65) (lo' := [some (.ref 8), some (.int v1), some (.int v2), some (.int v3), some (.int (q.1 8 7))]) (st' := [.int (-1), .int (2 * (q.1 8 7)), .ref 15]) 4 rfl ?_
    obtain ⟨o6, hS⟩ := hS
    refine p_is (n := 48) rfl rfl o6 ?_
    refine x_run (pc' := 67) (lo' := [some (.ref 8), some (.int v1), some (.int v2), some (.int v3), some (.int (q.1 8 7))]) (st' := [.ref 8]) 1 rfl ?_
    refine x_gf (c := 134) (ne := 0) (v := .ref 15) rfl (by decide +kernel) rfl rfl ?_
    refine x_run (pc' := 77) (lo' := [some (.ref 8), some (.int v1), some (.int v2), some (.int v3), some (.int (q.1 8 7))]) (st' := [.int (-1), .int ((2 * (q.1 8 7)) + 1), .ref 15]) 6 rfl ?_
    obtain ⟨o7, hS⟩ := hS
    refine p_is (n := 48) rfl rfl o7 ?_
    refine x_run (pc' := 81) (lo' := [some (.ref 8), some (.int v1), some (.int v2), some (.int v3), some (.int (q.1 8 7))]) (st' := [.int (q.1 8 7), .ref 8]) 2 rfl ?_
    obtain ⟨o8, hS⟩ := hS
    refine x_cv (j := 36) (ne := 0) (vs := [.int (q.1 8 7)]) (rest := []) rfl (by decide +kernel) (by decide +kernel) (by decide) (Eq.trans rfl (show 1 = _ from by decide +kernel)) rfl (by decide +kernel) rfl (Nat.le_of_ble_eq_true rfl) (by omega) (T36 (Nat.le_refl 1) o8) (hp_m hN) ?_
    show AW l X 35 c35 d r h' 84 [some (.ref 8), some (.int v1), some (.int v2), some (.int v3), some (.int (q.1 8 7))] [] (hp (F36_0 (q.1 8 7) (a_w (a_w (a_w (a_w (a_w (a_w (a_w q 8 7 ((q.1 8 7) + 1)) 9 (Int32.toNatClampNeg (q.1 8 7)) v1) 10 (Int32.toNatClampNeg (q.1 8 7)) v2) 11 (Int32.toNatClampNeg (q.1 8 7)) v3) 14 (Int32.toNatClampNeg (q.1 8 7)) (-1)) 15 (Int32.toNatClampNeg (2 * (q.1 8 7))) (-1)) 15 (Int32.toNatClampNeg ((2 * (q.1 8 7)) + 1)) (-1))))
    refine x_kill [0, 1, 2, 3] ?_
    exact A35_84 hd hN hG hS
  · rw [if_neg hc1] at hG
    replace hS := hS.2 hc1
    refine x_run (pc' := 10) (lo' := [some (.ref 8), some (.int v1), some (.int v2), some (.int v3), none]) (st' := [.int (-1)]) 1 rfl ?_
    obtain ⟨rfl, rfl⟩ := hG
    exact x_iret rfl (by decide +kernel)
theorem T35 {l : Launch} {X : aX} {d : Nat} {v1 : Int32} {v2 : Int32} {v3 : Int32} {q : aQ} (hd : 2 ≤ d) (hS : S35_0 v1 v2 v3 q) : Call l X d 35 [.ref 8, .int v1, .int v2, .int v3] (hp q) (some (.int (F35_0 v1 v2 v3 q).1)) (hp (F35_0 v1 v2 v3 q).2) := Call.of ok35 (by decide) (Nat.le_of_ble_eq_true rfl) ⟨Nat.le_refl _, Nat.le_refl _⟩ (A35_0 hd rfl ⟨rfl, rfl⟩ hS)
/-- TypeForecast$Program.addOpen(III)I -/
def F37_17 (s0 : Int32) (q : aQ) : Int32 × aQ := (if s0 = (-1) then (s0, q) else (s0, (a_w (a_w (a_w (a_w q 16 (Int32.toNatClampNeg (q.1 8 11)) s0) 17 (Int32.toNatClampNeg (q.1 8 11)) 0) 8 11 ((q.1 8 11) + 1)) 18 (Int32.toNatClampNeg ((q.1 8 11) + 1)) (-1))))
def S37_17 (s0 : Int32) (q : aQ) : Prop := ((s0 = (-1)) → True) ∧ (¬ (s0 = (-1)) → vp_in (q.1 8 11) 5 ∧ (vp_in (q.1 8 11) 5 ∧ (vp_in ((q.1 8 11) + 1) 6 ∧ (True))))
set_option maxRecDepth 100000 in
set_option maxHeartbeats 4000000 in
theorem A37_17 {l : Launch} {X : aX} {d : Nat} {r : Option Value} {h' : aH} {s0 : Int32} {q : aQ} (hd : 3 ≤ d) (hN : h'.1 = nk0) (hG : gI r h' (F37_17 s0 q)) (hS : S37_17 s0 q) : AW l X 37 c37 d r h' 17 [some (.ref 8), none, none, none, none] [.int s0] (hp q) := by
  unfold F37_17 at hG
  unfold S37_17 at hS
  refine x_run (pc' := 22) (lo' := [some (.ref 8), none, none, none, some (.int s0)]) (st' := [.int (-1), .int s0]) 3 rfl ?_
  refine x_ic 66 rfl rfl (fun (hc3 : s0 = (-1)) => ?_) (fun (hc3 : ¬ s0 = (-1)) => ?_)
  · rw [if_pos hc3] at hG
    replace hS := hS.1 hc3
    refine x_run (pc' := 68) (lo' := [some (.ref 8), none, none, none, some (.int s0)]) (st' := [.int s0]) 1 rfl ?_
    obtain ⟨rfl, rfl⟩ := hG
    exact x_iret rfl (by decide +kernel)
  · rw [if_neg hc3] at hG
    replace hS := hS.2 hc3
    refine x_run (pc' := 26) (lo' := [some (.ref 8), none, none, none, some (.int s0)]) (st' := [.ref 8]) 1 rfl ?_
    refine x_gf (c := 136) (ne := 0) (v := .ref 16) rfl (by decide +kernel) rfl rfl ?_
    refine x_run (pc' := 30) (lo' := [some (.ref 8), none, none, none, some (.int s0)]) (st' := [.ref 8, .ref 16]) 1 rfl ?_
    refine x_gf (c := 139) (ne := 0) (v := .int (q.1 8 11)) rfl (by decide +kernel) rfl rfl ?_
    refine x_run (pc' := 35) (lo' := [some (.ref 8), none, none, none, some (.int s0)]) (st' := [.int s0, .int (q.1 8 11), .ref 16]) 1 rfl ?_
    obtain ⟨o4, hS⟩ := hS
    refine p_is (n := 5) rfl rfl o4 ?_
    refine x_run (pc' := 37) (lo' := [some (.ref 8), none, none, none, some (.int s0)]) (st' := [.ref 8]) 1 rfl ?_
    refine x_gf (c := 137) (ne := 0) (v := .ref 17) rfl (by decide +kernel) rfl rfl ?_
    refine x_run (pc' := 41) (lo' := [some (.ref 8), none, none, none, some (.int s0)]) (st' := [.ref 8, .ref 17]) 1 rfl ?_
    refine x_gf (c := 139) (ne := 0) (v := .int (q.1 8 11)) rfl (by decide +kernel) rfl rfl ?_
    refine x_run (pc' := 45) (lo' := [some (.ref 8), none, none, none, some (.int s0)]) (st' := [.int 0, .int (q.1 8 11), .ref 17]) 1 rfl ?_
    obtain ⟨o5, hS⟩ := hS
    refine p_is (n := 5) rfl rfl o5 ?_
    refine x_run (pc' := 48) (lo' := [some (.ref 8), none, none, none, some (.int s0)]) (st' := [.ref 8, .ref 8]) 2 rfl ?_
    refine x_gf (c := 139) (ne := 0) (v := .int (q.1 8 11)) rfl (by decide +kernel) rfl rfl ?_
    refine x_run (pc' := 53) (lo' := [some (.ref 8), none, none, none, some (.int s0)]) (st' := [.int ((q.1 8 11) + 1), .ref 8]) 2 rfl ?_
    refine x_pf (c := 139) (ne := 0) (h2 := hp (a_w (a_w (a_w q 16 (Int32.toNatClampNeg (q.1 8 11)) s0) 17 (Int32.toNatClampNeg (q.1 8 11)) 0) 8 11 ((q.1 8 11) + 1))) rfl (by decide +kernel) (by decide +kernel) rfl (pv_i rfl) ?_
    refine x_run (pc' := 57) (lo' := [some (.ref 8), none, none, none, some (.int s0)]) (st' := [.ref 8]) 1 rfl ?_
    refine x_gf (c := 138) (ne := 0) (v := .ref 18) rfl (by decide +kernel) rfl rfl ?_
    refine x_run (pc' := 61) (lo' := [some (.ref 8), none, none, none, some (.int s0)]) (st' := [.ref 8, .ref 18]) 1 rfl ?_
    refine x_gf (c := 139) (ne := 0) (v := .int ((q.1 8 11) + 1)) rfl (by decide +kernel) rfl rfl ?_
    refine x_run (pc' := 65) (lo' := [some (.ref 8), none, none, none, some (.int s0)]) (st' := [.int (-1), .int ((q.1 8 11) + 1), .ref 18]) 1 rfl ?_
    obtain ⟨o6, hS⟩ := hS
    refine p_is (n := 6) rfl rfl o6 ?_
    refine x_run (pc' := 68) (lo' := [some (.ref 8), none, none, none, some (.int s0)]) (st' := [.int s0]) 1 rfl ?_
    obtain ⟨rfl, rfl⟩ := hG
    exact x_iret rfl (by decide +kernel)
def F37_0 (v1 : Int32) (v2 : Int32) (v3 : Int32) (q : aQ) : Int32 × aQ := (if (q.1 8 11) < 5 then F37_17 ((F35_0 v1 v2 v3 q).1) ((F35_0 v1 v2 v3 q).2) else ((-1), q))
def S37_0 (v1 : Int32) (v2 : Int32) (v3 : Int32) (q : aQ) : Prop := (((q.1 8 11) < 5) → S35_0 v1 v2 v3 q ∧ (S37_17 ((F35_0 v1 v2 v3 q).1) ((F35_0 v1 v2 v3 q).2))) ∧ (¬ ((q.1 8 11) < 5) → True)
set_option maxRecDepth 100000 in
set_option maxHeartbeats 4000000 in
theorem A37_0 {l : Launch} {X : aX} {d : Nat} {r : Option Value} {h' : aH} {v1 : Int32} {v2 : Int32} {v3 : Int32} {q : aQ} (hd : 3 ≤ d) (hN : h'.1 = nk0) (hG : gI r h' (F37_0 v1 v2 v3 q)) (hS : S37_0 v1 v2 v3 q) : AW l X 37 c37 d r h' 0 [some (.ref 8), some (.int v1), some (.int v2), some (.int v3), none] [] (hp q) := by
  unfold F37_0 at hG
  unfold S37_0 at hS
  refine x_run (pc' := 1) (lo' := [some (.ref 8), some (.int v1), some (.int v2), some (.int v3), none]) (st' := [.ref 8]) 1 rfl ?_
  refine x_gf (c := 139) (ne := 0) (v := .int (q.1 8 11)) rfl (by decide +kernel) rfl rfl ?_
  refine x_run (pc' := 5) (lo' := [some (.ref 8), some (.int v1), some (.int v2), some (.int v3), none]) (st' := [.int 5, .int (q.1 8 11)]) 1 rfl ?_
  refine x_ic 10 rfl rfl (fun (hc1 : (q.1 8 11) < 5) => ?_) (fun (hc1 : ¬ (q.1 8 11) < 5) => ?_)
  · rw [if_pos hc1] at hG
    replace hS := hS.1 hc1
    refine x_run (pc' := 14) (lo' := [some (.ref 8), some (.int v1), some (.int v2), some (.int v3), none]) (st' := [.int v3, .int v2, .int v1, .ref 8]) 4 rfl ?_
    obtain ⟨o2, hS⟩ := hS
    refine x_cv (j := 35) (ne := 0) (vs := [.int v1, .int v2, .int v3]) (rest := []) rfl (by decide +kernel) (by decide +kernel) (by decide) (Eq.trans rfl (show 3 = _ from by decide +kernel)) rfl (by decide +kernel) rfl (Nat.le_of_ble_eq_true rfl) (by omega) (T35 (Nat.le_refl 2) o2) (hp_m hN) ?_
    show AW l X 37 c37 d r h' 17 [some (.ref 8), some (.int v1), some (.int v2), some (.int v3), none] [.int (F35_0 v1 v2 v3 q).1] (hp (F35_0 v1 v2 v3 q).2)
    refine x_kill [1, 2, 3] ?_
    exact A37_17 hd hN hG hS
  · rw [if_neg hc1] at hG
    replace hS := hS.2 hc1
    refine x_run (pc' := 9) (lo' := [some (.ref 8), some (.int v1), some (.int v2), some (.int v3), none]) (st' := [.int (-1)]) 1 rfl ?_
    obtain ⟨rfl, rfl⟩ := hG
    exact x_iret rfl (by decide +kernel)
theorem T37 {l : Launch} {X : aX} {d : Nat} {v1 : Int32} {v2 : Int32} {v3 : Int32} {q : aQ} (hd : 3 ≤ d) (hS : S37_0 v1 v2 v3 q) : Call l X d 37 [.ref 8, .int v1, .int v2, .int v3] (hp q) (some (.int (F37_0 v1 v2 v3 q).1)) (hp (F37_0 v1 v2 v3 q).2) := Call.of ok37 (by decide) (Nat.le_of_ble_eq_true rfl) ⟨Nat.le_refl _, Nat.le_refl _⟩ (A37_0 hd rfl ⟨rfl, rfl⟩ hS)
/-- TypeForecast$Program.openSecondBlock()Z -/
def F38_0 (q : aQ) : Int32 × aQ := (if (q.1 8 11) = 0 then (0, q) else (if (q.1 17 (Int32.toNatClampNeg ((q.1 8 11) - 1))) = 0 then (if (q.1 9 (Int32.toNatClampNeg (q.1 16 (Int32.toNatClampNeg ((q.1 8 11) - 1))))) = 5 then (0, q) else (1, (a_w (a_w q 17 (Int32.toNatClampNeg ((q.1 8 11) - 1)) 1) 18 (Int32.toNatClampNeg (q.1 8 11)) (-1)))) else (0, q)))
def S38_0 (q : aQ) : Prop := (((q.1 8 11) = 0) → True) ∧ (¬ ((q.1 8 11) = 0) → vp_in ((q.1 8 11) - 1) 5 ∧ ((((q.1 17 (Int32.toNatClampNeg ((q.1 8 11) - 1))) = 0) → vp_in ((q.1 8 11) - 1) 5 ∧ (vp_in (q.1 16 (Int32.toNatClampNeg ((q.1 8 11) - 1))) 24 ∧ ((((q.1 9 (Int32.toNatClampNeg (q.1 16 (Int32.toNatClampNeg ((q.1 8 11) - 1))))) = 5) → True) ∧ (¬ ((q.1 9 (Int32.toNatClampNeg (q.1 16 (Int32.toNatClampNeg ((q.1 8 11) - 1))))) = 5) → vp_in ((q.1 8 11) - 1) 5 ∧ (vp_in (q.1 8 11) 6 ∧ (True)))))) ∧ (¬ ((q.1 17 (Int32.toNatClampNeg ((q.1 8 11) - 1))) = 0) → True)))
set_option maxRecDepth 100000 in
set_option maxHeartbeats 4000000 in
theorem A38_0 {l : Launch} {X : aX} {d : Nat} {r : Option Value} {h' : aH} {q : aQ} (hd : 1 ≤ d) (hN : h'.1 = nk0) (hG : gI r h' (F38_0 q)) (hS : S38_0 q) : AW l X 38 c38 d r h' 0 [some (.ref 8)] [] (hp q) := by
  unfold F38_0 at hG
  unfold S38_0 at hS
  refine x_run (pc' := 1) (lo' := [some (.ref 8)]) (st' := [.ref 8]) 1 rfl ?_
  refine x_gf (c := 139) (ne := 0) (v := .int (q.1 8 11)) rfl (by decide +kernel) rfl rfl ?_
  refine x_if 21 rfl rfl (fun (hc1 : (q.1 8 11) = 0) => ?_) (fun (hc1 : ¬ (q.1 8 11) = 0) => ?_)
  · rw [if_pos hc1] at hG
    replace hS := hS.1 hc1
    refine x_run (pc' := 22) (lo' := [some (.ref 8)]) (st' := [.int 0]) 1 rfl ?_
    obtain ⟨rfl, rfl⟩ := hG
    exact x_zret rfl (by decide +kernel) (Or.inl rfl)
  · rw [if_neg hc1] at hG
    replace hS := hS.2 hc1
    refine x_run (pc' := 8) (lo' := [some (.ref 8)]) (st' := [.ref 8]) 1 rfl ?_
    refine x_gf (c := 137) (ne := 0) (v := .ref 17) rfl (by decide +kernel) rfl rfl ?_
    refine x_run (pc' := 12) (lo' := [some (.ref 8)]) (st' := [.ref 8, .ref 17]) 1 rfl ?_
    refine x_gf (c := 139) (ne := 0) (v := .int (q.1 8 11)) rfl (by decide +kernel) rfl rfl ?_
    refine x_run (pc' := 17) (lo' := [some (.ref 8)]) (st' := [.int ((q.1 8 11) - 1), .ref 17]) 2 rfl ?_
    obtain ⟨o2, hS⟩ := hS
    refine p_ia (n := 5) (v := (q.1 17 (Int32.toNatClampNeg ((q.1 8 11) - 1)))) rfl rfl o2 rfl ?_
    refine x_if 23 rfl rfl (fun (hc3 : (q.1 17 (Int32.toNatClampNeg ((q.1 8 11) - 1))) = 0) => ?_) (fun (hc3 : ¬ (q.1 17 (Int32.toNatClampNeg ((q.1 8 11) - 1))) = 0) => ?_)
    · rw [if_pos hc3] at hG
      replace hS := hS.1 hc3
      refine x_run (pc' := 24) (lo' := [some (.ref 8)]) (st' := [.ref 8]) 1 rfl ?_
      refine x_gf (c := 128) (ne := 0) (v := .ref 9) rfl (by decide +kernel) rfl rfl ?_
      refine x_run (pc' := 28) (lo' := [some (.ref 8)]) (st' := [.ref 8, .ref 9]) 1 rfl ?_
      refine x_gf (c := 136) (ne := 0) (v := .ref 16) rfl (by decide +kernel) rfl rfl ?_
      refine x_run (pc' := 32) (lo' := [some (.ref 8)]) (st' := [.ref 8, .ref 16, .ref 9]) 1 rfl ?_
      refine x_gf (c := 139) (ne := 0) (v := .int (q.1 8 11)) rfl (by decide +kernel) rfl rfl ?_
      refine x_run (pc' := 37) (lo' := [some (.ref 8)]) (st' := [.int ((q.1 8 11) - 1), .ref 16, .ref 9]) 2 rfl ?_
      obtain ⟨o4, hS⟩ := hS
      refine p_ia (n := 5) (v := (q.1 16 (Int32.toNatClampNeg ((q.1 8 11) - 1)))) rfl rfl o4 rfl ?_
      obtain ⟨o5, hS⟩ := hS
      refine p_ia (n := 24) (v := (q.1 9 (Int32.toNatClampNeg (q.1 16 (Int32.toNatClampNeg ((q.1 8 11) - 1)))))) rfl rfl o5 rfl ?_
      refine x_run (pc' := 40) (lo' := [some (.ref 8)]) (st' := [.int 5, .int (q.1 9 (Int32.toNatClampNeg (q.1 16 (Int32.toNatClampNeg ((q.1 8 11) - 1)))))]) 1 rfl ?_
      refine x_ic 45 rfl rfl (fun (hc6 : ¬ (q.1 9 (Int32.toNatClampNeg (q.1 16 (Int32.toNatClampNeg ((q.1 8 11) - 1))))) = 5) => ?_) (fun (hc6 : (q.1 9 (Int32.toNatClampNeg (q.1 16 (Int32.toNatClampNeg ((q.1 8 11) - 1))))) = 5) => ?_)
      · rw [if_neg hc6] at hG
        replace hS := hS.2 hc6
        refine x_run (pc' := 46) (lo' := [some (.ref 8)]) (st' := [.ref 8]) 1 rfl ?_
        refine x_gf (c := 137) (ne := 0) (v := .ref 17) rfl (by decide +kernel) rfl rfl ?_
        refine x_run (pc' := 50) (lo' := [some (.ref 8)]) (st' := [.ref 8, .ref 17]) 1 rfl ?_
        refine x_gf (c := 139) (ne := 0) (v := .int (q.1 8 11)) rfl (by decide +kernel) rfl rfl ?_
        refine x_run (pc' := 56) (lo' := [some (.ref 8)]) (st' := [.int 1, .int ((q.1 8 11) - 1), .ref 17]) 3 rfl ?_
        obtain ⟨o7, hS⟩ := hS
        refine p_is (n := 5) rfl rfl o7 ?_
        refine x_run (pc' := 58) (lo' := [some (.ref 8)]) (st' := [.ref 8]) 1 rfl ?_
        refine x_gf (c := 138) (ne := 0) (v := .ref 18) rfl (by decide +kernel) rfl rfl ?_
        refine x_run (pc' := 62) (lo' := [some (.ref 8)]) (st' := [.ref 8, .ref 18]) 1 rfl ?_
        refine x_gf (c := 139) (ne := 0) (v := .int (q.1 8 11)) rfl (by decide +kernel) rfl rfl ?_
        refine x_run (pc' := 66) (lo' := [some (.ref 8)]) (st' := [.int (-1), .int (q.1 8 11), .ref 18]) 1 rfl ?_
        obtain ⟨o8, hS⟩ := hS
        refine p_is (n := 6) rfl rfl o8 ?_
        refine x_run (pc' := 68) (lo' := [some (.ref 8)]) (st' := [.int 1]) 1 rfl ?_
        obtain ⟨rfl, rfl⟩ := hG
        exact x_zret rfl (by decide +kernel) (Or.inr rfl)
      · rw [if_pos hc6] at hG
        replace hS := hS.1 hc6
        refine x_run (pc' := 44) (lo' := [some (.ref 8)]) (st' := [.int 0]) 1 rfl ?_
        obtain ⟨rfl, rfl⟩ := hG
        exact x_zret rfl (by decide +kernel) (Or.inl rfl)
    · rw [if_neg hc3] at hG
      replace hS := hS.2 hc3
      refine x_run (pc' := 22) (lo' := [some (.ref 8)]) (st' := [.int 0]) 1 rfl ?_
      obtain ⟨rfl, rfl⟩ := hG
      exact x_zret rfl (by decide +kernel) (Or.inl rfl)
theorem T38 {l : Launch} {X : aX} {d : Nat} {q : aQ} (hd : 1 ≤ d) (hS : S38_0 q) : Call l X d 38 [.ref 8] (hp q) (some (.int (F38_0 q).1)) (hp (F38_0 q).2) := Call.of ok38 (by decide) (Nat.le_of_ble_eq_true rfl) ⟨Nat.le_refl _, Nat.le_refl _⟩ (A38_0 hd rfl ⟨rfl, rfl⟩ hS)
/-- TypeForecast$Program.close()Z -/
def F39_0 (q : aQ) : Int32 × aQ := (if (q.1 8 11) = 0 then (0, q) else (1, (a_w q 8 11 ((q.1 8 11) - 1))))
def S39_0 (q : aQ) : Prop := (((q.1 8 11) = 0) → True) ∧ (¬ ((q.1 8 11) = 0) → True)
set_option maxRecDepth 100000 in
set_option maxHeartbeats 4000000 in
theorem A39_0 {l : Launch} {X : aX} {d : Nat} {r : Option Value} {h' : aH} {q : aQ} (hd : 1 ≤ d) (hN : h'.1 = nk0) (hG : gI r h' (F39_0 q)) (hS : S39_0 q) : AW l X 39 c39 d r h' 0 [some (.ref 8)] [] (hp q) := by
  unfold F39_0 at hG
  unfold S39_0 at hS
  refine x_run (pc' := 1) (lo' := [some (.ref 8)]) (st' := [.ref 8]) 1 rfl ?_
  refine x_gf (c := 139) (ne := 0) (v := .int (q.1 8 11)) rfl (by decide +kernel) rfl rfl ?_
  refine x_if 9 rfl rfl (fun (hc1 : ¬ (q.1 8 11) = 0) => ?_) (fun (hc1 : (q.1 8 11) = 0) => ?_)
  · rw [if_neg hc1] at hG
    replace hS := hS.2 hc1
    refine x_run (pc' := 11) (lo' := [some (.ref 8)]) (st' := [.ref 8, .ref 8]) 2 rfl ?_
    refine x_gf (c := 139) (ne := 0) (v := .int (q.1 8 11)) rfl (by decide +kernel) rfl rfl ?_
    refine x_run (pc' := 16) (lo' := [some (.ref 8)]) (st' := [.int ((q.1 8 11) - 1), .ref 8]) 2 rfl ?_
    refine x_pf (c := 139) (ne := 0) (h2 := hp (a_w q 8 11 ((q.1 8 11) - 1))) rfl (by decide +kernel) (by decide +kernel) rfl (pv_i rfl) ?_
    refine x_run (pc' := 20) (lo' := [some (.ref 8)]) (st' := [.int 1]) 1 rfl ?_
    obtain ⟨rfl, rfl⟩ := hG
    exact x_zret rfl (by decide +kernel) (Or.inr rfl)
  · rw [if_pos hc1] at hG
    replace hS := hS.1 hc1
    refine x_run (pc' := 8) (lo' := [some (.ref 8)]) (st' := [.int 0]) 1 rfl ?_
    obtain ⟨rfl, rfl⟩ := hG
    exact x_zret rfl (by decide +kernel) (Or.inl rfl)
theorem T39 {l : Launch} {X : aX} {d : Nat} {q : aQ} (hd : 1 ≤ d) (hS : S39_0 q) : Call l X d 39 [.ref 8] (hp q) (some (.int (F39_0 q).1)) (hp (F39_0 q).2) := Call.of ok39 (by decide) (Nat.le_of_ble_eq_true rfl) ⟨Nat.le_refl _, Nat.le_refl _⟩ (A39_0 hd rfl ⟨rfl, rfl⟩ hS)
/-- TypeForecast$Program.innermostOpenLoop()I -/
def F40_7 (v1 : Int32) (q : aQ) : (Int32) ⊕ ((Unit) ⊕ (Int32)) := (if v1 < 0 then .inr (.inl ()) else (if (q.1 9 (Int32.toNatClampNeg (q.1 16 (Int32.toNatClampNeg v1)))) = 5 then .inr (.inr (q.1 16 (Int32.toNatClampNeg v1))) else .inl (v1 + (-1))))
def S40_7 (v1 : Int32) (q : aQ) : Prop := ((v1 < 0) → True) ∧ (¬ (v1 < 0) → vp_in v1 5 ∧ (vp_in (q.1 16 (Int32.toNatClampNeg v1)) 24 ∧ ((((q.1 9 (Int32.toNatClampNeg (q.1 16 (Int32.toNatClampNeg v1)))) = 5) → vp_in v1 5 ∧ (True)) ∧ (¬ ((q.1 9 (Int32.toNatClampNeg (q.1 16 (Int32.toNatClampNeg v1)))) = 5) → True))))
set_option maxRecDepth 100000 in
set_option maxHeartbeats 4000000 in
theorem A40_7 {l : Launch} {X : aX} {d : Nat} {r : Option Value} {h' : aH} {v1 : Int32} {q : aQ} (hd : 1 ≤ d) (hN : h'.1 = nk0) (hG : gL (fun (s : Int32) => AW l X 40 c40 d r h' 7 [some (.ref 8), some (.int s)] [] (hp q)) (gE (fun (e : Unit) => AW l X 40 c40 d r h' 39 [none, none] [] (hp q)) (fun o => gI r h' (o, q))) (F40_7 v1 q)) (hS : S40_7 v1 q) : AW l X 40 c40 d r h' 7 [some (.ref 8), some (.int v1)] [] (hp q) := by
  unfold F40_7 at hG
  unfold S40_7 at hS
  refine x_run (pc' := 8) (lo' := [some (.ref 8), some (.int v1)]) (st' := [.int v1]) 1 rfl ?_
  refine x_if 39 rfl rfl (fun (hc1 : v1 < 0) => ?_) (fun (hc1 : ¬ v1 < 0) => ?_)
  · rw [if_pos hc1] at hG
    replace hS := hS.1 hc1
    refine x_kill [0, 1] ?_
    exact hG
  · rw [if_neg hc1] at hG
    replace hS := hS.2 hc1
    refine x_run (pc' := 12) (lo' := [some (.ref 8), some (.int v1)]) (st' := [.ref 8]) 1 rfl ?_
    refine x_gf (c := 128) (ne := 0) (v := .ref 9) rfl (by decide +kernel) rfl rfl ?_
    refine x_run (pc' := 16) (lo' := [some (.ref 8), some (.int v1)]) (st' := [.ref 8, .ref 9]) 1 rfl ?_
    refine x_gf (c := 136) (ne := 0) (v := .ref 16) rfl (by decide +kernel) rfl rfl ?_
    refine x_run (pc' := 20) (lo' := [some (.ref 8), some (.int v1)]) (st' := [.int v1, .ref 16, .ref 9]) 1 rfl ?_
    obtain ⟨o2, hS⟩ := hS
    refine p_ia (n := 5) (v := (q.1 16 (Int32.toNatClampNeg v1))) rfl rfl o2 rfl ?_
    obtain ⟨o3, hS⟩ := hS
    refine p_ia (n := 24) (v := (q.1 9 (Int32.toNatClampNeg (q.1 16 (Int32.toNatClampNeg v1))))) rfl rfl o3 rfl ?_
    refine x_run (pc' := 23) (lo' := [some (.ref 8), some (.int v1)]) (st' := [.int 5, .int (q.1 9 (Int32.toNatClampNeg (q.1 16 (Int32.toNatClampNeg v1))))]) 1 rfl ?_
    refine x_ic 33 rfl rfl (fun (hc4 : ¬ (q.1 9 (Int32.toNatClampNeg (q.1 16 (Int32.toNatClampNeg v1)))) = 5) => ?_) (fun (hc4 : (q.1 9 (Int32.toNatClampNeg (q.1 16 (Int32.toNatClampNeg v1)))) = 5) => ?_)
    · rw [if_neg hc4] at hG
      replace hS := hS.2 hc4
      refine x_run (pc' := 7) (lo' := [some (.ref 8), some (.int (v1 + (-1)))]) (st' := []) 2 rfl ?_
      exact hG
    · rw [if_pos hc4] at hG
      replace hS := hS.1 hc4
      refine x_run (pc' := 27) (lo' := [some (.ref 8), some (.int v1)]) (st' := [.ref 8]) 1 rfl ?_
      refine x_gf (c := 136) (ne := 0) (v := .ref 16) rfl (by decide +kernel) rfl rfl ?_
      refine x_run (pc' := 31) (lo' := [some (.ref 8), some (.int v1)]) (st' := [.int v1, .ref 16]) 1 rfl ?_
      obtain ⟨o5, hS⟩ := hS
      refine p_ia (n := 5) (v := (q.1 16 (Int32.toNatClampNeg v1))) rfl rfl o5 rfl ?_
      obtain ⟨rfl, rfl⟩ := hG
      exact x_iret rfl (by decide +kernel)
def F40_39 (q : aQ) : Int32 := (-1)
def S40_39 (q : aQ) : Prop := True
set_option maxRecDepth 100000 in
set_option maxHeartbeats 4000000 in
theorem A40_39 {l : Launch} {X : aX} {d : Nat} {r : Option Value} {h' : aH} {q : aQ} (hd : 1 ≤ d) (hN : h'.1 = nk0) (hG : gI r h' (F40_39 q, q)) (hS : S40_39 q) : AW l X 40 c40 d r h' 39 [none, none] [] (hp q) := by
  unfold F40_39 at hG
  unfold S40_39 at hS
  refine x_run (pc' := 40) (lo' := [none, none]) (st' := [.int (-1)]) 1 rfl ?_
  obtain ⟨rfl, rfl⟩ := hG
  exact x_iret rfl (by decide +kernel)
def F40_0 (q : aQ) : Int32 := (match a_lp (fun (s : Int32) => F40_7 s q) 200 ((q.1 8 11) - 1) (.inl ()) with
    | .inl e6 => F40_39 q
    | .inr o7 => o7)
def S40_0 (q : aQ) : Prop := a_sf (fun (s : Int32) => F40_7 s q) (fun (s : Int32) => S40_7 s q) 200 ((q.1 8 11) - 1) ∧ (match a_lp (fun (s : Int32) => F40_7 s q) 200 ((q.1 8 11) - 1) (.inl ()) with
    | .inl e6 => S40_39 q
    | .inr _ => True)
set_option maxRecDepth 100000 in
set_option maxHeartbeats 4000000 in
theorem A40_0 {l : Launch} {X : aX} {d : Nat} {r : Option Value} {h' : aH} {q : aQ} (hd : 1 ≤ d) (hN : h'.1 = nk0) (hG : gI r h' (F40_0 q, q)) (hS : S40_0 q) : AW l X 40 c40 d r h' 0 [some (.ref 8), none] [] (hp q) := by
  unfold F40_0 at hG
  unfold S40_0 at hS
  refine x_run (pc' := 1) (lo' := [some (.ref 8), none]) (st' := [.ref 8]) 1 rfl ?_
  refine x_gf (c := 139) (ne := 0) (v := .int (q.1 8 11)) rfl (by decide +kernel) rfl rfl ?_
  refine x_run (pc' := 7) (lo' := [some (.ref 8), some (.int ((q.1 8 11) - 1))]) (st' := []) 3 rfl ?_
  obtain ⟨ho, hS⟩ := hS
  refine x_loop (fun (s : Int32) => F40_7 s q) (fun (s : Int32) => S40_7 s q) (fun (s : Int32) => AW l X 40 c40 d r h' 7 [some (.ref 8), some (.int s)] [] (hp q)) (gE (fun (e : Unit) => AW l X 40 c40 d r h' 39 [none, none] [] (hp q)) (fun o => gI r h' (o, q))) (fun s hs hg => A40_7 hd hN hg hs) 200 ((q.1 8 11) - 1) ho (fun ex he => ?_)
  rw [a_lp_eq he] at hG hS
  cases ex with
  | inl e6 =>
    dsimp only at hG hS
    exact A40_39 hd hN hG hS
  | inr o7 => exact hG
theorem T40 {l : Launch} {X : aX} {d : Nat} {q : aQ} (hd : 1 ≤ d) (hS : S40_0 q) : Call l X d 40 [.ref 8] (hp q) (some (.int (F40_0 q))) (hp q) := Call.of ok40 (by decide) (Nat.le_of_ble_eq_true rfl) ⟨Nat.le_refl _, Nat.le_refl _⟩ (A40_0 hd rfl ⟨rfl, rfl⟩ hS)
/-- TypeForecast$Program.start()I -/
def F41_0 (q : aQ) : Int32 := (if (q.1 8 7) ≤ 0 then 24 else 0)
def S41_0 (q : aQ) : Prop := (((q.1 8 7) ≤ 0) → True) ∧ (¬ ((q.1 8 7) ≤ 0) → True)
set_option maxRecDepth 100000 in
set_option maxHeartbeats 4000000 in
theorem A41_0 {l : Launch} {X : aX} {d : Nat} {r : Option Value} {h' : aH} {q : aQ} (hd : 1 ≤ d) (hN : h'.1 = nk0) (hG : gI r h' (F41_0 q, q)) (hS : S41_0 q) : AW l X 41 c41 d r h' 0 [some (.ref 8)] [] (hp q) := by
  unfold F41_0 at hG
  unfold S41_0 at hS
  refine x_run (pc' := 1) (lo' := [some (.ref 8)]) (st' := [.ref 8]) 1 rfl ?_
  refine x_gf (c := 135) (ne := 0) (v := .int (q.1 8 7)) rfl (by decide +kernel) rfl rfl ?_
  refine x_if 11 rfl rfl (fun (hc1 : (q.1 8 7) ≤ 0) => ?_) (fun (hc1 : ¬ (q.1 8 7) ≤ 0) => ?_)
  · rw [if_pos hc1] at hG
    replace hS := hS.1 hc1
    refine x_run (pc' := 13) (lo' := [some (.ref 8)]) (st' := [.int 24]) 1 rfl ?_
    obtain ⟨rfl, rfl⟩ := hG
    exact x_iret rfl (by decide +kernel)
  · rw [if_neg hc1] at hG
    replace hS := hS.2 hc1
    refine x_run (pc' := 13) (lo' := [some (.ref 8)]) (st' := [.int 0]) 2 rfl ?_
    obtain ⟨rfl, rfl⟩ := hG
    exact x_iret rfl (by decide +kernel)
theorem T41 {l : Launch} {X : aX} {d : Nat} {q : aQ} (hd : 1 ≤ d) (hS : S41_0 q) : Call l X d 41 [.ref 8] (hp q) (some (.int (F41_0 q))) (hp q) := Call.of ok41 (by decide) (Nat.le_of_ble_eq_true rfl) ⟨Nat.le_refl _, Nat.le_refl _⟩ (A41_0 hd rfl ⟨rfl, rfl⟩ hS)
/-- TypeForecast$Program.behind(I)I -/
def F43_4 (v2 : Int32) (v3 : Int32) (q : aQ) : (Int32 × Int32) ⊕ ((Unit) ⊕ (Int32)) := (if 5 < v3 then .inr (.inl ()) else (if (q.1 14 (Int32.toNatClampNeg v2)) = (-1) then (if (q.1 12 (Int32.toNatClampNeg v2)) = (-1) then .inr (.inr 24) else (if (q.1 9 (Int32.toNatClampNeg (q.1 12 (Int32.toNatClampNeg v2)))) = 5 then .inr (.inr (q.1 12 (Int32.toNatClampNeg v2))) else .inl ((q.1 12 (Int32.toNatClampNeg v2)), (v3 + 1)))) else .inr (.inr (q.1 14 (Int32.toNatClampNeg v2)))))
def S43_4 (v2 : Int32) (v3 : Int32) (q : aQ) : Prop := ((5 < v3) → True) ∧ (¬ (5 < v3) → vp_in v2 24 ∧ ((((q.1 14 (Int32.toNatClampNeg v2)) = (-1)) → vp_in v2 24 ∧ ((((q.1 12 (Int32.toNatClampNeg v2)) = (-1)) → True) ∧ (¬ ((q.1 12 (Int32.toNatClampNeg v2)) = (-1)) → vp_in (q.1 12 (Int32.toNatClampNeg v2)) 24 ∧ ((((q.1 9 (Int32.toNatClampNeg (q.1 12 (Int32.toNatClampNeg v2)))) = 5) → True) ∧ (¬ ((q.1 9 (Int32.toNatClampNeg (q.1 12 (Int32.toNatClampNeg v2)))) = 5) → True))))) ∧ (¬ ((q.1 14 (Int32.toNatClampNeg v2)) = (-1)) → vp_in v2 24 ∧ (True))))
set_option maxRecDepth 100000 in
set_option maxHeartbeats 4000000 in
theorem A43_4 {l : Launch} {X : aX} {d : Nat} {r : Option Value} {h' : aH} {v2 : Int32} {v3 : Int32} {q : aQ} (hd : 1 ≤ d) (hN : h'.1 = nk0) (hG : gL (fun (s : Int32 × Int32) => AW l X 43 c43 d r h' 4 [some (.ref 8), none, some (.int s.1), some (.int s.2)] [] (hp q)) (gE (fun (e : Unit) => AW l X 43 c43 d r h' 59 [none, none, none, none] [] (hp q)) (fun o => gI r h' (o, q))) (F43_4 v2 v3 q)) (hS : S43_4 v2 v3 q) : AW l X 43 c43 d r h' 4 [some (.ref 8), none, some (.int v2), some (.int v3)] [] (hp q) := by
  unfold F43_4 at hG
  unfold S43_4 at hS
  refine x_run (pc' := 6) (lo' := [some (.ref 8), none, some (.int v2), some (.int v3)]) (st' := [.int 5, .int v3]) 2 rfl ?_
  refine x_ic 59 rfl rfl (fun (hc1 : 5 < v3) => ?_) (fun (hc1 : ¬ 5 < v3) => ?_)
  · rw [if_pos hc1] at hG
    replace hS := hS.1 hc1
    refine x_kill [0, 2, 3] ?_
    exact hG
  · rw [if_neg hc1] at hG
    replace hS := hS.2 hc1
    refine x_run (pc' := 10) (lo' := [some (.ref 8), none, some (.int v2), some (.int v3)]) (st' := [.ref 8]) 1 rfl ?_
    refine x_gf (c := 133) (ne := 0) (v := .ref 14) rfl (by decide +kernel) rfl rfl ?_
    refine x_run (pc' := 14) (lo' := [some (.ref 8), none, some (.int v2), some (.int v3)]) (st' := [.int v2, .ref 14]) 1 rfl ?_
    obtain ⟨o2, hS⟩ := hS
    refine p_ia (n := 24) (v := (q.1 14 (Int32.toNatClampNeg v2))) rfl rfl o2 rfl ?_
    refine x_run (pc' := 16) (lo' := [some (.ref 8), none, some (.int v2), some (.int v3)]) (st' := [.int (-1), .int (q.1 14 (Int32.toNatClampNeg v2))]) 1 rfl ?_
    refine x_ic 26 rfl rfl (fun (hc3 : (q.1 14 (Int32.toNatClampNeg v2)) = (-1)) => ?_) (fun (hc3 : ¬ (q.1 14 (Int32.toNatClampNeg v2)) = (-1)) => ?_)
    · rw [if_pos hc3] at hG
      replace hS := hS.1 hc3
      refine x_run (pc' := 27) (lo' := [some (.ref 8), none, some (.int v2), some (.int v3)]) (st' := [.ref 8]) 1 rfl ?_
      refine x_gf (c := 131) (ne := 0) (v := .ref 12) rfl (by decide +kernel) rfl rfl ?_
      refine x_run (pc' := 31) (lo' := [some (.ref 8), none, some (.int v2), some (.int v3)]) (st' := [.int v2, .ref 12]) 1 rfl ?_
      obtain ⟨o4, hS⟩ := hS
      refine p_ia (n := 24) (v := (q.1 12 (Int32.toNatClampNeg v2))) rfl rfl o4 rfl ?_
      refine x_run (pc' := 35) (lo' := [some (.ref 8), none, some (.int (q.1 12 (Int32.toNatClampNeg v2))), some (.int v3)]) (st' := [.int (-1), .int (q.1 12 (Int32.toNatClampNeg v2))]) 3 rfl ?_
      refine x_ic 41 rfl rfl (fun (hc5 : ¬ (q.1 12 (Int32.toNatClampNeg v2)) = (-1)) => ?_) (fun (hc5 : (q.1 12 (Int32.toNatClampNeg v2)) = (-1)) => ?_)
      · rw [if_neg hc5] at hG
        replace hS := hS.2 hc5
        refine x_run (pc' := 42) (lo' := [some (.ref 8), none, some (.int (q.1 12 (Int32.toNatClampNeg v2))), some (.int v3)]) (st' := [.ref 8]) 1 rfl ?_
        refine x_gf (c := 128) (ne := 0) (v := .ref 9) rfl (by decide +kernel) rfl rfl ?_
        refine x_run (pc' := 46) (lo' := [some (.ref 8), none, some (.int (q.1 12 (Int32.toNatClampNeg v2))), some (.int v3)]) (st' := [.int (q.1 12 (Int32.toNatClampNeg v2)), .ref 9]) 1 rfl ?_
        obtain ⟨o6, hS⟩ := hS
        refine p_ia (n := 24) (v := (q.1 9 (Int32.toNatClampNeg (q.1 12 (Int32.toNatClampNeg v2))))) rfl rfl o6 rfl ?_
        refine x_run (pc' := 48) (lo' := [some (.ref 8), none, some (.int (q.1 12 (Int32.toNatClampNeg v2))), some (.int v3)]) (st' := [.int 5, .int (q.1 9 (Int32.toNatClampNeg (q.1 12 (Int32.toNatClampNeg v2))))]) 1 rfl ?_
        refine x_ic 53 rfl rfl (fun (hc7 : ¬ (q.1 9 (Int32.toNatClampNeg (q.1 12 (Int32.toNatClampNeg v2)))) = 5) => ?_) (fun (hc7 : (q.1 9 (Int32.toNatClampNeg (q.1 12 (Int32.toNatClampNeg v2)))) = 5) => ?_)
        · rw [if_neg hc7] at hG
          replace hS := hS.2 hc7
          refine x_run (pc' := 4) (lo' := [some (.ref 8), none, some (.int (q.1 12 (Int32.toNatClampNeg v2))), some (.int (v3 + 1))]) (st' := []) 2 rfl ?_
          exact hG
        · rw [if_pos hc7] at hG
          replace hS := hS.1 hc7
          refine x_run (pc' := 52) (lo' := [some (.ref 8), none, some (.int (q.1 12 (Int32.toNatClampNeg v2))), some (.int v3)]) (st' := [.int (q.1 12 (Int32.toNatClampNeg v2))]) 1 rfl ?_
          obtain ⟨rfl, rfl⟩ := hG
          exact x_iret rfl (by decide +kernel)
      · rw [if_pos hc5] at hG
        replace hS := hS.1 hc5
        refine x_run (pc' := 40) (lo' := [some (.ref 8), none, some (.int (q.1 12 (Int32.toNatClampNeg v2))), some (.int v3)]) (st' := [.int 24]) 1 rfl ?_
        obtain ⟨rfl, rfl⟩ := hG
        exact x_iret rfl (by decide +kernel)
    · rw [if_neg hc3] at hG
      replace hS := hS.2 hc3
      refine x_run (pc' := 20) (lo' := [some (.ref 8), none, some (.int v2), some (.int v3)]) (st' := [.ref 8]) 1 rfl ?_
      refine x_gf (c := 133) (ne := 0) (v := .ref 14) rfl (by decide +kernel) rfl rfl ?_
      refine x_run (pc' := 24) (lo' := [some (.ref 8), none, some (.int v2), some (.int v3)]) (st' := [.int v2, .ref 14]) 1 rfl ?_
      obtain ⟨o8, hS⟩ := hS
      refine p_ia (n := 24) (v := (q.1 14 (Int32.toNatClampNeg v2))) rfl rfl o8 rfl ?_
      obtain ⟨rfl, rfl⟩ := hG
      exact x_iret rfl (by decide +kernel)
def F43_59 (q : aQ) : Int32 := 24
def S43_59 (q : aQ) : Prop := True
set_option maxRecDepth 100000 in
set_option maxHeartbeats 4000000 in
theorem A43_59 {l : Launch} {X : aX} {d : Nat} {r : Option Value} {h' : aH} {q : aQ} (hd : 1 ≤ d) (hN : h'.1 = nk0) (hG : gI r h' (F43_59 q, q)) (hS : S43_59 q) : AW l X 43 c43 d r h' 59 [none, none, none, none] [] (hp q) := by
  unfold F43_59 at hG
  unfold S43_59 at hS
  refine x_run (pc' := 61) (lo' := [none, none, none, none]) (st' := [.int 24]) 1 rfl ?_
  obtain ⟨rfl, rfl⟩ := hG
  exact x_iret rfl (by decide +kernel)
def F43_0 (v1 : Int32) (q : aQ) : Int32 := (match a_lp (fun (s : Int32 × Int32) => F43_4 s.1 s.2 q) 200 (v1, 0) (.inl ()) with
    | .inl e9 => F43_59 q
    | .inr o10 => o10)
def S43_0 (v1 : Int32) (q : aQ) : Prop := a_sf (fun (s : Int32 × Int32) => F43_4 s.1 s.2 q) (fun (s : Int32 × Int32) => S43_4 s.1 s.2 q) 200 (v1, 0) ∧ (match a_lp (fun (s : Int32 × Int32) => F43_4 s.1 s.2 q) 200 (v1, 0) (.inl ()) with
    | .inl e9 => S43_59 q
    | .inr _ => True)
set_option maxRecDepth 100000 in
set_option maxHeartbeats 4000000 in
theorem A43_0 {l : Launch} {X : aX} {d : Nat} {r : Option Value} {h' : aH} {v1 : Int32} {q : aQ} (hd : 1 ≤ d) (hN : h'.1 = nk0) (hG : gI r h' (F43_0 v1 q, q)) (hS : S43_0 v1 q) : AW l X 43 c43 d r h' 0 [some (.ref 8), some (.int v1), none, none] [] (hp q) := by
  unfold F43_0 at hG
  unfold S43_0 at hS
  refine x_run (pc' := 4) (lo' := [some (.ref 8), some (.int v1), some (.int v1), some (.int 0)]) (st' := []) 4 rfl ?_
  refine x_kill [1] ?_
  obtain ⟨ho, hS⟩ := hS
  refine x_loop (fun (s : Int32 × Int32) => F43_4 s.1 s.2 q) (fun (s : Int32 × Int32) => S43_4 s.1 s.2 q) (fun (s : Int32 × Int32) => AW l X 43 c43 d r h' 4 [some (.ref 8), none, some (.int s.1), some (.int s.2)] [] (hp q)) (gE (fun (e : Unit) => AW l X 43 c43 d r h' 59 [none, none, none, none] [] (hp q)) (fun o => gI r h' (o, q))) (fun s hs hg => A43_4 hd hN hg hs) 200 (v1, 0) ho (fun ex he => ?_)
  rw [a_lp_eq he] at hG hS
  cases ex with
  | inl e9 =>
    dsimp only at hG hS
    exact A43_59 hd hN hG hS
  | inr o10 => exact hG
theorem T43 {l : Launch} {X : aX} {d : Nat} {v1 : Int32} {q : aQ} (hd : 1 ≤ d) (hS : S43_0 v1 q) : Call l X d 43 [.ref 8, .int v1] (hp q) (some (.int (F43_0 v1 q))) (hp q) := Call.of ok43 (by decide) (Nat.le_of_ble_eq_true rfl) ⟨Nat.le_refl _, Nat.le_refl _⟩ (A43_0 hd rfl ⟨rfl, rfl⟩ hS)
/-- TypeForecast$Program.entry(II)I -/
def F42_36 (v1 : Int32) (q : aQ) : Int32 := (F43_0 v1 q)
def S42_36 (v1 : Int32) (q : aQ) : Prop := S43_0 v1 q ∧ (True)
set_option maxRecDepth 100000 in
set_option maxHeartbeats 4000000 in
theorem A42_36 {l : Launch} {X : aX} {d : Nat} {r : Option Value} {h' : aH} {v1 : Int32} {q : aQ} (hd : 2 ≤ d) (hN : h'.1 = nk0) (hG : gI r h' (F42_36 v1 q, q)) (hS : S42_36 v1 q) : AW l X 42 c42 d r h' 36 [some (.ref 8), some (.int v1), none, none] [] (hp q) := by
  unfold F42_36 at hG
  unfold S42_36 at hS
  refine x_run (pc' := 38) (lo' := [some (.ref 8), some (.int v1), none, none]) (st' := [.int v1, .ref 8]) 2 rfl ?_
  obtain ⟨o5, hS⟩ := hS
  refine x_cv (j := 43) (ne := 0) (vs := [.int v1]) (rest := []) rfl (by decide +kernel) (by decide +kernel) (by decide) (Eq.trans rfl (show 1 = _ from by decide +kernel)) rfl (by decide +kernel) rfl (Nat.le_of_ble_eq_true rfl) (by omega) (T43 (Nat.le_refl 1) o5) (hp_m hN) ?_
  show AW l X 42 c42 d r h' 41 [some (.ref 8), some (.int v1), none, none] [.int (F43_0 v1 q)] (hp q)
  obtain ⟨rfl, rfl⟩ := hG
  exact x_iret rfl (by decide +kernel)
def F42_0 (v1 : Int32) (v2 : Int32) (q : aQ) : Int32 := (if (q.1 15 (Int32.toNatClampNeg ((2 * v1) + v2))) = (-1) then (if (q.1 9 (Int32.toNatClampNeg v1)) = 5 then (if v2 = 0 then v1 else F42_36 v1 q) else F42_36 v1 q) else (q.1 15 (Int32.toNatClampNeg ((2 * v1) + v2))))
def S42_0 (v1 : Int32) (v2 : Int32) (q : aQ) : Prop := vp_in ((2 * v1) + v2) 48 ∧ ((((q.1 15 (Int32.toNatClampNeg ((2 * v1) + v2))) = (-1)) → vp_in v1 24 ∧ ((((q.1 9 (Int32.toNatClampNeg v1)) = 5) → ((v2 = 0) → True) ∧ (¬ (v2 = 0) → S42_36 v1 q)) ∧ (¬ ((q.1 9 (Int32.toNatClampNeg v1)) = 5) → S42_36 v1 q))) ∧ (¬ ((q.1 15 (Int32.toNatClampNeg ((2 * v1) + v2))) = (-1)) → True))
set_option maxRecDepth 100000 in
set_option maxHeartbeats 4000000 in
theorem A42_0 {l : Launch} {X : aX} {d : Nat} {r : Option Value} {h' : aH} {v1 : Int32} {v2 : Int32} {q : aQ} (hd : 2 ≤ d) (hN : h'.1 = nk0) (hG : gI r h' (F42_0 v1 v2 q, q)) (hS : S42_0 v1 v2 q) : AW l X 42 c42 d r h' 0 [some (.ref 8), some (.int v1), some (.int v2), none] [] (hp q) := by
  unfold F42_0 at hG
  unfold S42_0 at hS
  refine x_run (pc' := 1) (lo' := [some (.ref 8), some (.int v1), some (.int v2), none]) (st' := [.ref 8]) 1 rfl ?_
  refine x_gf (c := 134) (ne := 0) (v := .ref 15) rfl (by decide +kernel) rfl rfl ?_
  refine x_run (pc' := 9) (lo' := [some (.ref 8), some (.int v1), some (.int v2), none]) (st' := [.int ((2 * v1) + v2), .ref 15]) 5 rfl ?_
  obtain ⟨o1, hS⟩ := hS
  refine p_ia (n := 48) (v := (q.1 15 (Int32.toNatClampNeg ((2 * v1) + v2)))) rfl rfl o1 rfl ?_
  refine x_run (pc' := 13) (lo' := [some (.ref 8), some (.int v1), some (.int v2), some (.int (q.1 15 (Int32.toNatClampNeg ((2 * v1) + v2))))]) (st' := [.int (-1), .int (q.1 15 (Int32.toNatClampNeg ((2 * v1) + v2)))]) 3 rfl ?_
  refine x_ic 18 rfl rfl (fun (hc2 : (q.1 15 (Int32.toNatClampNeg ((2 * v1) + v2))) = (-1)) => ?_) (fun (hc2 : ¬ (q.1 15 (Int32.toNatClampNeg ((2 * v1) + v2))) = (-1)) => ?_)
  · rw [if_pos hc2] at hG
    replace hS := hS.1 hc2
    refine x_run (pc' := 19) (lo' := [some (.ref 8), some (.int v1), some (.int v2), some (.int (q.1 15 (Int32.toNatClampNeg ((2 * v1) + v2))))]) (st' := [.ref 8]) 1 rfl ?_
    refine x_gf (c := 128) (ne := 0) (v := .ref 9) rfl (by decide +kernel) rfl rfl ?_
    refine x_run (pc' := 23) (lo' := [some (.ref 8), some (.int v1), some (.int v2), some (.int (q.1 15 (Int32.toNatClampNeg ((2 * v1) + v2))))]) (st' := [.int v1, .ref 9]) 1 rfl ?_
    obtain ⟨o3, hS⟩ := hS
    refine p_ia (n := 24) (v := (q.1 9 (Int32.toNatClampNeg v1))) rfl rfl o3 rfl ?_
    refine x_run (pc' := 25) (lo' := [some (.ref 8), some (.int v1), some (.int v2), some (.int (q.1 15 (Int32.toNatClampNeg ((2 * v1) + v2))))]) (st' := [.int 5, .int (q.1 9 (Int32.toNatClampNeg v1))]) 1 rfl ?_
    refine x_ic 36 rfl rfl (fun (hc4 : ¬ (q.1 9 (Int32.toNatClampNeg v1)) = 5) => ?_) (fun (hc4 : (q.1 9 (Int32.toNatClampNeg v1)) = 5) => ?_)
    · rw [if_neg hc4] at hG
      replace hS := hS.2 hc4
      refine x_kill [2, 3] ?_
      exact A42_36 hd hN hG hS
    · rw [if_pos hc4] at hG
      replace hS := hS.1 hc4
      refine x_run (pc' := 29) (lo' := [some (.ref 8), some (.int v1), some (.int v2), some (.int (q.1 15 (Int32.toNatClampNeg ((2 * v1) + v2))))]) (st' := [.int v2]) 1 rfl ?_
      refine x_if 36 rfl rfl (fun (hc6 : ¬ v2 = 0) => ?_) (fun (hc6 : v2 = 0) => ?_)
      · rw [if_neg hc6] at hG
        replace hS := hS.2 hc6
        refine x_kill [2, 3] ?_
        exact A42_36 hd hN hG hS
      · rw [if_pos hc6] at hG
        replace hS := hS.1 hc6
        refine x_run (pc' := 41) (lo' := [some (.ref 8), some (.int v1), some (.int v2), some (.int (q.1 15 (Int32.toNatClampNeg ((2 * v1) + v2))))]) (st' := [.int v1]) 2 rfl ?_
        obtain ⟨rfl, rfl⟩ := hG
        exact x_iret rfl (by decide +kernel)
  · rw [if_neg hc2] at hG
    replace hS := hS.2 hc2
    refine x_run (pc' := 17) (lo' := [some (.ref 8), some (.int v1), some (.int v2), some (.int (q.1 15 (Int32.toNatClampNeg ((2 * v1) + v2))))]) (st' := [.int (q.1 15 (Int32.toNatClampNeg ((2 * v1) + v2)))]) 1 rfl ?_
    obtain ⟨rfl, rfl⟩ := hG
    exact x_iret rfl (by decide +kernel)
theorem T42 {l : Launch} {X : aX} {d : Nat} {v1 : Int32} {v2 : Int32} {q : aQ} (hd : 2 ≤ d) (hS : S42_0 v1 v2 q) : Call l X d 42 [.ref 8, .int v1, .int v2] (hp q) (some (.int (F42_0 v1 v2 q))) (hp q) := Call.of ok42 (by decide) (Nat.le_of_ble_eq_true rfl) ⟨Nat.le_refl _, Nat.le_refl _⟩ (A42_0 hd rfl ⟨rfl, rfl⟩ hS)
/-- TypeForecast$Program.catcher(II)I -/
def F44_91 (v2 : Int32) (v4 : Int32) (v5 : Int32) (q : aQ) : (Int32 × Int32) ⊕ ((Unit) ⊕ (Int32)) := .inl (v5, (v4 + 1))
def S44_91 (v2 : Int32) (v4 : Int32) (v5 : Int32) (q : aQ) : Prop := True
set_option maxRecDepth 100000 in
set_option maxHeartbeats 4000000 in
theorem A44_91 {l : Launch} {X : aX} {d : Nat} {r : Option Value} {h' : aH} {v2 : Int32} {v4 : Int32} {v5 : Int32} {q : aQ} (hd : 3 ≤ d) (hN : h'.1 = nk0) (hG : gL (fun (s : Int32 × Int32) => AW l X 44 c44 d r h' 5 [some (.ref 8), none, some (.int v2), some (.int s.1), some (.int s.2), none, none] [] (hp q)) (gE (fun (e : Unit) => AW l X 44 c44 d r h' 100 [none, none, none, none, none, none, none] [] (hp q)) (fun o => gI r h' (o, q))) (F44_91 v2 v4 v5 q)) (hS : S44_91 v2 v4 v5 q) : AW l X 44 c44 d r h' 91 [some (.ref 8), none, some (.int v2), none, some (.int v4), some (.int v5), none] [] (hp q) := by
  unfold F44_91 at hG
  unfold S44_91 at hS
  refine x_run (pc' := 5) (lo' := [some (.ref 8), none, some (.int v2), some (.int v5), some (.int (v4 + 1)), some (.int v5), none]) (st' := []) 4 rfl ?_
  refine x_kill [5] ?_
  exact hG
def F44_83 (v2 : Int32) (v5 : Int32) (q : aQ) : (Int32 × Int32) ⊕ ((Unit) ⊕ (Int32)) := .inr (.inr (F42_0 v5 1 q))
def S44_83 (v2 : Int32) (v5 : Int32) (q : aQ) : Prop := S42_0 v5 1 q ∧ (True)
set_option maxRecDepth 100000 in
set_option maxHeartbeats 4000000 in
theorem A44_83 {l : Launch} {X : aX} {d : Nat} {r : Option Value} {h' : aH} {v2 : Int32} {v5 : Int32} {q : aQ} (hd : 3 ≤ d) (hN : h'.1 = nk0) (hG : gL (fun (s : Int32 × Int32) => AW l X 44 c44 d r h' 5 [some (.ref 8), none, some (.int v2), some (.int s.1), some (.int s.2), none, none] [] (hp q)) (gE (fun (e : Unit) => AW l X 44 c44 d r h' 100 [none, none, none, none, none, none, none] [] (hp q)) (fun o => gI r h' (o, q))) (F44_83 v2 v5 q)) (hS : S44_83 v2 v5 q) : AW l X 44 c44 d r h' 83 [some (.ref 8), none, none, none, none, some (.int v5), none] [] (hp q) := by
  unfold F44_83 at hG
  unfold S44_83 at hS
  refine x_run (pc' := 87) (lo' := [some (.ref 8), none, none, none, none, some (.int v5), none]) (st' := [.int 1, .int v5, .ref 8]) 3 rfl ?_
  obtain ⟨o10, hS⟩ := hS
  refine x_cv (j := 42) (ne := 0) (vs := [.int v5, .int 1]) (rest := []) rfl (by decide +kernel) (by decide +kernel) (by decide) (Eq.trans rfl (show 2 = _ from by decide +kernel)) rfl (by decide +kernel) rfl (Nat.le_of_ble_eq_true rfl) (by omega) (T42 (Nat.le_refl 2) o10) (hp_m hN) ?_
  show AW l X 44 c44 d r h' 90 [some (.ref 8), none, none, none, none, some (.int v5), none] [.int (F42_0 v5 1 q)] (hp q)
  obtain ⟨rfl, rfl⟩ := hG
  exact x_iret rfl (by decide +kernel)
def F44_55 (v2 : Int32) (v4 : Int32) (v5 : Int32) (s0 : Int32) (q : aQ) : (Int32 × Int32) ⊕ ((Unit) ⊕ (Int32)) := (if s0 = 0 then F44_91 v2 v4 v5 q else (if (q.1 10 (Int32.toNatClampNeg v5)) = 0 then F44_83 v2 v5 q else (if (q.1 10 (Int32.toNatClampNeg v5)) = v2 then F44_83 v2 v5 q else F44_91 v2 v4 v5 q)))
def S44_55 (v2 : Int32) (v4 : Int32) (v5 : Int32) (s0 : Int32) (q : aQ) : Prop := ((s0 = 0) → S44_91 v2 v4 v5 q) ∧ (¬ (s0 = 0) → vp_in v5 24 ∧ ((((q.1 10 (Int32.toNatClampNeg v5)) = 0) → S44_83 v2 v5 q) ∧ (¬ ((q.1 10 (Int32.toNatClampNeg v5)) = 0) → vp_in v5 24 ∧ ((((q.1 10 (Int32.toNatClampNeg v5)) = v2) → S44_83 v2 v5 q) ∧ (¬ ((q.1 10 (Int32.toNatClampNeg v5)) = v2) → S44_91 v2 v4 v5 q)))))
set_option maxRecDepth 100000 in
set_option maxHeartbeats 4000000 in
theorem A44_55 {l : Launch} {X : aX} {d : Nat} {r : Option Value} {h' : aH} {v2 : Int32} {v4 : Int32} {v5 : Int32} {s0 : Int32} {q : aQ} (hd : 3 ≤ d) (hN : h'.1 = nk0) (hG : gL (fun (s : Int32 × Int32) => AW l X 44 c44 d r h' 5 [some (.ref 8), none, some (.int v2), some (.int s.1), some (.int s.2), none, none] [] (hp q)) (gE (fun (e : Unit) => AW l X 44 c44 d r h' 100 [none, none, none, none, none, none, none] [] (hp q)) (fun o => gI r h' (o, q))) (F44_55 v2 v4 v5 s0 q)) (hS : S44_55 v2 v4 v5 s0 q) : AW l X 44 c44 d r h' 55 [some (.ref 8), none, some (.int v2), none, some (.int v4), some (.int v5), none] [.int s0] (hp q) := by
  unfold F44_55 at hG
  unfold S44_55 at hS
  refine x_run (pc' := 59) (lo' := [some (.ref 8), none, some (.int v2), none, some (.int v4), some (.int v5), some (.int s0)]) (st' := [.int s0]) 2 rfl ?_
  refine x_if 91 rfl rfl (fun (hc7 : s0 = 0) => ?_) (fun (hc7 : ¬ s0 = 0) => ?_)
  · rw [if_pos hc7] at hG
    replace hS := hS.1 hc7
    refine x_kill [6] ?_
    exact A44_91 hd hN hG hS
  · rw [if_neg hc7] at hG
    replace hS := hS.2 hc7
    refine x_run (pc' := 63) (lo' := [some (.ref 8), none, some (.int v2), none, some (.int v4), some (.int v5), some (.int s0)]) (st' := [.ref 8]) 1 rfl ?_
    refine x_gf (c := 129) (ne := 0) (v := .ref 10) rfl (by decide +kernel) rfl rfl ?_
    refine x_run (pc' := 68) (lo' := [some (.ref 8), none, some (.int v2), none, some (.int v4), some (.int v5), some (.int s0)]) (st' := [.int v5, .ref 10]) 1 rfl ?_
    obtain ⟨o8, hS⟩ := hS
    refine p_ia (n := 24) (v := (q.1 10 (Int32.toNatClampNeg v5))) rfl rfl o8 rfl ?_
    refine x_if 83 rfl rfl (fun (hc9 : (q.1 10 (Int32.toNatClampNeg v5)) = 0) => ?_) (fun (hc9 : ¬ (q.1 10 (Int32.toNatClampNeg v5)) = 0) => ?_)
    · rw [if_pos hc9] at hG
      replace hS := hS.1 hc9
      refine x_kill [2, 4, 6] ?_
      exact A44_83 hd hN hG hS
    · rw [if_neg hc9] at hG
      replace hS := hS.2 hc9
      refine x_run (pc' := 73) (lo' := [some (.ref 8), none, some (.int v2), none, some (.int v4), some (.int v5), some (.int s0)]) (st' := [.ref 8]) 1 rfl ?_
      refine x_gf (c := 129) (ne := 0) (v := .ref 10) rfl (by decide +kernel) rfl rfl ?_
      refine x_run (pc' := 78) (lo' := [some (.ref 8), none, some (.int v2), none, some (.int v4), some (.int v5), some (.int s0)]) (st' := [.int v5, .ref 10]) 1 rfl ?_
      obtain ⟨o11, hS⟩ := hS
      refine p_ia (n := 24) (v := (q.1 10 (Int32.toNatClampNeg v5))) rfl rfl o11 rfl ?_
      refine x_run (pc' := 80) (lo' := [some (.ref 8), none, some (.int v2), none, some (.int v4), some (.int v5), some (.int s0)]) (st' := [.int v2, .int (q.1 10 (Int32.toNatClampNeg v5))]) 1 rfl ?_
      refine x_ic 91 rfl rfl (fun (hc12 : ¬ (q.1 10 (Int32.toNatClampNeg v5)) = v2) => ?_) (fun (hc12 : (q.1 10 (Int32.toNatClampNeg v5)) = v2) => ?_)
      · rw [if_neg hc12] at hG
        replace hS := hS.2 hc12
        refine x_kill [6] ?_
        exact A44_91 hd hN hG hS
      · rw [if_pos hc12] at hG
        replace hS := hS.1 hc12
        refine x_kill [2, 4, 6] ?_
        exact A44_83 hd hN hG hS
def F44_54 (v2 : Int32) (v4 : Int32) (v5 : Int32) (q : aQ) : (Int32 × Int32) ⊕ ((Unit) ⊕ (Int32)) := F44_55 v2 v4 v5 0 q
def S44_54 (v2 : Int32) (v4 : Int32) (v5 : Int32) (q : aQ) : Prop := S44_55 v2 v4 v5 0 q
set_option maxRecDepth 100000 in
set_option maxHeartbeats 4000000 in
theorem A44_54 {l : Launch} {X : aX} {d : Nat} {r : Option Value} {h' : aH} {v2 : Int32} {v4 : Int32} {v5 : Int32} {q : aQ} (hd : 3 ≤ d) (hN : h'.1 = nk0) (hG : gL (fun (s : Int32 × Int32) => AW l X 44 c44 d r h' 5 [some (.ref 8), none, some (.int v2), some (.int s.1), some (.int s.2), none, none] [] (hp q)) (gE (fun (e : Unit) => AW l X 44 c44 d r h' 100 [none, none, none, none, none, none, none] [] (hp q)) (fun o => gI r h' (o, q))) (F44_54 v2 v4 v5 q)) (hS : S44_54 v2 v4 v5 q) : AW l X 44 c44 d r h' 54 [some (.ref 8), none, some (.int v2), none, some (.int v4), some (.int v5), none] [] (hp q) := by
  unfold F44_54 at hG
  unfold S44_54 at hS
  refine x_run (pc' := 55) (lo' := [some (.ref 8), none, some (.int v2), none, some (.int v4), some (.int v5), none]) (st' := [.int 0]) 1 rfl ?_
  exact A44_55 hd hN hG hS
def F44_5 (v2 : Int32) (v3 : Int32) (v4 : Int32) (q : aQ) : (Int32 × Int32) ⊕ ((Unit) ⊕ (Int32)) := (if 5 ≤ v4 then .inr (.inl ()) else (if (q.1 12 (Int32.toNatClampNeg v3)) = (-1) then .inr (.inl ()) else (if (q.1 9 (Int32.toNatClampNeg (q.1 12 (Int32.toNatClampNeg v3)))) = 6 then (if (q.1 13 (Int32.toNatClampNeg v3)) = 0 then F44_55 v2 v4 (q.1 12 (Int32.toNatClampNeg v3)) 1 q else F44_54 v2 v4 (q.1 12 (Int32.toNatClampNeg v3)) q) else F44_54 v2 v4 (q.1 12 (Int32.toNatClampNeg v3)) q)))
def S44_5 (v2 : Int32) (v3 : Int32) (v4 : Int32) (q : aQ) : Prop := ((5 ≤ v4) → True) ∧ (¬ (5 ≤ v4) → vp_in v3 24 ∧ ((((q.1 12 (Int32.toNatClampNeg v3)) = (-1)) → True) ∧ (¬ ((q.1 12 (Int32.toNatClampNeg v3)) = (-1)) → vp_in v3 24 ∧ (vp_in (q.1 12 (Int32.toNatClampNeg v3)) 24 ∧ ((((q.1 9 (Int32.toNatClampNeg (q.1 12 (Int32.toNatClampNeg v3)))) = 6) → vp_in v3 24 ∧ ((((q.1 13 (Int32.toNatClampNeg v3)) = 0) → S44_55 v2 v4 (q.1 12 (Int32.toNatClampNeg v3)) 1 q) ∧ (¬ ((q.1 13 (Int32.toNatClampNeg v3)) = 0) → S44_54 v2 v4 (q.1 12 (Int32.toNatClampNeg v3)) q))) ∧ (¬ ((q.1 9 (Int32.toNatClampNeg (q.1 12 (Int32.toNatClampNeg v3)))) = 6) → S44_54 v2 v4 (q.1 12 (Int32.toNatClampNeg v3)) q))))))
set_option maxRecDepth 100000 in
set_option maxHeartbeats 4000000 in
theorem A44_5 {l : Launch} {X : aX} {d : Nat} {r : Option Value} {h' : aH} {v2 : Int32} {v3 : Int32} {v4 : Int32} {q : aQ} (hd : 3 ≤ d) (hN : h'.1 = nk0) (hG : gL (fun (s : Int32 × Int32) => AW l X 44 c44 d r h' 5 [some (.ref 8), none, some (.int v2), some (.int s.1), some (.int s.2), none, none] [] (hp q)) (gE (fun (e : Unit) => AW l X 44 c44 d r h' 100 [none, none, none, none, none, none, none] [] (hp q)) (fun o => gI r h' (o, q))) (F44_5 v2 v3 v4 q)) (hS : S44_5 v2 v3 v4 q) : AW l X 44 c44 d r h' 5 [some (.ref 8), none, some (.int v2), some (.int v3), some (.int v4), none, none] [] (hp q) := by
  unfold F44_5 at hG
  unfold S44_5 at hS
  refine x_run (pc' := 8) (lo' := [some (.ref 8), none, some (.int v2), some (.int v3), some (.int v4), none, none]) (st' := [.int 5, .int v4]) 2 rfl ?_
  refine x_ic 100 rfl rfl (fun (hc1 : 5 ≤ v4) => ?_) (fun (hc1 : ¬ 5 ≤ v4) => ?_)
  · rw [if_pos hc1] at hG
    replace hS := hS.1 hc1
    refine x_kill [0, 2, 3, 4] ?_
    exact hG
  · rw [if_neg hc1] at hG
    replace hS := hS.2 hc1
    refine x_run (pc' := 12) (lo' := [some (.ref 8), none, some (.int v2), some (.int v3), some (.int v4), none, none]) (st' := [.ref 8]) 1 rfl ?_
    refine x_gf (c := 131) (ne := 0) (v := .ref 12) rfl (by decide +kernel) rfl rfl ?_
    refine x_run (pc' := 16) (lo' := [some (.ref 8), none, some (.int v2), some (.int v3), some (.int v4), none, none]) (st' := [.int v3, .ref 12]) 1 rfl ?_
    obtain ⟨o2, hS⟩ := hS
    refine p_ia (n := 24) (v := (q.1 12 (Int32.toNatClampNeg v3))) rfl rfl o2 rfl ?_
    refine x_run (pc' := 18) (lo' := [some (.ref 8), none, some (.int v2), some (.int v3), some (.int v4), none, none]) (st' := [.int (-1), .int (q.1 12 (Int32.toNatClampNeg v3))]) 1 rfl ?_
    refine x_ic 100 rfl rfl (fun (hc3 : (q.1 12 (Int32.toNatClampNeg v3)) = (-1)) => ?_) (fun (hc3 : ¬ (q.1 12 (Int32.toNatClampNeg v3)) = (-1)) => ?_)
    · rw [if_pos hc3] at hG
      replace hS := hS.1 hc3
      refine x_kill [0, 2, 3, 4] ?_
      exact hG
    · rw [if_neg hc3] at hG
      replace hS := hS.2 hc3
      refine x_run (pc' := 22) (lo' := [some (.ref 8), none, some (.int v2), some (.int v3), some (.int v4), none, none]) (st' := [.ref 8]) 1 rfl ?_
      refine x_gf (c := 131) (ne := 0) (v := .ref 12) rfl (by decide +kernel) rfl rfl ?_
      refine x_run (pc' := 26) (lo' := [some (.ref 8), none, some (.int v2), some (.int v3), some (.int v4), none, none]) (st' := [.int v3, .ref 12]) 1 rfl ?_
      obtain ⟨o4, hS⟩ := hS
      refine p_ia (n := 24) (v := (q.1 12 (Int32.toNatClampNeg v3))) rfl rfl o4 rfl ?_
      refine x_run (pc' := 30) (lo' := [some (.ref 8), none, some (.int v2), some (.int v3), some (.int v4), some (.int (q.1 12 (Int32.toNatClampNeg v3))), none]) (st' := [.ref 8]) 2 rfl ?_
      refine x_gf (c := 128) (ne := 0) (v := .ref 9) rfl (by decide +kernel) rfl rfl ?_
      refine x_run (pc' := 35) (lo' := [some (.ref 8), none, some (.int v2), some (.int v3), some (.int v4), some (.int (q.1 12 (Int32.toNatClampNeg v3))), none]) (st' := [.int (q.1 12 (Int32.toNatClampNeg v3)), .ref 9]) 1 rfl ?_
      obtain ⟨o5, hS⟩ := hS
      refine p_ia (n := 24) (v := (q.1 9 (Int32.toNatClampNeg (q.1 12 (Int32.toNatClampNeg v3))))) rfl rfl o5 rfl ?_
      refine x_run (pc' := 38) (lo' := [some (.ref 8), none, some (.int v2), some (.int v3), some (.int v4), some (.int (q.1 12 (Int32.toNatClampNeg v3))), none]) (st' := [.int 6, .int (q.1 9 (Int32.toNatClampNeg (q.1 12 (Int32.toNatClampNeg v3))))]) 1 rfl ?_
      refine x_ic 54 rfl rfl (fun (hc6 : ¬ (q.1 9 (Int32.toNatClampNeg (q.1 12 (Int32.toNatClampNeg v3)))) = 6) => ?_) (fun (hc6 : (q.1 9 (Int32.toNatClampNeg (q.1 12 (Int32.toNatClampNeg v3)))) = 6) => ?_)
      · rw [if_neg hc6] at hG
        replace hS := hS.2 hc6
        refine x_kill [3] ?_
        exact A44_54 hd hN hG hS
      · rw [if_pos hc6] at hG
        replace hS := hS.1 hc6
        refine x_run (pc' := 42) (lo' := [some (.ref 8), none, some (.int v2), some (.int v3), some (.int v4), some (.int (q.1 12 (Int32.toNatClampNeg v3))), none]) (st' := [.ref 8]) 1 rfl ?_
        refine x_gf (c := 132) (ne := 0) (v := .ref 13) rfl (by decide +kernel) rfl rfl ?_
        refine x_run (pc' := 46) (lo' := [some (.ref 8), none, some (.int v2), some (.int v3), some (.int v4), some (.int (q.1 12 (Int32.toNatClampNeg v3))), none]) (st' := [.int v3, .ref 13]) 1 rfl ?_
        obtain ⟨o13, hS⟩ := hS
        refine p_ia (n := 24) (v := (q.1 13 (Int32.toNatClampNeg v3))) rfl rfl o13 rfl ?_
        refine x_if 54 rfl rfl (fun (hc14 : ¬ (q.1 13 (Int32.toNatClampNeg v3)) = 0) => ?_) (fun (hc14 : (q.1 13 (Int32.toNatClampNeg v3)) = 0) => ?_)
        · rw [if_neg hc14] at hG
          replace hS := hS.2 hc14
          refine x_kill [3] ?_
          exact A44_54 hd hN hG hS
        · rw [if_pos hc14] at hG
          replace hS := hS.1 hc14
          refine x_run (pc' := 55) (lo' := [some (.ref 8), none, some (.int v2), some (.int v3), some (.int v4), some (.int (q.1 12 (Int32.toNatClampNeg v3))), none]) (st' := [.int 1]) 2 rfl ?_
          refine x_kill [3] ?_
          exact A44_55 hd hN hG hS
def F44_100 (q : aQ) : Int32 := (-1)
def S44_100 (q : aQ) : Prop := True
set_option maxRecDepth 100000 in
set_option maxHeartbeats 4000000 in
theorem A44_100 {l : Launch} {X : aX} {d : Nat} {r : Option Value} {h' : aH} {q : aQ} (hd : 3 ≤ d) (hN : h'.1 = nk0) (hG : gI r h' (F44_100 q, q)) (hS : S44_100 q) : AW l X 44 c44 d r h' 100 [none, none, none, none, none, none, none] [] (hp q) := by
  unfold F44_100 at hG
  unfold S44_100 at hS
  refine x_run (pc' := 101) (lo' := [none, none, none, none, none, none, none]) (st' := [.int (-1)]) 1 rfl ?_
  obtain ⟨rfl, rfl⟩ := hG
  exact x_iret rfl (by decide +kernel)
def F44_0 (v1 : Int32) (v2 : Int32) (q : aQ) : Int32 := (match a_lp (fun (s : Int32 × Int32) => F44_5 v2 s.1 s.2 q) 200 (v1, 0) (.inl ()) with
    | .inl e15 => F44_100 q
    | .inr o16 => o16)
def S44_0 (v1 : Int32) (v2 : Int32) (q : aQ) : Prop := a_sf (fun (s : Int32 × Int32) => F44_5 v2 s.1 s.2 q) (fun (s : Int32 × Int32) => S44_5 v2 s.1 s.2 q) 200 (v1, 0) ∧ (match a_lp (fun (s : Int32 × Int32) => F44_5 v2 s.1 s.2 q) 200 (v1, 0) (.inl ()) with
    | .inl e15 => S44_100 q
    | .inr _ => True)
set_option maxRecDepth 100000 in
set_option maxHeartbeats 4000000 in
theorem A44_0 {l : Launch} {X : aX} {d : Nat} {r : Option Value} {h' : aH} {v1 : Int32} {v2 : Int32} {q : aQ} (hd : 3 ≤ d) (hN : h'.1 = nk0) (hG : gI r h' (F44_0 v1 v2 q, q)) (hS : S44_0 v1 v2 q) : AW l X 44 c44 d r h' 0 [some (.ref 8), some (.int v1), some (.int v2), none, none, none, none] [] (hp q) := by
  unfold F44_0 at hG
  unfold S44_0 at hS
  refine x_run (pc' := 5) (lo' := [some (.ref 8), some (.int v1), some (.int v2), some (.int v1), some (.int 0), none, none]) (st' := []) 4 rfl ?_
  refine x_kill [1] ?_
  obtain ⟨ho, hS⟩ := hS
  refine x_loop (fun (s : Int32 × Int32) => F44_5 v2 s.1 s.2 q) (fun (s : Int32 × Int32) => S44_5 v2 s.1 s.2 q) (fun (s : Int32 × Int32) => AW l X 44 c44 d r h' 5 [some (.ref 8), none, some (.int v2), some (.int s.1), some (.int s.2), none, none] [] (hp q)) (gE (fun (e : Unit) => AW l X 44 c44 d r h' 100 [none, none, none, none, none, none, none] [] (hp q)) (fun o => gI r h' (o, q))) (fun s hs hg => A44_5 hd hN hg hs) 200 (v1, 0) ho (fun ex he => ?_)
  rw [a_lp_eq he] at hG hS
  cases ex with
  | inl e15 =>
    dsimp only at hG hS
    exact A44_100 hd hN hG hS
  | inr o16 => exact hG
theorem T44 {l : Launch} {X : aX} {d : Nat} {v1 : Int32} {v2 : Int32} {q : aQ} (hd : 3 ≤ d) (hS : S44_0 v1 v2 q) : Call l X d 44 [.ref 8, .int v1, .int v2] (hp q) (some (.int (F44_0 v1 v2 q))) (hp q) := Call.of ok44 (by decide) (Nat.le_of_ble_eq_true rfl) ⟨Nat.le_refl _, Nat.le_refl _⟩ (A44_0 hd rfl ⟨rfl, rfl⟩ hS)
