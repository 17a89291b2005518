/-! written by wip/whole/gen3.py: what methods do (F), what they need (S), the walk (A), the contract (T) -/
/-- TypeForecast$Forecast.stateAt(I)LTypeForecast$State; -/
def F46_0 (v1 : Int32) (q : aQ) : Nat := (222 + 17 * (Int32.toNatClampNeg v1))
def S46_0 (v1 : Int32) (q : aQ) : Prop := vp_in v1 25 ∧ (True)
set_option maxRecDepth 100000 in
set_option maxHeartbeats 4000000 in
theorem A46_0 {l : Launch} {X : aX} {d : Nat} {r : Option Value} {h' : aH} {v1 : Int32} {q : aQ} (hd : 1 ≤ d) (hN : h'.1 = nk0) (hG : gR r h' (F46_0 v1 q, q)) (hS : S46_0 v1 q) : AW l X 46 c46 d r h' 0 [some (.ref 19), some (.int v1)] [] (hp q) := by
  unfold F46_0 at hG
  unfold S46_0 at hS
  refine x_run (pc' := 1) (lo' := [some (.ref 19), some (.int v1)]) (st' := [.ref 19]) 1 rfl ?_
  refine x_gf (c := 194) (ne := 0) (v := .ref 20) rfl (by decide +kernel) rfl rfl ?_
  refine x_run (pc' := 5) (lo' := [some (.ref 19), some (.int v1)]) (st' := [.int v1, .ref 20]) 1 rfl ?_
  obtain ⟨o1, hS⟩ := hS
  refine x_aa (n := 25) (t := 19) (v := 222 + 17 * (Int32.toNatClampNeg v1)) rfl rfl (Or.inl rfl) o1 (mr_b o1) ?_
  obtain ⟨rfl, rfl⟩ := hG
  exact x_aret (C := "TypeForecast$State") rfl (by decide +kernel)
theorem T46 {l : Launch} {X : aX} {d : Nat} {v1 : Int32} {q : aQ} (hd : 1 ≤ d) (hS : S46_0 v1 q) : Call l X d 46 [.ref 19, .int v1] (hp q) (some (.ref (F46_0 v1 q))) (hp q) := Call.of ok46 (by decide) (Nat.le_of_ble_eq_true rfl) ⟨Nat.le_refl _, Nat.le_refl _⟩ (A46_0 hd rfl ⟨rfl, rfl⟩ hS)
theorem S46_in {v1 : Int32} {q : aQ} (h : S46_0 v1 q) : vp_in v1 25 := by unfold S46_0 at h; exact h.1
/-- TypeForecast$Forecast.hasAlarm(II)Z -/
def F47_0 (v1 : Int32) (v2 : Int32) (q : aQ) : Int32 := (q.1 39 (Int32.toNatClampNeg ((v2 * 5) + v1)))
def S47_0 (v1 : Int32) (v2 : Int32) (q : aQ) : Prop := vp_in ((v2 * 5) + v1) 120 ∧ (((q.1 39 (Int32.toNatClampNeg ((v2 * 5) + v1))) = 0 ∨ (q.1 39 (Int32.toNatClampNeg ((v2 * 5) + v1))) = 1) ∧ (True))
set_option maxRecDepth 100000 in
set_option maxHeartbeats 4000000 in
theorem A47_0 {l : Launch} {X : aX} {d : Nat} {r : Option Value} {h' : aH} {v1 : Int32} {v2 : Int32} {q : aQ} (hd : 1 ≤ d) (hN : h'.1 = nk0) (hG : gI r h' (F47_0 v1 v2 q, q)) (hS : S47_0 v1 v2 q) : AW l X 47 c47 d r h' 0 [some (.ref 19), some (.int v1), some (.int v2)] [] (hp q) := by
  unfold F47_0 at hG
  unfold S47_0 at hS
  refine x_run (pc' := 1) (lo' := [some (.ref 19), some (.int v1), some (.int v2)]) (st' := [.ref 19]) 1 rfl ?_
  refine x_gf (c := 197) (ne := 0) (v := .ref 39) rfl (by decide +kernel) rfl rfl ?_
  refine x_run (pc' := 9) (lo' := [some (.ref 19), some (.int v1), some (.int v2)]) (st' := [.int ((v2 * 5) + v1), .ref 39]) 5 rfl ?_
  obtain ⟨o1, hS⟩ := hS
  refine p_za (n := 120) (v := (q.1 39 (Int32.toNatClampNeg ((v2 * 5) + v1)))) rfl rfl o1 rfl ?_
  obtain ⟨o2, hS⟩ := hS
  obtain ⟨rfl, rfl⟩ := hG
  exact x_zret rfl (by decide +kernel) o2
theorem T47 {l : Launch} {X : aX} {d : Nat} {v1 : Int32} {v2 : Int32} {q : aQ} (hd : 1 ≤ d) (hS : S47_0 v1 v2 q) : Call l X d 47 [.ref 19, .int v1, .int v2] (hp q) (some (.int (F47_0 v1 v2 q))) (hp q) := Call.of ok47 (by decide) (Nat.le_of_ble_eq_true rfl) ⟨Nat.le_refl _, Nat.le_refl _⟩ (A47_0 hd rfl ⟨rfl, rfl⟩ hS)
/-- TypeForecast$Forecast.forget()V -/
def F49_17 (v1 : Int32) (q : aQ) : (Int32 × aQ) ⊕ (aQ) := .inl ((v1 + 1), (a_w q 38 (Int32.toNatClampNeg v1) 0))
def S49_17 (v1 : Int32) (q : aQ) : Prop := vp_in v1 25 ∧ (True)
set_option maxRecDepth 100000 in
set_option maxHeartbeats 4000000 in
theorem A49_17 {l : Launch} {X : aX} {d : Nat} {r : Option Value} {h' : aH} {v1 : Int32} {q : aQ} (hd : 4 ≤ d) (hN : h'.1 = nk0) (hG : gL (fun (s : Int32 × aQ) => AW l X 49 c49 d r h' 2 [some (.ref 19), some (.int s.1)] [] (hp s.2)) (fun (e : aQ) => AW l X 49 c49 d r h' 30 [some (.ref 19), none] [] (hp e)) (F49_17 v1 q)) (hS : S49_17 v1 q) : AW l X 49 c49 d r h' 17 [some (.ref 19), some (.int v1)] [] (hp q) := by
  unfold F49_17 at hG
  unfold S49_17 at hS
  refine x_run (pc' := 18) (lo' := [some (.ref 19), some (.int v1)]) (st' := [.ref 19]) 1 rfl ?_
  refine x_gf (c := 196) (ne := 0) (v := .ref 38) rfl (by decide +kernel) rfl rfl ?_
  refine x_run (pc' := 23) (lo' := [some (.ref 19), some (.int v1)]) (st' := [.int 0, .int v1, .ref 38]) 2 rfl ?_
  obtain ⟨o4, hS⟩ := hS
  refine p_zs (n := 25) rfl rfl o4 (Or.inl rfl) ?_
  refine x_run (pc' := 2) (lo' := [some (.ref 19), some (.int (v1 + 1))]) (st' := []) 2 rfl ?_
  exact hG
def F49_2 (v1 : Int32) (q : aQ) : (Int32 × aQ) ⊕ (aQ) := (if 24 < v1 then .inr q else F49_17 v1 (F58_0 (222 + 17 * (Int32.toNatClampNeg v1)) q))
def S49_2 (v1 : Int32) (q : aQ) : Prop := ((24 < v1) → True) ∧ (¬ (24 < v1) → vp_in v1 25 ∧ (S58_0 (222 + 17 * (Int32.toNatClampNeg v1)) q ∧ (S49_17 v1 (F58_0 (222 + 17 * (Int32.toNatClampNeg v1)) q))))
set_option maxRecDepth 100000 in
set_option maxHeartbeats 4000000 in
theorem A49_2 {l : Launch} {X : aX} {d : Nat} {r : Option Value} {h' : aH} {v1 : Int32} {q : aQ} (hd : 4 ≤ d) (hN : h'.1 = nk0) (hG : gL (fun (s : Int32 × aQ) => AW l X 49 c49 d r h' 2 [some (.ref 19), some (.int s.1)] [] (hp s.2)) (fun (e : aQ) => AW l X 49 c49 d r h' 30 [some (.ref 19), none] [] (hp e)) (F49_2 v1 q)) (hS : S49_2 v1 q) : AW l X 49 c49 d r h' 2 [some (.ref 19), some (.int v1)] [] (hp q) := by
  unfold F49_2 at hG
  unfold S49_2 at hS
  refine x_run (pc' := 5) (lo' := [some (.ref 19), some (.int v1)]) (st' := [.int 24, .int v1]) 2 rfl ?_
  refine x_ic 30 rfl rfl (fun (hc1 : 24 < v1) => ?_) (fun (hc1 : ¬ 24 < v1) => ?_)
  · rw [if_pos hc1] at hG
    replace hS := hS.1 hc1
    refine x_kill [1] ?_
    exact hG
  · rw [if_neg hc1] at hG
    replace hS := hS.2 hc1
    refine x_run (pc' := 9) (lo' := [some (.ref 19), some (.int v1)]) (st' := [.ref 19]) 1 rfl ?_
    refine x_gf (c := 194) (ne := 0) (v := .ref 20) rfl (by decide +kernel) rfl rfl ?_
    refine x_run (pc' := 13) (lo' := [some (.ref 19), some (.int v1)]) (st' := [.int v1, .ref 20]) 1 rfl ?_
    obtain ⟨o2, hS⟩ := hS
    refine x_aa (n := 25) (t := 19) (v := 222 + 17 * (Int32.toNatClampNeg v1)) rfl rfl (Or.inl rfl) o2 (mr_b o2) ?_
    obtain ⟨o3, hS⟩ := hS
    refine x_cv (j := 58) (ne := 0) (vs := []) (rest := []) rfl (by decide +kernel) (by decide +kernel) (by decide) (Eq.trans rfl (show 0 = _ from by decide +kernel)) (st_s (st_b o2)) (by decide +kernel) rfl (Nat.le_of_ble_eq_true rfl) (by omega) (T58 (Nat.le_refl 3) (st_b o2) o3) (hp_m hN) ?_
    show AW l X 49 c49 d r h' 17 [some (.ref 19), some (.int v1)] [] (hp (F58_0 (222 + 17 * (Int32.toNatClampNeg v1)) q))
    exact A49_17 hd hN hG hS
def F49_32 (v1 : Int32) (q : aQ) : (Int32 × aQ) ⊕ (aQ) := (if 120 ≤ v1 then .inr q else .inl ((v1 + 1), (a_w q 39 (Int32.toNatClampNeg v1) 0)))
def S49_32 (v1 : Int32) (q : aQ) : Prop := ((120 ≤ v1) → True) ∧ (¬ (120 ≤ v1) → vp_in v1 120 ∧ (True))
set_option maxRecDepth 100000 in
set_option maxHeartbeats 4000000 in
theorem A49_32 {l : Launch} {X : aX} {d : Nat} {r : Option Value} {h' : aH} {v1 : Int32} {q : aQ} (hd : 4 ≤ d) (hN : h'.1 = nk0) (hG : gL (fun (s : Int32 × aQ) => AW l X 49 c49 d r h' 32 [some (.ref 19), some (.int s.1)] [] (hp s.2)) (fun (e : aQ) => AW l X 49 c49 d r h' 54 [none, none] [] (hp e)) (F49_32 v1 q)) (hS : S49_32 v1 q) : AW l X 49 c49 d r h' 32 [some (.ref 19), some (.int v1)] [] (hp q) := by
  unfold F49_32 at hG
  unfold S49_32 at hS
  refine x_run (pc' := 34) (lo' := [some (.ref 19), some (.int v1)]) (st' := [.ref 19, .int v1]) 2 rfl ?_
  refine x_gf (c := 197) (ne := 0) (v := .ref 39) rfl (by decide +kernel) rfl rfl ?_
  refine x_ln (n := 120) rfl rfl (by decide) ?_
  refine x_ic 54 rfl rfl (fun (hc6 : 120 ≤ v1) => ?_) (fun (hc6 : ¬ 120 ≤ v1) => ?_)
  · rw [if_pos hc6] at hG
    replace hS := hS.1 hc6
    refine x_kill [0, 1] ?_
    exact hG
  · rw [if_neg hc6] at hG
    replace hS := hS.2 hc6
    refine x_run (pc' := 42) (lo' := [some (.ref 19), some (.int v1)]) (st' := [.ref 19]) 1 rfl ?_
    refine x_gf (c := 197) (ne := 0) (v := .ref 39) rfl (by decide +kernel) rfl rfl ?_
    refine x_run (pc' := 47) (lo' := [some (.ref 19), some (.int v1)]) (st' := [.int 0, .int v1, .ref 39]) 2 rfl ?_
    obtain ⟨o7, hS⟩ := hS
    refine p_zs (n := 120) rfl rfl o7 (Or.inl rfl) ?_
    refine x_run (pc' := 32) (lo' := [some (.ref 19), some (.int (v1 + 1))]) (st' := []) 2 rfl ?_
    exact hG
def F49_54 (q : aQ) : aQ := q
def S49_54 (q : aQ) : Prop := True
set_option maxRecDepth 100000 in
set_option maxHeartbeats 4000000 in
theorem A49_54 {l : Launch} {X : aX} {d : Nat} {r : Option Value} {h' : aH} {q : aQ} (hd : 4 ≤ d) (hN : h'.1 = nk0) (hG : gV r h' (F49_54 q)) (hS : S49_54 q) : AW l X 49 c49 d r h' 54 [none, none] [] (hp q) := by
  unfold F49_54 at hG
  unfold S49_54 at hS
  obtain ⟨rfl, rfl⟩ := hG
  exact x_ret rfl (by decide +kernel)
def F49_30 (q : aQ) : aQ := (fun (e8 : aQ) => F49_54 e8) (a_lp (fun (s : Int32 × aQ) => F49_32 s.1 s.2) 200 (0, q) q)
def S49_30 (q : aQ) : Prop := a_sf (fun (s : Int32 × aQ) => F49_32 s.1 s.2) (fun (s : Int32 × aQ) => S49_32 s.1 s.2) 200 (0, q) ∧ (fun (e8 : aQ) => S49_54 e8) (a_lp (fun (s : Int32 × aQ) => F49_32 s.1 s.2) 200 (0, q) q)
set_option maxRecDepth 100000 in
set_option maxHeartbeats 4000000 in
theorem A49_30 {l : Launch} {X : aX} {d : Nat} {r : Option Value} {h' : aH} {q : aQ} (hd : 4 ≤ d) (hN : h'.1 = nk0) (hG : gV r h' (F49_30 q)) (hS : S49_30 q) : AW l X 49 c49 d r h' 30 [some (.ref 19), none] [] (hp q) := by
  unfold F49_30 at hG
  unfold S49_30 at hS
  refine x_run (pc' := 32) (lo' := [some (.ref 19), some (.int 0)]) (st' := []) 2 rfl ?_
  obtain ⟨ho, hS⟩ := hS
  refine x_loop (fun (s : Int32 × aQ) => F49_32 s.1 s.2) (fun (s : Int32 × aQ) => S49_32 s.1 s.2) (fun (s : Int32 × aQ) => AW l X 49 c49 d r h' 32 [some (.ref 19), some (.int s.1)] [] (hp s.2)) (fun (e : aQ) => AW l X 49 c49 d r h' 54 [none, none] [] (hp e)) (fun s hs hg => A49_32 hd hN hg hs) 200 (0, q) ho (fun e8 he => ?_)
  rw [a_lp_eq he] at hG hS
  try dsimp only at hG hS
  exact A49_54 hd hN hG hS
def F49_0 (q : aQ) : aQ := (fun (e5 : aQ) => F49_30 e5) (a_lp (fun (s : Int32 × aQ) => F49_2 s.1 s.2) 200 (0, q) q)
def S49_0 (q : aQ) : Prop := a_sf (fun (s : Int32 × aQ) => F49_2 s.1 s.2) (fun (s : Int32 × aQ) => S49_2 s.1 s.2) 200 (0, q) ∧ (fun (e5 : aQ) => S49_30 e5) (a_lp (fun (s : Int32 × aQ) => F49_2 s.1 s.2) 200 (0, q) q)
set_option maxRecDepth 100000 in
set_option maxHeartbeats 4000000 in
theorem A49_0 {l : Launch} {X : aX} {d : Nat} {r : Option Value} {h' : aH} {q : aQ} (hd : 4 ≤ d) (hN : h'.1 = nk0) (hG : gV r h' (F49_0 q)) (hS : S49_0 q) : AW l X 49 c49 d r h' 0 [some (.ref 19), none] [] (hp q) := by
  unfold F49_0 at hG
  unfold S49_0 at hS
  refine x_run (pc' := 2) (lo' := [some (.ref 19), some (.int 0)]) (st' := []) 2 rfl ?_
  obtain ⟨ho, hS⟩ := hS
  refine x_loop (fun (s : Int32 × aQ) => F49_2 s.1 s.2) (fun (s : Int32 × aQ) => S49_2 s.1 s.2) (fun (s : Int32 × aQ) => AW l X 49 c49 d r h' 2 [some (.ref 19), some (.int s.1)] [] (hp s.2)) (fun (e : aQ) => AW l X 49 c49 d r h' 30 [some (.ref 19), none] [] (hp e)) (fun s hs hg => A49_2 hd hN hg hs) 200 (0, q) ho (fun e5 he => ?_)
  rw [a_lp_eq he] at hG hS
  try dsimp only at hG hS
  exact A49_30 hd hN hG hS
theorem T49 {l : Launch} {X : aX} {d : Nat} {q : aQ} (hd : 4 ≤ d) (hS : S49_0 q) : Call l X d 49 [.ref 19] (hp q) none (hp (F49_0 q)) := Call.of ok49 (by decide) (Nat.le_of_ble_eq_true rfl) ⟨Nat.le_refl _, Nat.le_refl _⟩ (A49_0 hd rfl ⟨rfl, rfl⟩ hS)
/-- TypeForecast$Forecast.flow(LTypeForecast$State;I)V -/
def F51_10 (v2 : Int32) (s0 : Int32) (q : aQ) : aQ := (if s0 = 0 then q else (a_w q 38 (Int32.toNatClampNeg v2) 1))
def S51_10 (v2 : Int32) (s0 : Int32) (q : aQ) : Prop := ((s0 = 0) → True) ∧ (¬ (s0 = 0) → vp_in v2 25 ∧ (True))
set_option maxRecDepth 100000 in
set_option maxHeartbeats 4000000 in
theorem A51_10 {l : Launch} {X : aX} {d : Nat} {r : Option Value} {h' : aH} {v2 : Int32} {s0 : Int32} {q : aQ} (hd : 4 ≤ d) (hN : h'.1 = nk0) (hG : gV r h' (F51_10 v2 s0 q)) (hS : S51_10 v2 s0 q) : AW l X 51 c51 d r h' 10 [some (.ref 19), none, some (.int v2)] [.int s0] (hp q) := by
  unfold F51_10 at hG
  unfold S51_10 at hS
  refine x_if 20 rfl rfl (fun (hc3 : s0 = 0) => ?_) (fun (hc3 : ¬ s0 = 0) => ?_)
  · rw [if_pos hc3] at hG
    replace hS := hS.1 hc3
    obtain ⟨rfl, rfl⟩ := hG
    exact x_ret rfl (by decide +kernel)
  · rw [if_neg hc3] at hG
    replace hS := hS.2 hc3
    refine x_run (pc' := 14) (lo' := [some (.ref 19), none, some (.int v2)]) (st' := [.ref 19]) 1 rfl ?_
    refine x_gf (c := 196) (ne := 0) (v := .ref 38) rfl (by decide +kernel) rfl rfl ?_
    refine x_run (pc' := 19) (lo' := [some (.ref 19), none, some (.int v2)]) (st' := [.int 1, .int v2, .ref 38]) 2 rfl ?_
    obtain ⟨o4, hS⟩ := hS
    refine p_zs (n := 25) rfl rfl o4 (Or.inr rfl) ?_
    obtain ⟨rfl, rfl⟩ := hG
    exact x_ret rfl (by decide +kernel)
def F51_0 (v1 : Nat) (v2 : Int32) (q : aQ) : aQ := F51_10 v2 ((F61_0 (222 + 17 * (Int32.toNatClampNeg v2)) v1 q).1) ((F61_0 (222 + 17 * (Int32.toNatClampNeg v2)) v1 q).2)
def S51_0 (v1 : Nat) (v2 : Int32) (q : aQ) : Prop := vp_in v2 25 ∧ (S61_0 (222 + 17 * (Int32.toNatClampNeg v2)) v1 q ∧ (S51_10 v2 ((F61_0 (222 + 17 * (Int32.toNatClampNeg v2)) v1 q).1) ((F61_0 (222 + 17 * (Int32.toNatClampNeg v2)) v1 q).2)))
set_option maxRecDepth 100000 in
set_option maxHeartbeats 4000000 in
theorem A51_0 {l : Launch} {X : aX} {d : Nat} {r : Option Value} {h' : aH} {v1 : Nat} {v2 : Int32} {q : aQ} (hd : 4 ≤ d) (hN : h'.1 = nk0) (fv1 : isSt v1) (hG : gV r h' (F51_0 v1 v2 q)) (hS : S51_0 v1 v2 q) : AW l X 51 c51 d r h' 0 [some (.ref 19), some (.ref v1), some (.int v2)] [] (hp q) := by
  unfold F51_0 at hG
  unfold S51_0 at hS
  refine x_run (pc' := 1) (lo' := [some (.ref 19), some (.ref v1), some (.int v2)]) (st' := [.ref 19]) 1 rfl ?_
  refine x_gf (c := 194) (ne := 0) (v := .ref 20) rfl (by decide +kernel) rfl rfl ?_
  refine x_run (pc' := 5) (lo' := [some (.ref 19), some (.ref v1), some (.int v2)]) (st' := [.int v2, .ref 20]) 1 rfl ?_
  obtain ⟨o1, hS⟩ := hS
  refine x_aa (n := 25) (t := 19) (v := 222 + 17 * (Int32.toNatClampNeg v2)) rfl rfl (Or.inl rfl) o1 (mr_b o1) ?_
  refine x_run (pc' := 7) (lo' := [some (.ref 19), some (.ref v1), some (.int v2)]) (st' := [.ref v1, .ref (222 + 17 * (Int32.toNatClampNeg v2))]) 1 rfl ?_
  obtain ⟨o2, hS⟩ := hS
  refine x_cv (j := 61) (ne := 0) (vs := [.ref v1]) (rest := []) rfl (by decide +kernel) (by decide +kernel) (by decide) (Eq.trans rfl (show 1 = _ from by decide +kernel)) (st_s (st_b o1)) (by decide +kernel) rfl (Nat.le_of_ble_eq_true rfl) (by omega) (T61 (Nat.le_refl 3) (st_b o1) fv1 o2) (hp_m hN) ?_
  show AW l X 51 c51 d r h' 10 [some (.ref 19), some (.ref v1), some (.int v2)] [.int (F61_0 (222 + 17 * (Int32.toNatClampNeg v2)) v1 q).1] (hp (F61_0 (222 + 17 * (Int32.toNatClampNeg v2)) v1 q).2)
  refine x_kill [1] ?_
  exact A51_10 hd hN hG hS
theorem T51 {l : Launch} {X : aX} {d : Nat} {v1 : Nat} {v2 : Int32} {q : aQ} (hd : 4 ≤ d) (fv1 : isSt v1) (hS : S51_0 v1 v2 q) : Call l X d 51 [.ref 19, .ref v1, .int v2] (hp q) none (hp (F51_0 v1 v2 q)) := Call.of ok51 (by decide) (Nat.le_of_ble_eq_true rfl) ⟨Nat.le_refl _, Nat.le_refl _⟩ (A51_0 hd rfl fv1 ⟨rfl, rfl⟩ hS)
/-- TypeForecast$Forecast.flowErrors(II)V -/
def F56_58 (v1 : Int32) (v2 : Int32) (v3 : Int32) (q : aQ) : (Int32 × aQ) ⊕ (aQ) := .inl ((v3 + 1), q)
def S56_58 (v1 : Int32) (v2 : Int32) (v3 : Int32) (q : aQ) : Prop := True
set_option maxRecDepth 100000 in
set_option maxHeartbeats 4000000 in
theorem A56_58 {l : Launch} {X : aX} {d : Nat} {r : Option Value} {h' : aH} {v1 : Int32} {v2 : Int32} {v3 : Int32} {q : aQ} (hd : 5 ≤ d) (hN : h'.1 = nk0) (hG : gL (fun (s : Int32 × aQ) => AW l X 56 c56 d r h' 2 [some (.ref 19), some (.int v1), some (.int v2), some (.int s.1), none] [] (hp s.2)) (fun (e : aQ) => AW l X 56 c56 d r h' 64 [none, none, none, none, none] [] (hp e)) (F56_58 v1 v2 v3 q)) (hS : S56_58 v1 v2 v3 q) : AW l X 56 c56 d r h' 58 [some (.ref 19), some (.int v1), some (.int v2), some (.int v3), none] [] (hp q) := by
  unfold F56_58 at hG
  unfold S56_58 at hS
  refine x_run (pc' := 2) (lo' := [some (.ref 19), some (.int v1), some (.int v2), some (.int (v3 + 1)), none]) (st' := []) 2 rfl ?_
  exact hG
def F56_2 (v1 : Int32) (v2 : Int32) (v3 : Int32) (q : aQ) : (Int32 × aQ) ⊕ (aQ) := (if 4 < v3 then .inr q else (if ((v2 >>> (v3 &&& 31)) &&& 1) = 0 then F56_58 v1 v2 v3 q else (if (F44_0 v1 v3 q) = (-1) then F56_58 v1 v2 v3 (a_w q 39 (Int32.toNatClampNeg ((v1 * 5) + v3)) 1) else F56_58 v1 v2 v3 (F51_0 (222 + 17 * (Int32.toNatClampNeg v1)) (F44_0 v1 v3 q) q))))
def S56_2 (v1 : Int32) (v2 : Int32) (v3 : Int32) (q : aQ) : Prop := ((4 < v3) → True) ∧ (¬ (4 < v3) → ((((v2 >>> (v3 &&& 31)) &&& 1) = 0) → S56_58 v1 v2 v3 q) ∧ (¬ (((v2 >>> (v3 &&& 31)) &&& 1) = 0) → S44_0 v1 v3 q ∧ ((((F44_0 v1 v3 q) = (-1)) → vp_in ((v1 * 5) + v3) 120 ∧ (S56_58 v1 v2 v3 (a_w q 39 (Int32.toNatClampNeg ((v1 * 5) + v3)) 1))) ∧ (¬ ((F44_0 v1 v3 q) = (-1)) → vp_in v1 25 ∧ (S51_0 (222 + 17 * (Int32.toNatClampNeg v1)) (F44_0 v1 v3 q) q ∧ (S56_58 v1 v2 v3 (F51_0 (222 + 17 * (Int32.toNatClampNeg v1)) (F44_0 v1 v3 q) q)))))))
set_option maxRecDepth 100000 in
set_option maxHeartbeats 4000000 in
theorem A56_2 {l : Launch} {X : aX} {d : Nat} {r : Option Value} {h' : aH} {v1 : Int32} {v2 : Int32} {v3 : Int32} {q : aQ} (hd : 5 ≤ d) (hN : h'.1 = nk0) (hG : gL (fun (s : Int32 × aQ) => AW l X 56 c56 d r h' 2 [some (.ref 19), some (.int v1), some (.int v2), some (.int s.1), none] [] (hp s.2)) (fun (e : aQ) => AW l X 56 c56 d r h' 64 [none, none, none, none, none] [] (hp e)) (F56_2 v1 v2 v3 q)) (hS : S56_2 v1 v2 v3 q) : AW l X 56 c56 d r h' 2 [some (.ref 19), some (.int v1), some (.int v2), some (.int v3), none] [] (hp q) := by
  unfold F56_2 at hG
  unfold S56_2 at hS
  refine x_run (pc' := 4) (lo' := [some (.ref 19), some (.int v1), some (.int v2), some (.int v3), none]) (st' := [.int 4, .int v3]) 2 rfl ?_
  refine x_ic 64 rfl rfl (fun (hc1 : 4 < v3) => ?_) (fun (hc1 : ¬ 4 < v3) => ?_)
  · rw [if_pos hc1] at hG
    replace hS := hS.1 hc1
    refine x_kill [0, 1, 2, 3] ?_
    exact hG
  · rw [if_neg hc1] at hG
    replace hS := hS.2 hc1
    refine x_run (pc' := 12) (lo' := [some (.ref 19), some (.int v1), some (.int v2), some (.int v3), none]) (st' := [.int ((v2 >>> (v3 &&& 31)) &&& 1)]) 5 rfl ?_
    refine x_if 58 rfl rfl (fun (hc2 : ((v2 >>> (v3 &&& 31)) &&& 1) = 0) => ?_) (fun (hc2 : ¬ ((v2 >>> (v3 &&& 31)) &&& 1) = 0) => ?_)
    · rw [if_pos hc2] at hG
      replace hS := hS.1 hc2
      exact A56_58 hd hN hG hS
    · rw [if_neg hc2] at hG
      replace hS := hS.2 hc2
      refine x_run (pc' := 16) (lo' := [some (.ref 19), some (.int v1), some (.int v2), some (.int v3), none]) (st' := [.ref 19]) 1 rfl ?_
      refine x_gf (c := 192) (ne := 0) (v := .ref 8) rfl (by decide +kernel) rfl rfl ?_
      refine x_run (pc' := 21) (lo' := [some (.ref 19), some (.int v1), some (.int v2), some (.int v3), none]) (st' := [.int v3, .int v1, .ref 8]) 2 rfl ?_
      obtain ⟨o3, hS⟩ := hS
      refine x_cv (j := 44) (ne := 0) (vs := [.int v1, .int v3]) (rest := []) rfl (by decide +kernel) (by decide +kernel) (by decide) (Eq.trans rfl (show 2 = _ from by decide +kernel)) rfl (by decide +kernel) rfl (Nat.le_of_ble_eq_true rfl) (by omega) (T44 (Nat.le_refl 3) o3) (hp_m hN) ?_
      show AW l X 56 c56 d r h' 24 [some (.ref 19), some (.int v1), some (.int v2), some (.int v3), none] [.int (F44_0 v1 v3 q)] (hp q)
      refine x_run (pc' := 29) (lo' := [some (.ref 19), some (.int v1), some (.int v2), some (.int v3), some (.int (F44_0 v1 v3 q))]) (st' := [.int (-1), .int (F44_0 v1 v3 q)]) 3 rfl ?_
      refine x_ic 46 rfl rfl (fun (hc4 : ¬ (F44_0 v1 v3 q) = (-1)) => ?_) (fun (hc4 : (F44_0 v1 v3 q) = (-1)) => ?_)
      · rw [if_neg hc4] at hG
        replace hS := hS.2 hc4
        refine x_run (pc' := 48) (lo' := [some (.ref 19), some (.int v1), some (.int v2), some (.int v3), some (.int (F44_0 v1 v3 q))]) (st' := [.ref 19, .ref 19]) 2 rfl ?_
        refine x_gf (c := 194) (ne := 0) (v := .ref 20) rfl (by decide +kernel) rfl rfl ?_
        refine x_run (pc' := 52) (lo' := [some (.ref 19), some (.int v1), some (.int v2), some (.int v3), some (.int (F44_0 v1 v3 q))]) (st' := [.int v1, .ref 20, .ref 19]) 1 rfl ?_
        obtain ⟨o5, hS⟩ := hS
        refine x_aa (n := 25) (t := 19) (v := 222 + 17 * (Int32.toNatClampNeg v1)) rfl rfl (Or.inl rfl) o5 (mr_b o5) ?_
        refine x_run (pc' := 55) (lo' := [some (.ref 19), some (.int v1), some (.int v2), some (.int v3), some (.int (F44_0 v1 v3 q))]) (st' := [.int (F44_0 v1 v3 q), .ref (222 + 17 * (Int32.toNatClampNeg v1)), .ref 19]) 1 rfl ?_
        obtain ⟨o6, hS⟩ := hS
        refine x_cv (j := 51) (ne := 0) (vs := [.ref (222 + 17 * (Int32.toNatClampNeg v1)), .int (F44_0 v1 v3 q)]) (rest := []) rfl (by decide +kernel) (by decide +kernel) (by decide) (Eq.trans rfl (show 2 = _ from by decide +kernel)) rfl (by decide +kernel) rfl (Nat.le_of_ble_eq_true rfl) (by omega) (T51 (Nat.le_refl 4) (st_b o5) o6) (hp_m hN) ?_
        show AW l X 56 c56 d r h' 58 [some (.ref 19), some (.int v1), some (.int v2), some (.int v3), some (.int (F44_0 v1 v3 q))] [] (hp (F51_0 (222 + 17 * (Int32.toNatClampNeg v1)) (F44_0 v1 v3 q) q))
        refine x_kill [4] ?_
        exact A56_58 hd hN hG hS
      · rw [if_pos hc4] at hG
        replace hS := hS.1 hc4
        refine x_run (pc' := 33) (lo' := [some (.ref 19), some (.int v1), some (.int v2), some (.int v3), some (.int (F44_0 v1 v3 q))]) (st' := [.ref 19]) 1 rfl ?_
        refine x_gf (c := 197) (ne := 0) (v := .ref 39) rfl (by decide +kernel) rfl rfl ?_
        refine x_run (pc' := 42) (lo' := [some (.ref 19), some (.int v1), some (.int v2), some (.int v3), some (.int (F44_0 v1 v3 q))]) (st' := [.int 1, .int ((v1 * 5) + v3), .ref 39]) 6 rfl ?_
        obtain ⟨o7, hS⟩ := hS
        refine p_zs (n := 120) rfl rfl o7 (Or.inr rfl) ?_
        refine x_run (pc' := 58) (lo' := [some (.ref 19), some (.int v1), some (.int v2), some (.int v3), some (.int (F44_0 v1 v3 q))]) (st' := []) 1 rfl ?_
        refine x_kill [4] ?_
        exact A56_58 hd hN hG hS
def F56_64 (q : aQ) : aQ := q
def S56_64 (q : aQ) : Prop := True
set_option maxRecDepth 100000 in
set_option maxHeartbeats 4000000 in
theorem A56_64 {l : Launch} {X : aX} {d : Nat} {r : Option Value} {h' : aH} {q : aQ} (hd : 5 ≤ d) (hN : h'.1 = nk0) (hG : gV r h' (F56_64 q)) (hS : S56_64 q) : AW l X 56 c56 d r h' 64 [none, none, none, none, none] [] (hp q) := by
  unfold F56_64 at hG
  unfold S56_64 at hS
  obtain ⟨rfl, rfl⟩ := hG
  exact x_ret rfl (by decide +kernel)
def F56_0 (v1 : Int32) (v2 : Int32) (q : aQ) : aQ := (fun (e8 : aQ) => F56_64 e8) (a_lp (fun (s : Int32 × aQ) => F56_2 v1 v2 s.1 s.2) 200 (1, q) q)
def S56_0 (v1 : Int32) (v2 : Int32) (q : aQ) : Prop := a_sf (fun (s : Int32 × aQ) => F56_2 v1 v2 s.1 s.2) (fun (s : Int32 × aQ) => S56_2 v1 v2 s.1 s.2) 200 (1, q) ∧ (fun (e8 : aQ) => S56_64 e8) (a_lp (fun (s : Int32 × aQ) => F56_2 v1 v2 s.1 s.2) 200 (1, q) q)
set_option maxRecDepth 100000 in
set_option maxHeartbeats 4000000 in
theorem A56_0 {l : Launch} {X : aX} {d : Nat} {r : Option Value} {h' : aH} {v1 : Int32} {v2 : Int32} {q : aQ} (hd : 5 ≤ d) (hN : h'.1 = nk0) (hG : gV r h' (F56_0 v1 v2 q)) (hS : S56_0 v1 v2 q) : AW l X 56 c56 d r h' 0 [some (.ref 19), some (.int v1), some (.int v2), none, none] [] (hp q) := by
  unfold F56_0 at hG
  unfold S56_0 at hS
  refine x_run (pc' := 2) (lo' := [some (.ref 19), some (.int v1), some (.int v2), some (.int 1), none]) (st' := []) 2 rfl ?_
  obtain ⟨ho, hS⟩ := hS
  refine x_loop (fun (s : Int32 × aQ) => F56_2 v1 v2 s.1 s.2) (fun (s : Int32 × aQ) => S56_2 v1 v2 s.1 s.2) (fun (s : Int32 × aQ) => AW l X 56 c56 d r h' 2 [some (.ref 19), some (.int v1), some (.int v2), some (.int s.1), none] [] (hp s.2)) (fun (e : aQ) => AW l X 56 c56 d r h' 64 [none, none, none, none, none] [] (hp e)) (fun s hs hg => A56_2 hd hN hg hs) 200 (1, q) ho (fun e8 he => ?_)
  rw [a_lp_eq he] at hG hS
  try dsimp only at hG hS
  exact A56_64 hd hN hG hS
theorem T56 {l : Launch} {X : aX} {d : Nat} {v1 : Int32} {v2 : Int32} {q : aQ} (hd : 5 ≤ d) (hS : S56_0 v1 v2 q) : Call l X d 56 [.ref 19, .int v1, .int v2] (hp q) none (hp (F56_0 v1 v2 q)) := Call.of ok56 (by decide) (Nat.le_of_ble_eq_true rfl) ⟨Nat.le_refl _, Nat.le_refl _⟩ (A56_0 hd rfl ⟨rfl, rfl⟩ hS)
/-- TypeForecast$Forecast.flowAssigned(ILTypeForecast$Picture;)V -/
def F54_41 (v1 : Int32) (q : aQ) : aQ := (F51_0 21 (F43_0 v1 q) q)
def S54_41 (v1 : Int32) (q : aQ) : Prop := S43_0 v1 q ∧ (S51_0 21 (F43_0 v1 q) q ∧ (True))
set_option maxRecDepth 100000 in
set_option maxHeartbeats 4000000 in
theorem A54_41 {l : Launch} {X : aX} {d : Nat} {r : Option Value} {h' : aH} {v1 : Int32} {q : aQ} (hd : 5 ≤ d) (hN : h'.1 = nk0) (hG : gV r h' (F54_41 v1 q)) (hS : S54_41 v1 q) : AW l X 54 c54 d r h' 41 [some (.ref 19), some (.int v1), none] [] (hp q) := by
  unfold F54_41 at hG
  unfold S54_41 at hS
  refine x_run (pc' := 43) (lo' := [some (.ref 19), some (.int v1), none]) (st' := [.ref 19, .ref 19]) 2 rfl ?_
  refine x_gf (c := 195) (ne := 0) (v := .ref 21) rfl (by decide +kernel) rfl rfl ?_
  refine x_run (pc' := 47) (lo' := [some (.ref 19), some (.int v1), none]) (st' := [.ref 19, .ref 21, .ref 19]) 1 rfl ?_
  refine x_gf (c := 192) (ne := 0) (v := .ref 8) rfl (by decide +kernel) rfl rfl ?_
  refine x_run (pc' := 51) (lo' := [some (.ref 19), some (.int v1), none]) (st' := [.int v1, .ref 8, .ref 21, .ref 19]) 1 rfl ?_
  obtain ⟨o8, hS⟩ := hS
  refine x_cv (j := 43) (ne := 0) (vs := [.int v1]) (rest := [.ref 21, .ref 19]) rfl (by decide +kernel) (by decide +kernel) (by decide) (Eq.trans rfl (show 1 = _ from by decide +kernel)) rfl (by decide +kernel) rfl (Nat.le_of_ble_eq_true rfl) (by omega) (T43 (Nat.le_refl 1) o8) (hp_m hN) ?_
  show AW l X 54 c54 d r h' 54 [some (.ref 19), some (.int v1), none] [.int (F43_0 v1 q), .ref 21, .ref 19] (hp q)
  obtain ⟨o9, hS⟩ := hS
  refine x_cv (j := 51) (ne := 0) (vs := [.ref 21, .int (F43_0 v1 q)]) (rest := []) rfl (by decide +kernel) (by decide +kernel) (by decide) (Eq.trans rfl (show 2 = _ from by decide +kernel)) rfl (by decide +kernel) rfl (Nat.le_of_ble_eq_true rfl) (by omega) (T51 (Nat.le_refl 4) isSt_21 o9) (hp_m hN) ?_
  show AW l X 54 c54 d r h' 57 [some (.ref 19), some (.int v1), none] [] (hp (F51_0 21 (F43_0 v1 q) q))
  obtain ⟨rfl, rfl⟩ := hG
  exact x_ret rfl (by decide +kernel)
def F54_20 (v1 : Int32) (v2 : Nat) (q : aQ) : aQ := F54_41 v1 (F64_0 (23 + 3 * (Int32.toNatClampNeg (q.1 10 (Int32.toNatClampNeg v1)))) v2 q)
def S54_20 (v1 : Int32) (v2 : Nat) (q : aQ) : Prop := vp_in v1 24 ∧ (vp_in (q.1 10 (Int32.toNatClampNeg v1)) 5 ∧ (S64_0 (23 + 3 * (Int32.toNatClampNeg (q.1 10 (Int32.toNatClampNeg v1)))) v2 q ∧ (S54_41 v1 (F64_0 (23 + 3 * (Int32.toNatClampNeg (q.1 10 (Int32.toNatClampNeg v1)))) v2 q))))
set_option maxRecDepth 100000 in
set_option maxHeartbeats 4000000 in
theorem A54_20 {l : Launch} {X : aX} {d : Nat} {r : Option Value} {h' : aH} {v1 : Int32} {v2 : Nat} {q : aQ} (hd : 5 ≤ d) (hN : h'.1 = nk0) (fv2 : isPic v2) (hG : gV r h' (F54_20 v1 v2 q)) (hS : S54_20 v1 v2 q) : AW l X 54 c54 d r h' 20 [some (.ref 19), some (.int v1), some (.ref v2)] [] (hp q) := by
  unfold F54_20 at hG
  unfold S54_20 at hS
  refine x_run (pc' := 21) (lo' := [some (.ref 19), some (.int v1), some (.ref v2)]) (st' := [.ref 19]) 1 rfl ?_
  refine x_gf (c := 195) (ne := 0) (v := .ref 21) rfl (by decide +kernel) rfl rfl ?_
  refine x_gf (c := 256) (ne := 1) (v := .ref 22) rfl (by decide +kernel) rfl rfl ?_
  refine x_run (pc' := 28) (lo' := [some (.ref 19), some (.int v1), some (.ref v2)]) (st' := [.ref 19, .ref 22]) 1 rfl ?_
  refine x_gf (c := 192) (ne := 0) (v := .ref 8) rfl (by decide +kernel) rfl rfl ?_
  refine x_gf (c := 129) (ne := 1) (v := .ref 10) rfl (by decide +kernel) rfl rfl ?_
  refine x_run (pc' := 35) (lo' := [some (.ref 19), some (.int v1), some (.ref v2)]) (st' := [.int v1, .ref 10, .ref 22]) 1 rfl ?_
  obtain ⟨o5, hS⟩ := hS
  refine p_ia (n := 24) (v := (q.1 10 (Int32.toNatClampNeg v1))) rfl rfl o5 rfl ?_
  obtain ⟨o6, hS⟩ := hS
  refine x_aa (n := 5) (t := 20) (v := 21 + 2 + 3 * (Int32.toNatClampNeg (q.1 10 (Int32.toNatClampNeg v1)))) rfl rfl (Or.inr rfl) o6 (st_m isSt_21 o6) ?_
  refine x_run (pc' := 38) (lo' := [some (.ref 19), some (.int v1), some (.ref v2)]) (st' := [.ref v2, .ref (23 + 3 * (Int32.toNatClampNeg (q.1 10 (Int32.toNatClampNeg v1))))]) 1 rfl ?_
  obtain ⟨o7, hS⟩ := hS
  refine x_cv (j := 64) (ne := 0) (vs := [.ref v2]) (rest := []) rfl (by decide +kernel) (by decide +kernel) (by decide) (Eq.trans rfl (show 1 = _ from by decide +kernel)) (pc_s (st_p isSt_21 o6)) (by decide +kernel) rfl (Nat.le_of_ble_eq_true rfl) (by omega) (T64 (Nat.le_refl 2) (st_p isSt_21 o6) fv2 o7) (hp_m hN) ?_
  show AW l X 54 c54 d r h' 41 [some (.ref 19), some (.int v1), some (.ref v2)] [] (hp (F64_0 (23 + 3 * (Int32.toNatClampNeg (q.1 10 (Int32.toNatClampNeg v1)))) v2 q))
  refine x_kill [2] ?_
  exact A54_41 hd hN hG hS
def F54_0 (v1 : Int32) (v2 : Nat) (q : aQ) : aQ := (if (F67_0 v2 q) = 0 then q else F54_20 v1 v2 (F60_0 21 (222 + 17 * (Int32.toNatClampNeg v1)) q))
def S54_0 (v1 : Int32) (v2 : Nat) (q : aQ) : Prop := S67_0 v2 q ∧ ((((F67_0 v2 q) = 0) → True) ∧ (¬ ((F67_0 v2 q) = 0) → vp_in v1 25 ∧ (S60_0 21 (222 + 17 * (Int32.toNatClampNeg v1)) q ∧ (S54_20 v1 v2 (F60_0 21 (222 + 17 * (Int32.toNatClampNeg v1)) q)))))
set_option maxRecDepth 100000 in
set_option maxHeartbeats 4000000 in
theorem A54_0 {l : Launch} {X : aX} {d : Nat} {r : Option Value} {h' : aH} {v1 : Int32} {v2 : Nat} {q : aQ} (hd : 5 ≤ d) (hN : h'.1 = nk0) (fv2 : isPic v2) (hG : gV r h' (F54_0 v1 v2 q)) (hS : S54_0 v1 v2 q) : AW l X 54 c54 d r h' 0 [some (.ref 19), some (.int v1), some (.ref v2)] [] (hp q) := by
  unfold F54_0 at hG
  unfold S54_0 at hS
  refine x_run (pc' := 1) (lo' := [some (.ref 19), some (.int v1), some (.ref v2)]) (st' := [.ref v2]) 1 rfl ?_
  obtain ⟨o1, hS⟩ := hS
  refine x_cv (j := 67) (ne := 0) (vs := []) (rest := []) rfl (by decide +kernel) (by decide +kernel) (by decide) (Eq.trans rfl (show 0 = _ from by decide +kernel)) (pc_s fv2) (by decide +kernel) rfl (Nat.le_of_ble_eq_true rfl) (by omega) (T67 (Nat.le_refl 2) fv2 o1) (hp_m hN) ?_
  show AW l X 54 c54 d r h' 4 [some (.ref 19), some (.int v1), some (.ref v2)] [.int (F67_0 v2 q)] (hp q)
  refine x_if 57 rfl rfl (fun (hc2 : (F67_0 v2 q) = 0) => ?_) (fun (hc2 : ¬ (F67_0 v2 q) = 0) => ?_)
  · rw [if_pos hc2] at hG
    replace hS := hS.1 hc2
    obtain ⟨rfl, rfl⟩ := hG
    exact x_ret rfl (by decide +kernel)
  · rw [if_neg hc2] at hG
    replace hS := hS.2 hc2
    refine x_run (pc' := 8) (lo' := [some (.ref 19), some (.int v1), some (.ref v2)]) (st' := [.ref 19]) 1 rfl ?_
    refine x_gf (c := 195) (ne := 0) (v := .ref 21) rfl (by decide +kernel) rfl rfl ?_
    refine x_run (pc' := 12) (lo' := [some (.ref 19), some (.int v1), some (.ref v2)]) (st' := [.ref 19, .ref 21]) 1 rfl ?_
    refine x_gf (c := 194) (ne := 0) (v := .ref 20) rfl (by decide +kernel) rfl rfl ?_
    refine x_run (pc' := 16) (lo' := [some (.ref 19), some (.int v1), some (.ref v2)]) (st' := [.int v1, .ref 20, .ref 21]) 1 rfl ?_
    obtain ⟨o3, hS⟩ := hS
    refine x_aa (n := 25) (t := 19) (v := 222 + 17 * (Int32.toNatClampNeg v1)) rfl rfl (Or.inl rfl) o3 (mr_b o3) ?_
    obtain ⟨o4, hS⟩ := hS
    refine x_cv (j := 60) (ne := 0) (vs := [.ref (222 + 17 * (Int32.toNatClampNeg v1))]) (rest := []) rfl (by decide +kernel) (by decide +kernel) (by decide) (Eq.trans rfl (show 1 = _ from by decide +kernel)) rfl (by decide +kernel) rfl (Nat.le_of_ble_eq_true rfl) (by omega) (T60 (Nat.le_refl 3) isSt_21 (st_b o3) o4) (hp_m hN) ?_
    show AW l X 54 c54 d r h' 20 [some (.ref 19), some (.int v1), some (.ref v2)] [] (hp (F60_0 21 (222 + 17 * (Int32.toNatClampNeg v1)) q))
    exact A54_20 hd hN fv2 hG hS
theorem T54 {l : Launch} {X : aX} {d : Nat} {v1 : Int32} {v2 : Nat} {q : aQ} (hd : 5 ≤ d) (fv2 : isPic v2) (hS : S54_0 v1 v2 q) : Call l X d 54 [.ref 19, .int v1, .ref v2] (hp q) none (hp (F54_0 v1 v2 q)) := Call.of ok54 (by decide) (Nat.le_of_ble_eq_true rfl) ⟨Nat.le_refl _, Nat.le_refl _⟩ (A54_0 hd rfl fv2 ⟨rfl, rfl⟩ hS)
/-- TypeForecast$Forecast.flowNarrowed(IZ)V -/
def F55_53 (s0 : Int32) (s1 : Int32) (q : aQ) : aQ := (F51_0 21 (F42_0 s1 s0 q) q)
def S55_53 (s0 : Int32) (s1 : Int32) (q : aQ) : Prop := S42_0 s1 s0 q ∧ (S51_0 21 (F42_0 s1 s0 q) q ∧ (True))
set_option maxRecDepth 100000 in
set_option maxHeartbeats 4000000 in
theorem A55_53 {l : Launch} {X : aX} {d : Nat} {r : Option Value} {h' : aH} {s0 : Int32} {s1 : Int32} {q : aQ} (hd : 5 ≤ d) (hN : h'.1 = nk0) (hG : gV r h' (F55_53 s0 s1 q)) (hS : S55_53 s0 s1 q) : AW l X 55 c55 d r h' 53 [none, none, none] [.int s0, .int s1, .ref 8, .ref 21, .ref 19] (hp q) := by
  unfold F55_53 at hG
  unfold S55_53 at hS
  obtain ⟨o6, hS⟩ := hS
  refine x_cv (j := 42) (ne := 0) (vs := [.int s1, .int s0]) (rest := [.ref 21, .ref 19]) rfl (by decide +kernel) (by decide +kernel) (by decide) (Eq.trans rfl (show 2 = _ from by decide +kernel)) rfl (by decide +kernel) rfl (Nat.le_of_ble_eq_true rfl) (by omega) (T42 (Nat.le_refl 2) o6) (hp_m hN) ?_
  show AW l X 55 c55 d r h' 56 [none, none, none] [.int (F42_0 s1 s0 q), .ref 21, .ref 19] (hp q)
  obtain ⟨o7, hS⟩ := hS
  refine x_cv (j := 51) (ne := 0) (vs := [.ref 21, .int (F42_0 s1 s0 q)]) (rest := []) rfl (by decide +kernel) (by decide +kernel) (by decide) (Eq.trans rfl (show 2 = _ from by decide +kernel)) rfl (by decide +kernel) rfl (Nat.le_of_ble_eq_true rfl) (by omega) (T51 (Nat.le_refl 4) isSt_21 o7) (hp_m hN) ?_
  show AW l X 55 c55 d r h' 59 [none, none, none] [] (hp (F51_0 21 (F42_0 s1 s0 q) q))
  obtain ⟨rfl, rfl⟩ := hG
  exact x_ret rfl (by decide +kernel)
def F55_34 (v1 : Int32) (v2 : Int32) (q : aQ) : aQ := (if v2 = 0 then F55_53 1 v1 q else F55_53 0 v1 q)
def S55_34 (v1 : Int32) (v2 : Int32) (q : aQ) : Prop := ((v2 = 0) → S55_53 1 v1 q) ∧ (¬ (v2 = 0) → S55_53 0 v1 q)
set_option maxRecDepth 100000 in
set_option maxHeartbeats 4000000 in
theorem A55_34 {l : Launch} {X : aX} {d : Nat} {r : Option Value} {h' : aH} {v1 : Int32} {v2 : Int32} {q : aQ} (hd : 5 ≤ d) (hN : h'.1 = nk0) (hG : gV r h' (F55_34 v1 v2 q)) (hS : S55_34 v1 v2 q) : AW l X 55 c55 d r h' 34 [some (.ref 19), some (.int v1), some (.int v2)] [] (hp q) := by
  unfold F55_34 at hG
  unfold S55_34 at hS
  refine x_run (pc' := 36) (lo' := [some (.ref 19), some (.int v1), some (.int v2)]) (st' := [.ref 19, .ref 19]) 2 rfl ?_
  refine x_gf (c := 195) (ne := 0) (v := .ref 21) rfl (by decide +kernel) rfl rfl ?_
  refine x_run (pc' := 40) (lo' := [some (.ref 19), some (.int v1), some (.int v2)]) (st' := [.ref 19, .ref 21, .ref 19]) 1 rfl ?_
  refine x_gf (c := 192) (ne := 0) (v := .ref 8) rfl (by decide +kernel) rfl rfl ?_
  refine x_run (pc' := 45) (lo' := [some (.ref 19), some (.int v1), some (.int v2)]) (st' := [.int v2, .int v1, .ref 8, .ref 21, .ref 19]) 2 rfl ?_
  refine x_if 52 rfl rfl (fun (hc5 : v2 = 0) => ?_) (fun (hc5 : ¬ v2 = 0) => ?_)
  · rw [if_pos hc5] at hG
    replace hS := hS.1 hc5
    refine x_run (pc' := 53) (lo' := [some (.ref 19), some (.int v1), some (.int v2)]) (st' := [.int 1, .int v1, .ref 8, .ref 21, .ref 19]) 1 rfl ?_
    refine x_kill [0, 1, 2] ?_
    exact A55_53 hd hN hG hS
  · rw [if_neg hc5] at hG
    replace hS := hS.2 hc5
    refine x_run (pc' := 53) (lo' := [some (.ref 19), some (.int v1), some (.int v2)]) (st' := [.int 0, .int v1, .ref 8, .ref 21, .ref 19]) 2 rfl ?_
    refine x_kill [0, 1, 2] ?_
    exact A55_53 hd hN hG hS
def F55_13 (v1 : Int32) (v2 : Int32) (q : aQ) : aQ := F55_34 v1 v2 (F109_0 21 (q.1 11 (Int32.toNatClampNeg v1)) v2 q)
def S55_13 (v1 : Int32) (v2 : Int32) (q : aQ) : Prop := vp_in v1 24 ∧ (S109_0 21 (q.1 11 (Int32.toNatClampNeg v1)) v2 q ∧ (S55_34 v1 v2 (F109_0 21 (q.1 11 (Int32.toNatClampNeg v1)) v2 q)))
set_option maxRecDepth 100000 in
set_option maxHeartbeats 4000000 in
theorem A55_13 {l : Launch} {X : aX} {d : Nat} {r : Option Value} {h' : aH} {v1 : Int32} {v2 : Int32} {q : aQ} (hd : 5 ≤ d) (hN : h'.1 = nk0) (hG : gV r h' (F55_13 v1 v2 q)) (hS : S55_13 v1 v2 q) : AW l X 55 c55 d r h' 13 [some (.ref 19), some (.int v1), some (.int v2)] [] (hp q) := by
  unfold F55_13 at hG
  unfold S55_13 at hS
  refine x_run (pc' := 14) (lo' := [some (.ref 19), some (.int v1), some (.int v2)]) (st' := [.ref 19]) 1 rfl ?_
  refine x_gf (c := 193) (ne := 0) (v := .ref 40) rfl (by decide +kernel) rfl rfl ?_
  refine x_run (pc' := 18) (lo' := [some (.ref 19), some (.int v1), some (.int v2)]) (st' := [.ref 19, .ref 40]) 1 rfl ?_
  refine x_gf (c := 195) (ne := 0) (v := .ref 21) rfl (by decide +kernel) rfl rfl ?_
  refine x_run (pc' := 22) (lo' := [some (.ref 19), some (.int v1), some (.int v2)]) (st' := [.ref 19, .ref 21, .ref 40]) 1 rfl ?_
  refine x_gf (c := 192) (ne := 0) (v := .ref 8) rfl (by decide +kernel) rfl rfl ?_
  refine x_gf (c := 130) (ne := 1) (v := .ref 11) rfl (by decide +kernel) rfl rfl ?_
  refine x_run (pc' := 29) (lo' := [some (.ref 19), some (.int v1), some (.int v2)]) (st' := [.int v1, .ref 11, .ref 21, .ref 40]) 1 rfl ?_
  obtain ⟨o3, hS⟩ := hS
  refine p_ia (n := 24) (v := (q.1 11 (Int32.toNatClampNeg v1))) rfl rfl o3 rfl ?_
  refine x_run (pc' := 31) (lo' := [some (.ref 19), some (.int v1), some (.int v2)]) (st' := [.int v2, .int (q.1 11 (Int32.toNatClampNeg v1)), .ref 21, .ref 40]) 1 rfl ?_
  obtain ⟨o4, hS⟩ := hS
  refine x_cv (j := 109) (ne := 0) (vs := [.ref 21, .int (q.1 11 (Int32.toNatClampNeg v1)), .int v2]) (rest := []) rfl (by decide +kernel) (by decide +kernel) (by decide) (Eq.trans rfl (show 3 = _ from by decide +kernel)) rfl (by decide +kernel) rfl (Nat.le_of_ble_eq_true rfl) (by omega) (T109 (Nat.le_refl 4) isSt_21 o4) (hp_m hN) ?_
  show AW l X 55 c55 d r h' 34 [some (.ref 19), some (.int v1), some (.int v2)] [] (hp (F109_0 21 (q.1 11 (Int32.toNatClampNeg v1)) v2 q))
  exact A55_34 hd hN hG hS
def F55_0 (v1 : Int32) (v2 : Int32) (q : aQ) : aQ := F55_13 v1 v2 (F60_0 21 (222 + 17 * (Int32.toNatClampNeg v1)) q)
def S55_0 (v1 : Int32) (v2 : Int32) (q : aQ) : Prop := vp_in v1 25 ∧ (S60_0 21 (222 + 17 * (Int32.toNatClampNeg v1)) q ∧ (S55_13 v1 v2 (F60_0 21 (222 + 17 * (Int32.toNatClampNeg v1)) q)))
set_option maxRecDepth 100000 in
set_option maxHeartbeats 4000000 in
theorem A55_0 {l : Launch} {X : aX} {d : Nat} {r : Option Value} {h' : aH} {v1 : Int32} {v2 : Int32} {q : aQ} (hd : 5 ≤ d) (hN : h'.1 = nk0) (hG : gV r h' (F55_0 v1 v2 q)) (hS : S55_0 v1 v2 q) : AW l X 55 c55 d r h' 0 [some (.ref 19), some (.int v1), some (.int v2)] [] (hp q) := by
  unfold F55_0 at hG
  unfold S55_0 at hS
  refine x_run (pc' := 1) (lo' := [some (.ref 19), some (.int v1), some (.int v2)]) (st' := [.ref 19]) 1 rfl ?_
  refine x_gf (c := 195) (ne := 0) (v := .ref 21) rfl (by decide +kernel) rfl rfl ?_
  refine x_run (pc' := 5) (lo' := [some (.ref 19), some (.int v1), some (.int v2)]) (st' := [.ref 19, .ref 21]) 1 rfl ?_
  refine x_gf (c := 194) (ne := 0) (v := .ref 20) rfl (by decide +kernel) rfl rfl ?_
  refine x_run (pc' := 9) (lo' := [some (.ref 19), some (.int v1), some (.int v2)]) (st' := [.int v1, .ref 20, .ref 21]) 1 rfl ?_
  obtain ⟨o1, hS⟩ := hS
  refine x_aa (n := 25) (t := 19) (v := 222 + 17 * (Int32.toNatClampNeg v1)) rfl rfl (Or.inl rfl) o1 (mr_b o1) ?_
  obtain ⟨o2, hS⟩ := hS
  refine x_cv (j := 60) (ne := 0) (vs := [.ref (222 + 17 * (Int32.toNatClampNeg v1))]) (rest := []) rfl (by decide +kernel) (by decide +kernel) (by decide) (Eq.trans rfl (show 1 = _ from by decide +kernel)) rfl (by decide +kernel) rfl (Nat.le_of_ble_eq_true rfl) (by omega) (T60 (Nat.le_refl 3) isSt_21 (st_b o1) o2) (hp_m hN) ?_
  show AW l X 55 c55 d r h' 13 [some (.ref 19), some (.int v1), some (.int v2)] [] (hp (F60_0 21 (222 + 17 * (Int32.toNatClampNeg v1)) q))
  exact A55_13 hd hN hG hS
theorem T55 {l : Launch} {X : aX} {d : Nat} {v1 : Int32} {v2 : Int32} {q : aQ} (hd : 5 ≤ d) (hS : S55_0 v1 v2 q) : Call l X d 55 [.ref 19, .int v1, .int v2] (hp q) none (hp (F55_0 v1 v2 q)) := Call.of ok55 (by decide) (Nat.le_of_ble_eq_true rfl) ⟨Nat.le_refl _, Nat.le_refl _⟩ (A55_0 hd rfl ⟨rfl, rfl⟩ hS)
/-- TypeForecast$Forecast.visitWithExpression(I)V -/
def F53_72 (v1 : Int32) (v3 : Nat) (q : aQ) : aQ := (if (F71_0 v3 q) = 0 then q else (F55_0 v1 0 q))
def S53_72 (v1 : Int32) (v3 : Nat) (q : aQ) : Prop := S71_0 v3 q ∧ ((((F71_0 v3 q) = 0) → True) ∧ (¬ ((F71_0 v3 q) = 0) → S55_0 v1 0 q ∧ (True)))
set_option maxRecDepth 100000 in
set_option maxHeartbeats 4000000 in
theorem A53_72 {l : Launch} {X : aX} {d : Nat} {r : Option Value} {h' : aH} {v1 : Int32} {v3 : Nat} {q : aQ} (hd : 23 ≤ d) (hN : h'.1 = nk0) (fv3 : isPic v3) (hG : gV r h' (F53_72 v1 v3 q)) (hS : S53_72 v1 v3 q) : AW l X 53 c53 d r h' 72 [some (.ref 19), some (.int v1), none, some (.ref v3)] [] (hp q) := by
  unfold F53_72 at hG
  unfold S53_72 at hS
  refine x_run (pc' := 73) (lo' := [some (.ref 19), some (.int v1), none, some (.ref v3)]) (st' := [.ref v3]) 1 rfl ?_
  obtain ⟨o10, hS⟩ := hS
  refine x_cv (j := 71) (ne := 0) (vs := []) (rest := []) rfl (by decide +kernel) (by decide +kernel) (by decide) (Eq.trans rfl (show 0 = _ from by decide +kernel)) (pc_s fv3) (by decide +kernel) rfl (Nat.le_of_ble_eq_true rfl) (by omega) (T71 (Nat.le_refl 2) fv3 o10) (hp_m hN) ?_
  show AW l X 53 c53 d r h' 76 [some (.ref 19), some (.int v1), none, some (.ref v3)] [.int (F71_0 v3 q)] (hp q)
  refine x_if 85 rfl rfl (fun (hc11 : (F71_0 v3 q) = 0) => ?_) (fun (hc11 : ¬ (F71_0 v3 q) = 0) => ?_)
  · rw [if_pos hc11] at hG
    replace hS := hS.1 hc11
    obtain ⟨rfl, rfl⟩ := hG
    exact x_ret rfl (by decide +kernel)
  · rw [if_neg hc11] at hG
    replace hS := hS.2 hc11
    refine x_run (pc' := 82) (lo' := [some (.ref 19), some (.int v1), none, some (.ref v3)]) (st' := [.int 0, .int v1, .ref 19]) 3 rfl ?_
    obtain ⟨o12, hS⟩ := hS
    refine x_cv (j := 55) (ne := 0) (vs := [.int v1, .int 0]) (rest := []) rfl (by decide +kernel) (by decide +kernel) (by decide) (Eq.trans rfl (show 2 = _ from by decide +kernel)) rfl (by decide +kernel) rfl (Nat.le_of_ble_eq_true rfl) (by omega) (T55 (Nat.le_refl 5) o12) (hp_m hN) ?_
    show AW l X 53 c53 d r h' 85 [some (.ref 19), some (.int v1), none, some (.ref v3)] [] (hp (F55_0 v1 0 q))
    obtain ⟨rfl, rfl⟩ := hG
    exact x_ret rfl (by decide +kernel)
def F53_30 (v1 : Int32) (v2 : Int32) (q : aQ) : aQ := (if (q.1 9 (Int32.toNatClampNeg v1)) = 0 then (F54_0 v1 (42 + 3 * (Int32.toNatClampNeg v2)) q) else (if (F70_0 (42 + 3 * (Int32.toNatClampNeg v2)) q) = 0 then F53_72 v1 (42 + 3 * (Int32.toNatClampNeg v2)) q else F53_72 v1 (42 + 3 * (Int32.toNatClampNeg v2)) (F55_0 v1 1 q)))
def S53_30 (v1 : Int32) (v2 : Int32) (q : aQ) : Prop := vp_in v2 60 ∧ (vp_in v1 24 ∧ ((((q.1 9 (Int32.toNatClampNeg v1)) = 0) → S54_0 v1 (42 + 3 * (Int32.toNatClampNeg v2)) q ∧ (True)) ∧ (¬ ((q.1 9 (Int32.toNatClampNeg v1)) = 0) → S70_0 (42 + 3 * (Int32.toNatClampNeg v2)) q ∧ ((((F70_0 (42 + 3 * (Int32.toNatClampNeg v2)) q) = 0) → S53_72 v1 (42 + 3 * (Int32.toNatClampNeg v2)) q) ∧ (¬ ((F70_0 (42 + 3 * (Int32.toNatClampNeg v2)) q) = 0) → S55_0 v1 1 q ∧ (S53_72 v1 (42 + 3 * (Int32.toNatClampNeg v2)) (F55_0 v1 1 q)))))))
set_option maxRecDepth 100000 in
set_option maxHeartbeats 4000000 in
theorem A53_30 {l : Launch} {X : aX} {d : Nat} {r : Option Value} {h' : aH} {v1 : Int32} {v2 : Int32} {q : aQ} (hd : 23 ≤ d) (hN : h'.1 = nk0) (hG : gV r h' (F53_30 v1 v2 q)) (hS : S53_30 v1 v2 q) : AW l X 53 c53 d r h' 30 [some (.ref 19), some (.int v1), some (.int v2), none] [] (hp q) := by
  unfold F53_30 at hG
  unfold S53_30 at hS
  refine x_run (pc' := 31) (lo' := [some (.ref 19), some (.int v1), some (.int v2), none]) (st' := [.ref 19]) 1 rfl ?_
  refine x_gf (c := 193) (ne := 0) (v := .ref 40) rfl (by decide +kernel) rfl rfl ?_
  refine x_gf (c := 449) (ne := 1) (v := .ref 41) rfl (by decide +kernel) rfl rfl ?_
  refine x_run (pc' := 38) (lo' := [some (.ref 19), some (.int v1), some (.int v2), none]) (st' := [.int v2, .ref 41]) 1 rfl ?_
  obtain ⟨o5, hS⟩ := hS
  refine x_aa (n := 60) (t := 20) (v := 42 + 3 * (Int32.toNatClampNeg v2)) rfl rfl (Or.inr rfl) o5 (mr_p o5) ?_
  refine x_run (pc' := 41) (lo' := [some (.ref 19), some (.int v1), some (.int v2), some (.ref (42 + 3 * (Int32.toNatClampNeg v2)))]) (st' := [.ref 19]) 2 rfl ?_
  refine x_gf (c := 192) (ne := 0) (v := .ref 8) rfl (by decide +kernel) rfl rfl ?_
  refine x_gf (c := 128) (ne := 1) (v := .ref 9) rfl (by decide +kernel) rfl rfl ?_
  refine x_run (pc' := 48) (lo' := [some (.ref 19), some (.int v1), some (.int v2), some (.ref (42 + 3 * (Int32.toNatClampNeg v2)))]) (st' := [.int v1, .ref 9]) 1 rfl ?_
  obtain ⟨o6, hS⟩ := hS
  refine p_ia (n := 24) (v := (q.1 9 (Int32.toNatClampNeg v1))) rfl rfl o6 rfl ?_
  refine x_if 59 rfl rfl (fun (hc7 : ¬ (q.1 9 (Int32.toNatClampNeg v1)) = 0) => ?_) (fun (hc7 : (q.1 9 (Int32.toNatClampNeg v1)) = 0) => ?_)
  · rw [if_neg hc7] at hG
    replace hS := hS.2 hc7
    refine x_run (pc' := 60) (lo' := [some (.ref 19), some (.int v1), some (.int v2), some (.ref (42 + 3 * (Int32.toNatClampNeg v2)))]) (st' := [.ref (42 + 3 * (Int32.toNatClampNeg v2))]) 1 rfl ?_
    obtain ⟨o8, hS⟩ := hS
    refine x_cv (j := 70) (ne := 0) (vs := []) (rest := []) rfl (by decide +kernel) (by decide +kernel) (by decide) (Eq.trans rfl (show 0 = _ from by decide +kernel)) (pc_s (pc_p o5)) (by decide +kernel) rfl (Nat.le_of_ble_eq_true rfl) (by omega) (T70 (Nat.le_refl 2) (pc_p o5) o8) (hp_m hN) ?_
    show AW l X 53 c53 d r h' 63 [some (.ref 19), some (.int v1), some (.int v2), some (.ref (42 + 3 * (Int32.toNatClampNeg v2)))] [.int (F70_0 (42 + 3 * (Int32.toNatClampNeg v2)) q)] (hp q)
    refine x_if 72 rfl rfl (fun (hc9 : (F70_0 (42 + 3 * (Int32.toNatClampNeg v2)) q) = 0) => ?_) (fun (hc9 : ¬ (F70_0 (42 + 3 * (Int32.toNatClampNeg v2)) q) = 0) => ?_)
    · rw [if_pos hc9] at hG
      replace hS := hS.1 hc9
      refine x_kill [2] ?_
      exact A53_72 hd hN (pc_p o5) hG hS
    · rw [if_neg hc9] at hG
      replace hS := hS.2 hc9
      refine x_run (pc' := 69) (lo' := [some (.ref 19), some (.int v1), some (.int v2), some (.ref (42 + 3 * (Int32.toNatClampNeg v2)))]) (st' := [.int 1, .int v1, .ref 19]) 3 rfl ?_
      obtain ⟨o13, hS⟩ := hS
      refine x_cv (j := 55) (ne := 0) (vs := [.int v1, .int 1]) (rest := []) rfl (by decide +kernel) (by decide +kernel) (by decide) (Eq.trans rfl (show 2 = _ from by decide +kernel)) rfl (by decide +kernel) rfl (Nat.le_of_ble_eq_true rfl) (by omega) (T55 (Nat.le_refl 5) o13) (hp_m hN) ?_
      show AW l X 53 c53 d r h' 72 [some (.ref 19), some (.int v1), some (.int v2), some (.ref (42 + 3 * (Int32.toNatClampNeg v2)))] [] (hp (F55_0 v1 1 q))
      refine x_kill [2] ?_
      exact A53_72 hd hN (pc_p o5) hG hS
  · rw [if_pos hc7] at hG
    replace hS := hS.1 hc7
    refine x_run (pc' := 55) (lo' := [some (.ref 19), some (.int v1), some (.int v2), some (.ref (42 + 3 * (Int32.toNatClampNeg v2)))]) (st' := [.ref (42 + 3 * (Int32.toNatClampNeg v2)), .int v1, .ref 19]) 3 rfl ?_
    obtain ⟨o14, hS⟩ := hS
    refine x_cv (j := 54) (ne := 0) (vs := [.int v1, .ref (42 + 3 * (Int32.toNatClampNeg v2))]) (rest := []) rfl (by decide +kernel) (by decide +kernel) (by decide) (Eq.trans rfl (show 2 = _ from by decide +kernel)) rfl (by decide +kernel) rfl (Nat.le_of_ble_eq_true rfl) (by omega) (T54 (Nat.le_refl 5) (pc_p o5) o14) (hp_m hN) ?_
    show AW l X 53 c53 d r h' 58 [some (.ref 19), some (.int v1), some (.int v2), some (.ref (42 + 3 * (Int32.toNatClampNeg v2)))] [] (hp (F54_0 v1 (42 + 3 * (Int32.toNatClampNeg v2)) q))
    obtain ⟨rfl, rfl⟩ := hG
    exact x_ret rfl (by decide +kernel)
def F53_27 (v1 : Int32) (v2 : Int32) (s0 : Int32) (s1 : Int32) (q : aQ) : aQ := F53_30 v1 v2 (F56_0 s1 s0 q)
def S53_27 (v1 : Int32) (v2 : Int32) (s0 : Int32) (s1 : Int32) (q : aQ) : Prop := S56_0 s1 s0 q ∧ (S53_30 v1 v2 (F56_0 s1 s0 q))
set_option maxRecDepth 100000 in
set_option maxHeartbeats 4000000 in
theorem A53_27 {l : Launch} {X : aX} {d : Nat} {r : Option Value} {h' : aH} {v1 : Int32} {v2 : Int32} {s0 : Int32} {s1 : Int32} {q : aQ} (hd : 23 ≤ d) (hN : h'.1 = nk0) (hG : gV r h' (F53_27 v1 v2 s0 s1 q)) (hS : S53_27 v1 v2 s0 s1 q) : AW l X 53 c53 d r h' 27 [some (.ref 19), some (.int v1), some (.int v2), none] [.int s0, .int s1, .ref 19] (hp q) := by
  unfold F53_27 at hG
  unfold S53_27 at hS
  obtain ⟨o4, hS⟩ := hS
  refine x_cv (j := 56) (ne := 0) (vs := [.int s1, .int s0]) (rest := []) rfl (by decide +kernel) (by decide +kernel) (by decide) (Eq.trans rfl (show 2 = _ from by decide +kernel)) rfl (by decide +kernel) rfl (Nat.le_of_ble_eq_true rfl) (by omega) (T56 (Nat.le_refl 5) o4) (hp_m hN) ?_
  show AW l X 53 c53 d r h' 30 [some (.ref 19), some (.int v1), some (.int v2), none] [] (hp (F56_0 s1 s0 q))
  exact A53_30 hd hN hG hS
def F53_0 (v1 : Int32) (q : aQ) : aQ := F53_27 v1 (q.1 11 (Int32.toNatClampNeg v1)) ((F102 17 (q.1 11 (Int32.toNatClampNeg v1)) (222 + 17 * (Int32.toNatClampNeg v1)) 1 q).1) v1 ((F102 17 (q.1 11 (Int32.toNatClampNeg v1)) (222 + 17 * (Int32.toNatClampNeg v1)) 1 q).2)
def S53_0 (v1 : Int32) (q : aQ) : Prop := vp_in v1 24 ∧ (vp_in v1 25 ∧ (S102 17 (q.1 11 (Int32.toNatClampNeg v1)) (222 + 17 * (Int32.toNatClampNeg v1)) 1 q ∧ (S53_27 v1 (q.1 11 (Int32.toNatClampNeg v1)) ((F102 17 (q.1 11 (Int32.toNatClampNeg v1)) (222 + 17 * (Int32.toNatClampNeg v1)) 1 q).1) v1 ((F102 17 (q.1 11 (Int32.toNatClampNeg v1)) (222 + 17 * (Int32.toNatClampNeg v1)) 1 q).2))))
set_option maxRecDepth 100000 in
set_option maxHeartbeats 4000000 in
theorem A53_0 {l : Launch} {X : aX} {d : Nat} {r : Option Value} {h' : aH} {v1 : Int32} {q : aQ} (hd : 23 ≤ d) (hN : h'.1 = nk0) (hG : gV r h' (F53_0 v1 q)) (hS : S53_0 v1 q) : AW l X 53 c53 d r h' 0 [some (.ref 19), some (.int v1), none, none] [] (hp q) := by
  unfold F53_0 at hG
  unfold S53_0 at hS
  refine x_run (pc' := 1) (lo' := [some (.ref 19), some (.int v1), none, none]) (st' := [.ref 19]) 1 rfl ?_
  refine x_gf (c := 192) (ne := 0) (v := .ref 8) rfl (by decide +kernel) rfl rfl ?_
  refine x_gf (c := 130) (ne := 1) (v := .ref 11) rfl (by decide +kernel) rfl rfl ?_
  refine x_run (pc' := 8) (lo' := [some (.ref 19), some (.int v1), none, none]) (st' := [.int v1, .ref 11]) 1 rfl ?_
  obtain ⟨o1, hS⟩ := hS
  refine p_ia (n := 24) (v := (q.1 11 (Int32.toNatClampNeg v1))) rfl rfl o1 rfl ?_
  refine x_run (pc' := 13) (lo' := [some (.ref 19), some (.int v1), some (.int (q.1 11 (Int32.toNatClampNeg v1))), none]) (st' := [.ref 19, .int v1, .ref 19]) 4 rfl ?_
  refine x_gf (c := 193) (ne := 0) (v := .ref 40) rfl (by decide +kernel) rfl rfl ?_
  refine x_run (pc' := 18) (lo' := [some (.ref 19), some (.int v1), some (.int (q.1 11 (Int32.toNatClampNeg v1))), none]) (st' := [.ref 19, .int (q.1 11 (Int32.toNatClampNeg v1)), .ref 40, .int v1, .ref 19]) 2 rfl ?_
  refine x_gf (c := 194) (ne := 0) (v := .ref 20) rfl (by decide +kernel) rfl rfl ?_
  refine x_run (pc' := 22) (lo' := [some (.ref 19), some (.int v1), some (.int (q.1 11 (Int32.toNatClampNeg v1))), none]) (st' := [.int v1, .ref 20, .int (q.1 11 (Int32.toNatClampNeg v1)), .ref 40, .int v1, .ref 19]) 1 rfl ?_
  obtain ⟨o2, hS⟩ := hS
  refine x_aa (n := 25) (t := 19) (v := 222 + 17 * (Int32.toNatClampNeg v1)) rfl rfl (Or.inl rfl) o2 (mr_b o2) ?_
  refine x_run (pc' := 24) (lo' := [some (.ref 19), some (.int v1), some (.int (q.1 11 (Int32.toNatClampNeg v1))), none]) (st' := [.int 1, .ref (222 + 17 * (Int32.toNatClampNeg v1)), .int (q.1 11 (Int32.toNatClampNeg v1)), .ref 40, .int v1, .ref 19]) 1 rfl ?_
  obtain ⟨o3, hS⟩ := hS
  refine x_cv (j := 102) (ne := 1) (vs := [.int (q.1 11 (Int32.toNatClampNeg v1)), .ref (222 + 17 * (Int32.toNatClampNeg v1)), .int 1]) (rest := [.int v1, .ref 19]) rfl (by decide +kernel) (by decide +kernel) (by decide) (Eq.trans rfl (show 3 = _ from by decide +kernel)) rfl (by decide +kernel) rfl (Nat.le_of_ble_eq_true rfl) (by omega) (T102 17 (Nat.le_refl _) (st_b o2) o3) (hp_m hN) ?_
  show AW l X 53 c53 d r h' 27 [some (.ref 19), some (.int v1), some (.int (q.1 11 (Int32.toNatClampNeg v1))), none] [.int (F102 17 (q.1 11 (Int32.toNatClampNeg v1)) (222 + 17 * (Int32.toNatClampNeg v1)) 1 q).1, .int v1, .ref 19] (hp (F102 17 (q.1 11 (Int32.toNatClampNeg v1)) (222 + 17 * (Int32.toNatClampNeg v1)) 1 q).2)
  exact A53_27 hd hN hG hS
theorem T53 {l : Launch} {X : aX} {d : Nat} {v1 : Int32} {q : aQ} (hd : 23 ≤ d) (hS : S53_0 v1 q) : Call l X d 53 [.ref 19, .int v1] (hp q) none (hp (F53_0 v1 q)) := Call.of ok53 (by decide) (Nat.le_of_ble_eq_true rfl) ⟨Nat.le_refl _, Nat.le_refl _⟩ (A53_0 hd rfl ⟨rfl, rfl⟩ hS)
/-- TypeForecast$Forecast.visitPlain(I)V -/
def F52_52 (q : aQ) : aQ := q
def S52_52 (q : aQ) : Prop := True
set_option maxRecDepth 100000 in
set_option maxHeartbeats 4000000 in
theorem A52_52 {l : Launch} {X : aX} {d : Nat} {r : Option Value} {h' : aH} {q : aQ} (hd : 6 ≤ d) (hN : h'.1 = nk0) (hG : gV r h' (F52_52 q)) (hS : S52_52 q) : AW l X 52 c52 d r h' 52 [none, none] [] (hp q) := by
  unfold F52_52 at hG
  unfold S52_52 at hS
  refine x_run (pc' := 125) (lo' := [none, none]) (st' := []) 1 rfl ?_
  obtain ⟨rfl, rfl⟩ := hG
  exact x_ret rfl (by decide +kernel)
def F52_81 (q : aQ) : aQ := q
def S52_81 (q : aQ) : Prop := True
set_option maxRecDepth 100000 in
set_option maxHeartbeats 4000000 in
theorem A52_81 {l : Launch} {X : aX} {d : Nat} {r : Option Value} {h' : aH} {q : aQ} (hd : 6 ≤ d) (hN : h'.1 = nk0) (hG : gV r h' (F52_81 q)) (hS : S52_81 q) : AW l X 52 c52 d r h' 81 [none, none] [] (hp q) := by
  unfold F52_81 at hG
  unfold S52_81 at hS
  refine x_run (pc' := 125) (lo' := [none, none]) (st' := []) 1 rfl ?_
  obtain ⟨rfl, rfl⟩ := hG
  exact x_ret rfl (by decide +kernel)
def F52_103 (q : aQ) : aQ := q
def S52_103 (q : aQ) : Prop := True
set_option maxRecDepth 100000 in
set_option maxHeartbeats 4000000 in
theorem A52_103 {l : Launch} {X : aX} {d : Nat} {r : Option Value} {h' : aH} {q : aQ} (hd : 6 ≤ d) (hN : h'.1 = nk0) (hG : gV r h' (F52_103 q)) (hS : S52_103 q) : AW l X 52 c52 d r h' 103 [none, none] [] (hp q) := by
  unfold F52_103 at hG
  unfold S52_103 at hS
  refine x_run (pc' := 125) (lo' := [none, none]) (st' := []) 1 rfl ?_
  obtain ⟨rfl, rfl⟩ := hG
  exact x_ret rfl (by decide +kernel)
def F52_0 (v1 : Int32) (q : aQ) : aQ := (if (q.1 9 (Int32.toNatClampNeg v1)) = 1 then F52_52 (F56_0 v1 (1 <<< ((q.1 10 (Int32.toNatClampNeg v1)) &&& 31)) q) else (if (q.1 9 (Int32.toNatClampNeg v1)) = 2 then F52_81 (F51_0 (222 + 17 * (Int32.toNatClampNeg v1)) (F43_0 (q.1 10 (Int32.toNatClampNeg v1)) q) q) else (if (q.1 9 (Int32.toNatClampNeg v1)) = 3 then F52_103 (F51_0 (222 + 17 * (Int32.toNatClampNeg v1)) (q.1 10 (Int32.toNatClampNeg v1)) q) else (F51_0 (222 + 17 * (Int32.toNatClampNeg v1)) (F42_0 v1 0 q) q))))
def S52_0 (v1 : Int32) (q : aQ) : Prop := vp_in v1 24 ∧ ((((q.1 9 (Int32.toNatClampNeg v1)) = 1) → vp_in v1 24 ∧ (S56_0 v1 (1 <<< ((q.1 10 (Int32.toNatClampNeg v1)) &&& 31)) q ∧ (S52_52 (F56_0 v1 (1 <<< ((q.1 10 (Int32.toNatClampNeg v1)) &&& 31)) q)))) ∧ (¬ ((q.1 9 (Int32.toNatClampNeg v1)) = 1) → (((q.1 9 (Int32.toNatClampNeg v1)) = 2) → vp_in v1 25 ∧ (vp_in v1 24 ∧ (S43_0 (q.1 10 (Int32.toNatClampNeg v1)) q ∧ (S51_0 (222 + 17 * (Int32.toNatClampNeg v1)) (F43_0 (q.1 10 (Int32.toNatClampNeg v1)) q) q ∧ (S52_81 (F51_0 (222 + 17 * (Int32.toNatClampNeg v1)) (F43_0 (q.1 10 (Int32.toNatClampNeg v1)) q) q)))))) ∧ (¬ ((q.1 9 (Int32.toNatClampNeg v1)) = 2) → (((q.1 9 (Int32.toNatClampNeg v1)) = 3) → vp_in v1 25 ∧ (vp_in v1 24 ∧ (S51_0 (222 + 17 * (Int32.toNatClampNeg v1)) (q.1 10 (Int32.toNatClampNeg v1)) q ∧ (S52_103 (F51_0 (222 + 17 * (Int32.toNatClampNeg v1)) (q.1 10 (Int32.toNatClampNeg v1)) q))))) ∧ (¬ ((q.1 9 (Int32.toNatClampNeg v1)) = 3) → vp_in v1 25 ∧ (S42_0 v1 0 q ∧ (S51_0 (222 + 17 * (Int32.toNatClampNeg v1)) (F42_0 v1 0 q) q ∧ (True)))))))
set_option maxRecDepth 100000 in
set_option maxHeartbeats 4000000 in
theorem A52_0 {l : Launch} {X : aX} {d : Nat} {r : Option Value} {h' : aH} {v1 : Int32} {q : aQ} (hd : 6 ≤ d) (hN : h'.1 = nk0) (hG : gV r h' (F52_0 v1 q)) (hS : S52_0 v1 q) : AW l X 52 c52 d r h' 0 [some (.ref 19), some (.int v1)] [] (hp q) := by
  unfold F52_0 at hG
  unfold S52_0 at hS
  refine x_run (pc' := 1) (lo' := [some (.ref 19), some (.int v1)]) (st' := [.ref 19]) 1 rfl ?_
  refine x_gf (c := 192) (ne := 0) (v := .ref 8) rfl (by decide +kernel) rfl rfl ?_
  refine x_gf (c := 128) (ne := 1) (v := .ref 9) rfl (by decide +kernel) rfl rfl ?_
  refine x_run (pc' := 8) (lo' := [some (.ref 19), some (.int v1)]) (st' := [.int v1, .ref 9]) 1 rfl ?_
  obtain ⟨o1, hS⟩ := hS
  refine p_ia (n := 24) (v := (q.1 9 (Int32.toNatClampNeg v1))) rfl rfl o1 rfl ?_
  by_cases hc15 : (q.1 9 (Int32.toNatClampNeg v1)) = 1
  · rw [if_pos hc15] at hG
    replace hS := hS.1 hc15
    refine x_tsIn (off := 27) 36 rfl (by rw [hc15]; decide) (by rw [hc15]; decide) (by rw [hc15]; rfl) rfl ?_
    refine x_run (pc' := 40) (lo' := [some (.ref 19), some (.int v1)]) (st' := [.ref 19, .int 1, .int v1, .ref 19]) 4 rfl ?_
    refine x_gf (c := 192) (ne := 0) (v := .ref 8) rfl (by decide +kernel) rfl rfl ?_
    refine x_gf (c := 129) (ne := 1) (v := .ref 10) rfl (by decide +kernel) rfl rfl ?_
    refine x_run (pc' := 47) (lo' := [some (.ref 19), some (.int v1)]) (st' := [.int v1, .ref 10, .int 1, .int v1, .ref 19]) 1 rfl ?_
    obtain ⟨o6, hS⟩ := hS
    refine p_ia (n := 24) (v := (q.1 10 (Int32.toNatClampNeg v1))) rfl rfl o6 rfl ?_
    refine x_run (pc' := 49) (lo' := [some (.ref 19), some (.int v1)]) (st' := [.int (1 <<< ((q.1 10 (Int32.toNatClampNeg v1)) &&& 31)), .int v1, .ref 19]) 1 rfl ?_
    obtain ⟨o7, hS⟩ := hS
    refine x_cv (j := 56) (ne := 0) (vs := [.int v1, .int (1 <<< ((q.1 10 (Int32.toNatClampNeg v1)) &&& 31))]) (rest := []) rfl (by decide +kernel) (by decide +kernel) (by decide) (Eq.trans rfl (show 2 = _ from by decide +kernel)) rfl (by decide +kernel) rfl (Nat.le_of_ble_eq_true rfl) (by omega) (T56 (Nat.le_refl 5) o7) (hp_m hN) ?_
    show AW l X 52 c52 d r h' 52 [some (.ref 19), some (.int v1)] [] (hp (F56_0 v1 (1 <<< ((q.1 10 (Int32.toNatClampNeg v1)) &&& 31)) q))
    refine x_kill [0, 1] ?_
    exact A52_52 hd hN hG hS
  · rw [if_neg hc15] at hG
    replace hS := hS.2 hc15
    by_cases hc16 : (q.1 9 (Int32.toNatClampNeg v1)) = 2
    · rw [if_pos hc16] at hG
      replace hS := hS.1 hc16
      refine x_tsIn (off := 46) 55 rfl (by rw [hc16]; decide) (by rw [hc16]; decide) (by rw [hc16]; rfl) rfl ?_
      refine x_run (pc' := 57) (lo' := [some (.ref 19), some (.int v1)]) (st' := [.ref 19, .ref 19]) 2 rfl ?_
      refine x_gf (c := 194) (ne := 0) (v := .ref 20) rfl (by decide +kernel) rfl rfl ?_
      refine x_run (pc' := 61) (lo' := [some (.ref 19), some (.int v1)]) (st' := [.int v1, .ref 20, .ref 19]) 1 rfl ?_
      obtain ⟨o8, hS⟩ := hS
      refine x_aa (n := 25) (t := 19) (v := 222 + 17 * (Int32.toNatClampNeg v1)) rfl rfl (Or.inl rfl) o8 (mr_b o8) ?_
      refine x_run (pc' := 63) (lo' := [some (.ref 19), some (.int v1)]) (st' := [.ref 19, .ref (222 + 17 * (Int32.toNatClampNeg v1)), .ref 19]) 1 rfl ?_
      refine x_gf (c := 192) (ne := 0) (v := .ref 8) rfl (by decide +kernel) rfl rfl ?_
      refine x_run (pc' := 67) (lo' := [some (.ref 19), some (.int v1)]) (st' := [.ref 19, .ref 8, .ref (222 + 17 * (Int32.toNatClampNeg v1)), .ref 19]) 1 rfl ?_
      refine x_gf (c := 192) (ne := 0) (v := .ref 8) rfl (by decide +kernel) rfl rfl ?_
      refine x_gf (c := 129) (ne := 1) (v := .ref 10) rfl (by decide +kernel) rfl rfl ?_
      refine x_run (pc' := 74) (lo' := [some (.ref 19), some (.int v1)]) (st' := [.int v1, .ref 10, .ref 8, .ref (222 + 17 * (Int32.toNatClampNeg v1)), .ref 19]) 1 rfl ?_
      obtain ⟨o9, hS⟩ := hS
      refine p_ia (n := 24) (v := (q.1 10 (Int32.toNatClampNeg v1))) rfl rfl o9 rfl ?_
      obtain ⟨o10, hS⟩ := hS
      refine x_cv (j := 43) (ne := 0) (vs := [.int (q.1 10 (Int32.toNatClampNeg v1))]) (rest := [.ref (222 + 17 * (Int32.toNatClampNeg v1)), .ref 19]) rfl (by decide +kernel) (by decide +kernel) (by decide) (Eq.trans rfl (show 1 = _ from by decide +kernel)) rfl (by decide +kernel) rfl (Nat.le_of_ble_eq_true rfl) (by omega) (T43 (Nat.le_refl 1) o10) (hp_m hN) ?_
      show AW l X 52 c52 d r h' 78 [some (.ref 19), some (.int v1)] [.int (F43_0 (q.1 10 (Int32.toNatClampNeg v1)) q), .ref (222 + 17 * (Int32.toNatClampNeg v1)), .ref 19] (hp q)
      obtain ⟨o11, hS⟩ := hS
      refine x_cv (j := 51) (ne := 0) (vs := [.ref (222 + 17 * (Int32.toNatClampNeg v1)), .int (F43_0 (q.1 10 (Int32.toNatClampNeg v1)) q)]) (rest := []) rfl (by decide +kernel) (by decide +kernel) (by decide) (Eq.trans rfl (show 2 = _ from by decide +kernel)) rfl (by decide +kernel) rfl (Nat.le_of_ble_eq_true rfl) (by omega) (T51 (Nat.le_refl 4) (st_b o8) o11) (hp_m hN) ?_
      show AW l X 52 c52 d r h' 81 [some (.ref 19), some (.int v1)] [] (hp (F51_0 (222 + 17 * (Int32.toNatClampNeg v1)) (F43_0 (q.1 10 (Int32.toNatClampNeg v1)) q) q))
      refine x_kill [0, 1] ?_
      exact A52_81 hd hN hG hS
    · rw [if_neg hc16] at hG
      replace hS := hS.2 hc16
      by_cases hc17 : (q.1 9 (Int32.toNatClampNeg v1)) = 3
      · rw [if_pos hc17] at hG
        replace hS := hS.1 hc17
        refine x_tsIn (off := 75) 84 rfl (by rw [hc17]; decide) (by rw [hc17]; decide) (by rw [hc17]; rfl) rfl ?_
        refine x_run (pc' := 86) (lo' := [some (.ref 19), some (.int v1)]) (st' := [.ref 19, .ref 19]) 2 rfl ?_
        refine x_gf (c := 194) (ne := 0) (v := .ref 20) rfl (by decide +kernel) rfl rfl ?_
        refine x_run (pc' := 90) (lo' := [some (.ref 19), some (.int v1)]) (st' := [.int v1, .ref 20, .ref 19]) 1 rfl ?_
        obtain ⟨o12, hS⟩ := hS
        refine x_aa (n := 25) (t := 19) (v := 222 + 17 * (Int32.toNatClampNeg v1)) rfl rfl (Or.inl rfl) o12 (mr_b o12) ?_
        refine x_run (pc' := 92) (lo' := [some (.ref 19), some (.int v1)]) (st' := [.ref 19, .ref (222 + 17 * (Int32.toNatClampNeg v1)), .ref 19]) 1 rfl ?_
        refine x_gf (c := 192) (ne := 0) (v := .ref 8) rfl (by decide +kernel) rfl rfl ?_
        refine x_gf (c := 129) (ne := 1) (v := .ref 10) rfl (by decide +kernel) rfl rfl ?_
        refine x_run (pc' := 99) (lo' := [some (.ref 19), some (.int v1)]) (st' := [.int v1, .ref 10, .ref (222 + 17 * (Int32.toNatClampNeg v1)), .ref 19]) 1 rfl ?_
        obtain ⟨o13, hS⟩ := hS
        refine p_ia (n := 24) (v := (q.1 10 (Int32.toNatClampNeg v1))) rfl rfl o13 rfl ?_
        obtain ⟨o14, hS⟩ := hS
        refine x_cv (j := 51) (ne := 0) (vs := [.ref (222 + 17 * (Int32.toNatClampNeg v1)), .int (q.1 10 (Int32.toNatClampNeg v1))]) (rest := []) rfl (by decide +kernel) (by decide +kernel) (by decide) (Eq.trans rfl (show 2 = _ from by decide +kernel)) rfl (by decide +kernel) rfl (Nat.le_of_ble_eq_true rfl) (by omega) (T51 (Nat.le_refl 4) (st_b o12) o14) (hp_m hN) ?_
        show AW l X 52 c52 d r h' 103 [some (.ref 19), some (.int v1)] [] (hp (F51_0 (222 + 17 * (Int32.toNatClampNeg v1)) (q.1 10 (Int32.toNatClampNeg v1)) q))
        refine x_kill [0, 1] ?_
        exact A52_103 hd hN hG hS
      · rw [if_neg hc17] at hG
        replace hS := hS.2 hc17
        refine x_tsOut 106 rfl (by have z0 := sw_ne (k := 1) hc15 (by decide); have z1 := sw_ne (k := 2) hc16 (by decide); have z2 := sw_ne (k := 3) hc17 (by decide); omega) rfl ?_
        refine x_run (pc' := 108) (lo' := [some (.ref 19), some (.int v1)]) (st' := [.ref 19, .ref 19]) 2 rfl ?_
        refine x_gf (c := 194) (ne := 0) (v := .ref 20) rfl (by decide +kernel) rfl rfl ?_
        refine x_run (pc' := 112) (lo' := [some (.ref 19), some (.int v1)]) (st' := [.int v1, .ref 20, .ref 19]) 1 rfl ?_
        obtain ⟨o3, hS⟩ := hS
        refine x_aa (n := 25) (t := 19) (v := 222 + 17 * (Int32.toNatClampNeg v1)) rfl rfl (Or.inl rfl) o3 (mr_b o3) ?_
        refine x_run (pc' := 114) (lo' := [some (.ref 19), some (.int v1)]) (st' := [.ref 19, .ref (222 + 17 * (Int32.toNatClampNeg v1)), .ref 19]) 1 rfl ?_
        refine x_gf (c := 192) (ne := 0) (v := .ref 8) rfl (by decide +kernel) rfl rfl ?_
        refine x_run (pc' := 119) (lo' := [some (.ref 19), some (.int v1)]) (st' := [.int 0, .int v1, .ref 8, .ref (222 + 17 * (Int32.toNatClampNeg v1)), .ref 19]) 2 rfl ?_
        obtain ⟨o4, hS⟩ := hS
        refine x_cv (j := 42) (ne := 0) (vs := [.int v1, .int 0]) (rest := [.ref (222 + 17 * (Int32.toNatClampNeg v1)), .ref 19]) rfl (by decide +kernel) (by decide +kernel) (by decide) (Eq.trans rfl (show 2 = _ from by decide +kernel)) rfl (by decide +kernel) rfl (Nat.le_of_ble_eq_true rfl) (by omega) (T42 (Nat.le_refl 2) o4) (hp_m hN) ?_
        show AW l X 52 c52 d r h' 122 [some (.ref 19), some (.int v1)] [.int (F42_0 v1 0 q), .ref (222 + 17 * (Int32.toNatClampNeg v1)), .ref 19] (hp q)
        obtain ⟨o5, hS⟩ := hS
        refine x_cv (j := 51) (ne := 0) (vs := [.ref (222 + 17 * (Int32.toNatClampNeg v1)), .int (F42_0 v1 0 q)]) (rest := []) rfl (by decide +kernel) (by decide +kernel) (by decide) (Eq.trans rfl (show 2 = _ from by decide +kernel)) rfl (by decide +kernel) rfl (Nat.le_of_ble_eq_true rfl) (by omega) (T51 (Nat.le_refl 4) (st_b o3) o5) (hp_m hN) ?_
        show AW l X 52 c52 d r h' 125 [some (.ref 19), some (.int v1)] [] (hp (F51_0 (222 + 17 * (Int32.toNatClampNeg v1)) (F42_0 v1 0 q) q))
        obtain ⟨rfl, rfl⟩ := hG
        exact x_ret rfl (by decide +kernel)
theorem T52 {l : Launch} {X : aX} {d : Nat} {v1 : Int32} {q : aQ} (hd : 6 ≤ d) (hS : S52_0 v1 q) : Call l X d 52 [.ref 19, .int v1] (hp q) none (hp (F52_0 v1 q)) := Call.of ok52 (by decide) (Nat.le_of_ble_eq_true rfl) ⟨Nat.le_refl _, Nat.le_refl _⟩ (A52_0 hd rfl ⟨rfl, rfl⟩ hS)
/-- TypeForecast$Forecast.countAlarms()I -/
def F50_28 (v2 : Int32) (s0 : Int32) (s1 : Int32) (q : aQ) : (Int32 × Int32) ⊕ (Int32) := .inl ((s1 + s0), (v2 + 1))
def S50_28 (v2 : Int32) (s0 : Int32) (s1 : Int32) (q : aQ) : Prop := True
set_option maxRecDepth 100000 in
set_option maxHeartbeats 4000000 in
theorem A50_28 {l : Launch} {X : aX} {d : Nat} {r : Option Value} {h' : aH} {v2 : Int32} {s0 : Int32} {s1 : Int32} {q : aQ} (hd : 1 ≤ d) (hN : h'.1 = nk0) (hG : gL (fun (s : Int32 × Int32) => AW l X 50 c50 d r h' 4 [some (.ref 19), some (.int s.1), some (.int s.2)] [] (hp q)) (fun (e : Int32) => AW l X 50 c50 d r h' 36 [none, some (.int e), none] [] (hp q)) (F50_28 v2 s0 s1 q)) (hS : S50_28 v2 s0 s1 q) : AW l X 50 c50 d r h' 28 [some (.ref 19), none, some (.int v2)] [.int s0, .int s1] (hp q) := by
  unfold F50_28 at hG
  unfold S50_28 at hS
  refine x_run (pc' := 4) (lo' := [some (.ref 19), some (.int (s1 + s0)), some (.int (v2 + 1))]) (st' := []) 4 rfl ?_
  exact hG
def F50_4 (v1 : Int32) (v2 : Int32) (q : aQ) : (Int32 × Int32) ⊕ (Int32) := (if 120 ≤ v2 then .inr v1 else (if (q.1 39 (Int32.toNatClampNeg v2)) = 0 then F50_28 v2 0 v1 q else F50_28 v2 1 v1 q))
def S50_4 (v1 : Int32) (v2 : Int32) (q : aQ) : Prop := ((120 ≤ v2) → True) ∧ (¬ (120 ≤ v2) → vp_in v2 120 ∧ ((((q.1 39 (Int32.toNatClampNeg v2)) = 0) → S50_28 v2 0 v1 q) ∧ (¬ ((q.1 39 (Int32.toNatClampNeg v2)) = 0) → S50_28 v2 1 v1 q)))
set_option maxRecDepth 100000 in
set_option maxHeartbeats 4000000 in
theorem A50_4 {l : Launch} {X : aX} {d : Nat} {r : Option Value} {h' : aH} {v1 : Int32} {v2 : Int32} {q : aQ} (hd : 1 ≤ d) (hN : h'.1 = nk0) (hG : gL (fun (s : Int32 × Int32) => AW l X 50 c50 d r h' 4 [some (.ref 19), some (.int s.1), some (.int s.2)] [] (hp q)) (fun (e : Int32) => AW l X 50 c50 d r h' 36 [none, some (.int e), none] [] (hp q)) (F50_4 v1 v2 q)) (hS : S50_4 v1 v2 q) : AW l X 50 c50 d r h' 4 [some (.ref 19), some (.int v1), some (.int v2)] [] (hp q) := by
  unfold F50_4 at hG
  unfold S50_4 at hS
  refine x_run (pc' := 6) (lo' := [some (.ref 19), some (.int v1), some (.int v2)]) (st' := [.ref 19, .int v2]) 2 rfl ?_
  refine x_gf (c := 197) (ne := 0) (v := .ref 39) rfl (by decide +kernel) rfl rfl ?_
  refine x_ln (n := 120) rfl rfl (by decide) ?_
  refine x_ic 36 rfl rfl (fun (hc1 : 120 ≤ v2) => ?_) (fun (hc1 : ¬ 120 ≤ v2) => ?_)
  · rw [if_pos hc1] at hG
    replace hS := hS.1 hc1
    refine x_kill [0, 2] ?_
    exact hG
  · rw [if_neg hc1] at hG
    replace hS := hS.2 hc1
    refine x_run (pc' := 15) (lo' := [some (.ref 19), some (.int v1), some (.int v2)]) (st' := [.ref 19, .int v1]) 2 rfl ?_
    refine x_gf (c := 197) (ne := 0) (v := .ref 39) rfl (by decide +kernel) rfl rfl ?_
    refine x_run (pc' := 19) (lo' := [some (.ref 19), some (.int v1), some (.int v2)]) (st' := [.int v2, .ref 39, .int v1]) 1 rfl ?_
    obtain ⟨o2, hS⟩ := hS
    refine p_za (n := 120) (v := (q.1 39 (Int32.toNatClampNeg v2))) rfl rfl o2 rfl ?_
    refine x_if 27 rfl rfl (fun (hc3 : (q.1 39 (Int32.toNatClampNeg v2)) = 0) => ?_) (fun (hc3 : ¬ (q.1 39 (Int32.toNatClampNeg v2)) = 0) => ?_)
    · rw [if_pos hc3] at hG
      replace hS := hS.1 hc3
      refine x_run (pc' := 28) (lo' := [some (.ref 19), some (.int v1), some (.int v2)]) (st' := [.int 0, .int v1]) 1 rfl ?_
      refine x_kill [1] ?_
      exact A50_28 hd hN hG hS
    · rw [if_neg hc3] at hG
      replace hS := hS.2 hc3
      refine x_run (pc' := 28) (lo' := [some (.ref 19), some (.int v1), some (.int v2)]) (st' := [.int 1, .int v1]) 2 rfl ?_
      refine x_kill [1] ?_
      exact A50_28 hd hN hG hS
def F50_36 (v1 : Int32) (q : aQ) : Int32 := v1
def S50_36 (v1 : Int32) (q : aQ) : Prop := True
set_option maxRecDepth 100000 in
set_option maxHeartbeats 4000000 in
theorem A50_36 {l : Launch} {X : aX} {d : Nat} {r : Option Value} {h' : aH} {v1 : Int32} {q : aQ} (hd : 1 ≤ d) (hN : h'.1 = nk0) (hG : gI r h' (F50_36 v1 q, q)) (hS : S50_36 v1 q) : AW l X 50 c50 d r h' 36 [none, some (.int v1), none] [] (hp q) := by
  unfold F50_36 at hG
  unfold S50_36 at hS
  refine x_run (pc' := 37) (lo' := [none, some (.int v1), none]) (st' := [.int v1]) 1 rfl ?_
  obtain ⟨rfl, rfl⟩ := hG
  exact x_iret rfl (by decide +kernel)
def F50_0 (q : aQ) : Int32 := (fun (e4 : Int32) => F50_36 e4 q) (a_lp (fun (s : Int32 × Int32) => F50_4 s.1 s.2 q) 200 (0, 0) 0)
def S50_0 (q : aQ) : Prop := a_sf (fun (s : Int32 × Int32) => F50_4 s.1 s.2 q) (fun (s : Int32 × Int32) => S50_4 s.1 s.2 q) 200 (0, 0) ∧ (fun (e4 : Int32) => S50_36 e4 q) (a_lp (fun (s : Int32 × Int32) => F50_4 s.1 s.2 q) 200 (0, 0) 0)
set_option maxRecDepth 100000 in
set_option maxHeartbeats 4000000 in
theorem A50_0 {l : Launch} {X : aX} {d : Nat} {r : Option Value} {h' : aH} {q : aQ} (hd : 1 ≤ d) (hN : h'.1 = nk0) (hG : gI r h' (F50_0 q, q)) (hS : S50_0 q) : AW l X 50 c50 d r h' 0 [some (.ref 19), none, none] [] (hp q) := by
  unfold F50_0 at hG
  unfold S50_0 at hS
  refine x_run (pc' := 4) (lo' := [some (.ref 19), some (.int 0), some (.int 0)]) (st' := []) 4 rfl ?_
  obtain ⟨ho, hS⟩ := hS
  refine x_loop (fun (s : Int32 × Int32) => F50_4 s.1 s.2 q) (fun (s : Int32 × Int32) => S50_4 s.1 s.2 q) (fun (s : Int32 × Int32) => AW l X 50 c50 d r h' 4 [some (.ref 19), some (.int s.1), some (.int s.2)] [] (hp q)) (fun (e : Int32) => AW l X 50 c50 d r h' 36 [none, some (.int e), none] [] (hp q)) (fun s hs hg => A50_4 hd hN hg hs) 200 (0, 0) ho (fun e4 he => ?_)
  rw [a_lp_eq he] at hG hS
  try dsimp only at hG hS
  exact A50_36 hd hN hG hS
theorem T50 {l : Launch} {X : aX} {d : Nat} {q : aQ} (hd : 1 ≤ d) (hS : S50_0 q) : Call l X d 50 [.ref 19] (hp q) (some (.int (F50_0 q))) (hp q) := Call.of ok50 (by decide) (Nat.le_of_ble_eq_true rfl) ⟨Nat.le_refl _, Nat.le_refl _⟩ (A50_0 hd rfl ⟨rfl, rfl⟩ hS)
/-- TypeForecast$Forecast.lookThrough()I -/
def F48_127 (v2 : Int32) (v1 : Int32) (v3 : Int32) (q : aQ) : (Int32 × Int32 × aQ) ⊕ (Int32 × aQ) := .inl (v1, (v3 + 1), q)
def S48_127 (v2 : Int32) (v1 : Int32) (v3 : Int32) (q : aQ) : Prop := True
set_option maxRecDepth 100000 in
set_option maxHeartbeats 4000000 in
theorem A48_127 {l : Launch} {X : aX} {d : Nat} {r : Option Value} {h' : aH} {v2 : Int32} {v1 : Int32} {v3 : Int32} {q : aQ} (hd : 24 ≤ d) (hN : h'.1 = nk0) (hG : gL (fun (s : Int32 × Int32 × aQ) => AW l X 48 c48 d r h' 74 [some (.ref 19), some (.int s.1), some (.int v2), some (.int s.2.1)] [] (hp s.2.2)) (fun (e : Int32 × aQ) => AW l X 48 c48 d r h' 133 [some (.ref 19), some (.int e.1), some (.int v2), none] [] (hp e.2)) (F48_127 v2 v1 v3 q)) (hS : S48_127 v2 v1 v3 q) : AW l X 48 c48 d r h' 127 [some (.ref 19), some (.int v1), some (.int v2), some (.int v3)] [] (hp q) := by
  unfold F48_127 at hG
  unfold S48_127 at hS
  refine x_run (pc' := 74) (lo' := [some (.ref 19), some (.int v1), some (.int v2), some (.int (v3 + 1))]) (st' := []) 2 rfl ?_
  exact hG
def F48_119 (v2 : Int32) (v1 : Int32) (v3 : Int32) (q : aQ) : (Int32 × Int32 × aQ) ⊕ (Int32 × aQ) := F48_127 v2 v1 v3 q
def S48_119 (v2 : Int32) (v1 : Int32) (v3 : Int32) (q : aQ) : Prop := S48_127 v2 v1 v3 q
set_option maxRecDepth 100000 in
set_option maxHeartbeats 4000000 in
theorem A48_119 {l : Launch} {X : aX} {d : Nat} {r : Option Value} {h' : aH} {v2 : Int32} {v1 : Int32} {v3 : Int32} {q : aQ} (hd : 24 ≤ d) (hN : h'.1 = nk0) (hG : gL (fun (s : Int32 × Int32 × aQ) => AW l X 48 c48 d r h' 74 [some (.ref 19), some (.int s.1), some (.int v2), some (.int s.2.1)] [] (hp s.2.2)) (fun (e : Int32 × aQ) => AW l X 48 c48 d r h' 133 [some (.ref 19), some (.int e.1), some (.int v2), none] [] (hp e.2)) (F48_119 v2 v1 v3 q)) (hS : S48_119 v2 v1 v3 q) : AW l X 48 c48 d r h' 119 [some (.ref 19), some (.int v1), some (.int v2), some (.int v3)] [] (hp q) := by
  unfold F48_119 at hG
  unfold S48_119 at hS
  refine x_run (pc' := 127) (lo' := [some (.ref 19), some (.int v1), some (.int v2), some (.int v3)]) (st' := []) 1 rfl ?_
  exact A48_127 hd hN hG hS
def F48_74 (v2 : Int32) (v1 : Int32) (v3 : Int32) (q : aQ) : (Int32 × Int32 × aQ) ⊕ (Int32 × aQ) := (if (q.1 8 7) ≤ v3 then .inr (v1, q) else (if (q.1 38 (Int32.toNatClampNeg v3)) = 0 then F48_127 v2 v1 v3 q else (if (F34_0 v3 (a_w q 38 (Int32.toNatClampNeg v3) 0)) = 0 then F48_127 v2 1 v3 (F52_0 v3 (a_w q 38 (Int32.toNatClampNeg v3) 0)) else F48_119 v2 1 v3 (F53_0 v3 (a_w q 38 (Int32.toNatClampNeg v3) 0)))))
def S48_74 (v2 : Int32) (v1 : Int32) (v3 : Int32) (q : aQ) : Prop := (((q.1 8 7) ≤ v3) → True) ∧ (¬ ((q.1 8 7) ≤ v3) → vp_in v3 25 ∧ ((((q.1 38 (Int32.toNatClampNeg v3)) = 0) → S48_127 v2 v1 v3 q) ∧ (¬ ((q.1 38 (Int32.toNatClampNeg v3)) = 0) → vp_in v3 25 ∧ (S34_0 v3 (a_w q 38 (Int32.toNatClampNeg v3) 0) ∧ ((((F34_0 v3 (a_w q 38 (Int32.toNatClampNeg v3) 0)) = 0) → S52_0 v3 (a_w q 38 (Int32.toNatClampNeg v3) 0) ∧ (S48_127 v2 1 v3 (F52_0 v3 (a_w q 38 (Int32.toNatClampNeg v3) 0)))) ∧ (¬ ((F34_0 v3 (a_w q 38 (Int32.toNatClampNeg v3) 0)) = 0) → S53_0 v3 (a_w q 38 (Int32.toNatClampNeg v3) 0) ∧ (S48_119 v2 1 v3 (F53_0 v3 (a_w q 38 (Int32.toNatClampNeg v3) 0)))))))))
set_option maxRecDepth 100000 in
set_option maxHeartbeats 4000000 in
theorem A48_74 {l : Launch} {X : aX} {d : Nat} {r : Option Value} {h' : aH} {v2 : Int32} {v1 : Int32} {v3 : Int32} {q : aQ} (hd : 24 ≤ d) (hN : h'.1 = nk0) (hG : gL (fun (s : Int32 × Int32 × aQ) => AW l X 48 c48 d r h' 74 [some (.ref 19), some (.int s.1), some (.int v2), some (.int s.2.1)] [] (hp s.2.2)) (fun (e : Int32 × aQ) => AW l X 48 c48 d r h' 133 [some (.ref 19), some (.int e.1), some (.int v2), none] [] (hp e.2)) (F48_74 v2 v1 v3 q)) (hS : S48_74 v2 v1 v3 q) : AW l X 48 c48 d r h' 74 [some (.ref 19), some (.int v1), some (.int v2), some (.int v3)] [] (hp q) := by
  unfold F48_74 at hG
  unfold S48_74 at hS
  refine x_run (pc' := 76) (lo' := [some (.ref 19), some (.int v1), some (.int v2), some (.int v3)]) (st' := [.ref 19, .int v3]) 2 rfl ?_
  refine x_gf (c := 192) (ne := 0) (v := .ref 8) rfl (by decide +kernel) rfl rfl ?_
  refine x_gf (c := 135) (ne := 1) (v := .int (q.1 8 7)) rfl (by decide +kernel) rfl rfl ?_
  refine x_ic 133 rfl rfl (fun (hc8 : (q.1 8 7) ≤ v3) => ?_) (fun (hc8 : ¬ (q.1 8 7) ≤ v3) => ?_)
  · rw [if_pos hc8] at hG
    replace hS := hS.1 hc8
    refine x_kill [3] ?_
    exact hG
  · rw [if_neg hc8] at hG
    replace hS := hS.2 hc8
    refine x_run (pc' := 86) (lo' := [some (.ref 19), some (.int v1), some (.int v2), some (.int v3)]) (st' := [.ref 19]) 1 rfl ?_
    refine x_gf (c := 196) (ne := 0) (v := .ref 38) rfl (by decide +kernel) rfl rfl ?_
    refine x_run (pc' := 90) (lo' := [some (.ref 19), some (.int v1), some (.int v2), some (.int v3)]) (st' := [.int v3, .ref 38]) 1 rfl ?_
    obtain ⟨o9, hS⟩ := hS
    refine p_za (n := 25) (v := (q.1 38 (Int32.toNatClampNeg v3))) rfl rfl o9 rfl ?_
    refine x_if 127 rfl rfl (fun (hc10 : (q.1 38 (Int32.toNatClampNeg v3)) = 0) => ?_) (fun (hc10 : ¬ (q.1 38 (Int32.toNatClampNeg v3)) = 0) => ?_)
    · rw [if_pos hc10] at hG
      replace hS := hS.1 hc10
      exact A48_127 hd hN hG hS
    · rw [if_neg hc10] at hG
      replace hS := hS.2 hc10
      refine x_run (pc' := 95) (lo' := [some (.ref 19), some (.int v1), some (.int v2), some (.int v3)]) (st' := [.ref 19]) 1 rfl ?_
      refine x_gf (c := 196) (ne := 0) (v := .ref 38) rfl (by decide +kernel) rfl rfl ?_
      refine x_run (pc' := 100) (lo' := [some (.ref 19), some (.int v1), some (.int v2), some (.int v3)]) (st' := [.int 0, .int v3, .ref 38]) 2 rfl ?_
      obtain ⟨o11, hS⟩ := hS
      refine p_zs (n := 25) rfl rfl o11 (Or.inl rfl) ?_
      refine x_run (pc' := 104) (lo' := [some (.ref 19), some (.int 1), some (.int v2), some (.int v3)]) (st' := [.ref 19]) 3 rfl ?_
      refine x_gf (c := 192) (ne := 0) (v := .ref 8) rfl (by decide +kernel) rfl rfl ?_
      refine x_run (pc' := 108) (lo' := [some (.ref 19), some (.int 1), some (.int v2), some (.int v3)]) (st' := [.int v3, .ref 8]) 1 rfl ?_
      obtain ⟨o12, hS⟩ := hS
      refine x_cv (j := 34) (ne := 0) (vs := [.int v3]) (rest := []) rfl (by decide +kernel) (by decide +kernel) (by decide) (Eq.trans rfl (show 1 = _ from by decide +kernel)) rfl (by decide +kernel) rfl (Nat.le_of_ble_eq_true rfl) (by omega) (T34 (Nat.le_refl 1) o12) (hp_m hN) ?_
      show AW l X 48 c48 d r h' 111 [some (.ref 19), some (.int 1), some (.int v2), some (.int v3)] [.int (F34_0 v3 (a_w q 38 (Int32.toNatClampNeg v3) 0))] (hp (a_w q 38 (Int32.toNatClampNeg v3) 0))
      refine x_if 122 rfl rfl (fun (hc13 : (F34_0 v3 (a_w q 38 (Int32.toNatClampNeg v3) 0)) = 0) => ?_) (fun (hc13 : ¬ (F34_0 v3 (a_w q 38 (Int32.toNatClampNeg v3) 0)) = 0) => ?_)
      · rw [if_pos hc13] at hG
        replace hS := hS.1 hc13
        refine x_run (pc' := 124) (lo' := [some (.ref 19), some (.int 1), some (.int v2), some (.int v3)]) (st' := [.int v3, .ref 19]) 2 rfl ?_
        obtain ⟨o14, hS⟩ := hS
        refine x_cv (j := 52) (ne := 0) (vs := [.int v3]) (rest := []) rfl (by decide +kernel) (by decide +kernel) (by decide) (Eq.trans rfl (show 1 = _ from by decide +kernel)) rfl (by decide +kernel) rfl (Nat.le_of_ble_eq_true rfl) (by omega) (T52 (Nat.le_refl 6) o14) (hp_m hN) ?_
        show AW l X 48 c48 d r h' 127 [some (.ref 19), some (.int 1), some (.int v2), some (.int v3)] [] (hp (F52_0 v3 (a_w q 38 (Int32.toNatClampNeg v3) 0)))
        exact A48_127 hd hN hG hS
      · rw [if_neg hc13] at hG
        replace hS := hS.2 hc13
        refine x_run (pc' := 116) (lo' := [some (.ref 19), some (.int 1), some (.int v2), some (.int v3)]) (st' := [.int v3, .ref 19]) 2 rfl ?_
        obtain ⟨o15, hS⟩ := hS
        refine x_cv (j := 53) (ne := 0) (vs := [.int v3]) (rest := []) rfl (by decide +kernel) (by decide +kernel) (by decide) (Eq.trans rfl (show 1 = _ from by decide +kernel)) rfl (by decide +kernel) rfl (Nat.le_of_ble_eq_true rfl) (by omega) (T53 (Nat.le_refl 23) o15) (hp_m hN) ?_
        show AW l X 48 c48 d r h' 119 [some (.ref 19), some (.int 1), some (.int v2), some (.int v3)] [] (hp (F53_0 v3 (a_w q 38 (Int32.toNatClampNeg v3) 0)))
        exact A48_119 hd hN hG hS
def F48_133 (v1 : Int32) (v2 : Int32) (q : aQ) : (Int32 × Int32 × aQ) ⊕ (aQ) := .inl (v1, (v2 + 1), q)
def S48_133 (v1 : Int32) (v2 : Int32) (q : aQ) : Prop := True
set_option maxRecDepth 100000 in
set_option maxHeartbeats 4000000 in
theorem A48_133 {l : Launch} {X : aX} {d : Nat} {r : Option Value} {h' : aH} {v1 : Int32} {v2 : Int32} {q : aQ} (hd : 24 ≤ d) (hN : h'.1 = nk0) (hG : gL (fun (s : Int32 × Int32 × aQ) => AW l X 48 c48 d r h' 60 [some (.ref 19), some (.int s.1), some (.int s.2.1), none] [] (hp s.2.2)) (fun (e : aQ) => AW l X 48 c48 d r h' 139 [some (.ref 19), none, none, none] [] (hp e)) (F48_133 v1 v2 q)) (hS : S48_133 v1 v2 q) : AW l X 48 c48 d r h' 133 [some (.ref 19), some (.int v1), some (.int v2), none] [] (hp q) := by
  unfold F48_133 at hG
  unfold S48_133 at hS
  refine x_run (pc' := 60) (lo' := [some (.ref 19), some (.int v1), some (.int (v2 + 1)), none]) (st' := []) 2 rfl ?_
  exact hG
def F48_60 (v1 : Int32) (v2 : Int32) (q : aQ) : (Int32 × Int32 × aQ) ⊕ (aQ) := (if v1 = 0 then .inr q else (if 1000000 ≤ v2 then .inr q else (fun (e16 : Int32 × aQ) => F48_133 e16.1 v2 e16.2) (a_lp (fun (s : Int32 × Int32 × aQ) => F48_74 v2 s.1 s.2.1 s.2.2) 200 (0, 0, q) (0, q))))
def S48_60 (v1 : Int32) (v2 : Int32) (q : aQ) : Prop := ((v1 = 0) → True) ∧ (¬ (v1 = 0) → ((1000000 ≤ v2) → True) ∧ (¬ (1000000 ≤ v2) → a_sf (fun (s : Int32 × Int32 × aQ) => F48_74 v2 s.1 s.2.1 s.2.2) (fun (s : Int32 × Int32 × aQ) => S48_74 v2 s.1 s.2.1 s.2.2) 200 (0, 0, q) ∧ (fun (e16 : Int32 × aQ) => S48_133 e16.1 v2 e16.2) (a_lp (fun (s : Int32 × Int32 × aQ) => F48_74 v2 s.1 s.2.1 s.2.2) 200 (0, 0, q) (0, q))))
set_option maxRecDepth 100000 in
set_option maxHeartbeats 4000000 in
theorem A48_60 {l : Launch} {X : aX} {d : Nat} {r : Option Value} {h' : aH} {v1 : Int32} {v2 : Int32} {q : aQ} (hd : 24 ≤ d) (hN : h'.1 = nk0) (hG : gL (fun (s : Int32 × Int32 × aQ) => AW l X 48 c48 d r h' 60 [some (.ref 19), some (.int s.1), some (.int s.2.1), none] [] (hp s.2.2)) (fun (e : aQ) => AW l X 48 c48 d r h' 139 [some (.ref 19), none, none, none] [] (hp e)) (F48_60 v1 v2 q)) (hS : S48_60 v1 v2 q) : AW l X 48 c48 d r h' 60 [some (.ref 19), some (.int v1), some (.int v2), none] [] (hp q) := by
  unfold F48_60 at hG
  unfold S48_60 at hS
  refine x_run (pc' := 61) (lo' := [some (.ref 19), some (.int v1), some (.int v2), none]) (st' := [.int v1]) 1 rfl ?_
  refine x_if 139 rfl rfl (fun (hc6 : v1 = 0) => ?_) (fun (hc6 : ¬ v1 = 0) => ?_)
  · rw [if_pos hc6] at hG
    replace hS := hS.1 hc6
    refine x_kill [1, 2] ?_
    exact hG
  · rw [if_neg hc6] at hG
    replace hS := hS.2 hc6
    refine x_run (pc' := 65) (lo' := [some (.ref 19), some (.int v1), some (.int v2), none]) (st' := [.int v2]) 1 rfl ?_
    refine x_ldc (v := 1000000) (ne := 0) rfl (by decide +kernel) ?_
    refine x_ic 139 rfl rfl (fun (hc7 : 1000000 ≤ v2) => ?_) (fun (hc7 : ¬ 1000000 ≤ v2) => ?_)
    · rw [if_pos hc7] at hG
      replace hS := hS.1 hc7
      refine x_kill [1, 2] ?_
      exact hG
    · rw [if_neg hc7] at hG
      replace hS := hS.2 hc7
      refine x_run (pc' := 74) (lo' := [some (.ref 19), some (.int 0), some (.int v2), some (.int 0)]) (st' := []) 4 rfl ?_
      obtain ⟨ho, hS⟩ := hS
      refine x_loop (fun (s : Int32 × Int32 × aQ) => F48_74 v2 s.1 s.2.1 s.2.2) (fun (s : Int32 × Int32 × aQ) => S48_74 v2 s.1 s.2.1 s.2.2) (fun (s : Int32 × Int32 × aQ) => AW l X 48 c48 d r h' 74 [some (.ref 19), some (.int s.1), some (.int v2), some (.int s.2.1)] [] (hp s.2.2)) (fun (e : Int32 × aQ) => AW l X 48 c48 d r h' 133 [some (.ref 19), some (.int e.1), some (.int v2), none] [] (hp e.2)) (fun s hs hg => A48_74 hd hN hg hs) 200 (0, 0, q) ho (fun e16 he => ?_)
      rw [a_lp_eq he] at hG hS
      try dsimp only at hG hS
      exact A48_133 hd hN hG hS
def F48_139 (q : aQ) : Int32 × aQ := ((F50_0 q), (a_w q 19 6 (F50_0 q)))
def S48_139 (q : aQ) : Prop := S50_0 q ∧ (True)
set_option maxRecDepth 100000 in
set_option maxHeartbeats 4000000 in
theorem A48_139 {l : Launch} {X : aX} {d : Nat} {r : Option Value} {h' : aH} {q : aQ} (hd : 24 ≤ d) (hN : h'.1 = nk0) (hG : gI r h' (F48_139 q)) (hS : S48_139 q) : AW l X 48 c48 d r h' 139 [some (.ref 19), none, none, none] [] (hp q) := by
  unfold F48_139 at hG
  unfold S48_139 at hS
  refine x_run (pc' := 141) (lo' := [some (.ref 19), none, none, none]) (st' := [.ref 19, .ref 19]) 2 rfl ?_
  obtain ⟨o18, hS⟩ := hS
  refine x_cv (j := 50) (ne := 0) (vs := []) (rest := [.ref 19]) rfl (by decide +kernel) (by decide +kernel) (by decide) (Eq.trans rfl (show 0 = _ from by decide +kernel)) rfl (by decide +kernel) rfl (Nat.le_of_ble_eq_true rfl) (by omega) (T50 (Nat.le_refl 1) o18) (hp_m hN) ?_
  show AW l X 48 c48 d r h' 144 [some (.ref 19), none, none, none] [.int (F50_0 q), .ref 19] (hp q)
  refine x_pf (c := 198) (ne := 0) (h2 := hp (a_w q 19 6 (F50_0 q))) rfl (by decide +kernel) (by decide +kernel) rfl (pv_i rfl) ?_
  refine x_run (pc' := 148) (lo' := [some (.ref 19), none, none, none]) (st' := [.ref 19]) 1 rfl ?_
  refine x_gf (c := 198) (ne := 0) (v := .int (F50_0 q)) rfl (by decide +kernel) rfl rfl ?_
  obtain ⟨rfl, rfl⟩ := hG
  exact x_iret rfl (by decide +kernel)
def F48_56 (q : aQ) : Int32 × aQ := (fun (e17 : aQ) => F48_139 e17) (a_lp (fun (s : Int32 × Int32 × aQ) => F48_60 s.1 s.2.1 s.2.2) 1000001 (1, 0, q) q)
def S48_56 (q : aQ) : Prop := a_sf (fun (s : Int32 × Int32 × aQ) => F48_60 s.1 s.2.1 s.2.2) (fun (s : Int32 × Int32 × aQ) => S48_60 s.1 s.2.1 s.2.2) 1000001 (1, 0, q) ∧ (fun (e17 : aQ) => S48_139 e17) (a_lp (fun (s : Int32 × Int32 × aQ) => F48_60 s.1 s.2.1 s.2.2) 1000001 (1, 0, q) q)
set_option maxRecDepth 100000 in
set_option maxHeartbeats 4000000 in
theorem A48_56 {l : Launch} {X : aX} {d : Nat} {r : Option Value} {h' : aH} {q : aQ} (hd : 24 ≤ d) (hN : h'.1 = nk0) (hG : gI r h' (F48_56 q)) (hS : S48_56 q) : AW l X 48 c48 d r h' 56 [some (.ref 19), none, none, none] [] (hp q) := by
  unfold F48_56 at hG
  unfold S48_56 at hS
  refine x_run (pc' := 60) (lo' := [some (.ref 19), some (.int 1), some (.int 0), none]) (st' := []) 4 rfl ?_
  obtain ⟨ho, hS⟩ := hS
  refine x_loop (fun (s : Int32 × Int32 × aQ) => F48_60 s.1 s.2.1 s.2.2) (fun (s : Int32 × Int32 × aQ) => S48_60 s.1 s.2.1 s.2.2) (fun (s : Int32 × Int32 × aQ) => AW l X 48 c48 d r h' 60 [some (.ref 19), some (.int s.1), some (.int s.2.1), none] [] (hp s.2.2)) (fun (e : aQ) => AW l X 48 c48 d r h' 139 [some (.ref 19), none, none, none] [] (hp e)) (fun s hs hg => A48_60 hd hN hg hs) 1000001 (1, 0, q) ho (fun e17 he => ?_)
  rw [a_lp_eq he] at hG hS
  try dsimp only at hG hS
  exact A48_139 hd hN hG hS
def F48_41 (q : aQ) : Int32 × aQ := F48_56 (F51_0 21 (F41_0 q) q)
def S48_41 (q : aQ) : Prop := S41_0 q ∧ (S51_0 21 (F41_0 q) q ∧ (S48_56 (F51_0 21 (F41_0 q) q)))
set_option maxRecDepth 100000 in
set_option maxHeartbeats 4000000 in
theorem A48_41 {l : Launch} {X : aX} {d : Nat} {r : Option Value} {h' : aH} {q : aQ} (hd : 24 ≤ d) (hN : h'.1 = nk0) (hG : gI r h' (F48_41 q)) (hS : S48_41 q) : AW l X 48 c48 d r h' 41 [some (.ref 19), none, none, none] [] (hp q) := by
  unfold F48_41 at hG
  unfold S48_41 at hS
  refine x_run (pc' := 43) (lo' := [some (.ref 19), none, none, none]) (st' := [.ref 19, .ref 19]) 2 rfl ?_
  refine x_gf (c := 195) (ne := 0) (v := .ref 21) rfl (by decide +kernel) rfl rfl ?_
  refine x_run (pc' := 47) (lo' := [some (.ref 19), none, none, none]) (st' := [.ref 19, .ref 21, .ref 19]) 1 rfl ?_
  refine x_gf (c := 192) (ne := 0) (v := .ref 8) rfl (by decide +kernel) rfl rfl ?_
  obtain ⟨o4, hS⟩ := hS
  refine x_cv (j := 41) (ne := 0) (vs := []) (rest := [.ref 21, .ref 19]) rfl (by decide +kernel) (by decide +kernel) (by decide) (Eq.trans rfl (show 0 = _ from by decide +kernel)) rfl (by decide +kernel) rfl (Nat.le_of_ble_eq_true rfl) (by omega) (T41 (Nat.le_refl 1) o4) (hp_m hN) ?_
  show AW l X 48 c48 d r h' 53 [some (.ref 19), none, none, none] [.int (F41_0 q), .ref 21, .ref 19] (hp q)
  obtain ⟨o5, hS⟩ := hS
  refine x_cv (j := 51) (ne := 0) (vs := [.ref 21, .int (F41_0 q)]) (rest := []) rfl (by decide +kernel) (by decide +kernel) (by decide) (Eq.trans rfl (show 2 = _ from by decide +kernel)) rfl (by decide +kernel) rfl (Nat.le_of_ble_eq_true rfl) (by omega) (T51 (Nat.le_refl 4) isSt_21 o5) (hp_m hN) ?_
  show AW l X 48 c48 d r h' 56 [some (.ref 19), none, none, none] [] (hp (F51_0 21 (F41_0 q) q))
  exact A48_56 hd hN hG hS
def F48_34 (q : aQ) : Int32 × aQ := F48_41 (F59_0 21 q)
def S48_34 (q : aQ) : Prop := S59_0 21 q ∧ (S48_41 (F59_0 21 q))
set_option maxRecDepth 100000 in
set_option maxHeartbeats 4000000 in
theorem A48_34 {l : Launch} {X : aX} {d : Nat} {r : Option Value} {h' : aH} {q : aQ} (hd : 24 ≤ d) (hN : h'.1 = nk0) (hG : gI r h' (F48_34 q)) (hS : S48_34 q) : AW l X 48 c48 d r h' 34 [some (.ref 19), none, none, none] [] (hp q) := by
  unfold F48_34 at hG
  unfold S48_34 at hS
  refine x_run (pc' := 35) (lo' := [some (.ref 19), none, none, none]) (st' := [.ref 19]) 1 rfl ?_
  refine x_gf (c := 195) (ne := 0) (v := .ref 21) rfl (by decide +kernel) rfl rfl ?_
  obtain ⟨o3, hS⟩ := hS
  refine x_cv (j := 59) (ne := 0) (vs := []) (rest := []) rfl (by decide +kernel) (by decide +kernel) (by decide) (Eq.trans rfl (show 0 = _ from by decide +kernel)) rfl (by decide +kernel) rfl (Nat.le_of_ble_eq_true rfl) (by omega) (T59 (Nat.le_refl 3) isSt_21 o3) (hp_m hN) ?_
  show AW l X 48 c48 d r h' 41 [some (.ref 19), none, none, none] [] (hp (F59_0 21 q))
  exact A48_41 hd hN hG hS
def F48_0 (q : aQ) : Int32 × aQ := (if (q.1 19 7) = (q.1 8 7) then ((q.1 19 6), q) else F48_34 (F49_0 (a_w q 19 7 (q.1 8 7))))
def S48_0 (q : aQ) : Prop := (((q.1 19 7) = (q.1 8 7)) → True) ∧ (¬ ((q.1 19 7) = (q.1 8 7)) → S49_0 (a_w q 19 7 (q.1 8 7)) ∧ (S48_34 (F49_0 (a_w q 19 7 (q.1 8 7)))))
set_option maxRecDepth 100000 in
set_option maxHeartbeats 4000000 in
theorem A48_0 {l : Launch} {X : aX} {d : Nat} {r : Option Value} {h' : aH} {q : aQ} (hd : 24 ≤ d) (hN : h'.1 = nk0) (hG : gI r h' (F48_0 q)) (hS : S48_0 q) : AW l X 48 c48 d r h' 0 [some (.ref 19), none, none, none] [] (hp q) := by
  unfold F48_0 at hG
  unfold S48_0 at hS
  refine x_run (pc' := 1) (lo' := [some (.ref 19), none, none, none]) (st' := [.ref 19]) 1 rfl ?_
  refine x_gf (c := 199) (ne := 0) (v := .int (q.1 19 7)) rfl (by decide +kernel) rfl rfl ?_
  refine x_run (pc' := 5) (lo' := [some (.ref 19), none, none, none]) (st' := [.ref 19, .int (q.1 19 7)]) 1 rfl ?_
  refine x_gf (c := 192) (ne := 0) (v := .ref 8) rfl (by decide +kernel) rfl rfl ?_
  refine x_gf (c := 135) (ne := 1) (v := .int (q.1 8 7)) rfl (by decide +kernel) rfl rfl ?_
  refine x_ic 19 rfl rfl (fun (hc1 : ¬ (q.1 19 7) = (q.1 8 7)) => ?_) (fun (hc1 : (q.1 19 7) = (q.1 8 7)) => ?_)
  · rw [if_neg hc1] at hG
    replace hS := hS.2 hc1
    refine x_run (pc' := 21) (lo' := [some (.ref 19), none, none, none]) (st' := [.ref 19, .ref 19]) 2 rfl ?_
    refine x_gf (c := 192) (ne := 0) (v := .ref 8) rfl (by decide +kernel) rfl rfl ?_
    refine x_gf (c := 135) (ne := 1) (v := .int (q.1 8 7)) rfl (by decide +kernel) rfl rfl ?_
    refine x_pf (c := 199) (ne := 0) (h2 := hp (a_w q 19 7 (q.1 8 7))) rfl (by decide +kernel) (by decide +kernel) rfl (pv_i rfl) ?_
    refine x_run (pc' := 31) (lo' := [some (.ref 19), none, none, none]) (st' := [.ref 19]) 1 rfl ?_
    obtain ⟨o2, hS⟩ := hS
    refine x_cv (j := 49) (ne := 0) (vs := []) (rest := []) rfl (by decide +kernel) (by decide +kernel) (by decide) (Eq.trans rfl (show 0 = _ from by decide +kernel)) rfl (by decide +kernel) rfl (Nat.le_of_ble_eq_true rfl) (by omega) (T49 (Nat.le_refl 4) o2) (hp_m hN) ?_
    show AW l X 48 c48 d r h' 34 [some (.ref 19), none, none, none] [] (hp (F49_0 (a_w q 19 7 (q.1 8 7))))
    exact A48_34 hd hN hG hS
  · rw [if_pos hc1] at hG
    replace hS := hS.1 hc1
    refine x_run (pc' := 15) (lo' := [some (.ref 19), none, none, none]) (st' := [.ref 19]) 1 rfl ?_
    refine x_gf (c := 198) (ne := 0) (v := .int (q.1 19 6)) rfl (by decide +kernel) rfl rfl ?_
    obtain ⟨rfl, rfl⟩ := hG
    exact x_iret rfl (by decide +kernel)
theorem T48 {l : Launch} {X : aX} {d : Nat} {q : aQ} (hd : 24 ≤ d) (hS : S48_0 q) : Call l X d 48 [.ref 19] (hp q) (some (.int (F48_0 q).1)) (hp (F48_0 q).2) := Call.of ok48 (by decide) (Nat.le_of_ble_eq_true rfl) ⟨Nat.le_refl _, Nat.le_refl _⟩ (A48_0 hd rfl ⟨rfl, rfl⟩ hS)
