/-! written by wip/whole/gen3.py: what methods do (F), what they need (S), the walk (A), the contract (T) -/
/-- TypeForecast$State.clear()V -/
def F58_16 (v0 : Nat) (v1 : Int32) (q : aQ) : (Int32 × aQ) ⊕ (aQ) := .inl ((v1 + 1), q)
def S58_16 (v0 : Nat) (v1 : Int32) (q : aQ) : Prop := True
set_option maxRecDepth 100000 in
set_option maxHeartbeats 4000000 in
theorem A58_16 {l : Launch} {X : aX} {d : Nat} {r : Option Value} {h' : aH} {v0 : Nat} {v1 : Int32} {q : aQ} (hd : 3 ≤ d) (hN : h'.1 = nk0) (fv0 : isSt v0) (hG : gL (fun (s : Int32 × aQ) => AW l X 58 c58 d r h' 2 [some (.ref v0), some (.int s.1)] [] (hp s.2)) (fun (e : aQ) => AW l X 58 c58 d r h' 22 [none, none] [] (hp e)) (F58_16 v0 v1 q)) (hS : S58_16 v0 v1 q) : AW l X 58 c58 d r h' 16 [some (.ref v0), some (.int v1)] [] (hp q) := by
  unfold F58_16 at hG
  unfold S58_16 at hS
  refine x_run (pc' := 2) (lo' := [some (.ref v0), some (.int (v1 + 1))]) (st' := []) 2 rfl ?_
  exact hG
def F58_2 (v0 : Nat) (v1 : Int32) (q : aQ) : (Int32 × aQ) ⊕ (aQ) := (if 5 ≤ v1 then .inr q else F58_16 v0 v1 (F63_0 (v0 + 2 + 3 * (Int32.toNatClampNeg v1)) q))
def S58_2 (v0 : Nat) (v1 : Int32) (q : aQ) : Prop := ((5 ≤ v1) → True) ∧ (¬ (5 ≤ v1) → vp_in v1 5 ∧ (S63_0 (v0 + 2 + 3 * (Int32.toNatClampNeg v1)) q ∧ (S58_16 v0 v1 (F63_0 (v0 + 2 + 3 * (Int32.toNatClampNeg v1)) q))))
set_option maxRecDepth 100000 in
set_option maxHeartbeats 4000000 in
theorem A58_2 {l : Launch} {X : aX} {d : Nat} {r : Option Value} {h' : aH} {v0 : Nat} {v1 : Int32} {q : aQ} (hd : 3 ≤ d) (hN : h'.1 = nk0) (fv0 : isSt v0) (hG : gL (fun (s : Int32 × aQ) => AW l X 58 c58 d r h' 2 [some (.ref v0), some (.int s.1)] [] (hp s.2)) (fun (e : aQ) => AW l X 58 c58 d r h' 22 [none, none] [] (hp e)) (F58_2 v0 v1 q)) (hS : S58_2 v0 v1 q) : AW l X 58 c58 d r h' 2 [some (.ref v0), some (.int v1)] [] (hp q) := by
  unfold F58_2 at hG
  unfold S58_2 at hS
  refine x_run (pc' := 4) (lo' := [some (.ref v0), some (.int v1)]) (st' := [.int 5, .int v1]) 2 rfl ?_
  refine x_ic 22 rfl rfl (fun (hc1 : 5 ≤ v1) => ?_) (fun (hc1 : ¬ 5 ≤ v1) => ?_)
  · rw [if_pos hc1] at hG
    replace hS := hS.1 hc1
    refine x_kill [0, 1] ?_
    exact hG
  · rw [if_neg hc1] at hG
    replace hS := hS.2 hc1
    refine x_run (pc' := 8) (lo' := [some (.ref v0), some (.int v1)]) (st' := [.ref v0]) 1 rfl ?_
    refine x_gf (c := 256) (ne := 0) (v := .ref (v0 + 1)) rfl (by decide +kernel) (st_s fv0) (st_v fv0) ?_
    refine x_run (pc' := 12) (lo' := [some (.ref v0), some (.int v1)]) (st' := [.int v1, .ref (v0 + 1)]) 1 rfl ?_
    obtain ⟨o2, hS⟩ := hS
    refine x_aa (n := 5) (t := 20) (v := v0 + 2 + 3 * (Int32.toNatClampNeg v1)) rfl (st_a fv0) (Or.inr rfl) o2 (st_m fv0 o2) ?_
    obtain ⟨o3, hS⟩ := hS
    refine x_cv (j := 63) (ne := 0) (vs := []) (rest := []) rfl (by decide +kernel) (by decide +kernel) (by decide) (Eq.trans rfl (show 0 = _ from by decide +kernel)) (pc_s (st_p fv0 o2)) (by decide +kernel) rfl (Nat.le_of_ble_eq_true rfl) (by omega) (T63 (Nat.le_refl 2) (st_p fv0 o2) o3) (hp_m hN) ?_
    show AW l X 58 c58 d r h' 16 [some (.ref v0), some (.int v1)] [] (hp (F63_0 (v0 + 2 + 3 * (Int32.toNatClampNeg v1)) q))
    exact A58_16 hd hN fv0 hG hS
def F58_22 (q : aQ) : aQ := q
def S58_22 (q : aQ) : Prop := True
set_option maxRecDepth 100000 in
set_option maxHeartbeats 4000000 in
theorem A58_22 {l : Launch} {X : aX} {d : Nat} {r : Option Value} {h' : aH} {q : aQ} (hd : 3 ≤ d) (hN : h'.1 = nk0) (hG : gV r h' (F58_22 q)) (hS : S58_22 q) : AW l X 58 c58 d r h' 22 [none, none] [] (hp q) := by
  unfold F58_22 at hG
  unfold S58_22 at hS
  obtain ⟨rfl, rfl⟩ := hG
  exact x_ret rfl (by decide +kernel)
def F58_0 (v0 : Nat) (q : aQ) : aQ := (fun (e4 : aQ) => F58_22 e4) (a_lp (fun (s : Int32 × aQ) => F58_2 v0 s.1 s.2) 200 (0, q) q)
def S58_0 (v0 : Nat) (q : aQ) : Prop := a_sf (fun (s : Int32 × aQ) => F58_2 v0 s.1 s.2) (fun (s : Int32 × aQ) => S58_2 v0 s.1 s.2) 200 (0, q) ∧ (fun (e4 : aQ) => S58_22 e4) (a_lp (fun (s : Int32 × aQ) => F58_2 v0 s.1 s.2) 200 (0, q) q)
set_option maxRecDepth 100000 in
set_option maxHeartbeats 4000000 in
theorem A58_0 {l : Launch} {X : aX} {d : Nat} {r : Option Value} {h' : aH} {v0 : Nat} {q : aQ} (hd : 3 ≤ d) (hN : h'.1 = nk0) (fv0 : isSt v0) (hG : gV r h' (F58_0 v0 q)) (hS : S58_0 v0 q) : AW l X 58 c58 d r h' 0 [some (.ref v0), none] [] (hp q) := by
  unfold F58_0 at hG
  unfold S58_0 at hS
  refine x_run (pc' := 2) (lo' := [some (.ref v0), some (.int 0)]) (st' := []) 2 rfl ?_
  obtain ⟨ho, hS⟩ := hS
  refine x_loop (fun (s : Int32 × aQ) => F58_2 v0 s.1 s.2) (fun (s : Int32 × aQ) => S58_2 v0 s.1 s.2) (fun (s : Int32 × aQ) => AW l X 58 c58 d r h' 2 [some (.ref v0), some (.int s.1)] [] (hp s.2)) (fun (e : aQ) => AW l X 58 c58 d r h' 22 [none, none] [] (hp e)) (fun s hs hg => A58_2 hd hN fv0 hg hs) 200 (0, q) ho (fun e4 he => ?_)
  rw [a_lp_eq he] at hG hS
  try dsimp only at hG hS
  exact A58_22 hd hN hG hS
theorem T58 {l : Launch} {X : aX} {d : Nat} {v0 : Nat} {q : aQ} (hd : 3 ≤ d) (fv0 : isSt v0) (hS : S58_0 v0 q) : Call l X d 58 [.ref v0] (hp q) none (hp (F58_0 v0 q)) := Call.of ok58 (by decide) (Nat.le_of_ble_eq_true rfl) ⟨Nat.le_refl _, Nat.le_refl _⟩ (A58_0 hd rfl fv0 ⟨rfl, rfl⟩ hS)
/-- TypeForecast$State.unbindAll()V -/
def F59_16 (v0 : Nat) (v1 : Int32) (q : aQ) : (Int32 × aQ) ⊕ (aQ) := .inl ((v1 + 1), (a_w q (v0 + 2 + 3 * (Int32.toNatClampNeg v1)) 3 1))
def S59_16 (v0 : Nat) (v1 : Int32) (q : aQ) : Prop := vp_in v1 5 ∧ (True)
set_option maxRecDepth 100000 in
set_option maxHeartbeats 4000000 in
theorem A59_16 {l : Launch} {X : aX} {d : Nat} {r : Option Value} {h' : aH} {v0 : Nat} {v1 : Int32} {q : aQ} (hd : 3 ≤ d) (hN : h'.1 = nk0) (fv0 : isSt v0) (hG : gL (fun (s : Int32 × aQ) => AW l X 59 c59 d r h' 2 [some (.ref v0), some (.int s.1)] [] (hp s.2)) (fun (e : aQ) => AW l X 59 c59 d r h' 32 [none, none] [] (hp e)) (F59_16 v0 v1 q)) (hS : S59_16 v0 v1 q) : AW l X 59 c59 d r h' 16 [some (.ref v0), some (.int v1)] [] (hp q) := by
  unfold F59_16 at hG
  unfold S59_16 at hS
  refine x_run (pc' := 17) (lo' := [some (.ref v0), some (.int v1)]) (st' := [.ref v0]) 1 rfl ?_
  refine x_gf (c := 256) (ne := 0) (v := .ref (v0 + 1)) rfl (by decide +kernel) (st_s fv0) (st_v fv0) ?_
  refine x_run (pc' := 21) (lo' := [some (.ref v0), some (.int v1)]) (st' := [.int v1, .ref (v0 + 1)]) 1 rfl ?_
  obtain ⟨o4, hS⟩ := hS
  refine x_aa (n := 5) (t := 20) (v := v0 + 2 + 3 * (Int32.toNatClampNeg v1)) rfl (st_a fv0) (Or.inr rfl) o4 (st_m fv0 o4) ?_
  refine x_run (pc' := 23) (lo' := [some (.ref v0), some (.int v1)]) (st' := [.int 1, .ref (v0 + 2 + 3 * (Int32.toNatClampNeg v1))]) 1 rfl ?_
  refine x_pf (c := 323) (ne := 1) (h2 := hp (a_w q (v0 + 2 + 3 * (Int32.toNatClampNeg v1)) 3 1)) rfl (by decide +kernel) (by decide +kernel) (pc_s (st_p fv0 o4)) (pv_z rfl (Or.inr rfl)) ?_
  refine x_run (pc' := 2) (lo' := [some (.ref v0), some (.int (v1 + 1))]) (st' := []) 2 rfl ?_
  exact hG
def F59_2 (v0 : Nat) (v1 : Int32) (q : aQ) : (Int32 × aQ) ⊕ (aQ) := (if 5 ≤ v1 then .inr q else F59_16 v0 v1 (F63_0 (v0 + 2 + 3 * (Int32.toNatClampNeg v1)) q))
def S59_2 (v0 : Nat) (v1 : Int32) (q : aQ) : Prop := ((5 ≤ v1) → True) ∧ (¬ (5 ≤ v1) → vp_in v1 5 ∧ (S63_0 (v0 + 2 + 3 * (Int32.toNatClampNeg v1)) q ∧ (S59_16 v0 v1 (F63_0 (v0 + 2 + 3 * (Int32.toNatClampNeg v1)) q))))
set_option maxRecDepth 100000 in
set_option maxHeartbeats 4000000 in
theorem A59_2 {l : Launch} {X : aX} {d : Nat} {r : Option Value} {h' : aH} {v0 : Nat} {v1 : Int32} {q : aQ} (hd : 3 ≤ d) (hN : h'.1 = nk0) (fv0 : isSt v0) (hG : gL (fun (s : Int32 × aQ) => AW l X 59 c59 d r h' 2 [some (.ref v0), some (.int s.1)] [] (hp s.2)) (fun (e : aQ) => AW l X 59 c59 d r h' 32 [none, none] [] (hp e)) (F59_2 v0 v1 q)) (hS : S59_2 v0 v1 q) : AW l X 59 c59 d r h' 2 [some (.ref v0), some (.int v1)] [] (hp q) := by
  unfold F59_2 at hG
  unfold S59_2 at hS
  refine x_run (pc' := 4) (lo' := [some (.ref v0), some (.int v1)]) (st' := [.int 5, .int v1]) 2 rfl ?_
  refine x_ic 32 rfl rfl (fun (hc1 : 5 ≤ v1) => ?_) (fun (hc1 : ¬ 5 ≤ v1) => ?_)
  · rw [if_pos hc1] at hG
    replace hS := hS.1 hc1
    refine x_kill [0, 1] ?_
    exact hG
  · rw [if_neg hc1] at hG
    replace hS := hS.2 hc1
    refine x_run (pc' := 8) (lo' := [some (.ref v0), some (.int v1)]) (st' := [.ref v0]) 1 rfl ?_
    refine x_gf (c := 256) (ne := 0) (v := .ref (v0 + 1)) rfl (by decide +kernel) (st_s fv0) (st_v fv0) ?_
    refine x_run (pc' := 12) (lo' := [some (.ref v0), some (.int v1)]) (st' := [.int v1, .ref (v0 + 1)]) 1 rfl ?_
    obtain ⟨o2, hS⟩ := hS
    refine x_aa (n := 5) (t := 20) (v := v0 + 2 + 3 * (Int32.toNatClampNeg v1)) rfl (st_a fv0) (Or.inr rfl) o2 (st_m fv0 o2) ?_
    obtain ⟨o3, hS⟩ := hS
    refine x_cv (j := 63) (ne := 0) (vs := []) (rest := []) rfl (by decide +kernel) (by decide +kernel) (by decide) (Eq.trans rfl (show 0 = _ from by decide +kernel)) (pc_s (st_p fv0 o2)) (by decide +kernel) rfl (Nat.le_of_ble_eq_true rfl) (by omega) (T63 (Nat.le_refl 2) (st_p fv0 o2) o3) (hp_m hN) ?_
    show AW l X 59 c59 d r h' 16 [some (.ref v0), some (.int v1)] [] (hp (F63_0 (v0 + 2 + 3 * (Int32.toNatClampNeg v1)) q))
    exact A59_16 hd hN fv0 hG hS
def F59_32 (q : aQ) : aQ := q
def S59_32 (q : aQ) : Prop := True
set_option maxRecDepth 100000 in
set_option maxHeartbeats 4000000 in
theorem A59_32 {l : Launch} {X : aX} {d : Nat} {r : Option Value} {h' : aH} {q : aQ} (hd : 3 ≤ d) (hN : h'.1 = nk0) (hG : gV r h' (F59_32 q)) (hS : S59_32 q) : AW l X 59 c59 d r h' 32 [none, none] [] (hp q) := by
  unfold F59_32 at hG
  unfold S59_32 at hS
  obtain ⟨rfl, rfl⟩ := hG
  exact x_ret rfl (by decide +kernel)
def F59_0 (v0 : Nat) (q : aQ) : aQ := (fun (e5 : aQ) => F59_32 e5) (a_lp (fun (s : Int32 × aQ) => F59_2 v0 s.1 s.2) 200 (0, q) q)
def S59_0 (v0 : Nat) (q : aQ) : Prop := a_sf (fun (s : Int32 × aQ) => F59_2 v0 s.1 s.2) (fun (s : Int32 × aQ) => S59_2 v0 s.1 s.2) 200 (0, q) ∧ (fun (e5 : aQ) => S59_32 e5) (a_lp (fun (s : Int32 × aQ) => F59_2 v0 s.1 s.2) 200 (0, q) q)
set_option maxRecDepth 100000 in
set_option maxHeartbeats 4000000 in
theorem A59_0 {l : Launch} {X : aX} {d : Nat} {r : Option Value} {h' : aH} {v0 : Nat} {q : aQ} (hd : 3 ≤ d) (hN : h'.1 = nk0) (fv0 : isSt v0) (hG : gV r h' (F59_0 v0 q)) (hS : S59_0 v0 q) : AW l X 59 c59 d r h' 0 [some (.ref v0), none] [] (hp q) := by
  unfold F59_0 at hG
  unfold S59_0 at hS
  refine x_run (pc' := 2) (lo' := [some (.ref v0), some (.int 0)]) (st' := []) 2 rfl ?_
  obtain ⟨ho, hS⟩ := hS
  refine x_loop (fun (s : Int32 × aQ) => F59_2 v0 s.1 s.2) (fun (s : Int32 × aQ) => S59_2 v0 s.1 s.2) (fun (s : Int32 × aQ) => AW l X 59 c59 d r h' 2 [some (.ref v0), some (.int s.1)] [] (hp s.2)) (fun (e : aQ) => AW l X 59 c59 d r h' 32 [none, none] [] (hp e)) (fun s hs hg => A59_2 hd hN fv0 hg hs) 200 (0, q) ho (fun e5 he => ?_)
  rw [a_lp_eq he] at hG hS
  try dsimp only at hG hS
  exact A59_32 hd hN hG hS
theorem T59 {l : Launch} {X : aX} {d : Nat} {v0 : Nat} {q : aQ} (hd : 3 ≤ d) (fv0 : isSt v0) (hS : S59_0 v0 q) : Call l X d 59 [.ref v0] (hp q) none (hp (F59_0 v0 q)) := Call.of ok59 (by decide) (Nat.le_of_ble_eq_true rfl) ⟨Nat.le_refl _, Nat.le_refl _⟩ (A59_0 hd rfl fv0 ⟨rfl, rfl⟩ hS)
/-- TypeForecast$State.copyFrom(LTypeForecast$State;)V -/
def F60_22 (v0 : Nat) (v1 : Nat) (v2 : Int32) (q : aQ) : (Int32 × aQ) ⊕ (aQ) := .inl ((v2 + 1), q)
def S60_22 (v0 : Nat) (v1 : Nat) (v2 : Int32) (q : aQ) : Prop := True
set_option maxRecDepth 100000 in
set_option maxHeartbeats 4000000 in
theorem A60_22 {l : Launch} {X : aX} {d : Nat} {r : Option Value} {h' : aH} {v0 : Nat} {v1 : Nat} {v2 : Int32} {q : aQ} (hd : 3 ≤ d) (hN : h'.1 = nk0) (fv0 : isSt v0) (fv1 : isSt v1) (hG : gL (fun (s : Int32 × aQ) => AW l X 60 c60 d r h' 2 [some (.ref v0), some (.ref v1), some (.int s.1)] [] (hp s.2)) (fun (e : aQ) => AW l X 60 c60 d r h' 28 [none, none, none] [] (hp e)) (F60_22 v0 v1 v2 q)) (hS : S60_22 v0 v1 v2 q) : AW l X 60 c60 d r h' 22 [some (.ref v0), some (.ref v1), some (.int v2)] [] (hp q) := by
  unfold F60_22 at hG
  unfold S60_22 at hS
  refine x_run (pc' := 2) (lo' := [some (.ref v0), some (.ref v1), some (.int (v2 + 1))]) (st' := []) 2 rfl ?_
  exact hG
def F60_2 (v0 : Nat) (v1 : Nat) (v2 : Int32) (q : aQ) : (Int32 × aQ) ⊕ (aQ) := (if 5 ≤ v2 then .inr q else F60_22 v0 v1 v2 (F64_0 (v0 + 2 + 3 * (Int32.toNatClampNeg v2)) (v1 + 2 + 3 * (Int32.toNatClampNeg v2)) q))
def S60_2 (v0 : Nat) (v1 : Nat) (v2 : Int32) (q : aQ) : Prop := ((5 ≤ v2) → True) ∧ (¬ (5 ≤ v2) → vp_in v2 5 ∧ (vp_in v2 5 ∧ (S64_0 (v0 + 2 + 3 * (Int32.toNatClampNeg v2)) (v1 + 2 + 3 * (Int32.toNatClampNeg v2)) q ∧ (S60_22 v0 v1 v2 (F64_0 (v0 + 2 + 3 * (Int32.toNatClampNeg v2)) (v1 + 2 + 3 * (Int32.toNatClampNeg v2)) q)))))
set_option maxRecDepth 100000 in
set_option maxHeartbeats 4000000 in
theorem A60_2 {l : Launch} {X : aX} {d : Nat} {r : Option Value} {h' : aH} {v0 : Nat} {v1 : Nat} {v2 : Int32} {q : aQ} (hd : 3 ≤ d) (hN : h'.1 = nk0) (fv0 : isSt v0) (fv1 : isSt v1) (hG : gL (fun (s : Int32 × aQ) => AW l X 60 c60 d r h' 2 [some (.ref v0), some (.ref v1), some (.int s.1)] [] (hp s.2)) (fun (e : aQ) => AW l X 60 c60 d r h' 28 [none, none, none] [] (hp e)) (F60_2 v0 v1 v2 q)) (hS : S60_2 v0 v1 v2 q) : AW l X 60 c60 d r h' 2 [some (.ref v0), some (.ref v1), some (.int v2)] [] (hp q) := by
  unfold F60_2 at hG
  unfold S60_2 at hS
  refine x_run (pc' := 4) (lo' := [some (.ref v0), some (.ref v1), some (.int v2)]) (st' := [.int 5, .int v2]) 2 rfl ?_
  refine x_ic 28 rfl rfl (fun (hc1 : 5 ≤ v2) => ?_) (fun (hc1 : ¬ 5 ≤ v2) => ?_)
  · rw [if_pos hc1] at hG
    replace hS := hS.1 hc1
    refine x_kill [0, 1, 2] ?_
    exact hG
  · rw [if_neg hc1] at hG
    replace hS := hS.2 hc1
    refine x_run (pc' := 8) (lo' := [some (.ref v0), some (.ref v1), some (.int v2)]) (st' := [.ref v0]) 1 rfl ?_
    refine x_gf (c := 256) (ne := 0) (v := .ref (v0 + 1)) rfl (by decide +kernel) (st_s fv0) (st_v fv0) ?_
    refine x_run (pc' := 12) (lo' := [some (.ref v0), some (.ref v1), some (.int v2)]) (st' := [.int v2, .ref (v0 + 1)]) 1 rfl ?_
    obtain ⟨o2, hS⟩ := hS
    refine x_aa (n := 5) (t := 20) (v := v0 + 2 + 3 * (Int32.toNatClampNeg v2)) rfl (st_a fv0) (Or.inr rfl) o2 (st_m fv0 o2) ?_
    refine x_run (pc' := 14) (lo' := [some (.ref v0), some (.ref v1), some (.int v2)]) (st' := [.ref v1, .ref (v0 + 2 + 3 * (Int32.toNatClampNeg v2))]) 1 rfl ?_
    refine x_gf (c := 256) (ne := 0) (v := .ref (v1 + 1)) rfl (by decide +kernel) (st_s fv1) (st_v fv1) ?_
    refine x_run (pc' := 18) (lo' := [some (.ref v0), some (.ref v1), some (.int v2)]) (st' := [.int v2, .ref (v1 + 1), .ref (v0 + 2 + 3 * (Int32.toNatClampNeg v2))]) 1 rfl ?_
    obtain ⟨o3, hS⟩ := hS
    refine x_aa (n := 5) (t := 20) (v := v1 + 2 + 3 * (Int32.toNatClampNeg v2)) rfl (st_a fv1) (Or.inr rfl) o3 (st_m fv1 o3) ?_
    obtain ⟨o4, hS⟩ := hS
    refine x_cv (j := 64) (ne := 0) (vs := [.ref (v1 + 2 + 3 * (Int32.toNatClampNeg v2))]) (rest := []) rfl (by decide +kernel) (by decide +kernel) (by decide) (Eq.trans rfl (show 1 = _ from by decide +kernel)) (pc_s (st_p fv0 o2)) (by decide +kernel) rfl (Nat.le_of_ble_eq_true rfl) (by omega) (T64 (Nat.le_refl 2) (st_p fv0 o2) (st_p fv1 o3) o4) (hp_m hN) ?_
    show AW l X 60 c60 d r h' 22 [some (.ref v0), some (.ref v1), some (.int v2)] [] (hp (F64_0 (v0 + 2 + 3 * (Int32.toNatClampNeg v2)) (v1 + 2 + 3 * (Int32.toNatClampNeg v2)) q))
    exact A60_22 hd hN fv0 fv1 hG hS
def F60_28 (q : aQ) : aQ := q
def S60_28 (q : aQ) : Prop := True
set_option maxRecDepth 100000 in
set_option maxHeartbeats 4000000 in
theorem A60_28 {l : Launch} {X : aX} {d : Nat} {r : Option Value} {h' : aH} {q : aQ} (hd : 3 ≤ d) (hN : h'.1 = nk0) (hG : gV r h' (F60_28 q)) (hS : S60_28 q) : AW l X 60 c60 d r h' 28 [none, none, none] [] (hp q) := by
  unfold F60_28 at hG
  unfold S60_28 at hS
  obtain ⟨rfl, rfl⟩ := hG
  exact x_ret rfl (by decide +kernel)
def F60_0 (v0 : Nat) (v1 : Nat) (q : aQ) : aQ := (fun (e5 : aQ) => F60_28 e5) (a_lp (fun (s : Int32 × aQ) => F60_2 v0 v1 s.1 s.2) 200 (0, q) q)
def S60_0 (v0 : Nat) (v1 : Nat) (q : aQ) : Prop := a_sf (fun (s : Int32 × aQ) => F60_2 v0 v1 s.1 s.2) (fun (s : Int32 × aQ) => S60_2 v0 v1 s.1 s.2) 200 (0, q) ∧ (fun (e5 : aQ) => S60_28 e5) (a_lp (fun (s : Int32 × aQ) => F60_2 v0 v1 s.1 s.2) 200 (0, q) q)
set_option maxRecDepth 100000 in
set_option maxHeartbeats 4000000 in
theorem A60_0 {l : Launch} {X : aX} {d : Nat} {r : Option Value} {h' : aH} {v0 : Nat} {v1 : Nat} {q : aQ} (hd : 3 ≤ d) (hN : h'.1 = nk0) (fv0 : isSt v0) (fv1 : isSt v1) (hG : gV r h' (F60_0 v0 v1 q)) (hS : S60_0 v0 v1 q) : AW l X 60 c60 d r h' 0 [some (.ref v0), some (.ref v1), none] [] (hp q) := by
  unfold F60_0 at hG
  unfold S60_0 at hS
  refine x_run (pc' := 2) (lo' := [some (.ref v0), some (.ref v1), some (.int 0)]) (st' := []) 2 rfl ?_
  obtain ⟨ho, hS⟩ := hS
  refine x_loop (fun (s : Int32 × aQ) => F60_2 v0 v1 s.1 s.2) (fun (s : Int32 × aQ) => S60_2 v0 v1 s.1 s.2) (fun (s : Int32 × aQ) => AW l X 60 c60 d r h' 2 [some (.ref v0), some (.ref v1), some (.int s.1)] [] (hp s.2)) (fun (e : aQ) => AW l X 60 c60 d r h' 28 [none, none, none] [] (hp e)) (fun s hs hg => A60_2 hd hN fv0 fv1 hg hs) 200 (0, q) ho (fun e5 he => ?_)
  rw [a_lp_eq he] at hG hS
  try dsimp only at hG hS
  exact A60_28 hd hN hG hS
theorem T60 {l : Launch} {X : aX} {d : Nat} {v0 : Nat} {v1 : Nat} {q : aQ} (hd : 3 ≤ d) (fv0 : isSt v0) (fv1 : isSt v1) (hS : S60_0 v0 v1 q) : Call l X d 60 [.ref v0, .ref v1] (hp q) none (hp (F60_0 v0 v1 q)) := Call.of ok60 (by decide) (Nat.le_of_ble_eq_true rfl) ⟨Nat.le_refl _, Nat.le_refl _⟩ (A60_0 hd rfl fv0 fv1 ⟨rfl, rfl⟩ hS)
/-- TypeForecast$State.join(LTypeForecast$State;)Z -/
def F61_36 (v0 : Nat) (v1 : Nat) (v3 : Int32) (s0 : Int32) (q : aQ) : (Int32 × Int32 × aQ) ⊕ (Int32 × aQ) := .inl (s0, (v3 + 1), q)
def S61_36 (v0 : Nat) (v1 : Nat) (v3 : Int32) (s0 : Int32) (q : aQ) : Prop := True
set_option maxRecDepth 100000 in
set_option maxHeartbeats 4000000 in
theorem A61_36 {l : Launch} {X : aX} {d : Nat} {r : Option Value} {h' : aH} {v0 : Nat} {v1 : Nat} {v3 : Int32} {s0 : Int32} {q : aQ} (hd : 3 ≤ d) (hN : h'.1 = nk0) (fv0 : isSt v0) (fv1 : isSt v1) (hG : gL (fun (s : Int32 × Int32 × aQ) => AW l X 61 c61 d r h' 4 [some (.ref v0), some (.ref v1), some (.int s.1), some (.int s.2.1)] [] (hp s.2.2)) (fun (e : Int32 × aQ) => AW l X 61 c61 d r h' 43 [none, none, some (.int e.1), none] [] (hp e.2)) (F61_36 v0 v1 v3 s0 q)) (hS : S61_36 v0 v1 v3 s0 q) : AW l X 61 c61 d r h' 36 [some (.ref v0), some (.ref v1), none, some (.int v3)] [.int s0] (hp q) := by
  unfold F61_36 at hG
  unfold S61_36 at hS
  refine x_run (pc' := 4) (lo' := [some (.ref v0), some (.ref v1), some (.int s0), some (.int (v3 + 1))]) (st' := []) 3 rfl ?_
  exact hG
def F61_31 (v0 : Nat) (v1 : Nat) (v3 : Int32) (q : aQ) : (Int32 × Int32 × aQ) ⊕ (Int32 × aQ) := F61_36 v0 v1 v3 1 q
def S61_31 (v0 : Nat) (v1 : Nat) (v3 : Int32) (q : aQ) : Prop := S61_36 v0 v1 v3 1 q
set_option maxRecDepth 100000 in
set_option maxHeartbeats 4000000 in
theorem A61_31 {l : Launch} {X : aX} {d : Nat} {r : Option Value} {h' : aH} {v0 : Nat} {v1 : Nat} {v3 : Int32} {q : aQ} (hd : 3 ≤ d) (hN : h'.1 = nk0) (fv0 : isSt v0) (fv1 : isSt v1) (hG : gL (fun (s : Int32 × Int32 × aQ) => AW l X 61 c61 d r h' 4 [some (.ref v0), some (.ref v1), some (.int s.1), some (.int s.2.1)] [] (hp s.2.2)) (fun (e : Int32 × aQ) => AW l X 61 c61 d r h' 43 [none, none, some (.int e.1), none] [] (hp e.2)) (F61_31 v0 v1 v3 q)) (hS : S61_31 v0 v1 v3 q) : AW l X 61 c61 d r h' 31 [some (.ref v0), some (.ref v1), none, some (.int v3)] [] (hp q) := by
  unfold F61_31 at hG
  unfold S61_31 at hS
  refine x_run (pc' := 36) (lo' := [some (.ref v0), some (.ref v1), none, some (.int v3)]) (st' := [.int 1]) 2 rfl ?_
  exact A61_36 hd hN fv0 fv1 hG hS
def F61_24 (v0 : Nat) (v1 : Nat) (v2 : Int32) (v3 : Int32) (s0 : Int32) (q : aQ) : (Int32 × Int32 × aQ) ⊕ (Int32 × aQ) := (if s0 = 0 then (if v2 = 0 then F61_36 v0 v1 v3 0 q else F61_31 v0 v1 v3 q) else F61_31 v0 v1 v3 q)
def S61_24 (v0 : Nat) (v1 : Nat) (v2 : Int32) (v3 : Int32) (s0 : Int32) (q : aQ) : Prop := ((s0 = 0) → ((v2 = 0) → S61_36 v0 v1 v3 0 q) ∧ (¬ (v2 = 0) → S61_31 v0 v1 v3 q)) ∧ (¬ (s0 = 0) → S61_31 v0 v1 v3 q)
set_option maxRecDepth 100000 in
set_option maxHeartbeats 4000000 in
theorem A61_24 {l : Launch} {X : aX} {d : Nat} {r : Option Value} {h' : aH} {v0 : Nat} {v1 : Nat} {v2 : Int32} {v3 : Int32} {s0 : Int32} {q : aQ} (hd : 3 ≤ d) (hN : h'.1 = nk0) (fv0 : isSt v0) (fv1 : isSt v1) (hG : gL (fun (s : Int32 × Int32 × aQ) => AW l X 61 c61 d r h' 4 [some (.ref v0), some (.ref v1), some (.int s.1), some (.int s.2.1)] [] (hp s.2.2)) (fun (e : Int32 × aQ) => AW l X 61 c61 d r h' 43 [none, none, some (.int e.1), none] [] (hp e.2)) (F61_24 v0 v1 v2 v3 s0 q)) (hS : S61_24 v0 v1 v2 v3 s0 q) : AW l X 61 c61 d r h' 24 [some (.ref v0), some (.ref v1), some (.int v2), some (.int v3)] [.int s0] (hp q) := by
  unfold F61_24 at hG
  unfold S61_24 at hS
  refine x_if 31 rfl rfl (fun (hc5 : ¬ s0 = 0) => ?_) (fun (hc5 : s0 = 0) => ?_)
  · rw [if_neg hc5] at hG
    replace hS := hS.2 hc5
    refine x_kill [2] ?_
    exact A61_31 hd hN fv0 fv1 hG hS
  · rw [if_pos hc5] at hG
    replace hS := hS.1 hc5
    refine x_run (pc' := 28) (lo' := [some (.ref v0), some (.ref v1), some (.int v2), some (.int v3)]) (st' := [.int v2]) 1 rfl ?_
    refine x_if 35 rfl rfl (fun (hc6 : v2 = 0) => ?_) (fun (hc6 : ¬ v2 = 0) => ?_)
    · rw [if_pos hc6] at hG
      replace hS := hS.1 hc6
      refine x_run (pc' := 36) (lo' := [some (.ref v0), some (.ref v1), some (.int v2), some (.int v3)]) (st' := [.int 0]) 1 rfl ?_
      refine x_kill [2] ?_
      exact A61_36 hd hN fv0 fv1 hG hS
    · rw [if_neg hc6] at hG
      replace hS := hS.2 hc6
      refine x_kill [2] ?_
      exact A61_31 hd hN fv0 fv1 hG hS
def F61_4 (v0 : Nat) (v1 : Nat) (v2 : Int32) (v3 : Int32) (q : aQ) : (Int32 × Int32 × aQ) ⊕ (Int32 × aQ) := (if 5 ≤ v3 then .inr (v2, q) else F61_24 v0 v1 v2 v3 ((F65_0 (v0 + 2 + 3 * (Int32.toNatClampNeg v3)) (v1 + 2 + 3 * (Int32.toNatClampNeg v3)) q).1) ((F65_0 (v0 + 2 + 3 * (Int32.toNatClampNeg v3)) (v1 + 2 + 3 * (Int32.toNatClampNeg v3)) q).2))
def S61_4 (v0 : Nat) (v1 : Nat) (v2 : Int32) (v3 : Int32) (q : aQ) : Prop := ((5 ≤ v3) → True) ∧ (¬ (5 ≤ v3) → vp_in v3 5 ∧ (vp_in v3 5 ∧ (S65_0 (v0 + 2 + 3 * (Int32.toNatClampNeg v3)) (v1 + 2 + 3 * (Int32.toNatClampNeg v3)) q ∧ (S61_24 v0 v1 v2 v3 ((F65_0 (v0 + 2 + 3 * (Int32.toNatClampNeg v3)) (v1 + 2 + 3 * (Int32.toNatClampNeg v3)) q).1) ((F65_0 (v0 + 2 + 3 * (Int32.toNatClampNeg v3)) (v1 + 2 + 3 * (Int32.toNatClampNeg v3)) q).2)))))
set_option maxRecDepth 100000 in
set_option maxHeartbeats 4000000 in
theorem A61_4 {l : Launch} {X : aX} {d : Nat} {r : Option Value} {h' : aH} {v0 : Nat} {v1 : Nat} {v2 : Int32} {v3 : Int32} {q : aQ} (hd : 3 ≤ d) (hN : h'.1 = nk0) (fv0 : isSt v0) (fv1 : isSt v1) (hG : gL (fun (s : Int32 × Int32 × aQ) => AW l X 61 c61 d r h' 4 [some (.ref v0), some (.ref v1), some (.int s.1), some (.int s.2.1)] [] (hp s.2.2)) (fun (e : Int32 × aQ) => AW l X 61 c61 d r h' 43 [none, none, some (.int e.1), none] [] (hp e.2)) (F61_4 v0 v1 v2 v3 q)) (hS : S61_4 v0 v1 v2 v3 q) : AW l X 61 c61 d r h' 4 [some (.ref v0), some (.ref v1), some (.int v2), some (.int v3)] [] (hp q) := by
  unfold F61_4 at hG
  unfold S61_4 at hS
  refine x_run (pc' := 6) (lo' := [some (.ref v0), some (.ref v1), some (.int v2), some (.int v3)]) (st' := [.int 5, .int v3]) 2 rfl ?_
  refine x_ic 43 rfl rfl (fun (hc1 : 5 ≤ v3) => ?_) (fun (hc1 : ¬ 5 ≤ v3) => ?_)
  · rw [if_pos hc1] at hG
    replace hS := hS.1 hc1
    refine x_kill [0, 1, 3] ?_
    exact hG
  · rw [if_neg hc1] at hG
    replace hS := hS.2 hc1
    refine x_run (pc' := 10) (lo' := [some (.ref v0), some (.ref v1), some (.int v2), some (.int v3)]) (st' := [.ref v0]) 1 rfl ?_
    refine x_gf (c := 256) (ne := 0) (v := .ref (v0 + 1)) rfl (by decide +kernel) (st_s fv0) (st_v fv0) ?_
    refine x_run (pc' := 14) (lo' := [some (.ref v0), some (.ref v1), some (.int v2), some (.int v3)]) (st' := [.int v3, .ref (v0 + 1)]) 1 rfl ?_
    obtain ⟨o2, hS⟩ := hS
    refine x_aa (n := 5) (t := 20) (v := v0 + 2 + 3 * (Int32.toNatClampNeg v3)) rfl (st_a fv0) (Or.inr rfl) o2 (st_m fv0 o2) ?_
    refine x_run (pc' := 16) (lo' := [some (.ref v0), some (.ref v1), some (.int v2), some (.int v3)]) (st' := [.ref v1, .ref (v0 + 2 + 3 * (Int32.toNatClampNeg v3))]) 1 rfl ?_
    refine x_gf (c := 256) (ne := 0) (v := .ref (v1 + 1)) rfl (by decide +kernel) (st_s fv1) (st_v fv1) ?_
    refine x_run (pc' := 20) (lo' := [some (.ref v0), some (.ref v1), some (.int v2), some (.int v3)]) (st' := [.int v3, .ref (v1 + 1), .ref (v0 + 2 + 3 * (Int32.toNatClampNeg v3))]) 1 rfl ?_
    obtain ⟨o3, hS⟩ := hS
    refine x_aa (n := 5) (t := 20) (v := v1 + 2 + 3 * (Int32.toNatClampNeg v3)) rfl (st_a fv1) (Or.inr rfl) o3 (st_m fv1 o3) ?_
    obtain ⟨o4, hS⟩ := hS
    refine x_cv (j := 65) (ne := 0) (vs := [.ref (v1 + 2 + 3 * (Int32.toNatClampNeg v3))]) (rest := []) rfl (by decide +kernel) (by decide +kernel) (by decide) (Eq.trans rfl (show 1 = _ from by decide +kernel)) (pc_s (st_p fv0 o2)) (by decide +kernel) rfl (Nat.le_of_ble_eq_true rfl) (by omega) (T65 (Nat.le_refl 2) (st_p fv0 o2) (st_p fv1 o3) o4) (hp_m hN) ?_
    show AW l X 61 c61 d r h' 24 [some (.ref v0), some (.ref v1), some (.int v2), some (.int v3)] [.int (F65_0 (v0 + 2 + 3 * (Int32.toNatClampNeg v3)) (v1 + 2 + 3 * (Int32.toNatClampNeg v3)) q).1] (hp (F65_0 (v0 + 2 + 3 * (Int32.toNatClampNeg v3)) (v1 + 2 + 3 * (Int32.toNatClampNeg v3)) q).2)
    exact A61_24 hd hN fv0 fv1 hG hS
def F61_43 (v2 : Int32) (q : aQ) : Int32 × aQ := (v2, q)
def S61_43 (v2 : Int32) (q : aQ) : Prop := (v2 = 0 ∨ v2 = 1) ∧ (True)
set_option maxRecDepth 100000 in
set_option maxHeartbeats 4000000 in
theorem A61_43 {l : Launch} {X : aX} {d : Nat} {r : Option Value} {h' : aH} {v2 : Int32} {q : aQ} (hd : 3 ≤ d) (hN : h'.1 = nk0) (hG : gI r h' (F61_43 v2 q)) (hS : S61_43 v2 q) : AW l X 61 c61 d r h' 43 [none, none, some (.int v2), none] [] (hp q) := by
  unfold F61_43 at hG
  unfold S61_43 at hS
  refine x_run (pc' := 44) (lo' := [none, none, some (.int v2), none]) (st' := [.int v2]) 1 rfl ?_
  obtain ⟨o8, hS⟩ := hS
  obtain ⟨rfl, rfl⟩ := hG
  exact x_zret rfl (by decide +kernel) o8
def F61_0 (v0 : Nat) (v1 : Nat) (q : aQ) : Int32 × aQ := (fun (e7 : Int32 × aQ) => F61_43 e7.1 e7.2) (a_lp (fun (s : Int32 × Int32 × aQ) => F61_4 v0 v1 s.1 s.2.1 s.2.2) 200 (0, 0, q) (0, q))
def S61_0 (v0 : Nat) (v1 : Nat) (q : aQ) : Prop := a_sf (fun (s : Int32 × Int32 × aQ) => F61_4 v0 v1 s.1 s.2.1 s.2.2) (fun (s : Int32 × Int32 × aQ) => S61_4 v0 v1 s.1 s.2.1 s.2.2) 200 (0, 0, q) ∧ (fun (e7 : Int32 × aQ) => S61_43 e7.1 e7.2) (a_lp (fun (s : Int32 × Int32 × aQ) => F61_4 v0 v1 s.1 s.2.1 s.2.2) 200 (0, 0, q) (0, q))
set_option maxRecDepth 100000 in
set_option maxHeartbeats 4000000 in
theorem A61_0 {l : Launch} {X : aX} {d : Nat} {r : Option Value} {h' : aH} {v0 : Nat} {v1 : Nat} {q : aQ} (hd : 3 ≤ d) (hN : h'.1 = nk0) (fv0 : isSt v0) (fv1 : isSt v1) (hG : gI r h' (F61_0 v0 v1 q)) (hS : S61_0 v0 v1 q) : AW l X 61 c61 d r h' 0 [some (.ref v0), some (.ref v1), none, none] [] (hp q) := by
  unfold F61_0 at hG
  unfold S61_0 at hS
  refine x_run (pc' := 4) (lo' := [some (.ref v0), some (.ref v1), some (.int 0), some (.int 0)]) (st' := []) 4 rfl ?_
  obtain ⟨ho, hS⟩ := hS
  refine x_loop (fun (s : Int32 × Int32 × aQ) => F61_4 v0 v1 s.1 s.2.1 s.2.2) (fun (s : Int32 × Int32 × aQ) => S61_4 v0 v1 s.1 s.2.1 s.2.2) (fun (s : Int32 × Int32 × aQ) => AW l X 61 c61 d r h' 4 [some (.ref v0), some (.ref v1), some (.int s.1), some (.int s.2.1)] [] (hp s.2.2)) (fun (e : Int32 × aQ) => AW l X 61 c61 d r h' 43 [none, none, some (.int e.1), none] [] (hp e.2)) (fun s hs hg => A61_4 hd hN fv0 fv1 hg hs) 200 (0, 0, q) ho (fun e7 he => ?_)
  rw [a_lp_eq he] at hG hS
  try dsimp only at hG hS
  exact A61_43 hd hN hG hS
theorem T61 {l : Launch} {X : aX} {d : Nat} {v0 : Nat} {v1 : Nat} {q : aQ} (hd : 3 ≤ d) (fv0 : isSt v0) (fv1 : isSt v1) (hS : S61_0 v0 v1 q) : Call l X d 61 [.ref v0, .ref v1] (hp q) (some (.int (F61_0 v0 v1 q).1)) (hp (F61_0 v0 v1 q).2) := Call.of ok61 (by decide) (Nat.le_of_ble_eq_true rfl) ⟨Nat.le_refl _, Nat.le_refl _⟩ (A61_0 hd rfl fv0 fv1 ⟨rfl, rfl⟩ hS)
