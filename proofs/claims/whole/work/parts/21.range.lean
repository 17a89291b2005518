/-! written by wip/whole/gen3.py: what methods do (F), what they need (S), the walk (A), the contract (T) -/
/-- java/lang/Math.max(II)I -/
def F190_0 (v0 : Int32) (v1 : Int32) (q : aQ) : Int32 := (if v0 < v1 then v1 else v0)
def S190_0 (v0 : Int32) (v1 : Int32) (q : aQ) : Prop := ((v0 < v1) → True) ∧ (¬ (v0 < v1) → True)
set_option maxRecDepth 100000 in
set_option maxHeartbeats 4000000 in
theorem A190_0 {l : Launch} {X : aX} {d : Nat} {r : Option Value} {h' : aH} {v0 : Int32} {v1 : Int32} {q : aQ} (hd : 1 ≤ d) (hN : h'.1 = nk0) (hG : gI r h' (F190_0 v0 v1 q, q)) (hS : S190_0 v0 v1 q) : AW l X 190 c190 d r h' 0 [some (.int v0), some (.int v1)] [] (hp q) := by
  unfold F190_0 at hG
  unfold S190_0 at hS
  refine x_run (pc' := 2) (lo' := [some (.int v0), some (.int v1)]) (st' := [.int v1, .int v0]) 2 rfl ?_
  refine x_ic 9 rfl rfl (fun (hc1 : v0 < v1) => ?_) (fun (hc1 : ¬ v0 < v1) => ?_)
  · rw [if_pos hc1] at hG
    replace hS := hS.1 hc1
    refine x_run (pc' := 10) (lo' := [some (.int v0), some (.int v1)]) (st' := [.int v1]) 1 rfl ?_
    obtain ⟨rfl, rfl⟩ := hG
    exact x_iret rfl (by decide +kernel)
  · rw [if_neg hc1] at hG
    replace hS := hS.2 hc1
    refine x_run (pc' := 10) (lo' := [some (.int v0), some (.int v1)]) (st' := [.int v0]) 2 rfl ?_
    obtain ⟨rfl, rfl⟩ := hG
    exact x_iret rfl (by decide +kernel)
theorem T190 {l : Launch} {X : aX} {d : Nat} {v0 : Int32} {v1 : Int32} {q : aQ} (hd : 1 ≤ d) (hS : S190_0 v0 v1 q) : Call l X d 190 [.int v0, .int v1] (hp q) (some (.int (F190_0 v0 v1 q))) (hp q) := Call.of ok190 (by decide) (Nat.le_of_ble_eq_true rfl) ⟨Nat.le_refl _, Nat.le_refl _⟩ (A190_0 hd rfl ⟨rfl, rfl⟩ hS)
/-- java/lang/Math.min(II)I -/
def F191_0 (v0 : Int32) (v1 : Int32) (q : aQ) : Int32 := (if v1 < v0 then v1 else v0)
def S191_0 (v0 : Int32) (v1 : Int32) (q : aQ) : Prop := ((v1 < v0) → True) ∧ (¬ (v1 < v0) → True)
set_option maxRecDepth 100000 in
set_option maxHeartbeats 4000000 in
theorem A191_0 {l : Launch} {X : aX} {d : Nat} {r : Option Value} {h' : aH} {v0 : Int32} {v1 : Int32} {q : aQ} (hd : 1 ≤ d) (hN : h'.1 = nk0) (hG : gI r h' (F191_0 v0 v1 q, q)) (hS : S191_0 v0 v1 q) : AW l X 191 c191 d r h' 0 [some (.int v0), some (.int v1)] [] (hp q) := by
  unfold F191_0 at hG
  unfold S191_0 at hS
  refine x_run (pc' := 2) (lo' := [some (.int v0), some (.int v1)]) (st' := [.int v1, .int v0]) 2 rfl ?_
  refine x_ic 9 rfl rfl (fun (hc1 : v1 < v0) => ?_) (fun (hc1 : ¬ v1 < v0) => ?_)
  · rw [if_pos hc1] at hG
    replace hS := hS.1 hc1
    refine x_run (pc' := 10) (lo' := [some (.int v0), some (.int v1)]) (st' := [.int v1]) 1 rfl ?_
    obtain ⟨rfl, rfl⟩ := hG
    exact x_iret rfl (by decide +kernel)
  · rw [if_neg hc1] at hG
    replace hS := hS.2 hc1
    refine x_run (pc' := 10) (lo' := [some (.int v0), some (.int v1)]) (st' := [.int v0]) 2 rfl ?_
    obtain ⟨rfl, rfl⟩ := hG
    exact x_iret rfl (by decide +kernel)
theorem T191 {l : Launch} {X : aX} {d : Nat} {v0 : Int32} {v1 : Int32} {q : aQ} (hd : 1 ≤ d) (hS : S191_0 v0 v1 q) : Call l X d 191 [.int v0, .int v1] (hp q) (some (.int (F191_0 v0 v1 q))) (hp q) := Call.of ok191 (by decide) (Nat.le_of_ble_eq_true rfl) ⟨Nat.le_refl _, Nat.le_refl _⟩ (A191_0 hd rfl ⟨rfl, rfl⟩ hS)
/-- java/lang/Math.floorDiv(II)I -/
def F188_0 (v0 : Int32) (v1 : Int32) (q : aQ) : Int32 := (if 0 ≤ (v0 ^^^ v1) then (v0 / v1) else (if ((v0 / v1) * v1) = v0 then (v0 / v1) else ((v0 / v1) - 1)))
def S188_0 (v0 : Int32) (v1 : Int32) (q : aQ) : Prop := ¬ v1 = 0 ∧ (((0 ≤ (v0 ^^^ v1)) → True) ∧ (¬ (0 ≤ (v0 ^^^ v1)) → ((((v0 / v1) * v1) = v0) → True) ∧ (¬ (((v0 / v1) * v1) = v0) → True)))
set_option maxRecDepth 100000 in
set_option maxHeartbeats 4000000 in
theorem A188_0 {l : Launch} {X : aX} {d : Nat} {r : Option Value} {h' : aH} {v0 : Int32} {v1 : Int32} {q : aQ} (hd : 1 ≤ d) (hN : h'.1 = nk0) (hG : gI r h' (F188_0 v0 v1 q, q)) (hS : S188_0 v0 v1 q) : AW l X 188 c188 d r h' 0 [some (.int v0), some (.int v1), none] [] (hp q) := by
  unfold F188_0 at hG
  unfold S188_0 at hS
  refine x_run (pc' := 2) (lo' := [some (.int v0), some (.int v1), none]) (st' := [.int v1, .int v0]) 2 rfl ?_
  obtain ⟨o1, hS⟩ := hS
  refine x_idiv rfl o1 ?_
  refine x_run (pc' := 7) (lo' := [some (.int v0), some (.int v1), some (.int (v0 / v1))]) (st' := [.int (v0 ^^^ v1)]) 4 rfl ?_
  refine x_if 21 rfl rfl (fun (hc2 : 0 ≤ (v0 ^^^ v1)) => ?_) (fun (hc2 : ¬ 0 ≤ (v0 ^^^ v1)) => ?_)
  · rw [if_pos hc2] at hG
    replace hS := hS.1 hc2
    refine x_run (pc' := 22) (lo' := [some (.int v0), some (.int v1), some (.int (v0 / v1))]) (st' := [.int (v0 / v1)]) 1 rfl ?_
    obtain ⟨rfl, rfl⟩ := hG
    exact x_iret rfl (by decide +kernel)
  · rw [if_neg hc2] at hG
    replace hS := hS.2 hc2
    refine x_run (pc' := 14) (lo' := [some (.int v0), some (.int v1), some (.int (v0 / v1))]) (st' := [.int v0, .int ((v0 / v1) * v1)]) 4 rfl ?_
    refine x_ic 21 rfl rfl (fun (hc3 : ((v0 / v1) * v1) = v0) => ?_) (fun (hc3 : ¬ ((v0 / v1) * v1) = v0) => ?_)
    · rw [if_pos hc3] at hG
      replace hS := hS.1 hc3
      refine x_run (pc' := 22) (lo' := [some (.int v0), some (.int v1), some (.int (v0 / v1))]) (st' := [.int (v0 / v1)]) 1 rfl ?_
      obtain ⟨rfl, rfl⟩ := hG
      exact x_iret rfl (by decide +kernel)
    · rw [if_neg hc3] at hG
      replace hS := hS.2 hc3
      refine x_run (pc' := 20) (lo' := [some (.int v0), some (.int v1), some (.int (v0 / v1))]) (st' := [.int ((v0 / v1) - 1)]) 3 rfl ?_
      obtain ⟨rfl, rfl⟩ := hG
      exact x_iret rfl (by decide +kernel)
theorem T188 {l : Launch} {X : aX} {d : Nat} {v0 : Int32} {v1 : Int32} {q : aQ} (hd : 1 ≤ d) (hS : S188_0 v0 v1 q) : Call l X d 188 [.int v0, .int v1] (hp q) (some (.int (F188_0 v0 v1 q))) (hp q) := Call.of ok188 (by decide) (Nat.le_of_ble_eq_true rfl) ⟨Nat.le_refl _, Nat.le_refl _⟩ (A188_0 hd rfl ⟨rfl, rfl⟩ hS)
/-- TypeForecast$Range.clear()V -/
def F80_0 (v0 : Nat) (q : aQ) : aQ := (a_w (a_w q v0 0 1001) v0 1 (-1001))
def S80_0 (v0 : Nat) (q : aQ) : Prop := True
set_option maxRecDepth 100000 in
set_option maxHeartbeats 4000000 in
theorem A80_0 {l : Launch} {X : aX} {d : Nat} {r : Option Value} {h' : aH} {v0 : Nat} {q : aQ} (hd : 1 ≤ d) (hN : h'.1 = nk0) (fv0 : isRng v0) (hG : gV r h' (F80_0 v0 q)) (hS : S80_0 v0 q) : AW l X 80 c80 d r h' 0 [some (.ref v0)] [] (hp q) := by
  unfold F80_0 at hG
  unfold S80_0 at hS
  refine x_run (pc' := 4) (lo' := [some (.ref v0)]) (st' := [.int 1001, .ref v0]) 2 rfl ?_
  refine x_pf (c := 384) (ne := 0) (h2 := hp (a_w q v0 0 1001)) rfl (by decide +kernel) (by decide +kernel) (rg_s fv0) (pv_i rfl) ?_
  refine x_run (pc' := 11) (lo' := [some (.ref v0)]) (st' := [.int (-1001), .ref v0]) 2 rfl ?_
  refine x_pf (c := 385) (ne := 0) (h2 := hp (a_w (a_w q v0 0 1001) v0 1 (-1001))) rfl (by decide +kernel) (by decide +kernel) (rg_s fv0) (pv_i rfl) ?_
  obtain ⟨rfl, rfl⟩ := hG
  exact x_ret rfl (by decide +kernel)
theorem T80 {l : Launch} {X : aX} {d : Nat} {v0 : Nat} {q : aQ} (hd : 1 ≤ d) (fv0 : isRng v0) (hS : S80_0 v0 q) : Call l X d 80 [.ref v0] (hp q) none (hp (F80_0 v0 q)) := Call.of ok80 (by decide) (Nat.le_of_ble_eq_true rfl) ⟨Nat.le_refl _, Nat.le_refl _⟩ (A80_0 hd rfl fv0 ⟨rfl, rfl⟩ hS)
/-- TypeForecast$Range.copyFrom(LTypeForecast$Range;)V -/
def F81_0 (v0 : Nat) (v1 : Nat) (q : aQ) : aQ := (a_w (a_w q v0 0 (q.1 v1 0)) v0 1 ((a_w q v0 0 (q.1 v1 0)).1 v1 1))
def S81_0 (v0 : Nat) (v1 : Nat) (q : aQ) : Prop := True
set_option maxRecDepth 100000 in
set_option maxHeartbeats 4000000 in
theorem A81_0 {l : Launch} {X : aX} {d : Nat} {r : Option Value} {h' : aH} {v0 : Nat} {v1 : Nat} {q : aQ} (hd : 1 ≤ d) (hN : h'.1 = nk0) (fv0 : isRng v0) (fv1 : isRng v1) (hG : gV r h' (F81_0 v0 v1 q)) (hS : S81_0 v0 v1 q) : AW l X 81 c81 d r h' 0 [some (.ref v0), some (.ref v1)] [] (hp q) := by
  unfold F81_0 at hG
  unfold S81_0 at hS
  refine x_run (pc' := 2) (lo' := [some (.ref v0), some (.ref v1)]) (st' := [.ref v1, .ref v0]) 2 rfl ?_
  refine x_gf (c := 384) (ne := 0) (v := .int (q.1 v1 0)) rfl (by decide +kernel) (rg_s fv1) rfl ?_
  refine x_pf (c := 384) (ne := 0) (h2 := hp (a_w q v0 0 (q.1 v1 0))) rfl (by decide +kernel) (by decide +kernel) (rg_s fv0) (pv_i rfl) ?_
  refine x_run (pc' := 10) (lo' := [some (.ref v0), some (.ref v1)]) (st' := [.ref v1, .ref v0]) 2 rfl ?_
  refine x_gf (c := 385) (ne := 0) (v := .int ((a_w q v0 0 (q.1 v1 0)).1 v1 1)) rfl (by decide +kernel) (rg_s fv1) rfl ?_
  refine x_pf (c := 385) (ne := 0) (h2 := hp (a_w (a_w q v0 0 (q.1 v1 0)) v0 1 ((a_w q v0 0 (q.1 v1 0)).1 v1 1))) rfl (by decide +kernel) (by decide +kernel) (rg_s fv0) (pv_i rfl) ?_
  obtain ⟨rfl, rfl⟩ := hG
  exact x_ret rfl (by decide +kernel)
theorem T81 {l : Launch} {X : aX} {d : Nat} {v0 : Nat} {v1 : Nat} {q : aQ} (hd : 1 ≤ d) (fv0 : isRng v0) (fv1 : isRng v1) (hS : S81_0 v0 v1 q) : Call l X d 81 [.ref v0, .ref v1] (hp q) none (hp (F81_0 v0 v1 q)) := Call.of ok81 (by decide) (Nat.le_of_ble_eq_true rfl) ⟨Nat.le_refl _, Nat.le_refl _⟩ (A81_0 hd rfl fv0 fv1 ⟨rfl, rfl⟩ hS)
/-- TypeForecast$Range.include(II)V -/
def F82_96 (s0 : Int32) (s1 : Nat) (q : aQ) : aQ := (a_w q s1 1 s0)
def S82_96 (s0 : Int32) (s1 : Nat) (q : aQ) : Prop := True
set_option maxRecDepth 100000 in
set_option maxHeartbeats 4000000 in
theorem A82_96 {l : Launch} {X : aX} {d : Nat} {r : Option Value} {h' : aH} {s0 : Int32} {s1 : Nat} {q : aQ} (hd : 1 ≤ d) (hN : h'.1 = nk0) (fs1 : isRng s1) (hG : gV r h' (F82_96 s0 s1 q)) (hS : S82_96 s0 s1 q) : AW l X 82 c82 d r h' 96 [none, none, none, none, none] [.int s0, .ref s1] (hp q) := by
  unfold F82_96 at hG
  unfold S82_96 at hS
  refine x_pf (c := 385) (ne := 0) (h2 := hp (a_w q s1 1 s0)) rfl (by decide +kernel) (by decide +kernel) (rg_s fs1) (pv_i rfl) ?_
  obtain ⟨rfl, rfl⟩ := hG
  exact x_ret rfl (by decide +kernel)
def F82_74 (v0 : Nat) (v4 : Int32) (s0 : Int32) (s1 : Nat) (q : aQ) : aQ := (if v4 ≤ ((a_w q s1 0 s0).1 v0 1) then F82_96 ((a_w q s1 0 s0).1 v0 1) v0 (a_w q s1 0 s0) else F82_96 v4 v0 (a_w q s1 0 s0))
def S82_74 (v0 : Nat) (v4 : Int32) (s0 : Int32) (s1 : Nat) (q : aQ) : Prop := ((v4 ≤ ((a_w q s1 0 s0).1 v0 1)) → S82_96 ((a_w q s1 0 s0).1 v0 1) v0 (a_w q s1 0 s0)) ∧ (¬ (v4 ≤ ((a_w q s1 0 s0).1 v0 1)) → S82_96 v4 v0 (a_w q s1 0 s0))
set_option maxRecDepth 100000 in
set_option maxHeartbeats 4000000 in
theorem A82_74 {l : Launch} {X : aX} {d : Nat} {r : Option Value} {h' : aH} {v0 : Nat} {v4 : Int32} {s0 : Int32} {s1 : Nat} {q : aQ} (hd : 1 ≤ d) (hN : h'.1 = nk0) (fv0 : isRng v0) (fs1 : isRng s1) (hG : gV r h' (F82_74 v0 v4 s0 s1 q)) (hS : S82_74 v0 v4 s0 s1 q) : AW l X 82 c82 d r h' 74 [some (.ref v0), none, none, none, some (.int v4)] [.int s0, .ref s1] (hp q) := by
  unfold F82_74 at hG
  unfold S82_74 at hS
  refine x_pf (c := 384) (ne := 0) (h2 := hp (a_w q s1 0 s0)) rfl (by decide +kernel) (by decide +kernel) (rg_s fs1) (pv_i rfl) ?_
  refine x_run (pc' := 81) (lo' := [some (.ref v0), none, none, none, some (.int v4)]) (st' := [.ref v0, .int v4, .ref v0]) 3 rfl ?_
  refine x_gf (c := 385) (ne := 0) (v := .int ((a_w q s1 0 s0).1 v0 1)) rfl (by decide +kernel) (rg_s fv0) rfl ?_
  refine x_ic 92 rfl rfl (fun (hc7 : v4 ≤ ((a_w q s1 0 s0).1 v0 1)) => ?_) (fun (hc7 : ¬ v4 ≤ ((a_w q s1 0 s0).1 v0 1)) => ?_)
  · rw [if_pos hc7] at hG
    replace hS := hS.1 hc7
    refine x_run (pc' := 93) (lo' := [some (.ref v0), none, none, none, some (.int v4)]) (st' := [.ref v0, .ref v0]) 1 rfl ?_
    refine x_gf (c := 385) (ne := 0) (v := .int ((a_w q s1 0 s0).1 v0 1)) rfl (by decide +kernel) (rg_s fv0) rfl ?_
    refine x_kill [0, 4] ?_
    exact A82_96 hd hN fv0 hG hS
  · rw [if_neg hc7] at hG
    replace hS := hS.2 hc7
    refine x_run (pc' := 96) (lo' := [some (.ref v0), none, none, none, some (.int v4)]) (st' := [.int v4, .ref v0]) 2 rfl ?_
    refine x_kill [0, 4] ?_
    exact A82_96 hd hN fv0 hG hS
def F82_55 (v0 : Nat) (v3 : Int32) (s0 : Int32) (q : aQ) : aQ := (if (q.1 v0 0) ≤ v3 then F82_74 v0 s0 (q.1 v0 0) v0 q else F82_74 v0 s0 v3 v0 q)
def S82_55 (v0 : Nat) (v3 : Int32) (s0 : Int32) (q : aQ) : Prop := (((q.1 v0 0) ≤ v3) → S82_74 v0 s0 (q.1 v0 0) v0 q) ∧ (¬ ((q.1 v0 0) ≤ v3) → S82_74 v0 s0 v3 v0 q)
set_option maxRecDepth 100000 in
set_option maxHeartbeats 4000000 in
theorem A82_55 {l : Launch} {X : aX} {d : Nat} {r : Option Value} {h' : aH} {v0 : Nat} {v3 : Int32} {s0 : Int32} {q : aQ} (hd : 1 ≤ d) (hN : h'.1 = nk0) (fv0 : isRng v0) (hG : gV r h' (F82_55 v0 v3 s0 q)) (hS : S82_55 v0 v3 s0 q) : AW l X 82 c82 d r h' 55 [some (.ref v0), none, none, some (.int v3), none] [.int s0] (hp q) := by
  unfold F82_55 at hG
  unfold S82_55 at hS
  refine x_run (pc' := 60) (lo' := [some (.ref v0), none, none, some (.int v3), some (.int s0)]) (st' := [.ref v0, .int v3, .ref v0]) 4 rfl ?_
  refine x_gf (c := 384) (ne := 0) (v := .int (q.1 v0 0)) rfl (by decide +kernel) (rg_s fv0) rfl ?_
  refine x_ic 70 rfl rfl (fun (hc6 : (q.1 v0 0) ≤ v3) => ?_) (fun (hc6 : ¬ (q.1 v0 0) ≤ v3) => ?_)
  · rw [if_pos hc6] at hG
    replace hS := hS.1 hc6
    refine x_run (pc' := 71) (lo' := [some (.ref v0), none, none, some (.int v3), some (.int s0)]) (st' := [.ref v0, .ref v0]) 1 rfl ?_
    refine x_gf (c := 384) (ne := 0) (v := .int (q.1 v0 0)) rfl (by decide +kernel) (rg_s fv0) rfl ?_
    refine x_kill [3] ?_
    exact A82_74 hd hN fv0 fv0 hG hS
  · rw [if_neg hc6] at hG
    replace hS := hS.2 hc6
    refine x_run (pc' := 74) (lo' := [some (.ref v0), none, none, some (.int v3), some (.int s0)]) (st' := [.int v3, .ref v0]) 2 rfl ?_
    refine x_kill [3] ?_
    exact A82_74 hd hN fv0 fv0 hG hS
def F82_30 (v0 : Nat) (v2 : Int32) (s0 : Int32) (q : aQ) : aQ := (if v2 ≤ 16 then (if (-16) ≤ v2 then F82_55 v0 s0 v2 q else F82_55 v0 s0 (-16) q) else F82_55 v0 s0 1000 q)
def S82_30 (v0 : Nat) (v2 : Int32) (s0 : Int32) (q : aQ) : Prop := ((v2 ≤ 16) → (((-16) ≤ v2) → S82_55 v0 s0 v2 q) ∧ (¬ ((-16) ≤ v2) → S82_55 v0 s0 (-16) q)) ∧ (¬ (v2 ≤ 16) → S82_55 v0 s0 1000 q)
set_option maxRecDepth 100000 in
set_option maxHeartbeats 4000000 in
theorem A82_30 {l : Launch} {X : aX} {d : Nat} {r : Option Value} {h' : aH} {v0 : Nat} {v2 : Int32} {s0 : Int32} {q : aQ} (hd : 1 ≤ d) (hN : h'.1 = nk0) (fv0 : isRng v0) (hG : gV r h' (F82_30 v0 v2 s0 q)) (hS : S82_30 v0 v2 s0 q) : AW l X 82 c82 d r h' 30 [some (.ref v0), none, some (.int v2), none, none] [.int s0] (hp q) := by
  unfold F82_30 at hG
  unfold S82_30 at hS
  refine x_run (pc' := 34) (lo' := [some (.ref v0), none, some (.int v2), some (.int s0), none]) (st' := [.int 16, .int v2]) 3 rfl ?_
  refine x_ic 43 rfl rfl (fun (hc4 : v2 ≤ 16) => ?_) (fun (hc4 : ¬ v2 ≤ 16) => ?_)
  · rw [if_pos hc4] at hG
    replace hS := hS.1 hc4
    refine x_run (pc' := 46) (lo' := [some (.ref v0), none, some (.int v2), some (.int s0), none]) (st' := [.int (-16), .int v2]) 2 rfl ?_
    refine x_ic 54 rfl rfl (fun (hc5 : (-16) ≤ v2) => ?_) (fun (hc5 : ¬ (-16) ≤ v2) => ?_)
    · rw [if_pos hc5] at hG
      replace hS := hS.1 hc5
      refine x_run (pc' := 55) (lo' := [some (.ref v0), none, some (.int v2), some (.int s0), none]) (st' := [.int v2]) 1 rfl ?_
      refine x_kill [2] ?_
      exact A82_55 hd hN fv0 hG hS
    · rw [if_neg hc5] at hG
      replace hS := hS.2 hc5
      refine x_run (pc' := 55) (lo' := [some (.ref v0), none, some (.int v2), some (.int s0), none]) (st' := [.int (-16)]) 2 rfl ?_
      refine x_kill [2] ?_
      exact A82_55 hd hN fv0 hG hS
  · rw [if_neg hc4] at hG
    replace hS := hS.2 hc4
    refine x_run (pc' := 55) (lo' := [some (.ref v0), none, some (.int v2), some (.int s0), none]) (st' := [.int 1000]) 2 rfl ?_
    refine x_kill [2] ?_
    exact A82_55 hd hN fv0 hG hS
def F82_0 (v0 : Nat) (v1 : Int32) (v2 : Int32) (q : aQ) : aQ := (if v1 ≤ v2 then (if (-16) ≤ v1 then (if v1 ≤ 16 then F82_30 v0 v2 v1 q else F82_30 v0 v2 16 q) else F82_30 v0 v2 (-1000) q) else q)
def S82_0 (v0 : Nat) (v1 : Int32) (v2 : Int32) (q : aQ) : Prop := ((v1 ≤ v2) → (((-16) ≤ v1) → ((v1 ≤ 16) → S82_30 v0 v2 v1 q) ∧ (¬ (v1 ≤ 16) → S82_30 v0 v2 16 q)) ∧ (¬ ((-16) ≤ v1) → S82_30 v0 v2 (-1000) q)) ∧ (¬ (v1 ≤ v2) → True)
set_option maxRecDepth 100000 in
set_option maxHeartbeats 4000000 in
theorem A82_0 {l : Launch} {X : aX} {d : Nat} {r : Option Value} {h' : aH} {v0 : Nat} {v1 : Int32} {v2 : Int32} {q : aQ} (hd : 1 ≤ d) (hN : h'.1 = nk0) (fv0 : isRng v0) (hG : gV r h' (F82_0 v0 v1 v2 q)) (hS : S82_0 v0 v1 v2 q) : AW l X 82 c82 d r h' 0 [some (.ref v0), some (.int v1), some (.int v2), none, none] [] (hp q) := by
  unfold F82_0 at hG
  unfold S82_0 at hS
  refine x_run (pc' := 2) (lo' := [some (.ref v0), some (.int v1), some (.int v2), none, none]) (st' := [.int v2, .int v1]) 2 rfl ?_
  refine x_ic 6 rfl rfl (fun (hc1 : v1 ≤ v2) => ?_) (fun (hc1 : ¬ v1 ≤ v2) => ?_)
  · rw [if_pos hc1] at hG
    replace hS := hS.1 hc1
    refine x_run (pc' := 9) (lo' := [some (.ref v0), some (.int v1), some (.int v2), none, none]) (st' := [.int (-16), .int v1]) 2 rfl ?_
    refine x_ic 18 rfl rfl (fun (hc2 : (-16) ≤ v1) => ?_) (fun (hc2 : ¬ (-16) ≤ v1) => ?_)
    · rw [if_pos hc2] at hG
      replace hS := hS.1 hc2
      refine x_run (pc' := 21) (lo' := [some (.ref v0), some (.int v1), some (.int v2), none, none]) (st' := [.int 16, .int v1]) 2 rfl ?_
      refine x_ic 29 rfl rfl (fun (hc3 : v1 ≤ 16) => ?_) (fun (hc3 : ¬ v1 ≤ 16) => ?_)
      · rw [if_pos hc3] at hG
        replace hS := hS.1 hc3
        refine x_run (pc' := 30) (lo' := [some (.ref v0), some (.int v1), some (.int v2), none, none]) (st' := [.int v1]) 1 rfl ?_
        refine x_kill [1] ?_
        exact A82_30 hd hN fv0 hG hS
      · rw [if_neg hc3] at hG
        replace hS := hS.2 hc3
        refine x_run (pc' := 30) (lo' := [some (.ref v0), some (.int v1), some (.int v2), none, none]) (st' := [.int 16]) 2 rfl ?_
        refine x_kill [1] ?_
        exact A82_30 hd hN fv0 hG hS
    · rw [if_neg hc2] at hG
      replace hS := hS.2 hc2
      refine x_run (pc' := 30) (lo' := [some (.ref v0), some (.int v1), some (.int v2), none, none]) (st' := [.int (-1000)]) 2 rfl ?_
      refine x_kill [1] ?_
      exact A82_30 hd hN fv0 hG hS
  · rw [if_neg hc1] at hG
    replace hS := hS.2 hc1
    obtain ⟨rfl, rfl⟩ := hG
    exact x_ret rfl (by decide +kernel)
theorem T82 {l : Launch} {X : aX} {d : Nat} {v0 : Nat} {v1 : Int32} {v2 : Int32} {q : aQ} (hd : 1 ≤ d) (fv0 : isRng v0) (hS : S82_0 v0 v1 v2 q) : Call l X d 82 [.ref v0, .int v1, .int v2] (hp q) none (hp (F82_0 v0 v1 v2 q)) := Call.of ok82 (by decide) (Nat.le_of_ble_eq_true rfl) ⟨Nat.le_refl _, Nat.le_refl _⟩ (A82_0 hd rfl fv0 ⟨rfl, rfl⟩ hS)
/-- TypeForecast$Range.join(LTypeForecast$Range;)Z -/
def F83_77 (v2 : Int32) (s0 : Int32) (s1 : Nat) (q : aQ) : Int32 × aQ := (v2, (a_w q s1 1 s0))
def S83_77 (v2 : Int32) (s0 : Int32) (s1 : Nat) (q : aQ) : Prop := (v2 = 0 ∨ v2 = 1) ∧ (True)
set_option maxRecDepth 100000 in
set_option maxHeartbeats 4000000 in
theorem A83_77 {l : Launch} {X : aX} {d : Nat} {r : Option Value} {h' : aH} {v2 : Int32} {s0 : Int32} {s1 : Nat} {q : aQ} (hd : 1 ≤ d) (hN : h'.1 = nk0) (fs1 : isRng s1) (hG : gI r h' (F83_77 v2 s0 s1 q)) (hS : S83_77 v2 s0 s1 q) : AW l X 83 c83 d r h' 77 [none, none, some (.int v2)] [.int s0, .ref s1] (hp q) := by
  unfold F83_77 at hG
  unfold S83_77 at hS
  refine x_pf (c := 385) (ne := 0) (h2 := hp (a_w q s1 1 s0)) rfl (by decide +kernel) (by decide +kernel) (rg_s fs1) (pv_i rfl) ?_
  refine x_run (pc' := 81) (lo' := [none, none, some (.int v2)]) (st' := [.int v2]) 1 rfl ?_
  obtain ⟨o4, hS⟩ := hS
  obtain ⟨rfl, rfl⟩ := hG
  exact x_zret rfl (by decide +kernel) o4
def F83_51 (v0 : Nat) (v1 : Nat) (v2 : Int32) (s0 : Int32) (s1 : Nat) (q : aQ) : Int32 × aQ := (if ((a_w q s1 0 s0).1 v1 1) ≤ ((a_w q s1 0 s0).1 v0 1) then F83_77 v2 ((a_w q s1 0 s0).1 v0 1) v0 (a_w q s1 0 s0) else F83_77 v2 ((a_w q s1 0 s0).1 v1 1) v0 (a_w q s1 0 s0))
def S83_51 (v0 : Nat) (v1 : Nat) (v2 : Int32) (s0 : Int32) (s1 : Nat) (q : aQ) : Prop := ((((a_w q s1 0 s0).1 v1 1) ≤ ((a_w q s1 0 s0).1 v0 1)) → S83_77 v2 ((a_w q s1 0 s0).1 v0 1) v0 (a_w q s1 0 s0)) ∧ (¬ (((a_w q s1 0 s0).1 v1 1) ≤ ((a_w q s1 0 s0).1 v0 1)) → S83_77 v2 ((a_w q s1 0 s0).1 v1 1) v0 (a_w q s1 0 s0))
set_option maxRecDepth 100000 in
set_option maxHeartbeats 4000000 in
theorem A83_51 {l : Launch} {X : aX} {d : Nat} {r : Option Value} {h' : aH} {v0 : Nat} {v1 : Nat} {v2 : Int32} {s0 : Int32} {s1 : Nat} {q : aQ} (hd : 1 ≤ d) (hN : h'.1 = nk0) (fv0 : isRng v0) (fv1 : isRng v1) (fs1 : isRng s1) (hG : gI r h' (F83_51 v0 v1 v2 s0 s1 q)) (hS : S83_51 v0 v1 v2 s0 s1 q) : AW l X 83 c83 d r h' 51 [some (.ref v0), some (.ref v1), some (.int v2)] [.int s0, .ref s1] (hp q) := by
  unfold F83_51 at hG
  unfold S83_51 at hS
  refine x_pf (c := 384) (ne := 0) (h2 := hp (a_w q s1 0 s0)) rfl (by decide +kernel) (by decide +kernel) (rg_s fs1) (pv_i rfl) ?_
  refine x_run (pc' := 56) (lo' := [some (.ref v0), some (.ref v1), some (.int v2)]) (st' := [.ref v1, .ref v0]) 2 rfl ?_
  refine x_gf (c := 385) (ne := 0) (v := .int ((a_w q s1 0 s0).1 v1 1)) rfl (by decide +kernel) (rg_s fv1) rfl ?_
  refine x_run (pc' := 60) (lo' := [some (.ref v0), some (.ref v1), some (.int v2)]) (st' := [.ref v0, .int ((a_w q s1 0 s0).1 v1 1), .ref v0]) 1 rfl ?_
  refine x_gf (c := 385) (ne := 0) (v := .int ((a_w q s1 0 s0).1 v0 1)) rfl (by decide +kernel) (rg_s fv0) rfl ?_
  refine x_ic 73 rfl rfl (fun (hc3 : ((a_w q s1 0 s0).1 v1 1) ≤ ((a_w q s1 0 s0).1 v0 1)) => ?_) (fun (hc3 : ¬ ((a_w q s1 0 s0).1 v1 1) ≤ ((a_w q s1 0 s0).1 v0 1)) => ?_)
  · rw [if_pos hc3] at hG
    replace hS := hS.1 hc3
    refine x_run (pc' := 74) (lo' := [some (.ref v0), some (.ref v1), some (.int v2)]) (st' := [.ref v0, .ref v0]) 1 rfl ?_
    refine x_gf (c := 385) (ne := 0) (v := .int ((a_w q s1 0 s0).1 v0 1)) rfl (by decide +kernel) (rg_s fv0) rfl ?_
    refine x_kill [0, 1] ?_
    exact A83_77 hd hN fv0 hG hS
  · rw [if_neg hc3] at hG
    replace hS := hS.2 hc3
    refine x_run (pc' := 67) (lo' := [some (.ref v0), some (.ref v1), some (.int v2)]) (st' := [.ref v1, .ref v0]) 1 rfl ?_
    refine x_gf (c := 385) (ne := 0) (v := .int ((a_w q s1 0 s0).1 v1 1)) rfl (by decide +kernel) (rg_s fv1) rfl ?_
    refine x_run (pc' := 77) (lo' := [some (.ref v0), some (.ref v1), some (.int v2)]) (st' := [.int ((a_w q s1 0 s0).1 v1 1), .ref v0]) 1 rfl ?_
    refine x_kill [0, 1] ?_
    exact A83_77 hd hN fv0 hG hS
def F83_27 (v0 : Nat) (v1 : Nat) (s0 : Int32) (q : aQ) : Int32 × aQ := (if (q.1 v0 0) ≤ (q.1 v1 0) then F83_51 v0 v1 s0 (q.1 v0 0) v0 q else F83_51 v0 v1 s0 (q.1 v1 0) v0 q)
def S83_27 (v0 : Nat) (v1 : Nat) (s0 : Int32) (q : aQ) : Prop := (((q.1 v0 0) ≤ (q.1 v1 0)) → S83_51 v0 v1 s0 (q.1 v0 0) v0 q) ∧ (¬ ((q.1 v0 0) ≤ (q.1 v1 0)) → S83_51 v0 v1 s0 (q.1 v1 0) v0 q)
set_option maxRecDepth 100000 in
set_option maxHeartbeats 4000000 in
theorem A83_27 {l : Launch} {X : aX} {d : Nat} {r : Option Value} {h' : aH} {v0 : Nat} {v1 : Nat} {s0 : Int32} {q : aQ} (hd : 1 ≤ d) (hN : h'.1 = nk0) (fv0 : isRng v0) (fv1 : isRng v1) (hG : gI r h' (F83_27 v0 v1 s0 q)) (hS : S83_27 v0 v1 s0 q) : AW l X 83 c83 d r h' 27 [some (.ref v0), some (.ref v1), none] [.int s0] (hp q) := by
  unfold F83_27 at hG
  unfold S83_27 at hS
  refine x_run (pc' := 30) (lo' := [some (.ref v0), some (.ref v1), some (.int s0)]) (st' := [.ref v1, .ref v0]) 3 rfl ?_
  refine x_gf (c := 384) (ne := 0) (v := .int (q.1 v1 0)) rfl (by decide +kernel) (rg_s fv1) rfl ?_
  refine x_run (pc' := 34) (lo' := [some (.ref v0), some (.ref v1), some (.int s0)]) (st' := [.ref v0, .int (q.1 v1 0), .ref v0]) 1 rfl ?_
  refine x_gf (c := 384) (ne := 0) (v := .int (q.1 v0 0)) rfl (by decide +kernel) (rg_s fv0) rfl ?_
  refine x_ic 47 rfl rfl (fun (hc2 : (q.1 v0 0) ≤ (q.1 v1 0)) => ?_) (fun (hc2 : ¬ (q.1 v0 0) ≤ (q.1 v1 0)) => ?_)
  · rw [if_pos hc2] at hG
    replace hS := hS.1 hc2
    refine x_run (pc' := 48) (lo' := [some (.ref v0), some (.ref v1), some (.int s0)]) (st' := [.ref v0, .ref v0]) 1 rfl ?_
    refine x_gf (c := 384) (ne := 0) (v := .int (q.1 v0 0)) rfl (by decide +kernel) (rg_s fv0) rfl ?_
    exact A83_51 hd hN fv0 fv1 fv0 hG hS
  · rw [if_neg hc2] at hG
    replace hS := hS.2 hc2
    refine x_run (pc' := 41) (lo' := [some (.ref v0), some (.ref v1), some (.int s0)]) (st' := [.ref v1, .ref v0]) 1 rfl ?_
    refine x_gf (c := 384) (ne := 0) (v := .int (q.1 v1 0)) rfl (by decide +kernel) (rg_s fv1) rfl ?_
    refine x_run (pc' := 51) (lo' := [some (.ref v0), some (.ref v1), some (.int s0)]) (st' := [.int (q.1 v1 0), .ref v0]) 1 rfl ?_
    exact A83_51 hd hN fv0 fv1 fv0 hG hS
def F83_22 (v0 : Nat) (v1 : Nat) (q : aQ) : Int32 × aQ := F83_27 v0 v1 1 q
def S83_22 (v0 : Nat) (v1 : Nat) (q : aQ) : Prop := S83_27 v0 v1 1 q
set_option maxRecDepth 100000 in
set_option maxHeartbeats 4000000 in
theorem A83_22 {l : Launch} {X : aX} {d : Nat} {r : Option Value} {h' : aH} {v0 : Nat} {v1 : Nat} {q : aQ} (hd : 1 ≤ d) (hN : h'.1 = nk0) (fv0 : isRng v0) (fv1 : isRng v1) (hG : gI r h' (F83_22 v0 v1 q)) (hS : S83_22 v0 v1 q) : AW l X 83 c83 d r h' 22 [some (.ref v0), some (.ref v1), none] [] (hp q) := by
  unfold F83_22 at hG
  unfold S83_22 at hS
  refine x_run (pc' := 27) (lo' := [some (.ref v0), some (.ref v1), none]) (st' := [.int 1]) 2 rfl ?_
  exact A83_27 hd hN fv0 fv1 hG hS
def F83_0 (v0 : Nat) (v1 : Nat) (q : aQ) : Int32 × aQ := (if (q.1 v1 0) < (q.1 v0 0) then F83_22 v0 v1 q else (if (q.1 v1 1) ≤ (q.1 v0 1) then F83_27 v0 v1 0 q else F83_22 v0 v1 q))
def S83_0 (v0 : Nat) (v1 : Nat) (q : aQ) : Prop := (((q.1 v1 0) < (q.1 v0 0)) → S83_22 v0 v1 q) ∧ (¬ ((q.1 v1 0) < (q.1 v0 0)) → (((q.1 v1 1) ≤ (q.1 v0 1)) → S83_27 v0 v1 0 q) ∧ (¬ ((q.1 v1 1) ≤ (q.1 v0 1)) → S83_22 v0 v1 q))
set_option maxRecDepth 100000 in
set_option maxHeartbeats 4000000 in
theorem A83_0 {l : Launch} {X : aX} {d : Nat} {r : Option Value} {h' : aH} {v0 : Nat} {v1 : Nat} {q : aQ} (hd : 1 ≤ d) (hN : h'.1 = nk0) (fv0 : isRng v0) (fv1 : isRng v1) (hG : gI r h' (F83_0 v0 v1 q)) (hS : S83_0 v0 v1 q) : AW l X 83 c83 d r h' 0 [some (.ref v0), some (.ref v1), none] [] (hp q) := by
  unfold F83_0 at hG
  unfold S83_0 at hS
  refine x_run (pc' := 1) (lo' := [some (.ref v0), some (.ref v1), none]) (st' := [.ref v1]) 1 rfl ?_
  refine x_gf (c := 384) (ne := 0) (v := .int (q.1 v1 0)) rfl (by decide +kernel) (rg_s fv1) rfl ?_
  refine x_run (pc' := 5) (lo' := [some (.ref v0), some (.ref v1), none]) (st' := [.ref v0, .int (q.1 v1 0)]) 1 rfl ?_
  refine x_gf (c := 384) (ne := 0) (v := .int (q.1 v0 0)) rfl (by decide +kernel) (rg_s fv0) rfl ?_
  refine x_ic 22 rfl rfl (fun (hc1 : (q.1 v1 0) < (q.1 v0 0)) => ?_) (fun (hc1 : ¬ (q.1 v1 0) < (q.1 v0 0)) => ?_)
  · rw [if_pos hc1] at hG
    replace hS := hS.1 hc1
    exact A83_22 hd hN fv0 fv1 hG hS
  · rw [if_neg hc1] at hG
    replace hS := hS.2 hc1
    refine x_run (pc' := 12) (lo' := [some (.ref v0), some (.ref v1), none]) (st' := [.ref v1]) 1 rfl ?_
    refine x_gf (c := 385) (ne := 0) (v := .int (q.1 v1 1)) rfl (by decide +kernel) (rg_s fv1) rfl ?_
    refine x_run (pc' := 16) (lo' := [some (.ref v0), some (.ref v1), none]) (st' := [.ref v0, .int (q.1 v1 1)]) 1 rfl ?_
    refine x_gf (c := 385) (ne := 0) (v := .int (q.1 v0 1)) rfl (by decide +kernel) (rg_s fv0) rfl ?_
    refine x_ic 26 rfl rfl (fun (hc5 : (q.1 v1 1) ≤ (q.1 v0 1)) => ?_) (fun (hc5 : ¬ (q.1 v1 1) ≤ (q.1 v0 1)) => ?_)
    · rw [if_pos hc5] at hG
      replace hS := hS.1 hc5
      refine x_run (pc' := 27) (lo' := [some (.ref v0), some (.ref v1), none]) (st' := [.int 0]) 1 rfl ?_
      exact A83_27 hd hN fv0 fv1 hG hS
    · rw [if_neg hc5] at hG
      replace hS := hS.2 hc5
      exact A83_22 hd hN fv0 fv1 hG hS
theorem T83 {l : Launch} {X : aX} {d : Nat} {v0 : Nat} {v1 : Nat} {q : aQ} (hd : 1 ≤ d) (fv0 : isRng v0) (fv1 : isRng v1) (hS : S83_0 v0 v1 q) : Call l X d 83 [.ref v0, .ref v1] (hp q) (some (.int (F83_0 v0 v1 q).1)) (hp (F83_0 v0 v1 q).2) := Call.of ok83 (by decide) (Nat.le_of_ble_eq_true rfl) ⟨Nat.le_refl _, Nat.le_refl _⟩ (A83_0 hd rfl fv0 fv1 ⟨rfl, rfl⟩ hS)
/-- TypeForecast$Range.includeAll()V -/
def F84_0 (v0 : Nat) (q : aQ) : aQ := (F82_0 v0 (-1000) 1000 q)
def S84_0 (v0 : Nat) (q : aQ) : Prop := S82_0 v0 (-1000) 1000 q ∧ (True)
set_option maxRecDepth 100000 in
set_option maxHeartbeats 4000000 in
theorem A84_0 {l : Launch} {X : aX} {d : Nat} {r : Option Value} {h' : aH} {v0 : Nat} {q : aQ} (hd : 2 ≤ d) (hN : h'.1 = nk0) (fv0 : isRng v0) (hG : gV r h' (F84_0 v0 q)) (hS : S84_0 v0 q) : AW l X 84 c84 d r h' 0 [some (.ref v0)] [] (hp q) := by
  unfold F84_0 at hG
  unfold S84_0 at hS
  refine x_run (pc' := 7) (lo' := [some (.ref v0)]) (st' := [.int 1000, .int (-1000), .ref v0]) 3 rfl ?_
  obtain ⟨o1, hS⟩ := hS
  refine x_cv (j := 82) (ne := 0) (vs := [.int (-1000), .int 1000]) (rest := []) rfl (by decide +kernel) (by decide +kernel) (by decide) (Eq.trans rfl (show 2 = _ from by decide +kernel)) (rg_s fv0) (by decide +kernel) rfl (Nat.le_of_ble_eq_true rfl) (by omega) (T82 (Nat.le_refl 1) fv0 o1) (hp_m hN) ?_
  show AW l X 84 c84 d r h' 10 [some (.ref v0)] [] (hp (F82_0 v0 (-1000) 1000 q))
  obtain ⟨rfl, rfl⟩ := hG
  exact x_ret rfl (by decide +kernel)
theorem T84 {l : Launch} {X : aX} {d : Nat} {v0 : Nat} {q : aQ} (hd : 2 ≤ d) (fv0 : isRng v0) (hS : S84_0 v0 q) : Call l X d 84 [.ref v0] (hp q) none (hp (F84_0 v0 q)) := Call.of ok84 (by decide) (Nat.le_of_ble_eq_true rfl) ⟨Nat.le_refl _, Nat.le_refl _⟩ (A84_0 hd rfl fv0 ⟨rfl, rfl⟩ hS)
/-- TypeForecast$Range.isEmpty()Z -/
def F85_0 (v0 : Nat) (q : aQ) : Int32 := (if (q.1 v0 0) ≤ (q.1 v0 1) then 0 else 1)
def S85_0 (v0 : Nat) (q : aQ) : Prop := (((q.1 v0 0) ≤ (q.1 v0 1)) → True) ∧ (¬ ((q.1 v0 0) ≤ (q.1 v0 1)) → True)
set_option maxRecDepth 100000 in
set_option maxHeartbeats 4000000 in
theorem A85_0 {l : Launch} {X : aX} {d : Nat} {r : Option Value} {h' : aH} {v0 : Nat} {q : aQ} (hd : 1 ≤ d) (hN : h'.1 = nk0) (fv0 : isRng v0) (hG : gI r h' (F85_0 v0 q, q)) (hS : S85_0 v0 q) : AW l X 85 c85 d r h' 0 [some (.ref v0)] [] (hp q) := by
  unfold F85_0 at hG
  unfold S85_0 at hS
  refine x_run (pc' := 1) (lo' := [some (.ref v0)]) (st' := [.ref v0]) 1 rfl ?_
  refine x_gf (c := 384) (ne := 0) (v := .int (q.1 v0 0)) rfl (by decide +kernel) (rg_s fv0) rfl ?_
  refine x_run (pc' := 5) (lo' := [some (.ref v0)]) (st' := [.ref v0, .int (q.1 v0 0)]) 1 rfl ?_
  refine x_gf (c := 385) (ne := 0) (v := .int (q.1 v0 1)) rfl (by decide +kernel) (rg_s fv0) rfl ?_
  refine x_ic 15 rfl rfl (fun (hc1 : (q.1 v0 0) ≤ (q.1 v0 1)) => ?_) (fun (hc1 : ¬ (q.1 v0 0) ≤ (q.1 v0 1)) => ?_)
  · rw [if_pos hc1] at hG
    replace hS := hS.1 hc1
    refine x_run (pc' := 16) (lo' := [some (.ref v0)]) (st' := [.int 0]) 1 rfl ?_
    obtain ⟨rfl, rfl⟩ := hG
    exact x_zret rfl (by decide +kernel) (Or.inl rfl)
  · rw [if_neg hc1] at hG
    replace hS := hS.2 hc1
    refine x_run (pc' := 16) (lo' := [some (.ref v0)]) (st' := [.int 1]) 2 rfl ?_
    obtain ⟨rfl, rfl⟩ := hG
    exact x_zret rfl (by decide +kernel) (Or.inr rfl)
theorem T85 {l : Launch} {X : aX} {d : Nat} {v0 : Nat} {q : aQ} (hd : 1 ≤ d) (fv0 : isRng v0) (hS : S85_0 v0 q) : Call l X d 85 [.ref v0] (hp q) (some (.int (F85_0 v0 q))) (hp q) := Call.of ok85 (by decide) (Nat.le_of_ble_eq_true rfl) ⟨Nat.le_refl _, Nat.le_refl _⟩ (A85_0 hd rfl fv0 ⟨rfl, rfl⟩ hS)
/-- TypeForecast$Range.isSingle()Z -/
def F86_0 (v0 : Nat) (q : aQ) : Int32 := (if (q.1 v0 0) = (q.1 v0 1) then 1 else 0)
def S86_0 (v0 : Nat) (q : aQ) : Prop := (((q.1 v0 0) = (q.1 v0 1)) → True) ∧ (¬ ((q.1 v0 0) = (q.1 v0 1)) → True)
set_option maxRecDepth 100000 in
set_option maxHeartbeats 4000000 in
theorem A86_0 {l : Launch} {X : aX} {d : Nat} {r : Option Value} {h' : aH} {v0 : Nat} {q : aQ} (hd : 1 ≤ d) (hN : h'.1 = nk0) (fv0 : isRng v0) (hG : gI r h' (F86_0 v0 q, q)) (hS : S86_0 v0 q) : AW l X 86 c86 d r h' 0 [some (.ref v0)] [] (hp q) := by
  unfold F86_0 at hG
  unfold S86_0 at hS
  refine x_run (pc' := 1) (lo' := [some (.ref v0)]) (st' := [.ref v0]) 1 rfl ?_
  refine x_gf (c := 384) (ne := 0) (v := .int (q.1 v0 0)) rfl (by decide +kernel) (rg_s fv0) rfl ?_
  refine x_run (pc' := 5) (lo' := [some (.ref v0)]) (st' := [.ref v0, .int (q.1 v0 0)]) 1 rfl ?_
  refine x_gf (c := 385) (ne := 0) (v := .int (q.1 v0 1)) rfl (by decide +kernel) (rg_s fv0) rfl ?_
  refine x_ic 15 rfl rfl (fun (hc1 : ¬ (q.1 v0 0) = (q.1 v0 1)) => ?_) (fun (hc1 : (q.1 v0 0) = (q.1 v0 1)) => ?_)
  · rw [if_neg hc1] at hG
    replace hS := hS.2 hc1
    refine x_run (pc' := 16) (lo' := [some (.ref v0)]) (st' := [.int 0]) 1 rfl ?_
    obtain ⟨rfl, rfl⟩ := hG
    exact x_zret rfl (by decide +kernel) (Or.inl rfl)
  · rw [if_pos hc1] at hG
    replace hS := hS.1 hc1
    refine x_run (pc' := 16) (lo' := [some (.ref v0)]) (st' := [.int 1]) 2 rfl ?_
    obtain ⟨rfl, rfl⟩ := hG
    exact x_zret rfl (by decide +kernel) (Or.inr rfl)
theorem T86 {l : Launch} {X : aX} {d : Nat} {v0 : Nat} {q : aQ} (hd : 1 ≤ d) (fv0 : isRng v0) (hS : S86_0 v0 q) : Call l X d 86 [.ref v0] (hp q) (some (.int (F86_0 v0 q))) (hp q) := Call.of ok86 (by decide) (Nat.le_of_ble_eq_true rfl) ⟨Nat.le_refl _, Nat.le_refl _⟩ (A86_0 hd rfl fv0 ⟨rfl, rfl⟩ hS)
/-- TypeForecast$Range.holds(I)Z -/
def F87_0 (v0 : Nat) (v1 : Int32) (q : aQ) : Int32 := (if v1 < (q.1 v0 0) then 0 else (if (q.1 v0 1) < v1 then 0 else 1))
def S87_0 (v0 : Nat) (v1 : Int32) (q : aQ) : Prop := ((v1 < (q.1 v0 0)) → True) ∧ (¬ (v1 < (q.1 v0 0)) → (((q.1 v0 1) < v1) → True) ∧ (¬ ((q.1 v0 1) < v1) → True))
set_option maxRecDepth 100000 in
set_option maxHeartbeats 4000000 in
theorem A87_0 {l : Launch} {X : aX} {d : Nat} {r : Option Value} {h' : aH} {v0 : Nat} {v1 : Int32} {q : aQ} (hd : 1 ≤ d) (hN : h'.1 = nk0) (fv0 : isRng v0) (hG : gI r h' (F87_0 v0 v1 q, q)) (hS : S87_0 v0 v1 q) : AW l X 87 c87 d r h' 0 [some (.ref v0), some (.int v1)] [] (hp q) := by
  unfold F87_0 at hG
  unfold S87_0 at hS
  refine x_run (pc' := 1) (lo' := [some (.ref v0), some (.int v1)]) (st' := [.ref v0]) 1 rfl ?_
  refine x_gf (c := 384) (ne := 0) (v := .int (q.1 v0 0)) rfl (by decide +kernel) (rg_s fv0) rfl ?_
  refine x_run (pc' := 5) (lo' := [some (.ref v0), some (.int v1)]) (st' := [.int v1, .int (q.1 v0 0)]) 1 rfl ?_
  refine x_ic 20 rfl rfl (fun (hc1 : v1 < (q.1 v0 0)) => ?_) (fun (hc1 : ¬ v1 < (q.1 v0 0)) => ?_)
  · rw [if_pos hc1] at hG
    replace hS := hS.1 hc1
    refine x_run (pc' := 21) (lo' := [some (.ref v0), some (.int v1)]) (st' := [.int 0]) 1 rfl ?_
    obtain ⟨rfl, rfl⟩ := hG
    exact x_zret rfl (by decide +kernel) (Or.inl rfl)
  · rw [if_neg hc1] at hG
    replace hS := hS.2 hc1
    refine x_run (pc' := 10) (lo' := [some (.ref v0), some (.int v1)]) (st' := [.ref v0, .int v1]) 2 rfl ?_
    refine x_gf (c := 385) (ne := 0) (v := .int (q.1 v0 1)) rfl (by decide +kernel) (rg_s fv0) rfl ?_
    refine x_ic 20 rfl rfl (fun (hc2 : (q.1 v0 1) < v1) => ?_) (fun (hc2 : ¬ (q.1 v0 1) < v1) => ?_)
    · rw [if_pos hc2] at hG
      replace hS := hS.1 hc2
      refine x_run (pc' := 21) (lo' := [some (.ref v0), some (.int v1)]) (st' := [.int 0]) 1 rfl ?_
      obtain ⟨rfl, rfl⟩ := hG
      exact x_zret rfl (by decide +kernel) (Or.inl rfl)
    · rw [if_neg hc2] at hG
      replace hS := hS.2 hc2
      refine x_run (pc' := 21) (lo' := [some (.ref v0), some (.int v1)]) (st' := [.int 1]) 2 rfl ?_
      obtain ⟨rfl, rfl⟩ := hG
      exact x_zret rfl (by decide +kernel) (Or.inr rfl)
theorem T87 {l : Launch} {X : aX} {d : Nat} {v0 : Nat} {v1 : Int32} {q : aQ} (hd : 1 ≤ d) (fv0 : isRng v0) (hS : S87_0 v0 v1 q) : Call l X d 87 [.ref v0, .int v1] (hp q) (some (.int (F87_0 v0 v1 q))) (hp q) := Call.of ok87 (by decide) (Nat.le_of_ble_eq_true rfl) ⟨Nat.le_refl _, Nat.le_refl _⟩ (A87_0 hd rfl fv0 ⟨rfl, rfl⟩ hS)
/-- TypeForecast$Range.holdsOtherThan(I)Z -/
def F88_0 (v0 : Nat) (v1 : Int32) (q : aQ) : Int32 := (if (q.1 v0 1) < (q.1 v0 0) then 0 else (if (q.1 v0 0) = v1 then (if (q.1 v0 1) = v1 then 0 else 1) else 1))
def S88_0 (v0 : Nat) (v1 : Int32) (q : aQ) : Prop := (((q.1 v0 1) < (q.1 v0 0)) → True) ∧ (¬ ((q.1 v0 1) < (q.1 v0 0)) → (((q.1 v0 0) = v1) → (((q.1 v0 1) = v1) → True) ∧ (¬ ((q.1 v0 1) = v1) → True)) ∧ (¬ ((q.1 v0 0) = v1) → True))
set_option maxRecDepth 100000 in
set_option maxHeartbeats 4000000 in
theorem A88_0 {l : Launch} {X : aX} {d : Nat} {r : Option Value} {h' : aH} {v0 : Nat} {v1 : Int32} {q : aQ} (hd : 1 ≤ d) (hN : h'.1 = nk0) (fv0 : isRng v0) (hG : gI r h' (F88_0 v0 v1 q, q)) (hS : S88_0 v0 v1 q) : AW l X 88 c88 d r h' 0 [some (.ref v0), some (.int v1)] [] (hp q) := by
  unfold F88_0 at hG
  unfold S88_0 at hS
  refine x_run (pc' := 1) (lo' := [some (.ref v0), some (.int v1)]) (st' := [.ref v0]) 1 rfl ?_
  refine x_gf (c := 384) (ne := 0) (v := .int (q.1 v0 0)) rfl (by decide +kernel) (rg_s fv0) rfl ?_
  refine x_run (pc' := 5) (lo' := [some (.ref v0), some (.int v1)]) (st' := [.ref v0, .int (q.1 v0 0)]) 1 rfl ?_
  refine x_gf (c := 385) (ne := 0) (v := .int (q.1 v0 1)) rfl (by decide +kernel) (rg_s fv0) rfl ?_
  refine x_ic 31 rfl rfl (fun (hc1 : (q.1 v0 1) < (q.1 v0 0)) => ?_) (fun (hc1 : ¬ (q.1 v0 1) < (q.1 v0 0)) => ?_)
  · rw [if_pos hc1] at hG
    replace hS := hS.1 hc1
    refine x_run (pc' := 32) (lo' := [some (.ref v0), some (.int v1)]) (st' := [.int 0]) 1 rfl ?_
    obtain ⟨rfl, rfl⟩ := hG
    exact x_zret rfl (by decide +kernel) (Or.inl rfl)
  · rw [if_neg hc1] at hG
    replace hS := hS.2 hc1
    refine x_run (pc' := 12) (lo' := [some (.ref v0), some (.int v1)]) (st' := [.ref v0]) 1 rfl ?_
    refine x_gf (c := 384) (ne := 0) (v := .int (q.1 v0 0)) rfl (by decide +kernel) (rg_s fv0) rfl ?_
    refine x_run (pc' := 16) (lo' := [some (.ref v0), some (.int v1)]) (st' := [.int v1, .int (q.1 v0 0)]) 1 rfl ?_
    refine x_ic 27 rfl rfl (fun (hc2 : ¬ (q.1 v0 0) = v1) => ?_) (fun (hc2 : (q.1 v0 0) = v1) => ?_)
    · rw [if_neg hc2] at hG
      replace hS := hS.2 hc2
      refine x_run (pc' := 32) (lo' := [some (.ref v0), some (.int v1)]) (st' := [.int 1]) 2 rfl ?_
      obtain ⟨rfl, rfl⟩ := hG
      exact x_zret rfl (by decide +kernel) (Or.inr rfl)
    · rw [if_pos hc2] at hG
      replace hS := hS.1 hc2
      refine x_run (pc' := 20) (lo' := [some (.ref v0), some (.int v1)]) (st' := [.ref v0]) 1 rfl ?_
      refine x_gf (c := 385) (ne := 0) (v := .int (q.1 v0 1)) rfl (by decide +kernel) (rg_s fv0) rfl ?_
      refine x_run (pc' := 24) (lo' := [some (.ref v0), some (.int v1)]) (st' := [.int v1, .int (q.1 v0 1)]) 1 rfl ?_
      refine x_ic 31 rfl rfl (fun (hc3 : (q.1 v0 1) = v1) => ?_) (fun (hc3 : ¬ (q.1 v0 1) = v1) => ?_)
      · rw [if_pos hc3] at hG
        replace hS := hS.1 hc3
        refine x_run (pc' := 32) (lo' := [some (.ref v0), some (.int v1)]) (st' := [.int 0]) 1 rfl ?_
        obtain ⟨rfl, rfl⟩ := hG
        exact x_zret rfl (by decide +kernel) (Or.inl rfl)
      · rw [if_neg hc3] at hG
        replace hS := hS.2 hc3
        refine x_run (pc' := 32) (lo' := [some (.ref v0), some (.int v1)]) (st' := [.int 1]) 2 rfl ?_
        obtain ⟨rfl, rfl⟩ := hG
        exact x_zret rfl (by decide +kernel) (Or.inr rfl)
theorem T88 {l : Launch} {X : aX} {d : Nat} {v0 : Nat} {v1 : Int32} {q : aQ} (hd : 1 ≤ d) (fv0 : isRng v0) (hS : S88_0 v0 v1 q) : Call l X d 88 [.ref v0, .int v1] (hp q) (some (.int (F88_0 v0 v1 q))) (hp q) := Call.of ok88 (by decide) (Nat.le_of_ble_eq_true rfl) ⟨Nat.le_refl _, Nat.le_refl _⟩ (A88_0 hd rfl fv0 ⟨rfl, rfl⟩ hS)
/-- TypeForecast$Range.meets(LTypeForecast$Range;)Z -/
def F89_0 (v0 : Nat) (v1 : Nat) (q : aQ) : Int32 := (if (q.1 v1 1) < (q.1 v0 0) then 0 else (if (q.1 v0 1) < (q.1 v1 0) then 0 else 1))
def S89_0 (v0 : Nat) (v1 : Nat) (q : aQ) : Prop := (((q.1 v1 1) < (q.1 v0 0)) → True) ∧ (¬ ((q.1 v1 1) < (q.1 v0 0)) → (((q.1 v0 1) < (q.1 v1 0)) → True) ∧ (¬ ((q.1 v0 1) < (q.1 v1 0)) → True))
set_option maxRecDepth 100000 in
set_option maxHeartbeats 4000000 in
theorem A89_0 {l : Launch} {X : aX} {d : Nat} {r : Option Value} {h' : aH} {v0 : Nat} {v1 : Nat} {q : aQ} (hd : 1 ≤ d) (hN : h'.1 = nk0) (fv0 : isRng v0) (fv1 : isRng v1) (hG : gI r h' (F89_0 v0 v1 q, q)) (hS : S89_0 v0 v1 q) : AW l X 89 c89 d r h' 0 [some (.ref v0), some (.ref v1)] [] (hp q) := by
  unfold F89_0 at hG
  unfold S89_0 at hS
  refine x_run (pc' := 1) (lo' := [some (.ref v0), some (.ref v1)]) (st' := [.ref v0]) 1 rfl ?_
  refine x_gf (c := 384) (ne := 0) (v := .int (q.1 v0 0)) rfl (by decide +kernel) (rg_s fv0) rfl ?_
  refine x_run (pc' := 5) (lo' := [some (.ref v0), some (.ref v1)]) (st' := [.ref v1, .int (q.1 v0 0)]) 1 rfl ?_
  refine x_gf (c := 385) (ne := 0) (v := .int (q.1 v1 1)) rfl (by decide +kernel) (rg_s fv1) rfl ?_
  refine x_ic 26 rfl rfl (fun (hc1 : (q.1 v1 1) < (q.1 v0 0)) => ?_) (fun (hc1 : ¬ (q.1 v1 1) < (q.1 v0 0)) => ?_)
  · rw [if_pos hc1] at hG
    replace hS := hS.1 hc1
    refine x_run (pc' := 27) (lo' := [some (.ref v0), some (.ref v1)]) (st' := [.int 0]) 1 rfl ?_
    obtain ⟨rfl, rfl⟩ := hG
    exact x_zret rfl (by decide +kernel) (Or.inl rfl)
  · rw [if_neg hc1] at hG
    replace hS := hS.2 hc1
    refine x_run (pc' := 12) (lo' := [some (.ref v0), some (.ref v1)]) (st' := [.ref v1]) 1 rfl ?_
    refine x_gf (c := 384) (ne := 0) (v := .int (q.1 v1 0)) rfl (by decide +kernel) (rg_s fv1) rfl ?_
    refine x_run (pc' := 16) (lo' := [some (.ref v0), some (.ref v1)]) (st' := [.ref v0, .int (q.1 v1 0)]) 1 rfl ?_
    refine x_gf (c := 385) (ne := 0) (v := .int (q.1 v0 1)) rfl (by decide +kernel) (rg_s fv0) rfl ?_
    refine x_ic 26 rfl rfl (fun (hc2 : (q.1 v0 1) < (q.1 v1 0)) => ?_) (fun (hc2 : ¬ (q.1 v0 1) < (q.1 v1 0)) => ?_)
    · rw [if_pos hc2] at hG
      replace hS := hS.1 hc2
      refine x_run (pc' := 27) (lo' := [some (.ref v0), some (.ref v1)]) (st' := [.int 0]) 1 rfl ?_
      obtain ⟨rfl, rfl⟩ := hG
      exact x_zret rfl (by decide +kernel) (Or.inl rfl)
    · rw [if_neg hc2] at hG
      replace hS := hS.2 hc2
      refine x_run (pc' := 27) (lo' := [some (.ref v0), some (.ref v1)]) (st' := [.int 1]) 2 rfl ?_
      obtain ⟨rfl, rfl⟩ := hG
      exact x_zret rfl (by decide +kernel) (Or.inr rfl)
theorem T89 {l : Launch} {X : aX} {d : Nat} {v0 : Nat} {v1 : Nat} {q : aQ} (hd : 1 ≤ d) (fv0 : isRng v0) (fv1 : isRng v1) (hS : S89_0 v0 v1 q) : Call l X d 89 [.ref v0, .ref v1] (hp q) (some (.int (F89_0 v0 v1 q))) (hp q) := Call.of ok89 (by decide) (Nat.le_of_ble_eq_true rfl) ⟨Nat.le_refl _, Nat.le_refl _⟩ (A89_0 hd rfl fv0 fv1 ⟨rfl, rfl⟩ hS)
/-- TypeForecast$Range.mayBeLess(LTypeForecast$Range;)Z -/
def F90_0 (v0 : Nat) (v1 : Nat) (q : aQ) : Int32 := (if (q.1 v1 1) ≤ (q.1 v0 0) then 0 else 1)
def S90_0 (v0 : Nat) (v1 : Nat) (q : aQ) : Prop := (((q.1 v1 1) ≤ (q.1 v0 0)) → True) ∧ (¬ ((q.1 v1 1) ≤ (q.1 v0 0)) → True)
set_option maxRecDepth 100000 in
set_option maxHeartbeats 4000000 in
theorem A90_0 {l : Launch} {X : aX} {d : Nat} {r : Option Value} {h' : aH} {v0 : Nat} {v1 : Nat} {q : aQ} (hd : 1 ≤ d) (hN : h'.1 = nk0) (fv0 : isRng v0) (fv1 : isRng v1) (hG : gI r h' (F90_0 v0 v1 q, q)) (hS : S90_0 v0 v1 q) : AW l X 90 c90 d r h' 0 [some (.ref v0), some (.ref v1)] [] (hp q) := by
  unfold F90_0 at hG
  unfold S90_0 at hS
  refine x_run (pc' := 1) (lo' := [some (.ref v0), some (.ref v1)]) (st' := [.ref v0]) 1 rfl ?_
  refine x_gf (c := 384) (ne := 0) (v := .int (q.1 v0 0)) rfl (by decide +kernel) (rg_s fv0) rfl ?_
  refine x_run (pc' := 5) (lo' := [some (.ref v0), some (.ref v1)]) (st' := [.ref v1, .int (q.1 v0 0)]) 1 rfl ?_
  refine x_gf (c := 385) (ne := 0) (v := .int (q.1 v1 1)) rfl (by decide +kernel) (rg_s fv1) rfl ?_
  refine x_ic 15 rfl rfl (fun (hc1 : (q.1 v1 1) ≤ (q.1 v0 0)) => ?_) (fun (hc1 : ¬ (q.1 v1 1) ≤ (q.1 v0 0)) => ?_)
  · rw [if_pos hc1] at hG
    replace hS := hS.1 hc1
    refine x_run (pc' := 16) (lo' := [some (.ref v0), some (.ref v1)]) (st' := [.int 0]) 1 rfl ?_
    obtain ⟨rfl, rfl⟩ := hG
    exact x_zret rfl (by decide +kernel) (Or.inl rfl)
  · rw [if_neg hc1] at hG
    replace hS := hS.2 hc1
    refine x_run (pc' := 16) (lo' := [some (.ref v0), some (.ref v1)]) (st' := [.int 1]) 2 rfl ?_
    obtain ⟨rfl, rfl⟩ := hG
    exact x_zret rfl (by decide +kernel) (Or.inr rfl)
theorem T90 {l : Launch} {X : aX} {d : Nat} {v0 : Nat} {v1 : Nat} {q : aQ} (hd : 1 ≤ d) (fv0 : isRng v0) (fv1 : isRng v1) (hS : S90_0 v0 v1 q) : Call l X d 90 [.ref v0, .ref v1] (hp q) (some (.int (F90_0 v0 v1 q))) (hp q) := Call.of ok90 (by decide) (Nat.le_of_ble_eq_true rfl) ⟨Nat.le_refl _, Nat.le_refl _⟩ (A90_0 hd rfl fv0 fv1 ⟨rfl, rfl⟩ hS)
/-- TypeForecast$Range.mayBeNotLess(LTypeForecast$Range;)Z -/
def F91_0 (v0 : Nat) (v1 : Nat) (q : aQ) : Int32 := (if (q.1 v0 1) < (q.1 v1 0) then 0 else 1)
def S91_0 (v0 : Nat) (v1 : Nat) (q : aQ) : Prop := (((q.1 v0 1) < (q.1 v1 0)) → True) ∧ (¬ ((q.1 v0 1) < (q.1 v1 0)) → True)
set_option maxRecDepth 100000 in
set_option maxHeartbeats 4000000 in
theorem A91_0 {l : Launch} {X : aX} {d : Nat} {r : Option Value} {h' : aH} {v0 : Nat} {v1 : Nat} {q : aQ} (hd : 1 ≤ d) (hN : h'.1 = nk0) (fv0 : isRng v0) (fv1 : isRng v1) (hG : gI r h' (F91_0 v0 v1 q, q)) (hS : S91_0 v0 v1 q) : AW l X 91 c91 d r h' 0 [some (.ref v0), some (.ref v1)] [] (hp q) := by
  unfold F91_0 at hG
  unfold S91_0 at hS
  refine x_run (pc' := 1) (lo' := [some (.ref v0), some (.ref v1)]) (st' := [.ref v0]) 1 rfl ?_
  refine x_gf (c := 385) (ne := 0) (v := .int (q.1 v0 1)) rfl (by decide +kernel) (rg_s fv0) rfl ?_
  refine x_run (pc' := 5) (lo' := [some (.ref v0), some (.ref v1)]) (st' := [.ref v1, .int (q.1 v0 1)]) 1 rfl ?_
  refine x_gf (c := 384) (ne := 0) (v := .int (q.1 v1 0)) rfl (by decide +kernel) (rg_s fv1) rfl ?_
  refine x_ic 15 rfl rfl (fun (hc1 : (q.1 v0 1) < (q.1 v1 0)) => ?_) (fun (hc1 : ¬ (q.1 v0 1) < (q.1 v1 0)) => ?_)
  · rw [if_pos hc1] at hG
    replace hS := hS.1 hc1
    refine x_run (pc' := 16) (lo' := [some (.ref v0), some (.ref v1)]) (st' := [.int 0]) 1 rfl ?_
    obtain ⟨rfl, rfl⟩ := hG
    exact x_zret rfl (by decide +kernel) (Or.inl rfl)
  · rw [if_neg hc1] at hG
    replace hS := hS.2 hc1
    refine x_run (pc' := 16) (lo' := [some (.ref v0), some (.ref v1)]) (st' := [.int 1]) 2 rfl ?_
    obtain ⟨rfl, rfl⟩ := hG
    exact x_zret rfl (by decide +kernel) (Or.inr rfl)
theorem T91 {l : Launch} {X : aX} {d : Nat} {v0 : Nat} {v1 : Nat} {q : aQ} (hd : 1 ≤ d) (fv0 : isRng v0) (fv1 : isRng v1) (hS : S91_0 v0 v1 q) : Call l X d 91 [.ref v0, .ref v1] (hp q) (some (.int (F91_0 v0 v1 q))) (hp q) := Call.of ok91 (by decide) (Nat.le_of_ble_eq_true rfl) ⟨Nat.le_refl _, Nat.le_refl _⟩ (A91_0 hd rfl fv0 fv1 ⟨rfl, rfl⟩ hS)
/-- TypeForecast$Range.keep(II)V -/
def F92_23 (v0 : Nat) (v3 : Int32) (v4 : Int32) (q : aQ) : aQ := (F82_0 v0 v3 v4 q)
def S92_23 (v0 : Nat) (v3 : Int32) (v4 : Int32) (q : aQ) : Prop := S82_0 v0 v3 v4 q ∧ (True)
set_option maxRecDepth 100000 in
set_option maxHeartbeats 4000000 in
theorem A92_23 {l : Launch} {X : aX} {d : Nat} {r : Option Value} {h' : aH} {v0 : Nat} {v3 : Int32} {v4 : Int32} {q : aQ} (hd : 2 ≤ d) (hN : h'.1 = nk0) (fv0 : isRng v0) (hG : gV r h' (F92_23 v0 v3 v4 q)) (hS : S92_23 v0 v3 v4 q) : AW l X 92 c92 d r h' 23 [some (.ref v0), none, none, some (.int v3), some (.int v4)] [] (hp q) := by
  unfold F92_23 at hG
  unfold S92_23 at hS
  refine x_run (pc' := 27) (lo' := [some (.ref v0), none, none, some (.int v3), some (.int v4)]) (st' := [.int v4, .int v3, .ref v0]) 3 rfl ?_
  obtain ⟨o4, hS⟩ := hS
  refine x_cv (j := 82) (ne := 0) (vs := [.int v3, .int v4]) (rest := []) rfl (by decide +kernel) (by decide +kernel) (by decide) (Eq.trans rfl (show 2 = _ from by decide +kernel)) (rg_s fv0) (by decide +kernel) rfl (Nat.le_of_ble_eq_true rfl) (by omega) (T82 (Nat.le_refl 1) fv0 o4) (hp_m hN) ?_
  show AW l X 92 c92 d r h' 30 [some (.ref v0), none, none, some (.int v3), some (.int v4)] [] (hp (F82_0 v0 v3 v4 q))
  obtain ⟨rfl, rfl⟩ := hG
  exact x_ret rfl (by decide +kernel)
def F92_0 (v0 : Nat) (v1 : Int32) (v2 : Int32) (q : aQ) : aQ := F92_23 v0 (F190_0 (q.1 v0 0) v1 q) (F191_0 (q.1 v0 1) v2 q) (F80_0 v0 q)
def S92_0 (v0 : Nat) (v1 : Int32) (v2 : Int32) (q : aQ) : Prop := S190_0 (q.1 v0 0) v1 q ∧ (S191_0 (q.1 v0 1) v2 q ∧ (S80_0 v0 q ∧ (S92_23 v0 (F190_0 (q.1 v0 0) v1 q) (F191_0 (q.1 v0 1) v2 q) (F80_0 v0 q))))
set_option maxRecDepth 100000 in
set_option maxHeartbeats 4000000 in
theorem A92_0 {l : Launch} {X : aX} {d : Nat} {r : Option Value} {h' : aH} {v0 : Nat} {v1 : Int32} {v2 : Int32} {q : aQ} (hd : 2 ≤ d) (hN : h'.1 = nk0) (fv0 : isRng v0) (hG : gV r h' (F92_0 v0 v1 v2 q)) (hS : S92_0 v0 v1 v2 q) : AW l X 92 c92 d r h' 0 [some (.ref v0), some (.int v1), some (.int v2), none, none] [] (hp q) := by
  unfold F92_0 at hG
  unfold S92_0 at hS
  refine x_run (pc' := 1) (lo' := [some (.ref v0), some (.int v1), some (.int v2), none, none]) (st' := [.ref v0]) 1 rfl ?_
  refine x_gf (c := 384) (ne := 0) (v := .int (q.1 v0 0)) rfl (by decide +kernel) (rg_s fv0) rfl ?_
  refine x_run (pc' := 5) (lo' := [some (.ref v0), some (.int v1), some (.int v2), none, none]) (st' := [.int v1, .int (q.1 v0 0)]) 1 rfl ?_
  obtain ⟨o1, hS⟩ := hS
  refine x_cs (j := 190) (ne := 0) (vs := [.int (q.1 v0 0), .int v1]) (rest := []) rfl (by decide +kernel) (by decide +kernel) (by decide) (Eq.trans rfl (show 2 = _ from by decide +kernel)) rfl (Nat.le_of_ble_eq_true rfl) (by omega) (T190 (Nat.le_refl 1) o1) (hp_m hN) ?_
  show AW l X 92 c92 d r h' 8 [some (.ref v0), some (.int v1), some (.int v2), none, none] [.int (F190_0 (q.1 v0 0) v1 q)] (hp q)
  refine x_run (pc' := 10) (lo' := [some (.ref v0), some (.int v1), some (.int v2), some (.int (F190_0 (q.1 v0 0) v1 q)), none]) (st' := [.ref v0]) 2 rfl ?_
  refine x_gf (c := 385) (ne := 0) (v := .int (q.1 v0 1)) rfl (by decide +kernel) (rg_s fv0) rfl ?_
  refine x_run (pc' := 14) (lo' := [some (.ref v0), some (.int v1), some (.int v2), some (.int (F190_0 (q.1 v0 0) v1 q)), none]) (st' := [.int v2, .int (q.1 v0 1)]) 1 rfl ?_
  obtain ⟨o2, hS⟩ := hS
  refine x_cs (j := 191) (ne := 0) (vs := [.int (q.1 v0 1), .int v2]) (rest := []) rfl (by decide +kernel) (by decide +kernel) (by decide) (Eq.trans rfl (show 2 = _ from by decide +kernel)) rfl (Nat.le_of_ble_eq_true rfl) (by omega) (T191 (Nat.le_refl 1) o2) (hp_m hN) ?_
  show AW l X 92 c92 d r h' 17 [some (.ref v0), some (.int v1), some (.int v2), some (.int (F190_0 (q.1 v0 0) v1 q)), none] [.int (F191_0 (q.1 v0 1) v2 q)] (hp q)
  refine x_run (pc' := 20) (lo' := [some (.ref v0), some (.int v1), some (.int v2), some (.int (F190_0 (q.1 v0 0) v1 q)), some (.int (F191_0 (q.1 v0 1) v2 q))]) (st' := [.ref v0]) 2 rfl ?_
  obtain ⟨o3, hS⟩ := hS
  refine x_cv (j := 80) (ne := 0) (vs := []) (rest := []) rfl (by decide +kernel) (by decide +kernel) (by decide) (Eq.trans rfl (show 0 = _ from by decide +kernel)) (rg_s fv0) (by decide +kernel) rfl (Nat.le_of_ble_eq_true rfl) (by omega) (T80 (Nat.le_refl 1) fv0 o3) (hp_m hN) ?_
  show AW l X 92 c92 d r h' 23 [some (.ref v0), some (.int v1), some (.int v2), some (.int (F190_0 (q.1 v0 0) v1 q)), some (.int (F191_0 (q.1 v0 1) v2 q))] [] (hp (F80_0 v0 q))
  refine x_kill [1, 2] ?_
  exact A92_23 hd hN fv0 hG hS
theorem T92 {l : Launch} {X : aX} {d : Nat} {v0 : Nat} {v1 : Int32} {v2 : Int32} {q : aQ} (hd : 2 ≤ d) (fv0 : isRng v0) (hS : S92_0 v0 v1 v2 q) : Call l X d 92 [.ref v0, .int v1, .int v2] (hp q) none (hp (F92_0 v0 v1 v2 q)) := Call.of ok92 (by decide) (Nat.le_of_ble_eq_true rfl) ⟨Nat.le_refl _, Nat.le_refl _⟩ (A92_0 hd rfl fv0 ⟨rfl, rfl⟩ hS)
/-- TypeForecast$Range.drop(I)V -/
def F93_42 (v0 : Nat) (v2 : Int32) (v3 : Int32) (q : aQ) : aQ := (F82_0 v0 v2 v3 q)
def S93_42 (v0 : Nat) (v2 : Int32) (v3 : Int32) (q : aQ) : Prop := S82_0 v0 v2 v3 q ∧ (True)
set_option maxRecDepth 100000 in
set_option maxHeartbeats 4000000 in
theorem A93_42 {l : Launch} {X : aX} {d : Nat} {r : Option Value} {h' : aH} {v0 : Nat} {v2 : Int32} {v3 : Int32} {q : aQ} (hd : 2 ≤ d) (hN : h'.1 = nk0) (fv0 : isRng v0) (hG : gV r h' (F93_42 v0 v2 v3 q)) (hS : S93_42 v0 v2 v3 q) : AW l X 93 c93 d r h' 42 [some (.ref v0), none, some (.int v2), some (.int v3)] [] (hp q) := by
  unfold F93_42 at hG
  unfold S93_42 at hS
  refine x_run (pc' := 45) (lo' := [some (.ref v0), none, some (.int v2), some (.int v3)]) (st' := [.int v3, .int v2, .ref v0]) 3 rfl ?_
  obtain ⟨o4, hS⟩ := hS
  refine x_cv (j := 82) (ne := 0) (vs := [.int v2, .int v3]) (rest := []) rfl (by decide +kernel) (by decide +kernel) (by decide) (Eq.trans rfl (show 2 = _ from by decide +kernel)) (rg_s fv0) (by decide +kernel) rfl (Nat.le_of_ble_eq_true rfl) (by omega) (T82 (Nat.le_refl 1) fv0 o4) (hp_m hN) ?_
  show AW l X 93 c93 d r h' 48 [some (.ref v0), none, some (.int v2), some (.int v3)] [] (hp (F82_0 v0 v2 v3 q))
  obtain ⟨rfl, rfl⟩ := hG
  exact x_ret rfl (by decide +kernel)
def F93_37 (v0 : Nat) (v2 : Int32) (s0 : Int32) (q : aQ) : aQ := F93_42 v0 v2 s0 (F80_0 v0 q)
def S93_37 (v0 : Nat) (v2 : Int32) (s0 : Int32) (q : aQ) : Prop := S80_0 v0 q ∧ (S93_42 v0 v2 s0 (F80_0 v0 q))
set_option maxRecDepth 100000 in
set_option maxHeartbeats 4000000 in
theorem A93_37 {l : Launch} {X : aX} {d : Nat} {r : Option Value} {h' : aH} {v0 : Nat} {v2 : Int32} {s0 : Int32} {q : aQ} (hd : 2 ≤ d) (hN : h'.1 = nk0) (fv0 : isRng v0) (hG : gV r h' (F93_37 v0 v2 s0 q)) (hS : S93_37 v0 v2 s0 q) : AW l X 93 c93 d r h' 37 [some (.ref v0), none, some (.int v2), none] [.int s0] (hp q) := by
  unfold F93_37 at hG
  unfold S93_37 at hS
  refine x_run (pc' := 39) (lo' := [some (.ref v0), none, some (.int v2), some (.int s0)]) (st' := [.ref v0]) 2 rfl ?_
  obtain ⟨o3, hS⟩ := hS
  refine x_cv (j := 80) (ne := 0) (vs := []) (rest := []) rfl (by decide +kernel) (by decide +kernel) (by decide) (Eq.trans rfl (show 0 = _ from by decide +kernel)) (rg_s fv0) (by decide +kernel) rfl (Nat.le_of_ble_eq_true rfl) (by omega) (T80 (Nat.le_refl 1) fv0 o3) (hp_m hN) ?_
  show AW l X 93 c93 d r h' 42 [some (.ref v0), none, some (.int v2), some (.int s0)] [] (hp (F80_0 v0 q))
  exact A93_42 hd hN fv0 hG hS
def F93_18 (v0 : Nat) (v1 : Int32) (s0 : Int32) (q : aQ) : aQ := (if (q.1 v0 1) = v1 then F93_37 v0 s0 (v1 - 1) q else F93_37 v0 s0 (q.1 v0 1) q)
def S93_18 (v0 : Nat) (v1 : Int32) (s0 : Int32) (q : aQ) : Prop := (((q.1 v0 1) = v1) → S93_37 v0 s0 (v1 - 1) q) ∧ (¬ ((q.1 v0 1) = v1) → S93_37 v0 s0 (q.1 v0 1) q)
set_option maxRecDepth 100000 in
set_option maxHeartbeats 4000000 in
theorem A93_18 {l : Launch} {X : aX} {d : Nat} {r : Option Value} {h' : aH} {v0 : Nat} {v1 : Int32} {s0 : Int32} {q : aQ} (hd : 2 ≤ d) (hN : h'.1 = nk0) (fv0 : isRng v0) (hG : gV r h' (F93_18 v0 v1 s0 q)) (hS : S93_18 v0 v1 s0 q) : AW l X 93 c93 d r h' 18 [some (.ref v0), some (.int v1), none, none] [.int s0] (hp q) := by
  unfold F93_18 at hG
  unfold S93_18 at hS
  refine x_run (pc' := 20) (lo' := [some (.ref v0), some (.int v1), some (.int s0), none]) (st' := [.ref v0]) 2 rfl ?_
  refine x_gf (c := 385) (ne := 0) (v := .int (q.1 v0 1)) rfl (by decide +kernel) (rg_s fv0) rfl ?_
  refine x_run (pc' := 24) (lo' := [some (.ref v0), some (.int v1), some (.int s0), none]) (st' := [.int v1, .int (q.1 v0 1)]) 1 rfl ?_
  refine x_ic 33 rfl rfl (fun (hc2 : ¬ (q.1 v0 1) = v1) => ?_) (fun (hc2 : (q.1 v0 1) = v1) => ?_)
  · rw [if_neg hc2] at hG
    replace hS := hS.2 hc2
    refine x_run (pc' := 34) (lo' := [some (.ref v0), some (.int v1), some (.int s0), none]) (st' := [.ref v0]) 1 rfl ?_
    refine x_gf (c := 385) (ne := 0) (v := .int (q.1 v0 1)) rfl (by decide +kernel) (rg_s fv0) rfl ?_
    refine x_kill [1] ?_
    exact A93_37 hd hN fv0 hG hS
  · rw [if_pos hc2] at hG
    replace hS := hS.1 hc2
    refine x_run (pc' := 37) (lo' := [some (.ref v0), some (.int v1), some (.int s0), none]) (st' := [.int (v1 - 1)]) 4 rfl ?_
    refine x_kill [1] ?_
    exact A93_37 hd hN fv0 hG hS
def F93_0 (v0 : Nat) (v1 : Int32) (q : aQ) : aQ := (if (q.1 v0 0) = v1 then F93_18 v0 v1 (v1 + 1) q else F93_18 v0 v1 (q.1 v0 0) q)
def S93_0 (v0 : Nat) (v1 : Int32) (q : aQ) : Prop := (((q.1 v0 0) = v1) → S93_18 v0 v1 (v1 + 1) q) ∧ (¬ ((q.1 v0 0) = v1) → S93_18 v0 v1 (q.1 v0 0) q)
set_option maxRecDepth 100000 in
set_option maxHeartbeats 4000000 in
theorem A93_0 {l : Launch} {X : aX} {d : Nat} {r : Option Value} {h' : aH} {v0 : Nat} {v1 : Int32} {q : aQ} (hd : 2 ≤ d) (hN : h'.1 = nk0) (fv0 : isRng v0) (hG : gV r h' (F93_0 v0 v1 q)) (hS : S93_0 v0 v1 q) : AW l X 93 c93 d r h' 0 [some (.ref v0), some (.int v1), none, none] [] (hp q) := by
  unfold F93_0 at hG
  unfold S93_0 at hS
  refine x_run (pc' := 1) (lo' := [some (.ref v0), some (.int v1), none, none]) (st' := [.ref v0]) 1 rfl ?_
  refine x_gf (c := 384) (ne := 0) (v := .int (q.1 v0 0)) rfl (by decide +kernel) (rg_s fv0) rfl ?_
  refine x_run (pc' := 5) (lo' := [some (.ref v0), some (.int v1), none, none]) (st' := [.int v1, .int (q.1 v0 0)]) 1 rfl ?_
  refine x_ic 14 rfl rfl (fun (hc1 : ¬ (q.1 v0 0) = v1) => ?_) (fun (hc1 : (q.1 v0 0) = v1) => ?_)
  · rw [if_neg hc1] at hG
    replace hS := hS.2 hc1
    refine x_run (pc' := 15) (lo' := [some (.ref v0), some (.int v1), none, none]) (st' := [.ref v0]) 1 rfl ?_
    refine x_gf (c := 384) (ne := 0) (v := .int (q.1 v0 0)) rfl (by decide +kernel) (rg_s fv0) rfl ?_
    exact A93_18 hd hN fv0 hG hS
  · rw [if_pos hc1] at hG
    replace hS := hS.1 hc1
    refine x_run (pc' := 18) (lo' := [some (.ref v0), some (.int v1), none, none]) (st' := [.int (v1 + 1)]) 4 rfl ?_
    exact A93_18 hd hN fv0 hG hS
theorem T93 {l : Launch} {X : aX} {d : Nat} {v0 : Nat} {v1 : Int32} {q : aQ} (hd : 2 ≤ d) (fv0 : isRng v0) (hS : S93_0 v0 v1 q) : Call l X d 93 [.ref v0, .int v1] (hp q) none (hp (F93_0 v0 v1 q)) := Call.of ok93 (by decide) (Nat.le_of_ble_eq_true rfl) ⟨Nat.le_refl _, Nat.le_refl _⟩ (A93_0 hd rfl fv0 ⟨rfl, rfl⟩ hS)
/-- TypeForecast$Range.includeSums(LTypeForecast$Range;LTypeForecast$Range;)V -/
def F94_0 (v0 : Nat) (v1 : Nat) (v2 : Nat) (q : aQ) : aQ := (if (F85_0 v1 q) = 0 then (if (F85_0 v2 q) = 0 then (F82_0 v0 ((q.1 v1 0) + (q.1 v2 0)) ((q.1 v1 1) + (q.1 v2 1)) q) else q) else q)
def S94_0 (v0 : Nat) (v1 : Nat) (v2 : Nat) (q : aQ) : Prop := S85_0 v1 q ∧ ((((F85_0 v1 q) = 0) → S85_0 v2 q ∧ ((((F85_0 v2 q) = 0) → S82_0 v0 ((q.1 v1 0) + (q.1 v2 0)) ((q.1 v1 1) + (q.1 v2 1)) q ∧ (True)) ∧ (¬ ((F85_0 v2 q) = 0) → True))) ∧ (¬ ((F85_0 v1 q) = 0) → True))
set_option maxRecDepth 100000 in
set_option maxHeartbeats 4000000 in
theorem A94_0 {l : Launch} {X : aX} {d : Nat} {r : Option Value} {h' : aH} {v0 : Nat} {v1 : Nat} {v2 : Nat} {q : aQ} (hd : 2 ≤ d) (hN : h'.1 = nk0) (fv0 : isRng v0) (fv1 : isRng v1) (fv2 : isRng v2) (hG : gV r h' (F94_0 v0 v1 v2 q)) (hS : S94_0 v0 v1 v2 q) : AW l X 94 c94 d r h' 0 [some (.ref v0), some (.ref v1), some (.ref v2)] [] (hp q) := by
  unfold F94_0 at hG
  unfold S94_0 at hS
  refine x_run (pc' := 1) (lo' := [some (.ref v0), some (.ref v1), some (.ref v2)]) (st' := [.ref v1]) 1 rfl ?_
  obtain ⟨o1, hS⟩ := hS
  refine x_cv (j := 85) (ne := 0) (vs := []) (rest := []) rfl (by decide +kernel) (by decide +kernel) (by decide) (Eq.trans rfl (show 0 = _ from by decide +kernel)) (rg_s fv1) (by decide +kernel) rfl (Nat.le_of_ble_eq_true rfl) (by omega) (T85 (Nat.le_refl 1) fv1 o1) (hp_m hN) ?_
  show AW l X 94 c94 d r h' 4 [some (.ref v0), some (.ref v1), some (.ref v2)] [.int (F85_0 v1 q)] (hp q)
  refine x_if 36 rfl rfl (fun (hc2 : ¬ (F85_0 v1 q) = 0) => ?_) (fun (hc2 : (F85_0 v1 q) = 0) => ?_)
  · rw [if_neg hc2] at hG
    replace hS := hS.2 hc2
    obtain ⟨rfl, rfl⟩ := hG
    exact x_ret rfl (by decide +kernel)
  · rw [if_pos hc2] at hG
    replace hS := hS.1 hc2
    refine x_run (pc' := 8) (lo' := [some (.ref v0), some (.ref v1), some (.ref v2)]) (st' := [.ref v2]) 1 rfl ?_
    obtain ⟨o3, hS⟩ := hS
    refine x_cv (j := 85) (ne := 0) (vs := []) (rest := []) rfl (by decide +kernel) (by decide +kernel) (by decide) (Eq.trans rfl (show 0 = _ from by decide +kernel)) (rg_s fv2) (by decide +kernel) rfl (Nat.le_of_ble_eq_true rfl) (by omega) (T85 (Nat.le_refl 1) fv2 o3) (hp_m hN) ?_
    show AW l X 94 c94 d r h' 11 [some (.ref v0), some (.ref v1), some (.ref v2)] [.int (F85_0 v2 q)] (hp q)
    refine x_if 36 rfl rfl (fun (hc4 : ¬ (F85_0 v2 q) = 0) => ?_) (fun (hc4 : (F85_0 v2 q) = 0) => ?_)
    · rw [if_neg hc4] at hG
      replace hS := hS.2 hc4
      obtain ⟨rfl, rfl⟩ := hG
      exact x_ret rfl (by decide +kernel)
    · rw [if_pos hc4] at hG
      replace hS := hS.1 hc4
      refine x_run (pc' := 16) (lo' := [some (.ref v0), some (.ref v1), some (.ref v2)]) (st' := [.ref v1, .ref v0]) 2 rfl ?_
      refine x_gf (c := 384) (ne := 0) (v := .int (q.1 v1 0)) rfl (by decide +kernel) (rg_s fv1) rfl ?_
      refine x_run (pc' := 20) (lo' := [some (.ref v0), some (.ref v1), some (.ref v2)]) (st' := [.ref v2, .int (q.1 v1 0), .ref v0]) 1 rfl ?_
      refine x_gf (c := 384) (ne := 0) (v := .int (q.1 v2 0)) rfl (by decide +kernel) (rg_s fv2) rfl ?_
      refine x_run (pc' := 25) (lo' := [some (.ref v0), some (.ref v1), some (.ref v2)]) (st' := [.ref v1, .int ((q.1 v1 0) + (q.1 v2 0)), .ref v0]) 2 rfl ?_
      refine x_gf (c := 385) (ne := 0) (v := .int (q.1 v1 1)) rfl (by decide +kernel) (rg_s fv1) rfl ?_
      refine x_run (pc' := 29) (lo' := [some (.ref v0), some (.ref v1), some (.ref v2)]) (st' := [.ref v2, .int (q.1 v1 1), .int ((q.1 v1 0) + (q.1 v2 0)), .ref v0]) 1 rfl ?_
      refine x_gf (c := 385) (ne := 0) (v := .int (q.1 v2 1)) rfl (by decide +kernel) (rg_s fv2) rfl ?_
      refine x_run (pc' := 33) (lo' := [some (.ref v0), some (.ref v1), some (.ref v2)]) (st' := [.int ((q.1 v1 1) + (q.1 v2 1)), .int ((q.1 v1 0) + (q.1 v2 0)), .ref v0]) 1 rfl ?_
      obtain ⟨o5, hS⟩ := hS
      refine x_cv (j := 82) (ne := 0) (vs := [.int ((q.1 v1 0) + (q.1 v2 0)), .int ((q.1 v1 1) + (q.1 v2 1))]) (rest := []) rfl (by decide +kernel) (by decide +kernel) (by decide) (Eq.trans rfl (show 2 = _ from by decide +kernel)) (rg_s fv0) (by decide +kernel) rfl (Nat.le_of_ble_eq_true rfl) (by omega) (T82 (Nat.le_refl 1) fv0 o5) (hp_m hN) ?_
      show AW l X 94 c94 d r h' 36 [some (.ref v0), some (.ref v1), some (.ref v2)] [] (hp (F82_0 v0 ((q.1 v1 0) + (q.1 v2 0)) ((q.1 v1 1) + (q.1 v2 1)) q))
      obtain ⟨rfl, rfl⟩ := hG
      exact x_ret rfl (by decide +kernel)
theorem T94 {l : Launch} {X : aX} {d : Nat} {v0 : Nat} {v1 : Nat} {v2 : Nat} {q : aQ} (hd : 2 ≤ d) (fv0 : isRng v0) (fv1 : isRng v1) (fv2 : isRng v2) (hS : S94_0 v0 v1 v2 q) : Call l X d 94 [.ref v0, .ref v1, .ref v2] (hp q) none (hp (F94_0 v0 v1 v2 q)) := Call.of ok94 (by decide) (Nat.le_of_ble_eq_true rfl) ⟨Nat.le_refl _, Nat.le_refl _⟩ (A94_0 hd rfl fv0 fv1 fv2 ⟨rfl, rfl⟩ hS)
/-- TypeForecast$Range.includeDifferences(LTypeForecast$Range;LTypeForecast$Range;)V -/
def F95_0 (v0 : Nat) (v1 : Nat) (v2 : Nat) (q : aQ) : aQ := (if (F85_0 v1 q) = 0 then (if (F85_0 v2 q) = 0 then (F82_0 v0 ((q.1 v1 0) - (q.1 v2 1)) ((q.1 v1 1) - (q.1 v2 0)) q) else q) else q)
def S95_0 (v0 : Nat) (v1 : Nat) (v2 : Nat) (q : aQ) : Prop := S85_0 v1 q ∧ ((((F85_0 v1 q) = 0) → S85_0 v2 q ∧ ((((F85_0 v2 q) = 0) → S82_0 v0 ((q.1 v1 0) - (q.1 v2 1)) ((q.1 v1 1) - (q.1 v2 0)) q ∧ (True)) ∧ (¬ ((F85_0 v2 q) = 0) → True))) ∧ (¬ ((F85_0 v1 q) = 0) → True))
set_option maxRecDepth 100000 in
set_option maxHeartbeats 4000000 in
theorem A95_0 {l : Launch} {X : aX} {d : Nat} {r : Option Value} {h' : aH} {v0 : Nat} {v1 : Nat} {v2 : Nat} {q : aQ} (hd : 2 ≤ d) (hN : h'.1 = nk0) (fv0 : isRng v0) (fv1 : isRng v1) (fv2 : isRng v2) (hG : gV r h' (F95_0 v0 v1 v2 q)) (hS : S95_0 v0 v1 v2 q) : AW l X 95 c95 d r h' 0 [some (.ref v0), some (.ref v1), some (.ref v2)] [] (hp q) := by
  unfold F95_0 at hG
  unfold S95_0 at hS
  refine x_run (pc' := 1) (lo' := [some (.ref v0), some (.ref v1), some (.ref v2)]) (st' := [.ref v1]) 1 rfl ?_
  obtain ⟨o1, hS⟩ := hS
  refine x_cv (j := 85) (ne := 0) (vs := []) (rest := []) rfl (by decide +kernel) (by decide +kernel) (by decide) (Eq.trans rfl (show 0 = _ from by decide +kernel)) (rg_s fv1) (by decide +kernel) rfl (Nat.le_of_ble_eq_true rfl) (by omega) (T85 (Nat.le_refl 1) fv1 o1) (hp_m hN) ?_
  show AW l X 95 c95 d r h' 4 [some (.ref v0), some (.ref v1), some (.ref v2)] [.int (F85_0 v1 q)] (hp q)
  refine x_if 36 rfl rfl (fun (hc2 : ¬ (F85_0 v1 q) = 0) => ?_) (fun (hc2 : (F85_0 v1 q) = 0) => ?_)
  · rw [if_neg hc2] at hG
    replace hS := hS.2 hc2
    obtain ⟨rfl, rfl⟩ := hG
    exact x_ret rfl (by decide +kernel)
  · rw [if_pos hc2] at hG
    replace hS := hS.1 hc2
    refine x_run (pc' := 8) (lo' := [some (.ref v0), some (.ref v1), some (.ref v2)]) (st' := [.ref v2]) 1 rfl ?_
    obtain ⟨o3, hS⟩ := hS
    refine x_cv (j := 85) (ne := 0) (vs := []) (rest := []) rfl (by decide +kernel) (by decide +kernel) (by decide) (Eq.trans rfl (show 0 = _ from by decide +kernel)) (rg_s fv2) (by decide +kernel) rfl (Nat.le_of_ble_eq_true rfl) (by omega) (T85 (Nat.le_refl 1) fv2 o3) (hp_m hN) ?_
    show AW l X 95 c95 d r h' 11 [some (.ref v0), some (.ref v1), some (.ref v2)] [.int (F85_0 v2 q)] (hp q)
    refine x_if 36 rfl rfl (fun (hc4 : ¬ (F85_0 v2 q) = 0) => ?_) (fun (hc4 : (F85_0 v2 q) = 0) => ?_)
    · rw [if_neg hc4] at hG
      replace hS := hS.2 hc4
      obtain ⟨rfl, rfl⟩ := hG
      exact x_ret rfl (by decide +kernel)
    · rw [if_pos hc4] at hG
      replace hS := hS.1 hc4
      refine x_run (pc' := 16) (lo' := [some (.ref v0), some (.ref v1), some (.ref v2)]) (st' := [.ref v1, .ref v0]) 2 rfl ?_
      refine x_gf (c := 384) (ne := 0) (v := .int (q.1 v1 0)) rfl (by decide +kernel) (rg_s fv1) rfl ?_
      refine x_run (pc' := 20) (lo' := [some (.ref v0), some (.ref v1), some (.ref v2)]) (st' := [.ref v2, .int (q.1 v1 0), .ref v0]) 1 rfl ?_
      refine x_gf (c := 385) (ne := 0) (v := .int (q.1 v2 1)) rfl (by decide +kernel) (rg_s fv2) rfl ?_
      refine x_run (pc' := 25) (lo' := [some (.ref v0), some (.ref v1), some (.ref v2)]) (st' := [.ref v1, .int ((q.1 v1 0) - (q.1 v2 1)), .ref v0]) 2 rfl ?_
      refine x_gf (c := 385) (ne := 0) (v := .int (q.1 v1 1)) rfl (by decide +kernel) (rg_s fv1) rfl ?_
      refine x_run (pc' := 29) (lo' := [some (.ref v0), some (.ref v1), some (.ref v2)]) (st' := [.ref v2, .int (q.1 v1 1), .int ((q.1 v1 0) - (q.1 v2 1)), .ref v0]) 1 rfl ?_
      refine x_gf (c := 384) (ne := 0) (v := .int (q.1 v2 0)) rfl (by decide +kernel) (rg_s fv2) rfl ?_
      refine x_run (pc' := 33) (lo' := [some (.ref v0), some (.ref v1), some (.ref v2)]) (st' := [.int ((q.1 v1 1) - (q.1 v2 0)), .int ((q.1 v1 0) - (q.1 v2 1)), .ref v0]) 1 rfl ?_
      obtain ⟨o5, hS⟩ := hS
      refine x_cv (j := 82) (ne := 0) (vs := [.int ((q.1 v1 0) - (q.1 v2 1)), .int ((q.1 v1 1) - (q.1 v2 0))]) (rest := []) rfl (by decide +kernel) (by decide +kernel) (by decide) (Eq.trans rfl (show 2 = _ from by decide +kernel)) (rg_s fv0) (by decide +kernel) rfl (Nat.le_of_ble_eq_true rfl) (by omega) (T82 (Nat.le_refl 1) fv0 o5) (hp_m hN) ?_
      show AW l X 95 c95 d r h' 36 [some (.ref v0), some (.ref v1), some (.ref v2)] [] (hp (F82_0 v0 ((q.1 v1 0) - (q.1 v2 1)) ((q.1 v1 1) - (q.1 v2 0)) q))
      obtain ⟨rfl, rfl⟩ := hG
      exact x_ret rfl (by decide +kernel)
theorem T95 {l : Launch} {X : aX} {d : Nat} {v0 : Nat} {v1 : Nat} {v2 : Nat} {q : aQ} (hd : 2 ≤ d) (fv0 : isRng v0) (fv1 : isRng v1) (fv2 : isRng v2) (hS : S95_0 v0 v1 v2 q) : Call l X d 95 [.ref v0, .ref v1, .ref v2] (hp q) none (hp (F95_0 v0 v1 v2 q)) := Call.of ok95 (by decide) (Nat.le_of_ble_eq_true rfl) ⟨Nat.le_refl _, Nat.le_refl _⟩ (A95_0 hd rfl fv0 fv1 fv2 ⟨rfl, rfl⟩ hS)
/-- TypeForecast$Range.includeCorners(IIII)V -/
def F98_0 (v0 : Nat) (v1 : Int32) (v2 : Int32) (v3 : Int32) (v4 : Int32) (q : aQ) : aQ := (F82_0 v0 (F191_0 (F191_0 v1 v2 q) (F191_0 v3 v4 q) q) (F190_0 (F190_0 v1 v2 q) (F190_0 v3 v4 q) q) q)
def S98_0 (v0 : Nat) (v1 : Int32) (v2 : Int32) (v3 : Int32) (v4 : Int32) (q : aQ) : Prop := S191_0 v1 v2 q ∧ (S191_0 v3 v4 q ∧ (S191_0 (F191_0 v1 v2 q) (F191_0 v3 v4 q) q ∧ (S190_0 v1 v2 q ∧ (S190_0 v3 v4 q ∧ (S190_0 (F190_0 v1 v2 q) (F190_0 v3 v4 q) q ∧ (S82_0 v0 (F191_0 (F191_0 v1 v2 q) (F191_0 v3 v4 q) q) (F190_0 (F190_0 v1 v2 q) (F190_0 v3 v4 q) q) q ∧ (True)))))))
set_option maxRecDepth 100000 in
set_option maxHeartbeats 4000000 in
theorem A98_0 {l : Launch} {X : aX} {d : Nat} {r : Option Value} {h' : aH} {v0 : Nat} {v1 : Int32} {v2 : Int32} {v3 : Int32} {v4 : Int32} {q : aQ} (hd : 2 ≤ d) (hN : h'.1 = nk0) (fv0 : isRng v0) (hG : gV r h' (F98_0 v0 v1 v2 v3 v4 q)) (hS : S98_0 v0 v1 v2 v3 v4 q) : AW l X 98 c98 d r h' 0 [some (.ref v0), some (.int v1), some (.int v2), some (.int v3), some (.int v4)] [] (hp q) := by
  unfold F98_0 at hG
  unfold S98_0 at hS
  refine x_run (pc' := 3) (lo' := [some (.ref v0), some (.int v1), some (.int v2), some (.int v3), some (.int v4)]) (st' := [.int v2, .int v1, .ref v0]) 3 rfl ?_
  obtain ⟨o1, hS⟩ := hS
  refine x_cs (j := 191) (ne := 0) (vs := [.int v1, .int v2]) (rest := [.ref v0]) rfl (by decide +kernel) (by decide +kernel) (by decide) (Eq.trans rfl (show 2 = _ from by decide +kernel)) rfl (Nat.le_of_ble_eq_true rfl) (by omega) (T191 (Nat.le_refl 1) o1) (hp_m hN) ?_
  show AW l X 98 c98 d r h' 6 [some (.ref v0), some (.int v1), some (.int v2), some (.int v3), some (.int v4)] [.int (F191_0 v1 v2 q), .ref v0] (hp q)
  refine x_run (pc' := 9) (lo' := [some (.ref v0), some (.int v1), some (.int v2), some (.int v3), some (.int v4)]) (st' := [.int v4, .int v3, .int (F191_0 v1 v2 q), .ref v0]) 2 rfl ?_
  obtain ⟨o2, hS⟩ := hS
  refine x_cs (j := 191) (ne := 0) (vs := [.int v3, .int v4]) (rest := [.int (F191_0 v1 v2 q), .ref v0]) rfl (by decide +kernel) (by decide +kernel) (by decide) (Eq.trans rfl (show 2 = _ from by decide +kernel)) rfl (Nat.le_of_ble_eq_true rfl) (by omega) (T191 (Nat.le_refl 1) o2) (hp_m hN) ?_
  show AW l X 98 c98 d r h' 12 [some (.ref v0), some (.int v1), some (.int v2), some (.int v3), some (.int v4)] [.int (F191_0 v3 v4 q), .int (F191_0 v1 v2 q), .ref v0] (hp q)
  obtain ⟨o3, hS⟩ := hS
  refine x_cs (j := 191) (ne := 0) (vs := [.int (F191_0 v1 v2 q), .int (F191_0 v3 v4 q)]) (rest := [.ref v0]) rfl (by decide +kernel) (by decide +kernel) (by decide) (Eq.trans rfl (show 2 = _ from by decide +kernel)) rfl (Nat.le_of_ble_eq_true rfl) (by omega) (T191 (Nat.le_refl 1) o3) (hp_m hN) ?_
  show AW l X 98 c98 d r h' 15 [some (.ref v0), some (.int v1), some (.int v2), some (.int v3), some (.int v4)] [.int (F191_0 (F191_0 v1 v2 q) (F191_0 v3 v4 q) q), .ref v0] (hp q)
  refine x_run (pc' := 17) (lo' := [some (.ref v0), some (.int v1), some (.int v2), some (.int v3), some (.int v4)]) (st' := [.int v2, .int v1, .int (F191_0 (F191_0 v1 v2 q) (F191_0 v3 v4 q) q), .ref v0]) 2 rfl ?_
  obtain ⟨o4, hS⟩ := hS
  refine x_cs (j := 190) (ne := 0) (vs := [.int v1, .int v2]) (rest := [.int (F191_0 (F191_0 v1 v2 q) (F191_0 v3 v4 q) q), .ref v0]) rfl (by decide +kernel) (by decide +kernel) (by decide) (Eq.trans rfl (show 2 = _ from by decide +kernel)) rfl (Nat.le_of_ble_eq_true rfl) (by omega) (T190 (Nat.le_refl 1) o4) (hp_m hN) ?_
  show AW l X 98 c98 d r h' 20 [some (.ref v0), some (.int v1), some (.int v2), some (.int v3), some (.int v4)] [.int (F190_0 v1 v2 q), .int (F191_0 (F191_0 v1 v2 q) (F191_0 v3 v4 q) q), .ref v0] (hp q)
  refine x_run (pc' := 23) (lo' := [some (.ref v0), some (.int v1), some (.int v2), some (.int v3), some (.int v4)]) (st' := [.int v4, .int v3, .int (F190_0 v1 v2 q), .int (F191_0 (F191_0 v1 v2 q) (F191_0 v3 v4 q) q), .ref v0]) 2 rfl ?_
  obtain ⟨o5, hS⟩ := hS
  refine x_cs (j := 190) (ne := 0) (vs := [.int v3, .int v4]) (rest := [.int (F190_0 v1 v2 q), .int (F191_0 (F191_0 v1 v2 q) (F191_0 v3 v4 q) q), .ref v0]) rfl (by decide +kernel) (by decide +kernel) (by decide) (Eq.trans rfl (show 2 = _ from by decide +kernel)) rfl (Nat.le_of_ble_eq_true rfl) (by omega) (T190 (Nat.le_refl 1) o5) (hp_m hN) ?_
  show AW l X 98 c98 d r h' 26 [some (.ref v0), some (.int v1), some (.int v2), some (.int v3), some (.int v4)] [.int (F190_0 v3 v4 q), .int (F190_0 v1 v2 q), .int (F191_0 (F191_0 v1 v2 q) (F191_0 v3 v4 q) q), .ref v0] (hp q)
  obtain ⟨o6, hS⟩ := hS
  refine x_cs (j := 190) (ne := 0) (vs := [.int (F190_0 v1 v2 q), .int (F190_0 v3 v4 q)]) (rest := [.int (F191_0 (F191_0 v1 v2 q) (F191_0 v3 v4 q) q), .ref v0]) rfl (by decide +kernel) (by decide +kernel) (by decide) (Eq.trans rfl (show 2 = _ from by decide +kernel)) rfl (Nat.le_of_ble_eq_true rfl) (by omega) (T190 (Nat.le_refl 1) o6) (hp_m hN) ?_
  show AW l X 98 c98 d r h' 29 [some (.ref v0), some (.int v1), some (.int v2), some (.int v3), some (.int v4)] [.int (F190_0 (F190_0 v1 v2 q) (F190_0 v3 v4 q) q), .int (F191_0 (F191_0 v1 v2 q) (F191_0 v3 v4 q) q), .ref v0] (hp q)
  obtain ⟨o7, hS⟩ := hS
  refine x_cv (j := 82) (ne := 0) (vs := [.int (F191_0 (F191_0 v1 v2 q) (F191_0 v3 v4 q) q), .int (F190_0 (F190_0 v1 v2 q) (F190_0 v3 v4 q) q)]) (rest := []) rfl (by decide +kernel) (by decide +kernel) (by decide) (Eq.trans rfl (show 2 = _ from by decide +kernel)) (rg_s fv0) (by decide +kernel) rfl (Nat.le_of_ble_eq_true rfl) (by omega) (T82 (Nat.le_refl 1) fv0 o7) (hp_m hN) ?_
  show AW l X 98 c98 d r h' 32 [some (.ref v0), some (.int v1), some (.int v2), some (.int v3), some (.int v4)] [] (hp (F82_0 v0 (F191_0 (F191_0 v1 v2 q) (F191_0 v3 v4 q) q) (F190_0 (F190_0 v1 v2 q) (F190_0 v3 v4 q) q) q))
  obtain ⟨rfl, rfl⟩ := hG
  exact x_ret rfl (by decide +kernel)
theorem T98 {l : Launch} {X : aX} {d : Nat} {v0 : Nat} {v1 : Int32} {v2 : Int32} {v3 : Int32} {v4 : Int32} {q : aQ} (hd : 2 ≤ d) (fv0 : isRng v0) (hS : S98_0 v0 v1 v2 v3 v4 q) : Call l X d 98 [.ref v0, .int v1, .int v2, .int v3, .int v4] (hp q) none (hp (F98_0 v0 v1 v2 v3 v4 q)) := Call.of ok98 (by decide) (Nat.le_of_ble_eq_true rfl) ⟨Nat.le_refl _, Nat.le_refl _⟩ (A98_0 hd rfl fv0 ⟨rfl, rfl⟩ hS)
/-- TypeForecast$Range.includeProducts(LTypeForecast$Range;LTypeForecast$Range;)V -/
def F96_0 (v0 : Nat) (v1 : Nat) (v2 : Nat) (q : aQ) : aQ := (if (F85_0 v1 q) = 0 then (if (F85_0 v2 q) = 0 then (F98_0 v0 ((q.1 v1 0) * (q.1 v2 0)) ((q.1 v1 0) * (q.1 v2 1)) ((q.1 v1 1) * (q.1 v2 0)) ((q.1 v1 1) * (q.1 v2 1)) q) else q) else q)
def S96_0 (v0 : Nat) (v1 : Nat) (v2 : Nat) (q : aQ) : Prop := S85_0 v1 q ∧ ((((F85_0 v1 q) = 0) → S85_0 v2 q ∧ ((((F85_0 v2 q) = 0) → S98_0 v0 ((q.1 v1 0) * (q.1 v2 0)) ((q.1 v1 0) * (q.1 v2 1)) ((q.1 v1 1) * (q.1 v2 0)) ((q.1 v1 1) * (q.1 v2 1)) q ∧ (True)) ∧ (¬ ((F85_0 v2 q) = 0) → True))) ∧ (¬ ((F85_0 v1 q) = 0) → True))
set_option maxRecDepth 100000 in
set_option maxHeartbeats 4000000 in
theorem A96_0 {l : Launch} {X : aX} {d : Nat} {r : Option Value} {h' : aH} {v0 : Nat} {v1 : Nat} {v2 : Nat} {q : aQ} (hd : 3 ≤ d) (hN : h'.1 = nk0) (fv0 : isRng v0) (fv1 : isRng v1) (fv2 : isRng v2) (hG : gV r h' (F96_0 v0 v1 v2 q)) (hS : S96_0 v0 v1 v2 q) : AW l X 96 c96 d r h' 0 [some (.ref v0), some (.ref v1), some (.ref v2)] [] (hp q) := by
  unfold F96_0 at hG
  unfold S96_0 at hS
  refine x_run (pc' := 1) (lo' := [some (.ref v0), some (.ref v1), some (.ref v2)]) (st' := [.ref v1]) 1 rfl ?_
  obtain ⟨o1, hS⟩ := hS
  refine x_cv (j := 85) (ne := 0) (vs := []) (rest := []) rfl (by decide +kernel) (by decide +kernel) (by decide) (Eq.trans rfl (show 0 = _ from by decide +kernel)) (rg_s fv1) (by decide +kernel) rfl (Nat.le_of_ble_eq_true rfl) (by omega) (T85 (Nat.le_refl 1) fv1 o1) (hp_m hN) ?_
  show AW l X 96 c96 d r h' 4 [some (.ref v0), some (.ref v1), some (.ref v2)] [.int (F85_0 v1 q)] (hp q)
  refine x_if 54 rfl rfl (fun (hc2 : ¬ (F85_0 v1 q) = 0) => ?_) (fun (hc2 : (F85_0 v1 q) = 0) => ?_)
  · rw [if_neg hc2] at hG
    replace hS := hS.2 hc2
    obtain ⟨rfl, rfl⟩ := hG
    exact x_ret rfl (by decide +kernel)
  · rw [if_pos hc2] at hG
    replace hS := hS.1 hc2
    refine x_run (pc' := 8) (lo' := [some (.ref v0), some (.ref v1), some (.ref v2)]) (st' := [.ref v2]) 1 rfl ?_
    obtain ⟨o3, hS⟩ := hS
    refine x_cv (j := 85) (ne := 0) (vs := []) (rest := []) rfl (by decide +kernel) (by decide +kernel) (by decide) (Eq.trans rfl (show 0 = _ from by decide +kernel)) (rg_s fv2) (by decide +kernel) rfl (Nat.le_of_ble_eq_true rfl) (by omega) (T85 (Nat.le_refl 1) fv2 o3) (hp_m hN) ?_
    show AW l X 96 c96 d r h' 11 [some (.ref v0), some (.ref v1), some (.ref v2)] [.int (F85_0 v2 q)] (hp q)
    refine x_if 54 rfl rfl (fun (hc4 : ¬ (F85_0 v2 q) = 0) => ?_) (fun (hc4 : (F85_0 v2 q) = 0) => ?_)
    · rw [if_neg hc4] at hG
      replace hS := hS.2 hc4
      obtain ⟨rfl, rfl⟩ := hG
      exact x_ret rfl (by decide +kernel)
    · rw [if_pos hc4] at hG
      replace hS := hS.1 hc4
      refine x_run (pc' := 16) (lo' := [some (.ref v0), some (.ref v1), some (.ref v2)]) (st' := [.ref v1, .ref v0]) 2 rfl ?_
      refine x_gf (c := 384) (ne := 0) (v := .int (q.1 v1 0)) rfl (by decide +kernel) (rg_s fv1) rfl ?_
      refine x_run (pc' := 20) (lo' := [some (.ref v0), some (.ref v1), some (.ref v2)]) (st' := [.ref v2, .int (q.1 v1 0), .ref v0]) 1 rfl ?_
      refine x_gf (c := 384) (ne := 0) (v := .int (q.1 v2 0)) rfl (by decide +kernel) (rg_s fv2) rfl ?_
      refine x_run (pc' := 25) (lo' := [some (.ref v0), some (.ref v1), some (.ref v2)]) (st' := [.ref v1, .int ((q.1 v1 0) * (q.1 v2 0)), .ref v0]) 2 rfl ?_
      refine x_gf (c := 384) (ne := 0) (v := .int (q.1 v1 0)) rfl (by decide +kernel) (rg_s fv1) rfl ?_
      refine x_run (pc' := 29) (lo' := [some (.ref v0), some (.ref v1), some (.ref v2)]) (st' := [.ref v2, .int (q.1 v1 0), .int ((q.1 v1 0) * (q.1 v2 0)), .ref v0]) 1 rfl ?_
      refine x_gf (c := 385) (ne := 0) (v := .int (q.1 v2 1)) rfl (by decide +kernel) (rg_s fv2) rfl ?_
      refine x_run (pc' := 34) (lo' := [some (.ref v0), some (.ref v1), some (.ref v2)]) (st' := [.ref v1, .int ((q.1 v1 0) * (q.1 v2 1)), .int ((q.1 v1 0) * (q.1 v2 0)), .ref v0]) 2 rfl ?_
      refine x_gf (c := 385) (ne := 0) (v := .int (q.1 v1 1)) rfl (by decide +kernel) (rg_s fv1) rfl ?_
      refine x_run (pc' := 38) (lo' := [some (.ref v0), some (.ref v1), some (.ref v2)]) (st' := [.ref v2, .int (q.1 v1 1), .int ((q.1 v1 0) * (q.1 v2 1)), .int ((q.1 v1 0) * (q.1 v2 0)), .ref v0]) 1 rfl ?_
      refine x_gf (c := 384) (ne := 0) (v := .int (q.1 v2 0)) rfl (by decide +kernel) (rg_s fv2) rfl ?_
      refine x_run (pc' := 43) (lo' := [some (.ref v0), some (.ref v1), some (.ref v2)]) (st' := [.ref v1, .int ((q.1 v1 1) * (q.1 v2 0)), .int ((q.1 v1 0) * (q.1 v2 1)), .int ((q.1 v1 0) * (q.1 v2 0)), .ref v0]) 2 rfl ?_
      refine x_gf (c := 385) (ne := 0) (v := .int (q.1 v1 1)) rfl (by decide +kernel) (rg_s fv1) rfl ?_
      refine x_run (pc' := 47) (lo' := [some (.ref v0), some (.ref v1), some (.ref v2)]) (st' := [.ref v2, .int (q.1 v1 1), .int ((q.1 v1 1) * (q.1 v2 0)), .int ((q.1 v1 0) * (q.1 v2 1)), .int ((q.1 v1 0) * (q.1 v2 0)), .ref v0]) 1 rfl ?_
      refine x_gf (c := 385) (ne := 0) (v := .int (q.1 v2 1)) rfl (by decide +kernel) (rg_s fv2) rfl ?_
      refine x_run (pc' := 51) (lo' := [some (.ref v0), some (.ref v1), some (.ref v2)]) (st' := [.int ((q.1 v1 1) * (q.1 v2 1)), .int ((q.1 v1 1) * (q.1 v2 0)), .int ((q.1 v1 0) * (q.1 v2 1)), .int ((q.1 v1 0) * (q.1 v2 0)), .ref v0]) 1 rfl ?_
      obtain ⟨o5, hS⟩ := hS
      refine x_cv (j := 98) (ne := 0) (vs := [.int ((q.1 v1 0) * (q.1 v2 0)), .int ((q.1 v1 0) * (q.1 v2 1)), .int ((q.1 v1 1) * (q.1 v2 0)), .int ((q.1 v1 1) * (q.1 v2 1))]) (rest := []) rfl (by decide +kernel) (by decide +kernel) (by decide) (Eq.trans rfl (show 4 = _ from by decide +kernel)) (rg_s fv0) (by decide +kernel) rfl (Nat.le_of_ble_eq_true rfl) (by omega) (T98 (Nat.le_refl 2) fv0 o5) (hp_m hN) ?_
      show AW l X 96 c96 d r h' 54 [some (.ref v0), some (.ref v1), some (.ref v2)] [] (hp (F98_0 v0 ((q.1 v1 0) * (q.1 v2 0)) ((q.1 v1 0) * (q.1 v2 1)) ((q.1 v1 1) * (q.1 v2 0)) ((q.1 v1 1) * (q.1 v2 1)) q))
      obtain ⟨rfl, rfl⟩ := hG
      exact x_ret rfl (by decide +kernel)
theorem T96 {l : Launch} {X : aX} {d : Nat} {v0 : Nat} {v1 : Nat} {v2 : Nat} {q : aQ} (hd : 3 ≤ d) (fv0 : isRng v0) (fv1 : isRng v1) (fv2 : isRng v2) (hS : S96_0 v0 v1 v2 q) : Call l X d 96 [.ref v0, .ref v1, .ref v2] (hp q) none (hp (F96_0 v0 v1 v2 q)) := Call.of ok96 (by decide) (Nat.le_of_ble_eq_true rfl) ⟨Nat.le_refl _, Nat.le_refl _⟩ (A96_0 hd rfl fv0 fv1 fv2 ⟨rfl, rfl⟩ hS)
/-- TypeForecast$Range.includeQuotients(LTypeForecast$Range;II)V -/
def F97_0 (v0 : Nat) (v1 : Nat) (v2 : Int32) (v3 : Int32) (q : aQ) : aQ := (if (F85_0 v1 q) = 0 then (if v3 < v2 then q else (if v2 = 0 then q else (if v3 = 0 then q else (F98_0 v0 (F188_0 (q.1 v1 0) v2 q) (F188_0 (q.1 v1 0) v3 q) (F188_0 (q.1 v1 1) v2 q) (F188_0 (q.1 v1 1) v3 q) q)))) else q)
def S97_0 (v0 : Nat) (v1 : Nat) (v2 : Int32) (v3 : Int32) (q : aQ) : Prop := S85_0 v1 q ∧ ((((F85_0 v1 q) = 0) → ((v3 < v2) → True) ∧ (¬ (v3 < v2) → ((v2 = 0) → True) ∧ (¬ (v2 = 0) → ((v3 = 0) → True) ∧ (¬ (v3 = 0) → S188_0 (q.1 v1 0) v2 q ∧ (S188_0 (q.1 v1 0) v3 q ∧ (S188_0 (q.1 v1 1) v2 q ∧ (S188_0 (q.1 v1 1) v3 q ∧ (S98_0 v0 (F188_0 (q.1 v1 0) v2 q) (F188_0 (q.1 v1 0) v3 q) (F188_0 (q.1 v1 1) v2 q) (F188_0 (q.1 v1 1) v3 q) q ∧ (True))))))))) ∧ (¬ ((F85_0 v1 q) = 0) → True))
set_option maxRecDepth 100000 in
set_option maxHeartbeats 4000000 in
theorem A97_0 {l : Launch} {X : aX} {d : Nat} {r : Option Value} {h' : aH} {v0 : Nat} {v1 : Nat} {v2 : Int32} {v3 : Int32} {q : aQ} (hd : 3 ≤ d) (hN : h'.1 = nk0) (fv0 : isRng v0) (fv1 : isRng v1) (hG : gV r h' (F97_0 v0 v1 v2 v3 q)) (hS : S97_0 v0 v1 v2 v3 q) : AW l X 97 c97 d r h' 0 [some (.ref v0), some (.ref v1), some (.int v2), some (.int v3)] [] (hp q) := by
  unfold F97_0 at hG
  unfold S97_0 at hS
  refine x_run (pc' := 1) (lo' := [some (.ref v0), some (.ref v1), some (.int v2), some (.int v3)]) (st' := [.ref v1]) 1 rfl ?_
  obtain ⟨o1, hS⟩ := hS
  refine x_cv (j := 85) (ne := 0) (vs := []) (rest := []) rfl (by decide +kernel) (by decide +kernel) (by decide) (Eq.trans rfl (show 0 = _ from by decide +kernel)) (rg_s fv1) (by decide +kernel) rfl (Nat.le_of_ble_eq_true rfl) (by omega) (T85 (Nat.le_refl 1) fv1 o1) (hp_m hN) ?_
  show AW l X 97 c97 d r h' 4 [some (.ref v0), some (.ref v1), some (.int v2), some (.int v3)] [.int (F85_0 v1 q)] (hp q)
  refine x_if 20 rfl rfl (fun (hc2 : ¬ (F85_0 v1 q) = 0) => ?_) (fun (hc2 : (F85_0 v1 q) = 0) => ?_)
  · rw [if_neg hc2] at hG
    replace hS := hS.2 hc2
    obtain ⟨rfl, rfl⟩ := hG
    exact x_ret rfl (by decide +kernel)
  · rw [if_pos hc2] at hG
    replace hS := hS.1 hc2
    refine x_run (pc' := 9) (lo' := [some (.ref v0), some (.ref v1), some (.int v2), some (.int v3)]) (st' := [.int v3, .int v2]) 2 rfl ?_
    refine x_ic 20 rfl rfl (fun (hc3 : v3 < v2) => ?_) (fun (hc3 : ¬ v3 < v2) => ?_)
    · rw [if_pos hc3] at hG
      replace hS := hS.1 hc3
      obtain ⟨rfl, rfl⟩ := hG
      exact x_ret rfl (by decide +kernel)
    · rw [if_neg hc3] at hG
      replace hS := hS.2 hc3
      refine x_run (pc' := 13) (lo' := [some (.ref v0), some (.ref v1), some (.int v2), some (.int v3)]) (st' := [.int v2]) 1 rfl ?_
      refine x_if 20 rfl rfl (fun (hc4 : v2 = 0) => ?_) (fun (hc4 : ¬ v2 = 0) => ?_)
      · rw [if_pos hc4] at hG
        replace hS := hS.1 hc4
        obtain ⟨rfl, rfl⟩ := hG
        exact x_ret rfl (by decide +kernel)
      · rw [if_neg hc4] at hG
        replace hS := hS.2 hc4
        refine x_run (pc' := 17) (lo' := [some (.ref v0), some (.ref v1), some (.int v2), some (.int v3)]) (st' := [.int v3]) 1 rfl ?_
        refine x_if 21 rfl rfl (fun (hc5 : ¬ v3 = 0) => ?_) (fun (hc5 : v3 = 0) => ?_)
        · rw [if_neg hc5] at hG
          replace hS := hS.2 hc5
          refine x_run (pc' := 23) (lo' := [some (.ref v0), some (.ref v1), some (.int v2), some (.int v3)]) (st' := [.ref v1, .ref v0]) 2 rfl ?_
          refine x_gf (c := 384) (ne := 0) (v := .int (q.1 v1 0)) rfl (by decide +kernel) (rg_s fv1) rfl ?_
          refine x_run (pc' := 27) (lo' := [some (.ref v0), some (.ref v1), some (.int v2), some (.int v3)]) (st' := [.int v2, .int (q.1 v1 0), .ref v0]) 1 rfl ?_
          obtain ⟨o6, hS⟩ := hS
          refine x_cs (j := 188) (ne := 0) (vs := [.int (q.1 v1 0), .int v2]) (rest := [.ref v0]) rfl (by decide +kernel) (by decide +kernel) (by decide) (Eq.trans rfl (show 2 = _ from by decide +kernel)) rfl (Nat.le_of_ble_eq_true rfl) (by omega) (T188 (Nat.le_refl 1) o6) (hp_m hN) ?_
          show AW l X 97 c97 d r h' 30 [some (.ref v0), some (.ref v1), some (.int v2), some (.int v3)] [.int (F188_0 (q.1 v1 0) v2 q), .ref v0] (hp q)
          refine x_run (pc' := 31) (lo' := [some (.ref v0), some (.ref v1), some (.int v2), some (.int v3)]) (st' := [.ref v1, .int (F188_0 (q.1 v1 0) v2 q), .ref v0]) 1 rfl ?_
          refine x_gf (c := 384) (ne := 0) (v := .int (q.1 v1 0)) rfl (by decide +kernel) (rg_s fv1) rfl ?_
          refine x_run (pc' := 35) (lo' := [some (.ref v0), some (.ref v1), some (.int v2), some (.int v3)]) (st' := [.int v3, .int (q.1 v1 0), .int (F188_0 (q.1 v1 0) v2 q), .ref v0]) 1 rfl ?_
          obtain ⟨o7, hS⟩ := hS
          refine x_cs (j := 188) (ne := 0) (vs := [.int (q.1 v1 0), .int v3]) (rest := [.int (F188_0 (q.1 v1 0) v2 q), .ref v0]) rfl (by decide +kernel) (by decide +kernel) (by decide) (Eq.trans rfl (show 2 = _ from by decide +kernel)) rfl (Nat.le_of_ble_eq_true rfl) (by omega) (T188 (Nat.le_refl 1) o7) (hp_m hN) ?_
          show AW l X 97 c97 d r h' 38 [some (.ref v0), some (.ref v1), some (.int v2), some (.int v3)] [.int (F188_0 (q.1 v1 0) v3 q), .int (F188_0 (q.1 v1 0) v2 q), .ref v0] (hp q)
          refine x_run (pc' := 39) (lo' := [some (.ref v0), some (.ref v1), some (.int v2), some (.int v3)]) (st' := [.ref v1, .int (F188_0 (q.1 v1 0) v3 q), .int (F188_0 (q.1 v1 0) v2 q), .ref v0]) 1 rfl ?_
          refine x_gf (c := 385) (ne := 0) (v := .int (q.1 v1 1)) rfl (by decide +kernel) (rg_s fv1) rfl ?_
          refine x_run (pc' := 43) (lo' := [some (.ref v0), some (.ref v1), some (.int v2), some (.int v3)]) (st' := [.int v2, .int (q.1 v1 1), .int (F188_0 (q.1 v1 0) v3 q), .int (F188_0 (q.1 v1 0) v2 q), .ref v0]) 1 rfl ?_
          obtain ⟨o8, hS⟩ := hS
          refine x_cs (j := 188) (ne := 0) (vs := [.int (q.1 v1 1), .int v2]) (rest := [.int (F188_0 (q.1 v1 0) v3 q), .int (F188_0 (q.1 v1 0) v2 q), .ref v0]) rfl (by decide +kernel) (by decide +kernel) (by decide) (Eq.trans rfl (show 2 = _ from by decide +kernel)) rfl (Nat.le_of_ble_eq_true rfl) (by omega) (T188 (Nat.le_refl 1) o8) (hp_m hN) ?_
          show AW l X 97 c97 d r h' 46 [some (.ref v0), some (.ref v1), some (.int v2), some (.int v3)] [.int (F188_0 (q.1 v1 1) v2 q), .int (F188_0 (q.1 v1 0) v3 q), .int (F188_0 (q.1 v1 0) v2 q), .ref v0] (hp q)
          refine x_run (pc' := 47) (lo' := [some (.ref v0), some (.ref v1), some (.int v2), some (.int v3)]) (st' := [.ref v1, .int (F188_0 (q.1 v1 1) v2 q), .int (F188_0 (q.1 v1 0) v3 q), .int (F188_0 (q.1 v1 0) v2 q), .ref v0]) 1 rfl ?_
          refine x_gf (c := 385) (ne := 0) (v := .int (q.1 v1 1)) rfl (by decide +kernel) (rg_s fv1) rfl ?_
          refine x_run (pc' := 51) (lo' := [some (.ref v0), some (.ref v1), some (.int v2), some (.int v3)]) (st' := [.int v3, .int (q.1 v1 1), .int (F188_0 (q.1 v1 1) v2 q), .int (F188_0 (q.1 v1 0) v3 q), .int (F188_0 (q.1 v1 0) v2 q), .ref v0]) 1 rfl ?_
          obtain ⟨o9, hS⟩ := hS
          refine x_cs (j := 188) (ne := 0) (vs := [.int (q.1 v1 1), .int v3]) (rest := [.int (F188_0 (q.1 v1 1) v2 q), .int (F188_0 (q.1 v1 0) v3 q), .int (F188_0 (q.1 v1 0) v2 q), .ref v0]) rfl (by decide +kernel) (by decide +kernel) (by decide) (Eq.trans rfl (show 2 = _ from by decide +kernel)) rfl (Nat.le_of_ble_eq_true rfl) (by omega) (T188 (Nat.le_refl 1) o9) (hp_m hN) ?_
          show AW l X 97 c97 d r h' 54 [some (.ref v0), some (.ref v1), some (.int v2), some (.int v3)] [.int (F188_0 (q.1 v1 1) v3 q), .int (F188_0 (q.1 v1 1) v2 q), .int (F188_0 (q.1 v1 0) v3 q), .int (F188_0 (q.1 v1 0) v2 q), .ref v0] (hp q)
          obtain ⟨o10, hS⟩ := hS
          refine x_cv (j := 98) (ne := 0) (vs := [.int (F188_0 (q.1 v1 0) v2 q), .int (F188_0 (q.1 v1 0) v3 q), .int (F188_0 (q.1 v1 1) v2 q), .int (F188_0 (q.1 v1 1) v3 q)]) (rest := []) rfl (by decide +kernel) (by decide +kernel) (by decide) (Eq.trans rfl (show 4 = _ from by decide +kernel)) (rg_s fv0) (by decide +kernel) rfl (Nat.le_of_ble_eq_true rfl) (by omega) (T98 (Nat.le_refl 2) fv0 o10) (hp_m hN) ?_
          show AW l X 97 c97 d r h' 57 [some (.ref v0), some (.ref v1), some (.int v2), some (.int v3)] [] (hp (F98_0 v0 (F188_0 (q.1 v1 0) v2 q) (F188_0 (q.1 v1 0) v3 q) (F188_0 (q.1 v1 1) v2 q) (F188_0 (q.1 v1 1) v3 q) q))
          obtain ⟨rfl, rfl⟩ := hG
          exact x_ret rfl (by decide +kernel)
        · rw [if_pos hc5] at hG
          replace hS := hS.1 hc5
          obtain ⟨rfl, rfl⟩ := hG
          exact x_ret rfl (by decide +kernel)
theorem T97 {l : Launch} {X : aX} {d : Nat} {v0 : Nat} {v1 : Nat} {v2 : Int32} {v3 : Int32} {q : aQ} (hd : 3 ≤ d) (fv0 : isRng v0) (fv1 : isRng v1) (hS : S97_0 v0 v1 v2 v3 q) : Call l X d 97 [.ref v0, .ref v1, .int v2, .int v3] (hp q) none (hp (F97_0 v0 v1 v2 v3 q)) := Call.of ok97 (by decide) (Nat.le_of_ble_eq_true rfl) ⟨Nat.le_refl _, Nat.le_refl _⟩ (A97_0 hd rfl fv0 fv1 ⟨rfl, rfl⟩ hS)
/-- TypeForecast$Range.shownLow()I -/
def F99_0 (v0 : Nat) (q : aQ) : Int32 := (if (-16) ≤ (q.1 v0 0) then (q.1 v0 0) else (-17))
def S99_0 (v0 : Nat) (q : aQ) : Prop := (((-16) ≤ (q.1 v0 0)) → True) ∧ (¬ ((-16) ≤ (q.1 v0 0)) → True)
set_option maxRecDepth 100000 in
set_option maxHeartbeats 4000000 in
theorem A99_0 {l : Launch} {X : aX} {d : Nat} {r : Option Value} {h' : aH} {v0 : Nat} {q : aQ} (hd : 1 ≤ d) (hN : h'.1 = nk0) (fv0 : isRng v0) (hG : gI r h' (F99_0 v0 q, q)) (hS : S99_0 v0 q) : AW l X 99 c99 d r h' 0 [some (.ref v0)] [] (hp q) := by
  unfold F99_0 at hG
  unfold S99_0 at hS
  refine x_run (pc' := 1) (lo' := [some (.ref v0)]) (st' := [.ref v0]) 1 rfl ?_
  refine x_gf (c := 384) (ne := 0) (v := .int (q.1 v0 0)) rfl (by decide +kernel) (rg_s fv0) rfl ?_
  refine x_run (pc' := 6) (lo' := [some (.ref v0)]) (st' := [.int (-16), .int (q.1 v0 0)]) 1 rfl ?_
  refine x_ic 14 rfl rfl (fun (hc1 : (-16) ≤ (q.1 v0 0)) => ?_) (fun (hc1 : ¬ (-16) ≤ (q.1 v0 0)) => ?_)
  · rw [if_pos hc1] at hG
    replace hS := hS.1 hc1
    refine x_run (pc' := 15) (lo' := [some (.ref v0)]) (st' := [.ref v0]) 1 rfl ?_
    refine x_gf (c := 384) (ne := 0) (v := .int (q.1 v0 0)) rfl (by decide +kernel) (rg_s fv0) rfl ?_
    obtain ⟨rfl, rfl⟩ := hG
    exact x_iret rfl (by decide +kernel)
  · rw [if_neg hc1] at hG
    replace hS := hS.2 hc1
    refine x_run (pc' := 18) (lo' := [some (.ref v0)]) (st' := [.int (-17)]) 2 rfl ?_
    obtain ⟨rfl, rfl⟩ := hG
    exact x_iret rfl (by decide +kernel)
theorem T99 {l : Launch} {X : aX} {d : Nat} {v0 : Nat} {q : aQ} (hd : 1 ≤ d) (fv0 : isRng v0) (hS : S99_0 v0 q) : Call l X d 99 [.ref v0] (hp q) (some (.int (F99_0 v0 q))) (hp q) := Call.of ok99 (by decide) (Nat.le_of_ble_eq_true rfl) ⟨Nat.le_refl _, Nat.le_refl _⟩ (A99_0 hd rfl fv0 ⟨rfl, rfl⟩ hS)
/-- TypeForecast$Range.shownHigh()I -/
def F100_0 (v0 : Nat) (q : aQ) : Int32 := (if (q.1 v0 1) ≤ 16 then (q.1 v0 1) else 17)
def S100_0 (v0 : Nat) (q : aQ) : Prop := (((q.1 v0 1) ≤ 16) → True) ∧ (¬ ((q.1 v0 1) ≤ 16) → True)
set_option maxRecDepth 100000 in
set_option maxHeartbeats 4000000 in
theorem A100_0 {l : Launch} {X : aX} {d : Nat} {r : Option Value} {h' : aH} {v0 : Nat} {q : aQ} (hd : 1 ≤ d) (hN : h'.1 = nk0) (fv0 : isRng v0) (hG : gI r h' (F100_0 v0 q, q)) (hS : S100_0 v0 q) : AW l X 100 c100 d r h' 0 [some (.ref v0)] [] (hp q) := by
  unfold F100_0 at hG
  unfold S100_0 at hS
  refine x_run (pc' := 1) (lo' := [some (.ref v0)]) (st' := [.ref v0]) 1 rfl ?_
  refine x_gf (c := 385) (ne := 0) (v := .int (q.1 v0 1)) rfl (by decide +kernel) (rg_s fv0) rfl ?_
  refine x_run (pc' := 6) (lo' := [some (.ref v0)]) (st' := [.int 16, .int (q.1 v0 1)]) 1 rfl ?_
  refine x_ic 14 rfl rfl (fun (hc1 : (q.1 v0 1) ≤ 16) => ?_) (fun (hc1 : ¬ (q.1 v0 1) ≤ 16) => ?_)
  · rw [if_pos hc1] at hG
    replace hS := hS.1 hc1
    refine x_run (pc' := 15) (lo' := [some (.ref v0)]) (st' := [.ref v0]) 1 rfl ?_
    refine x_gf (c := 385) (ne := 0) (v := .int (q.1 v0 1)) rfl (by decide +kernel) (rg_s fv0) rfl ?_
    obtain ⟨rfl, rfl⟩ := hG
    exact x_iret rfl (by decide +kernel)
  · rw [if_neg hc1] at hG
    replace hS := hS.2 hc1
    refine x_run (pc' := 18) (lo' := [some (.ref v0)]) (st' := [.int 17]) 2 rfl ?_
    obtain ⟨rfl, rfl⟩ := hG
    exact x_iret rfl (by decide +kernel)
theorem T100 {l : Launch} {X : aX} {d : Nat} {v0 : Nat} {q : aQ} (hd : 1 ≤ d) (fv0 : isRng v0) (hS : S100_0 v0 q) : Call l X d 100 [.ref v0] (hp q) (some (.int (F100_0 v0 q))) (hp q) := Call.of ok100 (by decide) (Nat.le_of_ble_eq_true rfl) ⟨Nat.le_refl _, Nat.le_refl _⟩ (A100_0 hd rfl fv0 ⟨rfl, rfl⟩ hS)
