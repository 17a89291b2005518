/-! written by wip/whole/gen3.py: what methods do (F), what they need (S), the walk (A), the contract (T) -/
/-- TypeForecast$Picture.clear()V -/
def F63_14 (v0 : Nat) (q : aQ) : aQ := (a_w (a_w q v0 2 0) v0 3 0)
def S63_14 (v0 : Nat) (q : aQ) : Prop := True
set_option maxRecDepth 100000 in
set_option maxHeartbeats 4000000 in
theorem A63_14 {l : Launch} {X : aX} {d : Nat} {r : Option Value} {h' : aH} {v0 : Nat} {q : aQ} (hd : 2 ≤ d) (hN : h'.1 = nk0) (fv0 : isPic v0) (hG : gV r h' (F63_14 v0 q)) (hS : S63_14 v0 q) : AW l X 63 c63 d r h' 14 [some (.ref v0)] [] (hp q) := by
  unfold F63_14 at hG
  unfold S63_14 at hS
  refine x_run (pc' := 16) (lo' := [some (.ref v0)]) (st' := [.int 0, .ref v0]) 2 rfl ?_
  refine x_pf (c := 322) (ne := 0) (h2 := hp (a_w q v0 2 0)) rfl (by decide +kernel) (by decide +kernel) (pc_s fv0) (pv_z rfl (Or.inl rfl)) ?_
  refine x_run (pc' := 21) (lo' := [some (.ref v0)]) (st' := [.int 0, .ref v0]) 2 rfl ?_
  refine x_pf (c := 323) (ne := 0) (h2 := hp (a_w (a_w q v0 2 0) v0 3 0)) rfl (by decide +kernel) (by decide +kernel) (pc_s fv0) (pv_z rfl (Or.inl rfl)) ?_
  obtain ⟨rfl, rfl⟩ := hG
  exact x_ret rfl (by decide +kernel)
def F63_7 (v0 : Nat) (q : aQ) : aQ := F63_14 v0 (F80_0 (v0 + 2) q)
def S63_7 (v0 : Nat) (q : aQ) : Prop := S80_0 (v0 + 2) q ∧ (S63_14 v0 (F80_0 (v0 + 2) q))
set_option maxRecDepth 100000 in
set_option maxHeartbeats 4000000 in
theorem A63_7 {l : Launch} {X : aX} {d : Nat} {r : Option Value} {h' : aH} {v0 : Nat} {q : aQ} (hd : 2 ≤ d) (hN : h'.1 = nk0) (fv0 : isPic v0) (hG : gV r h' (F63_7 v0 q)) (hS : S63_7 v0 q) : AW l X 63 c63 d r h' 7 [some (.ref v0)] [] (hp q) := by
  unfold F63_7 at hG
  unfold S63_7 at hS
  refine x_run (pc' := 8) (lo' := [some (.ref v0)]) (st' := [.ref v0]) 1 rfl ?_
  refine x_gf (c := 321) (ne := 0) (v := .ref (v0 + 2)) rfl (by decide +kernel) (pc_s fv0) (pc_v1 fv0) ?_
  obtain ⟨o2, hS⟩ := hS
  refine x_cv (j := 80) (ne := 0) (vs := []) (rest := []) rfl (by decide +kernel) (by decide +kernel) (by decide) (Eq.trans rfl (show 0 = _ from by decide +kernel)) (rg_s (pc_r1 fv0)) (by decide +kernel) rfl (Nat.le_of_ble_eq_true rfl) (by omega) (T80 (Nat.le_refl 1) (pc_r1 fv0) o2) (hp_m hN) ?_
  show AW l X 63 c63 d r h' 14 [some (.ref v0)] [] (hp (F80_0 (v0 + 2) q))
  exact A63_14 hd hN fv0 hG hS
def F63_0 (v0 : Nat) (q : aQ) : aQ := F63_7 v0 (F80_0 (v0 + 1) q)
def S63_0 (v0 : Nat) (q : aQ) : Prop := S80_0 (v0 + 1) q ∧ (S63_7 v0 (F80_0 (v0 + 1) q))
set_option maxRecDepth 100000 in
set_option maxHeartbeats 4000000 in
theorem A63_0 {l : Launch} {X : aX} {d : Nat} {r : Option Value} {h' : aH} {v0 : Nat} {q : aQ} (hd : 2 ≤ d) (hN : h'.1 = nk0) (fv0 : isPic v0) (hG : gV r h' (F63_0 v0 q)) (hS : S63_0 v0 q) : AW l X 63 c63 d r h' 0 [some (.ref v0)] [] (hp q) := by
  unfold F63_0 at hG
  unfold S63_0 at hS
  refine x_run (pc' := 1) (lo' := [some (.ref v0)]) (st' := [.ref v0]) 1 rfl ?_
  refine x_gf (c := 320) (ne := 0) (v := .ref (v0 + 1)) rfl (by decide +kernel) (pc_s fv0) (pc_v0 fv0) ?_
  obtain ⟨o1, hS⟩ := hS
  refine x_cv (j := 80) (ne := 0) (vs := []) (rest := []) rfl (by decide +kernel) (by decide +kernel) (by decide) (Eq.trans rfl (show 0 = _ from by decide +kernel)) (rg_s (pc_r0 fv0)) (by decide +kernel) rfl (Nat.le_of_ble_eq_true rfl) (by omega) (T80 (Nat.le_refl 1) (pc_r0 fv0) o1) (hp_m hN) ?_
  show AW l X 63 c63 d r h' 7 [some (.ref v0)] [] (hp (F80_0 (v0 + 1) q))
  exact A63_7 hd hN fv0 hG hS
theorem T63 {l : Launch} {X : aX} {d : Nat} {v0 : Nat} {q : aQ} (hd : 2 ≤ d) (fv0 : isPic v0) (hS : S63_0 v0 q) : Call l X d 63 [.ref v0] (hp q) none (hp (F63_0 v0 q)) := Call.of ok63 (by decide) (Nat.le_of_ble_eq_true rfl) ⟨Nat.le_refl _, Nat.le_refl _⟩ (A63_0 hd rfl fv0 ⟨rfl, rfl⟩ hS)
/-- TypeForecast$Picture.copyFrom(LTypeForecast$Picture;)V -/
def F64_22 (v0 : Nat) (v1 : Nat) (q : aQ) : aQ := (a_w (a_w q v0 2 (q.1 v1 2)) v0 3 ((a_w q v0 2 (q.1 v1 2)).1 v1 3))
def S64_22 (v0 : Nat) (v1 : Nat) (q : aQ) : Prop := ((q.1 v1 2) = 0 ∨ (q.1 v1 2) = 1) ∧ ((((a_w q v0 2 (q.1 v1 2)).1 v1 3) = 0 ∨ ((a_w q v0 2 (q.1 v1 2)).1 v1 3) = 1) ∧ (True))
set_option maxRecDepth 100000 in
set_option maxHeartbeats 4000000 in
theorem A64_22 {l : Launch} {X : aX} {d : Nat} {r : Option Value} {h' : aH} {v0 : Nat} {v1 : Nat} {q : aQ} (hd : 2 ≤ d) (hN : h'.1 = nk0) (fv0 : isPic v0) (fv1 : isPic v1) (hG : gV r h' (F64_22 v0 v1 q)) (hS : S64_22 v0 v1 q) : AW l X 64 c64 d r h' 22 [some (.ref v0), some (.ref v1)] [] (hp q) := by
  unfold F64_22 at hG
  unfold S64_22 at hS
  refine x_run (pc' := 24) (lo' := [some (.ref v0), some (.ref v1)]) (st' := [.ref v1, .ref v0]) 2 rfl ?_
  refine x_gf (c := 322) (ne := 0) (v := .int (q.1 v1 2)) rfl (by decide +kernel) (pc_s fv1) rfl ?_
  obtain ⟨o3, hS⟩ := hS
  refine x_pf (c := 322) (ne := 0) (h2 := hp (a_w q v0 2 (q.1 v1 2))) rfl (by decide +kernel) (by decide +kernel) (pc_s fv0) (pv_z rfl o3) ?_
  refine x_run (pc' := 32) (lo' := [some (.ref v0), some (.ref v1)]) (st' := [.ref v1, .ref v0]) 2 rfl ?_
  refine x_gf (c := 323) (ne := 0) (v := .int ((a_w q v0 2 (q.1 v1 2)).1 v1 3)) rfl (by decide +kernel) (pc_s fv1) rfl ?_
  obtain ⟨o4, hS⟩ := hS
  refine x_pf (c := 323) (ne := 0) (h2 := hp (a_w (a_w q v0 2 (q.1 v1 2)) v0 3 ((a_w q v0 2 (q.1 v1 2)).1 v1 3))) rfl (by decide +kernel) (by decide +kernel) (pc_s fv0) (pv_z rfl o4) ?_
  obtain ⟨rfl, rfl⟩ := hG
  exact x_ret rfl (by decide +kernel)
def F64_11 (v0 : Nat) (v1 : Nat) (q : aQ) : aQ := F64_22 v0 v1 (F81_0 (v0 + 2) (v1 + 2) q)
def S64_11 (v0 : Nat) (v1 : Nat) (q : aQ) : Prop := S81_0 (v0 + 2) (v1 + 2) q ∧ (S64_22 v0 v1 (F81_0 (v0 + 2) (v1 + 2) q))
set_option maxRecDepth 100000 in
set_option maxHeartbeats 4000000 in
theorem A64_11 {l : Launch} {X : aX} {d : Nat} {r : Option Value} {h' : aH} {v0 : Nat} {v1 : Nat} {q : aQ} (hd : 2 ≤ d) (hN : h'.1 = nk0) (fv0 : isPic v0) (fv1 : isPic v1) (hG : gV r h' (F64_11 v0 v1 q)) (hS : S64_11 v0 v1 q) : AW l X 64 c64 d r h' 11 [some (.ref v0), some (.ref v1)] [] (hp q) := by
  unfold F64_11 at hG
  unfold S64_11 at hS
  refine x_run (pc' := 12) (lo' := [some (.ref v0), some (.ref v1)]) (st' := [.ref v0]) 1 rfl ?_
  refine x_gf (c := 321) (ne := 0) (v := .ref (v0 + 2)) rfl (by decide +kernel) (pc_s fv0) (pc_v1 fv0) ?_
  refine x_run (pc' := 16) (lo' := [some (.ref v0), some (.ref v1)]) (st' := [.ref v1, .ref (v0 + 2)]) 1 rfl ?_
  refine x_gf (c := 321) (ne := 0) (v := .ref (v1 + 2)) rfl (by decide +kernel) (pc_s fv1) (pc_v1 fv1) ?_
  obtain ⟨o2, hS⟩ := hS
  refine x_cv (j := 81) (ne := 0) (vs := [.ref (v1 + 2)]) (rest := []) rfl (by decide +kernel) (by decide +kernel) (by decide) (Eq.trans rfl (show 1 = _ from by decide +kernel)) (rg_s (pc_r1 fv0)) (by decide +kernel) rfl (Nat.le_of_ble_eq_true rfl) (by omega) (T81 (Nat.le_refl 1) (pc_r1 fv0) (pc_r1 fv1) o2) (hp_m hN) ?_
  show AW l X 64 c64 d r h' 22 [some (.ref v0), some (.ref v1)] [] (hp (F81_0 (v0 + 2) (v1 + 2) q))
  exact A64_22 hd hN fv0 fv1 hG hS
def F64_0 (v0 : Nat) (v1 : Nat) (q : aQ) : aQ := F64_11 v0 v1 (F81_0 (v0 + 1) (v1 + 1) q)
def S64_0 (v0 : Nat) (v1 : Nat) (q : aQ) : Prop := S81_0 (v0 + 1) (v1 + 1) q ∧ (S64_11 v0 v1 (F81_0 (v0 + 1) (v1 + 1) q))
set_option maxRecDepth 100000 in
set_option maxHeartbeats 4000000 in
theorem A64_0 {l : Launch} {X : aX} {d : Nat} {r : Option Value} {h' : aH} {v0 : Nat} {v1 : Nat} {q : aQ} (hd : 2 ≤ d) (hN : h'.1 = nk0) (fv0 : isPic v0) (fv1 : isPic v1) (hG : gV r h' (F64_0 v0 v1 q)) (hS : S64_0 v0 v1 q) : AW l X 64 c64 d r h' 0 [some (.ref v0), some (.ref v1)] [] (hp q) := by
  unfold F64_0 at hG
  unfold S64_0 at hS
  refine x_run (pc' := 1) (lo' := [some (.ref v0), some (.ref v1)]) (st' := [.ref v0]) 1 rfl ?_
  refine x_gf (c := 320) (ne := 0) (v := .ref (v0 + 1)) rfl (by decide +kernel) (pc_s fv0) (pc_v0 fv0) ?_
  refine x_run (pc' := 5) (lo' := [some (.ref v0), some (.ref v1)]) (st' := [.ref v1, .ref (v0 + 1)]) 1 rfl ?_
  refine x_gf (c := 320) (ne := 0) (v := .ref (v1 + 1)) rfl (by decide +kernel) (pc_s fv1) (pc_v0 fv1) ?_
  obtain ⟨o1, hS⟩ := hS
  refine x_cv (j := 81) (ne := 0) (vs := [.ref (v1 + 1)]) (rest := []) rfl (by decide +kernel) (by decide +kernel) (by decide) (Eq.trans rfl (show 1 = _ from by decide +kernel)) (rg_s (pc_r0 fv0)) (by decide +kernel) rfl (Nat.le_of_ble_eq_true rfl) (by omega) (T81 (Nat.le_refl 1) (pc_r0 fv0) (pc_r0 fv1) o1) (hp_m hN) ?_
  show AW l X 64 c64 d r h' 11 [some (.ref v0), some (.ref v1)] [] (hp (F81_0 (v0 + 1) (v1 + 1) q))
  exact A64_11 hd hN fv0 fv1 hG hS
theorem T64 {l : Launch} {X : aX} {d : Nat} {v0 : Nat} {v1 : Nat} {q : aQ} (hd : 2 ≤ d) (fv0 : isPic v0) (fv1 : isPic v1) (hS : S64_0 v0 v1 q) : Call l X d 64 [.ref v0, .ref v1] (hp q) none (hp (F64_0 v0 v1 q)) := Call.of ok64 (by decide) (Nat.le_of_ble_eq_true rfl) ⟨Nat.le_refl _, Nat.le_refl _⟩ (A64_0 hd rfl fv0 fv1 ⟨rfl, rfl⟩ hS)
/-- TypeForecast$Picture.join(LTypeForecast$Picture;)Z -/
def F65_117 (v2 : Int32) (s0 : Int32) (s1 : Nat) (q : aQ) : Int32 × aQ := (v2, (a_w q s1 3 s0))
def S65_117 (v2 : Int32) (s0 : Int32) (s1 : Nat) (q : aQ) : Prop := (s0 = 0 ∨ s0 = 1) ∧ ((v2 = 0 ∨ v2 = 1) ∧ (True))
set_option maxRecDepth 100000 in
set_option maxHeartbeats 4000000 in
theorem A65_117 {l : Launch} {X : aX} {d : Nat} {r : Option Value} {h' : aH} {v2 : Int32} {s0 : Int32} {s1 : Nat} {q : aQ} (hd : 2 ≤ d) (hN : h'.1 = nk0) (fs1 : isPic s1) (hG : gI r h' (F65_117 v2 s0 s1 q)) (hS : S65_117 v2 s0 s1 q) : AW l X 65 c65 d r h' 117 [none, none, some (.int v2)] [.int s0, .ref s1] (hp q) := by
  unfold F65_117 at hG
  unfold S65_117 at hS
  obtain ⟨o10, hS⟩ := hS
  refine x_pf (c := 323) (ne := 0) (h2 := hp (a_w q s1 3 s0)) rfl (by decide +kernel) (by decide +kernel) (pc_s fs1) (pv_z rfl o10) ?_
  refine x_run (pc' := 121) (lo' := [none, none, some (.int v2)]) (st' := [.int v2]) 1 rfl ?_
  obtain ⟨o11, hS⟩ := hS
  obtain ⟨rfl, rfl⟩ := hG
  exact x_zret rfl (by decide +kernel) o11
def F65_112 (v2 : Int32) (s0 : Nat) (q : aQ) : Int32 × aQ := F65_117 v2 1 s0 q
def S65_112 (v2 : Int32) (s0 : Nat) (q : aQ) : Prop := S65_117 v2 1 s0 q
set_option maxRecDepth 100000 in
set_option maxHeartbeats 4000000 in
theorem A65_112 {l : Launch} {X : aX} {d : Nat} {r : Option Value} {h' : aH} {v2 : Int32} {s0 : Nat} {q : aQ} (hd : 2 ≤ d) (hN : h'.1 = nk0) (fs0 : isPic s0) (hG : gI r h' (F65_112 v2 s0 q)) (hS : S65_112 v2 s0 q) : AW l X 65 c65 d r h' 112 [none, none, some (.int v2)] [.ref s0] (hp q) := by
  unfold F65_112 at hG
  unfold S65_112 at hS
  refine x_run (pc' := 117) (lo' := [none, none, some (.int v2)]) (st' := [.int 1, .ref s0]) 2 rfl ?_
  exact A65_117 hd hN fs0 hG hS
def F65_94 (v0 : Nat) (v1 : Nat) (v2 : Int32) (s0 : Int32) (s1 : Nat) (q : aQ) : Int32 × aQ := (if ((a_w q s1 2 s0).1 v0 3) = 0 then (if ((a_w q s1 2 s0).1 v1 3) = 0 then F65_117 v2 0 v0 (a_w q s1 2 s0) else F65_112 v2 v0 (a_w q s1 2 s0)) else F65_112 v2 v0 (a_w q s1 2 s0))
def S65_94 (v0 : Nat) (v1 : Nat) (v2 : Int32) (s0 : Int32) (s1 : Nat) (q : aQ) : Prop := (s0 = 0 ∨ s0 = 1) ∧ (((((a_w q s1 2 s0).1 v0 3) = 0) → ((((a_w q s1 2 s0).1 v1 3) = 0) → S65_117 v2 0 v0 (a_w q s1 2 s0)) ∧ (¬ (((a_w q s1 2 s0).1 v1 3) = 0) → S65_112 v2 v0 (a_w q s1 2 s0))) ∧ (¬ (((a_w q s1 2 s0).1 v0 3) = 0) → S65_112 v2 v0 (a_w q s1 2 s0)))
set_option maxRecDepth 100000 in
set_option maxHeartbeats 4000000 in
theorem A65_94 {l : Launch} {X : aX} {d : Nat} {r : Option Value} {h' : aH} {v0 : Nat} {v1 : Nat} {v2 : Int32} {s0 : Int32} {s1 : Nat} {q : aQ} (hd : 2 ≤ d) (hN : h'.1 = nk0) (fv0 : isPic v0) (fv1 : isPic v1) (fs1 : isPic s1) (hG : gI r h' (F65_94 v0 v1 v2 s0 s1 q)) (hS : S65_94 v0 v1 v2 s0 s1 q) : AW l X 65 c65 d r h' 94 [some (.ref v0), some (.ref v1), some (.int v2)] [.int s0, .ref s1] (hp q) := by
  unfold F65_94 at hG
  unfold S65_94 at hS
  obtain ⟨o8, hS⟩ := hS
  refine x_pf (c := 322) (ne := 0) (h2 := hp (a_w q s1 2 s0)) rfl (by decide +kernel) (by decide +kernel) (pc_s fs1) (pv_z rfl o8) ?_
  refine x_run (pc' := 99) (lo' := [some (.ref v0), some (.ref v1), some (.int v2)]) (st' := [.ref v0, .ref v0]) 2 rfl ?_
  refine x_gf (c := 323) (ne := 0) (v := .int ((a_w q s1 2 s0).1 v0 3)) rfl (by decide +kernel) (pc_s fv0) rfl ?_
  refine x_if 112 rfl rfl (fun (hc9 : ¬ ((a_w q s1 2 s0).1 v0 3) = 0) => ?_) (fun (hc9 : ((a_w q s1 2 s0).1 v0 3) = 0) => ?_)
  · rw [if_neg hc9] at hG
    replace hS := hS.2 hc9
    refine x_kill [0, 1] ?_
    exact A65_112 hd hN fv0 hG hS
  · rw [if_pos hc9] at hG
    replace hS := hS.1 hc9
    refine x_run (pc' := 106) (lo' := [some (.ref v0), some (.ref v1), some (.int v2)]) (st' := [.ref v1, .ref v0]) 1 rfl ?_
    refine x_gf (c := 323) (ne := 0) (v := .int ((a_w q s1 2 s0).1 v1 3)) rfl (by decide +kernel) (pc_s fv1) rfl ?_
    refine x_if 116 rfl rfl (fun (hc12 : ((a_w q s1 2 s0).1 v1 3) = 0) => ?_) (fun (hc12 : ¬ ((a_w q s1 2 s0).1 v1 3) = 0) => ?_)
    · rw [if_pos hc12] at hG
      replace hS := hS.1 hc12
      refine x_run (pc' := 117) (lo' := [some (.ref v0), some (.ref v1), some (.int v2)]) (st' := [.int 0, .ref v0]) 1 rfl ?_
      refine x_kill [0, 1] ?_
      exact A65_117 hd hN fv0 hG hS
    · rw [if_neg hc12] at hG
      replace hS := hS.2 hc12
      refine x_kill [0, 1] ?_
      exact A65_112 hd hN fv0 hG hS
def F65_89 (v0 : Nat) (v1 : Nat) (v2 : Int32) (s0 : Nat) (q : aQ) : Int32 × aQ := F65_94 v0 v1 v2 1 s0 q
def S65_89 (v0 : Nat) (v1 : Nat) (v2 : Int32) (s0 : Nat) (q : aQ) : Prop := S65_94 v0 v1 v2 1 s0 q
set_option maxRecDepth 100000 in
set_option maxHeartbeats 4000000 in
theorem A65_89 {l : Launch} {X : aX} {d : Nat} {r : Option Value} {h' : aH} {v0 : Nat} {v1 : Nat} {v2 : Int32} {s0 : Nat} {q : aQ} (hd : 2 ≤ d) (hN : h'.1 = nk0) (fv0 : isPic v0) (fv1 : isPic v1) (fs0 : isPic s0) (hG : gI r h' (F65_89 v0 v1 v2 s0 q)) (hS : S65_89 v0 v1 v2 s0 q) : AW l X 65 c65 d r h' 89 [some (.ref v0), some (.ref v1), some (.int v2)] [.ref s0] (hp q) := by
  unfold F65_89 at hG
  unfold S65_89 at hS
  refine x_run (pc' := 94) (lo' := [some (.ref v0), some (.ref v1), some (.int v2)]) (st' := [.int 1, .ref s0]) 2 rfl ?_
  exact A65_94 hd hN fv0 fv1 fs0 hG hS
def F65_73 (v0 : Nat) (v1 : Nat) (s0 : Int32) (q : aQ) : Int32 × aQ := (if (q.1 v0 2) = 0 then (if (q.1 v1 2) = 0 then F65_94 v0 v1 s0 0 v0 q else F65_89 v0 v1 s0 v0 q) else F65_89 v0 v1 s0 v0 q)
def S65_73 (v0 : Nat) (v1 : Nat) (s0 : Int32) (q : aQ) : Prop := (((q.1 v0 2) = 0) → (((q.1 v1 2) = 0) → S65_94 v0 v1 s0 0 v0 q) ∧ (¬ ((q.1 v1 2) = 0) → S65_89 v0 v1 s0 v0 q)) ∧ (¬ ((q.1 v0 2) = 0) → S65_89 v0 v1 s0 v0 q)
set_option maxRecDepth 100000 in
set_option maxHeartbeats 4000000 in
theorem A65_73 {l : Launch} {X : aX} {d : Nat} {r : Option Value} {h' : aH} {v0 : Nat} {v1 : Nat} {s0 : Int32} {q : aQ} (hd : 2 ≤ d) (hN : h'.1 = nk0) (fv0 : isPic v0) (fv1 : isPic v1) (hG : gI r h' (F65_73 v0 v1 s0 q)) (hS : S65_73 v0 v1 s0 q) : AW l X 65 c65 d r h' 73 [some (.ref v0), some (.ref v1), none] [.int s0] (hp q) := by
  unfold F65_73 at hG
  unfold S65_73 at hS
  refine x_run (pc' := 76) (lo' := [some (.ref v0), some (.ref v1), some (.int s0)]) (st' := [.ref v0, .ref v0]) 3 rfl ?_
  refine x_gf (c := 322) (ne := 0) (v := .int (q.1 v0 2)) rfl (by decide +kernel) (pc_s fv0) rfl ?_
  refine x_if 89 rfl rfl (fun (hc7 : ¬ (q.1 v0 2) = 0) => ?_) (fun (hc7 : (q.1 v0 2) = 0) => ?_)
  · rw [if_neg hc7] at hG
    replace hS := hS.2 hc7
    exact A65_89 hd hN fv0 fv1 fv0 hG hS
  · rw [if_pos hc7] at hG
    replace hS := hS.1 hc7
    refine x_run (pc' := 83) (lo' := [some (.ref v0), some (.ref v1), some (.int s0)]) (st' := [.ref v1, .ref v0]) 1 rfl ?_
    refine x_gf (c := 322) (ne := 0) (v := .int (q.1 v1 2)) rfl (by decide +kernel) (pc_s fv1) rfl ?_
    refine x_if 93 rfl rfl (fun (hc13 : (q.1 v1 2) = 0) => ?_) (fun (hc13 : ¬ (q.1 v1 2) = 0) => ?_)
    · rw [if_pos hc13] at hG
      replace hS := hS.1 hc13
      refine x_run (pc' := 94) (lo' := [some (.ref v0), some (.ref v1), some (.int s0)]) (st' := [.int 0, .ref v0]) 1 rfl ?_
      exact A65_94 hd hN fv0 fv1 fv0 hG hS
    · rw [if_neg hc13] at hG
      replace hS := hS.2 hc13
      exact A65_89 hd hN fv0 fv1 fv0 hG hS
def F65_68 (v0 : Nat) (v1 : Nat) (q : aQ) : Int32 × aQ := F65_73 v0 v1 1 q
def S65_68 (v0 : Nat) (v1 : Nat) (q : aQ) : Prop := S65_73 v0 v1 1 q
set_option maxRecDepth 100000 in
set_option maxHeartbeats 4000000 in
theorem A65_68 {l : Launch} {X : aX} {d : Nat} {r : Option Value} {h' : aH} {v0 : Nat} {v1 : Nat} {q : aQ} (hd : 2 ≤ d) (hN : h'.1 = nk0) (fv0 : isPic v0) (fv1 : isPic v1) (hG : gI r h' (F65_68 v0 v1 q)) (hS : S65_68 v0 v1 q) : AW l X 65 c65 d r h' 68 [some (.ref v0), some (.ref v1), none] [] (hp q) := by
  unfold F65_68 at hG
  unfold S65_68 at hS
  refine x_run (pc' := 73) (lo' := [some (.ref v0), some (.ref v1), none]) (st' := [.int 1]) 2 rfl ?_
  exact A65_73 hd hN fv0 fv1 hG hS
def F65_64 (v0 : Nat) (v1 : Nat) (v2 : Int32) (q : aQ) : Int32 × aQ := (if v2 = 0 then F65_73 v0 v1 0 q else F65_68 v0 v1 q)
def S65_64 (v0 : Nat) (v1 : Nat) (v2 : Int32) (q : aQ) : Prop := ((v2 = 0) → S65_73 v0 v1 0 q) ∧ (¬ (v2 = 0) → S65_68 v0 v1 q)
set_option maxRecDepth 100000 in
set_option maxHeartbeats 4000000 in
theorem A65_64 {l : Launch} {X : aX} {d : Nat} {r : Option Value} {h' : aH} {v0 : Nat} {v1 : Nat} {v2 : Int32} {q : aQ} (hd : 2 ≤ d) (hN : h'.1 = nk0) (fv0 : isPic v0) (fv1 : isPic v1) (hG : gI r h' (F65_64 v0 v1 v2 q)) (hS : S65_64 v0 v1 v2 q) : AW l X 65 c65 d r h' 64 [some (.ref v0), some (.ref v1), some (.int v2)] [] (hp q) := by
  unfold F65_64 at hG
  unfold S65_64 at hS
  refine x_run (pc' := 65) (lo' := [some (.ref v0), some (.ref v1), some (.int v2)]) (st' := [.int v2]) 1 rfl ?_
  refine x_if 72 rfl rfl (fun (hc6 : v2 = 0) => ?_) (fun (hc6 : ¬ v2 = 0) => ?_)
  · rw [if_pos hc6] at hG
    replace hS := hS.1 hc6
    refine x_run (pc' := 73) (lo' := [some (.ref v0), some (.ref v1), some (.int v2)]) (st' := [.int 0]) 1 rfl ?_
    refine x_kill [2] ?_
    exact A65_73 hd hN fv0 fv1 hG hS
  · rw [if_neg hc6] at hG
    replace hS := hS.2 hc6
    refine x_kill [2] ?_
    exact A65_68 hd hN fv0 fv1 hG hS
def F65_50 (v0 : Nat) (v1 : Nat) (v2 : Int32) (q : aQ) : Int32 × aQ := (if (q.1 v1 3) = 0 then F65_64 v0 v1 v2 q else (if (q.1 v0 3) = 0 then F65_68 v0 v1 q else F65_64 v0 v1 v2 q))
def S65_50 (v0 : Nat) (v1 : Nat) (v2 : Int32) (q : aQ) : Prop := (((q.1 v1 3) = 0) → S65_64 v0 v1 v2 q) ∧ (¬ ((q.1 v1 3) = 0) → (((q.1 v0 3) = 0) → S65_68 v0 v1 q) ∧ (¬ ((q.1 v0 3) = 0) → S65_64 v0 v1 v2 q))
set_option maxRecDepth 100000 in
set_option maxHeartbeats 4000000 in
theorem A65_50 {l : Launch} {X : aX} {d : Nat} {r : Option Value} {h' : aH} {v0 : Nat} {v1 : Nat} {v2 : Int32} {q : aQ} (hd : 2 ≤ d) (hN : h'.1 = nk0) (fv0 : isPic v0) (fv1 : isPic v1) (hG : gI r h' (F65_50 v0 v1 v2 q)) (hS : S65_50 v0 v1 v2 q) : AW l X 65 c65 d r h' 50 [some (.ref v0), some (.ref v1), some (.int v2)] [] (hp q) := by
  unfold F65_50 at hG
  unfold S65_50 at hS
  refine x_run (pc' := 51) (lo' := [some (.ref v0), some (.ref v1), some (.int v2)]) (st' := [.ref v1]) 1 rfl ?_
  refine x_gf (c := 323) (ne := 0) (v := .int (q.1 v1 3)) rfl (by decide +kernel) (pc_s fv1) rfl ?_
  refine x_if 64 rfl rfl (fun (hc5 : (q.1 v1 3) = 0) => ?_) (fun (hc5 : ¬ (q.1 v1 3) = 0) => ?_)
  · rw [if_pos hc5] at hG
    replace hS := hS.1 hc5
    exact A65_64 hd hN fv0 fv1 hG hS
  · rw [if_neg hc5] at hG
    replace hS := hS.2 hc5
    refine x_run (pc' := 58) (lo' := [some (.ref v0), some (.ref v1), some (.int v2)]) (st' := [.ref v0]) 1 rfl ?_
    refine x_gf (c := 323) (ne := 0) (v := .int (q.1 v0 3)) rfl (by decide +kernel) (pc_s fv0) rfl ?_
    refine x_if 68 rfl rfl (fun (hc14 : (q.1 v0 3) = 0) => ?_) (fun (hc14 : ¬ (q.1 v0 3) = 0) => ?_)
    · rw [if_pos hc14] at hG
      replace hS := hS.1 hc14
      refine x_kill [2] ?_
      exact A65_68 hd hN fv0 fv1 hG hS
    · rw [if_neg hc14] at hG
      replace hS := hS.2 hc14
      exact A65_64 hd hN fv0 fv1 hG hS
def F65_35 (v0 : Nat) (v1 : Nat) (s0 : Int32) (q : aQ) : Int32 × aQ := (if (q.1 v1 2) = 0 then F65_50 v0 v1 s0 q else (if (q.1 v0 2) = 0 then F65_68 v0 v1 q else F65_50 v0 v1 s0 q))
def S65_35 (v0 : Nat) (v1 : Nat) (s0 : Int32) (q : aQ) : Prop := (((q.1 v1 2) = 0) → S65_50 v0 v1 s0 q) ∧ (¬ ((q.1 v1 2) = 0) → (((q.1 v0 2) = 0) → S65_68 v0 v1 q) ∧ (¬ ((q.1 v0 2) = 0) → S65_50 v0 v1 s0 q))
set_option maxRecDepth 100000 in
set_option maxHeartbeats 4000000 in
theorem A65_35 {l : Launch} {X : aX} {d : Nat} {r : Option Value} {h' : aH} {v0 : Nat} {v1 : Nat} {s0 : Int32} {q : aQ} (hd : 2 ≤ d) (hN : h'.1 = nk0) (fv0 : isPic v0) (fv1 : isPic v1) (hG : gI r h' (F65_35 v0 v1 s0 q)) (hS : S65_35 v0 v1 s0 q) : AW l X 65 c65 d r h' 35 [some (.ref v0), some (.ref v1), none] [.int s0] (hp q) := by
  unfold F65_35 at hG
  unfold S65_35 at hS
  refine x_run (pc' := 37) (lo' := [some (.ref v0), some (.ref v1), some (.int s0)]) (st' := [.ref v1]) 2 rfl ?_
  refine x_gf (c := 322) (ne := 0) (v := .int (q.1 v1 2)) rfl (by decide +kernel) (pc_s fv1) rfl ?_
  refine x_if 50 rfl rfl (fun (hc4 : (q.1 v1 2) = 0) => ?_) (fun (hc4 : ¬ (q.1 v1 2) = 0) => ?_)
  · rw [if_pos hc4] at hG
    replace hS := hS.1 hc4
    exact A65_50 hd hN fv0 fv1 hG hS
  · rw [if_neg hc4] at hG
    replace hS := hS.2 hc4
    refine x_run (pc' := 44) (lo' := [some (.ref v0), some (.ref v1), some (.int s0)]) (st' := [.ref v0]) 1 rfl ?_
    refine x_gf (c := 322) (ne := 0) (v := .int (q.1 v0 2)) rfl (by decide +kernel) (pc_s fv0) rfl ?_
    refine x_if 68 rfl rfl (fun (hc15 : (q.1 v0 2) = 0) => ?_) (fun (hc15 : ¬ (q.1 v0 2) = 0) => ?_)
    · rw [if_pos hc15] at hG
      replace hS := hS.1 hc15
      refine x_kill [2] ?_
      exact A65_68 hd hN fv0 fv1 hG hS
    · rw [if_neg hc15] at hG
      replace hS := hS.2 hc15
      exact A65_50 hd hN fv0 fv1 hG hS
def F65_30 (v0 : Nat) (v1 : Nat) (q : aQ) : Int32 × aQ := F65_35 v0 v1 1 q
def S65_30 (v0 : Nat) (v1 : Nat) (q : aQ) : Prop := S65_35 v0 v1 1 q
set_option maxRecDepth 100000 in
set_option maxHeartbeats 4000000 in
theorem A65_30 {l : Launch} {X : aX} {d : Nat} {r : Option Value} {h' : aH} {v0 : Nat} {v1 : Nat} {q : aQ} (hd : 2 ≤ d) (hN : h'.1 = nk0) (fv0 : isPic v0) (fv1 : isPic v1) (hG : gI r h' (F65_30 v0 v1 q)) (hS : S65_30 v0 v1 q) : AW l X 65 c65 d r h' 30 [some (.ref v0), some (.ref v1), none] [] (hp q) := by
  unfold F65_30 at hG
  unfold S65_30 at hS
  refine x_run (pc' := 35) (lo' := [some (.ref v0), some (.ref v1), none]) (st' := [.int 1]) 2 rfl ?_
  exact A65_35 hd hN fv0 fv1 hG hS
def F65_23 (v0 : Nat) (v1 : Nat) (v2 : Int32) (s0 : Int32) (q : aQ) : Int32 × aQ := (if s0 = 0 then (if v2 = 0 then F65_35 v0 v1 0 q else F65_30 v0 v1 q) else F65_30 v0 v1 q)
def S65_23 (v0 : Nat) (v1 : Nat) (v2 : Int32) (s0 : Int32) (q : aQ) : Prop := ((s0 = 0) → ((v2 = 0) → S65_35 v0 v1 0 q) ∧ (¬ (v2 = 0) → S65_30 v0 v1 q)) ∧ (¬ (s0 = 0) → S65_30 v0 v1 q)
set_option maxRecDepth 100000 in
set_option maxHeartbeats 4000000 in
theorem A65_23 {l : Launch} {X : aX} {d : Nat} {r : Option Value} {h' : aH} {v0 : Nat} {v1 : Nat} {v2 : Int32} {s0 : Int32} {q : aQ} (hd : 2 ≤ d) (hN : h'.1 = nk0) (fv0 : isPic v0) (fv1 : isPic v1) (hG : gI r h' (F65_23 v0 v1 v2 s0 q)) (hS : S65_23 v0 v1 v2 s0 q) : AW l X 65 c65 d r h' 23 [some (.ref v0), some (.ref v1), some (.int v2)] [.int s0] (hp q) := by
  unfold F65_23 at hG
  unfold S65_23 at hS
  refine x_if 30 rfl rfl (fun (hc3 : ¬ s0 = 0) => ?_) (fun (hc3 : s0 = 0) => ?_)
  · rw [if_neg hc3] at hG
    replace hS := hS.2 hc3
    refine x_kill [2] ?_
    exact A65_30 hd hN fv0 fv1 hG hS
  · rw [if_pos hc3] at hG
    replace hS := hS.1 hc3
    refine x_run (pc' := 27) (lo' := [some (.ref v0), some (.ref v1), some (.int v2)]) (st' := [.int v2]) 1 rfl ?_
    refine x_if 34 rfl rfl (fun (hc16 : v2 = 0) => ?_) (fun (hc16 : ¬ v2 = 0) => ?_)
    · rw [if_pos hc16] at hG
      replace hS := hS.1 hc16
      refine x_run (pc' := 35) (lo' := [some (.ref v0), some (.ref v1), some (.int v2)]) (st' := [.int 0]) 1 rfl ?_
      refine x_kill [2] ?_
      exact A65_35 hd hN fv0 fv1 hG hS
    · rw [if_neg hc16] at hG
      replace hS := hS.2 hc16
      refine x_kill [2] ?_
      exact A65_30 hd hN fv0 fv1 hG hS
def F65_11 (v0 : Nat) (v1 : Nat) (s0 : Int32) (q : aQ) : Int32 × aQ := F65_23 v0 v1 s0 ((F83_0 (v0 + 2) (v1 + 2) q).1) ((F83_0 (v0 + 2) (v1 + 2) q).2)
def S65_11 (v0 : Nat) (v1 : Nat) (s0 : Int32) (q : aQ) : Prop := S83_0 (v0 + 2) (v1 + 2) q ∧ (S65_23 v0 v1 s0 ((F83_0 (v0 + 2) (v1 + 2) q).1) ((F83_0 (v0 + 2) (v1 + 2) q).2))
set_option maxRecDepth 100000 in
set_option maxHeartbeats 4000000 in
theorem A65_11 {l : Launch} {X : aX} {d : Nat} {r : Option Value} {h' : aH} {v0 : Nat} {v1 : Nat} {s0 : Int32} {q : aQ} (hd : 2 ≤ d) (hN : h'.1 = nk0) (fv0 : isPic v0) (fv1 : isPic v1) (hG : gI r h' (F65_11 v0 v1 s0 q)) (hS : S65_11 v0 v1 s0 q) : AW l X 65 c65 d r h' 11 [some (.ref v0), some (.ref v1), none] [.int s0] (hp q) := by
  unfold F65_11 at hG
  unfold S65_11 at hS
  refine x_run (pc' := 13) (lo' := [some (.ref v0), some (.ref v1), some (.int s0)]) (st' := [.ref v0]) 2 rfl ?_
  refine x_gf (c := 321) (ne := 0) (v := .ref (v0 + 2)) rfl (by decide +kernel) (pc_s fv0) (pc_v1 fv0) ?_
  refine x_run (pc' := 17) (lo' := [some (.ref v0), some (.ref v1), some (.int s0)]) (st' := [.ref v1, .ref (v0 + 2)]) 1 rfl ?_
  refine x_gf (c := 321) (ne := 0) (v := .ref (v1 + 2)) rfl (by decide +kernel) (pc_s fv1) (pc_v1 fv1) ?_
  obtain ⟨o2, hS⟩ := hS
  refine x_cv (j := 83) (ne := 0) (vs := [.ref (v1 + 2)]) (rest := []) rfl (by decide +kernel) (by decide +kernel) (by decide) (Eq.trans rfl (show 1 = _ from by decide +kernel)) (rg_s (pc_r1 fv0)) (by decide +kernel) rfl (Nat.le_of_ble_eq_true rfl) (by omega) (T83 (Nat.le_refl 1) (pc_r1 fv0) (pc_r1 fv1) o2) (hp_m hN) ?_
  show AW l X 65 c65 d r h' 23 [some (.ref v0), some (.ref v1), some (.int s0)] [.int (F83_0 (v0 + 2) (v1 + 2) q).1] (hp (F83_0 (v0 + 2) (v1 + 2) q).2)
  exact A65_23 hd hN fv0 fv1 hG hS
def F65_0 (v0 : Nat) (v1 : Nat) (q : aQ) : Int32 × aQ := F65_11 v0 v1 ((F83_0 (v0 + 1) (v1 + 1) q).1) ((F83_0 (v0 + 1) (v1 + 1) q).2)
def S65_0 (v0 : Nat) (v1 : Nat) (q : aQ) : Prop := S83_0 (v0 + 1) (v1 + 1) q ∧ (S65_11 v0 v1 ((F83_0 (v0 + 1) (v1 + 1) q).1) ((F83_0 (v0 + 1) (v1 + 1) q).2))
set_option maxRecDepth 100000 in
set_option maxHeartbeats 4000000 in
theorem A65_0 {l : Launch} {X : aX} {d : Nat} {r : Option Value} {h' : aH} {v0 : Nat} {v1 : Nat} {q : aQ} (hd : 2 ≤ d) (hN : h'.1 = nk0) (fv0 : isPic v0) (fv1 : isPic v1) (hG : gI r h' (F65_0 v0 v1 q)) (hS : S65_0 v0 v1 q) : AW l X 65 c65 d r h' 0 [some (.ref v0), some (.ref v1), none] [] (hp q) := by
  unfold F65_0 at hG
  unfold S65_0 at hS
  refine x_run (pc' := 1) (lo' := [some (.ref v0), some (.ref v1), none]) (st' := [.ref v0]) 1 rfl ?_
  refine x_gf (c := 320) (ne := 0) (v := .ref (v0 + 1)) rfl (by decide +kernel) (pc_s fv0) (pc_v0 fv0) ?_
  refine x_run (pc' := 5) (lo' := [some (.ref v0), some (.ref v1), none]) (st' := [.ref v1, .ref (v0 + 1)]) 1 rfl ?_
  refine x_gf (c := 320) (ne := 0) (v := .ref (v1 + 1)) rfl (by decide +kernel) (pc_s fv1) (pc_v0 fv1) ?_
  obtain ⟨o1, hS⟩ := hS
  refine x_cv (j := 83) (ne := 0) (vs := [.ref (v1 + 1)]) (rest := []) rfl (by decide +kernel) (by decide +kernel) (by decide) (Eq.trans rfl (show 1 = _ from by decide +kernel)) (rg_s (pc_r0 fv0)) (by decide +kernel) rfl (Nat.le_of_ble_eq_true rfl) (by omega) (T83 (Nat.le_refl 1) (pc_r0 fv0) (pc_r0 fv1) o1) (hp_m hN) ?_
  show AW l X 65 c65 d r h' 11 [some (.ref v0), some (.ref v1), none] [.int (F83_0 (v0 + 1) (v1 + 1) q).1] (hp (F83_0 (v0 + 1) (v1 + 1) q).2)
  exact A65_11 hd hN fv0 fv1 hG hS
theorem T65 {l : Launch} {X : aX} {d : Nat} {v0 : Nat} {v1 : Nat} {q : aQ} (hd : 2 ≤ d) (fv0 : isPic v0) (fv1 : isPic v1) (hS : S65_0 v0 v1 q) : Call l X d 65 [.ref v0, .ref v1] (hp q) (some (.int (F65_0 v0 v1 q).1)) (hp (F65_0 v0 v1 q).2) := Call.of ok65 (by decide) (Nat.le_of_ble_eq_true rfl) ⟨Nat.le_refl _, Nat.le_refl _⟩ (A65_0 hd rfl fv0 fv1 ⟨rfl, rfl⟩ hS)
/-- TypeForecast$Picture.types()I -/
def F66_57 (s0 : Int32) (s1 : Int32) (q : aQ) : Int32 := (s1 + s0)
def S66_57 (s0 : Int32) (s1 : Int32) (q : aQ) : Prop := True
set_option maxRecDepth 100000 in
set_option maxHeartbeats 4000000 in
theorem A66_57 {l : Launch} {X : aX} {d : Nat} {r : Option Value} {h' : aH} {s0 : Int32} {s1 : Int32} {q : aQ} (hd : 2 ≤ d) (hN : h'.1 = nk0) (hG : gI r h' (F66_57 s0 s1 q, q)) (hS : S66_57 s0 s1 q) : AW l X 66 c66 d r h' 57 [none] [.int s0, .int s1] (hp q) := by
  unfold F66_57 at hG
  unfold S66_57 at hS
  refine x_run (pc' := 58) (lo' := [none]) (st' := [.int (s1 + s0)]) 1 rfl ?_
  obtain ⟨rfl, rfl⟩ := hG
  exact x_iret rfl (by decide +kernel)
def F66_43 (v0 : Nat) (s0 : Int32) (s1 : Int32) (q : aQ) : Int32 := (if (q.1 v0 3) = 0 then F66_57 0 (s1 + s0) q else F66_57 8 (s1 + s0) q)
def S66_43 (v0 : Nat) (s0 : Int32) (s1 : Int32) (q : aQ) : Prop := (((q.1 v0 3) = 0) → S66_57 0 (s1 + s0) q) ∧ (¬ ((q.1 v0 3) = 0) → S66_57 8 (s1 + s0) q)
set_option maxRecDepth 100000 in
set_option maxHeartbeats 4000000 in
theorem A66_43 {l : Launch} {X : aX} {d : Nat} {r : Option Value} {h' : aH} {v0 : Nat} {s0 : Int32} {s1 : Int32} {q : aQ} (hd : 2 ≤ d) (hN : h'.1 = nk0) (fv0 : isPic v0) (hG : gI r h' (F66_43 v0 s0 s1 q, q)) (hS : S66_43 v0 s0 s1 q) : AW l X 66 c66 d r h' 43 [some (.ref v0)] [.int s0, .int s1] (hp q) := by
  unfold F66_43 at hG
  unfold S66_43 at hS
  refine x_run (pc' := 45) (lo' := [some (.ref v0)]) (st' := [.ref v0, .int (s1 + s0)]) 2 rfl ?_
  refine x_gf (c := 323) (ne := 0) (v := .int (q.1 v0 3)) rfl (by decide +kernel) (pc_s fv0) rfl ?_
  refine x_if 56 rfl rfl (fun (hc6 : (q.1 v0 3) = 0) => ?_) (fun (hc6 : ¬ (q.1 v0 3) = 0) => ?_)
  · rw [if_pos hc6] at hG
    replace hS := hS.1 hc6
    refine x_run (pc' := 57) (lo' := [some (.ref v0)]) (st' := [.int 0, .int (s1 + s0)]) 1 rfl ?_
    refine x_kill [0] ?_
    exact A66_57 hd hN hG hS
  · rw [if_neg hc6] at hG
    replace hS := hS.2 hc6
    refine x_run (pc' := 57) (lo' := [some (.ref v0)]) (st' := [.int 8, .int (s1 + s0)]) 2 rfl ?_
    refine x_kill [0] ?_
    exact A66_57 hd hN hG hS
def F66_30 (v0 : Nat) (s0 : Int32) (s1 : Int32) (q : aQ) : Int32 := (if (q.1 v0 2) = 0 then F66_43 v0 0 (s1 + s0) q else F66_43 v0 4 (s1 + s0) q)
def S66_30 (v0 : Nat) (s0 : Int32) (s1 : Int32) (q : aQ) : Prop := (((q.1 v0 2) = 0) → S66_43 v0 0 (s1 + s0) q) ∧ (¬ ((q.1 v0 2) = 0) → S66_43 v0 4 (s1 + s0) q)
set_option maxRecDepth 100000 in
set_option maxHeartbeats 4000000 in
theorem A66_30 {l : Launch} {X : aX} {d : Nat} {r : Option Value} {h' : aH} {v0 : Nat} {s0 : Int32} {s1 : Int32} {q : aQ} (hd : 2 ≤ d) (hN : h'.1 = nk0) (fv0 : isPic v0) (hG : gI r h' (F66_30 v0 s0 s1 q, q)) (hS : S66_30 v0 s0 s1 q) : AW l X 66 c66 d r h' 30 [some (.ref v0)] [.int s0, .int s1] (hp q) := by
  unfold F66_30 at hG
  unfold S66_30 at hS
  refine x_run (pc' := 32) (lo' := [some (.ref v0)]) (st' := [.ref v0, .int (s1 + s0)]) 2 rfl ?_
  refine x_gf (c := 322) (ne := 0) (v := .int (q.1 v0 2)) rfl (by decide +kernel) (pc_s fv0) rfl ?_
  refine x_if 42 rfl rfl (fun (hc5 : (q.1 v0 2) = 0) => ?_) (fun (hc5 : ¬ (q.1 v0 2) = 0) => ?_)
  · rw [if_pos hc5] at hG
    replace hS := hS.1 hc5
    refine x_run (pc' := 43) (lo' := [some (.ref v0)]) (st' := [.int 0, .int (s1 + s0)]) 1 rfl ?_
    exact A66_43 hd hN fv0 hG hS
  · rw [if_neg hc5] at hG
    replace hS := hS.2 hc5
    refine x_run (pc' := 43) (lo' := [some (.ref v0)]) (st' := [.int 4, .int (s1 + s0)]) 2 rfl ?_
    exact A66_43 hd hN fv0 hG hS
def F66_15 (v0 : Nat) (s0 : Int32) (q : aQ) : Int32 := (if (F85_0 (v0 + 2) q) = 0 then F66_30 v0 2 s0 q else F66_30 v0 0 s0 q)
def S66_15 (v0 : Nat) (s0 : Int32) (q : aQ) : Prop := S85_0 (v0 + 2) q ∧ ((((F85_0 (v0 + 2) q) = 0) → S66_30 v0 2 s0 q) ∧ (¬ ((F85_0 (v0 + 2) q) = 0) → S66_30 v0 0 s0 q))
set_option maxRecDepth 100000 in
set_option maxHeartbeats 4000000 in
theorem A66_15 {l : Launch} {X : aX} {d : Nat} {r : Option Value} {h' : aH} {v0 : Nat} {s0 : Int32} {q : aQ} (hd : 2 ≤ d) (hN : h'.1 = nk0) (fv0 : isPic v0) (hG : gI r h' (F66_15 v0 s0 q, q)) (hS : S66_15 v0 s0 q) : AW l X 66 c66 d r h' 15 [some (.ref v0)] [.int s0] (hp q) := by
  unfold F66_15 at hG
  unfold S66_15 at hS
  refine x_run (pc' := 16) (lo' := [some (.ref v0)]) (st' := [.ref v0, .int s0]) 1 rfl ?_
  refine x_gf (c := 321) (ne := 0) (v := .ref (v0 + 2)) rfl (by decide +kernel) (pc_s fv0) (pc_v1 fv0) ?_
  obtain ⟨o3, hS⟩ := hS
  refine x_cv (j := 85) (ne := 0) (vs := []) (rest := [.int s0]) rfl (by decide +kernel) (by decide +kernel) (by decide) (Eq.trans rfl (show 0 = _ from by decide +kernel)) (rg_s (pc_r1 fv0)) (by decide +kernel) rfl (Nat.le_of_ble_eq_true rfl) (by omega) (T85 (Nat.le_refl 1) (pc_r1 fv0) o3) (hp_m hN) ?_
  show AW l X 66 c66 d r h' 22 [some (.ref v0)] [.int (F85_0 (v0 + 2) q), .int s0] (hp q)
  refine x_if 29 rfl rfl (fun (hc4 : (F85_0 (v0 + 2) q) = 0) => ?_) (fun (hc4 : ¬ (F85_0 (v0 + 2) q) = 0) => ?_)
  · rw [if_pos hc4] at hG
    replace hS := hS.1 hc4
    refine x_run (pc' := 30) (lo' := [some (.ref v0)]) (st' := [.int 2, .int s0]) 1 rfl ?_
    exact A66_30 hd hN fv0 hG hS
  · rw [if_neg hc4] at hG
    replace hS := hS.2 hc4
    refine x_run (pc' := 30) (lo' := [some (.ref v0)]) (st' := [.int 0, .int s0]) 2 rfl ?_
    exact A66_30 hd hN fv0 hG hS
def F66_0 (v0 : Nat) (q : aQ) : Int32 := (if (F85_0 (v0 + 1) q) = 0 then F66_15 v0 1 q else F66_15 v0 0 q)
def S66_0 (v0 : Nat) (q : aQ) : Prop := S85_0 (v0 + 1) q ∧ ((((F85_0 (v0 + 1) q) = 0) → S66_15 v0 1 q) ∧ (¬ ((F85_0 (v0 + 1) q) = 0) → S66_15 v0 0 q))
set_option maxRecDepth 100000 in
set_option maxHeartbeats 4000000 in
theorem A66_0 {l : Launch} {X : aX} {d : Nat} {r : Option Value} {h' : aH} {v0 : Nat} {q : aQ} (hd : 2 ≤ d) (hN : h'.1 = nk0) (fv0 : isPic v0) (hG : gI r h' (F66_0 v0 q, q)) (hS : S66_0 v0 q) : AW l X 66 c66 d r h' 0 [some (.ref v0)] [] (hp q) := by
  unfold F66_0 at hG
  unfold S66_0 at hS
  refine x_run (pc' := 1) (lo' := [some (.ref v0)]) (st' := [.ref v0]) 1 rfl ?_
  refine x_gf (c := 320) (ne := 0) (v := .ref (v0 + 1)) rfl (by decide +kernel) (pc_s fv0) (pc_v0 fv0) ?_
  obtain ⟨o1, hS⟩ := hS
  refine x_cv (j := 85) (ne := 0) (vs := []) (rest := []) rfl (by decide +kernel) (by decide +kernel) (by decide) (Eq.trans rfl (show 0 = _ from by decide +kernel)) (rg_s (pc_r0 fv0)) (by decide +kernel) rfl (Nat.le_of_ble_eq_true rfl) (by omega) (T85 (Nat.le_refl 1) (pc_r0 fv0) o1) (hp_m hN) ?_
  show AW l X 66 c66 d r h' 7 [some (.ref v0)] [.int (F85_0 (v0 + 1) q)] (hp q)
  refine x_if 14 rfl rfl (fun (hc2 : (F85_0 (v0 + 1) q) = 0) => ?_) (fun (hc2 : ¬ (F85_0 (v0 + 1) q) = 0) => ?_)
  · rw [if_pos hc2] at hG
    replace hS := hS.1 hc2
    refine x_run (pc' := 15) (lo' := [some (.ref v0)]) (st' := [.int 1]) 1 rfl ?_
    exact A66_15 hd hN fv0 hG hS
  · rw [if_neg hc2] at hG
    replace hS := hS.2 hc2
    refine x_run (pc' := 15) (lo' := [some (.ref v0)]) (st' := [.int 0]) 2 rfl ?_
    exact A66_15 hd hN fv0 hG hS
theorem T66 {l : Launch} {X : aX} {d : Nat} {v0 : Nat} {q : aQ} (hd : 2 ≤ d) (fv0 : isPic v0) (hS : S66_0 v0 q) : Call l X d 66 [.ref v0] (hp q) (some (.int (F66_0 v0 q))) (hp q) := Call.of ok66 (by decide) (Nat.le_of_ble_eq_true rfl) ⟨Nat.le_refl _, Nat.le_refl _⟩ (A66_0 hd rfl fv0 ⟨rfl, rfl⟩ hS)
/-- TypeForecast$Picture.hasValue()Z -/
def F67_0 (v0 : Nat) (q : aQ) : Int32 := (if (F85_0 (v0 + 1) q) = 0 then 1 else (if (F85_0 (v0 + 2) q) = 0 then 1 else (if (q.1 v0 2) = 0 then 0 else 1)))
def S67_0 (v0 : Nat) (q : aQ) : Prop := S85_0 (v0 + 1) q ∧ ((((F85_0 (v0 + 1) q) = 0) → True) ∧ (¬ ((F85_0 (v0 + 1) q) = 0) → S85_0 (v0 + 2) q ∧ ((((F85_0 (v0 + 2) q) = 0) → True) ∧ (¬ ((F85_0 (v0 + 2) q) = 0) → (((q.1 v0 2) = 0) → True) ∧ (¬ ((q.1 v0 2) = 0) → True)))))
set_option maxRecDepth 100000 in
set_option maxHeartbeats 4000000 in
theorem A67_0 {l : Launch} {X : aX} {d : Nat} {r : Option Value} {h' : aH} {v0 : Nat} {q : aQ} (hd : 2 ≤ d) (hN : h'.1 = nk0) (fv0 : isPic v0) (hG : gI r h' (F67_0 v0 q, q)) (hS : S67_0 v0 q) : AW l X 67 c67 d r h' 0 [some (.ref v0)] [] (hp q) := by
  unfold F67_0 at hG
  unfold S67_0 at hS
  refine x_run (pc' := 1) (lo' := [some (.ref v0)]) (st' := [.ref v0]) 1 rfl ?_
  refine x_gf (c := 320) (ne := 0) (v := .ref (v0 + 1)) rfl (by decide +kernel) (pc_s fv0) (pc_v0 fv0) ?_
  obtain ⟨o1, hS⟩ := hS
  refine x_cv (j := 85) (ne := 0) (vs := []) (rest := []) rfl (by decide +kernel) (by decide +kernel) (by decide) (Eq.trans rfl (show 0 = _ from by decide +kernel)) (rg_s (pc_r0 fv0)) (by decide +kernel) rfl (Nat.le_of_ble_eq_true rfl) (by omega) (T85 (Nat.le_refl 1) (pc_r0 fv0) o1) (hp_m hN) ?_
  show AW l X 67 c67 d r h' 7 [some (.ref v0)] [.int (F85_0 (v0 + 1) q)] (hp q)
  refine x_if 27 rfl rfl (fun (hc2 : (F85_0 (v0 + 1) q) = 0) => ?_) (fun (hc2 : ¬ (F85_0 (v0 + 1) q) = 0) => ?_)
  · rw [if_pos hc2] at hG
    replace hS := hS.1 hc2
    refine x_run (pc' := 32) (lo' := [some (.ref v0)]) (st' := [.int 1]) 2 rfl ?_
    obtain ⟨rfl, rfl⟩ := hG
    exact x_zret rfl (by decide +kernel) (Or.inr rfl)
  · rw [if_neg hc2] at hG
    replace hS := hS.2 hc2
    refine x_run (pc' := 11) (lo' := [some (.ref v0)]) (st' := [.ref v0]) 1 rfl ?_
    refine x_gf (c := 321) (ne := 0) (v := .ref (v0 + 2)) rfl (by decide +kernel) (pc_s fv0) (pc_v1 fv0) ?_
    obtain ⟨o3, hS⟩ := hS
    refine x_cv (j := 85) (ne := 0) (vs := []) (rest := []) rfl (by decide +kernel) (by decide +kernel) (by decide) (Eq.trans rfl (show 0 = _ from by decide +kernel)) (rg_s (pc_r1 fv0)) (by decide +kernel) rfl (Nat.le_of_ble_eq_true rfl) (by omega) (T85 (Nat.le_refl 1) (pc_r1 fv0) o3) (hp_m hN) ?_
    show AW l X 67 c67 d r h' 17 [some (.ref v0)] [.int (F85_0 (v0 + 2) q)] (hp q)
    refine x_if 27 rfl rfl (fun (hc4 : (F85_0 (v0 + 2) q) = 0) => ?_) (fun (hc4 : ¬ (F85_0 (v0 + 2) q) = 0) => ?_)
    · rw [if_pos hc4] at hG
      replace hS := hS.1 hc4
      refine x_run (pc' := 32) (lo' := [some (.ref v0)]) (st' := [.int 1]) 2 rfl ?_
      obtain ⟨rfl, rfl⟩ := hG
      exact x_zret rfl (by decide +kernel) (Or.inr rfl)
    · rw [if_neg hc4] at hG
      replace hS := hS.2 hc4
      refine x_run (pc' := 21) (lo' := [some (.ref v0)]) (st' := [.ref v0]) 1 rfl ?_
      refine x_gf (c := 322) (ne := 0) (v := .int (q.1 v0 2)) rfl (by decide +kernel) (pc_s fv0) rfl ?_
      refine x_if 31 rfl rfl (fun (hc5 : (q.1 v0 2) = 0) => ?_) (fun (hc5 : ¬ (q.1 v0 2) = 0) => ?_)
      · rw [if_pos hc5] at hG
        replace hS := hS.1 hc5
        refine x_run (pc' := 32) (lo' := [some (.ref v0)]) (st' := [.int 0]) 1 rfl ?_
        obtain ⟨rfl, rfl⟩ := hG
        exact x_zret rfl (by decide +kernel) (Or.inl rfl)
      · rw [if_neg hc5] at hG
        replace hS := hS.2 hc5
        refine x_run (pc' := 32) (lo' := [some (.ref v0)]) (st' := [.int 1]) 2 rfl ?_
        obtain ⟨rfl, rfl⟩ := hG
        exact x_zret rfl (by decide +kernel) (Or.inr rfl)
theorem T67 {l : Launch} {X : aX} {d : Nat} {v0 : Nat} {q : aQ} (hd : 2 ≤ d) (fv0 : isPic v0) (hS : S67_0 v0 q) : Call l X d 67 [.ref v0] (hp q) (some (.int (F67_0 v0 q))) (hp q) := Call.of ok67 (by decide) (Nat.le_of_ble_eq_true rfl) ⟨Nat.le_refl _, Nat.le_refl _⟩ (A67_0 hd rfl fv0 ⟨rfl, rfl⟩ hS)
/-- TypeForecast$Picture.hasOtherThanNumber()Z -/
def F68_0 (v0 : Nat) (q : aQ) : Int32 := (if (F85_0 (v0 + 2) q) = 0 then 1 else (if (q.1 v0 2) = 0 then 0 else 1))
def S68_0 (v0 : Nat) (q : aQ) : Prop := S85_0 (v0 + 2) q ∧ ((((F85_0 (v0 + 2) q) = 0) → True) ∧ (¬ ((F85_0 (v0 + 2) q) = 0) → (((q.1 v0 2) = 0) → True) ∧ (¬ ((q.1 v0 2) = 0) → True)))
set_option maxRecDepth 100000 in
set_option maxHeartbeats 4000000 in
theorem A68_0 {l : Launch} {X : aX} {d : Nat} {r : Option Value} {h' : aH} {v0 : Nat} {q : aQ} (hd : 2 ≤ d) (hN : h'.1 = nk0) (fv0 : isPic v0) (hG : gI r h' (F68_0 v0 q, q)) (hS : S68_0 v0 q) : AW l X 68 c68 d r h' 0 [some (.ref v0)] [] (hp q) := by
  unfold F68_0 at hG
  unfold S68_0 at hS
  refine x_run (pc' := 1) (lo' := [some (.ref v0)]) (st' := [.ref v0]) 1 rfl ?_
  refine x_gf (c := 321) (ne := 0) (v := .ref (v0 + 2)) rfl (by decide +kernel) (pc_s fv0) (pc_v1 fv0) ?_
  obtain ⟨o1, hS⟩ := hS
  refine x_cv (j := 85) (ne := 0) (vs := []) (rest := []) rfl (by decide +kernel) (by decide +kernel) (by decide) (Eq.trans rfl (show 0 = _ from by decide +kernel)) (rg_s (pc_r1 fv0)) (by decide +kernel) rfl (Nat.le_of_ble_eq_true rfl) (by omega) (T85 (Nat.le_refl 1) (pc_r1 fv0) o1) (hp_m hN) ?_
  show AW l X 68 c68 d r h' 7 [some (.ref v0)] [.int (F85_0 (v0 + 2) q)] (hp q)
  refine x_if 17 rfl rfl (fun (hc2 : (F85_0 (v0 + 2) q) = 0) => ?_) (fun (hc2 : ¬ (F85_0 (v0 + 2) q) = 0) => ?_)
  · rw [if_pos hc2] at hG
    replace hS := hS.1 hc2
    refine x_run (pc' := 22) (lo' := [some (.ref v0)]) (st' := [.int 1]) 2 rfl ?_
    obtain ⟨rfl, rfl⟩ := hG
    exact x_zret rfl (by decide +kernel) (Or.inr rfl)
  · rw [if_neg hc2] at hG
    replace hS := hS.2 hc2
    refine x_run (pc' := 11) (lo' := [some (.ref v0)]) (st' := [.ref v0]) 1 rfl ?_
    refine x_gf (c := 322) (ne := 0) (v := .int (q.1 v0 2)) rfl (by decide +kernel) (pc_s fv0) rfl ?_
    refine x_if 21 rfl rfl (fun (hc3 : (q.1 v0 2) = 0) => ?_) (fun (hc3 : ¬ (q.1 v0 2) = 0) => ?_)
    · rw [if_pos hc3] at hG
      replace hS := hS.1 hc3
      refine x_run (pc' := 22) (lo' := [some (.ref v0)]) (st' := [.int 0]) 1 rfl ?_
      obtain ⟨rfl, rfl⟩ := hG
      exact x_zret rfl (by decide +kernel) (Or.inl rfl)
    · rw [if_neg hc3] at hG
      replace hS := hS.2 hc3
      refine x_run (pc' := 22) (lo' := [some (.ref v0)]) (st' := [.int 1]) 2 rfl ?_
      obtain ⟨rfl, rfl⟩ := hG
      exact x_zret rfl (by decide +kernel) (Or.inr rfl)
theorem T68 {l : Launch} {X : aX} {d : Nat} {v0 : Nat} {q : aQ} (hd : 2 ≤ d) (fv0 : isPic v0) (hS : S68_0 v0 q) : Call l X d 68 [.ref v0] (hp q) (some (.int (F68_0 v0 q))) (hp q) := Call.of ok68 (by decide) (Nat.le_of_ble_eq_true rfl) ⟨Nat.le_refl _, Nat.le_refl _⟩ (A68_0 hd rfl fv0 ⟨rfl, rfl⟩ hS)
/-- TypeForecast$Picture.hasOtherThanText()Z -/
def F69_0 (v0 : Nat) (q : aQ) : Int32 := (if (F85_0 (v0 + 1) q) = 0 then 1 else (if (q.1 v0 2) = 0 then 0 else 1))
def S69_0 (v0 : Nat) (q : aQ) : Prop := S85_0 (v0 + 1) q ∧ ((((F85_0 (v0 + 1) q) = 0) → True) ∧ (¬ ((F85_0 (v0 + 1) q) = 0) → (((q.1 v0 2) = 0) → True) ∧ (¬ ((q.1 v0 2) = 0) → True)))
set_option maxRecDepth 100000 in
set_option maxHeartbeats 4000000 in
theorem A69_0 {l : Launch} {X : aX} {d : Nat} {r : Option Value} {h' : aH} {v0 : Nat} {q : aQ} (hd : 2 ≤ d) (hN : h'.1 = nk0) (fv0 : isPic v0) (hG : gI r h' (F69_0 v0 q, q)) (hS : S69_0 v0 q) : AW l X 69 c69 d r h' 0 [some (.ref v0)] [] (hp q) := by
  unfold F69_0 at hG
  unfold S69_0 at hS
  refine x_run (pc' := 1) (lo' := [some (.ref v0)]) (st' := [.ref v0]) 1 rfl ?_
  refine x_gf (c := 320) (ne := 0) (v := .ref (v0 + 1)) rfl (by decide +kernel) (pc_s fv0) (pc_v0 fv0) ?_
  obtain ⟨o1, hS⟩ := hS
  refine x_cv (j := 85) (ne := 0) (vs := []) (rest := []) rfl (by decide +kernel) (by decide +kernel) (by decide) (Eq.trans rfl (show 0 = _ from by decide +kernel)) (rg_s (pc_r0 fv0)) (by decide +kernel) rfl (Nat.le_of_ble_eq_true rfl) (by omega) (T85 (Nat.le_refl 1) (pc_r0 fv0) o1) (hp_m hN) ?_
  show AW l X 69 c69 d r h' 7 [some (.ref v0)] [.int (F85_0 (v0 + 1) q)] (hp q)
  refine x_if 17 rfl rfl (fun (hc2 : (F85_0 (v0 + 1) q) = 0) => ?_) (fun (hc2 : ¬ (F85_0 (v0 + 1) q) = 0) => ?_)
  · rw [if_pos hc2] at hG
    replace hS := hS.1 hc2
    refine x_run (pc' := 22) (lo' := [some (.ref v0)]) (st' := [.int 1]) 2 rfl ?_
    obtain ⟨rfl, rfl⟩ := hG
    exact x_zret rfl (by decide +kernel) (Or.inr rfl)
  · rw [if_neg hc2] at hG
    replace hS := hS.2 hc2
    refine x_run (pc' := 11) (lo' := [some (.ref v0)]) (st' := [.ref v0]) 1 rfl ?_
    refine x_gf (c := 322) (ne := 0) (v := .int (q.1 v0 2)) rfl (by decide +kernel) (pc_s fv0) rfl ?_
    refine x_if 21 rfl rfl (fun (hc3 : (q.1 v0 2) = 0) => ?_) (fun (hc3 : ¬ (q.1 v0 2) = 0) => ?_)
    · rw [if_pos hc3] at hG
      replace hS := hS.1 hc3
      refine x_run (pc' := 22) (lo' := [some (.ref v0)]) (st' := [.int 0]) 1 rfl ?_
      obtain ⟨rfl, rfl⟩ := hG
      exact x_zret rfl (by decide +kernel) (Or.inl rfl)
    · rw [if_neg hc3] at hG
      replace hS := hS.2 hc3
      refine x_run (pc' := 22) (lo' := [some (.ref v0)]) (st' := [.int 1]) 2 rfl ?_
      obtain ⟨rfl, rfl⟩ := hG
      exact x_zret rfl (by decide +kernel) (Or.inr rfl)
theorem T69 {l : Launch} {X : aX} {d : Nat} {v0 : Nat} {q : aQ} (hd : 2 ≤ d) (fv0 : isPic v0) (hS : S69_0 v0 q) : Call l X d 69 [.ref v0] (hp q) (some (.int (F69_0 v0 q))) (hp q) := Call.of ok69 (by decide) (Nat.le_of_ble_eq_true rfl) ⟨Nat.le_refl _, Nat.le_refl _⟩ (A69_0 hd rfl fv0 ⟨rfl, rfl⟩ hS)
/-- TypeForecast$Picture.hasTrue()Z -/
def F70_0 (v0 : Nat) (q : aQ) : Int32 := (if (F88_0 (v0 + 1) 0 q) = 0 then (if (F88_0 (v0 + 2) 0 q) = 0 then 0 else 1) else 1)
def S70_0 (v0 : Nat) (q : aQ) : Prop := S88_0 (v0 + 1) 0 q ∧ ((((F88_0 (v0 + 1) 0 q) = 0) → S88_0 (v0 + 2) 0 q ∧ ((((F88_0 (v0 + 2) 0 q) = 0) → True) ∧ (¬ ((F88_0 (v0 + 2) 0 q) = 0) → True))) ∧ (¬ ((F88_0 (v0 + 1) 0 q) = 0) → True))
set_option maxRecDepth 100000 in
set_option maxHeartbeats 4000000 in
theorem A70_0 {l : Launch} {X : aX} {d : Nat} {r : Option Value} {h' : aH} {v0 : Nat} {q : aQ} (hd : 2 ≤ d) (hN : h'.1 = nk0) (fv0 : isPic v0) (hG : gI r h' (F70_0 v0 q, q)) (hS : S70_0 v0 q) : AW l X 70 c70 d r h' 0 [some (.ref v0)] [] (hp q) := by
  unfold F70_0 at hG
  unfold S70_0 at hS
  refine x_run (pc' := 1) (lo' := [some (.ref v0)]) (st' := [.ref v0]) 1 rfl ?_
  refine x_gf (c := 320) (ne := 0) (v := .ref (v0 + 1)) rfl (by decide +kernel) (pc_s fv0) (pc_v0 fv0) ?_
  refine x_run (pc' := 5) (lo' := [some (.ref v0)]) (st' := [.int 0, .ref (v0 + 1)]) 1 rfl ?_
  obtain ⟨o1, hS⟩ := hS
  refine x_cv (j := 88) (ne := 0) (vs := [.int 0]) (rest := []) rfl (by decide +kernel) (by decide +kernel) (by decide) (Eq.trans rfl (show 1 = _ from by decide +kernel)) (rg_s (pc_r0 fv0)) (by decide +kernel) rfl (Nat.le_of_ble_eq_true rfl) (by omega) (T88 (Nat.le_refl 1) (pc_r0 fv0) o1) (hp_m hN) ?_
  show AW l X 70 c70 d r h' 8 [some (.ref v0)] [.int (F88_0 (v0 + 1) 0 q)] (hp q)
  refine x_if 22 rfl rfl (fun (hc2 : ¬ (F88_0 (v0 + 1) 0 q) = 0) => ?_) (fun (hc2 : (F88_0 (v0 + 1) 0 q) = 0) => ?_)
  · rw [if_neg hc2] at hG
    replace hS := hS.2 hc2
    refine x_run (pc' := 27) (lo' := [some (.ref v0)]) (st' := [.int 1]) 2 rfl ?_
    obtain ⟨rfl, rfl⟩ := hG
    exact x_zret rfl (by decide +kernel) (Or.inr rfl)
  · rw [if_pos hc2] at hG
    replace hS := hS.1 hc2
    refine x_run (pc' := 12) (lo' := [some (.ref v0)]) (st' := [.ref v0]) 1 rfl ?_
    refine x_gf (c := 321) (ne := 0) (v := .ref (v0 + 2)) rfl (by decide +kernel) (pc_s fv0) (pc_v1 fv0) ?_
    refine x_run (pc' := 16) (lo' := [some (.ref v0)]) (st' := [.int 0, .ref (v0 + 2)]) 1 rfl ?_
    obtain ⟨o3, hS⟩ := hS
    refine x_cv (j := 88) (ne := 0) (vs := [.int 0]) (rest := []) rfl (by decide +kernel) (by decide +kernel) (by decide) (Eq.trans rfl (show 1 = _ from by decide +kernel)) (rg_s (pc_r1 fv0)) (by decide +kernel) rfl (Nat.le_of_ble_eq_true rfl) (by omega) (T88 (Nat.le_refl 1) (pc_r1 fv0) o3) (hp_m hN) ?_
    show AW l X 70 c70 d r h' 19 [some (.ref v0)] [.int (F88_0 (v0 + 2) 0 q)] (hp q)
    refine x_if 26 rfl rfl (fun (hc4 : (F88_0 (v0 + 2) 0 q) = 0) => ?_) (fun (hc4 : ¬ (F88_0 (v0 + 2) 0 q) = 0) => ?_)
    · rw [if_pos hc4] at hG
      replace hS := hS.1 hc4
      refine x_run (pc' := 27) (lo' := [some (.ref v0)]) (st' := [.int 0]) 1 rfl ?_
      obtain ⟨rfl, rfl⟩ := hG
      exact x_zret rfl (by decide +kernel) (Or.inl rfl)
    · rw [if_neg hc4] at hG
      replace hS := hS.2 hc4
      refine x_run (pc' := 27) (lo' := [some (.ref v0)]) (st' := [.int 1]) 2 rfl ?_
      obtain ⟨rfl, rfl⟩ := hG
      exact x_zret rfl (by decide +kernel) (Or.inr rfl)
theorem T70 {l : Launch} {X : aX} {d : Nat} {v0 : Nat} {q : aQ} (hd : 2 ≤ d) (fv0 : isPic v0) (hS : S70_0 v0 q) : Call l X d 70 [.ref v0] (hp q) (some (.int (F70_0 v0 q))) (hp q) := Call.of ok70 (by decide) (Nat.le_of_ble_eq_true rfl) ⟨Nat.le_refl _, Nat.le_refl _⟩ (A70_0 hd rfl fv0 ⟨rfl, rfl⟩ hS)
/-- TypeForecast$Picture.hasFalse()Z -/
def F71_0 (v0 : Nat) (q : aQ) : Int32 := (if (F87_0 (v0 + 1) 0 q) = 0 then (if (F87_0 (v0 + 2) 0 q) = 0 then (if (q.1 v0 2) = 0 then 0 else 1) else 1) else 1)
def S71_0 (v0 : Nat) (q : aQ) : Prop := S87_0 (v0 + 1) 0 q ∧ ((((F87_0 (v0 + 1) 0 q) = 0) → S87_0 (v0 + 2) 0 q ∧ ((((F87_0 (v0 + 2) 0 q) = 0) → (((q.1 v0 2) = 0) → True) ∧ (¬ ((q.1 v0 2) = 0) → True)) ∧ (¬ ((F87_0 (v0 + 2) 0 q) = 0) → True))) ∧ (¬ ((F87_0 (v0 + 1) 0 q) = 0) → True))
set_option maxRecDepth 100000 in
set_option maxHeartbeats 4000000 in
theorem A71_0 {l : Launch} {X : aX} {d : Nat} {r : Option Value} {h' : aH} {v0 : Nat} {q : aQ} (hd : 2 ≤ d) (hN : h'.1 = nk0) (fv0 : isPic v0) (hG : gI r h' (F71_0 v0 q, q)) (hS : S71_0 v0 q) : AW l X 71 c71 d r h' 0 [some (.ref v0)] [] (hp q) := by
  unfold F71_0 at hG
  unfold S71_0 at hS
  refine x_run (pc' := 1) (lo' := [some (.ref v0)]) (st' := [.ref v0]) 1 rfl ?_
  refine x_gf (c := 320) (ne := 0) (v := .ref (v0 + 1)) rfl (by decide +kernel) (pc_s fv0) (pc_v0 fv0) ?_
  refine x_run (pc' := 5) (lo' := [some (.ref v0)]) (st' := [.int 0, .ref (v0 + 1)]) 1 rfl ?_
  obtain ⟨o1, hS⟩ := hS
  refine x_cv (j := 87) (ne := 0) (vs := [.int 0]) (rest := []) rfl (by decide +kernel) (by decide +kernel) (by decide) (Eq.trans rfl (show 1 = _ from by decide +kernel)) (rg_s (pc_r0 fv0)) (by decide +kernel) rfl (Nat.le_of_ble_eq_true rfl) (by omega) (T87 (Nat.le_refl 1) (pc_r0 fv0) o1) (hp_m hN) ?_
  show AW l X 71 c71 d r h' 8 [some (.ref v0)] [.int (F87_0 (v0 + 1) 0 q)] (hp q)
  refine x_if 29 rfl rfl (fun (hc2 : ¬ (F87_0 (v0 + 1) 0 q) = 0) => ?_) (fun (hc2 : (F87_0 (v0 + 1) 0 q) = 0) => ?_)
  · rw [if_neg hc2] at hG
    replace hS := hS.2 hc2
    refine x_run (pc' := 34) (lo' := [some (.ref v0)]) (st' := [.int 1]) 2 rfl ?_
    obtain ⟨rfl, rfl⟩ := hG
    exact x_zret rfl (by decide +kernel) (Or.inr rfl)
  · rw [if_pos hc2] at hG
    replace hS := hS.1 hc2
    refine x_run (pc' := 12) (lo' := [some (.ref v0)]) (st' := [.ref v0]) 1 rfl ?_
    refine x_gf (c := 321) (ne := 0) (v := .ref (v0 + 2)) rfl (by decide +kernel) (pc_s fv0) (pc_v1 fv0) ?_
    refine x_run (pc' := 16) (lo' := [some (.ref v0)]) (st' := [.int 0, .ref (v0 + 2)]) 1 rfl ?_
    obtain ⟨o3, hS⟩ := hS
    refine x_cv (j := 87) (ne := 0) (vs := [.int 0]) (rest := []) rfl (by decide +kernel) (by decide +kernel) (by decide) (Eq.trans rfl (show 1 = _ from by decide +kernel)) (rg_s (pc_r1 fv0)) (by decide +kernel) rfl (Nat.le_of_ble_eq_true rfl) (by omega) (T87 (Nat.le_refl 1) (pc_r1 fv0) o3) (hp_m hN) ?_
    show AW l X 71 c71 d r h' 19 [some (.ref v0)] [.int (F87_0 (v0 + 2) 0 q)] (hp q)
    refine x_if 29 rfl rfl (fun (hc4 : ¬ (F87_0 (v0 + 2) 0 q) = 0) => ?_) (fun (hc4 : (F87_0 (v0 + 2) 0 q) = 0) => ?_)
    · rw [if_neg hc4] at hG
      replace hS := hS.2 hc4
      refine x_run (pc' := 34) (lo' := [some (.ref v0)]) (st' := [.int 1]) 2 rfl ?_
      obtain ⟨rfl, rfl⟩ := hG
      exact x_zret rfl (by decide +kernel) (Or.inr rfl)
    · rw [if_pos hc4] at hG
      replace hS := hS.1 hc4
      refine x_run (pc' := 23) (lo' := [some (.ref v0)]) (st' := [.ref v0]) 1 rfl ?_
      refine x_gf (c := 322) (ne := 0) (v := .int (q.1 v0 2)) rfl (by decide +kernel) (pc_s fv0) rfl ?_
      refine x_if 33 rfl rfl (fun (hc5 : (q.1 v0 2) = 0) => ?_) (fun (hc5 : ¬ (q.1 v0 2) = 0) => ?_)
      · rw [if_pos hc5] at hG
        replace hS := hS.1 hc5
        refine x_run (pc' := 34) (lo' := [some (.ref v0)]) (st' := [.int 0]) 1 rfl ?_
        obtain ⟨rfl, rfl⟩ := hG
        exact x_zret rfl (by decide +kernel) (Or.inl rfl)
      · rw [if_neg hc5] at hG
        replace hS := hS.2 hc5
        refine x_run (pc' := 34) (lo' := [some (.ref v0)]) (st' := [.int 1]) 2 rfl ?_
        obtain ⟨rfl, rfl⟩ := hG
        exact x_zret rfl (by decide +kernel) (Or.inr rfl)
theorem T71 {l : Launch} {X : aX} {d : Nat} {v0 : Nat} {q : aQ} (hd : 2 ≤ d) (fv0 : isPic v0) (hS : S71_0 v0 q) : Call l X d 71 [.ref v0] (hp q) (some (.int (F71_0 v0 q))) (hp q) := Call.of ok71 (by decide) (Nat.le_of_ble_eq_true rfl) ⟨Nat.le_refl _, Nat.le_refl _⟩ (A71_0 hd rfl fv0 ⟨rfl, rfl⟩ hS)
/-- TypeForecast$Picture.hasOneValue()Z -/
def F72_53 (v0 : Nat) (q : aQ) : Int32 := (if (F85_0 (v0 + 1) q) = 0 then 0 else (if (F86_0 (v0 + 2) q) = 0 then 0 else 1))
def S72_53 (v0 : Nat) (q : aQ) : Prop := S85_0 (v0 + 1) q ∧ ((((F85_0 (v0 + 1) q) = 0) → True) ∧ (¬ ((F85_0 (v0 + 1) q) = 0) → S86_0 (v0 + 2) q ∧ ((((F86_0 (v0 + 2) q) = 0) → True) ∧ (¬ ((F86_0 (v0 + 2) q) = 0) → True))))
set_option maxRecDepth 100000 in
set_option maxHeartbeats 4000000 in
theorem A72_53 {l : Launch} {X : aX} {d : Nat} {r : Option Value} {h' : aH} {v0 : Nat} {q : aQ} (hd : 2 ≤ d) (hN : h'.1 = nk0) (fv0 : isPic v0) (hG : gI r h' (F72_53 v0 q, q)) (hS : S72_53 v0 q) : AW l X 72 c72 d r h' 53 [some (.ref v0)] [] (hp q) := by
  unfold F72_53 at hG
  unfold S72_53 at hS
  refine x_run (pc' := 54) (lo' := [some (.ref v0)]) (st' := [.ref v0]) 1 rfl ?_
  refine x_gf (c := 320) (ne := 0) (v := .ref (v0 + 1)) rfl (by decide +kernel) (pc_s fv0) (pc_v0 fv0) ?_
  obtain ⟨o4, hS⟩ := hS
  refine x_cv (j := 85) (ne := 0) (vs := []) (rest := []) rfl (by decide +kernel) (by decide +kernel) (by decide) (Eq.trans rfl (show 0 = _ from by decide +kernel)) (rg_s (pc_r0 fv0)) (by decide +kernel) rfl (Nat.le_of_ble_eq_true rfl) (by omega) (T85 (Nat.le_refl 1) (pc_r0 fv0) o4) (hp_m hN) ?_
  show AW l X 72 c72 d r h' 60 [some (.ref v0)] [.int (F85_0 (v0 + 1) q)] (hp q)
  refine x_if 77 rfl rfl (fun (hc5 : (F85_0 (v0 + 1) q) = 0) => ?_) (fun (hc5 : ¬ (F85_0 (v0 + 1) q) = 0) => ?_)
  · rw [if_pos hc5] at hG
    replace hS := hS.1 hc5
    refine x_run (pc' := 78) (lo' := [some (.ref v0)]) (st' := [.int 0]) 1 rfl ?_
    obtain ⟨rfl, rfl⟩ := hG
    exact x_zret rfl (by decide +kernel) (Or.inl rfl)
  · rw [if_neg hc5] at hG
    replace hS := hS.2 hc5
    refine x_run (pc' := 64) (lo' := [some (.ref v0)]) (st' := [.ref v0]) 1 rfl ?_
    refine x_gf (c := 321) (ne := 0) (v := .ref (v0 + 2)) rfl (by decide +kernel) (pc_s fv0) (pc_v1 fv0) ?_
    obtain ⟨o6, hS⟩ := hS
    refine x_cv (j := 86) (ne := 0) (vs := []) (rest := []) rfl (by decide +kernel) (by decide +kernel) (by decide) (Eq.trans rfl (show 0 = _ from by decide +kernel)) (rg_s (pc_r1 fv0)) (by decide +kernel) rfl (Nat.le_of_ble_eq_true rfl) (by omega) (T86 (Nat.le_refl 1) (pc_r1 fv0) o6) (hp_m hN) ?_
    show AW l X 72 c72 d r h' 70 [some (.ref v0)] [.int (F86_0 (v0 + 2) q)] (hp q)
    refine x_if 77 rfl rfl (fun (hc7 : (F86_0 (v0 + 2) q) = 0) => ?_) (fun (hc7 : ¬ (F86_0 (v0 + 2) q) = 0) => ?_)
    · rw [if_pos hc7] at hG
      replace hS := hS.1 hc7
      refine x_run (pc' := 78) (lo' := [some (.ref v0)]) (st' := [.int 0]) 1 rfl ?_
      obtain ⟨rfl, rfl⟩ := hG
      exact x_zret rfl (by decide +kernel) (Or.inl rfl)
    · rw [if_neg hc7] at hG
      replace hS := hS.2 hc7
      refine x_run (pc' := 78) (lo' := [some (.ref v0)]) (st' := [.int 1]) 2 rfl ?_
      obtain ⟨rfl, rfl⟩ := hG
      exact x_zret rfl (by decide +kernel) (Or.inr rfl)
def F72_0 (v0 : Nat) (q : aQ) : Int32 := (if (q.1 v0 2) = 0 then (if (F86_0 (v0 + 1) q) = 0 then F72_53 v0 q else (if (F85_0 (v0 + 2) q) = 0 then F72_53 v0 q else 1)) else (if (F85_0 (v0 + 1) q) = 0 then 0 else (if (F85_0 (v0 + 2) q) = 0 then 0 else 1)))
def S72_0 (v0 : Nat) (q : aQ) : Prop := (((q.1 v0 2) = 0) → S86_0 (v0 + 1) q ∧ ((((F86_0 (v0 + 1) q) = 0) → S72_53 v0 q) ∧ (¬ ((F86_0 (v0 + 1) q) = 0) → S85_0 (v0 + 2) q ∧ ((((F85_0 (v0 + 2) q) = 0) → S72_53 v0 q) ∧ (¬ ((F85_0 (v0 + 2) q) = 0) → True))))) ∧ (¬ ((q.1 v0 2) = 0) → S85_0 (v0 + 1) q ∧ ((((F85_0 (v0 + 1) q) = 0) → True) ∧ (¬ ((F85_0 (v0 + 1) q) = 0) → S85_0 (v0 + 2) q ∧ ((((F85_0 (v0 + 2) q) = 0) → True) ∧ (¬ ((F85_0 (v0 + 2) q) = 0) → True)))))
set_option maxRecDepth 100000 in
set_option maxHeartbeats 4000000 in
theorem A72_0 {l : Launch} {X : aX} {d : Nat} {r : Option Value} {h' : aH} {v0 : Nat} {q : aQ} (hd : 2 ≤ d) (hN : h'.1 = nk0) (fv0 : isPic v0) (hG : gI r h' (F72_0 v0 q, q)) (hS : S72_0 v0 q) : AW l X 72 c72 d r h' 0 [some (.ref v0)] [] (hp q) := by
  unfold F72_0 at hG
  unfold S72_0 at hS
  refine x_run (pc' := 1) (lo' := [some (.ref v0)]) (st' := [.ref v0]) 1 rfl ?_
  refine x_gf (c := 322) (ne := 0) (v := .int (q.1 v0 2)) rfl (by decide +kernel) (pc_s fv0) rfl ?_
  refine x_if 33 rfl rfl (fun (hc1 : (q.1 v0 2) = 0) => ?_) (fun (hc1 : ¬ (q.1 v0 2) = 0) => ?_)
  · rw [if_pos hc1] at hG
    replace hS := hS.1 hc1
    refine x_run (pc' := 34) (lo' := [some (.ref v0)]) (st' := [.ref v0]) 1 rfl ?_
    refine x_gf (c := 320) (ne := 0) (v := .ref (v0 + 1)) rfl (by decide +kernel) (pc_s fv0) (pc_v0 fv0) ?_
    obtain ⟨o2, hS⟩ := hS
    refine x_cv (j := 86) (ne := 0) (vs := []) (rest := []) rfl (by decide +kernel) (by decide +kernel) (by decide) (Eq.trans rfl (show 0 = _ from by decide +kernel)) (rg_s (pc_r0 fv0)) (by decide +kernel) rfl (Nat.le_of_ble_eq_true rfl) (by omega) (T86 (Nat.le_refl 1) (pc_r0 fv0) o2) (hp_m hN) ?_
    show AW l X 72 c72 d r h' 40 [some (.ref v0)] [.int (F86_0 (v0 + 1) q)] (hp q)
    refine x_if 53 rfl rfl (fun (hc3 : (F86_0 (v0 + 1) q) = 0) => ?_) (fun (hc3 : ¬ (F86_0 (v0 + 1) q) = 0) => ?_)
    · rw [if_pos hc3] at hG
      replace hS := hS.1 hc3
      exact A72_53 hd hN fv0 hG hS
    · rw [if_neg hc3] at hG
      replace hS := hS.2 hc3
      refine x_run (pc' := 44) (lo' := [some (.ref v0)]) (st' := [.ref v0]) 1 rfl ?_
      refine x_gf (c := 321) (ne := 0) (v := .ref (v0 + 2)) rfl (by decide +kernel) (pc_s fv0) (pc_v1 fv0) ?_
      obtain ⟨o8, hS⟩ := hS
      refine x_cv (j := 85) (ne := 0) (vs := []) (rest := []) rfl (by decide +kernel) (by decide +kernel) (by decide) (Eq.trans rfl (show 0 = _ from by decide +kernel)) (rg_s (pc_r1 fv0)) (by decide +kernel) rfl (Nat.le_of_ble_eq_true rfl) (by omega) (T85 (Nat.le_refl 1) (pc_r1 fv0) o8) (hp_m hN) ?_
      show AW l X 72 c72 d r h' 50 [some (.ref v0)] [.int (F85_0 (v0 + 2) q)] (hp q)
      refine x_if 73 rfl rfl (fun (hc9 : ¬ (F85_0 (v0 + 2) q) = 0) => ?_) (fun (hc9 : (F85_0 (v0 + 2) q) = 0) => ?_)
      · rw [if_neg hc9] at hG
        replace hS := hS.2 hc9
        refine x_run (pc' := 78) (lo' := [some (.ref v0)]) (st' := [.int 1]) 2 rfl ?_
        obtain ⟨rfl, rfl⟩ := hG
        exact x_zret rfl (by decide +kernel) (Or.inr rfl)
      · rw [if_pos hc9] at hG
        replace hS := hS.1 hc9
        exact A72_53 hd hN fv0 hG hS
  · rw [if_neg hc1] at hG
    replace hS := hS.2 hc1
    refine x_run (pc' := 8) (lo' := [some (.ref v0)]) (st' := [.ref v0]) 1 rfl ?_
    refine x_gf (c := 320) (ne := 0) (v := .ref (v0 + 1)) rfl (by decide +kernel) (pc_s fv0) (pc_v0 fv0) ?_
    obtain ⟨o10, hS⟩ := hS
    refine x_cv (j := 85) (ne := 0) (vs := []) (rest := []) rfl (by decide +kernel) (by decide +kernel) (by decide) (Eq.trans rfl (show 0 = _ from by decide +kernel)) (rg_s (pc_r0 fv0)) (by decide +kernel) rfl (Nat.le_of_ble_eq_true rfl) (by omega) (T85 (Nat.le_refl 1) (pc_r0 fv0) o10) (hp_m hN) ?_
    show AW l X 72 c72 d r h' 14 [some (.ref v0)] [.int (F85_0 (v0 + 1) q)] (hp q)
    refine x_if 31 rfl rfl (fun (hc11 : (F85_0 (v0 + 1) q) = 0) => ?_) (fun (hc11 : ¬ (F85_0 (v0 + 1) q) = 0) => ?_)
    · rw [if_pos hc11] at hG
      replace hS := hS.1 hc11
      refine x_run (pc' := 32) (lo' := [some (.ref v0)]) (st' := [.int 0]) 1 rfl ?_
      obtain ⟨rfl, rfl⟩ := hG
      exact x_zret rfl (by decide +kernel) (Or.inl rfl)
    · rw [if_neg hc11] at hG
      replace hS := hS.2 hc11
      refine x_run (pc' := 18) (lo' := [some (.ref v0)]) (st' := [.ref v0]) 1 rfl ?_
      refine x_gf (c := 321) (ne := 0) (v := .ref (v0 + 2)) rfl (by decide +kernel) (pc_s fv0) (pc_v1 fv0) ?_
      obtain ⟨o12, hS⟩ := hS
      refine x_cv (j := 85) (ne := 0) (vs := []) (rest := []) rfl (by decide +kernel) (by decide +kernel) (by decide) (Eq.trans rfl (show 0 = _ from by decide +kernel)) (rg_s (pc_r1 fv0)) (by decide +kernel) rfl (Nat.le_of_ble_eq_true rfl) (by omega) (T85 (Nat.le_refl 1) (pc_r1 fv0) o12) (hp_m hN) ?_
      show AW l X 72 c72 d r h' 24 [some (.ref v0)] [.int (F85_0 (v0 + 2) q)] (hp q)
      refine x_if 31 rfl rfl (fun (hc13 : (F85_0 (v0 + 2) q) = 0) => ?_) (fun (hc13 : ¬ (F85_0 (v0 + 2) q) = 0) => ?_)
      · rw [if_pos hc13] at hG
        replace hS := hS.1 hc13
        refine x_run (pc' := 32) (lo' := [some (.ref v0)]) (st' := [.int 0]) 1 rfl ?_
        obtain ⟨rfl, rfl⟩ := hG
        exact x_zret rfl (by decide +kernel) (Or.inl rfl)
      · rw [if_neg hc13] at hG
        replace hS := hS.2 hc13
        refine x_run (pc' := 32) (lo' := [some (.ref v0)]) (st' := [.int 1]) 2 rfl ?_
        obtain ⟨rfl, rfl⟩ := hG
        exact x_zret rfl (by decide +kernel) (Or.inr rfl)
theorem T72 {l : Launch} {X : aX} {d : Nat} {v0 : Nat} {q : aQ} (hd : 2 ≤ d) (fv0 : isPic v0) (hS : S72_0 v0 q) : Call l X d 72 [.ref v0] (hp q) (some (.int (F72_0 v0 q))) (hp q) := Call.of ok72 (by decide) (Nat.le_of_ble_eq_true rfl) ⟨Nat.le_refl _, Nat.le_refl _⟩ (A72_0 hd rfl fv0 ⟨rfl, rfl⟩ hS)
/-- TypeForecast$Picture.mayEqual(LTypeForecast$Picture;)Z -/
def F73_0 (v0 : Nat) (v1 : Nat) (q : aQ) : Int32 := (if (F89_0 (v0 + 1) (v1 + 1) q) = 0 then (if (F89_0 (v0 + 2) (v1 + 2) q) = 0 then (if (q.1 v0 2) = 0 then 0 else (if (q.1 v1 2) = 0 then 0 else 1)) else 1) else 1)
def S73_0 (v0 : Nat) (v1 : Nat) (q : aQ) : Prop := S89_0 (v0 + 1) (v1 + 1) q ∧ ((((F89_0 (v0 + 1) (v1 + 1) q) = 0) → S89_0 (v0 + 2) (v1 + 2) q ∧ ((((F89_0 (v0 + 2) (v1 + 2) q) = 0) → (((q.1 v0 2) = 0) → True) ∧ (¬ ((q.1 v0 2) = 0) → (((q.1 v1 2) = 0) → True) ∧ (¬ ((q.1 v1 2) = 0) → True))) ∧ (¬ ((F89_0 (v0 + 2) (v1 + 2) q) = 0) → True))) ∧ (¬ ((F89_0 (v0 + 1) (v1 + 1) q) = 0) → True))
set_option maxRecDepth 100000 in
set_option maxHeartbeats 4000000 in
theorem A73_0 {l : Launch} {X : aX} {d : Nat} {r : Option Value} {h' : aH} {v0 : Nat} {v1 : Nat} {q : aQ} (hd : 2 ≤ d) (hN : h'.1 = nk0) (fv0 : isPic v0) (fv1 : isPic v1) (hG : gI r h' (F73_0 v0 v1 q, q)) (hS : S73_0 v0 v1 q) : AW l X 73 c73 d r h' 0 [some (.ref v0), some (.ref v1)] [] (hp q) := by
  unfold F73_0 at hG
  unfold S73_0 at hS
  refine x_run (pc' := 1) (lo' := [some (.ref v0), some (.ref v1)]) (st' := [.ref v0]) 1 rfl ?_
  refine x_gf (c := 320) (ne := 0) (v := .ref (v0 + 1)) rfl (by decide +kernel) (pc_s fv0) (pc_v0 fv0) ?_
  refine x_run (pc' := 5) (lo' := [some (.ref v0), some (.ref v1)]) (st' := [.ref v1, .ref (v0 + 1)]) 1 rfl ?_
  refine x_gf (c := 320) (ne := 0) (v := .ref (v1 + 1)) rfl (by decide +kernel) (pc_s fv1) (pc_v0 fv1) ?_
  obtain ⟨o1, hS⟩ := hS
  refine x_cv (j := 89) (ne := 0) (vs := [.ref (v1 + 1)]) (rest := []) rfl (by decide +kernel) (by decide +kernel) (by decide) (Eq.trans rfl (show 1 = _ from by decide +kernel)) (rg_s (pc_r0 fv0)) (by decide +kernel) rfl (Nat.le_of_ble_eq_true rfl) (by omega) (T89 (Nat.le_refl 1) (pc_r0 fv0) (pc_r0 fv1) o1) (hp_m hN) ?_
  show AW l X 73 c73 d r h' 11 [some (.ref v0), some (.ref v1)] [.int (F89_0 (v0 + 1) (v1 + 1) q)] (hp q)
  refine x_if 42 rfl rfl (fun (hc2 : ¬ (F89_0 (v0 + 1) (v1 + 1) q) = 0) => ?_) (fun (hc2 : (F89_0 (v0 + 1) (v1 + 1) q) = 0) => ?_)
  · rw [if_neg hc2] at hG
    replace hS := hS.2 hc2
    refine x_run (pc' := 47) (lo' := [some (.ref v0), some (.ref v1)]) (st' := [.int 1]) 2 rfl ?_
    obtain ⟨rfl, rfl⟩ := hG
    exact x_zret rfl (by decide +kernel) (Or.inr rfl)
  · rw [if_pos hc2] at hG
    replace hS := hS.1 hc2
    refine x_run (pc' := 15) (lo' := [some (.ref v0), some (.ref v1)]) (st' := [.ref v0]) 1 rfl ?_
    refine x_gf (c := 321) (ne := 0) (v := .ref (v0 + 2)) rfl (by decide +kernel) (pc_s fv0) (pc_v1 fv0) ?_
    refine x_run (pc' := 19) (lo' := [some (.ref v0), some (.ref v1)]) (st' := [.ref v1, .ref (v0 + 2)]) 1 rfl ?_
    refine x_gf (c := 321) (ne := 0) (v := .ref (v1 + 2)) rfl (by decide +kernel) (pc_s fv1) (pc_v1 fv1) ?_
    obtain ⟨o3, hS⟩ := hS
    refine x_cv (j := 89) (ne := 0) (vs := [.ref (v1 + 2)]) (rest := []) rfl (by decide +kernel) (by decide +kernel) (by decide) (Eq.trans rfl (show 1 = _ from by decide +kernel)) (rg_s (pc_r1 fv0)) (by decide +kernel) rfl (Nat.le_of_ble_eq_true rfl) (by omega) (T89 (Nat.le_refl 1) (pc_r1 fv0) (pc_r1 fv1) o3) (hp_m hN) ?_
    show AW l X 73 c73 d r h' 25 [some (.ref v0), some (.ref v1)] [.int (F89_0 (v0 + 2) (v1 + 2) q)] (hp q)
    refine x_if 42 rfl rfl (fun (hc4 : ¬ (F89_0 (v0 + 2) (v1 + 2) q) = 0) => ?_) (fun (hc4 : (F89_0 (v0 + 2) (v1 + 2) q) = 0) => ?_)
    · rw [if_neg hc4] at hG
      replace hS := hS.2 hc4
      refine x_run (pc' := 47) (lo' := [some (.ref v0), some (.ref v1)]) (st' := [.int 1]) 2 rfl ?_
      obtain ⟨rfl, rfl⟩ := hG
      exact x_zret rfl (by decide +kernel) (Or.inr rfl)
    · rw [if_pos hc4] at hG
      replace hS := hS.1 hc4
      refine x_run (pc' := 29) (lo' := [some (.ref v0), some (.ref v1)]) (st' := [.ref v0]) 1 rfl ?_
      refine x_gf (c := 322) (ne := 0) (v := .int (q.1 v0 2)) rfl (by decide +kernel) (pc_s fv0) rfl ?_
      refine x_if 46 rfl rfl (fun (hc5 : (q.1 v0 2) = 0) => ?_) (fun (hc5 : ¬ (q.1 v0 2) = 0) => ?_)
      · rw [if_pos hc5] at hG
        replace hS := hS.1 hc5
        refine x_run (pc' := 47) (lo' := [some (.ref v0), some (.ref v1)]) (st' := [.int 0]) 1 rfl ?_
        obtain ⟨rfl, rfl⟩ := hG
        exact x_zret rfl (by decide +kernel) (Or.inl rfl)
      · rw [if_neg hc5] at hG
        replace hS := hS.2 hc5
        refine x_run (pc' := 36) (lo' := [some (.ref v0), some (.ref v1)]) (st' := [.ref v1]) 1 rfl ?_
        refine x_gf (c := 322) (ne := 0) (v := .int (q.1 v1 2)) rfl (by decide +kernel) (pc_s fv1) rfl ?_
        refine x_if 46 rfl rfl (fun (hc6 : (q.1 v1 2) = 0) => ?_) (fun (hc6 : ¬ (q.1 v1 2) = 0) => ?_)
        · rw [if_pos hc6] at hG
          replace hS := hS.1 hc6
          refine x_run (pc' := 47) (lo' := [some (.ref v0), some (.ref v1)]) (st' := [.int 0]) 1 rfl ?_
          obtain ⟨rfl, rfl⟩ := hG
          exact x_zret rfl (by decide +kernel) (Or.inl rfl)
        · rw [if_neg hc6] at hG
          replace hS := hS.2 hc6
          refine x_run (pc' := 47) (lo' := [some (.ref v0), some (.ref v1)]) (st' := [.int 1]) 2 rfl ?_
          obtain ⟨rfl, rfl⟩ := hG
          exact x_zret rfl (by decide +kernel) (Or.inr rfl)
theorem T73 {l : Launch} {X : aX} {d : Nat} {v0 : Nat} {v1 : Nat} {q : aQ} (hd : 2 ≤ d) (fv0 : isPic v0) (fv1 : isPic v1) (hS : S73_0 v0 v1 q) : Call l X d 73 [.ref v0, .ref v1] (hp q) (some (.int (F73_0 v0 v1 q))) (hp q) := Call.of ok73 (by decide) (Nat.le_of_ble_eq_true rfl) ⟨Nat.le_refl _, Nat.le_refl _⟩ (A73_0 hd rfl fv0 fv1 ⟨rfl, rfl⟩ hS)
/-- TypeForecast$Picture.mayDiffer(LTypeForecast$Picture;)Z -/
def F74_0 (v0 : Nat) (v1 : Nat) (q : aQ) : Int32 := (if (F72_0 v0 q) = 0 then 1 else (if (F72_0 v1 q) = 0 then 1 else (if (F73_0 v0 v1 q) = 0 then 1 else 0)))
def S74_0 (v0 : Nat) (v1 : Nat) (q : aQ) : Prop := S72_0 v0 q ∧ ((((F72_0 v0 q) = 0) → True) ∧ (¬ ((F72_0 v0 q) = 0) → S72_0 v1 q ∧ ((((F72_0 v1 q) = 0) → True) ∧ (¬ ((F72_0 v1 q) = 0) → S73_0 v0 v1 q ∧ ((((F73_0 v0 v1 q) = 0) → True) ∧ (¬ ((F73_0 v0 v1 q) = 0) → True))))))
set_option maxRecDepth 100000 in
set_option maxHeartbeats 4000000 in
theorem A74_0 {l : Launch} {X : aX} {d : Nat} {r : Option Value} {h' : aH} {v0 : Nat} {v1 : Nat} {q : aQ} (hd : 3 ≤ d) (hN : h'.1 = nk0) (fv0 : isPic v0) (fv1 : isPic v1) (hG : gI r h' (F74_0 v0 v1 q, q)) (hS : S74_0 v0 v1 q) : AW l X 74 c74 d r h' 0 [some (.ref v0), some (.ref v1)] [] (hp q) := by
  unfold F74_0 at hG
  unfold S74_0 at hS
  refine x_run (pc' := 1) (lo' := [some (.ref v0), some (.ref v1)]) (st' := [.ref v0]) 1 rfl ?_
  obtain ⟨o1, hS⟩ := hS
  refine x_cv (j := 72) (ne := 0) (vs := []) (rest := []) rfl (by decide +kernel) (by decide +kernel) (by decide) (Eq.trans rfl (show 0 = _ from by decide +kernel)) (pc_s fv0) (by decide +kernel) rfl (Nat.le_of_ble_eq_true rfl) (by omega) (T72 (Nat.le_refl 2) fv0 o1) (hp_m hN) ?_
  show AW l X 74 c74 d r h' 4 [some (.ref v0), some (.ref v1)] [.int (F72_0 v0 q)] (hp q)
  refine x_if 22 rfl rfl (fun (hc2 : (F72_0 v0 q) = 0) => ?_) (fun (hc2 : ¬ (F72_0 v0 q) = 0) => ?_)
  · rw [if_pos hc2] at hG
    replace hS := hS.1 hc2
    refine x_run (pc' := 27) (lo' := [some (.ref v0), some (.ref v1)]) (st' := [.int 1]) 2 rfl ?_
    obtain ⟨rfl, rfl⟩ := hG
    exact x_zret rfl (by decide +kernel) (Or.inr rfl)
  · rw [if_neg hc2] at hG
    replace hS := hS.2 hc2
    refine x_run (pc' := 8) (lo' := [some (.ref v0), some (.ref v1)]) (st' := [.ref v1]) 1 rfl ?_
    obtain ⟨o3, hS⟩ := hS
    refine x_cv (j := 72) (ne := 0) (vs := []) (rest := []) rfl (by decide +kernel) (by decide +kernel) (by decide) (Eq.trans rfl (show 0 = _ from by decide +kernel)) (pc_s fv1) (by decide +kernel) rfl (Nat.le_of_ble_eq_true rfl) (by omega) (T72 (Nat.le_refl 2) fv1 o3) (hp_m hN) ?_
    show AW l X 74 c74 d r h' 11 [some (.ref v0), some (.ref v1)] [.int (F72_0 v1 q)] (hp q)
    refine x_if 22 rfl rfl (fun (hc4 : (F72_0 v1 q) = 0) => ?_) (fun (hc4 : ¬ (F72_0 v1 q) = 0) => ?_)
    · rw [if_pos hc4] at hG
      replace hS := hS.1 hc4
      refine x_run (pc' := 27) (lo' := [some (.ref v0), some (.ref v1)]) (st' := [.int 1]) 2 rfl ?_
      obtain ⟨rfl, rfl⟩ := hG
      exact x_zret rfl (by decide +kernel) (Or.inr rfl)
    · rw [if_neg hc4] at hG
      replace hS := hS.2 hc4
      refine x_run (pc' := 16) (lo' := [some (.ref v0), some (.ref v1)]) (st' := [.ref v1, .ref v0]) 2 rfl ?_
      obtain ⟨o5, hS⟩ := hS
      refine x_cv (j := 73) (ne := 0) (vs := [.ref v1]) (rest := []) rfl (by decide +kernel) (by decide +kernel) (by decide) (Eq.trans rfl (show 1 = _ from by decide +kernel)) (pc_s fv0) (by decide +kernel) rfl (Nat.le_of_ble_eq_true rfl) (by omega) (T73 (Nat.le_refl 2) fv0 fv1 o5) (hp_m hN) ?_
      show AW l X 74 c74 d r h' 19 [some (.ref v0), some (.ref v1)] [.int (F73_0 v0 v1 q)] (hp q)
      refine x_if 26 rfl rfl (fun (hc6 : ¬ (F73_0 v0 v1 q) = 0) => ?_) (fun (hc6 : (F73_0 v0 v1 q) = 0) => ?_)
      · rw [if_neg hc6] at hG
        replace hS := hS.2 hc6
        refine x_run (pc' := 27) (lo' := [some (.ref v0), some (.ref v1)]) (st' := [.int 0]) 1 rfl ?_
        obtain ⟨rfl, rfl⟩ := hG
        exact x_zret rfl (by decide +kernel) (Or.inl rfl)
      · rw [if_pos hc6] at hG
        replace hS := hS.1 hc6
        refine x_run (pc' := 27) (lo' := [some (.ref v0), some (.ref v1)]) (st' := [.int 1]) 2 rfl ?_
        obtain ⟨rfl, rfl⟩ := hG
        exact x_zret rfl (by decide +kernel) (Or.inr rfl)
theorem T74 {l : Launch} {X : aX} {d : Nat} {v0 : Nat} {v1 : Nat} {q : aQ} (hd : 3 ≤ d) (fv0 : isPic v0) (fv1 : isPic v1) (hS : S74_0 v0 v1 q) : Call l X d 74 [.ref v0, .ref v1] (hp q) (some (.int (F74_0 v0 v1 q))) (hp q) := Call.of ok74 (by decide) (Nat.le_of_ble_eq_true rfl) ⟨Nat.le_refl _, Nat.le_refl _⟩ (A74_0 hd rfl fv0 fv1 ⟨rfl, rfl⟩ hS)
/-- TypeForecast$Picture.includeTruth(ZZ)V -/
def F75_22 (s0 : Int32) (s1 : Int32) (s2 : Nat) (q : aQ) : aQ := (F82_0 s2 s1 s0 q)
def S75_22 (s0 : Int32) (s1 : Int32) (s2 : Nat) (q : aQ) : Prop := S82_0 s2 s1 s0 q ∧ (True)
set_option maxRecDepth 100000 in
set_option maxHeartbeats 4000000 in
theorem A75_22 {l : Launch} {X : aX} {d : Nat} {r : Option Value} {h' : aH} {s0 : Int32} {s1 : Int32} {s2 : Nat} {q : aQ} (hd : 2 ≤ d) (hN : h'.1 = nk0) (fs2 : isRng s2) (hG : gV r h' (F75_22 s0 s1 s2 q)) (hS : S75_22 s0 s1 s2 q) : AW l X 75 c75 d r h' 22 [none, none, none] [.int s0, .int s1, .ref s2] (hp q) := by
  unfold F75_22 at hG
  unfold S75_22 at hS
  obtain ⟨o3, hS⟩ := hS
  refine x_cv (j := 82) (ne := 0) (vs := [.int s1, .int s0]) (rest := []) rfl (by decide +kernel) (by decide +kernel) (by decide) (Eq.trans rfl (show 2 = _ from by decide +kernel)) (rg_s fs2) (by decide +kernel) rfl (Nat.le_of_ble_eq_true rfl) (by omega) (T82 (Nat.le_refl 1) fs2 o3) (hp_m hN) ?_
  show AW l X 75 c75 d r h' 25 [none, none, none] [] (hp (F82_0 s2 s1 s0 q))
  obtain ⟨rfl, rfl⟩ := hG
  exact x_ret rfl (by decide +kernel)
def F75_13 (v1 : Int32) (s0 : Int32) (s1 : Nat) (q : aQ) : aQ := (if v1 = 0 then F75_22 0 s0 s1 q else F75_22 1 s0 s1 q)
def S75_13 (v1 : Int32) (s0 : Int32) (s1 : Nat) (q : aQ) : Prop := ((v1 = 0) → S75_22 0 s0 s1 q) ∧ (¬ (v1 = 0) → S75_22 1 s0 s1 q)
set_option maxRecDepth 100000 in
set_option maxHeartbeats 4000000 in
theorem A75_13 {l : Launch} {X : aX} {d : Nat} {r : Option Value} {h' : aH} {v1 : Int32} {s0 : Int32} {s1 : Nat} {q : aQ} (hd : 2 ≤ d) (hN : h'.1 = nk0) (fs1 : isRng s1) (hG : gV r h' (F75_13 v1 s0 s1 q)) (hS : S75_13 v1 s0 s1 q) : AW l X 75 c75 d r h' 13 [none, some (.int v1), none] [.int s0, .ref s1] (hp q) := by
  unfold F75_13 at hG
  unfold S75_13 at hS
  refine x_run (pc' := 14) (lo' := [none, some (.int v1), none]) (st' := [.int v1, .int s0, .ref s1]) 1 rfl ?_
  refine x_if 21 rfl rfl (fun (hc2 : v1 = 0) => ?_) (fun (hc2 : ¬ v1 = 0) => ?_)
  · rw [if_pos hc2] at hG
    replace hS := hS.1 hc2
    refine x_run (pc' := 22) (lo' := [none, some (.int v1), none]) (st' := [.int 0, .int s0, .ref s1]) 1 rfl ?_
    refine x_kill [1] ?_
    exact A75_22 hd hN fs1 hG hS
  · rw [if_neg hc2] at hG
    replace hS := hS.2 hc2
    refine x_run (pc' := 22) (lo' := [none, some (.int v1), none]) (st' := [.int 1, .int s0, .ref s1]) 2 rfl ?_
    refine x_kill [1] ?_
    exact A75_22 hd hN fs1 hG hS
def F75_0 (v0 : Nat) (v1 : Int32) (v2 : Int32) (q : aQ) : aQ := (if v2 = 0 then F75_13 v1 1 (v0 + 1) q else F75_13 v1 0 (v0 + 1) q)
def S75_0 (v0 : Nat) (v1 : Int32) (v2 : Int32) (q : aQ) : Prop := ((v2 = 0) → S75_13 v1 1 (v0 + 1) q) ∧ (¬ (v2 = 0) → S75_13 v1 0 (v0 + 1) q)
set_option maxRecDepth 100000 in
set_option maxHeartbeats 4000000 in
theorem A75_0 {l : Launch} {X : aX} {d : Nat} {r : Option Value} {h' : aH} {v0 : Nat} {v1 : Int32} {v2 : Int32} {q : aQ} (hd : 2 ≤ d) (hN : h'.1 = nk0) (fv0 : isPic v0) (hG : gV r h' (F75_0 v0 v1 v2 q)) (hS : S75_0 v0 v1 v2 q) : AW l X 75 c75 d r h' 0 [some (.ref v0), some (.int v1), some (.int v2)] [] (hp q) := by
  unfold F75_0 at hG
  unfold S75_0 at hS
  refine x_run (pc' := 1) (lo' := [some (.ref v0), some (.int v1), some (.int v2)]) (st' := [.ref v0]) 1 rfl ?_
  refine x_gf (c := 320) (ne := 0) (v := .ref (v0 + 1)) rfl (by decide +kernel) (pc_s fv0) (pc_v0 fv0) ?_
  refine x_run (pc' := 5) (lo' := [some (.ref v0), some (.int v1), some (.int v2)]) (st' := [.int v2, .ref (v0 + 1)]) 1 rfl ?_
  refine x_if 12 rfl rfl (fun (hc1 : v2 = 0) => ?_) (fun (hc1 : ¬ v2 = 0) => ?_)
  · rw [if_pos hc1] at hG
    replace hS := hS.1 hc1
    refine x_run (pc' := 13) (lo' := [some (.ref v0), some (.int v1), some (.int v2)]) (st' := [.int 1, .ref (v0 + 1)]) 1 rfl ?_
    refine x_kill [0, 2] ?_
    exact A75_13 hd hN (pc_r0 fv0) hG hS
  · rw [if_neg hc1] at hG
    replace hS := hS.2 hc1
    refine x_run (pc' := 13) (lo' := [some (.ref v0), some (.int v1), some (.int v2)]) (st' := [.int 0, .ref (v0 + 1)]) 2 rfl ?_
    refine x_kill [0, 2] ?_
    exact A75_13 hd hN (pc_r0 fv0) hG hS
theorem T75 {l : Launch} {X : aX} {d : Nat} {v0 : Nat} {v1 : Int32} {v2 : Int32} {q : aQ} (hd : 2 ≤ d) (fv0 : isPic v0) (hS : S75_0 v0 v1 v2 q) : Call l X d 75 [.ref v0, .int v1, .int v2] (hp q) none (hp (F75_0 v0 v1 v2 q)) := Call.of ok75 (by decide) (Nat.le_of_ble_eq_true rfl) ⟨Nat.le_refl _, Nat.le_refl _⟩ (A75_0 hd rfl fv0 ⟨rfl, rfl⟩ hS)
/-- TypeForecast$Picture.keepTruth(Z)V -/
def F76_37 (v0 : Nat) (q : aQ) : aQ := (F92_0 (v0 + 2) 0 0 q)
def S76_37 (v0 : Nat) (q : aQ) : Prop := S92_0 (v0 + 2) 0 0 q ∧ (True)
set_option maxRecDepth 100000 in
set_option maxHeartbeats 4000000 in
theorem A76_37 {l : Launch} {X : aX} {d : Nat} {r : Option Value} {h' : aH} {v0 : Nat} {q : aQ} (hd : 3 ≤ d) (hN : h'.1 = nk0) (fv0 : isPic v0) (hG : gV r h' (F76_37 v0 q)) (hS : S76_37 v0 q) : AW l X 76 c76 d r h' 37 [some (.ref v0), none] [] (hp q) := by
  unfold F76_37 at hG
  unfold S76_37 at hS
  refine x_run (pc' := 38) (lo' := [some (.ref v0), none]) (st' := [.ref v0]) 1 rfl ?_
  refine x_gf (c := 321) (ne := 0) (v := .ref (v0 + 2)) rfl (by decide +kernel) (pc_s fv0) (pc_v1 fv0) ?_
  refine x_run (pc' := 43) (lo' := [some (.ref v0), none]) (st' := [.int 0, .int 0, .ref (v0 + 2)]) 2 rfl ?_
  obtain ⟨o3, hS⟩ := hS
  refine x_cv (j := 92) (ne := 0) (vs := [.int 0, .int 0]) (rest := []) rfl (by decide +kernel) (by decide +kernel) (by decide) (Eq.trans rfl (show 2 = _ from by decide +kernel)) (rg_s (pc_r1 fv0)) (by decide +kernel) rfl (Nat.le_of_ble_eq_true rfl) (by omega) (T92 (Nat.le_refl 2) (pc_r1 fv0) o3) (hp_m hN) ?_
  show AW l X 76 c76 d r h' 46 [some (.ref v0), none] [] (hp (F92_0 (v0 + 2) 0 0 q))
  obtain ⟨rfl, rfl⟩ := hG
  exact x_ret rfl (by decide +kernel)
def F76_20 (v0 : Nat) (q : aQ) : aQ := (a_w q v0 2 0)
def S76_20 (v0 : Nat) (q : aQ) : Prop := True
set_option maxRecDepth 100000 in
set_option maxHeartbeats 4000000 in
theorem A76_20 {l : Launch} {X : aX} {d : Nat} {r : Option Value} {h' : aH} {v0 : Nat} {q : aQ} (hd : 3 ≤ d) (hN : h'.1 = nk0) (fv0 : isPic v0) (hG : gV r h' (F76_20 v0 q)) (hS : S76_20 v0 q) : AW l X 76 c76 d r h' 20 [some (.ref v0), none] [] (hp q) := by
  unfold F76_20 at hG
  unfold S76_20 at hS
  refine x_run (pc' := 22) (lo' := [some (.ref v0), none]) (st' := [.int 0, .ref v0]) 2 rfl ?_
  refine x_pf (c := 322) (ne := 0) (h2 := hp (a_w q v0 2 0)) rfl (by decide +kernel) (by decide +kernel) (pc_s fv0) (pv_z rfl (Or.inl rfl)) ?_
  refine x_run (pc' := 46) (lo' := [some (.ref v0), none]) (st' := []) 1 rfl ?_
  obtain ⟨rfl, rfl⟩ := hG
  exact x_ret rfl (by decide +kernel)
def F76_12 (v0 : Nat) (q : aQ) : aQ := F76_20 v0 (F93_0 (v0 + 2) 0 q)
def S76_12 (v0 : Nat) (q : aQ) : Prop := S93_0 (v0 + 2) 0 q ∧ (S76_20 v0 (F93_0 (v0 + 2) 0 q))
set_option maxRecDepth 100000 in
set_option maxHeartbeats 4000000 in
theorem A76_12 {l : Launch} {X : aX} {d : Nat} {r : Option Value} {h' : aH} {v0 : Nat} {q : aQ} (hd : 3 ≤ d) (hN : h'.1 = nk0) (fv0 : isPic v0) (hG : gV r h' (F76_12 v0 q)) (hS : S76_12 v0 q) : AW l X 76 c76 d r h' 12 [some (.ref v0), none] [] (hp q) := by
  unfold F76_12 at hG
  unfold S76_12 at hS
  refine x_run (pc' := 13) (lo' := [some (.ref v0), none]) (st' := [.ref v0]) 1 rfl ?_
  refine x_gf (c := 321) (ne := 0) (v := .ref (v0 + 2)) rfl (by decide +kernel) (pc_s fv0) (pc_v1 fv0) ?_
  refine x_run (pc' := 17) (lo' := [some (.ref v0), none]) (st' := [.int 0, .ref (v0 + 2)]) 1 rfl ?_
  obtain ⟨o5, hS⟩ := hS
  refine x_cv (j := 93) (ne := 0) (vs := [.int 0]) (rest := []) rfl (by decide +kernel) (by decide +kernel) (by decide) (Eq.trans rfl (show 1 = _ from by decide +kernel)) (rg_s (pc_r1 fv0)) (by decide +kernel) rfl (Nat.le_of_ble_eq_true rfl) (by omega) (T93 (Nat.le_refl 2) (pc_r1 fv0) o5) (hp_m hN) ?_
  show AW l X 76 c76 d r h' 20 [some (.ref v0), none] [] (hp (F93_0 (v0 + 2) 0 q))
  exact A76_20 hd hN fv0 hG hS
def F76_0 (v0 : Nat) (v1 : Int32) (q : aQ) : aQ := (if v1 = 0 then F76_37 v0 (F92_0 (v0 + 1) 0 0 q) else F76_12 v0 (F93_0 (v0 + 1) 0 q))
def S76_0 (v0 : Nat) (v1 : Int32) (q : aQ) : Prop := ((v1 = 0) → S92_0 (v0 + 1) 0 0 q ∧ (S76_37 v0 (F92_0 (v0 + 1) 0 0 q))) ∧ (¬ (v1 = 0) → S93_0 (v0 + 1) 0 q ∧ (S76_12 v0 (F93_0 (v0 + 1) 0 q)))
set_option maxRecDepth 100000 in
set_option maxHeartbeats 4000000 in
theorem A76_0 {l : Launch} {X : aX} {d : Nat} {r : Option Value} {h' : aH} {v0 : Nat} {v1 : Int32} {q : aQ} (hd : 3 ≤ d) (hN : h'.1 = nk0) (fv0 : isPic v0) (hG : gV r h' (F76_0 v0 v1 q)) (hS : S76_0 v0 v1 q) : AW l X 76 c76 d r h' 0 [some (.ref v0), some (.int v1)] [] (hp q) := by
  unfold F76_0 at hG
  unfold S76_0 at hS
  refine x_run (pc' := 1) (lo' := [some (.ref v0), some (.int v1)]) (st' := [.int v1]) 1 rfl ?_
  refine x_if 28 rfl rfl (fun (hc1 : v1 = 0) => ?_) (fun (hc1 : ¬ v1 = 0) => ?_)
  · rw [if_pos hc1] at hG
    replace hS := hS.1 hc1
    refine x_run (pc' := 29) (lo' := [some (.ref v0), some (.int v1)]) (st' := [.ref v0]) 1 rfl ?_
    refine x_gf (c := 320) (ne := 0) (v := .ref (v0 + 1)) rfl (by decide +kernel) (pc_s fv0) (pc_v0 fv0) ?_
    refine x_run (pc' := 34) (lo' := [some (.ref v0), some (.int v1)]) (st' := [.int 0, .int 0, .ref (v0 + 1)]) 2 rfl ?_
    obtain ⟨o2, hS⟩ := hS
    refine x_cv (j := 92) (ne := 0) (vs := [.int 0, .int 0]) (rest := []) rfl (by decide +kernel) (by decide +kernel) (by decide) (Eq.trans rfl (show 2 = _ from by decide +kernel)) (rg_s (pc_r0 fv0)) (by decide +kernel) rfl (Nat.le_of_ble_eq_true rfl) (by omega) (T92 (Nat.le_refl 2) (pc_r0 fv0) o2) (hp_m hN) ?_
    show AW l X 76 c76 d r h' 37 [some (.ref v0), some (.int v1)] [] (hp (F92_0 (v0 + 1) 0 0 q))
    refine x_kill [1] ?_
    exact A76_37 hd hN fv0 hG hS
  · rw [if_neg hc1] at hG
    replace hS := hS.2 hc1
    refine x_run (pc' := 5) (lo' := [some (.ref v0), some (.int v1)]) (st' := [.ref v0]) 1 rfl ?_
    refine x_gf (c := 320) (ne := 0) (v := .ref (v0 + 1)) rfl (by decide +kernel) (pc_s fv0) (pc_v0 fv0) ?_
    refine x_run (pc' := 9) (lo' := [some (.ref v0), some (.int v1)]) (st' := [.int 0, .ref (v0 + 1)]) 1 rfl ?_
    obtain ⟨o4, hS⟩ := hS
    refine x_cv (j := 93) (ne := 0) (vs := [.int 0]) (rest := []) rfl (by decide +kernel) (by decide +kernel) (by decide) (Eq.trans rfl (show 1 = _ from by decide +kernel)) (rg_s (pc_r0 fv0)) (by decide +kernel) rfl (Nat.le_of_ble_eq_true rfl) (by omega) (T93 (Nat.le_refl 2) (pc_r0 fv0) o4) (hp_m hN) ?_
    show AW l X 76 c76 d r h' 12 [some (.ref v0), some (.int v1)] [] (hp (F93_0 (v0 + 1) 0 q))
    refine x_kill [1] ?_
    exact A76_12 hd hN fv0 hG hS
theorem T76 {l : Launch} {X : aX} {d : Nat} {v0 : Nat} {v1 : Int32} {q : aQ} (hd : 3 ≤ d) (fv0 : isPic v0) (hS : S76_0 v0 v1 q) : Call l X d 76 [.ref v0, .int v1] (hp q) none (hp (F76_0 v0 v1 q)) := Call.of ok76 (by decide) (Nat.le_of_ble_eq_true rfl) ⟨Nat.le_refl _, Nat.le_refl _⟩ (A76_0 hd rfl fv0 ⟨rfl, rfl⟩ hS)
/-- TypeForecast$Picture.keepLess(LTypeForecast$Picture;Z)V -/
def F77_67 (v0 : Nat) (v1 : Nat) (q : aQ) : aQ := (F92_0 (v0 + 2) (q.1 (v1 + 2) 0) 1000 q)
def S77_67 (v0 : Nat) (v1 : Nat) (q : aQ) : Prop := S92_0 (v0 + 2) (q.1 (v1 + 2) 0) 1000 q ∧ (True)
set_option maxRecDepth 100000 in
set_option maxHeartbeats 4000000 in
theorem A77_67 {l : Launch} {X : aX} {d : Nat} {r : Option Value} {h' : aH} {v0 : Nat} {v1 : Nat} {q : aQ} (hd : 3 ≤ d) (hN : h'.1 = nk0) (fv0 : isPic v0) (fv1 : isPic v1) (hG : gV r h' (F77_67 v0 v1 q)) (hS : S77_67 v0 v1 q) : AW l X 77 c77 d r h' 67 [some (.ref v0), some (.ref v1), none] [] (hp q) := by
  unfold F77_67 at hG
  unfold S77_67 at hS
  refine x_run (pc' := 68) (lo' := [some (.ref v0), some (.ref v1), none]) (st' := [.ref v0]) 1 rfl ?_
  refine x_gf (c := 321) (ne := 0) (v := .ref (v0 + 2)) rfl (by decide +kernel) (pc_s fv0) (pc_v1 fv0) ?_
  refine x_run (pc' := 72) (lo' := [some (.ref v0), some (.ref v1), none]) (st' := [.ref v1, .ref (v0 + 2)]) 1 rfl ?_
  refine x_gf (c := 321) (ne := 0) (v := .ref (v1 + 2)) rfl (by decide +kernel) (pc_s fv1) (pc_v1 fv1) ?_
  refine x_gf (c := 384) (ne := 1) (v := .int (q.1 (v1 + 2) 0)) rfl (by decide +kernel) (rg_s (pc_r1 fv1)) rfl ?_
  refine x_run (pc' := 81) (lo' := [some (.ref v0), some (.ref v1), none]) (st' := [.int 1000, .int (q.1 (v1 + 2) 0), .ref (v0 + 2)]) 1 rfl ?_
  obtain ⟨o3, hS⟩ := hS
  refine x_cv (j := 92) (ne := 0) (vs := [.int (q.1 (v1 + 2) 0), .int 1000]) (rest := []) rfl (by decide +kernel) (by decide +kernel) (by decide) (Eq.trans rfl (show 2 = _ from by decide +kernel)) (rg_s (pc_r1 fv0)) (by decide +kernel) rfl (Nat.le_of_ble_eq_true rfl) (by omega) (T92 (Nat.le_refl 2) (pc_r1 fv0) o3) (hp_m hN) ?_
  show AW l X 77 c77 d r h' 84 [some (.ref v0), some (.ref v1), none] [] (hp (F92_0 (v0 + 2) (q.1 (v1 + 2) 0) 1000 q))
  obtain ⟨rfl, rfl⟩ := hG
  exact x_ret rfl (by decide +kernel)
def F77_47 (q : aQ) : aQ := q
def S77_47 (q : aQ) : Prop := True
set_option maxRecDepth 100000 in
set_option maxHeartbeats 4000000 in
theorem A77_47 {l : Launch} {X : aX} {d : Nat} {r : Option Value} {h' : aH} {q : aQ} (hd : 3 ≤ d) (hN : h'.1 = nk0) (hG : gV r h' (F77_47 q)) (hS : S77_47 q) : AW l X 77 c77 d r h' 47 [none, none, none] [] (hp q) := by
  unfold F77_47 at hG
  unfold S77_47 at hS
  refine x_run (pc' := 84) (lo' := [none, none, none]) (st' := []) 1 rfl ?_
  obtain ⟨rfl, rfl⟩ := hG
  exact x_ret rfl (by decide +kernel)
def F77_28 (v0 : Nat) (v1 : Nat) (q : aQ) : aQ := F77_47 (F92_0 (v0 + 2) (-1000) ((q.1 (v1 + 2) 1) - 1) q)
def S77_28 (v0 : Nat) (v1 : Nat) (q : aQ) : Prop := S92_0 (v0 + 2) (-1000) ((q.1 (v1 + 2) 1) - 1) q ∧ (S77_47 (F92_0 (v0 + 2) (-1000) ((q.1 (v1 + 2) 1) - 1) q))
set_option maxRecDepth 100000 in
set_option maxHeartbeats 4000000 in
theorem A77_28 {l : Launch} {X : aX} {d : Nat} {r : Option Value} {h' : aH} {v0 : Nat} {v1 : Nat} {q : aQ} (hd : 3 ≤ d) (hN : h'.1 = nk0) (fv0 : isPic v0) (fv1 : isPic v1) (hG : gV r h' (F77_28 v0 v1 q)) (hS : S77_28 v0 v1 q) : AW l X 77 c77 d r h' 28 [some (.ref v0), some (.ref v1), none] [] (hp q) := by
  unfold F77_28 at hG
  unfold S77_28 at hS
  refine x_run (pc' := 29) (lo' := [some (.ref v0), some (.ref v1), none]) (st' := [.ref v0]) 1 rfl ?_
  refine x_gf (c := 321) (ne := 0) (v := .ref (v0 + 2)) rfl (by decide +kernel) (pc_s fv0) (pc_v1 fv0) ?_
  refine x_run (pc' := 36) (lo' := [some (.ref v0), some (.ref v1), none]) (st' := [.ref v1, .int (-1000), .ref (v0 + 2)]) 2 rfl ?_
  refine x_gf (c := 321) (ne := 0) (v := .ref (v1 + 2)) rfl (by decide +kernel) (pc_s fv1) (pc_v1 fv1) ?_
  refine x_gf (c := 385) (ne := 1) (v := .int (q.1 (v1 + 2) 1)) rfl (by decide +kernel) (rg_s (pc_r1 fv1)) rfl ?_
  refine x_run (pc' := 44) (lo' := [some (.ref v0), some (.ref v1), none]) (st' := [.int ((q.1 (v1 + 2) 1) - 1), .int (-1000), .ref (v0 + 2)]) 2 rfl ?_
  obtain ⟨o5, hS⟩ := hS
  refine x_cv (j := 92) (ne := 0) (vs := [.int (-1000), .int ((q.1 (v1 + 2) 1) - 1)]) (rest := []) rfl (by decide +kernel) (by decide +kernel) (by decide) (Eq.trans rfl (show 2 = _ from by decide +kernel)) (rg_s (pc_r1 fv0)) (by decide +kernel) rfl (Nat.le_of_ble_eq_true rfl) (by omega) (T92 (Nat.le_refl 2) (pc_r1 fv0) o5) (hp_m hN) ?_
  show AW l X 77 c77 d r h' 47 [some (.ref v0), some (.ref v1), none] [] (hp (F92_0 (v0 + 2) (-1000) ((q.1 (v1 + 2) 1) - 1) q))
  refine x_kill [0, 1] ?_
  exact A77_47 hd hN hG hS
def F77_0 (v0 : Nat) (v1 : Nat) (v2 : Int32) (q : aQ) : aQ := (if v2 = 0 then F77_67 v0 v1 (F92_0 (v0 + 1) ((a_w q v0 2 0).1 (v1 + 1) 0) 1000 (a_w q v0 2 0)) else F77_28 v0 v1 (F92_0 (v0 + 1) (-1000) (((a_w q v0 2 0).1 (v1 + 1) 1) - 1) (a_w q v0 2 0)))
def S77_0 (v0 : Nat) (v1 : Nat) (v2 : Int32) (q : aQ) : Prop := ((v2 = 0) → S92_0 (v0 + 1) ((a_w q v0 2 0).1 (v1 + 1) 0) 1000 (a_w q v0 2 0) ∧ (S77_67 v0 v1 (F92_0 (v0 + 1) ((a_w q v0 2 0).1 (v1 + 1) 0) 1000 (a_w q v0 2 0)))) ∧ (¬ (v2 = 0) → S92_0 (v0 + 1) (-1000) (((a_w q v0 2 0).1 (v1 + 1) 1) - 1) (a_w q v0 2 0) ∧ (S77_28 v0 v1 (F92_0 (v0 + 1) (-1000) (((a_w q v0 2 0).1 (v1 + 1) 1) - 1) (a_w q v0 2 0))))
set_option maxRecDepth 100000 in
set_option maxHeartbeats 4000000 in
theorem A77_0 {l : Launch} {X : aX} {d : Nat} {r : Option Value} {h' : aH} {v0 : Nat} {v1 : Nat} {v2 : Int32} {q : aQ} (hd : 3 ≤ d) (hN : h'.1 = nk0) (fv0 : isPic v0) (fv1 : isPic v1) (hG : gV r h' (F77_0 v0 v1 v2 q)) (hS : S77_0 v0 v1 v2 q) : AW l X 77 c77 d r h' 0 [some (.ref v0), some (.ref v1), some (.int v2)] [] (hp q) := by
  unfold F77_0 at hG
  unfold S77_0 at hS
  refine x_run (pc' := 2) (lo' := [some (.ref v0), some (.ref v1), some (.int v2)]) (st' := [.int 0, .ref v0]) 2 rfl ?_
  refine x_pf (c := 322) (ne := 0) (h2 := hp (a_w q v0 2 0)) rfl (by decide +kernel) (by decide +kernel) (pc_s fv0) (pv_z rfl (Or.inl rfl)) ?_
  refine x_run (pc' := 6) (lo' := [some (.ref v0), some (.ref v1), some (.int v2)]) (st' := [.int v2]) 1 rfl ?_
  refine x_if 50 rfl rfl (fun (hc1 : v2 = 0) => ?_) (fun (hc1 : ¬ v2 = 0) => ?_)
  · rw [if_pos hc1] at hG
    replace hS := hS.1 hc1
    refine x_run (pc' := 51) (lo' := [some (.ref v0), some (.ref v1), some (.int v2)]) (st' := [.ref v0]) 1 rfl ?_
    refine x_gf (c := 320) (ne := 0) (v := .ref (v0 + 1)) rfl (by decide +kernel) (pc_s fv0) (pc_v0 fv0) ?_
    refine x_run (pc' := 55) (lo' := [some (.ref v0), some (.ref v1), some (.int v2)]) (st' := [.ref v1, .ref (v0 + 1)]) 1 rfl ?_
    refine x_gf (c := 320) (ne := 0) (v := .ref (v1 + 1)) rfl (by decide +kernel) (pc_s fv1) (pc_v0 fv1) ?_
    refine x_gf (c := 384) (ne := 1) (v := .int ((a_w q v0 2 0).1 (v1 + 1) 0)) rfl (by decide +kernel) (rg_s (pc_r0 fv1)) rfl ?_
    refine x_run (pc' := 64) (lo' := [some (.ref v0), some (.ref v1), some (.int v2)]) (st' := [.int 1000, .int ((a_w q v0 2 0).1 (v1 + 1) 0), .ref (v0 + 1)]) 1 rfl ?_
    obtain ⟨o2, hS⟩ := hS
    refine x_cv (j := 92) (ne := 0) (vs := [.int ((a_w q v0 2 0).1 (v1 + 1) 0), .int 1000]) (rest := []) rfl (by decide +kernel) (by decide +kernel) (by decide) (Eq.trans rfl (show 2 = _ from by decide +kernel)) (rg_s (pc_r0 fv0)) (by decide +kernel) rfl (Nat.le_of_ble_eq_true rfl) (by omega) (T92 (Nat.le_refl 2) (pc_r0 fv0) o2) (hp_m hN) ?_
    show AW l X 77 c77 d r h' 67 [some (.ref v0), some (.ref v1), some (.int v2)] [] (hp (F92_0 (v0 + 1) ((a_w q v0 2 0).1 (v1 + 1) 0) 1000 (a_w q v0 2 0)))
    refine x_kill [2] ?_
    exact A77_67 hd hN fv0 fv1 hG hS
  · rw [if_neg hc1] at hG
    replace hS := hS.2 hc1
    refine x_run (pc' := 10) (lo' := [some (.ref v0), some (.ref v1), some (.int v2)]) (st' := [.ref v0]) 1 rfl ?_
    refine x_gf (c := 320) (ne := 0) (v := .ref (v0 + 1)) rfl (by decide +kernel) (pc_s fv0) (pc_v0 fv0) ?_
    refine x_run (pc' := 17) (lo' := [some (.ref v0), some (.ref v1), some (.int v2)]) (st' := [.ref v1, .int (-1000), .ref (v0 + 1)]) 2 rfl ?_
    refine x_gf (c := 320) (ne := 0) (v := .ref (v1 + 1)) rfl (by decide +kernel) (pc_s fv1) (pc_v0 fv1) ?_
    refine x_gf (c := 385) (ne := 1) (v := .int ((a_w q v0 2 0).1 (v1 + 1) 1)) rfl (by decide +kernel) (rg_s (pc_r0 fv1)) rfl ?_
    refine x_run (pc' := 25) (lo' := [some (.ref v0), some (.ref v1), some (.int v2)]) (st' := [.int (((a_w q v0 2 0).1 (v1 + 1) 1) - 1), .int (-1000), .ref (v0 + 1)]) 2 rfl ?_
    obtain ⟨o4, hS⟩ := hS
    refine x_cv (j := 92) (ne := 0) (vs := [.int (-1000), .int (((a_w q v0 2 0).1 (v1 + 1) 1) - 1)]) (rest := []) rfl (by decide +kernel) (by decide +kernel) (by decide) (Eq.trans rfl (show 2 = _ from by decide +kernel)) (rg_s (pc_r0 fv0)) (by decide +kernel) rfl (Nat.le_of_ble_eq_true rfl) (by omega) (T92 (Nat.le_refl 2) (pc_r0 fv0) o4) (hp_m hN) ?_
    show AW l X 77 c77 d r h' 28 [some (.ref v0), some (.ref v1), some (.int v2)] [] (hp (F92_0 (v0 + 1) (-1000) (((a_w q v0 2 0).1 (v1 + 1) 1) - 1) (a_w q v0 2 0)))
    refine x_kill [2] ?_
    exact A77_28 hd hN fv0 fv1 hG hS
theorem T77 {l : Launch} {X : aX} {d : Nat} {v0 : Nat} {v1 : Nat} {v2 : Int32} {q : aQ} (hd : 3 ≤ d) (fv0 : isPic v0) (fv1 : isPic v1) (hS : S77_0 v0 v1 v2 q) : Call l X d 77 [.ref v0, .ref v1, .int v2] (hp q) none (hp (F77_0 v0 v1 v2 q)) := Call.of ok77 (by decide) (Nat.le_of_ble_eq_true rfl) ⟨Nat.le_refl _, Nat.le_refl _⟩ (A77_0 hd rfl fv0 fv1 ⟨rfl, rfl⟩ hS)
/-- TypeForecast$Picture.keepEqual(LTypeForecast$Picture;Z)V -/
def F78_125 (s0 : Int32) (s1 : Nat) (q : aQ) : aQ := (a_w q s1 2 s0)
def S78_125 (s0 : Int32) (s1 : Nat) (q : aQ) : Prop := (s0 = 0 ∨ s0 = 1) ∧ (True)
set_option maxRecDepth 100000 in
set_option maxHeartbeats 4000000 in
theorem A78_125 {l : Launch} {X : aX} {d : Nat} {r : Option Value} {h' : aH} {s0 : Int32} {s1 : Nat} {q : aQ} (hd : 3 ≤ d) (hN : h'.1 = nk0) (fs1 : isPic s1) (hG : gV r h' (F78_125 s0 s1 q)) (hS : S78_125 s0 s1 q) : AW l X 78 c78 d r h' 125 [none, none, none] [.int s0, .ref s1] (hp q) := by
  unfold F78_125 at hG
  unfold S78_125 at hS
  obtain ⟨o7, hS⟩ := hS
  refine x_pf (c := 322) (ne := 0) (h2 := hp (a_w q s1 2 s0)) rfl (by decide +kernel) (by decide +kernel) (pc_s fs1) (pv_z rfl o7) ?_
  obtain ⟨rfl, rfl⟩ := hG
  exact x_ret rfl (by decide +kernel)
def F78_124 (s0 : Nat) (q : aQ) : aQ := F78_125 0 s0 q
def S78_124 (s0 : Nat) (q : aQ) : Prop := S78_125 0 s0 q
set_option maxRecDepth 100000 in
set_option maxHeartbeats 4000000 in
theorem A78_124 {l : Launch} {X : aX} {d : Nat} {r : Option Value} {h' : aH} {s0 : Nat} {q : aQ} (hd : 3 ≤ d) (hN : h'.1 = nk0) (fs0 : isPic s0) (hG : gV r h' (F78_124 s0 q)) (hS : S78_124 s0 q) : AW l X 78 c78 d r h' 124 [none, none, none] [.ref s0] (hp q) := by
  unfold F78_124 at hG
  unfold S78_124 at hS
  refine x_run (pc' := 125) (lo' := [none, none, none]) (st' := [.int 0, .ref s0]) 1 rfl ?_
  exact A78_125 hd hN fs0 hG hS
def F78_105 (v0 : Nat) (v1 : Nat) (q : aQ) : aQ := (if (q.1 v0 2) = 0 then F78_124 v0 q else (if (q.1 v1 2) = 0 then F78_125 1 v0 q else F78_124 v0 q))
def S78_105 (v0 : Nat) (v1 : Nat) (q : aQ) : Prop := (((q.1 v0 2) = 0) → S78_124 v0 q) ∧ (¬ ((q.1 v0 2) = 0) → (((q.1 v1 2) = 0) → S78_125 1 v0 q) ∧ (¬ ((q.1 v1 2) = 0) → S78_124 v0 q))
set_option maxRecDepth 100000 in
set_option maxHeartbeats 4000000 in
theorem A78_105 {l : Launch} {X : aX} {d : Nat} {r : Option Value} {h' : aH} {v0 : Nat} {v1 : Nat} {q : aQ} (hd : 3 ≤ d) (hN : h'.1 = nk0) (fv0 : isPic v0) (fv1 : isPic v1) (hG : gV r h' (F78_105 v0 v1 q)) (hS : S78_105 v0 v1 q) : AW l X 78 c78 d r h' 105 [some (.ref v0), some (.ref v1), none] [] (hp q) := by
  unfold F78_105 at hG
  unfold S78_105 at hS
  refine x_run (pc' := 107) (lo' := [some (.ref v0), some (.ref v1), none]) (st' := [.ref v0, .ref v0]) 2 rfl ?_
  refine x_gf (c := 322) (ne := 0) (v := .int (q.1 v0 2)) rfl (by decide +kernel) (pc_s fv0) rfl ?_
  refine x_if 124 rfl rfl (fun (hc6 : (q.1 v0 2) = 0) => ?_) (fun (hc6 : ¬ (q.1 v0 2) = 0) => ?_)
  · rw [if_pos hc6] at hG
    replace hS := hS.1 hc6
    refine x_kill [0, 1] ?_
    exact A78_124 hd hN fv0 hG hS
  · rw [if_neg hc6] at hG
    replace hS := hS.2 hc6
    refine x_run (pc' := 114) (lo' := [some (.ref v0), some (.ref v1), none]) (st' := [.ref v1, .ref v0]) 1 rfl ?_
    refine x_gf (c := 322) (ne := 0) (v := .int (q.1 v1 2)) rfl (by decide +kernel) (pc_s fv1) rfl ?_
    refine x_if 124 rfl rfl (fun (hc8 : ¬ (q.1 v1 2) = 0) => ?_) (fun (hc8 : (q.1 v1 2) = 0) => ?_)
    · rw [if_neg hc8] at hG
      replace hS := hS.2 hc8
      refine x_kill [0, 1] ?_
      exact A78_124 hd hN fv0 hG hS
    · rw [if_pos hc8] at hG
      replace hS := hS.1 hc8
      refine x_run (pc' := 125) (lo' := [some (.ref v0), some (.ref v1), none]) (st' := [.int 1, .ref v0]) 2 rfl ?_
      refine x_kill [0, 1] ?_
      exact A78_125 hd hN fv0 hG hS
def F78_91 (v0 : Nat) (v1 : Nat) (q : aQ) : aQ := F78_105 v0 v1 (F93_0 (v0 + 2) (q.1 (v1 + 2) 0) q)
def S78_91 (v0 : Nat) (v1 : Nat) (q : aQ) : Prop := S93_0 (v0 + 2) (q.1 (v1 + 2) 0) q ∧ (S78_105 v0 v1 (F93_0 (v0 + 2) (q.1 (v1 + 2) 0) q))
set_option maxRecDepth 100000 in
set_option maxHeartbeats 4000000 in
theorem A78_91 {l : Launch} {X : aX} {d : Nat} {r : Option Value} {h' : aH} {v0 : Nat} {v1 : Nat} {q : aQ} (hd : 3 ≤ d) (hN : h'.1 = nk0) (fv0 : isPic v0) (fv1 : isPic v1) (hG : gV r h' (F78_91 v0 v1 q)) (hS : S78_91 v0 v1 q) : AW l X 78 c78 d r h' 91 [some (.ref v0), some (.ref v1), none] [] (hp q) := by
  unfold F78_91 at hG
  unfold S78_91 at hS
  refine x_run (pc' := 92) (lo' := [some (.ref v0), some (.ref v1), none]) (st' := [.ref v0]) 1 rfl ?_
  refine x_gf (c := 321) (ne := 0) (v := .ref (v0 + 2)) rfl (by decide +kernel) (pc_s fv0) (pc_v1 fv0) ?_
  refine x_run (pc' := 96) (lo' := [some (.ref v0), some (.ref v1), none]) (st' := [.ref v1, .ref (v0 + 2)]) 1 rfl ?_
  refine x_gf (c := 321) (ne := 0) (v := .ref (v1 + 2)) rfl (by decide +kernel) (pc_s fv1) (pc_v1 fv1) ?_
  refine x_gf (c := 384) (ne := 1) (v := .int (q.1 (v1 + 2) 0)) rfl (by decide +kernel) (rg_s (pc_r1 fv1)) rfl ?_
  obtain ⟨o5, hS⟩ := hS
  refine x_cv (j := 93) (ne := 0) (vs := [.int (q.1 (v1 + 2) 0)]) (rest := []) rfl (by decide +kernel) (by decide +kernel) (by decide) (Eq.trans rfl (show 1 = _ from by decide +kernel)) (rg_s (pc_r1 fv0)) (by decide +kernel) rfl (Nat.le_of_ble_eq_true rfl) (by omega) (T93 (Nat.le_refl 2) (pc_r1 fv0) o5) (hp_m hN) ?_
  show AW l X 78 c78 d r h' 105 [some (.ref v0), some (.ref v1), none] [] (hp (F93_0 (v0 + 2) (q.1 (v1 + 2) 0) q))
  exact A78_105 hd hN fv0 fv1 hG hS
def F78_66 (s0 : Int32) (s1 : Nat) (q : aQ) : aQ := (a_w q s1 2 s0)
def S78_66 (s0 : Int32) (s1 : Nat) (q : aQ) : Prop := (s0 = 0 ∨ s0 = 1) ∧ (True)
set_option maxRecDepth 100000 in
set_option maxHeartbeats 4000000 in
theorem A78_66 {l : Launch} {X : aX} {d : Nat} {r : Option Value} {h' : aH} {s0 : Int32} {s1 : Nat} {q : aQ} (hd : 3 ≤ d) (hN : h'.1 = nk0) (fs1 : isPic s1) (hG : gV r h' (F78_66 s0 s1 q)) (hS : S78_66 s0 s1 q) : AW l X 78 c78 d r h' 66 [none, none, none] [.int s0, .ref s1] (hp q) := by
  unfold F78_66 at hG
  unfold S78_66 at hS
  obtain ⟨o12, hS⟩ := hS
  refine x_pf (c := 322) (ne := 0) (h2 := hp (a_w q s1 2 s0)) rfl (by decide +kernel) (by decide +kernel) (pc_s fs1) (pv_z rfl o12) ?_
  obtain ⟨rfl, rfl⟩ := hG
  exact x_ret rfl (by decide +kernel)
def F78_65 (s0 : Nat) (q : aQ) : aQ := F78_66 0 s0 q
def S78_65 (s0 : Nat) (q : aQ) : Prop := S78_66 0 s0 q
set_option maxRecDepth 100000 in
set_option maxHeartbeats 4000000 in
theorem A78_65 {l : Launch} {X : aX} {d : Nat} {r : Option Value} {h' : aH} {s0 : Nat} {q : aQ} (hd : 3 ≤ d) (hN : h'.1 = nk0) (fs0 : isPic s0) (hG : gV r h' (F78_65 s0 q)) (hS : S78_65 s0 q) : AW l X 78 c78 d r h' 65 [none, none, none] [.ref s0] (hp q) := by
  unfold F78_65 at hG
  unfold S78_65 at hS
  refine x_run (pc' := 66) (lo' := [none, none, none]) (st' := [.int 0, .ref s0]) 1 rfl ?_
  exact A78_66 hd hN fs0 hG hS
def F78_46 (v0 : Nat) (v1 : Nat) (q : aQ) : aQ := (if (q.1 v0 2) = 0 then F78_65 v0 q else (if (q.1 v1 2) = 0 then F78_65 v0 q else F78_66 1 v0 q))
def S78_46 (v0 : Nat) (v1 : Nat) (q : aQ) : Prop := (((q.1 v0 2) = 0) → S78_65 v0 q) ∧ (¬ ((q.1 v0 2) = 0) → (((q.1 v1 2) = 0) → S78_65 v0 q) ∧ (¬ ((q.1 v1 2) = 0) → S78_66 1 v0 q))
set_option maxRecDepth 100000 in
set_option maxHeartbeats 4000000 in
theorem A78_46 {l : Launch} {X : aX} {d : Nat} {r : Option Value} {h' : aH} {v0 : Nat} {v1 : Nat} {q : aQ} (hd : 3 ≤ d) (hN : h'.1 = nk0) (fv0 : isPic v0) (fv1 : isPic v1) (hG : gV r h' (F78_46 v0 v1 q)) (hS : S78_46 v0 v1 q) : AW l X 78 c78 d r h' 46 [some (.ref v0), some (.ref v1), none] [] (hp q) := by
  unfold F78_46 at hG
  unfold S78_46 at hS
  refine x_run (pc' := 48) (lo' := [some (.ref v0), some (.ref v1), none]) (st' := [.ref v0, .ref v0]) 2 rfl ?_
  refine x_gf (c := 322) (ne := 0) (v := .int (q.1 v0 2)) rfl (by decide +kernel) (pc_s fv0) rfl ?_
  refine x_if 65 rfl rfl (fun (hc11 : (q.1 v0 2) = 0) => ?_) (fun (hc11 : ¬ (q.1 v0 2) = 0) => ?_)
  · rw [if_pos hc11] at hG
    replace hS := hS.1 hc11
    refine x_kill [0, 1] ?_
    exact A78_65 hd hN fv0 hG hS
  · rw [if_neg hc11] at hG
    replace hS := hS.2 hc11
    refine x_run (pc' := 55) (lo' := [some (.ref v0), some (.ref v1), none]) (st' := [.ref v1, .ref v0]) 1 rfl ?_
    refine x_gf (c := 322) (ne := 0) (v := .int (q.1 v1 2)) rfl (by decide +kernel) (pc_s fv1) rfl ?_
    refine x_if 65 rfl rfl (fun (hc13 : (q.1 v1 2) = 0) => ?_) (fun (hc13 : ¬ (q.1 v1 2) = 0) => ?_)
    · rw [if_pos hc13] at hG
      replace hS := hS.1 hc13
      refine x_kill [0, 1] ?_
      exact A78_65 hd hN fv0 hG hS
    · rw [if_neg hc13] at hG
      replace hS := hS.2 hc13
      refine x_run (pc' := 66) (lo' := [some (.ref v0), some (.ref v1), none]) (st' := [.int 1, .ref v0]) 2 rfl ?_
      refine x_kill [0, 1] ?_
      exact A78_66 hd hN fv0 hG hS
def F78_25 (v0 : Nat) (v1 : Nat) (q : aQ) : aQ := F78_46 v0 v1 (F92_0 (v0 + 2) (q.1 (v1 + 2) 0) (q.1 (v1 + 2) 1) q)
def S78_25 (v0 : Nat) (v1 : Nat) (q : aQ) : Prop := S92_0 (v0 + 2) (q.1 (v1 + 2) 0) (q.1 (v1 + 2) 1) q ∧ (S78_46 v0 v1 (F92_0 (v0 + 2) (q.1 (v1 + 2) 0) (q.1 (v1 + 2) 1) q))
set_option maxRecDepth 100000 in
set_option maxHeartbeats 4000000 in
theorem A78_25 {l : Launch} {X : aX} {d : Nat} {r : Option Value} {h' : aH} {v0 : Nat} {v1 : Nat} {q : aQ} (hd : 3 ≤ d) (hN : h'.1 = nk0) (fv0 : isPic v0) (fv1 : isPic v1) (hG : gV r h' (F78_25 v0 v1 q)) (hS : S78_25 v0 v1 q) : AW l X 78 c78 d r h' 25 [some (.ref v0), some (.ref v1), none] [] (hp q) := by
  unfold F78_25 at hG
  unfold S78_25 at hS
  refine x_run (pc' := 26) (lo' := [some (.ref v0), some (.ref v1), none]) (st' := [.ref v0]) 1 rfl ?_
  refine x_gf (c := 321) (ne := 0) (v := .ref (v0 + 2)) rfl (by decide +kernel) (pc_s fv0) (pc_v1 fv0) ?_
  refine x_run (pc' := 30) (lo' := [some (.ref v0), some (.ref v1), none]) (st' := [.ref v1, .ref (v0 + 2)]) 1 rfl ?_
  refine x_gf (c := 321) (ne := 0) (v := .ref (v1 + 2)) rfl (by decide +kernel) (pc_s fv1) (pc_v1 fv1) ?_
  refine x_gf (c := 384) (ne := 1) (v := .int (q.1 (v1 + 2) 0)) rfl (by decide +kernel) (rg_s (pc_r1 fv1)) rfl ?_
  refine x_run (pc' := 37) (lo' := [some (.ref v0), some (.ref v1), none]) (st' := [.ref v1, .int (q.1 (v1 + 2) 0), .ref (v0 + 2)]) 1 rfl ?_
  refine x_gf (c := 321) (ne := 0) (v := .ref (v1 + 2)) rfl (by decide +kernel) (pc_s fv1) (pc_v1 fv1) ?_
  refine x_gf (c := 385) (ne := 1) (v := .int (q.1 (v1 + 2) 1)) rfl (by decide +kernel) (rg_s (pc_r1 fv1)) rfl ?_
  obtain ⟨o10, hS⟩ := hS
  refine x_cv (j := 92) (ne := 0) (vs := [.int (q.1 (v1 + 2) 0), .int (q.1 (v1 + 2) 1)]) (rest := []) rfl (by decide +kernel) (by decide +kernel) (by decide) (Eq.trans rfl (show 2 = _ from by decide +kernel)) (rg_s (pc_r1 fv0)) (by decide +kernel) rfl (Nat.le_of_ble_eq_true rfl) (by omega) (T92 (Nat.le_refl 2) (pc_r1 fv0) o10) (hp_m hN) ?_
  show AW l X 78 c78 d r h' 46 [some (.ref v0), some (.ref v1), none] [] (hp (F92_0 (v0 + 2) (q.1 (v1 + 2) 0) (q.1 (v1 + 2) 1) q))
  exact A78_46 hd hN fv0 fv1 hG hS
def F78_0 (v0 : Nat) (v1 : Nat) (v2 : Int32) (q : aQ) : aQ := (if v2 = 0 then (if (F72_0 v1 q) = 0 then q else F78_91 v0 v1 (F93_0 (v0 + 1) (q.1 (v1 + 1) 0) q)) else F78_25 v0 v1 (F92_0 (v0 + 1) (q.1 (v1 + 1) 0) (q.1 (v1 + 1) 1) q))
def S78_0 (v0 : Nat) (v1 : Nat) (v2 : Int32) (q : aQ) : Prop := ((v2 = 0) → S72_0 v1 q ∧ ((((F72_0 v1 q) = 0) → True) ∧ (¬ ((F72_0 v1 q) = 0) → S93_0 (v0 + 1) (q.1 (v1 + 1) 0) q ∧ (S78_91 v0 v1 (F93_0 (v0 + 1) (q.1 (v1 + 1) 0) q))))) ∧ (¬ (v2 = 0) → S92_0 (v0 + 1) (q.1 (v1 + 1) 0) (q.1 (v1 + 1) 1) q ∧ (S78_25 v0 v1 (F92_0 (v0 + 1) (q.1 (v1 + 1) 0) (q.1 (v1 + 1) 1) q)))
set_option maxRecDepth 100000 in
set_option maxHeartbeats 4000000 in
theorem A78_0 {l : Launch} {X : aX} {d : Nat} {r : Option Value} {h' : aH} {v0 : Nat} {v1 : Nat} {v2 : Int32} {q : aQ} (hd : 3 ≤ d) (hN : h'.1 = nk0) (fv0 : isPic v0) (fv1 : isPic v1) (hG : gV r h' (F78_0 v0 v1 v2 q)) (hS : S78_0 v0 v1 v2 q) : AW l X 78 c78 d r h' 0 [some (.ref v0), some (.ref v1), some (.int v2)] [] (hp q) := by
  unfold F78_0 at hG
  unfold S78_0 at hS
  refine x_run (pc' := 1) (lo' := [some (.ref v0), some (.ref v1), some (.int v2)]) (st' := [.int v2]) 1 rfl ?_
  refine x_if 70 rfl rfl (fun (hc1 : v2 = 0) => ?_) (fun (hc1 : ¬ v2 = 0) => ?_)
  · rw [if_pos hc1] at hG
    replace hS := hS.1 hc1
    refine x_run (pc' := 71) (lo' := [some (.ref v0), some (.ref v1), some (.int v2)]) (st' := [.ref v1]) 1 rfl ?_
    obtain ⟨o2, hS⟩ := hS
    refine x_cv (j := 72) (ne := 0) (vs := []) (rest := []) rfl (by decide +kernel) (by decide +kernel) (by decide) (Eq.trans rfl (show 0 = _ from by decide +kernel)) (pc_s fv1) (by decide +kernel) rfl (Nat.le_of_ble_eq_true rfl) (by omega) (T72 (Nat.le_refl 2) fv1 o2) (hp_m hN) ?_
    show AW l X 78 c78 d r h' 74 [some (.ref v0), some (.ref v1), some (.int v2)] [.int (F72_0 v1 q)] (hp q)
    refine x_if 128 rfl rfl (fun (hc3 : (F72_0 v1 q) = 0) => ?_) (fun (hc3 : ¬ (F72_0 v1 q) = 0) => ?_)
    · rw [if_pos hc3] at hG
      replace hS := hS.1 hc3
      obtain ⟨rfl, rfl⟩ := hG
      exact x_ret rfl (by decide +kernel)
    · rw [if_neg hc3] at hG
      replace hS := hS.2 hc3
      refine x_run (pc' := 78) (lo' := [some (.ref v0), some (.ref v1), some (.int v2)]) (st' := [.ref v0]) 1 rfl ?_
      refine x_gf (c := 320) (ne := 0) (v := .ref (v0 + 1)) rfl (by decide +kernel) (pc_s fv0) (pc_v0 fv0) ?_
      refine x_run (pc' := 82) (lo' := [some (.ref v0), some (.ref v1), some (.int v2)]) (st' := [.ref v1, .ref (v0 + 1)]) 1 rfl ?_
      refine x_gf (c := 320) (ne := 0) (v := .ref (v1 + 1)) rfl (by decide +kernel) (pc_s fv1) (pc_v0 fv1) ?_
      refine x_gf (c := 384) (ne := 1) (v := .int (q.1 (v1 + 1) 0)) rfl (by decide +kernel) (rg_s (pc_r0 fv1)) rfl ?_
      obtain ⟨o4, hS⟩ := hS
      refine x_cv (j := 93) (ne := 0) (vs := [.int (q.1 (v1 + 1) 0)]) (rest := []) rfl (by decide +kernel) (by decide +kernel) (by decide) (Eq.trans rfl (show 1 = _ from by decide +kernel)) (rg_s (pc_r0 fv0)) (by decide +kernel) rfl (Nat.le_of_ble_eq_true rfl) (by omega) (T93 (Nat.le_refl 2) (pc_r0 fv0) o4) (hp_m hN) ?_
      show AW l X 78 c78 d r h' 91 [some (.ref v0), some (.ref v1), some (.int v2)] [] (hp (F93_0 (v0 + 1) (q.1 (v1 + 1) 0) q))
      refine x_kill [2] ?_
      exact A78_91 hd hN fv0 fv1 hG hS
  · rw [if_neg hc1] at hG
    replace hS := hS.2 hc1
    refine x_run (pc' := 5) (lo' := [some (.ref v0), some (.ref v1), some (.int v2)]) (st' := [.ref v0]) 1 rfl ?_
    refine x_gf (c := 320) (ne := 0) (v := .ref (v0 + 1)) rfl (by decide +kernel) (pc_s fv0) (pc_v0 fv0) ?_
    refine x_run (pc' := 9) (lo' := [some (.ref v0), some (.ref v1), some (.int v2)]) (st' := [.ref v1, .ref (v0 + 1)]) 1 rfl ?_
    refine x_gf (c := 320) (ne := 0) (v := .ref (v1 + 1)) rfl (by decide +kernel) (pc_s fv1) (pc_v0 fv1) ?_
    refine x_gf (c := 384) (ne := 1) (v := .int (q.1 (v1 + 1) 0)) rfl (by decide +kernel) (rg_s (pc_r0 fv1)) rfl ?_
    refine x_run (pc' := 16) (lo' := [some (.ref v0), some (.ref v1), some (.int v2)]) (st' := [.ref v1, .int (q.1 (v1 + 1) 0), .ref (v0 + 1)]) 1 rfl ?_
    refine x_gf (c := 320) (ne := 0) (v := .ref (v1 + 1)) rfl (by decide +kernel) (pc_s fv1) (pc_v0 fv1) ?_
    refine x_gf (c := 385) (ne := 1) (v := .int (q.1 (v1 + 1) 1)) rfl (by decide +kernel) (rg_s (pc_r0 fv1)) rfl ?_
    obtain ⟨o9, hS⟩ := hS
    refine x_cv (j := 92) (ne := 0) (vs := [.int (q.1 (v1 + 1) 0), .int (q.1 (v1 + 1) 1)]) (rest := []) rfl (by decide +kernel) (by decide +kernel) (by decide) (Eq.trans rfl (show 2 = _ from by decide +kernel)) (rg_s (pc_r0 fv0)) (by decide +kernel) rfl (Nat.le_of_ble_eq_true rfl) (by omega) (T92 (Nat.le_refl 2) (pc_r0 fv0) o9) (hp_m hN) ?_
    show AW l X 78 c78 d r h' 25 [some (.ref v0), some (.ref v1), some (.int v2)] [] (hp (F92_0 (v0 + 1) (q.1 (v1 + 1) 0) (q.1 (v1 + 1) 1) q))
    refine x_kill [2] ?_
    exact A78_25 hd hN fv0 fv1 hG hS
theorem T78 {l : Launch} {X : aX} {d : Nat} {v0 : Nat} {v1 : Nat} {v2 : Int32} {q : aQ} (hd : 3 ≤ d) (fv0 : isPic v0) (fv1 : isPic v1) (hS : S78_0 v0 v1 v2 q) : Call l X d 78 [.ref v0, .ref v1, .int v2] (hp q) none (hp (F78_0 v0 v1 v2 q)) := Call.of ok78 (by decide) (Nat.le_of_ble_eq_true rfl) ⟨Nat.le_refl _, Nat.le_refl _⟩ (A78_0 hd rfl fv0 fv1 ⟨rfl, rfl⟩ hS)
