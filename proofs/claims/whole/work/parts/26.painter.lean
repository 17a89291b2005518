/-! written by wip/whole/gen3.py: what methods do (F), what they need (S), the walk (A), the contract (T) -/
/-- TypeForecast$Painter.paintLeaf(ILTypeForecast$State;LTypeForecast$Picture;)I -/
def F103_127 (q : aQ) : Int32 × aQ := (0, q)
def S103_127 (q : aQ) : Prop := True
set_option maxRecDepth 100000 in
set_option maxHeartbeats 4000000 in
theorem A103_127 {l : Launch} {X : aX} {d : Nat} {r : Option Value} {h' : aH} {q : aQ} (hd : 3 ≤ d) (hN : h'.1 = nk0) (hG : gI r h' (F103_127 q)) (hS : S103_127 q) : AW l X 103 c103 d r h' 127 [none, none, none, none, none] [] (hp q) := by
  unfold F103_127 at hG
  unfold S103_127 at hS
  refine x_run (pc' := 128) (lo' := [none, none, none, none, none]) (st' := [.int 0]) 1 rfl ?_
  obtain ⟨rfl, rfl⟩ := hG
  exact x_iret rfl (by decide +kernel)
def F103_63 (q : aQ) : Int32 × aQ := (0, q)
def S103_63 (q : aQ) : Prop := True
set_option maxRecDepth 100000 in
set_option maxHeartbeats 4000000 in
theorem A103_63 {l : Launch} {X : aX} {d : Nat} {r : Option Value} {h' : aH} {q : aQ} (hd : 3 ≤ d) (hN : h'.1 = nk0) (hG : gI r h' (F103_63 q)) (hS : S103_63 q) : AW l X 103 c103 d r h' 63 [none, none, none, none, none] [] (hp q) := by
  unfold F103_63 at hG
  unfold S103_63 at hS
  refine x_run (pc' := 64) (lo' := [none, none, none, none, none]) (st' := [.int 0]) 1 rfl ?_
  obtain ⟨rfl, rfl⟩ := hG
  exact x_iret rfl (by decide +kernel)
def F103_76 (q : aQ) : Int32 × aQ := (0, q)
def S103_76 (q : aQ) : Prop := True
set_option maxRecDepth 100000 in
set_option maxHeartbeats 4000000 in
theorem A103_76 {l : Launch} {X : aX} {d : Nat} {r : Option Value} {h' : aH} {q : aQ} (hd : 3 ≤ d) (hN : h'.1 = nk0) (hG : gI r h' (F103_76 q)) (hS : S103_76 q) : AW l X 103 c103 d r h' 76 [none, none, none, none, none] [] (hp q) := by
  unfold F103_76 at hG
  unfold S103_76 at hS
  refine x_run (pc' := 77) (lo' := [none, none, none, none, none]) (st' := [.int 0]) 1 rfl ?_
  obtain ⟨rfl, rfl⟩ := hG
  exact x_iret rfl (by decide +kernel)
def F103_96 (v2 : Nat) (v3 : Nat) (v4 : Int32) (q : aQ) : Int32 × aQ := (if ((a_w q v3 3 0).1 (v2 + 2 + 3 * (Int32.toNatClampNeg v4)) 3) = 0 then (0, (a_w q v3 3 0)) else (4, (a_w q v3 3 0)))
def S103_96 (v2 : Nat) (v3 : Nat) (v4 : Int32) (q : aQ) : Prop := vp_in v4 5 ∧ (((((a_w q v3 3 0).1 (v2 + 2 + 3 * (Int32.toNatClampNeg v4)) 3) = 0) → True) ∧ (¬ (((a_w q v3 3 0).1 (v2 + 2 + 3 * (Int32.toNatClampNeg v4)) 3) = 0) → True))
set_option maxRecDepth 100000 in
set_option maxHeartbeats 4000000 in
theorem A103_96 {l : Launch} {X : aX} {d : Nat} {r : Option Value} {h' : aH} {v2 : Nat} {v3 : Nat} {v4 : Int32} {q : aQ} (hd : 3 ≤ d) (hN : h'.1 = nk0) (fv2 : isSt v2) (fv3 : isPic v3) (hG : gI r h' (F103_96 v2 v3 v4 q)) (hS : S103_96 v2 v3 v4 q) : AW l X 103 c103 d r h' 96 [none, none, some (.ref v2), some (.ref v3), some (.int v4)] [] (hp q) := by
  unfold F103_96 at hG
  unfold S103_96 at hS
  refine x_run (pc' := 98) (lo' := [none, none, some (.ref v2), some (.ref v3), some (.int v4)]) (st' := [.int 0, .ref v3]) 2 rfl ?_
  refine x_pf (c := 323) (ne := 1) (h2 := hp (a_w q v3 3 0)) rfl (by decide +kernel) (by decide +kernel) (pc_s fv3) (pv_z rfl (Or.inl rfl)) ?_
  refine x_run (pc' := 102) (lo' := [none, none, some (.ref v2), some (.ref v3), some (.int v4)]) (st' := [.ref v2]) 1 rfl ?_
  refine x_gf (c := 256) (ne := 1) (v := .ref (v2 + 1)) rfl (by decide +kernel) (st_s fv2) (st_v fv2) ?_
  refine x_run (pc' := 107) (lo' := [none, none, some (.ref v2), some (.ref v3), some (.int v4)]) (st' := [.int v4, .ref (v2 + 1)]) 1 rfl ?_
  obtain ⟨o9, hS⟩ := hS
  refine x_aa (n := 5) (t := 20) (v := v2 + 2 + 3 * (Int32.toNatClampNeg v4)) rfl (st_a fv2) (Or.inr rfl) o9 (st_m fv2 o9) ?_
  refine x_gf (c := 323) (ne := 1) (v := .int ((a_w q v3 3 0).1 (v2 + 2 + 3 * (Int32.toNatClampNeg v4)) 3)) rfl (by decide +kernel) (pc_s (st_p fv2 o9)) rfl ?_
  refine x_if 118 rfl rfl (fun (hc10 : ((a_w q v3 3 0).1 (v2 + 2 + 3 * (Int32.toNatClampNeg v4)) 3) = 0) => ?_) (fun (hc10 : ¬ ((a_w q v3 3 0).1 (v2 + 2 + 3 * (Int32.toNatClampNeg v4)) 3) = 0) => ?_)
  · rw [if_pos hc10] at hG
    replace hS := hS.1 hc10
    refine x_run (pc' := 119) (lo' := [none, none, some (.ref v2), some (.ref v3), some (.int v4)]) (st' := [.int 0]) 1 rfl ?_
    obtain ⟨rfl, rfl⟩ := hG
    exact x_iret rfl (by decide +kernel)
  · rw [if_neg hc10] at hG
    replace hS := hS.2 hc10
    refine x_run (pc' := 119) (lo' := [none, none, some (.ref v2), some (.ref v3), some (.int v4)]) (st' := [.int 4]) 2 rfl ?_
    obtain ⟨rfl, rfl⟩ := hG
    exact x_iret rfl (by decide +kernel)
def F103_0 (v1 : Int32) (v2 : Nat) (v3 : Nat) (q : aQ) : Int32 × aQ := (if (q.1 3 (Int32.toNatClampNeg v1)) = 0 then F103_63 (F82_0 (v3 + 1) (q.1 4 (Int32.toNatClampNeg v1)) (q.1 4 (Int32.toNatClampNeg v1)) q) else (if (q.1 3 (Int32.toNatClampNeg v1)) = 1 then F103_76 (F82_0 (v3 + 2) (q.1 4 (Int32.toNatClampNeg v1)) (q.1 4 (Int32.toNatClampNeg v1)) q) else (if (q.1 3 (Int32.toNatClampNeg v1)) = 2 then (0, (a_w q v3 2 1)) else (if (q.1 3 (Int32.toNatClampNeg v1)) = 3 then F103_96 v2 v3 (q.1 4 (Int32.toNatClampNeg v1)) (F64_0 v3 (v2 + 2 + 3 * (Int32.toNatClampNeg (q.1 4 (Int32.toNatClampNeg v1)))) q) else F103_127 (F84_0 (v3 + 1) q)))))
def S103_0 (v1 : Int32) (v2 : Nat) (v3 : Nat) (q : aQ) : Prop := vp_in v1 60 ∧ (vp_in v1 60 ∧ ((((q.1 3 (Int32.toNatClampNeg v1)) = 0) → S82_0 (v3 + 1) (q.1 4 (Int32.toNatClampNeg v1)) (q.1 4 (Int32.toNatClampNeg v1)) q ∧ (S103_63 (F82_0 (v3 + 1) (q.1 4 (Int32.toNatClampNeg v1)) (q.1 4 (Int32.toNatClampNeg v1)) q))) ∧ (¬ ((q.1 3 (Int32.toNatClampNeg v1)) = 0) → (((q.1 3 (Int32.toNatClampNeg v1)) = 1) → S82_0 (v3 + 2) (q.1 4 (Int32.toNatClampNeg v1)) (q.1 4 (Int32.toNatClampNeg v1)) q ∧ (S103_76 (F82_0 (v3 + 2) (q.1 4 (Int32.toNatClampNeg v1)) (q.1 4 (Int32.toNatClampNeg v1)) q))) ∧ (¬ ((q.1 3 (Int32.toNatClampNeg v1)) = 1) → (((q.1 3 (Int32.toNatClampNeg v1)) = 2) → True) ∧ (¬ ((q.1 3 (Int32.toNatClampNeg v1)) = 2) → (((q.1 3 (Int32.toNatClampNeg v1)) = 3) → vp_in (q.1 4 (Int32.toNatClampNeg v1)) 5 ∧ (S64_0 v3 (v2 + 2 + 3 * (Int32.toNatClampNeg (q.1 4 (Int32.toNatClampNeg v1)))) q ∧ (S103_96 v2 v3 (q.1 4 (Int32.toNatClampNeg v1)) (F64_0 v3 (v2 + 2 + 3 * (Int32.toNatClampNeg (q.1 4 (Int32.toNatClampNeg v1)))) q)))) ∧ (¬ ((q.1 3 (Int32.toNatClampNeg v1)) = 3) → S84_0 (v3 + 1) q ∧ (S103_127 (F84_0 (v3 + 1) q))))))))
set_option maxRecDepth 100000 in
set_option maxHeartbeats 4000000 in
theorem A103_0 {l : Launch} {X : aX} {d : Nat} {r : Option Value} {h' : aH} {v1 : Int32} {v2 : Nat} {v3 : Nat} {q : aQ} (hd : 3 ≤ d) (hN : h'.1 = nk0) (fv2 : isSt v2) (fv3 : isPic v3) (hG : gI r h' (F103_0 v1 v2 v3 q)) (hS : S103_0 v1 v2 v3 q) : AW l X 103 c103 d r h' 0 [some (.ref 40), some (.int v1), some (.ref v2), some (.ref v3), none] [] (hp q) := by
  unfold F103_0 at hG
  unfold S103_0 at hS
  refine x_run (pc' := 1) (lo' := [some (.ref 40), some (.int v1), some (.ref v2), some (.ref v3), none]) (st' := [.ref 40]) 1 rfl ?_
  refine x_gf (c := 448) (ne := 0) (v := .ref 1) rfl (by decide +kernel) rfl rfl ?_
  refine x_gf (c := 66) (ne := 1) (v := .ref 4) rfl (by decide +kernel) rfl rfl ?_
  refine x_run (pc' := 8) (lo' := [some (.ref 40), some (.int v1), some (.ref v2), some (.ref v3), none]) (st' := [.int v1, .ref 4]) 1 rfl ?_
  obtain ⟨o1, hS⟩ := hS
  refine p_ia (n := 60) (v := (q.1 4 (Int32.toNatClampNeg v1))) rfl rfl o1 rfl ?_
  refine x_run (pc' := 12) (lo' := [some (.ref 40), some (.int v1), some (.ref v2), some (.ref v3), some (.int (q.1 4 (Int32.toNatClampNeg v1)))]) (st' := [.ref 40]) 2 rfl ?_
  refine x_gf (c := 448) (ne := 0) (v := .ref 1) rfl (by decide +kernel) rfl rfl ?_
  refine x_gf (c := 65) (ne := 1) (v := .ref 3) rfl (by decide +kernel) rfl rfl ?_
  refine x_run (pc' := 19) (lo' := [some (.ref 40), some (.int v1), some (.ref v2), some (.ref v3), some (.int (q.1 4 (Int32.toNatClampNeg v1)))]) (st' := [.int v1, .ref 3]) 1 rfl ?_
  obtain ⟨o2, hS⟩ := hS
  refine p_ia (n := 60) (v := (q.1 3 (Int32.toNatClampNeg v1))) rfl rfl o2 rfl ?_
  by_cases hc11 : (q.1 3 (Int32.toNatClampNeg v1)) = 0
  · rw [if_pos hc11] at hG
    replace hS := hS.1 hc11
    refine x_tsIn (off := 32) 52 rfl (by rw [hc11]; decide) (by rw [hc11]; decide) (by rw [hc11]; rfl) rfl ?_
    refine x_run (pc' := 53) (lo' := [some (.ref 40), some (.int v1), some (.ref v2), some (.ref v3), some (.int (q.1 4 (Int32.toNatClampNeg v1)))]) (st' := [.ref v3]) 1 rfl ?_
    refine x_gf (c := 320) (ne := 1) (v := .ref (v3 + 1)) rfl (by decide +kernel) (pc_s fv3) (pc_v0 fv3) ?_
    refine x_run (pc' := 60) (lo' := [some (.ref 40), some (.int v1), some (.ref v2), some (.ref v3), some (.int (q.1 4 (Int32.toNatClampNeg v1)))]) (st' := [.int (q.1 4 (Int32.toNatClampNeg v1)), .int (q.1 4 (Int32.toNatClampNeg v1)), .ref (v3 + 1)]) 2 rfl ?_
    obtain ⟨o5, hS⟩ := hS
    refine x_cv (j := 82) (ne := 0) (vs := [.int (q.1 4 (Int32.toNatClampNeg v1)), .int (q.1 4 (Int32.toNatClampNeg v1))]) (rest := []) rfl (by decide +kernel) (by decide +kernel) (by decide) (Eq.trans rfl (show 2 = _ from by decide +kernel)) (rg_s (pc_r0 fv3)) (by decide +kernel) rfl (Nat.le_of_ble_eq_true rfl) (by omega) (T82 (Nat.le_refl 1) (pc_r0 fv3) o5) (hp_m hN) ?_
    show AW l X 103 c103 d r h' 63 [some (.ref 40), some (.int v1), some (.ref v2), some (.ref v3), some (.int (q.1 4 (Int32.toNatClampNeg v1)))] [] (hp (F82_0 (v3 + 1) (q.1 4 (Int32.toNatClampNeg v1)) (q.1 4 (Int32.toNatClampNeg v1)) q))
    refine x_kill [0, 1, 2, 3, 4] ?_
    exact A103_63 hd hN hG hS
  · rw [if_neg hc11] at hG
    replace hS := hS.2 hc11
    by_cases hc12 : (q.1 3 (Int32.toNatClampNeg v1)) = 1
    · rw [if_pos hc12] at hG
      replace hS := hS.1 hc12
      refine x_tsIn (off := 45) 65 rfl (by rw [hc12]; decide) (by rw [hc12]; decide) (by rw [hc12]; rfl) rfl ?_
      refine x_run (pc' := 66) (lo' := [some (.ref 40), some (.int v1), some (.ref v2), some (.ref v3), some (.int (q.1 4 (Int32.toNatClampNeg v1)))]) (st' := [.ref v3]) 1 rfl ?_
      refine x_gf (c := 321) (ne := 1) (v := .ref (v3 + 2)) rfl (by decide +kernel) (pc_s fv3) (pc_v1 fv3) ?_
      refine x_run (pc' := 73) (lo' := [some (.ref 40), some (.int v1), some (.ref v2), some (.ref v3), some (.int (q.1 4 (Int32.toNatClampNeg v1)))]) (st' := [.int (q.1 4 (Int32.toNatClampNeg v1)), .int (q.1 4 (Int32.toNatClampNeg v1)), .ref (v3 + 2)]) 2 rfl ?_
      obtain ⟨o6, hS⟩ := hS
      refine x_cv (j := 82) (ne := 0) (vs := [.int (q.1 4 (Int32.toNatClampNeg v1)), .int (q.1 4 (Int32.toNatClampNeg v1))]) (rest := []) rfl (by decide +kernel) (by decide +kernel) (by decide) (Eq.trans rfl (show 2 = _ from by decide +kernel)) (rg_s (pc_r1 fv3)) (by decide +kernel) rfl (Nat.le_of_ble_eq_true rfl) (by omega) (T82 (Nat.le_refl 1) (pc_r1 fv3) o6) (hp_m hN) ?_
      show AW l X 103 c103 d r h' 76 [some (.ref 40), some (.int v1), some (.ref v2), some (.ref v3), some (.int (q.1 4 (Int32.toNatClampNeg v1)))] [] (hp (F82_0 (v3 + 2) (q.1 4 (Int32.toNatClampNeg v1)) (q.1 4 (Int32.toNatClampNeg v1)) q))
      refine x_kill [0, 1, 2, 3, 4] ?_
      exact A103_76 hd hN hG hS
    · rw [if_neg hc12] at hG
      replace hS := hS.2 hc12
      by_cases hc13 : (q.1 3 (Int32.toNatClampNeg v1)) = 2
      · rw [if_pos hc13] at hG
        replace hS := hS.1 hc13
        refine x_tsIn (off := 58) 78 rfl (by rw [hc13]; decide) (by rw [hc13]; decide) (by rw [hc13]; rfl) rfl ?_
        refine x_run (pc' := 80) (lo' := [some (.ref 40), some (.int v1), some (.ref v2), some (.ref v3), some (.int (q.1 4 (Int32.toNatClampNeg v1)))]) (st' := [.int 1, .ref v3]) 2 rfl ?_
        refine x_pf (c := 322) (ne := 1) (h2 := hp (a_w q v3 2 1)) rfl (by decide +kernel) (by decide +kernel) (pc_s fv3) (pv_z rfl (Or.inr rfl)) ?_
        refine x_run (pc' := 84) (lo' := [some (.ref 40), some (.int v1), some (.ref v2), some (.ref v3), some (.int (q.1 4 (Int32.toNatClampNeg v1)))]) (st' := [.int 0]) 1 rfl ?_
        obtain ⟨rfl, rfl⟩ := hG
        exact x_iret rfl (by decide +kernel)
      · rw [if_neg hc13] at hG
        replace hS := hS.2 hc13
        by_cases hc14 : (q.1 3 (Int32.toNatClampNeg v1)) = 3
        · rw [if_pos hc14] at hG
          replace hS := hS.1 hc14
          refine x_tsIn (off := 65) 85 rfl (by rw [hc14]; decide) (by rw [hc14]; decide) (by rw [hc14]; rfl) rfl ?_
          refine x_run (pc' := 87) (lo' := [some (.ref 40), some (.int v1), some (.ref v2), some (.ref v3), some (.int (q.1 4 (Int32.toNatClampNeg v1)))]) (st' := [.ref v2, .ref v3]) 2 rfl ?_
          refine x_gf (c := 256) (ne := 1) (v := .ref (v2 + 1)) rfl (by decide +kernel) (st_s fv2) (st_v fv2) ?_
          refine x_run (pc' := 92) (lo' := [some (.ref 40), some (.int v1), some (.ref v2), some (.ref v3), some (.int (q.1 4 (Int32.toNatClampNeg v1)))]) (st' := [.int (q.1 4 (Int32.toNatClampNeg v1)), .ref (v2 + 1), .ref v3]) 1 rfl ?_
          obtain ⟨o7, hS⟩ := hS
          refine x_aa (n := 5) (t := 20) (v := v2 + 2 + 3 * (Int32.toNatClampNeg (q.1 4 (Int32.toNatClampNeg v1)))) rfl (st_a fv2) (Or.inr rfl) o7 (st_m fv2 o7) ?_
          obtain ⟨o8, hS⟩ := hS
          refine x_cv (j := 64) (ne := 0) (vs := [.ref (v2 + 2 + 3 * (Int32.toNatClampNeg (q.1 4 (Int32.toNatClampNeg v1))))]) (rest := []) rfl (by decide +kernel) (by decide +kernel) (by decide) (Eq.trans rfl (show 1 = _ from by decide +kernel)) (pc_s fv3) (by decide +kernel) rfl (Nat.le_of_ble_eq_true rfl) (by omega) (T64 (Nat.le_refl 2) fv3 (st_p fv2 o7) o8) (hp_m hN) ?_
          show AW l X 103 c103 d r h' 96 [some (.ref 40), some (.int v1), some (.ref v2), some (.ref v3), some (.int (q.1 4 (Int32.toNatClampNeg v1)))] [] (hp (F64_0 v3 (v2 + 2 + 3 * (Int32.toNatClampNeg (q.1 4 (Int32.toNatClampNeg v1)))) q))
          refine x_kill [0, 1] ?_
          exact A103_96 hd hN fv2 fv3 hG hS
        · rw [if_neg hc14] at hG
          replace hS := hS.2 hc14
          refine x_tsOut 120 rfl (by have z0 := sw_ne (k := 0) hc11 (by decide); have z1 := sw_ne (k := 1) hc12 (by decide); have z2 := sw_ne (k := 2) hc13 (by decide); have z3 := sw_ne (k := 3) hc14 (by decide); omega) rfl ?_
          refine x_run (pc' := 121) (lo' := [some (.ref 40), some (.int v1), some (.ref v2), some (.ref v3), some (.int (q.1 4 (Int32.toNatClampNeg v1)))]) (st' := [.ref v3]) 1 rfl ?_
          refine x_gf (c := 320) (ne := 1) (v := .ref (v3 + 1)) rfl (by decide +kernel) (pc_s fv3) (pc_v0 fv3) ?_
          obtain ⟨o4, hS⟩ := hS
          refine x_cv (j := 84) (ne := 0) (vs := []) (rest := []) rfl (by decide +kernel) (by decide +kernel) (by decide) (Eq.trans rfl (show 0 = _ from by decide +kernel)) (rg_s (pc_r0 fv3)) (by decide +kernel) rfl (Nat.le_of_ble_eq_true rfl) (by omega) (T84 (Nat.le_refl 2) (pc_r0 fv3) o4) (hp_m hN) ?_
          show AW l X 103 c103 d r h' 127 [some (.ref 40), some (.int v1), some (.ref v2), some (.ref v3), some (.int (q.1 4 (Int32.toNatClampNeg v1)))] [] (hp (F84_0 (v3 + 1) q))
          refine x_kill [0, 1, 2, 3, 4] ?_
          exact A103_127 hd hN hG hS
theorem T103 {l : Launch} {X : aX} {d : Nat} {v1 : Int32} {v2 : Nat} {v3 : Nat} {q : aQ} (hd : 3 ≤ d) (fv2 : isSt v2) (fv3 : isPic v3) (hS : S103_0 v1 v2 v3 q) : Call l X d 103 [.ref 40, .int v1, .ref v2, .ref v3] (hp q) (some (.int (F103_0 v1 v2 v3 q).1)) (hp (F103_0 v1 v2 v3 q).2) := Call.of ok103 (by decide) (Nat.le_of_ble_eq_true rfl) ⟨Nat.le_refl _, Nat.le_refl _⟩ (A103_0 hd rfl fv2 fv3 ⟨rfl, rfl⟩ hS)
/-- TypeForecast$Painter.paintSingle(ILTypeForecast$Picture;LTypeForecast$Picture;)I -/
def F104_31 (v1 : Nat) (s0 : Int32) (q : aQ) : Int32 × aQ := (if (F69_0 v1 q) = 0 then (0, q) else (2, q))
def S104_31 (v1 : Nat) (s0 : Int32) (q : aQ) : Prop := S69_0 v1 q ∧ ((((F69_0 v1 q) = 0) → True) ∧ (¬ ((F69_0 v1 q) = 0) → True))
set_option maxRecDepth 100000 in
set_option maxHeartbeats 4000000 in
theorem A104_31 {l : Launch} {X : aX} {d : Nat} {r : Option Value} {h' : aH} {v1 : Nat} {s0 : Int32} {q : aQ} (hd : 3 ≤ d) (hN : h'.1 = nk0) (fv1 : isPic v1) (hG : gI r h' (F104_31 v1 s0 q)) (hS : S104_31 v1 s0 q) : AW l X 104 c104 d r h' 31 [none, some (.ref v1), none] [.int s0] (hp q) := by
  unfold F104_31 at hG
  unfold S104_31 at hS
  refine x_run (pc' := 33) (lo' := [none, some (.ref v1), none]) (st' := [.ref v1]) 2 rfl ?_
  obtain ⟨o3, hS⟩ := hS
  refine x_cv (j := 69) (ne := 0) (vs := []) (rest := []) rfl (by decide +kernel) (by decide +kernel) (by decide) (Eq.trans rfl (show 0 = _ from by decide +kernel)) (pc_s fv1) (by decide +kernel) rfl (Nat.le_of_ble_eq_true rfl) (by omega) (T69 (Nat.le_refl 2) fv1 o3) (hp_m hN) ?_
  show AW l X 104 c104 d r h' 36 [none, some (.ref v1), none] [.int (F69_0 v1 q)] (hp q)
  refine x_if 43 rfl rfl (fun (hc4 : (F69_0 v1 q) = 0) => ?_) (fun (hc4 : ¬ (F69_0 v1 q) = 0) => ?_)
  · rw [if_pos hc4] at hG
    replace hS := hS.1 hc4
    refine x_run (pc' := 44) (lo' := [none, some (.ref v1), none]) (st' := [.int 0]) 1 rfl ?_
    obtain ⟨rfl, rfl⟩ := hG
    exact x_iret rfl (by decide +kernel)
  · rw [if_neg hc4] at hG
    replace hS := hS.2 hc4
    refine x_run (pc' := 44) (lo' := [none, some (.ref v1), none]) (st' := [.int 2]) 2 rfl ?_
    obtain ⟨rfl, rfl⟩ := hG
    exact x_iret rfl (by decide +kernel)
def F104_18 (q : aQ) : Int32 × aQ := (0, q)
def S104_18 (q : aQ) : Prop := True
set_option maxRecDepth 100000 in
set_option maxHeartbeats 4000000 in
theorem A104_18 {l : Launch} {X : aX} {d : Nat} {r : Option Value} {h' : aH} {q : aQ} (hd : 3 ≤ d) (hN : h'.1 = nk0) (hG : gI r h' (F104_18 q)) (hS : S104_18 q) : AW l X 104 c104 d r h' 18 [none, none, none] [] (hp q) := by
  unfold F104_18 at hG
  unfold S104_18 at hS
  refine x_run (pc' := 19) (lo' := [none, none, none]) (st' := [.int 0]) 1 rfl ?_
  obtain ⟨rfl, rfl⟩ := hG
  exact x_iret rfl (by decide +kernel)
def F104_0 (v0 : Int32) (v1 : Nat) (v2 : Nat) (q : aQ) : Int32 × aQ := (if v0 = 6 then F104_18 (F75_0 v2 (F71_0 v1 q) (F70_0 v1 q) q) else F104_31 v1 ((F83_0 (v2 + 1) (v1 + 2) q).1) ((F83_0 (v2 + 1) (v1 + 2) q).2))
def S104_0 (v0 : Int32) (v1 : Nat) (v2 : Nat) (q : aQ) : Prop := ((v0 = 6) → S71_0 v1 q ∧ (S70_0 v1 q ∧ (S75_0 v2 (F71_0 v1 q) (F70_0 v1 q) q ∧ (S104_18 (F75_0 v2 (F71_0 v1 q) (F70_0 v1 q) q))))) ∧ (¬ (v0 = 6) → S83_0 (v2 + 1) (v1 + 2) q ∧ (S104_31 v1 ((F83_0 (v2 + 1) (v1 + 2) q).1) ((F83_0 (v2 + 1) (v1 + 2) q).2)))
set_option maxRecDepth 100000 in
set_option maxHeartbeats 4000000 in
theorem A104_0 {l : Launch} {X : aX} {d : Nat} {r : Option Value} {h' : aH} {v0 : Int32} {v1 : Nat} {v2 : Nat} {q : aQ} (hd : 3 ≤ d) (hN : h'.1 = nk0) (fv1 : isPic v1) (fv2 : isPic v2) (hG : gI r h' (F104_0 v0 v1 v2 q)) (hS : S104_0 v0 v1 v2 q) : AW l X 104 c104 d r h' 0 [some (.int v0), some (.ref v1), some (.ref v2)] [] (hp q) := by
  unfold F104_0 at hG
  unfold S104_0 at hS
  refine x_run (pc' := 3) (lo' := [some (.int v0), some (.ref v1), some (.ref v2)]) (st' := [.int 6, .int v0]) 2 rfl ?_
  refine x_ic 20 rfl rfl (fun (hc1 : ¬ v0 = 6) => ?_) (fun (hc1 : v0 = 6) => ?_)
  · rw [if_neg hc1] at hG
    replace hS := hS.2 hc1
    refine x_run (pc' := 21) (lo' := [some (.int v0), some (.ref v1), some (.ref v2)]) (st' := [.ref v2]) 1 rfl ?_
    refine x_gf (c := 320) (ne := 1) (v := .ref (v2 + 1)) rfl (by decide +kernel) (pc_s fv2) (pc_v0 fv2) ?_
    refine x_run (pc' := 25) (lo' := [some (.int v0), some (.ref v1), some (.ref v2)]) (st' := [.ref v1, .ref (v2 + 1)]) 1 rfl ?_
    refine x_gf (c := 321) (ne := 1) (v := .ref (v1 + 2)) rfl (by decide +kernel) (pc_s fv1) (pc_v1 fv1) ?_
    obtain ⟨o2, hS⟩ := hS
    refine x_cv (j := 83) (ne := 0) (vs := [.ref (v1 + 2)]) (rest := []) rfl (by decide +kernel) (by decide +kernel) (by decide) (Eq.trans rfl (show 1 = _ from by decide +kernel)) (rg_s (pc_r0 fv2)) (by decide +kernel) rfl (Nat.le_of_ble_eq_true rfl) (by omega) (T83 (Nat.le_refl 1) (pc_r0 fv2) (pc_r1 fv1) o2) (hp_m hN) ?_
    show AW l X 104 c104 d r h' 31 [some (.int v0), some (.ref v1), some (.ref v2)] [.int (F83_0 (v2 + 1) (v1 + 2) q).1] (hp (F83_0 (v2 + 1) (v1 + 2) q).2)
    refine x_kill [0, 2] ?_
    exact A104_31 hd hN fv1 hG hS
  · rw [if_pos hc1] at hG
    replace hS := hS.1 hc1
    refine x_run (pc' := 8) (lo' := [some (.int v0), some (.ref v1), some (.ref v2)]) (st' := [.ref v1, .ref v2]) 2 rfl ?_
    obtain ⟨o5, hS⟩ := hS
    refine x_cv (j := 71) (ne := 0) (vs := []) (rest := [.ref v2]) rfl (by decide +kernel) (by decide +kernel) (by decide) (Eq.trans rfl (show 0 = _ from by decide +kernel)) (pc_s fv1) (by decide +kernel) rfl (Nat.le_of_ble_eq_true rfl) (by omega) (T71 (Nat.le_refl 2) fv1 o5) (hp_m hN) ?_
    show AW l X 104 c104 d r h' 11 [some (.int v0), some (.ref v1), some (.ref v2)] [.int (F71_0 v1 q), .ref v2] (hp q)
    refine x_run (pc' := 12) (lo' := [some (.int v0), some (.ref v1), some (.ref v2)]) (st' := [.ref v1, .int (F71_0 v1 q), .ref v2]) 1 rfl ?_
    obtain ⟨o6, hS⟩ := hS
    refine x_cv (j := 70) (ne := 0) (vs := []) (rest := [.int (F71_0 v1 q), .ref v2]) rfl (by decide +kernel) (by decide +kernel) (by decide) (Eq.trans rfl (show 0 = _ from by decide +kernel)) (pc_s fv1) (by decide +kernel) rfl (Nat.le_of_ble_eq_true rfl) (by omega) (T70 (Nat.le_refl 2) fv1 o6) (hp_m hN) ?_
    show AW l X 104 c104 d r h' 15 [some (.int v0), some (.ref v1), some (.ref v2)] [.int (F70_0 v1 q), .int (F71_0 v1 q), .ref v2] (hp q)
    obtain ⟨o7, hS⟩ := hS
    refine x_cv (j := 75) (ne := 0) (vs := [.int (F71_0 v1 q), .int (F70_0 v1 q)]) (rest := []) rfl (by decide +kernel) (by decide +kernel) (by decide) (Eq.trans rfl (show 2 = _ from by decide +kernel)) (pc_s fv2) (by decide +kernel) rfl (Nat.le_of_ble_eq_true rfl) (by omega) (T75 (Nat.le_refl 2) fv2 o7) (hp_m hN) ?_
    show AW l X 104 c104 d r h' 18 [some (.int v0), some (.ref v1), some (.ref v2)] [] (hp (F75_0 v2 (F71_0 v1 q) (F70_0 v1 q) q))
    refine x_kill [0, 1, 2] ?_
    exact A104_18 hd hN hG hS
theorem T104 {l : Launch} {X : aX} {d : Nat} {v0 : Int32} {v1 : Nat} {v2 : Nat} {q : aQ} (hd : 3 ≤ d) (fv1 : isPic v1) (fv2 : isPic v2) (hS : S104_0 v0 v1 v2 q) : Call l X d 104 [.int v0, .ref v1, .ref v2] (hp q) (some (.int (F104_0 v0 v1 v2 q).1)) (hp (F104_0 v0 v1 v2 q).2) := Call.of ok104 (by decide) (Nat.le_of_ble_eq_true rfl) ⟨Nat.le_refl _, Nat.le_refl _⟩ (A104_0 hd rfl fv1 fv2 ⟨rfl, rfl⟩ hS)
/-- TypeForecast$Painter.mixError(LTypeForecast$Picture;LTypeForecast$Picture;)I -/
def F106_39 (v2 : Int32) (s0 : Int32) (q : aQ) : Int32 := (if v2 = 0 then (if s0 = 0 then 2 else 0) else 0)
def S106_39 (v2 : Int32) (s0 : Int32) (q : aQ) : Prop := ((v2 = 0) → ((s0 = 0) → True) ∧ (¬ (s0 = 0) → True)) ∧ (¬ (v2 = 0) → True)
set_option maxRecDepth 100000 in
set_option maxHeartbeats 4000000 in
theorem A106_39 {l : Launch} {X : aX} {d : Nat} {r : Option Value} {h' : aH} {v2 : Int32} {s0 : Int32} {q : aQ} (hd : 3 ≤ d) (hN : h'.1 = nk0) (hG : gI r h' (F106_39 v2 s0 q, q)) (hS : S106_39 v2 s0 q) : AW l X 106 c106 d r h' 39 [none, none, some (.int v2), none] [.int s0] (hp q) := by
  unfold F106_39 at hG
  unfold S106_39 at hS
  refine x_run (pc' := 41) (lo' := [none, none, some (.int v2), some (.int s0)]) (st' := [.int v2]) 2 rfl ?_
  refine x_if 48 rfl rfl (fun (hc5 : ¬ v2 = 0) => ?_) (fun (hc5 : v2 = 0) => ?_)
  · rw [if_neg hc5] at hG
    replace hS := hS.2 hc5
    refine x_run (pc' := 53) (lo' := [none, none, some (.int v2), some (.int s0)]) (st' := [.int 0]) 2 rfl ?_
    obtain ⟨rfl, rfl⟩ := hG
    exact x_iret rfl (by decide +kernel)
  · rw [if_pos hc5] at hG
    replace hS := hS.1 hc5
    refine x_run (pc' := 45) (lo' := [none, none, some (.int v2), some (.int s0)]) (st' := [.int s0]) 1 rfl ?_
    refine x_if 52 rfl rfl (fun (hc6 : s0 = 0) => ?_) (fun (hc6 : ¬ s0 = 0) => ?_)
    · rw [if_pos hc6] at hG
      replace hS := hS.1 hc6
      refine x_run (pc' := 53) (lo' := [none, none, some (.int v2), some (.int s0)]) (st' := [.int 2]) 1 rfl ?_
      obtain ⟨rfl, rfl⟩ := hG
      exact x_iret rfl (by decide +kernel)
    · rw [if_neg hc6] at hG
      replace hS := hS.2 hc6
      refine x_run (pc' := 53) (lo' := [none, none, some (.int v2), some (.int s0)]) (st' := [.int 0]) 2 rfl ?_
      obtain ⟨rfl, rfl⟩ := hG
      exact x_iret rfl (by decide +kernel)
def F106_38 (v2 : Int32) (q : aQ) : Int32 := F106_39 v2 0 q
def S106_38 (v2 : Int32) (q : aQ) : Prop := S106_39 v2 0 q
set_option maxRecDepth 100000 in
set_option maxHeartbeats 4000000 in
theorem A106_38 {l : Launch} {X : aX} {d : Nat} {r : Option Value} {h' : aH} {v2 : Int32} {q : aQ} (hd : 3 ≤ d) (hN : h'.1 = nk0) (hG : gI r h' (F106_38 v2 q, q)) (hS : S106_38 v2 q) : AW l X 106 c106 d r h' 38 [none, none, some (.int v2), none] [] (hp q) := by
  unfold F106_38 at hG
  unfold S106_38 at hS
  refine x_run (pc' := 39) (lo' := [none, none, some (.int v2), none]) (st' := [.int 0]) 1 rfl ?_
  exact A106_39 hd hN hG hS
def F106_19 (v0 : Nat) (v1 : Nat) (s0 : Int32) (q : aQ) : Int32 := (if (F69_0 v0 q) = 0 then (if (F69_0 v1 q) = 0 then F106_39 s0 1 q else F106_38 s0 q) else F106_38 s0 q)
def S106_19 (v0 : Nat) (v1 : Nat) (s0 : Int32) (q : aQ) : Prop := S69_0 v0 q ∧ ((((F69_0 v0 q) = 0) → S69_0 v1 q ∧ ((((F69_0 v1 q) = 0) → S106_39 s0 1 q) ∧ (¬ ((F69_0 v1 q) = 0) → S106_38 s0 q))) ∧ (¬ ((F69_0 v0 q) = 0) → S106_38 s0 q))
set_option maxRecDepth 100000 in
set_option maxHeartbeats 4000000 in
theorem A106_19 {l : Launch} {X : aX} {d : Nat} {r : Option Value} {h' : aH} {v0 : Nat} {v1 : Nat} {s0 : Int32} {q : aQ} (hd : 3 ≤ d) (hN : h'.1 = nk0) (fv0 : isPic v0) (fv1 : isPic v1) (hG : gI r h' (F106_19 v0 v1 s0 q, q)) (hS : S106_19 v0 v1 s0 q) : AW l X 106 c106 d r h' 19 [some (.ref v0), some (.ref v1), none, none] [.int s0] (hp q) := by
  unfold F106_19 at hG
  unfold S106_19 at hS
  refine x_run (pc' := 21) (lo' := [some (.ref v0), some (.ref v1), some (.int s0), none]) (st' := [.ref v0]) 2 rfl ?_
  obtain ⟨o3, hS⟩ := hS
  refine x_cv (j := 69) (ne := 0) (vs := []) (rest := []) rfl (by decide +kernel) (by decide +kernel) (by decide) (Eq.trans rfl (show 0 = _ from by decide +kernel)) (pc_s fv0) (by decide +kernel) rfl (Nat.le_of_ble_eq_true rfl) (by omega) (T69 (Nat.le_refl 2) fv0 o3) (hp_m hN) ?_
  show AW l X 106 c106 d r h' 24 [some (.ref v0), some (.ref v1), some (.int s0), none] [.int (F69_0 v0 q)] (hp q)
  refine x_if 38 rfl rfl (fun (hc4 : ¬ (F69_0 v0 q) = 0) => ?_) (fun (hc4 : (F69_0 v0 q) = 0) => ?_)
  · rw [if_neg hc4] at hG
    replace hS := hS.2 hc4
    refine x_kill [0, 1] ?_
    exact A106_38 hd hN hG hS
  · rw [if_pos hc4] at hG
    replace hS := hS.1 hc4
    refine x_run (pc' := 28) (lo' := [some (.ref v0), some (.ref v1), some (.int s0), none]) (st' := [.ref v1]) 1 rfl ?_
    obtain ⟨o7, hS⟩ := hS
    refine x_cv (j := 69) (ne := 0) (vs := []) (rest := []) rfl (by decide +kernel) (by decide +kernel) (by decide) (Eq.trans rfl (show 0 = _ from by decide +kernel)) (pc_s fv1) (by decide +kernel) rfl (Nat.le_of_ble_eq_true rfl) (by omega) (T69 (Nat.le_refl 2) fv1 o7) (hp_m hN) ?_
    show AW l X 106 c106 d r h' 31 [some (.ref v0), some (.ref v1), some (.int s0), none] [.int (F69_0 v1 q)] (hp q)
    refine x_if 38 rfl rfl (fun (hc8 : ¬ (F69_0 v1 q) = 0) => ?_) (fun (hc8 : (F69_0 v1 q) = 0) => ?_)
    · rw [if_neg hc8] at hG
      replace hS := hS.2 hc8
      refine x_kill [0, 1] ?_
      exact A106_38 hd hN hG hS
    · rw [if_pos hc8] at hG
      replace hS := hS.1 hc8
      refine x_run (pc' := 39) (lo' := [some (.ref v0), some (.ref v1), some (.int s0), none]) (st' := [.int 1]) 2 rfl ?_
      refine x_kill [0, 1] ?_
      exact A106_39 hd hN hG hS
def F106_18 (v0 : Nat) (v1 : Nat) (q : aQ) : Int32 := F106_19 v0 v1 0 q
def S106_18 (v0 : Nat) (v1 : Nat) (q : aQ) : Prop := S106_19 v0 v1 0 q
set_option maxRecDepth 100000 in
set_option maxHeartbeats 4000000 in
theorem A106_18 {l : Launch} {X : aX} {d : Nat} {r : Option Value} {h' : aH} {v0 : Nat} {v1 : Nat} {q : aQ} (hd : 3 ≤ d) (hN : h'.1 = nk0) (fv0 : isPic v0) (fv1 : isPic v1) (hG : gI r h' (F106_18 v0 v1 q, q)) (hS : S106_18 v0 v1 q) : AW l X 106 c106 d r h' 18 [some (.ref v0), some (.ref v1), none, none] [] (hp q) := by
  unfold F106_18 at hG
  unfold S106_18 at hS
  refine x_run (pc' := 19) (lo' := [some (.ref v0), some (.ref v1), none, none]) (st' := [.int 0]) 1 rfl ?_
  exact A106_19 hd hN fv0 fv1 hG hS
def F106_0 (v0 : Nat) (v1 : Nat) (q : aQ) : Int32 := (if (F68_0 v0 q) = 0 then (if (F68_0 v1 q) = 0 then F106_19 v0 v1 1 q else F106_18 v0 v1 q) else F106_18 v0 v1 q)
def S106_0 (v0 : Nat) (v1 : Nat) (q : aQ) : Prop := S68_0 v0 q ∧ ((((F68_0 v0 q) = 0) → S68_0 v1 q ∧ ((((F68_0 v1 q) = 0) → S106_19 v0 v1 1 q) ∧ (¬ ((F68_0 v1 q) = 0) → S106_18 v0 v1 q))) ∧ (¬ ((F68_0 v0 q) = 0) → S106_18 v0 v1 q))
set_option maxRecDepth 100000 in
set_option maxHeartbeats 4000000 in
theorem A106_0 {l : Launch} {X : aX} {d : Nat} {r : Option Value} {h' : aH} {v0 : Nat} {v1 : Nat} {q : aQ} (hd : 3 ≤ d) (hN : h'.1 = nk0) (fv0 : isPic v0) (fv1 : isPic v1) (hG : gI r h' (F106_0 v0 v1 q, q)) (hS : S106_0 v0 v1 q) : AW l X 106 c106 d r h' 0 [some (.ref v0), some (.ref v1), none, none] [] (hp q) := by
  unfold F106_0 at hG
  unfold S106_0 at hS
  refine x_run (pc' := 1) (lo' := [some (.ref v0), some (.ref v1), none, none]) (st' := [.ref v0]) 1 rfl ?_
  obtain ⟨o1, hS⟩ := hS
  refine x_cv (j := 68) (ne := 0) (vs := []) (rest := []) rfl (by decide +kernel) (by decide +kernel) (by decide) (Eq.trans rfl (show 0 = _ from by decide +kernel)) (pc_s fv0) (by decide +kernel) rfl (Nat.le_of_ble_eq_true rfl) (by omega) (T68 (Nat.le_refl 2) fv0 o1) (hp_m hN) ?_
  show AW l X 106 c106 d r h' 4 [some (.ref v0), some (.ref v1), none, none] [.int (F68_0 v0 q)] (hp q)
  refine x_if 18 rfl rfl (fun (hc2 : ¬ (F68_0 v0 q) = 0) => ?_) (fun (hc2 : (F68_0 v0 q) = 0) => ?_)
  · rw [if_neg hc2] at hG
    replace hS := hS.2 hc2
    exact A106_18 hd hN fv0 fv1 hG hS
  · rw [if_pos hc2] at hG
    replace hS := hS.1 hc2
    refine x_run (pc' := 8) (lo' := [some (.ref v0), some (.ref v1), none, none]) (st' := [.ref v1]) 1 rfl ?_
    obtain ⟨o9, hS⟩ := hS
    refine x_cv (j := 68) (ne := 0) (vs := []) (rest := []) rfl (by decide +kernel) (by decide +kernel) (by decide) (Eq.trans rfl (show 0 = _ from by decide +kernel)) (pc_s fv1) (by decide +kernel) rfl (Nat.le_of_ble_eq_true rfl) (by omega) (T68 (Nat.le_refl 2) fv1 o9) (hp_m hN) ?_
    show AW l X 106 c106 d r h' 11 [some (.ref v0), some (.ref v1), none, none] [.int (F68_0 v1 q)] (hp q)
    refine x_if 18 rfl rfl (fun (hc10 : ¬ (F68_0 v1 q) = 0) => ?_) (fun (hc10 : (F68_0 v1 q) = 0) => ?_)
    · rw [if_neg hc10] at hG
      replace hS := hS.2 hc10
      exact A106_18 hd hN fv0 fv1 hG hS
    · rw [if_pos hc10] at hG
      replace hS := hS.1 hc10
      refine x_run (pc' := 19) (lo' := [some (.ref v0), some (.ref v1), none, none]) (st' := [.int 1]) 2 rfl ?_
      exact A106_19 hd hN fv0 fv1 hG hS
theorem T106 {l : Launch} {X : aX} {d : Nat} {v0 : Nat} {v1 : Nat} {q : aQ} (hd : 3 ≤ d) (fv0 : isPic v0) (fv1 : isPic v1) (hS : S106_0 v0 v1 q) : Call l X d 106 [.ref v0, .ref v1] (hp q) (some (.int (F106_0 v0 v1 q))) (hp q) := Call.of ok106 (by decide) (Nat.le_of_ble_eq_true rfl) ⟨Nat.le_refl _, Nat.le_refl _⟩ (A106_0 hd rfl fv0 fv1 ⟨rfl, rfl⟩ hS)
/-- TypeForecast$Painter.nonNumberError(LTypeForecast$Picture;LTypeForecast$Picture;)I -/
def F107_0 (v0 : Nat) (v1 : Nat) (q : aQ) : Int32 := (if (F68_0 v0 q) = 0 then (if (F68_0 v1 q) = 0 then 0 else 2) else 2)
def S107_0 (v0 : Nat) (v1 : Nat) (q : aQ) : Prop := S68_0 v0 q ∧ ((((F68_0 v0 q) = 0) → S68_0 v1 q ∧ ((((F68_0 v1 q) = 0) → True) ∧ (¬ ((F68_0 v1 q) = 0) → True))) ∧ (¬ ((F68_0 v0 q) = 0) → True))
set_option maxRecDepth 100000 in
set_option maxHeartbeats 4000000 in
theorem A107_0 {l : Launch} {X : aX} {d : Nat} {r : Option Value} {h' : aH} {v0 : Nat} {v1 : Nat} {q : aQ} (hd : 3 ≤ d) (hN : h'.1 = nk0) (fv0 : isPic v0) (fv1 : isPic v1) (hG : gI r h' (F107_0 v0 v1 q, q)) (hS : S107_0 v0 v1 q) : AW l X 107 c107 d r h' 0 [some (.ref v0), some (.ref v1)] [] (hp q) := by
  unfold F107_0 at hG
  unfold S107_0 at hS
  refine x_run (pc' := 1) (lo' := [some (.ref v0), some (.ref v1)]) (st' := [.ref v0]) 1 rfl ?_
  obtain ⟨o1, hS⟩ := hS
  refine x_cv (j := 68) (ne := 0) (vs := []) (rest := []) rfl (by decide +kernel) (by decide +kernel) (by decide) (Eq.trans rfl (show 0 = _ from by decide +kernel)) (pc_s fv0) (by decide +kernel) rfl (Nat.le_of_ble_eq_true rfl) (by omega) (T68 (Nat.le_refl 2) fv0 o1) (hp_m hN) ?_
  show AW l X 107 c107 d r h' 4 [some (.ref v0), some (.ref v1)] [.int (F68_0 v0 q)] (hp q)
  refine x_if 14 rfl rfl (fun (hc2 : ¬ (F68_0 v0 q) = 0) => ?_) (fun (hc2 : (F68_0 v0 q) = 0) => ?_)
  · rw [if_neg hc2] at hG
    replace hS := hS.2 hc2
    refine x_run (pc' := 19) (lo' := [some (.ref v0), some (.ref v1)]) (st' := [.int 2]) 2 rfl ?_
    obtain ⟨rfl, rfl⟩ := hG
    exact x_iret rfl (by decide +kernel)
  · rw [if_pos hc2] at hG
    replace hS := hS.1 hc2
    refine x_run (pc' := 8) (lo' := [some (.ref v0), some (.ref v1)]) (st' := [.ref v1]) 1 rfl ?_
    obtain ⟨o3, hS⟩ := hS
    refine x_cv (j := 68) (ne := 0) (vs := []) (rest := []) rfl (by decide +kernel) (by decide +kernel) (by decide) (Eq.trans rfl (show 0 = _ from by decide +kernel)) (pc_s fv1) (by decide +kernel) rfl (Nat.le_of_ble_eq_true rfl) (by omega) (T68 (Nat.le_refl 2) fv1 o3) (hp_m hN) ?_
    show AW l X 107 c107 d r h' 11 [some (.ref v0), some (.ref v1)] [.int (F68_0 v1 q)] (hp q)
    refine x_if 18 rfl rfl (fun (hc4 : (F68_0 v1 q) = 0) => ?_) (fun (hc4 : ¬ (F68_0 v1 q) = 0) => ?_)
    · rw [if_pos hc4] at hG
      replace hS := hS.1 hc4
      refine x_run (pc' := 19) (lo' := [some (.ref v0), some (.ref v1)]) (st' := [.int 0]) 1 rfl ?_
      obtain ⟨rfl, rfl⟩ := hG
      exact x_iret rfl (by decide +kernel)
    · rw [if_neg hc4] at hG
      replace hS := hS.2 hc4
      refine x_run (pc' := 19) (lo' := [some (.ref v0), some (.ref v1)]) (st' := [.int 2]) 2 rfl ?_
      obtain ⟨rfl, rfl⟩ := hG
      exact x_iret rfl (by decide +kernel)
theorem T107 {l : Launch} {X : aX} {d : Nat} {v0 : Nat} {v1 : Nat} {q : aQ} (hd : 3 ≤ d) (fv0 : isPic v0) (fv1 : isPic v1) (hS : S107_0 v0 v1 q) : Call l X d 107 [.ref v0, .ref v1] (hp q) (some (.int (F107_0 v0 v1 q))) (hp q) := Call.of ok107 (by decide) (Nat.le_of_ble_eq_true rfl) ⟨Nat.le_refl _, Nat.le_refl _⟩ (A107_0 hd rfl fv0 fv1 ⟨rfl, rfl⟩ hS)
/-- TypeForecast$Painter.zeroError(LTypeForecast$Picture;LTypeForecast$Picture;)I -/
def F108_0 (v0 : Nat) (v1 : Nat) (q : aQ) : Int32 := (if (F85_0 (v0 + 1) q) = 0 then (if (F87_0 (v1 + 1) 0 q) = 0 then 0 else 8) else 0)
def S108_0 (v0 : Nat) (v1 : Nat) (q : aQ) : Prop := S85_0 (v0 + 1) q ∧ ((((F85_0 (v0 + 1) q) = 0) → S87_0 (v1 + 1) 0 q ∧ ((((F87_0 (v1 + 1) 0 q) = 0) → True) ∧ (¬ ((F87_0 (v1 + 1) 0 q) = 0) → True))) ∧ (¬ ((F85_0 (v0 + 1) q) = 0) → True))
set_option maxRecDepth 100000 in
set_option maxHeartbeats 4000000 in
theorem A108_0 {l : Launch} {X : aX} {d : Nat} {r : Option Value} {h' : aH} {v0 : Nat} {v1 : Nat} {q : aQ} (hd : 2 ≤ d) (hN : h'.1 = nk0) (fv0 : isPic v0) (fv1 : isPic v1) (hG : gI r h' (F108_0 v0 v1 q, q)) (hS : S108_0 v0 v1 q) : AW l X 108 c108 d r h' 0 [some (.ref v0), some (.ref v1)] [] (hp q) := by
  unfold F108_0 at hG
  unfold S108_0 at hS
  refine x_run (pc' := 1) (lo' := [some (.ref v0), some (.ref v1)]) (st' := [.ref v0]) 1 rfl ?_
  refine x_gf (c := 320) (ne := 1) (v := .ref (v0 + 1)) rfl (by decide +kernel) (pc_s fv0) (pc_v0 fv0) ?_
  obtain ⟨o1, hS⟩ := hS
  refine x_cv (j := 85) (ne := 0) (vs := []) (rest := []) rfl (by decide +kernel) (by decide +kernel) (by decide) (Eq.trans rfl (show 0 = _ from by decide +kernel)) (rg_s (pc_r0 fv0)) (by decide +kernel) rfl (Nat.le_of_ble_eq_true rfl) (by omega) (T85 (Nat.le_refl 1) (pc_r0 fv0) o1) (hp_m hN) ?_
  show AW l X 108 c108 d r h' 7 [some (.ref v0), some (.ref v1)] [.int (F85_0 (v0 + 1) q)] (hp q)
  refine x_if 26 rfl rfl (fun (hc2 : ¬ (F85_0 (v0 + 1) q) = 0) => ?_) (fun (hc2 : (F85_0 (v0 + 1) q) = 0) => ?_)
  · rw [if_neg hc2] at hG
    replace hS := hS.2 hc2
    refine x_run (pc' := 27) (lo' := [some (.ref v0), some (.ref v1)]) (st' := [.int 0]) 1 rfl ?_
    obtain ⟨rfl, rfl⟩ := hG
    exact x_iret rfl (by decide +kernel)
  · rw [if_pos hc2] at hG
    replace hS := hS.1 hc2
    refine x_run (pc' := 11) (lo' := [some (.ref v0), some (.ref v1)]) (st' := [.ref v1]) 1 rfl ?_
    refine x_gf (c := 320) (ne := 1) (v := .ref (v1 + 1)) rfl (by decide +kernel) (pc_s fv1) (pc_v0 fv1) ?_
    refine x_run (pc' := 15) (lo' := [some (.ref v0), some (.ref v1)]) (st' := [.int 0, .ref (v1 + 1)]) 1 rfl ?_
    obtain ⟨o3, hS⟩ := hS
    refine x_cv (j := 87) (ne := 0) (vs := [.int 0]) (rest := []) rfl (by decide +kernel) (by decide +kernel) (by decide) (Eq.trans rfl (show 1 = _ from by decide +kernel)) (rg_s (pc_r0 fv1)) (by decide +kernel) rfl (Nat.le_of_ble_eq_true rfl) (by omega) (T87 (Nat.le_refl 1) (pc_r0 fv1) o3) (hp_m hN) ?_
    show AW l X 108 c108 d r h' 18 [some (.ref v0), some (.ref v1)] [.int (F87_0 (v1 + 1) 0 q)] (hp q)
    refine x_if 26 rfl rfl (fun (hc4 : (F87_0 (v1 + 1) 0 q) = 0) => ?_) (fun (hc4 : ¬ (F87_0 (v1 + 1) 0 q) = 0) => ?_)
    · rw [if_pos hc4] at hG
      replace hS := hS.1 hc4
      refine x_run (pc' := 27) (lo' := [some (.ref v0), some (.ref v1)]) (st' := [.int 0]) 1 rfl ?_
      obtain ⟨rfl, rfl⟩ := hG
      exact x_iret rfl (by decide +kernel)
    · rw [if_neg hc4] at hG
      replace hS := hS.2 hc4
      refine x_run (pc' := 27) (lo' := [some (.ref v0), some (.ref v1)]) (st' := [.int 8]) 2 rfl ?_
      obtain ⟨rfl, rfl⟩ := hG
      exact x_iret rfl (by decide +kernel)
theorem T108 {l : Launch} {X : aX} {d : Nat} {v0 : Nat} {v1 : Nat} {q : aQ} (hd : 2 ≤ d) (fv0 : isPic v0) (fv1 : isPic v1) (hS : S108_0 v0 v1 q) : Call l X d 108 [.ref v0, .ref v1] (hp q) (some (.int (F108_0 v0 v1 q))) (hp q) := Call.of ok108 (by decide) (Nat.le_of_ble_eq_true rfl) ⟨Nat.le_refl _, Nat.le_refl _⟩ (A108_0 hd rfl fv0 fv1 ⟨rfl, rfl⟩ hS)
/-- TypeForecast$Painter.paintPair(ILTypeForecast$Picture;LTypeForecast$Picture;LTypeForecast$Picture;)I -/
def F105_274 (q : aQ) : Int32 × aQ := (0, q)
def S105_274 (q : aQ) : Prop := True
set_option maxRecDepth 100000 in
set_option maxHeartbeats 4000000 in
theorem A105_274 {l : Launch} {X : aX} {d : Nat} {r : Option Value} {h' : aH} {q : aQ} (hd : 4 ≤ d) (hN : h'.1 = nk0) (hG : gI r h' (F105_274 q)) (hS : S105_274 q) : AW l X 105 c105 d r h' 274 [none, none, none, none] [] (hp q) := by
  unfold F105_274 at hG
  unfold S105_274 at hS
  refine x_run (pc' := 275) (lo' := [none, none, none, none]) (st' := [.int 0]) 1 rfl ?_
  obtain ⟨rfl, rfl⟩ := hG
  exact x_iret rfl (by decide +kernel)
def F105_66 (v1 : Nat) (v2 : Nat) (q : aQ) : Int32 × aQ := ((F106_0 v1 v2 q), q)
def S105_66 (v1 : Nat) (v2 : Nat) (q : aQ) : Prop := S106_0 v1 v2 q ∧ (True)
set_option maxRecDepth 100000 in
set_option maxHeartbeats 4000000 in
theorem A105_66 {l : Launch} {X : aX} {d : Nat} {r : Option Value} {h' : aH} {v1 : Nat} {v2 : Nat} {q : aQ} (hd : 4 ≤ d) (hN : h'.1 = nk0) (fv1 : isPic v1) (fv2 : isPic v2) (hG : gI r h' (F105_66 v1 v2 q)) (hS : S105_66 v1 v2 q) : AW l X 105 c105 d r h' 66 [none, some (.ref v1), some (.ref v2), none] [] (hp q) := by
  unfold F105_66 at hG
  unfold S105_66 at hS
  refine x_run (pc' := 68) (lo' := [none, some (.ref v1), some (.ref v2), none]) (st' := [.ref v2, .ref v1]) 2 rfl ?_
  obtain ⟨o7, hS⟩ := hS
  refine x_cs (j := 106) (ne := 0) (vs := [.ref v1, .ref v2]) (rest := []) rfl (by decide +kernel) (by decide +kernel) (by decide) (Eq.trans rfl (show 2 = _ from by decide +kernel)) rfl (Nat.le_of_ble_eq_true rfl) (by omega) (T106 (Nat.le_refl 3) fv1 fv2 o7) (hp_m hN) ?_
  show AW l X 105 c105 d r h' 71 [none, some (.ref v1), some (.ref v2), none] [.int (F106_0 v1 v2 q)] (hp q)
  obtain ⟨rfl, rfl⟩ := hG
  exact x_iret rfl (by decide +kernel)
def F105_51 (v1 : Nat) (v2 : Nat) (v3 : Nat) (q : aQ) : Int32 × aQ := F105_66 v1 v2 (F94_0 (v3 + 2) (v1 + 2) (v2 + 2) q)
def S105_51 (v1 : Nat) (v2 : Nat) (v3 : Nat) (q : aQ) : Prop := S94_0 (v3 + 2) (v1 + 2) (v2 + 2) q ∧ (S105_66 v1 v2 (F94_0 (v3 + 2) (v1 + 2) (v2 + 2) q))
set_option maxRecDepth 100000 in
set_option maxHeartbeats 4000000 in
theorem A105_51 {l : Launch} {X : aX} {d : Nat} {r : Option Value} {h' : aH} {v1 : Nat} {v2 : Nat} {v3 : Nat} {q : aQ} (hd : 4 ≤ d) (hN : h'.1 = nk0) (fv1 : isPic v1) (fv2 : isPic v2) (fv3 : isPic v3) (hG : gI r h' (F105_51 v1 v2 v3 q)) (hS : S105_51 v1 v2 v3 q) : AW l X 105 c105 d r h' 51 [none, some (.ref v1), some (.ref v2), some (.ref v3)] [] (hp q) := by
  unfold F105_51 at hG
  unfold S105_51 at hS
  refine x_run (pc' := 52) (lo' := [none, some (.ref v1), some (.ref v2), some (.ref v3)]) (st' := [.ref v3]) 1 rfl ?_
  refine x_gf (c := 321) (ne := 1) (v := .ref (v3 + 2)) rfl (by decide +kernel) (pc_s fv3) (pc_v1 fv3) ?_
  refine x_run (pc' := 56) (lo' := [none, some (.ref v1), some (.ref v2), some (.ref v3)]) (st' := [.ref v1, .ref (v3 + 2)]) 1 rfl ?_
  refine x_gf (c := 321) (ne := 1) (v := .ref (v1 + 2)) rfl (by decide +kernel) (pc_s fv1) (pc_v1 fv1) ?_
  refine x_run (pc' := 60) (lo' := [none, some (.ref v1), some (.ref v2), some (.ref v3)]) (st' := [.ref v2, .ref (v1 + 2), .ref (v3 + 2)]) 1 rfl ?_
  refine x_gf (c := 321) (ne := 1) (v := .ref (v2 + 2)) rfl (by decide +kernel) (pc_s fv2) (pc_v1 fv2) ?_
  obtain ⟨o6, hS⟩ := hS
  refine x_cv (j := 94) (ne := 0) (vs := [.ref (v1 + 2), .ref (v2 + 2)]) (rest := []) rfl (by decide +kernel) (by decide +kernel) (by decide) (Eq.trans rfl (show 2 = _ from by decide +kernel)) (rg_s (pc_r1 fv3)) (by decide +kernel) rfl (Nat.le_of_ble_eq_true rfl) (by omega) (T94 (Nat.le_refl 2) (pc_r1 fv3) (pc_r1 fv1) (pc_r1 fv2) o6) (hp_m hN) ?_
  show AW l X 105 c105 d r h' 66 [none, some (.ref v1), some (.ref v2), some (.ref v3)] [] (hp (F94_0 (v3 + 2) (v1 + 2) (v2 + 2) q))
  refine x_kill [3] ?_
  exact A105_66 hd hN fv1 fv2 hG hS
def F105_87 (v1 : Nat) (v2 : Nat) (q : aQ) : Int32 × aQ := ((F107_0 v1 v2 q), q)
def S105_87 (v1 : Nat) (v2 : Nat) (q : aQ) : Prop := S107_0 v1 v2 q ∧ (True)
set_option maxRecDepth 100000 in
set_option maxHeartbeats 4000000 in
theorem A105_87 {l : Launch} {X : aX} {d : Nat} {r : Option Value} {h' : aH} {v1 : Nat} {v2 : Nat} {q : aQ} (hd : 4 ≤ d) (hN : h'.1 = nk0) (fv1 : isPic v1) (fv2 : isPic v2) (hG : gI r h' (F105_87 v1 v2 q)) (hS : S105_87 v1 v2 q) : AW l X 105 c105 d r h' 87 [none, some (.ref v1), some (.ref v2), none] [] (hp q) := by
  unfold F105_87 at hG
  unfold S105_87 at hS
  refine x_run (pc' := 89) (lo' := [none, some (.ref v1), some (.ref v2), none]) (st' := [.ref v2, .ref v1]) 2 rfl ?_
  obtain ⟨o9, hS⟩ := hS
  refine x_cs (j := 107) (ne := 0) (vs := [.ref v1, .ref v2]) (rest := []) rfl (by decide +kernel) (by decide +kernel) (by decide) (Eq.trans rfl (show 2 = _ from by decide +kernel)) rfl (Nat.le_of_ble_eq_true rfl) (by omega) (T107 (Nat.le_refl 3) fv1 fv2 o9) (hp_m hN) ?_
  show AW l X 105 c105 d r h' 92 [none, some (.ref v1), some (.ref v2), none] [.int (F107_0 v1 v2 q)] (hp q)
  obtain ⟨rfl, rfl⟩ := hG
  exact x_iret rfl (by decide +kernel)
def F105_108 (v1 : Nat) (v2 : Nat) (q : aQ) : Int32 × aQ := ((F107_0 v1 v2 q), q)
def S105_108 (v1 : Nat) (v2 : Nat) (q : aQ) : Prop := S107_0 v1 v2 q ∧ (True)
set_option maxRecDepth 100000 in
set_option maxHeartbeats 4000000 in
theorem A105_108 {l : Launch} {X : aX} {d : Nat} {r : Option Value} {h' : aH} {v1 : Nat} {v2 : Nat} {q : aQ} (hd : 4 ≤ d) (hN : h'.1 = nk0) (fv1 : isPic v1) (fv2 : isPic v2) (hG : gI r h' (F105_108 v1 v2 q)) (hS : S105_108 v1 v2 q) : AW l X 105 c105 d r h' 108 [none, some (.ref v1), some (.ref v2), none] [] (hp q) := by
  unfold F105_108 at hG
  unfold S105_108 at hS
  refine x_run (pc' := 110) (lo' := [none, some (.ref v1), some (.ref v2), none]) (st' := [.ref v2, .ref v1]) 2 rfl ?_
  obtain ⟨o11, hS⟩ := hS
  refine x_cs (j := 107) (ne := 0) (vs := [.ref v1, .ref v2]) (rest := []) rfl (by decide +kernel) (by decide +kernel) (by decide) (Eq.trans rfl (show 2 = _ from by decide +kernel)) rfl (Nat.le_of_ble_eq_true rfl) (by omega) (T107 (Nat.le_refl 3) fv1 fv2 o11) (hp_m hN) ?_
  show AW l X 105 c105 d r h' 113 [none, some (.ref v1), some (.ref v2), none] [.int (F107_0 v1 v2 q)] (hp q)
  obtain ⟨rfl, rfl⟩ := hG
  exact x_iret rfl (by decide +kernel)
def F105_172 (v1 : Nat) (v2 : Nat) (q : aQ) : Int32 × aQ := (((F107_0 v1 v2 q) ||| (F108_0 v1 v2 q)), q)
def S105_172 (v1 : Nat) (v2 : Nat) (q : aQ) : Prop := S107_0 v1 v2 q ∧ (S108_0 v1 v2 q ∧ (True))
set_option maxRecDepth 100000 in
set_option maxHeartbeats 4000000 in
theorem A105_172 {l : Launch} {X : aX} {d : Nat} {r : Option Value} {h' : aH} {v1 : Nat} {v2 : Nat} {q : aQ} (hd : 4 ≤ d) (hN : h'.1 = nk0) (fv1 : isPic v1) (fv2 : isPic v2) (hG : gI r h' (F105_172 v1 v2 q)) (hS : S105_172 v1 v2 q) : AW l X 105 c105 d r h' 172 [none, some (.ref v1), some (.ref v2), none] [] (hp q) := by
  unfold F105_172 at hG
  unfold S105_172 at hS
  refine x_run (pc' := 174) (lo' := [none, some (.ref v1), some (.ref v2), none]) (st' := [.ref v2, .ref v1]) 2 rfl ?_
  obtain ⟨o16, hS⟩ := hS
  refine x_cs (j := 107) (ne := 0) (vs := [.ref v1, .ref v2]) (rest := []) rfl (by decide +kernel) (by decide +kernel) (by decide) (Eq.trans rfl (show 2 = _ from by decide +kernel)) rfl (Nat.le_of_ble_eq_true rfl) (by omega) (T107 (Nat.le_refl 3) fv1 fv2 o16) (hp_m hN) ?_
  show AW l X 105 c105 d r h' 177 [none, some (.ref v1), some (.ref v2), none] [.int (F107_0 v1 v2 q)] (hp q)
  refine x_run (pc' := 179) (lo' := [none, some (.ref v1), some (.ref v2), none]) (st' := [.ref v2, .ref v1, .int (F107_0 v1 v2 q)]) 2 rfl ?_
  obtain ⟨o17, hS⟩ := hS
  refine x_cs (j := 108) (ne := 0) (vs := [.ref v1, .ref v2]) (rest := [.int (F107_0 v1 v2 q)]) rfl (by decide +kernel) (by decide +kernel) (by decide) (Eq.trans rfl (show 2 = _ from by decide +kernel)) rfl (Nat.le_of_ble_eq_true rfl) (by omega) (T108 (Nat.le_refl 2) fv1 fv2 o17) (hp_m hN) ?_
  show AW l X 105 c105 d r h' 182 [none, some (.ref v1), some (.ref v2), none] [.int (F108_0 v1 v2 q), .int (F107_0 v1 v2 q)] (hp q)
  refine x_run (pc' := 183) (lo' := [none, some (.ref v1), some (.ref v2), none]) (st' := [.int ((F107_0 v1 v2 q) ||| (F108_0 v1 v2 q))]) 1 rfl ?_
  obtain ⟨rfl, rfl⟩ := hG
  exact x_iret rfl (by decide +kernel)
def F105_143 (v1 : Nat) (v2 : Nat) (v3 : Nat) (q : aQ) : Int32 × aQ := F105_172 v1 v2 (F97_0 (v3 + 1) (v1 + 1) (F190_0 (q.1 (v2 + 1) 0) 1 q) (q.1 (v2 + 1) 1) q)
def S105_143 (v1 : Nat) (v2 : Nat) (v3 : Nat) (q : aQ) : Prop := S190_0 (q.1 (v2 + 1) 0) 1 q ∧ (S97_0 (v3 + 1) (v1 + 1) (F190_0 (q.1 (v2 + 1) 0) 1 q) (q.1 (v2 + 1) 1) q ∧ (S105_172 v1 v2 (F97_0 (v3 + 1) (v1 + 1) (F190_0 (q.1 (v2 + 1) 0) 1 q) (q.1 (v2 + 1) 1) q)))
set_option maxRecDepth 100000 in
set_option maxHeartbeats 4000000 in
theorem A105_143 {l : Launch} {X : aX} {d : Nat} {r : Option Value} {h' : aH} {v1 : Nat} {v2 : Nat} {v3 : Nat} {q : aQ} (hd : 4 ≤ d) (hN : h'.1 = nk0) (fv1 : isPic v1) (fv2 : isPic v2) (fv3 : isPic v3) (hG : gI r h' (F105_143 v1 v2 v3 q)) (hS : S105_143 v1 v2 v3 q) : AW l X 105 c105 d r h' 143 [none, some (.ref v1), some (.ref v2), some (.ref v3)] [] (hp q) := by
  unfold F105_143 at hG
  unfold S105_143 at hS
  refine x_run (pc' := 144) (lo' := [none, some (.ref v1), some (.ref v2), some (.ref v3)]) (st' := [.ref v3]) 1 rfl ?_
  refine x_gf (c := 320) (ne := 1) (v := .ref (v3 + 1)) rfl (by decide +kernel) (pc_s fv3) (pc_v0 fv3) ?_
  refine x_run (pc' := 148) (lo' := [none, some (.ref v1), some (.ref v2), some (.ref v3)]) (st' := [.ref v1, .ref (v3 + 1)]) 1 rfl ?_
  refine x_gf (c := 320) (ne := 1) (v := .ref (v1 + 1)) rfl (by decide +kernel) (pc_s fv1) (pc_v0 fv1) ?_
  refine x_run (pc' := 152) (lo' := [none, some (.ref v1), some (.ref v2), some (.ref v3)]) (st' := [.ref v2, .ref (v1 + 1), .ref (v3 + 1)]) 1 rfl ?_
  refine x_gf (c := 320) (ne := 1) (v := .ref (v2 + 1)) rfl (by decide +kernel) (pc_s fv2) (pc_v0 fv2) ?_
  refine x_gf (c := 384) (ne := 1) (v := .int (q.1 (v2 + 1) 0)) rfl (by decide +kernel) (rg_s (pc_r0 fv2)) rfl ?_
  refine x_run (pc' := 159) (lo' := [none, some (.ref v1), some (.ref v2), some (.ref v3)]) (st' := [.int 1, .int (q.1 (v2 + 1) 0), .ref (v1 + 1), .ref (v3 + 1)]) 1 rfl ?_
  obtain ⟨o14, hS⟩ := hS
  refine x_cs (j := 190) (ne := 0) (vs := [.int (q.1 (v2 + 1) 0), .int 1]) (rest := [.ref (v1 + 1), .ref (v3 + 1)]) rfl (by decide +kernel) (by decide +kernel) (by decide) (Eq.trans rfl (show 2 = _ from by decide +kernel)) rfl (Nat.le_of_ble_eq_true rfl) (by omega) (T190 (Nat.le_refl 1) o14) (hp_m hN) ?_
  show AW l X 105 c105 d r h' 162 [none, some (.ref v1), some (.ref v2), some (.ref v3)] [.int (F190_0 (q.1 (v2 + 1) 0) 1 q), .ref (v1 + 1), .ref (v3 + 1)] (hp q)
  refine x_run (pc' := 163) (lo' := [none, some (.ref v1), some (.ref v2), some (.ref v3)]) (st' := [.ref v2, .int (F190_0 (q.1 (v2 + 1) 0) 1 q), .ref (v1 + 1), .ref (v3 + 1)]) 1 rfl ?_
  refine x_gf (c := 320) (ne := 1) (v := .ref (v2 + 1)) rfl (by decide +kernel) (pc_s fv2) (pc_v0 fv2) ?_
  refine x_gf (c := 385) (ne := 1) (v := .int (q.1 (v2 + 1) 1)) rfl (by decide +kernel) (rg_s (pc_r0 fv2)) rfl ?_
  obtain ⟨o15, hS⟩ := hS
  refine x_cv (j := 97) (ne := 0) (vs := [.ref (v1 + 1), .int (F190_0 (q.1 (v2 + 1) 0) 1 q), .int (q.1 (v2 + 1) 1)]) (rest := []) rfl (by decide +kernel) (by decide +kernel) (by decide) (Eq.trans rfl (show 3 = _ from by decide +kernel)) (rg_s (pc_r0 fv3)) (by decide +kernel) rfl (Nat.le_of_ble_eq_true rfl) (by omega) (T97 (Nat.le_refl 3) (pc_r0 fv3) (pc_r0 fv1) o15) (hp_m hN) ?_
  show AW l X 105 c105 d r h' 172 [none, some (.ref v1), some (.ref v2), some (.ref v3)] [] (hp (F97_0 (v3 + 1) (v1 + 1) (F190_0 (q.1 (v2 + 1) 0) 1 q) (q.1 (v2 + 1) 1) q))
  refine x_kill [3] ?_
  exact A105_172 hd hN fv1 fv2 hG hS
def F105_254 (v1 : Nat) (v2 : Nat) (q : aQ) : Int32 × aQ := ((F106_0 v1 v2 q), q)
def S105_254 (v1 : Nat) (v2 : Nat) (q : aQ) : Prop := S106_0 v1 v2 q ∧ (True)
set_option maxRecDepth 100000 in
set_option maxHeartbeats 4000000 in
theorem A105_254 {l : Launch} {X : aX} {d : Nat} {r : Option Value} {h' : aH} {v1 : Nat} {v2 : Nat} {q : aQ} (hd : 4 ≤ d) (hN : h'.1 = nk0) (fv1 : isPic v1) (fv2 : isPic v2) (hG : gI r h' (F105_254 v1 v2 q)) (hS : S105_254 v1 v2 q) : AW l X 105 c105 d r h' 254 [none, some (.ref v1), some (.ref v2), none] [] (hp q) := by
  unfold F105_254 at hG
  unfold S105_254 at hS
  refine x_run (pc' := 256) (lo' := [none, some (.ref v1), some (.ref v2), none]) (st' := [.ref v2, .ref v1]) 2 rfl ?_
  obtain ⟨o23, hS⟩ := hS
  refine x_cs (j := 106) (ne := 0) (vs := [.ref v1, .ref v2]) (rest := []) rfl (by decide +kernel) (by decide +kernel) (by decide) (Eq.trans rfl (show 2 = _ from by decide +kernel)) rfl (Nat.le_of_ble_eq_true rfl) (by omega) (T106 (Nat.le_refl 3) fv1 fv2 o23) (hp_m hN) ?_
  show AW l X 105 c105 d r h' 259 [none, some (.ref v1), some (.ref v2), none] [.int (F106_0 v1 v2 q)] (hp q)
  obtain ⟨rfl, rfl⟩ := hG
  exact x_iret rfl (by decide +kernel)
def F105_251 (v1 : Nat) (v2 : Nat) (s0 : Int32) (s1 : Int32) (s2 : Nat) (q : aQ) : Int32 × aQ := F105_254 v1 v2 (F75_0 s2 s1 s0 q)
def S105_251 (v1 : Nat) (v2 : Nat) (s0 : Int32) (s1 : Int32) (s2 : Nat) (q : aQ) : Prop := S75_0 s2 s1 s0 q ∧ (S105_254 v1 v2 (F75_0 s2 s1 s0 q))
set_option maxRecDepth 100000 in
set_option maxHeartbeats 4000000 in
theorem A105_251 {l : Launch} {X : aX} {d : Nat} {r : Option Value} {h' : aH} {v1 : Nat} {v2 : Nat} {s0 : Int32} {s1 : Int32} {s2 : Nat} {q : aQ} (hd : 4 ≤ d) (hN : h'.1 = nk0) (fv1 : isPic v1) (fv2 : isPic v2) (fs2 : isPic s2) (hG : gI r h' (F105_251 v1 v2 s0 s1 s2 q)) (hS : S105_251 v1 v2 s0 s1 s2 q) : AW l X 105 c105 d r h' 251 [none, some (.ref v1), some (.ref v2), none] [.int s0, .int s1, .ref s2] (hp q) := by
  unfold F105_251 at hG
  unfold S105_251 at hS
  obtain ⟨o22, hS⟩ := hS
  refine x_cv (j := 75) (ne := 0) (vs := [.int s1, .int s0]) (rest := []) rfl (by decide +kernel) (by decide +kernel) (by decide) (Eq.trans rfl (show 2 = _ from by decide +kernel)) (pc_s fs2) (by decide +kernel) rfl (Nat.le_of_ble_eq_true rfl) (by omega) (T75 (Nat.le_refl 2) fs2 o22) (hp_m hN) ?_
  show AW l X 105 c105 d r h' 254 [none, some (.ref v1), some (.ref v2), none] [] (hp (F75_0 s2 s1 s0 q))
  exact A105_254 hd hN fv1 fv2 hG hS
def F105_246 (v1 : Nat) (v2 : Nat) (s0 : Int32) (s1 : Nat) (q : aQ) : Int32 × aQ := F105_251 v1 v2 1 s0 s1 q
def S105_246 (v1 : Nat) (v2 : Nat) (s0 : Int32) (s1 : Nat) (q : aQ) : Prop := S105_251 v1 v2 1 s0 s1 q
set_option maxRecDepth 100000 in
set_option maxHeartbeats 4000000 in
theorem A105_246 {l : Launch} {X : aX} {d : Nat} {r : Option Value} {h' : aH} {v1 : Nat} {v2 : Nat} {s0 : Int32} {s1 : Nat} {q : aQ} (hd : 4 ≤ d) (hN : h'.1 = nk0) (fv1 : isPic v1) (fv2 : isPic v2) (fs1 : isPic s1) (hG : gI r h' (F105_246 v1 v2 s0 s1 q)) (hS : S105_246 v1 v2 s0 s1 q) : AW l X 105 c105 d r h' 246 [none, some (.ref v1), some (.ref v2), none] [.int s0, .ref s1] (hp q) := by
  unfold F105_246 at hG
  unfold S105_246 at hS
  refine x_run (pc' := 251) (lo' := [none, some (.ref v1), some (.ref v2), none]) (st' := [.int 1, .int s0, .ref s1]) 2 rfl ?_
  exact A105_251 hd hN fv1 fv2 fs1 hG hS
def F105_218 (v1 : Nat) (v2 : Nat) (s0 : Int32) (s1 : Nat) (q : aQ) : Int32 × aQ := (if (F91_0 (v1 + 1) (v2 + 1) q) = 0 then (if (F91_0 (v1 + 2) (v2 + 2) q) = 0 then F105_251 v1 v2 0 s0 s1 q else F105_246 v1 v2 s0 s1 q) else F105_246 v1 v2 s0 s1 q)
def S105_218 (v1 : Nat) (v2 : Nat) (s0 : Int32) (s1 : Nat) (q : aQ) : Prop := S91_0 (v1 + 1) (v2 + 1) q ∧ ((((F91_0 (v1 + 1) (v2 + 1) q) = 0) → S91_0 (v1 + 2) (v2 + 2) q ∧ ((((F91_0 (v1 + 2) (v2 + 2) q) = 0) → S105_251 v1 v2 0 s0 s1 q) ∧ (¬ ((F91_0 (v1 + 2) (v2 + 2) q) = 0) → S105_246 v1 v2 s0 s1 q))) ∧ (¬ ((F91_0 (v1 + 1) (v2 + 1) q) = 0) → S105_246 v1 v2 s0 s1 q))
set_option maxRecDepth 100000 in
set_option maxHeartbeats 4000000 in
theorem A105_218 {l : Launch} {X : aX} {d : Nat} {r : Option Value} {h' : aH} {v1 : Nat} {v2 : Nat} {s0 : Int32} {s1 : Nat} {q : aQ} (hd : 4 ≤ d) (hN : h'.1 = nk0) (fv1 : isPic v1) (fv2 : isPic v2) (fs1 : isPic s1) (hG : gI r h' (F105_218 v1 v2 s0 s1 q)) (hS : S105_218 v1 v2 s0 s1 q) : AW l X 105 c105 d r h' 218 [none, some (.ref v1), some (.ref v2), none] [.int s0, .ref s1] (hp q) := by
  unfold F105_218 at hG
  unfold S105_218 at hS
  refine x_run (pc' := 219) (lo' := [none, some (.ref v1), some (.ref v2), none]) (st' := [.ref v1, .int s0, .ref s1]) 1 rfl ?_
  refine x_gf (c := 320) (ne := 1) (v := .ref (v1 + 1)) rfl (by decide +kernel) (pc_s fv1) (pc_v0 fv1) ?_
  refine x_run (pc' := 223) (lo' := [none, some (.ref v1), some (.ref v2), none]) (st' := [.ref v2, .ref (v1 + 1), .int s0, .ref s1]) 1 rfl ?_
  refine x_gf (c := 320) (ne := 1) (v := .ref (v2 + 1)) rfl (by decide +kernel) (pc_s fv2) (pc_v0 fv2) ?_
  obtain ⟨o20, hS⟩ := hS
  refine x_cv (j := 91) (ne := 0) (vs := [.ref (v2 + 1)]) (rest := [.int s0, .ref s1]) rfl (by decide +kernel) (by decide +kernel) (by decide) (Eq.trans rfl (show 1 = _ from by decide +kernel)) (rg_s (pc_r0 fv1)) (by decide +kernel) rfl (Nat.le_of_ble_eq_true rfl) (by omega) (T91 (Nat.le_refl 1) (pc_r0 fv1) (pc_r0 fv2) o20) (hp_m hN) ?_
  show AW l X 105 c105 d r h' 229 [none, some (.ref v1), some (.ref v2), none] [.int (F91_0 (v1 + 1) (v2 + 1) q), .int s0, .ref s1] (hp q)
  refine x_if 246 rfl rfl (fun (hc21 : ¬ (F91_0 (v1 + 1) (v2 + 1) q) = 0) => ?_) (fun (hc21 : (F91_0 (v1 + 1) (v2 + 1) q) = 0) => ?_)
  · rw [if_neg hc21] at hG
    replace hS := hS.2 hc21
    exact A105_246 hd hN fv1 fv2 fs1 hG hS
  · rw [if_pos hc21] at hG
    replace hS := hS.1 hc21
    refine x_run (pc' := 233) (lo' := [none, some (.ref v1), some (.ref v2), none]) (st' := [.ref v1, .int s0, .ref s1]) 1 rfl ?_
    refine x_gf (c := 321) (ne := 1) (v := .ref (v1 + 2)) rfl (by decide +kernel) (pc_s fv1) (pc_v1 fv1) ?_
    refine x_run (pc' := 237) (lo' := [none, some (.ref v1), some (.ref v2), none]) (st' := [.ref v2, .ref (v1 + 2), .int s0, .ref s1]) 1 rfl ?_
    refine x_gf (c := 321) (ne := 1) (v := .ref (v2 + 2)) rfl (by decide +kernel) (pc_s fv2) (pc_v1 fv2) ?_
    obtain ⟨o24, hS⟩ := hS
    refine x_cv (j := 91) (ne := 0) (vs := [.ref (v2 + 2)]) (rest := [.int s0, .ref s1]) rfl (by decide +kernel) (by decide +kernel) (by decide) (Eq.trans rfl (show 1 = _ from by decide +kernel)) (rg_s (pc_r1 fv1)) (by decide +kernel) rfl (Nat.le_of_ble_eq_true rfl) (by omega) (T91 (Nat.le_refl 1) (pc_r1 fv1) (pc_r1 fv2) o24) (hp_m hN) ?_
    show AW l X 105 c105 d r h' 243 [none, some (.ref v1), some (.ref v2), none] [.int (F91_0 (v1 + 2) (v2 + 2) q), .int s0, .ref s1] (hp q)
    refine x_if 250 rfl rfl (fun (hc25 : (F91_0 (v1 + 2) (v2 + 2) q) = 0) => ?_) (fun (hc25 : ¬ (F91_0 (v1 + 2) (v2 + 2) q) = 0) => ?_)
    · rw [if_pos hc25] at hG
      replace hS := hS.1 hc25
      refine x_run (pc' := 251) (lo' := [none, some (.ref v1), some (.ref v2), none]) (st' := [.int 0, .int s0, .ref s1]) 1 rfl ?_
      exact A105_251 hd hN fv1 fv2 fs1 hG hS
    · rw [if_neg hc25] at hG
      replace hS := hS.2 hc25
      exact A105_246 hd hN fv1 fv2 fs1 hG hS
def F105_213 (v1 : Nat) (v2 : Nat) (s0 : Nat) (q : aQ) : Int32 × aQ := F105_218 v1 v2 1 s0 q
def S105_213 (v1 : Nat) (v2 : Nat) (s0 : Nat) (q : aQ) : Prop := S105_218 v1 v2 1 s0 q
set_option maxRecDepth 100000 in
set_option maxHeartbeats 4000000 in
theorem A105_213 {l : Launch} {X : aX} {d : Nat} {r : Option Value} {h' : aH} {v1 : Nat} {v2 : Nat} {s0 : Nat} {q : aQ} (hd : 4 ≤ d) (hN : h'.1 = nk0) (fv1 : isPic v1) (fv2 : isPic v2) (fs0 : isPic s0) (hG : gI r h' (F105_213 v1 v2 s0 q)) (hS : S105_213 v1 v2 s0 q) : AW l X 105 c105 d r h' 213 [none, some (.ref v1), some (.ref v2), none] [.ref s0] (hp q) := by
  unfold F105_213 at hG
  unfold S105_213 at hS
  refine x_run (pc' := 218) (lo' := [none, some (.ref v1), some (.ref v2), none]) (st' := [.int 1, .ref s0]) 2 rfl ?_
  exact A105_218 hd hN fv1 fv2 fs0 hG hS
def F105_0 (v0 : Int32) (v1 : Nat) (v2 : Nat) (v3 : Nat) (q : aQ) : Int32 × aQ := (if v0 = 0 then F105_51 v1 v2 v3 (F94_0 (v3 + 1) (v1 + 1) (v2 + 1) q) else (if v0 = 1 then F105_87 v1 v2 (F95_0 (v3 + 1) (v1 + 1) (v2 + 1) q) else (if v0 = 2 then F105_108 v1 v2 (F96_0 (v3 + 1) (v1 + 1) (v2 + 1) q) else (if v0 = 3 then F105_143 v1 v2 v3 (F97_0 (v3 + 1) (v1 + 1) (q.1 (v2 + 1) 0) (F191_0 (q.1 (v2 + 1) 1) (-1) q) q) else (if v0 = 4 then (if (F90_0 (v1 + 1) (v2 + 1) q) = 0 then (if (F90_0 (v1 + 2) (v2 + 2) q) = 0 then F105_218 v1 v2 0 v3 q else F105_213 v1 v2 v3 q) else F105_213 v1 v2 v3 q) else F105_274 (F75_0 v3 (F73_0 v1 v2 q) (F74_0 v1 v2 q) q))))))
def S105_0 (v0 : Int32) (v1 : Nat) (v2 : Nat) (v3 : Nat) (q : aQ) : Prop := ((v0 = 0) → S94_0 (v3 + 1) (v1 + 1) (v2 + 1) q ∧ (S105_51 v1 v2 v3 (F94_0 (v3 + 1) (v1 + 1) (v2 + 1) q))) ∧ (¬ (v0 = 0) → ((v0 = 1) → S95_0 (v3 + 1) (v1 + 1) (v2 + 1) q ∧ (S105_87 v1 v2 (F95_0 (v3 + 1) (v1 + 1) (v2 + 1) q))) ∧ (¬ (v0 = 1) → ((v0 = 2) → S96_0 (v3 + 1) (v1 + 1) (v2 + 1) q ∧ (S105_108 v1 v2 (F96_0 (v3 + 1) (v1 + 1) (v2 + 1) q))) ∧ (¬ (v0 = 2) → ((v0 = 3) → S191_0 (q.1 (v2 + 1) 1) (-1) q ∧ (S97_0 (v3 + 1) (v1 + 1) (q.1 (v2 + 1) 0) (F191_0 (q.1 (v2 + 1) 1) (-1) q) q ∧ (S105_143 v1 v2 v3 (F97_0 (v3 + 1) (v1 + 1) (q.1 (v2 + 1) 0) (F191_0 (q.1 (v2 + 1) 1) (-1) q) q)))) ∧ (¬ (v0 = 3) → ((v0 = 4) → S90_0 (v1 + 1) (v2 + 1) q ∧ ((((F90_0 (v1 + 1) (v2 + 1) q) = 0) → S90_0 (v1 + 2) (v2 + 2) q ∧ ((((F90_0 (v1 + 2) (v2 + 2) q) = 0) → S105_218 v1 v2 0 v3 q) ∧ (¬ ((F90_0 (v1 + 2) (v2 + 2) q) = 0) → S105_213 v1 v2 v3 q))) ∧ (¬ ((F90_0 (v1 + 1) (v2 + 1) q) = 0) → S105_213 v1 v2 v3 q))) ∧ (¬ (v0 = 4) → S73_0 v1 v2 q ∧ (S74_0 v1 v2 q ∧ (S75_0 v3 (F73_0 v1 v2 q) (F74_0 v1 v2 q) q ∧ (S105_274 (F75_0 v3 (F73_0 v1 v2 q) (F74_0 v1 v2 q) q)))))))))
set_option maxRecDepth 100000 in
set_option maxHeartbeats 4000000 in
theorem A105_0 {l : Launch} {X : aX} {d : Nat} {r : Option Value} {h' : aH} {v0 : Int32} {v1 : Nat} {v2 : Nat} {v3 : Nat} {q : aQ} (hd : 4 ≤ d) (hN : h'.1 = nk0) (fv1 : isPic v1) (fv2 : isPic v2) (fv3 : isPic v3) (hG : gI r h' (F105_0 v0 v1 v2 v3 q)) (hS : S105_0 v0 v1 v2 v3 q) : AW l X 105 c105 d r h' 0 [some (.int v0), some (.ref v1), some (.ref v2), some (.ref v3)] [] (hp q) := by
  unfold F105_0 at hG
  unfold S105_0 at hS
  refine x_run (pc' := 1) (lo' := [some (.int v0), some (.ref v1), some (.ref v2), some (.ref v3)]) (st' := [.int v0]) 1 rfl ?_
  by_cases hc28 : v0 = 0
  · rw [if_pos hc28] at hG
    replace hS := hS.1 hc28
    refine x_tsIn (off := 35) 36 rfl (by rw [hc28]; decide) (by rw [hc28]; decide) (by rw [hc28]; rfl) rfl ?_
    refine x_run (pc' := 37) (lo' := [some (.int v0), some (.ref v1), some (.ref v2), some (.ref v3)]) (st' := [.ref v3]) 1 rfl ?_
    refine x_gf (c := 320) (ne := 1) (v := .ref (v3 + 1)) rfl (by decide +kernel) (pc_s fv3) (pc_v0 fv3) ?_
    refine x_run (pc' := 41) (lo' := [some (.int v0), some (.ref v1), some (.ref v2), some (.ref v3)]) (st' := [.ref v1, .ref (v3 + 1)]) 1 rfl ?_
    refine x_gf (c := 320) (ne := 1) (v := .ref (v1 + 1)) rfl (by decide +kernel) (pc_s fv1) (pc_v0 fv1) ?_
    refine x_run (pc' := 45) (lo' := [some (.int v0), some (.ref v1), some (.ref v2), some (.ref v3)]) (st' := [.ref v2, .ref (v1 + 1), .ref (v3 + 1)]) 1 rfl ?_
    refine x_gf (c := 320) (ne := 1) (v := .ref (v2 + 1)) rfl (by decide +kernel) (pc_s fv2) (pc_v0 fv2) ?_
    obtain ⟨o5, hS⟩ := hS
    refine x_cv (j := 94) (ne := 0) (vs := [.ref (v1 + 1), .ref (v2 + 1)]) (rest := []) rfl (by decide +kernel) (by decide +kernel) (by decide) (Eq.trans rfl (show 2 = _ from by decide +kernel)) (rg_s (pc_r0 fv3)) (by decide +kernel) rfl (Nat.le_of_ble_eq_true rfl) (by omega) (T94 (Nat.le_refl 2) (pc_r0 fv3) (pc_r0 fv1) (pc_r0 fv2) o5) (hp_m hN) ?_
    show AW l X 105 c105 d r h' 51 [some (.int v0), some (.ref v1), some (.ref v2), some (.ref v3)] [] (hp (F94_0 (v3 + 1) (v1 + 1) (v2 + 1) q))
    refine x_kill [0] ?_
    exact A105_51 hd hN fv1 fv2 fv3 hG hS
  · rw [if_neg hc28] at hG
    replace hS := hS.2 hc28
    by_cases hc29 : v0 = 1
    · rw [if_pos hc29] at hG
      replace hS := hS.1 hc29
      refine x_tsIn (off := 71) 72 rfl (by rw [hc29]; decide) (by rw [hc29]; decide) (by rw [hc29]; rfl) rfl ?_
      refine x_run (pc' := 73) (lo' := [some (.int v0), some (.ref v1), some (.ref v2), some (.ref v3)]) (st' := [.ref v3]) 1 rfl ?_
      refine x_gf (c := 320) (ne := 1) (v := .ref (v3 + 1)) rfl (by decide +kernel) (pc_s fv3) (pc_v0 fv3) ?_
      refine x_run (pc' := 77) (lo' := [some (.int v0), some (.ref v1), some (.ref v2), some (.ref v3)]) (st' := [.ref v1, .ref (v3 + 1)]) 1 rfl ?_
      refine x_gf (c := 320) (ne := 1) (v := .ref (v1 + 1)) rfl (by decide +kernel) (pc_s fv1) (pc_v0 fv1) ?_
      refine x_run (pc' := 81) (lo' := [some (.int v0), some (.ref v1), some (.ref v2), some (.ref v3)]) (st' := [.ref v2, .ref (v1 + 1), .ref (v3 + 1)]) 1 rfl ?_
      refine x_gf (c := 320) (ne := 1) (v := .ref (v2 + 1)) rfl (by decide +kernel) (pc_s fv2) (pc_v0 fv2) ?_
      obtain ⟨o8, hS⟩ := hS
      refine x_cv (j := 95) (ne := 0) (vs := [.ref (v1 + 1), .ref (v2 + 1)]) (rest := []) rfl (by decide +kernel) (by decide +kernel) (by decide) (Eq.trans rfl (show 2 = _ from by decide +kernel)) (rg_s (pc_r0 fv3)) (by decide +kernel) rfl (Nat.le_of_ble_eq_true rfl) (by omega) (T95 (Nat.le_refl 2) (pc_r0 fv3) (pc_r0 fv1) (pc_r0 fv2) o8) (hp_m hN) ?_
      show AW l X 105 c105 d r h' 87 [some (.int v0), some (.ref v1), some (.ref v2), some (.ref v3)] [] (hp (F95_0 (v3 + 1) (v1 + 1) (v2 + 1) q))
      refine x_kill [0, 3] ?_
      exact A105_87 hd hN fv1 fv2 hG hS
    · rw [if_neg hc29] at hG
      replace hS := hS.2 hc29
      by_cases hc30 : v0 = 2
      · rw [if_pos hc30] at hG
        replace hS := hS.1 hc30
        refine x_tsIn (off := 92) 93 rfl (by rw [hc30]; decide) (by rw [hc30]; decide) (by rw [hc30]; rfl) rfl ?_
        refine x_run (pc' := 94) (lo' := [some (.int v0), some (.ref v1), some (.ref v2), some (.ref v3)]) (st' := [.ref v3]) 1 rfl ?_
        refine x_gf (c := 320) (ne := 1) (v := .ref (v3 + 1)) rfl (by decide +kernel) (pc_s fv3) (pc_v0 fv3) ?_
        refine x_run (pc' := 98) (lo' := [some (.int v0), some (.ref v1), some (.ref v2), some (.ref v3)]) (st' := [.ref v1, .ref (v3 + 1)]) 1 rfl ?_
        refine x_gf (c := 320) (ne := 1) (v := .ref (v1 + 1)) rfl (by decide +kernel) (pc_s fv1) (pc_v0 fv1) ?_
        refine x_run (pc' := 102) (lo' := [some (.int v0), some (.ref v1), some (.ref v2), some (.ref v3)]) (st' := [.ref v2, .ref (v1 + 1), .ref (v3 + 1)]) 1 rfl ?_
        refine x_gf (c := 320) (ne := 1) (v := .ref (v2 + 1)) rfl (by decide +kernel) (pc_s fv2) (pc_v0 fv2) ?_
        obtain ⟨o10, hS⟩ := hS
        refine x_cv (j := 96) (ne := 0) (vs := [.ref (v1 + 1), .ref (v2 + 1)]) (rest := []) rfl (by decide +kernel) (by decide +kernel) (by decide) (Eq.trans rfl (show 2 = _ from by decide +kernel)) (rg_s (pc_r0 fv3)) (by decide +kernel) rfl (Nat.le_of_ble_eq_true rfl) (by omega) (T96 (Nat.le_refl 3) (pc_r0 fv3) (pc_r0 fv1) (pc_r0 fv2) o10) (hp_m hN) ?_
        show AW l X 105 c105 d r h' 108 [some (.int v0), some (.ref v1), some (.ref v2), some (.ref v3)] [] (hp (F96_0 (v3 + 1) (v1 + 1) (v2 + 1) q))
        refine x_kill [0, 3] ?_
        exact A105_108 hd hN fv1 fv2 hG hS
      · rw [if_neg hc30] at hG
        replace hS := hS.2 hc30
        by_cases hc31 : v0 = 3
        · rw [if_pos hc31] at hG
          replace hS := hS.1 hc31
          refine x_tsIn (off := 113) 114 rfl (by rw [hc31]; decide) (by rw [hc31]; decide) (by rw [hc31]; rfl) rfl ?_
          refine x_run (pc' := 115) (lo' := [some (.int v0), some (.ref v1), some (.ref v2), some (.ref v3)]) (st' := [.ref v3]) 1 rfl ?_
          refine x_gf (c := 320) (ne := 1) (v := .ref (v3 + 1)) rfl (by decide +kernel) (pc_s fv3) (pc_v0 fv3) ?_
          refine x_run (pc' := 119) (lo' := [some (.int v0), some (.ref v1), some (.ref v2), some (.ref v3)]) (st' := [.ref v1, .ref (v3 + 1)]) 1 rfl ?_
          refine x_gf (c := 320) (ne := 1) (v := .ref (v1 + 1)) rfl (by decide +kernel) (pc_s fv1) (pc_v0 fv1) ?_
          refine x_run (pc' := 123) (lo' := [some (.int v0), some (.ref v1), some (.ref v2), some (.ref v3)]) (st' := [.ref v2, .ref (v1 + 1), .ref (v3 + 1)]) 1 rfl ?_
          refine x_gf (c := 320) (ne := 1) (v := .ref (v2 + 1)) rfl (by decide +kernel) (pc_s fv2) (pc_v0 fv2) ?_
          refine x_gf (c := 384) (ne := 1) (v := .int (q.1 (v2 + 1) 0)) rfl (by decide +kernel) (rg_s (pc_r0 fv2)) rfl ?_
          refine x_run (pc' := 130) (lo' := [some (.int v0), some (.ref v1), some (.ref v2), some (.ref v3)]) (st' := [.ref v2, .int (q.1 (v2 + 1) 0), .ref (v1 + 1), .ref (v3 + 1)]) 1 rfl ?_
          refine x_gf (c := 320) (ne := 1) (v := .ref (v2 + 1)) rfl (by decide +kernel) (pc_s fv2) (pc_v0 fv2) ?_
          refine x_gf (c := 385) (ne := 1) (v := .int (q.1 (v2 + 1) 1)) rfl (by decide +kernel) (rg_s (pc_r0 fv2)) rfl ?_
          refine x_run (pc' := 137) (lo' := [some (.int v0), some (.ref v1), some (.ref v2), some (.ref v3)]) (st' := [.int (-1), .int (q.1 (v2 + 1) 1), .int (q.1 (v2 + 1) 0), .ref (v1 + 1), .ref (v3 + 1)]) 1 rfl ?_
          obtain ⟨o12, hS⟩ := hS
          refine x_cs (j := 191) (ne := 0) (vs := [.int (q.1 (v2 + 1) 1), .int (-1)]) (rest := [.int (q.1 (v2 + 1) 0), .ref (v1 + 1), .ref (v3 + 1)]) rfl (by decide +kernel) (by decide +kernel) (by decide) (Eq.trans rfl (show 2 = _ from by decide +kernel)) rfl (Nat.le_of_ble_eq_true rfl) (by omega) (T191 (Nat.le_refl 1) o12) (hp_m hN) ?_
          show AW l X 105 c105 d r h' 140 [some (.int v0), some (.ref v1), some (.ref v2), some (.ref v3)] [.int (F191_0 (q.1 (v2 + 1) 1) (-1) q), .int (q.1 (v2 + 1) 0), .ref (v1 + 1), .ref (v3 + 1)] (hp q)
          obtain ⟨o13, hS⟩ := hS
          refine x_cv (j := 97) (ne := 0) (vs := [.ref (v1 + 1), .int (q.1 (v2 + 1) 0), .int (F191_0 (q.1 (v2 + 1) 1) (-1) q)]) (rest := []) rfl (by decide +kernel) (by decide +kernel) (by decide) (Eq.trans rfl (show 3 = _ from by decide +kernel)) (rg_s (pc_r0 fv3)) (by decide +kernel) rfl (Nat.le_of_ble_eq_true rfl) (by omega) (T97 (Nat.le_refl 3) (pc_r0 fv3) (pc_r0 fv1) o13) (hp_m hN) ?_
          show AW l X 105 c105 d r h' 143 [some (.int v0), some (.ref v1), some (.ref v2), some (.ref v3)] [] (hp (F97_0 (v3 + 1) (v1 + 1) (q.1 (v2 + 1) 0) (F191_0 (q.1 (v2 + 1) 1) (-1) q) q))
          refine x_kill [0] ?_
          exact A105_143 hd hN fv1 fv2 fv3 hG hS
        · rw [if_neg hc31] at hG
          replace hS := hS.2 hc31
          by_cases hc32 : v0 = 4
          · rw [if_pos hc32] at hG
            replace hS := hS.1 hc32
            refine x_tsIn (off := 183) 184 rfl (by rw [hc32]; decide) (by rw [hc32]; decide) (by rw [hc32]; rfl) rfl ?_
            refine x_run (pc' := 186) (lo' := [some (.int v0), some (.ref v1), some (.ref v2), some (.ref v3)]) (st' := [.ref v1, .ref v3]) 2 rfl ?_
            refine x_gf (c := 320) (ne := 1) (v := .ref (v1 + 1)) rfl (by decide +kernel) (pc_s fv1) (pc_v0 fv1) ?_
            refine x_run (pc' := 190) (lo' := [some (.int v0), some (.ref v1), some (.ref v2), some (.ref v3)]) (st' := [.ref v2, .ref (v1 + 1), .ref v3]) 1 rfl ?_
            refine x_gf (c := 320) (ne := 1) (v := .ref (v2 + 1)) rfl (by decide +kernel) (pc_s fv2) (pc_v0 fv2) ?_
            obtain ⟨o18, hS⟩ := hS
            refine x_cv (j := 90) (ne := 0) (vs := [.ref (v2 + 1)]) (rest := [.ref v3]) rfl (by decide +kernel) (by decide +kernel) (by decide) (Eq.trans rfl (show 1 = _ from by decide +kernel)) (rg_s (pc_r0 fv1)) (by decide +kernel) rfl (Nat.le_of_ble_eq_true rfl) (by omega) (T90 (Nat.le_refl 1) (pc_r0 fv1) (pc_r0 fv2) o18) (hp_m hN) ?_
            show AW l X 105 c105 d r h' 196 [some (.int v0), some (.ref v1), some (.ref v2), some (.ref v3)] [.int (F90_0 (v1 + 1) (v2 + 1) q), .ref v3] (hp q)
            refine x_if 213 rfl rfl (fun (hc19 : ¬ (F90_0 (v1 + 1) (v2 + 1) q) = 0) => ?_) (fun (hc19 : (F90_0 (v1 + 1) (v2 + 1) q) = 0) => ?_)
            · rw [if_neg hc19] at hG
              replace hS := hS.2 hc19
              refine x_kill [0, 3] ?_
              exact A105_213 hd hN fv1 fv2 fv3 hG hS
            · rw [if_pos hc19] at hG
              replace hS := hS.1 hc19
              refine x_run (pc' := 200) (lo' := [some (.int v0), some (.ref v1), some (.ref v2), some (.ref v3)]) (st' := [.ref v1, .ref v3]) 1 rfl ?_
              refine x_gf (c := 321) (ne := 1) (v := .ref (v1 + 2)) rfl (by decide +kernel) (pc_s fv1) (pc_v1 fv1) ?_
              refine x_run (pc' := 204) (lo' := [some (.int v0), some (.ref v1), some (.ref v2), some (.ref v3)]) (st' := [.ref v2, .ref (v1 + 2), .ref v3]) 1 rfl ?_
              refine x_gf (c := 321) (ne := 1) (v := .ref (v2 + 2)) rfl (by decide +kernel) (pc_s fv2) (pc_v1 fv2) ?_
              obtain ⟨o26, hS⟩ := hS
              refine x_cv (j := 90) (ne := 0) (vs := [.ref (v2 + 2)]) (rest := [.ref v3]) rfl (by decide +kernel) (by decide +kernel) (by decide) (Eq.trans rfl (show 1 = _ from by decide +kernel)) (rg_s (pc_r1 fv1)) (by decide +kernel) rfl (Nat.le_of_ble_eq_true rfl) (by omega) (T90 (Nat.le_refl 1) (pc_r1 fv1) (pc_r1 fv2) o26) (hp_m hN) ?_
              show AW l X 105 c105 d r h' 210 [some (.int v0), some (.ref v1), some (.ref v2), some (.ref v3)] [.int (F90_0 (v1 + 2) (v2 + 2) q), .ref v3] (hp q)
              refine x_if 217 rfl rfl (fun (hc27 : (F90_0 (v1 + 2) (v2 + 2) q) = 0) => ?_) (fun (hc27 : ¬ (F90_0 (v1 + 2) (v2 + 2) q) = 0) => ?_)
              · rw [if_pos hc27] at hG
                replace hS := hS.1 hc27
                refine x_run (pc' := 218) (lo' := [some (.int v0), some (.ref v1), some (.ref v2), some (.ref v3)]) (st' := [.int 0, .ref v3]) 1 rfl ?_
                refine x_kill [0, 3] ?_
                exact A105_218 hd hN fv1 fv2 fv3 hG hS
              · rw [if_neg hc27] at hG
                replace hS := hS.2 hc27
                refine x_kill [0, 3] ?_
                exact A105_213 hd hN fv1 fv2 fv3 hG hS
          · rw [if_neg hc32] at hG
            replace hS := hS.2 hc32
            refine x_tsOut 260 rfl (by have z0 := sw_ne (k := 0) hc28 (by decide); have z1 := sw_ne (k := 1) hc29 (by decide); have z2 := sw_ne (k := 2) hc30 (by decide); have z3 := sw_ne (k := 3) hc31 (by decide); have z4 := sw_ne (k := 4) hc32 (by decide); omega) rfl ?_
            refine x_run (pc' := 263) (lo' := [some (.int v0), some (.ref v1), some (.ref v2), some (.ref v3)]) (st' := [.ref v2, .ref v1, .ref v3]) 3 rfl ?_
            obtain ⟨o2, hS⟩ := hS
            refine x_cv (j := 73) (ne := 0) (vs := [.ref v2]) (rest := [.ref v3]) rfl (by decide +kernel) (by decide +kernel) (by decide) (Eq.trans rfl (show 1 = _ from by decide +kernel)) (pc_s fv1) (by decide +kernel) rfl (Nat.le_of_ble_eq_true rfl) (by omega) (T73 (Nat.le_refl 2) fv1 fv2 o2) (hp_m hN) ?_
            show AW l X 105 c105 d r h' 266 [some (.int v0), some (.ref v1), some (.ref v2), some (.ref v3)] [.int (F73_0 v1 v2 q), .ref v3] (hp q)
            refine x_run (pc' := 268) (lo' := [some (.int v0), some (.ref v1), some (.ref v2), some (.ref v3)]) (st' := [.ref v2, .ref v1, .int (F73_0 v1 v2 q), .ref v3]) 2 rfl ?_
            obtain ⟨o3, hS⟩ := hS
            refine x_cv (j := 74) (ne := 0) (vs := [.ref v2]) (rest := [.int (F73_0 v1 v2 q), .ref v3]) rfl (by decide +kernel) (by decide +kernel) (by decide) (Eq.trans rfl (show 1 = _ from by decide +kernel)) (pc_s fv1) (by decide +kernel) rfl (Nat.le_of_ble_eq_true rfl) (by omega) (T74 (Nat.le_refl 3) fv1 fv2 o3) (hp_m hN) ?_
            show AW l X 105 c105 d r h' 271 [some (.int v0), some (.ref v1), some (.ref v2), some (.ref v3)] [.int (F74_0 v1 v2 q), .int (F73_0 v1 v2 q), .ref v3] (hp q)
            obtain ⟨o4, hS⟩ := hS
            refine x_cv (j := 75) (ne := 0) (vs := [.int (F73_0 v1 v2 q), .int (F74_0 v1 v2 q)]) (rest := []) rfl (by decide +kernel) (by decide +kernel) (by decide) (Eq.trans rfl (show 2 = _ from by decide +kernel)) (pc_s fv3) (by decide +kernel) rfl (Nat.le_of_ble_eq_true rfl) (by omega) (T75 (Nat.le_refl 2) fv3 o4) (hp_m hN) ?_
            show AW l X 105 c105 d r h' 274 [some (.int v0), some (.ref v1), some (.ref v2), some (.ref v3)] [] (hp (F75_0 v3 (F73_0 v1 v2 q) (F74_0 v1 v2 q) q))
            refine x_kill [0, 1, 2, 3] ?_
            exact A105_274 hd hN hG hS
theorem T105 {l : Launch} {X : aX} {d : Nat} {v0 : Int32} {v1 : Nat} {v2 : Nat} {v3 : Nat} {q : aQ} (hd : 4 ≤ d) (fv1 : isPic v1) (fv2 : isPic v2) (fv3 : isPic v3) (hS : S105_0 v0 v1 v2 v3 q) : Call l X d 105 [.int v0, .ref v1, .ref v2, .ref v3] (hp q) (some (.int (F105_0 v0 v1 v2 v3 q).1)) (hp (F105_0 v0 v1 v2 v3 q).2) := Call.of ok105 (by decide) (Nat.le_of_ble_eq_true rfl) ⟨Nat.le_refl _, Nat.le_refl _⟩ (A105_0 hd rfl fv1 fv2 fv3 ⟨rfl, rfl⟩ hS)
/-- TypeForecast$Painter.paint(ILTypeForecast$State;I)I -/
def F102_177 (rec : Int32 → Nat → Int32 → aQ → Int32 × aQ) (s0 : Int32) (s1 : Int32) (q : aQ) : Int32 × aQ := ((s1 ||| s0), q)
def S102_177 (rec : Int32 → Nat → Int32 → aQ → Int32 × aQ) (recS : Int32 → Nat → Int32 → aQ → Prop) (s0 : Int32) (s1 : Int32) (q : aQ) : Prop := True
set_option maxRecDepth 100000 in
set_option maxHeartbeats 4000000 in
theorem A102_177 {l : Launch} {X : aX} {d : Nat} {r : Option Value} {h' : aH} {s0 : Int32} {s1 : Int32} {q : aQ} (hd : 5 ≤ d) (hN : h'.1 = nk0) {rec : Int32 → Nat → Int32 → aQ → Int32 × aQ} {recS : Int32 → Nat → Int32 → aQ → Prop} (hR : ∀ (a0 : Int32) (a1 : Nat) (a2 : Int32) (q : aQ), isSt a1 → recS a0 a1 a2 q → Call l X (d - 1) 102 [.ref 40, .int a0, .ref a1, .int a2] (hp q) (some (.int (rec a0 a1 a2 q).1)) (hp (rec a0 a1 a2 q).2)) (hG : gI r h' (F102_177 rec s0 s1 q)) (hS : S102_177 rec recS s0 s1 q) : AW l X 102 c102 d r h' 177 [none, none, none, none, none, none, none, none, none] [.int s0, .int s1] (hp q) := by
  unfold F102_177 at hG
  unfold S102_177 at hS
  refine x_run (pc' := 178) (lo' := [none, none, none, none, none, none, none, none, none]) (st' := [.int (s1 ||| s0)]) 1 rfl ?_
  obtain ⟨rfl, rfl⟩ := hG
  exact x_iret rfl (by decide +kernel)
def F102_135 (rec : Int32 → Nat → Int32 → aQ → Int32 × aQ) (v4 : Nat) (v5 : Int32) (v6 : Int32) (v8 : Int32) (s0 : Int32) (s1 : Int32) (q : aQ) : Int32 × aQ := (if (F67_0 (42 + 3 * (Int32.toNatClampNeg v8)) q) = 0 then ((s1 ||| s0), q) else F102_177 rec ((F105_0 v5 (42 + 3 * (Int32.toNatClampNeg v6)) (42 + 3 * (Int32.toNatClampNeg v8)) v4 q).1) (s1 ||| s0) ((F105_0 v5 (42 + 3 * (Int32.toNatClampNeg v6)) (42 + 3 * (Int32.toNatClampNeg v8)) v4 q).2))
def S102_135 (rec : Int32 → Nat → Int32 → aQ → Int32 × aQ) (recS : Int32 → Nat → Int32 → aQ → Prop) (v4 : Nat) (v5 : Int32) (v6 : Int32) (v8 : Int32) (s0 : Int32) (s1 : Int32) (q : aQ) : Prop := vp_in v8 60 ∧ (S67_0 (42 + 3 * (Int32.toNatClampNeg v8)) q ∧ ((((F67_0 (42 + 3 * (Int32.toNatClampNeg v8)) q) = 0) → True) ∧ (¬ ((F67_0 (42 + 3 * (Int32.toNatClampNeg v8)) q) = 0) → vp_in v6 60 ∧ (vp_in v8 60 ∧ (S105_0 v5 (42 + 3 * (Int32.toNatClampNeg v6)) (42 + 3 * (Int32.toNatClampNeg v8)) v4 q ∧ (S102_177 rec recS ((F105_0 v5 (42 + 3 * (Int32.toNatClampNeg v6)) (42 + 3 * (Int32.toNatClampNeg v8)) v4 q).1) (s1 ||| s0) ((F105_0 v5 (42 + 3 * (Int32.toNatClampNeg v6)) (42 + 3 * (Int32.toNatClampNeg v8)) v4 q).2)))))))
set_option maxRecDepth 100000 in
set_option maxHeartbeats 4000000 in
theorem A102_135 {l : Launch} {X : aX} {d : Nat} {r : Option Value} {h' : aH} {v4 : Nat} {v5 : Int32} {v6 : Int32} {v8 : Int32} {s0 : Int32} {s1 : Int32} {q : aQ} (hd : 5 ≤ d) (hN : h'.1 = nk0) {rec : Int32 → Nat → Int32 → aQ → Int32 × aQ} {recS : Int32 → Nat → Int32 → aQ → Prop} (hR : ∀ (a0 : Int32) (a1 : Nat) (a2 : Int32) (q : aQ), isSt a1 → recS a0 a1 a2 q → Call l X (d - 1) 102 [.ref 40, .int a0, .ref a1, .int a2] (hp q) (some (.int (rec a0 a1 a2 q).1)) (hp (rec a0 a1 a2 q).2)) (fv4 : isPic v4) (hG : gI r h' (F102_135 rec v4 v5 v6 v8 s0 s1 q)) (hS : S102_135 rec recS v4 v5 v6 v8 s0 s1 q) : AW l X 102 c102 d r h' 135 [some (.ref 40), none, none, none, some (.ref v4), some (.int v5), some (.int v6), none, some (.int v8)] [.int s0, .int s1] (hp q) := by
  unfold F102_135 at hG
  unfold S102_135 at hS
  refine x_run (pc' := 139) (lo' := [some (.ref 40), none, none, none, some (.ref v4), some (.int v5), some (.int v6), some (.int (s1 ||| s0)), some (.int v8)]) (st' := [.ref 40]) 3 rfl ?_
  refine x_gf (c := 449) (ne := 0) (v := .ref 41) rfl (by decide +kernel) rfl rfl ?_
  refine x_run (pc' := 144) (lo' := [some (.ref 40), none, none, none, some (.ref v4), some (.int v5), some (.int v6), some (.int (s1 ||| s0)), some (.int v8)]) (st' := [.int v8, .ref 41]) 1 rfl ?_
  obtain ⟨o15, hS⟩ := hS
  refine x_aa (n := 60) (t := 20) (v := 42 + 3 * (Int32.toNatClampNeg v8)) rfl rfl (Or.inr rfl) o15 (mr_p o15) ?_
  obtain ⟨o16, hS⟩ := hS
  refine x_cv (j := 67) (ne := 0) (vs := []) (rest := []) rfl (by decide +kernel) (by decide +kernel) (by decide) (Eq.trans rfl (show 0 = _ from by decide +kernel)) (pc_s (pc_p o15)) (by decide +kernel) rfl (Nat.le_of_ble_eq_true rfl) (by omega) (T67 (Nat.le_refl 2) (pc_p o15) o16) (hp_m hN) ?_
  show AW l X 102 c102 d r h' 148 [some (.ref 40), none, none, none, some (.ref v4), some (.int v5), some (.int v6), some (.int (s1 ||| s0)), some (.int v8)] [.int (F67_0 (42 + 3 * (Int32.toNatClampNeg v8)) q)] (hp q)
  refine x_if 154 rfl rfl (fun (hc17 : ¬ (F67_0 (42 + 3 * (Int32.toNatClampNeg v8)) q) = 0) => ?_) (fun (hc17 : (F67_0 (42 + 3 * (Int32.toNatClampNeg v8)) q) = 0) => ?_)
  · rw [if_neg hc17] at hG
    replace hS := hS.2 hc17
    refine x_run (pc' := 159) (lo' := [some (.ref 40), none, none, none, some (.ref v4), some (.int v5), some (.int v6), some (.int (s1 ||| s0)), some (.int v8)]) (st' := [.ref 40, .int v5, .int (s1 ||| s0)]) 3 rfl ?_
    refine x_gf (c := 449) (ne := 0) (v := .ref 41) rfl (by decide +kernel) rfl rfl ?_
    refine x_run (pc' := 164) (lo' := [some (.ref 40), none, none, none, some (.ref v4), some (.int v5), some (.int v6), some (.int (s1 ||| s0)), some (.int v8)]) (st' := [.int v6, .ref 41, .int v5, .int (s1 ||| s0)]) 1 rfl ?_
    obtain ⟨o18, hS⟩ := hS
    refine x_aa (n := 60) (t := 20) (v := 42 + 3 * (Int32.toNatClampNeg v6)) rfl rfl (Or.inr rfl) o18 (mr_p o18) ?_
    refine x_run (pc' := 166) (lo' := [some (.ref 40), none, none, none, some (.ref v4), some (.int v5), some (.int v6), some (.int (s1 ||| s0)), some (.int v8)]) (st' := [.ref 40, .ref (42 + 3 * (Int32.toNatClampNeg v6)), .int v5, .int (s1 ||| s0)]) 1 rfl ?_
    refine x_gf (c := 449) (ne := 0) (v := .ref 41) rfl (by decide +kernel) rfl rfl ?_
    refine x_run (pc' := 171) (lo' := [some (.ref 40), none, none, none, some (.ref v4), some (.int v5), some (.int v6), some (.int (s1 ||| s0)), some (.int v8)]) (st' := [.int v8, .ref 41, .ref (42 + 3 * (Int32.toNatClampNeg v6)), .int v5, .int (s1 ||| s0)]) 1 rfl ?_
    obtain ⟨o19, hS⟩ := hS
    refine x_aa (n := 60) (t := 20) (v := 42 + 3 * (Int32.toNatClampNeg v8)) rfl rfl (Or.inr rfl) o19 (mr_p o19) ?_
    refine x_run (pc' := 174) (lo' := [some (.ref 40), none, none, none, some (.ref v4), some (.int v5), some (.int v6), some (.int (s1 ||| s0)), some (.int v8)]) (st' := [.ref v4, .ref (42 + 3 * (Int32.toNatClampNeg v8)), .ref (42 + 3 * (Int32.toNatClampNeg v6)), .int v5, .int (s1 ||| s0)]) 1 rfl ?_
    obtain ⟨o20, hS⟩ := hS
    refine x_cs (j := 105) (ne := 0) (vs := [.int v5, .ref (42 + 3 * (Int32.toNatClampNeg v6)), .ref (42 + 3 * (Int32.toNatClampNeg v8)), .ref v4]) (rest := [.int (s1 ||| s0)]) rfl (by decide +kernel) (by decide +kernel) (by decide) (Eq.trans rfl (show 4 = _ from by decide +kernel)) rfl (Nat.le_of_ble_eq_true rfl) (by omega) (T105 (Nat.le_refl 4) (pc_p o18) (pc_p o19) fv4 o20) (hp_m hN) ?_
    show AW l X 102 c102 d r h' 177 [some (.ref 40), none, none, none, some (.ref v4), some (.int v5), some (.int v6), some (.int (s1 ||| s0)), some (.int v8)] [.int (F105_0 v5 (42 + 3 * (Int32.toNatClampNeg v6)) (42 + 3 * (Int32.toNatClampNeg v8)) v4 q).1, .int (s1 ||| s0)] (hp (F105_0 v5 (42 + 3 * (Int32.toNatClampNeg v6)) (42 + 3 * (Int32.toNatClampNeg v8)) v4 q).2)
    refine x_kill [0, 4, 5, 6, 7, 8] ?_
    exact A102_177 hd hN hR hG hS
  · rw [if_pos hc17] at hG
    replace hS := hS.1 hc17
    refine x_run (pc' := 153) (lo' := [some (.ref 40), none, none, none, some (.ref v4), some (.int v5), some (.int v6), some (.int (s1 ||| s0)), some (.int v8)]) (st' := [.int (s1 ||| s0)]) 1 rfl ?_
    obtain ⟨rfl, rfl⟩ := hG
    exact x_iret rfl (by decide +kernel)
def F102_110 (rec : Int32 → Nat → Int32 → aQ → Int32 × aQ) (s0 : Int32) (s1 : Int32) (q : aQ) : Int32 × aQ := ((s1 ||| s0), q)
def S102_110 (rec : Int32 → Nat → Int32 → aQ → Int32 × aQ) (recS : Int32 → Nat → Int32 → aQ → Prop) (s0 : Int32) (s1 : Int32) (q : aQ) : Prop := True
set_option maxRecDepth 100000 in
set_option maxHeartbeats 4000000 in
theorem A102_110 {l : Launch} {X : aX} {d : Nat} {r : Option Value} {h' : aH} {s0 : Int32} {s1 : Int32} {q : aQ} (hd : 5 ≤ d) (hN : h'.1 = nk0) {rec : Int32 → Nat → Int32 → aQ → Int32 × aQ} {recS : Int32 → Nat → Int32 → aQ → Prop} (hR : ∀ (a0 : Int32) (a1 : Nat) (a2 : Int32) (q : aQ), isSt a1 → recS a0 a1 a2 q → Call l X (d - 1) 102 [.ref 40, .int a0, .ref a1, .int a2] (hp q) (some (.int (rec a0 a1 a2 q).1)) (hp (rec a0 a1 a2 q).2)) (hG : gI r h' (F102_110 rec s0 s1 q)) (hS : S102_110 rec recS s0 s1 q) : AW l X 102 c102 d r h' 110 [none, none, none, none, none, none, none, none, none] [.int s0, .int s1] (hp q) := by
  unfold F102_110 at hG
  unfold S102_110 at hS
  refine x_run (pc' := 111) (lo' := [none, none, none, none, none, none, none, none, none]) (st' := [.int (s1 ||| s0)]) 1 rfl ?_
  obtain ⟨rfl, rfl⟩ := hG
  exact x_iret rfl (by decide +kernel)
def F102_68 (rec : Int32 → Nat → Int32 → aQ → Int32 × aQ) (v1 : Int32) (v2 : Nat) (v3 : Int32) (v4 : Nat) (v5 : Int32) (v6 : Int32) (s0 : Int32) (q : aQ) : Int32 × aQ := (if (F67_0 (42 + 3 * (Int32.toNatClampNeg v6)) q) = 0 then (s0, q) else (if (F29_0 v5 q) = 0 then F102_135 rec v4 v5 v6 (q.1 6 (Int32.toNatClampNeg v1)) ((rec (q.1 6 (Int32.toNatClampNeg v1)) v2 (v3 + 1) q).1) s0 ((rec (q.1 6 (Int32.toNatClampNeg v1)) v2 (v3 + 1) q).2) else F102_110 rec ((F104_0 v5 (42 + 3 * (Int32.toNatClampNeg v6)) v4 q).1) s0 ((F104_0 v5 (42 + 3 * (Int32.toNatClampNeg v6)) v4 q).2)))
def S102_68 (rec : Int32 → Nat → Int32 → aQ → Int32 × aQ) (recS : Int32 → Nat → Int32 → aQ → Prop) (v1 : Int32) (v2 : Nat) (v3 : Int32) (v4 : Nat) (v5 : Int32) (v6 : Int32) (s0 : Int32) (q : aQ) : Prop := vp_in v6 60 ∧ (S67_0 (42 + 3 * (Int32.toNatClampNeg v6)) q ∧ ((((F67_0 (42 + 3 * (Int32.toNatClampNeg v6)) q) = 0) → True) ∧ (¬ ((F67_0 (42 + 3 * (Int32.toNatClampNeg v6)) q) = 0) → S29_0 v5 q ∧ ((((F29_0 v5 q) = 0) → vp_in v1 60 ∧ (recS (q.1 6 (Int32.toNatClampNeg v1)) v2 (v3 + 1) q ∧ (S102_135 rec recS v4 v5 v6 (q.1 6 (Int32.toNatClampNeg v1)) ((rec (q.1 6 (Int32.toNatClampNeg v1)) v2 (v3 + 1) q).1) s0 ((rec (q.1 6 (Int32.toNatClampNeg v1)) v2 (v3 + 1) q).2)))) ∧ (¬ ((F29_0 v5 q) = 0) → vp_in v6 60 ∧ (S104_0 v5 (42 + 3 * (Int32.toNatClampNeg v6)) v4 q ∧ (S102_110 rec recS ((F104_0 v5 (42 + 3 * (Int32.toNatClampNeg v6)) v4 q).1) s0 ((F104_0 v5 (42 + 3 * (Int32.toNatClampNeg v6)) v4 q).2))))))))
set_option maxRecDepth 100000 in
set_option maxHeartbeats 4000000 in
theorem A102_68 {l : Launch} {X : aX} {d : Nat} {r : Option Value} {h' : aH} {v1 : Int32} {v2 : Nat} {v3 : Int32} {v4 : Nat} {v5 : Int32} {v6 : Int32} {s0 : Int32} {q : aQ} (hd : 5 ≤ d) (hN : h'.1 = nk0) {rec : Int32 → Nat → Int32 → aQ → Int32 × aQ} {recS : Int32 → Nat → Int32 → aQ → Prop} (hR : ∀ (a0 : Int32) (a1 : Nat) (a2 : Int32) (q : aQ), isSt a1 → recS a0 a1 a2 q → Call l X (d - 1) 102 [.ref 40, .int a0, .ref a1, .int a2] (hp q) (some (.int (rec a0 a1 a2 q).1)) (hp (rec a0 a1 a2 q).2)) (fv2 : isSt v2) (fv4 : isPic v4) (hG : gI r h' (F102_68 rec v1 v2 v3 v4 v5 v6 s0 q)) (hS : S102_68 rec recS v1 v2 v3 v4 v5 v6 s0 q) : AW l X 102 c102 d r h' 68 [some (.ref 40), some (.int v1), some (.ref v2), some (.int v3), some (.ref v4), some (.int v5), some (.int v6), none, none] [.int s0] (hp q) := by
  unfold F102_68 at hG
  unfold S102_68 at hS
  refine x_run (pc' := 71) (lo' := [some (.ref 40), some (.int v1), some (.ref v2), some (.int v3), some (.ref v4), some (.int v5), some (.int v6), some (.int s0), none]) (st' := [.ref 40]) 2 rfl ?_
  refine x_gf (c := 449) (ne := 0) (v := .ref 41) rfl (by decide +kernel) rfl rfl ?_
  refine x_run (pc' := 76) (lo' := [some (.ref 40), some (.int v1), some (.ref v2), some (.int v3), some (.ref v4), some (.int v5), some (.int v6), some (.int s0), none]) (st' := [.int v6, .ref 41]) 1 rfl ?_
  obtain ⟨o8, hS⟩ := hS
  refine x_aa (n := 60) (t := 20) (v := 42 + 3 * (Int32.toNatClampNeg v6)) rfl rfl (Or.inr rfl) o8 (mr_p o8) ?_
  obtain ⟨o9, hS⟩ := hS
  refine x_cv (j := 67) (ne := 0) (vs := []) (rest := []) rfl (by decide +kernel) (by decide +kernel) (by decide) (Eq.trans rfl (show 0 = _ from by decide +kernel)) (pc_s (pc_p o8)) (by decide +kernel) rfl (Nat.le_of_ble_eq_true rfl) (by omega) (T67 (Nat.le_refl 2) (pc_p o8) o9) (hp_m hN) ?_
  show AW l X 102 c102 d r h' 80 [some (.ref 40), some (.int v1), some (.ref v2), some (.int v3), some (.ref v4), some (.int v5), some (.int v6), some (.int s0), none] [.int (F67_0 (42 + 3 * (Int32.toNatClampNeg v6)) q)] (hp q)
  refine x_if 86 rfl rfl (fun (hc10 : ¬ (F67_0 (42 + 3 * (Int32.toNatClampNeg v6)) q) = 0) => ?_) (fun (hc10 : (F67_0 (42 + 3 * (Int32.toNatClampNeg v6)) q) = 0) => ?_)
  · rw [if_neg hc10] at hG
    replace hS := hS.2 hc10
    refine x_run (pc' := 88) (lo' := [some (.ref 40), some (.int v1), some (.ref v2), some (.int v3), some (.ref v4), some (.int v5), some (.int v6), some (.int s0), none]) (st' := [.int v5]) 1 rfl ?_
    obtain ⟨o11, hS⟩ := hS
    refine x_cs (j := 29) (ne := 0) (vs := [.int v5]) (rest := []) rfl (by decide +kernel) (by decide +kernel) (by decide) (Eq.trans rfl (show 1 = _ from by decide +kernel)) rfl (Nat.le_of_ble_eq_true rfl) (by omega) (T29 (Nat.le_refl 1) o11) (hp_m hN) ?_
    show AW l X 102 c102 d r h' 91 [some (.ref 40), some (.int v1), some (.ref v2), some (.int v3), some (.ref v4), some (.int v5), some (.int v6), some (.int s0), none] [.int (F29_0 v5 q)] (hp q)
    refine x_if 112 rfl rfl (fun (hc12 : (F29_0 v5 q) = 0) => ?_) (fun (hc12 : ¬ (F29_0 v5 q) = 0) => ?_)
    · rw [if_pos hc12] at hG
      replace hS := hS.1 hc12
      refine x_run (pc' := 113) (lo' := [some (.ref 40), some (.int v1), some (.ref v2), some (.int v3), some (.ref v4), some (.int v5), some (.int v6), some (.int s0), none]) (st' := [.ref 40]) 1 rfl ?_
      refine x_gf (c := 448) (ne := 0) (v := .ref 1) rfl (by decide +kernel) rfl rfl ?_
      refine x_gf (c := 68) (ne := 1) (v := .ref 6) rfl (by decide +kernel) rfl rfl ?_
      refine x_run (pc' := 120) (lo' := [some (.ref 40), some (.int v1), some (.ref v2), some (.int v3), some (.ref v4), some (.int v5), some (.int v6), some (.int s0), none]) (st' := [.int v1, .ref 6]) 1 rfl ?_
      obtain ⟨o13, hS⟩ := hS
      refine p_ia (n := 60) (v := (q.1 6 (Int32.toNatClampNeg v1))) rfl rfl o13 rfl ?_
      refine x_run (pc' := 132) (lo' := [some (.ref 40), some (.int v1), some (.ref v2), some (.int v3), some (.ref v4), some (.int v5), some (.int v6), some (.int s0), some (.int (q.1 6 (Int32.toNatClampNeg v1)))]) (st' := [.int (v3 + 1), .ref v2, .int (q.1 6 (Int32.toNatClampNeg v1)), .ref 40, .int s0]) 8 rfl ?_
      obtain ⟨o14, hS⟩ := hS
      refine x_cv (j := 102) (ne := 0) (vs := [.int (q.1 6 (Int32.toNatClampNeg v1)), .ref v2, .int (v3 + 1)]) (rest := [.int s0]) rfl (by decide +kernel) (by decide +kernel) (by decide) (Eq.trans rfl (show 3 = _ from by decide +kernel)) rfl (by decide +kernel) rfl (Nat.le_of_ble_eq_true rfl) (by omega) (hR (q.1 6 (Int32.toNatClampNeg v1)) v2 (v3 + 1) q fv2 o14) (hp_m hN) ?_
      show AW l X 102 c102 d r h' 135 [some (.ref 40), some (.int v1), some (.ref v2), some (.int v3), some (.ref v4), some (.int v5), some (.int v6), some (.int s0), some (.int (q.1 6 (Int32.toNatClampNeg v1)))] [.int (rec (q.1 6 (Int32.toNatClampNeg v1)) v2 (v3 + 1) q).1, .int s0] (hp (rec (q.1 6 (Int32.toNatClampNeg v1)) v2 (v3 + 1) q).2)
      refine x_kill [1, 2, 3, 7] ?_
      exact A102_135 hd hN hR fv4 hG hS
    · rw [if_neg hc12] at hG
      replace hS := hS.2 hc12
      refine x_run (pc' := 99) (lo' := [some (.ref 40), some (.int v1), some (.ref v2), some (.int v3), some (.ref v4), some (.int v5), some (.int v6), some (.int s0), none]) (st' := [.ref 40, .int v5, .int s0]) 3 rfl ?_
      refine x_gf (c := 449) (ne := 0) (v := .ref 41) rfl (by decide +kernel) rfl rfl ?_
      refine x_run (pc' := 104) (lo' := [some (.ref 40), some (.int v1), some (.ref v2), some (.int v3), some (.ref v4), some (.int v5), some (.int v6), some (.int s0), none]) (st' := [.int v6, .ref 41, .int v5, .int s0]) 1 rfl ?_
      obtain ⟨o21, hS⟩ := hS
      refine x_aa (n := 60) (t := 20) (v := 42 + 3 * (Int32.toNatClampNeg v6)) rfl rfl (Or.inr rfl) o21 (mr_p o21) ?_
      refine x_run (pc' := 107) (lo' := [some (.ref 40), some (.int v1), some (.ref v2), some (.int v3), some (.ref v4), some (.int v5), some (.int v6), some (.int s0), none]) (st' := [.ref v4, .ref (42 + 3 * (Int32.toNatClampNeg v6)), .int v5, .int s0]) 1 rfl ?_
      obtain ⟨o22, hS⟩ := hS
      refine x_cs (j := 104) (ne := 0) (vs := [.int v5, .ref (42 + 3 * (Int32.toNatClampNeg v6)), .ref v4]) (rest := [.int s0]) rfl (by decide +kernel) (by decide +kernel) (by decide) (Eq.trans rfl (show 3 = _ from by decide +kernel)) rfl (Nat.le_of_ble_eq_true rfl) (by omega) (T104 (Nat.le_refl 3) (pc_p o21) fv4 o22) (hp_m hN) ?_
      show AW l X 102 c102 d r h' 110 [some (.ref 40), some (.int v1), some (.ref v2), some (.int v3), some (.ref v4), some (.int v5), some (.int v6), some (.int s0), none] [.int (F104_0 v5 (42 + 3 * (Int32.toNatClampNeg v6)) v4 q).1, .int s0] (hp (F104_0 v5 (42 + 3 * (Int32.toNatClampNeg v6)) v4 q).2)
      refine x_kill [0, 1, 2, 3, 4, 5, 6, 7] ?_
      exact A102_110 hd hN hR hG hS
  · rw [if_pos hc10] at hG
    replace hS := hS.1 hc10
    refine x_run (pc' := 85) (lo' := [some (.ref 40), some (.int v1), some (.ref v2), some (.int v3), some (.ref v4), some (.int v5), some (.int v6), some (.int s0), none]) (st' := [.int s0]) 1 rfl ?_
    obtain ⟨rfl, rfl⟩ := hG
    exact x_iret rfl (by decide +kernel)
def F102_13 (rec : Int32 → Nat → Int32 → aQ → Int32 × aQ) (v1 : Int32) (v2 : Nat) (v3 : Int32) (v4 : Nat) (q : aQ) : Int32 × aQ := (if v3 ≤ 15 then (if (q.1 2 (Int32.toNatClampNeg v1)) = (-1) then ((F103_0 v1 v2 v4 q).1, (F103_0 v1 v2 v4 q).2) else F102_68 rec v1 v2 v3 v4 (q.1 2 (Int32.toNatClampNeg v1)) (q.1 5 (Int32.toNatClampNeg v1)) ((rec (q.1 5 (Int32.toNatClampNeg v1)) v2 (v3 + 1) q).1) ((rec (q.1 5 (Int32.toNatClampNeg v1)) v2 (v3 + 1) q).2)) else (0, q))
def S102_13 (rec : Int32 → Nat → Int32 → aQ → Int32 × aQ) (recS : Int32 → Nat → Int32 → aQ → Prop) (v1 : Int32) (v2 : Nat) (v3 : Int32) (v4 : Nat) (q : aQ) : Prop := ((v3 ≤ 15) → vp_in v1 60 ∧ ((((q.1 2 (Int32.toNatClampNeg v1)) = (-1)) → S103_0 v1 v2 v4 q ∧ (True)) ∧ (¬ ((q.1 2 (Int32.toNatClampNeg v1)) = (-1)) → vp_in v1 60 ∧ (recS (q.1 5 (Int32.toNatClampNeg v1)) v2 (v3 + 1) q ∧ (S102_68 rec recS v1 v2 v3 v4 (q.1 2 (Int32.toNatClampNeg v1)) (q.1 5 (Int32.toNatClampNeg v1)) ((rec (q.1 5 (Int32.toNatClampNeg v1)) v2 (v3 + 1) q).1) ((rec (q.1 5 (Int32.toNatClampNeg v1)) v2 (v3 + 1) q).2)))))) ∧ (¬ (v3 ≤ 15) → True)
set_option maxRecDepth 100000 in
set_option maxHeartbeats 4000000 in
theorem A102_13 {l : Launch} {X : aX} {d : Nat} {r : Option Value} {h' : aH} {v1 : Int32} {v2 : Nat} {v3 : Int32} {v4 : Nat} {q : aQ} (hd : 5 ≤ d) (hN : h'.1 = nk0) {rec : Int32 → Nat → Int32 → aQ → Int32 × aQ} {recS : Int32 → Nat → Int32 → aQ → Prop} (hR : ∀ (a0 : Int32) (a1 : Nat) (a2 : Int32) (q : aQ), isSt a1 → recS a0 a1 a2 q → Call l X (d - 1) 102 [.ref 40, .int a0, .ref a1, .int a2] (hp q) (some (.int (rec a0 a1 a2 q).1)) (hp (rec a0 a1 a2 q).2)) (fv2 : isSt v2) (fv4 : isPic v4) (hG : gI r h' (F102_13 rec v1 v2 v3 v4 q)) (hS : S102_13 rec recS v1 v2 v3 v4 q) : AW l X 102 c102 d r h' 13 [some (.ref 40), some (.int v1), some (.ref v2), some (.int v3), some (.ref v4), none, none, none, none] [] (hp q) := by
  unfold F102_13 at hG
  unfold S102_13 at hS
  refine x_run (pc' := 16) (lo' := [some (.ref 40), some (.int v1), some (.ref v2), some (.int v3), some (.ref v4), none, none, none, none]) (st' := [.int 15, .int v3]) 2 rfl ?_
  refine x_ic 21 rfl rfl (fun (hc3 : v3 ≤ 15) => ?_) (fun (hc3 : ¬ v3 ≤ 15) => ?_)
  · rw [if_pos hc3] at hG
    replace hS := hS.1 hc3
    refine x_run (pc' := 22) (lo' := [some (.ref 40), some (.int v1), some (.ref v2), some (.int v3), some (.ref v4), none, none, none, none]) (st' := [.ref 40]) 1 rfl ?_
    refine x_gf (c := 448) (ne := 0) (v := .ref 1) rfl (by decide +kernel) rfl rfl ?_
    refine x_gf (c := 64) (ne := 1) (v := .ref 2) rfl (by decide +kernel) rfl rfl ?_
    refine x_run (pc' := 29) (lo' := [some (.ref 40), some (.int v1), some (.ref v2), some (.int v3), some (.ref v4), none, none, none, none]) (st' := [.int v1, .ref 2]) 1 rfl ?_
    obtain ⟨o4, hS⟩ := hS
    refine p_ia (n := 60) (v := (q.1 2 (Int32.toNatClampNeg v1))) rfl rfl o4 rfl ?_
    refine x_run (pc' := 35) (lo' := [some (.ref 40), some (.int v1), some (.ref v2), some (.int v3), some (.ref v4), some (.int (q.1 2 (Int32.toNatClampNeg v1))), none, none, none]) (st' := [.int (-1), .int (q.1 2 (Int32.toNatClampNeg v1))]) 3 rfl ?_
    refine x_ic 47 rfl rfl (fun (hc5 : ¬ (q.1 2 (Int32.toNatClampNeg v1)) = (-1)) => ?_) (fun (hc5 : (q.1 2 (Int32.toNatClampNeg v1)) = (-1)) => ?_)
    · rw [if_neg hc5] at hG
      replace hS := hS.2 hc5
      refine x_run (pc' := 48) (lo' := [some (.ref 40), some (.int v1), some (.ref v2), some (.int v3), some (.ref v4), some (.int (q.1 2 (Int32.toNatClampNeg v1))), none, none, none]) (st' := [.ref 40]) 1 rfl ?_
      refine x_gf (c := 448) (ne := 0) (v := .ref 1) rfl (by decide +kernel) rfl rfl ?_
      refine x_gf (c := 67) (ne := 1) (v := .ref 5) rfl (by decide +kernel) rfl rfl ?_
      refine x_run (pc' := 55) (lo' := [some (.ref 40), some (.int v1), some (.ref v2), some (.int v3), some (.ref v4), some (.int (q.1 2 (Int32.toNatClampNeg v1))), none, none, none]) (st' := [.int v1, .ref 5]) 1 rfl ?_
      obtain ⟨o6, hS⟩ := hS
      refine p_ia (n := 60) (v := (q.1 5 (Int32.toNatClampNeg v1))) rfl rfl o6 rfl ?_
      refine x_run (pc' := 65) (lo' := [some (.ref 40), some (.int v1), some (.ref v2), some (.int v3), some (.ref v4), some (.int (q.1 2 (Int32.toNatClampNeg v1))), some (.int (q.1 5 (Int32.toNatClampNeg v1))), none, none]) (st' := [.int (v3 + 1), .ref v2, .int (q.1 5 (Int32.toNatClampNeg v1)), .ref 40]) 7 rfl ?_
      obtain ⟨o7, hS⟩ := hS
      refine x_cv (j := 102) (ne := 0) (vs := [.int (q.1 5 (Int32.toNatClampNeg v1)), .ref v2, .int (v3 + 1)]) (rest := []) rfl (by decide +kernel) (by decide +kernel) (by decide) (Eq.trans rfl (show 3 = _ from by decide +kernel)) rfl (by decide +kernel) rfl (Nat.le_of_ble_eq_true rfl) (by omega) (hR (q.1 5 (Int32.toNatClampNeg v1)) v2 (v3 + 1) q fv2 o7) (hp_m hN) ?_
      show AW l X 102 c102 d r h' 68 [some (.ref 40), some (.int v1), some (.ref v2), some (.int v3), some (.ref v4), some (.int (q.1 2 (Int32.toNatClampNeg v1))), some (.int (q.1 5 (Int32.toNatClampNeg v1))), none, none] [.int (rec (q.1 5 (Int32.toNatClampNeg v1)) v2 (v3 + 1) q).1] (hp (rec (q.1 5 (Int32.toNatClampNeg v1)) v2 (v3 + 1) q).2)
      exact A102_68 hd hN hR fv2 fv4 hG hS
    · rw [if_pos hc5] at hG
      replace hS := hS.1 hc5
      refine x_run (pc' := 43) (lo' := [some (.ref 40), some (.int v1), some (.ref v2), some (.int v3), some (.ref v4), some (.int (q.1 2 (Int32.toNatClampNeg v1))), none, none, none]) (st' := [.ref v4, .ref v2, .int v1, .ref 40]) 4 rfl ?_
      obtain ⟨o23, hS⟩ := hS
      refine x_cv (j := 103) (ne := 0) (vs := [.int v1, .ref v2, .ref v4]) (rest := []) rfl (by decide +kernel) (by decide +kernel) (by decide) (Eq.trans rfl (show 3 = _ from by decide +kernel)) rfl (by decide +kernel) rfl (Nat.le_of_ble_eq_true rfl) (by omega) (T103 (Nat.le_refl 3) fv2 fv4 o23) (hp_m hN) ?_
      show AW l X 102 c102 d r h' 46 [some (.ref 40), some (.int v1), some (.ref v2), some (.int v3), some (.ref v4), some (.int (q.1 2 (Int32.toNatClampNeg v1))), none, none, none] [.int (F103_0 v1 v2 v4 q).1] (hp (F103_0 v1 v2 v4 q).2)
      obtain ⟨rfl, rfl⟩ := hG
      exact x_iret rfl (by decide +kernel)
  · rw [if_neg hc3] at hG
    replace hS := hS.2 hc3
    refine x_run (pc' := 20) (lo' := [some (.ref 40), some (.int v1), some (.ref v2), some (.int v3), some (.ref v4), none, none, none, none]) (st' := [.int 0]) 1 rfl ?_
    obtain ⟨rfl, rfl⟩ := hG
    exact x_iret rfl (by decide +kernel)
def F102_0 (rec : Int32 → Nat → Int32 → aQ → Int32 × aQ) (v1 : Int32) (v2 : Nat) (v3 : Int32) (q : aQ) : Int32 × aQ := F102_13 rec v1 v2 v3 (42 + 3 * (Int32.toNatClampNeg v1)) (F63_0 (42 + 3 * (Int32.toNatClampNeg v1)) q)
def S102_0 (rec : Int32 → Nat → Int32 → aQ → Int32 × aQ) (recS : Int32 → Nat → Int32 → aQ → Prop) (v1 : Int32) (v2 : Nat) (v3 : Int32) (q : aQ) : Prop := vp_in v1 60 ∧ (S63_0 (42 + 3 * (Int32.toNatClampNeg v1)) q ∧ (S102_13 rec recS v1 v2 v3 (42 + 3 * (Int32.toNatClampNeg v1)) (F63_0 (42 + 3 * (Int32.toNatClampNeg v1)) q)))
set_option maxRecDepth 100000 in
set_option maxHeartbeats 4000000 in
theorem A102_0 {l : Launch} {X : aX} {d : Nat} {r : Option Value} {h' : aH} {v1 : Int32} {v2 : Nat} {v3 : Int32} {q : aQ} (hd : 5 ≤ d) (hN : h'.1 = nk0) {rec : Int32 → Nat → Int32 → aQ → Int32 × aQ} {recS : Int32 → Nat → Int32 → aQ → Prop} (hR : ∀ (a0 : Int32) (a1 : Nat) (a2 : Int32) (q : aQ), isSt a1 → recS a0 a1 a2 q → Call l X (d - 1) 102 [.ref 40, .int a0, .ref a1, .int a2] (hp q) (some (.int (rec a0 a1 a2 q).1)) (hp (rec a0 a1 a2 q).2)) (fv2 : isSt v2) (hG : gI r h' (F102_0 rec v1 v2 v3 q)) (hS : S102_0 rec recS v1 v2 v3 q) : AW l X 102 c102 d r h' 0 [some (.ref 40), some (.int v1), some (.ref v2), some (.int v3), none, none, none, none, none] [] (hp q) := by
  unfold F102_0 at hG
  unfold S102_0 at hS
  refine x_run (pc' := 1) (lo' := [some (.ref 40), some (.int v1), some (.ref v2), some (.int v3), none, none, none, none, none]) (st' := [.ref 40]) 1 rfl ?_
  refine x_gf (c := 449) (ne := 0) (v := .ref 41) rfl (by decide +kernel) rfl rfl ?_
  refine x_run (pc' := 5) (lo' := [some (.ref 40), some (.int v1), some (.ref v2), some (.int v3), none, none, none, none, none]) (st' := [.int v1, .ref 41]) 1 rfl ?_
  obtain ⟨o1, hS⟩ := hS
  refine x_aa (n := 60) (t := 20) (v := 42 + 3 * (Int32.toNatClampNeg v1)) rfl rfl (Or.inr rfl) o1 (mr_p o1) ?_
  refine x_run (pc' := 10) (lo' := [some (.ref 40), some (.int v1), some (.ref v2), some (.int v3), some (.ref (42 + 3 * (Int32.toNatClampNeg v1))), none, none, none, none]) (st' := [.ref (42 + 3 * (Int32.toNatClampNeg v1))]) 2 rfl ?_
  obtain ⟨o2, hS⟩ := hS
  refine x_cv (j := 63) (ne := 0) (vs := []) (rest := []) rfl (by decide +kernel) (by decide +kernel) (by decide) (Eq.trans rfl (show 0 = _ from by decide +kernel)) (pc_s (pc_p o1)) (by decide +kernel) rfl (Nat.le_of_ble_eq_true rfl) (by omega) (T63 (Nat.le_refl 2) (pc_p o1) o2) (hp_m hN) ?_
  show AW l X 102 c102 d r h' 13 [some (.ref 40), some (.int v1), some (.ref v2), some (.int v3), some (.ref (42 + 3 * (Int32.toNatClampNeg v1))), none, none, none, none] [] (hp (F63_0 (42 + 3 * (Int32.toNatClampNeg v1)) q))
  exact A102_13 hd hN hR fv2 (pc_p o1) hG hS
def F102 : Nat → Int32 → Nat → Int32 → aQ → Int32 × aQ
  | 0 => fun _ _ _ q => (0, q)
  | n + 1 => F102_0 (F102 n)
def S102 : Nat → Int32 → Nat → Int32 → aQ → Prop
  | 0 => fun _ _ _ _ => False
  | n + 1 => S102_0 (F102 n) (S102 n)
theorem T102 {l : Launch} {X : aX} : ∀ (n : Nat) {d : Nat} {v1 : Int32} {v2 : Nat} {v3 : Int32} {q : aQ} (hd : 5 + n ≤ d) (fv2 : isSt v2) (hS : S102 n v1 v2 v3 q), Call l X d 102 [.ref 40, .int v1, .ref v2, .int v3] (hp q) (some (.int (F102 n v1 v2 v3 q).1)) (hp (F102 n v1 v2 v3 q).2) := by
  intro n
  induction n with
  | zero => intros; rename_i hS; exact hS.elim
  | succ n ih =>
    intro d v1 v2 v3 q hd fv2 hS
    exact Call.of ok102 (by decide) (Nat.le_of_ble_eq_true rfl) ⟨Nat.le_refl _, Nat.le_refl _⟩ (A102_0 (by omega) rfl (fun a0 a1 a2 q gv2 hs => ih (by omega) gv2 hs) fv2 ⟨rfl, rfl⟩ hS)
/-- TypeForecast$Painter.narrow(LTypeForecast$State;IZ)V -/
def F109_88 (q : aQ) : aQ := q
def S109_88 (q : aQ) : Prop := True
set_option maxRecDepth 100000 in
set_option maxHeartbeats 4000000 in
theorem A109_88 {l : Launch} {X : aX} {d : Nat} {r : Option Value} {h' : aH} {q : aQ} (hd : 4 ≤ d) (hN : h'.1 = nk0) (hG : gV r h' (F109_88 q)) (hS : S109_88 q) : AW l X 109 c109 d r h' 88 [none, none, none, none, none, none] [] (hp q) := by
  unfold F109_88 at hG
  unfold S109_88 at hS
  refine x_run (pc' := 120) (lo' := [none, none, none, none, none, none]) (st' := []) 1 rfl ?_
  obtain ⟨rfl, rfl⟩ := hG
  exact x_ret rfl (by decide +kernel)
def F109_111 (q : aQ) : aQ := q
def S109_111 (q : aQ) : Prop := True
set_option maxRecDepth 100000 in
set_option maxHeartbeats 4000000 in
theorem A109_111 {l : Launch} {X : aX} {d : Nat} {r : Option Value} {h' : aH} {q : aQ} (hd : 4 ≤ d) (hN : h'.1 = nk0) (hG : gV r h' (F109_111 q)) (hS : S109_111 q) : AW l X 109 c109 d r h' 111 [none, none, none, none, none, none] [] (hp q) := by
  unfold F109_111 at hG
  unfold S109_111 at hS
  refine x_run (pc' := 120) (lo' := [none, none, none, none, none, none]) (st' := []) 1 rfl ?_
  obtain ⟨rfl, rfl⟩ := hG
  exact x_ret rfl (by decide +kernel)
def F109_0 (v1 : Nat) (v2 : Int32) (v3 : Int32) (q : aQ) : aQ := (if (F30_0 v2 q) = (-1) then q else (if ((a_w q (v1 + 2 + 3 * (Int32.toNatClampNeg (F30_0 v2 q))) 3 0).1 2 (Int32.toNatClampNeg v2)) = 4 then F109_88 (F77_0 (v1 + 2 + 3 * (Int32.toNatClampNeg (F30_0 v2 q))) (42 + 3 * (Int32.toNatClampNeg ((a_w q (v1 + 2 + 3 * (Int32.toNatClampNeg (F30_0 v2 q))) 3 0).1 6 (Int32.toNatClampNeg v2)))) v3 (a_w q (v1 + 2 + 3 * (Int32.toNatClampNeg (F30_0 v2 q))) 3 0)) else (if ((a_w q (v1 + 2 + 3 * (Int32.toNatClampNeg (F30_0 v2 q))) 3 0).1 2 (Int32.toNatClampNeg v2)) = 5 then F109_111 (F78_0 (v1 + 2 + 3 * (Int32.toNatClampNeg (F30_0 v2 q))) (42 + 3 * (Int32.toNatClampNeg ((a_w q (v1 + 2 + 3 * (Int32.toNatClampNeg (F30_0 v2 q))) 3 0).1 6 (Int32.toNatClampNeg v2)))) v3 (a_w q (v1 + 2 + 3 * (Int32.toNatClampNeg (F30_0 v2 q))) 3 0)) else (F76_0 (v1 + 2 + 3 * (Int32.toNatClampNeg (F30_0 v2 q))) v3 (a_w q (v1 + 2 + 3 * (Int32.toNatClampNeg (F30_0 v2 q))) 3 0)))))
def S109_0 (v1 : Nat) (v2 : Int32) (v3 : Int32) (q : aQ) : Prop := S30_0 v2 q ∧ ((((F30_0 v2 q) = (-1)) → True) ∧ (¬ ((F30_0 v2 q) = (-1)) → vp_in (F30_0 v2 q) 5 ∧ (vp_in v2 60 ∧ (((((a_w q (v1 + 2 + 3 * (Int32.toNatClampNeg (F30_0 v2 q))) 3 0).1 2 (Int32.toNatClampNeg v2)) = 4) → vp_in v2 60 ∧ (vp_in ((a_w q (v1 + 2 + 3 * (Int32.toNatClampNeg (F30_0 v2 q))) 3 0).1 6 (Int32.toNatClampNeg v2)) 60 ∧ (S77_0 (v1 + 2 + 3 * (Int32.toNatClampNeg (F30_0 v2 q))) (42 + 3 * (Int32.toNatClampNeg ((a_w q (v1 + 2 + 3 * (Int32.toNatClampNeg (F30_0 v2 q))) 3 0).1 6 (Int32.toNatClampNeg v2)))) v3 (a_w q (v1 + 2 + 3 * (Int32.toNatClampNeg (F30_0 v2 q))) 3 0) ∧ (S109_88 (F77_0 (v1 + 2 + 3 * (Int32.toNatClampNeg (F30_0 v2 q))) (42 + 3 * (Int32.toNatClampNeg ((a_w q (v1 + 2 + 3 * (Int32.toNatClampNeg (F30_0 v2 q))) 3 0).1 6 (Int32.toNatClampNeg v2)))) v3 (a_w q (v1 + 2 + 3 * (Int32.toNatClampNeg (F30_0 v2 q))) 3 0)))))) ∧ (¬ (((a_w q (v1 + 2 + 3 * (Int32.toNatClampNeg (F30_0 v2 q))) 3 0).1 2 (Int32.toNatClampNeg v2)) = 4) → ((((a_w q (v1 + 2 + 3 * (Int32.toNatClampNeg (F30_0 v2 q))) 3 0).1 2 (Int32.toNatClampNeg v2)) = 5) → vp_in v2 60 ∧ (vp_in ((a_w q (v1 + 2 + 3 * (Int32.toNatClampNeg (F30_0 v2 q))) 3 0).1 6 (Int32.toNatClampNeg v2)) 60 ∧ (S78_0 (v1 + 2 + 3 * (Int32.toNatClampNeg (F30_0 v2 q))) (42 + 3 * (Int32.toNatClampNeg ((a_w q (v1 + 2 + 3 * (Int32.toNatClampNeg (F30_0 v2 q))) 3 0).1 6 (Int32.toNatClampNeg v2)))) v3 (a_w q (v1 + 2 + 3 * (Int32.toNatClampNeg (F30_0 v2 q))) 3 0) ∧ (S109_111 (F78_0 (v1 + 2 + 3 * (Int32.toNatClampNeg (F30_0 v2 q))) (42 + 3 * (Int32.toNatClampNeg ((a_w q (v1 + 2 + 3 * (Int32.toNatClampNeg (F30_0 v2 q))) 3 0).1 6 (Int32.toNatClampNeg v2)))) v3 (a_w q (v1 + 2 + 3 * (Int32.toNatClampNeg (F30_0 v2 q))) 3 0)))))) ∧ (¬ (((a_w q (v1 + 2 + 3 * (Int32.toNatClampNeg (F30_0 v2 q))) 3 0).1 2 (Int32.toNatClampNeg v2)) = 5) → S76_0 (v1 + 2 + 3 * (Int32.toNatClampNeg (F30_0 v2 q))) v3 (a_w q (v1 + 2 + 3 * (Int32.toNatClampNeg (F30_0 v2 q))) 3 0) ∧ (True)))))))
set_option maxRecDepth 100000 in
set_option maxHeartbeats 4000000 in
theorem A109_0 {l : Launch} {X : aX} {d : Nat} {r : Option Value} {h' : aH} {v1 : Nat} {v2 : Int32} {v3 : Int32} {q : aQ} (hd : 4 ≤ d) (hN : h'.1 = nk0) (fv1 : isSt v1) (hG : gV r h' (F109_0 v1 v2 v3 q)) (hS : S109_0 v1 v2 v3 q) : AW l X 109 c109 d r h' 0 [some (.ref 40), some (.ref v1), some (.int v2), some (.int v3), none, none] [] (hp q) := by
  unfold F109_0 at hG
  unfold S109_0 at hS
  refine x_run (pc' := 1) (lo' := [some (.ref 40), some (.ref v1), some (.int v2), some (.int v3), none, none]) (st' := [.ref 40]) 1 rfl ?_
  refine x_gf (c := 448) (ne := 0) (v := .ref 1) rfl (by decide +kernel) rfl rfl ?_
  refine x_run (pc' := 5) (lo' := [some (.ref 40), some (.ref v1), some (.int v2), some (.int v3), none, none]) (st' := [.int v2, .ref 1]) 1 rfl ?_
  obtain ⟨o1, hS⟩ := hS
  refine x_cv (j := 30) (ne := 0) (vs := [.int v2]) (rest := []) rfl (by decide +kernel) (by decide +kernel) (by decide) (Eq.trans rfl (show 1 = _ from by decide +kernel)) rfl (by decide +kernel) rfl (Nat.le_of_ble_eq_true rfl) (by omega) (T30 (Nat.le_refl 1) o1) (hp_m hN) ?_
  show AW l X 109 c109 d r h' 8 [some (.ref 40), some (.ref v1), some (.int v2), some (.int v3), none, none] [.int (F30_0 v2 q)] (hp q)
  refine x_run (pc' := 13) (lo' := [some (.ref 40), some (.ref v1), some (.int v2), some (.int v3), some (.int (F30_0 v2 q)), none]) (st' := [.int (-1), .int (F30_0 v2 q)]) 3 rfl ?_
  refine x_ic 17 rfl rfl (fun (hc2 : ¬ (F30_0 v2 q) = (-1)) => ?_) (fun (hc2 : (F30_0 v2 q) = (-1)) => ?_)
  · rw [if_neg hc2] at hG
    replace hS := hS.2 hc2
    refine x_run (pc' := 18) (lo' := [some (.ref 40), some (.ref v1), some (.int v2), some (.int v3), some (.int (F30_0 v2 q)), none]) (st' := [.ref v1]) 1 rfl ?_
    refine x_gf (c := 256) (ne := 1) (v := .ref (v1 + 1)) rfl (by decide +kernel) (st_s fv1) (st_v fv1) ?_
    refine x_run (pc' := 23) (lo' := [some (.ref 40), some (.ref v1), some (.int v2), some (.int v3), some (.int (F30_0 v2 q)), none]) (st' := [.int (F30_0 v2 q), .ref (v1 + 1)]) 1 rfl ?_
    obtain ⟨o3, hS⟩ := hS
    refine x_aa (n := 5) (t := 20) (v := v1 + 2 + 3 * (Int32.toNatClampNeg (F30_0 v2 q))) rfl (st_a fv1) (Or.inr rfl) o3 (st_m fv1 o3) ?_
    refine x_run (pc' := 29) (lo' := [some (.ref 40), some (.ref v1), some (.int v2), some (.int v3), some (.int (F30_0 v2 q)), some (.ref (v1 + 2 + 3 * (Int32.toNatClampNeg (F30_0 v2 q))))]) (st' := [.int 0, .ref (v1 + 2 + 3 * (Int32.toNatClampNeg (F30_0 v2 q)))]) 3 rfl ?_
    refine x_pf (c := 323) (ne := 1) (h2 := hp (a_w q (v1 + 2 + 3 * (Int32.toNatClampNeg (F30_0 v2 q))) 3 0)) rfl (by decide +kernel) (by decide +kernel) (pc_s (st_p fv1 o3)) (pv_z rfl (Or.inl rfl)) ?_
    refine x_run (pc' := 33) (lo' := [some (.ref 40), some (.ref v1), some (.int v2), some (.int v3), some (.int (F30_0 v2 q)), some (.ref (v1 + 2 + 3 * (Int32.toNatClampNeg (F30_0 v2 q))))]) (st' := [.ref 40]) 1 rfl ?_
    refine x_gf (c := 448) (ne := 0) (v := .ref 1) rfl (by decide +kernel) rfl rfl ?_
    refine x_gf (c := 64) (ne := 1) (v := .ref 2) rfl (by decide +kernel) rfl rfl ?_
    refine x_run (pc' := 40) (lo' := [some (.ref 40), some (.ref v1), some (.int v2), some (.int v3), some (.int (F30_0 v2 q)), some (.ref (v1 + 2 + 3 * (Int32.toNatClampNeg (F30_0 v2 q))))]) (st' := [.int v2, .ref 2]) 1 rfl ?_
    obtain ⟨o4, hS⟩ := hS
    refine p_ia (n := 60) (v := ((a_w q (v1 + 2 + 3 * (Int32.toNatClampNeg (F30_0 v2 q))) 3 0).1 2 (Int32.toNatClampNeg v2))) rfl rfl o4 rfl ?_
    by_cases hc13 : ((a_w q (v1 + 2 + 3 * (Int32.toNatClampNeg (F30_0 v2 q))) 3 0).1 2 (Int32.toNatClampNeg v2)) = 4
    · rw [if_pos hc13] at hG
      replace hS := hS.1 hc13
      refine x_ls (off := 27) 68 rfl (by decide) (by rw [hc13]; rfl) rfl ?_
      refine x_run (pc' := 71) (lo' := [some (.ref 40), some (.ref v1), some (.int v2), some (.int v3), some (.int (F30_0 v2 q)), some (.ref (v1 + 2 + 3 * (Int32.toNatClampNeg (F30_0 v2 q))))]) (st' := [.ref 40, .ref (v1 + 2 + 3 * (Int32.toNatClampNeg (F30_0 v2 q)))]) 2 rfl ?_
      refine x_gf (c := 449) (ne := 0) (v := .ref 41) rfl (by decide +kernel) rfl rfl ?_
      refine x_run (pc' := 75) (lo' := [some (.ref 40), some (.ref v1), some (.int v2), some (.int v3), some (.int (F30_0 v2 q)), some (.ref (v1 + 2 + 3 * (Int32.toNatClampNeg (F30_0 v2 q))))]) (st' := [.ref 40, .ref 41, .ref (v1 + 2 + 3 * (Int32.toNatClampNeg (F30_0 v2 q)))]) 1 rfl ?_
      refine x_gf (c := 448) (ne := 0) (v := .ref 1) rfl (by decide +kernel) rfl rfl ?_
      refine x_gf (c := 68) (ne := 1) (v := .ref 6) rfl (by decide +kernel) rfl rfl ?_
      refine x_run (pc' := 82) (lo' := [some (.ref 40), some (.ref v1), some (.int v2), some (.int v3), some (.int (F30_0 v2 q)), some (.ref (v1 + 2 + 3 * (Int32.toNatClampNeg (F30_0 v2 q))))]) (st' := [.int v2, .ref 6, .ref 41, .ref (v1 + 2 + 3 * (Int32.toNatClampNeg (F30_0 v2 q)))]) 1 rfl ?_
      obtain ⟨o7, hS⟩ := hS
      refine p_ia (n := 60) (v := ((a_w q (v1 + 2 + 3 * (Int32.toNatClampNeg (F30_0 v2 q))) 3 0).1 6 (Int32.toNatClampNeg v2))) rfl rfl o7 rfl ?_
      obtain ⟨o8, hS⟩ := hS
      refine x_aa (n := 60) (t := 20) (v := 42 + 3 * (Int32.toNatClampNeg ((a_w q (v1 + 2 + 3 * (Int32.toNatClampNeg (F30_0 v2 q))) 3 0).1 6 (Int32.toNatClampNeg v2)))) rfl rfl (Or.inr rfl) o8 (mr_p o8) ?_
      refine x_run (pc' := 85) (lo' := [some (.ref 40), some (.ref v1), some (.int v2), some (.int v3), some (.int (F30_0 v2 q)), some (.ref (v1 + 2 + 3 * (Int32.toNatClampNeg (F30_0 v2 q))))]) (st' := [.int v3, .ref (42 + 3 * (Int32.toNatClampNeg ((a_w q (v1 + 2 + 3 * (Int32.toNatClampNeg (F30_0 v2 q))) 3 0).1 6 (Int32.toNatClampNeg v2)))), .ref (v1 + 2 + 3 * (Int32.toNatClampNeg (F30_0 v2 q)))]) 1 rfl ?_
      obtain ⟨o9, hS⟩ := hS
      refine x_cv (j := 77) (ne := 0) (vs := [.ref (42 + 3 * (Int32.toNatClampNeg ((a_w q (v1 + 2 + 3 * (Int32.toNatClampNeg (F30_0 v2 q))) 3 0).1 6 (Int32.toNatClampNeg v2)))), .int v3]) (rest := []) rfl (by decide +kernel) (by decide +kernel) (by decide) (Eq.trans rfl (show 2 = _ from by decide +kernel)) (pc_s (st_p fv1 o3)) (by decide +kernel) rfl (Nat.le_of_ble_eq_true rfl) (by omega) (T77 (Nat.le_refl 3) (st_p fv1 o3) (pc_p o8) o9) (hp_m hN) ?_
      show AW l X 109 c109 d r h' 88 [some (.ref 40), some (.ref v1), some (.int v2), some (.int v3), some (.int (F30_0 v2 q)), some (.ref (v1 + 2 + 3 * (Int32.toNatClampNeg (F30_0 v2 q))))] [] (hp (F77_0 (v1 + 2 + 3 * (Int32.toNatClampNeg (F30_0 v2 q))) (42 + 3 * (Int32.toNatClampNeg ((a_w q (v1 + 2 + 3 * (Int32.toNatClampNeg (F30_0 v2 q))) 3 0).1 6 (Int32.toNatClampNeg v2)))) v3 (a_w q (v1 + 2 + 3 * (Int32.toNatClampNeg (F30_0 v2 q))) 3 0)))
      refine x_kill [0, 1, 2, 3, 4, 5] ?_
      exact A109_88 hd hN hG hS
    · rw [if_neg hc13] at hG
      replace hS := hS.2 hc13
      by_cases hc14 : ((a_w q (v1 + 2 + 3 * (Int32.toNatClampNeg (F30_0 v2 q))) 3 0).1 2 (Int32.toNatClampNeg v2)) = 5
      · rw [if_pos hc14] at hG
        replace hS := hS.1 hc14
        refine x_ls (off := 50) 91 rfl (by decide) (by rw [hc14]; rfl) rfl ?_
        refine x_run (pc' := 94) (lo' := [some (.ref 40), some (.ref v1), some (.int v2), some (.int v3), some (.int (F30_0 v2 q)), some (.ref (v1 + 2 + 3 * (Int32.toNatClampNeg (F30_0 v2 q))))]) (st' := [.ref 40, .ref (v1 + 2 + 3 * (Int32.toNatClampNeg (F30_0 v2 q)))]) 2 rfl ?_
        refine x_gf (c := 449) (ne := 0) (v := .ref 41) rfl (by decide +kernel) rfl rfl ?_
        refine x_run (pc' := 98) (lo' := [some (.ref 40), some (.ref v1), some (.int v2), some (.int v3), some (.int (F30_0 v2 q)), some (.ref (v1 + 2 + 3 * (Int32.toNatClampNeg (F30_0 v2 q))))]) (st' := [.ref 40, .ref 41, .ref (v1 + 2 + 3 * (Int32.toNatClampNeg (F30_0 v2 q)))]) 1 rfl ?_
        refine x_gf (c := 448) (ne := 0) (v := .ref 1) rfl (by decide +kernel) rfl rfl ?_
        refine x_gf (c := 68) (ne := 1) (v := .ref 6) rfl (by decide +kernel) rfl rfl ?_
        refine x_run (pc' := 105) (lo' := [some (.ref 40), some (.ref v1), some (.int v2), some (.int v3), some (.int (F30_0 v2 q)), some (.ref (v1 + 2 + 3 * (Int32.toNatClampNeg (F30_0 v2 q))))]) (st' := [.int v2, .ref 6, .ref 41, .ref (v1 + 2 + 3 * (Int32.toNatClampNeg (F30_0 v2 q)))]) 1 rfl ?_
        obtain ⟨o10, hS⟩ := hS
        refine p_ia (n := 60) (v := ((a_w q (v1 + 2 + 3 * (Int32.toNatClampNeg (F30_0 v2 q))) 3 0).1 6 (Int32.toNatClampNeg v2))) rfl rfl o10 rfl ?_
        obtain ⟨o11, hS⟩ := hS
        refine x_aa (n := 60) (t := 20) (v := 42 + 3 * (Int32.toNatClampNeg ((a_w q (v1 + 2 + 3 * (Int32.toNatClampNeg (F30_0 v2 q))) 3 0).1 6 (Int32.toNatClampNeg v2)))) rfl rfl (Or.inr rfl) o11 (mr_p o11) ?_
        refine x_run (pc' := 108) (lo' := [some (.ref 40), some (.ref v1), some (.int v2), some (.int v3), some (.int (F30_0 v2 q)), some (.ref (v1 + 2 + 3 * (Int32.toNatClampNeg (F30_0 v2 q))))]) (st' := [.int v3, .ref (42 + 3 * (Int32.toNatClampNeg ((a_w q (v1 + 2 + 3 * (Int32.toNatClampNeg (F30_0 v2 q))) 3 0).1 6 (Int32.toNatClampNeg v2)))), .ref (v1 + 2 + 3 * (Int32.toNatClampNeg (F30_0 v2 q)))]) 1 rfl ?_
        obtain ⟨o12, hS⟩ := hS
        refine x_cv (j := 78) (ne := 0) (vs := [.ref (42 + 3 * (Int32.toNatClampNeg ((a_w q (v1 + 2 + 3 * (Int32.toNatClampNeg (F30_0 v2 q))) 3 0).1 6 (Int32.toNatClampNeg v2)))), .int v3]) (rest := []) rfl (by decide +kernel) (by decide +kernel) (by decide) (Eq.trans rfl (show 2 = _ from by decide +kernel)) (pc_s (st_p fv1 o3)) (by decide +kernel) rfl (Nat.le_of_ble_eq_true rfl) (by omega) (T78 (Nat.le_refl 3) (st_p fv1 o3) (pc_p o11) o12) (hp_m hN) ?_
        show AW l X 109 c109 d r h' 111 [some (.ref 40), some (.ref v1), some (.int v2), some (.int v3), some (.int (F30_0 v2 q)), some (.ref (v1 + 2 + 3 * (Int32.toNatClampNeg (F30_0 v2 q))))] [] (hp (F78_0 (v1 + 2 + 3 * (Int32.toNatClampNeg (F30_0 v2 q))) (42 + 3 * (Int32.toNatClampNeg ((a_w q (v1 + 2 + 3 * (Int32.toNatClampNeg (F30_0 v2 q))) 3 0).1 6 (Int32.toNatClampNeg v2)))) v3 (a_w q (v1 + 2 + 3 * (Int32.toNatClampNeg (F30_0 v2 q))) 3 0)))
        refine x_kill [0, 1, 2, 3, 4, 5] ?_
        exact A109_111 hd hN hG hS
      · rw [if_neg hc14] at hG
        replace hS := hS.2 hc14
        refine x_ls (off := 73) 114 rfl (by decide) (by show Op.lookupswitch.offset [(4, 27), (5, 50)] 73 _ = _ ; rw [lv_osw (k := 4) hc13 (by decide)] ; rw [lv_osw (k := 5) hc14 (by decide)] ; rfl) rfl ?_
        refine x_run (pc' := 117) (lo' := [some (.ref 40), some (.ref v1), some (.int v2), some (.int v3), some (.int (F30_0 v2 q)), some (.ref (v1 + 2 + 3 * (Int32.toNatClampNeg (F30_0 v2 q))))]) (st' := [.int v3, .ref (v1 + 2 + 3 * (Int32.toNatClampNeg (F30_0 v2 q)))]) 2 rfl ?_
        obtain ⟨o6, hS⟩ := hS
        refine x_cv (j := 76) (ne := 0) (vs := [.int v3]) (rest := []) rfl (by decide +kernel) (by decide +kernel) (by decide) (Eq.trans rfl (show 1 = _ from by decide +kernel)) (pc_s (st_p fv1 o3)) (by decide +kernel) rfl (Nat.le_of_ble_eq_true rfl) (by omega) (T76 (Nat.le_refl 3) (st_p fv1 o3) o6) (hp_m hN) ?_
        show AW l X 109 c109 d r h' 120 [some (.ref 40), some (.ref v1), some (.int v2), some (.int v3), some (.int (F30_0 v2 q)), some (.ref (v1 + 2 + 3 * (Int32.toNatClampNeg (F30_0 v2 q))))] [] (hp (F76_0 (v1 + 2 + 3 * (Int32.toNatClampNeg (F30_0 v2 q))) v3 (a_w q (v1 + 2 + 3 * (Int32.toNatClampNeg (F30_0 v2 q))) 3 0)))
        obtain ⟨rfl, rfl⟩ := hG
        exact x_ret rfl (by decide +kernel)
  · rw [if_pos hc2] at hG
    replace hS := hS.1 hc2
    obtain ⟨rfl, rfl⟩ := hG
    exact x_ret rfl (by decide +kernel)
theorem T109 {l : Launch} {X : aX} {d : Nat} {v1 : Nat} {v2 : Int32} {v3 : Int32} {q : aQ} (hd : 4 ≤ d) (fv1 : isSt v1) (hS : S109_0 v1 v2 v3 q) : Call l X d 109 [.ref 40, .ref v1, .int v2, .int v3] (hp q) none (hp (F109_0 v1 v2 v3 q)) := Call.of ok109 (by decide) (Nat.le_of_ble_eq_true rfl) ⟨Nat.le_refl _, Nat.le_refl _⟩ (A109_0 hd rfl fv1 ⟨rfl, rfl⟩ hS)
