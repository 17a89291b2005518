/-! the law (wip/whole/gen42.py): constructors, then one call of each side a step -/
theorem p_sa {l : Launch} {X : aX} {i : Nat} {cf : aK} {d : Nat} {r : Option Value} {h' h : aH} {pc : Nat} {lo : List (Option Value)} {st : List Value} {z n : Nat} {j : Int32} (hc : cf pc = some .iaload) (hj : j = nI n) (hn : n < X.1) (hX : X.1 ≤ 2048) (K : AW l X i cf d r h' (pc + 1) lo (.int (X.2 n) :: st) h) : AW l X i cf d r h' pc lo (.int j :: .retAddr z :: st) h := by
  subst hj
  refine x_sa hc (vp_in_nI hn (by omega)) ?_
  rw [nI_clamp (by omega)]
  exact K
set_option maxRecDepth 100000 in
set_option maxHeartbeats 4000000 in
theorem law_pre {l : Launch} {X : aX} {d : Nat} {r : Option Value} {h' : aH} (hd : 9 ≤ d) (hN : h'.1 = nk0) (K : AW l X 187 c187 d r h' 18 [some (.retAddr 0), some (.ref 0), some (.ref 650), some (.int 0)] [] (hp q0)) : AW l X 187 c187 d r h' 0 [some (.retAddr 0), none, none, none] [] a_h0 := by
  have hc1 : h'.1.1 = 686 := by rw [hN]; rfl
  have hc2 : h'.1.2 = 4607 := by rw [hN]; rfl
  rw [a_h0_eq]
  refine c_new (ci := 0) (ne := 0) rfl (by decide +kernel) (by decide +kernel) (by omega) (show 0 + 4 ≤ h'.1.2 by omega) ?_
  refine x_run (pc' := 4) (lo' := [some (.retAddr 0), none, none, none]) (st' := [.ref 0, .ref 0]) 1 rfl ?_
  refine x_ci (j := 1) (ne := 0) (d' := 7) (vs := []) (rest := [.ref 0]) rfl (by decide +kernel) (by decide +kernel) (by decide) (show 0 = _ from by decide +kernel) rfl (Nat.le_of_ble_eq_true rfl) (by omega) (K1 (w := 4) (Nat.le_refl 7)) ⟨show 650 ≤ h'.1.1 by omega, show 4 + 2524 ≤ h'.1.2 by omega⟩ ?_
  refine x_run (pc' := 8) (lo' := [some (.retAddr 0), some (.ref 0), none, none]) (st' := []) 1 rfl ?_
  refine c_new (ci := 9) (ne := 0) rfl (by decide +kernel) (by decide +kernel) (by omega) (show 4 + 2524 + 48 ≤ h'.1.2 by omega) ?_
  refine x_run (pc' := 12) (lo' := [some (.retAddr 0), some (.ref 0), none, none]) (st' := [.ref 650, .ref 650]) 1 rfl ?_
  refine x_ci (j := 131) (ne := 0) (d' := 2) (vs := []) (rest := [.ref 650]) rfl (by decide +kernel) (by decide +kernel) (by decide) (show 0 = _ from by decide +kernel) rfl (Nat.le_of_ble_eq_true rfl) (by omega) (K131 (w := 4 + 2524 + 48) (Nat.le_refl 2)) ⟨show 686 ≤ h'.1.1 by omega, show 4 + 2524 + 48 + 2031 ≤ h'.1.2 by omega⟩ ?_
  refine x_run (pc' := 18) (lo' := [some (.retAddr 0), some (.ref 0), some (.ref 650), some (.int 0)]) (st' := []) 3 rfl ?_
  have e : hcp 686 4607 R0f q0.1 q0.2 = hp q0 := hcp_hp
  have e8 : (((0 : Int64) <<< (Int32.toInt64 4 &&& 63)) ||| (Int32.toInt64 8)) = 8 := by decide
  rw [e8]
  show AW l X 187 c187 d r h' 18 _ [] (hcp 686 4607 R0f q0.1 q0.2)
  rw [e]
  exact K
def a_pair (l : Launch) (X : aX) (jc jm : Nat) (args : List Value) (q q' : aQ) : Prop := ∃ (v : Int32) (q1 : aQ), Call l X 60 jc (.ref 0 :: args) (hp q) (some (.int v)) (hp q1) ∧ Call l X 60 jm (.ref 650 :: args) (hp q1) (some (.int v)) (hp q')
def a_bl (x : Int32) : Int32 := if x = 0 then 0 else 1
/-- one step of the law: both sides are called, and answer alike -/
def a_step (l : Launch) (X : aX) (k : Nat) (q q' : aQ) : Prop := (X.2 k &&& 31 = 0 → a_pair l X 2 133 [.int (X.2 (k + 1)), .int (X.2 (k + 2))] q q') ∧ (X.2 k &&& 31 = 1 → a_pair l X 3 135 [.int (X.2 (k + 1)), .int (X.2 (k + 2)), .int (X.2 (k + 3))] q q') ∧ (X.2 k &&& 31 = 2 → a_pair l X 4 137 [.int (X.2 (k + 1)), .int (X.2 (k + 2))] q q') ∧ (X.2 k &&& 31 = 3 → a_pair l X 5 138 [.int (X.2 (k + 1))] q q') ∧ (X.2 k &&& 31 = 4 → a_pair l X 6 139 [.int (a_bl (X.2 (k + 1)))] q q') ∧ (X.2 k &&& 31 = 5 → a_pair l X 7 140 [.int (X.2 (k + 1))] q q') ∧ (X.2 k &&& 31 = 6 → a_pair l X 8 141 [.int (X.2 (k + 1))] q q') ∧ (X.2 k &&& 31 = 7 → a_pair l X 9 142 [.int (X.2 (k + 1))] q q') ∧ (X.2 k &&& 31 = 8 → a_pair l X 10 143 [] q q') ∧ (X.2 k &&& 31 = 9 → a_pair l X 11 144 [] q q') ∧ (X.2 k &&& 31 = 10 → a_pair l X 12 145 [.int (X.2 (k + 1))] q q') ∧ (X.2 k &&& 31 = 11 → a_pair l X 13 175 [] q q') ∧ (X.2 k &&& 31 = 12 → a_pair l X 14 176 [.int (X.2 (k + 1)), .int (X.2 (k + 2))] q q') ∧ (X.2 k &&& 31 = 13 → a_pair l X 15 177 [.int (X.2 (k + 1)), .int (X.2 (k + 2))] q q') ∧ (X.2 k &&& 31 = 14 → a_pair l X 16 178 [.int (X.2 (k + 1)), .int (X.2 (k + 2)), .int (X.2 (k + 3))] q q') ∧ (X.2 k &&& 31 = 15 → a_pair l X 17 183 [.int (X.2 (k + 1))] q q') ∧ (X.2 k &&& 31 = 16 → a_pair l X 18 184 [] q q') ∧ (X.2 k &&& 31 = 17 → a_pair l X 19 185 [.int (X.2 (k + 1))] q q') ∧ (X.2 k &&& 31 = 18 → a_pair l X 20 186 [.int (X.2 (k + 1))] q q') ∧ (¬ X.2 k &&& 31 = 0 → ¬ X.2 k &&& 31 = 1 → ¬ X.2 k &&& 31 = 2 → ¬ X.2 k &&& 31 = 3 → ¬ X.2 k &&& 31 = 4 → ¬ X.2 k &&& 31 = 5 → ¬ X.2 k &&& 31 = 6 → ¬ X.2 k &&& 31 = 7 → ¬ X.2 k &&& 31 = 8 → ¬ X.2 k &&& 31 = 9 → ¬ X.2 k &&& 31 = 10 → ¬ X.2 k &&& 31 = 11 → ¬ X.2 k &&& 31 = 12 → ¬ X.2 k &&& 31 = 13 → ¬ X.2 k &&& 31 = 14 → ¬ X.2 k &&& 31 = 15 → ¬ X.2 k &&& 31 = 16 → ¬ X.2 k &&& 31 = 17 → ¬ X.2 k &&& 31 = 18 → q' = q)
set_option maxRecDepth 100000 in
set_option maxHeartbeats 4000000 in
theorem x_leave {l : Launch} {X : aX} {i : Nat} {cf : aK} {d : Nat} {r : Option Value} {h' h : aH} {pc : Nat} {lo : List (Option Value)} {st : List Value} {x : Int32} {t e : Nat} {o1 o2 : Int} (hc : cf pc = some (.ifCond .eq o1)) (ht : (pc : Int) + o1 = (t : Int)) (h1 : cf (pc + 3) = some (.iconst 1)) (h2 : cf (pc + 4) = some (.goto o2)) (h3 : ((pc + 4 : Nat) : Int) + o2 = (e : Int)) (h4 : cf t = some (.iconst 0)) (h5 : t + 1 = e) (K : AW l X i cf d r h' e lo (.int (a_bl x) :: st) h) : AW l X i cf d r h' pc lo (.int x :: st) h := by
  refine x_if t hc ht (fun (hx : x = 0) => ?_) (fun (hx : ¬ x = 0) => ?_)
  · have e1 : a_bl x = 0 := by unfold a_bl; rw [if_pos hx]
    rw [e1, ← h5] at K
    exact x_ps h4 (q := (t + 1, lo, .int 0 :: st)) rfl K
  · have e1 : a_bl x = 1 := by unfold a_bl; rw [if_neg hx]
    rw [e1] at K
    refine x_ps h1 (q := (pc + 3 + 1, lo, .int 1 :: st)) rfl ?_
    refine x_ps h2 (q := (e, lo, .int 1 :: st)) ?_ K
    show (if 0 ≤ ((pc + 4 : Nat) : Int) + o2 then some ((((pc + 4 : Nat) : Int) + o2).toNat, lo, Value.int 1 :: st) else none) = _
    rw [h3, if_pos (by omega)]
    rfl
set_option maxRecDepth 100000 in
set_option maxHeartbeats 4000000 in
theorem W_leaf {l : Launch} {X : aX} {d : Nat} {r : Option Value} {h' : aH} {k : Nat} {q q' : aQ} (hd : 61 ≤ d) (hN : h'.1 = nk0) (hX : X.1 ≤ 2048) (hk : k + 4 ≤ X.1) (H : a_pair l X 2 133 [.int (X.2 (k + 1)), .int (X.2 (k + 2))] q q') (K : AW l X 187 c187 d r h' 18 [some (.retAddr 0), some (.ref 0), some (.ref 650), some (.int (nI (k + 4)))] [] (hp q')) : AW l X 187 c187 d r h' 124 [some (.retAddr 0), some (.ref 0), some (.ref 650), some (.int (nI k))] [] (hp q) := by
  obtain ⟨v, q1, C1, C2⟩ := H
  refine x_run (pc' := 129) (lo' := [some (.retAddr 0), some (.ref 0), some (.ref 650), some (.int (nI k))]) (st' := [.int (nI k + 1), .retAddr 0, .ref 0]) 5 rfl ?_
  refine p_sa (n := k + 1) rfl (nI_add k 1) (by omega) hX ?_
  refine x_run (pc' := 134) (lo' := [some (.retAddr 0), some (.ref 0), some (.ref 650), some (.int (nI k))]) (st' := [.int (nI k + 2), .retAddr 0, .int (X.2 (k + 1)), .ref 0]) 4 rfl ?_
  refine p_sa (n := k + 2) rfl (nI_add k 2) (by omega) hX ?_
  refine x_cv (j := 2) (ne := 0) (d' := 60) (vs := [.int (X.2 (k + 1)), .int (X.2 (k + 2))]) (rest := []) rfl (by decide +kernel) (by decide +kernel) (by decide) (show 2 = _ from by decide +kernel) rfl (by decide +kernel) rfl (Nat.le_of_ble_eq_true rfl) (by omega) C1 (hp_m hN) ?_
  show AW l X 187 c187 d r h' 138 [some (.retAddr 0), some (.ref 0), some (.ref 650), some (.int (nI k))] [.int v] (hp q1)
  refine x_run (pc' := 143) (lo' := [some (.retAddr 0), some (.ref 0), some (.ref 650), some (.int (nI k))]) (st' := [.int (nI k + 1), .retAddr 0, .ref 650, .int v]) 5 rfl ?_
  refine p_sa (n := k + 1) rfl (nI_add k 1) (by omega) hX ?_
  refine x_run (pc' := 148) (lo' := [some (.retAddr 0), some (.ref 0), some (.ref 650), some (.int (nI k))]) (st' := [.int (nI k + 2), .retAddr 0, .int (X.2 (k + 1)), .ref 650, .int v]) 4 rfl ?_
  refine p_sa (n := k + 2) rfl (nI_add k 2) (by omega) hX ?_
  refine x_cv (j := 133) (ne := 0) (d' := 60) (vs := [.int (X.2 (k + 1)), .int (X.2 (k + 2))]) (rest := [.int v]) rfl (by decide +kernel) (by decide +kernel) (by decide) (show 2 = _ from by decide +kernel) rfl (by decide +kernel) rfl (Nat.le_of_ble_eq_true rfl) (by omega) C2 (hp_m hN) ?_
  show AW l X 187 c187 d r h' 152 [some (.retAddr 0), some (.ref 0), some (.ref 650), some (.int (nI k))] [.int v, .int v] (hp q')
  refine x_ic 617 rfl rfl (fun _ => ?_) (fun hc => absurd rfl hc)
  refine x_run (pc' := 18) (lo' := [some (.retAddr 0), some (.ref 0), some (.ref 650), some (.int (nI k + 4))]) (st' := []) 2 rfl ?_
  rw [show nI k + 4 = nI (k + 4) from nI_add k 4]
  exact K
set_option maxRecDepth 100000 in
set_option maxHeartbeats 4000000 in
theorem W_apply {l : Launch} {X : aX} {d : Nat} {r : Option Value} {h' : aH} {k : Nat} {q q' : aQ} (hd : 61 ≤ d) (hN : h'.1 = nk0) (hX : X.1 ≤ 2048) (hk : k + 4 ≤ X.1) (H : a_pair l X 3 135 [.int (X.2 (k + 1)), .int (X.2 (k + 2)), .int (X.2 (k + 3))] q q') (K : AW l X 187 c187 d r h' 18 [some (.retAddr 0), some (.ref 0), some (.ref 650), some (.int (nI (k + 4)))] [] (hp q')) : AW l X 187 c187 d r h' 157 [some (.retAddr 0), some (.ref 0), some (.ref 650), some (.int (nI k))] [] (hp q) := by
  obtain ⟨v, q1, C1, C2⟩ := H
  refine x_run (pc' := 162) (lo' := [some (.retAddr 0), some (.ref 0), some (.ref 650), some (.int (nI k))]) (st' := [.int (nI k + 1), .retAddr 0, .ref 0]) 5 rfl ?_
  refine p_sa (n := k + 1) rfl (nI_add k 1) (by omega) hX ?_
  refine x_run (pc' := 167) (lo' := [some (.retAddr 0), some (.ref 0), some (.ref 650), some (.int (nI k))]) (st' := [.int (nI k + 2), .retAddr 0, .int (X.2 (k + 1)), .ref 0]) 4 rfl ?_
  refine p_sa (n := k + 2) rfl (nI_add k 2) (by omega) hX ?_
  refine x_run (pc' := 172) (lo' := [some (.retAddr 0), some (.ref 0), some (.ref 650), some (.int (nI k))]) (st' := [.int (nI k + 3), .retAddr 0, .int (X.2 (k + 2)), .int (X.2 (k + 1)), .ref 0]) 4 rfl ?_
  refine p_sa (n := k + 3) rfl (nI_add k 3) (by omega) hX ?_
  refine x_cv (j := 3) (ne := 0) (d' := 60) (vs := [.int (X.2 (k + 1)), .int (X.2 (k + 2)), .int (X.2 (k + 3))]) (rest := []) rfl (by decide +kernel) (by decide +kernel) (by decide) (show 3 = _ from by decide +kernel) rfl (by decide +kernel) rfl (Nat.le_of_ble_eq_true rfl) (by omega) C1 (hp_m hN) ?_
  show AW l X 187 c187 d r h' 176 [some (.retAddr 0), some (.ref 0), some (.ref 650), some (.int (nI k))] [.int v] (hp q1)
  refine x_run (pc' := 181) (lo' := [some (.retAddr 0), some (.ref 0), some (.ref 650), some (.int (nI k))]) (st' := [.int (nI k + 1), .retAddr 0, .ref 650, .int v]) 5 rfl ?_
  refine p_sa (n := k + 1) rfl (nI_add k 1) (by omega) hX ?_
  refine x_run (pc' := 186) (lo' := [some (.retAddr 0), some (.ref 0), some (.ref 650), some (.int (nI k))]) (st' := [.int (nI k + 2), .retAddr 0, .int (X.2 (k + 1)), .ref 650, .int v]) 4 rfl ?_
  refine p_sa (n := k + 2) rfl (nI_add k 2) (by omega) hX ?_
  refine x_run (pc' := 191) (lo' := [some (.retAddr 0), some (.ref 0), some (.ref 650), some (.int (nI k))]) (st' := [.int (nI k + 3), .retAddr 0, .int (X.2 (k + 2)), .int (X.2 (k + 1)), .ref 650, .int v]) 4 rfl ?_
  refine p_sa (n := k + 3) rfl (nI_add k 3) (by omega) hX ?_
  refine x_cv (j := 135) (ne := 0) (d' := 60) (vs := [.int (X.2 (k + 1)), .int (X.2 (k + 2)), .int (X.2 (k + 3))]) (rest := [.int v]) rfl (by decide +kernel) (by decide +kernel) (by decide) (show 3 = _ from by decide +kernel) rfl (by decide +kernel) rfl (Nat.le_of_ble_eq_true rfl) (by omega) C2 (hp_m hN) ?_
  show AW l X 187 c187 d r h' 195 [some (.retAddr 0), some (.ref 0), some (.ref 650), some (.int (nI k))] [.int v, .int v] (hp q')
  refine x_ic 617 rfl rfl (fun _ => ?_) (fun hc => absurd rfl hc)
  refine x_run (pc' := 18) (lo' := [some (.retAddr 0), some (.ref 0), some (.ref 650), some (.int (nI k + 4))]) (st' := []) 2 rfl ?_
  rw [show nI k + 4 = nI (k + 4) from nI_add k 4]
  exact K
set_option maxRecDepth 100000 in
set_option maxHeartbeats 4000000 in
theorem W_assign {l : Launch} {X : aX} {d : Nat} {r : Option Value} {h' : aH} {k : Nat} {q q' : aQ} (hd : 61 ≤ d) (hN : h'.1 = nk0) (hX : X.1 ≤ 2048) (hk : k + 4 ≤ X.1) (H : a_pair l X 4 137 [.int (X.2 (k + 1)), .int (X.2 (k + 2))] q q') (K : AW l X 187 c187 d r h' 18 [some (.retAddr 0), some (.ref 0), some (.ref 650), some (.int (nI (k + 4)))] [] (hp q')) : AW l X 187 c187 d r h' 200 [some (.retAddr 0), some (.ref 0), some (.ref 650), some (.int (nI k))] [] (hp q) := by
  obtain ⟨v, q1, C1, C2⟩ := H
  refine x_run (pc' := 205) (lo' := [some (.retAddr 0), some (.ref 0), some (.ref 650), some (.int (nI k))]) (st' := [.int (nI k + 1), .retAddr 0, .ref 0]) 5 rfl ?_
  refine p_sa (n := k + 1) rfl (nI_add k 1) (by omega) hX ?_
  refine x_run (pc' := 210) (lo' := [some (.retAddr 0), some (.ref 0), some (.ref 650), some (.int (nI k))]) (st' := [.int (nI k + 2), .retAddr 0, .int (X.2 (k + 1)), .ref 0]) 4 rfl ?_
  refine p_sa (n := k + 2) rfl (nI_add k 2) (by omega) hX ?_
  refine x_cv (j := 4) (ne := 0) (d' := 60) (vs := [.int (X.2 (k + 1)), .int (X.2 (k + 2))]) (rest := []) rfl (by decide +kernel) (by decide +kernel) (by decide) (show 2 = _ from by decide +kernel) rfl (by decide +kernel) rfl (Nat.le_of_ble_eq_true rfl) (by omega) C1 (hp_m hN) ?_
  show AW l X 187 c187 d r h' 214 [some (.retAddr 0), some (.ref 0), some (.ref 650), some (.int (nI k))] [.int v] (hp q1)
  refine x_run (pc' := 219) (lo' := [some (.retAddr 0), some (.ref 0), some (.ref 650), some (.int (nI k))]) (st' := [.int (nI k + 1), .retAddr 0, .ref 650, .int v]) 5 rfl ?_
  refine p_sa (n := k + 1) rfl (nI_add k 1) (by omega) hX ?_
  refine x_run (pc' := 224) (lo' := [some (.retAddr 0), some (.ref 0), some (.ref 650), some (.int (nI k))]) (st' := [.int (nI k + 2), .retAddr 0, .int (X.2 (k + 1)), .ref 650, .int v]) 4 rfl ?_
  refine p_sa (n := k + 2) rfl (nI_add k 2) (by omega) hX ?_
  refine x_cv (j := 137) (ne := 0) (d' := 60) (vs := [.int (X.2 (k + 1)), .int (X.2 (k + 2))]) (rest := [.int v]) rfl (by decide +kernel) (by decide +kernel) (by decide) (show 2 = _ from by decide +kernel) rfl (by decide +kernel) rfl (Nat.le_of_ble_eq_true rfl) (by omega) C2 (hp_m hN) ?_
  show AW l X 187 c187 d r h' 228 [some (.retAddr 0), some (.ref 0), some (.ref 650), some (.int (nI k))] [.int v, .int v] (hp q')
  refine x_ic 617 rfl rfl (fun _ => ?_) (fun hc => absurd rfl hc)
  refine x_run (pc' := 18) (lo' := [some (.retAddr 0), some (.ref 0), some (.ref 650), some (.int (nI k + 4))]) (st' := []) 2 rfl ?_
  rw [show nI k + 4 = nI (k + 4) from nI_add k 4]
  exact K
set_option maxRecDepth 100000 in
set_option maxHeartbeats 4000000 in
theorem W_raise {l : Launch} {X : aX} {d : Nat} {r : Option Value} {h' : aH} {k : Nat} {q q' : aQ} (hd : 61 ≤ d) (hN : h'.1 = nk0) (hX : X.1 ≤ 2048) (hk : k + 4 ≤ X.1) (H : a_pair l X 5 138 [.int (X.2 (k + 1))] q q') (K : AW l X 187 c187 d r h' 18 [some (.retAddr 0), some (.ref 0), some (.ref 650), some (.int (nI (k + 4)))] [] (hp q')) : AW l X 187 c187 d r h' 233 [some (.retAddr 0), some (.ref 0), some (.ref 650), some (.int (nI k))] [] (hp q) := by
  obtain ⟨v, q1, C1, C2⟩ := H
  refine x_run (pc' := 238) (lo' := [some (.retAddr 0), some (.ref 0), some (.ref 650), some (.int (nI k))]) (st' := [.int (nI k + 1), .retAddr 0, .ref 0]) 5 rfl ?_
  refine p_sa (n := k + 1) rfl (nI_add k 1) (by omega) hX ?_
  refine x_cv (j := 5) (ne := 0) (d' := 60) (vs := [.int (X.2 (k + 1))]) (rest := []) rfl (by decide +kernel) (by decide +kernel) (by decide) (show 1 = _ from by decide +kernel) rfl (by decide +kernel) rfl (Nat.le_of_ble_eq_true rfl) (by omega) C1 (hp_m hN) ?_
  show AW l X 187 c187 d r h' 242 [some (.retAddr 0), some (.ref 0), some (.ref 650), some (.int (nI k))] [.int v] (hp q1)
  refine x_run (pc' := 247) (lo' := [some (.retAddr 0), some (.ref 0), some (.ref 650), some (.int (nI k))]) (st' := [.int (nI k + 1), .retAddr 0, .ref 650, .int v]) 5 rfl ?_
  refine p_sa (n := k + 1) rfl (nI_add k 1) (by omega) hX ?_
  refine x_cv (j := 138) (ne := 0) (d' := 60) (vs := [.int (X.2 (k + 1))]) (rest := [.int v]) rfl (by decide +kernel) (by decide +kernel) (by decide) (show 1 = _ from by decide +kernel) rfl (by decide +kernel) rfl (Nat.le_of_ble_eq_true rfl) (by omega) C2 (hp_m hN) ?_
  show AW l X 187 c187 d r h' 251 [some (.retAddr 0), some (.ref 0), some (.ref 650), some (.int (nI k))] [.int v, .int v] (hp q')
  refine x_ic 617 rfl rfl (fun _ => ?_) (fun hc => absurd rfl hc)
  refine x_run (pc' := 18) (lo' := [some (.retAddr 0), some (.ref 0), some (.ref 650), some (.int (nI k + 4))]) (st' := []) 2 rfl ?_
  rw [show nI k + 4 = nI (k + 4) from nI_add k 4]
  exact K
set_option maxRecDepth 100000 in
set_option maxHeartbeats 4000000 in
theorem W_leave {l : Launch} {X : aX} {d : Nat} {r : Option Value} {h' : aH} {k : Nat} {q q' : aQ} (hd : 61 ≤ d) (hN : h'.1 = nk0) (hX : X.1 ≤ 2048) (hk : k + 4 ≤ X.1) (H : a_pair l X 6 139 [.int (a_bl (X.2 (k + 1)))] q q') (K : AW l X 187 c187 d r h' 18 [some (.retAddr 0), some (.ref 0), some (.ref 650), some (.int (nI (k + 4)))] [] (hp q')) : AW l X 187 c187 d r h' 256 [some (.retAddr 0), some (.ref 0), some (.ref 650), some (.int (nI k))] [] (hp q) := by
  obtain ⟨v, q1, C1, C2⟩ := H
  refine x_run (pc' := 261) (lo' := [some (.retAddr 0), some (.ref 0), some (.ref 650), some (.int (nI k))]) (st' := [.int (nI k + 1), .retAddr 0, .ref 0]) 5 rfl ?_
  refine p_sa (n := k + 1) rfl (nI_add k 1) (by omega) hX ?_
  refine x_leave (t := 269) (e := 270) rfl rfl rfl rfl rfl rfl rfl ?_
  refine x_cv (j := 6) (ne := 0) (d' := 60) (vs := [.int (a_bl (X.2 (k + 1)))]) (rest := []) rfl (by decide +kernel) (by decide +kernel) (by decide) (show 1 = _ from by decide +kernel) rfl (by decide +kernel) rfl (Nat.le_of_ble_eq_true rfl) (by omega) C1 (hp_m hN) ?_
  show AW l X 187 c187 d r h' 273 [some (.retAddr 0), some (.ref 0), some (.ref 650), some (.int (nI k))] [.int v] (hp q1)
  refine x_run (pc' := 278) (lo' := [some (.retAddr 0), some (.ref 0), some (.ref 650), some (.int (nI k))]) (st' := [.int (nI k + 1), .retAddr 0, .ref 650, .int v]) 5 rfl ?_
  refine p_sa (n := k + 1) rfl (nI_add k 1) (by omega) hX ?_
  refine x_leave (t := 286) (e := 287) rfl rfl rfl rfl rfl rfl rfl ?_
  refine x_cv (j := 139) (ne := 0) (d' := 60) (vs := [.int (a_bl (X.2 (k + 1)))]) (rest := [.int v]) rfl (by decide +kernel) (by decide +kernel) (by decide) (show 1 = _ from by decide +kernel) rfl (by decide +kernel) rfl (Nat.le_of_ble_eq_true rfl) (by omega) C2 (hp_m hN) ?_
  show AW l X 187 c187 d r h' 290 [some (.retAddr 0), some (.ref 0), some (.ref 650), some (.int (nI k))] [.int v, .int v] (hp q')
  refine x_ic 617 rfl rfl (fun _ => ?_) (fun hc => absurd rfl hc)
  refine x_run (pc' := 18) (lo' := [some (.retAddr 0), some (.ref 0), some (.ref 650), some (.int (nI k + 4))]) (st' := []) 2 rfl ?_
  rw [show nI k + 4 = nI (k + 4) from nI_add k 4]
  exact K
set_option maxRecDepth 100000 in
set_option maxHeartbeats 4000000 in
theorem W_branch {l : Launch} {X : aX} {d : Nat} {r : Option Value} {h' : aH} {k : Nat} {q q' : aQ} (hd : 61 ≤ d) (hN : h'.1 = nk0) (hX : X.1 ≤ 2048) (hk : k + 4 ≤ X.1) (H : a_pair l X 7 140 [.int (X.2 (k + 1))] q q') (K : AW l X 187 c187 d r h' 18 [some (.retAddr 0), some (.ref 0), some (.ref 650), some (.int (nI (k + 4)))] [] (hp q')) : AW l X 187 c187 d r h' 295 [some (.retAddr 0), some (.ref 0), some (.ref 650), some (.int (nI k))] [] (hp q) := by
  obtain ⟨v, q1, C1, C2⟩ := H
  refine x_run (pc' := 300) (lo' := [some (.retAddr 0), some (.ref 0), some (.ref 650), some (.int (nI k))]) (st' := [.int (nI k + 1), .retAddr 0, .ref 0]) 5 rfl ?_
  refine p_sa (n := k + 1) rfl (nI_add k 1) (by omega) hX ?_
  refine x_cv (j := 7) (ne := 0) (d' := 60) (vs := [.int (X.2 (k + 1))]) (rest := []) rfl (by decide +kernel) (by decide +kernel) (by decide) (show 1 = _ from by decide +kernel) rfl (by decide +kernel) rfl (Nat.le_of_ble_eq_true rfl) (by omega) C1 (hp_m hN) ?_
  show AW l X 187 c187 d r h' 304 [some (.retAddr 0), some (.ref 0), some (.ref 650), some (.int (nI k))] [.int v] (hp q1)
  refine x_run (pc' := 309) (lo' := [some (.retAddr 0), some (.ref 0), some (.ref 650), some (.int (nI k))]) (st' := [.int (nI k + 1), .retAddr 0, .ref 650, .int v]) 5 rfl ?_
  refine p_sa (n := k + 1) rfl (nI_add k 1) (by omega) hX ?_
  refine x_cv (j := 140) (ne := 0) (d' := 60) (vs := [.int (X.2 (k + 1))]) (rest := [.int v]) rfl (by decide +kernel) (by decide +kernel) (by decide) (show 1 = _ from by decide +kernel) rfl (by decide +kernel) rfl (Nat.le_of_ble_eq_true rfl) (by omega) C2 (hp_m hN) ?_
  show AW l X 187 c187 d r h' 313 [some (.retAddr 0), some (.ref 0), some (.ref 650), some (.int (nI k))] [.int v, .int v] (hp q')
  refine x_ic 617 rfl rfl (fun _ => ?_) (fun hc => absurd rfl hc)
  refine x_run (pc' := 18) (lo' := [some (.retAddr 0), some (.ref 0), some (.ref 650), some (.int (nI k + 4))]) (st' := []) 2 rfl ?_
  rw [show nI k + 4 = nI (k + 4) from nI_add k 4]
  exact K
set_option maxRecDepth 100000 in
set_option maxHeartbeats 4000000 in
theorem W_loop {l : Launch} {X : aX} {d : Nat} {r : Option Value} {h' : aH} {k : Nat} {q q' : aQ} (hd : 61 ≤ d) (hN : h'.1 = nk0) (hX : X.1 ≤ 2048) (hk : k + 4 ≤ X.1) (H : a_pair l X 8 141 [.int (X.2 (k + 1))] q q') (K : AW l X 187 c187 d r h' 18 [some (.retAddr 0), some (.ref 0), some (.ref 650), some (.int (nI (k + 4)))] [] (hp q')) : AW l X 187 c187 d r h' 318 [some (.retAddr 0), some (.ref 0), some (.ref 650), some (.int (nI k))] [] (hp q) := by
  obtain ⟨v, q1, C1, C2⟩ := H
  refine x_run (pc' := 323) (lo' := [some (.retAddr 0), some (.ref 0), some (.ref 650), some (.int (nI k))]) (st' := [.int (nI k + 1), .retAddr 0, .ref 0]) 5 rfl ?_
  refine p_sa (n := k + 1) rfl (nI_add k 1) (by omega) hX ?_
  refine x_cv (j := 8) (ne := 0) (d' := 60) (vs := [.int (X.2 (k + 1))]) (rest := []) rfl (by decide +kernel) (by decide +kernel) (by decide) (show 1 = _ from by decide +kernel) rfl (by decide +kernel) rfl (Nat.le_of_ble_eq_true rfl) (by omega) C1 (hp_m hN) ?_
  show AW l X 187 c187 d r h' 327 [some (.retAddr 0), some (.ref 0), some (.ref 650), some (.int (nI k))] [.int v] (hp q1)
  refine x_run (pc' := 332) (lo' := [some (.retAddr 0), some (.ref 0), some (.ref 650), some (.int (nI k))]) (st' := [.int (nI k + 1), .retAddr 0, .ref 650, .int v]) 5 rfl ?_
  refine p_sa (n := k + 1) rfl (nI_add k 1) (by omega) hX ?_
  refine x_cv (j := 141) (ne := 0) (d' := 60) (vs := [.int (X.2 (k + 1))]) (rest := [.int v]) rfl (by decide +kernel) (by decide +kernel) (by decide) (show 1 = _ from by decide +kernel) rfl (by decide +kernel) rfl (Nat.le_of_ble_eq_true rfl) (by omega) C2 (hp_m hN) ?_
  show AW l X 187 c187 d r h' 336 [some (.retAddr 0), some (.ref 0), some (.ref 650), some (.int (nI k))] [.int v, .int v] (hp q')
  refine x_ic 617 rfl rfl (fun _ => ?_) (fun hc => absurd rfl hc)
  refine x_run (pc' := 18) (lo' := [some (.retAddr 0), some (.ref 0), some (.ref 650), some (.int (nI k + 4))]) (st' := []) 2 rfl ?_
  rw [show nI k + 4 = nI (k + 4) from nI_add k 4]
  exact K
set_option maxRecDepth 100000 in
set_option maxHeartbeats 4000000 in
theorem W_attempt {l : Launch} {X : aX} {d : Nat} {r : Option Value} {h' : aH} {k : Nat} {q q' : aQ} (hd : 61 ≤ d) (hN : h'.1 = nk0) (hX : X.1 ≤ 2048) (hk : k + 4 ≤ X.1) (H : a_pair l X 9 142 [.int (X.2 (k + 1))] q q') (K : AW l X 187 c187 d r h' 18 [some (.retAddr 0), some (.ref 0), some (.ref 650), some (.int (nI (k + 4)))] [] (hp q')) : AW l X 187 c187 d r h' 341 [some (.retAddr 0), some (.ref 0), some (.ref 650), some (.int (nI k))] [] (hp q) := by
  obtain ⟨v, q1, C1, C2⟩ := H
  refine x_run (pc' := 346) (lo' := [some (.retAddr 0), some (.ref 0), some (.ref 650), some (.int (nI k))]) (st' := [.int (nI k + 1), .retAddr 0, .ref 0]) 5 rfl ?_
  refine p_sa (n := k + 1) rfl (nI_add k 1) (by omega) hX ?_
  refine x_cv (j := 9) (ne := 0) (d' := 60) (vs := [.int (X.2 (k + 1))]) (rest := []) rfl (by decide +kernel) (by decide +kernel) (by decide) (show 1 = _ from by decide +kernel) rfl (by decide +kernel) rfl (Nat.le_of_ble_eq_true rfl) (by omega) C1 (hp_m hN) ?_
  show AW l X 187 c187 d r h' 350 [some (.retAddr 0), some (.ref 0), some (.ref 650), some (.int (nI k))] [.int v] (hp q1)
  refine x_run (pc' := 355) (lo' := [some (.retAddr 0), some (.ref 0), some (.ref 650), some (.int (nI k))]) (st' := [.int (nI k + 1), .retAddr 0, .ref 650, .int v]) 5 rfl ?_
  refine p_sa (n := k + 1) rfl (nI_add k 1) (by omega) hX ?_
  refine x_cv (j := 142) (ne := 0) (d' := 60) (vs := [.int (X.2 (k + 1))]) (rest := [.int v]) rfl (by decide +kernel) (by decide +kernel) (by decide) (show 1 = _ from by decide +kernel) rfl (by decide +kernel) rfl (Nat.le_of_ble_eq_true rfl) (by omega) C2 (hp_m hN) ?_
  show AW l X 187 c187 d r h' 359 [some (.retAddr 0), some (.ref 0), some (.ref 650), some (.int (nI k))] [.int v, .int v] (hp q')
  refine x_ic 617 rfl rfl (fun _ => ?_) (fun hc => absurd rfl hc)
  refine x_run (pc' := 18) (lo' := [some (.retAddr 0), some (.ref 0), some (.ref 650), some (.int (nI k + 4))]) (st' := []) 2 rfl ?_
  rw [show nI k + 4 = nI (k + 4) from nI_add k 4]
  exact K
set_option maxRecDepth 100000 in
set_option maxHeartbeats 4000000 in
theorem W_otherwise {l : Launch} {X : aX} {d : Nat} {r : Option Value} {h' : aH} {k : Nat} {q q' : aQ} (hd : 61 ≤ d) (hN : h'.1 = nk0) (hX : X.1 ≤ 2048) (hk : k + 4 ≤ X.1) (H : a_pair l X 10 143 [] q q') (K : AW l X 187 c187 d r h' 18 [some (.retAddr 0), some (.ref 0), some (.ref 650), some (.int (nI (k + 4)))] [] (hp q')) : AW l X 187 c187 d r h' 364 [some (.retAddr 0), some (.ref 0), some (.ref 650), some (.int (nI k))] [] (hp q) := by
  obtain ⟨v, q1, C1, C2⟩ := H
  refine x_run (pc' := 365) (lo' := [some (.retAddr 0), some (.ref 0), some (.ref 650), some (.int (nI k))]) (st' := [.ref 0]) 1 rfl ?_
  refine x_cv (j := 10) (ne := 0) (d' := 60) (vs := []) (rest := []) rfl (by decide +kernel) (by decide +kernel) (by decide) (show 0 = _ from by decide +kernel) rfl (by decide +kernel) rfl (Nat.le_of_ble_eq_true rfl) (by omega) C1 (hp_m hN) ?_
  show AW l X 187 c187 d r h' 368 [some (.retAddr 0), some (.ref 0), some (.ref 650), some (.int (nI k))] [.int v] (hp q1)
  refine x_run (pc' := 369) (lo' := [some (.retAddr 0), some (.ref 0), some (.ref 650), some (.int (nI k))]) (st' := [.ref 650, .int v]) 1 rfl ?_
  refine x_cv (j := 143) (ne := 0) (d' := 60) (vs := []) (rest := [.int v]) rfl (by decide +kernel) (by decide +kernel) (by decide) (show 0 = _ from by decide +kernel) rfl (by decide +kernel) rfl (Nat.le_of_ble_eq_true rfl) (by omega) C2 (hp_m hN) ?_
  show AW l X 187 c187 d r h' 372 [some (.retAddr 0), some (.ref 0), some (.ref 650), some (.int (nI k))] [.int v, .int v] (hp q')
  refine x_ic 617 rfl rfl (fun _ => ?_) (fun hc => absurd rfl hc)
  refine x_run (pc' := 18) (lo' := [some (.retAddr 0), some (.ref 0), some (.ref 650), some (.int (nI k + 4))]) (st' := []) 2 rfl ?_
  rw [show nI k + 4 = nI (k + 4) from nI_add k 4]
  exact K
set_option maxRecDepth 100000 in
set_option maxHeartbeats 4000000 in
theorem W_end {l : Launch} {X : aX} {d : Nat} {r : Option Value} {h' : aH} {k : Nat} {q q' : aQ} (hd : 61 ≤ d) (hN : h'.1 = nk0) (hX : X.1 ≤ 2048) (hk : k + 4 ≤ X.1) (H : a_pair l X 11 144 [] q q') (K : AW l X 187 c187 d r h' 18 [some (.retAddr 0), some (.ref 0), some (.ref 650), some (.int (nI (k + 4)))] [] (hp q')) : AW l X 187 c187 d r h' 377 [some (.retAddr 0), some (.ref 0), some (.ref 650), some (.int (nI k))] [] (hp q) := by
  obtain ⟨v, q1, C1, C2⟩ := H
  refine x_run (pc' := 378) (lo' := [some (.retAddr 0), some (.ref 0), some (.ref 650), some (.int (nI k))]) (st' := [.ref 0]) 1 rfl ?_
  refine x_cv (j := 11) (ne := 0) (d' := 60) (vs := []) (rest := []) rfl (by decide +kernel) (by decide +kernel) (by decide) (show 0 = _ from by decide +kernel) rfl (by decide +kernel) rfl (Nat.le_of_ble_eq_true rfl) (by omega) C1 (hp_m hN) ?_
  show AW l X 187 c187 d r h' 381 [some (.retAddr 0), some (.ref 0), some (.ref 650), some (.int (nI k))] [.int v] (hp q1)
  refine x_run (pc' := 382) (lo' := [some (.retAddr 0), some (.ref 0), some (.ref 650), some (.int (nI k))]) (st' := [.ref 650, .int v]) 1 rfl ?_
  refine x_cv (j := 144) (ne := 0) (d' := 60) (vs := []) (rest := [.int v]) rfl (by decide +kernel) (by decide +kernel) (by decide) (show 0 = _ from by decide +kernel) rfl (by decide +kernel) rfl (Nat.le_of_ble_eq_true rfl) (by omega) C2 (hp_m hN) ?_
  show AW l X 187 c187 d r h' 385 [some (.retAddr 0), some (.ref 0), some (.ref 650), some (.int (nI k))] [.int v, .int v] (hp q')
  refine x_ic 617 rfl rfl (fun _ => ?_) (fun hc => absurd rfl hc)
  refine x_run (pc' := 18) (lo' := [some (.retAddr 0), some (.ref 0), some (.ref 650), some (.int (nI k + 4))]) (st' := []) 2 rfl ?_
  rw [show nI k + 4 = nI (k + 4) from nI_add k 4]
  exact K
set_option maxRecDepth 100000 in
set_option maxHeartbeats 4000000 in
theorem W_feed {l : Launch} {X : aX} {d : Nat} {r : Option Value} {h' : aH} {k : Nat} {q q' : aQ} (hd : 61 ≤ d) (hN : h'.1 = nk0) (hX : X.1 ≤ 2048) (hk : k + 4 ≤ X.1) (H : a_pair l X 12 145 [.int (X.2 (k + 1))] q q') (K : AW l X 187 c187 d r h' 18 [some (.retAddr 0), some (.ref 0), some (.ref 650), some (.int (nI (k + 4)))] [] (hp q')) : AW l X 187 c187 d r h' 390 [some (.retAddr 0), some (.ref 0), some (.ref 650), some (.int (nI k))] [] (hp q) := by
  obtain ⟨v, q1, C1, C2⟩ := H
  refine x_run (pc' := 395) (lo' := [some (.retAddr 0), some (.ref 0), some (.ref 650), some (.int (nI k))]) (st' := [.int (nI k + 1), .retAddr 0, .ref 0]) 5 rfl ?_
  refine p_sa (n := k + 1) rfl (nI_add k 1) (by omega) hX ?_
  refine x_cv (j := 12) (ne := 0) (d' := 60) (vs := [.int (X.2 (k + 1))]) (rest := []) rfl (by decide +kernel) (by decide +kernel) (by decide) (show 1 = _ from by decide +kernel) rfl (by decide +kernel) rfl (Nat.le_of_ble_eq_true rfl) (by omega) C1 (hp_m hN) ?_
  show AW l X 187 c187 d r h' 399 [some (.retAddr 0), some (.ref 0), some (.ref 650), some (.int (nI k))] [.int v] (hp q1)
  refine x_run (pc' := 404) (lo' := [some (.retAddr 0), some (.ref 0), some (.ref 650), some (.int (nI k))]) (st' := [.int (nI k + 1), .retAddr 0, .ref 650, .int v]) 5 rfl ?_
  refine p_sa (n := k + 1) rfl (nI_add k 1) (by omega) hX ?_
  refine x_cv (j := 145) (ne := 0) (d' := 60) (vs := [.int (X.2 (k + 1))]) (rest := [.int v]) rfl (by decide +kernel) (by decide +kernel) (by decide) (show 1 = _ from by decide +kernel) rfl (by decide +kernel) rfl (Nat.le_of_ble_eq_true rfl) (by omega) C2 (hp_m hN) ?_
  show AW l X 187 c187 d r h' 408 [some (.retAddr 0), some (.ref 0), some (.ref 650), some (.int (nI k))] [.int v, .int v] (hp q')
  refine x_ic 617 rfl rfl (fun _ => ?_) (fun hc => absurd rfl hc)
  refine x_run (pc' := 18) (lo' := [some (.retAddr 0), some (.ref 0), some (.ref 650), some (.int (nI k + 4))]) (st' := []) 2 rfl ?_
  rw [show nI k + 4 = nI (k + 4) from nI_add k 4]
  exact K
set_option maxRecDepth 100000 in
set_option maxHeartbeats 4000000 in
theorem W_look {l : Launch} {X : aX} {d : Nat} {r : Option Value} {h' : aH} {k : Nat} {q q' : aQ} (hd : 61 ≤ d) (hN : h'.1 = nk0) (hX : X.1 ≤ 2048) (hk : k + 4 ≤ X.1) (H : a_pair l X 13 175 [] q q') (K : AW l X 187 c187 d r h' 18 [some (.retAddr 0), some (.ref 0), some (.ref 650), some (.int (nI (k + 4)))] [] (hp q')) : AW l X 187 c187 d r h' 413 [some (.retAddr 0), some (.ref 0), some (.ref 650), some (.int (nI k))] [] (hp q) := by
  obtain ⟨v, q1, C1, C2⟩ := H
  refine x_run (pc' := 414) (lo' := [some (.retAddr 0), some (.ref 0), some (.ref 650), some (.int (nI k))]) (st' := [.ref 0]) 1 rfl ?_
  refine x_cv (j := 13) (ne := 0) (d' := 60) (vs := []) (rest := []) rfl (by decide +kernel) (by decide +kernel) (by decide) (show 0 = _ from by decide +kernel) rfl (by decide +kernel) rfl (Nat.le_of_ble_eq_true rfl) (by omega) C1 (hp_m hN) ?_
  show AW l X 187 c187 d r h' 417 [some (.retAddr 0), some (.ref 0), some (.ref 650), some (.int (nI k))] [.int v] (hp q1)
  refine x_run (pc' := 418) (lo' := [some (.retAddr 0), some (.ref 0), some (.ref 650), some (.int (nI k))]) (st' := [.ref 650, .int v]) 1 rfl ?_
  refine x_cv (j := 175) (ne := 0) (d' := 60) (vs := []) (rest := [.int v]) rfl (by decide +kernel) (by decide +kernel) (by decide) (show 0 = _ from by decide +kernel) rfl (by decide +kernel) rfl (Nat.le_of_ble_eq_true rfl) (by omega) C2 (hp_m hN) ?_
  show AW l X 187 c187 d r h' 421 [some (.retAddr 0), some (.ref 0), some (.ref 650), some (.int (nI k))] [.int v, .int v] (hp q')
  refine x_ic 617 rfl rfl (fun _ => ?_) (fun hc => absurd rfl hc)
  refine x_run (pc' := 18) (lo' := [some (.retAddr 0), some (.ref 0), some (.ref 650), some (.int (nI k + 4))]) (st' := []) 2 rfl ?_
  rw [show nI k + 4 = nI (k + 4) from nI_add k 4]
  exact K
set_option maxRecDepth 100000 in
set_option maxHeartbeats 4000000 in
theorem W_alarm {l : Launch} {X : aX} {d : Nat} {r : Option Value} {h' : aH} {k : Nat} {q q' : aQ} (hd : 61 ≤ d) (hN : h'.1 = nk0) (hX : X.1 ≤ 2048) (hk : k + 4 ≤ X.1) (H : a_pair l X 14 176 [.int (X.2 (k + 1)), .int (X.2 (k + 2))] q q') (K : AW l X 187 c187 d r h' 18 [some (.retAddr 0), some (.ref 0), some (.ref 650), some (.int (nI (k + 4)))] [] (hp q')) : AW l X 187 c187 d r h' 426 [some (.retAddr 0), some (.ref 0), some (.ref 650), some (.int (nI k))] [] (hp q) := by
  obtain ⟨v, q1, C1, C2⟩ := H
  refine x_run (pc' := 431) (lo' := [some (.retAddr 0), some (.ref 0), some (.ref 650), some (.int (nI k))]) (st' := [.int (nI k + 1), .retAddr 0, .ref 0]) 5 rfl ?_
  refine p_sa (n := k + 1) rfl (nI_add k 1) (by omega) hX ?_
  refine x_run (pc' := 436) (lo' := [some (.retAddr 0), some (.ref 0), some (.ref 650), some (.int (nI k))]) (st' := [.int (nI k + 2), .retAddr 0, .int (X.2 (k + 1)), .ref 0]) 4 rfl ?_
  refine p_sa (n := k + 2) rfl (nI_add k 2) (by omega) hX ?_
  refine x_cv (j := 14) (ne := 0) (d' := 60) (vs := [.int (X.2 (k + 1)), .int (X.2 (k + 2))]) (rest := []) rfl (by decide +kernel) (by decide +kernel) (by decide) (show 2 = _ from by decide +kernel) rfl (by decide +kernel) rfl (Nat.le_of_ble_eq_true rfl) (by omega) C1 (hp_m hN) ?_
  show AW l X 187 c187 d r h' 440 [some (.retAddr 0), some (.ref 0), some (.ref 650), some (.int (nI k))] [.int v] (hp q1)
  refine x_run (pc' := 445) (lo' := [some (.retAddr 0), some (.ref 0), some (.ref 650), some (.int (nI k))]) (st' := [.int (nI k + 1), .retAddr 0, .ref 650, .int v]) 5 rfl ?_
  refine p_sa (n := k + 1) rfl (nI_add k 1) (by omega) hX ?_
  refine x_run (pc' := 450) (lo' := [some (.retAddr 0), some (.ref 0), some (.ref 650), some (.int (nI k))]) (st' := [.int (nI k + 2), .retAddr 0, .int (X.2 (k + 1)), .ref 650, .int v]) 4 rfl ?_
  refine p_sa (n := k + 2) rfl (nI_add k 2) (by omega) hX ?_
  refine x_cv (j := 176) (ne := 0) (d' := 60) (vs := [.int (X.2 (k + 1)), .int (X.2 (k + 2))]) (rest := [.int v]) rfl (by decide +kernel) (by decide +kernel) (by decide) (show 2 = _ from by decide +kernel) rfl (by decide +kernel) rfl (Nat.le_of_ble_eq_true rfl) (by omega) C2 (hp_m hN) ?_
  show AW l X 187 c187 d r h' 454 [some (.retAddr 0), some (.ref 0), some (.ref 650), some (.int (nI k))] [.int v, .int v] (hp q')
  refine x_ic 617 rfl rfl (fun _ => ?_) (fun hc => absurd rfl hc)
  refine x_run (pc' := 18) (lo' := [some (.retAddr 0), some (.ref 0), some (.ref 650), some (.int (nI k + 4))]) (st' := []) 2 rfl ?_
  rw [show nI k + 4 = nI (k + 4) from nI_add k 4]
  exact K
set_option maxRecDepth 100000 in
set_option maxHeartbeats 4000000 in
theorem W_seen {l : Launch} {X : aX} {d : Nat} {r : Option Value} {h' : aH} {k : Nat} {q q' : aQ} (hd : 61 ≤ d) (hN : h'.1 = nk0) (hX : X.1 ≤ 2048) (hk : k + 4 ≤ X.1) (H : a_pair l X 15 177 [.int (X.2 (k + 1)), .int (X.2 (k + 2))] q q') (K : AW l X 187 c187 d r h' 18 [some (.retAddr 0), some (.ref 0), some (.ref 650), some (.int (nI (k + 4)))] [] (hp q')) : AW l X 187 c187 d r h' 459 [some (.retAddr 0), some (.ref 0), some (.ref 650), some (.int (nI k))] [] (hp q) := by
  obtain ⟨v, q1, C1, C2⟩ := H
  refine x_run (pc' := 464) (lo' := [some (.retAddr 0), some (.ref 0), some (.ref 650), some (.int (nI k))]) (st' := [.int (nI k + 1), .retAddr 0, .ref 0]) 5 rfl ?_
  refine p_sa (n := k + 1) rfl (nI_add k 1) (by omega) hX ?_
  refine x_run (pc' := 469) (lo' := [some (.retAddr 0), some (.ref 0), some (.ref 650), some (.int (nI k))]) (st' := [.int (nI k + 2), .retAddr 0, .int (X.2 (k + 1)), .ref 0]) 4 rfl ?_
  refine p_sa (n := k + 2) rfl (nI_add k 2) (by omega) hX ?_
  refine x_cv (j := 15) (ne := 0) (d' := 60) (vs := [.int (X.2 (k + 1)), .int (X.2 (k + 2))]) (rest := []) rfl (by decide +kernel) (by decide +kernel) (by decide) (show 2 = _ from by decide +kernel) rfl (by decide +kernel) rfl (Nat.le_of_ble_eq_true rfl) (by omega) C1 (hp_m hN) ?_
  show AW l X 187 c187 d r h' 473 [some (.retAddr 0), some (.ref 0), some (.ref 650), some (.int (nI k))] [.int v] (hp q1)
  refine x_run (pc' := 478) (lo' := [some (.retAddr 0), some (.ref 0), some (.ref 650), some (.int (nI k))]) (st' := [.int (nI k + 1), .retAddr 0, .ref 650, .int v]) 5 rfl ?_
  refine p_sa (n := k + 1) rfl (nI_add k 1) (by omega) hX ?_
  refine x_run (pc' := 483) (lo' := [some (.retAddr 0), some (.ref 0), some (.ref 650), some (.int (nI k))]) (st' := [.int (nI k + 2), .retAddr 0, .int (X.2 (k + 1)), .ref 650, .int v]) 4 rfl ?_
  refine p_sa (n := k + 2) rfl (nI_add k 2) (by omega) hX ?_
  refine x_cv (j := 177) (ne := 0) (d' := 60) (vs := [.int (X.2 (k + 1)), .int (X.2 (k + 2))]) (rest := [.int v]) rfl (by decide +kernel) (by decide +kernel) (by decide) (show 2 = _ from by decide +kernel) rfl (by decide +kernel) rfl (Nat.le_of_ble_eq_true rfl) (by omega) C2 (hp_m hN) ?_
  show AW l X 187 c187 d r h' 487 [some (.retAddr 0), some (.ref 0), some (.ref 650), some (.int (nI k))] [.int v, .int v] (hp q')
  refine x_ic 617 rfl rfl (fun _ => ?_) (fun hc => absurd rfl hc)
  refine x_run (pc' := 18) (lo' := [some (.retAddr 0), some (.ref 0), some (.ref 650), some (.int (nI k + 4))]) (st' := []) 2 rfl ?_
  rw [show nI k + 4 = nI (k + 4) from nI_add k 4]
  exact K
set_option maxRecDepth 100000 in
set_option maxHeartbeats 4000000 in
theorem W_bound {l : Launch} {X : aX} {d : Nat} {r : Option Value} {h' : aH} {k : Nat} {q q' : aQ} (hd : 61 ≤ d) (hN : h'.1 = nk0) (hX : X.1 ≤ 2048) (hk : k + 4 ≤ X.1) (H : a_pair l X 16 178 [.int (X.2 (k + 1)), .int (X.2 (k + 2)), .int (X.2 (k + 3))] q q') (K : AW l X 187 c187 d r h' 18 [some (.retAddr 0), some (.ref 0), some (.ref 650), some (.int (nI (k + 4)))] [] (hp q')) : AW l X 187 c187 d r h' 492 [some (.retAddr 0), some (.ref 0), some (.ref 650), some (.int (nI k))] [] (hp q) := by
  obtain ⟨v, q1, C1, C2⟩ := H
  refine x_run (pc' := 497) (lo' := [some (.retAddr 0), some (.ref 0), some (.ref 650), some (.int (nI k))]) (st' := [.int (nI k + 1), .retAddr 0, .ref 0]) 5 rfl ?_
  refine p_sa (n := k + 1) rfl (nI_add k 1) (by omega) hX ?_
  refine x_run (pc' := 502) (lo' := [some (.retAddr 0), some (.ref 0), some (.ref 650), some (.int (nI k))]) (st' := [.int (nI k + 2), .retAddr 0, .int (X.2 (k + 1)), .ref 0]) 4 rfl ?_
  refine p_sa (n := k + 2) rfl (nI_add k 2) (by omega) hX ?_
  refine x_run (pc' := 507) (lo' := [some (.retAddr 0), some (.ref 0), some (.ref 650), some (.int (nI k))]) (st' := [.int (nI k + 3), .retAddr 0, .int (X.2 (k + 2)), .int (X.2 (k + 1)), .ref 0]) 4 rfl ?_
  refine p_sa (n := k + 3) rfl (nI_add k 3) (by omega) hX ?_
  refine x_cv (j := 16) (ne := 0) (d' := 60) (vs := [.int (X.2 (k + 1)), .int (X.2 (k + 2)), .int (X.2 (k + 3))]) (rest := []) rfl (by decide +kernel) (by decide +kernel) (by decide) (show 3 = _ from by decide +kernel) rfl (by decide +kernel) rfl (Nat.le_of_ble_eq_true rfl) (by omega) C1 (hp_m hN) ?_
  show AW l X 187 c187 d r h' 511 [some (.retAddr 0), some (.ref 0), some (.ref 650), some (.int (nI k))] [.int v] (hp q1)
  refine x_run (pc' := 516) (lo' := [some (.retAddr 0), some (.ref 0), some (.ref 650), some (.int (nI k))]) (st' := [.int (nI k + 1), .retAddr 0, .ref 650, .int v]) 5 rfl ?_
  refine p_sa (n := k + 1) rfl (nI_add k 1) (by omega) hX ?_
  refine x_run (pc' := 521) (lo' := [some (.retAddr 0), some (.ref 0), some (.ref 650), some (.int (nI k))]) (st' := [.int (nI k + 2), .retAddr 0, .int (X.2 (k + 1)), .ref 650, .int v]) 4 rfl ?_
  refine p_sa (n := k + 2) rfl (nI_add k 2) (by omega) hX ?_
  refine x_run (pc' := 526) (lo' := [some (.retAddr 0), some (.ref 0), some (.ref 650), some (.int (nI k))]) (st' := [.int (nI k + 3), .retAddr 0, .int (X.2 (k + 2)), .int (X.2 (k + 1)), .ref 650, .int v]) 4 rfl ?_
  refine p_sa (n := k + 3) rfl (nI_add k 3) (by omega) hX ?_
  refine x_cv (j := 178) (ne := 0) (d' := 60) (vs := [.int (X.2 (k + 1)), .int (X.2 (k + 2)), .int (X.2 (k + 3))]) (rest := [.int v]) rfl (by decide +kernel) (by decide +kernel) (by decide) (show 3 = _ from by decide +kernel) rfl (by decide +kernel) rfl (Nat.le_of_ble_eq_true rfl) (by omega) C2 (hp_m hN) ?_
  show AW l X 187 c187 d r h' 530 [some (.retAddr 0), some (.ref 0), some (.ref 650), some (.int (nI k))] [.int v, .int v] (hp q')
  refine x_ic 617 rfl rfl (fun _ => ?_) (fun hc => absurd rfl hc)
  refine x_run (pc' := 18) (lo' := [some (.retAddr 0), some (.ref 0), some (.ref 650), some (.int (nI k + 4))]) (st' := []) 2 rfl ?_
  rw [show nI k + 4 = nI (k + 4) from nI_add k 4]
  exact K
set_option maxRecDepth 100000 in
set_option maxHeartbeats 4000000 in
theorem W_run {l : Launch} {X : aX} {d : Nat} {r : Option Value} {h' : aH} {k : Nat} {q q' : aQ} (hd : 61 ≤ d) (hN : h'.1 = nk0) (hX : X.1 ≤ 2048) (hk : k + 4 ≤ X.1) (H : a_pair l X 17 183 [.int (X.2 (k + 1))] q q') (K : AW l X 187 c187 d r h' 18 [some (.retAddr 0), some (.ref 0), some (.ref 650), some (.int (nI (k + 4)))] [] (hp q')) : AW l X 187 c187 d r h' 535 [some (.retAddr 0), some (.ref 0), some (.ref 650), some (.int (nI k))] [] (hp q) := by
  obtain ⟨v, q1, C1, C2⟩ := H
  refine x_run (pc' := 540) (lo' := [some (.retAddr 0), some (.ref 0), some (.ref 650), some (.int (nI k))]) (st' := [.int (nI k + 1), .retAddr 0, .ref 0]) 5 rfl ?_
  refine p_sa (n := k + 1) rfl (nI_add k 1) (by omega) hX ?_
  refine x_cv (j := 17) (ne := 0) (d' := 60) (vs := [.int (X.2 (k + 1))]) (rest := []) rfl (by decide +kernel) (by decide +kernel) (by decide) (show 1 = _ from by decide +kernel) rfl (by decide +kernel) rfl (Nat.le_of_ble_eq_true rfl) (by omega) C1 (hp_m hN) ?_
  show AW l X 187 c187 d r h' 544 [some (.retAddr 0), some (.ref 0), some (.ref 650), some (.int (nI k))] [.int v] (hp q1)
  refine x_run (pc' := 549) (lo' := [some (.retAddr 0), some (.ref 0), some (.ref 650), some (.int (nI k))]) (st' := [.int (nI k + 1), .retAddr 0, .ref 650, .int v]) 5 rfl ?_
  refine p_sa (n := k + 1) rfl (nI_add k 1) (by omega) hX ?_
  refine x_cv (j := 183) (ne := 0) (d' := 60) (vs := [.int (X.2 (k + 1))]) (rest := [.int v]) rfl (by decide +kernel) (by decide +kernel) (by decide) (show 1 = _ from by decide +kernel) rfl (by decide +kernel) rfl (Nat.le_of_ble_eq_true rfl) (by omega) C2 (hp_m hN) ?_
  show AW l X 187 c187 d r h' 553 [some (.retAddr 0), some (.ref 0), some (.ref 650), some (.int (nI k))] [.int v, .int v] (hp q')
  refine x_ic 617 rfl rfl (fun _ => ?_) (fun hc => absurd rfl hc)
  refine x_run (pc' := 18) (lo' := [some (.retAddr 0), some (.ref 0), some (.ref 650), some (.int (nI k + 4))]) (st' := []) 2 rfl ?_
  rw [show nI k + 4 = nI (k + 4) from nI_add k 4]
  exact K
set_option maxRecDepth 100000 in
set_option maxHeartbeats 4000000 in
theorem W_place {l : Launch} {X : aX} {d : Nat} {r : Option Value} {h' : aH} {k : Nat} {q q' : aQ} (hd : 61 ≤ d) (hN : h'.1 = nk0) (hX : X.1 ≤ 2048) (hk : k + 4 ≤ X.1) (H : a_pair l X 18 184 [] q q') (K : AW l X 187 c187 d r h' 18 [some (.retAddr 0), some (.ref 0), some (.ref 650), some (.int (nI (k + 4)))] [] (hp q')) : AW l X 187 c187 d r h' 558 [some (.retAddr 0), some (.ref 0), some (.ref 650), some (.int (nI k))] [] (hp q) := by
  obtain ⟨v, q1, C1, C2⟩ := H
  refine x_run (pc' := 559) (lo' := [some (.retAddr 0), some (.ref 0), some (.ref 650), some (.int (nI k))]) (st' := [.ref 0]) 1 rfl ?_
  refine x_cv (j := 18) (ne := 0) (d' := 60) (vs := []) (rest := []) rfl (by decide +kernel) (by decide +kernel) (by decide) (show 0 = _ from by decide +kernel) rfl (by decide +kernel) rfl (Nat.le_of_ble_eq_true rfl) (by omega) C1 (hp_m hN) ?_
  show AW l X 187 c187 d r h' 562 [some (.retAddr 0), some (.ref 0), some (.ref 650), some (.int (nI k))] [.int v] (hp q1)
  refine x_run (pc' := 563) (lo' := [some (.retAddr 0), some (.ref 0), some (.ref 650), some (.int (nI k))]) (st' := [.ref 650, .int v]) 1 rfl ?_
  refine x_cv (j := 184) (ne := 0) (d' := 60) (vs := []) (rest := [.int v]) rfl (by decide +kernel) (by decide +kernel) (by decide) (show 0 = _ from by decide +kernel) rfl (by decide +kernel) rfl (Nat.le_of_ble_eq_true rfl) (by omega) C2 (hp_m hN) ?_
  show AW l X 187 c187 d r h' 566 [some (.retAddr 0), some (.ref 0), some (.ref 650), some (.int (nI k))] [.int v, .int v] (hp q')
  refine x_ic 617 rfl rfl (fun _ => ?_) (fun hc => absurd rfl hc)
  refine x_run (pc' := 18) (lo' := [some (.retAddr 0), some (.ref 0), some (.ref 650), some (.int (nI k + 4))]) (st' := []) 2 rfl ?_
  rw [show nI k + 4 = nI (k + 4) from nI_add k 4]
  exact K
set_option maxRecDepth 100000 in
set_option maxHeartbeats 4000000 in
theorem W_type {l : Launch} {X : aX} {d : Nat} {r : Option Value} {h' : aH} {k : Nat} {q q' : aQ} (hd : 61 ≤ d) (hN : h'.1 = nk0) (hX : X.1 ≤ 2048) (hk : k + 4 ≤ X.1) (H : a_pair l X 19 185 [.int (X.2 (k + 1))] q q') (K : AW l X 187 c187 d r h' 18 [some (.retAddr 0), some (.ref 0), some (.ref 650), some (.int (nI (k + 4)))] [] (hp q')) : AW l X 187 c187 d r h' 571 [some (.retAddr 0), some (.ref 0), some (.ref 650), some (.int (nI k))] [] (hp q) := by
  obtain ⟨v, q1, C1, C2⟩ := H
  refine x_run (pc' := 576) (lo' := [some (.retAddr 0), some (.ref 0), some (.ref 650), some (.int (nI k))]) (st' := [.int (nI k + 1), .retAddr 0, .ref 0]) 5 rfl ?_
  refine p_sa (n := k + 1) rfl (nI_add k 1) (by omega) hX ?_
  refine x_cv (j := 19) (ne := 0) (d' := 60) (vs := [.int (X.2 (k + 1))]) (rest := []) rfl (by decide +kernel) (by decide +kernel) (by decide) (show 1 = _ from by decide +kernel) rfl (by decide +kernel) rfl (Nat.le_of_ble_eq_true rfl) (by omega) C1 (hp_m hN) ?_
  show AW l X 187 c187 d r h' 580 [some (.retAddr 0), some (.ref 0), some (.ref 650), some (.int (nI k))] [.int v] (hp q1)
  refine x_run (pc' := 585) (lo' := [some (.retAddr 0), some (.ref 0), some (.ref 650), some (.int (nI k))]) (st' := [.int (nI k + 1), .retAddr 0, .ref 650, .int v]) 5 rfl ?_
  refine p_sa (n := k + 1) rfl (nI_add k 1) (by omega) hX ?_
  refine x_cv (j := 185) (ne := 0) (d' := 60) (vs := [.int (X.2 (k + 1))]) (rest := [.int v]) rfl (by decide +kernel) (by decide +kernel) (by decide) (show 1 = _ from by decide +kernel) rfl (by decide +kernel) rfl (Nat.le_of_ble_eq_true rfl) (by omega) C2 (hp_m hN) ?_
  show AW l X 187 c187 d r h' 589 [some (.retAddr 0), some (.ref 0), some (.ref 650), some (.int (nI k))] [.int v, .int v] (hp q')
  refine x_ic 617 rfl rfl (fun _ => ?_) (fun hc => absurd rfl hc)
  refine x_run (pc' := 18) (lo' := [some (.retAddr 0), some (.ref 0), some (.ref 650), some (.int (nI k + 4))]) (st' := []) 2 rfl ?_
  rw [show nI k + 4 = nI (k + 4) from nI_add k 4]
  exact K
set_option maxRecDepth 100000 in
set_option maxHeartbeats 4000000 in
theorem W_number {l : Launch} {X : aX} {d : Nat} {r : Option Value} {h' : aH} {k : Nat} {q q' : aQ} (hd : 61 ≤ d) (hN : h'.1 = nk0) (hX : X.1 ≤ 2048) (hk : k + 4 ≤ X.1) (H : a_pair l X 20 186 [.int (X.2 (k + 1))] q q') (K : AW l X 187 c187 d r h' 18 [some (.retAddr 0), some (.ref 0), some (.ref 650), some (.int (nI (k + 4)))] [] (hp q')) : AW l X 187 c187 d r h' 594 [some (.retAddr 0), some (.ref 0), some (.ref 650), some (.int (nI k))] [] (hp q) := by
  obtain ⟨v, q1, C1, C2⟩ := H
  refine x_run (pc' := 599) (lo' := [some (.retAddr 0), some (.ref 0), some (.ref 650), some (.int (nI k))]) (st' := [.int (nI k + 1), .retAddr 0, .ref 0]) 5 rfl ?_
  refine p_sa (n := k + 1) rfl (nI_add k 1) (by omega) hX ?_
  refine x_cv (j := 20) (ne := 0) (d' := 60) (vs := [.int (X.2 (k + 1))]) (rest := []) rfl (by decide +kernel) (by decide +kernel) (by decide) (show 1 = _ from by decide +kernel) rfl (by decide +kernel) rfl (Nat.le_of_ble_eq_true rfl) (by omega) C1 (hp_m hN) ?_
  show AW l X 187 c187 d r h' 603 [some (.retAddr 0), some (.ref 0), some (.ref 650), some (.int (nI k))] [.int v] (hp q1)
  refine x_run (pc' := 608) (lo' := [some (.retAddr 0), some (.ref 0), some (.ref 650), some (.int (nI k))]) (st' := [.int (nI k + 1), .retAddr 0, .ref 650, .int v]) 5 rfl ?_
  refine p_sa (n := k + 1) rfl (nI_add k 1) (by omega) hX ?_
  refine x_cv (j := 186) (ne := 0) (d' := 60) (vs := [.int (X.2 (k + 1))]) (rest := [.int v]) rfl (by decide +kernel) (by decide +kernel) (by decide) (show 1 = _ from by decide +kernel) rfl (by decide +kernel) rfl (Nat.le_of_ble_eq_true rfl) (by omega) C2 (hp_m hN) ?_
  show AW l X 187 c187 d r h' 612 [some (.retAddr 0), some (.ref 0), some (.ref 650), some (.int (nI k))] [.int v, .int v] (hp q')
  refine x_ic 617 rfl rfl (fun _ => ?_) (fun hc => absurd rfl hc)
  refine x_run (pc' := 18) (lo' := [some (.retAddr 0), some (.ref 0), some (.ref 650), some (.int (nI k + 4))]) (st' := []) 2 rfl ?_
  rw [show nI k + 4 = nI (k + 4) from nI_add k 4]
  exact K
set_option maxRecDepth 100000 in
set_option maxHeartbeats 4000000 in
theorem W_step {l : Launch} {X : aX} {d : Nat} {r : Option Value} {h' : aH} {k : Nat} {q q' : aQ} (hd : 61 ≤ d) (hN : h'.1 = nk0) (hX : X.1 ≤ 2048) (hk : k + 4 ≤ X.1) (H : a_step l X k q q') (K : AW l X 187 c187 d r h' 18 [some (.retAddr 0), some (.ref 0), some (.ref 650), some (.int (nI (k + 4)))] [] (hp q')) : AW l X 187 c187 d r h' 18 [some (.retAddr 0), some (.ref 0), some (.ref 650), some (.int (nI k))] [] (hp q) := by
  refine x_run (pc' := 20) (lo' := [some (.retAddr 0), some (.ref 0), some (.ref 650), some (.int (nI k))]) (st' := [.retAddr 0, .int (nI k)]) 2 rfl ?_
  refine x_sn rfl ?_
  refine x_run (pc' := 23) (lo' := [some (.retAddr 0), some (.ref 0), some (.ref 650), some (.int (nI k))]) (st' := [.int (Int32.ofNat X.1 - 4), .int (nI k)]) 2 rfl ?_
  refine x_ic 623 rfl rfl (fun hc => absurd hc (show ¬ nI X.1 - nI 4 < nI k from ?_)) (fun _ => ?_)
  · rw [pk_sub (by omega)]; exact nI_nlt (by omega) (by omega)
  refine x_run (pc' := 28) (lo' := [some (.retAddr 0), some (.ref 0), some (.ref 650), some (.int (nI k))]) (st' := [.int (nI k), .retAddr 0]) 2 rfl ?_
  refine p_sa (n := k) rfl rfl (by omega) hX ?_
  refine x_run (pc' := 32) (lo' := [some (.retAddr 0), some (.ref 0), some (.ref 650), some (.int (nI k))]) (st' := [.int (X.2 k &&& 31)]) 2 rfl ?_
  obtain ⟨s0, s1, s2, s3, s4, s5, s6, s7, s8, s9, s10, s11, s12, s13, s14, s15, s16, s17, s18, s19⟩ := H
  by_cases h0 : X.2 k &&& 31 = 0
  · refine x_tsIn (off := 92) 124 rfl (by rw [h0]; decide) (by rw [h0]; decide) (by rw [h0]; rfl) rfl ?_
    exact W_leaf hd hN hX hk (s0 h0) K
  by_cases h1 : X.2 k &&& 31 = 1
  · refine x_tsIn (off := 125) 157 rfl (by rw [h1]; decide) (by rw [h1]; decide) (by rw [h1]; rfl) rfl ?_
    exact W_apply hd hN hX hk (s1 h1) K
  by_cases h2 : X.2 k &&& 31 = 2
  · refine x_tsIn (off := 168) 200 rfl (by rw [h2]; decide) (by rw [h2]; decide) (by rw [h2]; rfl) rfl ?_
    exact W_assign hd hN hX hk (s2 h2) K
  by_cases h3 : X.2 k &&& 31 = 3
  · refine x_tsIn (off := 201) 233 rfl (by rw [h3]; decide) (by rw [h3]; decide) (by rw [h3]; rfl) rfl ?_
    exact W_raise hd hN hX hk (s3 h3) K
  by_cases h4 : X.2 k &&& 31 = 4
  · refine x_tsIn (off := 224) 256 rfl (by rw [h4]; decide) (by rw [h4]; decide) (by rw [h4]; rfl) rfl ?_
    exact W_leave hd hN hX hk (s4 h4) K
  by_cases h5 : X.2 k &&& 31 = 5
  · refine x_tsIn (off := 263) 295 rfl (by rw [h5]; decide) (by rw [h5]; decide) (by rw [h5]; rfl) rfl ?_
    exact W_branch hd hN hX hk (s5 h5) K
  by_cases h6 : X.2 k &&& 31 = 6
  · refine x_tsIn (off := 286) 318 rfl (by rw [h6]; decide) (by rw [h6]; decide) (by rw [h6]; rfl) rfl ?_
    exact W_loop hd hN hX hk (s6 h6) K
  by_cases h7 : X.2 k &&& 31 = 7
  · refine x_tsIn (off := 309) 341 rfl (by rw [h7]; decide) (by rw [h7]; decide) (by rw [h7]; rfl) rfl ?_
    exact W_attempt hd hN hX hk (s7 h7) K
  by_cases h8 : X.2 k &&& 31 = 8
  · refine x_tsIn (off := 332) 364 rfl (by rw [h8]; decide) (by rw [h8]; decide) (by rw [h8]; rfl) rfl ?_
    exact W_otherwise hd hN hX hk (s8 h8) K
  by_cases h9 : X.2 k &&& 31 = 9
  · refine x_tsIn (off := 345) 377 rfl (by rw [h9]; decide) (by rw [h9]; decide) (by rw [h9]; rfl) rfl ?_
    exact W_end hd hN hX hk (s9 h9) K
  by_cases h10 : X.2 k &&& 31 = 10
  · refine x_tsIn (off := 358) 390 rfl (by rw [h10]; decide) (by rw [h10]; decide) (by rw [h10]; rfl) rfl ?_
    exact W_feed hd hN hX hk (s10 h10) K
  by_cases h11 : X.2 k &&& 31 = 11
  · refine x_tsIn (off := 381) 413 rfl (by rw [h11]; decide) (by rw [h11]; decide) (by rw [h11]; rfl) rfl ?_
    exact W_look hd hN hX hk (s11 h11) K
  by_cases h12 : X.2 k &&& 31 = 12
  · refine x_tsIn (off := 394) 426 rfl (by rw [h12]; decide) (by rw [h12]; decide) (by rw [h12]; rfl) rfl ?_
    exact W_alarm hd hN hX hk (s12 h12) K
  by_cases h13 : X.2 k &&& 31 = 13
  · refine x_tsIn (off := 427) 459 rfl (by rw [h13]; decide) (by rw [h13]; decide) (by rw [h13]; rfl) rfl ?_
    exact W_seen hd hN hX hk (s13 h13) K
  by_cases h14 : X.2 k &&& 31 = 14
  · refine x_tsIn (off := 460) 492 rfl (by rw [h14]; decide) (by rw [h14]; decide) (by rw [h14]; rfl) rfl ?_
    exact W_bound hd hN hX hk (s14 h14) K
  by_cases h15 : X.2 k &&& 31 = 15
  · refine x_tsIn (off := 503) 535 rfl (by rw [h15]; decide) (by rw [h15]; decide) (by rw [h15]; rfl) rfl ?_
    exact W_run hd hN hX hk (s15 h15) K
  by_cases h16 : X.2 k &&& 31 = 16
  · refine x_tsIn (off := 526) 558 rfl (by rw [h16]; decide) (by rw [h16]; decide) (by rw [h16]; rfl) rfl ?_
    exact W_place hd hN hX hk (s16 h16) K
  by_cases h17 : X.2 k &&& 31 = 17
  · refine x_tsIn (off := 539) 571 rfl (by rw [h17]; decide) (by rw [h17]; decide) (by rw [h17]; rfl) rfl ?_
    exact W_type hd hN hX hk (s17 h17) K
  by_cases h18 : X.2 k &&& 31 = 18
  · refine x_tsIn (off := 562) 594 rfl (by rw [h18]; decide) (by rw [h18]; decide) (by rw [h18]; rfl) rfl ?_
    exact W_number hd hN hX hk (s18 h18) K
  refine x_tsOut 617 rfl (by have z0 := sw_ne (k := 0) h0 (by decide); have z1 := sw_ne (k := 1) h1 (by decide); have z2 := sw_ne (k := 2) h2 (by decide); have z3 := sw_ne (k := 3) h3 (by decide); have z4 := sw_ne (k := 4) h4 (by decide); have z5 := sw_ne (k := 5) h5 (by decide); have z6 := sw_ne (k := 6) h6 (by decide); have z7 := sw_ne (k := 7) h7 (by decide); have z8 := sw_ne (k := 8) h8 (by decide); have z9 := sw_ne (k := 9) h9 (by decide); have z10 := sw_ne (k := 10) h10 (by decide); have z11 := sw_ne (k := 11) h11 (by decide); have z12 := sw_ne (k := 12) h12 (by decide); have z13 := sw_ne (k := 13) h13 (by decide); have z14 := sw_ne (k := 14) h14 (by decide); have z15 := sw_ne (k := 15) h15 (by decide); have z16 := sw_ne (k := 16) h16 (by decide); have z17 := sw_ne (k := 17) h17 (by decide); have z18 := sw_ne (k := 18) h18 (by decide); omega) rfl ?_
  have e := s19 h0 h1 h2 h3 h4 h5 h6 h7 h8 h9 h10 h11 h12 h13 h14 h15 h16 h17 h18
  subst e
  refine x_run (pc' := 18) (lo' := [some (.retAddr 0), some (.ref 0), some (.ref 650), some (.int (nI k + 4))]) (st' := []) 2 rfl ?_
  rw [show nI k + 4 = nI (k + 4) from nI_add k 4]
  exact K
set_option maxRecDepth 100000 in
set_option maxHeartbeats 4000000 in
/-- the law's end -/
theorem W_fin {l : Launch} {X : aX} {d : Nat} {k : Nat} {q : aQ} (hX : X.1 ≤ 2048) (hk2 : k ≤ 4096) (hk : X.1 < k + 4) : AW l X 187 c187 d (some (.int 1)) (hp q) 18 [some (.retAddr 0), some (.ref 0), some (.ref 650), some (.int (nI k))] [] (hp q) := by
  refine x_run (pc' := 20) (lo' := [some (.retAddr 0), some (.ref 0), some (.ref 650), some (.int (nI k))]) (st' := [.retAddr 0, .int (nI k)]) 2 rfl ?_
  refine x_sn rfl ?_
  refine x_run (pc' := 23) (lo' := [some (.retAddr 0), some (.ref 0), some (.ref 650), some (.int (nI k))]) (st' := [.int (Int32.ofNat X.1 - 4), .int (nI k)]) 2 rfl ?_
  refine x_ic 623 rfl rfl (fun _ => ?_) (fun hc => absurd (show nI X.1 - nI 4 < nI k from ?_) hc)
  · refine x_run (pc' := 624) (lo' := [some (.retAddr 0), some (.ref 0), some (.ref 650), some (.int (nI k))]) (st' := [.int 1]) 1 rfl ?_
    exact x_zret rfl (by decide +kernel) (Or.inr rfl)
  · rw [Int32.lt_iff_toInt_lt, pk_sub_toInt (by omega) (by omega), nI_toInt (by omega)]
    omega
/-- the law, out of an invariant that every step keeps -/
theorem law_of {l : Launch} {N : Nat} (hN : N ≤ 2048) (P : aX → Nat → aQ → Prop) (h0 : ∀ X, X.1 ≤ N → P X 0 q0) (hs : ∀ X k q, X.1 ≤ N → P X k q → k + 4 ≤ X.1 → ∃ q', a_step l X k q q' ∧ P X (k + 4) q') : a_law l N := by
  intro X hX
  have main : ∀ (n k : Nat) (q : aQ), k ≤ 4096 → X.1 < k + 4 + 4 * n → P X k q → ∃ q', AW l X 187 c187 61 (some (.int 1)) (hp q') 18 [some (.retAddr 0), some (.ref 0), some (.ref 650), some (.int (nI k))] [] (hp q) := by
    intro n
    induction n with
    | zero => intro k q hk h _; exact ⟨q, W_fin (by omega) hk (by omega)⟩
    | succ n ih =>
      intro k q hk h hP
      by_cases hk4 : k + 4 ≤ X.1
      · obtain ⟨q1, st1, hP1⟩ := hs X k q hX hP hk4
        obtain ⟨q', K⟩ := ih (k + 4) q1 (by omega) (by omega) hP1
        exact ⟨q', W_step (Nat.le_refl _) rfl (by omega) hk4 st1 K⟩
      · exact ⟨q, W_fin (by omega) hk (by omega)⟩
  obtain ⟨q', K⟩ := main 512 0 q0 (by omega) (by omega) (h0 X hX)
  exact ⟨61, hp q', by decide, by show 686 ≤ _; decide, by show 4607 ≤ _; decide, law_pre (by decide) rfl K⟩
