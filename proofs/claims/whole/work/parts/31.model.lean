/-! written by wip/whole/gen3.py: what methods do (F), what they need (S), the walk (A), the contract (T) -/
/-- TypeForecastModel.work(IIJIJ)V -/
def F154_255 (q : aQ) : aQ := q
def S154_255 (q : aQ) : Prop := True
set_option maxRecDepth 100000 in
set_option maxHeartbeats 4000000 in
theorem A154_255 {l : Launch} {X : aX} {d : Nat} {r : Option Value} {h' : aH} {q : aQ} (hd : 2 ≤ d) (hN : h'.1 = nk0) (hG : gV r h' (F154_255 q)) (hS : S154_255 q) : AW l X 154 c154 d r h' 255 [none, none, none, none, none, none, none, none, none, none] [] (hp q) := by
  unfold F154_255 at hG
  unfold S154_255 at hS
  refine x_run (pc' := 275) (lo' := [none, none, none, none, none, none, none, none, none, none]) (st' := []) 1 rfl ?_
  obtain ⟨rfl, rfl⟩ := hG
  exact x_ret rfl (by decide +kernel)
def F154_252 (s0 : Int64) (s1 : Int32) (q : aQ) : aQ := F154_255 (F152_0 s1 s0 q)
def S154_252 (s0 : Int64) (s1 : Int32) (q : aQ) : Prop := S152_0 s1 s0 q ∧ (S154_255 (F152_0 s1 s0 q))
set_option maxRecDepth 100000 in
set_option maxHeartbeats 4000000 in
theorem A154_252 {l : Launch} {X : aX} {d : Nat} {r : Option Value} {h' : aH} {s0 : Int64} {s1 : Int32} {q : aQ} (hd : 2 ≤ d) (hN : h'.1 = nk0) (hG : gV r h' (F154_252 s0 s1 q)) (hS : S154_252 s0 s1 q) : AW l X 154 c154 d r h' 252 [none, none, none, none, none, none, none, none, none, none] [.long s0, .int s1, .ref 650] (hp q) := by
  unfold F154_252 at hG
  unfold S154_252 at hS
  obtain ⟨o16, hS⟩ := hS
  refine x_cv (j := 152) (ne := 0) (vs := [.int s1, .long s0]) (rest := []) rfl (by decide +kernel) (by decide +kernel) (by decide) (Eq.trans rfl (show 2 = _ from by decide +kernel)) rfl (by decide +kernel) rfl (Nat.le_of_ble_eq_true rfl) (by omega) (T152 (Nat.le_refl 1) o16) (hp_m hN) ?_
  show AW l X 154 c154 d r h' 255 [none, none, none, none, none, none, none, none, none, none] [] (hp (F152_0 s1 s0 q))
  exact A154_255 hd hN hG hS
def F154_228 (q : aQ) : aQ := q
def S154_228 (q : aQ) : Prop := True
set_option maxRecDepth 100000 in
set_option maxHeartbeats 4000000 in
theorem A154_228 {l : Launch} {X : aX} {d : Nat} {r : Option Value} {h' : aH} {q : aQ} (hd : 2 ≤ d) (hN : h'.1 = nk0) (hG : gV r h' (F154_228 q)) (hS : S154_228 q) : AW l X 154 c154 d r h' 228 [none, none, none, none, none, none, none, none, none, none] [] (hp q) := by
  unfold F154_228 at hG
  unfold S154_228 at hS
  refine x_run (pc' := 275) (lo' := [none, none, none, none, none, none, none, none, none, none]) (st' := []) 1 rfl ?_
  obtain ⟨rfl, rfl⟩ := hG
  exact x_ret rfl (by decide +kernel)
def F154_225 (s0 : Int64) (s1 : Int32) (q : aQ) : aQ := F154_228 (F152_0 s1 s0 q)
def S154_225 (s0 : Int64) (s1 : Int32) (q : aQ) : Prop := S152_0 s1 s0 q ∧ (S154_228 (F152_0 s1 s0 q))
set_option maxRecDepth 100000 in
set_option maxHeartbeats 4000000 in
theorem A154_225 {l : Launch} {X : aX} {d : Nat} {r : Option Value} {h' : aH} {s0 : Int64} {s1 : Int32} {q : aQ} (hd : 2 ≤ d) (hN : h'.1 = nk0) (hG : gV r h' (F154_225 s0 s1 q)) (hS : S154_225 s0 s1 q) : AW l X 154 c154 d r h' 225 [none, none, none, none, none, none, none, none, none, none] [.long s0, .int s1, .ref 650] (hp q) := by
  unfold F154_225 at hG
  unfold S154_225 at hS
  obtain ⟨o18, hS⟩ := hS
  refine x_cv (j := 152) (ne := 0) (vs := [.int s1, .long s0]) (rest := []) rfl (by decide +kernel) (by decide +kernel) (by decide) (Eq.trans rfl (show 2 = _ from by decide +kernel)) rfl (by decide +kernel) rfl (Nat.le_of_ble_eq_true rfl) (by omega) (T152 (Nat.le_refl 1) o18) (hp_m hN) ?_
  show AW l X 154 c154 d r h' 228 [none, none, none, none, none, none, none, none, none, none] [] (hp (F152_0 s1 s0 q))
  exact A154_228 hd hN hG hS
def F154_224 (s0 : Int32) (q : aQ) : aQ := F154_225 0 s0 q
def S154_224 (s0 : Int32) (q : aQ) : Prop := S154_225 0 s0 q
set_option maxRecDepth 100000 in
set_option maxHeartbeats 4000000 in
theorem A154_224 {l : Launch} {X : aX} {d : Nat} {r : Option Value} {h' : aH} {s0 : Int32} {q : aQ} (hd : 2 ≤ d) (hN : h'.1 = nk0) (hG : gV r h' (F154_224 s0 q)) (hS : S154_224 s0 q) : AW l X 154 c154 d r h' 224 [none, none, none, none, none, none, none, none, none, none] [.int s0, .ref 650] (hp q) := by
  unfold F154_224 at hG
  unfold S154_224 at hS
  refine x_run (pc' := 225) (lo' := [none, none, none, none, none, none, none, none, none, none]) (st' := [.long 0, .int s0, .ref 650]) 1 rfl ?_
  exact A154_225 hd hN hG hS
def F154_220 (s0 : Int32) (q : aQ) : aQ := F154_225 1 s0 q
def S154_220 (s0 : Int32) (q : aQ) : Prop := S154_225 1 s0 q
set_option maxRecDepth 100000 in
set_option maxHeartbeats 4000000 in
theorem A154_220 {l : Launch} {X : aX} {d : Nat} {r : Option Value} {h' : aH} {s0 : Int32} {q : aQ} (hd : 2 ≤ d) (hN : h'.1 = nk0) (hG : gV r h' (F154_220 s0 q)) (hS : S154_220 s0 q) : AW l X 154 c154 d r h' 220 [none, none, none, none, none, none, none, none, none, none] [.int s0, .ref 650] (hp q) := by
  unfold F154_220 at hG
  unfold S154_220 at hS
  refine x_run (pc' := 225) (lo' := [none, none, none, none, none, none, none, none, none, none]) (st' := [.long 1, .int s0, .ref 650]) 2 rfl ?_
  exact A154_225 hd hN hG hS
def F154_195 (v1 : Int32) (v2 : Int32) (v3 : Int64) (v5 : Int32) (v6 : Int64) (q : aQ) : aQ := (if v1 = 5 then (if v2 = v5 then (if v2 = 4 then F154_220 1 q else (if (lg_cmp v3 v6) = 0 then F154_220 1 q else F154_224 1 q)) else F154_224 1 q) else (if v1 = 6 then (if (F151_0 v2 v3 q) = 0 then F154_252 1 1 q else F154_252 0 1 q) else (if v1 = 7 then (if v2 = 2 then (F152_0 1 v3 q) else q) else q)))
def S154_195 (v1 : Int32) (v2 : Int32) (v3 : Int64) (v5 : Int32) (v6 : Int64) (q : aQ) : Prop := ((v1 = 5) → ((v2 = v5) → ((v2 = 4) → S154_220 1 q) ∧ (¬ (v2 = 4) → (((lg_cmp v3 v6) = 0) → S154_220 1 q) ∧ (¬ ((lg_cmp v3 v6) = 0) → S154_224 1 q))) ∧ (¬ (v2 = v5) → S154_224 1 q)) ∧ (¬ (v1 = 5) → ((v1 = 6) → S151_0 v2 v3 q ∧ ((((F151_0 v2 v3 q) = 0) → S154_252 1 1 q) ∧ (¬ ((F151_0 v2 v3 q) = 0) → S154_252 0 1 q))) ∧ (¬ (v1 = 6) → ((v1 = 7) → ((v2 = 2) → S152_0 1 v3 q ∧ (True)) ∧ (¬ (v2 = 2) → True)) ∧ (¬ (v1 = 7) → True)))
set_option maxRecDepth 100000 in
set_option maxHeartbeats 4000000 in
theorem A154_195 {l : Launch} {X : aX} {d : Nat} {r : Option Value} {h' : aH} {v1 : Int32} {v2 : Int32} {v3 : Int64} {v5 : Int32} {v6 : Int64} {q : aQ} (hd : 2 ≤ d) (hN : h'.1 = nk0) (hG : gV r h' (F154_195 v1 v2 v3 v5 v6 q)) (hS : S154_195 v1 v2 v3 v5 v6 q) : AW l X 154 c154 d r h' 195 [some (.ref 650), some (.int v1), some (.int v2), some (.long v3), none, some (.int v5), some (.long v6), none, none, none] [] (hp q) := by
  unfold F154_195 at hG
  unfold S154_195 at hS
  refine x_run (pc' := 197) (lo' := [some (.ref 650), some (.int v1), some (.int v2), some (.long v3), none, some (.int v5), some (.long v6), none, none, none]) (st' := [.int 5, .int v1]) 2 rfl ?_
  refine x_ic 231 rfl rfl (fun (hc9 : ¬ v1 = 5) => ?_) (fun (hc9 : v1 = 5) => ?_)
  · rw [if_neg hc9] at hG
    replace hS := hS.2 hc9
    refine x_run (pc' := 234) (lo' := [some (.ref 650), some (.int v1), some (.int v2), some (.long v3), none, some (.int v5), some (.long v6), none, none, none]) (st' := [.int 6, .int v1]) 2 rfl ?_
    refine x_ic 258 rfl rfl (fun (hc10 : ¬ v1 = 6) => ?_) (fun (hc10 : v1 = 6) => ?_)
    · rw [if_neg hc10] at hG
      replace hS := hS.2 hc10
      refine x_run (pc' := 261) (lo' := [some (.ref 650), some (.int v1), some (.int v2), some (.long v3), none, some (.int v5), some (.long v6), none, none, none]) (st' := [.int 7, .int v1]) 2 rfl ?_
      refine x_ic 275 rfl rfl (fun (hc11 : ¬ v1 = 7) => ?_) (fun (hc11 : v1 = 7) => ?_)
      · rw [if_neg hc11] at hG
        replace hS := hS.2 hc11
        obtain ⟨rfl, rfl⟩ := hG
        exact x_ret rfl (by decide +kernel)
      · rw [if_pos hc11] at hG
        replace hS := hS.1 hc11
        refine x_run (pc' := 266) (lo' := [some (.ref 650), some (.int v1), some (.int v2), some (.long v3), none, some (.int v5), some (.long v6), none, none, none]) (st' := [.int 2, .int v2]) 2 rfl ?_
        refine x_ic 275 rfl rfl (fun (hc12 : ¬ v2 = 2) => ?_) (fun (hc12 : v2 = 2) => ?_)
        · rw [if_neg hc12] at hG
          replace hS := hS.2 hc12
          obtain ⟨rfl, rfl⟩ := hG
          exact x_ret rfl (by decide +kernel)
        · rw [if_pos hc12] at hG
          replace hS := hS.1 hc12
          refine x_run (pc' := 272) (lo' := [some (.ref 650), some (.int v1), some (.int v2), some (.long v3), none, some (.int v5), some (.long v6), none, none, none]) (st' := [.long v3, .int 1, .ref 650]) 3 rfl ?_
          obtain ⟨o13, hS⟩ := hS
          refine x_cv (j := 152) (ne := 0) (vs := [.int 1, .long v3]) (rest := []) rfl (by decide +kernel) (by decide +kernel) (by decide) (Eq.trans rfl (show 2 = _ from by decide +kernel)) rfl (by decide +kernel) rfl (Nat.le_of_ble_eq_true rfl) (by omega) (T152 (Nat.le_refl 1) o13) (hp_m hN) ?_
          show AW l X 154 c154 d r h' 275 [some (.ref 650), some (.int v1), some (.int v2), some (.long v3), none, some (.int v5), some (.long v6), none, none, none] [] (hp (F152_0 1 v3 q))
          obtain ⟨rfl, rfl⟩ := hG
          exact x_ret rfl (by decide +kernel)
    · rw [if_pos hc10] at hG
      replace hS := hS.1 hc10
      refine x_run (pc' := 241) (lo' := [some (.ref 650), some (.int v1), some (.int v2), some (.long v3), none, some (.int v5), some (.long v6), none, none, none]) (st' := [.long v3, .int v2, .int 1, .ref 650]) 4 rfl ?_
      obtain ⟨o14, hS⟩ := hS
      refine x_cs (j := 151) (ne := 0) (vs := [.int v2, .long v3]) (rest := [.int 1, .ref 650]) rfl (by decide +kernel) (by decide +kernel) (by decide) (Eq.trans rfl (show 2 = _ from by decide +kernel)) rfl (Nat.le_of_ble_eq_true rfl) (by omega) (T151 (Nat.le_refl 1) o14) (hp_m hN) ?_
      show AW l X 154 c154 d r h' 244 [some (.ref 650), some (.int v1), some (.int v2), some (.long v3), none, some (.int v5), some (.long v6), none, none, none] [.int (F151_0 v2 v3 q), .int 1, .ref 650] (hp q)
      refine x_if 251 rfl rfl (fun (hc15 : (F151_0 v2 v3 q) = 0) => ?_) (fun (hc15 : ¬ (F151_0 v2 v3 q) = 0) => ?_)
      · rw [if_pos hc15] at hG
        replace hS := hS.1 hc15
        refine x_run (pc' := 252) (lo' := [some (.ref 650), some (.int v1), some (.int v2), some (.long v3), none, some (.int v5), some (.long v6), none, none, none]) (st' := [.long 1, .int 1, .ref 650]) 1 rfl ?_
        refine x_kill [0, 1, 2, 3, 5, 6] ?_
        exact A154_252 hd hN hG hS
      · rw [if_neg hc15] at hG
        replace hS := hS.2 hc15
        refine x_run (pc' := 252) (lo' := [some (.ref 650), some (.int v1), some (.int v2), some (.long v3), none, some (.int v5), some (.long v6), none, none, none]) (st' := [.long 0, .int 1, .ref 650]) 2 rfl ?_
        refine x_kill [0, 1, 2, 3, 5, 6] ?_
        exact A154_252 hd hN hG hS
  · rw [if_pos hc9] at hG
    replace hS := hS.1 hc9
    refine x_run (pc' := 205) (lo' := [some (.ref 650), some (.int v1), some (.int v2), some (.long v3), none, some (.int v5), some (.long v6), none, none, none]) (st' := [.int v5, .int v2, .int 1, .ref 650]) 4 rfl ?_
    refine x_ic 224 rfl rfl (fun (hc17 : ¬ v2 = v5) => ?_) (fun (hc17 : v2 = v5) => ?_)
    · rw [if_neg hc17] at hG
      replace hS := hS.2 hc17
      refine x_kill [0, 1, 2, 3, 5, 6] ?_
      exact A154_224 hd hN hG hS
    · rw [if_pos hc17] at hG
      replace hS := hS.1 hc17
      refine x_run (pc' := 210) (lo' := [some (.ref 650), some (.int v1), some (.int v2), some (.long v3), none, some (.int v5), some (.long v6), none, none, none]) (st' := [.int 4, .int v2, .int 1, .ref 650]) 2 rfl ?_
      refine x_ic 220 rfl rfl (fun (hc19 : v2 = 4) => ?_) (fun (hc19 : ¬ v2 = 4) => ?_)
      · rw [if_pos hc19] at hG
        replace hS := hS.1 hc19
        refine x_kill [0, 1, 2, 3, 5, 6] ?_
        exact A154_220 hd hN hG hS
      · rw [if_neg hc19] at hG
        replace hS := hS.2 hc19
        refine x_run (pc' := 217) (lo' := [some (.ref 650), some (.int v1), some (.int v2), some (.long v3), none, some (.int v5), some (.long v6), none, none, none]) (st' := [.int (lg_cmp v3 v6), .int 1, .ref 650]) 3 rfl ?_
        refine x_if 224 rfl rfl (fun (hc20 : ¬ (lg_cmp v3 v6) = 0) => ?_) (fun (hc20 : (lg_cmp v3 v6) = 0) => ?_)
        · rw [if_neg hc20] at hG
          replace hS := hS.2 hc20
          refine x_kill [0, 1, 2, 3, 5, 6] ?_
          exact A154_224 hd hN hG hS
        · rw [if_pos hc20] at hG
          replace hS := hS.1 hc20
          refine x_kill [0, 1, 2, 3, 5, 6] ?_
          exact A154_220 hd hN hG hS
def F154_192 (q : aQ) : aQ := q
def S154_192 (q : aQ) : Prop := True
set_option maxRecDepth 100000 in
set_option maxHeartbeats 4000000 in
theorem A154_192 {l : Launch} {X : aX} {d : Nat} {r : Option Value} {h' : aH} {q : aQ} (hd : 2 ≤ d) (hN : h'.1 = nk0) (hG : gV r h' (F154_192 q)) (hS : S154_192 q) : AW l X 154 c154 d r h' 192 [none, none, none, none, none, none, none, none, none, none] [] (hp q) := by
  unfold F154_192 at hG
  unfold S154_192 at hS
  refine x_run (pc' := 275) (lo' := [none, none, none, none, none, none, none, none, none, none]) (st' := []) 1 rfl ?_
  obtain ⟨rfl, rfl⟩ := hG
  exact x_ret rfl (by decide +kernel)
def F154_189 (s0 : Int64) (s1 : Int32) (q : aQ) : aQ := F154_192 (F152_0 s1 s0 q)
def S154_189 (s0 : Int64) (s1 : Int32) (q : aQ) : Prop := S152_0 s1 s0 q ∧ (S154_192 (F152_0 s1 s0 q))
set_option maxRecDepth 100000 in
set_option maxHeartbeats 4000000 in
theorem A154_189 {l : Launch} {X : aX} {d : Nat} {r : Option Value} {h' : aH} {s0 : Int64} {s1 : Int32} {q : aQ} (hd : 2 ≤ d) (hN : h'.1 = nk0) (hG : gV r h' (F154_189 s0 s1 q)) (hS : S154_189 s0 s1 q) : AW l X 154 c154 d r h' 189 [none, none, none, none, none, none, none, none, none, none] [.long s0, .int s1, .ref 650] (hp q) := by
  unfold F154_189 at hG
  unfold S154_189 at hS
  obtain ⟨o23, hS⟩ := hS
  refine x_cv (j := 152) (ne := 0) (vs := [.int s1, .long s0]) (rest := []) rfl (by decide +kernel) (by decide +kernel) (by decide) (Eq.trans rfl (show 2 = _ from by decide +kernel)) rfl (by decide +kernel) rfl (Nat.le_of_ble_eq_true rfl) (by omega) (T152 (Nat.le_refl 1) o23) (hp_m hN) ?_
  show AW l X 154 c154 d r h' 192 [none, none, none, none, none, none, none, none, none, none] [] (hp (F152_0 s1 s0 q))
  exact A154_192 hd hN hG hS
def F154_175 (v3 : Int64) (v6 : Int64) (q : aQ) : aQ := (if 0 ≤ (lg_cmp v3 v6) then F154_189 0 1 q else F154_189 1 1 q)
def S154_175 (v3 : Int64) (v6 : Int64) (q : aQ) : Prop := ((0 ≤ (lg_cmp v3 v6)) → S154_189 0 1 q) ∧ (¬ (0 ≤ (lg_cmp v3 v6)) → S154_189 1 1 q)
set_option maxRecDepth 100000 in
set_option maxHeartbeats 4000000 in
theorem A154_175 {l : Launch} {X : aX} {d : Nat} {r : Option Value} {h' : aH} {v3 : Int64} {v6 : Int64} {q : aQ} (hd : 2 ≤ d) (hN : h'.1 = nk0) (hG : gV r h' (F154_175 v3 v6 q)) (hS : S154_175 v3 v6 q) : AW l X 154 c154 d r h' 175 [some (.ref 650), none, none, some (.long v3), none, none, some (.long v6), none, none, none] [] (hp q) := by
  unfold F154_175 at hG
  unfold S154_175 at hS
  refine x_run (pc' := 181) (lo' := [some (.ref 650), none, none, some (.long v3), none, none, some (.long v6), none, none, none]) (st' := [.int (lg_cmp v3 v6), .int 1, .ref 650]) 5 rfl ?_
  refine x_if 188 rfl rfl (fun (hc22 : 0 ≤ (lg_cmp v3 v6)) => ?_) (fun (hc22 : ¬ 0 ≤ (lg_cmp v3 v6)) => ?_)
  · rw [if_pos hc22] at hG
    replace hS := hS.1 hc22
    refine x_run (pc' := 189) (lo' := [some (.ref 650), none, none, some (.long v3), none, none, some (.long v6), none, none, none]) (st' := [.long 0, .int 1, .ref 650]) 1 rfl ?_
    refine x_kill [0, 3, 6] ?_
    exact A154_189 hd hN hG hS
  · rw [if_neg hc22] at hG
    replace hS := hS.2 hc22
    refine x_run (pc' := 189) (lo' := [some (.ref 650), none, none, some (.long v3), none, none, some (.long v6), none, none, none]) (st' := [.long 1, .int 1, .ref 650]) 2 rfl ?_
    refine x_kill [0, 3, 6] ?_
    exact A154_189 hd hN hG hS
def F154_160 (v1 : Int32) (v2 : Int32) (v3 : Int64) (v5 : Int32) (v6 : Int64) (v8 : Int32) (v9 : Int32) (q : aQ) : aQ := (if v1 = 4 then (if v8 = 0 then (if v9 = 0 then F154_195 v1 v2 v3 v5 v6 q else F154_175 v3 v6 q) else F154_175 v3 v6 q) else F154_195 v1 v2 v3 v5 v6 q)
def S154_160 (v1 : Int32) (v2 : Int32) (v3 : Int64) (v5 : Int32) (v6 : Int64) (v8 : Int32) (v9 : Int32) (q : aQ) : Prop := ((v1 = 4) → ((v8 = 0) → ((v9 = 0) → S154_195 v1 v2 v3 v5 v6 q) ∧ (¬ (v9 = 0) → S154_175 v3 v6 q)) ∧ (¬ (v8 = 0) → S154_175 v3 v6 q)) ∧ (¬ (v1 = 4) → S154_195 v1 v2 v3 v5 v6 q)
set_option maxRecDepth 100000 in
set_option maxHeartbeats 4000000 in
theorem A154_160 {l : Launch} {X : aX} {d : Nat} {r : Option Value} {h' : aH} {v1 : Int32} {v2 : Int32} {v3 : Int64} {v5 : Int32} {v6 : Int64} {v8 : Int32} {v9 : Int32} {q : aQ} (hd : 2 ≤ d) (hN : h'.1 = nk0) (hG : gV r h' (F154_160 v1 v2 v3 v5 v6 v8 v9 q)) (hS : S154_160 v1 v2 v3 v5 v6 v8 v9 q) : AW l X 154 c154 d r h' 160 [some (.ref 650), some (.int v1), some (.int v2), some (.long v3), none, some (.int v5), some (.long v6), none, some (.int v8), some (.int v9)] [] (hp q) := by
  unfold F154_160 at hG
  unfold S154_160 at hS
  refine x_run (pc' := 162) (lo' := [some (.ref 650), some (.int v1), some (.int v2), some (.long v3), none, some (.int v5), some (.long v6), none, some (.int v8), some (.int v9)]) (st' := [.int 4, .int v1]) 2 rfl ?_
  refine x_ic 195 rfl rfl (fun (hc8 : ¬ v1 = 4) => ?_) (fun (hc8 : v1 = 4) => ?_)
  · rw [if_neg hc8] at hG
    replace hS := hS.2 hc8
    refine x_kill [8, 9] ?_
    exact A154_195 hd hN hG hS
  · rw [if_pos hc8] at hG
    replace hS := hS.1 hc8
    refine x_run (pc' := 167) (lo' := [some (.ref 650), some (.int v1), some (.int v2), some (.long v3), none, some (.int v5), some (.long v6), none, some (.int v8), some (.int v9)]) (st' := [.int v8]) 1 rfl ?_
    refine x_if 175 rfl rfl (fun (hc21 : ¬ v8 = 0) => ?_) (fun (hc21 : v8 = 0) => ?_)
    · rw [if_neg hc21] at hG
      replace hS := hS.2 hc21
      refine x_kill [1, 2, 5, 8, 9] ?_
      exact A154_175 hd hN hG hS
    · rw [if_pos hc21] at hG
      replace hS := hS.1 hc21
      refine x_run (pc' := 172) (lo' := [some (.ref 650), some (.int v1), some (.int v2), some (.long v3), none, some (.int v5), some (.long v6), none, some (.int v8), some (.int v9)]) (st' := [.int v9]) 1 rfl ?_
      refine x_if 195 rfl rfl (fun (hc24 : v9 = 0) => ?_) (fun (hc24 : ¬ v9 = 0) => ?_)
      · rw [if_pos hc24] at hG
        replace hS := hS.1 hc24
        refine x_kill [8, 9] ?_
        exact A154_195 hd hN hG hS
      · rw [if_neg hc24] at hG
        replace hS := hS.2 hc24
        refine x_kill [1, 2, 5, 8, 9] ?_
        exact A154_175 hd hN hG hS
def F154_157 (q : aQ) : aQ := q
def S154_157 (q : aQ) : Prop := True
set_option maxRecDepth 100000 in
set_option maxHeartbeats 4000000 in
theorem A154_157 {l : Launch} {X : aX} {d : Nat} {r : Option Value} {h' : aH} {q : aQ} (hd : 2 ≤ d) (hN : h'.1 = nk0) (hG : gV r h' (F154_157 q)) (hS : S154_157 q) : AW l X 154 c154 d r h' 157 [none, none, none, none, none, none, none, none, none, none] [] (hp q) := by
  unfold F154_157 at hG
  unfold S154_157 at hS
  refine x_run (pc' := 275) (lo' := [none, none, none, none, none, none, none, none, none, none]) (st' := []) 1 rfl ?_
  obtain ⟨rfl, rfl⟩ := hG
  exact x_ret rfl (by decide +kernel)
def F154_154 (s0 : Int64) (s1 : Int32) (q : aQ) : aQ := F154_157 (F152_0 s1 s0 q)
def S154_154 (s0 : Int64) (s1 : Int32) (q : aQ) : Prop := S152_0 s1 s0 q ∧ (S154_157 (F152_0 s1 s0 q))
set_option maxRecDepth 100000 in
set_option maxHeartbeats 4000000 in
theorem A154_154 {l : Launch} {X : aX} {d : Nat} {r : Option Value} {h' : aH} {s0 : Int64} {s1 : Int32} {q : aQ} (hd : 2 ≤ d) (hN : h'.1 = nk0) (hG : gV r h' (F154_154 s0 s1 q)) (hS : S154_154 s0 s1 q) : AW l X 154 c154 d r h' 154 [none, none, none, none, none, none, none, none, none, none] [.long s0, .int s1, .ref 650] (hp q) := by
  unfold F154_154 at hG
  unfold S154_154 at hS
  obtain ⟨o29, hS⟩ := hS
  refine x_cv (j := 152) (ne := 0) (vs := [.int s1, .long s0]) (rest := []) rfl (by decide +kernel) (by decide +kernel) (by decide) (Eq.trans rfl (show 2 = _ from by decide +kernel)) rfl (by decide +kernel) rfl (Nat.le_of_ble_eq_true rfl) (by omega) (T152 (Nat.le_refl 1) o29) (hp_m hN) ?_
  show AW l X 154 c154 d r h' 157 [none, none, none, none, none, none, none, none, none, none] [] (hp (F152_0 s1 s0 q))
  exact A154_157 hd hN hG hS
def F154_135 (v3 : Int64) (v6 : Int64) (s0 : Int32) (q : aQ) : aQ := (if (lg_cmp v6 0) = 0 then F154_154 3 s0 q else F154_154 (F153_0 v3 v6 q) s0 q)
def S154_135 (v3 : Int64) (v6 : Int64) (s0 : Int32) (q : aQ) : Prop := (((lg_cmp v6 0) = 0) → S154_154 3 s0 q) ∧ (¬ ((lg_cmp v6 0) = 0) → S153_0 v3 v6 q ∧ (S154_154 (F153_0 v3 v6 q) s0 q))
set_option maxRecDepth 100000 in
set_option maxHeartbeats 4000000 in
theorem A154_135 {l : Launch} {X : aX} {d : Nat} {r : Option Value} {h' : aH} {v3 : Int64} {v6 : Int64} {s0 : Int32} {q : aQ} (hd : 2 ≤ d) (hN : h'.1 = nk0) (hG : gV r h' (F154_135 v3 v6 s0 q)) (hS : S154_135 v3 v6 s0 q) : AW l X 154 c154 d r h' 135 [none, none, none, some (.long v3), none, none, some (.long v6), none, none, none] [.int s0, .ref 650] (hp q) := by
  unfold F154_135 at hG
  unfold S154_135 at hS
  refine x_run (pc' := 139) (lo' := [none, none, none, some (.long v3), none, none, some (.long v6), none, none, none]) (st' := [.int (lg_cmp v6 0), .int s0, .ref 650]) 3 rfl ?_
  refine x_if 148 rfl rfl (fun (hc27 : ¬ (lg_cmp v6 0) = 0) => ?_) (fun (hc27 : (lg_cmp v6 0) = 0) => ?_)
  · rw [if_neg hc27] at hG
    replace hS := hS.2 hc27
    refine x_run (pc' := 151) (lo' := [none, none, none, some (.long v3), none, none, some (.long v6), none, none, none]) (st' := [.long v6, .long v3, .int s0, .ref 650]) 2 rfl ?_
    obtain ⟨o28, hS⟩ := hS
    refine x_cs (j := 153) (ne := 0) (vs := [.long v3, .long v6]) (rest := [.int s0, .ref 650]) rfl (by decide +kernel) (by decide +kernel) (by decide) (Eq.trans rfl (show 2 = _ from by decide +kernel)) rfl (Nat.le_of_ble_eq_true rfl) (by omega) (T153 (Nat.le_refl 1) o28) (hp_m hN) ?_
    show AW l X 154 c154 d r h' 154 [none, none, none, some (.long v3), none, none, some (.long v6), none, none, none] [.long (F153_0 v3 v6 q), .int s0, .ref 650] (hp q)
    refine x_kill [3, 6] ?_
    exact A154_154 hd hN hG hS
  · rw [if_pos hc27] at hG
    replace hS := hS.1 hc27
    refine x_ldc2 (v := 3) (ne := 0) rfl (by decide +kernel) ?_
    refine x_run (pc' := 154) (lo' := [none, none, none, some (.long v3), none, none, some (.long v6), none, none, none]) (st' := [.long 3, .int s0, .ref 650]) 1 rfl ?_
    refine x_kill [3, 6] ?_
    exact A154_154 hd hN hG hS
def F154_112 (v1 : Int32) (v2 : Int32) (v3 : Int64) (v5 : Int32) (v6 : Int64) (v8 : Int32) (v9 : Int32) (q : aQ) : aQ := (if v1 = 3 then (if v8 = 0 then F154_160 v1 v2 v3 v5 v6 v8 v9 q else (if (lg_cmp v6 0) = 0 then F154_135 v3 v6 0 q else F154_135 v3 v6 1 q)) else F154_160 v1 v2 v3 v5 v6 v8 v9 q)
def S154_112 (v1 : Int32) (v2 : Int32) (v3 : Int64) (v5 : Int32) (v6 : Int64) (v8 : Int32) (v9 : Int32) (q : aQ) : Prop := ((v1 = 3) → ((v8 = 0) → S154_160 v1 v2 v3 v5 v6 v8 v9 q) ∧ (¬ (v8 = 0) → (((lg_cmp v6 0) = 0) → S154_135 v3 v6 0 q) ∧ (¬ ((lg_cmp v6 0) = 0) → S154_135 v3 v6 1 q))) ∧ (¬ (v1 = 3) → S154_160 v1 v2 v3 v5 v6 v8 v9 q)
set_option maxRecDepth 100000 in
set_option maxHeartbeats 4000000 in
theorem A154_112 {l : Launch} {X : aX} {d : Nat} {r : Option Value} {h' : aH} {v1 : Int32} {v2 : Int32} {v3 : Int64} {v5 : Int32} {v6 : Int64} {v8 : Int32} {v9 : Int32} {q : aQ} (hd : 2 ≤ d) (hN : h'.1 = nk0) (hG : gV r h' (F154_112 v1 v2 v3 v5 v6 v8 v9 q)) (hS : S154_112 v1 v2 v3 v5 v6 v8 v9 q) : AW l X 154 c154 d r h' 112 [some (.ref 650), some (.int v1), some (.int v2), some (.long v3), none, some (.int v5), some (.long v6), none, some (.int v8), some (.int v9)] [] (hp q) := by
  unfold F154_112 at hG
  unfold S154_112 at hS
  refine x_run (pc' := 114) (lo' := [some (.ref 650), some (.int v1), some (.int v2), some (.long v3), none, some (.int v5), some (.long v6), none, some (.int v8), some (.int v9)]) (st' := [.int 3, .int v1]) 2 rfl ?_
  refine x_ic 160 rfl rfl (fun (hc7 : ¬ v1 = 3) => ?_) (fun (hc7 : v1 = 3) => ?_)
  · rw [if_neg hc7] at hG
    replace hS := hS.2 hc7
    exact A154_160 hd hN hG hS
  · rw [if_pos hc7] at hG
    replace hS := hS.1 hc7
    refine x_run (pc' := 119) (lo' := [some (.ref 650), some (.int v1), some (.int v2), some (.long v3), none, some (.int v5), some (.long v6), none, some (.int v8), some (.int v9)]) (st' := [.int v8]) 1 rfl ?_
    refine x_if 160 rfl rfl (fun (hc25 : v8 = 0) => ?_) (fun (hc25 : ¬ v8 = 0) => ?_)
    · rw [if_pos hc25] at hG
      replace hS := hS.1 hc25
      exact A154_160 hd hN hG hS
    · rw [if_neg hc25] at hG
      replace hS := hS.2 hc25
      refine x_run (pc' := 127) (lo' := [some (.ref 650), some (.int v1), some (.int v2), some (.long v3), none, some (.int v5), some (.long v6), none, some (.int v8), some (.int v9)]) (st' := [.int (lg_cmp v6 0), .ref 650]) 4 rfl ?_
      refine x_if 134 rfl rfl (fun (hc26 : ¬ (lg_cmp v6 0) = 0) => ?_) (fun (hc26 : (lg_cmp v6 0) = 0) => ?_)
      · rw [if_neg hc26] at hG
        replace hS := hS.2 hc26
        refine x_run (pc' := 135) (lo' := [some (.ref 650), some (.int v1), some (.int v2), some (.long v3), none, some (.int v5), some (.long v6), none, some (.int v8), some (.int v9)]) (st' := [.int 1, .ref 650]) 1 rfl ?_
        refine x_kill [0, 1, 2, 5, 8, 9] ?_
        exact A154_135 hd hN hG hS
      · rw [if_pos hc26] at hG
        replace hS := hS.1 hc26
        refine x_run (pc' := 135) (lo' := [some (.ref 650), some (.int v1), some (.int v2), some (.long v3), none, some (.int v5), some (.long v6), none, some (.int v8), some (.int v9)]) (st' := [.int 0, .ref 650]) 2 rfl ?_
        refine x_kill [0, 1, 2, 5, 8, 9] ?_
        exact A154_135 hd hN hG hS
def F154_109 (q : aQ) : aQ := q
def S154_109 (q : aQ) : Prop := True
set_option maxRecDepth 100000 in
set_option maxHeartbeats 4000000 in
theorem A154_109 {l : Launch} {X : aX} {d : Nat} {r : Option Value} {h' : aH} {q : aQ} (hd : 2 ≤ d) (hN : h'.1 = nk0) (hG : gV r h' (F154_109 q)) (hS : S154_109 q) : AW l X 154 c154 d r h' 109 [none, none, none, none, none, none, none, none, none, none] [] (hp q) := by
  unfold F154_109 at hG
  unfold S154_109 at hS
  refine x_run (pc' := 275) (lo' := [none, none, none, none, none, none, none, none, none, none]) (st' := []) 1 rfl ?_
  obtain ⟨rfl, rfl⟩ := hG
  exact x_ret rfl (by decide +kernel)
def F154_90 (v1 : Int32) (v2 : Int32) (v3 : Int64) (v5 : Int32) (v6 : Int64) (v8 : Int32) (v9 : Int32) (q : aQ) : aQ := (if v1 = 2 then (if v8 = 0 then F154_112 v1 v2 v3 v5 v6 v8 v9 q else F154_109 (F152_0 1 (v3 * v6) q)) else F154_112 v1 v2 v3 v5 v6 v8 v9 q)
def S154_90 (v1 : Int32) (v2 : Int32) (v3 : Int64) (v5 : Int32) (v6 : Int64) (v8 : Int32) (v9 : Int32) (q : aQ) : Prop := ((v1 = 2) → ((v8 = 0) → S154_112 v1 v2 v3 v5 v6 v8 v9 q) ∧ (¬ (v8 = 0) → S152_0 1 (v3 * v6) q ∧ (S154_109 (F152_0 1 (v3 * v6) q)))) ∧ (¬ (v1 = 2) → S154_112 v1 v2 v3 v5 v6 v8 v9 q)
set_option maxRecDepth 100000 in
set_option maxHeartbeats 4000000 in
theorem A154_90 {l : Launch} {X : aX} {d : Nat} {r : Option Value} {h' : aH} {v1 : Int32} {v2 : Int32} {v3 : Int64} {v5 : Int32} {v6 : Int64} {v8 : Int32} {v9 : Int32} {q : aQ} (hd : 2 ≤ d) (hN : h'.1 = nk0) (hG : gV r h' (F154_90 v1 v2 v3 v5 v6 v8 v9 q)) (hS : S154_90 v1 v2 v3 v5 v6 v8 v9 q) : AW l X 154 c154 d r h' 90 [some (.ref 650), some (.int v1), some (.int v2), some (.long v3), none, some (.int v5), some (.long v6), none, some (.int v8), some (.int v9)] [] (hp q) := by
  unfold F154_90 at hG
  unfold S154_90 at hS
  refine x_run (pc' := 92) (lo' := [some (.ref 650), some (.int v1), some (.int v2), some (.long v3), none, some (.int v5), some (.long v6), none, some (.int v8), some (.int v9)]) (st' := [.int 2, .int v1]) 2 rfl ?_
  refine x_ic 112 rfl rfl (fun (hc6 : ¬ v1 = 2) => ?_) (fun (hc6 : v1 = 2) => ?_)
  · rw [if_neg hc6] at hG
    replace hS := hS.2 hc6
    exact A154_112 hd hN hG hS
  · rw [if_pos hc6] at hG
    replace hS := hS.1 hc6
    refine x_run (pc' := 97) (lo' := [some (.ref 650), some (.int v1), some (.int v2), some (.long v3), none, some (.int v5), some (.long v6), none, some (.int v8), some (.int v9)]) (st' := [.int v8]) 1 rfl ?_
    refine x_if 112 rfl rfl (fun (hc30 : v8 = 0) => ?_) (fun (hc30 : ¬ v8 = 0) => ?_)
    · rw [if_pos hc30] at hG
      replace hS := hS.1 hc30
      exact A154_112 hd hN hG hS
    · rw [if_neg hc30] at hG
      replace hS := hS.2 hc30
      refine x_run (pc' := 106) (lo' := [some (.ref 650), some (.int v1), some (.int v2), some (.long v3), none, some (.int v5), some (.long v6), none, some (.int v8), some (.int v9)]) (st' := [.long (v3 * v6), .int 1, .ref 650]) 5 rfl ?_
      obtain ⟨o31, hS⟩ := hS
      refine x_cv (j := 152) (ne := 0) (vs := [.int 1, .long (v3 * v6)]) (rest := []) rfl (by decide +kernel) (by decide +kernel) (by decide) (Eq.trans rfl (show 2 = _ from by decide +kernel)) rfl (by decide +kernel) rfl (Nat.le_of_ble_eq_true rfl) (by omega) (T152 (Nat.le_refl 1) o31) (hp_m hN) ?_
      show AW l X 154 c154 d r h' 109 [some (.ref 650), some (.int v1), some (.int v2), some (.long v3), none, some (.int v5), some (.long v6), none, some (.int v8), some (.int v9)] [] (hp (F152_0 1 (v3 * v6) q))
      refine x_kill [0, 1, 2, 3, 5, 6, 8, 9] ?_
      exact A154_109 hd hN hG hS
def F154_87 (q : aQ) : aQ := q
def S154_87 (q : aQ) : Prop := True
set_option maxRecDepth 100000 in
set_option maxHeartbeats 4000000 in
theorem A154_87 {l : Launch} {X : aX} {d : Nat} {r : Option Value} {h' : aH} {q : aQ} (hd : 2 ≤ d) (hN : h'.1 = nk0) (hG : gV r h' (F154_87 q)) (hS : S154_87 q) : AW l X 154 c154 d r h' 87 [none, none, none, none, none, none, none, none, none, none] [] (hp q) := by
  unfold F154_87 at hG
  unfold S154_87 at hS
  refine x_run (pc' := 275) (lo' := [none, none, none, none, none, none, none, none, none, none]) (st' := []) 1 rfl ?_
  obtain ⟨rfl, rfl⟩ := hG
  exact x_ret rfl (by decide +kernel)
def F154_68 (v1 : Int32) (v2 : Int32) (v3 : Int64) (v5 : Int32) (v6 : Int64) (v8 : Int32) (v9 : Int32) (q : aQ) : aQ := (if v1 = 1 then (if v8 = 0 then F154_90 v1 v2 v3 v5 v6 v8 v9 q else F154_87 (F152_0 1 (v3 - v6) q)) else F154_90 v1 v2 v3 v5 v6 v8 v9 q)
def S154_68 (v1 : Int32) (v2 : Int32) (v3 : Int64) (v5 : Int32) (v6 : Int64) (v8 : Int32) (v9 : Int32) (q : aQ) : Prop := ((v1 = 1) → ((v8 = 0) → S154_90 v1 v2 v3 v5 v6 v8 v9 q) ∧ (¬ (v8 = 0) → S152_0 1 (v3 - v6) q ∧ (S154_87 (F152_0 1 (v3 - v6) q)))) ∧ (¬ (v1 = 1) → S154_90 v1 v2 v3 v5 v6 v8 v9 q)
set_option maxRecDepth 100000 in
set_option maxHeartbeats 4000000 in
theorem A154_68 {l : Launch} {X : aX} {d : Nat} {r : Option Value} {h' : aH} {v1 : Int32} {v2 : Int32} {v3 : Int64} {v5 : Int32} {v6 : Int64} {v8 : Int32} {v9 : Int32} {q : aQ} (hd : 2 ≤ d) (hN : h'.1 = nk0) (hG : gV r h' (F154_68 v1 v2 v3 v5 v6 v8 v9 q)) (hS : S154_68 v1 v2 v3 v5 v6 v8 v9 q) : AW l X 154 c154 d r h' 68 [some (.ref 650), some (.int v1), some (.int v2), some (.long v3), none, some (.int v5), some (.long v6), none, some (.int v8), some (.int v9)] [] (hp q) := by
  unfold F154_68 at hG
  unfold S154_68 at hS
  refine x_run (pc' := 70) (lo' := [some (.ref 650), some (.int v1), some (.int v2), some (.long v3), none, some (.int v5), some (.long v6), none, some (.int v8), some (.int v9)]) (st' := [.int 1, .int v1]) 2 rfl ?_
  refine x_ic 90 rfl rfl (fun (hc5 : ¬ v1 = 1) => ?_) (fun (hc5 : v1 = 1) => ?_)
  · rw [if_neg hc5] at hG
    replace hS := hS.2 hc5
    exact A154_90 hd hN hG hS
  · rw [if_pos hc5] at hG
    replace hS := hS.1 hc5
    refine x_run (pc' := 75) (lo' := [some (.ref 650), some (.int v1), some (.int v2), some (.long v3), none, some (.int v5), some (.long v6), none, some (.int v8), some (.int v9)]) (st' := [.int v8]) 1 rfl ?_
    refine x_if 90 rfl rfl (fun (hc32 : v8 = 0) => ?_) (fun (hc32 : ¬ v8 = 0) => ?_)
    · rw [if_pos hc32] at hG
      replace hS := hS.1 hc32
      exact A154_90 hd hN hG hS
    · rw [if_neg hc32] at hG
      replace hS := hS.2 hc32
      refine x_run (pc' := 84) (lo' := [some (.ref 650), some (.int v1), some (.int v2), some (.long v3), none, some (.int v5), some (.long v6), none, some (.int v8), some (.int v9)]) (st' := [.long (v3 - v6), .int 1, .ref 650]) 5 rfl ?_
      obtain ⟨o33, hS⟩ := hS
      refine x_cv (j := 152) (ne := 0) (vs := [.int 1, .long (v3 - v6)]) (rest := []) rfl (by decide +kernel) (by decide +kernel) (by decide) (Eq.trans rfl (show 2 = _ from by decide +kernel)) rfl (by decide +kernel) rfl (Nat.le_of_ble_eq_true rfl) (by omega) (T152 (Nat.le_refl 1) o33) (hp_m hN) ?_
      show AW l X 154 c154 d r h' 87 [some (.ref 650), some (.int v1), some (.int v2), some (.long v3), none, some (.int v5), some (.long v6), none, some (.int v8), some (.int v9)] [] (hp (F152_0 1 (v3 - v6) q))
      refine x_kill [0, 1, 2, 3, 5, 6, 8, 9] ?_
      exact A154_87 hd hN hG hS
def F154_65 (q : aQ) : aQ := q
def S154_65 (q : aQ) : Prop := True
set_option maxRecDepth 100000 in
set_option maxHeartbeats 4000000 in
theorem A154_65 {l : Launch} {X : aX} {d : Nat} {r : Option Value} {h' : aH} {q : aQ} (hd : 2 ≤ d) (hN : h'.1 = nk0) (hG : gV r h' (F154_65 q)) (hS : S154_65 q) : AW l X 154 c154 d r h' 65 [none, none, none, none, none, none, none, none, none, none] [] (hp q) := by
  unfold F154_65 at hG
  unfold S154_65 at hS
  refine x_run (pc' := 275) (lo' := [none, none, none, none, none, none, none, none, none, none]) (st' := []) 1 rfl ?_
  obtain ⟨rfl, rfl⟩ := hG
  exact x_ret rfl (by decide +kernel)
def F154_56 (v2 : Int32) (v3 : Int64) (v6 : Int64) (q : aQ) : aQ := F154_65 (F152_0 v2 (v3 + v6) q)
def S154_56 (v2 : Int32) (v3 : Int64) (v6 : Int64) (q : aQ) : Prop := S152_0 v2 (v3 + v6) q ∧ (S154_65 (F152_0 v2 (v3 + v6) q))
set_option maxRecDepth 100000 in
set_option maxHeartbeats 4000000 in
theorem A154_56 {l : Launch} {X : aX} {d : Nat} {r : Option Value} {h' : aH} {v2 : Int32} {v3 : Int64} {v6 : Int64} {q : aQ} (hd : 2 ≤ d) (hN : h'.1 = nk0) (hG : gV r h' (F154_56 v2 v3 v6 q)) (hS : S154_56 v2 v3 v6 q) : AW l X 154 c154 d r h' 56 [some (.ref 650), none, some (.int v2), some (.long v3), none, none, some (.long v6), none, none, none] [] (hp q) := by
  unfold F154_56 at hG
  unfold S154_56 at hS
  refine x_run (pc' := 62) (lo' := [some (.ref 650), none, some (.int v2), some (.long v3), none, none, some (.long v6), none, none, none]) (st' := [.long (v3 + v6), .int v2, .ref 650]) 5 rfl ?_
  obtain ⟨o35, hS⟩ := hS
  refine x_cv (j := 152) (ne := 0) (vs := [.int v2, .long (v3 + v6)]) (rest := []) rfl (by decide +kernel) (by decide +kernel) (by decide) (Eq.trans rfl (show 2 = _ from by decide +kernel)) rfl (by decide +kernel) rfl (Nat.le_of_ble_eq_true rfl) (by omega) (T152 (Nat.le_refl 1) o35) (hp_m hN) ?_
  show AW l X 154 c154 d r h' 65 [some (.ref 650), none, some (.int v2), some (.long v3), none, none, some (.long v6), none, none, none] [] (hp (F152_0 v2 (v3 + v6) q))
  refine x_kill [0, 2, 3, 6] ?_
  exact A154_65 hd hN hG hS
def F154_42 (v1 : Int32) (v2 : Int32) (v3 : Int64) (v5 : Int32) (v6 : Int64) (v8 : Int32) (v9 : Int32) (q : aQ) : aQ := (if v1 = 0 then (if v8 = 0 then (if v9 = 0 then F154_68 v1 v2 v3 v5 v6 v8 v9 q else F154_56 v2 v3 v6 q) else F154_56 v2 v3 v6 q) else F154_68 v1 v2 v3 v5 v6 v8 v9 q)
def S154_42 (v1 : Int32) (v2 : Int32) (v3 : Int64) (v5 : Int32) (v6 : Int64) (v8 : Int32) (v9 : Int32) (q : aQ) : Prop := ((v1 = 0) → ((v8 = 0) → ((v9 = 0) → S154_68 v1 v2 v3 v5 v6 v8 v9 q) ∧ (¬ (v9 = 0) → S154_56 v2 v3 v6 q)) ∧ (¬ (v8 = 0) → S154_56 v2 v3 v6 q)) ∧ (¬ (v1 = 0) → S154_68 v1 v2 v3 v5 v6 v8 v9 q)
set_option maxRecDepth 100000 in
set_option maxHeartbeats 4000000 in
theorem A154_42 {l : Launch} {X : aX} {d : Nat} {r : Option Value} {h' : aH} {v1 : Int32} {v2 : Int32} {v3 : Int64} {v5 : Int32} {v6 : Int64} {v8 : Int32} {v9 : Int32} {q : aQ} (hd : 2 ≤ d) (hN : h'.1 = nk0) (hG : gV r h' (F154_42 v1 v2 v3 v5 v6 v8 v9 q)) (hS : S154_42 v1 v2 v3 v5 v6 v8 v9 q) : AW l X 154 c154 d r h' 42 [some (.ref 650), some (.int v1), some (.int v2), some (.long v3), none, some (.int v5), some (.long v6), none, some (.int v8), some (.int v9)] [] (hp q) := by
  unfold F154_42 at hG
  unfold S154_42 at hS
  refine x_run (pc' := 43) (lo' := [some (.ref 650), some (.int v1), some (.int v2), some (.long v3), none, some (.int v5), some (.long v6), none, some (.int v8), some (.int v9)]) (st' := [.int v1]) 1 rfl ?_
  refine x_if 68 rfl rfl (fun (hc4 : ¬ v1 = 0) => ?_) (fun (hc4 : v1 = 0) => ?_)
  · rw [if_neg hc4] at hG
    replace hS := hS.2 hc4
    exact A154_68 hd hN hG hS
  · rw [if_pos hc4] at hG
    replace hS := hS.1 hc4
    refine x_run (pc' := 48) (lo' := [some (.ref 650), some (.int v1), some (.int v2), some (.long v3), none, some (.int v5), some (.long v6), none, some (.int v8), some (.int v9)]) (st' := [.int v8]) 1 rfl ?_
    refine x_if 56 rfl rfl (fun (hc34 : ¬ v8 = 0) => ?_) (fun (hc34 : v8 = 0) => ?_)
    · rw [if_neg hc34] at hG
      replace hS := hS.2 hc34
      refine x_kill [1, 5, 8, 9] ?_
      exact A154_56 hd hN hG hS
    · rw [if_pos hc34] at hG
      replace hS := hS.1 hc34
      refine x_run (pc' := 53) (lo' := [some (.ref 650), some (.int v1), some (.int v2), some (.long v3), none, some (.int v5), some (.long v6), none, some (.int v8), some (.int v9)]) (st' := [.int v9]) 1 rfl ?_
      refine x_if 68 rfl rfl (fun (hc36 : v9 = 0) => ?_) (fun (hc36 : ¬ v9 = 0) => ?_)
      · rw [if_pos hc36] at hG
        replace hS := hS.1 hc36
        exact A154_68 hd hN hG hS
      · rw [if_neg hc36] at hG
        replace hS := hS.2 hc36
        refine x_kill [1, 5, 8, 9] ?_
        exact A154_56 hd hN hG hS
def F154_34 (v1 : Int32) (v2 : Int32) (v3 : Int64) (v5 : Int32) (v6 : Int64) (v8 : Int32) (s0 : Int32) (q : aQ) : aQ := F154_42 v1 v2 v3 v5 v6 v8 s0 (F152_0 0 1 q)
def S154_34 (v1 : Int32) (v2 : Int32) (v3 : Int64) (v5 : Int32) (v6 : Int64) (v8 : Int32) (s0 : Int32) (q : aQ) : Prop := S152_0 0 1 q ∧ (S154_42 v1 v2 v3 v5 v6 v8 s0 (F152_0 0 1 q))
set_option maxRecDepth 100000 in
set_option maxHeartbeats 4000000 in
theorem A154_34 {l : Launch} {X : aX} {d : Nat} {r : Option Value} {h' : aH} {v1 : Int32} {v2 : Int32} {v3 : Int64} {v5 : Int32} {v6 : Int64} {v8 : Int32} {s0 : Int32} {q : aQ} (hd : 2 ≤ d) (hN : h'.1 = nk0) (hG : gV r h' (F154_34 v1 v2 v3 v5 v6 v8 s0 q)) (hS : S154_34 v1 v2 v3 v5 v6 v8 s0 q) : AW l X 154 c154 d r h' 34 [some (.ref 650), some (.int v1), some (.int v2), some (.long v3), none, some (.int v5), some (.long v6), none, some (.int v8), none] [.int s0] (hp q) := by
  unfold F154_34 at hG
  unfold S154_34 at hS
  refine x_run (pc' := 39) (lo' := [some (.ref 650), some (.int v1), some (.int v2), some (.long v3), none, some (.int v5), some (.long v6), none, some (.int v8), some (.int s0)]) (st' := [.long 1, .int 0, .ref 650]) 4 rfl ?_
  obtain ⟨o3, hS⟩ := hS
  refine x_cv (j := 152) (ne := 0) (vs := [.int 0, .long 1]) (rest := []) rfl (by decide +kernel) (by decide +kernel) (by decide) (Eq.trans rfl (show 2 = _ from by decide +kernel)) rfl (by decide +kernel) rfl (Nat.le_of_ble_eq_true rfl) (by omega) (T152 (Nat.le_refl 1) o3) (hp_m hN) ?_
  show AW l X 154 c154 d r h' 42 [some (.ref 650), some (.int v1), some (.int v2), some (.long v3), none, some (.int v5), some (.long v6), none, some (.int v8), some (.int s0)] [] (hp (F152_0 0 1 q))
  exact A154_42 hd hN hG hS
def F154_33 (v1 : Int32) (v2 : Int32) (v3 : Int64) (v5 : Int32) (v6 : Int64) (v8 : Int32) (q : aQ) : aQ := F154_34 v1 v2 v3 v5 v6 v8 0 q
def S154_33 (v1 : Int32) (v2 : Int32) (v3 : Int64) (v5 : Int32) (v6 : Int64) (v8 : Int32) (q : aQ) : Prop := S154_34 v1 v2 v3 v5 v6 v8 0 q
set_option maxRecDepth 100000 in
set_option maxHeartbeats 4000000 in
theorem A154_33 {l : Launch} {X : aX} {d : Nat} {r : Option Value} {h' : aH} {v1 : Int32} {v2 : Int32} {v3 : Int64} {v5 : Int32} {v6 : Int64} {v8 : Int32} {q : aQ} (hd : 2 ≤ d) (hN : h'.1 = nk0) (hG : gV r h' (F154_33 v1 v2 v3 v5 v6 v8 q)) (hS : S154_33 v1 v2 v3 v5 v6 v8 q) : AW l X 154 c154 d r h' 33 [some (.ref 650), some (.int v1), some (.int v2), some (.long v3), none, some (.int v5), some (.long v6), none, some (.int v8), none] [] (hp q) := by
  unfold F154_33 at hG
  unfold S154_33 at hS
  refine x_run (pc' := 34) (lo' := [some (.ref 650), some (.int v1), some (.int v2), some (.long v3), none, some (.int v5), some (.long v6), none, some (.int v8), none]) (st' := [.int 0]) 1 rfl ?_
  exact A154_34 hd hN hG hS
def F154_16 (v1 : Int32) (v2 : Int32) (v3 : Int64) (v5 : Int32) (v6 : Int64) (s0 : Int32) (q : aQ) : aQ := (if v2 = 2 then (if v5 = 2 then F154_34 v1 v2 v3 v5 v6 s0 1 q else F154_33 v1 v2 v3 v5 v6 s0 q) else F154_33 v1 v2 v3 v5 v6 s0 q)
def S154_16 (v1 : Int32) (v2 : Int32) (v3 : Int64) (v5 : Int32) (v6 : Int64) (s0 : Int32) (q : aQ) : Prop := ((v2 = 2) → ((v5 = 2) → S154_34 v1 v2 v3 v5 v6 s0 1 q) ∧ (¬ (v5 = 2) → S154_33 v1 v2 v3 v5 v6 s0 q)) ∧ (¬ (v2 = 2) → S154_33 v1 v2 v3 v5 v6 s0 q)
set_option maxRecDepth 100000 in
set_option maxHeartbeats 4000000 in
theorem A154_16 {l : Launch} {X : aX} {d : Nat} {r : Option Value} {h' : aH} {v1 : Int32} {v2 : Int32} {v3 : Int64} {v5 : Int32} {v6 : Int64} {s0 : Int32} {q : aQ} (hd : 2 ≤ d) (hN : h'.1 = nk0) (hG : gV r h' (F154_16 v1 v2 v3 v5 v6 s0 q)) (hS : S154_16 v1 v2 v3 v5 v6 s0 q) : AW l X 154 c154 d r h' 16 [some (.ref 650), some (.int v1), some (.int v2), some (.long v3), none, some (.int v5), some (.long v6), none, none, none] [.int s0] (hp q) := by
  unfold F154_16 at hG
  unfold S154_16 at hS
  refine x_run (pc' := 20) (lo' := [some (.ref 650), some (.int v1), some (.int v2), some (.long v3), none, some (.int v5), some (.long v6), none, some (.int s0), none]) (st' := [.int 2, .int v2]) 3 rfl ?_
  refine x_ic 33 rfl rfl (fun (hc2 : ¬ v2 = 2) => ?_) (fun (hc2 : v2 = 2) => ?_)
  · rw [if_neg hc2] at hG
    replace hS := hS.2 hc2
    exact A154_33 hd hN hG hS
  · rw [if_pos hc2] at hG
    replace hS := hS.1 hc2
    refine x_run (pc' := 26) (lo' := [some (.ref 650), some (.int v1), some (.int v2), some (.long v3), none, some (.int v5), some (.long v6), none, some (.int s0), none]) (st' := [.int 2, .int v5]) 2 rfl ?_
    refine x_ic 33 rfl rfl (fun (hc37 : ¬ v5 = 2) => ?_) (fun (hc37 : v5 = 2) => ?_)
    · rw [if_neg hc37] at hG
      replace hS := hS.2 hc37
      exact A154_33 hd hN hG hS
    · rw [if_pos hc37] at hG
      replace hS := hS.1 hc37
      refine x_run (pc' := 34) (lo' := [some (.ref 650), some (.int v1), some (.int v2), some (.long v3), none, some (.int v5), some (.long v6), none, some (.int s0), none]) (st' := [.int 1]) 2 rfl ?_
      exact A154_34 hd hN hG hS
def F154_15 (v1 : Int32) (v2 : Int32) (v3 : Int64) (v5 : Int32) (v6 : Int64) (q : aQ) : aQ := F154_16 v1 v2 v3 v5 v6 0 q
def S154_15 (v1 : Int32) (v2 : Int32) (v3 : Int64) (v5 : Int32) (v6 : Int64) (q : aQ) : Prop := S154_16 v1 v2 v3 v5 v6 0 q
set_option maxRecDepth 100000 in
set_option maxHeartbeats 4000000 in
theorem A154_15 {l : Launch} {X : aX} {d : Nat} {r : Option Value} {h' : aH} {v1 : Int32} {v2 : Int32} {v3 : Int64} {v5 : Int32} {v6 : Int64} {q : aQ} (hd : 2 ≤ d) (hN : h'.1 = nk0) (hG : gV r h' (F154_15 v1 v2 v3 v5 v6 q)) (hS : S154_15 v1 v2 v3 v5 v6 q) : AW l X 154 c154 d r h' 15 [some (.ref 650), some (.int v1), some (.int v2), some (.long v3), none, some (.int v5), some (.long v6), none, none, none] [] (hp q) := by
  unfold F154_15 at hG
  unfold S154_15 at hS
  refine x_run (pc' := 16) (lo' := [some (.ref 650), some (.int v1), some (.int v2), some (.long v3), none, some (.int v5), some (.long v6), none, none, none]) (st' := [.int 0]) 1 rfl ?_
  exact A154_16 hd hN hG hS
def F154_0 (v1 : Int32) (v2 : Int32) (v3 : Int64) (v5 : Int32) (v6 : Int64) (q : aQ) : aQ := (if v2 = 1 then (if v5 = 1 then F154_16 v1 v2 v3 v5 v6 1 q else F154_15 v1 v2 v3 v5 v6 q) else F154_15 v1 v2 v3 v5 v6 q)
def S154_0 (v1 : Int32) (v2 : Int32) (v3 : Int64) (v5 : Int32) (v6 : Int64) (q : aQ) : Prop := ((v2 = 1) → ((v5 = 1) → S154_16 v1 v2 v3 v5 v6 1 q) ∧ (¬ (v5 = 1) → S154_15 v1 v2 v3 v5 v6 q)) ∧ (¬ (v2 = 1) → S154_15 v1 v2 v3 v5 v6 q)
set_option maxRecDepth 100000 in
set_option maxHeartbeats 4000000 in
theorem A154_0 {l : Launch} {X : aX} {d : Nat} {r : Option Value} {h' : aH} {v1 : Int32} {v2 : Int32} {v3 : Int64} {v5 : Int32} {v6 : Int64} {q : aQ} (hd : 2 ≤ d) (hN : h'.1 = nk0) (hG : gV r h' (F154_0 v1 v2 v3 v5 v6 q)) (hS : S154_0 v1 v2 v3 v5 v6 q) : AW l X 154 c154 d r h' 0 [some (.ref 650), some (.int v1), some (.int v2), some (.long v3), none, some (.int v5), some (.long v6), none, none, none] [] (hp q) := by
  unfold F154_0 at hG
  unfold S154_0 at hS
  refine x_run (pc' := 2) (lo' := [some (.ref 650), some (.int v1), some (.int v2), some (.long v3), none, some (.int v5), some (.long v6), none, none, none]) (st' := [.int 1, .int v2]) 2 rfl ?_
  refine x_ic 15 rfl rfl (fun (hc1 : ¬ v2 = 1) => ?_) (fun (hc1 : v2 = 1) => ?_)
  · rw [if_neg hc1] at hG
    replace hS := hS.2 hc1
    exact A154_15 hd hN hG hS
  · rw [if_pos hc1] at hG
    replace hS := hS.1 hc1
    refine x_run (pc' := 8) (lo' := [some (.ref 650), some (.int v1), some (.int v2), some (.long v3), none, some (.int v5), some (.long v6), none, none, none]) (st' := [.int 1, .int v5]) 2 rfl ?_
    refine x_ic 15 rfl rfl (fun (hc38 : ¬ v5 = 1) => ?_) (fun (hc38 : v5 = 1) => ?_)
    · rw [if_neg hc38] at hG
      replace hS := hS.2 hc38
      exact A154_15 hd hN hG hS
    · rw [if_pos hc38] at hG
      replace hS := hS.1 hc38
      refine x_run (pc' := 16) (lo' := [some (.ref 650), some (.int v1), some (.int v2), some (.long v3), none, some (.int v5), some (.long v6), none, none, none]) (st' := [.int 1]) 2 rfl ?_
      exact A154_16 hd hN hG hS
theorem T154 {l : Launch} {X : aX} {d : Nat} {v1 : Int32} {v2 : Int32} {v3 : Int64} {v5 : Int32} {v6 : Int64} {q : aQ} (hd : 2 ≤ d) (hS : S154_0 v1 v2 v3 v5 v6 q) : Call l X d 154 [.ref 650, .int v1, .int v2, .long v3, .int v5, .long v6] (hp q) none (hp (F154_0 v1 v2 v3 v5 v6 q)) := Call.of ok154 (by decide) (Nat.le_of_ble_eq_true rfl) ⟨Nat.le_refl _, Nat.le_refl _⟩ (A154_0 hd rfl ⟨rfl, rfl⟩ hS)
/-- TypeForecastModel.leftValues(I)V -/
def F161_250 (v1 : Int32) (v2 : Int32) (v3 : Int32) (v4 : Int32) (v5 : Int32) (q : aQ) : (Int32 × aQ) ⊕ (aQ) := .inl ((v5 + 1), q)
def S161_250 (v1 : Int32) (v2 : Int32) (v3 : Int32) (v4 : Int32) (v5 : Int32) (q : aQ) : Prop := True
set_option maxRecDepth 100000 in
set_option maxHeartbeats 4000000 in
theorem A161_250 {l : Launch} {X : aX} {d : Nat} {r : Option Value} {h' : aH} {v1 : Int32} {v2 : Int32} {v3 : Int32} {v4 : Int32} {v5 : Int32} {q : aQ} (hd : 2 ≤ d) (hN : h'.1 = nk0) (hG : gL (fun (s : Int32 × aQ) => AW l X 161 c161 d r h' 44 [some (.ref 650), some (.int v1), some (.int v2), some (.int v3), some (.int v4), some (.int s.1), none, none, none, none, none] [] (hp s.2)) (fun (e : aQ) => AW l X 161 c161 d r h' 256 [some (.ref 650), none, none, none, some (.int v4), none, none, none, none, none, none] [] (hp e)) (F161_250 v1 v2 v3 v4 v5 q)) (hS : S161_250 v1 v2 v3 v4 v5 q) : AW l X 161 c161 d r h' 250 [some (.ref 650), some (.int v1), some (.int v2), some (.int v3), some (.int v4), some (.int v5), none, none, none, none, none] [] (hp q) := by
  unfold F161_250 at hG
  unfold S161_250 at hS
  refine x_run (pc' := 44) (lo' := [some (.ref 650), some (.int v1), some (.int v2), some (.int v3), some (.int v4), some (.int (v5 + 1)), none, none, none, none, none]) (st' := []) 2 rfl ?_
  exact hG
def F161_217 (v1 : Int32) (v2 : Int32) (v3 : Int32) (v4 : Int32) (v5 : Int32) (v6 : Int32) (v9 : Int32) (s0 : Int32) (q : aQ) : (Int32 × aQ) ⊕ (aQ) := (if (v4 &&& 2) = 0 then F161_250 v1 v2 v3 v4 v5 q else (if v6 < 0 then F161_250 v1 v2 v3 v4 v5 q else (if (F159_0 v6 v9 s0 q) = 0 then F161_250 v1 v2 v3 v4 v5 q else F161_250 v1 v2 v3 v4 v5 (F160_0 2 v6 q))))
def S161_217 (v1 : Int32) (v2 : Int32) (v3 : Int32) (v4 : Int32) (v5 : Int32) (v6 : Int32) (v9 : Int32) (s0 : Int32) (q : aQ) : Prop := (((v4 &&& 2) = 0) → S161_250 v1 v2 v3 v4 v5 q) ∧ (¬ ((v4 &&& 2) = 0) → ((v6 < 0) → S161_250 v1 v2 v3 v4 v5 q) ∧ (¬ (v6 < 0) → S159_0 v6 v9 s0 q ∧ ((((F159_0 v6 v9 s0 q) = 0) → S161_250 v1 v2 v3 v4 v5 q) ∧ (¬ ((F159_0 v6 v9 s0 q) = 0) → S160_0 2 v6 q ∧ (S161_250 v1 v2 v3 v4 v5 (F160_0 2 v6 q))))))
set_option maxRecDepth 100000 in
set_option maxHeartbeats 4000000 in
theorem A161_217 {l : Launch} {X : aX} {d : Nat} {r : Option Value} {h' : aH} {v1 : Int32} {v2 : Int32} {v3 : Int32} {v4 : Int32} {v5 : Int32} {v6 : Int32} {v9 : Int32} {s0 : Int32} {q : aQ} (hd : 2 ≤ d) (hN : h'.1 = nk0) (hG : gL (fun (s : Int32 × aQ) => AW l X 161 c161 d r h' 44 [some (.ref 650), some (.int v1), some (.int v2), some (.int v3), some (.int v4), some (.int s.1), none, none, none, none, none] [] (hp s.2)) (fun (e : aQ) => AW l X 161 c161 d r h' 256 [some (.ref 650), none, none, none, some (.int v4), none, none, none, none, none, none] [] (hp e)) (F161_217 v1 v2 v3 v4 v5 v6 v9 s0 q)) (hS : S161_217 v1 v2 v3 v4 v5 v6 v9 s0 q) : AW l X 161 c161 d r h' 217 [some (.ref 650), some (.int v1), some (.int v2), some (.int v3), some (.int v4), some (.int v5), some (.int v6), none, none, some (.int v9), none] [.int s0] (hp q) := by
  unfold F161_217 at hG
  unfold S161_217 at hS
  refine x_run (pc' := 223) (lo' := [some (.ref 650), some (.int v1), some (.int v2), some (.int v3), some (.int v4), some (.int v5), some (.int v6), none, none, some (.int v9), some (.int s0)]) (st' := [.int (v4 &&& 2)]) 4 rfl ?_
  refine x_if 250 rfl rfl (fun (hc16 : (v4 &&& 2) = 0) => ?_) (fun (hc16 : ¬ (v4 &&& 2) = 0) => ?_)
  · rw [if_pos hc16] at hG
    replace hS := hS.1 hc16
    refine x_kill [6, 9, 10] ?_
    exact A161_250 hd hN hG hS
  · rw [if_neg hc16] at hG
    replace hS := hS.2 hc16
    refine x_run (pc' := 228) (lo' := [some (.ref 650), some (.int v1), some (.int v2), some (.int v3), some (.int v4), some (.int v5), some (.int v6), none, none, some (.int v9), some (.int s0)]) (st' := [.int v6]) 1 rfl ?_
    refine x_if 250 rfl rfl (fun (hc17 : v6 < 0) => ?_) (fun (hc17 : ¬ v6 < 0) => ?_)
    · rw [if_pos hc17] at hG
      replace hS := hS.1 hc17
      refine x_kill [6, 9, 10] ?_
      exact A161_250 hd hN hG hS
    · rw [if_neg hc17] at hG
      replace hS := hS.2 hc17
      refine x_run (pc' := 237) (lo' := [some (.ref 650), some (.int v1), some (.int v2), some (.int v3), some (.int v4), some (.int v5), some (.int v6), none, none, some (.int v9), some (.int s0)]) (st' := [.int s0, .int v9, .int v6]) 3 rfl ?_
      obtain ⟨o18, hS⟩ := hS
      refine x_cs (j := 159) (ne := 0) (vs := [.int v6, .int v9, .int s0]) (rest := []) rfl (by decide +kernel) (by decide +kernel) (by decide) (Eq.trans rfl (show 3 = _ from by decide +kernel)) rfl (Nat.le_of_ble_eq_true rfl) (by omega) (T159 (Nat.le_refl 1) o18) (hp_m hN) ?_
      show AW l X 161 c161 d r h' 240 [some (.ref 650), some (.int v1), some (.int v2), some (.int v3), some (.int v4), some (.int v5), some (.int v6), none, none, some (.int v9), some (.int s0)] [.int (F159_0 v6 v9 s0 q)] (hp q)
      refine x_if 250 rfl rfl (fun (hc19 : (F159_0 v6 v9 s0 q) = 0) => ?_) (fun (hc19 : ¬ (F159_0 v6 v9 s0 q) = 0) => ?_)
      · rw [if_pos hc19] at hG
        replace hS := hS.1 hc19
        refine x_kill [6, 9, 10] ?_
        exact A161_250 hd hN hG hS
      · rw [if_neg hc19] at hG
        replace hS := hS.2 hc19
        refine x_run (pc' := 247) (lo' := [some (.ref 650), some (.int v1), some (.int v2), some (.int v3), some (.int v4), some (.int v5), some (.int v6), none, none, some (.int v9), some (.int s0)]) (st' := [.int v6, .int 2, .ref 650]) 3 rfl ?_
        obtain ⟨o20, hS⟩ := hS
        refine x_cv (j := 160) (ne := 0) (vs := [.int 2, .int v6]) (rest := []) rfl (by decide +kernel) (by decide +kernel) (by decide) (Eq.trans rfl (show 2 = _ from by decide +kernel)) rfl (by decide +kernel) rfl (Nat.le_of_ble_eq_true rfl) (by omega) (T160 (Nat.le_refl 1) o20) (hp_m hN) ?_
        show AW l X 161 c161 d r h' 250 [some (.ref 650), some (.int v1), some (.int v2), some (.int v3), some (.int v4), some (.int v5), some (.int v6), none, none, some (.int v9), some (.int s0)] [] (hp (F160_0 2 v6 q))
        refine x_kill [6, 9, 10] ?_
        exact A161_250 hd hN hG hS
def F161_188 (v1 : Int32) (v2 : Int32) (v3 : Int32) (v4 : Int32) (v5 : Int32) (v6 : Int32) (s0 : Int32) (q : aQ) : (Int32 × aQ) ⊕ (aQ) := (if v2 = 0 then F161_217 v1 v2 v3 v4 v5 v6 s0 (q.1 670 (Int32.toNatClampNeg ((4 * v3) + 3))) q else F161_217 v1 v2 v3 v4 v5 v6 s0 (q.1 672 (Int32.toNatClampNeg ((4 * v1) + 3))) q)
def S161_188 (v1 : Int32) (v2 : Int32) (v3 : Int32) (v4 : Int32) (v5 : Int32) (v6 : Int32) (s0 : Int32) (q : aQ) : Prop := ((v2 = 0) → vp_in ((4 * v3) + 3) 20 ∧ (S161_217 v1 v2 v3 v4 v5 v6 s0 (q.1 670 (Int32.toNatClampNeg ((4 * v3) + 3))) q)) ∧ (¬ (v2 = 0) → vp_in ((4 * v1) + 3) 240 ∧ (S161_217 v1 v2 v3 v4 v5 v6 s0 (q.1 672 (Int32.toNatClampNeg ((4 * v1) + 3))) q))
set_option maxRecDepth 100000 in
set_option maxHeartbeats 4000000 in
theorem A161_188 {l : Launch} {X : aX} {d : Nat} {r : Option Value} {h' : aH} {v1 : Int32} {v2 : Int32} {v3 : Int32} {v4 : Int32} {v5 : Int32} {v6 : Int32} {s0 : Int32} {q : aQ} (hd : 2 ≤ d) (hN : h'.1 = nk0) (hG : gL (fun (s : Int32 × aQ) => AW l X 161 c161 d r h' 44 [some (.ref 650), some (.int v1), some (.int v2), some (.int v3), some (.int v4), some (.int s.1), none, none, none, none, none] [] (hp s.2)) (fun (e : aQ) => AW l X 161 c161 d r h' 256 [some (.ref 650), none, none, none, some (.int v4), none, none, none, none, none, none] [] (hp e)) (F161_188 v1 v2 v3 v4 v5 v6 s0 q)) (hS : S161_188 v1 v2 v3 v4 v5 v6 s0 q) : AW l X 161 c161 d r h' 188 [some (.ref 650), some (.int v1), some (.int v2), some (.int v3), some (.int v4), some (.int v5), some (.int v6), none, none, none, none] [.int s0] (hp q) := by
  unfold F161_188 at hG
  unfold S161_188 at hS
  refine x_run (pc' := 191) (lo' := [some (.ref 650), some (.int v1), some (.int v2), some (.int v3), some (.int v4), some (.int v5), some (.int v6), none, none, some (.int s0), none]) (st' := [.int v2]) 2 rfl ?_
  refine x_if 207 rfl rfl (fun (hc14 : v2 = 0) => ?_) (fun (hc14 : ¬ v2 = 0) => ?_)
  · rw [if_pos hc14] at hG
    replace hS := hS.1 hc14
    refine x_run (pc' := 208) (lo' := [some (.ref 650), some (.int v1), some (.int v2), some (.int v3), some (.int v4), some (.int v5), some (.int v6), none, none, some (.int s0), none]) (st' := [.ref 650]) 1 rfl ?_
    refine x_gf (c := 600) (ne := 0) (v := .ref 670) rfl (by decide +kernel) rfl rfl ?_
    refine x_run (pc' := 216) (lo' := [some (.ref 650), some (.int v1), some (.int v2), some (.int v3), some (.int v4), some (.int v5), some (.int v6), none, none, some (.int s0), none]) (st' := [.int ((4 * v3) + 3), .ref 670]) 5 rfl ?_
    obtain ⟨o15, hS⟩ := hS
    refine p_ia (n := 20) (v := (q.1 670 (Int32.toNatClampNeg ((4 * v3) + 3)))) rfl rfl o15 rfl ?_
    exact A161_217 hd hN hG hS
  · rw [if_neg hc14] at hG
    replace hS := hS.2 hc14
    refine x_run (pc' := 195) (lo' := [some (.ref 650), some (.int v1), some (.int v2), some (.int v3), some (.int v4), some (.int v5), some (.int v6), none, none, some (.int s0), none]) (st' := [.ref 650]) 1 rfl ?_
    refine x_gf (c := 602) (ne := 0) (v := .ref 672) rfl (by decide +kernel) rfl rfl ?_
    refine x_run (pc' := 203) (lo' := [some (.ref 650), some (.int v1), some (.int v2), some (.int v3), some (.int v4), some (.int v5), some (.int v6), none, none, some (.int s0), none]) (st' := [.int ((4 * v1) + 3), .ref 672]) 5 rfl ?_
    obtain ⟨o21, hS⟩ := hS
    refine p_ia (n := 240) (v := (q.1 672 (Int32.toNatClampNeg ((4 * v1) + 3)))) rfl rfl o21 rfl ?_
    refine x_run (pc' := 217) (lo' := [some (.ref 650), some (.int v1), some (.int v2), some (.int v3), some (.int v4), some (.int v5), some (.int v6), none, none, some (.int s0), none]) (st' := [.int (q.1 672 (Int32.toNatClampNeg ((4 * v1) + 3)))]) 1 rfl ?_
    exact A161_217 hd hN hG hS
def F161_161 (v1 : Int32) (v2 : Int32) (v3 : Int32) (v4 : Int32) (v5 : Int32) (v6 : Int32) (q : aQ) : (Int32 × aQ) ⊕ (aQ) := (if v2 = 0 then F161_188 v1 v2 v3 v4 v5 v6 (q.1 670 (Int32.toNatClampNeg ((4 * v3) + 2))) q else F161_188 v1 v2 v3 v4 v5 v6 (q.1 672 (Int32.toNatClampNeg ((4 * v1) + 2))) q)
def S161_161 (v1 : Int32) (v2 : Int32) (v3 : Int32) (v4 : Int32) (v5 : Int32) (v6 : Int32) (q : aQ) : Prop := ((v2 = 0) → vp_in ((4 * v3) + 2) 20 ∧ (S161_188 v1 v2 v3 v4 v5 v6 (q.1 670 (Int32.toNatClampNeg ((4 * v3) + 2))) q)) ∧ (¬ (v2 = 0) → vp_in ((4 * v1) + 2) 240 ∧ (S161_188 v1 v2 v3 v4 v5 v6 (q.1 672 (Int32.toNatClampNeg ((4 * v1) + 2))) q))
set_option maxRecDepth 100000 in
set_option maxHeartbeats 4000000 in
theorem A161_161 {l : Launch} {X : aX} {d : Nat} {r : Option Value} {h' : aH} {v1 : Int32} {v2 : Int32} {v3 : Int32} {v4 : Int32} {v5 : Int32} {v6 : Int32} {q : aQ} (hd : 2 ≤ d) (hN : h'.1 = nk0) (hG : gL (fun (s : Int32 × aQ) => AW l X 161 c161 d r h' 44 [some (.ref 650), some (.int v1), some (.int v2), some (.int v3), some (.int v4), some (.int s.1), none, none, none, none, none] [] (hp s.2)) (fun (e : aQ) => AW l X 161 c161 d r h' 256 [some (.ref 650), none, none, none, some (.int v4), none, none, none, none, none, none] [] (hp e)) (F161_161 v1 v2 v3 v4 v5 v6 q)) (hS : S161_161 v1 v2 v3 v4 v5 v6 q) : AW l X 161 c161 d r h' 161 [some (.ref 650), some (.int v1), some (.int v2), some (.int v3), some (.int v4), some (.int v5), some (.int v6), none, none, none, none] [] (hp q) := by
  unfold F161_161 at hG
  unfold S161_161 at hS
  refine x_run (pc' := 162) (lo' := [some (.ref 650), some (.int v1), some (.int v2), some (.int v3), some (.int v4), some (.int v5), some (.int v6), none, none, none, none]) (st' := [.int v2]) 1 rfl ?_
  refine x_if 178 rfl rfl (fun (hc12 : v2 = 0) => ?_) (fun (hc12 : ¬ v2 = 0) => ?_)
  · rw [if_pos hc12] at hG
    replace hS := hS.1 hc12
    refine x_run (pc' := 179) (lo' := [some (.ref 650), some (.int v1), some (.int v2), some (.int v3), some (.int v4), some (.int v5), some (.int v6), none, none, none, none]) (st' := [.ref 650]) 1 rfl ?_
    refine x_gf (c := 600) (ne := 0) (v := .ref 670) rfl (by decide +kernel) rfl rfl ?_
    refine x_run (pc' := 187) (lo' := [some (.ref 650), some (.int v1), some (.int v2), some (.int v3), some (.int v4), some (.int v5), some (.int v6), none, none, none, none]) (st' := [.int ((4 * v3) + 2), .ref 670]) 5 rfl ?_
    obtain ⟨o13, hS⟩ := hS
    refine p_ia (n := 20) (v := (q.1 670 (Int32.toNatClampNeg ((4 * v3) + 2)))) rfl rfl o13 rfl ?_
    exact A161_188 hd hN hG hS
  · rw [if_neg hc12] at hG
    replace hS := hS.2 hc12
    refine x_run (pc' := 166) (lo' := [some (.ref 650), some (.int v1), some (.int v2), some (.int v3), some (.int v4), some (.int v5), some (.int v6), none, none, none, none]) (st' := [.ref 650]) 1 rfl ?_
    refine x_gf (c := 602) (ne := 0) (v := .ref 672) rfl (by decide +kernel) rfl rfl ?_
    refine x_run (pc' := 174) (lo' := [some (.ref 650), some (.int v1), some (.int v2), some (.int v3), some (.int v4), some (.int v5), some (.int v6), none, none, none, none]) (st' := [.int ((4 * v1) + 2), .ref 672]) 5 rfl ?_
    obtain ⟨o22, hS⟩ := hS
    refine p_ia (n := 240) (v := (q.1 672 (Int32.toNatClampNeg ((4 * v1) + 2)))) rfl rfl o22 rfl ?_
    refine x_run (pc' := 188) (lo' := [some (.ref 650), some (.int v1), some (.int v2), some (.int v3), some (.int v4), some (.int v5), some (.int v6), none, none, none, none]) (st' := [.int (q.1 672 (Int32.toNatClampNeg ((4 * v1) + 2)))]) 1 rfl ?_
    exact A161_188 hd hN hG hS
def F161_133 (v1 : Int32) (v2 : Int32) (v3 : Int32) (v4 : Int32) (v5 : Int32) (v6 : Int32) (v7 : Int32) (s0 : Int32) (q : aQ) : (Int32 × aQ) ⊕ (aQ) := (if (v4 &&& 1) = 0 then F161_161 v1 v2 v3 v4 v5 v6 q else (if (F159_0 v6 v7 s0 q) = 0 then F161_161 v1 v2 v3 v4 v5 v6 q else F161_161 v1 v2 v3 v4 v5 v6 (F160_0 1 v6 q)))
def S161_133 (v1 : Int32) (v2 : Int32) (v3 : Int32) (v4 : Int32) (v5 : Int32) (v6 : Int32) (v7 : Int32) (s0 : Int32) (q : aQ) : Prop := (((v4 &&& 1) = 0) → S161_161 v1 v2 v3 v4 v5 v6 q) ∧ (¬ ((v4 &&& 1) = 0) → S159_0 v6 v7 s0 q ∧ ((((F159_0 v6 v7 s0 q) = 0) → S161_161 v1 v2 v3 v4 v5 v6 q) ∧ (¬ ((F159_0 v6 v7 s0 q) = 0) → S160_0 1 v6 q ∧ (S161_161 v1 v2 v3 v4 v5 v6 (F160_0 1 v6 q)))))
set_option maxRecDepth 100000 in
set_option maxHeartbeats 4000000 in
theorem A161_133 {l : Launch} {X : aX} {d : Nat} {r : Option Value} {h' : aH} {v1 : Int32} {v2 : Int32} {v3 : Int32} {v4 : Int32} {v5 : Int32} {v6 : Int32} {v7 : Int32} {s0 : Int32} {q : aQ} (hd : 2 ≤ d) (hN : h'.1 = nk0) (hG : gL (fun (s : Int32 × aQ) => AW l X 161 c161 d r h' 44 [some (.ref 650), some (.int v1), some (.int v2), some (.int v3), some (.int v4), some (.int s.1), none, none, none, none, none] [] (hp s.2)) (fun (e : aQ) => AW l X 161 c161 d r h' 256 [some (.ref 650), none, none, none, some (.int v4), none, none, none, none, none, none] [] (hp e)) (F161_133 v1 v2 v3 v4 v5 v6 v7 s0 q)) (hS : S161_133 v1 v2 v3 v4 v5 v6 v7 s0 q) : AW l X 161 c161 d r h' 133 [some (.ref 650), some (.int v1), some (.int v2), some (.int v3), some (.int v4), some (.int v5), some (.int v6), some (.int v7), none, none, none] [.int s0] (hp q) := by
  unfold F161_133 at hG
  unfold S161_133 at hS
  refine x_run (pc' := 139) (lo' := [some (.ref 650), some (.int v1), some (.int v2), some (.int v3), some (.int v4), some (.int v5), some (.int v6), some (.int v7), some (.int s0), none, none]) (st' := [.int (v4 &&& 1)]) 4 rfl ?_
  refine x_if 161 rfl rfl (fun (hc11 : (v4 &&& 1) = 0) => ?_) (fun (hc11 : ¬ (v4 &&& 1) = 0) => ?_)
  · rw [if_pos hc11] at hG
    replace hS := hS.1 hc11
    refine x_kill [7, 8] ?_
    exact A161_161 hd hN hG hS
  · rw [if_neg hc11] at hG
    replace hS := hS.2 hc11
    refine x_run (pc' := 148) (lo' := [some (.ref 650), some (.int v1), some (.int v2), some (.int v3), some (.int v4), some (.int v5), some (.int v6), some (.int v7), some (.int s0), none, none]) (st' := [.int s0, .int v7, .int v6]) 3 rfl ?_
    obtain ⟨o23, hS⟩ := hS
    refine x_cs (j := 159) (ne := 0) (vs := [.int v6, .int v7, .int s0]) (rest := []) rfl (by decide +kernel) (by decide +kernel) (by decide) (Eq.trans rfl (show 3 = _ from by decide +kernel)) rfl (Nat.le_of_ble_eq_true rfl) (by omega) (T159 (Nat.le_refl 1) o23) (hp_m hN) ?_
    show AW l X 161 c161 d r h' 151 [some (.ref 650), some (.int v1), some (.int v2), some (.int v3), some (.int v4), some (.int v5), some (.int v6), some (.int v7), some (.int s0), none, none] [.int (F159_0 v6 v7 s0 q)] (hp q)
    refine x_if 161 rfl rfl (fun (hc24 : (F159_0 v6 v7 s0 q) = 0) => ?_) (fun (hc24 : ¬ (F159_0 v6 v7 s0 q) = 0) => ?_)
    · rw [if_pos hc24] at hG
      replace hS := hS.1 hc24
      refine x_kill [7, 8] ?_
      exact A161_161 hd hN hG hS
    · rw [if_neg hc24] at hG
      replace hS := hS.2 hc24
      refine x_run (pc' := 158) (lo' := [some (.ref 650), some (.int v1), some (.int v2), some (.int v3), some (.int v4), some (.int v5), some (.int v6), some (.int v7), some (.int s0), none, none]) (st' := [.int v6, .int 1, .ref 650]) 3 rfl ?_
      obtain ⟨o25, hS⟩ := hS
      refine x_cv (j := 160) (ne := 0) (vs := [.int 1, .int v6]) (rest := []) rfl (by decide +kernel) (by decide +kernel) (by decide) (Eq.trans rfl (show 2 = _ from by decide +kernel)) rfl (by decide +kernel) rfl (Nat.le_of_ble_eq_true rfl) (by omega) (T160 (Nat.le_refl 1) o25) (hp_m hN) ?_
      show AW l X 161 c161 d r h' 161 [some (.ref 650), some (.int v1), some (.int v2), some (.int v3), some (.int v4), some (.int v5), some (.int v6), some (.int v7), some (.int s0), none, none] [] (hp (F160_0 1 v6 q))
      refine x_kill [7, 8] ?_
      exact A161_161 hd hN hG hS
def F161_104 (v1 : Int32) (v2 : Int32) (v3 : Int32) (v4 : Int32) (v5 : Int32) (v6 : Int32) (s0 : Int32) (q : aQ) : (Int32 × aQ) ⊕ (aQ) := (if v2 = 0 then F161_133 v1 v2 v3 v4 v5 v6 s0 (q.1 670 (Int32.toNatClampNeg ((4 * v3) + 1))) q else F161_133 v1 v2 v3 v4 v5 v6 s0 (q.1 672 (Int32.toNatClampNeg ((4 * v1) + 1))) q)
def S161_104 (v1 : Int32) (v2 : Int32) (v3 : Int32) (v4 : Int32) (v5 : Int32) (v6 : Int32) (s0 : Int32) (q : aQ) : Prop := ((v2 = 0) → vp_in ((4 * v3) + 1) 20 ∧ (S161_133 v1 v2 v3 v4 v5 v6 s0 (q.1 670 (Int32.toNatClampNeg ((4 * v3) + 1))) q)) ∧ (¬ (v2 = 0) → vp_in ((4 * v1) + 1) 240 ∧ (S161_133 v1 v2 v3 v4 v5 v6 s0 (q.1 672 (Int32.toNatClampNeg ((4 * v1) + 1))) q))
set_option maxRecDepth 100000 in
set_option maxHeartbeats 4000000 in
theorem A161_104 {l : Launch} {X : aX} {d : Nat} {r : Option Value} {h' : aH} {v1 : Int32} {v2 : Int32} {v3 : Int32} {v4 : Int32} {v5 : Int32} {v6 : Int32} {s0 : Int32} {q : aQ} (hd : 2 ≤ d) (hN : h'.1 = nk0) (hG : gL (fun (s : Int32 × aQ) => AW l X 161 c161 d r h' 44 [some (.ref 650), some (.int v1), some (.int v2), some (.int v3), some (.int v4), some (.int s.1), none, none, none, none, none] [] (hp s.2)) (fun (e : aQ) => AW l X 161 c161 d r h' 256 [some (.ref 650), none, none, none, some (.int v4), none, none, none, none, none, none] [] (hp e)) (F161_104 v1 v2 v3 v4 v5 v6 s0 q)) (hS : S161_104 v1 v2 v3 v4 v5 v6 s0 q) : AW l X 161 c161 d r h' 104 [some (.ref 650), some (.int v1), some (.int v2), some (.int v3), some (.int v4), some (.int v5), some (.int v6), none, none, none, none] [.int s0] (hp q) := by
  unfold F161_104 at hG
  unfold S161_104 at hS
  refine x_run (pc' := 107) (lo' := [some (.ref 650), some (.int v1), some (.int v2), some (.int v3), some (.int v4), some (.int v5), some (.int v6), some (.int s0), none, none, none]) (st' := [.int v2]) 2 rfl ?_
  refine x_if 123 rfl rfl (fun (hc9 : v2 = 0) => ?_) (fun (hc9 : ¬ v2 = 0) => ?_)
  · rw [if_pos hc9] at hG
    replace hS := hS.1 hc9
    refine x_run (pc' := 124) (lo' := [some (.ref 650), some (.int v1), some (.int v2), some (.int v3), some (.int v4), some (.int v5), some (.int v6), some (.int s0), none, none, none]) (st' := [.ref 650]) 1 rfl ?_
    refine x_gf (c := 600) (ne := 0) (v := .ref 670) rfl (by decide +kernel) rfl rfl ?_
    refine x_run (pc' := 132) (lo' := [some (.ref 650), some (.int v1), some (.int v2), some (.int v3), some (.int v4), some (.int v5), some (.int v6), some (.int s0), none, none, none]) (st' := [.int ((4 * v3) + 1), .ref 670]) 5 rfl ?_
    obtain ⟨o10, hS⟩ := hS
    refine p_ia (n := 20) (v := (q.1 670 (Int32.toNatClampNeg ((4 * v3) + 1)))) rfl rfl o10 rfl ?_
    exact A161_133 hd hN hG hS
  · rw [if_neg hc9] at hG
    replace hS := hS.2 hc9
    refine x_run (pc' := 111) (lo' := [some (.ref 650), some (.int v1), some (.int v2), some (.int v3), some (.int v4), some (.int v5), some (.int v6), some (.int s0), none, none, none]) (st' := [.ref 650]) 1 rfl ?_
    refine x_gf (c := 602) (ne := 0) (v := .ref 672) rfl (by decide +kernel) rfl rfl ?_
    refine x_run (pc' := 119) (lo' := [some (.ref 650), some (.int v1), some (.int v2), some (.int v3), some (.int v4), some (.int v5), some (.int v6), some (.int s0), none, none, none]) (st' := [.int ((4 * v1) + 1), .ref 672]) 5 rfl ?_
    obtain ⟨o26, hS⟩ := hS
    refine p_ia (n := 240) (v := (q.1 672 (Int32.toNatClampNeg ((4 * v1) + 1)))) rfl rfl o26 rfl ?_
    refine x_run (pc' := 133) (lo' := [some (.ref 650), some (.int v1), some (.int v2), some (.int v3), some (.int v4), some (.int v5), some (.int v6), some (.int s0), none, none, none]) (st' := [.int (q.1 672 (Int32.toNatClampNeg ((4 * v1) + 1)))]) 1 rfl ?_
    exact A161_133 hd hN hG hS
def F161_79 (v1 : Int32) (v2 : Int32) (v3 : Int32) (v4 : Int32) (v5 : Int32) (s0 : Int32) (q : aQ) : (Int32 × aQ) ⊕ (aQ) := (if v2 = 0 then F161_104 v1 v2 v3 v4 v5 s0 (q.1 670 (Int32.toNatClampNeg (4 * v3))) q else F161_104 v1 v2 v3 v4 v5 s0 (q.1 672 (Int32.toNatClampNeg (4 * v1))) q)
def S161_79 (v1 : Int32) (v2 : Int32) (v3 : Int32) (v4 : Int32) (v5 : Int32) (s0 : Int32) (q : aQ) : Prop := ((v2 = 0) → vp_in (4 * v3) 20 ∧ (S161_104 v1 v2 v3 v4 v5 s0 (q.1 670 (Int32.toNatClampNeg (4 * v3))) q)) ∧ (¬ (v2 = 0) → vp_in (4 * v1) 240 ∧ (S161_104 v1 v2 v3 v4 v5 s0 (q.1 672 (Int32.toNatClampNeg (4 * v1))) q))
set_option maxRecDepth 100000 in
set_option maxHeartbeats 4000000 in
theorem A161_79 {l : Launch} {X : aX} {d : Nat} {r : Option Value} {h' : aH} {v1 : Int32} {v2 : Int32} {v3 : Int32} {v4 : Int32} {v5 : Int32} {s0 : Int32} {q : aQ} (hd : 2 ≤ d) (hN : h'.1 = nk0) (hG : gL (fun (s : Int32 × aQ) => AW l X 161 c161 d r h' 44 [some (.ref 650), some (.int v1), some (.int v2), some (.int v3), some (.int v4), some (.int s.1), none, none, none, none, none] [] (hp s.2)) (fun (e : aQ) => AW l X 161 c161 d r h' 256 [some (.ref 650), none, none, none, some (.int v4), none, none, none, none, none, none] [] (hp e)) (F161_79 v1 v2 v3 v4 v5 s0 q)) (hS : S161_79 v1 v2 v3 v4 v5 s0 q) : AW l X 161 c161 d r h' 79 [some (.ref 650), some (.int v1), some (.int v2), some (.int v3), some (.int v4), some (.int v5), none, none, none, none, none] [.int s0] (hp q) := by
  unfold F161_79 at hG
  unfold S161_79 at hS
  refine x_run (pc' := 82) (lo' := [some (.ref 650), some (.int v1), some (.int v2), some (.int v3), some (.int v4), some (.int v5), some (.int s0), none, none, none, none]) (st' := [.int v2]) 2 rfl ?_
  refine x_if 96 rfl rfl (fun (hc7 : v2 = 0) => ?_) (fun (hc7 : ¬ v2 = 0) => ?_)
  · rw [if_pos hc7] at hG
    replace hS := hS.1 hc7
    refine x_run (pc' := 97) (lo' := [some (.ref 650), some (.int v1), some (.int v2), some (.int v3), some (.int v4), some (.int v5), some (.int s0), none, none, none, none]) (st' := [.ref 650]) 1 rfl ?_
    refine x_gf (c := 600) (ne := 0) (v := .ref 670) rfl (by decide +kernel) rfl rfl ?_
    refine x_run (pc' := 103) (lo' := [some (.ref 650), some (.int v1), some (.int v2), some (.int v3), some (.int v4), some (.int v5), some (.int s0), none, none, none, none]) (st' := [.int (4 * v3), .ref 670]) 3 rfl ?_
    obtain ⟨o8, hS⟩ := hS
    refine p_ia (n := 20) (v := (q.1 670 (Int32.toNatClampNeg (4 * v3)))) rfl rfl o8 rfl ?_
    exact A161_104 hd hN hG hS
  · rw [if_neg hc7] at hG
    replace hS := hS.2 hc7
    refine x_run (pc' := 86) (lo' := [some (.ref 650), some (.int v1), some (.int v2), some (.int v3), some (.int v4), some (.int v5), some (.int s0), none, none, none, none]) (st' := [.ref 650]) 1 rfl ?_
    refine x_gf (c := 602) (ne := 0) (v := .ref 672) rfl (by decide +kernel) rfl rfl ?_
    refine x_run (pc' := 92) (lo' := [some (.ref 650), some (.int v1), some (.int v2), some (.int v3), some (.int v4), some (.int v5), some (.int s0), none, none, none, none]) (st' := [.int (4 * v1), .ref 672]) 3 rfl ?_
    obtain ⟨o27, hS⟩ := hS
    refine p_ia (n := 240) (v := (q.1 672 (Int32.toNatClampNeg (4 * v1)))) rfl rfl o27 rfl ?_
    refine x_run (pc' := 104) (lo' := [some (.ref 650), some (.int v1), some (.int v2), some (.int v3), some (.int v4), some (.int v5), some (.int s0), none, none, none, none]) (st' := [.int (q.1 672 (Int32.toNatClampNeg (4 * v1)))]) 1 rfl ?_
    exact A161_104 hd hN hG hS
def F161_44 (v1 : Int32) (v2 : Int32) (v3 : Int32) (v4 : Int32) (v5 : Int32) (q : aQ) : (Int32 × aQ) ⊕ (aQ) := (if 18 < v5 then .inr q else (if v5 = (-18) then F161_79 v1 v2 v3 v4 v5 (-289) q else (if v5 = 18 then F161_79 v1 v2 v3 v4 v5 289 q else F161_79 v1 v2 v3 v4 v5 v5 q)))
def S161_44 (v1 : Int32) (v2 : Int32) (v3 : Int32) (v4 : Int32) (v5 : Int32) (q : aQ) : Prop := ((18 < v5) → True) ∧ (¬ (18 < v5) → ((v5 = (-18)) → S161_79 v1 v2 v3 v4 v5 (-289) q) ∧ (¬ (v5 = (-18)) → ((v5 = 18) → S161_79 v1 v2 v3 v4 v5 289 q) ∧ (¬ (v5 = 18) → S161_79 v1 v2 v3 v4 v5 v5 q)))
set_option maxRecDepth 100000 in
set_option maxHeartbeats 4000000 in
theorem A161_44 {l : Launch} {X : aX} {d : Nat} {r : Option Value} {h' : aH} {v1 : Int32} {v2 : Int32} {v3 : Int32} {v4 : Int32} {v5 : Int32} {q : aQ} (hd : 2 ≤ d) (hN : h'.1 = nk0) (hG : gL (fun (s : Int32 × aQ) => AW l X 161 c161 d r h' 44 [some (.ref 650), some (.int v1), some (.int v2), some (.int v3), some (.int v4), some (.int s.1), none, none, none, none, none] [] (hp s.2)) (fun (e : aQ) => AW l X 161 c161 d r h' 256 [some (.ref 650), none, none, none, some (.int v4), none, none, none, none, none, none] [] (hp e)) (F161_44 v1 v2 v3 v4 v5 q)) (hS : S161_44 v1 v2 v3 v4 v5 q) : AW l X 161 c161 d r h' 44 [some (.ref 650), some (.int v1), some (.int v2), some (.int v3), some (.int v4), some (.int v5), none, none, none, none, none] [] (hp q) := by
  unfold F161_44 at hG
  unfold S161_44 at hS
  refine x_run (pc' := 48) (lo' := [some (.ref 650), some (.int v1), some (.int v2), some (.int v3), some (.int v4), some (.int v5), none, none, none, none, none]) (st' := [.int 18, .int v5]) 2 rfl ?_
  refine x_ic 256 rfl rfl (fun (hc4 : 18 < v5) => ?_) (fun (hc4 : ¬ 18 < v5) => ?_)
  · rw [if_pos hc4] at hG
    replace hS := hS.1 hc4
    refine x_kill [1, 2, 3, 5] ?_
    exact hG
  · rw [if_neg hc4] at hG
    replace hS := hS.2 hc4
    refine x_run (pc' := 55) (lo' := [some (.ref 650), some (.int v1), some (.int v2), some (.int v3), some (.int v4), some (.int v5), none, none, none, none, none]) (st' := [.int (-18), .int v5]) 2 rfl ?_
    refine x_ic 64 rfl rfl (fun (hc5 : ¬ v5 = (-18)) => ?_) (fun (hc5 : v5 = (-18)) => ?_)
    · rw [if_neg hc5] at hG
      replace hS := hS.2 hc5
      refine x_run (pc' := 68) (lo' := [some (.ref 650), some (.int v1), some (.int v2), some (.int v3), some (.int v4), some (.int v5), none, none, none, none, none]) (st' := [.int 18, .int v5]) 2 rfl ?_
      refine x_ic 77 rfl rfl (fun (hc6 : ¬ v5 = 18) => ?_) (fun (hc6 : v5 = 18) => ?_)
      · rw [if_neg hc6] at hG
        replace hS := hS.2 hc6
        refine x_run (pc' := 79) (lo' := [some (.ref 650), some (.int v1), some (.int v2), some (.int v3), some (.int v4), some (.int v5), none, none, none, none, none]) (st' := [.int v5]) 1 rfl ?_
        exact A161_79 hd hN hG hS
      · rw [if_pos hc6] at hG
        replace hS := hS.1 hc6
        refine x_run (pc' := 79) (lo' := [some (.ref 650), some (.int v1), some (.int v2), some (.int v3), some (.int v4), some (.int v5), none, none, none, none, none]) (st' := [.int 289]) 2 rfl ?_
        exact A161_79 hd hN hG hS
    · rw [if_pos hc5] at hG
      replace hS := hS.1 hc5
      refine x_run (pc' := 79) (lo' := [some (.ref 650), some (.int v1), some (.int v2), some (.int v3), some (.int v4), some (.int v5), none, none, none, none, none]) (st' := [.int (-289)]) 2 rfl ?_
      exact A161_79 hd hN hG hS
def F161_256 (v4 : Int32) (q : aQ) : aQ := (if (v4 &&& 4) = 0 then q else (F160_0 4 0 q))
def S161_256 (v4 : Int32) (q : aQ) : Prop := (((v4 &&& 4) = 0) → True) ∧ (¬ ((v4 &&& 4) = 0) → S160_0 4 0 q ∧ (True))
set_option maxRecDepth 100000 in
set_option maxHeartbeats 4000000 in
theorem A161_256 {l : Launch} {X : aX} {d : Nat} {r : Option Value} {h' : aH} {v4 : Int32} {q : aQ} (hd : 2 ≤ d) (hN : h'.1 = nk0) (hG : gV r h' (F161_256 v4 q)) (hS : S161_256 v4 q) : AW l X 161 c161 d r h' 256 [some (.ref 650), none, none, none, some (.int v4), none, none, none, none, none, none] [] (hp q) := by
  unfold F161_256 at hG
  unfold S161_256 at hS
  refine x_run (pc' := 260) (lo' := [some (.ref 650), none, none, none, some (.int v4), none, none, none, none, none, none]) (st' := [.int (v4 &&& 4)]) 3 rfl ?_
  refine x_if 269 rfl rfl (fun (hc29 : (v4 &&& 4) = 0) => ?_) (fun (hc29 : ¬ (v4 &&& 4) = 0) => ?_)
  · rw [if_pos hc29] at hG
    replace hS := hS.1 hc29
    obtain ⟨rfl, rfl⟩ := hG
    exact x_ret rfl (by decide +kernel)
  · rw [if_neg hc29] at hG
    replace hS := hS.2 hc29
    refine x_run (pc' := 266) (lo' := [some (.ref 650), none, none, none, some (.int v4), none, none, none, none, none, none]) (st' := [.int 0, .int 4, .ref 650]) 3 rfl ?_
    obtain ⟨o30, hS⟩ := hS
    refine x_cv (j := 160) (ne := 0) (vs := [.int 4, .int 0]) (rest := []) rfl (by decide +kernel) (by decide +kernel) (by decide) (Eq.trans rfl (show 2 = _ from by decide +kernel)) rfl (by decide +kernel) rfl (Nat.le_of_ble_eq_true rfl) (by omega) (T160 (Nat.le_refl 1) o30) (hp_m hN) ?_
    show AW l X 161 c161 d r h' 269 [some (.ref 650), none, none, none, some (.int v4), none, none, none, none, none, none] [] (hp (F160_0 4 0 q))
    obtain ⟨rfl, rfl⟩ := hG
    exact x_ret rfl (by decide +kernel)
def F161_33 (v1 : Int32) (v2 : Int32) (v3 : Int32) (s0 : Int32) (q : aQ) : aQ := (fun (e28 : aQ) => F161_256 s0 e28) (a_lp (fun (s : Int32 × aQ) => F161_44 v1 v2 v3 s0 s.1 s.2) 200 ((-18), (a_w q 650 29 0)) (a_w q 650 29 0))
def S161_33 (v1 : Int32) (v2 : Int32) (v3 : Int32) (s0 : Int32) (q : aQ) : Prop := a_sf (fun (s : Int32 × aQ) => F161_44 v1 v2 v3 s0 s.1 s.2) (fun (s : Int32 × aQ) => S161_44 v1 v2 v3 s0 s.1 s.2) 200 ((-18), (a_w q 650 29 0)) ∧ (fun (e28 : aQ) => S161_256 s0 e28) (a_lp (fun (s : Int32 × aQ) => F161_44 v1 v2 v3 s0 s.1 s.2) 200 ((-18), (a_w q 650 29 0)) (a_w q 650 29 0))
set_option maxRecDepth 100000 in
set_option maxHeartbeats 4000000 in
theorem A161_33 {l : Launch} {X : aX} {d : Nat} {r : Option Value} {h' : aH} {v1 : Int32} {v2 : Int32} {v3 : Int32} {s0 : Int32} {q : aQ} (hd : 2 ≤ d) (hN : h'.1 = nk0) (hG : gV r h' (F161_33 v1 v2 v3 s0 q)) (hS : S161_33 v1 v2 v3 s0 q) : AW l X 161 c161 d r h' 33 [some (.ref 650), some (.int v1), some (.int v2), some (.int v3), none, none, none, none, none, none, none] [.int s0] (hp q) := by
  unfold F161_33 at hG
  unfold S161_33 at hS
  refine x_run (pc' := 37) (lo' := [some (.ref 650), some (.int v1), some (.int v2), some (.int v3), some (.int s0), none, none, none, none, none, none]) (st' := [.int 0, .ref 650]) 3 rfl ?_
  refine x_pf (c := 605) (ne := 0) (h2 := hp (a_w q 650 29 0)) rfl (by decide +kernel) (by decide +kernel) rfl (pv_i rfl) ?_
  refine x_run (pc' := 44) (lo' := [some (.ref 650), some (.int v1), some (.int v2), some (.int v3), some (.int s0), some (.int (-18)), none, none, none, none, none]) (st' := []) 2 rfl ?_
  obtain ⟨ho, hS⟩ := hS
  refine x_loop (fun (s : Int32 × aQ) => F161_44 v1 v2 v3 s0 s.1 s.2) (fun (s : Int32 × aQ) => S161_44 v1 v2 v3 s0 s.1 s.2) (fun (s : Int32 × aQ) => AW l X 161 c161 d r h' 44 [some (.ref 650), some (.int v1), some (.int v2), some (.int v3), some (.int s0), some (.int s.1), none, none, none, none, none] [] (hp s.2)) (fun (e : aQ) => AW l X 161 c161 d r h' 256 [some (.ref 650), none, none, none, some (.int s0), none, none, none, none, none, none] [] (hp e)) (fun s hs hg => A161_44 hd hN hg hs) 200 ((-18), (a_w q 650 29 0)) ho (fun e28 he => ?_)
  rw [a_lp_eq he] at hG hS
  try dsimp only at hG hS
  exact A161_256 hd hN hG hS
def F161_9 (v1 : Int32) (s0 : Int32) (q : aQ) : aQ := (if s0 = 0 then F161_33 v1 s0 ((-1) - v1) (q.1 669 (Int32.toNatClampNeg ((-1) - v1))) q else F161_33 v1 s0 ((-1) - v1) (q.1 671 (Int32.toNatClampNeg v1)) q)
def S161_9 (v1 : Int32) (s0 : Int32) (q : aQ) : Prop := ((s0 = 0) → vp_in ((-1) - v1) 5 ∧ (S161_33 v1 s0 ((-1) - v1) (q.1 669 (Int32.toNatClampNeg ((-1) - v1))) q)) ∧ (¬ (s0 = 0) → vp_in v1 60 ∧ (S161_33 v1 s0 ((-1) - v1) (q.1 671 (Int32.toNatClampNeg v1)) q))
set_option maxRecDepth 100000 in
set_option maxHeartbeats 4000000 in
theorem A161_9 {l : Launch} {X : aX} {d : Nat} {r : Option Value} {h' : aH} {v1 : Int32} {s0 : Int32} {q : aQ} (hd : 2 ≤ d) (hN : h'.1 = nk0) (hG : gV r h' (F161_9 v1 s0 q)) (hS : S161_9 v1 s0 q) : AW l X 161 c161 d r h' 9 [some (.ref 650), some (.int v1), none, none, none, none, none, none, none, none, none] [.int s0] (hp q) := by
  unfold F161_9 at hG
  unfold S161_9 at hS
  refine x_run (pc' := 15) (lo' := [some (.ref 650), some (.int v1), some (.int s0), some (.int ((-1) - v1)), none, none, none, none, none, none, none]) (st' := [.int s0]) 6 rfl ?_
  refine x_if 27 rfl rfl (fun (hc2 : s0 = 0) => ?_) (fun (hc2 : ¬ s0 = 0) => ?_)
  · rw [if_pos hc2] at hG
    replace hS := hS.1 hc2
    refine x_run (pc' := 28) (lo' := [some (.ref 650), some (.int v1), some (.int s0), some (.int ((-1) - v1)), none, none, none, none, none, none, none]) (st' := [.ref 650]) 1 rfl ?_
    refine x_gf (c := 599) (ne := 0) (v := .ref 669) rfl (by decide +kernel) rfl rfl ?_
    refine x_run (pc' := 32) (lo' := [some (.ref 650), some (.int v1), some (.int s0), some (.int ((-1) - v1)), none, none, none, none, none, none, none]) (st' := [.int ((-1) - v1), .ref 669]) 1 rfl ?_
    obtain ⟨o3, hS⟩ := hS
    refine p_ia (n := 5) (v := (q.1 669 (Int32.toNatClampNeg ((-1) - v1)))) rfl rfl o3 rfl ?_
    exact A161_33 hd hN hG hS
  · rw [if_neg hc2] at hG
    replace hS := hS.2 hc2
    refine x_run (pc' := 19) (lo' := [some (.ref 650), some (.int v1), some (.int s0), some (.int ((-1) - v1)), none, none, none, none, none, none, none]) (st' := [.ref 650]) 1 rfl ?_
    refine x_gf (c := 601) (ne := 0) (v := .ref 671) rfl (by decide +kernel) rfl rfl ?_
    refine x_run (pc' := 23) (lo' := [some (.ref 650), some (.int v1), some (.int s0), some (.int ((-1) - v1)), none, none, none, none, none, none, none]) (st' := [.int v1, .ref 671]) 1 rfl ?_
    obtain ⟨o31, hS⟩ := hS
    refine p_ia (n := 60) (v := (q.1 671 (Int32.toNatClampNeg v1))) rfl rfl o31 rfl ?_
    refine x_run (pc' := 33) (lo' := [some (.ref 650), some (.int v1), some (.int s0), some (.int ((-1) - v1)), none, none, none, none, none, none, none]) (st' := [.int (q.1 671 (Int32.toNatClampNeg v1))]) 1 rfl ?_
    exact A161_33 hd hN hG hS
def F161_0 (v1 : Int32) (q : aQ) : aQ := (if v1 < 0 then F161_9 v1 0 q else F161_9 v1 1 q)
def S161_0 (v1 : Int32) (q : aQ) : Prop := ((v1 < 0) → S161_9 v1 0 q) ∧ (¬ (v1 < 0) → S161_9 v1 1 q)
set_option maxRecDepth 100000 in
set_option maxHeartbeats 4000000 in
theorem A161_0 {l : Launch} {X : aX} {d : Nat} {r : Option Value} {h' : aH} {v1 : Int32} {q : aQ} (hd : 2 ≤ d) (hN : h'.1 = nk0) (hG : gV r h' (F161_0 v1 q)) (hS : S161_0 v1 q) : AW l X 161 c161 d r h' 0 [some (.ref 650), some (.int v1), none, none, none, none, none, none, none, none, none] [] (hp q) := by
  unfold F161_0 at hG
  unfold S161_0 at hS
  refine x_run (pc' := 1) (lo' := [some (.ref 650), some (.int v1), none, none, none, none, none, none, none, none, none]) (st' := [.int v1]) 1 rfl ?_
  refine x_if 8 rfl rfl (fun (hc1 : v1 < 0) => ?_) (fun (hc1 : ¬ v1 < 0) => ?_)
  · rw [if_pos hc1] at hG
    replace hS := hS.1 hc1
    refine x_run (pc' := 9) (lo' := [some (.ref 650), some (.int v1), none, none, none, none, none, none, none, none, none]) (st' := [.int 0]) 1 rfl ?_
    exact A161_9 hd hN hG hS
  · rw [if_neg hc1] at hG
    replace hS := hS.2 hc1
    refine x_run (pc' := 9) (lo' := [some (.ref 650), some (.int v1), none, none, none, none, none, none, none, none, none]) (st' := [.int 1]) 2 rfl ?_
    exact A161_9 hd hN hG hS
theorem T161 {l : Launch} {X : aX} {d : Nat} {v1 : Int32} {q : aQ} (hd : 2 ≤ d) (hS : S161_0 v1 q) : Call l X d 161 [.ref 650, .int v1] (hp q) none (hp (F161_0 v1 q)) := Call.of ok161 (by decide) (Nat.le_of_ble_eq_true rfl) ⟨Nat.le_refl _, Nat.le_refl _⟩ (A161_0 hd rfl ⟨rfl, rfl⟩ hS)
/-- TypeForecastModel.rightValues(I)V -/
def F162_15 (v2 : Int32) (q : aQ) : (Int32 × aQ) ⊕ (aQ) := (if (q.1 650 29) ≤ v2 then .inr q else .inl ((v2 + 1), (a_w (a_w q 677 (Int32.toNatClampNeg v2) (q.1 675 (Int32.toNatClampNeg v2))) 678 (Int32.toNatClampNeg v2) (q.1 676 (Int32.toNatClampNeg v2)))))
def S162_15 (v2 : Int32) (q : aQ) : Prop := (((q.1 650 29) ≤ v2) → True) ∧ (¬ ((q.1 650 29) ≤ v2) → vp_in v2 60 ∧ (vp_in v2 60 ∧ (vp_in v2 60 ∧ (vp_in v2 60 ∧ (True)))))
set_option maxRecDepth 100000 in
set_option maxHeartbeats 4000000 in
theorem A162_15 {l : Launch} {X : aX} {d : Nat} {r : Option Value} {h' : aH} {v2 : Int32} {q : aQ} (hd : 3 ≤ d) (hN : h'.1 = nk0) (hG : gL (fun (s : Int32 × aQ) => AW l X 162 c162 d r h' 15 [some (.ref 650), none, some (.int s.1)] [] (hp s.2)) (fun (e : aQ) => AW l X 162 c162 d r h' 53 [none, none, none] [] (hp e)) (F162_15 v2 q)) (hS : S162_15 v2 q) : AW l X 162 c162 d r h' 15 [some (.ref 650), none, some (.int v2)] [] (hp q) := by
  unfold F162_15 at hG
  unfold S162_15 at hS
  refine x_run (pc' := 17) (lo' := [some (.ref 650), none, some (.int v2)]) (st' := [.ref 650, .int v2]) 2 rfl ?_
  refine x_gf (c := 605) (ne := 0) (v := .int (q.1 650 29)) rfl (by decide +kernel) rfl rfl ?_
  refine x_ic 53 rfl rfl (fun (hc2 : (q.1 650 29) ≤ v2) => ?_) (fun (hc2 : ¬ (q.1 650 29) ≤ v2) => ?_)
  · rw [if_pos hc2] at hG
    replace hS := hS.1 hc2
    refine x_kill [0, 2] ?_
    exact hG
  · rw [if_neg hc2] at hG
    replace hS := hS.2 hc2
    refine x_run (pc' := 24) (lo' := [some (.ref 650), none, some (.int v2)]) (st' := [.ref 650]) 1 rfl ?_
    refine x_gf (c := 609) (ne := 0) (v := .ref 677) rfl (by decide +kernel) rfl rfl ?_
    refine x_run (pc' := 29) (lo' := [some (.ref 650), none, some (.int v2)]) (st' := [.ref 650, .int v2, .ref 677]) 2 rfl ?_
    refine x_gf (c := 606) (ne := 0) (v := .ref 675) rfl (by decide +kernel) rfl rfl ?_
    refine x_run (pc' := 33) (lo' := [some (.ref 650), none, some (.int v2)]) (st' := [.int v2, .ref 675, .int v2, .ref 677]) 1 rfl ?_
    obtain ⟨o3, hS⟩ := hS
    refine p_ia (n := 60) (v := (q.1 675 (Int32.toNatClampNeg v2))) rfl rfl o3 rfl ?_
    obtain ⟨o4, hS⟩ := hS
    refine p_is (n := 60) rfl rfl o4 ?_
    refine x_run (pc' := 36) (lo' := [some (.ref 650), none, some (.int v2)]) (st' := [.ref 650]) 1 rfl ?_
    refine x_gf (c := 610) (ne := 0) (v := .ref 678) rfl (by decide +kernel) rfl rfl ?_
    refine x_run (pc' := 41) (lo' := [some (.ref 650), none, some (.int v2)]) (st' := [.ref 650, .int v2, .ref 678]) 2 rfl ?_
    refine x_gf (c := 607) (ne := 0) (v := .ref 676) rfl (by decide +kernel) rfl rfl ?_
    refine x_run (pc' := 45) (lo' := [some (.ref 650), none, some (.int v2)]) (st' := [.int v2, .ref 676, .int v2, .ref 678]) 1 rfl ?_
    obtain ⟨o5, hS⟩ := hS
    refine p_ia (n := 60) (v := (q.1 676 (Int32.toNatClampNeg v2))) rfl rfl o5 rfl ?_
    obtain ⟨o6, hS⟩ := hS
    refine p_is (n := 60) rfl rfl o6 ?_
    refine x_run (pc' := 15) (lo' := [some (.ref 650), none, some (.int (v2 + 1))]) (st' := []) 2 rfl ?_
    exact hG
def F162_53 (q : aQ) : aQ := q
def S162_53 (q : aQ) : Prop := True
set_option maxRecDepth 100000 in
set_option maxHeartbeats 4000000 in
theorem A162_53 {l : Launch} {X : aX} {d : Nat} {r : Option Value} {h' : aH} {q : aQ} (hd : 3 ≤ d) (hN : h'.1 = nk0) (hG : gV r h' (F162_53 q)) (hS : S162_53 q) : AW l X 162 c162 d r h' 53 [none, none, none] [] (hp q) := by
  unfold F162_53 at hG
  unfold S162_53 at hS
  obtain ⟨rfl, rfl⟩ := hG
  exact x_ret rfl (by decide +kernel)
def F162_5 (q : aQ) : aQ := (fun (e7 : aQ) => F162_53 e7) (a_lp (fun (s : Int32 × aQ) => F162_15 s.1 s.2) 200 (0, (a_w q 650 32 (q.1 650 29))) (a_w q 650 32 (q.1 650 29)))
def S162_5 (q : aQ) : Prop := a_sf (fun (s : Int32 × aQ) => F162_15 s.1 s.2) (fun (s : Int32 × aQ) => S162_15 s.1 s.2) 200 (0, (a_w q 650 32 (q.1 650 29))) ∧ (fun (e7 : aQ) => S162_53 e7) (a_lp (fun (s : Int32 × aQ) => F162_15 s.1 s.2) 200 (0, (a_w q 650 32 (q.1 650 29))) (a_w q 650 32 (q.1 650 29)))
set_option maxRecDepth 100000 in
set_option maxHeartbeats 4000000 in
theorem A162_5 {l : Launch} {X : aX} {d : Nat} {r : Option Value} {h' : aH} {q : aQ} (hd : 3 ≤ d) (hN : h'.1 = nk0) (hG : gV r h' (F162_5 q)) (hS : S162_5 q) : AW l X 162 c162 d r h' 5 [some (.ref 650), none, none] [] (hp q) := by
  unfold F162_5 at hG
  unfold S162_5 at hS
  refine x_run (pc' := 7) (lo' := [some (.ref 650), none, none]) (st' := [.ref 650, .ref 650]) 2 rfl ?_
  refine x_gf (c := 605) (ne := 0) (v := .int (q.1 650 29)) rfl (by decide +kernel) rfl rfl ?_
  refine x_pf (c := 608) (ne := 0) (h2 := hp (a_w q 650 32 (q.1 650 29))) rfl (by decide +kernel) (by decide +kernel) rfl (pv_i rfl) ?_
  refine x_run (pc' := 15) (lo' := [some (.ref 650), none, some (.int 0)]) (st' := []) 2 rfl ?_
  obtain ⟨ho, hS⟩ := hS
  refine x_loop (fun (s : Int32 × aQ) => F162_15 s.1 s.2) (fun (s : Int32 × aQ) => S162_15 s.1 s.2) (fun (s : Int32 × aQ) => AW l X 162 c162 d r h' 15 [some (.ref 650), none, some (.int s.1)] [] (hp s.2)) (fun (e : aQ) => AW l X 162 c162 d r h' 53 [none, none, none] [] (hp e)) (fun s hs hg => A162_15 hd hN hg hs) 200 (0, (a_w q 650 32 (q.1 650 29))) ho (fun e7 he => ?_)
  rw [a_lp_eq he] at hG hS
  try dsimp only at hG hS
  exact A162_53 hd hN hG hS
def F162_0 (v1 : Int32) (q : aQ) : aQ := F162_5 (F161_0 v1 q)
def S162_0 (v1 : Int32) (q : aQ) : Prop := S161_0 v1 q ∧ (S162_5 (F161_0 v1 q))
set_option maxRecDepth 100000 in
set_option maxHeartbeats 4000000 in
theorem A162_0 {l : Launch} {X : aX} {d : Nat} {r : Option Value} {h' : aH} {v1 : Int32} {q : aQ} (hd : 3 ≤ d) (hN : h'.1 = nk0) (hG : gV r h' (F162_0 v1 q)) (hS : S162_0 v1 q) : AW l X 162 c162 d r h' 0 [some (.ref 650), some (.int v1), none] [] (hp q) := by
  unfold F162_0 at hG
  unfold S162_0 at hS
  refine x_run (pc' := 2) (lo' := [some (.ref 650), some (.int v1), none]) (st' := [.int v1, .ref 650]) 2 rfl ?_
  obtain ⟨o1, hS⟩ := hS
  refine x_cv (j := 161) (ne := 0) (vs := [.int v1]) (rest := []) rfl (by decide +kernel) (by decide +kernel) (by decide) (Eq.trans rfl (show 1 = _ from by decide +kernel)) rfl (by decide +kernel) rfl (Nat.le_of_ble_eq_true rfl) (by omega) (T161 (Nat.le_refl 2) o1) (hp_m hN) ?_
  show AW l X 162 c162 d r h' 5 [some (.ref 650), some (.int v1), none] [] (hp (F161_0 v1 q))
  refine x_kill [1] ?_
  exact A162_5 hd hN hG hS
theorem T162 {l : Launch} {X : aX} {d : Nat} {v1 : Int32} {q : aQ} (hd : 3 ≤ d) (hS : S162_0 v1 q) : Call l X d 162 [.ref 650, .int v1] (hp q) none (hp (F162_0 v1 q)) := Call.of ok162 (by decide) (Nat.le_of_ble_eq_true rfl) ⟨Nat.le_refl _, Nat.le_refl _⟩ (A162_0 hd rfl ⟨rfl, rfl⟩ hS)
/-- TypeForecastModel.keepFit(I)V -/
def F163_12 (v1 : Int32) (v2 : Int32) (q : aQ) : (Int32 × aQ) ⊕ (aQ) := (if 4 ≤ v2 then .inr q else .inl ((v2 + 1), (a_w q 672 (Int32.toNatClampNeg ((4 * v1) + v2)) (q.1 679 (Int32.toNatClampNeg v2)))))
def S163_12 (v1 : Int32) (v2 : Int32) (q : aQ) : Prop := ((4 ≤ v2) → True) ∧ (¬ (4 ≤ v2) → vp_in v2 4 ∧ (vp_in ((4 * v1) + v2) 240 ∧ (True)))
set_option maxRecDepth 100000 in
set_option maxHeartbeats 4000000 in
theorem A163_12 {l : Launch} {X : aX} {d : Nat} {r : Option Value} {h' : aH} {v1 : Int32} {v2 : Int32} {q : aQ} (hd : 1 ≤ d) (hN : h'.1 = nk0) (hG : gL (fun (s : Int32 × aQ) => AW l X 163 c163 d r h' 12 [some (.ref 650), some (.int v1), some (.int s.1)] [] (hp s.2)) (fun (e : aQ) => AW l X 163 c163 d r h' 39 [none, none, none] [] (hp e)) (F163_12 v1 v2 q)) (hS : S163_12 v1 v2 q) : AW l X 163 c163 d r h' 12 [some (.ref 650), some (.int v1), some (.int v2)] [] (hp q) := by
  unfold F163_12 at hG
  unfold S163_12 at hS
  refine x_run (pc' := 14) (lo' := [some (.ref 650), some (.int v1), some (.int v2)]) (st' := [.int 4, .int v2]) 2 rfl ?_
  refine x_ic 39 rfl rfl (fun (hc2 : 4 ≤ v2) => ?_) (fun (hc2 : ¬ 4 ≤ v2) => ?_)
  · rw [if_pos hc2] at hG
    replace hS := hS.1 hc2
    refine x_kill [0, 1, 2] ?_
    exact hG
  · rw [if_neg hc2] at hG
    replace hS := hS.2 hc2
    refine x_run (pc' := 18) (lo' := [some (.ref 650), some (.int v1), some (.int v2)]) (st' := [.ref 650]) 1 rfl ?_
    refine x_gf (c := 602) (ne := 0) (v := .ref 672) rfl (by decide +kernel) rfl rfl ?_
    refine x_run (pc' := 27) (lo' := [some (.ref 650), some (.int v1), some (.int v2)]) (st' := [.ref 650, .int ((4 * v1) + v2), .ref 672]) 6 rfl ?_
    refine x_gf (c := 612) (ne := 0) (v := .ref 679) rfl (by decide +kernel) rfl rfl ?_
    refine x_run (pc' := 31) (lo' := [some (.ref 650), some (.int v1), some (.int v2)]) (st' := [.int v2, .ref 679, .int ((4 * v1) + v2), .ref 672]) 1 rfl ?_
    obtain ⟨o3, hS⟩ := hS
    refine p_ia (n := 4) (v := (q.1 679 (Int32.toNatClampNeg v2))) rfl rfl o3 rfl ?_
    obtain ⟨o4, hS⟩ := hS
    refine p_is (n := 240) rfl rfl o4 ?_
    refine x_run (pc' := 12) (lo' := [some (.ref 650), some (.int v1), some (.int (v2 + 1))]) (st' := []) 2 rfl ?_
    exact hG
def F163_39 (q : aQ) : aQ := q
def S163_39 (q : aQ) : Prop := True
set_option maxRecDepth 100000 in
set_option maxHeartbeats 4000000 in
theorem A163_39 {l : Launch} {X : aX} {d : Nat} {r : Option Value} {h' : aH} {q : aQ} (hd : 1 ≤ d) (hN : h'.1 = nk0) (hG : gV r h' (F163_39 q)) (hS : S163_39 q) : AW l X 163 c163 d r h' 39 [none, none, none] [] (hp q) := by
  unfold F163_39 at hG
  unfold S163_39 at hS
  obtain ⟨rfl, rfl⟩ := hG
  exact x_ret rfl (by decide +kernel)
def F163_0 (v1 : Int32) (q : aQ) : aQ := (fun (e5 : aQ) => F163_39 e5) (a_lp (fun (s : Int32 × aQ) => F163_12 v1 s.1 s.2) 200 (0, (a_w q 671 (Int32.toNatClampNeg v1) (q.1 650 35))) (a_w q 671 (Int32.toNatClampNeg v1) (q.1 650 35)))
def S163_0 (v1 : Int32) (q : aQ) : Prop := vp_in v1 60 ∧ (a_sf (fun (s : Int32 × aQ) => F163_12 v1 s.1 s.2) (fun (s : Int32 × aQ) => S163_12 v1 s.1 s.2) 200 (0, (a_w q 671 (Int32.toNatClampNeg v1) (q.1 650 35))) ∧ (fun (e5 : aQ) => S163_39 e5) (a_lp (fun (s : Int32 × aQ) => F163_12 v1 s.1 s.2) 200 (0, (a_w q 671 (Int32.toNatClampNeg v1) (q.1 650 35))) (a_w q 671 (Int32.toNatClampNeg v1) (q.1 650 35))))
set_option maxRecDepth 100000 in
set_option maxHeartbeats 4000000 in
theorem A163_0 {l : Launch} {X : aX} {d : Nat} {r : Option Value} {h' : aH} {v1 : Int32} {q : aQ} (hd : 1 ≤ d) (hN : h'.1 = nk0) (hG : gV r h' (F163_0 v1 q)) (hS : S163_0 v1 q) : AW l X 163 c163 d r h' 0 [some (.ref 650), some (.int v1), none] [] (hp q) := by
  unfold F163_0 at hG
  unfold S163_0 at hS
  refine x_run (pc' := 1) (lo' := [some (.ref 650), some (.int v1), none]) (st' := [.ref 650]) 1 rfl ?_
  refine x_gf (c := 601) (ne := 0) (v := .ref 671) rfl (by decide +kernel) rfl rfl ?_
  refine x_run (pc' := 6) (lo' := [some (.ref 650), some (.int v1), none]) (st' := [.ref 650, .int v1, .ref 671]) 2 rfl ?_
  refine x_gf (c := 611) (ne := 0) (v := .int (q.1 650 35)) rfl (by decide +kernel) rfl rfl ?_
  obtain ⟨o1, hS⟩ := hS
  refine p_is (n := 60) rfl rfl o1 ?_
  refine x_run (pc' := 12) (lo' := [some (.ref 650), some (.int v1), some (.int 0)]) (st' := []) 2 rfl ?_
  obtain ⟨ho, hS⟩ := hS
  refine x_loop (fun (s : Int32 × aQ) => F163_12 v1 s.1 s.2) (fun (s : Int32 × aQ) => S163_12 v1 s.1 s.2) (fun (s : Int32 × aQ) => AW l X 163 c163 d r h' 12 [some (.ref 650), some (.int v1), some (.int s.1)] [] (hp s.2)) (fun (e : aQ) => AW l X 163 c163 d r h' 39 [none, none, none] [] (hp e)) (fun s hs hg => A163_12 hd hN hg hs) 200 (0, (a_w q 671 (Int32.toNatClampNeg v1) (q.1 650 35))) ho (fun e5 he => ?_)
  rw [a_lp_eq he] at hG hS
  try dsimp only at hG hS
  exact A163_39 hd hN hG hS
theorem T163 {l : Launch} {X : aX} {d : Nat} {v1 : Int32} {q : aQ} (hd : 1 ≤ d) (hS : S163_0 v1 q) : Call l X d 163 [.ref 650, .int v1] (hp q) none (hp (F163_0 v1 q)) := Call.of ok163 (by decide) (Nat.le_of_ble_eq_true rfl) ⟨Nat.le_refl _, Nat.le_refl _⟩ (A163_0 hd rfl ⟨rfl, rfl⟩ hS)
/-- TypeForecastModel.pictureLeaf(I)V -/
def F164_143 (v1 : Int32) (v2 : Int32) (v3 : Int32) (q : aQ) : (Int32 × aQ) ⊕ (aQ) := (if 4 ≤ v3 then .inr q else .inl ((v3 + 1), (a_w q 679 (Int32.toNatClampNeg v3) (q.1 670 (Int32.toNatClampNeg ((4 * v2) + v3))))))
def S164_143 (v1 : Int32) (v2 : Int32) (v3 : Int32) (q : aQ) : Prop := ((4 ≤ v3) → True) ∧ (¬ (4 ≤ v3) → vp_in ((4 * v2) + v3) 20 ∧ (vp_in v3 4 ∧ (True)))
set_option maxRecDepth 100000 in
set_option maxHeartbeats 4000000 in
theorem A164_143 {l : Launch} {X : aX} {d : Nat} {r : Option Value} {h' : aH} {v1 : Int32} {v2 : Int32} {v3 : Int32} {q : aQ} (hd : 3 ≤ d) (hN : h'.1 = nk0) (hG : gL (fun (s : Int32 × aQ) => AW l X 164 c164 d r h' 143 [some (.ref 650), some (.int v1), some (.int v2), some (.int s.1)] [] (hp s.2)) (fun (e : aQ) => AW l X 164 c164 d r h' 170 [some (.ref 650), some (.int v1), none, none] [] (hp e)) (F164_143 v1 v2 v3 q)) (hS : S164_143 v1 v2 v3 q) : AW l X 164 c164 d r h' 143 [some (.ref 650), some (.int v1), some (.int v2), some (.int v3)] [] (hp q) := by
  unfold F164_143 at hG
  unfold S164_143 at hS
  refine x_run (pc' := 145) (lo' := [some (.ref 650), some (.int v1), some (.int v2), some (.int v3)]) (st' := [.int 4, .int v3]) 2 rfl ?_
  refine x_ic 170 rfl rfl (fun (hc16 : 4 ≤ v3) => ?_) (fun (hc16 : ¬ 4 ≤ v3) => ?_)
  · rw [if_pos hc16] at hG
    replace hS := hS.1 hc16
    refine x_kill [2, 3] ?_
    exact hG
  · rw [if_neg hc16] at hG
    replace hS := hS.2 hc16
    refine x_run (pc' := 149) (lo' := [some (.ref 650), some (.int v1), some (.int v2), some (.int v3)]) (st' := [.ref 650]) 1 rfl ?_
    refine x_gf (c := 612) (ne := 0) (v := .ref 679) rfl (by decide +kernel) rfl rfl ?_
    refine x_run (pc' := 154) (lo' := [some (.ref 650), some (.int v1), some (.int v2), some (.int v3)]) (st' := [.ref 650, .int v3, .ref 679]) 2 rfl ?_
    refine x_gf (c := 600) (ne := 0) (v := .ref 670) rfl (by decide +kernel) rfl rfl ?_
    refine x_run (pc' := 162) (lo' := [some (.ref 650), some (.int v1), some (.int v2), some (.int v3)]) (st' := [.int ((4 * v2) + v3), .ref 670, .int v3, .ref 679]) 5 rfl ?_
    obtain ⟨o17, hS⟩ := hS
    refine p_ia (n := 20) (v := (q.1 670 (Int32.toNatClampNeg ((4 * v2) + v3)))) rfl rfl o17 rfl ?_
    obtain ⟨o18, hS⟩ := hS
    refine p_is (n := 4) rfl rfl o18 ?_
    refine x_run (pc' := 143) (lo' := [some (.ref 650), some (.int v1), some (.int v2), some (.int (v3 + 1))]) (st' := []) 2 rfl ?_
    exact hG
def F164_170 (v1 : Int32) (q : aQ) : aQ := (F163_0 v1 q)
def S164_170 (v1 : Int32) (q : aQ) : Prop := S163_0 v1 q ∧ (True)
set_option maxRecDepth 100000 in
set_option maxHeartbeats 4000000 in
theorem A164_170 {l : Launch} {X : aX} {d : Nat} {r : Option Value} {h' : aH} {v1 : Int32} {q : aQ} (hd : 3 ≤ d) (hN : h'.1 = nk0) (hG : gV r h' (F164_170 v1 q)) (hS : S164_170 v1 q) : AW l X 164 c164 d r h' 170 [some (.ref 650), some (.int v1), none, none] [] (hp q) := by
  unfold F164_170 at hG
  unfold S164_170 at hS
  refine x_run (pc' := 172) (lo' := [some (.ref 650), some (.int v1), none, none]) (st' := [.int v1, .ref 650]) 2 rfl ?_
  obtain ⟨o20, hS⟩ := hS
  refine x_cv (j := 163) (ne := 0) (vs := [.int v1]) (rest := []) rfl (by decide +kernel) (by decide +kernel) (by decide) (Eq.trans rfl (show 1 = _ from by decide +kernel)) rfl (by decide +kernel) rfl (Nat.le_of_ble_eq_true rfl) (by omega) (T163 (Nat.le_refl 1) o20) (hp_m hN) ?_
  show AW l X 164 c164 d r h' 175 [some (.ref 650), some (.int v1), none, none] [] (hp (F163_0 v1 q))
  obtain ⟨rfl, rfl⟩ := hG
  exact x_ret rfl (by decide +kernel)
def F164_127 (v1 : Int32) (v2 : Int32) (s0 : Int32) (s1 : Int32) (q : aQ) : aQ := (fun (e19 : aQ) => F164_170 v1 e19) (a_lp (fun (s : Int32 × aQ) => F164_143 v1 v2 s.1 s.2) 200 (0, (a_w (a_w q 673 (Int32.toNatClampNeg s1) s0) 650 35 ((q.1 669 (Int32.toNatClampNeg v2)) &&& 7))) (a_w (a_w q 673 (Int32.toNatClampNeg s1) s0) 650 35 ((q.1 669 (Int32.toNatClampNeg v2)) &&& 7)))
def S164_127 (v1 : Int32) (v2 : Int32) (s0 : Int32) (s1 : Int32) (q : aQ) : Prop := vp_in s1 60 ∧ (vp_in v2 5 ∧ (a_sf (fun (s : Int32 × aQ) => F164_143 v1 v2 s.1 s.2) (fun (s : Int32 × aQ) => S164_143 v1 v2 s.1 s.2) 200 (0, (a_w (a_w q 673 (Int32.toNatClampNeg s1) s0) 650 35 ((q.1 669 (Int32.toNatClampNeg v2)) &&& 7))) ∧ (fun (e19 : aQ) => S164_170 v1 e19) (a_lp (fun (s : Int32 × aQ) => F164_143 v1 v2 s.1 s.2) 200 (0, (a_w (a_w q 673 (Int32.toNatClampNeg s1) s0) 650 35 ((q.1 669 (Int32.toNatClampNeg v2)) &&& 7))) (a_w (a_w q 673 (Int32.toNatClampNeg s1) s0) 650 35 ((q.1 669 (Int32.toNatClampNeg v2)) &&& 7)))))
set_option maxRecDepth 100000 in
set_option maxHeartbeats 4000000 in
theorem A164_127 {l : Launch} {X : aX} {d : Nat} {r : Option Value} {h' : aH} {v1 : Int32} {v2 : Int32} {s0 : Int32} {s1 : Int32} {q : aQ} (hd : 3 ≤ d) (hN : h'.1 = nk0) (hG : gV r h' (F164_127 v1 v2 s0 s1 q)) (hS : S164_127 v1 v2 s0 s1 q) : AW l X 164 c164 d r h' 127 [some (.ref 650), some (.int v1), some (.int v2), none] [.int s0, .int s1, .ref 673] (hp q) := by
  unfold F164_127 at hG
  unfold S164_127 at hS
  obtain ⟨o14, hS⟩ := hS
  refine p_is (n := 60) rfl rfl o14 ?_
  refine x_run (pc' := 130) (lo' := [some (.ref 650), some (.int v1), some (.int v2), none]) (st' := [.ref 650, .ref 650]) 2 rfl ?_
  refine x_gf (c := 599) (ne := 0) (v := .ref 669) rfl (by decide +kernel) rfl rfl ?_
  refine x_run (pc' := 134) (lo' := [some (.ref 650), some (.int v1), some (.int v2), none]) (st' := [.int v2, .ref 669, .ref 650]) 1 rfl ?_
  obtain ⟨o15, hS⟩ := hS
  refine p_ia (n := 5) (v := (q.1 669 (Int32.toNatClampNeg v2))) rfl rfl o15 rfl ?_
  refine x_run (pc' := 138) (lo' := [some (.ref 650), some (.int v1), some (.int v2), none]) (st' := [.int ((q.1 669 (Int32.toNatClampNeg v2)) &&& 7), .ref 650]) 2 rfl ?_
  refine x_pf (c := 611) (ne := 0) (h2 := hp (a_w (a_w q 673 (Int32.toNatClampNeg s1) s0) 650 35 ((q.1 669 (Int32.toNatClampNeg v2)) &&& 7))) rfl (by decide +kernel) (by decide +kernel) rfl (pv_i rfl) ?_
  refine x_run (pc' := 143) (lo' := [some (.ref 650), some (.int v1), some (.int v2), some (.int 0)]) (st' := []) 2 rfl ?_
  obtain ⟨ho, hS⟩ := hS
  refine x_loop (fun (s : Int32 × aQ) => F164_143 v1 v2 s.1 s.2) (fun (s : Int32 × aQ) => S164_143 v1 v2 s.1 s.2) (fun (s : Int32 × aQ) => AW l X 164 c164 d r h' 143 [some (.ref 650), some (.int v1), some (.int v2), some (.int s.1)] [] (hp s.2)) (fun (e : aQ) => AW l X 164 c164 d r h' 170 [some (.ref 650), some (.int v1), none, none] [] (hp e)) (fun s hs hg => A164_143 hd hN hg hs) 200 (0, (a_w (a_w q 673 (Int32.toNatClampNeg s1) s0) 650 35 ((q.1 669 (Int32.toNatClampNeg v2)) &&& 7))) ho (fun e19 he => ?_)
  rw [a_lp_eq he] at hG hS
  try dsimp only at hG hS
  exact A164_170 hd hN hG hS
def F164_102 (v1 : Int32) (q : aQ) : aQ := F164_170 v1 q
def S164_102 (v1 : Int32) (q : aQ) : Prop := S164_170 v1 q
set_option maxRecDepth 100000 in
set_option maxHeartbeats 4000000 in
theorem A164_102 {l : Launch} {X : aX} {d : Nat} {r : Option Value} {h' : aH} {v1 : Int32} {q : aQ} (hd : 3 ≤ d) (hN : h'.1 = nk0) (hG : gV r h' (F164_102 v1 q)) (hS : S164_102 v1 q) : AW l X 164 c164 d r h' 102 [some (.ref 650), some (.int v1), none, none] [] (hp q) := by
  unfold F164_102 at hG
  unfold S164_102 at hS
  refine x_run (pc' := 170) (lo' := [some (.ref 650), some (.int v1), none, none]) (st' := []) 1 rfl ?_
  exact A164_170 hd hN hG hS
def F164_94 (v1 : Int32) (q : aQ) : aQ := F164_102 v1 (F158_0 1 289 q)
def S164_94 (v1 : Int32) (q : aQ) : Prop := S158_0 1 289 q ∧ (S164_102 v1 (F158_0 1 289 q))
set_option maxRecDepth 100000 in
set_option maxHeartbeats 4000000 in
theorem A164_94 {l : Launch} {X : aX} {d : Nat} {r : Option Value} {h' : aH} {v1 : Int32} {q : aQ} (hd : 3 ≤ d) (hN : h'.1 = nk0) (hG : gV r h' (F164_94 v1 q)) (hS : S164_94 v1 q) : AW l X 164 c164 d r h' 94 [some (.ref 650), some (.int v1), none, none] [] (hp q) := by
  unfold F164_94 at hG
  unfold S164_94 at hS
  refine x_run (pc' := 96) (lo' := [some (.ref 650), some (.int v1), none, none]) (st' := [.int 1, .ref 650]) 2 rfl ?_
  refine x_ldc2 (v := 289) (ne := 0) rfl (by decide +kernel) ?_
  obtain ⟨o22, hS⟩ := hS
  refine x_cv (j := 158) (ne := 0) (vs := [.int 1, .long 289]) (rest := []) rfl (by decide +kernel) (by decide +kernel) (by decide) (Eq.trans rfl (show 2 = _ from by decide +kernel)) rfl (by decide +kernel) rfl (Nat.le_of_ble_eq_true rfl) (by omega) (T158 (Nat.le_refl 2) o22) (hp_m hN) ?_
  show AW l X 164 c164 d r h' 102 [some (.ref 650), some (.int v1), none, none] [] (hp (F158_0 1 289 q))
  exact A164_102 hd hN hG hS
def F164_73 (v1 : Int32) (q : aQ) : aQ := F164_170 v1 q
def S164_73 (v1 : Int32) (q : aQ) : Prop := S164_170 v1 q
set_option maxRecDepth 100000 in
set_option maxHeartbeats 4000000 in
theorem A164_73 {l : Launch} {X : aX} {d : Nat} {r : Option Value} {h' : aH} {v1 : Int32} {q : aQ} (hd : 3 ≤ d) (hN : h'.1 = nk0) (hG : gV r h' (F164_73 v1 q)) (hS : S164_73 v1 q) : AW l X 164 c164 d r h' 73 [some (.ref 650), some (.int v1), none, none] [] (hp q) := by
  unfold F164_73 at hG
  unfold S164_73 at hS
  refine x_run (pc' := 170) (lo' := [some (.ref 650), some (.int v1), none, none]) (st' := []) 1 rfl ?_
  exact A164_170 hd hN hG hS
def F164_54 (v1 : Int32) (q : aQ) : aQ := F164_170 v1 q
def S164_54 (v1 : Int32) (q : aQ) : Prop := S164_170 v1 q
set_option maxRecDepth 100000 in
set_option maxHeartbeats 4000000 in
theorem A164_54 {l : Launch} {X : aX} {d : Nat} {r : Option Value} {h' : aH} {v1 : Int32} {q : aQ} (hd : 3 ≤ d) (hN : h'.1 = nk0) (hG : gV r h' (F164_54 v1 q)) (hS : S164_54 v1 q) : AW l X 164 c164 d r h' 54 [some (.ref 650), some (.int v1), none, none] [] (hp q) := by
  unfold F164_54 at hG
  unfold S164_54 at hS
  refine x_run (pc' := 170) (lo' := [some (.ref 650), some (.int v1), none, none]) (st' := []) 1 rfl ?_
  exact A164_170 hd hN hG hS
def F164_34 (v1 : Int32) (q : aQ) : aQ := F164_170 v1 q
def S164_34 (v1 : Int32) (q : aQ) : Prop := S164_170 v1 q
set_option maxRecDepth 100000 in
set_option maxHeartbeats 4000000 in
theorem A164_34 {l : Launch} {X : aX} {d : Nat} {r : Option Value} {h' : aH} {v1 : Int32} {q : aQ} (hd : 3 ≤ d) (hN : h'.1 = nk0) (hG : gV r h' (F164_34 v1 q)) (hS : S164_34 v1 q) : AW l X 164 c164 d r h' 34 [some (.ref 650), some (.int v1), none, none] [] (hp q) := by
  unfold F164_34 at hG
  unfold S164_34 at hS
  refine x_run (pc' := 170) (lo' := [some (.ref 650), some (.int v1), none, none]) (st' := []) 1 rfl ?_
  exact A164_170 hd hN hG hS
def F164_11 (v1 : Int32) (q : aQ) : aQ := (if (q.1 651 (Int32.toNatClampNeg v1)) = 0 then F164_34 v1 (F158_0 1 (Int32.toInt64 (q.1 652 (Int32.toNatClampNeg v1))) q) else (if (q.1 651 (Int32.toNatClampNeg v1)) = 1 then F164_54 v1 (F158_0 2 (Int32.toInt64 (q.1 652 (Int32.toNatClampNeg v1))) q) else (if (q.1 651 (Int32.toNatClampNeg v1)) = 2 then F164_73 v1 (F158_0 4 0 q) else (if (q.1 651 (Int32.toNatClampNeg v1)) = 4 then F164_94 v1 (F158_0 1 (-289) q) else (if ((q.1 669 (Int32.toNatClampNeg (q.1 652 (Int32.toNatClampNeg v1)))) &&& 8) = 0 then F164_127 v1 (q.1 652 (Int32.toNatClampNeg v1)) 0 v1 q else F164_127 v1 (q.1 652 (Int32.toNatClampNeg v1)) 4 v1 q)))))
def S164_11 (v1 : Int32) (q : aQ) : Prop := vp_in v1 60 ∧ (vp_in v1 60 ∧ ((((q.1 651 (Int32.toNatClampNeg v1)) = 0) → S158_0 1 (Int32.toInt64 (q.1 652 (Int32.toNatClampNeg v1))) q ∧ (S164_34 v1 (F158_0 1 (Int32.toInt64 (q.1 652 (Int32.toNatClampNeg v1))) q))) ∧ (¬ ((q.1 651 (Int32.toNatClampNeg v1)) = 0) → vp_in v1 60 ∧ ((((q.1 651 (Int32.toNatClampNeg v1)) = 1) → S158_0 2 (Int32.toInt64 (q.1 652 (Int32.toNatClampNeg v1))) q ∧ (S164_54 v1 (F158_0 2 (Int32.toInt64 (q.1 652 (Int32.toNatClampNeg v1))) q))) ∧ (¬ ((q.1 651 (Int32.toNatClampNeg v1)) = 1) → vp_in v1 60 ∧ ((((q.1 651 (Int32.toNatClampNeg v1)) = 2) → S158_0 4 0 q ∧ (S164_73 v1 (F158_0 4 0 q))) ∧ (¬ ((q.1 651 (Int32.toNatClampNeg v1)) = 2) → vp_in v1 60 ∧ ((((q.1 651 (Int32.toNatClampNeg v1)) = 4) → S158_0 1 (-289) q ∧ (S164_94 v1 (F158_0 1 (-289) q))) ∧ (¬ ((q.1 651 (Int32.toNatClampNeg v1)) = 4) → vp_in (q.1 652 (Int32.toNatClampNeg v1)) 5 ∧ (((((q.1 669 (Int32.toNatClampNeg (q.1 652 (Int32.toNatClampNeg v1)))) &&& 8) = 0) → S164_127 v1 (q.1 652 (Int32.toNatClampNeg v1)) 0 v1 q) ∧ (¬ (((q.1 669 (Int32.toNatClampNeg (q.1 652 (Int32.toNatClampNeg v1)))) &&& 8) = 0) → S164_127 v1 (q.1 652 (Int32.toNatClampNeg v1)) 4 v1 q)))))))))))
set_option maxRecDepth 100000 in
set_option maxHeartbeats 4000000 in
theorem A164_11 {l : Launch} {X : aX} {d : Nat} {r : Option Value} {h' : aH} {v1 : Int32} {q : aQ} (hd : 3 ≤ d) (hN : h'.1 = nk0) (hG : gV r h' (F164_11 v1 q)) (hS : S164_11 v1 q) : AW l X 164 c164 d r h' 11 [some (.ref 650), some (.int v1), none, none] [] (hp q) := by
  unfold F164_11 at hG
  unfold S164_11 at hS
  refine x_run (pc' := 12) (lo' := [some (.ref 650), some (.int v1), none, none]) (st' := [.ref 650]) 1 rfl ?_
  refine x_gf (c := 578) (ne := 0) (v := .ref 652) rfl (by decide +kernel) rfl rfl ?_
  refine x_run (pc' := 16) (lo' := [some (.ref 650), some (.int v1), none, none]) (st' := [.int v1, .ref 652]) 1 rfl ?_
  obtain ⟨o3, hS⟩ := hS
  refine p_ia (n := 60) (v := (q.1 652 (Int32.toNatClampNeg v1))) rfl rfl o3 rfl ?_
  refine x_run (pc' := 19) (lo' := [some (.ref 650), some (.int v1), some (.int (q.1 652 (Int32.toNatClampNeg v1))), none]) (st' := [.ref 650]) 2 rfl ?_
  refine x_gf (c := 577) (ne := 0) (v := .ref 651) rfl (by decide +kernel) rfl rfl ?_
  refine x_run (pc' := 23) (lo' := [some (.ref 650), some (.int v1), some (.int (q.1 652 (Int32.toNatClampNeg v1))), none]) (st' := [.int v1, .ref 651]) 1 rfl ?_
  obtain ⟨o4, hS⟩ := hS
  refine p_ia (n := 60) (v := (q.1 651 (Int32.toNatClampNeg v1))) rfl rfl o4 rfl ?_
  refine x_if 37 rfl rfl (fun (hc5 : ¬ (q.1 651 (Int32.toNatClampNeg v1)) = 0) => ?_) (fun (hc5 : (q.1 651 (Int32.toNatClampNeg v1)) = 0) => ?_)
  · rw [if_neg hc5] at hG
    replace hS := hS.2 hc5
    refine x_run (pc' := 38) (lo' := [some (.ref 650), some (.int v1), some (.int (q.1 652 (Int32.toNatClampNeg v1))), none]) (st' := [.ref 650]) 1 rfl ?_
    refine x_gf (c := 577) (ne := 0) (v := .ref 651) rfl (by decide +kernel) rfl rfl ?_
    refine x_run (pc' := 42) (lo' := [some (.ref 650), some (.int v1), some (.int (q.1 652 (Int32.toNatClampNeg v1))), none]) (st' := [.int v1, .ref 651]) 1 rfl ?_
    obtain ⟨o6, hS⟩ := hS
    refine p_ia (n := 60) (v := (q.1 651 (Int32.toNatClampNeg v1))) rfl rfl o6 rfl ?_
    refine x_run (pc' := 44) (lo' := [some (.ref 650), some (.int v1), some (.int (q.1 652 (Int32.toNatClampNeg v1))), none]) (st' := [.int 1, .int (q.1 651 (Int32.toNatClampNeg v1))]) 1 rfl ?_
    refine x_ic 57 rfl rfl (fun (hc7 : ¬ (q.1 651 (Int32.toNatClampNeg v1)) = 1) => ?_) (fun (hc7 : (q.1 651 (Int32.toNatClampNeg v1)) = 1) => ?_)
    · rw [if_neg hc7] at hG
      replace hS := hS.2 hc7
      refine x_run (pc' := 58) (lo' := [some (.ref 650), some (.int v1), some (.int (q.1 652 (Int32.toNatClampNeg v1))), none]) (st' := [.ref 650]) 1 rfl ?_
      refine x_gf (c := 577) (ne := 0) (v := .ref 651) rfl (by decide +kernel) rfl rfl ?_
      refine x_run (pc' := 62) (lo' := [some (.ref 650), some (.int v1), some (.int (q.1 652 (Int32.toNatClampNeg v1))), none]) (st' := [.int v1, .ref 651]) 1 rfl ?_
      obtain ⟨o8, hS⟩ := hS
      refine p_ia (n := 60) (v := (q.1 651 (Int32.toNatClampNeg v1))) rfl rfl o8 rfl ?_
      refine x_run (pc' := 64) (lo' := [some (.ref 650), some (.int v1), some (.int (q.1 652 (Int32.toNatClampNeg v1))), none]) (st' := [.int 2, .int (q.1 651 (Int32.toNatClampNeg v1))]) 1 rfl ?_
      refine x_ic 76 rfl rfl (fun (hc9 : ¬ (q.1 651 (Int32.toNatClampNeg v1)) = 2) => ?_) (fun (hc9 : (q.1 651 (Int32.toNatClampNeg v1)) = 2) => ?_)
      · rw [if_neg hc9] at hG
        replace hS := hS.2 hc9
        refine x_run (pc' := 77) (lo' := [some (.ref 650), some (.int v1), some (.int (q.1 652 (Int32.toNatClampNeg v1))), none]) (st' := [.ref 650]) 1 rfl ?_
        refine x_gf (c := 577) (ne := 0) (v := .ref 651) rfl (by decide +kernel) rfl rfl ?_
        refine x_run (pc' := 81) (lo' := [some (.ref 650), some (.int v1), some (.int (q.1 652 (Int32.toNatClampNeg v1))), none]) (st' := [.int v1, .ref 651]) 1 rfl ?_
        obtain ⟨o10, hS⟩ := hS
        refine p_ia (n := 60) (v := (q.1 651 (Int32.toNatClampNeg v1))) rfl rfl o10 rfl ?_
        refine x_run (pc' := 83) (lo' := [some (.ref 650), some (.int v1), some (.int (q.1 652 (Int32.toNatClampNeg v1))), none]) (st' := [.int 4, .int (q.1 651 (Int32.toNatClampNeg v1))]) 1 rfl ?_
        refine x_ic 105 rfl rfl (fun (hc11 : ¬ (q.1 651 (Int32.toNatClampNeg v1)) = 4) => ?_) (fun (hc11 : (q.1 651 (Int32.toNatClampNeg v1)) = 4) => ?_)
        · rw [if_neg hc11] at hG
          replace hS := hS.2 hc11
          refine x_run (pc' := 106) (lo' := [some (.ref 650), some (.int v1), some (.int (q.1 652 (Int32.toNatClampNeg v1))), none]) (st' := [.ref 650]) 1 rfl ?_
          refine x_gf (c := 603) (ne := 0) (v := .ref 673) rfl (by decide +kernel) rfl rfl ?_
          refine x_run (pc' := 111) (lo' := [some (.ref 650), some (.int v1), some (.int (q.1 652 (Int32.toNatClampNeg v1))), none]) (st' := [.ref 650, .int v1, .ref 673]) 2 rfl ?_
          refine x_gf (c := 599) (ne := 0) (v := .ref 669) rfl (by decide +kernel) rfl rfl ?_
          refine x_run (pc' := 115) (lo' := [some (.ref 650), some (.int v1), some (.int (q.1 652 (Int32.toNatClampNeg v1))), none]) (st' := [.int (q.1 652 (Int32.toNatClampNeg v1)), .ref 669, .int v1, .ref 673]) 1 rfl ?_
          obtain ⟨o12, hS⟩ := hS
          refine p_ia (n := 5) (v := (q.1 669 (Int32.toNatClampNeg (q.1 652 (Int32.toNatClampNeg v1))))) rfl rfl o12 rfl ?_
          refine x_run (pc' := 119) (lo' := [some (.ref 650), some (.int v1), some (.int (q.1 652 (Int32.toNatClampNeg v1))), none]) (st' := [.int ((q.1 669 (Int32.toNatClampNeg (q.1 652 (Int32.toNatClampNeg v1)))) &&& 8), .int v1, .ref 673]) 2 rfl ?_
          refine x_if 126 rfl rfl (fun (hc13 : ((q.1 669 (Int32.toNatClampNeg (q.1 652 (Int32.toNatClampNeg v1)))) &&& 8) = 0) => ?_) (fun (hc13 : ¬ ((q.1 669 (Int32.toNatClampNeg (q.1 652 (Int32.toNatClampNeg v1)))) &&& 8) = 0) => ?_)
          · rw [if_pos hc13] at hG
            replace hS := hS.1 hc13
            refine x_run (pc' := 127) (lo' := [some (.ref 650), some (.int v1), some (.int (q.1 652 (Int32.toNatClampNeg v1))), none]) (st' := [.int 0, .int v1, .ref 673]) 1 rfl ?_
            exact A164_127 hd hN hG hS
          · rw [if_neg hc13] at hG
            replace hS := hS.2 hc13
            refine x_run (pc' := 127) (lo' := [some (.ref 650), some (.int v1), some (.int (q.1 652 (Int32.toNatClampNeg v1))), none]) (st' := [.int 4, .int v1, .ref 673]) 2 rfl ?_
            exact A164_127 hd hN hG hS
        · rw [if_pos hc11] at hG
          replace hS := hS.1 hc11
          refine x_run (pc' := 88) (lo' := [some (.ref 650), some (.int v1), some (.int (q.1 652 (Int32.toNatClampNeg v1))), none]) (st' := [.int 1, .ref 650]) 2 rfl ?_
          refine x_ldc2 (v := (-289)) (ne := 0) rfl (by decide +kernel) ?_
          obtain ⟨o21, hS⟩ := hS
          refine x_cv (j := 158) (ne := 0) (vs := [.int 1, .long (-289)]) (rest := []) rfl (by decide +kernel) (by decide +kernel) (by decide) (Eq.trans rfl (show 2 = _ from by decide +kernel)) rfl (by decide +kernel) rfl (Nat.le_of_ble_eq_true rfl) (by omega) (T158 (Nat.le_refl 2) o21) (hp_m hN) ?_
          show AW l X 164 c164 d r h' 94 [some (.ref 650), some (.int v1), some (.int (q.1 652 (Int32.toNatClampNeg v1))), none] [] (hp (F158_0 1 (-289) q))
          refine x_kill [2] ?_
          exact A164_94 hd hN hG hS
      · rw [if_pos hc9] at hG
        replace hS := hS.1 hc9
        refine x_run (pc' := 70) (lo' := [some (.ref 650), some (.int v1), some (.int (q.1 652 (Int32.toNatClampNeg v1))), none]) (st' := [.long 0, .int 4, .ref 650]) 3 rfl ?_
        obtain ⟨o23, hS⟩ := hS
        refine x_cv (j := 158) (ne := 0) (vs := [.int 4, .long 0]) (rest := []) rfl (by decide +kernel) (by decide +kernel) (by decide) (Eq.trans rfl (show 2 = _ from by decide +kernel)) rfl (by decide +kernel) rfl (Nat.le_of_ble_eq_true rfl) (by omega) (T158 (Nat.le_refl 2) o23) (hp_m hN) ?_
        show AW l X 164 c164 d r h' 73 [some (.ref 650), some (.int v1), some (.int (q.1 652 (Int32.toNatClampNeg v1))), none] [] (hp (F158_0 4 0 q))
        refine x_kill [2] ?_
        exact A164_73 hd hN hG hS
    · rw [if_pos hc7] at hG
      replace hS := hS.1 hc7
      refine x_run (pc' := 51) (lo' := [some (.ref 650), some (.int v1), some (.int (q.1 652 (Int32.toNatClampNeg v1))), none]) (st' := [.long (Int32.toInt64 (q.1 652 (Int32.toNatClampNeg v1))), .int 2, .ref 650]) 4 rfl ?_
      obtain ⟨o24, hS⟩ := hS
      refine x_cv (j := 158) (ne := 0) (vs := [.int 2, .long (Int32.toInt64 (q.1 652 (Int32.toNatClampNeg v1)))]) (rest := []) rfl (by decide +kernel) (by decide +kernel) (by decide) (Eq.trans rfl (show 2 = _ from by decide +kernel)) rfl (by decide +kernel) rfl (Nat.le_of_ble_eq_true rfl) (by omega) (T158 (Nat.le_refl 2) o24) (hp_m hN) ?_
      show AW l X 164 c164 d r h' 54 [some (.ref 650), some (.int v1), some (.int (q.1 652 (Int32.toNatClampNeg v1))), none] [] (hp (F158_0 2 (Int32.toInt64 (q.1 652 (Int32.toNatClampNeg v1))) q))
      refine x_kill [2] ?_
      exact A164_54 hd hN hG hS
  · rw [if_pos hc5] at hG
    replace hS := hS.1 hc5
    refine x_run (pc' := 31) (lo' := [some (.ref 650), some (.int v1), some (.int (q.1 652 (Int32.toNatClampNeg v1))), none]) (st' := [.long (Int32.toInt64 (q.1 652 (Int32.toNatClampNeg v1))), .int 1, .ref 650]) 4 rfl ?_
    obtain ⟨o25, hS⟩ := hS
    refine x_cv (j := 158) (ne := 0) (vs := [.int 1, .long (Int32.toInt64 (q.1 652 (Int32.toNatClampNeg v1)))]) (rest := []) rfl (by decide +kernel) (by decide +kernel) (by decide) (Eq.trans rfl (show 2 = _ from by decide +kernel)) rfl (by decide +kernel) rfl (Nat.le_of_ble_eq_true rfl) (by omega) (T158 (Nat.le_refl 2) o25) (hp_m hN) ?_
    show AW l X 164 c164 d r h' 34 [some (.ref 650), some (.int v1), some (.int (q.1 652 (Int32.toNatClampNeg v1))), none] [] (hp (F158_0 1 (Int32.toInt64 (q.1 652 (Int32.toNatClampNeg v1))) q))
    refine x_kill [2] ?_
    exact A164_34 hd hN hG hS
def F164_0 (v1 : Int32) (q : aQ) : aQ := F164_11 v1 (F157_0 (a_w q 673 (Int32.toNatClampNeg v1) 0))
def S164_0 (v1 : Int32) (q : aQ) : Prop := vp_in v1 60 ∧ (S157_0 (a_w q 673 (Int32.toNatClampNeg v1) 0) ∧ (S164_11 v1 (F157_0 (a_w q 673 (Int32.toNatClampNeg v1) 0))))
set_option maxRecDepth 100000 in
set_option maxHeartbeats 4000000 in
theorem A164_0 {l : Launch} {X : aX} {d : Nat} {r : Option Value} {h' : aH} {v1 : Int32} {q : aQ} (hd : 3 ≤ d) (hN : h'.1 = nk0) (hG : gV r h' (F164_0 v1 q)) (hS : S164_0 v1 q) : AW l X 164 c164 d r h' 0 [some (.ref 650), some (.int v1), none, none] [] (hp q) := by
  unfold F164_0 at hG
  unfold S164_0 at hS
  refine x_run (pc' := 1) (lo' := [some (.ref 650), some (.int v1), none, none]) (st' := [.ref 650]) 1 rfl ?_
  refine x_gf (c := 603) (ne := 0) (v := .ref 673) rfl (by decide +kernel) rfl rfl ?_
  refine x_run (pc' := 6) (lo' := [some (.ref 650), some (.int v1), none, none]) (st' := [.int 0, .int v1, .ref 673]) 2 rfl ?_
  obtain ⟨o1, hS⟩ := hS
  refine p_is (n := 60) rfl rfl o1 ?_
  refine x_run (pc' := 8) (lo' := [some (.ref 650), some (.int v1), none, none]) (st' := [.ref 650]) 1 rfl ?_
  obtain ⟨o2, hS⟩ := hS
  refine x_cv (j := 157) (ne := 0) (vs := []) (rest := []) rfl (by decide +kernel) (by decide +kernel) (by decide) (Eq.trans rfl (show 0 = _ from by decide +kernel)) rfl (by decide +kernel) rfl (Nat.le_of_ble_eq_true rfl) (by omega) (T157 (Nat.le_refl 1) o2) (hp_m hN) ?_
  show AW l X 164 c164 d r h' 11 [some (.ref 650), some (.int v1), none, none] [] (hp (F157_0 (a_w q 673 (Int32.toNatClampNeg v1) 0)))
  exact A164_11 hd hN hG hS
theorem T164 {l : Launch} {X : aX} {d : Nat} {v1 : Int32} {q : aQ} (hd : 3 ≤ d) (hS : S164_0 v1 q) : Call l X d 164 [.ref 650, .int v1] (hp q) none (hp (F164_0 v1 q)) := Call.of ok164 (by decide) (Nat.le_of_ble_eq_true rfl) ⟨Nat.le_refl _, Nat.le_refl _⟩ (A164_0 hd rfl ⟨rfl, rfl⟩ hS)
/-- TypeForecastModel.pictureOperation(I)V -/
def F165_252 (v1 : Int32) (q : aQ) : aQ := (F163_0 v1 q)
def S165_252 (v1 : Int32) (q : aQ) : Prop := S163_0 v1 q ∧ (True)
set_option maxRecDepth 100000 in
set_option maxHeartbeats 4000000 in
theorem A165_252 {l : Launch} {X : aX} {d : Nat} {r : Option Value} {h' : aH} {v1 : Int32} {q : aQ} (hd : 4 ≤ d) (hN : h'.1 = nk0) (hG : gV r h' (F165_252 v1 q)) (hS : S165_252 v1 q) : AW l X 165 c165 d r h' 252 [some (.ref 650), some (.int v1), none, none, none, none, none] [] (hp q) := by
  unfold F165_252 at hG
  unfold S165_252 at hS
  refine x_run (pc' := 254) (lo' := [some (.ref 650), some (.int v1), none, none, none, none, none]) (st' := [.int v1, .ref 650]) 2 rfl ?_
  obtain ⟨o10, hS⟩ := hS
  refine x_cv (j := 163) (ne := 0) (vs := [.int v1]) (rest := []) rfl (by decide +kernel) (by decide +kernel) (by decide) (Eq.trans rfl (show 1 = _ from by decide +kernel)) rfl (by decide +kernel) rfl (Nat.le_of_ble_eq_true rfl) (by omega) (T163 (Nat.le_refl 1) o10) (hp_m hN) ?_
  show AW l X 165 c165 d r h' 257 [some (.ref 650), some (.int v1), none, none, none, none, none] [] (hp (F163_0 v1 q))
  obtain ⟨rfl, rfl⟩ := hG
  exact x_ret rfl (by decide +kernel)
def F165_240 (v1 : Int32) (v2 : Int32) (v3 : Int32) (v4 : Int32) (v5 : Int32) (v6 : Int32) (q : aQ) : (Int32 × aQ) ⊕ (aQ) := .inl ((v6 + 1), q)
def S165_240 (v1 : Int32) (v2 : Int32) (v3 : Int32) (v4 : Int32) (v5 : Int32) (v6 : Int32) (q : aQ) : Prop := True
set_option maxRecDepth 100000 in
set_option maxHeartbeats 4000000 in
theorem A165_240 {l : Launch} {X : aX} {d : Nat} {r : Option Value} {h' : aH} {v1 : Int32} {v2 : Int32} {v3 : Int32} {v4 : Int32} {v5 : Int32} {v6 : Int32} {q : aQ} (hd : 4 ≤ d) (hN : h'.1 = nk0) (hG : gL (fun (s : Int32 × aQ) => AW l X 165 c165 d r h' 156 [some (.ref 650), some (.int v1), some (.int v2), some (.int v3), some (.int v4), some (.int v5), some (.int s.1)] [] (hp s.2)) (fun (e : aQ) => AW l X 165 c165 d r h' 246 [some (.ref 650), some (.int v1), some (.int v2), some (.int v3), some (.int v4), none, none] [] (hp e)) (F165_240 v1 v2 v3 v4 v5 v6 q)) (hS : S165_240 v1 v2 v3 v4 v5 v6 q) : AW l X 165 c165 d r h' 240 [some (.ref 650), some (.int v1), some (.int v2), some (.int v3), some (.int v4), some (.int v5), some (.int v6)] [] (hp q) := by
  unfold F165_240 at hG
  unfold S165_240 at hS
  refine x_run (pc' := 156) (lo' := [some (.ref 650), some (.int v1), some (.int v2), some (.int v3), some (.int v4), some (.int v5), some (.int (v6 + 1))]) (st' := []) 2 rfl ?_
  exact hG
def F165_198 (v1 : Int32) (v2 : Int32) (v3 : Int32) (v4 : Int32) (v5 : Int32) (v6 : Int32) (q : aQ) : (Int32 × aQ) ⊕ (aQ) := (if (q.1 650 37) = 0 then F165_240 v1 v2 v3 v4 v5 v6 (a_w q 673 (Int32.toNatClampNeg v1) ((q.1 673 (Int32.toNatClampNeg v1)) ||| (1 <<< ((Int64.toInt32 (q.2 650 38)) &&& 31)))) else F165_240 v1 v2 v3 v4 v5 v6 (F158_0 (q.1 650 37) (q.2 650 38) q))
def S165_198 (v1 : Int32) (v2 : Int32) (v3 : Int32) (v4 : Int32) (v5 : Int32) (v6 : Int32) (q : aQ) : Prop := (((q.1 650 37) = 0) → vp_in v1 60 ∧ (vp_in v1 60 ∧ (S165_240 v1 v2 v3 v4 v5 v6 (a_w q 673 (Int32.toNatClampNeg v1) ((q.1 673 (Int32.toNatClampNeg v1)) ||| (1 <<< ((Int64.toInt32 (q.2 650 38)) &&& 31))))))) ∧ (¬ ((q.1 650 37) = 0) → S158_0 (q.1 650 37) (q.2 650 38) q ∧ (S165_240 v1 v2 v3 v4 v5 v6 (F158_0 (q.1 650 37) (q.2 650 38) q)))
set_option maxRecDepth 100000 in
set_option maxHeartbeats 4000000 in
theorem A165_198 {l : Launch} {X : aX} {d : Nat} {r : Option Value} {h' : aH} {v1 : Int32} {v2 : Int32} {v3 : Int32} {v4 : Int32} {v5 : Int32} {v6 : Int32} {q : aQ} (hd : 4 ≤ d) (hN : h'.1 = nk0) (hG : gL (fun (s : Int32 × aQ) => AW l X 165 c165 d r h' 156 [some (.ref 650), some (.int v1), some (.int v2), some (.int v3), some (.int v4), some (.int v5), some (.int s.1)] [] (hp s.2)) (fun (e : aQ) => AW l X 165 c165 d r h' 246 [some (.ref 650), some (.int v1), some (.int v2), some (.int v3), some (.int v4), none, none] [] (hp e)) (F165_198 v1 v2 v3 v4 v5 v6 q)) (hS : S165_198 v1 v2 v3 v4 v5 v6 q) : AW l X 165 c165 d r h' 198 [some (.ref 650), some (.int v1), some (.int v2), some (.int v3), some (.int v4), some (.int v5), some (.int v6)] [] (hp q) := by
  unfold F165_198 at hG
  unfold S165_198 at hS
  refine x_run (pc' := 199) (lo' := [some (.ref 650), some (.int v1), some (.int v2), some (.int v3), some (.int v4), some (.int v5), some (.int v6)]) (st' := [.ref 650]) 1 rfl ?_
  refine x_gf (c := 613) (ne := 0) (v := .int (q.1 650 37)) rfl (by decide +kernel) rfl rfl ?_
  refine x_if 228 rfl rfl (fun (hc29 : ¬ (q.1 650 37) = 0) => ?_) (fun (hc29 : (q.1 650 37) = 0) => ?_)
  · rw [if_neg hc29] at hG
    replace hS := hS.2 hc29
    refine x_run (pc' := 230) (lo' := [some (.ref 650), some (.int v1), some (.int v2), some (.int v3), some (.int v4), some (.int v5), some (.int v6)]) (st' := [.ref 650, .ref 650]) 2 rfl ?_
    refine x_gf (c := 613) (ne := 0) (v := .int (q.1 650 37)) rfl (by decide +kernel) rfl rfl ?_
    refine x_run (pc' := 234) (lo' := [some (.ref 650), some (.int v1), some (.int v2), some (.int v3), some (.int v4), some (.int v5), some (.int v6)]) (st' := [.ref 650, .int (q.1 650 37), .ref 650]) 1 rfl ?_
    refine x_gf (c := 614) (ne := 0) (v := .long (q.2 650 38)) rfl (by decide +kernel) rfl rfl ?_
    obtain ⟨o30, hS⟩ := hS
    refine x_cv (j := 158) (ne := 0) (vs := [.int (q.1 650 37), .long (q.2 650 38)]) (rest := []) rfl (by decide +kernel) (by decide +kernel) (by decide) (Eq.trans rfl (show 2 = _ from by decide +kernel)) rfl (by decide +kernel) rfl (Nat.le_of_ble_eq_true rfl) (by omega) (T158 (Nat.le_refl 2) o30) (hp_m hN) ?_
    show AW l X 165 c165 d r h' 240 [some (.ref 650), some (.int v1), some (.int v2), some (.int v3), some (.int v4), some (.int v5), some (.int v6)] [] (hp (F158_0 (q.1 650 37) (q.2 650 38) q))
    exact A165_240 hd hN hG hS
  · rw [if_pos hc29] at hG
    replace hS := hS.1 hc29
    refine x_run (pc' := 206) (lo' := [some (.ref 650), some (.int v1), some (.int v2), some (.int v3), some (.int v4), some (.int v5), some (.int v6)]) (st' := [.ref 650]) 1 rfl ?_
    refine x_gf (c := 603) (ne := 0) (v := .ref 673) rfl (by decide +kernel) rfl rfl ?_
    refine x_run (pc' := 211) (lo' := [some (.ref 650), some (.int v1), some (.int v2), some (.int v3), some (.int v4), some (.int v5), some (.int v6)]) (st' := [.ref 650, .int v1, .ref 673]) 2 rfl ?_
    refine x_gf (c := 603) (ne := 0) (v := .ref 673) rfl (by decide +kernel) rfl rfl ?_
    refine x_run (pc' := 215) (lo' := [some (.ref 650), some (.int v1), some (.int v2), some (.int v3), some (.int v4), some (.int v5), some (.int v6)]) (st' := [.int v1, .ref 673, .int v1, .ref 673]) 1 rfl ?_
    obtain ⟨o31, hS⟩ := hS
    refine p_ia (n := 60) (v := (q.1 673 (Int32.toNatClampNeg v1))) rfl rfl o31 rfl ?_
    refine x_run (pc' := 218) (lo' := [some (.ref 650), some (.int v1), some (.int v2), some (.int v3), some (.int v4), some (.int v5), some (.int v6)]) (st' := [.ref 650, .int 1, .int (q.1 673 (Int32.toNatClampNeg v1)), .int v1, .ref 673]) 2 rfl ?_
    refine x_gf (c := 614) (ne := 0) (v := .long (q.2 650 38)) rfl (by decide +kernel) rfl rfl ?_
    refine x_run (pc' := 224) (lo' := [some (.ref 650), some (.int v1), some (.int v2), some (.int v3), some (.int v4), some (.int v5), some (.int v6)]) (st' := [.int ((q.1 673 (Int32.toNatClampNeg v1)) ||| (1 <<< ((Int64.toInt32 (q.2 650 38)) &&& 31))), .int v1, .ref 673]) 3 rfl ?_
    obtain ⟨o32, hS⟩ := hS
    refine p_is (n := 60) rfl rfl o32 ?_
    refine x_run (pc' := 240) (lo' := [some (.ref 650), some (.int v1), some (.int v2), some (.int v3), some (.int v4), some (.int v5), some (.int v6)]) (st' := []) 1 rfl ?_
    exact A165_240 hd hN hG hS
def F165_156 (v1 : Int32) (v2 : Int32) (v3 : Int32) (v4 : Int32) (v5 : Int32) (v6 : Int32) (q : aQ) : (Int32 × aQ) ⊕ (aQ) := (if v5 ≤ v6 then .inr q else F165_198 v1 v2 v3 v4 v5 v6 (F154_0 v2 (q.1 675 (Int32.toNatClampNeg v4)) (Int32.toInt64 (q.1 676 (Int32.toNatClampNeg v4))) (q.1 677 (Int32.toNatClampNeg v6)) (Int32.toInt64 (q.1 678 (Int32.toNatClampNeg v6))) q))
def S165_156 (v1 : Int32) (v2 : Int32) (v3 : Int32) (v4 : Int32) (v5 : Int32) (v6 : Int32) (q : aQ) : Prop := ((v5 ≤ v6) → True) ∧ (¬ (v5 ≤ v6) → vp_in v4 60 ∧ (vp_in v4 60 ∧ (vp_in v6 60 ∧ (vp_in v6 60 ∧ (S154_0 v2 (q.1 675 (Int32.toNatClampNeg v4)) (Int32.toInt64 (q.1 676 (Int32.toNatClampNeg v4))) (q.1 677 (Int32.toNatClampNeg v6)) (Int32.toInt64 (q.1 678 (Int32.toNatClampNeg v6))) q ∧ (S165_198 v1 v2 v3 v4 v5 v6 (F154_0 v2 (q.1 675 (Int32.toNatClampNeg v4)) (Int32.toInt64 (q.1 676 (Int32.toNatClampNeg v4))) (q.1 677 (Int32.toNatClampNeg v6)) (Int32.toInt64 (q.1 678 (Int32.toNatClampNeg v6))) q)))))))
set_option maxRecDepth 100000 in
set_option maxHeartbeats 4000000 in
theorem A165_156 {l : Launch} {X : aX} {d : Nat} {r : Option Value} {h' : aH} {v1 : Int32} {v2 : Int32} {v3 : Int32} {v4 : Int32} {v5 : Int32} {v6 : Int32} {q : aQ} (hd : 4 ≤ d) (hN : h'.1 = nk0) (hG : gL (fun (s : Int32 × aQ) => AW l X 165 c165 d r h' 156 [some (.ref 650), some (.int v1), some (.int v2), some (.int v3), some (.int v4), some (.int v5), some (.int s.1)] [] (hp s.2)) (fun (e : aQ) => AW l X 165 c165 d r h' 246 [some (.ref 650), some (.int v1), some (.int v2), some (.int v3), some (.int v4), none, none] [] (hp e)) (F165_156 v1 v2 v3 v4 v5 v6 q)) (hS : S165_156 v1 v2 v3 v4 v5 v6 q) : AW l X 165 c165 d r h' 156 [some (.ref 650), some (.int v1), some (.int v2), some (.int v3), some (.int v4), some (.int v5), some (.int v6)] [] (hp q) := by
  unfold F165_156 at hG
  unfold S165_156 at hS
  refine x_run (pc' := 160) (lo' := [some (.ref 650), some (.int v1), some (.int v2), some (.int v3), some (.int v4), some (.int v5), some (.int v6)]) (st' := [.int v5, .int v6]) 2 rfl ?_
  refine x_ic 246 rfl rfl (fun (hc23 : v5 ≤ v6) => ?_) (fun (hc23 : ¬ v5 ≤ v6) => ?_)
  · rw [if_pos hc23] at hG
    replace hS := hS.1 hc23
    refine x_kill [5, 6] ?_
    exact hG
  · rw [if_neg hc23] at hG
    replace hS := hS.2 hc23
    refine x_run (pc' := 166) (lo' := [some (.ref 650), some (.int v1), some (.int v2), some (.int v3), some (.int v4), some (.int v5), some (.int v6)]) (st' := [.ref 650, .int v2, .ref 650]) 3 rfl ?_
    refine x_gf (c := 606) (ne := 0) (v := .ref 675) rfl (by decide +kernel) rfl rfl ?_
    refine x_run (pc' := 171) (lo' := [some (.ref 650), some (.int v1), some (.int v2), some (.int v3), some (.int v4), some (.int v5), some (.int v6)]) (st' := [.int v4, .ref 675, .int v2, .ref 650]) 1 rfl ?_
    obtain ⟨o24, hS⟩ := hS
    refine p_ia (n := 60) (v := (q.1 675 (Int32.toNatClampNeg v4))) rfl rfl o24 rfl ?_
    refine x_run (pc' := 173) (lo' := [some (.ref 650), some (.int v1), some (.int v2), some (.int v3), some (.int v4), some (.int v5), some (.int v6)]) (st' := [.ref 650, .int (q.1 675 (Int32.toNatClampNeg v4)), .int v2, .ref 650]) 1 rfl ?_
    refine x_gf (c := 607) (ne := 0) (v := .ref 676) rfl (by decide +kernel) rfl rfl ?_
    refine x_run (pc' := 178) (lo' := [some (.ref 650), some (.int v1), some (.int v2), some (.int v3), some (.int v4), some (.int v5), some (.int v6)]) (st' := [.int v4, .ref 676, .int (q.1 675 (Int32.toNatClampNeg v4)), .int v2, .ref 650]) 1 rfl ?_
    obtain ⟨o25, hS⟩ := hS
    refine p_ia (n := 60) (v := (q.1 676 (Int32.toNatClampNeg v4))) rfl rfl o25 rfl ?_
    refine x_run (pc' := 181) (lo' := [some (.ref 650), some (.int v1), some (.int v2), some (.int v3), some (.int v4), some (.int v5), some (.int v6)]) (st' := [.ref 650, .long (Int32.toInt64 (q.1 676 (Int32.toNatClampNeg v4))), .int (q.1 675 (Int32.toNatClampNeg v4)), .int v2, .ref 650]) 2 rfl ?_
    refine x_gf (c := 609) (ne := 0) (v := .ref 677) rfl (by decide +kernel) rfl rfl ?_
    refine x_run (pc' := 186) (lo' := [some (.ref 650), some (.int v1), some (.int v2), some (.int v3), some (.int v4), some (.int v5), some (.int v6)]) (st' := [.int v6, .ref 677, .long (Int32.toInt64 (q.1 676 (Int32.toNatClampNeg v4))), .int (q.1 675 (Int32.toNatClampNeg v4)), .int v2, .ref 650]) 1 rfl ?_
    obtain ⟨o26, hS⟩ := hS
    refine p_ia (n := 60) (v := (q.1 677 (Int32.toNatClampNeg v6))) rfl rfl o26 rfl ?_
    refine x_run (pc' := 188) (lo' := [some (.ref 650), some (.int v1), some (.int v2), some (.int v3), some (.int v4), some (.int v5), some (.int v6)]) (st' := [.ref 650, .int (q.1 677 (Int32.toNatClampNeg v6)), .long (Int32.toInt64 (q.1 676 (Int32.toNatClampNeg v4))), .int (q.1 675 (Int32.toNatClampNeg v4)), .int v2, .ref 650]) 1 rfl ?_
    refine x_gf (c := 610) (ne := 0) (v := .ref 678) rfl (by decide +kernel) rfl rfl ?_
    refine x_run (pc' := 193) (lo' := [some (.ref 650), some (.int v1), some (.int v2), some (.int v3), some (.int v4), some (.int v5), some (.int v6)]) (st' := [.int v6, .ref 678, .int (q.1 677 (Int32.toNatClampNeg v6)), .long (Int32.toInt64 (q.1 676 (Int32.toNatClampNeg v4))), .int (q.1 675 (Int32.toNatClampNeg v4)), .int v2, .ref 650]) 1 rfl ?_
    obtain ⟨o27, hS⟩ := hS
    refine p_ia (n := 60) (v := (q.1 678 (Int32.toNatClampNeg v6))) rfl rfl o27 rfl ?_
    refine x_run (pc' := 195) (lo' := [some (.ref 650), some (.int v1), some (.int v2), some (.int v3), some (.int v4), some (.int v5), some (.int v6)]) (st' := [.long (Int32.toInt64 (q.1 678 (Int32.toNatClampNeg v6))), .int (q.1 677 (Int32.toNatClampNeg v6)), .long (Int32.toInt64 (q.1 676 (Int32.toNatClampNeg v4))), .int (q.1 675 (Int32.toNatClampNeg v4)), .int v2, .ref 650]) 1 rfl ?_
    obtain ⟨o28, hS⟩ := hS
    refine x_cv (j := 154) (ne := 0) (vs := [.int v2, .int (q.1 675 (Int32.toNatClampNeg v4)), .long (Int32.toInt64 (q.1 676 (Int32.toNatClampNeg v4))), .int (q.1 677 (Int32.toNatClampNeg v6)), .long (Int32.toInt64 (q.1 678 (Int32.toNatClampNeg v6)))]) (rest := []) rfl (by decide +kernel) (by decide +kernel) (by decide) (Eq.trans rfl (show 5 = _ from by decide +kernel)) rfl (by decide +kernel) rfl (Nat.le_of_ble_eq_true rfl) (by omega) (T154 (Nat.le_refl 2) o28) (hp_m hN) ?_
    show AW l X 165 c165 d r h' 198 [some (.ref 650), some (.int v1), some (.int v2), some (.int v3), some (.int v4), some (.int v5), some (.int v6)] [] (hp (F154_0 v2 (q.1 675 (Int32.toNatClampNeg v4)) (Int32.toInt64 (q.1 676 (Int32.toNatClampNeg v4))) (q.1 677 (Int32.toNatClampNeg v6)) (Int32.toInt64 (q.1 678 (Int32.toNatClampNeg v6))) q))
    exact A165_198 hd hN hG hS
def F165_246 (v1 : Int32) (v2 : Int32) (v3 : Int32) (v4 : Int32) (q : aQ) : (Int32 × aQ) ⊕ (aQ) := .inl ((v4 + 1), q)
def S165_246 (v1 : Int32) (v2 : Int32) (v3 : Int32) (v4 : Int32) (q : aQ) : Prop := True
set_option maxRecDepth 100000 in
set_option maxHeartbeats 4000000 in
theorem A165_246 {l : Launch} {X : aX} {d : Nat} {r : Option Value} {h' : aH} {v1 : Int32} {v2 : Int32} {v3 : Int32} {v4 : Int32} {q : aQ} (hd : 4 ≤ d) (hN : h'.1 = nk0) (hG : gL (fun (s : Int32 × aQ) => AW l X 165 c165 d r h' 130 [some (.ref 650), some (.int v1), some (.int v2), some (.int v3), some (.int s.1), none, none] [] (hp s.2)) (fun (e : aQ) => AW l X 165 c165 d r h' 252 [some (.ref 650), some (.int v1), none, none, none, none, none] [] (hp e)) (F165_246 v1 v2 v3 v4 q)) (hS : S165_246 v1 v2 v3 v4 q) : AW l X 165 c165 d r h' 246 [some (.ref 650), some (.int v1), some (.int v2), some (.int v3), some (.int v4), none, none] [] (hp q) := by
  unfold F165_246 at hG
  unfold S165_246 at hS
  refine x_run (pc' := 130) (lo' := [some (.ref 650), some (.int v1), some (.int v2), some (.int v3), some (.int (v4 + 1)), none, none]) (st' := []) 2 rfl ?_
  exact hG
def F165_151 (v1 : Int32) (v2 : Int32) (v3 : Int32) (v4 : Int32) (s0 : Int32) (q : aQ) : (Int32 × aQ) ⊕ (aQ) := (fun (e33 : aQ) => F165_246 v1 v2 v3 v4 e33) (a_lp (fun (s : Int32 × aQ) => F165_156 v1 v2 v3 v4 s0 s.1 s.2) 200 (0, q) q)
def S165_151 (v1 : Int32) (v2 : Int32) (v3 : Int32) (v4 : Int32) (s0 : Int32) (q : aQ) : Prop := a_sf (fun (s : Int32 × aQ) => F165_156 v1 v2 v3 v4 s0 s.1 s.2) (fun (s : Int32 × aQ) => S165_156 v1 v2 v3 v4 s0 s.1 s.2) 200 (0, q) ∧ (fun (e33 : aQ) => S165_246 v1 v2 v3 v4 e33) (a_lp (fun (s : Int32 × aQ) => F165_156 v1 v2 v3 v4 s0 s.1 s.2) 200 (0, q) q)
set_option maxRecDepth 100000 in
set_option maxHeartbeats 4000000 in
theorem A165_151 {l : Launch} {X : aX} {d : Nat} {r : Option Value} {h' : aH} {v1 : Int32} {v2 : Int32} {v3 : Int32} {v4 : Int32} {s0 : Int32} {q : aQ} (hd : 4 ≤ d) (hN : h'.1 = nk0) (hG : gL (fun (s : Int32 × aQ) => AW l X 165 c165 d r h' 130 [some (.ref 650), some (.int v1), some (.int v2), some (.int v3), some (.int s.1), none, none] [] (hp s.2)) (fun (e : aQ) => AW l X 165 c165 d r h' 252 [some (.ref 650), some (.int v1), none, none, none, none, none] [] (hp e)) (F165_151 v1 v2 v3 v4 s0 q)) (hS : S165_151 v1 v2 v3 v4 s0 q) : AW l X 165 c165 d r h' 151 [some (.ref 650), some (.int v1), some (.int v2), some (.int v3), some (.int v4), none, none] [.int s0] (hp q) := by
  unfold F165_151 at hG
  unfold S165_151 at hS
  refine x_run (pc' := 156) (lo' := [some (.ref 650), some (.int v1), some (.int v2), some (.int v3), some (.int v4), some (.int s0), some (.int 0)]) (st' := []) 3 rfl ?_
  obtain ⟨ho, hS⟩ := hS
  refine x_loop (fun (s : Int32 × aQ) => F165_156 v1 v2 v3 v4 s0 s.1 s.2) (fun (s : Int32 × aQ) => S165_156 v1 v2 v3 v4 s0 s.1 s.2) (fun (s : Int32 × aQ) => AW l X 165 c165 d r h' 156 [some (.ref 650), some (.int v1), some (.int v2), some (.int v3), some (.int v4), some (.int s0), some (.int s.1)] [] (hp s.2)) (fun (e : aQ) => AW l X 165 c165 d r h' 246 [some (.ref 650), some (.int v1), some (.int v2), some (.int v3), some (.int v4), none, none] [] (hp e)) (fun s hs hg => A165_156 hd hN hg hs) 200 (0, q) ho (fun e33 he => ?_)
  rw [a_lp_eq he] at hG hS
  try dsimp only at hG hS
  exact A165_246 hd hN hG hS
def F165_130 (v1 : Int32) (v2 : Int32) (v3 : Int32) (v4 : Int32) (q : aQ) : (Int32 × aQ) ⊕ (aQ) := (if (q.1 650 29) ≤ v4 then .inr q else (if v3 = 0 then F165_151 v1 v2 v3 v4 (q.1 650 32) q else F165_151 v1 v2 v3 v4 1 q))
def S165_130 (v1 : Int32) (v2 : Int32) (v3 : Int32) (v4 : Int32) (q : aQ) : Prop := (((q.1 650 29) ≤ v4) → True) ∧ (¬ ((q.1 650 29) ≤ v4) → ((v3 = 0) → S165_151 v1 v2 v3 v4 (q.1 650 32) q) ∧ (¬ (v3 = 0) → S165_151 v1 v2 v3 v4 1 q))
set_option maxRecDepth 100000 in
set_option maxHeartbeats 4000000 in
theorem A165_130 {l : Launch} {X : aX} {d : Nat} {r : Option Value} {h' : aH} {v1 : Int32} {v2 : Int32} {v3 : Int32} {v4 : Int32} {q : aQ} (hd : 4 ≤ d) (hN : h'.1 = nk0) (hG : gL (fun (s : Int32 × aQ) => AW l X 165 c165 d r h' 130 [some (.ref 650), some (.int v1), some (.int v2), some (.int v3), some (.int s.1), none, none] [] (hp s.2)) (fun (e : aQ) => AW l X 165 c165 d r h' 252 [some (.ref 650), some (.int v1), none, none, none, none, none] [] (hp e)) (F165_130 v1 v2 v3 v4 q)) (hS : S165_130 v1 v2 v3 v4 q) : AW l X 165 c165 d r h' 130 [some (.ref 650), some (.int v1), some (.int v2), some (.int v3), some (.int v4), none, none] [] (hp q) := by
  unfold F165_130 at hG
  unfold S165_130 at hS
  refine x_run (pc' := 133) (lo' := [some (.ref 650), some (.int v1), some (.int v2), some (.int v3), some (.int v4), none, none]) (st' := [.ref 650, .int v4]) 2 rfl ?_
  refine x_gf (c := 605) (ne := 0) (v := .int (q.1 650 29)) rfl (by decide +kernel) rfl rfl ?_
  refine x_ic 252 rfl rfl (fun (hc21 : (q.1 650 29) ≤ v4) => ?_) (fun (hc21 : ¬ (q.1 650 29) ≤ v4) => ?_)
  · rw [if_pos hc21] at hG
    replace hS := hS.1 hc21
    refine x_kill [2, 3, 4] ?_
    exact hG
  · rw [if_neg hc21] at hG
    replace hS := hS.2 hc21
    refine x_run (pc' := 140) (lo' := [some (.ref 650), some (.int v1), some (.int v2), some (.int v3), some (.int v4), none, none]) (st' := [.int v3]) 1 rfl ?_
    refine x_if 147 rfl rfl (fun (hc22 : v3 = 0) => ?_) (fun (hc22 : ¬ v3 = 0) => ?_)
    · rw [if_pos hc22] at hG
      replace hS := hS.1 hc22
      refine x_run (pc' := 148) (lo' := [some (.ref 650), some (.int v1), some (.int v2), some (.int v3), some (.int v4), none, none]) (st' := [.ref 650]) 1 rfl ?_
      refine x_gf (c := 608) (ne := 0) (v := .int (q.1 650 32)) rfl (by decide +kernel) rfl rfl ?_
      exact A165_151 hd hN hG hS
    · rw [if_neg hc22] at hG
      replace hS := hS.2 hc22
      refine x_run (pc' := 151) (lo' := [some (.ref 650), some (.int v1), some (.int v2), some (.int v3), some (.int v4), none, none]) (st' := [.int 1]) 2 rfl ?_
      exact A165_151 hd hN hG hS
def F165_127 (v1 : Int32) (v2 : Int32) (v3 : Int32) (q : aQ) : aQ := (fun (e34 : aQ) => F165_252 v1 e34) (a_lp (fun (s : Int32 × aQ) => F165_130 v1 v2 v3 s.1 s.2) 200 (0, q) q)
def S165_127 (v1 : Int32) (v2 : Int32) (v3 : Int32) (q : aQ) : Prop := a_sf (fun (s : Int32 × aQ) => F165_130 v1 v2 v3 s.1 s.2) (fun (s : Int32 × aQ) => S165_130 v1 v2 v3 s.1 s.2) 200 (0, q) ∧ (fun (e34 : aQ) => S165_252 v1 e34) (a_lp (fun (s : Int32 × aQ) => F165_130 v1 v2 v3 s.1 s.2) 200 (0, q) q)
set_option maxRecDepth 100000 in
set_option maxHeartbeats 4000000 in
theorem A165_127 {l : Launch} {X : aX} {d : Nat} {r : Option Value} {h' : aH} {v1 : Int32} {v2 : Int32} {v3 : Int32} {q : aQ} (hd : 4 ≤ d) (hN : h'.1 = nk0) (hG : gV r h' (F165_127 v1 v2 v3 q)) (hS : S165_127 v1 v2 v3 q) : AW l X 165 c165 d r h' 127 [some (.ref 650), some (.int v1), some (.int v2), some (.int v3), none, none, none] [] (hp q) := by
  unfold F165_127 at hG
  unfold S165_127 at hS
  refine x_run (pc' := 130) (lo' := [some (.ref 650), some (.int v1), some (.int v2), some (.int v3), some (.int 0), none, none]) (st' := []) 2 rfl ?_
  obtain ⟨ho, hS⟩ := hS
  refine x_loop (fun (s : Int32 × aQ) => F165_130 v1 v2 v3 s.1 s.2) (fun (s : Int32 × aQ) => S165_130 v1 v2 v3 s.1 s.2) (fun (s : Int32 × aQ) => AW l X 165 c165 d r h' 130 [some (.ref 650), some (.int v1), some (.int v2), some (.int v3), some (.int s.1), none, none] [] (hp s.2)) (fun (e : aQ) => AW l X 165 c165 d r h' 252 [some (.ref 650), some (.int v1), none, none, none, none, none] [] (hp e)) (fun s hs hg => A165_130 hd hN hg hs) 200 (0, q) ho (fun e34 he => ?_)
  rw [a_lp_eq he] at hG hS
  try dsimp only at hG hS
  exact A165_252 hd hN hG hS
def F165_117 (v1 : Int32) (v2 : Int32) (v3 : Int32) (q : aQ) : aQ := F165_127 v1 v2 v3 (F161_0 (q.1 652 (Int32.toNatClampNeg v1)) q)
def S165_117 (v1 : Int32) (v2 : Int32) (v3 : Int32) (q : aQ) : Prop := vp_in v1 60 ∧ (S161_0 (q.1 652 (Int32.toNatClampNeg v1)) q ∧ (S165_127 v1 v2 v3 (F161_0 (q.1 652 (Int32.toNatClampNeg v1)) q)))
set_option maxRecDepth 100000 in
set_option maxHeartbeats 4000000 in
theorem A165_117 {l : Launch} {X : aX} {d : Nat} {r : Option Value} {h' : aH} {v1 : Int32} {v2 : Int32} {v3 : Int32} {q : aQ} (hd : 4 ≤ d) (hN : h'.1 = nk0) (hG : gV r h' (F165_117 v1 v2 v3 q)) (hS : S165_117 v1 v2 v3 q) : AW l X 165 c165 d r h' 117 [some (.ref 650), some (.int v1), some (.int v2), some (.int v3), none, none, none] [] (hp q) := by
  unfold F165_117 at hG
  unfold S165_117 at hS
  refine x_run (pc' := 119) (lo' := [some (.ref 650), some (.int v1), some (.int v2), some (.int v3), none, none, none]) (st' := [.ref 650, .ref 650]) 2 rfl ?_
  refine x_gf (c := 578) (ne := 0) (v := .ref 652) rfl (by decide +kernel) rfl rfl ?_
  refine x_run (pc' := 123) (lo' := [some (.ref 650), some (.int v1), some (.int v2), some (.int v3), none, none, none]) (st' := [.int v1, .ref 652, .ref 650]) 1 rfl ?_
  obtain ⟨o19, hS⟩ := hS
  refine p_ia (n := 60) (v := (q.1 652 (Int32.toNatClampNeg v1))) rfl rfl o19 rfl ?_
  obtain ⟨o20, hS⟩ := hS
  refine x_cv (j := 161) (ne := 0) (vs := [.int (q.1 652 (Int32.toNatClampNeg v1))]) (rest := []) rfl (by decide +kernel) (by decide +kernel) (by decide) (Eq.trans rfl (show 1 = _ from by decide +kernel)) rfl (by decide +kernel) rfl (Nat.le_of_ble_eq_true rfl) (by omega) (T161 (Nat.le_refl 2) o20) (hp_m hN) ?_
  show AW l X 165 c165 d r h' 127 [some (.ref 650), some (.int v1), some (.int v2), some (.int v3), none, none, none] [] (hp (F161_0 (q.1 652 (Int32.toNatClampNeg v1)) q))
  exact A165_127 hd hN hG hS
def F165_114 (v1 : Int32) (v2 : Int32) (v3 : Int32) (s0 : Int32) (q : aQ) : aQ := F165_117 v1 v2 v3 (F162_0 s0 q)
def S165_114 (v1 : Int32) (v2 : Int32) (v3 : Int32) (s0 : Int32) (q : aQ) : Prop := S162_0 s0 q ∧ (S165_117 v1 v2 v3 (F162_0 s0 q))
set_option maxRecDepth 100000 in
set_option maxHeartbeats 4000000 in
theorem A165_114 {l : Launch} {X : aX} {d : Nat} {r : Option Value} {h' : aH} {v1 : Int32} {v2 : Int32} {v3 : Int32} {s0 : Int32} {q : aQ} (hd : 4 ≤ d) (hN : h'.1 = nk0) (hG : gV r h' (F165_114 v1 v2 v3 s0 q)) (hS : S165_114 v1 v2 v3 s0 q) : AW l X 165 c165 d r h' 114 [some (.ref 650), some (.int v1), some (.int v2), some (.int v3), none, none, none] [.int s0, .ref 650] (hp q) := by
  unfold F165_114 at hG
  unfold S165_114 at hS
  obtain ⟨o18, hS⟩ := hS
  refine x_cv (j := 162) (ne := 0) (vs := [.int s0]) (rest := []) rfl (by decide +kernel) (by decide +kernel) (by decide) (Eq.trans rfl (show 1 = _ from by decide +kernel)) rfl (by decide +kernel) rfl (Nat.le_of_ble_eq_true rfl) (by omega) (T162 (Nat.le_refl 3) o18) (hp_m hN) ?_
  show AW l X 165 c165 d r h' 117 [some (.ref 650), some (.int v1), some (.int v2), some (.int v3), none, none, none] [] (hp (F162_0 s0 q))
  exact A165_117 hd hN hG hS
def F165_93 (v1 : Int32) (v2 : Int32) (v3 : Int32) (s0 : Int32) (s1 : Int32) (q : aQ) : aQ := (if v3 = 0 then F165_114 v1 v2 v3 (q.1 653 (Int32.toNatClampNeg v1)) (a_w q 673 (Int32.toNatClampNeg s1) s0) else F165_114 v1 v2 v3 (q.1 652 (Int32.toNatClampNeg v1)) (a_w q 673 (Int32.toNatClampNeg s1) s0))
def S165_93 (v1 : Int32) (v2 : Int32) (v3 : Int32) (s0 : Int32) (s1 : Int32) (q : aQ) : Prop := vp_in s1 60 ∧ (((v3 = 0) → vp_in v1 60 ∧ (S165_114 v1 v2 v3 (q.1 653 (Int32.toNatClampNeg v1)) (a_w q 673 (Int32.toNatClampNeg s1) s0))) ∧ (¬ (v3 = 0) → vp_in v1 60 ∧ (S165_114 v1 v2 v3 (q.1 652 (Int32.toNatClampNeg v1)) (a_w q 673 (Int32.toNatClampNeg s1) s0))))
set_option maxRecDepth 100000 in
set_option maxHeartbeats 4000000 in
theorem A165_93 {l : Launch} {X : aX} {d : Nat} {r : Option Value} {h' : aH} {v1 : Int32} {v2 : Int32} {v3 : Int32} {s0 : Int32} {s1 : Int32} {q : aQ} (hd : 4 ≤ d) (hN : h'.1 = nk0) (hG : gV r h' (F165_93 v1 v2 v3 s0 s1 q)) (hS : S165_93 v1 v2 v3 s0 s1 q) : AW l X 165 c165 d r h' 93 [some (.ref 650), some (.int v1), some (.int v2), some (.int v3), none, none, none] [.int s0, .int s1, .ref 673] (hp q) := by
  unfold F165_93 at hG
  unfold S165_93 at hS
  obtain ⟨o15, hS⟩ := hS
  refine p_is (n := 60) rfl rfl o15 ?_
  refine x_run (pc' := 96) (lo' := [some (.ref 650), some (.int v1), some (.int v2), some (.int v3), none, none, none]) (st' := [.int v3, .ref 650]) 2 rfl ?_
  refine x_if 108 rfl rfl (fun (hc16 : v3 = 0) => ?_) (fun (hc16 : ¬ v3 = 0) => ?_)
  · rw [if_pos hc16] at hG
    replace hS := hS.1 hc16
    refine x_run (pc' := 109) (lo' := [some (.ref 650), some (.int v1), some (.int v2), some (.int v3), none, none, none]) (st' := [.ref 650, .ref 650]) 1 rfl ?_
    refine x_gf (c := 579) (ne := 0) (v := .ref 653) rfl (by decide +kernel) rfl rfl ?_
    refine x_run (pc' := 113) (lo' := [some (.ref 650), some (.int v1), some (.int v2), some (.int v3), none, none, none]) (st' := [.int v1, .ref 653, .ref 650]) 1 rfl ?_
    obtain ⟨o17, hS⟩ := hS
    refine p_ia (n := 60) (v := (q.1 653 (Int32.toNatClampNeg v1))) rfl rfl o17 rfl ?_
    exact A165_114 hd hN hG hS
  · rw [if_neg hc16] at hG
    replace hS := hS.2 hc16
    refine x_run (pc' := 100) (lo' := [some (.ref 650), some (.int v1), some (.int v2), some (.int v3), none, none, none]) (st' := [.ref 650, .ref 650]) 1 rfl ?_
    refine x_gf (c := 578) (ne := 0) (v := .ref 652) rfl (by decide +kernel) rfl rfl ?_
    refine x_run (pc' := 104) (lo' := [some (.ref 650), some (.int v1), some (.int v2), some (.int v3), none, none, none]) (st' := [.int v1, .ref 652, .ref 650]) 1 rfl ?_
    obtain ⟨o35, hS⟩ := hS
    refine p_ia (n := 60) (v := (q.1 652 (Int32.toNatClampNeg v1))) rfl rfl o35 rfl ?_
    refine x_run (pc' := 114) (lo' := [some (.ref 650), some (.int v1), some (.int v2), some (.int v3), none, none, none]) (st' := [.int (q.1 652 (Int32.toNatClampNeg v1)), .ref 650]) 1 rfl ?_
    exact A165_114 hd hN hG hS
def F165_43 (v1 : Int32) (v2 : Int32) (v3 : Int32) (q : aQ) : aQ := (if (q.1 671 (Int32.toNatClampNeg (q.1 652 (Int32.toNatClampNeg v1)))) = 0 then F165_252 v1 q else (if v3 = 0 then F165_93 v1 v2 v3 ((q.1 673 (Int32.toNatClampNeg v1)) ||| (q.1 673 (Int32.toNatClampNeg (q.1 653 (Int32.toNatClampNeg v1))))) v1 q else F165_93 v1 v2 v3 (q.1 673 (Int32.toNatClampNeg v1)) v1 q))
def S165_43 (v1 : Int32) (v2 : Int32) (v3 : Int32) (q : aQ) : Prop := vp_in v1 60 ∧ (vp_in (q.1 652 (Int32.toNatClampNeg v1)) 60 ∧ ((((q.1 671 (Int32.toNatClampNeg (q.1 652 (Int32.toNatClampNeg v1)))) = 0) → S165_252 v1 q) ∧ (¬ ((q.1 671 (Int32.toNatClampNeg (q.1 652 (Int32.toNatClampNeg v1)))) = 0) → ((v3 = 0) → vp_in v1 60 ∧ (vp_in v1 60 ∧ (vp_in (q.1 653 (Int32.toNatClampNeg v1)) 60 ∧ (S165_93 v1 v2 v3 ((q.1 673 (Int32.toNatClampNeg v1)) ||| (q.1 673 (Int32.toNatClampNeg (q.1 653 (Int32.toNatClampNeg v1))))) v1 q)))) ∧ (¬ (v3 = 0) → vp_in v1 60 ∧ (S165_93 v1 v2 v3 (q.1 673 (Int32.toNatClampNeg v1)) v1 q)))))
set_option maxRecDepth 100000 in
set_option maxHeartbeats 4000000 in
theorem A165_43 {l : Launch} {X : aX} {d : Nat} {r : Option Value} {h' : aH} {v1 : Int32} {v2 : Int32} {v3 : Int32} {q : aQ} (hd : 4 ≤ d) (hN : h'.1 = nk0) (hG : gV r h' (F165_43 v1 v2 v3 q)) (hS : S165_43 v1 v2 v3 q) : AW l X 165 c165 d r h' 43 [some (.ref 650), some (.int v1), some (.int v2), some (.int v3), none, none, none] [] (hp q) := by
  unfold F165_43 at hG
  unfold S165_43 at hS
  refine x_run (pc' := 44) (lo' := [some (.ref 650), some (.int v1), some (.int v2), some (.int v3), none, none, none]) (st' := [.ref 650]) 1 rfl ?_
  refine x_gf (c := 601) (ne := 0) (v := .ref 671) rfl (by decide +kernel) rfl rfl ?_
  refine x_run (pc' := 48) (lo' := [some (.ref 650), some (.int v1), some (.int v2), some (.int v3), none, none, none]) (st' := [.ref 650, .ref 671]) 1 rfl ?_
  refine x_gf (c := 578) (ne := 0) (v := .ref 652) rfl (by decide +kernel) rfl rfl ?_
  refine x_run (pc' := 52) (lo' := [some (.ref 650), some (.int v1), some (.int v2), some (.int v3), none, none, none]) (st' := [.int v1, .ref 652, .ref 671]) 1 rfl ?_
  obtain ⟨o7, hS⟩ := hS
  refine p_ia (n := 60) (v := (q.1 652 (Int32.toNatClampNeg v1))) rfl rfl o7 rfl ?_
  obtain ⟨o8, hS⟩ := hS
  refine p_ia (n := 60) (v := (q.1 671 (Int32.toNatClampNeg (q.1 652 (Int32.toNatClampNeg v1))))) rfl rfl o8 rfl ?_
  refine x_if 252 rfl rfl (fun (hc9 : (q.1 671 (Int32.toNatClampNeg (q.1 652 (Int32.toNatClampNeg v1)))) = 0) => ?_) (fun (hc9 : ¬ (q.1 671 (Int32.toNatClampNeg (q.1 652 (Int32.toNatClampNeg v1)))) = 0) => ?_)
  · rw [if_pos hc9] at hG
    replace hS := hS.1 hc9
    refine x_kill [2, 3] ?_
    exact A165_252 hd hN hG hS
  · rw [if_neg hc9] at hG
    replace hS := hS.2 hc9
    refine x_run (pc' := 58) (lo' := [some (.ref 650), some (.int v1), some (.int v2), some (.int v3), none, none, none]) (st' := [.ref 650]) 1 rfl ?_
    refine x_gf (c := 603) (ne := 0) (v := .ref 673) rfl (by decide +kernel) rfl rfl ?_
    refine x_run (pc' := 63) (lo' := [some (.ref 650), some (.int v1), some (.int v2), some (.int v3), none, none, none]) (st' := [.int v3, .int v1, .ref 673]) 2 rfl ?_
    refine x_if 75 rfl rfl (fun (hc11 : v3 = 0) => ?_) (fun (hc11 : ¬ v3 = 0) => ?_)
    · rw [if_pos hc11] at hG
      replace hS := hS.1 hc11
      refine x_run (pc' := 76) (lo' := [some (.ref 650), some (.int v1), some (.int v2), some (.int v3), none, none, none]) (st' := [.ref 650, .int v1, .ref 673]) 1 rfl ?_
      refine x_gf (c := 603) (ne := 0) (v := .ref 673) rfl (by decide +kernel) rfl rfl ?_
      refine x_run (pc' := 80) (lo' := [some (.ref 650), some (.int v1), some (.int v2), some (.int v3), none, none, none]) (st' := [.int v1, .ref 673, .int v1, .ref 673]) 1 rfl ?_
      obtain ⟨o12, hS⟩ := hS
      refine p_ia (n := 60) (v := (q.1 673 (Int32.toNatClampNeg v1))) rfl rfl o12 rfl ?_
      refine x_run (pc' := 82) (lo' := [some (.ref 650), some (.int v1), some (.int v2), some (.int v3), none, none, none]) (st' := [.ref 650, .int (q.1 673 (Int32.toNatClampNeg v1)), .int v1, .ref 673]) 1 rfl ?_
      refine x_gf (c := 603) (ne := 0) (v := .ref 673) rfl (by decide +kernel) rfl rfl ?_
      refine x_run (pc' := 86) (lo' := [some (.ref 650), some (.int v1), some (.int v2), some (.int v3), none, none, none]) (st' := [.ref 650, .ref 673, .int (q.1 673 (Int32.toNatClampNeg v1)), .int v1, .ref 673]) 1 rfl ?_
      refine x_gf (c := 579) (ne := 0) (v := .ref 653) rfl (by decide +kernel) rfl rfl ?_
      refine x_run (pc' := 90) (lo' := [some (.ref 650), some (.int v1), some (.int v2), some (.int v3), none, none, none]) (st' := [.int v1, .ref 653, .ref 673, .int (q.1 673 (Int32.toNatClampNeg v1)), .int v1, .ref 673]) 1 rfl ?_
      obtain ⟨o13, hS⟩ := hS
      refine p_ia (n := 60) (v := (q.1 653 (Int32.toNatClampNeg v1))) rfl rfl o13 rfl ?_
      obtain ⟨o14, hS⟩ := hS
      refine p_ia (n := 60) (v := (q.1 673 (Int32.toNatClampNeg (q.1 653 (Int32.toNatClampNeg v1))))) rfl rfl o14 rfl ?_
      refine x_run (pc' := 93) (lo' := [some (.ref 650), some (.int v1), some (.int v2), some (.int v3), none, none, none]) (st' := [.int ((q.1 673 (Int32.toNatClampNeg v1)) ||| (q.1 673 (Int32.toNatClampNeg (q.1 653 (Int32.toNatClampNeg v1))))), .int v1, .ref 673]) 1 rfl ?_
      exact A165_93 hd hN hG hS
    · rw [if_neg hc11] at hG
      replace hS := hS.2 hc11
      refine x_run (pc' := 67) (lo' := [some (.ref 650), some (.int v1), some (.int v2), some (.int v3), none, none, none]) (st' := [.ref 650, .int v1, .ref 673]) 1 rfl ?_
      refine x_gf (c := 603) (ne := 0) (v := .ref 673) rfl (by decide +kernel) rfl rfl ?_
      refine x_run (pc' := 71) (lo' := [some (.ref 650), some (.int v1), some (.int v2), some (.int v3), none, none, none]) (st' := [.int v1, .ref 673, .int v1, .ref 673]) 1 rfl ?_
      obtain ⟨o36, hS⟩ := hS
      refine p_ia (n := 60) (v := (q.1 673 (Int32.toNatClampNeg v1))) rfl rfl o36 rfl ?_
      refine x_run (pc' := 93) (lo' := [some (.ref 650), some (.int v1), some (.int v2), some (.int v3), none, none, none]) (st' := [.int (q.1 673 (Int32.toNatClampNeg v1)), .int v1, .ref 673]) 1 rfl ?_
      exact A165_93 hd hN hG hS
def F165_21 (v1 : Int32) (v2 : Int32) (s0 : Int32) (q : aQ) : aQ := F165_43 v1 v2 s0 (F157_0 (a_w q 673 (Int32.toNatClampNeg v1) (q.1 673 (Int32.toNatClampNeg (q.1 652 (Int32.toNatClampNeg v1))))))
def S165_21 (v1 : Int32) (v2 : Int32) (s0 : Int32) (q : aQ) : Prop := vp_in v1 60 ∧ (vp_in (q.1 652 (Int32.toNatClampNeg v1)) 60 ∧ (vp_in v1 60 ∧ (S157_0 (a_w q 673 (Int32.toNatClampNeg v1) (q.1 673 (Int32.toNatClampNeg (q.1 652 (Int32.toNatClampNeg v1))))) ∧ (S165_43 v1 v2 s0 (F157_0 (a_w q 673 (Int32.toNatClampNeg v1) (q.1 673 (Int32.toNatClampNeg (q.1 652 (Int32.toNatClampNeg v1))))))))))
set_option maxRecDepth 100000 in
set_option maxHeartbeats 4000000 in
theorem A165_21 {l : Launch} {X : aX} {d : Nat} {r : Option Value} {h' : aH} {v1 : Int32} {v2 : Int32} {s0 : Int32} {q : aQ} (hd : 4 ≤ d) (hN : h'.1 = nk0) (hG : gV r h' (F165_21 v1 v2 s0 q)) (hS : S165_21 v1 v2 s0 q) : AW l X 165 c165 d r h' 21 [some (.ref 650), some (.int v1), some (.int v2), none, none, none, none] [.int s0] (hp q) := by
  unfold F165_21 at hG
  unfold S165_21 at hS
  refine x_run (pc' := 23) (lo' := [some (.ref 650), some (.int v1), some (.int v2), some (.int s0), none, none, none]) (st' := [.ref 650]) 2 rfl ?_
  refine x_gf (c := 603) (ne := 0) (v := .ref 673) rfl (by decide +kernel) rfl rfl ?_
  refine x_run (pc' := 28) (lo' := [some (.ref 650), some (.int v1), some (.int v2), some (.int s0), none, none, none]) (st' := [.ref 650, .int v1, .ref 673]) 2 rfl ?_
  refine x_gf (c := 603) (ne := 0) (v := .ref 673) rfl (by decide +kernel) rfl rfl ?_
  refine x_run (pc' := 32) (lo' := [some (.ref 650), some (.int v1), some (.int v2), some (.int s0), none, none, none]) (st' := [.ref 650, .ref 673, .int v1, .ref 673]) 1 rfl ?_
  refine x_gf (c := 578) (ne := 0) (v := .ref 652) rfl (by decide +kernel) rfl rfl ?_
  refine x_run (pc' := 36) (lo' := [some (.ref 650), some (.int v1), some (.int v2), some (.int s0), none, none, none]) (st' := [.int v1, .ref 652, .ref 673, .int v1, .ref 673]) 1 rfl ?_
  obtain ⟨o3, hS⟩ := hS
  refine p_ia (n := 60) (v := (q.1 652 (Int32.toNatClampNeg v1))) rfl rfl o3 rfl ?_
  obtain ⟨o4, hS⟩ := hS
  refine p_ia (n := 60) (v := (q.1 673 (Int32.toNatClampNeg (q.1 652 (Int32.toNatClampNeg v1))))) rfl rfl o4 rfl ?_
  obtain ⟨o5, hS⟩ := hS
  refine p_is (n := 60) rfl rfl o5 ?_
  refine x_run (pc' := 40) (lo' := [some (.ref 650), some (.int v1), some (.int v2), some (.int s0), none, none, none]) (st' := [.ref 650]) 1 rfl ?_
  obtain ⟨o6, hS⟩ := hS
  refine x_cv (j := 157) (ne := 0) (vs := []) (rest := []) rfl (by decide +kernel) (by decide +kernel) (by decide) (Eq.trans rfl (show 0 = _ from by decide +kernel)) rfl (by decide +kernel) rfl (Nat.le_of_ble_eq_true rfl) (by omega) (T157 (Nat.le_refl 1) o6) (hp_m hN) ?_
  show AW l X 165 c165 d r h' 43 [some (.ref 650), some (.int v1), some (.int v2), some (.int s0), none, none, none] [] (hp (F157_0 (a_w q 673 (Int32.toNatClampNeg v1) (q.1 673 (Int32.toNatClampNeg (q.1 652 (Int32.toNatClampNeg v1)))))))
  exact A165_43 hd hN hG hS
def F165_0 (v1 : Int32) (q : aQ) : aQ := (if ((q.1 651 (Int32.toNatClampNeg v1)) - 10) < 6 then F165_21 v1 ((q.1 651 (Int32.toNatClampNeg v1)) - 10) 0 q else F165_21 v1 ((q.1 651 (Int32.toNatClampNeg v1)) - 10) 1 q)
def S165_0 (v1 : Int32) (q : aQ) : Prop := vp_in v1 60 ∧ (((((q.1 651 (Int32.toNatClampNeg v1)) - 10) < 6) → S165_21 v1 ((q.1 651 (Int32.toNatClampNeg v1)) - 10) 0 q) ∧ (¬ (((q.1 651 (Int32.toNatClampNeg v1)) - 10) < 6) → S165_21 v1 ((q.1 651 (Int32.toNatClampNeg v1)) - 10) 1 q))
set_option maxRecDepth 100000 in
set_option maxHeartbeats 4000000 in
theorem A165_0 {l : Launch} {X : aX} {d : Nat} {r : Option Value} {h' : aH} {v1 : Int32} {q : aQ} (hd : 4 ≤ d) (hN : h'.1 = nk0) (hG : gV r h' (F165_0 v1 q)) (hS : S165_0 v1 q) : AW l X 165 c165 d r h' 0 [some (.ref 650), some (.int v1), none, none, none, none, none] [] (hp q) := by
  unfold F165_0 at hG
  unfold S165_0 at hS
  refine x_run (pc' := 1) (lo' := [some (.ref 650), some (.int v1), none, none, none, none, none]) (st' := [.ref 650]) 1 rfl ?_
  refine x_gf (c := 577) (ne := 0) (v := .ref 651) rfl (by decide +kernel) rfl rfl ?_
  refine x_run (pc' := 5) (lo' := [some (.ref 650), some (.int v1), none, none, none, none, none]) (st' := [.int v1, .ref 651]) 1 rfl ?_
  obtain ⟨o1, hS⟩ := hS
  refine p_ia (n := 60) (v := (q.1 651 (Int32.toNatClampNeg v1))) rfl rfl o1 rfl ?_
  refine x_run (pc' := 13) (lo' := [some (.ref 650), some (.int v1), some (.int ((q.1 651 (Int32.toNatClampNeg v1)) - 10)), none, none, none, none]) (st' := [.int 6, .int ((q.1 651 (Int32.toNatClampNeg v1)) - 10)]) 5 rfl ?_
  refine x_ic 20 rfl rfl (fun (hc2 : ((q.1 651 (Int32.toNatClampNeg v1)) - 10) < 6) => ?_) (fun (hc2 : ¬ ((q.1 651 (Int32.toNatClampNeg v1)) - 10) < 6) => ?_)
  · rw [if_pos hc2] at hG
    replace hS := hS.1 hc2
    refine x_run (pc' := 21) (lo' := [some (.ref 650), some (.int v1), some (.int ((q.1 651 (Int32.toNatClampNeg v1)) - 10)), none, none, none, none]) (st' := [.int 0]) 1 rfl ?_
    exact A165_21 hd hN hG hS
  · rw [if_neg hc2] at hG
    replace hS := hS.2 hc2
    refine x_run (pc' := 21) (lo' := [some (.ref 650), some (.int v1), some (.int ((q.1 651 (Int32.toNatClampNeg v1)) - 10)), none, none, none, none]) (st' := [.int 1]) 2 rfl ?_
    exact A165_21 hd hN hG hS
theorem T165 {l : Launch} {X : aX} {d : Nat} {v1 : Int32} {q : aQ} (hd : 4 ≤ d) (hS : S165_0 v1 q) : Call l X d 165 [.ref 650, .int v1] (hp q) none (hp (F165_0 v1 q)) := Call.of ok165 (by decide) (Nat.le_of_ble_eq_true rfl) ⟨Nat.le_refl _, Nat.le_refl _⟩ (A165_0 hd rfl ⟨rfl, rfl⟩ hS)
/-- TypeForecastModel.picture(I)V -/
def F166_22 (v1 : Int32) (v2 : Int32) (s0 : Int32) (s1 : Int32) (q : aQ) : (Int32 × aQ) ⊕ (aQ) := .inl ((v2 + 1), (a_w q 674 (Int32.toNatClampNeg s1) s0))
def S166_22 (v1 : Int32) (v2 : Int32) (s0 : Int32) (s1 : Int32) (q : aQ) : Prop := vp_in s1 60 ∧ ((s0 = 0 ∨ s0 = 1) ∧ (True))
set_option maxRecDepth 100000 in
set_option maxHeartbeats 4000000 in
theorem A166_22 {l : Launch} {X : aX} {d : Nat} {r : Option Value} {h' : aH} {v1 : Int32} {v2 : Int32} {s0 : Int32} {s1 : Int32} {q : aQ} (hd : 5 ≤ d) (hN : h'.1 = nk0) (hG : gL (fun (s : Int32 × aQ) => AW l X 166 c166 d r h' 2 [some (.ref 650), some (.int v1), some (.int s.1)] [] (hp s.2)) (fun (e : aQ) => AW l X 166 c166 d r h' 29 [some (.ref 650), some (.int v1), none] [] (hp e)) (F166_22 v1 v2 s0 s1 q)) (hS : S166_22 v1 v2 s0 s1 q) : AW l X 166 c166 d r h' 22 [some (.ref 650), some (.int v1), some (.int v2)] [.int s0, .int s1, .ref 674] (hp q) := by
  unfold F166_22 at hG
  unfold S166_22 at hS
  obtain ⟨o3, hS⟩ := hS
  obtain ⟨o4, hS⟩ := hS
  refine p_zs (n := 60) rfl rfl o3 o4 ?_
  refine x_run (pc' := 2) (lo' := [some (.ref 650), some (.int v1), some (.int (v2 + 1))]) (st' := []) 2 rfl ?_
  exact hG
def F166_2 (v1 : Int32) (v2 : Int32) (q : aQ) : (Int32 × aQ) ⊕ (aQ) := (if v1 < v2 then .inr q else (if v2 = v1 then F166_22 v1 v2 1 v2 q else F166_22 v1 v2 0 v2 q))
def S166_2 (v1 : Int32) (v2 : Int32) (q : aQ) : Prop := ((v1 < v2) → True) ∧ (¬ (v1 < v2) → ((v2 = v1) → S166_22 v1 v2 1 v2 q) ∧ (¬ (v2 = v1) → S166_22 v1 v2 0 v2 q))
set_option maxRecDepth 100000 in
set_option maxHeartbeats 4000000 in
theorem A166_2 {l : Launch} {X : aX} {d : Nat} {r : Option Value} {h' : aH} {v1 : Int32} {v2 : Int32} {q : aQ} (hd : 5 ≤ d) (hN : h'.1 = nk0) (hG : gL (fun (s : Int32 × aQ) => AW l X 166 c166 d r h' 2 [some (.ref 650), some (.int v1), some (.int s.1)] [] (hp s.2)) (fun (e : aQ) => AW l X 166 c166 d r h' 29 [some (.ref 650), some (.int v1), none] [] (hp e)) (F166_2 v1 v2 q)) (hS : S166_2 v1 v2 q) : AW l X 166 c166 d r h' 2 [some (.ref 650), some (.int v1), some (.int v2)] [] (hp q) := by
  unfold F166_2 at hG
  unfold S166_2 at hS
  refine x_run (pc' := 4) (lo' := [some (.ref 650), some (.int v1), some (.int v2)]) (st' := [.int v1, .int v2]) 2 rfl ?_
  refine x_ic 29 rfl rfl (fun (hc1 : v1 < v2) => ?_) (fun (hc1 : ¬ v1 < v2) => ?_)
  · rw [if_pos hc1] at hG
    replace hS := hS.1 hc1
    refine x_kill [2] ?_
    exact hG
  · rw [if_neg hc1] at hG
    replace hS := hS.2 hc1
    refine x_run (pc' := 8) (lo' := [some (.ref 650), some (.int v1), some (.int v2)]) (st' := [.ref 650]) 1 rfl ?_
    refine x_gf (c := 604) (ne := 0) (v := .ref 674) rfl (by decide +kernel) rfl rfl ?_
    refine x_run (pc' := 14) (lo' := [some (.ref 650), some (.int v1), some (.int v2)]) (st' := [.int v1, .int v2, .int v2, .ref 674]) 3 rfl ?_
    refine x_ic 21 rfl rfl (fun (hc2 : ¬ v2 = v1) => ?_) (fun (hc2 : v2 = v1) => ?_)
    · rw [if_neg hc2] at hG
      replace hS := hS.2 hc2
      refine x_run (pc' := 22) (lo' := [some (.ref 650), some (.int v1), some (.int v2)]) (st' := [.int 0, .int v2, .ref 674]) 1 rfl ?_
      exact A166_22 hd hN hG hS
    · rw [if_pos hc2] at hG
      replace hS := hS.1 hc2
      refine x_run (pc' := 22) (lo' := [some (.ref 650), some (.int v1), some (.int v2)]) (st' := [.int 1, .int v2, .ref 674]) 2 rfl ?_
      exact A166_22 hd hN hG hS
def F166_90 (v1 : Int32) (v2 : Int32) (q : aQ) : (Int32 × aQ) ⊕ (aQ) := .inl ((v2 + (-1)), q)
def S166_90 (v1 : Int32) (v2 : Int32) (q : aQ) : Prop := True
set_option maxRecDepth 100000 in
set_option maxHeartbeats 4000000 in
theorem A166_90 {l : Launch} {X : aX} {d : Nat} {r : Option Value} {h' : aH} {v1 : Int32} {v2 : Int32} {q : aQ} (hd : 5 ≤ d) (hN : h'.1 = nk0) (hG : gL (fun (s : Int32 × aQ) => AW l X 166 c166 d r h' 31 [some (.ref 650), some (.int v1), some (.int s.1)] [] (hp s.2)) (fun (e : aQ) => AW l X 166 c166 d r h' 96 [some (.ref 650), some (.int v1), none] [] (hp e)) (F166_90 v1 v2 q)) (hS : S166_90 v1 v2 q) : AW l X 166 c166 d r h' 90 [some (.ref 650), some (.int v1), some (.int v2)] [] (hp q) := by
  unfold F166_90 at hG
  unfold S166_90 at hS
  refine x_run (pc' := 31) (lo' := [some (.ref 650), some (.int v1), some (.int (v2 + (-1)))]) (st' := []) 2 rfl ?_
  exact hG
def F166_31 (v1 : Int32) (v2 : Int32) (q : aQ) : (Int32 × aQ) ⊕ (aQ) := (if v2 < 0 then .inr q else (if (q.1 674 (Int32.toNatClampNeg v2)) = 0 then F166_90 v1 v2 q else (if (q.1 651 (Int32.toNatClampNeg v2)) < 10 then F166_90 v1 v2 q else (if 16 ≤ (q.1 651 (Int32.toNatClampNeg v2)) then F166_90 v1 v2 (a_w q 674 (Int32.toNatClampNeg (q.1 652 (Int32.toNatClampNeg v2))) 1) else F166_90 v1 v2 (a_w (a_w q 674 (Int32.toNatClampNeg (q.1 652 (Int32.toNatClampNeg v2))) 1) 674 (Int32.toNatClampNeg (q.1 653 (Int32.toNatClampNeg v2))) 1)))))
def S166_31 (v1 : Int32) (v2 : Int32) (q : aQ) : Prop := ((v2 < 0) → True) ∧ (¬ (v2 < 0) → vp_in v2 60 ∧ ((((q.1 674 (Int32.toNatClampNeg v2)) = 0) → S166_90 v1 v2 q) ∧ (¬ ((q.1 674 (Int32.toNatClampNeg v2)) = 0) → vp_in v2 60 ∧ ((((q.1 651 (Int32.toNatClampNeg v2)) < 10) → S166_90 v1 v2 q) ∧ (¬ ((q.1 651 (Int32.toNatClampNeg v2)) < 10) → vp_in v2 60 ∧ (vp_in (q.1 652 (Int32.toNatClampNeg v2)) 60 ∧ (vp_in v2 60 ∧ (((16 ≤ (q.1 651 (Int32.toNatClampNeg v2))) → S166_90 v1 v2 (a_w q 674 (Int32.toNatClampNeg (q.1 652 (Int32.toNatClampNeg v2))) 1)) ∧ (¬ (16 ≤ (q.1 651 (Int32.toNatClampNeg v2))) → vp_in v2 60 ∧ (vp_in (q.1 653 (Int32.toNatClampNeg v2)) 60 ∧ (S166_90 v1 v2 (a_w (a_w q 674 (Int32.toNatClampNeg (q.1 652 (Int32.toNatClampNeg v2))) 1) 674 (Int32.toNatClampNeg (q.1 653 (Int32.toNatClampNeg v2))) 1))))))))))))
set_option maxRecDepth 100000 in
set_option maxHeartbeats 4000000 in
theorem A166_31 {l : Launch} {X : aX} {d : Nat} {r : Option Value} {h' : aH} {v1 : Int32} {v2 : Int32} {q : aQ} (hd : 5 ≤ d) (hN : h'.1 = nk0) (hG : gL (fun (s : Int32 × aQ) => AW l X 166 c166 d r h' 31 [some (.ref 650), some (.int v1), some (.int s.1)] [] (hp s.2)) (fun (e : aQ) => AW l X 166 c166 d r h' 96 [some (.ref 650), some (.int v1), none] [] (hp e)) (F166_31 v1 v2 q)) (hS : S166_31 v1 v2 q) : AW l X 166 c166 d r h' 31 [some (.ref 650), some (.int v1), some (.int v2)] [] (hp q) := by
  unfold F166_31 at hG
  unfold S166_31 at hS
  refine x_run (pc' := 32) (lo' := [some (.ref 650), some (.int v1), some (.int v2)]) (st' := [.int v2]) 1 rfl ?_
  refine x_if 96 rfl rfl (fun (hc6 : v2 < 0) => ?_) (fun (hc6 : ¬ v2 < 0) => ?_)
  · rw [if_pos hc6] at hG
    replace hS := hS.1 hc6
    refine x_kill [2] ?_
    exact hG
  · rw [if_neg hc6] at hG
    replace hS := hS.2 hc6
    refine x_run (pc' := 36) (lo' := [some (.ref 650), some (.int v1), some (.int v2)]) (st' := [.ref 650]) 1 rfl ?_
    refine x_gf (c := 604) (ne := 0) (v := .ref 674) rfl (by decide +kernel) rfl rfl ?_
    refine x_run (pc' := 40) (lo' := [some (.ref 650), some (.int v1), some (.int v2)]) (st' := [.int v2, .ref 674]) 1 rfl ?_
    obtain ⟨o7, hS⟩ := hS
    refine p_za (n := 60) (v := (q.1 674 (Int32.toNatClampNeg v2))) rfl rfl o7 rfl ?_
    refine x_if 90 rfl rfl (fun (hc8 : (q.1 674 (Int32.toNatClampNeg v2)) = 0) => ?_) (fun (hc8 : ¬ (q.1 674 (Int32.toNatClampNeg v2)) = 0) => ?_)
    · rw [if_pos hc8] at hG
      replace hS := hS.1 hc8
      exact A166_90 hd hN hG hS
    · rw [if_neg hc8] at hG
      replace hS := hS.2 hc8
      refine x_run (pc' := 45) (lo' := [some (.ref 650), some (.int v1), some (.int v2)]) (st' := [.ref 650]) 1 rfl ?_
      refine x_gf (c := 577) (ne := 0) (v := .ref 651) rfl (by decide +kernel) rfl rfl ?_
      refine x_run (pc' := 49) (lo' := [some (.ref 650), some (.int v1), some (.int v2)]) (st' := [.int v2, .ref 651]) 1 rfl ?_
      obtain ⟨o9, hS⟩ := hS
      refine p_ia (n := 60) (v := (q.1 651 (Int32.toNatClampNeg v2))) rfl rfl o9 rfl ?_
      refine x_run (pc' := 52) (lo' := [some (.ref 650), some (.int v1), some (.int v2)]) (st' := [.int 10, .int (q.1 651 (Int32.toNatClampNeg v2))]) 1 rfl ?_
      refine x_ic 90 rfl rfl (fun (hc10 : (q.1 651 (Int32.toNatClampNeg v2)) < 10) => ?_) (fun (hc10 : ¬ (q.1 651 (Int32.toNatClampNeg v2)) < 10) => ?_)
      · rw [if_pos hc10] at hG
        replace hS := hS.1 hc10
        exact A166_90 hd hN hG hS
      · rw [if_neg hc10] at hG
        replace hS := hS.2 hc10
        refine x_run (pc' := 56) (lo' := [some (.ref 650), some (.int v1), some (.int v2)]) (st' := [.ref 650]) 1 rfl ?_
        refine x_gf (c := 604) (ne := 0) (v := .ref 674) rfl (by decide +kernel) rfl rfl ?_
        refine x_run (pc' := 60) (lo' := [some (.ref 650), some (.int v1), some (.int v2)]) (st' := [.ref 650, .ref 674]) 1 rfl ?_
        refine x_gf (c := 578) (ne := 0) (v := .ref 652) rfl (by decide +kernel) rfl rfl ?_
        refine x_run (pc' := 64) (lo' := [some (.ref 650), some (.int v1), some (.int v2)]) (st' := [.int v2, .ref 652, .ref 674]) 1 rfl ?_
        obtain ⟨o11, hS⟩ := hS
        refine p_ia (n := 60) (v := (q.1 652 (Int32.toNatClampNeg v2))) rfl rfl o11 rfl ?_
        refine x_run (pc' := 66) (lo' := [some (.ref 650), some (.int v1), some (.int v2)]) (st' := [.int 1, .int (q.1 652 (Int32.toNatClampNeg v2)), .ref 674]) 1 rfl ?_
        obtain ⟨o12, hS⟩ := hS
        refine p_zs (n := 60) rfl rfl o12 (Or.inr rfl) ?_
        refine x_run (pc' := 68) (lo' := [some (.ref 650), some (.int v1), some (.int v2)]) (st' := [.ref 650]) 1 rfl ?_
        refine x_gf (c := 577) (ne := 0) (v := .ref 651) rfl (by decide +kernel) rfl rfl ?_
        refine x_run (pc' := 72) (lo' := [some (.ref 650), some (.int v1), some (.int v2)]) (st' := [.int v2, .ref 651]) 1 rfl ?_
        obtain ⟨o13, hS⟩ := hS
        refine p_ia (n := 60) (v := (q.1 651 (Int32.toNatClampNeg v2))) rfl rfl o13 rfl ?_
        refine x_run (pc' := 75) (lo' := [some (.ref 650), some (.int v1), some (.int v2)]) (st' := [.int 16, .int (q.1 651 (Int32.toNatClampNeg v2))]) 1 rfl ?_
        refine x_ic 90 rfl rfl (fun (hc14 : 16 ≤ (q.1 651 (Int32.toNatClampNeg v2))) => ?_) (fun (hc14 : ¬ 16 ≤ (q.1 651 (Int32.toNatClampNeg v2))) => ?_)
        · rw [if_pos hc14] at hG
          replace hS := hS.1 hc14
          exact A166_90 hd hN hG hS
        · rw [if_neg hc14] at hG
          replace hS := hS.2 hc14
          refine x_run (pc' := 79) (lo' := [some (.ref 650), some (.int v1), some (.int v2)]) (st' := [.ref 650]) 1 rfl ?_
          refine x_gf (c := 604) (ne := 0) (v := .ref 674) rfl (by decide +kernel) rfl rfl ?_
          refine x_run (pc' := 83) (lo' := [some (.ref 650), some (.int v1), some (.int v2)]) (st' := [.ref 650, .ref 674]) 1 rfl ?_
          refine x_gf (c := 579) (ne := 0) (v := .ref 653) rfl (by decide +kernel) rfl rfl ?_
          refine x_run (pc' := 87) (lo' := [some (.ref 650), some (.int v1), some (.int v2)]) (st' := [.int v2, .ref 653, .ref 674]) 1 rfl ?_
          obtain ⟨o15, hS⟩ := hS
          refine p_ia (n := 60) (v := (q.1 653 (Int32.toNatClampNeg v2))) rfl rfl o15 rfl ?_
          refine x_run (pc' := 89) (lo' := [some (.ref 650), some (.int v1), some (.int v2)]) (st' := [.int 1, .int (q.1 653 (Int32.toNatClampNeg v2)), .ref 674]) 1 rfl ?_
          obtain ⟨o16, hS⟩ := hS
          refine p_zs (n := 60) rfl rfl o16 (Or.inr rfl) ?_
          exact A166_90 hd hN hG hS
def F166_145 (v1 : Int32) (v2 : Int32) (q : aQ) : (Int32 × aQ) ⊕ (aQ) := .inl ((v2 + 1), q)
def S166_145 (v1 : Int32) (v2 : Int32) (q : aQ) : Prop := True
set_option maxRecDepth 100000 in
set_option maxHeartbeats 4000000 in
theorem A166_145 {l : Launch} {X : aX} {d : Nat} {r : Option Value} {h' : aH} {v1 : Int32} {v2 : Int32} {q : aQ} (hd : 5 ≤ d) (hN : h'.1 = nk0) (hG : gL (fun (s : Int32 × aQ) => AW l X 166 c166 d r h' 98 [some (.ref 650), some (.int v1), some (.int s.1)] [] (hp s.2)) (fun (e : aQ) => AW l X 166 c166 d r h' 151 [none, none, none] [] (hp e)) (F166_145 v1 v2 q)) (hS : S166_145 v1 v2 q) : AW l X 166 c166 d r h' 145 [some (.ref 650), some (.int v1), some (.int v2)] [] (hp q) := by
  unfold F166_145 at hG
  unfold S166_145 at hS
  refine x_run (pc' := 98) (lo' := [some (.ref 650), some (.int v1), some (.int (v2 + 1))]) (st' := []) 2 rfl ?_
  exact hG
def F166_131 (v1 : Int32) (v2 : Int32) (q : aQ) : (Int32 × aQ) ⊕ (aQ) := (if (q.1 674 (Int32.toNatClampNeg v2)) = 0 then F166_145 v1 v2 q else F166_145 v1 v2 (F165_0 v2 q))
def S166_131 (v1 : Int32) (v2 : Int32) (q : aQ) : Prop := vp_in v2 60 ∧ ((((q.1 674 (Int32.toNatClampNeg v2)) = 0) → S166_145 v1 v2 q) ∧ (¬ ((q.1 674 (Int32.toNatClampNeg v2)) = 0) → S165_0 v2 q ∧ (S166_145 v1 v2 (F165_0 v2 q))))
set_option maxRecDepth 100000 in
set_option maxHeartbeats 4000000 in
theorem A166_131 {l : Launch} {X : aX} {d : Nat} {r : Option Value} {h' : aH} {v1 : Int32} {v2 : Int32} {q : aQ} (hd : 5 ≤ d) (hN : h'.1 = nk0) (hG : gL (fun (s : Int32 × aQ) => AW l X 166 c166 d r h' 98 [some (.ref 650), some (.int v1), some (.int s.1)] [] (hp s.2)) (fun (e : aQ) => AW l X 166 c166 d r h' 151 [none, none, none] [] (hp e)) (F166_131 v1 v2 q)) (hS : S166_131 v1 v2 q) : AW l X 166 c166 d r h' 131 [some (.ref 650), some (.int v1), some (.int v2)] [] (hp q) := by
  unfold F166_131 at hG
  unfold S166_131 at hS
  refine x_run (pc' := 132) (lo' := [some (.ref 650), some (.int v1), some (.int v2)]) (st' := [.ref 650]) 1 rfl ?_
  refine x_gf (c := 604) (ne := 0) (v := .ref 674) rfl (by decide +kernel) rfl rfl ?_
  refine x_run (pc' := 136) (lo' := [some (.ref 650), some (.int v1), some (.int v2)]) (st' := [.int v2, .ref 674]) 1 rfl ?_
  obtain ⟨o21, hS⟩ := hS
  refine p_za (n := 60) (v := (q.1 674 (Int32.toNatClampNeg v2))) rfl rfl o21 rfl ?_
  refine x_if 145 rfl rfl (fun (hc22 : (q.1 674 (Int32.toNatClampNeg v2)) = 0) => ?_) (fun (hc22 : ¬ (q.1 674 (Int32.toNatClampNeg v2)) = 0) => ?_)
  · rw [if_pos hc22] at hG
    replace hS := hS.1 hc22
    exact A166_145 hd hN hG hS
  · rw [if_neg hc22] at hG
    replace hS := hS.2 hc22
    refine x_run (pc' := 142) (lo' := [some (.ref 650), some (.int v1), some (.int v2)]) (st' := [.int v2, .ref 650]) 2 rfl ?_
    obtain ⟨o23, hS⟩ := hS
    refine x_cv (j := 165) (ne := 0) (vs := [.int v2]) (rest := []) rfl (by decide +kernel) (by decide +kernel) (by decide) (Eq.trans rfl (show 1 = _ from by decide +kernel)) rfl (by decide +kernel) rfl (Nat.le_of_ble_eq_true rfl) (by omega) (T165 (Nat.le_refl 4) o23) (hp_m hN) ?_
    show AW l X 166 c166 d r h' 145 [some (.ref 650), some (.int v1), some (.int v2)] [] (hp (F165_0 v2 q))
    exact A166_145 hd hN hG hS
def F166_128 (v1 : Int32) (v2 : Int32) (q : aQ) : (Int32 × aQ) ⊕ (aQ) := F166_145 v1 v2 q
def S166_128 (v1 : Int32) (v2 : Int32) (q : aQ) : Prop := S166_145 v1 v2 q
set_option maxRecDepth 100000 in
set_option maxHeartbeats 4000000 in
theorem A166_128 {l : Launch} {X : aX} {d : Nat} {r : Option Value} {h' : aH} {v1 : Int32} {v2 : Int32} {q : aQ} (hd : 5 ≤ d) (hN : h'.1 = nk0) (hG : gL (fun (s : Int32 × aQ) => AW l X 166 c166 d r h' 98 [some (.ref 650), some (.int v1), some (.int s.1)] [] (hp s.2)) (fun (e : aQ) => AW l X 166 c166 d r h' 151 [none, none, none] [] (hp e)) (F166_128 v1 v2 q)) (hS : S166_128 v1 v2 q) : AW l X 166 c166 d r h' 128 [some (.ref 650), some (.int v1), some (.int v2)] [] (hp q) := by
  unfold F166_128 at hG
  unfold S166_128 at hS
  refine x_run (pc' := 145) (lo' := [some (.ref 650), some (.int v1), some (.int v2)]) (st' := []) 1 rfl ?_
  exact A166_145 hd hN hG hS
def F166_98 (v1 : Int32) (v2 : Int32) (q : aQ) : (Int32 × aQ) ⊕ (aQ) := (if v1 < v2 then .inr q else (if (q.1 674 (Int32.toNatClampNeg v2)) = 0 then F166_131 v1 v2 q else (if 10 ≤ (q.1 651 (Int32.toNatClampNeg v2)) then F166_131 v1 v2 q else F166_128 v1 v2 (F164_0 v2 q))))
def S166_98 (v1 : Int32) (v2 : Int32) (q : aQ) : Prop := ((v1 < v2) → True) ∧ (¬ (v1 < v2) → vp_in v2 60 ∧ ((((q.1 674 (Int32.toNatClampNeg v2)) = 0) → S166_131 v1 v2 q) ∧ (¬ ((q.1 674 (Int32.toNatClampNeg v2)) = 0) → vp_in v2 60 ∧ (((10 ≤ (q.1 651 (Int32.toNatClampNeg v2))) → S166_131 v1 v2 q) ∧ (¬ (10 ≤ (q.1 651 (Int32.toNatClampNeg v2))) → S164_0 v2 q ∧ (S166_128 v1 v2 (F164_0 v2 q)))))))
set_option maxRecDepth 100000 in
set_option maxHeartbeats 4000000 in
theorem A166_98 {l : Launch} {X : aX} {d : Nat} {r : Option Value} {h' : aH} {v1 : Int32} {v2 : Int32} {q : aQ} (hd : 5 ≤ d) (hN : h'.1 = nk0) (hG : gL (fun (s : Int32 × aQ) => AW l X 166 c166 d r h' 98 [some (.ref 650), some (.int v1), some (.int s.1)] [] (hp s.2)) (fun (e : aQ) => AW l X 166 c166 d r h' 151 [none, none, none] [] (hp e)) (F166_98 v1 v2 q)) (hS : S166_98 v1 v2 q) : AW l X 166 c166 d r h' 98 [some (.ref 650), some (.int v1), some (.int v2)] [] (hp q) := by
  unfold F166_98 at hG
  unfold S166_98 at hS
  refine x_run (pc' := 100) (lo' := [some (.ref 650), some (.int v1), some (.int v2)]) (st' := [.int v1, .int v2]) 2 rfl ?_
  refine x_ic 151 rfl rfl (fun (hc18 : v1 < v2) => ?_) (fun (hc18 : ¬ v1 < v2) => ?_)
  · rw [if_pos hc18] at hG
    replace hS := hS.1 hc18
    refine x_kill [0, 1, 2] ?_
    exact hG
  · rw [if_neg hc18] at hG
    replace hS := hS.2 hc18
    refine x_run (pc' := 104) (lo' := [some (.ref 650), some (.int v1), some (.int v2)]) (st' := [.ref 650]) 1 rfl ?_
    refine x_gf (c := 604) (ne := 0) (v := .ref 674) rfl (by decide +kernel) rfl rfl ?_
    refine x_run (pc' := 108) (lo' := [some (.ref 650), some (.int v1), some (.int v2)]) (st' := [.int v2, .ref 674]) 1 rfl ?_
    obtain ⟨o19, hS⟩ := hS
    refine p_za (n := 60) (v := (q.1 674 (Int32.toNatClampNeg v2))) rfl rfl o19 rfl ?_
    refine x_if 131 rfl rfl (fun (hc20 : (q.1 674 (Int32.toNatClampNeg v2)) = 0) => ?_) (fun (hc20 : ¬ (q.1 674 (Int32.toNatClampNeg v2)) = 0) => ?_)
    · rw [if_pos hc20] at hG
      replace hS := hS.1 hc20
      exact A166_131 hd hN hG hS
    · rw [if_neg hc20] at hG
      replace hS := hS.2 hc20
      refine x_run (pc' := 113) (lo' := [some (.ref 650), some (.int v1), some (.int v2)]) (st' := [.ref 650]) 1 rfl ?_
      refine x_gf (c := 577) (ne := 0) (v := .ref 651) rfl (by decide +kernel) rfl rfl ?_
      refine x_run (pc' := 117) (lo' := [some (.ref 650), some (.int v1), some (.int v2)]) (st' := [.int v2, .ref 651]) 1 rfl ?_
      obtain ⟨o24, hS⟩ := hS
      refine p_ia (n := 60) (v := (q.1 651 (Int32.toNatClampNeg v2))) rfl rfl o24 rfl ?_
      refine x_run (pc' := 120) (lo' := [some (.ref 650), some (.int v1), some (.int v2)]) (st' := [.int 10, .int (q.1 651 (Int32.toNatClampNeg v2))]) 1 rfl ?_
      refine x_ic 131 rfl rfl (fun (hc25 : 10 ≤ (q.1 651 (Int32.toNatClampNeg v2))) => ?_) (fun (hc25 : ¬ 10 ≤ (q.1 651 (Int32.toNatClampNeg v2))) => ?_)
      · rw [if_pos hc25] at hG
        replace hS := hS.1 hc25
        exact A166_131 hd hN hG hS
      · rw [if_neg hc25] at hG
        replace hS := hS.2 hc25
        refine x_run (pc' := 125) (lo' := [some (.ref 650), some (.int v1), some (.int v2)]) (st' := [.int v2, .ref 650]) 2 rfl ?_
        obtain ⟨o26, hS⟩ := hS
        refine x_cv (j := 164) (ne := 0) (vs := [.int v2]) (rest := []) rfl (by decide +kernel) (by decide +kernel) (by decide) (Eq.trans rfl (show 1 = _ from by decide +kernel)) rfl (by decide +kernel) rfl (Nat.le_of_ble_eq_true rfl) (by omega) (T164 (Nat.le_refl 3) o26) (hp_m hN) ?_
        show AW l X 166 c166 d r h' 128 [some (.ref 650), some (.int v1), some (.int v2)] [] (hp (F164_0 v2 q))
        exact A166_128 hd hN hG hS
def F166_151 (q : aQ) : aQ := q
def S166_151 (q : aQ) : Prop := True
set_option maxRecDepth 100000 in
set_option maxHeartbeats 4000000 in
theorem A166_151 {l : Launch} {X : aX} {d : Nat} {r : Option Value} {h' : aH} {q : aQ} (hd : 5 ≤ d) (hN : h'.1 = nk0) (hG : gV r h' (F166_151 q)) (hS : S166_151 q) : AW l X 166 c166 d r h' 151 [none, none, none] [] (hp q) := by
  unfold F166_151 at hG
  unfold S166_151 at hS
  obtain ⟨rfl, rfl⟩ := hG
  exact x_ret rfl (by decide +kernel)
def F166_96 (v1 : Int32) (q : aQ) : aQ := (fun (e27 : aQ) => F166_151 e27) (a_lp (fun (s : Int32 × aQ) => F166_98 v1 s.1 s.2) 200 (0, q) q)
def S166_96 (v1 : Int32) (q : aQ) : Prop := a_sf (fun (s : Int32 × aQ) => F166_98 v1 s.1 s.2) (fun (s : Int32 × aQ) => S166_98 v1 s.1 s.2) 200 (0, q) ∧ (fun (e27 : aQ) => S166_151 e27) (a_lp (fun (s : Int32 × aQ) => F166_98 v1 s.1 s.2) 200 (0, q) q)
set_option maxRecDepth 100000 in
set_option maxHeartbeats 4000000 in
theorem A166_96 {l : Launch} {X : aX} {d : Nat} {r : Option Value} {h' : aH} {v1 : Int32} {q : aQ} (hd : 5 ≤ d) (hN : h'.1 = nk0) (hG : gV r h' (F166_96 v1 q)) (hS : S166_96 v1 q) : AW l X 166 c166 d r h' 96 [some (.ref 650), some (.int v1), none] [] (hp q) := by
  unfold F166_96 at hG
  unfold S166_96 at hS
  refine x_run (pc' := 98) (lo' := [some (.ref 650), some (.int v1), some (.int 0)]) (st' := []) 2 rfl ?_
  obtain ⟨ho, hS⟩ := hS
  refine x_loop (fun (s : Int32 × aQ) => F166_98 v1 s.1 s.2) (fun (s : Int32 × aQ) => S166_98 v1 s.1 s.2) (fun (s : Int32 × aQ) => AW l X 166 c166 d r h' 98 [some (.ref 650), some (.int v1), some (.int s.1)] [] (hp s.2)) (fun (e : aQ) => AW l X 166 c166 d r h' 151 [none, none, none] [] (hp e)) (fun s hs hg => A166_98 hd hN hg hs) 200 (0, q) ho (fun e27 he => ?_)
  rw [a_lp_eq he] at hG hS
  try dsimp only at hG hS
  exact A166_151 hd hN hG hS
def F166_29 (v1 : Int32) (q : aQ) : aQ := (fun (e17 : aQ) => F166_96 v1 e17) (a_lp (fun (s : Int32 × aQ) => F166_31 v1 s.1 s.2) 200 (v1, q) q)
def S166_29 (v1 : Int32) (q : aQ) : Prop := a_sf (fun (s : Int32 × aQ) => F166_31 v1 s.1 s.2) (fun (s : Int32 × aQ) => S166_31 v1 s.1 s.2) 200 (v1, q) ∧ (fun (e17 : aQ) => S166_96 v1 e17) (a_lp (fun (s : Int32 × aQ) => F166_31 v1 s.1 s.2) 200 (v1, q) q)
set_option maxRecDepth 100000 in
set_option maxHeartbeats 4000000 in
theorem A166_29 {l : Launch} {X : aX} {d : Nat} {r : Option Value} {h' : aH} {v1 : Int32} {q : aQ} (hd : 5 ≤ d) (hN : h'.1 = nk0) (hG : gV r h' (F166_29 v1 q)) (hS : S166_29 v1 q) : AW l X 166 c166 d r h' 29 [some (.ref 650), some (.int v1), none] [] (hp q) := by
  unfold F166_29 at hG
  unfold S166_29 at hS
  refine x_run (pc' := 31) (lo' := [some (.ref 650), some (.int v1), some (.int v1)]) (st' := []) 2 rfl ?_
  obtain ⟨ho, hS⟩ := hS
  refine x_loop (fun (s : Int32 × aQ) => F166_31 v1 s.1 s.2) (fun (s : Int32 × aQ) => S166_31 v1 s.1 s.2) (fun (s : Int32 × aQ) => AW l X 166 c166 d r h' 31 [some (.ref 650), some (.int v1), some (.int s.1)] [] (hp s.2)) (fun (e : aQ) => AW l X 166 c166 d r h' 96 [some (.ref 650), some (.int v1), none] [] (hp e)) (fun s hs hg => A166_31 hd hN hg hs) 200 (v1, q) ho (fun e17 he => ?_)
  rw [a_lp_eq he] at hG hS
  try dsimp only at hG hS
  exact A166_96 hd hN hG hS
def F166_0 (v1 : Int32) (q : aQ) : aQ := (fun (e5 : aQ) => F166_29 v1 e5) (a_lp (fun (s : Int32 × aQ) => F166_2 v1 s.1 s.2) 200 (0, q) q)
def S166_0 (v1 : Int32) (q : aQ) : Prop := a_sf (fun (s : Int32 × aQ) => F166_2 v1 s.1 s.2) (fun (s : Int32 × aQ) => S166_2 v1 s.1 s.2) 200 (0, q) ∧ (fun (e5 : aQ) => S166_29 v1 e5) (a_lp (fun (s : Int32 × aQ) => F166_2 v1 s.1 s.2) 200 (0, q) q)
set_option maxRecDepth 100000 in
set_option maxHeartbeats 4000000 in
theorem A166_0 {l : Launch} {X : aX} {d : Nat} {r : Option Value} {h' : aH} {v1 : Int32} {q : aQ} (hd : 5 ≤ d) (hN : h'.1 = nk0) (hG : gV r h' (F166_0 v1 q)) (hS : S166_0 v1 q) : AW l X 166 c166 d r h' 0 [some (.ref 650), some (.int v1), none] [] (hp q) := by
  unfold F166_0 at hG
  unfold S166_0 at hS
  refine x_run (pc' := 2) (lo' := [some (.ref 650), some (.int v1), some (.int 0)]) (st' := []) 2 rfl ?_
  obtain ⟨ho, hS⟩ := hS
  refine x_loop (fun (s : Int32 × aQ) => F166_2 v1 s.1 s.2) (fun (s : Int32 × aQ) => S166_2 v1 s.1 s.2) (fun (s : Int32 × aQ) => AW l X 166 c166 d r h' 2 [some (.ref 650), some (.int v1), some (.int s.1)] [] (hp s.2)) (fun (e : aQ) => AW l X 166 c166 d r h' 29 [some (.ref 650), some (.int v1), none] [] (hp e)) (fun s hs hg => A166_2 hd hN hg hs) 200 (0, q) ho (fun e5 he => ?_)
  rw [a_lp_eq he] at hG hS
  try dsimp only at hG hS
  exact A166_29 hd hN hG hS
theorem T166 {l : Launch} {X : aX} {d : Nat} {v1 : Int32} {q : aQ} (hd : 5 ≤ d) (hS : S166_0 v1 q) : Call l X d 166 [.ref 650, .int v1] (hp q) none (hp (F166_0 v1 q)) := Call.of ok166 (by decide) (Nat.le_of_ble_eq_true rfl) ⟨Nat.le_refl _, Nat.le_refl _⟩ (A166_0 hd rfl ⟨rfl, rfl⟩ hS)
