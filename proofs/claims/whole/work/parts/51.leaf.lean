/-! leaf -/
theorem i_5_4 {x : Int32} : (5 : Int32) ≤ x ↔ (4 : Int32) < x := by
  rw [Int32.le_iff_toInt_le, Int32.lt_iff_toInt_lt, show (5 : Int32).toInt = 5 from by decide, show (4 : Int32).toInt = 4 from by decide]
  omega
def lv (a b : Int32) : Prop := (a = 0 ∧ ¬ b < -1000000000 ∧ ¬ 1000000000 < b) ∨ (a = 1 ∧ ¬ b < 0 ∧ ¬ 1000000000 < b) ∨ a = 2 ∨ (a = 3 ∧ ¬ b < 0 ∧ ¬ 4 < b) ∨ a = 4
theorem lv_ok {a b : Int32} (h : lv a b) : leafOk a b := by
  rcases h with h | h | h | ⟨h1, h2, h3⟩ | h
  · exact Or.inl h
  · exact Or.inr (Or.inl h)
  · exact Or.inr (Or.inr (Or.inl h))
  · exact Or.inr (Or.inr (Or.inr (Or.inl ⟨h1, nI_below (n := 5) h2 (fun z => h3 (i_5_4.mp z)) (by decide)⟩)))
  · exact Or.inr (Or.inr (Or.inr (Or.inr h)))
theorem F22_eq {v : Int32} {q : aQ} : F22_0 v q = if ¬ v < 0 ∧ ¬ 4 < v then 1 else 0 := by
  unfold F22_0
  by_cases h0 : v < 0
  · simp [h0]
  · by_cases h1 : (4 : Int32) < v
    · simp [h0, h1, i_5_4]
    · simp [h0, h1, i_5_4]
theorem F27_eq {a b : Int32} {q : aQ} (h : lv a b) : F27_0 a b q = 1 := by
  unfold F27_0
  rw [F22_eq]
  rcases h with ⟨rfl, h1, h2⟩ | ⟨rfl, h1, h2⟩ | rfl | ⟨rfl, h1, h2⟩ | rfl
  · simp [h1, h2]
  · simp [h1, h2]
  · rfl
  · simp [h1, h2]
  · rfl
theorem F27_ne {a b : Int32} {q : aQ} (h : ¬ lv a b) : F27_0 a b q = 0 := by
  unfold F27_0
  rw [F22_eq]
  unfold lv at h
  by_cases a0 : a = 0
  · simp only [a0, if_true]
    by_cases h1 : b < -1000000000
    · rw [if_pos h1]
    · rw [if_neg h1]
      by_cases h2 : 1000000000 < b
      · rw [if_pos h2]
      · exact absurd (Or.inl ⟨a0, h1, h2⟩) h
  · rw [if_neg a0]
    by_cases a1 : a = 1
    · rw [if_pos a1]
      by_cases h1 : b < 0
      · rw [if_pos h1]
      · rw [if_neg h1]
        by_cases h2 : 1000000000 < b
        · rw [if_pos h2]
        · exact absurd (Or.inr (Or.inl ⟨a1, h1, h2⟩)) h
    · rw [if_neg a1]
      by_cases a2 : a = 2
      · exact absurd (Or.inr (Or.inr (Or.inl a2))) h
      · rw [if_neg a2]
        by_cases a3 : a = 3
        · rw [if_pos a3]
          by_cases h1 : ¬ b < 0 ∧ ¬ 4 < b
          · exact absurd (Or.inr (Or.inr (Or.inr (Or.inl ⟨a3, h1.1, h1.2⟩)))) h
          · rw [if_neg h1]
        · rw [if_neg a3]
          by_cases a4 : a = 4
          · exact absurd (Or.inr (Or.inr (Or.inr (Or.inr a4)))) h
          · rw [if_neg a4]
theorem S22_ok {v : Int32} {q : aQ} : S22_0 v q := by unfold S22_0; simp
theorem F22_01 {v : Int32} {q : aQ} : F22_0 v q = 0 ∨ F22_0 v q = 1 := by
  rw [F22_eq]; split
  · exact Or.inr rfl
  · exact Or.inl rfl
theorem S27_ok {a b : Int32} {q : aQ} : S27_0 a b q := by
  unfold S27_0
  simp [S22_ok, F22_01]
/-- what the class writes for a new leaf -/
def leafC (q : aQ) (n : Nat) (a b : Int32) : aQ := a_w (a_w (a_w (a_w (a_w q 2 n (-1)) 3 n a) 4 n b) 7 n 1) 1 6 (nI (n + 1))
def leafM (q : aQ) (n : Nat) (a b : Int32) : aQ := a_w (a_w (a_w (a_w q 651 n a) 652 n b) 654 n 1) 650 0 (nI (n + 1))
theorem F2_yes {q : aQ} {n : Nat} {a b : Int32} (hn : q.1 1 6 = nI n) (h6 : n < 60) (h : lv a b) : F2_0 a b q = (nI n, leafC q n a b) ∧ S2_0 a b q := by
  have h60 : ¬ (60 : Int32) ≤ nI n := nI_ge h6 (by decide)
  have hin : vp_in (nI n) 60 := vp_in_nI h6 (by decide)
  have hc : (nI n).toNatClampNeg = n := nI_clamp (by omega)
  refine ⟨?_, ?_⟩
  · unfold F2_0 F26_0
    rw [hn, if_neg h60, F27_eq h, if_neg (by decide), hc, nI_1]
    rfl
  · unfold S2_0 S26_0
    rw [hn]
    exact ⟨⟨fun z => absurd z h60, fun _ => ⟨S27_ok, fun _ => trivial, fun _ => ⟨hin, hin, hin, hin, trivial⟩⟩⟩, trivial⟩
theorem F2_no {q : aQ} {n : Nat} {a b : Int32} (hn : q.1 1 6 = nI n) (h6 : n ≤ 60) (h : n = 60 ∨ ¬ lv a b) : F2_0 a b q = (-1, q) ∧ S2_0 a b q := by
  by_cases hn6 : n = 60
  · subst hn6
    have h60 : (60 : Int32) ≤ nI 60 := by decide
    refine ⟨?_, ?_⟩
    · unfold F2_0 F26_0
      rw [hn, if_pos h60]
    · unfold S2_0 S26_0
      rw [hn]
      exact ⟨⟨fun _ => trivial, fun z => absurd h60 z⟩, trivial⟩
  · have hl := h.resolve_left hn6
    have h60 : ¬ (60 : Int32) ≤ nI n := nI_ge (b := 60) (by omega) (by decide)
    refine ⟨?_, ?_⟩
    · unfold F2_0 F26_0
      rw [hn, if_neg h60, F27_ne hl, if_pos rfl]
    · unfold S2_0 S26_0
      rw [hn]
      refine ⟨⟨fun z => absurd z h60, fun _ => ⟨S27_ok, fun _ => trivial, fun z => absurd (F27_ne hl) z⟩⟩, trivial⟩
theorem F133_63_eq {a b v3 v4 s0 : Int32} {q : aQ} {n : Nat} (hn : q.1 650 0 = nI n) (h6 : n < 60) (h : v3 ≠ 0 ∨ v4 ≠ 0 ∨ s0 ≠ 0 ∨ a = 2 ∨ a = 4) : F133_63 a b v3 v4 s0 q = F133_100 a b q ∧ (S133_100 a b q → S133_63 a b v3 v4 s0 q) := by
  have h60 : ¬ nI n = (60 : Int32) := fun z => by have := nI_inj (b := 60) (by omega) (by decide) z; omega
  unfold F133_63 S133_63
  rw [hn, if_neg h60]
  constructor
  · by_cases e3 : v3 = 0
    · rw [if_pos e3]
      by_cases e4 : v4 = 0
      · rw [if_pos e4]
        by_cases e0 : s0 = 0
        · rw [if_pos e0]
          rcases h with h | h | h | h | h
          · exact absurd e3 h
          · exact absurd e4 h
          · exact absurd e0 h
          · rw [if_pos h]
          · subst h; rfl
        · rw [if_neg e0]
      · rw [if_neg e4]
    · rw [if_neg e3]
  · intro hS
    refine ⟨fun z => absurd z h60, fun _ => ⟨fun e3 => ⟨fun e4 => ⟨fun e0 => ⟨fun _ => hS, fun e2 => ⟨fun _ => hS, fun _ => trivial⟩⟩, fun _ => hS⟩, fun _ => hS⟩, fun _ => hS⟩⟩
theorem F133_63_no {a b : Int32} {q : aQ} (h : q.1 650 0 = 60 ∨ (a ≠ 2 ∧ a ≠ 4)) : F133_63 a b 0 0 0 q = (-1, q) ∧ S133_63 a b 0 0 0 q := by
  unfold F133_63 S133_63
  by_cases h6 : q.1 650 0 = 60
  · rw [if_pos h6]
    exact ⟨rfl, fun _ => trivial, fun z => absurd h6 z⟩
  · have h2 := h.resolve_left h6
    rw [if_neg h6, if_pos rfl, if_pos rfl, if_pos rfl, if_neg h2.1, if_neg h2.2]
    exact ⟨rfl, fun z => absurd z h6, fun _ => ⟨fun _ => ⟨fun _ => ⟨fun _ => ⟨fun z => absurd z h2.1, fun _ => ⟨fun z => absurd z h2.2, fun _ => trivial⟩⟩, fun z => absurd rfl z⟩, fun z => absurd rfl z⟩, fun z => absurd rfl z⟩⟩
theorem F133_63_60 {a b v3 v4 s0 : Int32} {q : aQ} (h : q.1 650 0 = 60) : F133_63 a b v3 v4 s0 q = (-1, q) ∧ S133_63 a b v3 v4 s0 q := by
  unfold F133_63 S133_63
  rw [if_pos h]
  exact ⟨rfl, fun _ => trivial, fun z => absurd h z⟩
theorem F133_yes {q : aQ} {n : Nat} {a b : Int32} (hn : q.1 650 0 = nI n) (h6 : n < 60) (h : lv a b) : F133_0 a b q = (nI n, leafM q n a b) ∧ S133_0 a b q := by
  have hin : vp_in (nI n) 60 := vp_in_nI h6 (by decide)
  have hc : (nI n).toNatClampNeg = n := nI_clamp (by omega)
  have hS : S133_100 a b q := by
    unfold S133_100; rw [hn]; exact ⟨hin, hin, hin, trivial⟩
  have hF : F133_100 a b q = (nI n, leafM q n a b) := by
    unfold F133_100
    rw [hn, hc, nI_1, show nI (n + 1) - 1 = nI n from nI_pred n]
    rfl
  rw [← hF]
  have k63 := fun v3 v4 s0 h => F133_63_eq (a := a) (b := b) (v3 := v3) (v4 := v4) (s0 := s0) hn h6 h
  have k62 : ∀ v3 v4, (v3 ≠ 0 ∨ v4 ≠ 0 ∨ a = 2 ∨ a = 4) → F133_62 a b v3 v4 q = F133_100 a b q ∧ S133_62 a b v3 v4 q := by
    intro v3 v4 h
    unfold F133_62 S133_62
    have := k63 v3 v4 0 (by rcases h with h | h | h | h <;> simp [h])
    exact ⟨this.1, this.2 hS⟩
  have k42 : ∀ v3 s0, (v3 ≠ 0 ∨ s0 ≠ 0 ∨ a = 2 ∨ a = 4 ∨ (a = 3 ∧ ¬ b < 0 ∧ ¬ 4 < b)) → F133_42 a b v3 s0 q = F133_100 a b q ∧ S133_42 a b v3 s0 q := by
    intro v3 s0 h
    unfold F133_42 S133_42
    by_cases a3 : a = 3
    · rw [if_pos a3]
      by_cases b0 : b < 0
      · rw [if_pos b0]
        have k := k62 v3 s0 (by rcases h with h | h | h | h | h <;> simp_all)
        exact ⟨k.1, fun _ => ⟨fun _ => k.2, fun z => absurd b0 z⟩, fun z => absurd a3 z⟩
      · rw [if_neg b0]
        by_cases b4 : (4 : Int32) < b
        · rw [if_pos b4]
          have k := k62 v3 s0 (by rcases h with h | h | h | h | h <;> simp_all)
          exact ⟨k.1, fun _ => ⟨fun z => absurd z b0, fun _ => ⟨fun _ => k.2, fun z => absurd b4 z⟩⟩, fun z => absurd a3 z⟩
        · rw [if_neg b4]
          have k := k63 v3 s0 1 (by simp)
          exact ⟨k.1, fun _ => ⟨fun z => absurd z b0, fun _ => ⟨fun z => absurd z b4, fun _ => k.2 hS⟩⟩, fun z => absurd a3 z⟩
    · rw [if_neg a3]
      have k := k62 v3 s0 (by rcases h with h | h | h | h | h <;> simp_all)
      exact ⟨k.1, fun z => absurd z a3, fun _ => k.2⟩
  have k21 : ∀ s0, (s0 ≠ 0 ∨ (a = 1 ∧ ¬ b < 0 ∧ ¬ 1000000000 < b) ∨ a = 2 ∨ (a = 3 ∧ ¬ b < 0 ∧ ¬ 4 < b) ∨ a = 4) → F133_21 a b s0 q = F133_100 a b q ∧ S133_21 a b s0 q := by
    intro s0 h
    unfold F133_21 S133_21 F133_41 S133_41
    by_cases a1 : a = 1
    · rw [if_pos a1]
      by_cases b0 : b < 0
      · rw [if_pos b0]
        have k := k42 s0 0 (by rcases h with h | h | h | h | h <;> simp_all)
        exact ⟨k.1, fun _ => ⟨fun _ => k.2, fun z => absurd b0 z⟩, fun z => absurd a1 z⟩
      · rw [if_neg b0]
        by_cases b4 : (1000000000 : Int32) < b
        · rw [if_pos b4]
          have k := k42 s0 0 (by rcases h with h | h | h | h | h <;> simp_all)
          exact ⟨k.1, fun _ => ⟨fun z => absurd z b0, fun _ => ⟨fun _ => k.2, fun z => absurd b4 z⟩⟩, fun z => absurd a1 z⟩
        · rw [if_neg b4]
          have k := k42 s0 1 (by simp)
          exact ⟨k.1, fun _ => ⟨fun z => absurd z b0, fun _ => ⟨fun z => absurd z b4, fun _ => k.2⟩⟩, fun z => absurd a1 z⟩
    · rw [if_neg a1]
      have k := k42 s0 0 (by rcases h with h | h | h | h | h <;> simp_all)
      exact ⟨k.1, fun z => absurd z a1, fun _ => k.2⟩
  unfold F133_0 S133_0 F133_20 S133_20
  by_cases a0 : a = 0
  · rw [if_pos a0]
    have hb : ¬ b < -1000000000 ∧ ¬ 1000000000 < b := by
      rcases h with h | h | h | h | h
      · exact h.2
      · exact absurd (a0.symm.trans h.1) (by decide)
      · exact absurd (a0.symm.trans h) (by decide)
      · exact absurd (a0.symm.trans h.1) (by decide)
      · exact absurd (a0.symm.trans h) (by decide)
    rw [if_neg hb.1, if_neg hb.2]
    have k := k21 1 (by simp)
    exact ⟨k.1, fun _ => ⟨fun z => absurd z hb.1, fun _ => ⟨fun z => absurd z hb.2, fun _ => k.2⟩⟩, fun z => absurd a0 z⟩
  · rw [if_neg a0]
    have k := k21 0 (by rcases h with h | h | h | h | h <;> simp_all)
    exact ⟨k.1, fun z => absurd z a0, fun _ => k.2⟩
theorem F133_no {q : aQ} {n : Nat} {a b : Int32} (hn : q.1 650 0 = nI n) (h : n = 60 ∨ ¬ lv a b) : F133_0 a b q = (-1, q) ∧ S133_0 a b q := by
  have k63 : ∀ v3 v4 s0, (n = 60 ∨ (v3 = 0 ∧ v4 = 0 ∧ s0 = 0 ∧ a ≠ 2 ∧ a ≠ 4)) → F133_63 a b v3 v4 s0 q = (-1, q) ∧ S133_63 a b v3 v4 s0 q := by
    intro v3 v4 s0 h
    rcases h with h | ⟨rfl, rfl, rfl, h1, h2⟩
    · subst h; exact F133_63_60 hn
    · exact F133_63_no (Or.inr ⟨h1, h2⟩)
  have hv : n = 60 ∨ (a ≠ 2 ∧ a ≠ 4 ∧ (a = 3 → b < 0 ∨ 4 < b) ∧ (a = 1 → b < 0 ∨ 1000000000 < b) ∧ (a = 0 → b < -1000000000 ∨ 1000000000 < b)) := by
    rcases h with h | h
    · exact Or.inl h
    · refine Or.inr ⟨fun z => h (Or.inr (Or.inr (Or.inl z))), fun z => h (Or.inr (Or.inr (Or.inr (Or.inr z)))), fun z => ?_, fun z => ?_, fun z => ?_⟩
      · by_cases b0 : b < 0
        · exact Or.inl b0
        · by_cases b4 : (4 : Int32) < b
          · exact Or.inr b4
          · exact absurd (Or.inr (Or.inr (Or.inr (Or.inl ⟨z, b0, b4⟩)))) h
      · by_cases b0 : b < 0
        · exact Or.inl b0
        · by_cases b4 : (1000000000 : Int32) < b
          · exact Or.inr b4
          · exact absurd (Or.inr (Or.inl ⟨z, b0, b4⟩)) h
      · by_cases b0 : b < -1000000000
        · exact Or.inl b0
        · by_cases b4 : (1000000000 : Int32) < b
          · exact Or.inr b4
          · exact absurd (Or.inl ⟨z, b0, b4⟩) h
  have k42 : ∀ v3 s0, (n = 60 ∨ (v3 = 0 ∧ s0 = 0)) → F133_42 a b v3 s0 q = (-1, q) ∧ S133_42 a b v3 s0 q := by
    intro v3 s0 h2
    have key : ∀ t, (n = 60 ∨ t = 0) → F133_63 a b v3 s0 t q = (-1, q) ∧ S133_63 a b v3 s0 t q := by
      intro t ht
      refine k63 v3 s0 t ?_
      by_cases hn6 : n = 60
      · exact Or.inl hn6
      · obtain ⟨e1, e2⟩ := h2.resolve_left hn6
        exact Or.inr ⟨e1, e2, ht.resolve_left hn6, (hv.resolve_left hn6).1, (hv.resolve_left hn6).2.1⟩
    have k0 := key 0 (Or.inr rfl)
    unfold F133_42 S133_42 F133_62 S133_62
    by_cases a3 : a = 3
    · rw [if_pos a3]
      by_cases b0 : b < 0
      · rw [if_pos b0]; exact ⟨k0.1, fun _ => ⟨fun _ => k0.2, fun z => absurd b0 z⟩, fun z => absurd a3 z⟩
      · rw [if_neg b0]
        by_cases b4 : (4 : Int32) < b
        · rw [if_pos b4]; exact ⟨k0.1, fun _ => ⟨fun z => absurd z b0, fun _ => ⟨fun _ => k0.2, fun z => absurd b4 z⟩⟩, fun z => absurd a3 z⟩
        · rw [if_neg b4]
          have k1 := key 1 (Or.inl (by
            rcases hv with hv | hv
            · exact hv
            · rcases hv.2.2.1 a3 with z | z
              · exact absurd z b0
              · exact absurd z b4))
          exact ⟨k1.1, fun _ => ⟨fun z => absurd z b0, fun _ => ⟨fun z => absurd z b4, fun _ => k1.2⟩⟩, fun z => absurd a3 z⟩
    · rw [if_neg a3]; exact ⟨k0.1, fun z => absurd z a3, fun _ => k0.2⟩
  have k21 : ∀ s0, (n = 60 ∨ s0 = 0) → F133_21 a b s0 q = (-1, q) ∧ S133_21 a b s0 q := by
    intro s0 h2
    have k0 := k42 s0 0 (h2.imp id (fun z => ⟨z, rfl⟩))
    unfold F133_21 S133_21 F133_41 S133_41
    by_cases a1 : a = 1
    · rw [if_pos a1]
      by_cases b0 : b < 0
      · rw [if_pos b0]; exact ⟨k0.1, fun _ => ⟨fun _ => k0.2, fun z => absurd b0 z⟩, fun z => absurd a1 z⟩
      · rw [if_neg b0]
        by_cases b4 : (1000000000 : Int32) < b
        · rw [if_pos b4]; exact ⟨k0.1, fun _ => ⟨fun z => absurd z b0, fun _ => ⟨fun _ => k0.2, fun z => absurd b4 z⟩⟩, fun z => absurd a1 z⟩
        · rw [if_neg b4]
          have k1 := k42 s0 1 (Or.inl (by
            rcases hv with hv | hv
            · exact hv
            · rcases hv.2.2.2.1 a1 with z | z
              · exact absurd z b0
              · exact absurd z b4))
          exact ⟨k1.1, fun _ => ⟨fun z => absurd z b0, fun _ => ⟨fun z => absurd z b4, fun _ => k1.2⟩⟩, fun z => absurd a1 z⟩
    · rw [if_neg a1]; exact ⟨k0.1, fun z => absurd z a1, fun _ => k0.2⟩
  have k0 := k21 0 (Or.inr rfl)
  unfold F133_0 S133_0 F133_20 S133_20
  by_cases a0 : a = 0
  · rw [if_pos a0]
    by_cases b0 : b < -1000000000
    · rw [if_pos b0]; exact ⟨k0.1, fun _ => ⟨fun _ => k0.2, fun z => absurd b0 z⟩, fun z => absurd a0 z⟩
    · rw [if_neg b0]
      by_cases b4 : (1000000000 : Int32) < b
      · rw [if_pos b4]; exact ⟨k0.1, fun _ => ⟨fun z => absurd z b0, fun _ => ⟨fun _ => k0.2, fun z => absurd b4 z⟩⟩, fun z => absurd a0 z⟩
      · rw [if_neg b4]
        have k1 := k21 1 (Or.inl (by
          rcases hv with hv | hv
          · exact hv
          · rcases hv.2.2.2.2 a0 with z | z
            · exact absurd z b0
            · exact absurd z b4))
        exact ⟨k1.1, fun _ => ⟨fun z => absurd z b0, fun _ => ⟨fun z => absurd z b4, fun _ => k1.2⟩⟩, fun z => absurd a0 z⟩
  · rw [if_neg a0]; exact ⟨k0.1, fun z => absurd z a0, fun _ => k0.2⟩
