/-- adding a statement that opens nothing keeps the invariant -/
theorem added_iP {q q2 : aQ} {nE n m kN : Nat} {o p : Nat → Nat} {k det det' e : Int32} (h : iP q nE n m o p) (hn : n < 24) (hk : k = nI kN) (hN : newS q nE n m o kN det det' e) (A : addedR q q2 n m o p k det det' e) (r16 : ∀ s, q2.1 16 s = q.1 16 s) (r17 : ∀ s, q2.1 17 s = q.1 17 s) (r663 : ∀ s, q2.1 663 s = q.1 663 s) (r18 : ∀ s, q2.1 18 s = if s = m then nI n else q.1 18 s) (r8 : q2.1 8 11 = q.1 8 11) (r650 : q2.1 650 14 = q.1 650 14) : iP q2 nE (n + 1) m o p := by
  have hiS := added_iS h hn hk hN A
  have hLa := added_last h hn A
  have hlat := h.lat
  have hcur := h.cur
  obtain ⟨h24, h5, c1, c2, c3, c4, hS, hO, t0, hl, hb, z0, z1⟩ := h
  obtain ⟨A, a87, a6505⟩ := A
  refine ⟨by omega, h5, a87, a6505, r8.trans c3, r650.trans c4, hiS, fun l hl5 => ?_, ?_, hLa.1, hLa.2.1, fun z => by omega, fun _ => hLa.2.2⟩
  · obtain ⟨o1, o2, o3, o4, o5, ⟨kk, k1, k2, k3, k4⟩, o7, o8, o9, o10⟩ := hO l hl5
    have e9 := (A (o l)).1
    have e12 := (A (o l)).2.2.2.1
    rw [if_neg (by omega : ¬ o l = n)] at e9 e12
    have hm : ¬ m = 0 := by omega
    have hB := (hcur hm).2
    have hlt := iO_lt hO
    refine ⟨by omega, o2, (r16 l).trans o3, (r17 l).trans o4, (r663 l).trans o5, ⟨kk, k1, k2, e9.trans k3, k4⟩, ?_, fun hp => ?_, fun z => e12.trans (o9 z), fun z => ?_⟩
    · have f662 := (A (2 * o l + p l)).2.2.2.2.2.2.2.2.2.2.2.2.2.2
      rw [r18, f662]
      by_cases g : l + 1 = m
      · have : l = m - 1 := by omega
        subst this
        rw [if_pos (by omega), if_pos hB.symm]
      · have h3 := hlt (m - 1) l (by omega) (by omega)
        have hp2 := (hO (m - 1) (by omega)).2.1
        rw [if_neg g, if_neg (by omega : ¬ 2 * o l + p l = curB m o p)]
        exact o7
    · have f662 := (A (2 * o l + 1)).2.2.2.2.2.2.2.2.2.2.2.2.2.2
      have hne : ¬ 2 * o l + 1 = curB m o p := by
        rw [hB]
        by_cases g : l = m - 1
        · subst g; omega
        · have h3 := hlt (m - 1) l (by omega) (by omega)
          omega
      rw [f662, if_neg hne]
      exact o8 hp
    · rw [e12]; exact o10 z
  · have f662 := (A 48).2.2.2.2.2.2.2.2.2.2.2.2.2.2
    rw [r18, f662]
    by_cases hm : m = 0
    · rw [if_pos hm.symm, if_pos (by unfold curB; rw [if_pos hm])]
    · rw [if_neg (fun z => hm z.symm), if_neg (by have := (hcur hm).1; omega)]
      exact t0
/-- adding a statement that opens its first block -/
theorem opened_iP {q q2 : aQ} {nE n m kN : Nat} {o p : Nat → Nat} {k det det' e : Int32} (h : iP q nE n m o p) (hn : n < 24) (hm4 : m < 5) (hk : k = nI kN) (hk4 : 4 ≤ kN) (hN : newS q nE n m o kN det det' e) (A : addedR q q2 n m o p k det det' e) (r16 : ∀ s, q2.1 16 s = if s = m then nI n else q.1 16 s) (r17 : ∀ s, q2.1 17 s = if s = m then 0 else q.1 17 s) (r663 : ∀ s, q2.1 663 s = if s = m then nI (2 * n) else q.1 663 s) (r18 : ∀ s, q2.1 18 s = if s = m + 1 then -1 else if s = m then nI n else q.1 18 s) (r8 : q2.1 8 11 = nI (m + 1)) (r650 : q2.1 650 14 = nI (m + 1)) : iP q2 nE (n + 1) (m + 1) (fun l => if l = m then n else o l) (fun l => if l = m then 0 else p l) := by
  have hiS := added_iS h hn hk hN A
  have hLa := added_last h hn A
  have hlat := h.lat
  have hcur := h.cur
  obtain ⟨h24, h5, c1, c2, c3, c4, hS, hO, t0, hl, hb, z0, z1⟩ := h
  obtain ⟨A, a87, a6505⟩ := A
  have hlt := iO_lt hO
  refine ⟨by omega, by omega, a87, a6505, r8, r650, hiS, fun l hl5 => ?_, ?_, hLa.1, hLa.2.1, fun z => by omega, fun _ => hLa.2.2⟩
  · by_cases em : l = m
    · subst em
      have hBn : ∀ b, b < 2 → q2.1 662 (2 * n + b) = -1 := by
        intro b hb2
        have f662 := (A (2 * n + b)).2.2.2.2.2.2.2.2.2.2.2.2.2.2
        have hne : ¬ 2 * n + b = curB l o p := by
          by_cases hm : l = 0
          · unfold curB; rw [if_pos hm]; omega
          · have := (hcur hm).1; omega
        rw [f662, if_neg hne]
        exact (hb _ (by omega) (by omega)).2
      have a9 := (A n).1
      have a12 := (A n).2.2.2.1
      rw [if_pos rfl] at a9 a12
      unfold iO
      simp only [if_true]
      refine ⟨by omega, by decide, by rw [r16, if_pos rfl], by rw [r17, if_pos rfl]; rfl, by rw [r663, if_pos rfl]; rfl, ⟨kN, hk4, hN.1, a9.trans hk, fun _ => trivial⟩, ?_, fun _ => hBn 1 (by decide), fun z => ?_, fun z => ?_⟩
      · rw [r18, if_pos rfl]; exact (hBn 0 (by decide)).symm
      · rw [a12]; unfold arI; rw [if_pos z]
      · rw [if_neg (by omega : ¬ l - 1 = l), a12]
        unfold arI
        rw [if_neg (by omega)]
        exact ⟨rfl, (hO (l - 1) (by omega)).1⟩
    · have hl' : l < m := by omega
      obtain ⟨o1, o2, o3, o4, o5, ⟨kk, k1, k2, k3, k4⟩, o7, o8, o9, o10⟩ := hO l hl'
      have e9 := (A (o l)).1
      have e12 := (A (o l)).2.2.2.1
      rw [if_neg (by omega : ¬ o l = n)] at e9 e12
      have hm : ¬ m = 0 := by omega
      have hB := (hcur hm).2
      unfold iO
      simp only [if_neg em]
      refine ⟨by omega, o2, by rw [r16, if_neg em]; exact o3, by rw [r17, if_neg em]; exact o4, by rw [r663, if_neg em]; exact o5, ⟨kk, k1, k2, e9.trans k3, k4⟩, ?_, fun hp => ?_, fun z => e12.trans (o9 z), fun z => ?_⟩
      · have f662 := (A (2 * o l + p l)).2.2.2.2.2.2.2.2.2.2.2.2.2.2
        rw [r18, f662, if_neg (by omega : ¬ l + 1 = m + 1)]
        by_cases g : l + 1 = m
        · have : l = m - 1 := by omega
          subst this
          rw [if_pos (by omega), if_pos hB.symm]
        · have h3 := hlt (m - 1) l (by omega) (by omega)
          have hp2 := (hO (m - 1) (by omega)).2.1
          rw [if_neg g, if_neg (by omega : ¬ 2 * o l + p l = curB m o p)]
          exact o7
      · have f662 := (A (2 * o l + 1)).2.2.2.2.2.2.2.2.2.2.2.2.2.2
        have hne : ¬ 2 * o l + 1 = curB m o p := by
          rw [hB]
          by_cases g : l = m - 1
          · subst g; omega
          · have h3 := hlt (m - 1) l (by omega) (by omega)
            omega
        rw [f662, if_neg hne]
        exact o8 hp
      · rw [if_neg (by omega : ¬ l - 1 = m), e12]; exact o10 z
  · have f662 := (A 48).2.2.2.2.2.2.2.2.2.2.2.2.2.2
    rw [r18, f662, if_neg (by omega : ¬ 0 = m + 1)]
    by_cases hm : m = 0
    · rw [if_pos hm.symm, if_pos (by unfold curB; rw [if_pos hm])]
    · rw [if_neg (fun z => hm z.symm), if_neg (by have := (hcur hm).1; omega)]
      exact t0
