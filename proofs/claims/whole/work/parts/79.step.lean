/-! one step of a run: the class -/
def oN : Option Nat → Int32
  | none => -1
  | some t => nI t
def ans (k s : Nat) : Int32 := if k = 9 then -2 else 100 * nI k + nI s
/-- what a step of the class changes -/
def frC (q q' : aQ) : Prop := (∀ c j, ¬ (c = 647 ∧ 4 ≤ j) → q'.1 c j = q.1 c j) ∧ (∀ c j, ¬ c = 649 → q'.2 c j = q.2 c j)
theorem frC.rf {q : aQ} : frC q q := ⟨fun _ _ _ => rfl, fun _ _ _ => rfl⟩
theorem frC.tr {q q1 q2 : aQ} (h1 : frC q q1) (h2 : frC q1 q2) : frC q q2 := ⟨fun c j a => (h2.1 c j a).trans (h1.1 c j a), fun c j a => (h2.2 c j a).trans (h1.2 c j a)⟩
theorem frC.w {q : aQ} {j : Nat} {x : Int32} (h : 4 ≤ j) : frC q (a_w q 647 j x) := ⟨fun c i a => by rw [w_get, if_neg (by omega)], fun _ _ _ => rfl⟩
theorem frC.wl {q : aQ} {j : Nat} {x : Int64} : frC q (a_wl q 649 j x) := ⟨fun _ _ _ => rfl, fun c i a => by rw [wl_get, if_neg (fun z => a z.1)]⟩
section
variable {q : aQ} {nE n m fd : Nat} {o p : Nat → Nat} {va : Nat → Nat × Int}
theorem fail_class (h : iP q nE n m o p) {s k : Nat} (hs : s < n) (hk : k ≤ 9) : F119_0 (nI s) (nI k) q = (oN (fl q s k), if fl q s k = none then a_w (a_w q 647 7 (nI s)) 647 6 (ans k s) else q) ∧ S119_0 (nI s) (nI k) q := by
  have e9 : nI k = 9 ↔ k = 9 := nI_eq (b := 9) (by omega) (by decide)
  obtain ⟨c1, c2⟩ := F44_eq h hs (nI k)
  unfold F119_0 S119_0 F119_13 F119_42 F116_0 S116_0 S119_13 S119_42 fl ans
  by_cases k9 : k = 9
  · rw [if_pos (e9.mpr k9), if_pos k9, if_pos rfl, if_pos k9]
    exact ⟨rfl, fun _ => ⟨trivial, trivial⟩, fun z => absurd (e9.mpr k9) z⟩
  · rw [if_neg (fun z => k9 (e9.mp z)), if_neg k9, if_neg k9, c1]
    cases hc : ct q s (nI k) with
    | none =>
      rw [show ctI q none = -1 from rfl, if_pos rfl, show Option.map (fun c => en q c 1) (none : Option Nat) = none from rfl, if_pos rfl]
      exact ⟨rfl, fun z => absurd (e9.mp z) k9, fun _ => ⟨c2, fun _ => ⟨trivial, trivial⟩, fun z => absurd rfl z⟩⟩
    | some c =>
      have hl := ct_lt h hs hc
      have h24 := h.1
      have ne : ¬ ctI q (some c) = -1 := nI_nm1 (by rcases en_lt h hl.1 (b := 1) (by decide) with z | z <;> omega)
      rw [if_neg ne, show Option.map (fun c => en q c 1) (some c) = some (en q c 1) from rfl, if_neg (by intro z; cases z)]
      exact ⟨rfl, fun z => absurd (e9.mp z) k9, fun _ => ⟨c2, fun z => absurd z ne, fun _ => trivial⟩⟩
theorem S34_ok {s : Nat} (h : iP q nE n m o p) (hs : s < n) : S34_0 (nI s) q := by
  have v : vp_in (nI s) 24 := nI_in24 hs h.1
  exact ⟨v, fun _ => trivial, fun _ => ⟨v, fun _ => trivial, fun _ => ⟨v, fun _ => trivial, fun _ => trivial⟩⟩⟩
theorem ek_ok {r : Nat × Int} (h : rOk r) (hs : r.1 = 0 ∨ r.1 = 9) : (ek r = 1 ∨ ek r = 2 ∨ ek r = 3 ∨ ek r = 9) ∧ cE r = pk 0 (ek r) ∧ (r.1 = 0 → r.2 = ek r ∧ ek r ≠ 9) ∧ (r.1 = 9 → ek r = 9) := by
  obtain ⟨t, x⟩ := r
  rcases h with h | ⟨h1, h2⟩ | h
  · exfalso
    have h := h.lt.2.2
    dsimp at h hs
    omega
  · dsimp at h1 h2
    subst h1
    rcases h2 with rfl | rfl | rfl
    · exact ⟨by decide, rfl, by decide, by decide⟩
    · exact ⟨by decide, rfl, by decide, by decide⟩
    · exact ⟨by decide, rfl, by decide, by decide⟩
  · rw [h]
    exact ⟨by decide, rfl, by decide, by decide⟩
theorem step_class (hE : iE q nE) (hN : iN q fd) (h : iP q nE n m o p) (hv : vaOk va) (hV : ∀ v, v < 5 → q.2 649 v = pk (va v).1 (va v).2) {s tk : Nat} (ht : tk ≤ fd) (h4 : q.1 647 4 = nI tk) (hs : s < n) : S117_0 (nI s) q ∧ ∃ q', F117_0 (nI s) q = (oN (sp q fd va tk s).1.1, q') ∧ frC q q' ∧ (∀ v, v < 5 → q'.2 649 v = pk ((sp q fd va tk s).2.1 v).1 ((sp q fd va tk s).2.1 v).2) ∧ q'.1 647 4 = nI (sp q fd va tk s).2.2 ∧ ((sp q fd va tk s).1.1 = none → q'.1 647 6 = ans (sp q fd va tk s).1.2 s ∧ q'.1 647 7 = nI s) := by
  have h24 := h.1
  have cs : (nI s).toNatClampNeg = s := nI_clamp (by omega)
  have vs : vp_in (nI s) 24 := nI_in24 hs h24
  have S34 := S34_ok h hs
  have hS := h.2.2.2.2.2.2.1 s hs
  obtain ⟨-, -, -, -, -, -, ⟨k, k6, e9, d0, d1, d23, d6, de⟩, -⟩ := hS
  have kc : k = 0 ∨ k = 1 ∨ k = 2 ∨ k = 3 ∨ k = 4 ∨ k = 5 ∨ k = 6 := by omega
  have hw : ∀ x : aQ, frC q x → x.1 647 6 = x.1 647 6 → True := fun _ _ _ => trivial
  have fw : ∀ t u, frC q (a_w (a_w q 647 7 t) 647 6 u) := fun t u => (frC.w (by decide)).tr (frC.w (by decide))
  -- the statements that work nothing out
  have none_of : F34_0 (nI s) q = 0 → (k = 1 ∨ k = 2 ∨ k = 3 ∨ k = 6) → S117_0 (nI s) q ∧ ∃ q', F117_0 (nI s) q = (oN (sp q fd va tk s).1.1, q') ∧ frC q q' ∧ (∀ v, v < 5 → q'.2 649 v = pk ((sp q fd va tk s).2.1 v).1 ((sp q fd va tk s).2.1 v).2) ∧ q'.1 647 4 = nI (sp q fd va tk s).2.2 ∧ ((sp q fd va tk s).1.1 = none → q'.1 647 6 = ans (sp q fd va tk s).1.2 s ∧ q'.1 647 7 = nI s) := by
    intro f34 hk
    unfold F117_0 S117_0 sp
    rw [f34, if_pos rfl, cs, e9]
    rcases hk with rfl | rfl | rfl | rfl
    · obtain ⟨e, x1, x2, x3, -⟩ := d1 rfl
      obtain ⟨f1, f2⟩ := fail_class h hs (k := e) (by omega)
      have ce : (nI e).toNatClampNeg = e := nI_clamp (by omega)
      have y : nI 1 = 1 := rfl
      rw [if_pos y, if_pos y, x3, ce, f1]
      refine ⟨⟨S34, fun _ => ⟨vs, fun _ => ⟨vs, f2, trivial⟩, fun z => absurd y z⟩, fun z => absurd rfl z⟩, _, rfl, ?_, ?_, ?_, fun z => ?_⟩
      · dsimp only
        split
        · exact fw _ _
        · exact frC.rf
      · intro v hv5
        dsimp only
        split
        · exact hV v hv5
        · exact hV v hv5
      · dsimp only
        split
        · rw [w_nk (by decide), w_nk (by decide)]; exact h4
        · exact h4
      · dsimp only at z ⊢
        rw [if_pos z]
        exact ⟨w_eq, by rw [w_nk (by decide), w_eq]⟩
    · obtain ⟨L, x1, x2, x3⟩ := d23 (Or.inl rfl)
      obtain ⟨f1, f2⟩ := F43_eq h (s := L) (by omega)
      have ce : (nI L).toNatClampNeg = L := nI_clamp (by omega)
      have y : nI 2 = 2 := rfl
      have y1 : ¬ nI 2 = 1 := by decide
      rw [if_neg y1, if_pos y, if_neg y1, if_pos y, x2, ce, f1]
      exact ⟨⟨S34, fun _ => ⟨vs, fun z => absurd z y1, fun _ => ⟨fun _ => ⟨vs, f2, trivial⟩, fun z => absurd y z⟩⟩, fun z => absurd rfl z⟩, q, rfl, frC.rf, hV, h4, fun z => by cases z⟩
    · obtain ⟨L, x1, x2, x3⟩ := d23 (Or.inr rfl)
      have ce : (nI L).toNatClampNeg = L := nI_clamp (by omega)
      have y : nI 3 = 3 := rfl
      have y1 : ¬ nI 3 = 1 := by decide
      have y2 : ¬ nI 3 = 2 := by decide
      rw [if_neg y1, if_neg y2, if_pos y, if_neg y1, if_neg y2, if_pos y, x2, ce]
      exact ⟨⟨S34, fun _ => ⟨vs, fun z => absurd z y1, fun _ => ⟨fun z => absurd z y2, fun _ => ⟨fun _ => ⟨vs, trivial⟩, fun z => absurd y z⟩⟩⟩, fun z => absurd rfl z⟩, q, rfl, frC.rf, hV, h4, fun z => by cases z⟩
    · obtain ⟨f1, f2⟩ := F42_eq h hs (b := 0) (by decide)
      have f1' : F42_0 (nI s) 0 q = nI (en q s 0) := f1
      have y : nI 6 = 6 := rfl
      have y1 : ¬ nI 6 = 1 := by decide
      have y2 : ¬ nI 6 = 2 := by decide
      have y3 : ¬ nI 6 = 3 := by decide
      rw [if_neg y1, if_neg y2, if_neg y3, if_neg y1, if_neg y2, if_neg y3, if_pos y, f1']
      exact ⟨⟨S34, fun _ => ⟨vs, fun z => absurd z y1, fun _ => ⟨fun z => absurd z y2, fun _ => ⟨fun z => absurd z y3, fun _ => ⟨f2, trivial⟩⟩⟩⟩, fun z => absurd rfl z⟩, q, rfl, frC.rf, hV, h4, fun z => by cases z⟩
  -- the statements that work an expression out
  have some_of : F34_0 (nI s) q = 1 → (k = 0 ∨ k = 4 ∨ k = 5) → S117_0 (nI s) q ∧ ∃ q', F117_0 (nI s) q = (oN (sp q fd va tk s).1.1, q') ∧ frC q q' ∧ (∀ v, v < 5 → q'.2 649 v = pk ((sp q fd va tk s).2.1 v).1 ((sp q fd va tk s).2.1 v).2) ∧ q'.1 647 4 = nI (sp q fd va tk s).2.2 ∧ ((sp q fd va tk s).1.1 = none → q'.1 647 6 = ans (sp q fd va tk s).1.2 s ∧ q'.1 647 7 = nI s) := by
    intro f34 hk
    obtain ⟨e, x1, x2, x3⟩ := de hk
    have h60 := hE.1
    have ce : (nI e).toNatClampNeg = e := nI_clamp (by omega)
    obtain ⟨w, w1, w2, w3, -⟩ := iE_w hE x1
    have sq : setT q tk = q := by unfold setT; rw [← h4]; exact a_w_self
    obtain ⟨g1, g2⟩ := F120_eq hE hN hv hV 17 e 1 tk w x1 w3 (by omega) (by omega) ht
    rw [sq, ev_f hE 17 15 e tk w x1 w2 w3 (by omega) (by omega)] at g1
    rw [sq] at g2
    have g1 : F120 17 (nI e) 1 q = _ := g1
    have g2 : S120 17 (nI e) 1 q := g2
    have ok := ev_ok hE hN hv 15 e tk x1
    have n10 : ¬ (1 : Int32) = 0 := by decide
    have z1 : ¬ nI k = 1 := by rcases hk with rfl | rfl | rfl <;> decide
    have z2 : ¬ nI k = 2 := by rcases hk with rfl | rfl | rfl <;> decide
    have z3 : ¬ nI k = 3 := by rcases hk with rfl | rfl | rfl <;> decide
    have z6 : ¬ nI k = 6 := by rcases hk with rfl | rfl | rfl <;> decide
    have e9' : q.1 9 s = nI k := e9
    have spE : sp q fd va tk s = if (ev q va fd 15 e tk).1.1 = 0 ∨ (ev q va fd 15 e tk).1.1 = 9 then ((fl q s (ek (ev q va fd 15 e tk).1), ek (ev q va fd 15 e tk).1), va, (ev q va fd 15 e tk).2) else if nI k = 0 then ((some (bh q s), 0), upV va (q.1 10 s).toNatClampNeg (ev q va fd 15 e tk).1, (ev q va fd 15 e tk).2) else ((some (if isT (ev q va fd 15 e tk).1.1 (ev q va fd 15 e tk).1.2 then en q s 0 else en q s 1), 0), va, (ev q va fd 15 e tk).2) := by
      unfold sp
      rw [e9, if_neg z1, if_neg z2, if_neg z3, if_neg z6, x2, ce]
    have tkr : (ev q va fd 15 e tk).2 ≤ fd := tk_le 15 e tk ht
    generalize hr : ev q va fd 15 e tk = r at *
    clear hr
    -- the memory behind the working out
    have hP1 : iP (setT q r.2) nE n m o p := iP_fr (fun c j z => setT_r (by omega)) h
    have f1 : frC q (setT q r.2) := frC.w (by decide)
    have bE : ∀ s, bh (setT q r.2) s = bh q s := bh_fr (fun c j a b => setT_r (by omega))
    have eE : ∀ s b, en (setT q r.2) s b = en q s b := en_fr (fun c j a b => setT_r (by omega))
    have lE : ∀ s k, fl (setT q r.2) s k = fl q s k := fun s k => by
      unfold fl
      rw [ct_fr (fun c j a b => setT_r (by omega))]
      simp only [eE]
    have F : F117_0 (nI s) q = F118_0 (nI s) (cE r.1) (setT q r.2) := by
      unfold F117_0 F117_27
      rw [f34, if_neg n10, cs, x2, g1]
    have S : S118_0 (nI s) (cE r.1) (setT q r.2) → S117_0 (nI s) q := by
      intro z
      unfold S117_0 S117_27
      rw [f34, cs, x2, g1]
      exact ⟨S34, fun z => absurd z n10, fun _ => ⟨vs, g2, z, trivial⟩⟩
    rw [F, spE]
    have q9 : (setT q r.2).1 9 s = nI k := (setT_r (by omega)).trans e9
    have q10 : (setT q r.2).1 10 s = q.1 10 s := setT_r (by omega)
    by_cases hst : r.1.1 = 0 ∨ r.1.1 = 9
    · rw [if_pos hst]
      obtain ⟨k1, k2, -, -⟩ := ek_ok ok hst
      have k9 : ek r.1 ≤ 9 := by omega
      have F0 : F129_0 (cE r.1) (setT q r.2) = 0 := (cE_stop ok).mpr hst
      have am : Int64.toInt32 (F130_0 (cE r.1) (setT q r.2)) = nI (ek r.1) := by
        rw [k2, F130_eq (by decide) (by omega)]
        rcases k1 with g | g | g | g <;> rw [g] <;> rfl
      obtain ⟨u1, u2⟩ := fail_class hP1 hs k9
      rw [lE] at u1
      have F2 : F118_0 (nI s) (cE r.1) (setT q r.2) = (oN (fl q s (ek r.1)), if fl q s (ek r.1) = none then a_w (a_w (setT q r.2) 647 7 (nI s)) 647 6 (ans (ek r.1) s) else setT q r.2) := by
        unfold F118_0
        rw [if_pos F0, am, u1]
      refine ⟨S ?_, _, F2, ?_, ?_, ?_, fun z => ?_⟩
      · unfold S118_0
        rw [am]
        exact ⟨trivial, fun _ => ⟨trivial, u2, trivial⟩, fun z => absurd F0 z⟩
      · split
        · exact f1.tr ((frC.w (by decide)).tr (frC.w (by decide)))
        · exact f1
      · intro v hv5
        split
        · exact hV v hv5
        · exact hV v hv5
      · split
        · rw [w_nk (by decide), w_nk (by decide)]; exact setT_4
        · exact setT_4
      · dsimp only at z ⊢
        rw [if_pos z]
        exact ⟨w_eq, by rw [w_nk (by decide), w_eq]⟩
    · rw [if_neg hst]
      have vk := rOk_v ok hst
      have F0 : ¬ F129_0 (cE r.1) (setT q r.2) = 0 := fun z => hst ((cE_stop ok).mp z)
      by_cases k0 : nI k = 0
      · have kz : k = 0 := nI_inj (b := 0) (by omega) (by decide) k0
        obtain ⟨v, v5, y1, -⟩ := d0 kz
        have cv : (nI v).toNatClampNeg = v := nI_clamp (by omega)
        have hP2 : iP (a_wl (setT q r.2) 649 v (cE r.1)) nE n m o p := iP_fr (q := setT q r.2) (fun c j z => rfl) hP1
        obtain ⟨b1, b2⟩ := F43_eq hP2 hs
        have b0 : bh (a_wl (setT q r.2) 649 v (cE r.1)) s = bh q s := bE s
        rw [b0] at b1
        rw [if_pos k0, y1, cv]
        have F2 : F118_0 (nI s) (cE r.1) (setT q r.2) = (nI (bh q s), a_wl (setT q r.2) 649 v (cE r.1)) := by
          unfold F118_0
          rw [if_neg F0, cs, q9, if_pos k0, q10, y1, cv, b1]
        refine ⟨S ?_, _, F2, f1.tr frC.wl, ?_, setT_4 (q := q), fun z => by cases z⟩
        · unfold S118_0
          rw [cs, q9, q10, y1, cv]
          exact ⟨trivial, fun z => absurd z F0, fun _ => ⟨vs, fun _ => ⟨vs, vp_in_nI v5 (by decide), b2, trivial⟩, fun z => absurd k0 z⟩⟩
        · intro u hu
          rw [wl_get]
          unfold upV
          dsimp only
          by_cases e : u = v
          · rw [if_pos ⟨rfl, e⟩, if_pos e, cE_v vk]
          · rw [if_neg (fun z => e z.2), if_neg e]; exact hV u hu
      · rw [if_neg k0]
        obtain ⟨t1, t2⟩ := F127_eq (q := setT q r.2) vk
        rw [← cE_v vk] at t1 t2
        obtain ⟨a1, a2⟩ := F42_eq hP1 hs (b := 0) (by decide)
        obtain ⟨b1, b2⟩ := F42_eq hP1 hs (b := 1) (by decide)
        rw [eE] at a1 b1
        have a1 : F42_0 (nI s) 0 (setT q r.2) = nI (en q s 0) := a1
        have b1 : F42_0 (nI s) 1 (setT q r.2) = nI (en q s 1) := b1
        have F2 : F118_0 (nI s) (cE r.1) (setT q r.2) = (nI (if isT r.1.1 r.1.2 then en q s 0 else en q s 1), setT q r.2) := by
          unfold F118_0 F118_71
          rw [if_neg F0, cs, q9, if_neg k0, t1, a1, b1]
          by_cases hT : isT r.1.1 r.1.2 = true
          · rw [if_pos hT, if_pos hT, if_neg (by decide)]
          · rw [if_neg hT, if_neg hT, if_pos rfl]
        refine ⟨S ?_, _, F2, f1, hV, setT_4, fun z => by cases z⟩
        unfold S118_0 S118_71
        rw [cs, q9]
        exact ⟨trivial, fun z => absurd z F0, fun _ => ⟨vs, fun z => absurd z k0, fun _ => ⟨t2, fun _ => ⟨b2, trivial⟩, fun _ => ⟨a2, trivial⟩⟩⟩⟩
  have f34 : F34_0 (nI s) q = if nI k = 0 then 1 else if nI k = 4 then 1 else if nI k = 5 then 1 else 0 := by unfold F34_0; rw [cs, e9]
  rcases kc with g | g | g | g | g | g | g
  · exact some_of (by rw [f34, g]; decide) (by omega)
  · exact none_of (by rw [f34, g]; decide) (by omega)
  · exact none_of (by rw [f34, g]; decide) (by omega)
  · exact none_of (by rw [f34, g]; decide) (by omega)
  · exact some_of (by rw [f34, g]; decide) (by omega)
  · exact some_of (by rw [f34, g]; decide) (by omega)
  · exact none_of (by rw [f34, g]; decide) (by omega)
end
