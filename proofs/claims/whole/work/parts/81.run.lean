/-! a whole run: both sides -/
def rn (q : aQ) (fd : Nat) : Nat → Nat → (Nat → Nat × Int) → Nat → (Int32 × Int32) × (Nat → Nat × Int)
  | 0, a, va, _ => if a = 24 then ((0, -1), va) else ((-2, nI a), va)
  | L + 1, a, va, tk => if a = 24 then ((0, -1), va) else match (sp q fd va tk a).1.1 with
    | some t => rn q fd L t (sp q fd va tk a).2.1 (sp q fd va tk a).2.2
    | none => ((ans (sp q fd va tk a).1.2 a, nI a), (sp q fd va tk a).2.1)
theorem rn_24 {q : aQ} {fd : Nat} {va : Nat → Nat × Int} {tk : Nat} : ∀ L, rn q fd L 24 va tk = ((0, -1), va)
  | 0 => rfl
  | _ + 1 => rfl
section
variable {q : aQ} {nE n m fd : Nat} {o p : Nat → Nat} {va : Nat → Nat × Int}
theorem fl_ok (h : iP q nE n m o p) {s k t : Nat} (hs : s < n) (e : fl q s k = some t) : t = 24 ∨ t < n := by
  unfold fl at e
  split at e
  · cases e
  · cases hc : ct q s (nI k) with
    | none => rw [hc] at e; cases e
    | some c =>
      rw [hc] at e
      have := ct_lt h hs hc
      have e : some (en q c 1) = some t := e
      injection e with e
      rw [← e]
      exact en_lt h this.1 (by decide)
theorem sp_ok (hE : iE q nE) (hN : iN q fd) (h : iP q nE n m o p) (hv : vaOk va) {s tk : Nat} (ht : tk ≤ fd) (hs : s < n) : (∀ t, (sp q fd va tk s).1.1 = some t → t = 24 ∨ t < n) ∧ ((sp q fd va tk s).1.1 = none → (sp q fd va tk s).1.2 = 9 ∨ (1 ≤ (sp q fd va tk s).1.2 ∧ (sp q fd va tk s).1.2 ≤ 4)) ∧ vaOk (sp q fd va tk s).2.1 ∧ (sp q fd va tk s).2.2 ≤ fd := by
  have h24 := h.1
  have hS := h.2.2.2.2.2.2.1 s hs
  obtain ⟨-, -, -, -, -, -, ⟨k, k6, e9, d0, d1, d23, d6, de⟩, -⟩ := hS
  have kc : k = 0 ∨ k = 1 ∨ k = 2 ∨ k = 3 ∨ k = 4 ∨ k = 5 ∨ k = 6 := by omega
  have kn : ∀ b, b ≤ 6 → (nI k = nI b ↔ k = b) := fun b hb => nI_eq (by omega) (by omega)
  unfold sp
  rw [e9]
  by_cases c1 : nI k = 1
  · have e1 : k = 1 := (kn 1 (by decide)).mp c1
    obtain ⟨e, x1, x2, x3, -⟩ := d1 e1
    have ce : (nI e).toNatClampNeg = e := nI_clamp (by omega)
    rw [if_pos c1, x3, ce]
    exact ⟨fun t z => fl_ok h hs z, fun _ => Or.inr ⟨x1, x2⟩, hv, ht⟩
  rw [if_neg c1]
  by_cases c2 : nI k = 2
  · have e1 : k = 2 := (kn 2 (by decide)).mp c2
    obtain ⟨L, x1, x2, x3⟩ := d23 (Or.inl e1)
    have ce : (nI L).toNatClampNeg = L := nI_clamp (by omega)
    rw [if_pos c2, x2, ce]
    refine ⟨fun t z => ?_, fun z => (by cases z), hv, ht⟩
    injection z with z
    rw [← z]
    exact bh_lt h (by omega)
  rw [if_neg c2]
  by_cases c3 : nI k = 3
  · have e1 : k = 3 := (kn 3 (by decide)).mp c3
    obtain ⟨L, x1, x2, x3⟩ := d23 (Or.inr e1)
    have ce : (nI L).toNatClampNeg = L := nI_clamp (by omega)
    rw [if_pos c3, x2, ce]
    refine ⟨fun t z => ?_, fun z => (by cases z), hv, ht⟩
    injection z with z
    exact Or.inr (by omega)
  rw [if_neg c3]
  by_cases c6 : nI k = 6
  · rw [if_pos c6]
    refine ⟨fun t z => ?_, fun z => (by cases z), hv, ht⟩
    injection z with z
    rw [← z]
    exact en_lt h hs (by decide)
  rw [if_neg c6]
  have hk : k = 0 ∨ k = 4 ∨ k = 5 := by
    have a1 : ¬ k = 1 := fun z => c1 ((kn 1 (by decide)).mpr z)
    have a2 : ¬ k = 2 := fun z => c2 ((kn 2 (by decide)).mpr z)
    have a3 : ¬ k = 3 := fun z => c3 ((kn 3 (by decide)).mpr z)
    have a6 : ¬ k = 6 := fun z => c6 ((kn 6 (by decide)).mpr z)
    omega
  obtain ⟨e, x1, x2, x3⟩ := de hk
  have h60 := hE.1
  have ce : (nI e).toNatClampNeg = e := nI_clamp (by omega)
  rw [x2, ce]
  have ok := ev_ok hE hN hv 15 e tk x1
  have tkr : (ev q va fd 15 e tk).2 ≤ fd := tk_le 15 e tk ht
  by_cases hst : (ev q va fd 15 e tk).1.1 = 0 ∨ (ev q va fd 15 e tk).1.1 = 9
  · rw [if_pos hst]
    have ek := (ek_ok ok hst).1
    exact ⟨fun t z => fl_ok h hs z, fun _ => by dsimp only; omega, hv, tkr⟩
  · rw [if_neg hst]
    have vk := rOk_v ok hst
    by_cases c0 : nI k = 0
    · rw [if_pos c0]
      refine ⟨fun t z => ?_, fun z => (by cases z), ?_, tkr⟩
      · injection z with z
        rw [← z]
        exact bh_lt h hs
      · intro u hu
        unfold upV
        dsimp only
        split
        · exact Or.inl vk
        · exact hv u hu
    · rw [if_neg c0]
      refine ⟨fun t z => ?_, fun z => (by cases z), hv, tkr⟩
      injection z with z
      rw [← z]
      split
      · exact en_lt h hs (by decide)
      · exact en_lt h hs (by decide)
def varC (va : Nat → Nat × Int) (q : aQ) : Prop := ∀ v, v < 5 → q.2 649 v = pk (va v).1 (va v).2
theorem frC.iE {Q : aQ} (f : frC q Q) (h : iE q nE) : iE Q nE := iE_fr (fun c j z => f.1 c j (by omega)) h
theorem frC.iN {Q : aQ} (f : frC q Q) (h : iN q fd) : iN Q fd := iN_fr (fun c j z => f.1 c j (by omega)) h
theorem frC.iP {Q : aQ} (f : frC q Q) (h : iP q nE n m o p) : iP Q nE n m o p := iP_fr (fun c j z => f.1 c j (by omega)) h
def m115 : (Int32 × aQ) ⊕ (Int32 × aQ) → Int32 × aQ
  | .inl e => F115_61 e.1 e.2
  | .inr w => w
def n115 : (Int32 × aQ) ⊕ (Int32 × aQ) → Prop
  | .inl e => S115_61 e.1 e.2
  | .inr _ => True
def m183 : aQ ⊕ (Int32 × aQ) → Int32 × aQ
  | .inl e => F183_127 e
  | .inr w => w
def n183 : aQ ⊕ (Int32 × aQ) → Prop
  | .inl e => S183_127 e
  | .inr _ => True
def fin115 (q : aQ) (R : (Int32 × aQ) ⊕ (Int32 × aQ)) (x : (Int32 × Int32) × (Nat → Nat × Int)) : Prop := ∃ Q', m115 R = (x.1.1, Q') ∧ n115 R ∧ frC q Q' ∧ varC x.2 Q' ∧ Q'.1 647 7 = x.1.2
theorem end115 {Q : aQ} {a : Nat} (ha : a = 24 ∨ a < n) (h24 : n ≤ 24) (f : frC q Q) (hV : varC va Q) : fin115 q (.inl (nI a, Q)) (if a = 24 then ((0, -1), va) else ((-2, nI a), va)) := by
  have e : nI a = 24 ↔ a = 24 := nI_eq (b := 24) (by omega) (by decide)
  unfold fin115
  show ∃ Q', F115_61 (nI a) Q = _ ∧ S115_61 (nI a) Q ∧ _
  unfold F115_61 S115_61 F115_73 F116_0 S116_0 S115_73
  by_cases h : a = 24
  · rw [if_pos (e.mpr h), if_pos h]
    exact ⟨_, rfl, ⟨fun _ => ⟨trivial, trivial⟩, fun z => absurd (e.mpr h) z⟩, f.tr ((frC.w (by decide)).tr (frC.w (by decide))), hV, by rw [w_nk (by decide), w_eq]⟩
  · rw [if_neg (fun z => h (e.mp z)), if_neg h]
    exact ⟨_, rfl, ⟨fun z => absurd (e.mp z) h, fun _ => ⟨trivial, trivial⟩⟩, f.tr ((frC.w (by decide)).tr (frC.w (by decide))), hV, by rw [w_nk (by decide), w_eq]⟩
theorem oN_m1 {x : Option Nat} (h : ∀ t, x = some t → t = 24 ∨ t < n) (h24 : n ≤ 24) : oN x = -1 ↔ x = none := by
  cases x with
  | none => exact ⟨fun _ => rfl, fun _ => rfl⟩
  | some t =>
    have := h t rfl
    exact ⟨fun z => absurd z (nI_nm1 (by omega)), fun z => by cases z⟩
theorem run_class (hE : iE q nE) (hN : iN q fd) (h : iP q nE n m o p) {L0 : Nat} (hL0 : L0 ≤ 1000) : ∀ L j a va tk Q F, j + L = L0 → (a = 24 ∨ a < n) → frC q Q → vaOk va → varC va Q → Q.1 647 4 = nI tk → tk ≤ fd → L < F → ∃ R, a_sf (fun (s : Int32 × Int32 × aQ) => F115_28 (nI L0) s.1 s.2.1 s.2.2) (fun (s : Int32 × Int32 × aQ) => S115_28 (nI L0) s.1 s.2.1 s.2.2) F (nI a, nI j, Q) ∧ a_it (fun (s : Int32 × Int32 × aQ) => F115_28 (nI L0) s.1 s.2.1 s.2.2) F (nI a, nI j, Q) = some R ∧ fin115 q R (rn q fd L a va tk) ∧ vaOk (rn q fd L a va tk).2 := by
  have h24 := h.1
  intro L
  induction L with
  | zero =>
    intro j a va tk Q F hj ha f hv hV h4 ht hF
    obtain ⟨F, rfl⟩ : ∃ k, F = k + 1 := ⟨F - 1, by omega⟩
    have le : nI L0 ≤ nI j := nI_le (by omega) (by omega)
    have e : F115_28 (nI L0) (nI a) (nI j) Q = .inr (.inl (nI a, Q)) := by unfold F115_28; rw [if_pos le]
    refine ⟨_, sf_e e ⟨fun _ => trivial, fun z => absurd le z⟩, it_e e, end115 ha h24 f hV, ?_⟩
    unfold rn
    split <;> exact hv
  | succ L ih =>
    intro j a va tk Q F hj ha f hv hV h4 ht hF
    obtain ⟨F, rfl⟩ : ∃ k, F = k + 1 := ⟨F - 1, by omega⟩
    have le : ¬ nI L0 ≤ nI j := nI_ge (by omega) (by omega)
    have e24 : nI a = 24 ↔ a = 24 := nI_eq (b := 24) (by omega) (by decide)
    by_cases ha24 : a = 24
    · subst ha24
      have e : F115_28 (nI L0) (nI 24) (nI j) Q = .inr (.inl (nI 24, Q)) := by unfold F115_28; rw [if_neg le, if_pos (show nI 24 = 24 from rfl)]
      have en := end115 (a := 24) ha h24 f hV
      rw [if_pos rfl] at en
      rw [rn_24]
      exact ⟨_, sf_e e ⟨fun z => absurd z le, fun _ => ⟨fun _ => trivial, fun z => absurd rfl z⟩⟩, it_e e, en, hv⟩
    · have hs : a < n := by omega
      have n24 : ¬ nI a = 24 := fun z => ha24 (e24.mp z)
      obtain ⟨s1, q', s2, s3, s4, s5, s6⟩ := step_class (f.iE hE) (f.iN hN) (f.iP h) hv hV ht h4 hs
      have spq : sp Q fd va tk a = sp q fd va tk a := sp_fr (fun c j z => f.1 c j (by omega))
      obtain ⟨k1, k2, k3, k4⟩ := sp_ok hE hN h hv ht hs
      rw [spq] at s2 s4 s5 s6
      have om := oN_m1 k1 h24
      have F1 : F115_28 (nI L0) (nI a) (nI j) Q = F115_44 (nI L0) (nI j) (oN (sp q fd va tk a).1.1) q' := by
        unfold F115_28
        rw [if_neg le, if_neg n24, s2]
      have S1 : S115_28 (nI L0) (nI a) (nI j) Q := by
        unfold S115_28 S115_44
        exact ⟨fun z => absurd z le, fun _ => ⟨fun z => absurd z n24, fun _ => ⟨s1, fun _ => trivial, fun _ => trivial⟩⟩⟩
      have er : rn q fd (L + 1) a va tk = match (sp q fd va tk a).1.1 with
        | some t => rn q fd L t (sp q fd va tk a).2.1 (sp q fd va tk a).2.2
        | none => ((ans (sp q fd va tk a).1.2 a, nI a), (sp q fd va tk a).2.1) := by
        rw [show rn q fd (L + 1) a va tk = if a = 24 then ((0, -1), va) else match (sp q fd va tk a).1.1 with
          | some t => rn q fd L t (sp q fd va tk a).2.1 (sp q fd va tk a).2.2
          | none => ((ans (sp q fd va tk a).1.2 a, nI a), (sp q fd va tk a).2.1) from rfl, if_neg ha24]
      rw [er]
      generalize hy : (sp q fd va tk a).1.1 = y at *
      cases y with
      | none =>
        have e : F115_28 (nI L0) (nI a) (nI j) Q = .inr (.inr (q'.1 647 6, q')) := by
          rw [F1]; unfold F115_44; rw [if_pos (om.mpr rfl)]
        obtain ⟨t1, t2⟩ := s6 rfl
        refine ⟨_, sf_e e S1, it_e e, ⟨q', ?_, trivial, f.tr s3, s4, t2⟩, k3⟩
        show (q'.1 647 6, q') = _
        rw [t1]
      | some t =>
        have e : F115_28 (nI L0) (nI a) (nI j) Q = .inl (nI t, nI (j + 1), q') := by
          rw [F1]; unfold F115_44; rw [if_neg (fun z => by cases om.mp z), nI_1]; rfl
        obtain ⟨R, r1, r2, r3⟩ := ih (j + 1) t (sp q fd va tk a).2.1 (sp q fd va tk a).2.2 q' F (by omega) (k1 t rfl) (f.tr s3) k3 s4 s5 k4 (by omega)
        exact ⟨R, sf_s e S1 r1, (it_s (B := fun (s : Int32 × Int32 × aQ) => F115_28 (nI L0) s.1 s.2.1 s.2.2) (s := (nI a, nI j, Q)) e).trans r2, r3⟩
def fin183 (q : aQ) (R : aQ ⊕ (Int32 × aQ)) (x : (Int32 × Int32) × (Nat → Nat × Int)) : Prop := ∃ Q', m183 R = (x.1.1, Q') ∧ n183 R ∧ frM q Q' ∧ varM x.2 Q' ∧ Q'.1 650 39 = x.1.2
theorem oM_ok {x : Option Nat × Nat} (h : ∀ t, x.1 = some t → t = 24 ∨ t < n) (h24 : n ≤ 24) (hk : x.1 = none → x.2 = 9 ∨ (1 ≤ x.2 ∧ x.2 ≤ 4)) (s : Nat) : (∀ t, x.1 = some t → 0 ≤ oM x ∧ oM x = nI t) ∧ (x.1 = none → ¬ 0 ≤ oM x ∧ (if oM x = -10 then -2 else 100 * (-1 - oM x) + nI s) = ans x.2 s) := by
  obtain ⟨y, k⟩ := x
  cases y with
  | some t =>
    have := h t rfl
    refine ⟨fun u hu => ?_, fun z => by cases z⟩
    injection hu with hu
    subst hu
    exact ⟨nI_le (a := 0) (by omega) (by omega), rfl⟩
  | none =>
    refine ⟨fun u hu => (by cases hu), fun _ => ?_⟩
    have hk : k = 9 ∨ k = 1 ∨ k = 2 ∨ k = 3 ∨ k = 4 := by have := hk rfl; dsimp only at this; omega
    rcases hk with rfl | rfl | rfl | rfl | rfl
    · exact ⟨by decide, rfl⟩
    · exact ⟨by decide, rfl⟩
    · exact ⟨by decide, rfl⟩
    · exact ⟨by decide, rfl⟩
    · exact ⟨by decide, rfl⟩
theorem run_model (hE : iE q nE) (hN : iN q fd) (h : iP q nE n m o p) {L0 : Nat} (hL0 : L0 ≤ 1000) : ∀ L j a va tk Q F, j + L = L0 → (a = 24 ∨ a < n) → frM q Q → vaOk va → varM va Q → Q.1 650 42 = nI tk → tk ≤ fd → L < F → ∃ R, a_sf (fun (s : Int32 × Int32 × aQ) => F183_65 (nI L0) s.1 s.2.1 s.2.2) (fun (s : Int32 × Int32 × aQ) => S183_65 (nI L0) s.1 s.2.1 s.2.2) F (nI a, nI j, Q) ∧ a_it (fun (s : Int32 × Int32 × aQ) => F183_65 (nI L0) s.1 s.2.1 s.2.2) F (nI a, nI j, Q) = some R ∧ fin183 q R (rn q fd L a va tk) := by
  have h24 := h.1
  have at24 : ∀ j va Q F L tk, frM q Q → varM va Q → ∃ R, a_sf (fun (s : Int32 × Int32 × aQ) => F183_65 (nI L0) s.1 s.2.1 s.2.2) (fun (s : Int32 × Int32 × aQ) => S183_65 (nI L0) s.1 s.2.1 s.2.2) (F + 1) (nI 24, nI j, Q) ∧ a_it (fun (s : Int32 × Int32 × aQ) => F183_65 (nI L0) s.1 s.2.1 s.2.2) (F + 1) (nI 24, nI j, Q) = some R ∧ fin183 q R (rn q fd L 24 va tk) := by
    intro j va Q F L tk f hV
    have e : F183_65 (nI L0) (nI 24) (nI j) Q = .inr (.inl Q) := by unfold F183_65; rw [if_pos (show nI 24 = 24 from rfl)]
    rw [rn_24]
    refine ⟨_, sf_e e ⟨fun _ => trivial, fun z => absurd rfl z⟩, it_e e, a_w Q 650 39 (-1), rfl, trivial, f.tr (frM.w (by decide)), fun v hv => ?_, w_eq⟩
    rw [w_ne (by decide)]
    exact hV v hv
  intro L
  induction L with
  | zero =>
    intro j a va tk Q F hj ha f hv hV h4 ht hF
    obtain ⟨F, rfl⟩ : ∃ k, F = k + 1 := ⟨F - 1, by omega⟩
    have e24 : nI a = 24 ↔ a = 24 := nI_eq (b := 24) (by omega) (by decide)
    by_cases ha24 : a = 24
    · subst ha24; exact at24 j va Q F 0 tk f hV
    · have n24 : ¬ nI a = 24 := fun z => ha24 (e24.mp z)
      have ej : nI j = nI L0 := by rw [← hj]; rfl
      have e : F183_65 (nI L0) (nI a) (nI j) Q = .inr (.inr (-2, a_w Q 650 39 (nI a))) := by unfold F183_65; rw [if_neg n24, if_pos ej]
      rw [show rn q fd 0 a va tk = if a = 24 then ((0, -1), va) else ((-2, nI a), va) from rfl, if_neg ha24]
      refine ⟨_, sf_e e ⟨fun z => absurd z n24, fun _ => ⟨fun _ => trivial, fun z => absurd ej z⟩⟩, it_e e, _, rfl, trivial, f.tr (frM.w (by decide)), fun v hv => ?_, w_eq⟩
      rw [w_ne (by decide)]
      exact hV v hv
  | succ L ih =>
    intro j a va tk Q F hj ha f hv hV h4 ht hF
    obtain ⟨F, rfl⟩ : ∃ k, F = k + 1 := ⟨F - 1, by omega⟩
    have e24 : nI a = 24 ↔ a = 24 := nI_eq (b := 24) (by omega) (by decide)
    by_cases ha24 : a = 24
    · subst ha24; exact at24 j va Q F (L + 1) tk f hV
    · have hs : a < n := by omega
      have n24 : ¬ nI a = 24 := fun z => ha24 (e24.mp z)
      have nj : ¬ nI j = nI L0 := fun z => by have := nI_inj (by omega) (by omega) z; omega
      have f1 : frM q (a_w Q 650 39 (nI a)) := f.tr (frM.w (by decide))
      have V1 : varM va (a_w Q 650 39 (nI a)) := fun v hv => by rw [w_ne (by decide)]; exact hV v hv
      have t1 : (a_w Q 650 39 (nI a)).1 650 42 = nI tk := by rw [w_nk (by decide)]; exact h4
      obtain ⟨s1, q', s2, s3, s4, s5, s6⟩ := step_model (f1.iE hE) (f1.iN hN) (f1.iP h) hv V1 ht t1 hs
      rw [w_eq] at s6
      have spq : sp (a_w Q 650 39 (nI a)) fd va tk a = sp q fd va tk a := sp_fr (fun c j z => f1.1 c j (by omega) (by omega))
      obtain ⟨k1, k2, k3, k4⟩ := sp_ok hE hN h hv ht hs
      rw [spq] at s2 s4 s5
      obtain ⟨m1, m2⟩ := oM_ok (x := (sp q fd va tk a).1) k1 h24 k2 a
      have F1 : F183_65 (nI L0) (nI a) (nI j) Q = F183_89 (nI L0) (nI a) (nI j) (oM (sp q fd va tk a).1) q' := by
        unfold F183_65
        rw [if_neg n24, if_neg nj, s2]
      have S1 : S183_65 (nI L0) (nI a) (nI j) Q := by
        unfold S183_65 S183_89
        exact ⟨fun z => absurd z n24, fun _ => ⟨fun z => absurd z nj, fun _ => ⟨s1, fun _ => trivial, fun _ => ⟨fun _ => trivial, fun _ => trivial⟩⟩⟩⟩
      have er : rn q fd (L + 1) a va tk = match (sp q fd va tk a).1.1 with
        | some t => rn q fd L t (sp q fd va tk a).2.1 (sp q fd va tk a).2.2
        | none => ((ans (sp q fd va tk a).1.2 a, nI a), (sp q fd va tk a).2.1) := by
        rw [show rn q fd (L + 1) a va tk = if a = 24 then ((0, -1), va) else match (sp q fd va tk a).1.1 with
          | some t => rn q fd L t (sp q fd va tk a).2.1 (sp q fd va tk a).2.2
          | none => ((ans (sp q fd va tk a).1.2 a, nI a), (sp q fd va tk a).2.1) from rfl, if_neg ha24]
      rw [er]
      cases hy : (sp q fd va tk a).1.1 with
      | none =>
        obtain ⟨n1, n2⟩ := m2 hy
        have e : F183_65 (nI L0) (nI a) (nI j) Q = .inr (.inr (ans (sp q fd va tk a).1.2 a, q')) := by
          rw [F1]; unfold F183_89; rw [if_neg n1, ← n2]
          split <;> rfl
        exact ⟨_, sf_e e S1, it_e e, q', rfl, trivial, f1.tr s3, s4, s6⟩
      | some t =>
        obtain ⟨n1, n2⟩ := m1 t hy
        have e : F183_65 (nI L0) (nI a) (nI j) Q = .inl (nI t, nI (j + 1), q') := by
          rw [F1]; unfold F183_89; rw [if_pos n1, n2, nI_1]
        obtain ⟨R, r1, r2, r3⟩ := ih (j + 1) t (sp q fd va tk a).2.1 (sp q fd va tk a).2.2 q' F (by omega) (k1 t hy) (f1.tr s3) k3 s4 s5 k4 (by omega)
        exact ⟨R, sf_s e S1 r1, (it_s (B := fun (s : Int32 × Int32 × aQ) => F183_65 (nI L0) s.1 s.2.1 s.2.2) (s := (nI a, nI j, Q)) e).trans r2, r3⟩
end
