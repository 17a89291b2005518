theorem a_Rep.set {g : aG} {h h2 : aH} {H H1 : Heap} {a : Nat} (hR : a_Rep g h H) (ha : a < h.1.1) (hn : h2.1 = h.1) (hs : ∀ j, j ≠ a → h2.2.1 j = h.2.1 j ∧ h2.2.2.1 j = h.2.2.1 j ∧ h2.2.2.2.1 j = h.2.2.2.1 j ∧ h2.2.2.2.2 j = h.2.2.2.2 j) (hz : H1.size = H.size) (hP : va_P g.2.2.1 a_cl ((a_ws g h).set a (g.1 + a, a_cell g h2 a)) H1) : a_Rep g h2 H1 := by
  refine ⟨by rw [hz, hn]; exact hR.1, ?_, fun q hq => ?_⟩
  · rw [a_ws_set (h := h) (a := a) (by rw [hn]) (fun j hj => a_cell_cong (hs j hj).1 (hs j hj).2.1 (hs j hj).2.2.1 (hs j hj).2.2.2)]
    exact hP
  · rw [hn] at hq
    obtain ⟨e1, e2, e3, e4⟩ := hs q (by omega)
    have := hR.2.2 q hq
    unfold a_blank at this ⊢
    rw [e1, e2, e3, e4]
    exact this
theorem a_fs_set {B : Nat} {h h2 : aH} {a ci k : Nat} (hk : k < a_nf ci) (hv : ∀ j, j < a_nf ci → j ≠ k → a_fv B h2 a ci j = a_fv B h a ci j) : (a_fs B h a ci).set k (a_fv B h2 a ci k) = a_fs B h2 a ci := by
  apply List.ext_getElem?
  intro j
  by_cases hj : j = k
  · subst hj
    rw [List.getElem?_set_self (by simpa [a_fs] using hk), a_fs_at hk]
  · rw [List.getElem?_set_ne (fun q => hj q.symm)]
    by_cases hl : j < a_nf ci
    · rw [a_fs_at hl, a_fs_at hl, hv j hl hj]
    · rw [List.getElem?_eq_none (by simp [a_fs]; omega), List.getElem?_eq_none (by simp [a_fs]; omega)]
theorem a_nfZ {x : Int32} (h : x = 0 ∨ x = 1) : narrow .boolean (.int x) = .int x ∧ fits .boolean (.int x) = true := by rcases h with rfl | rfl <;> decide +kernel
/-- a value that a field takes: its kind, and the table that it goes to -/
def a_pv (h : aH) (a ci k : Nat) (v : Value) : Option aH := match a_kd ci k, v with
  | 0, .int x => some (a_si h a k x)
  | 1, .int x => if x = 0 ∨ x = 1 then some (a_si h a k x) else none
  | 2, .long x => some (a_sl h a k x)
  | 3, .ref x => some (a_sr h a k (some x))
  | _, _ => none
theorem a_pv_spec {g : aG} {h h2 : aH} {a ci k : Nat} {v : Value} (hci : ci < 10) (hk : k < a_nf ci) (hs : (h.2.1 a).1 = ci) (hp : a_pv h a ci k v = some h2) : h2.1 = h.1 ∧ (∀ j, j ≠ a → h2.2.1 j = h.2.1 j ∧ h2.2.2.1 j = h.2.2.1 j ∧ h2.2.2.2.1 j = h.2.2.2.1 j ∧ h2.2.2.2.2 j = h.2.2.2.2 j) ∧ a_cell g h2 a = .inr (ci, (a_fs g.1 h a ci).set k (a_rel g.1 g.2.1 v)) ∧ narrow (a_tyk ci k) (a_rel g.1 g.2.1 v) = a_rel g.1 g.2.1 v ∧ fits (a_tyk ci k) (a_rel g.1 g.2.1 v) = true := by
  have hkd := ((a_okc hci).1 k hk).2.2.2.2
  have fin : ∀ h2 : aH, h2.2.1 = h.2.1 → (∀ j, j < a_nf ci → j ≠ k → a_fv g.1 h2 a ci j = a_fv g.1 h a ci j) → a_fv g.1 h2 a ci k = a_rel g.1 g.2.1 v → a_cell g h2 a = .inr (ci, (a_fs g.1 h a ci).set k (a_rel g.1 g.2.1 v)) := by
    intro h2 e1 e2 e3
    rw [a_cell_o (by rw [e1]; exact hs) hci, ← e3, a_fs_set hk e2]
  have own : ∀ (α : Type) (f : Nat → Nat → α) (x : α) (j : Nat), j ≠ k → a_u2 f a k x a j = f a j := by
    intro α f x j hj
    rw [a_u2_eq]
    exact if_neg hj
  unfold a_pv at hp
  split at hp
  · rename_i x h0
    cases hp
    refine ⟨rfl, fun j hj => ⟨rfl, a_u2_ne hj, rfl, rfl⟩, fin _ rfl (fun j _ hj => ?_) ?_, ?_⟩
    · unfold a_fv a_si; dsimp only; rw [own _ _ _ _ hj]
    · unfold a_fv a_si; dsimp only; rw [h0, a_u2_eq]; simp [a_rel]
    · rw [h0] at hkd
      cases ht : a_tyk ci k <;> rw [ht] at hkd <;> first | (exfalso; simp at hkd; done) | exact ⟨rfl, rfl⟩
  · rename_i x h0
    by_cases hx : x = 0 ∨ x = 1
    · rw [if_pos hx] at hp
      cases hp
      refine ⟨rfl, fun j hj => ⟨rfl, a_u2_ne hj, rfl, rfl⟩, fin _ rfl (fun j _ hj => ?_) ?_, ?_⟩
      · unfold a_fv a_si; dsimp only; rw [own _ _ _ _ hj]
      · unfold a_fv a_si; dsimp only; rw [h0, a_u2_eq]; simp [a_rel]
      · rw [h0] at hkd
        cases ht : a_tyk ci k <;> rw [ht] at hkd <;> first | (exfalso; simp at hkd; done) | exact a_nfZ hx
    · rw [if_neg hx] at hp; cases hp
  · rename_i x h0
    cases hp
    refine ⟨rfl, fun j hj => ⟨rfl, rfl, a_u2_ne hj, rfl⟩, fin _ rfl (fun j _ hj => ?_) ?_, ?_⟩
    · unfold a_fv a_sl; dsimp only; rw [own _ _ _ _ hj]
    · unfold a_fv a_sl; dsimp only; rw [h0, a_u2_eq]; simp [a_rel]
    · rw [h0] at hkd
      cases ht : a_tyk ci k <;> rw [ht] at hkd <;> first | (exfalso; simp at hkd; done) | exact ⟨rfl, rfl⟩
  · rename_i x h0
    cases hp
    refine ⟨rfl, fun j hj => ⟨rfl, rfl, rfl, a_u2_ne hj⟩, fin _ rfl (fun j _ hj => ?_) ?_, ?_⟩
    · unfold a_fv a_sr; dsimp only; rw [own _ _ _ _ hj]
    · unfold a_fv a_sr; dsimp only; rw [h0, a_u2_eq]; simp [a_rel, va_rf]
    · rw [h0] at hkd
      cases ht : a_tyk ci k <;> rw [ht] at hkd <;> first | (exfalso; simp at hkd; done) | exact ⟨rfl, rfl⟩
  · cases hp
theorem a_S.rf {A : Nat → Prop} {H0 H : Heap} {locs : List Loc} (h : va_S A H0 H locs) : va_S A H H locs := ⟨Nat.le_refl _, fun _ _ _ => rfl, h.2.2⟩
theorem a_S.tr {A : Nat → Prop} {H0 H H1 : Heap} {locs locs1 : List Loc} (h : va_S A H0 H locs) (h1 : va_S A H H1 locs1) : va_S A H0 H1 locs1 := ⟨Nat.le_trans h.1 h1.1, fun q a b => (h1.2.1 q (Nat.lt_of_lt_of_le a h.1) b).trans (h.2.1 q a b), h1.2.2⟩
theorem a_narZ {x : Int32} (h : x = 0 ∨ x = 1) : vp_nar .boolean x = x := by rcases h with rfl | rfl <;> decide +kernel
theorem a_upd_eq {f : Nat → Int32} {k : Nat} {x : Int32} : upd f k x = fun j => if j = k then x else f j := by
  funext j; simp [upd]
section AR
variable {l : Launch} {X : aX} {i : Nat} {cf : aK} {d : Nat} {r : Option Value} {h' h : aH} {pc : Nat} {lo : List (Option Value)} {st : List Value}
theorem a_W.bound {p : Program} {e : Env} {R : Room} {s : State} {m : MethodId} {args : Array Value} {below : List Frame} {meth : Method} {c : Code} {H : Heap} {locs : List Loc} {cells slots : Nat} {Q : State → Prop} {g : JFrame} (k : H.size ≤ s.heap.size + cells → W p l e R s m args below meth c H locs cells slots Q g) : W p l e R s m args below meth c H locs cells slots Q g := fun T hT X => k (by have h := X.same.2.2.1; rw [← hT]; exact h) T hT X
theorem x_pf {ix c ne a : Nat} {v : Value} {h2 : aH} (hc : cf pc = some (.putfield ix)) (hf : a_find a_FL (m_o i) ix = some (c, ne)) (hnf : (a_Tf (c / 64) (c % 64)).2.2.2 = false) (hs : (h.2.1 a).1 = c / 64) (hv : a_pv h a (c / 64) (c % 64) v = some h2) (K : AW l X i cf d r h' (pc + 3) lo st h2) : AW l X i cf d r h' pc lo (v :: .ref a :: st) h := by
  intro g p e R s m args below meth cd h0 Qf C hr1 hr2 hfin H locs ls n1 n2 hR hL hS
  have K := fun H1 locs1 n1 n2 hR1 => K g p e R s m args below meth cd h0 Qf C hr1 hr2 hfin H1 locs1 ls n1 n2 hR1 hL
  obtain ⟨hx, hb, hml, -, -, -, hown, hts, hKn, -, -, hBs, hok, -, -⟩ := C
  obtain ⟨f1, f2, f3⟩ := a_flw hf
  have ha : a < h.1.1 := hR.lt (by omega)
  have he := a_ws_at (g := g) ha
  rw [a_cell_o hs f1] at he
  have hdg := a_dec hok hc rfl
  have hT := ((a_okc f1).1 _ f2).2.1
  obtain ⟨g1, g2, g3, g4, g5⟩ := a_pv_spec (g := g) f1 f2 hs hv
  have hlen : c % 64 < (a_fs g.1 h a (c / 64)).length := by simpa [a_fs] using f2
  have fin : ∀ (H1 : Heap) (locs1 : List Loc), va_P g.2.2.1 a_cl ((a_ws g h).set a (g.1 + a, .inr (c / 64, (a_fs g.1 h a (c / 64)).set (c % 64) (a_rel g.1 g.2.1 v)))) H1 → va_S (fun q => g.1 ≤ q) H H1 locs1 → W p l e R s m args below meth cd H1 locs1 (h.1.1 - h0.1.1) (h.1.2 - h0.1.2) Qf (F0 m (pc + 3) ls (st.map (a_rel g.1 g.2.1))) := by
    intro H1 locs1 hP1 hS1
    refine a_W.bound fun hbd => ?_
    have hz : H1.size = H.size := by have := hS1.1; have := hR.1; omega
    have := K H1 locs1 (by rw [g1]; exact n1) (by rw [g1]; exact n2) (hR.set ha g1 g2 hz (by rw [g3]; exact hP1)) (a_S.tr hS hS1)
    rw [g1] at this
    exact this
  rcases f3 with ⟨-, f3⟩ | ⟨-, f3⟩
  · exact va_put hx hb hts (a_uws f1) (a_tyk (c / 64)) (a_ty f1) (a_nm f1) hown hKn.1 hR.2.1 a_ws_D (a_S.rf hS) a he (a_clA f1) (c % 64) f2 (hts _ f3) (fun x hx => by rw [hT] at hx; exact hx) hnf (a_ty f1 _ f2) g4 g5 hlen hdg (fun H1 locs1 hP1 _ hS1 => fin H1 locs1 hP1 hS1)
  · exact va_putN hx hb hts (a_uws f1) (a_tyk (c / 64)) (a_ty f1) (a_nm f1) hown hKn.1 hR.2.1 a_ws_D (a_S.rf hS) a he (a_clA f1) (c % 64) f2 (va_Nw.use rfl (hKn.2.1 _ f3)) (fun x hx => by rw [hT] at hx; exact hx) hnf (a_ty f1 _ f2) g4 g5 hlen hdg (fun H1 locs1 hP1 _ hS1 => fin H1 locs1 hP1 hS1)
/-- a final field, in its class's constructor -/
theorem x_pF {ix c a : Nat} {v : Value} {h2 : aH} (hc : cf pc = some (.putfield ix)) (hf : a_find a_FL (m_o i) ix = some (c, 0)) (hnf : (a_Tf (c / 64) (c % 64)).2.2.2 = true) (hk : m_k i = 2) (ho : c / 64 = m_o i) (hs : (h.2.1 a).1 = c / 64) (hv : a_pv h a (c / 64) (c % 64) v = some h2) (K : AW l X i cf d r h' (pc + 3) lo st h2) : AW l X i cf d r h' pc lo (v :: .ref a :: st) h := by
  intro g p e R s m args below meth cd h0 Qf C hr1 hr2 hfin H locs ls n1 n2 hR hL hS
  have K := fun H1 locs1 n1 n2 hR1 => K g p e R s m args below meth cd h0 Qf C hr1 hr2 hfin H1 locs1 ls n1 n2 hR1 hL
  obtain ⟨hx, hb, hml, -, -, hini, hown, hts, hKn, -, -, hBs, hok, -, -⟩ := C
  obtain ⟨f1, f2, f3⟩ := a_flw hf
  have ha : a < h.1.1 := hR.lt (by omega)
  have he := a_ws_at (g := g) ha
  rw [a_cell_o hs f1] at he
  have hdg := a_dec hok hc rfl
  have hT := ((a_okc f1).1 _ f2).2.1
  obtain ⟨g1, g2, g3, g4, g5⟩ := a_pv_spec (g := g) f1 f2 hs hv
  have hlen : c % 64 < (a_fs g.1 h a (c / 64)).length := by simpa [a_fs] using f2
  have f3 := (f3.resolve_right (fun q => absurd q.1 (by decide))).2
  refine va_putF hx hb hts (a_uws f1) (a_tyk (c / 64)) (a_ty f1) (a_nm f1) hown hKn.1 hR.2.1 a_ws_D (a_S.rf hS) a he (a_clA f1) (c % 64) f2 (hts _ f3) (fun x hx => by rw [hT] at hx; exact hx) hnf (hini hk) (by rw [hT, ho]) (a_ty f1 _ f2) g4 g5 hlen hdg (fun H1 locs1 hP1 _ hS1 => ?_)
  refine a_W.bound fun hbd => ?_
  have hz : H1.size = H.size := by have := hS1.1; have := hR.1; omega
  have := K H1 locs1 (by rw [g1]; exact n1) (by rw [g1]; exact n2) (hR.set ha g1 g2 hz (by rw [g3]; exact hP1)) (a_S.tr hS hS1)
  rw [g1] at this
  exact this
theorem x_is {a n : Nat} {j x : Int32} (hc : cf pc = some .iastore) (hs : h.2.1 a = (16, n)) (hj : vp_in j n) (K : AW l X i cf d r h' (pc + 1) lo st (a_si h a j.toNatClampNeg x)) : AW l X i cf d r h' pc lo (.int x :: .int j :: .ref a :: st) h := by
  intro g p e R s m args below meth cd h0 Qf C hr1 hr2 hfin H locs ls n1 n2 hR hL hS
  have K := fun H1 locs1 hR1 => K g p e R s m args below meth cd h0 Qf C hr1 hr2 hfin H1 locs1 ls n1 n2 hR1 hL
  obtain ⟨hx, hb, hml, -, -, -, hown, hts, hKn, -, -, hBs, hok, -, -⟩ := C
  have ha := hR.lt (a := a) (by simp [hs])
  have he := a_ws_at (g := g) ha
  rw [a_cell_i hs] at he
  refine va_iast hx hb hKn.1 hR.2.1 a_ws_D (a_S.rf hS) a 0 he rfl hj (a_dec hok hc rfl) (fun H1 locs1 hP1 _ hS1 => ?_)
  refine a_W.bound fun hbd => ?_
  have hz : H1.size = H.size := by have := hS1.1; have := hR.1; omega
  refine K H1 locs1 (hR.set ha rfl (fun q hq => ⟨rfl, a_u2_ne hq, rfl, rfl⟩) hz ?_) (a_S.tr hS hS1)
  rw [a_cell_i (h := a_si h a j.toNatClampNeg x) (a := a) (n := n) hs, show (a_si h a j.toNatClampNeg x).2.2.1 a = upd (h.2.2.1 a) j.toNatClampNeg x from (a_u2_eq).trans a_upd_eq.symm]
  exact hP1
theorem x_zs {a n : Nat} {j x : Int32} (hc : cf pc = some .bastore) (hs : h.2.1 a = (17, n)) (hj : vp_in j n) (hv : x = 0 ∨ x = 1) (K : AW l X i cf d r h' (pc + 1) lo st (a_si h a j.toNatClampNeg x)) : AW l X i cf d r h' pc lo (.int x :: .int j :: .ref a :: st) h := by
  intro g p e R s m args below meth cd h0 Qf C hr1 hr2 hfin H locs ls n1 n2 hR hL hS
  have K := fun H1 locs1 hR1 => K g p e R s m args below meth cd h0 Qf C hr1 hr2 hfin H1 locs1 ls n1 n2 hR1 hL
  obtain ⟨hx, hb, hml, -, -, -, hown, hts, hKn, -, -, hBs, hok, -, -⟩ := C
  have ha := hR.lt (a := a) (by simp [hs])
  have he := a_ws_at (g := g) ha
  rw [a_cell_z hs] at he
  refine va_zast hx hb hKn.1 hR.2.1 a_ws_D (a_S.rf hS) a 1 he rfl hj (a_dec hok hc rfl) (fun H1 locs1 hP1 _ hS1 => ?_)
  refine a_W.bound fun hbd => ?_
  have hz : H1.size = H.size := by have := hS1.1; have := hR.1; omega
  refine K H1 locs1 (hR.set ha rfl (fun q hq => ⟨rfl, a_u2_ne hq, rfl, rfl⟩) hz ?_) (a_S.tr hS hS1)
  rw [a_narZ hv] at hP1
  rw [a_cell_z (h := a_si h a j.toNatClampNeg x) (a := a) (n := n) hs, show (a_si h a j.toNatClampNeg x).2.2.1 a = upd (h.2.2.1 a) j.toNatClampNeg x from (a_u2_eq).trans a_upd_eq.symm]
  exact hP1
theorem x_lt {a n : Nat} {j : Int32} {x : Int64} (hc : cf pc = some .lastore) (hs : h.2.1 a = (18, n)) (hj : vp_in j n) (K : AW l X i cf d r h' (pc + 1) lo st (a_sl h a j.toNatClampNeg x)) : AW l X i cf d r h' pc lo (.long x :: .int j :: .ref a :: st) h := by
  intro g p e R s m args below meth cd h0 Qf C hr1 hr2 hfin H locs ls n1 n2 hR hL hS
  have K := fun H1 locs1 hR1 => K g p e R s m args below meth cd h0 Qf C hr1 hr2 hfin H1 locs1 ls n1 n2 hR1 hL
  obtain ⟨hx, hb, hml, -, -, -, hown, hts, hKn, -, -, hBs, hok, -, -⟩ := C
  have ha := hR.lt (a := a) (by simp [hs])
  have he := a_ws_at (g := g) ha
  rw [a_cell_l hs] at he
  refine va_last hx hb hKn.1 hR.2.1 a_ws_D (a_S.rf hS) a 2 he rfl hj (a_dec hok hc rfl) (fun H1 locs1 hP1 _ hS1 => ?_)
  refine a_W.bound fun hbd => ?_
  have hz : H1.size = H.size := by have := hS1.1; have := hR.1; omega
  refine K H1 locs1 (hR.set ha rfl (fun q hq => ⟨rfl, rfl, a_u2_ne hq, rfl⟩) hz ?_) (a_S.tr hS hS1)
  rw [a_cell_l (h := a_sl h a j.toNatClampNeg x) (a := a) (n := n) hs, show (a_sl h a j.toNatClampNeg x).2.2.2.1 a = vp_updL (h.2.2.2.1 a) j.toNatClampNeg x from a_u2_eq]
  exact hP1
theorem x_as {a n t v ci : Nat} {j : Int32} (hc : cf pc = some .aastore) (hs : h.2.1 a = (t, n)) (ht : (t = 19 ∧ ci = 4) ∨ (t = 20 ∧ ci = 5)) (hv : (h.2.1 v).1 = ci) (hj : vp_in j n) (K : AW l X i cf d r h' (pc + 1) lo st (a_sr h a j.toNatClampNeg (some v))) : AW l X i cf d r h' pc lo (.ref v :: .int j :: .ref a :: st) h := by
  intro g p e R s m args below meth cd h0 Qf C hr1 hr2 hfin H locs ls n1 n2 hR hL hS
  have K := fun H1 locs1 hR1 => K g p e R s m args below meth cd h0 Qf C hr1 hr2 hfin H1 locs1 ls n1 n2 hR1 hL
  obtain ⟨hx, hb, hml, -, -, -, hown, hts, hKn, -, -, hBs, hok, -, -⟩ := C
  have hci : ci < 10 := by omega
  have hva := hR.lt (a := v) (by omega)
  have hve := a_ws_at (g := g) hva
  rw [a_cell_o hv hci] at hve
  have hup : ∀ f : Nat → Option Nat, f = (fun k => (h.2.2.2.2 a k).map (fun x => g.1 + x)) → va_up f j.toNatClampNeg (some (g.1 + v)) = fun k => ((a_sr h a j.toNatClampNeg (some v)).2.2.2.2 a k).map (fun x => g.1 + x) := by
    intro f hf
    subst hf
    funext k
    show _ = (a_u2 h.2.2.2.2 a j.toNatClampNeg (some v) a k).map _
    rw [a_u2_eq]
    by_cases hk : k = j.toNatClampNeg <;> simp [va_up, hk]
  rcases ht with ⟨rfl, rfl⟩ | ⟨rfl, rfl⟩
  · have ha := hR.lt (a := a) (by simp [hs])
    have he := a_ws_at (g := g) ha
    rw [a_cell_s hs] at he
    refine va_astq hx hb hKn.1 hR.2.1 a_ws_D (a_S.rf hS) a 3 v 4 he rfl hve (a_clA (by decide)) hj (a_dec hok hc rfl) (fun H1 locs1 hP1 _ hS1 => ?_)
    refine a_W.bound fun hbd => ?_
    have hz : H1.size = H.size := by have := hS1.1; have := hR.1; omega
    refine K H1 locs1 (hR.set ha rfl (fun q hq => ⟨rfl, rfl, rfl, a_u2_ne hq⟩) hz ?_) (a_S.tr hS hS1)
    rw [hup _ rfl] at hP1
    rw [a_cell_s (h := a_sr h a j.toNatClampNeg (some v)) (a := a) (n := n) hs]
    exact hP1
  · have ha := hR.lt (a := a) (by simp [hs])
    have he := a_ws_at (g := g) ha
    rw [a_cell_p hs] at he
    refine va_astq hx hb hKn.1 hR.2.1 a_ws_D (a_S.rf hS) a 4 v 5 he rfl hve (a_clA (by decide)) hj (a_dec hok hc rfl) (fun H1 locs1 hP1 _ hS1 => ?_)
    refine a_W.bound fun hbd => ?_
    have hz : H1.size = H.size := by have := hS1.1; have := hR.1; omega
    refine K H1 locs1 (hR.set ha rfl (fun q hq => ⟨rfl, rfl, rfl, a_u2_ne hq⟩) hz ?_) (a_S.tr hS hS1)
    rw [hup _ rfl] at hP1
    rw [a_cell_p (h := a_sr h a j.toNatClampNeg (some v)) (a := a) (n := n) hs]
    exact hP1
end AR
