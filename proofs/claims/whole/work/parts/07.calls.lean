def a_Post (g : aG) (rv : Option Value) (h1 : aH) : Array Value → State → Outcome → State → Prop := fun _ st o t => o = .returned (rv.map (a_rel g.1 g.2.1)) ∧ a_Rep g h1 t.heap ∧ va_F (fun q => g.1 ≤ q) st t
def a_wsM (j : Nat) : List Jvm.Cond := .code (m_y j) (m_cc j) (m_nl j) (m_rt j) :: wG
def a_rm (d mc ms : Nat) : Room := { frames := d, cells := mc, slots := ms, locals := 64 * d }
/-- the method j, called with the values vs over the tables h, at most d frames deep: it answers rv, and leaves the tables h1 -/
def Call (l : Launch) (X : aX) (d j : Nat) (vs : List Value) (h : aH) (rv : Option Value) (h1 : aH) : Prop :=
  (h.1.1 ≤ h1.1.1 ∧ h.1.2 ≤ h1.1.2) ∧ ∀ g : aG, Met l (m_y j) (a_wsM j) (a_rm d (h1.1.1 - h.1.1) (h1.1.2 - h.1.2)) (va_Pc (vs.map (a_rel g.1 g.2.1)) (a_Pre g X h)) (a_Post g rv h1) (h1.1.1 - h.1.1) (h1.1.2 - h.1.2) (fun q => g.1 ≤ q)
theorem a_mok {j : Nat} (h0 : 0 < j) (h1 : j < 193) (h2 : j ≠ 187) : (m_y j).cls = aC (m_o j) ∧ Jvm.Cond.code (m_y j) (m_cc j) (m_nl j) (m_rt j) ∈ wG ∧ (if m_k j = 1 then Jvm.Cond.static (m_y j) ∈ wG else Jvm.Cond.instanceMethod (m_y j) ∈ wG) ∧ (m_k j = 0 → Jvm.Cond.selects (m_y j).cls (m_y j) (m_y j) ∈ wG) ∧ Jvm.Cond.initialized (m_y j).cls ∈ wG ∧ ((m_y j).cls ≠ "java/lang/invoke/MethodHandle" ∧ (m_y j).cls ≠ "java/lang/invoke/VarHandle" ∧ (parseMethodDescriptor (m_y j).desc).map (fun d => d.parameters.length) = some (m_np j)) ∧ plainFor (m_y j) = true ∧ m_nl j ≤ 20 ∧ (m_k j = 2 → (m_y j).name = "<init>" ∧ m_rt j = none) := by
  have h3 := a_okMs j h0 h1 h2
  simp only [a_okM, Bool.and_eq_true, decide_eq_true_eq, Bool.or_eq_true] at h3
  obtain ⟨⟨⟨⟨⟨⟨⟨⟨⟨⟨⟨q1, q2⟩, q3⟩, q4⟩, q5⟩, q6⟩, q7⟩, q8⟩, q9⟩, q10⟩, q11⟩, q12⟩ := h3
  refine ⟨q2, ?_, ?_, fun hk => ?_, wG_in (a_at_in q6) rfl, ⟨q7, q8, q9⟩, q10, q11, fun hk => ?_⟩
  · split at q3
    · rename_i y cc n rt hw
      simp only [Bool.and_eq_true, decide_eq_true_eq] at q3
      obtain ⟨⟨rfl, rfl⟩, rfl⟩ := q3
      have hcc : m_cc j = cc := by unfold m_cc; rw [if_neg h2, hw]
      rw [hcc]
      exact wG_in (List.mem_of_getElem? hw) rfl
    · cases q3
  · by_cases hk : m_k j = 1
    · rw [if_pos hk] at q4 ⊢; exact wG_in (a_at_in q4) rfl
    · rw [if_neg hk] at q4 ⊢; exact wG_in (a_at_in q4) rfl
  · rw [if_pos hk] at q5; exact wG_in (a_at_in q5) rfl
  · rcases q12 with q | q
    · exact absurd hk q
    · exact q
theorem a_good (j : Nat) (h : Jvm.Cond.code (m_y j) (m_cc j) (m_nl j) (m_rt j) ∈ wG) : GoodIn wG (a_wsM j) := by
  intro w hw
  have hg : ∀ w ∈ wG, w ∈ wG ∧ ((w.onTables && w.keeps) = true ∨ ∃ ty, w = .arrayClass ty) := fun w hw => ⟨hw, good_of_word (List.mem_filter.mp hw).2⟩
  rcases List.mem_cons.mp hw with rfl | hw
  · exact hg _ h
  · exact hg _ hw
theorem a_Kn.same {g : aG} {u U : State} (h : u.vm = U.vm) (hK : a_Kn g u) : a_Kn g U := by
  have ha : u.vm.Alike U.vm := by rw [h]; exact Vm.Alike.refl _
  refine ⟨va_K.moved ha hK.1, fun w hw => va_Nw.same ?_ h (hK.2.1 w hw), va_AO.moved ha hK.2.2.1, va_AO.moved ha hK.2.2.2⟩
  have hn := (List.mem_filter.mp hw).2
  cases w <;> first | rfl | (simp [a_nest] at hn)
theorem a_Kn.warm {g : aG} {s U : State} (hW : s.WarmedH U.vm) (hK : a_Kn g s) : a_Kn g U := by
  refine ⟨va_K.moved hW.alike hK.1, fun w hw => ?_, va_AO.moved hW.alike hK.2.2.1, va_AO.moved hW.alike hK.2.2.2⟩
  have hn := (List.mem_filter.mp hw).2
  have hz := hK.2.1 w hw
  cases w <;> first | exact va_Nw.warmF hW hz | exact va_Nw.warmM hW hz | (simp [a_nest] at hn)
theorem a_Pre.blind (g : aG) (X : aX) (h : aH) (vs : List Value) : FrameBlind (va_Pc vs (a_Pre g X h)) := by
  intro a U f mk hp
  obtain ⟨q0, q1, q2, q3, q4⟩ := hp
  exact ⟨q0, q1, a_Kn.same (u := U) (U := U.calling f mk a) rfl q2, va_X.moved (u := U) (U := U.calling f mk a) (Vm.Alike.refl U.vm) q3, q4⟩
theorem a_cats {B b : Nat} (st : List Value) : ((st.map (a_rel B b)).map fun v => v.category) = st.map fun v => v.category := by
  rw [List.map_map]
  apply List.map_congr_left
  intro v _
  exact a_rel_cat B b v
theorem a_mlw {o ix j ne : Nat} (h : a_find a_ML o ix = some (j, ne)) : j < 193 ∧ j ≠ 187 ∧ (j = 0 → Jvm.Cond.methodLink (aC o) ix objectInit ∈ wG) ∧ (j ≠ 0 → ((ne ≠ 1 ∧ Jvm.Cond.methodLink (aC o) ix (m_y j) ∈ wG) ∨ (ne = 1 ∧ Jvm.Cond.methodLinkNest (aC o) ix (m_y j) "TypeForecast" ∈ wN))) := by
  obtain ⟨hint, he⟩ := a_find_in h
  have h1 := a_okML _ he
  simp only [Bool.and_eq_true, decide_eq_true_eq] at h1
  obtain ⟨⟨h2, h3⟩, h4⟩ := h1
  refine ⟨h2, h3, fun hj => ?_, fun hj => ?_⟩
  · rw [if_pos hj] at h4; exact wG_in (a_at_in h4) rfl
  · rw [if_neg hj] at h4
    by_cases hn : ne = 1
    · rw [if_pos hn] at h4; exact Or.inr ⟨hn, wN_in (a_at_in h4) rfl⟩
    · rw [if_neg hn] at h4; exact Or.inl ⟨hn, wG_in (a_at_in h4) rfl⟩
section AR
variable {l : Launch} {X : aX} {i : Nat} {cf : aK} {d : Nat} {r : Option Value} {h' h : aH} {pc : Nat} {lo : List (Option Value)} {st : List Value}
theorem a_go {p : Program} {e : Env} {R : Room} {s : State} {m : MethodId} {args a : Array Value} {below : List Frame} {meth : Method} {c : Code} {H : Heap} {locs : List Loc} {cells slots mc ms pc : Nat} {Q : State → Prop} {ls : Array Slot} {st0 rest : List Value} {g : aG} {rv : Option Value} {h1 : aH}
    (hr : va_Run p l e R s m args below meth c H locs cells slots mc ms (F0 m pc ls st0) rest (a_Post g rv h1 a) (fun q => g.1 ≤ q)) (hS : va_S (fun q => g.1 ≤ q) s.heap H locs)
    (kk : ∀ (H1 : Heap) (locs1 : List Loc), a_Rep g h1 H1 → va_S (fun q => g.1 ≤ q) s.heap H1 locs1 → W p l e R s m args below meth c H1 locs1 (cells + mc) (slots + ms) Q (F0 m (pc + 3) ls ((rv.map (a_rel g.1 g.2.1)).toList ++ rest))) : W p l e R s m args below meth c H locs cells slots Q (F0 m pc ls st0) := by
  intro T hT X
  obtain ⟨v, st₀, t, T', L, q0, X', hL, e1, e2, ⟨hv, hRp, hz, hk⟩, st⟩ := hr T hT X
  cases hv
  rw [q0] at hz hk
  obtain ⟨t2, a1, b1⟩ := kk T'.heap (locs ++ L) (by rw [e1]; exact hRp)
    ⟨Nat.le_trans hS.1 (by rw [e1]; exact hz), fun q z1 z2 => by rw [e1, hk q (Nat.lt_of_lt_of_le z1 hS.1) z2]; exact hS.2.1 q z1 z2, fun q hq => by
      rcases List.mem_append.mp hq with z | z
      · exact hS.2.2 q z
      · exact hL q z⟩ T' rfl X'
  exact ⟨t2, st t2 a1, b1⟩
theorem x_oi {ix ne a : Nat} (hc : cf pc = some (.invokespecial ix)) (hl : a_find a_ML (m_o i) ix = some (0, ne)) (hcat : (st.map fun v => v.category).sum ≤ 8) (hd : 1 ≤ d) (K : AW l X i cf d r h' (pc + 3) lo st h) : AW l X i cf d r h' pc lo (.ref a :: st) h := by
  intro g p e R s m args below meth cd h0 Qf C hr1 hr2 hfin H locs ls n1 n2 hR hL hS
  have K := K g p e R s m args below meth cd h0 Qf C hr1 hr2 hfin H locs ls n1 n2 hR hL hS
  obtain ⟨hx, hb, hml, -, -, -, hown, hts, hKn, -, -, hBs, hok, hd1, hd2⟩ := C
  obtain ⟨-, -, hw, -⟩ := a_mlw hl
  have hst : (((st.map (a_rel g.1 g.2.1)).map fun v => v.category).sum) ≤ 8 := by rw [a_cats]; exact hcat
  have hrm : 2 * (F0 m pc ls ((Value.ref a :: st).map (a_rel g.1 g.2.1))).monitorRoom = 0 := rfl
  exact W.objInit hx hb hown (hts _ (hw rfl)) (hts _ (wG_in (a_at_in a_wOi) rfl)) (hts _ (wG_in (a_at_in a_wOc) rfl)) rfl (by rw [hml]; exact hL.2.1) rfl (a_dec hok hc rfl) (by omega) (by rw [hrm]; omega) K
/-- what a caller has of a call -/
theorem a_ready {g : aG} {s U : State} {H : Heap} {locs : List Loc} {h0 : aH} (hKn : a_Kn g s) (hX : va_X g.2.1 X.1 X.2 s s.heap) (hbB : g.2.1 < g.1) (hBs : s.heap.size = g.1 + h0.1.1) (hR : a_Rep g h H) (hS : va_S (fun q => g.1 ≤ q) s.heap H locs) (hU : U.heap = H) (hW : s.WarmedH U.vm) : a_Pre g X h U := by
  refine ⟨by rw [hU]; exact hR, hKn.warm hW, ?_, hbB⟩
  rw [hU]
  exact (hX.kept (hS.2.1 g.2.1 (by omega) (by show ¬ g.1 ≤ g.2.1; omega))).moved hW.alike
theorem x_cv {ix j ne a d' : Nat} {vs rest : List Value} {rv : Option Value} {h1 : aH} (hc : cf pc = some (.invokevirtual ix)) (hl : a_find a_ML (m_o i) ix = some (j, ne)) (hk : m_k j = 0) (hj : 0 < j) (hnp : vs.length = m_np j) (hsh : (h.2.1 a).1 = m_o j) (ho : m_o j < 10) (hst : st = vs.reverse ++ .ref a :: rest) (hcat : (rest.map fun v => v.category).sum ≤ 8) (hd : d' + 1 ≤ d) (CC : Call l X d' j (.ref a :: vs) h rv h1) (hm : h1.1.1 ≤ h'.1.1 ∧ h1.1.2 ≤ h'.1.2) (K : AW l X i cf d r h' (pc + 3) lo (rv.toList ++ rest) h1) : AW l X i cf d r h' pc lo st h := by
  intro g p e R s m args below meth cd h0 Qf C hr1 hr2 hfin H locs ls n1 n2 hR hL hS
  have K := fun H1 locs1 n1 n2 hR1 => K g p e R s m args below meth cd h0 Qf C hr1 hr2 hfin H1 locs1 ls n1 n2 hR1 hL
  obtain ⟨hx, hb, hml, -, -, -, hown, hts, hKn, hX, hbB, hBs, hok, hd1, hd2⟩ := C
  obtain ⟨⟨c1, c2⟩, CC⟩ := CC
  obtain ⟨l1, l2, -, l3⟩ := a_mlw hl
  obtain ⟨m1, m2, m3, m4, m5, m6, m7, m8, m9⟩ := a_mok hj l1 l2
  rw [if_neg (by omega)] at m3
  have ha : a < h.1.1 := hR.lt (by omega)
  have he := a_ws_at (g := g) ha
  rw [a_cell_o hsh ho] at he
  have hrv := va_recv hKn.1 hR.2.1 (a_clA ho) he
  have hrm : (a_rm d' (h1.1.1 - h.1.1) (h1.1.2 - h.1.2)).frames + 1 ≤ R.frames ∧ 8 + (m_nl j + 11) + (a_rm d' (h1.1.1 - h.1.1) (h1.1.2 - h.1.2)).locals ≤ R.locals := ⟨by show d' + 1 ≤ _; omega, by show 8 + (m_nl j + 11) + 64 * d' ≤ _; omega⟩
  have hpre : PreV s H (m_y j).cls (g.1 + a) (va_Pc ((Value.ref a :: vs).map (a_rel g.1 g.2.1)) (a_Pre g X h)) (vs.map (a_rel g.1 g.2.1)) := ⟨a_Pre.blind g X h _, by rw [m1]; exact hrv, fun U hU hW => ⟨rfl, a_ready hKn hX hbB hBs hR hS hU hW⟩⟩
  have hstk : (F0 m pc ls (st.map (a_rel g.1 g.2.1))).stack = (vs.map (a_rel g.1 g.2.1)).reverse ++ .ref (g.1 + a) :: rest.map (a_rel g.1 g.2.1) := by
    rw [hst]
    show List.map _ (vs.reverse ++ Value.ref a :: rest) = _
    simp [a_rel]
  have hroom : 2 * (F0 m pc ls (st.map (a_rel g.1 g.2.1))).monitorRoom + ((rest.map (a_rel g.1 g.2.1)).map fun v => v.category).sum ≤ 8 := by
    rw [a_cats]
    show 2 * 0 + _ ≤ 8
    omega
  have hfit : (h.1.1 - h0.1.1) + (h1.1.1 - h.1.1) ≤ R.cells ∧ (h.1.2 - h0.1.2) + (h1.1.2 - h.1.2) ≤ R.slots := ⟨by omega, by omega⟩
  have fin : va_Run p l e R s m args below meth cd H locs (h.1.1 - h0.1.1) (h.1.2 - h0.1.2) (h1.1.1 - h.1.1) (h1.1.2 - h.1.2) (F0 m pc ls (st.map (a_rel g.1 g.2.1))) (rest.map (a_rel g.1 g.2.1)) (a_Post g rv h1 (Value.ref (g.1 + a) :: vs.map (a_rel g.1 g.2.1)).toArray) (fun q => g.1 ≤ q) := by
    rcases l3 (by omega) with ⟨-, l4⟩ | ⟨-, l4⟩
    · exact va_runV ⟨hx, hb, hml, hown, hts⟩ (CC g) ⟨callB_of (m_np j) hts (a_good j m2) rfl rfl rfl (hts _ m5) (hts _ l4) m6 hrm, hts _ m3, hts _ (m4 hk)⟩ hpre rfl (by simpa using hnp) hL.2.1 hstk hroom (a_dec hok hc rfl) hfit
    · exact va_runVN ⟨hx, hb, hml, hown, hts⟩ (CC g) ⟨va_cnB (m_np j) hts (a_good j m2) rfl rfl rfl (hKn.2.1 _ l4) (hts _ m5) m6 hrm, hts _ m3, hts _ (m4 hk)⟩ hpre rfl (by simpa using hnp) hL.2.1 hstk hroom (a_dec hok hc rfl) hfit
  refine a_go fin hS fun H1 locs1 hR1 hS1 => ?_
  have K := K H1 locs1 (by omega) (by omega) hR1 hS1
  rw [show (h.1.1 - h0.1.1) + (h1.1.1 - h.1.1) = h1.1.1 - h0.1.1 by omega, show (h.1.2 - h0.1.2) + (h1.1.2 - h.1.2) = h1.1.2 - h0.1.2 by omega]
  have e : (rv.map (a_rel g.1 g.2.1)).toList ++ rest.map (a_rel g.1 g.2.1) = (rv.toList ++ rest).map (a_rel g.1 g.2.1) := by cases rv <;> simp
  rw [e]
  exact K
theorem x_cs {ix j ne d' : Nat} {vs rest : List Value} {rv : Option Value} {h1 : aH} (hc : cf pc = some (.invokestatic ix)) (hl : a_find a_ML (m_o i) ix = some (j, ne)) (hk : m_k j = 1) (hj : 0 < j) (hnp : vs.length = m_np j) (hst : st = vs.reverse ++ rest) (hcat : (rest.map fun v => v.category).sum ≤ 8) (hd : d' + 1 ≤ d) (CC : Call l X d' j vs h rv h1) (hm : h1.1.1 ≤ h'.1.1 ∧ h1.1.2 ≤ h'.1.2) (K : AW l X i cf d r h' (pc + 3) lo (rv.toList ++ rest) h1) : AW l X i cf d r h' pc lo st h := by
  intro g p e R s m args below meth cd h0 Qf C hr1 hr2 hfin H locs ls n1 n2 hR hL hS
  have K := fun H1 locs1 n1 n2 hR1 => K g p e R s m args below meth cd h0 Qf C hr1 hr2 hfin H1 locs1 ls n1 n2 hR1 hL
  obtain ⟨hx, hb, hml, -, -, -, hown, hts, hKn, hX, hbB, hBs, hok, hd1, hd2⟩ := C
  obtain ⟨⟨c1, c2⟩, CC⟩ := CC
  obtain ⟨l1, l2, -, l3⟩ := a_mlw hl
  obtain ⟨m1, m2, m3, m4, m5, m6, m7, m8, m9⟩ := a_mok hj l1 l2
  rw [if_pos hk] at m3
  have hrm : (a_rm d' (h1.1.1 - h.1.1) (h1.1.2 - h.1.2)).frames + 1 ≤ R.frames ∧ 8 + (m_nl j + 11) + (a_rm d' (h1.1.1 - h.1.1) (h1.1.2 - h.1.2)).locals ≤ R.locals := ⟨by show d' + 1 ≤ _; omega, by show 8 + (m_nl j + 11) + 64 * d' ≤ _; omega⟩
  have hpre : PreS s H (va_Pc (vs.map (a_rel g.1 g.2.1)) (a_Pre g X h)) (vs.map (a_rel g.1 g.2.1)) := ⟨a_Pre.blind g X h _, fun U hU hW => ⟨rfl, a_ready hKn hX hbB hBs hR hS hU hW⟩⟩
  have hstk : (F0 m pc ls (st.map (a_rel g.1 g.2.1))).stack = (vs.map (a_rel g.1 g.2.1)).reverse ++ rest.map (a_rel g.1 g.2.1) := by
    rw [hst]
    show List.map _ (vs.reverse ++ rest) = _
    simp
  have hroom : 2 * (F0 m pc ls (st.map (a_rel g.1 g.2.1))).monitorRoom + ((rest.map (a_rel g.1 g.2.1)).map fun v => v.category).sum ≤ 8 := by
    rw [a_cats]
    show 2 * 0 + _ ≤ 8
    omega
  have hfit : (h.1.1 - h0.1.1) + (h1.1.1 - h.1.1) ≤ R.cells ∧ (h.1.2 - h0.1.2) + (h1.1.2 - h.1.2) ≤ R.slots := ⟨by omega, by omega⟩
  have fin : va_Run p l e R s m args below meth cd H locs (h.1.1 - h0.1.1) (h.1.2 - h0.1.2) (h1.1.1 - h.1.1) (h1.1.2 - h.1.2) (F0 m pc ls (st.map (a_rel g.1 g.2.1))) (rest.map (a_rel g.1 g.2.1)) (a_Post g rv h1 (vs.map (a_rel g.1 g.2.1)).toArray) (fun q => g.1 ≤ q) := by
    rcases l3 (by omega) with ⟨-, l4⟩ | ⟨-, l4⟩
    · exact va_runS ⟨hx, hb, hml, hown, hts⟩ (CC g) ⟨callB_of (m_np j) hts (a_good j m2) rfl rfl rfl (hts _ m5) (hts _ l4) m6 hrm, hts _ m3⟩ hpre rfl (by simpa using hnp) hL.2.1 hstk hroom (a_dec hok hc rfl) hfit
    · exact va_runSN ⟨hx, hb, hml, hown, hts⟩ (CC g) ⟨va_cnB (m_np j) hts (a_good j m2) rfl rfl rfl (hKn.2.1 _ l4) (hts _ m5) m6 hrm, hts _ m3, trivial⟩ hpre rfl (by simpa using hnp) hL.2.1 hstk hroom (a_dec hok hc rfl) hfit
  refine a_go fin hS fun H1 locs1 hR1 hS1 => ?_
  have K := K H1 locs1 (by omega) (by omega) hR1 hS1
  rw [show (h.1.1 - h0.1.1) + (h1.1.1 - h.1.1) = h1.1.1 - h0.1.1 by omega, show (h.1.2 - h0.1.2) + (h1.1.2 - h.1.2) = h1.1.2 - h0.1.2 by omega]
  have e : (rv.map (a_rel g.1 g.2.1)).toList ++ rest.map (a_rel g.1 g.2.1) = (rv.toList ++ rest).map (a_rel g.1 g.2.1) := by cases rv <;> simp
  rw [e]
  exact K
theorem x_ci {ix j ne a d' : Nat} {vs rest : List Value} {h1 : aH} (hc : cf pc = some (.invokespecial ix)) (hl : a_find a_ML (m_o i) ix = some (j, ne)) (hk : m_k j = 2) (hj : 0 < j) (hnp : vs.length = m_np j) (hst : st = vs.reverse ++ .ref a :: rest) (hcat : (rest.map fun v => v.category).sum ≤ 8) (hd : d' + 1 ≤ d) (CC : Call l X d' j (.ref a :: vs) h none h1) (hm : h1.1.1 ≤ h'.1.1 ∧ h1.1.2 ≤ h'.1.2) (K : AW l X i cf d r h' (pc + 3) lo rest h1) : AW l X i cf d r h' pc lo st h := by
  intro g p e R s m args below meth cd h0 Qf C hr1 hr2 hfin H locs ls n1 n2 hR hL hS
  have K := fun H1 locs1 n1 n2 hR1 => K g p e R s m args below meth cd h0 Qf C hr1 hr2 hfin H1 locs1 ls n1 n2 hR1 hL
  obtain ⟨hx, hb, hml, -, -, -, hown, hts, hKn, hX, hbB, hBs, hok, hd1, hd2⟩ := C
  obtain ⟨⟨c1, c2⟩, CC⟩ := CC
  obtain ⟨l1, l2, -, l3⟩ := a_mlw hl
  obtain ⟨m1, m2, m3, m4, m5, m6, m7, m8, m9⟩ := a_mok hj l1 l2
  rw [if_neg (by omega)] at m3
  obtain ⟨m9, m10⟩ := m9 hk
  have hrm : (a_rm d' (h1.1.1 - h.1.1) (h1.1.2 - h.1.2)).frames + 1 ≤ R.frames ∧ 8 + (m_nl j + 11) + (a_rm d' (h1.1.1 - h.1.1) (h1.1.2 - h.1.2)).locals ≤ R.locals := ⟨by show d' + 1 ≤ _; omega, by show 8 + (m_nl j + 11) + 64 * d' ≤ _; omega⟩
  have hpre : PreS s H (va_Pc ((Value.ref a :: vs).map (a_rel g.1 g.2.1)) (a_Pre g X h)) (.ref (g.1 + a) :: vs.map (a_rel g.1 g.2.1)) := ⟨a_Pre.blind g X h _, fun U hU hW => ⟨rfl, a_ready hKn hX hbB hBs hR hS hU hW⟩⟩
  have hstk : (F0 m pc ls (st.map (a_rel g.1 g.2.1))).stack = (vs.map (a_rel g.1 g.2.1)).reverse ++ .ref (g.1 + a) :: rest.map (a_rel g.1 g.2.1) := by
    rw [hst]
    show List.map _ (vs.reverse ++ Value.ref a :: rest) = _
    simp [a_rel]
  have hroom : 2 * (F0 m pc ls (st.map (a_rel g.1 g.2.1))).monitorRoom + ((rest.map (a_rel g.1 g.2.1)).map fun v => v.category).sum ≤ 8 := by
    rw [a_cats]
    show 2 * 0 + _ ≤ 8
    omega
  have hfit : (h.1.1 - h0.1.1) + (h1.1.1 - h.1.1) ≤ R.cells ∧ (h.1.2 - h0.1.2) + (h1.1.2 - h.1.2) ≤ R.slots := ⟨by omega, by omega⟩
  have hwj : a_wsM j = Jvm.Cond.code (m_y j) (m_cc j) (m_nl j) none :: wG := by rw [← m10]; rfl
  have fin : va_Run p l e R s m args below meth cd H locs (h.1.1 - h0.1.1) (h.1.2 - h0.1.2) (h1.1.1 - h.1.1) (h1.1.2 - h.1.2) (F0 m pc ls (st.map (a_rel g.1 g.2.1))) (rest.map (a_rel g.1 g.2.1)) (a_Post g none h1 (Value.ref (g.1 + a) :: vs.map (a_rel g.1 g.2.1)).toArray) (fun q => g.1 ≤ q) := by
    rcases l3 (by omega) with ⟨-, l4⟩ | ⟨-, l4⟩
    · exact va_runI ⟨hx, hb, hml, hown, hts⟩ (CC g) ⟨callB_of (m_np j) hts (a_good j m2) hwj rfl rfl (hts _ m5) (hts _ l4) m6 hrm, m9, hts _ m3⟩ hpre rfl (by simpa using hnp) hL.2.1 hstk hroom (a_dec hok hc rfl) hfit
    · exact va_runIN ⟨hx, hb, hml, hown, hts⟩ (CC g) ⟨va_cnB (m_np j) hts (a_good j m2) hwj rfl rfl (hKn.2.1 _ l4) (hts _ m5) m6 hrm, m9, hts _ m3⟩ hpre rfl (by simpa using hnp) hL.2.1 hstk hroom (a_dec hok hc rfl) hfit
  refine a_go fin hS fun H1 locs1 hR1 hS1 => ?_
  have K := K H1 locs1 (by omega) (by omega) hR1 hS1
  rw [show (h.1.1 - h0.1.1) + (h1.1.1 - h.1.1) = h1.1.1 - h0.1.1 by omega, show (h.1.2 - h0.1.2) + (h1.1.2 - h.1.2) = h1.1.2 - h0.1.2 by omega]
  exact K
end AR
-- a method's entry
def a_args (vs : List Value) : List (Option Value) := vs.flatMap fun v => if v.category = 2 then [some v, none] else [some v]
def a_ent (vs : List Value) (n : Nat) : List (Option Value) := a_args vs ++ List.replicate (n - (a_args vs).length) none
theorem a_args_len (B b : Nat) (vs : List Value) : (lg_sl (vs.map (a_rel B b))).length = (a_args vs).length := by
  induction vs with
  | nil => rfl
  | cons v vs ih =>
    simp only [lg_sl, a_args, List.map_cons, List.flatMap_cons, List.length_append] at ih ⊢
    rw [ih, a_rel_cat]
    by_cases hv : v.category = 2 <;> simp [hv]
theorem a_ent_get (B b : Nat) : ∀ (vs : List Value) (n m k : Nat) (v : Value), a_ld (a_args vs ++ List.replicate n none) k = some v → (lg_sl (vs.map (a_rel B b)) ++ List.replicate m Slot.unset)[k]? = some (.val (a_rel B b v)) := by
  intro vs
  induction vs with
  | nil =>
    intro n m k v h
    have : ∀ (n k : Nat), a_ld (List.replicate n none) k = none := by
      intro n
      induction n with
      | zero => intro k; cases k <;> rfl
      | succ n ih => intro k; cases k with
        | zero => rfl
        | succ k => exact ih k
    rw [show a_args [] ++ List.replicate n none = List.replicate n none from rfl, this] at h
    cases h
  | cons w vs ih =>
    intro n m k v h
    have e1 : a_args (w :: vs) = (if w.category = 2 then [some w, none] else [some w]) ++ a_args vs := rfl
    have e2 : lg_sl ((w :: vs).map (a_rel B b)) = (if w.category = 2 then [.val (a_rel B b w), .second] else [.val (a_rel B b w)]) ++ lg_sl (vs.map (a_rel B b)) := by
      simp only [lg_sl, List.map_cons, List.flatMap_cons, a_rel_cat]
    rw [e1] at h
    rw [e2]
    by_cases hw : w.category = 2
    · rw [if_pos hw] at h ⊢
      cases k with
      | zero =>
        have h : some w = some v := h
        cases h
        rfl
      | succ k =>
        cases k with
        | zero => have h : (none : Option Value) = some v := h; cases h
        | succ k => exact ih n m k v h
    · rw [if_neg hw] at h ⊢
      cases k with
      | zero =>
        have h : some w = some v := h
        cases h
        rfl
      | succ k => exact ih n m k v h
theorem Call.of {l : Launch} {X : aX} {d j : Nat} {cf : aK} {vs : List Value} {h h1 : aH} {rv : Option Value} (hok : a_okm j cf) (hj : 0 < j ∧ j < 193 ∧ j ≠ 187) (hl : (a_args vs).length ≤ m_nl j) (hm : h.1.1 ≤ h1.1.1 ∧ h.1.2 ≤ h1.1.2) (K : AW l X j cf d rv h1 0 (a_ent vs (m_nl j)) [] h) : Call l X d j vs h rv h1 := by
  refine ⟨hm, fun g => ?_⟩
  obtain ⟨m1, m2, m3, m4, m5, m6, m7, m8, m9⟩ := a_mok hj.1 hj.2.1 hj.2.2
  refine va_MetF (cc := m_cc j) (maxL := m_nl j) (ret := m_rt j) m7 rfl ?_
  intro p e s m args below meth c s₁ B hml hv
  obtain ⟨rfl, hRp, hKn, hX, hbB⟩ := hv
  have hx := B.exec
  have hb := B.bytes
  have hr := B.returns
  have hts := atoms_spec (ws := a_wsM j) B.pre
  have hown : s.vm.findClass (m_y j).cls = some m.cls := findClass_of_methodNamed B.named
  rw [m1] at hown
  have hlocks := B.notSynchronized
  have hin : meth.name = (m_y j).name := (name_of_methodNamed B.named B.method).1
  have hentry := lv_entry (vs.map (a_rel g.1 g.2.1)) (n := m_nl j) (by rw [a_args_len]; exact hl)
  rw [lg_entry_eq]
  have hL : a_L g.1 g.2.1 ((lg_sl (vs.map (a_rel g.1 g.2.1)) ++ List.replicate (m_nl j - (lg_sl (vs.map (a_rel g.1 g.2.1))).length) Slot.unset).toArray) (m_nl j) (a_ent vs (m_nl j)) := by
    refine ⟨?_, hentry.1, hentry.2.1, fun k v hk => ?_⟩
    · unfold a_ent
      rw [List.length_append, List.length_replicate]
      omega
    · rw [List.getElem?_toArray]
      exact a_ent_get g.1 g.2.1 vs _ _ k v hk
  have main := K g p e (headSpec (a_wsM j) (a_rm d (h1.1.1 - h.1.1) (h1.1.2 - h.1.2))).room s m (vs.map (a_rel g.1 g.2.1)).toArray below meth c h (MQ below (a_Post g rv h1) (vs.map (a_rel g.1 g.2.1)).toArray s (h1.1.1 - h.1.1) (h1.1.2 - h.1.2) (fun q => g.1 ≤ q))
    ⟨hx, hb, hml, hr, hlocks, fun hk => by rw [hin]; exact (m9 hk).1, hown, fun w hw => hts w (List.mem_cons_of_mem _ hw), hKn, hX, hbB, hRp.1, hok, Nat.le_refl _, Nat.le_refl _⟩ (Nat.le_refl _) (Nat.le_refl _)
    (fun pc2 ls2 H2 locs2 hf hR2 hS2 => ?_) s.heap [] _ (Nat.le_refl _) (Nat.le_refl _) hRp hL va_S.rf
  · rw [Nat.sub_self, Nat.sub_self] at main
    exact main
  · have post : ∀ t : State, t.heap = H2 → s.WarmedH t.vm → a_Post g rv h1 (vs.map (a_rel g.1 g.2.1)).toArray s (.returned (rv.map (a_rel g.1 g.2.1))) t := fun t ht _ => ⟨rfl, by rw [ht]; exact hR2, hS2.F ht⟩
    cases rv with
    | none => exact W.vret hx hb (hr.trans hf.2) post hS2.2.2 hf.1 hlocks
    | some v =>
      cases v with
      | int v =>
        obtain ⟨f1, f2⟩ := hf
        rcases f2 with f2 | ⟨f2, f3⟩
        · exact W.iret hx hb (hr.trans f2) post hS2.2.2 f1 hlocks
        · exact W.zret hx hb (hr.trans f2) (a_nfZ f3).1 post hS2.2.2 f1 hlocks
      | long v => exact W.lret hx hb (hr.trans hf.2) post hS2.2.2 hf.1 hlocks
      | ref v =>
        obtain ⟨f1, C, f2⟩ := hf
        exact W.aret hx hb (hr.trans f2) (Or.inl ⟨C, rfl⟩) (Or.inr ⟨_, rfl⟩) post hS2.2.2 f1 hlocks
      | null => exact hf.elim
      | float v => exact hf.elim
      | double v => exact hf.elim
      | retAddr v => exact hf.elim
