theorem a_Rep.push {g : aG} {h : aH} {H H1 : Heap} {t n w : Nat} (hR : a_Rep g h H) (z1 : H1.size = H.size + 1) (o1 : ∀ q, q < H.size → H1[q]? = H[q]?) (hat : va_at g.2.2.1 a_cl (g.1 + h.1.1, a_cell g (a_nw h t n w) h.1.1) H1) : a_Rep g (a_nw h t n w) H1 := by
  have hsh : ∀ j, j ≠ h.1.1 → (a_nw h t n w).2.1 j = h.2.1 j := fun j hj => if_neg hj
  refine ⟨by rw [z1, hR.1]; rfl, ?_, fun a ha => ?_⟩
  · rw [a_ws_push (h := h) rfl (fun j hj => a_cell_cong (hsh j hj) rfl rfl rfl)]
    refine (hR.2.1.kept (fun k q hq => o1 q.1 (hR.2.1 k q hq).lt)).app (fun k q hq => ?_)
    have hz : k < 1 := (List.getElem?_eq_some_iff.mp hq).1
    rw [show k = 0 by omega] at hq
    cases hq
    exact hat
  · have ha : h.1.1 + 1 ≤ a := ha
    have := hR.2.2 a (by omega)
    unfold a_blank at this ⊢
    rw [hsh a (by omega)]
    exact this
theorem a_S.push {A : Nat → Prop} {H0 H H1 : Heap} {locs : List Loc} (h : va_S A H0 H locs) (z1 : H1.size = H.size + 1) (o1 : ∀ q, q < H.size → H1[q]? = H[q]?) : va_S A H0 H1 locs := ⟨Nat.le_trans h.1 (by omega), fun q a b => (o1 q (Nat.lt_of_lt_of_le a h.1)).trans (h.2.1 q a b), h.2.2⟩
theorem a_kd_le : ∀ ci, ci < 10 → ∀ k, k < a_nf ci → a_kd ci k ≤ 3 := by decide +kernel
theorem a_nw_sh {h : aH} {t n w : Nat} : (a_nw h t n w).2.1 h.1.1 = (t, n) := if_pos rfl
theorem a_clw {o ix ci ne : Nat} (h : a_find a_CL o ix = some (ci, ne)) : ci < 10 ∧ Jvm.Cond.classLink (aC o) ix (aC ci) ∈ wG := by
  obtain ⟨hint, he⟩ := a_find_in h
  have h1 := a_okCL _ he
  simp only [Bool.and_eq_true, decide_eq_true_eq] at h1
  exact ⟨h1.1, wG_in (a_at_in h1.2) rfl⟩
section AR
variable {l : Launch} {X : aX} {i : Nat} {cf : aK} {d : Nat} {r : Option Value} {h' h : aH} {pc : Nat} {lo : List (Option Value)} {st : List Value}
theorem x_new {ix ci ne : Nat} (hc : cf pc = some (.new ix)) (hl : a_find a_CL (m_o i) ix = some (ci, ne)) (hn : h.1.1 + 1 ≤ h'.1.1) (hw : h.1.2 + a_nf ci ≤ h'.1.2) (K : AW l X i cf d r h' (pc + 3) lo (.ref h.1.1 :: st) (a_nw h ci 0 (a_nf ci))) : AW l X i cf d r h' pc lo st h := by
  intro g p e R s m args below meth cd h0 Qf C hr1 hr2 hfin H locs ls n1 n2 hR hL hS
  have K := fun H1 n1 n2 hR1 => K g p e R s m args below meth cd h0 Qf C hr1 hr2 hfin H1 locs ls n1 n2 hR1 hL
  obtain ⟨hx, hb, hml, -, -, -, hown, hts, hKn, -, -, hBs, hok, -, -⟩ := C
  obtain ⟨hci, hcl⟩ := a_clw hl
  have hk := hKn.1.1 ci _ (a_clA hci)
  have hdg := a_dec hok hc rfl
  refine W.newcK hx hb hown (hts _ hcl) (hts _ (wG_in (a_okc hci).2.1 rfl)) (hts _ (wG_in (a_okc hci).2.2 rfl)) rfl hdg (by omega) (by omega) hk.2.1 rfl fun H1 kC hkC e1 z1 o1 => ?_
  have hR1 : a_Rep g (a_nw h ci 0 (a_nf ci)) H1 := by
    refine hR.push z1 o1 ?_
    rw [a_cell_o (h := a_nw h ci 0 (a_nf ci)) (by rw [a_nw_sh]) hci]
    rw [hR.1] at e1
    refine ⟨_, a_clA hci, (u_born (a_tyk ci) hts (a_uws hci) hk hkC e1 (a_ty hci)).to (fun j hj => ?_)⟩
    have hbl := hR.2.2 h.1.1 (Nat.le_refl _)
    have hkd := ((a_okc hci).1 j hj).2.2.2.2
    have hv : vp_V (a_fs g.1 (a_nw h ci 0 (a_nf ci)) h.1.1 ci) j = a_fv g.1 h h.1.1 ci j := by
      unfold vp_V
      rw [List.getD_eq_getElem?_getD, a_fs_at hj]
      rfl
    rw [hv]
    unfold a_fv
    obtain ⟨b1, b2, b3⟩ := hbl.2 j
    rw [b1, b2, b3]
    have hle := a_kd_le ci hci j hj
    cases ht : a_tyk ci j <;> rw [ht] at hkd <;> first | (exfalso; revert hle; rw [hkd]; decide) | (rw [hkd]; rfl)
  have K := K H1 (by show h0.1.1 ≤ h.1.1 + 1; omega) (by show h0.1.2 ≤ h.1.2 + _; omega) hR1 (a_S.push hS z1 o1)
  have q1 : (a_nw h ci 0 (a_nf ci)).1.1 - h0.1.1 = (h.1.1 - h0.1.1) + 1 := by show h.1.1 + 1 - _ = _; omega
  have q2 : (a_nw h ci 0 (a_nf ci)).1.2 - h0.1.2 = (h.1.2 - h0.1.2) + a_nf ci := by show h.1.2 + a_nf ci - _ = _; omega
  rw [q1, q2] at K
  rw [hR.1]
  exact K
theorem x_na {t : ArrayType} {tg : Nat} {n : Int32} {N : Nat} (hc : cf pc = some (.newarray t)) (ht : (t = .int ∧ tg = 16) ∨ (t = .boolean ∧ tg = 17) ∨ (t = .long ∧ tg = 18)) (hn0 : ¬ n < 0) (hN : n.toNatClampNeg = N) (hbt : N * 8 ≤ 536870912) (hn : h.1.1 + 1 ≤ h'.1.1) (hw : h.1.2 + N ≤ h'.1.2) (K : AW l X i cf d r h' (pc + 2) lo (.ref h.1.1 :: st) (a_nw h tg N N)) : AW l X i cf d r h' pc lo (.int n :: st) h := by
  intro g p e R s m args below meth cd h0 Qf C hr1 hr2 hfin H locs ls n1 n2 hR hL hS
  have K := fun H1 n1 n2 hR1 => K g p e R s m args below meth cd h0 Qf C hr1 hr2 hfin H1 locs ls n1 n2 hR1 hL
  obtain ⟨hx, hb, hml, -, -, -, hown, hts, hKn, -, -, hBs, hok, -, -⟩ := C
  have hdg := a_dec hok hc rfl
  have hbl := hR.2.2 h.1.1 (Nat.le_refl _)
  have q1 : (a_nw h tg N N).1.1 - h0.1.1 = (h.1.1 - h0.1.1) + 1 := by show h.1.1 + 1 - _ = _; omega
  have q2 : (a_nw h tg N N).1.2 - h0.1.2 = (h.1.2 - h0.1.2) + N := by show h.1.2 + N - _ = _; omega
  have fin : ∀ (H1 : Heap), H1.size = H.size + 1 → (∀ q, q < H.size → H1[q]? = H[q]?) → va_at g.2.2.1 a_cl (g.1 + h.1.1, a_cell g (a_nw h tg N N) h.1.1) H1 → W p l e R s m args below meth cd H1 locs ((h.1.1 - h0.1.1) + 1) ((h.1.2 - h0.1.2) + N) Qf (F0 m (pc + 2) ls (.ref H.size :: st.map (a_rel g.1 g.2.1))) := by
    intro H1 z1 o1 hat
    have K := K H1 (by show h0.1.1 ≤ h.1.1 + 1; omega) (by show h0.1.2 ≤ h.1.2 + _; omega) (hR.push z1 o1 hat) (a_S.push hS z1 o1)
    rw [q1, q2] at K
    rw [hR.1]
    exact K
  rcases ht with ⟨rfl, rfl⟩ | ⟨rfl, rfl⟩ | ⟨rfl, rfl⟩
  · refine va_newaK hx hb (hts _ (wG_in (a_at_in a_wI) rfl)) rfl hdg rfl hn0 hN (Nat.le_trans (Nat.mul_le_mul_left N (show (4 : Nat) ≤ 8 by decide)) hbt) (by omega) (by omega) rfl fun H1 cA e1 z1 o1 hAr hNm => fin H1 z1 o1 ?_
    have hcA : cA = g.2.2.2 0 := Option.some.inj (hNm.symm.trans (hKn.1.2 0 _ rfl).2)
    rw [a_cell_i a_nw_sh]
    show H1[g.1 + h.1.1]? = some (vp_cell _ _)
    rw [← hR.1, e1, hcA, vp_cell_i]
    congr 2
    funext k
    show defaultValue .int = .int (h.2.2.1 h.1.1 k)
    rw [(hbl.2 k).1]; rfl
  · refine va_newaK hx hb (hts _ (wG_in (a_at_in a_wZ) rfl)) rfl hdg rfl hn0 hN (Nat.le_trans (Nat.mul_le_mul_left N (show (1 : Nat) ≤ 8 by decide)) hbt) (by omega) (by omega) rfl fun H1 cA e1 z1 o1 hAr hNm => fin H1 z1 o1 ?_
    have hcA : cA = g.2.2.2 1 := Option.some.inj (hNm.symm.trans (hKn.1.2 1 _ rfl).2)
    rw [a_cell_z a_nw_sh]
    show H1[g.1 + h.1.1]? = some (vp_cell _ _)
    rw [← hR.1, e1, hcA, vp_cell_i]
    congr 2
    funext k
    show defaultValue .boolean = .int (h.2.2.1 h.1.1 k)
    rw [(hbl.2 k).1]; rfl
  · refine va_newaK hx hb (hts _ (wG_in (a_at_in a_wL) rfl)) rfl hdg rfl hn0 hN hbt (by omega) (by omega) rfl fun H1 cA e1 z1 o1 hAr hNm => fin H1 z1 o1 ?_
    have hcA : cA = g.2.2.2 2 := Option.some.inj (hNm.symm.trans (hKn.1.2 2 _ rfl).2)
    rw [a_cell_l a_nw_sh]
    show H1[g.1 + h.1.1]? = some (vp_cell _ _)
    rw [← hR.1, e1, hcA, vp_cell_l]
    congr 2
    funext k
    show defaultValue .long = .long (h.2.2.2.1 h.1.1 k)
    rw [(hbl.2 k).2.1]; rfl
theorem x_an {ix ci ne tg : Nat} {n : Int32} {N : Nat} (hc : cf pc = some (.anewarray ix)) (hl : a_find a_CL (m_o i) ix = some (ci, ne)) (ht : (ci = 4 ∧ tg = 19) ∨ (ci = 5 ∧ tg = 20)) (hn0 : ¬ n < 0) (hN : n.toNatClampNeg = N) (hbt : N * 4 ≤ 536870912) (hn : h.1.1 + 1 ≤ h'.1.1) (hw : h.1.2 + N ≤ h'.1.2) (K : AW l X i cf d r h' (pc + 3) lo (.ref h.1.1 :: st) (a_nw h tg N N)) : AW l X i cf d r h' pc lo (.int n :: st) h := by
  intro g p e R s m args below meth cd h0 Qf C hr1 hr2 hfin H locs ls n1 n2 hR hL hS
  have K := fun H1 n1 n2 hR1 => K g p e R s m args below meth cd h0 Qf C hr1 hr2 hfin H1 locs ls n1 n2 hR1 hL
  obtain ⟨hx, hb, hml, -, -, -, hown, hts, hKn, -, -, hBs, hok, -, -⟩ := C
  obtain ⟨hci, hcl⟩ := a_clw hl
  have hdg := a_dec hok hc rfl
  have hbl := hR.2.2 h.1.1 (Nat.le_refl _)
  subst hN
  have q1 : (a_nw h tg n.toNatClampNeg n.toNatClampNeg).1.1 - h0.1.1 = (h.1.1 - h0.1.1) + 1 := by show h.1.1 + 1 - _ = _; omega
  have q2 : (a_nw h tg n.toNatClampNeg n.toNatClampNeg).1.2 - h0.1.2 = (h.1.2 - h0.1.2) + n.toNatClampNeg := by show h.1.2 + _ - _ = _; omega
  have fin : ∀ (H1 : Heap), H1.size = H.size + 1 → (∀ q, q < H.size → H1[q]? = H[q]?) → va_at g.2.2.1 a_cl (g.1 + h.1.1, a_cell g (a_nw h tg n.toNatClampNeg n.toNatClampNeg) h.1.1) H1 → W p l e R s m args below meth cd H1 locs ((h.1.1 - h0.1.1) + 1) ((h.1.2 - h0.1.2) + n.toNatClampNeg) Qf (F0 m (pc + 3) ls (.ref H.size :: st.map (a_rel g.1 g.2.1))) := by
    intro H1 z1 o1 hat
    have K := K H1 (by show h0.1.1 ≤ h.1.1 + 1; omega) (by show h0.1.2 ≤ h.1.2 + _; omega) (hR.push z1 o1 hat) (a_S.push hS z1 o1)
    rw [q1, q2] at K
    rw [hR.1]
    exact K
  have push : ∀ c : Cell, (H.push c).size = H.size + 1 ∧ (∀ q : Nat, q < H.size → (H.push c)[q]? = H[q]?) ∧ (H.push c)[H.size]? = some c := fun c => ⟨Array.size_push _, fun q hq => by rw [Array.getElem?_push, if_neg (Nat.ne_of_lt hq)], Array.getElem?_push_size⟩
  rcases ht with ⟨rfl, rfl⟩ | ⟨rfl, rfl⟩
  · refine W.anew (C := "TypeForecast$State") hx hb hown (hts _ hcl) (va_AO.use hKn.2.2.1) rfl hdg rfl hn0 hbt (by omega) (by omega) fun cA kA comp f1 f2 f3 f4 => fin _ (push _).1 (push _).2.1 ?_
    obtain ⟨-, -, -, -, -, k5⟩ := (hKn.1.2 3 _ rfl).2
    have hcA : cA = g.2.2.2 3 := Option.some.inj (f1.symm.trans k5)
    rw [a_cell_s a_nw_sh]
    show (H.push _)[g.1 + h.1.1]? = some (vp_cell _ _)
    rw [← hR.1, (push _).2.2, hcA, vp_cell_q, arrV_new]
    congr 2
    funext k
    show Value.null = va_rf ((h.2.2.2.2 h.1.1 k).map _)
    rw [(hbl.2 k).2.2]; rfl
  · refine W.anew (C := "TypeForecast$Picture") hx hb hown (hts _ hcl) (va_AO.use hKn.2.2.2) rfl hdg rfl hn0 hbt (by omega) (by omega) fun cA kA comp f1 f2 f3 f4 => fin _ (push _).1 (push _).2.1 ?_
    obtain ⟨-, -, -, -, -, k5⟩ := (hKn.1.2 4 _ rfl).2
    have hcA : cA = g.2.2.2 4 := Option.some.inj (f1.symm.trans k5)
    rw [a_cell_p a_nw_sh]
    show (H.push _)[g.1 + h.1.1]? = some (vp_cell _ _)
    rw [← hR.1, (push _).2.2, hcA, vp_cell_q, arrV_new]
    congr 2
    funext k
    show Value.null = va_rf ((h.2.2.2.2 h.1.1 k).map _)
    rw [(hbl.2 k).2.2]; rfl
end AR
