def a_pr (cf : aK) : Nat → Nat → List (Option Value) → List Value → Option (Nat × List (Option Value) × List Value)
  | 0, pc, lo, st => some (pc, lo, st)
  | n + 1, pc, lo, st => match cf pc with
    | none => none
    | some ins => match a_ps ins pc lo st with
      | none => none
      | some q => a_pr cf n q.1 q.2.1 q.2.2
def a_cmp (k : ClassFile.Cond) (x y : Int32) : Prop := match k with
  | .eq => x = y
  | .ne => ¬ x = y
  | .lt => x < y
  | .ge => y ≤ x
  | .gt => y < x
  | .le => x ≤ y
def a_ncmp (k : ClassFile.Cond) (x y : Int32) : Prop := match k with
  | .eq => ¬ x = y
  | .ne => x = y
  | .lt => ¬ x < y
  | .ge => ¬ y ≤ x
  | .gt => ¬ y < x
  | .le => ¬ x ≤ y
theorem a_ws_at {g : aG} {h : aH} {a : Nat} (ha : a < h.1.1) : (a_ws g h)[a]? = some (g.1 + a, a_cell g h a) := by
  simp [a_ws, ha]
theorem a_Rep.lt {g : aG} {h : aH} {H : Heap} (hR : a_Rep g h H) {a : Nat} (hs : (h.2.1 a).1 ≠ 31) : a < h.1.1 := by
  by_cases q : h.1.1 ≤ a
  · exact absurd (hR.2.2 a q).1 hs
  · omega
theorem a_cell_o {g : aG} {h : aH} {a ci : Nat} (hs : (h.2.1 a).1 = ci) (hc : ci < 10) : a_cell g h a = .inr (ci, a_fs g.1 h a ci) := by
  subst hs
  unfold a_cell
  rw [if_neg (by omega), if_neg (by omega), if_neg (by omega), if_neg (by omega), if_neg (by omega)]
theorem a_cell_i {g : aG} {h : aH} {a n : Nat} (hs : h.2.1 a = (16, n)) : a_cell g h a = .inl (g.2.2.2 0, n, .inl (h.2.2.1 a)) := by
  unfold a_cell; rw [hs]; rfl
theorem a_cell_z {g : aG} {h : aH} {a n : Nat} (hs : h.2.1 a = (17, n)) : a_cell g h a = .inl (g.2.2.2 1, n, .inl (h.2.2.1 a)) := by
  unfold a_cell; rw [hs]; rfl
theorem a_cell_l {g : aG} {h : aH} {a n : Nat} (hs : h.2.1 a = (18, n)) : a_cell g h a = .inl (g.2.2.2 2, n, .inr (.inl (h.2.2.2.1 a))) := by
  unfold a_cell; rw [hs]; rfl
theorem a_cell_s {g : aG} {h : aH} {a n : Nat} (hs : h.2.1 a = (19, n)) : a_cell g h a = .inl (g.2.2.2 3, n, .inr (.inr (.inr (.inr (fun k => (h.2.2.2.2 a k).map (fun x => g.1 + x)))))) := by
  unfold a_cell; rw [hs]; rfl
theorem a_cell_p {g : aG} {h : aH} {a n : Nat} (hs : h.2.1 a = (20, n)) : a_cell g h a = .inl (g.2.2.2 4, n, .inr (.inr (.inr (.inr (fun k => (h.2.2.2.2 a k).map (fun x => g.1 + x)))))) := by
  unfold a_cell; rw [hs]; rfl
theorem a_ws_set {g : aG} {h h2 : aH} {a : Nat} (hn : h2.1.1 = h.1.1) (hs : ∀ j, j ≠ a → a_cell g h2 j = a_cell g h j) : a_ws g h2 = (a_ws g h).set a (g.1 + a, a_cell g h2 a) := by
  apply List.ext_getElem?
  intro j
  by_cases hj : j = a
  · subst hj
    by_cases hl : j < h.1.1
    · rw [a_ws_at (by omega), List.getElem?_set_self (by simpa [a_ws] using hl)]
    · rw [List.getElem?_eq_none (by simp [a_ws]; omega), List.getElem?_eq_none (by simp [a_ws]; omega)]
  · rw [List.getElem?_set_ne (fun q => hj q.symm)]
    by_cases hl : j < h.1.1
    · rw [a_ws_at (by omega), a_ws_at hl, hs j hj]
    · rw [List.getElem?_eq_none (by simp [a_ws]; omega), List.getElem?_eq_none (by simp [a_ws]; omega)]
theorem a_ws_push {g : aG} {h h2 : aH} (hn : h2.1.1 = h.1.1 + 1) (hs : ∀ j, j ≠ h.1.1 → a_cell g h2 j = a_cell g h j) : a_ws g h2 = a_ws g h ++ [(g.1 + h.1.1, a_cell g h2 h.1.1)] := by
  unfold a_ws
  rw [hn, List.range_succ, List.map_append]
  congr 1
  apply List.map_congr_left
  intro j hj
  rw [hs j (by have := List.mem_range.mp hj; omega)]
theorem a_ws_D {g : aG} {h : aH} : va_D (fun q => g.1 ≤ q) (a_ws g h) := by
  have key : ∀ (k : Nat) (q : Nat × va_E), (a_ws g h)[k]? = some q → q.1 = g.1 + k := by
    intro k q hk
    by_cases hl : k < h.1.1
    · rw [a_ws_at hl] at hk; cases hk; rfl
    · rw [List.getElem?_eq_none (by simp [a_ws]; omega)] at hk; cases hk
  refine ⟨fun i j p q hi hj hpq => ?_, fun k q hk => ?_⟩
  · have h1 := key i p hi
    have h2 := key j q hj
    omega
  · have h1 := key k q hk
    show g.1 ≤ q.1
    omega
theorem a_u2_ne {α : Type} {f : Nat → Nat → α} {a k j : Nat} {x : α} (hj : j ≠ a) : a_u2 f a k x j = f j := by unfold a_u2; rw [if_neg hj]
theorem a_u2_eq {α : Type} {f : Nat → Nat → α} {a k : Nat} {x : α} : a_u2 f a k x a = fun j => if j = k then x else f a j := by unfold a_u2; rw [if_pos rfl]
theorem a_cell_cong {g : aG} {h h2 : aH} {j : Nat} (h1 : h2.2.1 j = h.2.1 j) (e1 : h2.2.2.1 j = h.2.2.1 j) (e2 : h2.2.2.2.1 j = h.2.2.2.1 j) (e3 : h2.2.2.2.2 j = h.2.2.2.2 j) : a_cell g h2 j = a_cell g h j := by
  have hf : ∀ ci, a_fs g.1 h2 j ci = a_fs g.1 h j ci := by
    intro ci
    unfold a_fs a_fv
    rw [e1, e2, e3]
  unfold a_cell
  rw [h1, e1, e2, e3, hf]
theorem a_clA {ci : Nat} (h : ci < 10) : a_cl[ci]? = some (aC ci, a_Tf ci, a_nf ci) := by
  simp [a_cl, h]
theorem a_okc {ci : Nat} (h : ci < 10) : (∀ k, k < a_nf ci → u_lay (aC ci) (a_Tf ci) k ∈ lw_tbl ∧ (a_Tf ci k).1 = aC ci ∧ parseFieldDescriptor (a_Tf ci k).2.2.1 = some (a_tyk ci k) ∧ (∀ j, j < a_nf ci → k ≠ j → (a_Tf ci k).2.1 ≠ (a_Tf ci j).2.1) ∧ a_kd ci k = match a_tyk ci k with | .int => 0 | .boolean => 1 | .long => 2 | .object _ => 3 | .array _ => 3 | _ => 9) ∧ .instantiable (aC ci) (a_nf ci) ∈ lw_tbl ∧ .initialized (aC ci) ∈ lw_tbl := by
  have h1 := a_okCs ci h
  simp only [a_okC, Bool.and_eq_true, decide_eq_true_eq] at h1
  obtain ⟨⟨⟨h2, h3⟩, h4⟩, -⟩ := h1
  refine ⟨fun k hk => ?_, a_at_in h3, a_at_in h4⟩
  have h5 := List.all_eq_true.mp h2 k (List.mem_range.mpr hk)
  simp only [Bool.and_eq_true, decide_eq_true_eq] at h5
  obtain ⟨⟨⟨⟨q1, q2⟩, q3⟩, q4⟩, q5⟩ := h5
  refine ⟨a_at_in q1, q2, q3, fun j hj hne => ?_, q5⟩
  have h6 := List.all_eq_true.mp q4 j (List.mem_range.mpr hj)
  simp only [decide_eq_true_eq] at h6
  exact h6.resolve_left hne
theorem a_uws {ci : Nat} (h : ci < 10) : ∀ w ∈ u_ws (aC ci) (a_Tf ci) (a_nf ci), w ∈ wG := by
  intro w hw
  obtain ⟨k, hk, rfl⟩ := List.mem_map.mp hw
  refine wG_in ((a_okc h).1 k (List.mem_range.mp hk)).1 ?_
  unfold u_lay
  split <;> rfl
theorem a_ty {ci : Nat} (h : ci < 10) : ∀ k, k < a_nf ci → parseFieldDescriptor (a_Tf ci k).2.2.1 = some (a_tyk ci k) := fun k hk => ((a_okc h).1 k hk).2.2.1
theorem a_nm {ci : Nat} (h : ci < 10) : ∀ a, a < a_nf ci → ∀ b, b < a_nf ci → a ≠ b → (a_Tf ci a).2.1 ≠ (a_Tf ci b).2.1 := fun a ha b hb hne => ((a_okc h).1 a ha).2.2.2.1 b hb hne
theorem a_fs_at {B : Nat} {h : aH} {a ci k : Nat} (hk : k < a_nf ci) : (a_fs B h a ci)[k]? = some (a_fv B h a ci k) := by simp [a_fs, hk]
theorem a_find_in {α : Type} {l : List (Nat × Nat × α × Nat × Nat)} {o ix : Nat} {t : α} {ne : Nat} (h : a_find l o ix = some (t, ne)) : ∃ hint, (o, ix, t, ne, hint) ∈ l := by
  unfold a_find at h
  cases hf : l.find? (fun e => e.1 == o && e.2.1 == ix) with
  | none => rw [hf] at h; cases h
  | some e =>
    rw [hf] at h
    obtain ⟨o', ix', t', ne', hint⟩ := e
    have h1 := List.find?_some hf
    simp only [Bool.and_eq_true, beq_iff_eq] at h1
    obtain ⟨rfl, rfl⟩ := h1
    simp only [Option.map_some, Option.some.injEq, Prod.mk.injEq] at h
    obtain ⟨rfl, rfl⟩ := h
    exact ⟨hint, List.mem_of_find?_eq_some hf⟩
theorem a_flw {o ix c ne : Nat} (h : a_find a_FL o ix = some (c, ne)) : c / 64 < 10 ∧ c % 64 < a_nf (c / 64) ∧ ((ne ≠ 1 ∧ Jvm.Cond.fieldLink (aC o) ix (aC (c / 64)) (a_Tf (c / 64) (c % 64)).2.1 (a_Tf (c / 64) (c % 64)).2.2.1 ∈ wG) ∨ (ne = 1 ∧ Jvm.Cond.fieldLinkNest (aC o) ix (aC (c / 64)) (a_Tf (c / 64) (c % 64)).2.1 (a_Tf (c / 64) (c % 64)).2.2.1 "TypeForecast" ∈ wN)) := by
  obtain ⟨hint, he⟩ := a_find_in h
  have h1 := a_okFL _ he
  simp only [Bool.and_eq_true, decide_eq_true_eq] at h1
  obtain ⟨⟨h2, h3⟩, h4⟩ := h1
  refine ⟨h2, h3, ?_⟩
  by_cases hn : ne = 1
  · rw [if_pos hn] at h4
    exact Or.inr ⟨hn, wN_in (a_at_in h4) rfl⟩
  · rw [if_neg hn] at h4
    exact Or.inl ⟨hn, wG_in (a_at_in h4) rfl⟩
/-- a field's value, as the small machine has it -/
def a_gv (h : aH) (a ci k : Nat) : Value := if a_kd ci k = 2 then .long (h.2.2.2.1 a k) else if a_kd ci k = 3 then va_rf (h.2.2.2.2 a k) else .int (h.2.2.1 a k)
theorem a_gv_rel (B b : Nat) (h : aH) (a ci k : Nat) : a_rel B b (a_gv h a ci k) = a_fv B h a ci k := by
  unfold a_gv a_fv
  by_cases h2 : a_kd ci k = 2
  · rw [if_pos h2, if_pos h2]; rfl
  · rw [if_neg h2, if_neg h2]
    by_cases h3 : a_kd ci k = 3
    · rw [if_pos h3, if_pos h3]
      cases h.2.2.2.2 a k <;> rfl
    · rw [if_neg h3, if_neg h3]; rfl
section AR
variable {l : Launch} {X : aX} {i : Nat} {cf : aK} {d : Nat} {r : Option Value} {h' h : aH} {pc : Nat} {lo : List (Option Value)} {st : List Value}
theorem x_run (n : Nat) {pc' : Nat} {lo' : List (Option Value)} {st' : List Value} (hp : a_pr cf n pc lo st = some (pc', lo', st')) (K : AW l X i cf d r h' pc' lo' st' h) : AW l X i cf d r h' pc lo st h := by
  induction n generalizing pc lo st with
  | zero => cases hp; exact K
  | succ n ih =>
    simp only [a_pr] at hp
    split at hp
    · cases hp
    · rename_i ins hc
      split at hp
      · cases hp
      · rename_i q hq
        exact x_ps hc hq (ih hp)
theorem x_if {k : ClassFile.Cond} {off : Int} (t : Nat) {x : Int32} (hc : cf pc = some (.ifCond k off)) (ht : (pc : Int) + off = (t : Int)) (kt : a_cmp k x 0 → AW l X i cf d r h' t lo st h) (kf : a_ncmp k x 0 → AW l X i cf d r h' (pc + 3) lo st h) : AW l X i cf d r h' pc lo (.int x :: st) h := by
  intro g p e R s m args below meth c h0 Qf C hr1 hr2 hfin H locs ls n1 n2 hR hL hS
  have kt := fun q => kt q g p e R s m args below meth c h0 Qf C hr1 hr2 hfin H locs ls n1 n2 hR hL hS
  have kf := fun q => kf q g p e R s m args below meth c h0 Qf C hr1 hr2 hfin H locs ls n1 n2 hR hL hS
  obtain ⟨hx, hb, hml, -, -, -, -, -, -, -, -, -, hok, -, -⟩ := C
  have hdg := a_dec hok hc rfl
  cases k with
  | eq => exact lv_if_eq hx hb hdg ht kt kf
  | ne => exact lv_if_ne hx hb hdg ht kt kf
  | lt => exact lv_if_lt hx hb hdg ht kt kf
  | ge => exact lv_if_ge hx hb hdg ht kt kf
  | gt => exact lv_if_gt hx hb hdg ht kt kf
  | le => exact lv_if_le hx hb hdg ht kt kf
theorem x_ic {k : ClassFile.Cond} {off : Int} (t : Nat) {x y : Int32} (hc : cf pc = some (.if_icmp k off)) (ht : (pc : Int) + off = (t : Int)) (kt : a_cmp k x y → AW l X i cf d r h' t lo st h) (kf : a_ncmp k x y → AW l X i cf d r h' (pc + 3) lo st h) : AW l X i cf d r h' pc lo (.int y :: .int x :: st) h := by
  intro g p e R s m args below meth c h0 Qf C hr1 hr2 hfin H locs ls n1 n2 hR hL hS
  have kt := fun q => kt q g p e R s m args below meth c h0 Qf C hr1 hr2 hfin H locs ls n1 n2 hR hL hS
  have kf := fun q => kf q g p e R s m args below meth c h0 Qf C hr1 hr2 hfin H locs ls n1 n2 hR hL hS
  obtain ⟨hx, hb, hml, -, -, -, -, -, -, -, -, -, hok, -, -⟩ := C
  have hdg := a_dec hok hc rfl
  cases k with
  | eq => exact lv_icmp_eq hx hb hdg ht kt kf
  | ne => exact lv_icmp_ne hx hb hdg ht kt kf
  | lt => exact lv_icmp_lt hx hb hdg ht kt kf
  | ge => exact lv_icmp_ge hx hb hdg ht kt kf
  | gt => exact lv_icmp_gt hx hb hdg ht kt kf
  | le => exact lv_icmp_le hx hb hdg ht kt kf
theorem x_idiv {x y : Int32} (hc : cf pc = some .idiv) (hne : ¬ y = 0) (K : AW l X i cf d r h' (pc + 1) lo (.int (x / y) :: st) h) : AW l X i cf d r h' pc lo (.int y :: .int x :: st) h := by
  intro g p e R s m args below meth c h0 Qf C hr1 hr2 hfin H locs ls n1 n2 hR hL hS
  have K := K g p e R s m args below meth c h0 Qf C hr1 hr2 hfin H locs ls n1 n2 hR hL hS
  obtain ⟨hx, hb, hml, -, -, -, -, -, -, -, -, -, hok, -, -⟩ := C
  exact lv_idiv hx hb (a_dec hok hc rfl) hne K
theorem x_irem {x y : Int32} (hc : cf pc = some .irem) (hne : ¬ y = 0) (K : AW l X i cf d r h' (pc + 1) lo (.int (x - x / y * y) :: st) h) : AW l X i cf d r h' pc lo (.int y :: .int x :: st) h := by
  intro g p e R s m args below meth c h0 Qf C hr1 hr2 hfin H locs ls n1 n2 hR hL hS
  have K := K g p e R s m args below meth c h0 Qf C hr1 hr2 hfin H locs ls n1 n2 hR hL hS
  obtain ⟨hx, hb, hml, -, -, -, -, -, -, -, -, -, hok, -, -⟩ := C
  exact lv_irem hx hb (a_dec hok hc rfl) hne K
theorem x_ldiv {x y : Int64} (hc : cf pc = some .ldiv) (hne : ¬ y = 0) (K : AW l X i cf d r h' (pc + 1) lo (.long (x / y) :: st) h) : AW l X i cf d r h' pc lo (.long y :: .long x :: st) h := by
  intro g p e R s m args below meth c h0 Qf C hr1 hr2 hfin H locs ls n1 n2 hR hL hS
  have K := K g p e R s m args below meth c h0 Qf C hr1 hr2 hfin H locs ls n1 n2 hR hL hS
  obtain ⟨hx, hb, hml, -, -, -, -, -, -, -, -, -, hok, -, -⟩ := C
  exact lv_ldiv hx hb (a_dec hok hc rfl) hne K
theorem x_ldc {ix ne : Nat} {v : Int} (hc : cf pc = some (.ldc ix)) (hk : a_find a_KI (m_o i) ix = some (v, ne)) (K : AW l X i cf d r h' (pc + 2) lo (.int (Int32.ofInt v) :: st) h) : AW l X i cf d r h' pc lo st h := by
  intro g p e R s m args below meth c h0 Qf C hr1 hr2 hfin H locs ls n1 n2 hR hL hS
  have K := K g p e R s m args below meth c h0 Qf C hr1 hr2 hfin H locs ls n1 n2 hR hL hS
  obtain ⟨hx, hb, hml, -, -, -, hown, hts, -, -, -, -, hok, -, -⟩ := C
  obtain ⟨hint, he⟩ := a_find_in hk
  exact lv_ldc hx hb hown (hts _ (wG_in (a_at_in (a_okKI _ he)) rfl)) (a_dec hok hc rfl) K
theorem x_ldc2 {ix ne : Nat} {v : Int} (hc : cf pc = some (.ldc2_w ix)) (hk : a_find a_KL (m_o i) ix = some (v, ne)) (K : AW l X i cf d r h' (pc + 3) lo (.long (Int64.ofInt v) :: st) h) : AW l X i cf d r h' pc lo st h := by
  intro g p e R s m args below meth c h0 Qf C hr1 hr2 hfin H locs ls n1 n2 hR hL hS
  have K := K g p e R s m args below meth c h0 Qf C hr1 hr2 hfin H locs ls n1 n2 hR hL hS
  obtain ⟨hx, hb, hml, -, -, -, hown, hts, -, -, -, -, hok, -, -⟩ := C
  obtain ⟨hint, he⟩ := a_find_in hk
  exact lv_ldc2 hx hb hown (hts _ (wG_in (a_at_in (a_okKL _ he)) rfl)) (a_dec hok hc rfl) K
/-- where a tableswitch goes -/
theorem x_tsIn {df lw hg : Int} {offs : Array Int} {x : Int32} {off : Int} (t : Nat) (hc : cf pc = some (.tableswitch df lw hg offs)) (h1 : ¬ x.toInt < lw) (h2 : ¬ hg < x.toInt) (ho : offs[(x.toInt - lw).toNat]? = some off) (ht : (pc : Int) + off = (t : Int)) (K : AW l X i cf d r h' t lo st h) : AW l X i cf d r h' pc lo (.int x :: st) h := by
  intro g p e R s m args below meth c h0 Qf C hr1 hr2 hfin H locs ls n1 n2 hR hL hS
  have K := K g p e R s m args below meth c h0 Qf C hr1 hr2 hfin H locs ls n1 n2 hR hL hS
  obtain ⟨hx, hb, hml, -, -, -, -, -, -, -, -, -, hok, -, -⟩ := C
  obtain ⟨n, hdg, -⟩ := hok _ _ hc
  exact lv_tableIn hx hb hdg h1 h2 ho ht K
theorem x_tsOut {df lw hg : Int} {offs : Array Int} {x : Int32} (t : Nat) (hc : cf pc = some (.tableswitch df lw hg offs)) (h1 : x.toInt < lw ∨ hg < x.toInt) (ht : (pc : Int) + df = (t : Int)) (K : AW l X i cf d r h' t lo st h) : AW l X i cf d r h' pc lo (.int x :: st) h := by
  intro g p e R s m args below meth c h0 Qf C hr1 hr2 hfin H locs ls n1 n2 hR hL hS
  have K := K g p e R s m args below meth c h0 Qf C hr1 hr2 hfin H locs ls n1 n2 hR hL hS
  obtain ⟨hx, hb, hml, -, -, -, -, -, -, -, -, -, hok, -, -⟩ := C
  obtain ⟨n, hdg, -⟩ := hok _ _ hc
  exact lv_tableOut hx hb hdg h1 ht K
theorem x_ls {df : Int} {ps : Array (Int × Int)} {x : Int32} {off : Int} (t : Nat) (hc : cf pc = some (.lookupswitch df ps)) (hp : (ps.toList.zip (ps.toList.drop 1)).all (fun (a, next) => a.1 < next.1) = true) (ho : Op.lookupswitch.offset ps.toList df x.toInt = off) (ht : (pc : Int) + off = (t : Int)) (K : AW l X i cf d r h' t lo st h) : AW l X i cf d r h' pc lo (.int x :: st) h := by
  intro g p e R s m args below meth c h0 Qf C hr1 hr2 hfin H locs ls n1 n2 hR hL hS
  have K := K g p e R s m args below meth c h0 Qf C hr1 hr2 hfin H locs ls n1 n2 hR hL hS
  obtain ⟨hx, hb, hml, -, -, -, -, -, -, -, -, -, hok, -, -⟩ := C
  obtain ⟨n, hdg, -⟩ := hok _ _ hc
  exact lv_lookup hx hb hdg hp ho ht K
-- the ends
theorem x_ret (hc : cf pc = some .return_) (hr : m_rt i = none) : AW l X i cf d none h pc lo [] h := by
  intro g p e R s m args below meth c h0 Qf C hr1 hr2 hfin H locs ls n1 n2 hR hL hS
  exact hfin pc ls H locs ⟨a_dec C.2.2.2.2.2.2.2.2.2.2.2.2.1 hc rfl, hr⟩ hR hS
theorem x_iret {v : Int32} (hc : cf pc = some .ireturn) (hr : m_rt i = some .int) : AW l X i cf d (some (.int v)) h pc lo [.int v] h := by
  intro g p e R s m args below meth c h0 Qf C hr1 hr2 hfin H locs ls n1 n2 hR hL hS
  exact hfin pc ls H locs ⟨a_dec C.2.2.2.2.2.2.2.2.2.2.2.2.1 hc rfl, Or.inl hr⟩ hR hS
theorem x_zret {v : Int32} (hc : cf pc = some .ireturn) (hr : m_rt i = some .boolean) (hv : v = 0 ∨ v = 1) : AW l X i cf d (some (.int v)) h pc lo [.int v] h := by
  intro g p e R s m args below meth c h0 Qf C hr1 hr2 hfin H locs ls n1 n2 hR hL hS
  exact hfin pc ls H locs ⟨a_dec C.2.2.2.2.2.2.2.2.2.2.2.2.1 hc rfl, Or.inr ⟨hr, hv⟩⟩ hR hS
theorem x_lret {v : Int64} (hc : cf pc = some .lreturn) (hr : m_rt i = some .long) : AW l X i cf d (some (.long v)) h pc lo [.long v] h := by
  intro g p e R s m args below meth c h0 Qf C hr1 hr2 hfin H locs ls n1 n2 hR hL hS
  exact hfin pc ls H locs ⟨a_dec C.2.2.2.2.2.2.2.2.2.2.2.2.1 hc rfl, hr⟩ hR hS
theorem x_aret {v : Nat} {C : String} (hc : cf pc = some .areturn) (hr : m_rt i = some (.object C)) : AW l X i cf d (some (.ref v)) h pc lo [.ref v] h := by
  intro g p e R s m args below meth c h0 Qf C hr1 hr2 hfin H locs ls n1 n2 hR hL hS
  exact hfin pc ls H locs ⟨a_dec C.2.2.2.2.2.2.2.2.2.2.2.2.1 hc rfl, _, hr⟩ hR hS
-- reads
theorem x_gf {ix c ne a : Nat} {v : Value} (hc : cf pc = some (.getfield ix)) (hf : a_find a_FL (m_o i) ix = some (c, ne)) (hs : (h.2.1 a).1 = c / 64) (hv : a_gv h a (c / 64) (c % 64) = v) (K : AW l X i cf d r h' (pc + 3) lo (v :: st) h) : AW l X i cf d r h' pc lo (.ref a :: st) h := by
  intro g p e R s m args below meth cd h0 Qf C hr1 hr2 hfin H locs ls n1 n2 hR hL hS
  have K := K g p e R s m args below meth cd h0 Qf C hr1 hr2 hfin H locs ls n1 n2 hR hL hS
  obtain ⟨hx, hb, hml, -, -, -, hown, hts, hKn, -, -, -, hok, -, -⟩ := C
  obtain ⟨f1, f2, f3⟩ := a_flw hf
  have ha : a < h.1.1 := hR.lt (by omega)
  have he := a_ws_at (g := g) ha
  rw [a_cell_o hs f1] at he
  have hdg := a_dec hok hc rfl
  have hT := ((a_okc f1).1 _ f2).2.1
  have hv' := a_fs_at (B := g.1) (h := h) (a := a) f2
  rw [← a_gv_rel g.1 g.2.1, hv] at hv'
  rcases f3 with ⟨-, f3⟩ | ⟨-, f3⟩
  · exact va_get hx hb hts (a_uws f1) hown hKn.1 hR.2.1 a he (a_clA f1) (c % 64) f2 (hts _ f3) (fun x hx => by rw [hT] at hx; exact hx) hv' hdg K
  · exact va_getN hx hb hts (a_uws f1) hown hKn.1 hR.2.1 a he (a_clA f1) (c % 64) f2 (va_Nw.use rfl (hKn.2.1 _ f3)) (fun x hx => by rw [hT] at hx; exact hx) hv' hdg K
theorem x_ia {a n : Nat} {j : Int32} (hc : cf pc = some .iaload) (hs : h.2.1 a = (16, n)) (hj : vp_in j n) (K : AW l X i cf d r h' (pc + 1) lo (.int (h.2.2.1 a j.toNatClampNeg) :: st) h) : AW l X i cf d r h' pc lo (.int j :: .ref a :: st) h := by
  intro g p e R s m args below meth cd h0 Qf C hr1 hr2 hfin H locs ls n1 n2 hR hL hS
  have K := K g p e R s m args below meth cd h0 Qf C hr1 hr2 hfin H locs ls n1 n2 hR hL hS
  obtain ⟨hx, hb, hml, -, -, -, hown, hts, hKn, -, -, -, hok, -, -⟩ := C
  have he := a_ws_at (g := g) (hR.lt (a := a) (by simp [hs]))
  rw [a_cell_i hs] at he
  exact va_iald hx hb hKn.1 hR.2.1 a 0 he rfl hj (a_dec hok hc rfl) K
theorem x_za {a n : Nat} {j : Int32} (hc : cf pc = some .baload) (hs : h.2.1 a = (17, n)) (hj : vp_in j n) (K : AW l X i cf d r h' (pc + 1) lo (.int (h.2.2.1 a j.toNatClampNeg) :: st) h) : AW l X i cf d r h' pc lo (.int j :: .ref a :: st) h := by
  intro g p e R s m args below meth cd h0 Qf C hr1 hr2 hfin H locs ls n1 n2 hR hL hS
  have K := K g p e R s m args below meth cd h0 Qf C hr1 hr2 hfin H locs ls n1 n2 hR hL hS
  obtain ⟨hx, hb, hml, -, -, -, hown, hts, hKn, -, -, -, hok, -, -⟩ := C
  have he := a_ws_at (g := g) (hR.lt (a := a) (by simp [hs]))
  rw [a_cell_z hs] at he
  exact va_zald hx hb hKn.1 hR.2.1 a 1 he rfl hj (a_dec hok hc rfl) K
theorem x_la {a n : Nat} {j : Int32} (hc : cf pc = some .laload) (hs : h.2.1 a = (18, n)) (hj : vp_in j n) (K : AW l X i cf d r h' (pc + 1) lo (.long (h.2.2.2.1 a j.toNatClampNeg) :: st) h) : AW l X i cf d r h' pc lo (.int j :: .ref a :: st) h := by
  intro g p e R s m args below meth cd h0 Qf C hr1 hr2 hfin H locs ls n1 n2 hR hL hS
  have K := K g p e R s m args below meth cd h0 Qf C hr1 hr2 hfin H locs ls n1 n2 hR hL hS
  obtain ⟨hx, hb, hml, -, -, -, hown, hts, hKn, -, -, -, hok, -, -⟩ := C
  have he := a_ws_at (g := g) (hR.lt (a := a) (by simp [hs]))
  rw [a_cell_l hs] at he
  exact va_lald hx hb hKn.1 hR.2.1 a 2 he rfl hj (a_dec hok hc rfl) K
theorem x_aa {a n t v : Nat} {j : Int32} (hc : cf pc = some .aaload) (hs : h.2.1 a = (t, n)) (ht : t = 19 ∨ t = 20) (hj : vp_in j n) (hv : h.2.2.2.2 a j.toNatClampNeg = some v) (K : AW l X i cf d r h' (pc + 1) lo (.ref v :: st) h) : AW l X i cf d r h' pc lo (.int j :: .ref a :: st) h := by
  intro g p e R s m args below meth cd h0 Qf C hr1 hr2 hfin H locs ls n1 n2 hR hL hS
  have K := K g p e R s m args below meth cd h0 Qf C hr1 hr2 hfin H locs ls n1 n2 hR hL hS
  obtain ⟨hx, hb, hml, -, -, -, hown, hts, hKn, -, -, -, hok, -, -⟩ := C
  have hva : va_rf ((h.2.2.2.2 a j.toNatClampNeg).map (fun x => g.1 + x)) = .ref (g.1 + v) := by rw [hv]; rfl
  rcases ht with rfl | rfl
  · have he := a_ws_at (g := g) (hR.lt (a := a) (by simp [hs]))
    rw [a_cell_s hs] at he
    refine va_aldq hx hb hKn.1 hR.2.1 a 3 he rfl hj (a_dec hok hc rfl) ?_
    rw [hva]
    exact K
  · have he := a_ws_at (g := g) (hR.lt (a := a) (by simp [hs]))
    rw [a_cell_p hs] at he
    refine va_aldq hx hb hKn.1 hR.2.1 a 4 he rfl hj (a_dec hok hc rfl) ?_
    rw [hva]
    exact K
theorem x_ln {a n : Nat} {t : Nat} (hc : cf pc = some .arraylength) (hs : h.2.1 a = (t, n)) (ht : t = 16 ∨ t = 17 ∨ t = 18) (K : AW l X i cf d r h' (pc + 1) lo (.int (Int32.ofNat n) :: st) h) : AW l X i cf d r h' pc lo (.ref a :: st) h := by
  intro g p e R s m args below meth cd h0 Qf C hr1 hr2 hfin H locs ls n1 n2 hR hL hS
  have K := K g p e R s m args below meth cd h0 Qf C hr1 hr2 hfin H locs ls n1 n2 hR hL hS
  obtain ⟨hx, hb, hml, -, -, -, hown, hts, hKn, -, -, -, hok, -, -⟩ := C
  rcases ht with rfl | rfl | rfl
  · have he := a_ws_at (g := g) (hR.lt (a := a) (by simp [hs]))
    rw [a_cell_i hs] at he
    exact va_alen hx hb hKn.1 hR.2.1 a 0 he rfl rfl (a_dec hok hc rfl) K
  · have he := a_ws_at (g := g) (hR.lt (a := a) (by simp [hs]))
    rw [a_cell_z hs] at he
    exact va_alen hx hb hKn.1 hR.2.1 a 1 he rfl rfl (a_dec hok hc rfl) K
  · have he := a_ws_at (g := g) (hR.lt (a := a) (by simp [hs]))
    rw [a_cell_l hs] at he
    exact va_alen hx hb hKn.1 hR.2.1 a 2 he rfl rfl (a_dec hok hc rfl) K
theorem x_sa {z : Nat} {j : Int32} (hc : cf pc = some .iaload) (hj : vp_in j X.1) (K : AW l X i cf d r h' (pc + 1) lo (.int (X.2 j.toNatClampNeg) :: st) h) : AW l X i cf d r h' pc lo (.int j :: .retAddr z :: st) h := by
  intro g p e R s m args below meth cd h0 Qf C hr1 hr2 hfin H locs ls n1 n2 hR hL hS
  have K := K g p e R s m args below meth cd h0 Qf C hr1 hr2 hfin H locs ls n1 n2 hR hL hS
  obtain ⟨hx, hb, hml, -, -, -, hown, hts, hKn, hX, hbB, hBs, hok, -, -⟩ := C
  exact va_sld (A := fun q => g.1 ≤ q) hx hb hX (by omega) (by show ¬ g.1 ≤ g.2.1; omega) hS hj (a_dec hok hc rfl) K
theorem x_sn {z : Nat} (hc : cf pc = some .arraylength) (K : AW l X i cf d r h' (pc + 1) lo (.int (Int32.ofNat X.1) :: st) h) : AW l X i cf d r h' pc lo (.retAddr z :: st) h := by
  intro g p e R s m args below meth cd h0 Qf C hr1 hr2 hfin H locs ls n1 n2 hR hL hS
  have K := K g p e R s m args below meth cd h0 Qf C hr1 hr2 hfin H locs ls n1 n2 hR hL hS
  obtain ⟨hx, hb, hml, -, -, -, hown, hts, hKn, hX, hbB, hBs, hok, -, -⟩ := C
  exact va_slen (A := fun q => g.1 ≤ q) hx hb hX (by omega) (by show ¬ g.1 ≤ g.2.1; omega) hS (a_dec hok hc rfl) K
end AR
