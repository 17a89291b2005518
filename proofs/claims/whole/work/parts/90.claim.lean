/-! THE CLAIM OUT OF ONE WALK OF THE LAW'S BODY. Your part is whole_start (and what it stands on); all else here is the same for every law, but numbers. -/
def R_law : String := "TypeForecastLaw"
def lw_P (b : Addr) (xs : List Int32) (args : Array Value) (s : State) : Prop := args = #[.ref b] ∧ s.IntsAt b xs ∧ xs.length ≤ 2048 ∧ (Jvm.Cond.and given_1 narrow_1).before args s = true
def lw_Q (_ : Array Value) (s : State) (o : Outcome) (t : State) : Prop := o = .returned (some (.int 1)) ∧ Framed s o t [] 693978 7020315
def lw_Z (below : List Frame) (a : Array Value) (s : State) : State → Prop := fun t => ∃ o, t.status = .running ∧ Ended t below o ∧ lw_Q a s o t
/-- the law's own end, with 1 on the stack, nothing written that was there before, its room as the claim has it -/
theorem lw_ret {p : Program} {l : Launch} {e : Env} {s : State} {m : MethodId} {below : List Frame} {meth : Method} {c : Code} {b : Nat} (hx : p.tables.exec = Jvm.exec) (hb : c.code = code) (hr : meth.sig.returnType = ret) (hlocks : meth.locks = false) {pc : Nat} {H : Heap} {ls : Array Slot} (hdg : decode code pc = .ok (.ireturn, 1)) : W p l e room_1 s m #[Value.ref b] below meth c H [] 693978 7020315 (lw_Z below #[Value.ref b] s) (F0 m pc ls [.int 1]) := by
  intro T hT X
  obtain ⟨fs, hret, hrun, hended, hW, hframe⟩ := X.leave (v := some (.int 1)) (hlocks := hlocks) (fun h => by rw [hr] at h; cases h)
  have hmeth' : T.vm.method? m = some meth := X.method'
  refine ⟨T.setFrames fs, ?_, .returned (some (.int 1)), hrun, hended, rfl, ⟨_, rfl⟩, hW, hframe⟩
  jvm_step X.here [X.here.top, hx, hb, hdg, hmeth', hr, ret, narrow_b1]
  (try refine ⟨rfl, ?_⟩); (try refine ⟨rfl, ?_⟩)
  first | (intro acts; rw [hret _ acts rfl rfl rfl]) | rw [hret _ _ rfl rfl rfl]
  exact Steps.refl _
/-- what holds at the law's entry: the machine, the code, the tables' words (any of lw_tbl by 'hts w (by decide +kernel)'), the script of L ints xs at the cell b, what the Statement gives of the start (any of its parts by flat_of_before) -/
def lw_At (p : Program) (s : State) (m : MethodId) (meth : Method) (c : Code) (b L : Nat) (xs : Nat → Int32) : Prop :=
  p.tables.exec = Jvm.exec ∧ c.code = code ∧ meth.sig.returnType = ret ∧ c.maxLocals = 4 ∧ s.vm.findClass R_law = some m.cls ∧ (∀ w ∈ lw_tbl, w.before #[Value.ref b] s = true) ∧ va_X b L xs s s.heap ∧ b < s.heap.size ∧ meth.locks = false ∧ (Jvm.Cond.and given_1 narrow_1).before #[Value.ref b] s = true
theorem whole_of {p : Program} {e : Env} {s : State} {m : MethodId} {below : List Frame} {meth : Method} {c : Code} (l : Launch) {b L : Nat} {xs : Nat → Int32} (HL : a_law l 2048) (hL : L ≤ 2048) (C0 : lw_At p s m meth c b L xs) : W p l e room_1 s m #[Value.ref b] below meth c s.heap [] 0 0 (lw_Z below #[Value.ref b] s) (entryFrame m ([Value.ref b] : List Value).toArray 4) := by
  obtain ⟨hx, hb, hr, hml, hown, hts, hX, hbl, hlocks, -⟩ := C0
  obtain ⟨d, h', hd, hc1, hc2, K⟩ := HL (L, xs) hL
  have htg : ∀ w ∈ wG, w.before #[Value.ref b] s = true := fun w hw => hts w (List.mem_filter.mp hw).1
  have hcls : ∀ ci : Nat, ∃ q : ClassId × (Nat → Nat), ci < 10 → u_Kn s (aC ci) (a_Tf ci) (a_nf ci) q.1 q.2 := by
    intro ci
    by_cases h : ci < 10
    · obtain ⟨cC, iS, hk⟩ := u_known htg (a_uws h) (hts _ (a_okc h).2.1)
      exact ⟨(cC, iS), fun _ => hk⟩
    · exact ⟨(0, fun _ => 0), fun q => absurd q h⟩
  obtain ⟨Df, hDf⟩ := Classical.axiomOfChoice hcls
  obtain ⟨cI, kI, pI, i1, i2, i3⟩ := Cond.arrayClass_spec (hts _ (a_at_in a_wI))
  obtain ⟨cZ, kZ, pZ, z1, z2, z3⟩ := Cond.arrayClass_spec (hts _ (a_at_in a_wZ))
  obtain ⟨cL, kL, pL, l1, l2, l3⟩ := Cond.arrayClass_spec (hts _ (a_at_in a_wL))
  obtain ⟨pS, cS, kS, s1, -, s3, s4, s5⟩ := Cond.arrayOver_spec (hts _ (a_at_in a_wS))
  obtain ⟨pP, cP, kP, p1, -, p3, p4, p5⟩ := Cond.arrayOver_spec (hts _ (a_at_in a_wP))
  let cA : Nat → ClassId := fun k => if k = 0 then cI else if k = 1 then cZ else if k = 2 then cL else if k = 3 then cS else cP
  let g : aG := (s.heap.size, b, (fun ci => (Df ci).1, fun ci => (Df ci).2), cA)
  have hKn : a_Kn g s := by
    refine ⟨⟨fun ci q hq => ?_, fun k q hq => ?_⟩, fun w hw => ?_, va_AO.of (hts _ (a_at_in a_wS)), va_AO.of (hts _ (a_at_in a_wP))⟩
    · by_cases h : ci < 10
      · rw [a_clA h] at hq
        cases hq
        exact hDf ci h
      · rw [List.getElem?_eq_none (by simp [a_cl]; omega)] at hq
        cases hq
    · have hk : k < 5 := (List.getElem?_eq_some_iff.mp hq).1
      rcases (show k = 0 ∨ k = 1 ∨ k = 2 ∨ k = 3 ∨ k = 4 by omega) with rfl | rfl | rfl | rfl | rfl
      · cases hq; exact ⟨fun N z => ⟨(fun k h => by cases h), kI, i2, pI, i3⟩, i1⟩
      · cases hq; exact ⟨fun N z => ⟨(fun k h => by cases h), kZ, z2, pZ, z3⟩, z1⟩
      · cases hq; exact ⟨fun N z => ⟨(fun k h => by cases h), kL, l2, pL, l3⟩, l1⟩
      · cases hq; exact ⟨fun N z => ⟨(fun k h => by cases h), kS, s3, pS, s4⟩, kS, pS, s3, s4, s1, s5⟩
      · cases hq; exact ⟨fun N z => ⟨(fun k h => by cases h), kP, p3, pP, p4⟩, kP, pP, p3, p4, p1, p5⟩
    · obtain ⟨w1, w2⟩ := List.mem_filter.mp hw
      refine va_Nw.of ?_ (hts w w1)
      cases w <;> first | rfl | (simp [a_nest] at w2)
  have hRp : a_Rep g a_h0 s.heap := by
    refine ⟨rfl, fun k q hq => ?_, fun a _ => ⟨rfl, fun k => ⟨rfl, rfl, rfl⟩⟩⟩
    rw [show a_ws g a_h0 = [] from rfl] at hq
    cases hq
  have hentry := lv_entry ([Value.ref b]) (n := 4) (Nat.le_of_ble_eq_true rfl)
  rw [lg_entry_eq]
  have hLs : a_L g.1 g.2.1 ((lg_sl [Value.ref b] ++ List.replicate (4 - (lg_sl [Value.ref b]).length) Slot.unset).toArray) (m_nl 187) [some (.retAddr 0), none, none, none] := by
    refine ⟨rfl, hentry.1, hentry.2.1, fun k v hk => ?_⟩
    match k, hk with
    | 0, hk => cases hk; rfl
    | 1, hk => cases hk
    | 2, hk => cases hk
    | 3, hk => cases hk
    | k + 4, hk => cases hk
  have main := K g p e room_1 s m #[Value.ref b] below meth c a_h0 (lw_Z below #[Value.ref b] s)
    ⟨hx, hb, hml, hr, hlocks, fun hk => absurd hk (by decide +kernel), hown, htg, hKn, hX, hbl, rfl, ok187, by show d ≤ 2048; omega, by show 64 * d ≤ 84000; omega⟩ (by show h'.1.1 - 0 ≤ 693978; omega) (by show h'.1.2 - 0 ≤ 7020315; omega)
    (fun pc2 ls2 H2 locs2 hf hR2 hS2 => ?_) s.heap [] _ (Nat.le_refl _) (Nat.le_refl _) hRp hLs va_S.rf
  · exact main
  · refine va_forget (fun q hq => hS2.2.2 q hq) ?_
    refine W.widen (k := 693978) (n := 7020315) (by show h'.1.1 - 0 ≤ _; omega) (by show h'.1.2 - 0 ≤ _; omega) ?_
    exact lw_ret hx hb hr hlocks hf.1
