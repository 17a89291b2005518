theorem a_rel_cat (B b : Nat) (v : Value) : (a_rel B b v).category = v.category := by cases v <;> rfl
theorem a_two_cat (v : Value) : a_two (some v) = true ↔ v.category = 2 := by cases v <;> simp [a_two, Value.category]
theorem a_wr_len : ∀ (lo : List (Option Value)) (i : Nat) (v : Value), (a_wr lo i v).length = lo.length
  | [], i, v => by cases i <;> rfl
  | _ :: l, 0, v => by
    show (some v :: _).length = _
    cases h : a_two (some v) <;> cases l <;> rfl
  | x :: l, 1, v => by
    show (_ :: a_wr l 0 v).length = _
    rw [List.length_cons, a_wr_len l 0 v, List.length_cons]
  | x :: l, k + 2, v => by
    show (x :: a_wr l (k + 1) v).length = _
    rw [List.length_cons, a_wr_len l (k + 1) v, List.length_cons]
theorem a_wr_get : ∀ (lo : List (Option Value)) (i : Nat) (v : Value) (k : Nat) (w : Value), a_ld (a_wr lo i v) k = some w → (k = i ∧ w = v) ∨ (a_ld lo k = some w ∧ k ≠ i ∧ ¬ (k + 1 = i ∧ w.category = 2) ∧ (v.category = 2 → k ≠ i + 1))
  | [], i, v, k, w, h => by cases i <;> simp [a_wr, a_ld] at h
  | y :: l, 0, v, k, w, h => by
    cases k with
    | zero =>
      refine Or.inl ⟨rfl, ?_⟩
      have h : some v = some w := h
      exact (Option.some.inj h).symm
    | succ k =>
      refine Or.inr ?_
      cases hv : a_two (some v) with
      | false =>
        have hc : ¬ v.category = 2 := fun q => by rw [(a_two_cat v).mpr q] at hv; cases hv
        simp only [a_wr, hv, a_ld] at h
        exact ⟨by cases l <;> exact h, by omega, by omega, fun q => absurd q hc⟩
      | true =>
        cases l with
        | nil => simp [a_wr, hv, a_ld] at h
        | cons z l =>
          simp only [a_wr, hv, a_ld] at h
          cases k with
          | zero => cases h
          | succ k => exact ⟨h, by omega, by omega, fun _ => by omega⟩
  | y :: l, 1, v, k, w, h => by
    cases k with
    | zero =>
      refine Or.inr ?_
      cases hy : a_two y with
      | true => simp [a_wr, hy, a_ld] at h
      | false =>
        simp only [a_wr, hy, a_ld] at h
        refine ⟨h, by omega, fun q => ?_, fun _ => by omega⟩
        rw [h, (a_two_cat w).mpr q.2] at hy
        cases hy
    | succ k =>
      have h : a_ld (a_wr l 0 v) k = some w := h
      rcases a_wr_get l 0 v k w h with ⟨h1, h2⟩ | ⟨h1, h2, h3, h4⟩
      · exact Or.inl ⟨by omega, h2⟩
      · exact Or.inr ⟨h1, by omega, by omega, fun q => by have := h4 q; omega⟩
  | y :: l, i + 2, v, k, w, h => by
    cases k with
    | zero => exact Or.inr ⟨h, by omega, by omega, fun _ => by omega⟩
    | succ k =>
      have h : a_ld (a_wr l (i + 1) v) k = some w := h
      rcases a_wr_get l (i + 1) v k w h with ⟨h1, h2⟩ | ⟨h1, h2, h3, h4⟩
      · exact Or.inl ⟨by omega, h2⟩
      · exact Or.inr ⟨h1, by omega, fun q => h3 ⟨by omega, q.2⟩, fun q => by have := h4 q; omega⟩
theorem a_ld_lt : ∀ (lo : List (Option Value)) (k : Nat) (v : Value), a_ld lo k = some v → k < lo.length
  | [], k, v, h => by cases k <;> cases h
  | x :: l, 0, v, h => by simp
  | x :: l, k + 1, v, h => by
    have := a_ld_lt l k v h
    simp; omega
def a_clm (B b : Nat) (lo : List (Option Value)) : List (Nat × Value) := (List.range lo.length).filterMap (fun k => (a_ld lo k).map (fun v => (k, a_rel B b v)))
theorem a_clm_in {B b : Nat} {lo : List (Option Value)} {k : Nat} {v : Value} (h : a_ld lo k = some v) : (k, a_rel B b v) ∈ a_clm B b lo := List.mem_filterMap.mpr ⟨k, List.mem_range.mpr (a_ld_lt lo k v h), by rw [h]; rfl⟩
theorem a_L.has {B b : Nat} {ls : Array Slot} {nL : Nat} {lo : List (Option Value)} (h : a_L B b ls nL lo) : lv_has ls nL (a_clm B b lo) := by
  refine ⟨h.2.1, h.2.2.1, fun q hq => ?_⟩
  obtain ⟨k, -, hk⟩ := List.mem_filterMap.mp hq
  cases hv : a_ld lo k with
  | none => rw [hv] at hk; cases hk
  | some v =>
    rw [hv] at hk
    cases hk
    exact h.2.2.2 k v hv
theorem a_L.st1 {B b : Nat} {ls ls' : Array Slot} {nL : Nat} {lo : List (Option Value)} {i : Nat} {v : Value} (h : a_L B b ls nL lo) (h' : lv_has ls' nL ((i, a_rel B b v) :: (a_clm B b lo).filter (fun q => !(q.1 == i) && !(q.1 + 1 == i && q.2.category == 2)))) : a_L B b ls' nL (a_wr lo i v) := by
  refine ⟨(a_wr_len lo i v).trans h.1, h'.1, h'.2.1, fun k w hk => ?_⟩
  rcases a_wr_get lo i v k w hk with ⟨rfl, rfl⟩ | ⟨h1, h2, h3, -⟩
  · exact h'.2.2 _ List.mem_cons_self
  · refine h'.2.2 (k, a_rel B b w) (List.mem_cons_of_mem _ (List.mem_filter.mpr ⟨a_clm_in h1, ?_⟩))
    simp only [Bool.and_eq_true, Bool.not_eq_true', beq_eq_false_iff_ne, ne_eq, Bool.and_eq_false_iff, a_rel_cat]
    refine ⟨h2, ?_⟩
    by_cases hq : k + 1 = i
    · exact Or.inr (fun z => h3 ⟨hq, z⟩)
    · exact Or.inl hq
theorem a_L.st2 {B b : Nat} {ls ls' : Array Slot} {nL : Nat} {lo : List (Option Value)} {i : Nat} {v : Value} (hv : v.category = 2) (h : a_L B b ls nL lo) (h' : lv_has ls' nL ((i, a_rel B b v) :: (a_clm B b lo).filter (fun q => !(q.1 == i) && (!(q.1 == i + 1) && !(q.1 + 1 == i && q.2.category == 2))))) : a_L B b ls' nL (a_wr lo i v) := by
  refine ⟨(a_wr_len lo i v).trans h.1, h'.1, h'.2.1, fun k w hk => ?_⟩
  rcases a_wr_get lo i v k w hk with ⟨rfl, rfl⟩ | ⟨h1, h2, h3, h4⟩
  · exact h'.2.2 _ List.mem_cons_self
  · refine h'.2.2 (k, a_rel B b w) (List.mem_cons_of_mem _ (List.mem_filter.mpr ⟨a_clm_in h1, ?_⟩))
    simp only [Bool.and_eq_true, Bool.not_eq_true', beq_eq_false_iff_ne, ne_eq, Bool.and_eq_false_iff, a_rel_cat]
    refine ⟨h2, h4 hv, ?_⟩
    by_cases hq : k + 1 = i
    · exact Or.inr (fun z => h3 ⟨hq, z⟩)
    · exact Or.inl hq
section AR
variable {l : Launch} {X : aX} {i : Nat} {cf : aK} {d : Nat} {r : Option Value} {h' h : aH} {pc : Nat} {lo : List (Option Value)} {st : List Value}
theorem a_dec {pc : Nat} {ins : Instr} (ho : a_okm i cf) (hc : cf pc = some ins) (hs : a_sw ins = false) : decode (m_cc i) pc = .ok (ins, a_ln ins) := by
  obtain ⟨n, h1, h2⟩ := ho pc ins hc
  rw [h1, h2 hs]
/-- fewer known locals -/
theorem x_kill (ks : List Nat) (K : AW l X i cf d r h' pc (lo.zipIdx.map (fun q => if ks.contains q.2 then none else q.1)) st h) : AW l X i cf d r h' pc lo st h := by
  intro g p e R s m args below meth c h0 Qf C hr1 hr2 hfin H locs ls n1 n2 hR hL hS
  refine K g p e R s m args below meth c h0 Qf C hr1 hr2 hfin H locs ls n1 n2 hR ⟨by simpa using hL.1, hL.2.1, hL.2.2.1, fun k v hk => hL.2.2.2 k v ?_⟩ hS
  have key : ∀ (lo : List (Option Value)) (k j : Nat) (v : Value), a_ld ((lo.zipIdx j).map (fun q => if ks.contains q.2 then none else q.1)) k = some v → a_ld lo k = some v := by
    intro lo
    induction lo with
    | nil => intro k j v h; cases k <;> simp [a_ld] at h
    | cons x l ih =>
      intro k j v h
      simp only [List.zipIdx_cons, List.map_cons] at h
      cases k with
      | zero =>
        simp only [a_ld] at h ⊢
        by_cases hq : ks.contains j = true
        · rw [if_pos hq] at h; cases h
        · rw [if_neg hq] at h; exact h
      | succ k => exact ih k (j + 1) v h
  exact key lo k 0 v hk
set_option maxHeartbeats 4000000 in
theorem x_ps {ins : Instr} {q : Nat × List (Option Value) × List Value} (hc : cf pc = some ins) (hp : a_ps ins pc lo st = some q) (K : AW l X i cf d r h' q.1 q.2.1 q.2.2 h) : AW l X i cf d r h' pc lo st h := by
  intro g p e R s m args below meth c h0 Qf C hr1 hr2 hfin H locs ls n1 n2 hR hL hS
  have K : ∀ ls1, a_L g.1 g.2.1 ls1 (m_nl i) q.2.1 → W p l e R s m args below meth c H locs (h.1.1 - h0.1.1) (h.1.2 - h0.1.2) Qf (F0 m q.1 ls1 (q.2.2.map (a_rel g.1 g.2.1))) := fun ls1 hL1 => K g p e R s m args below meth c h0 Qf C hr1 hr2 hfin H locs ls1 n1 n2 hR hL1 hS
  obtain ⟨hx, hb, hml, -, -, -, -, -, -, -, -, -, hok, -, -⟩ := C
  have hdg := fun hs => a_dec hok hc hs
  have hlen := hL.1
  cases ins with
  | iconst n => cases hp; exact lv_iconst hx hb (hdg rfl) rfl (K ls hL)
  | bipush n => cases hp; exact lv_bipush hx hb (hdg rfl) rfl (K ls hL)
  | sipush n => cases hp; exact lv_sipush hx hb (hdg rfl) rfl (K ls hL)
  | lconst n => cases hp; exact lv_lconst hx hb (hdg rfl) rfl (K ls hL)
  | iload k =>
    simp only [a_ps] at hp
    split at hp
    · rename_i x hk; cases hp; exact lv_iload hx hb (hdg rfl) (hL.2.2.2 k _ hk) (K ls hL)
    · cases hp
  | iload_n k =>
    simp only [a_ps] at hp
    split at hp
    · rename_i x hk; cases hp; exact lv_iload_n hx hb (hdg rfl) rfl (hL.2.2.2 k.val _ hk) (K ls hL)
    · cases hp
  | lload k =>
    simp only [a_ps] at hp
    split at hp
    · rename_i x hk; cases hp; exact lv_lload hx hb (hdg rfl) (hL.2.2.2 k _ hk) (K ls hL)
    · cases hp
  | lload_n k =>
    simp only [a_ps] at hp
    split at hp
    · rename_i x hk; cases hp; exact lv_lload_n hx hb (hdg rfl) rfl (hL.2.2.2 k.val _ hk) (K ls hL)
    · cases hp
  | aload k =>
    simp only [a_ps] at hp
    split at hp
    · rename_i x hk; cases hp; exact lv_aload hx hb (hdg rfl) (hL.2.2.2 k _ hk) (K ls hL)
    · cases hp
  | aload_n k =>
    simp only [a_ps] at hp
    split at hp
    · rename_i x hk; cases hp; exact lv_aload_n hx hb (hdg rfl) rfl (hL.2.2.2 k.val _ hk) (K ls hL)
    · rename_i x hk; cases hp; exact lv_aload_n hx hb (hdg rfl) rfl (hL.2.2.2 k.val _ hk) (K ls hL)
    · cases hp
  | istore k =>
    simp only [a_ps] at hp
    split at hp
    · rename_i x st'
      by_cases hk : k < lo.length
      · rw [if_pos hk] at hp; cases hp
        exact lv_istore hx hb (hdg rfl) hL.has (by omega) rfl (fun ls' hl' => K ls' (hL.st1 (v := .int x) hl'))
      · rw [if_neg hk] at hp; cases hp
    · cases hp
  | istore_n k =>
    simp only [a_ps] at hp
    split at hp
    · rename_i x st'
      by_cases hk : k.val < lo.length
      · rw [if_pos hk] at hp; cases hp
        exact lv_istore_n hx hb (hdg rfl) rfl hL.has (by omega) rfl (fun ls' hl' => K ls' (hL.st1 (v := .int x) hl'))
      · rw [if_neg hk] at hp; cases hp
    · cases hp
  | lstore k =>
    simp only [a_ps] at hp
    split at hp
    · rename_i x st'
      by_cases hk : k + 1 < lo.length
      · rw [if_pos hk] at hp; cases hp
        exact lv_lstore hx hb (hdg rfl) hL.has (by omega) rfl (fun ls' hl' => K ls' (hL.st2 (v := .long x) rfl hl'))
      · rw [if_neg hk] at hp; cases hp
    · cases hp
  | lstore_n k =>
    simp only [a_ps] at hp
    split at hp
    · rename_i x st'
      by_cases hk : k.val + 1 < lo.length
      · rw [if_pos hk] at hp; cases hp
        exact lv_lstore_n hx hb (hdg rfl) rfl hL.has (by omega) rfl (fun ls' hl' => K ls' (hL.st2 (v := .long x) rfl hl'))
      · rw [if_neg hk] at hp; cases hp
    · cases hp
  | astore k =>
    simp only [a_ps] at hp
    split at hp
    · rename_i x st'
      by_cases hk : k < lo.length
      · rw [if_pos hk] at hp; cases hp
        exact lv_astore hx hb (hdg rfl) hL.has (by omega) rfl (fun ls' hl' => K ls' (hL.st1 (v := .ref x) hl'))
      · rw [if_neg hk] at hp; cases hp
    · cases hp
  | astore_n k =>
    simp only [a_ps] at hp
    split at hp
    · rename_i x st'
      by_cases hk : k.val < lo.length
      · rw [if_pos hk] at hp; cases hp
        exact lv_astore_n hx hb (hdg rfl) rfl hL.has (by omega) rfl (fun ls' hl' => K ls' (hL.st1 (v := .ref x) hl'))
      · rw [if_neg hk] at hp; cases hp
    · cases hp
  | iinc k n =>
    simp only [a_ps] at hp
    split at hp
    · rename_i x hk0
      by_cases hk : k < lo.length
      · rw [if_pos hk] at hp; cases hp
        obtain ⟨j, hj⟩ := List.getElem?_of_mem (a_clm_in (B := g.1) (b := g.2.1) hk0)
        exact lv_iinc hx hb (hdg rfl) hL.has hj rfl (by omega) rfl (fun ls' hl' => K ls' (hL.st1 (v := .int (x + Int32.ofInt n)) hl'))
      · rw [if_neg hk] at hp; cases hp
    · cases hp
  | iadd => simp only [a_ps] at hp; split at hp <;> cases hp; exact lv_iadd hx hb (hdg rfl) (K ls hL)
  | isub => simp only [a_ps] at hp; split at hp <;> cases hp; exact lv_isub hx hb (hdg rfl) (K ls hL)
  | imul => simp only [a_ps] at hp; split at hp <;> cases hp; exact lv_imul hx hb (hdg rfl) (K ls hL)
  | iand => simp only [a_ps] at hp; split at hp <;> cases hp; exact lv_iand hx hb (hdg rfl) (K ls hL)
  | ior => simp only [a_ps] at hp; split at hp <;> cases hp; exact lv_ior hx hb (hdg rfl) (K ls hL)
  | ixor => simp only [a_ps] at hp; split at hp <;> cases hp; exact lv_ixor hx hb (hdg rfl) (K ls hL)
  | ishl => simp only [a_ps] at hp; split at hp <;> cases hp; exact lv_ishl hx hb (hdg rfl) (K ls hL)
  | ishr => simp only [a_ps] at hp; split at hp <;> cases hp; exact lv_ishr hx hb (hdg rfl) (K ls hL)
  | ladd => simp only [a_ps] at hp; split at hp <;> cases hp; exact lv_ladd hx hb (hdg rfl) (K ls hL)
  | lsub => simp only [a_ps] at hp; split at hp <;> cases hp; exact lv_lsub hx hb (hdg rfl) (K ls hL)
  | lmul => simp only [a_ps] at hp; split at hp <;> cases hp; exact lv_lmul hx hb (hdg rfl) (K ls hL)
  | lor => simp only [a_ps] at hp; split at hp <;> cases hp; exact lv_lor hx hb (hdg rfl) (K ls hL)
  | lxor => simp only [a_ps] at hp; split at hp <;> cases hp; exact lv_lxor hx hb (hdg rfl) (K ls hL)
  | lshl => simp only [a_ps] at hp; split at hp <;> cases hp; exact lv_lshl hx hb (hdg rfl) rfl (K ls hL)
  | lshr => simp only [a_ps] at hp; split at hp <;> cases hp; exact lv_lshr hx hb (hdg rfl) rfl (K ls hL)
  | lcmp => simp only [a_ps] at hp; split at hp <;> cases hp; exact W.lcmp hx hb (hdg rfl) (K ls hL)
  | i2l => simp only [a_ps] at hp; split at hp <;> cases hp; exact lv_i2l hx hb (hdg rfl) rfl (K ls hL)
  | l2i => simp only [a_ps] at hp; split at hp <;> cases hp; exact lv_l2i hx hb (hdg rfl) rfl (K ls hL)
  | dup =>
    simp only [a_ps] at hp
    split at hp
    · cases hp; exact lv_dup hx hb (hdg rfl) rfl (K ls hL)
    · cases hp; exact lv_dup hx hb (hdg rfl) rfl (K ls hL)
    · cases hp
  | dup_x1 => simp only [a_ps] at hp; split at hp <;> cases hp; exact lv_dup_x1 hx hb (hdg rfl) rfl rfl (K ls hL)
  | pop =>
    simp only [a_ps] at hp
    split at hp
    · cases hp; exact lv_pop hx hb (hdg rfl) rfl (K ls hL)
    · cases hp; exact lv_pop hx hb (hdg rfl) rfl (K ls hL)
    · cases hp
  | goto off =>
    simp only [a_ps] at hp
    by_cases ht : 0 ≤ (pc : Int) + off
    · rw [if_pos ht] at hp; cases hp
      exact lv_goto hx hb (hdg rfl) (Int.toNat_of_nonneg ht).symm (K ls hL)
    · rw [if_neg ht] at hp; cases hp
  | _ => cases hp
end AR
