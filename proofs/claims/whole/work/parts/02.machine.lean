/-! A small machine over the JVM's: cells by number (the k-th cell that the law makes lies at B + k), ints, longs and references in three tables, shapes that never change. Its judgement AW says of the JVM itself (by the kit's W) that it comes to its end with a given answer and given tables; each rule x_.. is an instruction. -/
abbrev aH : Type := (Nat × Nat) × (Nat → Nat × Nat) × (Nat → Nat → Int32) × (Nat → Nat → Int64) × (Nat → Nat → Option Nat)
def a_u2 {α : Type} (f : Nat → Nat → α) (a k : Nat) (x : α) : Nat → Nat → α := fun i => if i = a then fun j => if j = k then x else f a j else f i
def a_si (h : aH) (a k : Nat) (x : Int32) : aH := (h.1, h.2.1, a_u2 h.2.2.1 a k x, h.2.2.2)
def a_sl (h : aH) (a k : Nat) (x : Int64) : aH := (h.1, h.2.1, h.2.2.1, a_u2 h.2.2.2.1 a k x, h.2.2.2.2)
def a_sr (h : aH) (a k : Nat) (x : Option Nat) : aH := (h.1, h.2.1, h.2.2.1, h.2.2.2.1, a_u2 h.2.2.2.2 a k x)
def a_nw (h : aH) (t n w : Nat) : aH := ((h.1.1 + 1, h.1.2 + w), (fun i => if i = h.1.1 then (t, n) else h.2.1 i), h.2.2)
abbrev aG : Type := Nat × Nat × va_G × (Nat → ClassId)
def a_fv (B : Nat) (h : aH) (a ci k : Nat) : Value := if a_kd ci k = 2 then .long (h.2.2.2.1 a k) else if a_kd ci k = 3 then va_rf ((h.2.2.2.2 a k).map (fun x => B + x)) else .int (h.2.2.1 a k)
def a_fs (B : Nat) (h : aH) (a ci : Nat) : List Value := (List.range (a_nf ci)).map (fun k => a_fv B h a ci k)
def a_cell (g : aG) (h : aH) (a : Nat) : va_E :=
  if (h.2.1 a).1 = 16 then .inl (g.2.2.2 0, (h.2.1 a).2, .inl (h.2.2.1 a))
  else if (h.2.1 a).1 = 17 then .inl (g.2.2.2 1, (h.2.1 a).2, .inl (h.2.2.1 a))
  else if (h.2.1 a).1 = 18 then .inl (g.2.2.2 2, (h.2.1 a).2, .inr (.inl (h.2.2.2.1 a)))
  else if (h.2.1 a).1 = 19 then .inl (g.2.2.2 3, (h.2.1 a).2, .inr (.inr (.inr (.inr (fun k => (h.2.2.2.2 a k).map (fun x => g.1 + x))))))
  else if (h.2.1 a).1 = 20 then .inl (g.2.2.2 4, (h.2.1 a).2, .inr (.inr (.inr (.inr (fun k => (h.2.2.2.2 a k).map (fun x => g.1 + x))))))
  else .inr ((h.2.1 a).1, a_fs g.1 h a (h.2.1 a).1)
def a_ws (g : aG) (h : aH) : va_W := (List.range h.1.1).map (fun i => (g.1 + i, a_cell g h i))
def a_blank (h : aH) (a : Nat) : Prop := (h.2.1 a).1 = 31 ∧ ∀ k, h.2.2.1 a k = 0 ∧ h.2.2.2.1 a k = 0 ∧ h.2.2.2.2 a k = none
def a_Rep (g : aG) (h : aH) (H : Heap) : Prop := H.size = g.1 + h.1.1 ∧ va_P g.2.2.1 a_cl (a_ws g h) H ∧ ∀ a, h.1.1 ≤ a → a_blank h a
def a_tys (g : aG) : List (ClassId × FieldType) := [(g.2.2.2 0, .int), (g.2.2.2 1, .boolean), (g.2.2.2 2, .long), (g.2.2.2 3, .object "TypeForecast$State"), (g.2.2.2 4, .object "TypeForecast$Picture")]
def a_Kn (g : aG) (U : State) : Prop := va_K g.2.2.1 a_cl (a_tys g) U ∧ (∀ w ∈ wN, va_Nw w U) ∧ va_AO "TypeForecast$State" U ∧ va_AO "TypeForecast$Picture" U
def a_rel (B b : Nat) : Value → Value
  | .ref i => .ref (B + i)
  | .retAddr _ => .ref b
  | v => v
abbrev aX : Type := Nat × (Nat → Int32)
def a_Pre (g : aG) (X : aX) (h : aH) (U : State) : Prop := a_Rep g h U.heap ∧ a_Kn g U ∧ va_X g.2.1 X.1 X.2 U U.heap ∧ g.2.1 < g.1
-- locals
def a_ld : List (Option Value) → Nat → Option Value
  | [], _ => none
  | x :: _, 0 => x
  | _ :: l, k + 1 => a_ld l k
def a_two : Option Value → Bool
  | some (.long _) => true
  | some (.double _) => true
  | _ => false
def a_wr : List (Option Value) → Nat → Value → List (Option Value)
  | [], _, _ => []
  | _ :: l, 0, v => some v :: (match a_two (some v), l with
    | true, _ :: l' => none :: l'
    | _, l => l)
  | x :: l, 1, v => (match a_two x with
    | true => none
    | false => x) :: a_wr l 0 v
  | x :: l, k + 2, v => x :: a_wr l (k + 1) v
def a_L (B b : Nat) (ls : Array Slot) (nL : Nat) (lo : List (Option Value)) : Prop := lo.length = nL ∧ ls.size = nL ∧ lv_wf ls ∧ ∀ k v, a_ld lo k = some v → ls[k]? = some (.val (a_rel B b v))
-- code
def a_ln : Instr → Nat
  | .bipush _ => 2
  | .ldc _ => 2
  | .newarray _ => 2
  | .aload _ => 2
  | .iload _ => 2
  | .lload _ => 2
  | .astore _ => 2
  | .istore _ => 2
  | .lstore _ => 2
  | .sipush _ => 3
  | .ldc2_w _ => 3
  | .iinc _ _ => 3
  | .goto _ => 3
  | .ifCond _ _ => 3
  | .if_icmp _ _ => 3
  | .getfield _ => 3
  | .putfield _ => 3
  | .invokevirtual _ => 3
  | .invokespecial _ => 3
  | .invokestatic _ => 3
  | .new _ => 3
  | .anewarray _ => 3
  | _ => 1
def a_sw : Instr → Bool
  | .tableswitch .. => true
  | .lookupswitch .. => true
  | _ => false
abbrev aK : Type := Nat → Option Instr
def a_chk (i : Nat) (cf : aK) (n : Nat) : Bool := (List.range n).all (fun pc => match cf pc with
  | none => true
  | some ins => match decode (m_cc i) pc with
    | .ok (j, len) => decide (j = ins) && (a_sw ins || decide (len = a_ln ins))
    | _ => false)
def a_okm (i : Nat) (cf : aK) : Prop := ∀ pc ins, cf pc = some ins → ∃ n, decode (m_cc i) pc = .ok (ins, n) ∧ (a_sw ins = false → n = a_ln ins)
theorem a_okm_of {i : Nat} {cf : aK} (n : Nat) (h : a_chk i cf n = true) (hn : ∀ pc, n ≤ pc → cf pc = none) : a_okm i cf := by
  intro pc ins hc
  by_cases hp : n ≤ pc
  · rw [hn pc hp] at hc; cases hc
  · have h1 := List.all_eq_true.mp h pc (List.mem_range.mpr (Nat.lt_of_not_le hp))
    rw [hc] at h1
    dsimp only at h1
    cases hd : decode (m_cc i) pc with
    | error e => rw [hd] at h1; cases h1
    | ok q =>
      obtain ⟨j, len⟩ := q
      rw [hd] at h1
      simp only [Bool.and_eq_true, Bool.or_eq_true, decide_eq_true_eq] at h1
      obtain ⟨rfl, h2⟩ := h1
      exact ⟨len, rfl, fun hs => h2.resolve_left (by rw [hs]; decide)⟩
def a_fin (i pc : Nat) : Option Value → Prop
  | none => decode (m_cc i) pc = .ok (.return_, 1) ∧ m_rt i = none
  | some (.int v) => decode (m_cc i) pc = .ok (.ireturn, 1) ∧ (m_rt i = some .int ∨ (m_rt i = some .boolean ∧ (v = 0 ∨ v = 1)))
  | some (.long _) => decode (m_cc i) pc = .ok (.lreturn, 1) ∧ m_rt i = some .long
  | some (.ref _) => decode (m_cc i) pc = .ok (.areturn, 1) ∧ ∃ C, m_rt i = some (.object C)
  | _ => False
def a_Ctx (X : aX) (i : Nat) (cf : aK) (d : Nat) (g : aG) (p : Program) (R : Room) (s : State) (m : MethodId) (args : Array Value) (meth : Method) (c : Code) (h0 : aH) : Prop :=
  p.tables.exec = Jvm.exec ∧ c.code = m_cc i ∧ c.maxLocals = m_nl i ∧ meth.sig.returnType = m_rt i ∧ meth.locks = false ∧ (m_k i = 2 → meth.name = "<init>") ∧ s.vm.findClass (aC (m_o i)) = some m.cls ∧ (∀ w ∈ wG, w.before args s = true) ∧ a_Kn g s ∧ va_X g.2.1 X.1 X.2 s s.heap ∧ g.2.1 < g.1 ∧ s.heap.size = g.1 + h0.1.1 ∧ a_okm i cf ∧ d ≤ R.frames ∧ 64 * d ≤ R.locals
def AW (l : Launch) (X : aX) (i : Nat) (cf : aK) (d : Nat) (r : Option Value) (h' : aH) (pc : Nat) (lo : List (Option Value)) (st : List Value) (h : aH) : Prop :=
  ∀ (g : aG) (p : Program) (e : Env) (R : Room) (s : State) (m : MethodId) (args : Array Value) (below : List Frame) (meth : Method) (c : Code) (h0 : aH) (Qf : State → Prop), a_Ctx X i cf d g p R s m args meth c h0 → h'.1.1 - h0.1.1 ≤ R.cells → h'.1.2 - h0.1.2 ≤ R.slots →
    (∀ (pc2 : Nat) (ls2 : Array Slot) (H2 : Heap) (locs2 : List Loc), a_fin i pc2 r → a_Rep g h' H2 → va_S (fun q => g.1 ≤ q) s.heap H2 locs2 → W p l e R s m args below meth c H2 locs2 (h'.1.1 - h0.1.1) (h'.1.2 - h0.1.2) Qf (F0 m pc2 ls2 (r.toList.map (a_rel g.1 g.2.1)))) →
    ∀ (H : Heap) (locs : List Loc) (ls : Array Slot), h0.1.1 ≤ h.1.1 → h0.1.2 ≤ h.1.2 → a_Rep g h H → a_L g.1 g.2.1 ls (m_nl i) lo → va_S (fun q => g.1 ≤ q) s.heap H locs →
    W p l e R s m args below meth c H locs (h.1.1 - h0.1.1) (h.1.2 - h0.1.2) Qf (F0 m pc ls (st.map (a_rel g.1 g.2.1)))
-- pure steps: no cell is read or written
def a_ps (ins : Instr) (pc : Nat) (lo : List (Option Value)) (st : List Value) : Option (Nat × List (Option Value) × List Value) :=
  match ins with
  | .iconst n => some (pc + 1, lo, .int (Int32.ofInt n) :: st)
  | .bipush n => some (pc + 2, lo, .int (Int8.ofInt n).toInt32 :: st)
  | .sipush n => some (pc + 3, lo, .int (Int16.ofInt n).toInt32 :: st)
  | .lconst n => some (pc + 1, lo, .long (Int64.ofNat n.val) :: st)
  | .iload k => match a_ld lo k with
    | some (.int x) => some (pc + 2, lo, .int x :: st)
    | _ => none
  | .iload_n k => match a_ld lo k.val with
    | some (.int x) => some (pc + 1, lo, .int x :: st)
    | _ => none
  | .lload k => match a_ld lo k with
    | some (.long x) => some (pc + 2, lo, .long x :: st)
    | _ => none
  | .lload_n k => match a_ld lo k.val with
    | some (.long x) => some (pc + 1, lo, .long x :: st)
    | _ => none
  | .aload k => match a_ld lo k with
    | some (.ref x) => some (pc + 2, lo, .ref x :: st)
    | _ => none
  | .aload_n k => match a_ld lo k.val with
    | some (.ref x) => some (pc + 1, lo, .ref x :: st)
    | some (.retAddr x) => some (pc + 1, lo, .retAddr x :: st)
    | _ => none
  | .istore k => match st with
    | .int x :: st' => if k < lo.length then some (pc + 2, a_wr lo k (.int x), st') else none
    | _ => none
  | .istore_n k => match st with
    | .int x :: st' => if k.val < lo.length then some (pc + 1, a_wr lo k.val (.int x), st') else none
    | _ => none
  | .lstore k => match st with
    | .long x :: st' => if k + 1 < lo.length then some (pc + 2, a_wr lo k (.long x), st') else none
    | _ => none
  | .lstore_n k => match st with
    | .long x :: st' => if k.val + 1 < lo.length then some (pc + 1, a_wr lo k.val (.long x), st') else none
    | _ => none
  | .astore k => match st with
    | .ref x :: st' => if k < lo.length then some (pc + 2, a_wr lo k (.ref x), st') else none
    | _ => none
  | .astore_n k => match st with
    | .ref x :: st' => if k.val < lo.length then some (pc + 1, a_wr lo k.val (.ref x), st') else none
    | _ => none
  | .iinc k n => match a_ld lo k with
    | some (.int x) => if k < lo.length then some (pc + 3, a_wr lo k (.int (x + Int32.ofInt n)), st) else none
    | _ => none
  | .iadd => match st with
    | .int y :: .int x :: st' => some (pc + 1, lo, .int (x + y) :: st')
    | _ => none
  | .isub => match st with
    | .int y :: .int x :: st' => some (pc + 1, lo, .int (x - y) :: st')
    | _ => none
  | .imul => match st with
    | .int y :: .int x :: st' => some (pc + 1, lo, .int (x * y) :: st')
    | _ => none
  | .iand => match st with
    | .int y :: .int x :: st' => some (pc + 1, lo, .int (x &&& y) :: st')
    | _ => none
  | .ior => match st with
    | .int y :: .int x :: st' => some (pc + 1, lo, .int (x ||| y) :: st')
    | _ => none
  | .ixor => match st with
    | .int y :: .int x :: st' => some (pc + 1, lo, .int (x ^^^ y) :: st')
    | _ => none
  | .ishl => match st with
    | .int y :: .int x :: st' => some (pc + 1, lo, .int (x <<< (y &&& 31)) :: st')
    | _ => none
  | .ishr => match st with
    | .int y :: .int x :: st' => some (pc + 1, lo, .int (x >>> (y &&& 31)) :: st')
    | _ => none
  | .ladd => match st with
    | .long y :: .long x :: st' => some (pc + 1, lo, .long (x + y) :: st')
    | _ => none
  | .lsub => match st with
    | .long y :: .long x :: st' => some (pc + 1, lo, .long (x - y) :: st')
    | _ => none
  | .lmul => match st with
    | .long y :: .long x :: st' => some (pc + 1, lo, .long (x * y) :: st')
    | _ => none
  | .lor => match st with
    | .long y :: .long x :: st' => some (pc + 1, lo, .long (x ||| y) :: st')
    | _ => none
  | .lxor => match st with
    | .long y :: .long x :: st' => some (pc + 1, lo, .long (x ^^^ y) :: st')
    | _ => none
  | .lshl => match st with
    | .int y :: .long x :: st' => some (pc + 1, lo, .long (x <<< (y.toInt64 &&& 63)) :: st')
    | _ => none
  | .lshr => match st with
    | .int y :: .long x :: st' => some (pc + 1, lo, .long (x >>> (y.toInt64 &&& 63)) :: st')
    | _ => none
  | .lcmp => match st with
    | .long y :: .long x :: st' => some (pc + 1, lo, .int (lg_cmp x y) :: st')
    | _ => none
  | .i2l => match st with
    | .int x :: st' => some (pc + 1, lo, .long x.toInt64 :: st')
    | _ => none
  | .l2i => match st with
    | .long x :: st' => some (pc + 1, lo, .int x.toInt32 :: st')
    | _ => none
  | .dup => match st with
    | .int x :: st' => some (pc + 1, lo, .int x :: .int x :: st')
    | .ref x :: st' => some (pc + 1, lo, .ref x :: .ref x :: st')
    | _ => none
  | .dup_x1 => match st with
    | .int x :: .ref y :: st' => some (pc + 1, lo, .int x :: .ref y :: .int x :: st')
    | _ => none
  | .pop => match st with
    | .int _ :: st' => some (pc + 1, lo, st')
    | .ref _ :: st' => some (pc + 1, lo, st')
    | _ => none
  | .goto off => if 0 ≤ (pc : Int) + off then some (((pc : Int) + off).toNat, lo, st) else none
  | _ => none
