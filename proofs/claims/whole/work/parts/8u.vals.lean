/-! the model lists the values of a picture -/
/-- a list of values from place i on, types at a, numbers at b -/
def lst (q : aQ) (a b : Nat) : Nat → List (Nat × Int) → Prop
  | _, [] => True
  | i, v :: r => q.1 a i = nI v.1 ∧ q.1 b i = iI v.2 ∧ lst q a b (i + 1) r
theorem lst_app {q : aQ} {a b : Nat} : ∀ (L M : List (Nat × Int)) (i : Nat), lst q a b i (L ++ M) ↔ lst q a b i L ∧ lst q a b (i + L.length) M
  | [], M, i => ⟨fun h => ⟨trivial, h⟩, fun h => h.2⟩
  | v :: L, M, i => by
    have ih := lst_app (q := q) (a := a) (b := b) L M (i + 1)
    show (q.1 a i = nI v.1 ∧ q.1 b i = iI v.2 ∧ lst q a b (i + 1) (L ++ M)) ↔ (q.1 a i = nI v.1 ∧ q.1 b i = iI v.2 ∧ lst q a b (i + 1) L) ∧ lst q a b (i + (L.length + 1)) M
    rw [ih, show i + (L.length + 1) = i + 1 + L.length by omega]
    exact ⟨fun ⟨x, y, z, w⟩ => ⟨⟨x, y, z⟩, w⟩, fun ⟨⟨x, y, z⟩, w⟩ => ⟨x, y, z, w⟩⟩
theorem lst_fr {q q' : aQ} {a b : Nat} : ∀ (L : List (Nat × Int)) (i : Nat), (∀ j, i ≤ j → j < i + L.length → q'.1 a j = q.1 a j ∧ q'.1 b j = q.1 b j) → lst q a b i L → lst q' a b i L
  | [], _, _, _ => trivial
  | v :: r, i, h, ⟨h1, h2, h3⟩ => by
    have h0 := h i (Nat.le_refl i) (by show i < i + (r.length + 1); omega)
    refine ⟨h0.1.trans h1, h0.2.trans h2, lst_fr r (i + 1) (fun j a b => h j (by omega) (by show j < i + (r.length + 1); omega)) h3⟩
theorem lst_get {q : aQ} {a b : Nat} : ∀ (L : List (Nat × Int)) (i k : Nat) (hk : k < L.length), lst q a b i L → q.1 a (i + k) = nI (L[k]).1 ∧ q.1 b (i + k) = iI (L[k]).2
  | v :: r, i, 0, _, ⟨h1, h2, _⟩ => ⟨h1, h2⟩
  | v :: r, i, k + 1, hk, ⟨_, _, h3⟩ => by
    have := lst_get r (i + 1) k (by simpa using hk) h3
    rw [show i + (k + 1) = i + 1 + k by omega]
    exact this
/-- a picture's place: types at a, bounds at b -/
def mpAt (q : aQ) (a b i : Nat) (P : Pc) : Prop := mp (q.1 a i) (fun k => q.1 b (4 * i + k)) P
theorem mpAt.fr {q q' : aQ} {a b i : Nat} {P : Pc} (h : mpAt q a b i P) (h1 : q'.1 a i = q.1 a i) (h2 : ∀ k, k < 4 → q'.1 b (4 * i + k) = q.1 b (4 * i + k)) : mpAt q' a b i P := mp_cong h h1 h2
/-- the k-th number that stands for others -/
def rpn (i : Nat) : Int := if i = 0 then -289 else if i = 36 then 289 else (i : Int) - 18
theorem rp_map : rp = (List.range 37).map rpn := by decide
def preV (P : Pc) (i : Nat) : List (Nat × Int) := ((List.range i).map rpn).flatMap (valA P)
theorem preV_s (P : Pc) (i : Nat) : preV P (i + 1) = preV P i ++ valA P (rpn i) := by
  unfold preV
  rw [List.range_succ, List.map_append, List.flatMap_append]
  simp
theorem vals_pre (P : Pc) : vals P = preV P 37 ++ (if P.2.2.1 = true then [(4, 0)] else []) := by
  unfold vals preV
  rw [rp_map]
theorem valA_len (P : Pc) (n : Int) : (valA P n).length ≤ (if 0 ≤ n then 2 else 1) := by
  unfold valA
  rw [List.length_append]
  by_cases h : 0 ≤ n
  · rw [if_pos h]
    split <;> split <;> simp
  · rw [if_neg h, if_neg (fun z : 0 ≤ n ∧ _ => h z.1)]
    split <;> simp
theorem preV_len (P : Pc) : ∀ i, i ≤ 37 → (preV P i).length ≤ i + (i - 18)
  | 0, _ => Nat.le_refl 0
  | i + 1, h => by
    rw [preV_s, List.length_append]
    have a := preV_len P i (by omega)
    have b := valA_len P (rpn i)
    by_cases c : 0 ≤ rpn i
    · rw [if_pos c] at b
      have : 18 ≤ i := by
        unfold rpn at c
        split at c
        · omega
        · split at c <;> omega
      omega
    · rw [if_neg c] at b
      omega
theorem vals_len (P : Pc) : (vals P).length ≤ 57 := by
  rw [vals_pre, List.length_append]
  have := preV_len P 37 (Nat.le_refl 37)
  split <;> simp <;> omega
section
variable {q Q : aQ} {P : Pc}
theorem mL_17 {l : Int} (h : l = -1000 ∨ (-16 ≤ l ∧ l ≤ 16)) : (mL l = -17 ↔ l = -1000) ∧ (l ≠ -1000 → mL l = iI l) := by
  unfold mL
  by_cases e : l = -1000
  · rw [if_pos e]; exact ⟨⟨fun _ => e, fun _ => rfl⟩, fun z => absurd e z⟩
  · rw [if_neg e]
    refine ⟨⟨fun z => ?_, fun z => absurd z e⟩, fun _ => rfl⟩
    have := (iI_eq (a := l) (b := -17) (by unfold bd; omega) (by unfold bd; omega)).mp (z.trans rfl)
    omega
theorem mH_17 {l : Int} (h : l = 1000 ∨ (-16 ≤ l ∧ l ≤ 16)) : (mH l = 17 ↔ l = 1000) ∧ (l ≠ 1000 → mH l = iI l) := by
  unfold mH
  by_cases e : l = 1000
  · rw [if_pos e]; exact ⟨⟨fun _ => e, fun _ => rfl⟩, fun z => absurd e z⟩
  · rw [if_neg e]
    refine ⟨⟨fun z => ?_, fun z => absurd z e⟩, fun _ => rfl⟩
    have := (iI_eq (a := l) (b := 17) (by unfold bd; omega) (by unfold bd; omega)).mp (z.trans rfl)
    omega
theorem F159_eq {n : Int} {R : Rn} (hn : n ∈ rp) (hR : okR R) (e : isE R = false) : F159_0 (iI n) (mL R.1) (mH R.2) q = bI (hol R n) ∧ S159_0 (iI n) (mL R.1) (mH R.2) q := by
  have o := ok_ne hR (by rw [e]; decide)
  have hn' := mem_rp.mp hn
  have bn : bd n := by unfold bd; omega
  have b1 : bd R.1 := by unfold bd; omega
  have b2 : bd R.2 := by unfold bd; omega
  obtain ⟨l1, l2⟩ := mL_17 o.1
  obtain ⟨h1, h2⟩ := mH_17 o.2.1
  have hh : F159_11 (iI n) (mH R.2) q = bI (decide (n ≤ R.2)) := by
    unfold F159_11 bI
    simp only [decide_eq_true_iff]
    by_cases c : R.2 = 1000
    · rw [if_pos (h1.mpr c), if_pos (by omega)]
    · rw [if_neg (fun z => c (h1.mp z)), h2 c]
      simp only [iI_lt b2 bn]
      by_cases d : R.2 < n
      · rw [if_pos d, if_neg (by omega)]
      · rw [if_neg d, if_pos (by omega)]
  refine ⟨?_, by unfold S159_0 S159_11; simp⟩
  unfold F159_0 hol
  rw [hh]
  by_cases c : R.1 = -1000
  · rw [if_pos (l1.mpr c), decide_eq_true (show R.1 ≤ n by omega), Bool.true_and]
  · rw [if_neg (fun z => c (l1.mp z)), l2 c]
    simp only [iI_lt bn b1]
    by_cases d : n < R.1
    · rw [if_pos d, decide_eq_false (show ¬ R.1 ≤ n by omega), Bool.false_and]; rfl
    · rw [if_neg d, decide_eq_true (show R.1 ≤ n by omega), Bool.true_and]
/-- the left list is L -/
def lefts (q : aQ) (L : List (Nat × Int)) : Prop := q.1 650 29 = nI L.length ∧ lst q 675 676 0 L
def frL (q q' : aQ) : Prop := (∀ c j, ¬ c = 675 → ¬ c = 676 → ¬ (c = 650 ∧ j = 29) → q'.1 c j = q.1 c j) ∧ q'.2 = q.2
theorem frL.rf : frL q q := ⟨fun _ _ _ _ _ => rfl, rfl⟩
theorem frL.tr {q q1 q2 : aQ} (h : frL q q1) (k : frL q1 q2) : frL q q2 := ⟨fun c j x y z => (k.1 c j x y z).trans (h.1 c j x y z), k.2.trans h.2⟩
theorem F160_eq {L : List (Nat × Int)} {t : Nat} {n : Int} (h : lefts Q L) (hl : L.length < 60) : S160_0 (nI t) (iI n) Q ∧ frL Q (F160_0 (nI t) (iI n) Q) ∧ lefts (F160_0 (nI t) (iI n) Q) (L ++ [(t, n)]) := by
  have c : (nI L.length).toNatClampNeg = L.length := nI_clamp (by omega)
  have v : vp_in (nI L.length) 60 := vp_in_nI hl (by decide)
  unfold S160_0 F160_0
  rw [h.1, c, nI_1]
  refine ⟨⟨v, v, trivial⟩, ⟨fun c j x y z => by rw [w_get, if_neg z, w_ne y, w_ne x], rfl⟩, ?_, ?_⟩
  · rw [w_eq, List.length_append]; rfl
  · rw [lst_app]
    refine ⟨lst_fr L 0 (fun j _ hj => ?_) h.2, ?_, ?_, trivial⟩
    · rw [w_ne (by decide), w_ne (by decide), w_nk (by omega), w_ne (by decide), w_nk (by omega)]; exact ⟨rfl, rfl⟩
    · rw [Nat.zero_add, w_ne (by decide), w_ne (by decide), w_eq]
    · rw [Nat.zero_add, w_ne (by decide), w_eq]
/-- where a picture is read from: an expression's (of = 1) or a variable's -/
def srcI (f : Bool) (i : Nat) : Int32 := if f = true then nI i else -1 - nI i
def srcA (f : Bool) : Nat := if f = true then 671 else 669
def srcB (f : Bool) : Nat := if f = true then 672 else 670
theorem nI_m1m {i : Nat} : -1 - (-1 - nI i) = nI i := by
  have h : ∀ a b : Int32, a - (a - b) = b := fun a b => by
    apply Int32.toBitVec_inj.mp
    rw [Int32.toBitVec_sub, Int32.toBitVec_sub]
    bv_omega
  exact h _ _
theorem num_step {n : Int} {N : Rn} {T a b : Int32} {L : List (Nat × Int)} (hr : n ∈ rp) (hN : okR N) (hT : T &&& 1 = 0 ↔ isE N = true) (hb : isE N = false → a = mL N.1 ∧ b = mH N.2) (hL : lefts Q L) (hl : L.length < 60) : ∃ Q1, frL Q Q1 ∧ lefts Q1 (L ++ (if N.1 ≤ n ∧ n ≤ N.2 then [(1, n)] else [])) ∧ (∀ G : aQ → (Int32 × aQ) ⊕ aQ, (if T &&& 1 = 0 then G Q else if F159_0 (iI n) a b Q = 0 then G Q else G (F160_0 1 (iI n) Q)) = G Q1) ∧ (∀ H : aQ → Prop, H Q1 → (T &&& 1 = 0 → H Q) ∧ (¬ T &&& 1 = 0 → S159_0 (iI n) a b Q ∧ ((F159_0 (iI n) a b Q = 0 → H Q) ∧ (¬ F159_0 (iI n) a b Q = 0 → S160_0 1 (iI n) Q ∧ H (F160_0 1 (iI n) Q))))) := by
  cases he : isE N with
  | true =>
    have ni : ¬ (N.1 ≤ n ∧ n ≤ N.2) := fun z => no_in he z
    rw [if_neg ni, List.append_nil]
    exact ⟨Q, frL.rf, hL, fun G => if_pos (hT.mpr he), fun H h => ⟨fun _ => h, fun z => absurd (hT.mpr he) z⟩⟩
  | false =>
    have nt : ¬ T &&& 1 = 0 := fun z => by rw [hT.mp z] at he; cases he
    obtain ⟨b1, b2⟩ := hb he
    obtain ⟨g1, g2⟩ := F159_eq (q := Q) hr hN he
    rw [← b1, ← b2] at g1 g2
    by_cases hi : N.1 ≤ n ∧ n ≤ N.2
    · have h1 : hol N n = true := hol_t.mpr hi
      rw [h1] at g1
      have g0 : ¬ F159_0 (iI n) a b Q = 0 := by rw [g1]; decide
      obtain ⟨k1, k2, k3⟩ := F160_eq (t := 1) (n := n) hL hl
      rw [if_pos hi]
      exact ⟨F160_0 1 (iI n) Q, k2, k3, fun G => by rw [if_neg nt, if_neg g0], fun H h => ⟨fun z => absurd z nt, fun _ => ⟨g2, fun z => absurd z g0, fun _ => ⟨k1, h⟩⟩⟩⟩
    · have h1 : hol N n = false := by rw [← Bool.not_eq_true, hol_t]; exact hi
      rw [h1] at g1
      have g0 : F159_0 (iI n) a b Q = 0 := g1
      rw [if_neg hi, List.append_nil]
      exact ⟨Q, frL.rf, hL, fun G => by rw [if_neg nt, if_pos g0], fun H h => ⟨fun z => absurd z nt, fun _ => ⟨g2, fun _ => h, fun z => absurd g0 z⟩⟩⟩
theorem txt_step {n : Int} {N : Rn} {T a b : Int32} {L : List (Nat × Int)} (hr : n ∈ rp) (hN : okR N) (hT : T &&& 2 = 0 ↔ isE N = true) (hb : isE N = false → a = mL N.1 ∧ b = mH N.2) (hL : lefts Q L) (hl : L.length < 60) : ∃ Q1, frL Q Q1 ∧ lefts Q1 (L ++ (if 0 ≤ n ∧ N.1 ≤ n ∧ n ≤ N.2 then [(2, n)] else [])) ∧ (∀ G : aQ → (Int32 × aQ) ⊕ aQ, (if T &&& 2 = 0 then G Q else if iI n < 0 then G Q else if F159_0 (iI n) a b Q = 0 then G Q else G (F160_0 2 (iI n) Q)) = G Q1) ∧ (∀ H : aQ → Prop, H Q1 → (T &&& 2 = 0 → H Q) ∧ (¬ T &&& 2 = 0 → (iI n < 0 → H Q) ∧ (¬ iI n < 0 → S159_0 (iI n) a b Q ∧ ((F159_0 (iI n) a b Q = 0 → H Q) ∧ (¬ F159_0 (iI n) a b Q = 0 → S160_0 2 (iI n) Q ∧ H (F160_0 2 (iI n) Q)))))) := by
  have hn' := mem_rp.mp hr
  have neg : iI n < 0 ↔ n < 0 := by rw [i0_, iI_lt (by unfold bd; omega) b0]
  cases he : isE N with
  | true =>
    have ni : ¬ (0 ≤ n ∧ N.1 ≤ n ∧ n ≤ N.2) := fun z => no_in he z.2
    rw [if_neg ni, List.append_nil]
    exact ⟨Q, frL.rf, hL, fun G => if_pos (hT.mpr he), fun H h => ⟨fun _ => h, fun z => absurd (hT.mpr he) z⟩⟩
  | false =>
    have nt : ¬ T &&& 2 = 0 := fun z => by rw [hT.mp z] at he; cases he
    by_cases n0 : n < 0
    · have ni : ¬ (0 ≤ n ∧ N.1 ≤ n ∧ n ≤ N.2) := fun z => by omega
      rw [if_neg ni, List.append_nil]
      exact ⟨Q, frL.rf, hL, fun G => by rw [if_neg nt, if_pos (neg.mpr n0)], fun H h => ⟨fun _ => h, fun _ => ⟨fun _ => h, fun z => absurd (neg.mpr n0) z⟩⟩⟩
    · have nn : ¬ iI n < 0 := fun z => n0 (neg.mp z)
      obtain ⟨b1, b2⟩ := hb he
      obtain ⟨g1, g2⟩ := F159_eq (q := Q) hr hN he
      rw [← b1, ← b2] at g1 g2
      by_cases hi : N.1 ≤ n ∧ n ≤ N.2
      · have h1 : hol N n = true := hol_t.mpr hi
        rw [h1] at g1
        have g0 : ¬ F159_0 (iI n) a b Q = 0 := by rw [g1]; decide
        obtain ⟨k1, k2, k3⟩ := F160_eq (t := 2) (n := n) hL hl
        rw [if_pos ⟨by omega, hi⟩]
        exact ⟨F160_0 2 (iI n) Q, k2, k3, fun G => by rw [if_neg nt, if_neg nn, if_neg g0], fun H h => ⟨fun z => absurd z nt, fun _ => ⟨fun z => absurd z nn, fun _ => ⟨g2, fun z => absurd z g0, fun _ => ⟨k1, h⟩⟩⟩⟩⟩
      · have h1 : hol N n = false := by rw [← Bool.not_eq_true, hol_t]; exact hi
        rw [h1] at g1
        have g0 : F159_0 (iI n) a b Q = 0 := g1
        rw [if_neg (fun z => hi z.2), List.append_nil]
        exact ⟨Q, frL.rf, hL, fun G => by rw [if_neg nt, if_neg nn, if_pos g0], fun H h => ⟨fun z => absurd z nt, fun _ => ⟨fun z => absurd z nn, fun _ => ⟨g2, fun _ => h, fun z => absurd g0 z⟩⟩⟩⟩
theorem F161_step {f : Bool} {i k : Nat} {L : List (Nat × Int)} (hi : i < (if f = true then 60 else 5)) (hk : k < 37) (hP : okP P) (hm : mpAt Q (srcA f) (srcB f) i P) (hL : lefts Q L) (hlen : L.length + 2 < 60) : S161_44 (srcI f i) (bI f) (-1 - srcI f i) (nI (tyN P)) (iI ((k : Int) - 18)) Q ∧ ∃ Q', F161_44 (srcI f i) (bI f) (-1 - srcI f i) (nI (tyN P)) (iI ((k : Int) - 18)) Q = .inl (iI (((k + 1 : Nat) : Int) - 18), Q') ∧ frL Q Q' ∧ lefts Q' (L ++ valA P (rpn k)) := by
  obtain ⟨⟨t1, t2⟩, -, -⟩ := tyN_b P
  have bk : bd ((k : Int) - 18) := by unfold bd; omega
  have e18 : ¬ (18 : Int32) < iI ((k : Int) - 18) := by
    rw [show (18 : Int32) = iI 18 from rfl, iI_lt (by unfold bd; omega) bk]; omega
  have nx : iI ((k : Int) - 18) + 1 = iI (((k + 1 : Nat) : Int) - 18) := by
    rw [i1_, iI_add]; congr 1; omega
  have hr : rpn k ∈ rp := by
    rw [mem_rp]; unfold rpn; split
    · omega
    · split <;> omega
  have cj : ∀ j, j < 4 → (4 * nI i + nI j).toNatClampNeg = 4 * i + j ∧ vp_in (4 * nI i + nI j) (if f = true then 240 else 20) := by
    intro j hj
    rw [show (4 : Int32) = nI 4 from rfl, pk_mul, nI_add]
    cases f
    · simp at hi ⊢; exact ⟨nI_clamp (by omega), vp_in_nI (by omega) (by decide)⟩
    · simp at hi ⊢; exact ⟨nI_clamp (by omega), vp_in_nI (by omega) (by decide)⟩
  have c0 : (4 * nI i).toNatClampNeg = 4 * i + 0 ∧ vp_in (4 * nI i) (if f = true then 240 else 20) := by
    have := cj 0 (by decide)
    rw [show (nI 0 : Int32) = 0 from rfl, Int32.add_zero] at this
    exact this
  have c1 := cj 1 (by decide)
  have c2 := cj 2 (by decide)
  have c3 := cj 3 (by decide)
  obtain ⟨m1, m2, m3⟩ := hm
  obtain ⟨Q1, a1, a2, a3, a4⟩ := num_step (Q := Q) (T := nI (tyN P)) hr hP.1 t1 m2 hL (by omega)
  have rb : ∀ x, Q1.1 (srcB f) x = Q.1 (srcB f) x := fun x => a1.1 (srcB f) x (by unfold srcB; split <;> decide) (by unfold srcB; split <;> decide) (by unfold srcB; split <;> omega)
  have l1 : (L ++ (if P.1.1 ≤ rpn k ∧ rpn k ≤ P.1.2 then [(1, rpn k)] else [])).length < 60 := by
    rw [List.length_append]; split <;> simp <;> omega
  obtain ⟨Q2, b1, b2, b3, b4⟩ := txt_step (Q := Q1) (T := nI (tyN P)) (a := Q.1 (srcB f) (4 * i + 2)) (b := Q.1 (srcB f) (4 * i + 3)) hr hP.2.R t2 m3 a2 l1
  rw [List.append_assoc] at b2
  -- the body, once the number is known
  have body : F161_79 (srcI f i) (bI f) (-1 - srcI f i) (nI (tyN P)) (iI ((k : Int) - 18)) (iI (rpn k)) Q = .inl (iI (((k + 1 : Nat) : Int) - 18), Q2) ∧ S161_79 (srcI f i) (bI f) (-1 - srcI f i) (nI (tyN P)) (iI ((k : Int) - 18)) (iI (rpn k)) Q := by
    cases f with
    | true =>
      have n0 : ¬ bI true = 0 := by decide
      have rb1 := rb (4 * i + 2)
      have rb2 := rb (4 * i + 3)
      unfold srcB at rb1 rb2 a3 a4 b3 b4
      rw [if_pos rfl] at rb1 rb2 a3 a4 b3 b4
      have G1 := a3 (fun X => F161_161 (srcI true i) (bI true) (-1 - srcI true i) (nI (tyN P)) (iI ((k : Int) - 18)) (iI (rpn k)) X)
      have G2 := b3 (fun X => F161_250 (srcI true i) (bI true) (-1 - srcI true i) (nI (tyN P)) (iI ((k : Int) - 18)) X)
      have H2 := b4 (fun X => S161_250 (srcI true i) (bI true) (-1 - srcI true i) (nI (tyN P)) (iI ((k : Int) - 18)) X) trivial
      have sI : srcI true i = nI i := if_pos rfl
      have d2 : (4 * srcI true i + 2).toNatClampNeg = 4 * i + 2 ∧ vp_in (4 * srcI true i + 2) 240 := by rw [sI]; exact c2
      have d3 : (4 * srcI true i + 3).toNatClampNeg = 4 * i + 3 ∧ vp_in (4 * srcI true i + 3) 240 := by rw [sI]; exact c3
      have d1 : (4 * srcI true i + 1).toNatClampNeg = 4 * i + 1 ∧ vp_in (4 * srcI true i + 1) 240 := by rw [sI]; exact c1
      have d0 : (4 * srcI true i).toNatClampNeg = 4 * i + 0 ∧ vp_in (4 * srcI true i) 240 := by rw [sI]; exact c0
      clear sI
      generalize srcI true i = v1 at *
      have E2 : F161_161 v1 (bI true) (-1 - v1) (nI (tyN P)) (iI ((k : Int) - 18)) (iI (rpn k)) Q1 = .inl (iI (((k + 1 : Nat) : Int) - 18), Q2) ∧ S161_161 v1 (bI true) (-1 - v1) (nI (tyN P)) (iI ((k : Int) - 18)) (iI (rpn k)) Q1 := by
        unfold F161_161 F161_188 F161_217 S161_161 S161_188 S161_217
        rw [if_neg n0, if_neg n0, d2.1, d3.1, rb1, rb2]
        refine ⟨G2.trans ?_, fun z => absurd z n0, fun _ => ⟨d2.2, fun z => absurd z n0, fun _ => ⟨d3.2, H2⟩⟩⟩
        unfold F161_250
        rw [nx]
      have H1 := a4 (fun X => S161_161 v1 (bI true) (-1 - v1) (nI (tyN P)) (iI ((k : Int) - 18)) (iI (rpn k)) X) E2.2
      unfold F161_79 F161_104 F161_133 S161_79 S161_104 S161_133
      rw [if_neg n0, if_neg n0, d0.1, d1.1]
      exact ⟨G1.trans E2.1, fun z => absurd z n0, fun _ => ⟨d0.2, fun z => absurd z n0, fun _ => ⟨d1.2, H1⟩⟩⟩
    | false =>
      have n0 : bI false = 0 := rfl
      have rb1 := rb (4 * i + 2)
      have rb2 := rb (4 * i + 3)
      unfold srcB at rb1 rb2 a3 a4 b3 b4
      rw [if_neg (by decide)] at rb1 rb2 a3 a4 b3 b4
      have G1 := a3 (fun X => F161_161 (srcI false i) (bI false) (-1 - srcI false i) (nI (tyN P)) (iI ((k : Int) - 18)) (iI (rpn k)) X)
      have G2 := b3 (fun X => F161_250 (srcI false i) (bI false) (-1 - srcI false i) (nI (tyN P)) (iI ((k : Int) - 18)) X)
      have H2 := b4 (fun X => S161_250 (srcI false i) (bI false) (-1 - srcI false i) (nI (tyN P)) (iI ((k : Int) - 18)) X) trivial
      have sI : -1 - srcI false i = nI i := by
        rw [show srcI false i = -1 - nI i from if_neg (by decide)]
        exact nI_m1m
      have d2 : (4 * (-1 - srcI false i) + 2).toNatClampNeg = 4 * i + 2 ∧ vp_in (4 * (-1 - srcI false i) + 2) 20 := by rw [sI]; exact c2
      have d3 : (4 * (-1 - srcI false i) + 3).toNatClampNeg = 4 * i + 3 ∧ vp_in (4 * (-1 - srcI false i) + 3) 20 := by rw [sI]; exact c3
      have d1 : (4 * (-1 - srcI false i) + 1).toNatClampNeg = 4 * i + 1 ∧ vp_in (4 * (-1 - srcI false i) + 1) 20 := by rw [sI]; exact c1
      have d0 : (4 * (-1 - srcI false i)).toNatClampNeg = 4 * i + 0 ∧ vp_in (4 * (-1 - srcI false i)) 20 := by rw [sI]; exact c0
      clear sI
      generalize -1 - srcI false i = v3 at *
      generalize srcI false i = v1 at *
      have E2 : F161_161 v1 (bI false) v3 (nI (tyN P)) (iI ((k : Int) - 18)) (iI (rpn k)) Q1 = .inl (iI (((k + 1 : Nat) : Int) - 18), Q2) ∧ S161_161 v1 (bI false) v3 (nI (tyN P)) (iI ((k : Int) - 18)) (iI (rpn k)) Q1 := by
        unfold F161_161 F161_188 F161_217 S161_161 S161_188 S161_217
        rw [if_pos n0, if_pos n0, d2.1, d3.1, rb1, rb2]
        refine ⟨G2.trans ?_, fun _ => ⟨d2.2, fun _ => ⟨d3.2, H2⟩, fun z => absurd n0 z⟩, fun z => absurd n0 z⟩
        unfold F161_250
        rw [nx]
      have H1 := a4 (fun X => S161_161 v1 (bI false) v3 (nI (tyN P)) (iI ((k : Int) - 18)) (iI (rpn k)) X) E2.2
      unfold F161_79 F161_104 F161_133 S161_79 S161_104 S161_133
      rw [if_pos n0, if_pos n0, d0.1, d1.1]
      exact ⟨G1.trans E2.1, fun _ => ⟨d0.2, fun _ => ⟨d1.2, H1⟩, fun z => absurd n0 z⟩, fun z => absurd n0 z⟩
  -- which number it is
  have q1 : iI ((k : Int) - 18) = -18 ↔ k = 0 := by
    rw [show (-18 : Int32) = iI (-18) from rfl, iI_eq bk (by unfold bd; omega)]; omega
  have q2 : iI ((k : Int) - 18) = 18 ↔ k = 36 := by
    rw [show (18 : Int32) = iI 18 from rfl, iI_eq bk (by unfold bd; omega)]; omega
  unfold F161_44 S161_44
  rw [if_neg e18]
  by_cases k0 : k = 0
  · have e : rpn k = -289 := by unfold rpn; rw [if_pos k0]
    rw [e] at body
    rw [if_pos (q1.mpr k0)]
    exact ⟨⟨fun z => absurd z e18, fun _ => ⟨fun _ => body.2, fun z => absurd (q1.mpr k0) z⟩⟩, Q2, body.1, a1.tr b1, b2⟩
  · rw [if_neg (fun z => k0 (q1.mp z))]
    by_cases k1 : k = 36
    · have e : rpn k = 289 := by unfold rpn; rw [if_neg k0, if_pos k1]
      rw [e] at body
      rw [if_pos (q2.mpr k1)]
      exact ⟨⟨fun z => absurd z e18, fun _ => ⟨fun z => absurd (q1.mp z) k0, fun _ => ⟨fun _ => body.2, fun z => absurd (q2.mpr k1) z⟩⟩⟩, Q2, body.1, a1.tr b1, b2⟩
    · have e : rpn k = (k : Int) - 18 := by unfold rpn; rw [if_neg k0, if_neg k1]
      rw [if_neg (fun z => k1 (q2.mp z))]
      have body' := body
      rw [e] at body'
      exact ⟨⟨fun z => absurd z e18, fun _ => ⟨fun z => absurd (q1.mp z) k0, fun _ => ⟨fun z => absurd (q2.mp z) k1, fun _ => body'.2⟩⟩⟩, Q2, body'.1, a1.tr b1, b2⟩
end
