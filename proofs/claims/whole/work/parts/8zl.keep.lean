/-! what was found is kept while the program is -/
section
variable {q Q : aQ} {nE n m : Nat} {o p : Nat → Nat} {σ τ : Nat → Nat → Pc} {A B : Nat → Bool} {x y : Nat → Pc}
theorem pE_kp (hE : iE q nE) (r : ∀ c j, 2 ≤ c ∧ c ≤ 6 → j < nE → Q.1 c j = q.1 c j) : ∀ f e, e < nE → pE Q x f e = pE q x f e := by
  intro f
  induction f with
  | zero => intro e _; rfl
  | succ f ih =>
    intro e he
    have r2 := r 2 e (by omega) he
    have l1 : lfP Q x e = lfP q x e := by unfold lfP; rw [r 3 e (by omega) he, r 4 e (by omega) he]
    have l2 : opn Q e = opn q e := by unfold opn; rw [r2]
    have l3 : lft Q e = lft q e := by unfold lft; rw [r 5 e (by omega) he]
    have l4 : rgt Q e = rgt q e := by unfold rgt; rw [r 6 e (by omega) he]
    rw [pE_s, pE_s, r2, l1, l2, l3, l4]
    by_cases c : q.1 2 e = -1
    · rw [if_pos c, if_pos c]
    · obtain ⟨w, wa, o1, o2, o3, -⟩ := op_of hE he c
      rw [if_neg c, if_neg c, ih _ (show lft q e < nE by omega)]
      by_cases d : 6 ≤ opn q e
      · rw [if_pos d, if_pos d]
      · rw [if_neg d, if_neg d, ih _ (show rgt q e < nE by have := o3 (by omega); omega)]
theorem nr2_kp (hE : iE q nE) (r : ∀ c j, 2 ≤ c ∧ c ≤ 6 → j < nE → Q.1 c j = q.1 c j) {e : Nat} (he : e < nE) (t : Bool) {z : Nat → Pc} : nr2 Q e t x z = nr2 q e t x z := by
  have r2 := r 2 e (by omega) he
  have l3 : lft Q e = lft q e := by unfold lft; rw [r 5 e (by omega) he]
  have l4 : rgt Q e = rgt q e := by unfold rgt; rw [r 6 e (by omega) he]
  have vk : ∀ k, k < nE → vN Q k = vN q k := fun k hk => by unfold vN; rw [r 2 k (by omega) hk, r 3 k (by omega) hk, r 4 k (by omega) hk]
  have e1 : nv Q e = nv q e := by
    unfold nv
    rw [r2, l3, vk e he]
    by_cases c : q.1 2 e = 4 ∨ q.1 2 e = 5
    · obtain ⟨w, wa, o1, o2, -⟩ := op_of hE he (op45 c).1
      rw [if_pos c, if_pos c, vk _ (show lft q e < nE by omega)]
    · rw [if_neg c, if_neg c]
  have e2 : ∀ p, nrP Q e t p z = nrP q e t p z := by
    intro p
    unfold nrP
    rw [r2, l4]
    by_cases c : q.1 2 e = 4 ∨ q.1 2 e = 5
    · obtain ⟨w, wa, o1, o2, o3, -⟩ := op_of hE he (op45 c).1
      have h : PE Q z (rgt q e) = PE q z (rgt q e) := pE_kp hE r 15 _ (by have := o3 (op45 c).2.1; omega)
      rw [h]
    · rw [if_neg (fun w => c (Or.inl w)), if_neg (fun w => c (Or.inr w)), if_neg (fun w => c (Or.inl w)), if_neg (fun w => c (Or.inr w))]
  unfold nr2
  rw [e1]
  cases nv q e with
  | none => rfl
  | some v => show upS x v _ = upS x v _; rw [e2]
/-- two memories with the same program -/
def same (q Q : aQ) (n : Nat) : Prop := (∀ c j, 9 ≤ c → c ≤ 15 → Q.1 c j = q.1 c j) ∧ ∀ s, s < n → (q.1 9 s = 0 ∨ q.1 9 s = 4 ∨ q.1 9 s = 5) → ∀ x, PE Q x (xe q s) = PE q x (xe q s) ∧ ∀ t, nr2 Q (xe q s) t x x = nr2 q (xe q s) t x x
theorem same_of (hE : iE q nE) (h : iP q nE n m o p) (r : ∀ c j, 2 ≤ c ∧ c ≤ 6 → j < nE → Q.1 c j = q.1 c j) (r2 : ∀ c j, 9 ≤ c → c ≤ 15 → Q.1 c j = q.1 c j) : same q Q n := by
  refine ⟨r2, fun s hs hk x => ?_⟩
  have h60 := hE.1
  obtain ⟨k, k6, kk, d⟩ := (h.2.2.2.2.2.2.1 s hs).2.2.2.2.2.2.1
  have hx : xe q s < nE := by
    obtain ⟨e, a, b, -⟩ := d.2.2.2.2 (by
      rcases hk with z | z | z
      · exact Or.inl (nI_inj (b := 0) (by omega) (by decide) (kk.symm.trans z))
      · exact Or.inr (Or.inl (nI_inj (b := 4) (by omega) (by decide) (kk.symm.trans z)))
      · exact Or.inr (Or.inr (nI_inj (b := 5) (by omega) (by decide) (kk.symm.trans z))))
    unfold xe
    rw [b, nI_clamp (by omega)]
    exact a
  exact ⟨pE_kp hE r 15 _ hx, fun t => nr2_kp hE r hx t⟩
theorem same.hxe (h : same q Q n) (s : Nat) : xe Q s = xe q s := by unfold xe; rw [h.1 11 s (by decide) (by decide)]
theorem same.hvr (h : same q Q n) (s : Nat) : vr Q s = vr q s := by unfold vr; rw [h.1 10 s (by decide) (by decide)]
theorem same.symm (h : same q Q n) : same Q q n := by
  refine ⟨fun c j a b => (h.1 c j a b).symm, fun s hs hk x => ?_⟩
  rw [h.1 9 s (by decide) (by decide)] at hk
  rw [h.hxe]
  exact ⟨(h.2 s hs hk x).1.symm, fun t => ((h.2 s hs hk x).2 t).symm⟩
theorem same.her (h : same q Q n) {s : Nat} (hs : s < n) {k : Nat} (z : er q s x k) : er Q s x k := by
  unfold er at *
  rw [h.1 9 s (by decide) (by decide), h.1 10 s (by decide) (by decide), h.hxe]
  rcases z with z | ⟨z, w⟩
  · exact Or.inl z
  · exact Or.inr ⟨z, by rw [(h.2 s hs z x).1]; exact w⟩
theorem same.hfw (h : same q Q n) {s : Nat} (hs : s < n) {t : Nat} (z : fw q s x t y) : fw Q s x t y := by
  unfold fw at *
  rw [h.1 9 s (by decide) (by decide), h.hxe, h.hvr, bh_fr h.1, bh_fr h.1, en_fr h.1, en_fr h.1]
  rcases z with ⟨k, c, z1, z2, z3, z4, z5, z6⟩ | ⟨z1, z2, z3, z4⟩ | z | z | z | ⟨z1, z2, z3, z4⟩ | ⟨z1, z2, z3, z4⟩
  · exact Or.inl ⟨k, c, z1, z2, h.her hs z3, by rw [ct_fr h.1]; exact z4, by rw [en_fr h.1]; exact z5, z6⟩
  · rw [(h.2 s hs (Or.inl z1) x).1]; exact Or.inr (Or.inl ⟨z1, z2, z3, z4⟩)
  · exact Or.inr (Or.inr (Or.inl z))
  · exact Or.inr (Or.inr (Or.inr (Or.inl z)))
  · exact Or.inr (Or.inr (Or.inr (Or.inr (Or.inl z))))
  · rw [(h.2 s hs (Or.inr z1) x).1, (h.2 s hs (Or.inr z1) x).2]; exact Or.inr (Or.inr (Or.inr (Or.inr (Or.inr (Or.inl ⟨z1, z2, z3, z4⟩)))))
  · rw [(h.2 s hs (Or.inr z1) x).1, (h.2 s hs (Or.inr z1) x).2 false]; exact Or.inr (Or.inr (Or.inr (Or.inr (Or.inr (Or.inr ⟨z1, z2, z3, z4⟩)))))
theorem same.hal (h : same q Q n) {s : Nat} (hs : s < n) {k : Nat} (z : al q s x k) : al Q s x k := ⟨z.1, z.2.1, h.her hs z.2.2.1, by rw [ct_fr h.1]; exact z.2.2.2⟩
theorem same.hclo (h : same q Q n) (z : clo q n σ A) : clo Q n σ A := fun s hs hr => ⟨fun t y w => (z s hs hr).1 t y (h.symm.hfw hs w), fun k w => (z s hs hr).2 k (h.symm.hal hs w)⟩
theorem same.hisLk (h : same q Q n) (z : isLk q n σ A) : isLk Q n σ A := ⟨z.1, h.hclo z.2.1, z.2.2.1, z.2.2.2.1, fun μ B a b c d => z.2.2.2.2 μ B a b c (h.symm.hclo d)⟩
/-- least is least -/
theorem isLk_un (z : isLk q n σ A) (w : isLk q n τ B) : (∀ p v, p < 25 → v < 5 → σ p v = τ p v) ∧ ∀ i, i < 120 → A i = B i := by
  obtain ⟨a1, a2⟩ := z.2.2.2.2 τ B w.1 w.2.2.1 w.2.2.2.1 w.2.1
  obtain ⟨b1, b2⟩ := w.2.2.2.2 σ A z.1 z.2.2.1 z.2.2.2.1 z.2.1
  exact ⟨fun p v hp hv => leP.as (a1 p hp v hv) (b1 p hp v hv), fun i hi => Bool.eq_iff_iff.mpr ⟨a2 i hi, b2 i hi⟩⟩
theorem cnt_eq (h : ∀ i, i < 120 → A i = B i) : ∀ k, k ≤ 120 → cnt A k = cnt B k
  | 0, _ => rfl
  | k + 1, hk => by
    show cnt A k + (if A k = true then 1 else 0) = cnt B k + (if B k = true then 1 else 0)
    rw [cnt_eq h k (by omega), h k (by omega)]
end
