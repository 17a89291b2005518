/-- the tables before anything is made -/
def a_h0 : aH := ((0, 0), (fun _ => (31, 0)), (fun _ _ => 0), (fun _ _ => 0), (fun _ _ => none))
/-- the law's body, in the small machine: on every script of at most N ints it comes to its end with 1, within the room -/
def a_law (l : Launch) (N : Nat) : Prop := ∀ X : aX, X.1 ≤ N → ∃ (d : Nat) (h' : aH), d ≤ 1000 ∧ h'.1.1 ≤ 693978 ∧ h'.1.2 ≤ 7020315 ∧ AW l X 187 c187 d (some (.int 1)) h' 0 [some (.retAddr 0), none, none, none] [] a_h0
