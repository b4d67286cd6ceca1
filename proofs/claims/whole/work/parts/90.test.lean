/-- what a semantics keeps -/
def SysOK (P : PSem) : Prop :=
  (∀ (i ix : Nat) (q : List Ent × Nat × Nat) (stops : List Nat) (f : Nat) (pl : PL) (st : List Value) (h : PH) (ca sl : Nat) (K : PK), progs[i]? = some q → wp P i q.2.1 q.2.2 q.1 stops K f (q.1.drop ix) pl st h ca sl → P.2 i ix pl st h ca sl K)
theorem tst1 {P : PSem} (S : SysOK P) (h : PH) (p : Int32) (K : PK) (hk : P.2 n_M_degree 5 [some (.int p), some (.int 1)] [] h 0 0 K) : P.2 n_M_degree 0 [some (.int p), none] [] h 0 0 K := by
  refine S _ _ _ [] 100 _ _ _ _ _ _ rfl ?_
  conv => whnf
  trace_state
  sorry
