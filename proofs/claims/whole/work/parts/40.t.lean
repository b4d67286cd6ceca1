theorem c_M_has {P : PSem} (S : SysOK P) {s j : Nat} (hs : s < 2 ^ 31) (hj : j < 32) {h : PH} {K : PK} (hk : K (.int (bI (s.testBit j))) h) : P.1 n_M_has [.int (nI s), .int (nI j)] h K := by
  refine S.go 40 rfl rfl rfl ?_
  conv => whnf
  refine ⟨fun c => ?_, fun c => ?_⟩
  · conv => whnf
    trace_state
    sorry
  · conv => whnf
    trace_state
    sorry
/-- the degree's loop -/
theorem l_M_degree {P : PSem} (S : SysOK P) {p i : Nat} (hp : p < 2 ^ 31) (h1 : 2 ^ i ≤ p) (h2 : p < 2 ^ (i + 1)) {h : PH} {K : PK} (hk : K (.int (nI i)) h) : ∀ j d, d + j = i → P.2 n_M_degree 2 [some (.int (nI p)), some (.int (nI d))] [] h 0 0 K := by
  intro j
  induction j with
  | zero =>
    intro d hd
    refine S.at 40 [] rfl ?_
    conv => whnf
    trace_state
    sorry
  | succ j ih =>
    intro d hd
    refine S.at 40 [] rfl ?_
    conv => whnf
    refine ⟨fun c => ?_, fun c => ?_⟩
    · sorry
    · conv => whnf
      trace_state
      sorry
