/-! elements: the class's test and the reference's -/
def okE (n v : Int32) : Bool := okF n && decide (0 ≤ v ∧ v < nI (2 ^ n.toNatClampNeg))
theorem okF_nat {n : Int32} (h : okF n = true) : ∃ k : Nat, 1 ≤ k ∧ k ≤ 12 ∧ n = nI k := by
  have h := of_decide_eq_true h
  rcases pk_ix n (n := 13) (by decide) with w | w | ⟨j, hj, w⟩
  · exact absurd (Int32.lt_of_le_of_lt h.1 w) (by decide)
  · exact absurd (Int32.le_trans w h.2) (by decide)
  · subst w
    exact ⟨j, (zn_le (a := 1) (by decide) (by omega)).mp h.1, by omega, rfl⟩
theorem shl_one {n : Nat} (hn : n ≤ 12) : i_shl 1 (nI n) = nI (2 ^ n) := by
  have hn12 : (2 : Nat) ^ n ≤ 4096 := pow_le hn
  have := zn_shl (a := 1) (k := n) (by omega) (by rw [Nat.shiftLeft_eq, Nat.one_mul]; omega)
  rw [Nat.shiftLeft_eq, Nat.one_mul] at this
  exact this
theorem c_FT_isElement {P : PSem} (S : SysOK P) (n v : Int32) {h : PH} {K : PK} (hK : K (.int (bI (okE n v))) h) : P.1 n_FT_isElement [.int n, .int v] h K := by
  unfold okE at hK
  refine S.go 40 rfl rfl rfl ?_
  conv => whnf
  refine c_FT_isField S n ?_
  conv => whnf
  refine bk_b0 (fun e => ?_) (fun e => ?_)
  · conv => whnf
    rw [e] at hK
    exact ⟨Or.inl rfl, hK⟩
  · rw [e, Bool.true_and] at hK
    obtain ⟨k, hk1, hk2, rfl⟩ := okF_nat e
    rw [nI_clamp (by omega)] at hK
    conv => whnf
    refine ⟨fun c => ?_, fun c => ?_⟩
    · conv => whnf
      rw [decide_eq_false (fun q => absurd c (Int32.not_lt.mpr q.1))] at hK
      exact ⟨Or.inl rfl, hK⟩
    · conv => whnf
      have e1 := shl_one hk2
      refine ⟨fun c2 => ?_, fun c2 => ?_⟩
      · have c2 : nI (2 ^ k) ≤ v := e1 ▸ c2
        conv => whnf
        rw [decide_eq_false (fun q => absurd q.2 (Int32.not_lt.mpr c2))] at hK
        exact ⟨Or.inl rfl, hK⟩
      · have c2 : ¬ nI (2 ^ k) ≤ v := e1 ▸ c2
        conv => whnf
        rw [decide_eq_true ⟨Int32.not_lt.mp c, Int32.not_le.mp c2⟩] at hK
        exact ⟨Or.inr rfl, hK⟩
