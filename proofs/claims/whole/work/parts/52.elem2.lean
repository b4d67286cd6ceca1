theorem le_pred {k : Nat} (hk : k ≤ 12) (v : Int32) : decide (0 ≤ v ∧ v ≤ nI (2 ^ k - 1)) = decide ((0 : Int32) ≤ v ∧ v < nI (2 ^ k)) := by
  have hk12 : (2 : Nat) ^ k ≤ 4096 := pow_le hk
  have h0 := Nat.two_pow_pos k
  have key : (0 ≤ v ∧ v ≤ nI (2 ^ k - 1)) ↔ ((0 : Int32) ≤ v ∧ v < nI (2 ^ k)) := by
    rcases pk_ix v (n := 4097) (by decide) with w | w | ⟨j, hj, w⟩
    · exact ⟨fun q => absurd w (Int32.not_lt.mpr q.1), fun q => absurd w (Int32.not_lt.mpr q.1)⟩
    · refine ⟨fun q => ?_, fun q => ?_⟩
      · exact absurd ((zn_le (by decide) (by omega)).mp (Int32.le_trans w q.2)) (by omega)
      · exact absurd ((zn_lt (by decide) (by omega)).mp (Int32.lt_of_le_of_lt w q.2)) (by omega)
    · subst w
      refine ⟨fun q => ⟨q.1, ?_⟩, fun q => ⟨q.1, ?_⟩⟩
      · have := (zn_le (by omega) (by omega)).mp q.2
        exact (zn_lt (by omega) (by omega)).mpr (by omega)
      · have := (zn_lt (by omega) (by omega)).mp q.2
        exact (zn_le (by omega) (by omega)).mpr (by omega)
  exact decide_eq_decide.mpr key
theorem c_M_isOf {P : PSem} (S : SysOK P) (n v : Int32) {h : PH} {K : PK} (hK : K (.int (bI (okE n v))) h) : P.1 n_M_isOf [.int n, .int v] h K := by
  unfold okE at hK
  refine S.go 40 rfl rfl rfl ?_
  conv => whnf
  refine c_M_isField S n ?_
  conv => whnf
  refine bk_b0 (fun e => ?_) (fun e => ?_)
  · conv => whnf
    rw [e] at hK
    exact ⟨Or.inl rfl, hK⟩
  · rw [e, Bool.true_and] at hK
    obtain ⟨k, hk1, hk2, rfl⟩ := okF_nat e
    rw [nI_clamp (by omega), ← le_pred hk2] at hK
    have e1 : i_shl 1 (nI k) - 1 = nI (2 ^ k - 1) := by
      rw [shl_one hk2]
      exact pk_sub (b := 1) (Nat.two_pow_pos k)
    rw [← e1] at hK
    conv => whnf
    refine c_M_in S _ _ _ ?_
    conv => whnf
    refine bk_b0 (fun e => ?_) (fun e => ?_)
    · have e : decide (0 ≤ v ∧ v ≤ i_shl 1 (nI k) - 1) = false := e
      conv => whnf
      rw [e] at hK
      exact ⟨Or.inl rfl, hK⟩
    · have e : decide (0 ≤ v ∧ v ≤ i_shl 1 (nI k) - 1) = true := e
      conv => whnf
      rw [e] at hK
      exact ⟨Or.inr rfl, hK⟩
