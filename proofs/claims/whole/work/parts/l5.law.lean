/-! THE LAW: its loop -/
theorem sub6 : ∀ L, L < 6 → nI L - 6 < 0 := by decide
set_option maxRecDepth 20000 in
theorem l_law {P : PSem} (S : SysOK P) {Ls : Nat} {xs : Nat → Int32} (hLs : Ls ≤ 3072) {K : PK} (hK : ∀ h, K (.int 1) h) : ∀ d k h ca sl, k + d = 513 → INV h Ls xs → ca ≤ 144 + 2 * k → sl ≤ 24107 + 8192 * k → P.2 n_Law_law 10 [some (.ref 1), some (.ref 5), some (.ref 116), some (.int (nI (6 * k)))] [] h ca sl K := by
  intro d
  induction d with
  | zero =>
    intro k h ca sl hd inv c1 c2
    obtain ⟨u, tx, L, l0, f0, s0, m0, s, s', H, g, ttx, tL, I⟩ := inv
    have ht := I.t1
    have hn := I.n1
    refine S.at 60 [901] rfl ?_
    conv => whnf
    refine ⟨⟨by rw [ht]; decide, by rw [ht]; decide⟩, ?_⟩
    conv => whnf
    rw [hn]
    refine bk_t ?_ ?_
    · show nI Ls - 6 < nI (6 * k)
      rcases Nat.lt_or_ge Ls 6 with w | w
      · exact Int32.lt_of_lt_of_le (sub6 Ls w) ((zn_le (a := 0) (by decide) (by omega)).mpr (Nat.zero_le _))
      · rw [show nI Ls - 6 = nI (Ls - 6) from zn_mns (b := 6) w, zn_lt (by omega) (by omega)]
        omega
    · conv => whnf
      refine bifT (and2 (a := ca) (b := 600000) (c := sl) (d := 7302250) (by omega) (by omega)) ?_
      conv => whnf
      exact ⟨Or.inr rfl, hK h⟩
  | succ d ih =>
    intro k h ca sl hd inv c1 c2
    obtain ⟨u, tx, L, l0, f0, s0, m0, s, s', H, g, ttx, tL, I⟩ := inv
    have ht := I.t1
    have hn := I.n1
    rcases Nat.lt_or_ge Ls (6 * k + 6) with w | w
    · refine S.at 60 [901] rfl ?_
      conv => whnf
      refine ⟨⟨by rw [ht]; decide, by rw [ht]; decide⟩, ?_⟩
      conv => whnf
      rw [hn]
      refine bk_t ?_ ?_
      · show nI Ls - 6 < nI (6 * k)
        rcases Nat.lt_or_ge Ls 6 with v | v
        · exact Int32.lt_of_lt_of_le (sub6 Ls v) ((zn_le (a := 0) (by decide) (by omega)).mpr (Nat.zero_le _))
        · rw [show nI Ls - 6 = nI (Ls - 6) from zn_mns (b := 6) v, zn_lt (by omega) (by omega)]
          omega
      · conv => whnf
        refine bifT (and2 (a := ca) (b := 600000) (c := sl) (d := 7302250) (by omega) (by omega)) ?_
        conv => whnf
        exact ⟨Or.inr rfl, hK h⟩
    · have nx : ∀ h' c' s', INV h' Ls xs → c' ≤ ca + 2 → s' ≤ sl + 8192 → P.2 n_Law_law 901 [some (.ref 1), some (.ref 5), some (.ref 116), some (.int (nI (6 * k)))] [] h' c' s' K := by
        intro h' c' s' inv' b1 b2
        have next := ih (k + 1) h' c' s' (by omega) inv' (by omega) (by omega)
        rw [show 6 * (k + 1) = 6 * k + 6 by omega, zn_plus] at next
        refine S.at 10 [10] rfl ?_
        conv => whnf
        exact next
      have hca : ca ≤ 2000 := by omega
      have hsl : sl ≤ 5000000 := by omega
      refine S.at 60 [22,79,96,103,110,137,144,161,178,195,212,259,296,333,370,407,462,509,556,593,620,637,674,702,749,776,823,850,867,884,901] rfl ?_
      conv => whnf
      refine ⟨⟨by rw [ht]; decide, by rw [ht]; decide⟩, ?_⟩
      conv => whnf
      rw [hn]
      refine bk_f ?_ ?_
      · show ¬ nI Ls - 6 < nI (6 * k)
        rw [show nI Ls - 6 = nI (Ls - 6) from zn_mns (b := 6) (by omega), zn_lt (by omega) (by omega)]
        omega
      conv => whnf
      refine ⟨inB_of ht hn (show 6 * k < Ls by omega) (by omega), ?_⟩
      conv => whnf
      refine ⟨fun e => ?_, fun _ => ?_⟩
      · conv => whnf
        exact law_feed S I w hLs hca hsl nx
      refine ⟨fun e => ?_, fun _ => ?_⟩
      · conv => whnf
        exact law_back S I w hLs hca hsl nx
      refine ⟨fun e => ?_, fun _ => ?_⟩
      · conv => whnf
        exact law_read S I w hLs hca hsl nx
      refine ⟨fun e => ?_, fun _ => ?_⟩
      · conv => whnf
        exact law_place S I w hLs hca hsl nx
      refine ⟨fun e => ?_, fun _ => ?_⟩
      · conv => whnf
        exact law_change S I w hLs hca hsl nx
      refine ⟨fun e => ?_, fun _ => ?_⟩
      · conv => whnf
        exact law_undo S I w hLs hca hsl nx
      refine ⟨fun e => ?_, fun _ => ?_⟩
      · conv => whnf
        exact law_modulus S I w hLs hca hsl nx
      refine ⟨fun e => ?_, fun _ => ?_⟩
      · conv => whnf
        exact law_whole S I w hLs hca hsl nx
      refine ⟨fun e => ?_, fun _ => ?_⟩
      · conv => whnf
        exact law_next S I w hLs hca hsl nx
      refine ⟨fun e => ?_, fun _ => ?_⟩
      · conv => whnf
        exact law_wholes S I w hLs hca hsl nx
      refine ⟨fun e => ?_, fun _ => ?_⟩
      · conv => whnf
        exact law_both S I w hLs hca hsl nx
      refine ⟨fun e => ?_, fun _ => ?_⟩
      · conv => whnf
        exact law_power S I w hLs hca hsl nx
      refine ⟨fun e => ?_, fun _ => ?_⟩
      · conv => whnf
        exact law_element S I w hLs hca hsl nx
      refine ⟨fun e => ?_, fun _ => ?_⟩
      · conv => whnf
        exact law_raise S I w hLs hca hsl nx
      refine ⟨fun e => ?_, fun _ => ?_⟩
      · conv => whnf
        exact law_lower S I w hLs hca hsl nx
      refine ⟨fun e => ?_, fun _ => ?_⟩
      · conv => whnf
        exact law_down S I w hLs hca hsl nx
      refine ⟨fun e => ?_, fun _ => ?_⟩
      · conv => whnf
        exact law_least S I w hLs hca hsl nx
      refine ⟨fun e => ?_, fun _ => ?_⟩
      · conv => whnf
        exact law_solve S I w hLs hca hsl nx
      refine ⟨fun e => ?_, fun _ => ?_⟩
      · conv => whnf
        exact law_value S I w hLs hca hsl nx
      refine ⟨fun e => ?_, fun _ => ?_⟩
      · conv => whnf
        exact law_factor S I w hLs hca hsl nx
      refine ⟨fun e => ?_, fun _ => ?_⟩
      · conv => whnf
        exact law_period S I w hLs hca hsl nx
      refine ⟨fun e => ?_, fun _ => ?_⟩
      · conv => whnf
        exact law_coset S I w hLs hca hsl nx
      refine ⟨fun e => ?_, fun _ => ?_⟩
      · conv => whnf
        exact law_code S I w hLs hca hsl nx
      refine ⟨fun e => ?_, fun _ => ?_⟩
      · conv => whnf
        exact law_roots S I w hLs hca hsl nx
      refine ⟨fun e => ?_, fun _ => ?_⟩
      · conv => whnf
        exact law_field S I w hLs hca hsl nx
      refine ⟨fun e => ?_, fun _ => ?_⟩
      · conv => whnf
        exact law_written S I w hLs hca hsl nx
      refine ⟨fun e => ?_, fun _ => ?_⟩
      · conv => whnf
        exact law_let S I w hLs hca hsl nx
      refine ⟨fun e => ?_, fun _ => ?_⟩
      · conv => whnf
        exact law_hold S I w hLs hca hsl nx
      refine ⟨fun e => ?_, fun _ => ?_⟩
      · conv => whnf
        exact law_restore S I w hLs hca hsl nx
      refine ⟨fun e => ?_, fun _ => ?_⟩
      · conv => whnf
        exact law_count S I w hLs hca hsl nx
      conv => whnf
      exact nx h ca sl I.inv (by omega) (by omega)
theorem Q5_0 (Ls : Nat) (xs : Nat → Int32) : Q5 (hNew (h00 Ls xs) 9 12) 6 := ⟨rfl, rfl, rfl, rfl⟩
set_option maxRecDepth 20000 in
theorem law_all {P : PSem} (S : SysOK P) {Ls : Nat} {xs : Nat → Int32} (hLs : Ls ≤ 3072) {K : PK} (hK : ∀ h, K (.int 1) h) : P.2 n_Law_law 0 [some (.ref 1), none, none, none] [] (h00 Ls xs) 0 0 K := by
  have q5 := Q5_0 Ls xs
  have qf := q_FT q5
  have o := O1_M Ls xs
  have wsm := ws_M Ls xs o.2.1
  have z : hI (hM0 Ls xs) 124 = fun _ => 0 := ((AG_all Ls xs).2.1 124 (by decide)).2.trans cl_124
  have key : ∀ K : PK, (∀ h', eqY NA (hM0 Ls xs) h' → MJ h' lm → MKY h' → K .null h') → P.1 n_M_init [.ref 116] (hNew (hF0 Ls xs) 10 50) K := by
    intro K hk
    have e : hE (hF0 Ls xs) = 116 := qf.2.1
    have q6 : Q6 (hNew (hF0 Ls xs) 10 50) 117 := by
      refine ⟨?_, ?_⟩
      · have : hT (hNew (hF0 Ls xs) 10 50) (hE (hF0 Ls xs)) = 10 := congrArg (fun x => x.1) h1_new0
        rw [e] at this
        exact this
      · show hE (hF0 Ls xs) + 1 = 117
        rw [e]
    exact c_M_init S q6 wsm z hk
  have eF : hE (hF0 Ls xs) = 116 := qf.2.1
  have kF : ∀ K : PK, K .null (hF0 Ls xs) → P.1 n_FT_init [.ref 5] (hNew (h00 Ls xs) 9 12) K := fun K hk => c_FT_init S q5 hk
  revert key kF eF
  generalize hF0 Ls xs = hF
  intro key eF kF
  refine S.at 40 [10] rfl ?_
  conv => whnf
  refine ⟨(by decide : 1 ≤ 5), ?_⟩
  refine kF _ ?_
  conv => whnf
  rw [eF]
  refine ⟨by decide, ?_⟩
  refine key _ ?_
  intro h' e m ky
  conv => whnf
  exact l_law S hLs hK 513 0 h' _ _ rfl (inv0 e m ky) (by decide) (by decide)
