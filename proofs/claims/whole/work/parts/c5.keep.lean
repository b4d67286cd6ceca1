/-! TOKENS: the class keeps them -/
def SCL (s : Nat) : Prop := s = 96 ∨ s = 106
theorem sc_t {h : PH} (hw : WS h) {s : Nat} (hs : SCL s) : hT h s = 8 := by
  rcases hs with rfl | rfl
  · exact wt_96 hw
  · exact wt_106 hw
theorem sc_r1 {h : PH} (hw : WS h) {s : Nat} (hs : SCL s) : hR h s 1 = s + 1 := by
  rcases hs with rfl | rfl
  · exact wr_96_1 hw
  · exact wr_106_1 hw
theorem sc_r2 {h : PH} (hw : WS h) {s : Nat} (hs : SCL s) : hR h s 2 = s + 2 := by
  rcases hs with rfl | rfl
  · exact wr_96_2 hw
  · exact wr_106_2 hw
theorem sc_r3 {h : PH} (hw : WS h) {s : Nat} (hs : SCL s) : hR h s 3 = s + 3 := by
  rcases hs with rfl | rfl
  · exact wr_96_3 hw
  · exact wr_106_3 hw
theorem sc_r4 {h : PH} (hw : WS h) {s : Nat} (hs : SCL s) : hR h s 4 = s + 4 := by
  rcases hs with rfl | rfl
  · exact wr_96_4 hw
  · exact wr_106_4 hw
theorem sc_r5 {h : PH} (hw : WS h) {s : Nat} (hs : SCL s) : hR h s 5 = s + 5 := by
  rcases hs with rfl | rfl
  · exact wr_96_5 hw
  · exact wr_106_5 hw
theorem sc_r7 {h : PH} (hw : WS h) {s : Nat} (hs : SCL s) : hR h s 7 = s + 6 := by
  rcases hs with rfl | rfl
  · exact wr_96_7 hw
  · exact wr_106_7 hw
theorem sc_r8 {h : PH} (hw : WS h) {s : Nat} (hs : SCL s) : hR h s 8 = s + 7 := by
  rcases hs with rfl | rfl
  · exact wr_96_8 hw
  · exact wr_106_8 hw
theorem sc_r9 {h : PH} (hw : WS h) {s : Nat} (hs : SCL s) : hR h s 9 = s + 8 := by
  rcases hs with rfl | rfl
  · exact wr_96_9 hw
  · exact wr_106_9 hw
theorem sc_r10 {h : PH} (hw : WS h) {s : Nat} (hs : SCL s) : hR h s 10 = s + 9 := by
  rcases hs with rfl | rfl
  · exact wr_96_10 hw
  · exact wr_106_10 hw
theorem sc_t1 {h : PH} (hw : WS h) {s : Nat} (hs : SCL s) : hT h (s + 1) = 20 := by
  rcases hs with rfl | rfl
  · exact wt_97 hw
  · exact wt_107 hw
theorem sc_n1 {h : PH} (hw : WS h) {s : Nat} (hs : SCL s) : hN h (s + 1) = 400 := by
  rcases hs with rfl | rfl
  · exact wn_97 hw
  · exact wn_107 hw
theorem sc_t2 {h : PH} (hw : WS h) {s : Nat} (hs : SCL s) : hT h (s + 2) = 20 := by
  rcases hs with rfl | rfl
  · exact wt_98 hw
  · exact wt_108 hw
theorem sc_n2 {h : PH} (hw : WS h) {s : Nat} (hs : SCL s) : hN h (s + 2) = 400 := by
  rcases hs with rfl | rfl
  · exact wn_98 hw
  · exact wn_108 hw
theorem sc_t3 {h : PH} (hw : WS h) {s : Nat} (hs : SCL s) : hT h (s + 3) = 20 := by
  rcases hs with rfl | rfl
  · exact wt_99 hw
  · exact wt_109 hw
theorem sc_n3 {h : PH} (hw : WS h) {s : Nat} (hs : SCL s) : hN h (s + 3) = 400 := by
  rcases hs with rfl | rfl
  · exact wn_99 hw
  · exact wn_109 hw
theorem sc_t4 {h : PH} (hw : WS h) {s : Nat} (hs : SCL s) : hT h (s + 4) = 23 := by
  rcases hs with rfl | rfl
  · exact wt_100 hw
  · exact wt_110 hw
theorem sc_n4 {h : PH} (hw : WS h) {s : Nat} (hs : SCL s) : hN h (s + 4) = 400 := by
  rcases hs with rfl | rfl
  · exact wn_100 hw
  · exact wn_110 hw
theorem sc_t5 {h : PH} (hw : WS h) {s : Nat} (hs : SCL s) : hT h (s + 5) = 20 := by
  rcases hs with rfl | rfl
  · exact wt_101 hw
  · exact wt_111 hw
theorem sc_n5 {h : PH} (hw : WS h) {s : Nat} (hs : SCL s) : hN h (s + 5) = 13 := by
  rcases hs with rfl | rfl
  · exact wn_101 hw
  · exact wn_111 hw
theorem sc_t6 {h : PH} (hw : WS h) {s : Nat} (hs : SCL s) : hT h (s + 6) = 23 := by
  rcases hs with rfl | rfl
  · exact wt_102 hw
  · exact wt_112 hw
theorem sc_n6 {h : PH} (hw : WS h) {s : Nat} (hs : SCL s) : hN h (s + 6) = 8 := by
  rcases hs with rfl | rfl
  · exact wn_102 hw
  · exact wn_112 hw
theorem sc_t7 {h : PH} (hw : WS h) {s : Nat} (hs : SCL s) : hT h (s + 7) = 20 := by
  rcases hs with rfl | rfl
  · exact wt_103 hw
  · exact wt_113 hw
theorem sc_n7 {h : PH} (hw : WS h) {s : Nat} (hs : SCL s) : hN h (s + 7) = 8 := by
  rcases hs with rfl | rfl
  · exact wn_103 hw
  · exact wn_113 hw
theorem sc_t8 {h : PH} (hw : WS h) {s : Nat} (hs : SCL s) : hT h (s + 8) = 20 := by
  rcases hs with rfl | rfl
  · exact wt_104 hw
  · exact wt_114 hw
theorem sc_n8 {h : PH} (hw : WS h) {s : Nat} (hs : SCL s) : hN h (s + 8) = 8 := by
  rcases hs with rfl | rfl
  · exact wn_104 hw
  · exact wn_114 hw
theorem sc_t9 {h : PH} (hw : WS h) {s : Nat} (hs : SCL s) : hT h (s + 9) = 22 := by
  rcases hs with rfl | rfl
  · exact wt_105 hw
  · exact wt_115 hw
theorem sc_n9 {h : PH} (hw : WS h) {s : Nat} (hs : SCL s) : hN h (s + 9) = 8 := by
  rcases hs with rfl | rfl
  · exact wn_105 hw
  · exact wn_115 hw
theorem hI_ne {h : PH} {k j q i : Nat} {v : Int32} (hne : q ≠ k) : hI (sI h k j v) q i = hI h q i := congrFun (hI_sI_ne hne) i
theorem hI_sL {h : PH} {k j : Nat} {v : Int64} : hI (sL h k j v) = hI h := rfl
theorem hL_sI {h : PH} {k j : Nat} {v : Int32} : hL (sI h k j v) = hL h := rfl
def kpH (s : Nat) (h : PH) (t : Nat) (r : Int32) : PH := sI (sL (sI (sI (sI h (s + 1) t (hI h 6 3)) (s + 2) t r) (s + 3) t (hI h 6 4)) (s + 4) t (hL h 6 5)) s 0 (nI (t + 1))
theorem c_Script_keep {P : PSem} (S : SysOK P) {h : PH} (hw : WS h) {s : Nat} (hs : SCL s) {t : Nat} {r : Int32} (ht : t < 400) (ha : hI h s 0 = nI t) {K : PK} (hK : K .null (kpH s h t r)) : P.1 n_Script_keep [.ref s, .ref 6, .int r] h K := by
  have s6 : 96 ≤ s := by rcases hs with rfl | rfl <;> decide
  refine S.go 60 rfl rfl rfl ?_
  conv => whnf
  refine ⟨sc_t hw hs, ?_⟩
  conv => whnf
  rw [sc_r1 hw hs]
  refine ⟨sc_t hw hs, ?_⟩
  conv => whnf
  rw [ha]
  refine ⟨wt_6 hw, ?_⟩
  conv => whnf
  refine ⟨⟨(show 5 ≤ s + 1 by omega), inB_of (sc_t1 hw hs) (sc_n1 hw hs) ht (by decide)⟩, ?_⟩
  conv => whnf
  rw [nI_clamp (by omega)]
  refine ⟨sc_t hw hs, ?_⟩
  conv => whnf
  have e2 : hR (sI h (s + 1) t (hI h 6 3)) s 2 = s + 2 := sc_r2 hw hs
  rw [e2]
  refine ⟨sc_t hw hs, ?_⟩
  conv => whnf
  have a2 : hI (sI h (s + 1) t (hI h 6 3)) s 0 = nI t := (hI_ne (by omega)).trans ha
  rw [a2]
  refine ⟨⟨(show 5 ≤ s + 2 by omega), inB_of (sc_t2 hw hs) (sc_n2 hw hs) ht (by decide)⟩, ?_⟩
  conv => whnf
  rw [nI_clamp (by omega)]
  refine ⟨sc_t hw hs, ?_⟩
  conv => whnf
  have e3 : hR (sI (sI h (s + 1) t (hI h 6 3)) (s + 2) t r) s 3 = s + 3 := sc_r3 hw hs
  rw [e3]
  refine ⟨sc_t hw hs, ?_⟩
  conv => whnf
  have a3 : hI (sI (sI h (s + 1) t (hI h 6 3)) (s + 2) t r) s 0 = nI t := (hI_ne (by omega)).trans a2
  rw [a3]
  refine ⟨wt_6 hw, ?_⟩
  conv => whnf
  have q3 : hI (sI (sI h (s + 1) t (hI h 6 3)) (s + 2) t r) 6 4 = hI h 6 4 := (hI_ne (by omega)).trans (hI_ne (by omega))
  rw [q3]
  refine ⟨⟨(show 5 ≤ s + 3 by omega), inB_of (sc_t3 hw hs) (sc_n3 hw hs) ht (by decide)⟩, ?_⟩
  conv => whnf
  rw [nI_clamp (by omega)]
  refine ⟨sc_t hw hs, ?_⟩
  conv => whnf
  have e4 : hR (sI (sI (sI h (s + 1) t (hI h 6 3)) (s + 2) t r) (s + 3) t (hI h 6 4)) s 4 = s + 4 := sc_r4 hw hs
  rw [e4]
  refine ⟨sc_t hw hs, ?_⟩
  conv => whnf
  have a4 : hI (sI (sI (sI h (s + 1) t (hI h 6 3)) (s + 2) t r) (s + 3) t (hI h 6 4)) s 0 = nI t := (hI_ne (by omega)).trans a3
  rw [a4]
  refine ⟨wt_6 hw, ?_⟩
  conv => whnf
  refine ⟨inB_of (sc_t4 hw hs) (sc_n4 hw hs) ht (by decide), ?_⟩
  conv => whnf
  rw [nI_clamp (by omega)]
  refine ⟨sc_t hw hs, ?_⟩
  conv => whnf
  refine ⟨sc_t hw hs, ?_⟩
  conv => whnf
  have a5 : hI (sL (sI (sI (sI h (s + 1) t (hI h 6 3)) (s + 2) t r) (s + 3) t (hI h 6 4)) (s + 4) t (hL h 6 5)) s 0 + 1 = nI (t + 1) := by
    rw [hI_sL, a4, nI_1]
  have fin := hK
  unfold kpH at fin
  rw [← a5] at fin
  exact fin
