/-! FRAMES, and the world's numbered objects -/
def eqX (A : Nat → Prop) (h h' : PH) : Prop := h'.1 = h.1 ∧ hR h' = hR h ∧ hL h' = hL h ∧ hE h' = hE h ∧ ∀ k, ¬ A k → hI h' k = hI h k
theorem eqX_rf (A : Nat → Prop) (h : PH) : eqX A h h := ⟨rfl, rfl, rfl, rfl, fun _ _ => rfl⟩
theorem eqX_tr {A : Nat → Prop} {h1 h2 h3 : PH} (a : eqX A h1 h2) (b : eqX A h2 h3) : eqX A h1 h3 :=
  ⟨b.1.trans a.1, b.2.1.trans a.2.1, b.2.2.1.trans a.2.2.1, b.2.2.2.1.trans a.2.2.2.1, fun k hk => (b.2.2.2.2 k hk).trans (a.2.2.2.2 k hk)⟩
theorem eqX_mono {A B : Nat → Prop} {h h' : PH} (hab : ∀ k, A k → B k) (a : eqX A h h') : eqX B h h' := ⟨a.1, a.2.1, a.2.2.1, a.2.2.2.1, fun k hk => a.2.2.2.2 k (fun q => hk (hab k q))⟩
theorem hI_sI_ne {h : PH} {k j q : Nat} {v : Int32} (hk : q ≠ k) : hI (sI h k j v) q = hI h q := by
  funext i
  show (if q = k ∧ i = j then v else hI h q i) = _
  rw [if_neg (fun e => hk e.1)]
theorem hI_sI_j {h : PH} {k j i : Nat} {v : Int32} (hi : i ≠ j) : hI (sI h k j v) k i = hI h k i := by
  show (if k = k ∧ i = j then v else hI h k i) = _
  rw [if_neg (fun e => hi e.2)]
theorem hI_sI {h : PH} {k j : Nat} {v : Int32} : hI (sI h k j v) k j = v := by
  show (if k = k ∧ j = j then v else hI h k j) = _
  rw [if_pos ⟨rfl, rfl⟩]
theorem sI_same {h : PH} {k j : Nat} {v : Int32} (hv : hI h k j = v) : sI h k j v = h := by
  have : up2 (hI h) k j v = hI h := by
    funext q i
    show (if q = k ∧ i = j then v else hI h q i) = _
    split
    · rename_i e
      rw [e.1, e.2, hv]
    · rfl
  unfold sI
  rw [this]
  rfl
theorem eqX_sI {A : Nat → Prop} {h : PH} {k j : Nat} {v : Int32} (hk : A k) : eqX A h (sI h k j v) := ⟨rfl, rfl, rfl, rfl, fun q hq => hI_sI_ne (fun e => hq (by rw [e]; exact hk))⟩
theorem eqX_T {A : Nat → Prop} {h h' : PH} (e : eqX A h h') (k : Nat) : hT h' k = hT h k := congrArg (fun f => (f k).1) e.1
theorem eqX_N {A : Nat → Prop} {h h' : PH} (e : eqX A h h') (k : Nat) : hN h' k = hN h k := congrArg (fun f => (f k).2) e.1
theorem eqX_WS {A : Nat → Prop} {h h' : PH} (e : eqX A h h') (hw : WS h) : WS h' := by
  obtain ⟨a, b, c, d⟩ := hw
  exact ⟨fun k h1 h2 => by rw [e.1]; exact a k h1 h2, fun q hq => by rw [e.2.1]; exact b q hq, by rw [eqX_T e]; exact c, by rw [e.2.2.2.1]; exact d⟩
theorem eqX_FOK {A : Nat → Prop} {h h' : PH} {k n m : Nat} (e : eqX A h h') (hk : ¬ A k) (hF : FOK h k n m) : FOK h' k n m := by
  obtain ⟨a, b, c, d⟩ := hF
  have hi := e.2.2.2.2 k hk
  exact ⟨by rw [eqX_T e]; exact a, by rw [hi]; exact b, by rw [hi]; exact c, by rw [hi]; exact d⟩
theorem hR_sI (h : PH) (k j : Nat) (v : Int32) : hR (sI h k j v) = hR h := rfl
theorem hT_sI (h : PH) (k j : Nat) (v : Int32) : hT (sI h k j v) = hT h := rfl
theorem twelve {p : Nat → Prop} (h1 : p 1) (h2 : p 2) (h3 : p 3) (h4 : p 4) (h5 : p 5) (h6 : p 6) (h7 : p 7) (h8 : p 8) (h9 : p 9) (h10 : p 10) (h11 : p 11) (h12 : p 12) {n : Nat} (a : 1 ≤ n) (b : n ≤ 12) : p n := by
  rcases (show n = 1 ∨ n = 2 ∨ n = 3 ∨ n = 4 ∨ n = 5 ∨ n = 6 ∨ n = 7 ∨ n = 8 ∨ n = 9 ∨ n = 10 ∨ n = 11 ∨ n = 12 by omega) with rfl | rfl | rfl | rfl | rfl | rfl | rfl | rfl | rfl | rfl | rfl | rfl <;> assumption
theorem wi_fld {h : PH} (hw : WS h) {n : Nat} (a : 1 ≤ n) (b : n ≤ 12) : hR h 9 n = 27 + 4 * n := twelve (p := fun n => hR h 9 n = 27 + 4 * n) (wr_9_1 hw) (wr_9_2 hw) (wr_9_3 hw) (wr_9_4 hw) (wr_9_5 hw) (wr_9_6 hw) (wr_9_7 hw) (wr_9_8 hw) (wr_9_9 hw) (wr_9_10 hw) (wr_9_11 hw) (wr_9_12 hw) a b
theorem wi_cyc {h : PH} (hw : WS h) {n : Nat} (a : 1 ≤ n) (b : n ≤ 12) : hR h 10 n = 29 + 4 * n := twelve (p := fun n => hR h 10 n = 29 + 4 * n) (wr_10_1 hw) (wr_10_2 hw) (wr_10_3 hw) (wr_10_4 hw) (wr_10_5 hw) (wr_10_6 hw) (wr_10_7 hw) (wr_10_8 hw) (wr_10_9 hw) (wr_10_10 hw) (wr_10_11 hw) (wr_10_12 hw) a b
theorem wi_spc {h : PH} (hw : WS h) {n : Nat} (a : 1 ≤ n) (b : n ≤ 12) : hR h 11 n = 30 + 4 * n := twelve (p := fun n => hR h 11 n = 30 + 4 * n) (wr_11_1 hw) (wr_11_2 hw) (wr_11_3 hw) (wr_11_4 hw) (wr_11_5 hw) (wr_11_6 hw) (wr_11_7 hw) (wr_11_8 hw) (wr_11_9 hw) (wr_11_10 hw) (wr_11_11 hw) (wr_11_12 hw) a b
theorem wi_img {h : PH} (hw : WS h) {n : Nat} (a : 1 ≤ n) (b : n ≤ 12) : hR h 15 n = 16 + n := twelve (p := fun n => hR h 15 n = 16 + n) (wr_15_1 hw) (wr_15_2 hw) (wr_15_3 hw) (wr_15_4 hw) (wr_15_5 hw) (wr_15_6 hw) (wr_15_7 hw) (wr_15_8 hw) (wr_15_9 hw) (wr_15_10 hw) (wr_15_11 hw) (wr_15_12 hw) a b
theorem wi_imT {h : PH} (hw : WS h) {n : Nat} (a : 1 ≤ n) (b : n ≤ 12) : hT h (16 + n) = 20 := twelve (p := fun n => hT h (16 + n) = 20) (wt_17 hw) (wt_18 hw) (wt_19 hw) (wt_20 hw) (wt_21 hw) (wt_22 hw) (wt_23 hw) (wt_24 hw) (wt_25 hw) (wt_26 hw) (wt_27 hw) (wt_28 hw) a b
theorem wi_imN {h : PH} (hw : WS h) {n : Nat} (a : 1 ≤ n) (b : n ≤ 12) : hN h (16 + n) = 13 := twelve (p := fun n => hN h (16 + n) = 13) (wn_17 hw) (wn_18 hw) (wn_19 hw) (wn_20 hw) (wn_21 hw) (wn_22 hw) (wn_23 hw) (wn_24 hw) (wn_25 hw) (wn_26 hw) (wn_27 hw) (wn_28 hw) a b
theorem wi_fT {h : PH} (hw : WS h) {n : Nat} (a : 1 ≤ n) (b : n ≤ 12) : hT h (27 + 4 * n) = 2 := twelve (p := fun n => hT h (27 + 4 * n) = 2) (wt_31 hw) (wt_35 hw) (wt_39 hw) (wt_43 hw) (wt_47 hw) (wt_51 hw) (wt_55 hw) (wt_59 hw) (wt_63 hw) (wt_67 hw) (wt_71 hw) (wt_75 hw) a b
theorem wi_cT {h : PH} (hw : WS h) {n : Nat} (a : 1 ≤ n) (b : n ≤ 12) : hT h (28 + 4 * n) = 20 := twelve (p := fun n => hT h (28 + 4 * n) = 20) (wt_32 hw) (wt_36 hw) (wt_40 hw) (wt_44 hw) (wt_48 hw) (wt_52 hw) (wt_56 hw) (wt_60 hw) (wt_64 hw) (wt_68 hw) (wt_72 hw) (wt_76 hw) a b
theorem wi_cN {h : PH} (hw : WS h) {n : Nat} (a : 1 ≤ n) (b : n ≤ 12) : hN h (28 + 4 * n) = 13 := twelve (p := fun n => hN h (28 + 4 * n) = 13) (wn_32 hw) (wn_36 hw) (wn_40 hw) (wn_44 hw) (wn_48 hw) (wn_52 hw) (wn_56 hw) (wn_60 hw) (wn_64 hw) (wn_68 hw) (wn_72 hw) (wn_76 hw) a b
theorem wi_fc {h : PH} (hw : WS h) {n : Nat} (a : 1 ≤ n) (b : n ≤ 12) : hR h (27 + 4 * n) 3 = 28 + 4 * n := twelve (p := fun n => hR h (27 + 4 * n) 3 = 28 + 4 * n) (wr_31_3 hw) (wr_35_3 hw) (wr_39_3 hw) (wr_43_3 hw) (wr_47_3 hw) (wr_51_3 hw) (wr_55_3 hw) (wr_59_3 hw) (wr_63_3 hw) (wr_67_3 hw) (wr_71_3 hw) (wr_75_3 hw) a b
theorem wi_yT {h : PH} (hw : WS h) {n : Nat} (a : 1 ≤ n) (b : n ≤ 12) : hT h (29 + 4 * n) = 3 := twelve (p := fun n => hT h (29 + 4 * n) = 3) (wt_33 hw) (wt_37 hw) (wt_41 hw) (wt_45 hw) (wt_49 hw) (wt_53 hw) (wt_57 hw) (wt_61 hw) (wt_65 hw) (wt_69 hw) (wt_73 hw) (wt_77 hw) a b
theorem wi_yf {h : PH} (hw : WS h) {n : Nat} (a : 1 ≤ n) (b : n ≤ 12) : hR h (29 + 4 * n) 0 = 27 + 4 * n := twelve (p := fun n => hR h (29 + 4 * n) 0 = 27 + 4 * n) (wr_33_0 hw) (wr_37_0 hw) (wr_41_0 hw) (wr_45_0 hw) (wr_49_0 hw) (wr_53_0 hw) (wr_57_0 hw) (wr_61_0 hw) (wr_65_0 hw) (wr_69_0 hw) (wr_73_0 hw) (wr_77_0 hw) a b
theorem wi_sT {h : PH} (hw : WS h) {n : Nat} (a : 1 ≤ n) (b : n ≤ 12) : hT h (30 + 4 * n) = 4 := twelve (p := fun n => hT h (30 + 4 * n) = 4) (wt_34 hw) (wt_38 hw) (wt_42 hw) (wt_46 hw) (wt_50 hw) (wt_54 hw) (wt_58 hw) (wt_62 hw) (wt_66 hw) (wt_70 hw) (wt_74 hw) (wt_78 hw) a b
theorem wi_sf {h : PH} (hw : WS h) {n : Nat} (a : 1 ≤ n) (b : n ≤ 12) : hR h (30 + 4 * n) 0 = 27 + 4 * n := twelve (p := fun n => hR h (30 + 4 * n) 0 = 27 + 4 * n) (wr_34_0 hw) (wr_38_0 hw) (wr_42_0 hw) (wr_46_0 hw) (wr_50_0 hw) (wr_54_0 hw) (wr_58_0 hw) (wr_62_0 hw) (wr_66_0 hw) (wr_70_0 hw) (wr_74_0 hw) (wr_78_0 hw) a b
theorem wi_ss {h : PH} (hw : WS h) {n : Nat} (a : 1 ≤ n) (b : n ≤ 12) : hR h (30 + 4 * n) 1 = 12 := twelve (p := fun n => hR h (30 + 4 * n) 1 = 12) (wr_34_1 hw) (wr_38_1 hw) (wr_42_1 hw) (wr_46_1 hw) (wr_50_1 hw) (wr_54_1 hw) (wr_58_1 hw) (wr_62_1 hw) (wr_66_1 hw) (wr_70_1 hw) (wr_74_1 hw) (wr_78_1 hw) a b
