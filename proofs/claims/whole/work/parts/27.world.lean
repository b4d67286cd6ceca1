/-! printed by wip/gen/world.py: what never changes of the law's world: shapes and references -/
def shpL : List (Nat × Nat) := [(99, 0), (20, 0), (20, 13), (20, 13), (20, 13), (9, 12), (0, 6), (21, 2000), (5, 7), (24, 13), (25, 13), (26, 13), (1, 3), (20, 12), (20, 12), (27, 13), (20, 13), (20, 13), (20, 13), (20, 13), (20, 13), (20, 13), (20, 13), (20, 13), (20, 13), (20, 13), (20, 13), (20, 13), (20, 13), (22, 13), (20, 5), (2, 4), (20, 13), (3, 5), (4, 4), (2, 4), (20, 13), (3, 5), (4, 4), (2, 4), (20, 13), (3, 5), (4, 4), (2, 4), (20, 13), (3, 5), (4, 4), (2, 4), (20, 13), (3, 5), (4, 4), (2, 4), (20, 13), (3, 5), (4, 4), (2, 4), (20, 13), (3, 5), (4, 4), (2, 4), (20, 13), (3, 5), (4, 4), (2, 4), (20, 13), (3, 5), (4, 4), (2, 4), (20, 13), (3, 5), (4, 4), (2, 4), (20, 13), (3, 5), (4, 4), (2, 4), (20, 13), (3, 5), (4, 4), (6, 7), (20, 8), (20, 9), (20, 9), (20, 9), (20, 9), (7, 3), (20, 30), (20, 30), (20, 8), (20, 13), (27, 3), (20, 13), (20, 13), (20, 13), (22, 3), (20, 64), (8, 13), (20, 400), (20, 400), (20, 400), (23, 400), (20, 13), (23, 8), (20, 8), (20, 8), (22, 8), (8, 13), (20, 400), (20, 400), (20, 400), (23, 400), (20, 13), (23, 8), (20, 8), (20, 8), (22, 8), (10, 50), (21, 2000), (21, 2000), (20, 403), (20, 403), (20, 403), (23, 403), (23, 3), (22, 8192), (20, 13), (20, 13), (20, 410), (20, 410), (20, 410), (20, 9), (20, 8), (20, 8), (23, 8), (20, 410), (20, 410), (20, 410), (20, 26), (20, 13), (20, 400), (20, 410), (20, 390), (20, 39), (22, 3), (20, 169), (20, 12), (20, 12), (20, 14), (20, 80)]
def refL : List (Nat × Nat × Nat) := [(5, 0, 6), (5, 1, 8), (5, 2, 79), (5, 3, 85), (5, 4, 88), (5, 5, 89), (5, 6, 90), (5, 7, 94), (5, 8, 95), (6, 0, 7), (8, 0, 9), (8, 1, 10), (8, 2, 11), (8, 3, 12), (8, 4, 15), (8, 5, 29), (8, 6, 30), (9, 1, 31), (9, 2, 35), (9, 3, 39), (9, 4, 43), (9, 5, 47), (9, 6, 51), (9, 7, 55), (9, 8, 59), (9, 9, 63), (9, 10, 67), (9, 11, 71), (9, 12, 75), (10, 1, 33), (10, 2, 37), (10, 3, 41), (10, 4, 45), (10, 5, 49), (10, 6, 53), (10, 7, 57), (10, 8, 61), (10, 9, 65), (10, 10, 69), (10, 11, 73), (10, 12, 77), (11, 1, 34), (11, 2, 38), (11, 3, 42), (11, 4, 46), (11, 5, 50), (11, 6, 54), (11, 7, 58), (11, 8, 62), (11, 9, 66), (11, 10, 70), (11, 11, 74), (11, 12, 78), (12, 0, 13), (12, 1, 14), (15, 0, 16), (15, 1, 17), (15, 2, 18), (15, 3, 19), (15, 4, 20), (15, 5, 21), (15, 6, 22), (15, 7, 23), (15, 8, 24), (15, 9, 25), (15, 10, 26), (15, 11, 27), (15, 12, 28), (31, 3, 32), (33, 0, 31), (34, 0, 31), (34, 1, 12), (35, 3, 36), (37, 0, 35), (38, 0, 35), (38, 1, 12), (39, 3, 40), (41, 0, 39), (42, 0, 39), (42, 1, 12), (43, 3, 44), (45, 0, 43), (46, 0, 43), (46, 1, 12), (47, 3, 48), (49, 0, 47), (50, 0, 47), (50, 1, 12), (51, 3, 52), (53, 0, 51), (54, 0, 51), (54, 1, 12), (55, 3, 56), (57, 0, 55), (58, 0, 55), (58, 1, 12), (59, 3, 60), (61, 0, 59), (62, 0, 59), (62, 1, 12), (63, 3, 64), (65, 0, 63), (66, 0, 63), (66, 1, 12), (67, 3, 68), (69, 0, 67), (70, 0, 67), (70, 1, 12), (71, 3, 72), (73, 0, 71), (74, 0, 71), (74, 1, 12), (75, 3, 76), (77, 0, 75), (78, 0, 75), (78, 1, 12), (79, 0, 80), (79, 2, 81), (79, 3, 82), (79, 4, 83), (79, 5, 84), (85, 0, 86), (85, 1, 87), (90, 0, 91), (90, 1, 92), (90, 2, 93), (96, 1, 97), (96, 2, 98), (96, 3, 99), (96, 4, 100), (96, 5, 101), (96, 7, 102), (96, 8, 103), (96, 9, 104), (96, 10, 105), (106, 1, 107), (106, 2, 108), (106, 3, 109), (106, 4, 110), (106, 5, 111), (106, 7, 112), (106, 8, 113), (106, 9, 114), (106, 10, 115), (116, 1, 117), (116, 3, 118), (116, 5, 119), (116, 6, 120), (116, 7, 121), (116, 8, 122), (116, 9, 123), (116, 17, 124), (116, 18, 125), (116, 19, 126), (116, 21, 127), (116, 22, 128), (116, 23, 129), (116, 25, 130), (116, 26, 131), (116, 27, 132), (116, 28, 133), (116, 30, 134), (116, 31, 135), (116, 32, 136), (116, 33, 137), (116, 34, 138), (116, 36, 139), (116, 38, 140), (116, 39, 141), (116, 42, 142), (116, 43, 143), (116, 44, 144), (116, 45, 145), (116, 46, 146), (116, 47, 147), (116, 48, 148)]
/-- the static part of the world: cells 2 .. 148 have their shapes, the references that never change lead where they do -/
def WS (h : PH) : Prop := (∀ k, 2 ≤ k → k < 149 → h.1 k = (shpL[k]?).getD (99, 0)) ∧ (∀ q ∈ refL, hR h q.1 q.2.1 = q.2.2) ∧ hT h 1 = 20 ∧ 149 ≤ hE h
theorem ws_sI {h : PH} {k j : Nat} {v : Int32} (hw : WS h) : WS (sI h k j v) := hw
theorem ws_sL {h : PH} {k j : Nat} {v : Int64} (hw : WS h) : WS (sL h k j v) := hw
theorem ws_sCp {h : PH} {a b c d e : Nat} (hw : WS h) : WS (sCp h a b c d e) := hw
theorem ws_t {h : PH} (hw : WS h) (k t n : Nat) (hk : 2 ≤ k) (h2 : k < 149) (hs : (shpL[k]?).getD (99, 0) = (t, n)) : hT h k = t ∧ hN h k = n := by
  have := hw.1 k hk h2
  unfold hT hN
  rw [this, hs]
  exact ⟨rfl, rfl⟩
theorem wt_2 {h : PH} (hw : WS h) : hT h 2 = 20 := (ws_t hw 2 20 13 (by decide) (by decide) (by decide +kernel)).1
theorem wn_2 {h : PH} (hw : WS h) : hN h 2 = 13 := (ws_t hw 2 20 13 (by decide) (by decide) (by decide +kernel)).2
theorem wt_3 {h : PH} (hw : WS h) : hT h 3 = 20 := (ws_t hw 3 20 13 (by decide) (by decide) (by decide +kernel)).1
theorem wn_3 {h : PH} (hw : WS h) : hN h 3 = 13 := (ws_t hw 3 20 13 (by decide) (by decide) (by decide +kernel)).2
theorem wt_4 {h : PH} (hw : WS h) : hT h 4 = 20 := (ws_t hw 4 20 13 (by decide) (by decide) (by decide +kernel)).1
theorem wn_4 {h : PH} (hw : WS h) : hN h 4 = 13 := (ws_t hw 4 20 13 (by decide) (by decide) (by decide +kernel)).2
theorem wt_5 {h : PH} (hw : WS h) : hT h 5 = 9 := (ws_t hw 5 9 12 (by decide) (by decide) (by decide +kernel)).1
theorem wt_6 {h : PH} (hw : WS h) : hT h 6 = 0 := (ws_t hw 6 0 6 (by decide) (by decide) (by decide +kernel)).1
theorem wt_7 {h : PH} (hw : WS h) : hT h 7 = 21 := (ws_t hw 7 21 2000 (by decide) (by decide) (by decide +kernel)).1
theorem wn_7 {h : PH} (hw : WS h) : hN h 7 = 2000 := (ws_t hw 7 21 2000 (by decide) (by decide) (by decide +kernel)).2
theorem wt_8 {h : PH} (hw : WS h) : hT h 8 = 5 := (ws_t hw 8 5 7 (by decide) (by decide) (by decide +kernel)).1
theorem wt_9 {h : PH} (hw : WS h) : hT h 9 = 24 := (ws_t hw 9 24 13 (by decide) (by decide) (by decide +kernel)).1
theorem wn_9 {h : PH} (hw : WS h) : hN h 9 = 13 := (ws_t hw 9 24 13 (by decide) (by decide) (by decide +kernel)).2
theorem wt_10 {h : PH} (hw : WS h) : hT h 10 = 25 := (ws_t hw 10 25 13 (by decide) (by decide) (by decide +kernel)).1
theorem wn_10 {h : PH} (hw : WS h) : hN h 10 = 13 := (ws_t hw 10 25 13 (by decide) (by decide) (by decide +kernel)).2
theorem wt_11 {h : PH} (hw : WS h) : hT h 11 = 26 := (ws_t hw 11 26 13 (by decide) (by decide) (by decide +kernel)).1
theorem wn_11 {h : PH} (hw : WS h) : hN h 11 = 13 := (ws_t hw 11 26 13 (by decide) (by decide) (by decide +kernel)).2
theorem wt_12 {h : PH} (hw : WS h) : hT h 12 = 1 := (ws_t hw 12 1 3 (by decide) (by decide) (by decide +kernel)).1
theorem wt_13 {h : PH} (hw : WS h) : hT h 13 = 20 := (ws_t hw 13 20 12 (by decide) (by decide) (by decide +kernel)).1
theorem wn_13 {h : PH} (hw : WS h) : hN h 13 = 12 := (ws_t hw 13 20 12 (by decide) (by decide) (by decide +kernel)).2
theorem wt_14 {h : PH} (hw : WS h) : hT h 14 = 20 := (ws_t hw 14 20 12 (by decide) (by decide) (by decide +kernel)).1
theorem wn_14 {h : PH} (hw : WS h) : hN h 14 = 12 := (ws_t hw 14 20 12 (by decide) (by decide) (by decide +kernel)).2
theorem wt_15 {h : PH} (hw : WS h) : hT h 15 = 27 := (ws_t hw 15 27 13 (by decide) (by decide) (by decide +kernel)).1
theorem wn_15 {h : PH} (hw : WS h) : hN h 15 = 13 := (ws_t hw 15 27 13 (by decide) (by decide) (by decide +kernel)).2
theorem wt_16 {h : PH} (hw : WS h) : hT h 16 = 20 := (ws_t hw 16 20 13 (by decide) (by decide) (by decide +kernel)).1
theorem wn_16 {h : PH} (hw : WS h) : hN h 16 = 13 := (ws_t hw 16 20 13 (by decide) (by decide) (by decide +kernel)).2
theorem wt_17 {h : PH} (hw : WS h) : hT h 17 = 20 := (ws_t hw 17 20 13 (by decide) (by decide) (by decide +kernel)).1
theorem wn_17 {h : PH} (hw : WS h) : hN h 17 = 13 := (ws_t hw 17 20 13 (by decide) (by decide) (by decide +kernel)).2
theorem wt_18 {h : PH} (hw : WS h) : hT h 18 = 20 := (ws_t hw 18 20 13 (by decide) (by decide) (by decide +kernel)).1
theorem wn_18 {h : PH} (hw : WS h) : hN h 18 = 13 := (ws_t hw 18 20 13 (by decide) (by decide) (by decide +kernel)).2
theorem wt_19 {h : PH} (hw : WS h) : hT h 19 = 20 := (ws_t hw 19 20 13 (by decide) (by decide) (by decide +kernel)).1
theorem wn_19 {h : PH} (hw : WS h) : hN h 19 = 13 := (ws_t hw 19 20 13 (by decide) (by decide) (by decide +kernel)).2
theorem wt_20 {h : PH} (hw : WS h) : hT h 20 = 20 := (ws_t hw 20 20 13 (by decide) (by decide) (by decide +kernel)).1
theorem wn_20 {h : PH} (hw : WS h) : hN h 20 = 13 := (ws_t hw 20 20 13 (by decide) (by decide) (by decide +kernel)).2
theorem wt_21 {h : PH} (hw : WS h) : hT h 21 = 20 := (ws_t hw 21 20 13 (by decide) (by decide) (by decide +kernel)).1
theorem wn_21 {h : PH} (hw : WS h) : hN h 21 = 13 := (ws_t hw 21 20 13 (by decide) (by decide) (by decide +kernel)).2
theorem wt_22 {h : PH} (hw : WS h) : hT h 22 = 20 := (ws_t hw 22 20 13 (by decide) (by decide) (by decide +kernel)).1
theorem wn_22 {h : PH} (hw : WS h) : hN h 22 = 13 := (ws_t hw 22 20 13 (by decide) (by decide) (by decide +kernel)).2
theorem wt_23 {h : PH} (hw : WS h) : hT h 23 = 20 := (ws_t hw 23 20 13 (by decide) (by decide) (by decide +kernel)).1
theorem wn_23 {h : PH} (hw : WS h) : hN h 23 = 13 := (ws_t hw 23 20 13 (by decide) (by decide) (by decide +kernel)).2
theorem wt_24 {h : PH} (hw : WS h) : hT h 24 = 20 := (ws_t hw 24 20 13 (by decide) (by decide) (by decide +kernel)).1
theorem wn_24 {h : PH} (hw : WS h) : hN h 24 = 13 := (ws_t hw 24 20 13 (by decide) (by decide) (by decide +kernel)).2
theorem wt_25 {h : PH} (hw : WS h) : hT h 25 = 20 := (ws_t hw 25 20 13 (by decide) (by decide) (by decide +kernel)).1
theorem wn_25 {h : PH} (hw : WS h) : hN h 25 = 13 := (ws_t hw 25 20 13 (by decide) (by decide) (by decide +kernel)).2
theorem wt_26 {h : PH} (hw : WS h) : hT h 26 = 20 := (ws_t hw 26 20 13 (by decide) (by decide) (by decide +kernel)).1
theorem wn_26 {h : PH} (hw : WS h) : hN h 26 = 13 := (ws_t hw 26 20 13 (by decide) (by decide) (by decide +kernel)).2
theorem wt_27 {h : PH} (hw : WS h) : hT h 27 = 20 := (ws_t hw 27 20 13 (by decide) (by decide) (by decide +kernel)).1
theorem wn_27 {h : PH} (hw : WS h) : hN h 27 = 13 := (ws_t hw 27 20 13 (by decide) (by decide) (by decide +kernel)).2
theorem wt_28 {h : PH} (hw : WS h) : hT h 28 = 20 := (ws_t hw 28 20 13 (by decide) (by decide) (by decide +kernel)).1
theorem wn_28 {h : PH} (hw : WS h) : hN h 28 = 13 := (ws_t hw 28 20 13 (by decide) (by decide) (by decide +kernel)).2
theorem wt_29 {h : PH} (hw : WS h) : hT h 29 = 22 := (ws_t hw 29 22 13 (by decide) (by decide) (by decide +kernel)).1
theorem wn_29 {h : PH} (hw : WS h) : hN h 29 = 13 := (ws_t hw 29 22 13 (by decide) (by decide) (by decide +kernel)).2
theorem wt_30 {h : PH} (hw : WS h) : hT h 30 = 20 := (ws_t hw 30 20 5 (by decide) (by decide) (by decide +kernel)).1
theorem wn_30 {h : PH} (hw : WS h) : hN h 30 = 5 := (ws_t hw 30 20 5 (by decide) (by decide) (by decide +kernel)).2
theorem wt_31 {h : PH} (hw : WS h) : hT h 31 = 2 := (ws_t hw 31 2 4 (by decide) (by decide) (by decide +kernel)).1
theorem wt_32 {h : PH} (hw : WS h) : hT h 32 = 20 := (ws_t hw 32 20 13 (by decide) (by decide) (by decide +kernel)).1
theorem wn_32 {h : PH} (hw : WS h) : hN h 32 = 13 := (ws_t hw 32 20 13 (by decide) (by decide) (by decide +kernel)).2
theorem wt_33 {h : PH} (hw : WS h) : hT h 33 = 3 := (ws_t hw 33 3 5 (by decide) (by decide) (by decide +kernel)).1
theorem wt_34 {h : PH} (hw : WS h) : hT h 34 = 4 := (ws_t hw 34 4 4 (by decide) (by decide) (by decide +kernel)).1
theorem wt_35 {h : PH} (hw : WS h) : hT h 35 = 2 := (ws_t hw 35 2 4 (by decide) (by decide) (by decide +kernel)).1
theorem wt_36 {h : PH} (hw : WS h) : hT h 36 = 20 := (ws_t hw 36 20 13 (by decide) (by decide) (by decide +kernel)).1
theorem wn_36 {h : PH} (hw : WS h) : hN h 36 = 13 := (ws_t hw 36 20 13 (by decide) (by decide) (by decide +kernel)).2
theorem wt_37 {h : PH} (hw : WS h) : hT h 37 = 3 := (ws_t hw 37 3 5 (by decide) (by decide) (by decide +kernel)).1
theorem wt_38 {h : PH} (hw : WS h) : hT h 38 = 4 := (ws_t hw 38 4 4 (by decide) (by decide) (by decide +kernel)).1
theorem wt_39 {h : PH} (hw : WS h) : hT h 39 = 2 := (ws_t hw 39 2 4 (by decide) (by decide) (by decide +kernel)).1
theorem wt_40 {h : PH} (hw : WS h) : hT h 40 = 20 := (ws_t hw 40 20 13 (by decide) (by decide) (by decide +kernel)).1
theorem wn_40 {h : PH} (hw : WS h) : hN h 40 = 13 := (ws_t hw 40 20 13 (by decide) (by decide) (by decide +kernel)).2
theorem wt_41 {h : PH} (hw : WS h) : hT h 41 = 3 := (ws_t hw 41 3 5 (by decide) (by decide) (by decide +kernel)).1
theorem wt_42 {h : PH} (hw : WS h) : hT h 42 = 4 := (ws_t hw 42 4 4 (by decide) (by decide) (by decide +kernel)).1
theorem wt_43 {h : PH} (hw : WS h) : hT h 43 = 2 := (ws_t hw 43 2 4 (by decide) (by decide) (by decide +kernel)).1
theorem wt_44 {h : PH} (hw : WS h) : hT h 44 = 20 := (ws_t hw 44 20 13 (by decide) (by decide) (by decide +kernel)).1
theorem wn_44 {h : PH} (hw : WS h) : hN h 44 = 13 := (ws_t hw 44 20 13 (by decide) (by decide) (by decide +kernel)).2
theorem wt_45 {h : PH} (hw : WS h) : hT h 45 = 3 := (ws_t hw 45 3 5 (by decide) (by decide) (by decide +kernel)).1
theorem wt_46 {h : PH} (hw : WS h) : hT h 46 = 4 := (ws_t hw 46 4 4 (by decide) (by decide) (by decide +kernel)).1
theorem wt_47 {h : PH} (hw : WS h) : hT h 47 = 2 := (ws_t hw 47 2 4 (by decide) (by decide) (by decide +kernel)).1
theorem wt_48 {h : PH} (hw : WS h) : hT h 48 = 20 := (ws_t hw 48 20 13 (by decide) (by decide) (by decide +kernel)).1
theorem wn_48 {h : PH} (hw : WS h) : hN h 48 = 13 := (ws_t hw 48 20 13 (by decide) (by decide) (by decide +kernel)).2
theorem wt_49 {h : PH} (hw : WS h) : hT h 49 = 3 := (ws_t hw 49 3 5 (by decide) (by decide) (by decide +kernel)).1
theorem wt_50 {h : PH} (hw : WS h) : hT h 50 = 4 := (ws_t hw 50 4 4 (by decide) (by decide) (by decide +kernel)).1
theorem wt_51 {h : PH} (hw : WS h) : hT h 51 = 2 := (ws_t hw 51 2 4 (by decide) (by decide) (by decide +kernel)).1
theorem wt_52 {h : PH} (hw : WS h) : hT h 52 = 20 := (ws_t hw 52 20 13 (by decide) (by decide) (by decide +kernel)).1
theorem wn_52 {h : PH} (hw : WS h) : hN h 52 = 13 := (ws_t hw 52 20 13 (by decide) (by decide) (by decide +kernel)).2
theorem wt_53 {h : PH} (hw : WS h) : hT h 53 = 3 := (ws_t hw 53 3 5 (by decide) (by decide) (by decide +kernel)).1
theorem wt_54 {h : PH} (hw : WS h) : hT h 54 = 4 := (ws_t hw 54 4 4 (by decide) (by decide) (by decide +kernel)).1
theorem wt_55 {h : PH} (hw : WS h) : hT h 55 = 2 := (ws_t hw 55 2 4 (by decide) (by decide) (by decide +kernel)).1
theorem wt_56 {h : PH} (hw : WS h) : hT h 56 = 20 := (ws_t hw 56 20 13 (by decide) (by decide) (by decide +kernel)).1
theorem wn_56 {h : PH} (hw : WS h) : hN h 56 = 13 := (ws_t hw 56 20 13 (by decide) (by decide) (by decide +kernel)).2
theorem wt_57 {h : PH} (hw : WS h) : hT h 57 = 3 := (ws_t hw 57 3 5 (by decide) (by decide) (by decide +kernel)).1
theorem wt_58 {h : PH} (hw : WS h) : hT h 58 = 4 := (ws_t hw 58 4 4 (by decide) (by decide) (by decide +kernel)).1
theorem wt_59 {h : PH} (hw : WS h) : hT h 59 = 2 := (ws_t hw 59 2 4 (by decide) (by decide) (by decide +kernel)).1
theorem wt_60 {h : PH} (hw : WS h) : hT h 60 = 20 := (ws_t hw 60 20 13 (by decide) (by decide) (by decide +kernel)).1
theorem wn_60 {h : PH} (hw : WS h) : hN h 60 = 13 := (ws_t hw 60 20 13 (by decide) (by decide) (by decide +kernel)).2
theorem wt_61 {h : PH} (hw : WS h) : hT h 61 = 3 := (ws_t hw 61 3 5 (by decide) (by decide) (by decide +kernel)).1
theorem wt_62 {h : PH} (hw : WS h) : hT h 62 = 4 := (ws_t hw 62 4 4 (by decide) (by decide) (by decide +kernel)).1
theorem wt_63 {h : PH} (hw : WS h) : hT h 63 = 2 := (ws_t hw 63 2 4 (by decide) (by decide) (by decide +kernel)).1
theorem wt_64 {h : PH} (hw : WS h) : hT h 64 = 20 := (ws_t hw 64 20 13 (by decide) (by decide) (by decide +kernel)).1
theorem wn_64 {h : PH} (hw : WS h) : hN h 64 = 13 := (ws_t hw 64 20 13 (by decide) (by decide) (by decide +kernel)).2
theorem wt_65 {h : PH} (hw : WS h) : hT h 65 = 3 := (ws_t hw 65 3 5 (by decide) (by decide) (by decide +kernel)).1
theorem wt_66 {h : PH} (hw : WS h) : hT h 66 = 4 := (ws_t hw 66 4 4 (by decide) (by decide) (by decide +kernel)).1
theorem wt_67 {h : PH} (hw : WS h) : hT h 67 = 2 := (ws_t hw 67 2 4 (by decide) (by decide) (by decide +kernel)).1
theorem wt_68 {h : PH} (hw : WS h) : hT h 68 = 20 := (ws_t hw 68 20 13 (by decide) (by decide) (by decide +kernel)).1
theorem wn_68 {h : PH} (hw : WS h) : hN h 68 = 13 := (ws_t hw 68 20 13 (by decide) (by decide) (by decide +kernel)).2
theorem wt_69 {h : PH} (hw : WS h) : hT h 69 = 3 := (ws_t hw 69 3 5 (by decide) (by decide) (by decide +kernel)).1
theorem wt_70 {h : PH} (hw : WS h) : hT h 70 = 4 := (ws_t hw 70 4 4 (by decide) (by decide) (by decide +kernel)).1
theorem wt_71 {h : PH} (hw : WS h) : hT h 71 = 2 := (ws_t hw 71 2 4 (by decide) (by decide) (by decide +kernel)).1
theorem wt_72 {h : PH} (hw : WS h) : hT h 72 = 20 := (ws_t hw 72 20 13 (by decide) (by decide) (by decide +kernel)).1
theorem wn_72 {h : PH} (hw : WS h) : hN h 72 = 13 := (ws_t hw 72 20 13 (by decide) (by decide) (by decide +kernel)).2
theorem wt_73 {h : PH} (hw : WS h) : hT h 73 = 3 := (ws_t hw 73 3 5 (by decide) (by decide) (by decide +kernel)).1
theorem wt_74 {h : PH} (hw : WS h) : hT h 74 = 4 := (ws_t hw 74 4 4 (by decide) (by decide) (by decide +kernel)).1
theorem wt_75 {h : PH} (hw : WS h) : hT h 75 = 2 := (ws_t hw 75 2 4 (by decide) (by decide) (by decide +kernel)).1
theorem wt_76 {h : PH} (hw : WS h) : hT h 76 = 20 := (ws_t hw 76 20 13 (by decide) (by decide) (by decide +kernel)).1
theorem wn_76 {h : PH} (hw : WS h) : hN h 76 = 13 := (ws_t hw 76 20 13 (by decide) (by decide) (by decide +kernel)).2
theorem wt_77 {h : PH} (hw : WS h) : hT h 77 = 3 := (ws_t hw 77 3 5 (by decide) (by decide) (by decide +kernel)).1
theorem wt_78 {h : PH} (hw : WS h) : hT h 78 = 4 := (ws_t hw 78 4 4 (by decide) (by decide) (by decide +kernel)).1
theorem wt_79 {h : PH} (hw : WS h) : hT h 79 = 6 := (ws_t hw 79 6 7 (by decide) (by decide) (by decide +kernel)).1
theorem wt_80 {h : PH} (hw : WS h) : hT h 80 = 20 := (ws_t hw 80 20 8 (by decide) (by decide) (by decide +kernel)).1
theorem wn_80 {h : PH} (hw : WS h) : hN h 80 = 8 := (ws_t hw 80 20 8 (by decide) (by decide) (by decide +kernel)).2
theorem wt_81 {h : PH} (hw : WS h) : hT h 81 = 20 := (ws_t hw 81 20 9 (by decide) (by decide) (by decide +kernel)).1
theorem wn_81 {h : PH} (hw : WS h) : hN h 81 = 9 := (ws_t hw 81 20 9 (by decide) (by decide) (by decide +kernel)).2
theorem wt_82 {h : PH} (hw : WS h) : hT h 82 = 20 := (ws_t hw 82 20 9 (by decide) (by decide) (by decide +kernel)).1
theorem wn_82 {h : PH} (hw : WS h) : hN h 82 = 9 := (ws_t hw 82 20 9 (by decide) (by decide) (by decide +kernel)).2
theorem wt_83 {h : PH} (hw : WS h) : hT h 83 = 20 := (ws_t hw 83 20 9 (by decide) (by decide) (by decide +kernel)).1
theorem wn_83 {h : PH} (hw : WS h) : hN h 83 = 9 := (ws_t hw 83 20 9 (by decide) (by decide) (by decide +kernel)).2
theorem wt_84 {h : PH} (hw : WS h) : hT h 84 = 20 := (ws_t hw 84 20 9 (by decide) (by decide) (by decide +kernel)).1
theorem wn_84 {h : PH} (hw : WS h) : hN h 84 = 9 := (ws_t hw 84 20 9 (by decide) (by decide) (by decide +kernel)).2
theorem wt_85 {h : PH} (hw : WS h) : hT h 85 = 7 := (ws_t hw 85 7 3 (by decide) (by decide) (by decide +kernel)).1
theorem wt_86 {h : PH} (hw : WS h) : hT h 86 = 20 := (ws_t hw 86 20 30 (by decide) (by decide) (by decide +kernel)).1
theorem wn_86 {h : PH} (hw : WS h) : hN h 86 = 30 := (ws_t hw 86 20 30 (by decide) (by decide) (by decide +kernel)).2
theorem wt_87 {h : PH} (hw : WS h) : hT h 87 = 20 := (ws_t hw 87 20 30 (by decide) (by decide) (by decide +kernel)).1
theorem wn_87 {h : PH} (hw : WS h) : hN h 87 = 30 := (ws_t hw 87 20 30 (by decide) (by decide) (by decide +kernel)).2
theorem wt_88 {h : PH} (hw : WS h) : hT h 88 = 20 := (ws_t hw 88 20 8 (by decide) (by decide) (by decide +kernel)).1
theorem wn_88 {h : PH} (hw : WS h) : hN h 88 = 8 := (ws_t hw 88 20 8 (by decide) (by decide) (by decide +kernel)).2
theorem wt_89 {h : PH} (hw : WS h) : hT h 89 = 20 := (ws_t hw 89 20 13 (by decide) (by decide) (by decide +kernel)).1
theorem wn_89 {h : PH} (hw : WS h) : hN h 89 = 13 := (ws_t hw 89 20 13 (by decide) (by decide) (by decide +kernel)).2
theorem wt_90 {h : PH} (hw : WS h) : hT h 90 = 27 := (ws_t hw 90 27 3 (by decide) (by decide) (by decide +kernel)).1
theorem wn_90 {h : PH} (hw : WS h) : hN h 90 = 3 := (ws_t hw 90 27 3 (by decide) (by decide) (by decide +kernel)).2
theorem wt_91 {h : PH} (hw : WS h) : hT h 91 = 20 := (ws_t hw 91 20 13 (by decide) (by decide) (by decide +kernel)).1
theorem wn_91 {h : PH} (hw : WS h) : hN h 91 = 13 := (ws_t hw 91 20 13 (by decide) (by decide) (by decide +kernel)).2
theorem wt_92 {h : PH} (hw : WS h) : hT h 92 = 20 := (ws_t hw 92 20 13 (by decide) (by decide) (by decide +kernel)).1
theorem wn_92 {h : PH} (hw : WS h) : hN h 92 = 13 := (ws_t hw 92 20 13 (by decide) (by decide) (by decide +kernel)).2
theorem wt_93 {h : PH} (hw : WS h) : hT h 93 = 20 := (ws_t hw 93 20 13 (by decide) (by decide) (by decide +kernel)).1
theorem wn_93 {h : PH} (hw : WS h) : hN h 93 = 13 := (ws_t hw 93 20 13 (by decide) (by decide) (by decide +kernel)).2
theorem wt_94 {h : PH} (hw : WS h) : hT h 94 = 22 := (ws_t hw 94 22 3 (by decide) (by decide) (by decide +kernel)).1
theorem wn_94 {h : PH} (hw : WS h) : hN h 94 = 3 := (ws_t hw 94 22 3 (by decide) (by decide) (by decide +kernel)).2
theorem wt_95 {h : PH} (hw : WS h) : hT h 95 = 20 := (ws_t hw 95 20 64 (by decide) (by decide) (by decide +kernel)).1
theorem wn_95 {h : PH} (hw : WS h) : hN h 95 = 64 := (ws_t hw 95 20 64 (by decide) (by decide) (by decide +kernel)).2
theorem wt_96 {h : PH} (hw : WS h) : hT h 96 = 8 := (ws_t hw 96 8 13 (by decide) (by decide) (by decide +kernel)).1
theorem wt_97 {h : PH} (hw : WS h) : hT h 97 = 20 := (ws_t hw 97 20 400 (by decide) (by decide) (by decide +kernel)).1
theorem wn_97 {h : PH} (hw : WS h) : hN h 97 = 400 := (ws_t hw 97 20 400 (by decide) (by decide) (by decide +kernel)).2
theorem wt_98 {h : PH} (hw : WS h) : hT h 98 = 20 := (ws_t hw 98 20 400 (by decide) (by decide) (by decide +kernel)).1
theorem wn_98 {h : PH} (hw : WS h) : hN h 98 = 400 := (ws_t hw 98 20 400 (by decide) (by decide) (by decide +kernel)).2
theorem wt_99 {h : PH} (hw : WS h) : hT h 99 = 20 := (ws_t hw 99 20 400 (by decide) (by decide) (by decide +kernel)).1
theorem wn_99 {h : PH} (hw : WS h) : hN h 99 = 400 := (ws_t hw 99 20 400 (by decide) (by decide) (by decide +kernel)).2
theorem wt_100 {h : PH} (hw : WS h) : hT h 100 = 23 := (ws_t hw 100 23 400 (by decide) (by decide) (by decide +kernel)).1
theorem wn_100 {h : PH} (hw : WS h) : hN h 100 = 400 := (ws_t hw 100 23 400 (by decide) (by decide) (by decide +kernel)).2
theorem wt_101 {h : PH} (hw : WS h) : hT h 101 = 20 := (ws_t hw 101 20 13 (by decide) (by decide) (by decide +kernel)).1
theorem wn_101 {h : PH} (hw : WS h) : hN h 101 = 13 := (ws_t hw 101 20 13 (by decide) (by decide) (by decide +kernel)).2
theorem wt_102 {h : PH} (hw : WS h) : hT h 102 = 23 := (ws_t hw 102 23 8 (by decide) (by decide) (by decide +kernel)).1
theorem wn_102 {h : PH} (hw : WS h) : hN h 102 = 8 := (ws_t hw 102 23 8 (by decide) (by decide) (by decide +kernel)).2
theorem wt_103 {h : PH} (hw : WS h) : hT h 103 = 20 := (ws_t hw 103 20 8 (by decide) (by decide) (by decide +kernel)).1
theorem wn_103 {h : PH} (hw : WS h) : hN h 103 = 8 := (ws_t hw 103 20 8 (by decide) (by decide) (by decide +kernel)).2
theorem wt_104 {h : PH} (hw : WS h) : hT h 104 = 20 := (ws_t hw 104 20 8 (by decide) (by decide) (by decide +kernel)).1
theorem wn_104 {h : PH} (hw : WS h) : hN h 104 = 8 := (ws_t hw 104 20 8 (by decide) (by decide) (by decide +kernel)).2
theorem wt_105 {h : PH} (hw : WS h) : hT h 105 = 22 := (ws_t hw 105 22 8 (by decide) (by decide) (by decide +kernel)).1
theorem wn_105 {h : PH} (hw : WS h) : hN h 105 = 8 := (ws_t hw 105 22 8 (by decide) (by decide) (by decide +kernel)).2
theorem wt_106 {h : PH} (hw : WS h) : hT h 106 = 8 := (ws_t hw 106 8 13 (by decide) (by decide) (by decide +kernel)).1
theorem wt_107 {h : PH} (hw : WS h) : hT h 107 = 20 := (ws_t hw 107 20 400 (by decide) (by decide) (by decide +kernel)).1
theorem wn_107 {h : PH} (hw : WS h) : hN h 107 = 400 := (ws_t hw 107 20 400 (by decide) (by decide) (by decide +kernel)).2
theorem wt_108 {h : PH} (hw : WS h) : hT h 108 = 20 := (ws_t hw 108 20 400 (by decide) (by decide) (by decide +kernel)).1
theorem wn_108 {h : PH} (hw : WS h) : hN h 108 = 400 := (ws_t hw 108 20 400 (by decide) (by decide) (by decide +kernel)).2
theorem wt_109 {h : PH} (hw : WS h) : hT h 109 = 20 := (ws_t hw 109 20 400 (by decide) (by decide) (by decide +kernel)).1
theorem wn_109 {h : PH} (hw : WS h) : hN h 109 = 400 := (ws_t hw 109 20 400 (by decide) (by decide) (by decide +kernel)).2
theorem wt_110 {h : PH} (hw : WS h) : hT h 110 = 23 := (ws_t hw 110 23 400 (by decide) (by decide) (by decide +kernel)).1
theorem wn_110 {h : PH} (hw : WS h) : hN h 110 = 400 := (ws_t hw 110 23 400 (by decide) (by decide) (by decide +kernel)).2
theorem wt_111 {h : PH} (hw : WS h) : hT h 111 = 20 := (ws_t hw 111 20 13 (by decide) (by decide) (by decide +kernel)).1
theorem wn_111 {h : PH} (hw : WS h) : hN h 111 = 13 := (ws_t hw 111 20 13 (by decide) (by decide) (by decide +kernel)).2
theorem wt_112 {h : PH} (hw : WS h) : hT h 112 = 23 := (ws_t hw 112 23 8 (by decide) (by decide) (by decide +kernel)).1
theorem wn_112 {h : PH} (hw : WS h) : hN h 112 = 8 := (ws_t hw 112 23 8 (by decide) (by decide) (by decide +kernel)).2
theorem wt_113 {h : PH} (hw : WS h) : hT h 113 = 20 := (ws_t hw 113 20 8 (by decide) (by decide) (by decide +kernel)).1
theorem wn_113 {h : PH} (hw : WS h) : hN h 113 = 8 := (ws_t hw 113 20 8 (by decide) (by decide) (by decide +kernel)).2
theorem wt_114 {h : PH} (hw : WS h) : hT h 114 = 20 := (ws_t hw 114 20 8 (by decide) (by decide) (by decide +kernel)).1
theorem wn_114 {h : PH} (hw : WS h) : hN h 114 = 8 := (ws_t hw 114 20 8 (by decide) (by decide) (by decide +kernel)).2
theorem wt_115 {h : PH} (hw : WS h) : hT h 115 = 22 := (ws_t hw 115 22 8 (by decide) (by decide) (by decide +kernel)).1
theorem wn_115 {h : PH} (hw : WS h) : hN h 115 = 8 := (ws_t hw 115 22 8 (by decide) (by decide) (by decide +kernel)).2
theorem wt_116 {h : PH} (hw : WS h) : hT h 116 = 10 := (ws_t hw 116 10 50 (by decide) (by decide) (by decide +kernel)).1
theorem wt_117 {h : PH} (hw : WS h) : hT h 117 = 21 := (ws_t hw 117 21 2000 (by decide) (by decide) (by decide +kernel)).1
theorem wn_117 {h : PH} (hw : WS h) : hN h 117 = 2000 := (ws_t hw 117 21 2000 (by decide) (by decide) (by decide +kernel)).2
theorem wt_118 {h : PH} (hw : WS h) : hT h 118 = 21 := (ws_t hw 118 21 2000 (by decide) (by decide) (by decide +kernel)).1
theorem wn_118 {h : PH} (hw : WS h) : hN h 118 = 2000 := (ws_t hw 118 21 2000 (by decide) (by decide) (by decide +kernel)).2
theorem wt_119 {h : PH} (hw : WS h) : hT h 119 = 20 := (ws_t hw 119 20 403 (by decide) (by decide) (by decide +kernel)).1
theorem wn_119 {h : PH} (hw : WS h) : hN h 119 = 403 := (ws_t hw 119 20 403 (by decide) (by decide) (by decide +kernel)).2
theorem wt_120 {h : PH} (hw : WS h) : hT h 120 = 20 := (ws_t hw 120 20 403 (by decide) (by decide) (by decide +kernel)).1
theorem wn_120 {h : PH} (hw : WS h) : hN h 120 = 403 := (ws_t hw 120 20 403 (by decide) (by decide) (by decide +kernel)).2
theorem wt_121 {h : PH} (hw : WS h) : hT h 121 = 20 := (ws_t hw 121 20 403 (by decide) (by decide) (by decide +kernel)).1
theorem wn_121 {h : PH} (hw : WS h) : hN h 121 = 403 := (ws_t hw 121 20 403 (by decide) (by decide) (by decide +kernel)).2
theorem wt_122 {h : PH} (hw : WS h) : hT h 122 = 23 := (ws_t hw 122 23 403 (by decide) (by decide) (by decide +kernel)).1
theorem wn_122 {h : PH} (hw : WS h) : hN h 122 = 403 := (ws_t hw 122 23 403 (by decide) (by decide) (by decide +kernel)).2
theorem wt_123 {h : PH} (hw : WS h) : hT h 123 = 23 := (ws_t hw 123 23 3 (by decide) (by decide) (by decide +kernel)).1
theorem wn_123 {h : PH} (hw : WS h) : hN h 123 = 3 := (ws_t hw 123 23 3 (by decide) (by decide) (by decide +kernel)).2
theorem wt_124 {h : PH} (hw : WS h) : hT h 124 = 22 := (ws_t hw 124 22 8192 (by decide) (by decide) (by decide +kernel)).1
theorem wn_124 {h : PH} (hw : WS h) : hN h 124 = 8192 := (ws_t hw 124 22 8192 (by decide) (by decide) (by decide +kernel)).2
theorem wt_125 {h : PH} (hw : WS h) : hT h 125 = 20 := (ws_t hw 125 20 13 (by decide) (by decide) (by decide +kernel)).1
theorem wn_125 {h : PH} (hw : WS h) : hN h 125 = 13 := (ws_t hw 125 20 13 (by decide) (by decide) (by decide +kernel)).2
theorem wt_126 {h : PH} (hw : WS h) : hT h 126 = 20 := (ws_t hw 126 20 13 (by decide) (by decide) (by decide +kernel)).1
theorem wn_126 {h : PH} (hw : WS h) : hN h 126 = 13 := (ws_t hw 126 20 13 (by decide) (by decide) (by decide +kernel)).2
theorem wt_127 {h : PH} (hw : WS h) : hT h 127 = 20 := (ws_t hw 127 20 410 (by decide) (by decide) (by decide +kernel)).1
theorem wn_127 {h : PH} (hw : WS h) : hN h 127 = 410 := (ws_t hw 127 20 410 (by decide) (by decide) (by decide +kernel)).2
theorem wt_128 {h : PH} (hw : WS h) : hT h 128 = 20 := (ws_t hw 128 20 410 (by decide) (by decide) (by decide +kernel)).1
theorem wn_128 {h : PH} (hw : WS h) : hN h 128 = 410 := (ws_t hw 128 20 410 (by decide) (by decide) (by decide +kernel)).2
theorem wt_129 {h : PH} (hw : WS h) : hT h 129 = 20 := (ws_t hw 129 20 410 (by decide) (by decide) (by decide +kernel)).1
theorem wn_129 {h : PH} (hw : WS h) : hN h 129 = 410 := (ws_t hw 129 20 410 (by decide) (by decide) (by decide +kernel)).2
theorem wt_130 {h : PH} (hw : WS h) : hT h 130 = 20 := (ws_t hw 130 20 9 (by decide) (by decide) (by decide +kernel)).1
theorem wn_130 {h : PH} (hw : WS h) : hN h 130 = 9 := (ws_t hw 130 20 9 (by decide) (by decide) (by decide +kernel)).2
theorem wt_131 {h : PH} (hw : WS h) : hT h 131 = 20 := (ws_t hw 131 20 8 (by decide) (by decide) (by decide +kernel)).1
theorem wn_131 {h : PH} (hw : WS h) : hN h 131 = 8 := (ws_t hw 131 20 8 (by decide) (by decide) (by decide +kernel)).2
theorem wt_132 {h : PH} (hw : WS h) : hT h 132 = 20 := (ws_t hw 132 20 8 (by decide) (by decide) (by decide +kernel)).1
theorem wn_132 {h : PH} (hw : WS h) : hN h 132 = 8 := (ws_t hw 132 20 8 (by decide) (by decide) (by decide +kernel)).2
theorem wt_133 {h : PH} (hw : WS h) : hT h 133 = 23 := (ws_t hw 133 23 8 (by decide) (by decide) (by decide +kernel)).1
theorem wn_133 {h : PH} (hw : WS h) : hN h 133 = 8 := (ws_t hw 133 23 8 (by decide) (by decide) (by decide +kernel)).2
theorem wt_134 {h : PH} (hw : WS h) : hT h 134 = 20 := (ws_t hw 134 20 410 (by decide) (by decide) (by decide +kernel)).1
theorem wn_134 {h : PH} (hw : WS h) : hN h 134 = 410 := (ws_t hw 134 20 410 (by decide) (by decide) (by decide +kernel)).2
theorem wt_135 {h : PH} (hw : WS h) : hT h 135 = 20 := (ws_t hw 135 20 410 (by decide) (by decide) (by decide +kernel)).1
theorem wn_135 {h : PH} (hw : WS h) : hN h 135 = 410 := (ws_t hw 135 20 410 (by decide) (by decide) (by decide +kernel)).2
theorem wt_136 {h : PH} (hw : WS h) : hT h 136 = 20 := (ws_t hw 136 20 410 (by decide) (by decide) (by decide +kernel)).1
theorem wn_136 {h : PH} (hw : WS h) : hN h 136 = 410 := (ws_t hw 136 20 410 (by decide) (by decide) (by decide +kernel)).2
theorem wt_137 {h : PH} (hw : WS h) : hT h 137 = 20 := (ws_t hw 137 20 26 (by decide) (by decide) (by decide +kernel)).1
theorem wn_137 {h : PH} (hw : WS h) : hN h 137 = 26 := (ws_t hw 137 20 26 (by decide) (by decide) (by decide +kernel)).2
theorem wt_138 {h : PH} (hw : WS h) : hT h 138 = 20 := (ws_t hw 138 20 13 (by decide) (by decide) (by decide +kernel)).1
theorem wn_138 {h : PH} (hw : WS h) : hN h 138 = 13 := (ws_t hw 138 20 13 (by decide) (by decide) (by decide +kernel)).2
theorem wt_139 {h : PH} (hw : WS h) : hT h 139 = 20 := (ws_t hw 139 20 400 (by decide) (by decide) (by decide +kernel)).1
theorem wn_139 {h : PH} (hw : WS h) : hN h 139 = 400 := (ws_t hw 139 20 400 (by decide) (by decide) (by decide +kernel)).2
theorem wt_140 {h : PH} (hw : WS h) : hT h 140 = 20 := (ws_t hw 140 20 410 (by decide) (by decide) (by decide +kernel)).1
theorem wn_140 {h : PH} (hw : WS h) : hN h 140 = 410 := (ws_t hw 140 20 410 (by decide) (by decide) (by decide +kernel)).2
theorem wt_141 {h : PH} (hw : WS h) : hT h 141 = 20 := (ws_t hw 141 20 390 (by decide) (by decide) (by decide +kernel)).1
theorem wn_141 {h : PH} (hw : WS h) : hN h 141 = 390 := (ws_t hw 141 20 390 (by decide) (by decide) (by decide +kernel)).2
theorem wt_142 {h : PH} (hw : WS h) : hT h 142 = 20 := (ws_t hw 142 20 39 (by decide) (by decide) (by decide +kernel)).1
theorem wn_142 {h : PH} (hw : WS h) : hN h 142 = 39 := (ws_t hw 142 20 39 (by decide) (by decide) (by decide +kernel)).2
theorem wt_143 {h : PH} (hw : WS h) : hT h 143 = 22 := (ws_t hw 143 22 3 (by decide) (by decide) (by decide +kernel)).1
theorem wn_143 {h : PH} (hw : WS h) : hN h 143 = 3 := (ws_t hw 143 22 3 (by decide) (by decide) (by decide +kernel)).2
theorem wt_144 {h : PH} (hw : WS h) : hT h 144 = 20 := (ws_t hw 144 20 169 (by decide) (by decide) (by decide +kernel)).1
theorem wn_144 {h : PH} (hw : WS h) : hN h 144 = 169 := (ws_t hw 144 20 169 (by decide) (by decide) (by decide +kernel)).2
theorem wt_145 {h : PH} (hw : WS h) : hT h 145 = 20 := (ws_t hw 145 20 12 (by decide) (by decide) (by decide +kernel)).1
theorem wn_145 {h : PH} (hw : WS h) : hN h 145 = 12 := (ws_t hw 145 20 12 (by decide) (by decide) (by decide +kernel)).2
theorem wt_146 {h : PH} (hw : WS h) : hT h 146 = 20 := (ws_t hw 146 20 12 (by decide) (by decide) (by decide +kernel)).1
theorem wn_146 {h : PH} (hw : WS h) : hN h 146 = 12 := (ws_t hw 146 20 12 (by decide) (by decide) (by decide +kernel)).2
theorem wt_147 {h : PH} (hw : WS h) : hT h 147 = 20 := (ws_t hw 147 20 14 (by decide) (by decide) (by decide +kernel)).1
theorem wn_147 {h : PH} (hw : WS h) : hN h 147 = 14 := (ws_t hw 147 20 14 (by decide) (by decide) (by decide +kernel)).2
theorem wt_148 {h : PH} (hw : WS h) : hT h 148 = 20 := (ws_t hw 148 20 80 (by decide) (by decide) (by decide +kernel)).1
theorem wn_148 {h : PH} (hw : WS h) : hN h 148 = 80 := (ws_t hw 148 20 80 (by decide) (by decide) (by decide +kernel)).2
theorem wr_5_0 {h : PH} (hw : WS h) : hR h 5 0 = 6 := hw.2.1 (5, 0, 6) (List.mem_of_elem_eq_true (by decide +kernel))
theorem wr_5_1 {h : PH} (hw : WS h) : hR h 5 1 = 8 := hw.2.1 (5, 1, 8) (List.mem_of_elem_eq_true (by decide +kernel))
theorem wr_5_2 {h : PH} (hw : WS h) : hR h 5 2 = 79 := hw.2.1 (5, 2, 79) (List.mem_of_elem_eq_true (by decide +kernel))
theorem wr_5_3 {h : PH} (hw : WS h) : hR h 5 3 = 85 := hw.2.1 (5, 3, 85) (List.mem_of_elem_eq_true (by decide +kernel))
theorem wr_5_4 {h : PH} (hw : WS h) : hR h 5 4 = 88 := hw.2.1 (5, 4, 88) (List.mem_of_elem_eq_true (by decide +kernel))
theorem wr_5_5 {h : PH} (hw : WS h) : hR h 5 5 = 89 := hw.2.1 (5, 5, 89) (List.mem_of_elem_eq_true (by decide +kernel))
theorem wr_5_6 {h : PH} (hw : WS h) : hR h 5 6 = 90 := hw.2.1 (5, 6, 90) (List.mem_of_elem_eq_true (by decide +kernel))
theorem wr_5_7 {h : PH} (hw : WS h) : hR h 5 7 = 94 := hw.2.1 (5, 7, 94) (List.mem_of_elem_eq_true (by decide +kernel))
theorem wr_5_8 {h : PH} (hw : WS h) : hR h 5 8 = 95 := hw.2.1 (5, 8, 95) (List.mem_of_elem_eq_true (by decide +kernel))
theorem wr_6_0 {h : PH} (hw : WS h) : hR h 6 0 = 7 := hw.2.1 (6, 0, 7) (List.mem_of_elem_eq_true (by decide +kernel))
theorem wr_8_0 {h : PH} (hw : WS h) : hR h 8 0 = 9 := hw.2.1 (8, 0, 9) (List.mem_of_elem_eq_true (by decide +kernel))
theorem wr_8_1 {h : PH} (hw : WS h) : hR h 8 1 = 10 := hw.2.1 (8, 1, 10) (List.mem_of_elem_eq_true (by decide +kernel))
theorem wr_8_2 {h : PH} (hw : WS h) : hR h 8 2 = 11 := hw.2.1 (8, 2, 11) (List.mem_of_elem_eq_true (by decide +kernel))
theorem wr_8_3 {h : PH} (hw : WS h) : hR h 8 3 = 12 := hw.2.1 (8, 3, 12) (List.mem_of_elem_eq_true (by decide +kernel))
theorem wr_8_4 {h : PH} (hw : WS h) : hR h 8 4 = 15 := hw.2.1 (8, 4, 15) (List.mem_of_elem_eq_true (by decide +kernel))
theorem wr_8_5 {h : PH} (hw : WS h) : hR h 8 5 = 29 := hw.2.1 (8, 5, 29) (List.mem_of_elem_eq_true (by decide +kernel))
theorem wr_8_6 {h : PH} (hw : WS h) : hR h 8 6 = 30 := hw.2.1 (8, 6, 30) (List.mem_of_elem_eq_true (by decide +kernel))
theorem wr_9_1 {h : PH} (hw : WS h) : hR h 9 1 = 31 := hw.2.1 (9, 1, 31) (List.mem_of_elem_eq_true (by decide +kernel))
theorem wr_9_2 {h : PH} (hw : WS h) : hR h 9 2 = 35 := hw.2.1 (9, 2, 35) (List.mem_of_elem_eq_true (by decide +kernel))
theorem wr_9_3 {h : PH} (hw : WS h) : hR h 9 3 = 39 := hw.2.1 (9, 3, 39) (List.mem_of_elem_eq_true (by decide +kernel))
theorem wr_9_4 {h : PH} (hw : WS h) : hR h 9 4 = 43 := hw.2.1 (9, 4, 43) (List.mem_of_elem_eq_true (by decide +kernel))
theorem wr_9_5 {h : PH} (hw : WS h) : hR h 9 5 = 47 := hw.2.1 (9, 5, 47) (List.mem_of_elem_eq_true (by decide +kernel))
theorem wr_9_6 {h : PH} (hw : WS h) : hR h 9 6 = 51 := hw.2.1 (9, 6, 51) (List.mem_of_elem_eq_true (by decide +kernel))
theorem wr_9_7 {h : PH} (hw : WS h) : hR h 9 7 = 55 := hw.2.1 (9, 7, 55) (List.mem_of_elem_eq_true (by decide +kernel))
theorem wr_9_8 {h : PH} (hw : WS h) : hR h 9 8 = 59 := hw.2.1 (9, 8, 59) (List.mem_of_elem_eq_true (by decide +kernel))
theorem wr_9_9 {h : PH} (hw : WS h) : hR h 9 9 = 63 := hw.2.1 (9, 9, 63) (List.mem_of_elem_eq_true (by decide +kernel))
theorem wr_9_10 {h : PH} (hw : WS h) : hR h 9 10 = 67 := hw.2.1 (9, 10, 67) (List.mem_of_elem_eq_true (by decide +kernel))
theorem wr_9_11 {h : PH} (hw : WS h) : hR h 9 11 = 71 := hw.2.1 (9, 11, 71) (List.mem_of_elem_eq_true (by decide +kernel))
theorem wr_9_12 {h : PH} (hw : WS h) : hR h 9 12 = 75 := hw.2.1 (9, 12, 75) (List.mem_of_elem_eq_true (by decide +kernel))
theorem wr_10_1 {h : PH} (hw : WS h) : hR h 10 1 = 33 := hw.2.1 (10, 1, 33) (List.mem_of_elem_eq_true (by decide +kernel))
theorem wr_10_2 {h : PH} (hw : WS h) : hR h 10 2 = 37 := hw.2.1 (10, 2, 37) (List.mem_of_elem_eq_true (by decide +kernel))
theorem wr_10_3 {h : PH} (hw : WS h) : hR h 10 3 = 41 := hw.2.1 (10, 3, 41) (List.mem_of_elem_eq_true (by decide +kernel))
theorem wr_10_4 {h : PH} (hw : WS h) : hR h 10 4 = 45 := hw.2.1 (10, 4, 45) (List.mem_of_elem_eq_true (by decide +kernel))
theorem wr_10_5 {h : PH} (hw : WS h) : hR h 10 5 = 49 := hw.2.1 (10, 5, 49) (List.mem_of_elem_eq_true (by decide +kernel))
theorem wr_10_6 {h : PH} (hw : WS h) : hR h 10 6 = 53 := hw.2.1 (10, 6, 53) (List.mem_of_elem_eq_true (by decide +kernel))
theorem wr_10_7 {h : PH} (hw : WS h) : hR h 10 7 = 57 := hw.2.1 (10, 7, 57) (List.mem_of_elem_eq_true (by decide +kernel))
theorem wr_10_8 {h : PH} (hw : WS h) : hR h 10 8 = 61 := hw.2.1 (10, 8, 61) (List.mem_of_elem_eq_true (by decide +kernel))
theorem wr_10_9 {h : PH} (hw : WS h) : hR h 10 9 = 65 := hw.2.1 (10, 9, 65) (List.mem_of_elem_eq_true (by decide +kernel))
theorem wr_10_10 {h : PH} (hw : WS h) : hR h 10 10 = 69 := hw.2.1 (10, 10, 69) (List.mem_of_elem_eq_true (by decide +kernel))
theorem wr_10_11 {h : PH} (hw : WS h) : hR h 10 11 = 73 := hw.2.1 (10, 11, 73) (List.mem_of_elem_eq_true (by decide +kernel))
theorem wr_10_12 {h : PH} (hw : WS h) : hR h 10 12 = 77 := hw.2.1 (10, 12, 77) (List.mem_of_elem_eq_true (by decide +kernel))
theorem wr_11_1 {h : PH} (hw : WS h) : hR h 11 1 = 34 := hw.2.1 (11, 1, 34) (List.mem_of_elem_eq_true (by decide +kernel))
theorem wr_11_2 {h : PH} (hw : WS h) : hR h 11 2 = 38 := hw.2.1 (11, 2, 38) (List.mem_of_elem_eq_true (by decide +kernel))
theorem wr_11_3 {h : PH} (hw : WS h) : hR h 11 3 = 42 := hw.2.1 (11, 3, 42) (List.mem_of_elem_eq_true (by decide +kernel))
theorem wr_11_4 {h : PH} (hw : WS h) : hR h 11 4 = 46 := hw.2.1 (11, 4, 46) (List.mem_of_elem_eq_true (by decide +kernel))
theorem wr_11_5 {h : PH} (hw : WS h) : hR h 11 5 = 50 := hw.2.1 (11, 5, 50) (List.mem_of_elem_eq_true (by decide +kernel))
theorem wr_11_6 {h : PH} (hw : WS h) : hR h 11 6 = 54 := hw.2.1 (11, 6, 54) (List.mem_of_elem_eq_true (by decide +kernel))
theorem wr_11_7 {h : PH} (hw : WS h) : hR h 11 7 = 58 := hw.2.1 (11, 7, 58) (List.mem_of_elem_eq_true (by decide +kernel))
theorem wr_11_8 {h : PH} (hw : WS h) : hR h 11 8 = 62 := hw.2.1 (11, 8, 62) (List.mem_of_elem_eq_true (by decide +kernel))
theorem wr_11_9 {h : PH} (hw : WS h) : hR h 11 9 = 66 := hw.2.1 (11, 9, 66) (List.mem_of_elem_eq_true (by decide +kernel))
theorem wr_11_10 {h : PH} (hw : WS h) : hR h 11 10 = 70 := hw.2.1 (11, 10, 70) (List.mem_of_elem_eq_true (by decide +kernel))
theorem wr_11_11 {h : PH} (hw : WS h) : hR h 11 11 = 74 := hw.2.1 (11, 11, 74) (List.mem_of_elem_eq_true (by decide +kernel))
theorem wr_11_12 {h : PH} (hw : WS h) : hR h 11 12 = 78 := hw.2.1 (11, 12, 78) (List.mem_of_elem_eq_true (by decide +kernel))
theorem wr_12_0 {h : PH} (hw : WS h) : hR h 12 0 = 13 := hw.2.1 (12, 0, 13) (List.mem_of_elem_eq_true (by decide +kernel))
theorem wr_12_1 {h : PH} (hw : WS h) : hR h 12 1 = 14 := hw.2.1 (12, 1, 14) (List.mem_of_elem_eq_true (by decide +kernel))
theorem wr_15_0 {h : PH} (hw : WS h) : hR h 15 0 = 16 := hw.2.1 (15, 0, 16) (List.mem_of_elem_eq_true (by decide +kernel))
theorem wr_15_1 {h : PH} (hw : WS h) : hR h 15 1 = 17 := hw.2.1 (15, 1, 17) (List.mem_of_elem_eq_true (by decide +kernel))
theorem wr_15_2 {h : PH} (hw : WS h) : hR h 15 2 = 18 := hw.2.1 (15, 2, 18) (List.mem_of_elem_eq_true (by decide +kernel))
theorem wr_15_3 {h : PH} (hw : WS h) : hR h 15 3 = 19 := hw.2.1 (15, 3, 19) (List.mem_of_elem_eq_true (by decide +kernel))
theorem wr_15_4 {h : PH} (hw : WS h) : hR h 15 4 = 20 := hw.2.1 (15, 4, 20) (List.mem_of_elem_eq_true (by decide +kernel))
theorem wr_15_5 {h : PH} (hw : WS h) : hR h 15 5 = 21 := hw.2.1 (15, 5, 21) (List.mem_of_elem_eq_true (by decide +kernel))
theorem wr_15_6 {h : PH} (hw : WS h) : hR h 15 6 = 22 := hw.2.1 (15, 6, 22) (List.mem_of_elem_eq_true (by decide +kernel))
theorem wr_15_7 {h : PH} (hw : WS h) : hR h 15 7 = 23 := hw.2.1 (15, 7, 23) (List.mem_of_elem_eq_true (by decide +kernel))
theorem wr_15_8 {h : PH} (hw : WS h) : hR h 15 8 = 24 := hw.2.1 (15, 8, 24) (List.mem_of_elem_eq_true (by decide +kernel))
theorem wr_15_9 {h : PH} (hw : WS h) : hR h 15 9 = 25 := hw.2.1 (15, 9, 25) (List.mem_of_elem_eq_true (by decide +kernel))
theorem wr_15_10 {h : PH} (hw : WS h) : hR h 15 10 = 26 := hw.2.1 (15, 10, 26) (List.mem_of_elem_eq_true (by decide +kernel))
theorem wr_15_11 {h : PH} (hw : WS h) : hR h 15 11 = 27 := hw.2.1 (15, 11, 27) (List.mem_of_elem_eq_true (by decide +kernel))
theorem wr_15_12 {h : PH} (hw : WS h) : hR h 15 12 = 28 := hw.2.1 (15, 12, 28) (List.mem_of_elem_eq_true (by decide +kernel))
theorem wr_31_3 {h : PH} (hw : WS h) : hR h 31 3 = 32 := hw.2.1 (31, 3, 32) (List.mem_of_elem_eq_true (by decide +kernel))
theorem wr_33_0 {h : PH} (hw : WS h) : hR h 33 0 = 31 := hw.2.1 (33, 0, 31) (List.mem_of_elem_eq_true (by decide +kernel))
theorem wr_34_0 {h : PH} (hw : WS h) : hR h 34 0 = 31 := hw.2.1 (34, 0, 31) (List.mem_of_elem_eq_true (by decide +kernel))
theorem wr_34_1 {h : PH} (hw : WS h) : hR h 34 1 = 12 := hw.2.1 (34, 1, 12) (List.mem_of_elem_eq_true (by decide +kernel))
theorem wr_35_3 {h : PH} (hw : WS h) : hR h 35 3 = 36 := hw.2.1 (35, 3, 36) (List.mem_of_elem_eq_true (by decide +kernel))
theorem wr_37_0 {h : PH} (hw : WS h) : hR h 37 0 = 35 := hw.2.1 (37, 0, 35) (List.mem_of_elem_eq_true (by decide +kernel))
theorem wr_38_0 {h : PH} (hw : WS h) : hR h 38 0 = 35 := hw.2.1 (38, 0, 35) (List.mem_of_elem_eq_true (by decide +kernel))
theorem wr_38_1 {h : PH} (hw : WS h) : hR h 38 1 = 12 := hw.2.1 (38, 1, 12) (List.mem_of_elem_eq_true (by decide +kernel))
theorem wr_39_3 {h : PH} (hw : WS h) : hR h 39 3 = 40 := hw.2.1 (39, 3, 40) (List.mem_of_elem_eq_true (by decide +kernel))
theorem wr_41_0 {h : PH} (hw : WS h) : hR h 41 0 = 39 := hw.2.1 (41, 0, 39) (List.mem_of_elem_eq_true (by decide +kernel))
theorem wr_42_0 {h : PH} (hw : WS h) : hR h 42 0 = 39 := hw.2.1 (42, 0, 39) (List.mem_of_elem_eq_true (by decide +kernel))
theorem wr_42_1 {h : PH} (hw : WS h) : hR h 42 1 = 12 := hw.2.1 (42, 1, 12) (List.mem_of_elem_eq_true (by decide +kernel))
theorem wr_43_3 {h : PH} (hw : WS h) : hR h 43 3 = 44 := hw.2.1 (43, 3, 44) (List.mem_of_elem_eq_true (by decide +kernel))
theorem wr_45_0 {h : PH} (hw : WS h) : hR h 45 0 = 43 := hw.2.1 (45, 0, 43) (List.mem_of_elem_eq_true (by decide +kernel))
theorem wr_46_0 {h : PH} (hw : WS h) : hR h 46 0 = 43 := hw.2.1 (46, 0, 43) (List.mem_of_elem_eq_true (by decide +kernel))
theorem wr_46_1 {h : PH} (hw : WS h) : hR h 46 1 = 12 := hw.2.1 (46, 1, 12) (List.mem_of_elem_eq_true (by decide +kernel))
theorem wr_47_3 {h : PH} (hw : WS h) : hR h 47 3 = 48 := hw.2.1 (47, 3, 48) (List.mem_of_elem_eq_true (by decide +kernel))
theorem wr_49_0 {h : PH} (hw : WS h) : hR h 49 0 = 47 := hw.2.1 (49, 0, 47) (List.mem_of_elem_eq_true (by decide +kernel))
theorem wr_50_0 {h : PH} (hw : WS h) : hR h 50 0 = 47 := hw.2.1 (50, 0, 47) (List.mem_of_elem_eq_true (by decide +kernel))
theorem wr_50_1 {h : PH} (hw : WS h) : hR h 50 1 = 12 := hw.2.1 (50, 1, 12) (List.mem_of_elem_eq_true (by decide +kernel))
theorem wr_51_3 {h : PH} (hw : WS h) : hR h 51 3 = 52 := hw.2.1 (51, 3, 52) (List.mem_of_elem_eq_true (by decide +kernel))
theorem wr_53_0 {h : PH} (hw : WS h) : hR h 53 0 = 51 := hw.2.1 (53, 0, 51) (List.mem_of_elem_eq_true (by decide +kernel))
theorem wr_54_0 {h : PH} (hw : WS h) : hR h 54 0 = 51 := hw.2.1 (54, 0, 51) (List.mem_of_elem_eq_true (by decide +kernel))
theorem wr_54_1 {h : PH} (hw : WS h) : hR h 54 1 = 12 := hw.2.1 (54, 1, 12) (List.mem_of_elem_eq_true (by decide +kernel))
theorem wr_55_3 {h : PH} (hw : WS h) : hR h 55 3 = 56 := hw.2.1 (55, 3, 56) (List.mem_of_elem_eq_true (by decide +kernel))
theorem wr_57_0 {h : PH} (hw : WS h) : hR h 57 0 = 55 := hw.2.1 (57, 0, 55) (List.mem_of_elem_eq_true (by decide +kernel))
theorem wr_58_0 {h : PH} (hw : WS h) : hR h 58 0 = 55 := hw.2.1 (58, 0, 55) (List.mem_of_elem_eq_true (by decide +kernel))
theorem wr_58_1 {h : PH} (hw : WS h) : hR h 58 1 = 12 := hw.2.1 (58, 1, 12) (List.mem_of_elem_eq_true (by decide +kernel))
theorem wr_59_3 {h : PH} (hw : WS h) : hR h 59 3 = 60 := hw.2.1 (59, 3, 60) (List.mem_of_elem_eq_true (by decide +kernel))
theorem wr_61_0 {h : PH} (hw : WS h) : hR h 61 0 = 59 := hw.2.1 (61, 0, 59) (List.mem_of_elem_eq_true (by decide +kernel))
theorem wr_62_0 {h : PH} (hw : WS h) : hR h 62 0 = 59 := hw.2.1 (62, 0, 59) (List.mem_of_elem_eq_true (by decide +kernel))
theorem wr_62_1 {h : PH} (hw : WS h) : hR h 62 1 = 12 := hw.2.1 (62, 1, 12) (List.mem_of_elem_eq_true (by decide +kernel))
theorem wr_63_3 {h : PH} (hw : WS h) : hR h 63 3 = 64 := hw.2.1 (63, 3, 64) (List.mem_of_elem_eq_true (by decide +kernel))
theorem wr_65_0 {h : PH} (hw : WS h) : hR h 65 0 = 63 := hw.2.1 (65, 0, 63) (List.mem_of_elem_eq_true (by decide +kernel))
theorem wr_66_0 {h : PH} (hw : WS h) : hR h 66 0 = 63 := hw.2.1 (66, 0, 63) (List.mem_of_elem_eq_true (by decide +kernel))
theorem wr_66_1 {h : PH} (hw : WS h) : hR h 66 1 = 12 := hw.2.1 (66, 1, 12) (List.mem_of_elem_eq_true (by decide +kernel))
theorem wr_67_3 {h : PH} (hw : WS h) : hR h 67 3 = 68 := hw.2.1 (67, 3, 68) (List.mem_of_elem_eq_true (by decide +kernel))
theorem wr_69_0 {h : PH} (hw : WS h) : hR h 69 0 = 67 := hw.2.1 (69, 0, 67) (List.mem_of_elem_eq_true (by decide +kernel))
theorem wr_70_0 {h : PH} (hw : WS h) : hR h 70 0 = 67 := hw.2.1 (70, 0, 67) (List.mem_of_elem_eq_true (by decide +kernel))
theorem wr_70_1 {h : PH} (hw : WS h) : hR h 70 1 = 12 := hw.2.1 (70, 1, 12) (List.mem_of_elem_eq_true (by decide +kernel))
theorem wr_71_3 {h : PH} (hw : WS h) : hR h 71 3 = 72 := hw.2.1 (71, 3, 72) (List.mem_of_elem_eq_true (by decide +kernel))
theorem wr_73_0 {h : PH} (hw : WS h) : hR h 73 0 = 71 := hw.2.1 (73, 0, 71) (List.mem_of_elem_eq_true (by decide +kernel))
theorem wr_74_0 {h : PH} (hw : WS h) : hR h 74 0 = 71 := hw.2.1 (74, 0, 71) (List.mem_of_elem_eq_true (by decide +kernel))
theorem wr_74_1 {h : PH} (hw : WS h) : hR h 74 1 = 12 := hw.2.1 (74, 1, 12) (List.mem_of_elem_eq_true (by decide +kernel))
theorem wr_75_3 {h : PH} (hw : WS h) : hR h 75 3 = 76 := hw.2.1 (75, 3, 76) (List.mem_of_elem_eq_true (by decide +kernel))
theorem wr_77_0 {h : PH} (hw : WS h) : hR h 77 0 = 75 := hw.2.1 (77, 0, 75) (List.mem_of_elem_eq_true (by decide +kernel))
theorem wr_78_0 {h : PH} (hw : WS h) : hR h 78 0 = 75 := hw.2.1 (78, 0, 75) (List.mem_of_elem_eq_true (by decide +kernel))
theorem wr_78_1 {h : PH} (hw : WS h) : hR h 78 1 = 12 := hw.2.1 (78, 1, 12) (List.mem_of_elem_eq_true (by decide +kernel))
theorem wr_79_0 {h : PH} (hw : WS h) : hR h 79 0 = 80 := hw.2.1 (79, 0, 80) (List.mem_of_elem_eq_true (by decide +kernel))
theorem wr_79_2 {h : PH} (hw : WS h) : hR h 79 2 = 81 := hw.2.1 (79, 2, 81) (List.mem_of_elem_eq_true (by decide +kernel))
theorem wr_79_3 {h : PH} (hw : WS h) : hR h 79 3 = 82 := hw.2.1 (79, 3, 82) (List.mem_of_elem_eq_true (by decide +kernel))
theorem wr_79_4 {h : PH} (hw : WS h) : hR h 79 4 = 83 := hw.2.1 (79, 4, 83) (List.mem_of_elem_eq_true (by decide +kernel))
theorem wr_79_5 {h : PH} (hw : WS h) : hR h 79 5 = 84 := hw.2.1 (79, 5, 84) (List.mem_of_elem_eq_true (by decide +kernel))
theorem wr_85_0 {h : PH} (hw : WS h) : hR h 85 0 = 86 := hw.2.1 (85, 0, 86) (List.mem_of_elem_eq_true (by decide +kernel))
theorem wr_85_1 {h : PH} (hw : WS h) : hR h 85 1 = 87 := hw.2.1 (85, 1, 87) (List.mem_of_elem_eq_true (by decide +kernel))
theorem wr_90_0 {h : PH} (hw : WS h) : hR h 90 0 = 91 := hw.2.1 (90, 0, 91) (List.mem_of_elem_eq_true (by decide +kernel))
theorem wr_90_1 {h : PH} (hw : WS h) : hR h 90 1 = 92 := hw.2.1 (90, 1, 92) (List.mem_of_elem_eq_true (by decide +kernel))
theorem wr_90_2 {h : PH} (hw : WS h) : hR h 90 2 = 93 := hw.2.1 (90, 2, 93) (List.mem_of_elem_eq_true (by decide +kernel))
theorem wr_96_1 {h : PH} (hw : WS h) : hR h 96 1 = 97 := hw.2.1 (96, 1, 97) (List.mem_of_elem_eq_true (by decide +kernel))
theorem wr_96_2 {h : PH} (hw : WS h) : hR h 96 2 = 98 := hw.2.1 (96, 2, 98) (List.mem_of_elem_eq_true (by decide +kernel))
theorem wr_96_3 {h : PH} (hw : WS h) : hR h 96 3 = 99 := hw.2.1 (96, 3, 99) (List.mem_of_elem_eq_true (by decide +kernel))
theorem wr_96_4 {h : PH} (hw : WS h) : hR h 96 4 = 100 := hw.2.1 (96, 4, 100) (List.mem_of_elem_eq_true (by decide +kernel))
theorem wr_96_5 {h : PH} (hw : WS h) : hR h 96 5 = 101 := hw.2.1 (96, 5, 101) (List.mem_of_elem_eq_true (by decide +kernel))
theorem wr_96_7 {h : PH} (hw : WS h) : hR h 96 7 = 102 := hw.2.1 (96, 7, 102) (List.mem_of_elem_eq_true (by decide +kernel))
theorem wr_96_8 {h : PH} (hw : WS h) : hR h 96 8 = 103 := hw.2.1 (96, 8, 103) (List.mem_of_elem_eq_true (by decide +kernel))
theorem wr_96_9 {h : PH} (hw : WS h) : hR h 96 9 = 104 := hw.2.1 (96, 9, 104) (List.mem_of_elem_eq_true (by decide +kernel))
theorem wr_96_10 {h : PH} (hw : WS h) : hR h 96 10 = 105 := hw.2.1 (96, 10, 105) (List.mem_of_elem_eq_true (by decide +kernel))
theorem wr_106_1 {h : PH} (hw : WS h) : hR h 106 1 = 107 := hw.2.1 (106, 1, 107) (List.mem_of_elem_eq_true (by decide +kernel))
theorem wr_106_2 {h : PH} (hw : WS h) : hR h 106 2 = 108 := hw.2.1 (106, 2, 108) (List.mem_of_elem_eq_true (by decide +kernel))
theorem wr_106_3 {h : PH} (hw : WS h) : hR h 106 3 = 109 := hw.2.1 (106, 3, 109) (List.mem_of_elem_eq_true (by decide +kernel))
theorem wr_106_4 {h : PH} (hw : WS h) : hR h 106 4 = 110 := hw.2.1 (106, 4, 110) (List.mem_of_elem_eq_true (by decide +kernel))
theorem wr_106_5 {h : PH} (hw : WS h) : hR h 106 5 = 111 := hw.2.1 (106, 5, 111) (List.mem_of_elem_eq_true (by decide +kernel))
theorem wr_106_7 {h : PH} (hw : WS h) : hR h 106 7 = 112 := hw.2.1 (106, 7, 112) (List.mem_of_elem_eq_true (by decide +kernel))
theorem wr_106_8 {h : PH} (hw : WS h) : hR h 106 8 = 113 := hw.2.1 (106, 8, 113) (List.mem_of_elem_eq_true (by decide +kernel))
theorem wr_106_9 {h : PH} (hw : WS h) : hR h 106 9 = 114 := hw.2.1 (106, 9, 114) (List.mem_of_elem_eq_true (by decide +kernel))
theorem wr_106_10 {h : PH} (hw : WS h) : hR h 106 10 = 115 := hw.2.1 (106, 10, 115) (List.mem_of_elem_eq_true (by decide +kernel))
theorem wr_116_1 {h : PH} (hw : WS h) : hR h 116 1 = 117 := hw.2.1 (116, 1, 117) (List.mem_of_elem_eq_true (by decide +kernel))
theorem wr_116_3 {h : PH} (hw : WS h) : hR h 116 3 = 118 := hw.2.1 (116, 3, 118) (List.mem_of_elem_eq_true (by decide +kernel))
theorem wr_116_5 {h : PH} (hw : WS h) : hR h 116 5 = 119 := hw.2.1 (116, 5, 119) (List.mem_of_elem_eq_true (by decide +kernel))
theorem wr_116_6 {h : PH} (hw : WS h) : hR h 116 6 = 120 := hw.2.1 (116, 6, 120) (List.mem_of_elem_eq_true (by decide +kernel))
theorem wr_116_7 {h : PH} (hw : WS h) : hR h 116 7 = 121 := hw.2.1 (116, 7, 121) (List.mem_of_elem_eq_true (by decide +kernel))
theorem wr_116_8 {h : PH} (hw : WS h) : hR h 116 8 = 122 := hw.2.1 (116, 8, 122) (List.mem_of_elem_eq_true (by decide +kernel))
theorem wr_116_9 {h : PH} (hw : WS h) : hR h 116 9 = 123 := hw.2.1 (116, 9, 123) (List.mem_of_elem_eq_true (by decide +kernel))
theorem wr_116_17 {h : PH} (hw : WS h) : hR h 116 17 = 124 := hw.2.1 (116, 17, 124) (List.mem_of_elem_eq_true (by decide +kernel))
theorem wr_116_18 {h : PH} (hw : WS h) : hR h 116 18 = 125 := hw.2.1 (116, 18, 125) (List.mem_of_elem_eq_true (by decide +kernel))
theorem wr_116_19 {h : PH} (hw : WS h) : hR h 116 19 = 126 := hw.2.1 (116, 19, 126) (List.mem_of_elem_eq_true (by decide +kernel))
theorem wr_116_21 {h : PH} (hw : WS h) : hR h 116 21 = 127 := hw.2.1 (116, 21, 127) (List.mem_of_elem_eq_true (by decide +kernel))
theorem wr_116_22 {h : PH} (hw : WS h) : hR h 116 22 = 128 := hw.2.1 (116, 22, 128) (List.mem_of_elem_eq_true (by decide +kernel))
theorem wr_116_23 {h : PH} (hw : WS h) : hR h 116 23 = 129 := hw.2.1 (116, 23, 129) (List.mem_of_elem_eq_true (by decide +kernel))
theorem wr_116_25 {h : PH} (hw : WS h) : hR h 116 25 = 130 := hw.2.1 (116, 25, 130) (List.mem_of_elem_eq_true (by decide +kernel))
theorem wr_116_26 {h : PH} (hw : WS h) : hR h 116 26 = 131 := hw.2.1 (116, 26, 131) (List.mem_of_elem_eq_true (by decide +kernel))
theorem wr_116_27 {h : PH} (hw : WS h) : hR h 116 27 = 132 := hw.2.1 (116, 27, 132) (List.mem_of_elem_eq_true (by decide +kernel))
theorem wr_116_28 {h : PH} (hw : WS h) : hR h 116 28 = 133 := hw.2.1 (116, 28, 133) (List.mem_of_elem_eq_true (by decide +kernel))
theorem wr_116_30 {h : PH} (hw : WS h) : hR h 116 30 = 134 := hw.2.1 (116, 30, 134) (List.mem_of_elem_eq_true (by decide +kernel))
theorem wr_116_31 {h : PH} (hw : WS h) : hR h 116 31 = 135 := hw.2.1 (116, 31, 135) (List.mem_of_elem_eq_true (by decide +kernel))
theorem wr_116_32 {h : PH} (hw : WS h) : hR h 116 32 = 136 := hw.2.1 (116, 32, 136) (List.mem_of_elem_eq_true (by decide +kernel))
theorem wr_116_33 {h : PH} (hw : WS h) : hR h 116 33 = 137 := hw.2.1 (116, 33, 137) (List.mem_of_elem_eq_true (by decide +kernel))
theorem wr_116_34 {h : PH} (hw : WS h) : hR h 116 34 = 138 := hw.2.1 (116, 34, 138) (List.mem_of_elem_eq_true (by decide +kernel))
theorem wr_116_36 {h : PH} (hw : WS h) : hR h 116 36 = 139 := hw.2.1 (116, 36, 139) (List.mem_of_elem_eq_true (by decide +kernel))
theorem wr_116_38 {h : PH} (hw : WS h) : hR h 116 38 = 140 := hw.2.1 (116, 38, 140) (List.mem_of_elem_eq_true (by decide +kernel))
theorem wr_116_39 {h : PH} (hw : WS h) : hR h 116 39 = 141 := hw.2.1 (116, 39, 141) (List.mem_of_elem_eq_true (by decide +kernel))
theorem wr_116_42 {h : PH} (hw : WS h) : hR h 116 42 = 142 := hw.2.1 (116, 42, 142) (List.mem_of_elem_eq_true (by decide +kernel))
theorem wr_116_43 {h : PH} (hw : WS h) : hR h 116 43 = 143 := hw.2.1 (116, 43, 143) (List.mem_of_elem_eq_true (by decide +kernel))
theorem wr_116_44 {h : PH} (hw : WS h) : hR h 116 44 = 144 := hw.2.1 (116, 44, 144) (List.mem_of_elem_eq_true (by decide +kernel))
theorem wr_116_45 {h : PH} (hw : WS h) : hR h 116 45 = 145 := hw.2.1 (116, 45, 145) (List.mem_of_elem_eq_true (by decide +kernel))
theorem wr_116_46 {h : PH} (hw : WS h) : hR h 116 46 = 146 := hw.2.1 (116, 46, 146) (List.mem_of_elem_eq_true (by decide +kernel))
theorem wr_116_47 {h : PH} (hw : WS h) : hR h 116 47 = 147 := hw.2.1 (116, 47, 147) (List.mem_of_elem_eq_true (by decide +kernel))
theorem wr_116_48 {h : PH} (hw : WS h) : hR h 116 48 = 148 := hw.2.1 (116, 48, 148) (List.mem_of_elem_eq_true (by decide +kernel))
theorem inB_of {h : PH} {k t N j : Nat} (ht : hT h k = t) (hn : hN h k = N) (hj : j < N) (hN : N < 2 ^ 31) : inB h k t (nI j) := ⟨ht, nI_pos (by omega), by rw [nI_clamp (by omega), hn]; exact hj⟩
