theorem eight {p : Nat → Bool} (h0 : ab p 10 0 = true) (h1 : ab p 10 1024 = true) (h2 : ab p 10 2048 = true) (h3 : ab p 10 3072 = true) (h4 : ab p 10 4096 = true) (h5 : ab p 10 5120 = true) (h6 : ab p 10 6144 = true) (h7 : ab p 10 7168 = true) {i : Nat} (hi : i < 8192) : p i = true := by
  have e : (2 : Nat) ^ 10 = 1024 := rfl
  rcases (show i < 1024 ∨ (1024 ≤ i ∧ i < 2048) ∨ (2048 ≤ i ∧ i < 3072) ∨ (3072 ≤ i ∧ i < 4096) ∨ (4096 ≤ i ∧ i < 5120) ∨ (5120 ≤ i ∧ i < 6144) ∨ (6144 ≤ i ∧ i < 7168) ∨ (7168 ≤ i) by omega) with w | w | w | w | w | w | w | w
  · exact ab_iff 10 0 h0 i (by omega) (by omega)
  · exact ab_iff 10 1024 h1 i (by omega) (by omega)
  · exact ab_iff 10 2048 h2 i (by omega) (by omega)
  · exact ab_iff 10 3072 h3 i (by omega) (by omega)
  · exact ab_iff 10 4096 h4 i (by omega) (by omega)
  · exact ab_iff 10 5120 h5 i (by omega) (by omega)
  · exact ab_iff 10 6144 h6 i (by omega) (by omega)
  · exact ab_iff 10 7168 h7 i (by omega) (by omega)
theorem ckF_all {p : Nat} (h : p < 8192) : ckF p = true := eight ckF_0 ckF_1 ckF_2 ckF_3 ckF_4 ckF_5 ckF_6 ckF_7 h
theorem ckI_all {p : Nat} (h : p < 8192) : ckI p = true := eight ckI_0 ckI_1 ckI_2 ckI_3 ckI_4 ckI_5 ckI_6 ckI_7 h
theorem ckR_all {p : Nat} (h : p < 8192) : ckR p = true := eight ckR_0 ckR_1 ckR_2 ckR_3 ckR_4 ckR_5 ckR_6 ckR_7 h
theorem smI_all : ab (fun d => Nat.blt d 2 || !irrT.testBit d || smI.contains d) 7 0 = true := by decide +kernel
def prL : List Nat := [0, 1, 2, 2, 2, 2, 2, 2, 3, 7, 2, 2, 3]
def norL : List (List Nat) := [[], [1], [2, 3], [3, 5, 7], [8, 12, 15, 10], [3, 5, 17, 12, 26], [32, 48, 60, 47, 38, 36], [9, 65, 97, 121, 63, 75, 37], [32, 108, 151, 148, 145, 128, 154, 197], [3, 5, 17, 257, 385, 481, 511, 171, 35], [128, 144, 400, 976, 742, 443, 924, 658, 134, 132], [3, 5, 17, 257, 161, 1065, 1604, 159, 381, 1531, 1986], [514, 580, 601, 776, 656, 868, 1737, 2860, 658, 864, 1753, 2604]]
def ckX (n : Nat) : Bool := Nat.blt n 2 || sqn n (lm n) n 2 == 2
def ckP (n : Nat) : Bool := Nat.blt (prL.getD n 0) (2 ^ n) && !(prL.getD n 0 == 0) && ab (fun k => k == 0 || Nat.ble (2 ^ n - 1) k || !((2 ^ n - 1) % k == 0) || !(pwB n (lm n) 12 k (prL.getD n 0) 1 == 1)) 12 0
def norR (n i : Nat) : Nat := (norL.getD n []).getD i 0
def ckN (n : Nat) : Bool := okS (norR n) n 0 false && Nat.blt (norR n 0) (2 ^ n) && (List.range n).all (fun i => Nat.blt n (i + 2) || fm n (lm n) (norR n i) (norR n i) == norR n (i + 1))
def prs : List (Nat × Nat × Nat) := [(2, 4, 6), (2, 6, 58), (2, 8, 188), (2, 10, 236), (2, 12, 72), (3, 6, 14), (3, 9, 252), (3, 12, 1186), (4, 8, 92), (4, 12, 8), (5, 10, 314), (6, 12, 163)]
def ckPr : Bool := prs.all (fun t => Nat.blt t.2.2 (2 ^ t.2.1) && hrn t.2.1 (lm t.2.1) t.2.2 (lm t.1) 13 0 == 0)
theorem ckX_all : (List.range 13).all ckX = true := by decide +kernel
theorem ckP_all : (List.range 12).all (fun n => ckP (n + 1)) = true := by decide +kernel
theorem ckN_all : (List.range 12).all (fun n => ckN (n + 1)) = true := by decide +kernel
theorem ckPr_all : ckPr = true := by decide +kernel
theorem prs_all : (List.range 13).all (fun n => (List.range 13).all (fun d => Nat.blt d 2 || Nat.ble n d || !(n % d == 0) || prs.any (fun t => t.1 == d && t.2.1 == n))) = true := by decide +kernel
