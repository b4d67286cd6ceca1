def rfL : List (List (Nat × Nat)) := [[], [(3, 1)], [(3, 3)], [(3, 7), (7, 3)], [(3, 15)], [(3, 31), (31, 3)], [(3, 63), (7, 27)], [(3, 127), (11, 23), (13, 29)], [(3, 255)], [(3, 511), (7, 219), (73, 9)], [(3, 1023), (31, 99)], [(3, 2047), (2047, 3)], [(3, 4095), (7, 1755)]]
def unB (n c : Nat) : Bool := (rfL.getD n []).all (fun t => !(rem13 c t.1 == 0))
def ckU (n f : Nat) : Bool := Nat.blt f 2 || !irrT.testBit f || !(rem13 (rnM n) f == 0) || (rfL.getD n []).any (fun t => t.1 == f)
def ckV (n : Nat) : Bool := (rfL.getD n []).all (fun t => cl t.1 t.2 == rnM n && !(t.2 == 0) && Nat.blt t.2 (2 ^ n) && Nat.blt 1 t.1 && Nat.blt t.1 8192)
theorem ckU_1 : ab (ckU 1) 2 0 = true := by decide +kernel
theorem unB_1 : cb (unB 1) 1 0 = 1 := by decide +kernel
theorem ckU_2 : ab (ckU 2) 3 0 = true := by decide +kernel
theorem unB_2 : cb (unB 2) 2 0 = 2 := by decide +kernel
theorem ckU_3 : ab (ckU 3) 4 0 = true := by decide +kernel
theorem unB_3 : cb (unB 3) 3 0 = 3 := by decide +kernel
theorem ckU_4 : ab (ckU 4) 5 0 = true := by decide +kernel
theorem unB_4 : cb (unB 4) 4 0 = 8 := by decide +kernel
theorem ckU_5 : ab (ckU 5) 6 0 = true := by decide +kernel
theorem unB_5 : cb (unB 5) 5 0 = 15 := by decide +kernel
theorem ckU_6 : ab (ckU 6) 7 0 = true := by decide +kernel
theorem unB_6 : cb (unB 6) 6 0 = 24 := by decide +kernel
theorem ckU_7 : ab (ckU 7) 8 0 = true := by decide +kernel
theorem unB_7 : cb (unB 7) 7 0 = 49 := by decide +kernel
theorem ckU_8 : ab (ckU 8) 9 0 = true := by decide +kernel
theorem unB_8 : cb (unB 8) 8 0 = 128 := by decide +kernel
theorem ckU_9 : ab (ckU 9) 10 0 = true := by decide +kernel
theorem unB_9 : cb (unB 9) 9 0 = 189 := by decide +kernel
theorem ckU_10 : ab (ckU 10) 11 0 = true := by decide +kernel
theorem unB_10 : cb (unB 10) 10 0 = 480 := by decide +kernel
theorem ckU_11 : ab (ckU 11) 12 0 = true := by decide +kernel
theorem unB_11 : cb (unB 11) 11 0 = 1023 := by decide +kernel
theorem ckU_12 : ab (ckU 12) 13 0 = true := by decide +kernel
theorem unB_12 : cb (unB 12) 12 0 = 1536 := by decide +kernel
theorem ckV_all : (List.range 12).all (fun n => ckV (n + 1)) = true := by decide +kernel
