/-! THE QUOTIENTS, ALL OF THEM: NONE IS NAN, EACH EQUALS ITSELF, AND BITS -/
def shq (a b : Nat) : UInt64 := FP.ddiv (FP.i2d (nI a)) (FP.i2d (nI b))
def shchk (a b : Nat) : Bool := decide (shq a b &&& 0x7fffffffffffffff ≤ 0x7ff0000000000000) && decide ((Op.cmpValue (FP.dcmp (shq a b) (shq a b)) CmpOp.l) = 0) && decide (fX5_bitsOf (shq a b) = some (shq a b).toInt64)
def shrow (b : Nat) : Bool := (List.range (b + 1)).all fun a => shchk a b
theorem sh_blk {lo c : Nat} (h : (List.range c).all (fun d => shrow (lo + d)) = true) {b : Nat} (h1 : lo ≤ b) (h2 : b < lo + c) : shrow b = true := by
  have := List.all_eq_true.mp h (b - lo) (List.mem_range.mpr (by omega))
  rw [show lo + (b - lo) = b by omega] at this
  exact this
theorem sh_1 : (List.range 40).all (fun d => shrow (1 + d)) = true := by decide +kernel
theorem sh_41 : (List.range 17).all (fun d => shrow (41 + d)) = true := by decide +kernel
theorem sh_58 : (List.range 13).all (fun d => shrow (58 + d)) = true := by decide +kernel
theorem sh_71 : (List.range 11).all (fun d => shrow (71 + d)) = true := by decide +kernel
theorem sh_82 : (List.range 10).all (fun d => shrow (82 + d)) = true := by decide +kernel
theorem sh_92 : (List.range 9).all (fun d => shrow (92 + d)) = true := by decide +kernel
theorem sh_101 : (List.range 8).all (fun d => shrow (101 + d)) = true := by decide +kernel
theorem sh_109 : (List.range 7).all (fun d => shrow (109 + d)) = true := by decide +kernel
theorem sh_116 : (List.range 7).all (fun d => shrow (116 + d)) = true := by decide +kernel
theorem sh_123 : (List.range 7).all (fun d => shrow (123 + d)) = true := by decide +kernel
theorem sh_130 : (List.range 6).all (fun d => shrow (130 + d)) = true := by decide +kernel
theorem sh_136 : (List.range 6).all (fun d => shrow (136 + d)) = true := by decide +kernel
