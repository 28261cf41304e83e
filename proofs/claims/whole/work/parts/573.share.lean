/-! the quotients, on -/
theorem sh_198 : (List.range 4).all (fun d => shrow (198 + d)) = true := by decide +kernel
theorem sh_202 : (List.range 4).all (fun d => shrow (202 + d)) = true := by decide +kernel
theorem sh_206 : (List.range 4).all (fun d => shrow (206 + d)) = true := by decide +kernel
theorem sh_210 : (List.range 4).all (fun d => shrow (210 + d)) = true := by decide +kernel
theorem sh_214 : (List.range 4).all (fun d => shrow (214 + d)) = true := by decide +kernel
theorem sh_218 : (List.range 4).all (fun d => shrow (218 + d)) = true := by decide +kernel
theorem sh_222 : (List.range 4).all (fun d => shrow (222 + d)) = true := by decide +kernel
theorem sh_226 : (List.range 3).all (fun d => shrow (226 + d)) = true := by decide +kernel
theorem sh_229 : (List.range 3).all (fun d => shrow (229 + d)) = true := by decide +kernel
theorem sh_232 : (List.range 3).all (fun d => shrow (232 + d)) = true := by decide +kernel
theorem sh_235 : (List.range 3).all (fun d => shrow (235 + d)) = true := by decide +kernel
theorem sh_238 : (List.range 3).all (fun d => shrow (238 + d)) = true := by decide +kernel
theorem sh_all {a b : Nat} (h0 : 0 < b) (hb : b ≤ 240) (ha : a ≤ b) : shchk a b = true := by
  have h : shrow b = true := by
    rcases (by omega : (1 ≤ b ∧ b < 41) ∨ (41 ≤ b ∧ b < 58) ∨ (58 ≤ b ∧ b < 71) ∨ (71 ≤ b ∧ b < 82) ∨ (82 ≤ b ∧ b < 92) ∨ (92 ≤ b ∧ b < 101) ∨ (101 ≤ b ∧ b < 109) ∨ (109 ≤ b ∧ b < 116) ∨ (116 ≤ b ∧ b < 123) ∨ (123 ≤ b ∧ b < 130) ∨ (130 ≤ b ∧ b < 136) ∨ (136 ≤ b ∧ b < 142) ∨ (142 ≤ b ∧ b < 148) ∨ (148 ≤ b ∧ b < 153) ∨ (153 ≤ b ∧ b < 158) ∨ (158 ≤ b ∧ b < 163) ∨ (163 ≤ b ∧ b < 168) ∨ (168 ≤ b ∧ b < 173) ∨ (173 ≤ b ∧ b < 178) ∨ (178 ≤ b ∧ b < 182) ∨ (182 ≤ b ∧ b < 186) ∨ (186 ≤ b ∧ b < 190) ∨ (190 ≤ b ∧ b < 194) ∨ (194 ≤ b ∧ b < 198) ∨ (198 ≤ b ∧ b < 202) ∨ (202 ≤ b ∧ b < 206) ∨ (206 ≤ b ∧ b < 210) ∨ (210 ≤ b ∧ b < 214) ∨ (214 ≤ b ∧ b < 218) ∨ (218 ≤ b ∧ b < 222) ∨ (222 ≤ b ∧ b < 226) ∨ (226 ≤ b ∧ b < 229) ∨ (229 ≤ b ∧ b < 232) ∨ (232 ≤ b ∧ b < 235) ∨ (235 ≤ b ∧ b < 238) ∨ (238 ≤ b ∧ b < 241)) with h | h | h | h | h | h | h | h | h | h | h | h | h | h | h | h | h | h | h | h | h | h | h | h | h | h | h | h | h | h | h | h | h | h | h | h
    · exact sh_blk sh_1 h.1 h.2
    · exact sh_blk sh_41 h.1 h.2
    · exact sh_blk sh_58 h.1 h.2
    · exact sh_blk sh_71 h.1 h.2
    · exact sh_blk sh_82 h.1 h.2
    · exact sh_blk sh_92 h.1 h.2
    · exact sh_blk sh_101 h.1 h.2
    · exact sh_blk sh_109 h.1 h.2
    · exact sh_blk sh_116 h.1 h.2
    · exact sh_blk sh_123 h.1 h.2
    · exact sh_blk sh_130 h.1 h.2
    · exact sh_blk sh_136 h.1 h.2
    · exact sh_blk sh_142 h.1 h.2
    · exact sh_blk sh_148 h.1 h.2
    · exact sh_blk sh_153 h.1 h.2
    · exact sh_blk sh_158 h.1 h.2
    · exact sh_blk sh_163 h.1 h.2
    · exact sh_blk sh_168 h.1 h.2
    · exact sh_blk sh_173 h.1 h.2
    · exact sh_blk sh_178 h.1 h.2
    · exact sh_blk sh_182 h.1 h.2
    · exact sh_blk sh_186 h.1 h.2
    · exact sh_blk sh_190 h.1 h.2
    · exact sh_blk sh_194 h.1 h.2
    · exact sh_blk sh_198 h.1 h.2
    · exact sh_blk sh_202 h.1 h.2
    · exact sh_blk sh_206 h.1 h.2
    · exact sh_blk sh_210 h.1 h.2
    · exact sh_blk sh_214 h.1 h.2
    · exact sh_blk sh_218 h.1 h.2
    · exact sh_blk sh_222 h.1 h.2
    · exact sh_blk sh_226 h.1 h.2
    · exact sh_blk sh_229 h.1 h.2
    · exact sh_blk sh_232 h.1 h.2
    · exact sh_blk sh_235 h.1 h.2
    · exact sh_blk sh_238 h.1 h.2
  exact List.all_eq_true.mp h a (List.mem_range.mpr (by omega))
theorem sh_ok {a b : Nat} (h0 : 0 < b) (hb : b ≤ 240) (ha : a ≤ b) : (shq a b &&& 0x7fffffffffffffff ≤ 0x7ff0000000000000) ∧ (Op.cmpValue (FP.dcmp (shq a b) (shq a b)) CmpOp.l) = 0 ∧ fX5_bitsOf (shq a b) = some (shq a b).toInt64 := by
  have h := sh_all h0 hb ha
  unfold shchk at h
  rw [Bool.and_eq_true, Bool.and_eq_true, decide_eq_true_eq, decide_eq_true_eq, decide_eq_true_eq] at h
  exact ⟨h.1.1, h.1.2, h.2⟩
