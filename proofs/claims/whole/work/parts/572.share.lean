/-! the quotients, on -/
theorem sh_142 : (List.range 6).all (fun d => shrow (142 + d)) = true := by decide +kernel
theorem sh_148 : (List.range 5).all (fun d => shrow (148 + d)) = true := by decide +kernel
theorem sh_153 : (List.range 5).all (fun d => shrow (153 + d)) = true := by decide +kernel
theorem sh_158 : (List.range 5).all (fun d => shrow (158 + d)) = true := by decide +kernel
theorem sh_163 : (List.range 5).all (fun d => shrow (163 + d)) = true := by decide +kernel
theorem sh_168 : (List.range 5).all (fun d => shrow (168 + d)) = true := by decide +kernel
theorem sh_173 : (List.range 5).all (fun d => shrow (173 + d)) = true := by decide +kernel
theorem sh_178 : (List.range 4).all (fun d => shrow (178 + d)) = true := by decide +kernel
theorem sh_182 : (List.range 4).all (fun d => shrow (182 + d)) = true := by decide +kernel
theorem sh_186 : (List.range 4).all (fun d => shrow (186 + d)) = true := by decide +kernel
theorem sh_190 : (List.range 4).all (fun d => shrow (190 + d)) = true := by decide +kernel
theorem sh_194 : (List.range 4).all (fun d => shrow (194 + d)) = true := by decide +kernel
