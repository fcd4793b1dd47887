/-! ===== throws: their words (gen.py) ===== -/
theorem th_61_65 : THk 61 65 1 := ⟨by decide, gTbl_at (i := 338) (by decide +kernel) rfl, gTbl_at (i := 33) (by decide +kernel) rfl, by decide +kernel, by decide +kernel, by decide +kernel, by decide +kernel⟩
theorem st_318 : (318, "no such place") ∈ strL := by decide +kernel
theorem st_313 : (313, "no such person") ∈ strL := by decide +kernel
theorem th_72_76 : THk 72 76 2 := ⟨by decide, gTbl_at (i := 409) (by decide +kernel) rfl, gTbl_at (i := 35) (by decide +kernel) rfl, by decide +kernel, by decide +kernel, by decide +kernel, by decide +kernel⟩
theorem st_305 : (305, "words are 0 to 99") ∈ strL := by decide +kernel
theorem st_300 : (300, "no such person, or no such node was made") ∈ strL := by decide +kernel
theorem st_215 : (215, "no root") ∈ strL := by decide +kernel
theorem st_101 : (101, "no such file") ∈ strL := by decide +kernel
theorem st_228 : (228, "1 to 8 notices are lost") ∈ strL := by decide +kernel
theorem st_74 : (74, "a name is a letter a to z") ∈ strL := by decide +kernel
theorem st_63 : (63, "no such folder") ∈ strL := by decide +kernel
theorem th_85_89 : THk 85 89 3 := ⟨by decide, gTbl_at (i := 433) (by decide +kernel) rfl, gTbl_at (i := 34) (by decide +kernel) rfl, by decide +kernel, by decide +kernel, by decide +kernel, by decide +kernel⟩
theorem st_87 : (87, "the name is taken there, or 60 nodes were made") ∈ strL := by decide +kernel
theorem st_132 : (132, "no such node, or no such folder") ∈ strL := by decide +kernel
theorem st_138 : (138, "the node can\'t lie there by that name") ∈ strL := by decide +kernel
theorem st_147 : (147, "a root would be below another one") ∈ strL := by decide +kernel
theorem st_240 : (240, "the minute would be above 100000") ∈ strL := by decide +kernel
theorem st_233 : (233, "1 to 1000 minutes pass") ∈ strL := by decide +kernel
theorem st_179 : (179, "no such node") ∈ strL := by decide +kernel
theorem st_181 : (181, "a set of people is 0 to 15") ∈ strL := by decide +kernel
theorem st_164 : (164, "no such node, or the top") ∈ strL := by decide +kernel
theorem st_223 : (223, "no notice to double") ∈ strL := by decide +kernel
theorem st_211 : (211, "three are watched, or one above or below it") ∈ strL := by decide +kernel
theorem st_257 : (257, "steps are 1 to 500") ∈ strL := by decide +kernel
theorem st_106 : (106, "a mark is 0 to 99, OPEN or CLOSE") ∈ strL := by decide +kernel
theorem st_115 : (115, "the file is locked, or full") ∈ strL := by decide +kernel
