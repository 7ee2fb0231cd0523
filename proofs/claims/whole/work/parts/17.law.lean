theorem w1_16 : Cond.classLink "GoodsDownhillLaw" 7 "GoodsDownhill" ∈ gtb := gtb_in (tin1 (List.mem_of_getElem? (i := 16) (by decide +kernel))) rfl
theorem w1_17 : Cond.instantiable "GoodsDownhill" 10 ∈ gtb := gtb_in (tin1 (List.mem_of_getElem? (i := 17) (by decide +kernel))) rfl
theorem w1_18 : Cond.methodLink "GoodsDownhillLaw" 9 ⟨"GoodsDownhill", "<init>", "()V"⟩ ∈ gtb := gtb_in (tin1 (List.mem_of_getElem? (i := 18) (by decide +kernel))) rfl
theorem w1_19 : Cond.instanceMethod ⟨"GoodsDownhill", "<init>", "()V"⟩ ∈ gtb := gtb_in (tin1 (List.mem_of_getElem? (i := 19) (by decide +kernel))) rfl
theorem w1_20 : Cond.code ⟨"GoodsDownhill", "<init>", "()V"⟩ prog_1_method_1_code 1 none ∈ gtb := gtb_in (tin1 (List.mem_of_getElem? (i := 20) (by decide +kernel))) rfl
theorem w1_210 : Cond.methodLink "GoodsDownhillLaw" 13 ⟨"GoodsDownhill", "feed", "(I)I"⟩ ∈ gtb := gtb_in (tin1 (List.mem_of_getElem? (i := 210) (by decide +kernel))) rfl
theorem w1_211 : Cond.instanceMethod ⟨"GoodsDownhill", "feed", "(I)I"⟩ ∈ gtb := gtb_in (tin1 (List.mem_of_getElem? (i := 211) (by decide +kernel))) rfl
theorem w1_212 : Cond.selects "GoodsDownhill" ⟨"GoodsDownhill", "feed", "(I)I"⟩ ⟨"GoodsDownhill", "feed", "(I)I"⟩ ∈ gtb := gtb_in (tin1 (List.mem_of_getElem? (i := 212) (by decide +kernel))) rfl
theorem w1_213 : Cond.code ⟨"GoodsDownhill", "feed", "(I)I"⟩ prog_1_method_2_code 2 (some .int) ∈ gtb := gtb_in (tin1 (List.mem_of_getElem? (i := 213) (by decide +kernel))) rfl
theorem w1_227 : Cond.methodLink "GoodsDownhillLaw" 18 ⟨"GoodsDownhill", "mountain", "()I"⟩ ∈ gtb := gtb_in (tin1 (List.mem_of_getElem? (i := 227) (by decide +kernel))) rfl
theorem w1_228 : Cond.instanceMethod ⟨"GoodsDownhill", "mountain", "()I"⟩ ∈ gtb := gtb_in (tin1 (List.mem_of_getElem? (i := 228) (by decide +kernel))) rfl
theorem w1_229 : Cond.selects "GoodsDownhill" ⟨"GoodsDownhill", "mountain", "()I"⟩ ⟨"GoodsDownhill", "mountain", "()I"⟩ ∈ gtb := gtb_in (tin1 (List.mem_of_getElem? (i := 229) (by decide +kernel))) rfl
theorem w1_230 : Cond.code ⟨"GoodsDownhill", "mountain", "()I"⟩ prog_1_method_3_code 2 (some .int) ∈ gtb := gtb_in (tin1 (List.mem_of_getElem? (i := 230) (by decide +kernel))) rfl
theorem w2_138 : Cond.methodLink "GoodsDownhillLaw" 23 ⟨"GoodsDownhill", "house", "(II)I"⟩ ∈ gtb := gtb_in (tin2 (List.mem_of_getElem? (i := 138) (by decide +kernel))) rfl
theorem w2_139 : Cond.instanceMethod ⟨"GoodsDownhill", "house", "(II)I"⟩ ∈ gtb := gtb_in (tin2 (List.mem_of_getElem? (i := 139) (by decide +kernel))) rfl
theorem w2_140 : Cond.selects "GoodsDownhill" ⟨"GoodsDownhill", "house", "(II)I"⟩ ⟨"GoodsDownhill", "house", "(II)I"⟩ ∈ gtb := gtb_in (tin2 (List.mem_of_getElem? (i := 140) (by decide +kernel))) rfl
theorem w2_141 : Cond.code ⟨"GoodsDownhill", "house", "(II)I"⟩ prog_1_method_4_code 4 (some .int) ∈ gtb := gtb_in (tin2 (List.mem_of_getElem? (i := 141) (by decide +kernel))) rfl
theorem w2_193 : Cond.methodLink "GoodsDownhillLaw" 28 ⟨"GoodsDownhill", "store", "(II)I"⟩ ∈ gtb := gtb_in (tin2 (List.mem_of_getElem? (i := 193) (by decide +kernel))) rfl
theorem w2_194 : Cond.instanceMethod ⟨"GoodsDownhill", "store", "(II)I"⟩ ∈ gtb := gtb_in (tin2 (List.mem_of_getElem? (i := 194) (by decide +kernel))) rfl
theorem w2_195 : Cond.selects "GoodsDownhill" ⟨"GoodsDownhill", "store", "(II)I"⟩ ⟨"GoodsDownhill", "store", "(II)I"⟩ ∈ gtb := gtb_in (tin2 (List.mem_of_getElem? (i := 195) (by decide +kernel))) rfl
theorem w2_196 : Cond.code ⟨"GoodsDownhill", "store", "(II)I"⟩ prog_1_method_5_code 3 (some .int) ∈ gtb := gtb_in (tin2 (List.mem_of_getElem? (i := 196) (by decide +kernel))) rfl
theorem w2_202 : Cond.methodLink "GoodsDownhillLaw" 32 ⟨"GoodsDownhill", "price", "(II)I"⟩ ∈ gtb := gtb_in (tin2 (List.mem_of_getElem? (i := 202) (by decide +kernel))) rfl
theorem w2_203 : Cond.instanceMethod ⟨"GoodsDownhill", "price", "(II)I"⟩ ∈ gtb := gtb_in (tin2 (List.mem_of_getElem? (i := 203) (by decide +kernel))) rfl
theorem w2_204 : Cond.selects "GoodsDownhill" ⟨"GoodsDownhill", "price", "(II)I"⟩ ⟨"GoodsDownhill", "price", "(II)I"⟩ ∈ gtb := gtb_in (tin2 (List.mem_of_getElem? (i := 204) (by decide +kernel))) rfl
theorem w2_205 : Cond.code ⟨"GoodsDownhill", "price", "(II)I"⟩ prog_1_method_6_code 4 (some .int) ∈ gtb := gtb_in (tin2 (List.mem_of_getElem? (i := 205) (by decide +kernel))) rfl
theorem w2_206 : Cond.methodLink "GoodsDownhillLaw" 36 ⟨"GoodsDownhill", "law", "(I)I"⟩ ∈ gtb := gtb_in (tin2 (List.mem_of_getElem? (i := 206) (by decide +kernel))) rfl
theorem w2_207 : Cond.instanceMethod ⟨"GoodsDownhill", "law", "(I)I"⟩ ∈ gtb := gtb_in (tin2 (List.mem_of_getElem? (i := 207) (by decide +kernel))) rfl
theorem w2_208 : Cond.selects "GoodsDownhill" ⟨"GoodsDownhill", "law", "(I)I"⟩ ⟨"GoodsDownhill", "law", "(I)I"⟩ ∈ gtb := gtb_in (tin2 (List.mem_of_getElem? (i := 208) (by decide +kernel))) rfl
theorem w2_209 : Cond.code ⟨"GoodsDownhill", "law", "(I)I"⟩ prog_1_method_7_code 3 (some .int) ∈ gtb := gtb_in (tin2 (List.mem_of_getElem? (i := 209) (by decide +kernel))) rfl
theorem w2_211 : Cond.methodLink "GoodsDownhillLaw" 40 ⟨"GoodsDownhill", "lawful", "(II)I"⟩ ∈ gtb := gtb_in (tin2 (List.mem_of_getElem? (i := 211) (by decide +kernel))) rfl
theorem w2_212 : Cond.instanceMethod ⟨"GoodsDownhill", "lawful", "(II)I"⟩ ∈ gtb := gtb_in (tin2 (List.mem_of_getElem? (i := 212) (by decide +kernel))) rfl
theorem w2_213 : Cond.selects "GoodsDownhill" ⟨"GoodsDownhill", "lawful", "(II)I"⟩ ⟨"GoodsDownhill", "lawful", "(II)I"⟩ ∈ gtb := gtb_in (tin2 (List.mem_of_getElem? (i := 213) (by decide +kernel))) rfl
theorem w2_214 : Cond.code ⟨"GoodsDownhill", "lawful", "(II)I"⟩ prog_1_method_8_code 3 (some .int) ∈ gtb := gtb_in (tin2 (List.mem_of_getElem? (i := 214) (by decide +kernel))) rfl
theorem w2_222 : Cond.methodLink "GoodsDownhillLaw" 125 ⟨"GoodsDownhill", "count", "(I)I"⟩ ∈ gtb := gtb_in (tin2 (List.mem_of_getElem? (i := 222) (by decide +kernel))) rfl
theorem w2_223 : Cond.instanceMethod ⟨"GoodsDownhill", "count", "(I)I"⟩ ∈ gtb := gtb_in (tin2 (List.mem_of_getElem? (i := 223) (by decide +kernel))) rfl
theorem w2_224 : Cond.selects "GoodsDownhill" ⟨"GoodsDownhill", "count", "(I)I"⟩ ⟨"GoodsDownhill", "count", "(I)I"⟩ ∈ gtb := gtb_in (tin2 (List.mem_of_getElem? (i := 224) (by decide +kernel))) rfl
theorem w2_225 : Cond.code ⟨"GoodsDownhill", "count", "(I)I"⟩ prog_1_method_9_code 2 (some .int) ∈ gtb := gtb_in (tin2 (List.mem_of_getElem? (i := 225) (by decide +kernel))) rfl
theorem w2_237 : Cond.methodLink "GoodsDownhillLaw" 44 ⟨"GoodsDownhill", "sale", "(III)I"⟩ ∈ gtb := gtb_in (tin2 (List.mem_of_getElem? (i := 237) (by decide +kernel))) rfl
theorem w2_238 : Cond.instanceMethod ⟨"GoodsDownhill", "sale", "(III)I"⟩ ∈ gtb := gtb_in (tin2 (List.mem_of_getElem? (i := 238) (by decide +kernel))) rfl
theorem w2_239 : Cond.selects "GoodsDownhill" ⟨"GoodsDownhill", "sale", "(III)I"⟩ ⟨"GoodsDownhill", "sale", "(III)I"⟩ ∈ gtb := gtb_in (tin2 (List.mem_of_getElem? (i := 239) (by decide +kernel))) rfl
theorem w3_0 : Cond.code ⟨"GoodsDownhill", "sale", "(III)I"⟩ prog_1_method_10_code 4 (some .int) ∈ gtb := gtb_in (tin3 (List.mem_of_getElem? (i := 0) (by decide +kernel))) rfl
theorem w3_104 : Cond.methodLink "GoodsDownhillLaw" 65 ⟨"GoodsDownhill", "behind", "(II)I"⟩ ∈ gtb := gtb_in (tin3 (List.mem_of_getElem? (i := 104) (by decide +kernel))) rfl
theorem w3_105 : Cond.instanceMethod ⟨"GoodsDownhill", "behind", "(II)I"⟩ ∈ gtb := gtb_in (tin3 (List.mem_of_getElem? (i := 105) (by decide +kernel))) rfl
theorem w3_106 : Cond.selects "GoodsDownhill" ⟨"GoodsDownhill", "behind", "(II)I"⟩ ⟨"GoodsDownhill", "behind", "(II)I"⟩ ∈ gtb := gtb_in (tin3 (List.mem_of_getElem? (i := 106) (by decide +kernel))) rfl
theorem w3_107 : Cond.code ⟨"GoodsDownhill", "behind", "(II)I"⟩ prog_1_method_15_code 3 (some .int) ∈ gtb := gtb_in (tin3 (List.mem_of_getElem? (i := 107) (by decide +kernel))) rfl
theorem w3_112 : Cond.methodLink "GoodsDownhillLaw" 69 ⟨"GoodsDownhill", "served", "(II)I"⟩ ∈ gtb := gtb_in (tin3 (List.mem_of_getElem? (i := 112) (by decide +kernel))) rfl
theorem w3_113 : Cond.instanceMethod ⟨"GoodsDownhill", "served", "(II)I"⟩ ∈ gtb := gtb_in (tin3 (List.mem_of_getElem? (i := 113) (by decide +kernel))) rfl
theorem w3_114 : Cond.selects "GoodsDownhill" ⟨"GoodsDownhill", "served", "(II)I"⟩ ⟨"GoodsDownhill", "served", "(II)I"⟩ ∈ gtb := gtb_in (tin3 (List.mem_of_getElem? (i := 114) (by decide +kernel))) rfl
theorem w3_115 : Cond.code ⟨"GoodsDownhill", "served", "(II)I"⟩ prog_1_method_16_code 3 (some .int) ∈ gtb := gtb_in (tin3 (List.mem_of_getElem? (i := 115) (by decide +kernel))) rfl
theorem w3_116 : Cond.methodLink "GoodsDownhillLaw" 73 ⟨"GoodsDownhill", "drift", "(I)I"⟩ ∈ gtb := gtb_in (tin3 (List.mem_of_getElem? (i := 116) (by decide +kernel))) rfl
theorem w3_117 : Cond.instanceMethod ⟨"GoodsDownhill", "drift", "(I)I"⟩ ∈ gtb := gtb_in (tin3 (List.mem_of_getElem? (i := 117) (by decide +kernel))) rfl
theorem w3_118 : Cond.selects "GoodsDownhill" ⟨"GoodsDownhill", "drift", "(I)I"⟩ ⟨"GoodsDownhill", "drift", "(I)I"⟩ ∈ gtb := gtb_in (tin3 (List.mem_of_getElem? (i := 118) (by decide +kernel))) rfl
theorem w3_119 : Cond.code ⟨"GoodsDownhill", "drift", "(I)I"⟩ prog_1_method_17_code 4 (some .int) ∈ gtb := gtb_in (tin3 (List.mem_of_getElem? (i := 119) (by decide +kernel))) rfl
theorem w3_124 : Cond.methodLink "GoodsDownhillLaw" 101 ⟨"GoodsDownhill", "votes", "(II)I"⟩ ∈ gtb := gtb_in (tin3 (List.mem_of_getElem? (i := 124) (by decide +kernel))) rfl
theorem w3_125 : Cond.instanceMethod ⟨"GoodsDownhill", "votes", "(II)I"⟩ ∈ gtb := gtb_in (tin3 (List.mem_of_getElem? (i := 125) (by decide +kernel))) rfl
theorem w3_126 : Cond.selects "GoodsDownhill" ⟨"GoodsDownhill", "votes", "(II)I"⟩ ⟨"GoodsDownhill", "votes", "(II)I"⟩ ∈ gtb := gtb_in (tin3 (List.mem_of_getElem? (i := 126) (by decide +kernel))) rfl
theorem w3_127 : Cond.code ⟨"GoodsDownhill", "votes", "(II)I"⟩ prog_1_method_18_code 5 (some .int) ∈ gtb := gtb_in (tin3 (List.mem_of_getElem? (i := 127) (by decide +kernel))) rfl
theorem w3_128 : Cond.methodLink "GoodsDownhillLaw" 97 ⟨"GoodsDownhill", "rings", "(I)I"⟩ ∈ gtb := gtb_in (tin3 (List.mem_of_getElem? (i := 128) (by decide +kernel))) rfl
theorem w3_129 : Cond.instanceMethod ⟨"GoodsDownhill", "rings", "(I)I"⟩ ∈ gtb := gtb_in (tin3 (List.mem_of_getElem? (i := 129) (by decide +kernel))) rfl
theorem w3_130 : Cond.selects "GoodsDownhill" ⟨"GoodsDownhill", "rings", "(I)I"⟩ ⟨"GoodsDownhill", "rings", "(I)I"⟩ ∈ gtb := gtb_in (tin3 (List.mem_of_getElem? (i := 130) (by decide +kernel))) rfl
theorem w3_131 : Cond.code ⟨"GoodsDownhill", "rings", "(I)I"⟩ prog_1_method_20_code 3 (some .int) ∈ gtb := gtb_in (tin3 (List.mem_of_getElem? (i := 131) (by decide +kernel))) rfl
theorem w3_132 : Cond.methodLink "GoodsDownhillLaw" 113 ⟨"GoodsDownhill", "seeds", "(II)I"⟩ ∈ gtb := gtb_in (tin3 (List.mem_of_getElem? (i := 132) (by decide +kernel))) rfl
theorem w3_133 : Cond.instanceMethod ⟨"GoodsDownhill", "seeds", "(II)I"⟩ ∈ gtb := gtb_in (tin3 (List.mem_of_getElem? (i := 133) (by decide +kernel))) rfl
theorem w3_134 : Cond.selects "GoodsDownhill" ⟨"GoodsDownhill", "seeds", "(II)I"⟩ ⟨"GoodsDownhill", "seeds", "(II)I"⟩ ∈ gtb := gtb_in (tin3 (List.mem_of_getElem? (i := 134) (by decide +kernel))) rfl
theorem w3_135 : Cond.code ⟨"GoodsDownhill", "seeds", "(II)I"⟩ prog_1_method_21_code 8 (some .int) ∈ gtb := gtb_in (tin3 (List.mem_of_getElem? (i := 135) (by decide +kernel))) rfl
theorem w3_145 : Cond.methodLink "GoodsDownhillLaw" 77 ⟨"GoodsDownhill", "stuck", "()I"⟩ ∈ gtb := gtb_in (tin3 (List.mem_of_getElem? (i := 145) (by decide +kernel))) rfl
theorem w3_146 : Cond.instanceMethod ⟨"GoodsDownhill", "stuck", "()I"⟩ ∈ gtb := gtb_in (tin3 (List.mem_of_getElem? (i := 146) (by decide +kernel))) rfl
theorem w3_147 : Cond.selects "GoodsDownhill" ⟨"GoodsDownhill", "stuck", "()I"⟩ ⟨"GoodsDownhill", "stuck", "()I"⟩ ∈ gtb := gtb_in (tin3 (List.mem_of_getElem? (i := 147) (by decide +kernel))) rfl
theorem w3_148 : Cond.code ⟨"GoodsDownhill", "stuck", "()I"⟩ prog_1_method_24_code 3 (some .int) ∈ gtb := gtb_in (tin3 (List.mem_of_getElem? (i := 148) (by decide +kernel))) rfl
theorem w3_158 : Cond.methodLink "GoodsDownhillLaw" 81 ⟨"GoodsDownhill", "most", "(I)I"⟩ ∈ gtb := gtb_in (tin3 (List.mem_of_getElem? (i := 158) (by decide +kernel))) rfl
theorem w3_159 : Cond.instanceMethod ⟨"GoodsDownhill", "most", "(I)I"⟩ ∈ gtb := gtb_in (tin3 (List.mem_of_getElem? (i := 159) (by decide +kernel))) rfl
theorem w3_160 : Cond.selects "GoodsDownhill" ⟨"GoodsDownhill", "most", "(I)I"⟩ ⟨"GoodsDownhill", "most", "(I)I"⟩ ∈ gtb := gtb_in (tin3 (List.mem_of_getElem? (i := 160) (by decide +kernel))) rfl
theorem w3_161 : Cond.code ⟨"GoodsDownhill", "most", "(I)I"⟩ prog_1_method_25_code 2 (some .int) ∈ gtb := gtb_in (tin3 (List.mem_of_getElem? (i := 161) (by decide +kernel))) rfl
theorem w3_172 : Cond.methodLink "GoodsDownhillLaw" 85 ⟨"GoodsDownhill", "cellar", "(III)I"⟩ ∈ gtb := gtb_in (tin3 (List.mem_of_getElem? (i := 172) (by decide +kernel))) rfl
theorem w3_173 : Cond.instanceMethod ⟨"GoodsDownhill", "cellar", "(III)I"⟩ ∈ gtb := gtb_in (tin3 (List.mem_of_getElem? (i := 173) (by decide +kernel))) rfl
theorem w3_174 : Cond.selects "GoodsDownhill" ⟨"GoodsDownhill", "cellar", "(III)I"⟩ ⟨"GoodsDownhill", "cellar", "(III)I"⟩ ∈ gtb := gtb_in (tin3 (List.mem_of_getElem? (i := 174) (by decide +kernel))) rfl
theorem w3_175 : Cond.code ⟨"GoodsDownhill", "cellar", "(III)I"⟩ prog_1_method_26_code 4 (some .int) ∈ gtb := gtb_in (tin3 (List.mem_of_getElem? (i := 175) (by decide +kernel))) rfl
theorem w3_182 : Cond.methodLink "GoodsDownhillLaw" 89 ⟨"GoodsDownhill", "paths", "(III)I"⟩ ∈ gtb := gtb_in (tin3 (List.mem_of_getElem? (i := 182) (by decide +kernel))) rfl
theorem w3_183 : Cond.instanceMethod ⟨"GoodsDownhill", "paths", "(III)I"⟩ ∈ gtb := gtb_in (tin3 (List.mem_of_getElem? (i := 183) (by decide +kernel))) rfl
theorem w3_184 : Cond.selects "GoodsDownhill" ⟨"GoodsDownhill", "paths", "(III)I"⟩ ⟨"GoodsDownhill", "paths", "(III)I"⟩ ∈ gtb := gtb_in (tin3 (List.mem_of_getElem? (i := 184) (by decide +kernel))) rfl
theorem w3_185 : Cond.code ⟨"GoodsDownhill", "paths", "(III)I"⟩ prog_1_method_27_code 4 (some .int) ∈ gtb := gtb_in (tin3 (List.mem_of_getElem? (i := 185) (by decide +kernel))) rfl
theorem w3_198 : Cond.methodLink "GoodsDownhillLaw" 93 ⟨"GoodsDownhill", "owed", "(I)I"⟩ ∈ gtb := gtb_in (tin3 (List.mem_of_getElem? (i := 198) (by decide +kernel))) rfl
theorem w3_199 : Cond.instanceMethod ⟨"GoodsDownhill", "owed", "(I)I"⟩ ∈ gtb := gtb_in (tin3 (List.mem_of_getElem? (i := 199) (by decide +kernel))) rfl
theorem w3_200 : Cond.selects "GoodsDownhill" ⟨"GoodsDownhill", "owed", "(I)I"⟩ ⟨"GoodsDownhill", "owed", "(I)I"⟩ ∈ gtb := gtb_in (tin3 (List.mem_of_getElem? (i := 200) (by decide +kernel))) rfl
theorem w3_201 : Cond.code ⟨"GoodsDownhill", "owed", "(I)I"⟩ prog_1_method_28_code 2 (some .int) ∈ gtb := gtb_in (tin3 (List.mem_of_getElem? (i := 201) (by decide +kernel))) rfl
theorem w3_206 : Cond.methodLink "GoodsDownhillLaw" 105 ⟨"GoodsDownhill", "row", "(I)I"⟩ ∈ gtb := gtb_in (tin3 (List.mem_of_getElem? (i := 206) (by decide +kernel))) rfl
theorem w3_207 : Cond.instanceMethod ⟨"GoodsDownhill", "row", "(I)I"⟩ ∈ gtb := gtb_in (tin3 (List.mem_of_getElem? (i := 207) (by decide +kernel))) rfl
theorem w3_208 : Cond.selects "GoodsDownhill" ⟨"GoodsDownhill", "row", "(I)I"⟩ ⟨"GoodsDownhill", "row", "(I)I"⟩ ∈ gtb := gtb_in (tin3 (List.mem_of_getElem? (i := 208) (by decide +kernel))) rfl
theorem w3_209 : Cond.code ⟨"GoodsDownhill", "row", "(I)I"⟩ prog_1_method_29_code 2 (some .int) ∈ gtb := gtb_in (tin3 (List.mem_of_getElem? (i := 209) (by decide +kernel))) rfl
theorem w3_21 : Cond.methodLink "GoodsDownhillLaw" 49 ⟨"GoodsDownhill", "week", "()I"⟩ ∈ gtb := gtb_in (tin3 (List.mem_of_getElem? (i := 21) (by decide +kernel))) rfl
theorem w3_210 : Cond.methodLink "GoodsDownhillLaw" 109 ⟨"GoodsDownhill", "judge", "()I"⟩ ∈ gtb := gtb_in (tin3 (List.mem_of_getElem? (i := 210) (by decide +kernel))) rfl
theorem w3_211 : Cond.instanceMethod ⟨"GoodsDownhill", "judge", "()I"⟩ ∈ gtb := gtb_in (tin3 (List.mem_of_getElem? (i := 211) (by decide +kernel))) rfl
theorem w3_212 : Cond.selects "GoodsDownhill" ⟨"GoodsDownhill", "judge", "()I"⟩ ⟨"GoodsDownhill", "judge", "()I"⟩ ∈ gtb := gtb_in (tin3 (List.mem_of_getElem? (i := 212) (by decide +kernel))) rfl
theorem w3_213 : Cond.code ⟨"GoodsDownhill", "judge", "()I"⟩ prog_1_method_30_code 4 (some .int) ∈ gtb := gtb_in (tin3 (List.mem_of_getElem? (i := 213) (by decide +kernel))) rfl
theorem w3_214 : Cond.methodLink "GoodsDownhillLaw" 117 ⟨"GoodsDownhill", "image", "()I"⟩ ∈ gtb := gtb_in (tin3 (List.mem_of_getElem? (i := 214) (by decide +kernel))) rfl
theorem w3_215 : Cond.instanceMethod ⟨"GoodsDownhill", "image", "()I"⟩ ∈ gtb := gtb_in (tin3 (List.mem_of_getElem? (i := 215) (by decide +kernel))) rfl
theorem w3_216 : Cond.selects "GoodsDownhill" ⟨"GoodsDownhill", "image", "()I"⟩ ⟨"GoodsDownhill", "image", "()I"⟩ ∈ gtb := gtb_in (tin3 (List.mem_of_getElem? (i := 216) (by decide +kernel))) rfl
theorem w3_217 : Cond.code ⟨"GoodsDownhill", "image", "()I"⟩ prog_1_method_31_code 1 (some .int) ∈ gtb := gtb_in (tin3 (List.mem_of_getElem? (i := 217) (by decide +kernel))) rfl
theorem w3_218 : Cond.methodLink "GoodsDownhillLaw" 121 ⟨"GoodsDownhill", "restore", "()I"⟩ ∈ gtb := gtb_in (tin3 (List.mem_of_getElem? (i := 218) (by decide +kernel))) rfl
theorem w3_219 : Cond.instanceMethod ⟨"GoodsDownhill", "restore", "()I"⟩ ∈ gtb := gtb_in (tin3 (List.mem_of_getElem? (i := 219) (by decide +kernel))) rfl
theorem w3_22 : Cond.instanceMethod ⟨"GoodsDownhill", "week", "()I"⟩ ∈ gtb := gtb_in (tin3 (List.mem_of_getElem? (i := 22) (by decide +kernel))) rfl
theorem w3_220 : Cond.selects "GoodsDownhill" ⟨"GoodsDownhill", "restore", "()I"⟩ ⟨"GoodsDownhill", "restore", "()I"⟩ ∈ gtb := gtb_in (tin3 (List.mem_of_getElem? (i := 220) (by decide +kernel))) rfl
theorem w3_221 : Cond.code ⟨"GoodsDownhill", "restore", "()I"⟩ prog_1_method_32_code 1 (some .int) ∈ gtb := gtb_in (tin3 (List.mem_of_getElem? (i := 221) (by decide +kernel))) rfl
theorem w3_222 : Cond.classLink "GoodsDownhillLaw" 10 "GoodsDownhillModel" ∈ gtb := gtb_in (tin3 (List.mem_of_getElem? (i := 222) (by decide +kernel))) rfl
theorem w3_223 : Cond.instantiable "GoodsDownhillModel" 38 ∈ gtb := gtb_in (tin3 (List.mem_of_getElem? (i := 223) (by decide +kernel))) rfl
theorem w3_224 : Cond.methodLink "GoodsDownhillLaw" 12 ⟨"GoodsDownhillModel", "<init>", "()V"⟩ ∈ gtb := gtb_in (tin3 (List.mem_of_getElem? (i := 224) (by decide +kernel))) rfl
theorem w3_225 : Cond.instanceMethod ⟨"GoodsDownhillModel", "<init>", "()V"⟩ ∈ gtb := gtb_in (tin3 (List.mem_of_getElem? (i := 225) (by decide +kernel))) rfl
theorem w3_226 : Cond.code ⟨"GoodsDownhillModel", "<init>", "()V"⟩ prog_14_method_1_code 1 none ∈ gtb := gtb_in (tin3 (List.mem_of_getElem? (i := 226) (by decide +kernel))) rfl
theorem w3_23 : Cond.selects "GoodsDownhill" ⟨"GoodsDownhill", "week", "()I"⟩ ⟨"GoodsDownhill", "week", "()I"⟩ ∈ gtb := gtb_in (tin3 (List.mem_of_getElem? (i := 23) (by decide +kernel))) rfl
theorem w3_24 : Cond.code ⟨"GoodsDownhill", "week", "()I"⟩ prog_1_method_11_code 1 (some .int) ∈ gtb := gtb_in (tin3 (List.mem_of_getElem? (i := 24) (by decide +kernel))) rfl
theorem w3_72 : Cond.methodLink "GoodsDownhillLaw" 53 ⟨"GoodsDownhill", "mule", "(III)I"⟩ ∈ gtb := gtb_in (tin3 (List.mem_of_getElem? (i := 72) (by decide +kernel))) rfl
theorem w3_73 : Cond.instanceMethod ⟨"GoodsDownhill", "mule", "(III)I"⟩ ∈ gtb := gtb_in (tin3 (List.mem_of_getElem? (i := 73) (by decide +kernel))) rfl
theorem w3_74 : Cond.selects "GoodsDownhill" ⟨"GoodsDownhill", "mule", "(III)I"⟩ ⟨"GoodsDownhill", "mule", "(III)I"⟩ ∈ gtb := gtb_in (tin3 (List.mem_of_getElem? (i := 74) (by decide +kernel))) rfl
theorem w3_75 : Cond.code ⟨"GoodsDownhill", "mule", "(III)I"⟩ prog_1_method_12_code 4 (some .int) ∈ gtb := gtb_in (tin3 (List.mem_of_getElem? (i := 75) (by decide +kernel))) rfl
theorem w3_76 : Cond.methodLink "GoodsDownhillLaw" 57 ⟨"GoodsDownhill", "owe", "(III)I"⟩ ∈ gtb := gtb_in (tin3 (List.mem_of_getElem? (i := 76) (by decide +kernel))) rfl
theorem w3_77 : Cond.instanceMethod ⟨"GoodsDownhill", "owe", "(III)I"⟩ ∈ gtb := gtb_in (tin3 (List.mem_of_getElem? (i := 77) (by decide +kernel))) rfl
theorem w3_78 : Cond.selects "GoodsDownhill" ⟨"GoodsDownhill", "owe", "(III)I"⟩ ⟨"GoodsDownhill", "owe", "(III)I"⟩ ∈ gtb := gtb_in (tin3 (List.mem_of_getElem? (i := 78) (by decide +kernel))) rfl
theorem w3_79 : Cond.code ⟨"GoodsDownhill", "owe", "(III)I"⟩ prog_1_method_13_code 5 (some .int) ∈ gtb := gtb_in (tin3 (List.mem_of_getElem? (i := 79) (by decide +kernel))) rfl
theorem w3_85 : Cond.methodLink "GoodsDownhillLaw" 61 ⟨"GoodsDownhill", "strike", "()I"⟩ ∈ gtb := gtb_in (tin3 (List.mem_of_getElem? (i := 85) (by decide +kernel))) rfl
theorem w3_86 : Cond.instanceMethod ⟨"GoodsDownhill", "strike", "()I"⟩ ∈ gtb := gtb_in (tin3 (List.mem_of_getElem? (i := 86) (by decide +kernel))) rfl
theorem w3_87 : Cond.selects "GoodsDownhill" ⟨"GoodsDownhill", "strike", "()I"⟩ ⟨"GoodsDownhill", "strike", "()I"⟩ ∈ gtb := gtb_in (tin3 (List.mem_of_getElem? (i := 87) (by decide +kernel))) rfl
theorem w3_88 : Cond.code ⟨"GoodsDownhill", "strike", "()I"⟩ prog_1_method_14_code 1 (some .int) ∈ gtb := gtb_in (tin3 (List.mem_of_getElem? (i := 88) (by decide +kernel))) rfl
theorem w4_103 : Cond.methodLink "GoodsDownhillLaw" 120 ⟨"GoodsDownhillModel", "image", "()I"⟩ ∈ gtb := gtb_in (tin4 (List.mem_of_getElem? (i := 103) (by decide +kernel))) rfl
theorem w4_104 : Cond.instanceMethod ⟨"GoodsDownhillModel", "image", "()I"⟩ ∈ gtb := gtb_in (tin4 (List.mem_of_getElem? (i := 104) (by decide +kernel))) rfl
theorem w4_105 : Cond.selects "GoodsDownhillModel" ⟨"GoodsDownhillModel", "image", "()I"⟩ ⟨"GoodsDownhillModel", "image", "()I"⟩ ∈ gtb := gtb_in (tin4 (List.mem_of_getElem? (i := 105) (by decide +kernel))) rfl
theorem w4_106 : Cond.code ⟨"GoodsDownhillModel", "image", "()I"⟩ prog_14_method_24_code 1 (some .int) ∈ gtb := gtb_in (tin4 (List.mem_of_getElem? (i := 106) (by decide +kernel))) rfl
theorem w4_115 : Cond.methodLink "GoodsDownhillLaw" 124 ⟨"GoodsDownhillModel", "restore", "()I"⟩ ∈ gtb := gtb_in (tin4 (List.mem_of_getElem? (i := 115) (by decide +kernel))) rfl
theorem w4_116 : Cond.instanceMethod ⟨"GoodsDownhillModel", "restore", "()I"⟩ ∈ gtb := gtb_in (tin4 (List.mem_of_getElem? (i := 116) (by decide +kernel))) rfl
theorem w4_117 : Cond.selects "GoodsDownhillModel" ⟨"GoodsDownhillModel", "restore", "()I"⟩ ⟨"GoodsDownhillModel", "restore", "()I"⟩ ∈ gtb := gtb_in (tin4 (List.mem_of_getElem? (i := 117) (by decide +kernel))) rfl
theorem w4_118 : Cond.code ⟨"GoodsDownhillModel", "restore", "()I"⟩ prog_14_method_25_code 1 (some .int) ∈ gtb := gtb_in (tin4 (List.mem_of_getElem? (i := 118) (by decide +kernel))) rfl
theorem w4_123 : Cond.methodLink "GoodsDownhillLaw" 17 ⟨"GoodsDownhillModel", "feed", "(I)I"⟩ ∈ gtb := gtb_in (tin4 (List.mem_of_getElem? (i := 123) (by decide +kernel))) rfl
theorem w4_124 : Cond.instanceMethod ⟨"GoodsDownhillModel", "feed", "(I)I"⟩ ∈ gtb := gtb_in (tin4 (List.mem_of_getElem? (i := 124) (by decide +kernel))) rfl
theorem w4_125 : Cond.selects "GoodsDownhillModel" ⟨"GoodsDownhillModel", "feed", "(I)I"⟩ ⟨"GoodsDownhillModel", "feed", "(I)I"⟩ ∈ gtb := gtb_in (tin4 (List.mem_of_getElem? (i := 125) (by decide +kernel))) rfl
theorem w4_126 : Cond.code ⟨"GoodsDownhillModel", "feed", "(I)I"⟩ prog_14_method_26_code 2 (some .int) ∈ gtb := gtb_in (tin4 (List.mem_of_getElem? (i := 126) (by decide +kernel))) rfl
theorem w4_127 : Cond.methodLink "GoodsDownhillLaw" 22 ⟨"GoodsDownhillModel", "mountain", "()I"⟩ ∈ gtb := gtb_in (tin4 (List.mem_of_getElem? (i := 127) (by decide +kernel))) rfl
theorem w4_128 : Cond.instanceMethod ⟨"GoodsDownhillModel", "mountain", "()I"⟩ ∈ gtb := gtb_in (tin4 (List.mem_of_getElem? (i := 128) (by decide +kernel))) rfl
theorem w4_129 : Cond.selects "GoodsDownhillModel" ⟨"GoodsDownhillModel", "mountain", "()I"⟩ ⟨"GoodsDownhillModel", "mountain", "()I"⟩ ∈ gtb := gtb_in (tin4 (List.mem_of_getElem? (i := 129) (by decide +kernel))) rfl
theorem w4_130 : Cond.code ⟨"GoodsDownhillModel", "mountain", "()I"⟩ prog_14_method_33_code 2 (some .int) ∈ gtb := gtb_in (tin4 (List.mem_of_getElem? (i := 130) (by decide +kernel))) rfl
theorem w4_176 : Cond.methodLink "GoodsDownhillLaw" 27 ⟨"GoodsDownhillModel", "house", "(II)I"⟩ ∈ gtb := gtb_in (tin4 (List.mem_of_getElem? (i := 176) (by decide +kernel))) rfl
theorem w4_177 : Cond.instanceMethod ⟨"GoodsDownhillModel", "house", "(II)I"⟩ ∈ gtb := gtb_in (tin4 (List.mem_of_getElem? (i := 177) (by decide +kernel))) rfl
theorem w4_178 : Cond.selects "GoodsDownhillModel" ⟨"GoodsDownhillModel", "house", "(II)I"⟩ ⟨"GoodsDownhillModel", "house", "(II)I"⟩ ∈ gtb := gtb_in (tin4 (List.mem_of_getElem? (i := 178) (by decide +kernel))) rfl
theorem w4_179 : Cond.code ⟨"GoodsDownhillModel", "house", "(II)I"⟩ prog_14_method_34_code 3 (some .int) ∈ gtb := gtb_in (tin4 (List.mem_of_getElem? (i := 179) (by decide +kernel))) rfl
theorem w4_188 : Cond.methodLink "GoodsDownhillLaw" 31 ⟨"GoodsDownhillModel", "store", "(II)I"⟩ ∈ gtb := gtb_in (tin4 (List.mem_of_getElem? (i := 188) (by decide +kernel))) rfl
theorem w4_189 : Cond.instanceMethod ⟨"GoodsDownhillModel", "store", "(II)I"⟩ ∈ gtb := gtb_in (tin4 (List.mem_of_getElem? (i := 189) (by decide +kernel))) rfl
theorem w4_190 : Cond.selects "GoodsDownhillModel" ⟨"GoodsDownhillModel", "store", "(II)I"⟩ ⟨"GoodsDownhillModel", "store", "(II)I"⟩ ∈ gtb := gtb_in (tin4 (List.mem_of_getElem? (i := 190) (by decide +kernel))) rfl
theorem w4_191 : Cond.code ⟨"GoodsDownhillModel", "store", "(II)I"⟩ prog_14_method_35_code 3 (some .int) ∈ gtb := gtb_in (tin4 (List.mem_of_getElem? (i := 191) (by decide +kernel))) rfl
theorem w4_196 : Cond.methodLink "GoodsDownhillLaw" 35 ⟨"GoodsDownhillModel", "price", "(II)I"⟩ ∈ gtb := gtb_in (tin4 (List.mem_of_getElem? (i := 196) (by decide +kernel))) rfl
theorem w4_197 : Cond.instanceMethod ⟨"GoodsDownhillModel", "price", "(II)I"⟩ ∈ gtb := gtb_in (tin4 (List.mem_of_getElem? (i := 197) (by decide +kernel))) rfl
theorem w4_198 : Cond.selects "GoodsDownhillModel" ⟨"GoodsDownhillModel", "price", "(II)I"⟩ ⟨"GoodsDownhillModel", "price", "(II)I"⟩ ∈ gtb := gtb_in (tin4 (List.mem_of_getElem? (i := 198) (by decide +kernel))) rfl
theorem w4_199 : Cond.code ⟨"GoodsDownhillModel", "price", "(II)I"⟩ prog_14_method_36_code 5 (some .int) ∈ gtb := gtb_in (tin4 (List.mem_of_getElem? (i := 199) (by decide +kernel))) rfl
theorem w4_200 : Cond.methodLink "GoodsDownhillLaw" 39 ⟨"GoodsDownhillModel", "law", "(I)I"⟩ ∈ gtb := gtb_in (tin4 (List.mem_of_getElem? (i := 200) (by decide +kernel))) rfl
theorem w4_201 : Cond.instanceMethod ⟨"GoodsDownhillModel", "law", "(I)I"⟩ ∈ gtb := gtb_in (tin4 (List.mem_of_getElem? (i := 201) (by decide +kernel))) rfl
theorem w4_202 : Cond.selects "GoodsDownhillModel" ⟨"GoodsDownhillModel", "law", "(I)I"⟩ ⟨"GoodsDownhillModel", "law", "(I)I"⟩ ∈ gtb := gtb_in (tin4 (List.mem_of_getElem? (i := 202) (by decide +kernel))) rfl
theorem w4_203 : Cond.code ⟨"GoodsDownhillModel", "law", "(I)I"⟩ prog_14_method_37_code 3 (some .int) ∈ gtb := gtb_in (tin4 (List.mem_of_getElem? (i := 203) (by decide +kernel))) rfl
theorem w4_204 : Cond.methodLink "GoodsDownhillLaw" 43 ⟨"GoodsDownhillModel", "lawful", "(II)I"⟩ ∈ gtb := gtb_in (tin4 (List.mem_of_getElem? (i := 204) (by decide +kernel))) rfl
theorem w4_205 : Cond.instanceMethod ⟨"GoodsDownhillModel", "lawful", "(II)I"⟩ ∈ gtb := gtb_in (tin4 (List.mem_of_getElem? (i := 205) (by decide +kernel))) rfl
theorem w4_206 : Cond.selects "GoodsDownhillModel" ⟨"GoodsDownhillModel", "lawful", "(II)I"⟩ ⟨"GoodsDownhillModel", "lawful", "(II)I"⟩ ∈ gtb := gtb_in (tin4 (List.mem_of_getElem? (i := 206) (by decide +kernel))) rfl
theorem w4_207 : Cond.code ⟨"GoodsDownhillModel", "lawful", "(II)I"⟩ prog_14_method_38_code 3 (some .int) ∈ gtb := gtb_in (tin4 (List.mem_of_getElem? (i := 207) (by decide +kernel))) rfl
theorem w4_212 : Cond.methodLink "GoodsDownhillLaw" 48 ⟨"GoodsDownhillModel", "sale", "(III)I"⟩ ∈ gtb := gtb_in (tin4 (List.mem_of_getElem? (i := 212) (by decide +kernel))) rfl
theorem w4_213 : Cond.instanceMethod ⟨"GoodsDownhillModel", "sale", "(III)I"⟩ ∈ gtb := gtb_in (tin4 (List.mem_of_getElem? (i := 213) (by decide +kernel))) rfl
theorem w4_214 : Cond.selects "GoodsDownhillModel" ⟨"GoodsDownhillModel", "sale", "(III)I"⟩ ⟨"GoodsDownhillModel", "sale", "(III)I"⟩ ∈ gtb := gtb_in (tin4 (List.mem_of_getElem? (i := 214) (by decide +kernel))) rfl
theorem w4_215 : Cond.code ⟨"GoodsDownhillModel", "sale", "(III)I"⟩ prog_14_method_39_code 4 (some .int) ∈ gtb := gtb_in (tin4 (List.mem_of_getElem? (i := 215) (by decide +kernel))) rfl
theorem w4_224 : Cond.methodLink "GoodsDownhillLaw" 52 ⟨"GoodsDownhillModel", "week", "()I"⟩ ∈ gtb := gtb_in (tin4 (List.mem_of_getElem? (i := 224) (by decide +kernel))) rfl
theorem w4_225 : Cond.instanceMethod ⟨"GoodsDownhillModel", "week", "()I"⟩ ∈ gtb := gtb_in (tin4 (List.mem_of_getElem? (i := 225) (by decide +kernel))) rfl
theorem w4_226 : Cond.selects "GoodsDownhillModel" ⟨"GoodsDownhillModel", "week", "()I"⟩ ⟨"GoodsDownhillModel", "week", "()I"⟩ ∈ gtb := gtb_in (tin4 (List.mem_of_getElem? (i := 226) (by decide +kernel))) rfl
theorem w4_227 : Cond.code ⟨"GoodsDownhillModel", "week", "()I"⟩ prog_14_method_40_code 1 (some .int) ∈ gtb := gtb_in (tin4 (List.mem_of_getElem? (i := 227) (by decide +kernel))) rfl
theorem w5_0 : Cond.methodLink "GoodsDownhillLaw" 56 ⟨"GoodsDownhillModel", "mule", "(III)I"⟩ ∈ gtb := gtb_in (tin5 (List.mem_of_getElem? (i := 0) (by decide +kernel))) rfl
theorem w5_1 : Cond.instanceMethod ⟨"GoodsDownhillModel", "mule", "(III)I"⟩ ∈ gtb := gtb_in (tin5 (List.mem_of_getElem? (i := 1) (by decide +kernel))) rfl
theorem w5_100 : Cond.code ⟨"GoodsDownhillModel", "seeds", "(II)I"⟩ prog_14_method_62_code 9 (some .int) ∈ gtb := gtb_in (tin5 (List.mem_of_getElem? (i := 100) (by decide +kernel))) rfl
theorem w5_108 : Cond.methodLink "GoodsDownhillLaw" 128 ⟨"GoodsDownhillModel", "count", "(I)I"⟩ ∈ gtb := gtb_in (tin5 (List.mem_of_getElem? (i := 108) (by decide +kernel))) rfl
theorem w5_109 : Cond.instanceMethod ⟨"GoodsDownhillModel", "count", "(I)I"⟩ ∈ gtb := gtb_in (tin5 (List.mem_of_getElem? (i := 109) (by decide +kernel))) rfl
theorem w5_110 : Cond.selects "GoodsDownhillModel" ⟨"GoodsDownhillModel", "count", "(I)I"⟩ ⟨"GoodsDownhillModel", "count", "(I)I"⟩ ∈ gtb := gtb_in (tin5 (List.mem_of_getElem? (i := 110) (by decide +kernel))) rfl
theorem w5_111 : Cond.code ⟨"GoodsDownhillModel", "count", "(I)I"⟩ prog_14_method_64_code 2 (some .int) ∈ gtb := gtb_in (tin5 (List.mem_of_getElem? (i := 111) (by decide +kernel))) rfl
theorem w5_12 : Cond.methodLink "GoodsDownhillLaw" 64 ⟨"GoodsDownhillModel", "strike", "()I"⟩ ∈ gtb := gtb_in (tin5 (List.mem_of_getElem? (i := 12) (by decide +kernel))) rfl
theorem w5_13 : Cond.instanceMethod ⟨"GoodsDownhillModel", "strike", "()I"⟩ ∈ gtb := gtb_in (tin5 (List.mem_of_getElem? (i := 13) (by decide +kernel))) rfl
theorem w5_14 : Cond.selects "GoodsDownhillModel" ⟨"GoodsDownhillModel", "strike", "()I"⟩ ⟨"GoodsDownhillModel", "strike", "()I"⟩ ∈ gtb := gtb_in (tin5 (List.mem_of_getElem? (i := 14) (by decide +kernel))) rfl
theorem w5_15 : Cond.code ⟨"GoodsDownhillModel", "strike", "()I"⟩ prog_14_method_43_code 1 (some .int) ∈ gtb := gtb_in (tin5 (List.mem_of_getElem? (i := 15) (by decide +kernel))) rfl
theorem w5_2 : Cond.selects "GoodsDownhillModel" ⟨"GoodsDownhillModel", "mule", "(III)I"⟩ ⟨"GoodsDownhillModel", "mule", "(III)I"⟩ ∈ gtb := gtb_in (tin5 (List.mem_of_getElem? (i := 2) (by decide +kernel))) rfl
theorem w5_28 : Cond.methodLink "GoodsDownhillLaw" 68 ⟨"GoodsDownhillModel", "behind", "(II)I"⟩ ∈ gtb := gtb_in (tin5 (List.mem_of_getElem? (i := 28) (by decide +kernel))) rfl
theorem w5_29 : Cond.instanceMethod ⟨"GoodsDownhillModel", "behind", "(II)I"⟩ ∈ gtb := gtb_in (tin5 (List.mem_of_getElem? (i := 29) (by decide +kernel))) rfl
theorem w5_3 : Cond.code ⟨"GoodsDownhillModel", "mule", "(III)I"⟩ prog_14_method_41_code 5 (some .int) ∈ gtb := gtb_in (tin5 (List.mem_of_getElem? (i := 3) (by decide +kernel))) rfl
theorem w5_30 : Cond.selects "GoodsDownhillModel" ⟨"GoodsDownhillModel", "behind", "(II)I"⟩ ⟨"GoodsDownhillModel", "behind", "(II)I"⟩ ∈ gtb := gtb_in (tin5 (List.mem_of_getElem? (i := 30) (by decide +kernel))) rfl
theorem w5_31 : Cond.code ⟨"GoodsDownhillModel", "behind", "(II)I"⟩ prog_14_method_45_code 5 (some .int) ∈ gtb := gtb_in (tin5 (List.mem_of_getElem? (i := 31) (by decide +kernel))) rfl
theorem w5_36 : Cond.methodLink "GoodsDownhillLaw" 72 ⟨"GoodsDownhillModel", "served", "(II)I"⟩ ∈ gtb := gtb_in (tin5 (List.mem_of_getElem? (i := 36) (by decide +kernel))) rfl
theorem w5_37 : Cond.instanceMethod ⟨"GoodsDownhillModel", "served", "(II)I"⟩ ∈ gtb := gtb_in (tin5 (List.mem_of_getElem? (i := 37) (by decide +kernel))) rfl
theorem w5_38 : Cond.selects "GoodsDownhillModel" ⟨"GoodsDownhillModel", "served", "(II)I"⟩ ⟨"GoodsDownhillModel", "served", "(II)I"⟩ ∈ gtb := gtb_in (tin5 (List.mem_of_getElem? (i := 38) (by decide +kernel))) rfl
theorem w5_39 : Cond.code ⟨"GoodsDownhillModel", "served", "(II)I"⟩ prog_14_method_47_code 6 (some .int) ∈ gtb := gtb_in (tin5 (List.mem_of_getElem? (i := 39) (by decide +kernel))) rfl
theorem w5_4 : Cond.methodLink "GoodsDownhillLaw" 60 ⟨"GoodsDownhillModel", "owe", "(III)I"⟩ ∈ gtb := gtb_in (tin5 (List.mem_of_getElem? (i := 4) (by decide +kernel))) rfl
theorem w5_44 : Cond.methodLink "GoodsDownhillLaw" 76 ⟨"GoodsDownhillModel", "drift", "(I)I"⟩ ∈ gtb := gtb_in (tin5 (List.mem_of_getElem? (i := 44) (by decide +kernel))) rfl
theorem w5_45 : Cond.instanceMethod ⟨"GoodsDownhillModel", "drift", "(I)I"⟩ ∈ gtb := gtb_in (tin5 (List.mem_of_getElem? (i := 45) (by decide +kernel))) rfl
theorem w5_46 : Cond.selects "GoodsDownhillModel" ⟨"GoodsDownhillModel", "drift", "(I)I"⟩ ⟨"GoodsDownhillModel", "drift", "(I)I"⟩ ∈ gtb := gtb_in (tin5 (List.mem_of_getElem? (i := 46) (by decide +kernel))) rfl
theorem w5_47 : Cond.code ⟨"GoodsDownhillModel", "drift", "(I)I"⟩ prog_14_method_48_code 7 (some .int) ∈ gtb := gtb_in (tin5 (List.mem_of_getElem? (i := 47) (by decide +kernel))) rfl
theorem w5_48 : Cond.methodLink "GoodsDownhillLaw" 80 ⟨"GoodsDownhillModel", "stuck", "()I"⟩ ∈ gtb := gtb_in (tin5 (List.mem_of_getElem? (i := 48) (by decide +kernel))) rfl
theorem w5_49 : Cond.instanceMethod ⟨"GoodsDownhillModel", "stuck", "()I"⟩ ∈ gtb := gtb_in (tin5 (List.mem_of_getElem? (i := 49) (by decide +kernel))) rfl
theorem w5_5 : Cond.instanceMethod ⟨"GoodsDownhillModel", "owe", "(III)I"⟩ ∈ gtb := gtb_in (tin5 (List.mem_of_getElem? (i := 5) (by decide +kernel))) rfl
theorem w5_50 : Cond.selects "GoodsDownhillModel" ⟨"GoodsDownhillModel", "stuck", "()I"⟩ ⟨"GoodsDownhillModel", "stuck", "()I"⟩ ∈ gtb := gtb_in (tin5 (List.mem_of_getElem? (i := 50) (by decide +kernel))) rfl
theorem w5_51 : Cond.code ⟨"GoodsDownhillModel", "stuck", "()I"⟩ prog_14_method_49_code 7 (some .int) ∈ gtb := gtb_in (tin5 (List.mem_of_getElem? (i := 51) (by decide +kernel))) rfl
theorem w5_52 : Cond.methodLink "GoodsDownhillLaw" 84 ⟨"GoodsDownhillModel", "most", "(I)I"⟩ ∈ gtb := gtb_in (tin5 (List.mem_of_getElem? (i := 52) (by decide +kernel))) rfl
theorem w5_53 : Cond.instanceMethod ⟨"GoodsDownhillModel", "most", "(I)I"⟩ ∈ gtb := gtb_in (tin5 (List.mem_of_getElem? (i := 53) (by decide +kernel))) rfl
theorem w5_54 : Cond.selects "GoodsDownhillModel" ⟨"GoodsDownhillModel", "most", "(I)I"⟩ ⟨"GoodsDownhillModel", "most", "(I)I"⟩ ∈ gtb := gtb_in (tin5 (List.mem_of_getElem? (i := 54) (by decide +kernel))) rfl
theorem w5_55 : Cond.code ⟨"GoodsDownhillModel", "most", "(I)I"⟩ prog_14_method_51_code 2 (some .int) ∈ gtb := gtb_in (tin5 (List.mem_of_getElem? (i := 55) (by decide +kernel))) rfl
theorem w5_6 : Cond.selects "GoodsDownhillModel" ⟨"GoodsDownhillModel", "owe", "(III)I"⟩ ⟨"GoodsDownhillModel", "owe", "(III)I"⟩ ∈ gtb := gtb_in (tin5 (List.mem_of_getElem? (i := 6) (by decide +kernel))) rfl
theorem w5_60 : Cond.methodLink "GoodsDownhillLaw" 88 ⟨"GoodsDownhillModel", "cellar", "(III)I"⟩ ∈ gtb := gtb_in (tin5 (List.mem_of_getElem? (i := 60) (by decide +kernel))) rfl
theorem w5_61 : Cond.instanceMethod ⟨"GoodsDownhillModel", "cellar", "(III)I"⟩ ∈ gtb := gtb_in (tin5 (List.mem_of_getElem? (i := 61) (by decide +kernel))) rfl
theorem w5_62 : Cond.selects "GoodsDownhillModel" ⟨"GoodsDownhillModel", "cellar", "(III)I"⟩ ⟨"GoodsDownhillModel", "cellar", "(III)I"⟩ ∈ gtb := gtb_in (tin5 (List.mem_of_getElem? (i := 62) (by decide +kernel))) rfl
theorem w5_63 : Cond.code ⟨"GoodsDownhillModel", "cellar", "(III)I"⟩ prog_14_method_52_code 9 (some .int) ∈ gtb := gtb_in (tin5 (List.mem_of_getElem? (i := 63) (by decide +kernel))) rfl
theorem w5_65 : Cond.methodLink "GoodsDownhillLaw" 92 ⟨"GoodsDownhillModel", "paths", "(III)I"⟩ ∈ gtb := gtb_in (tin5 (List.mem_of_getElem? (i := 65) (by decide +kernel))) rfl
theorem w5_66 : Cond.instanceMethod ⟨"GoodsDownhillModel", "paths", "(III)I"⟩ ∈ gtb := gtb_in (tin5 (List.mem_of_getElem? (i := 66) (by decide +kernel))) rfl
theorem w5_67 : Cond.selects "GoodsDownhillModel" ⟨"GoodsDownhillModel", "paths", "(III)I"⟩ ⟨"GoodsDownhillModel", "paths", "(III)I"⟩ ∈ gtb := gtb_in (tin5 (List.mem_of_getElem? (i := 67) (by decide +kernel))) rfl
theorem w5_68 : Cond.code ⟨"GoodsDownhillModel", "paths", "(III)I"⟩ prog_14_method_54_code 9 (some .int) ∈ gtb := gtb_in (tin5 (List.mem_of_getElem? (i := 68) (by decide +kernel))) rfl
theorem w5_7 : Cond.code ⟨"GoodsDownhillModel", "owe", "(III)I"⟩ prog_14_method_42_code 6 (some .int) ∈ gtb := gtb_in (tin5 (List.mem_of_getElem? (i := 7) (by decide +kernel))) rfl
theorem w5_73 : Cond.methodLink "GoodsDownhillLaw" 96 ⟨"GoodsDownhillModel", "owed", "(I)I"⟩ ∈ gtb := gtb_in (tin5 (List.mem_of_getElem? (i := 73) (by decide +kernel))) rfl
theorem w5_74 : Cond.instanceMethod ⟨"GoodsDownhillModel", "owed", "(I)I"⟩ ∈ gtb := gtb_in (tin5 (List.mem_of_getElem? (i := 74) (by decide +kernel))) rfl
theorem w5_75 : Cond.selects "GoodsDownhillModel" ⟨"GoodsDownhillModel", "owed", "(I)I"⟩ ⟨"GoodsDownhillModel", "owed", "(I)I"⟩ ∈ gtb := gtb_in (tin5 (List.mem_of_getElem? (i := 75) (by decide +kernel))) rfl
theorem w5_76 : Cond.code ⟨"GoodsDownhillModel", "owed", "(I)I"⟩ prog_14_method_55_code 4 (some .int) ∈ gtb := gtb_in (tin5 (List.mem_of_getElem? (i := 76) (by decide +kernel))) rfl
theorem w5_77 : Cond.methodLink "GoodsDownhillLaw" 100 ⟨"GoodsDownhillModel", "rings", "(I)I"⟩ ∈ gtb := gtb_in (tin5 (List.mem_of_getElem? (i := 77) (by decide +kernel))) rfl
theorem w5_78 : Cond.instanceMethod ⟨"GoodsDownhillModel", "rings", "(I)I"⟩ ∈ gtb := gtb_in (tin5 (List.mem_of_getElem? (i := 78) (by decide +kernel))) rfl
theorem w5_79 : Cond.selects "GoodsDownhillModel" ⟨"GoodsDownhillModel", "rings", "(I)I"⟩ ⟨"GoodsDownhillModel", "rings", "(I)I"⟩ ∈ gtb := gtb_in (tin5 (List.mem_of_getElem? (i := 79) (by decide +kernel))) rfl
theorem w5_80 : Cond.code ⟨"GoodsDownhillModel", "rings", "(I)I"⟩ prog_14_method_56_code 3 (some .int) ∈ gtb := gtb_in (tin5 (List.mem_of_getElem? (i := 80) (by decide +kernel))) rfl
theorem w5_81 : Cond.methodLink "GoodsDownhillLaw" 104 ⟨"GoodsDownhillModel", "votes", "(II)I"⟩ ∈ gtb := gtb_in (tin5 (List.mem_of_getElem? (i := 81) (by decide +kernel))) rfl
theorem w5_82 : Cond.instanceMethod ⟨"GoodsDownhillModel", "votes", "(II)I"⟩ ∈ gtb := gtb_in (tin5 (List.mem_of_getElem? (i := 82) (by decide +kernel))) rfl
theorem w5_83 : Cond.selects "GoodsDownhillModel" ⟨"GoodsDownhillModel", "votes", "(II)I"⟩ ⟨"GoodsDownhillModel", "votes", "(II)I"⟩ ∈ gtb := gtb_in (tin5 (List.mem_of_getElem? (i := 83) (by decide +kernel))) rfl
theorem w5_84 : Cond.code ⟨"GoodsDownhillModel", "votes", "(II)I"⟩ prog_14_method_57_code 6 (some .int) ∈ gtb := gtb_in (tin5 (List.mem_of_getElem? (i := 84) (by decide +kernel))) rfl
theorem w5_85 : Cond.methodLink "GoodsDownhillLaw" 108 ⟨"GoodsDownhillModel", "row", "(I)I"⟩ ∈ gtb := gtb_in (tin5 (List.mem_of_getElem? (i := 85) (by decide +kernel))) rfl
theorem w5_86 : Cond.instanceMethod ⟨"GoodsDownhillModel", "row", "(I)I"⟩ ∈ gtb := gtb_in (tin5 (List.mem_of_getElem? (i := 86) (by decide +kernel))) rfl
theorem w5_87 : Cond.selects "GoodsDownhillModel" ⟨"GoodsDownhillModel", "row", "(I)I"⟩ ⟨"GoodsDownhillModel", "row", "(I)I"⟩ ∈ gtb := gtb_in (tin5 (List.mem_of_getElem? (i := 87) (by decide +kernel))) rfl
theorem w5_88 : Cond.code ⟨"GoodsDownhillModel", "row", "(I)I"⟩ prog_14_method_58_code 2 (some .int) ∈ gtb := gtb_in (tin5 (List.mem_of_getElem? (i := 88) (by decide +kernel))) rfl
theorem w5_89 : Cond.methodLink "GoodsDownhillLaw" 112 ⟨"GoodsDownhillModel", "judge", "()I"⟩ ∈ gtb := gtb_in (tin5 (List.mem_of_getElem? (i := 89) (by decide +kernel))) rfl
theorem w5_90 : Cond.instanceMethod ⟨"GoodsDownhillModel", "judge", "()I"⟩ ∈ gtb := gtb_in (tin5 (List.mem_of_getElem? (i := 90) (by decide +kernel))) rfl
theorem w5_91 : Cond.selects "GoodsDownhillModel" ⟨"GoodsDownhillModel", "judge", "()I"⟩ ⟨"GoodsDownhillModel", "judge", "()I"⟩ ∈ gtb := gtb_in (tin5 (List.mem_of_getElem? (i := 91) (by decide +kernel))) rfl
theorem w5_92 : Cond.code ⟨"GoodsDownhillModel", "judge", "()I"⟩ prog_14_method_60_code 4 (some .int) ∈ gtb := gtb_in (tin5 (List.mem_of_getElem? (i := 92) (by decide +kernel))) rfl
theorem w5_97 : Cond.methodLink "GoodsDownhillLaw" 116 ⟨"GoodsDownhillModel", "seeds", "(II)I"⟩ ∈ gtb := gtb_in (tin5 (List.mem_of_getElem? (i := 97) (by decide +kernel))) rfl
theorem w5_98 : Cond.instanceMethod ⟨"GoodsDownhillModel", "seeds", "(II)I"⟩ ∈ gtb := gtb_in (tin5 (List.mem_of_getElem? (i := 98) (by decide +kernel))) rfl
theorem w5_99 : Cond.selects "GoodsDownhillModel" ⟨"GoodsDownhillModel", "seeds", "(II)I"⟩ ⟨"GoodsDownhillModel", "seeds", "(II)I"⟩ ∈ gtb := gtb_in (tin5 (List.mem_of_getElem? (i := 99) (by decide +kernel))) rfl
theorem ms_X11_behind : MS yX11_behind cX11_behind 3 (some .int) 2 := ⟨w3_107, w1_1, by decide, by decide, by decide +kernel⟩
theorem ms_X11_cellar : MS yX11_cellar cX11_cellar 4 (some .int) 3 := ⟨w3_175, w1_1, by decide, by decide, by decide +kernel⟩
theorem ms_X11_count : MS yX11_count cX11_count 2 (some .int) 1 := ⟨w2_225, w1_1, by decide, by decide, by decide +kernel⟩
theorem ms_X11_drift : MS yX11_drift cX11_drift 4 (some .int) 1 := ⟨w3_119, w1_1, by decide, by decide, by decide +kernel⟩
theorem ms_X11_feed : MS yX11_feed cX11_feed 2 (some .int) 1 := ⟨w1_213, w1_1, by decide, by decide, by decide +kernel⟩
theorem ms_X11_house : MS yX11_house cX11_house 4 (some .int) 2 := ⟨w2_141, w1_1, by decide, by decide, by decide +kernel⟩
theorem ms_X11_image : MS yX11_image cX11_image 1 (some .int) 0 := ⟨w3_217, w1_1, by decide, by decide, by decide +kernel⟩
theorem ms_X11_init : MS yX11_init cX11_init 1 none 0 := ⟨w1_20, w1_1, by decide, by decide, by decide +kernel⟩
theorem ms_X11_judge : MS yX11_judge cX11_judge 4 (some .int) 0 := ⟨w3_213, w1_1, by decide, by decide, by decide +kernel⟩
theorem ms_X11_law : MS yX11_law cX11_law 3 (some .int) 1 := ⟨w2_209, w1_1, by decide, by decide, by decide +kernel⟩
theorem ms_X11_lawful : MS yX11_lawful cX11_lawful 3 (some .int) 2 := ⟨w2_214, w1_1, by decide, by decide, by decide +kernel⟩
theorem ms_X11_most : MS yX11_most cX11_most 2 (some .int) 1 := ⟨w3_161, w1_1, by decide, by decide, by decide +kernel⟩
theorem ms_X11_mountain : MS yX11_mountain cX11_mountain 2 (some .int) 0 := ⟨w1_230, w1_1, by decide, by decide, by decide +kernel⟩
theorem ms_X11_mule : MS yX11_mule cX11_mule 4 (some .int) 3 := ⟨w3_75, w1_1, by decide, by decide, by decide +kernel⟩
theorem ms_X11_owe : MS yX11_owe cX11_owe 5 (some .int) 3 := ⟨w3_79, w1_1, by decide, by decide, by decide +kernel⟩
theorem ms_X11_owed : MS yX11_owed cX11_owed 2 (some .int) 1 := ⟨w3_201, w1_1, by decide, by decide, by decide +kernel⟩
theorem ms_X11_paths : MS yX11_paths cX11_paths 4 (some .int) 3 := ⟨w3_185, w1_1, by decide, by decide, by decide +kernel⟩
theorem ms_X11_price : MS yX11_price cX11_price 4 (some .int) 2 := ⟨w2_205, w1_1, by decide, by decide, by decide +kernel⟩
theorem ms_X11_restore : MS yX11_restore cX11_restore 1 (some .int) 0 := ⟨w3_221, w1_1, by decide, by decide, by decide +kernel⟩
theorem ms_X11_rings : MS yX11_rings cX11_rings 3 (some .int) 1 := ⟨w3_131, w1_1, by decide, by decide, by decide +kernel⟩
theorem ms_X11_row : MS yX11_row cX11_row 2 (some .int) 1 := ⟨w3_209, w1_1, by decide, by decide, by decide +kernel⟩
theorem ms_X11_sale : MS yX11_sale cX11_sale 4 (some .int) 3 := ⟨w3_0, w1_1, by decide, by decide, by decide +kernel⟩
theorem ms_X11_seeds : MS yX11_seeds cX11_seeds 8 (some .int) 2 := ⟨w3_135, w1_1, by decide, by decide, by decide +kernel⟩
theorem ms_X11_served : MS yX11_served cX11_served 3 (some .int) 2 := ⟨w3_115, w1_1, by decide, by decide, by decide +kernel⟩
theorem ms_X11_store : MS yX11_store cX11_store 3 (some .int) 2 := ⟨w2_196, w1_1, by decide, by decide, by decide +kernel⟩
theorem ms_X11_strike : MS yX11_strike cX11_strike 1 (some .int) 0 := ⟨w3_88, w1_1, by decide, by decide, by decide +kernel⟩
theorem ms_X11_stuck : MS yX11_stuck cX11_stuck 3 (some .int) 0 := ⟨w3_148, w1_1, by decide, by decide, by decide +kernel⟩
theorem ms_X11_votes : MS yX11_votes cX11_votes 5 (some .int) 2 := ⟨w3_127, w1_1, by decide, by decide, by decide +kernel⟩
theorem ms_X11_week : MS yX11_week cX11_week 1 (some .int) 0 := ⟨w3_24, w1_1, by decide, by decide, by decide +kernel⟩
theorem ms_X12_behind : MS yX12_behind cX12_behind 5 (some .int) 2 := ⟨w5_31, w1_7, by decide, by decide, by decide +kernel⟩
theorem ms_X12_cellar : MS yX12_cellar cX12_cellar 9 (some .int) 3 := ⟨w5_63, w1_7, by decide, by decide, by decide +kernel⟩
theorem ms_X12_count : MS yX12_count cX12_count 2 (some .int) 1 := ⟨w5_111, w1_7, by decide, by decide, by decide +kernel⟩
theorem ms_X12_drift : MS yX12_drift cX12_drift 7 (some .int) 1 := ⟨w5_47, w1_7, by decide, by decide, by decide +kernel⟩
theorem ms_X12_feed : MS yX12_feed cX12_feed 2 (some .int) 1 := ⟨w4_126, w1_7, by decide, by decide, by decide +kernel⟩
theorem ms_X12_house : MS yX12_house cX12_house 3 (some .int) 2 := ⟨w4_179, w1_7, by decide, by decide, by decide +kernel⟩
theorem ms_X12_image : MS yX12_image cX12_image 1 (some .int) 0 := ⟨w4_106, w1_7, by decide, by decide, by decide +kernel⟩
theorem ms_X12_init : MS yX12_init cX12_init 1 none 0 := ⟨w3_226, w1_7, by decide, by decide, by decide +kernel⟩
theorem ms_X12_judge : MS yX12_judge cX12_judge 4 (some .int) 0 := ⟨w5_92, w1_7, by decide, by decide, by decide +kernel⟩
theorem ms_X12_law : MS yX12_law cX12_law 3 (some .int) 1 := ⟨w4_203, w1_7, by decide, by decide, by decide +kernel⟩
theorem ms_X12_lawful : MS yX12_lawful cX12_lawful 3 (some .int) 2 := ⟨w4_207, w1_7, by decide, by decide, by decide +kernel⟩
theorem ms_X12_most : MS yX12_most cX12_most 2 (some .int) 1 := ⟨w5_55, w1_7, by decide, by decide, by decide +kernel⟩
theorem ms_X12_mountain : MS yX12_mountain cX12_mountain 2 (some .int) 0 := ⟨w4_130, w1_7, by decide, by decide, by decide +kernel⟩
theorem ms_X12_mule : MS yX12_mule cX12_mule 5 (some .int) 3 := ⟨w5_3, w1_7, by decide, by decide, by decide +kernel⟩
theorem ms_X12_owe : MS yX12_owe cX12_owe 6 (some .int) 3 := ⟨w5_7, w1_7, by decide, by decide, by decide +kernel⟩
theorem ms_X12_owed : MS yX12_owed cX12_owed 4 (some .int) 1 := ⟨w5_76, w1_7, by decide, by decide, by decide +kernel⟩
theorem ms_X12_paths : MS yX12_paths cX12_paths 9 (some .int) 3 := ⟨w5_68, w1_7, by decide, by decide, by decide +kernel⟩
theorem ms_X12_price : MS yX12_price cX12_price 5 (some .int) 2 := ⟨w4_199, w1_7, by decide, by decide, by decide +kernel⟩
theorem ms_X12_restore : MS yX12_restore cX12_restore 1 (some .int) 0 := ⟨w4_118, w1_7, by decide, by decide, by decide +kernel⟩
theorem ms_X12_rings : MS yX12_rings cX12_rings 3 (some .int) 1 := ⟨w5_80, w1_7, by decide, by decide, by decide +kernel⟩
theorem ms_X12_row : MS yX12_row cX12_row 2 (some .int) 1 := ⟨w5_88, w1_7, by decide, by decide, by decide +kernel⟩
theorem ms_X12_sale : MS yX12_sale cX12_sale 4 (some .int) 3 := ⟨w4_215, w1_7, by decide, by decide, by decide +kernel⟩
theorem ms_X12_seeds : MS yX12_seeds cX12_seeds 9 (some .int) 2 := ⟨w5_100, w1_7, by decide, by decide, by decide +kernel⟩
theorem ms_X12_served : MS yX12_served cX12_served 6 (some .int) 2 := ⟨w5_39, w1_7, by decide, by decide, by decide +kernel⟩
theorem ms_X12_store : MS yX12_store cX12_store 3 (some .int) 2 := ⟨w4_191, w1_7, by decide, by decide, by decide +kernel⟩
theorem ms_X12_strike : MS yX12_strike cX12_strike 1 (some .int) 0 := ⟨w5_15, w1_7, by decide, by decide, by decide +kernel⟩
theorem ms_X12_stuck : MS yX12_stuck cX12_stuck 7 (some .int) 0 := ⟨w5_51, w1_7, by decide, by decide, by decide +kernel⟩
theorem ms_X12_votes : MS yX12_votes cX12_votes 6 (some .int) 2 := ⟨w5_84, w1_7, by decide, by decide, by decide +kernel⟩
theorem ms_X12_week : MS yX12_week cX12_week 1 (some .int) 0 := ⟨w4_227, w1_7, by decide, by decide, by decide +kernel⟩
section
variable {G : Gt} {l : Launch} {y : MethodName} {cc : ByteArray} {nL : Nat} {rt : Option FieldType} {t mc ms ce sl pc : Nat} {lv st : List Value} {S : Mm} {b L : Nat} {xs : Nat → Int32}
theorem r_aloadX {k : Fin 4} {T : TG} {a : Nat} (hd : decode cc pc = .ok (.aload_n k, 1)) (hl : lv[(k : Nat)]? = some (.retAddr a)) (K : Sat G l y cc nL rt t mc ms ce sl (pc + 1) lv (.retAddr a :: st) S T) : Sat G l y cc nL rt t mc ms ce sl pc lv st S T :=
  fun p e s m args below meth c H locs ls hC hH hL => lv_aload_n hC.1 hC.2.1 hd rfl (hL.2.2 k _ hl (by simp)) (K p e s m args below meth c H locs ls hC hH hL)
theorem r_sload {i : Int32} (hd : decode cc pc = .ok (.iaload, 1)) (h : vp_in i L) (K : Sat G l y cc nL rt t mc ms ce sl (pc + 1) lv (.int (xs i.toNatClampNeg) :: st) S (.inr (b, L, xs))) : Sat G l y cc nL rt t mc ms ce sl pc lv (.int i :: .retAddr b :: st) S (.inr (b, L, xs)) := by
  intro p e s m args below meth c H locs ls hC hH hL
  obtain ⟨-, hX, hb, hz⟩ := hC.2.2.2.2.2.2.2.2.2.2.2
  exact va_sld hC.1 hC.2.1 hX hb (show ¬ G.1 ≤ b by rw [← hz]; exact Nat.not_le.mpr hb) hH.2.2 h hd (K p e s m args below meth c H locs ls hC hH hL)
theorem r_slen (hd : decode cc pc = .ok (.arraylength, 1)) (K : Sat G l y cc nL rt t mc ms ce sl (pc + 1) lv (.int (Int32.ofNat L) :: st) S (.inr (b, L, xs))) : Sat G l y cc nL rt t mc ms ce sl pc lv (.retAddr b :: st) S (.inr (b, L, xs)) := by
  intro p e s m args below meth c H locs ls hC hH hL
  obtain ⟨-, hX, hb, hz⟩ := hC.2.2.2.2.2.2.2.2.2.2.2
  exact va_slen hC.1 hC.2.1 hX hb (show ¬ G.1 ≤ b by rw [← hz]; exact Nat.not_le.mpr hb) hH.2.2 hd (K p e s m args below meth c H locs ls hC hH hL)
theorem r_lawret (hd : decode code pc = .ok (.ireturn, 1)) (h1 : ce ≤ 600000) (h2 : sl ≤ 7302250) : Sat G l x code 4 ret 2048 600000 7302250 ce sl pc lv [.int 1] S (.inr (b, L, xs)) := by
  intro p e s m args below meth c H locs ls hC hH hL
  obtain ⟨ha, hX, hb, hz⟩ := hC.2.2.2.2.2.2.2.2.2.2.2
  subst ha
  refine va_forget (fun q hq => ?_) (W.widen h1 h2 ?_)
  · rw [hz]
    exact hH.2.2.2.2 q hq
  · exact lw_ret hC.1 hC.2.1 hC.2.2.1 hC.2.2.2.2.2.2.1 hd
end
def ls_0 (xr mr : Nat) (S : Mm) (a1 : Int32) : Option Mm := (f_X11_feed S xr a1).bind fun q => (f_X12_feed q.2 mr a1).bind fun r => if q.1 = r.1 then some r.2 else none
set_option maxRecDepth 20000 in
theorem lc_0 {G : Gt} {l : Launch} {b L : Nat} {xs : Nat → Int32} {ce sl xr mr : Nat} {S S' : Mm} {i : Int32} (hb1 : vp_in (i + 1) L) (hb2 : vp_in (i + 2) L) (hb3 : vp_in (i + 3) L) (hce : ce + 100 ≤ 600000) (hsl : sl + 600 ≤ 7302250) (hf : ls_0 xr mr S (xs (i + 1).toNatClampNeg) = some S') (K : Sat G l x code 4 ret 2048 600000 7302250 (ce + 100) (sl + 600) 914 [.retAddr b, .ref xr, .ref mr, .int i] [] S' (.inr (b, L, xs))) : Sat G l x code 4 ret 2048 600000 7302250 ce sl 160 [.retAddr b, .ref xr, .ref mr, .int i] [] S (.inr (b, L, xs)) := by
  unfold ls_0 at hf
  refine r_aload_n dL_law_160 rfl ?_
  refine r_aloadX dL_law_161 rfl ?_
  refine r_iload_n dL_law_162 rfl ?_
  refine r_iconst (v := 1) dL_law_163 (by decide) ?_
  refine r_iadd dL_law_164 ?_
  refine r_sload dL_law_165 hb1 ?_
  obtain ⟨q1, h1, hf⟩ := bnd hf
  refine r_callVi (st := []) (as := [.int (xs (i + 1).toNatClampNeg)]) dL_law_166 ms_X11_feed ⟨rfl, w1_210, w1_211, w1_212⟩ (ok_X11_feed h1) (c_X11_feed h1) rfl ⟨by decide, by decide⟩ (Nat.le_of_ble_eq_true rfl) (by omega) (by omega) rfl ?_
  refine r_aload_n dL_law_169 rfl ?_
  refine r_aloadX dL_law_170 rfl ?_
  refine r_iload_n dL_law_171 rfl ?_
  refine r_iconst (v := 1) dL_law_172 (by decide) ?_
  refine r_iadd dL_law_173 ?_
  refine r_sload dL_law_174 hb1 ?_
  obtain ⟨q2, h2, hf⟩ := bnd hf
  refine r_callVi (st := [.int q1.1]) (as := [.int (xs (i + 1).toNatClampNeg)]) dL_law_175 ms_X12_feed ⟨rfl, w4_123, w4_124, w4_125⟩ (ok_X12_feed h2) (c_X12_feed h2) rfl ⟨by decide, by decide⟩ (Nat.le_of_ble_eq_true rfl) (by omega) (by omega) rfl ?_
  replace hf := oif hf
  refine r_icmp_eq (tgt := 914) dL_law_178 (by decide) (fun c => ?_) (fun c => absurd hf.1 c)
  have hS := Option.some.inj hf.2
  rw [hS]
  exact r_widen (by omega) (by omega) K
def ls_1 (xr mr : Nat) (S : Mm)  : Option Mm := (f_X11_mountain S xr).bind fun q => (f_X12_mountain q.2 mr).bind fun r => if q.1 = r.1 then some r.2 else none
set_option maxRecDepth 20000 in
theorem lc_1 {G : Gt} {l : Launch} {b L : Nat} {xs : Nat → Int32} {ce sl xr mr : Nat} {S S' : Mm} {i : Int32} (hb1 : vp_in (i + 1) L) (hb2 : vp_in (i + 2) L) (hb3 : vp_in (i + 3) L) (hce : ce + 100 ≤ 600000) (hsl : sl + 600 ≤ 7302250) (hf : ls_1 xr mr S = some S') (K : Sat G l x code 4 ret 2048 600000 7302250 (ce + 100) (sl + 600) 914 [.retAddr b, .ref xr, .ref mr, .int i] [] S' (.inr (b, L, xs))) : Sat G l x code 4 ret 2048 600000 7302250 ce sl 183 [.retAddr b, .ref xr, .ref mr, .int i] [] S (.inr (b, L, xs)) := by
  unfold ls_1 at hf
  refine r_aload_n dL_law_183 rfl ?_
  obtain ⟨q1, h1, hf⟩ := bnd hf
  refine r_callVi (st := []) (as := []) dL_law_184 ms_X11_mountain ⟨rfl, w1_227, w1_228, w1_229⟩ (ok_X11_mountain h1) (c_X11_mountain h1) rfl ⟨by decide, by decide⟩ (Nat.le_of_ble_eq_true rfl) (by omega) (by omega) rfl ?_
  refine r_aload_n dL_law_187 rfl ?_
  obtain ⟨q2, h2, hf⟩ := bnd hf
  refine r_callVi (st := [.int q1.1]) (as := []) dL_law_188 ms_X12_mountain ⟨rfl, w4_127, w4_128, w4_129⟩ (ok_X12_mountain h2) (c_X12_mountain h2) rfl ⟨by decide, by decide⟩ (Nat.le_of_ble_eq_true rfl) (by omega) (by omega) rfl ?_
  replace hf := oif hf
  refine r_icmp_eq (tgt := 914) dL_law_191 (by decide) (fun c => ?_) (fun c => absurd hf.1 c)
  have hS := Option.some.inj hf.2
  rw [hS]
  exact r_widen (by omega) (by omega) K
def ls_2 (xr mr : Nat) (S : Mm) (a1 : Int32) (a2 : Int32) : Option Mm := (f_X11_house S xr a1 a2).bind fun q => (f_X12_house q.2 mr a1 a2).bind fun r => if q.1 = r.1 then some r.2 else none
set_option maxRecDepth 20000 in
theorem lc_2 {G : Gt} {l : Launch} {b L : Nat} {xs : Nat → Int32} {ce sl xr mr : Nat} {S S' : Mm} {i : Int32} (hb1 : vp_in (i + 1) L) (hb2 : vp_in (i + 2) L) (hb3 : vp_in (i + 3) L) (hce : ce + 100 ≤ 600000) (hsl : sl + 600 ≤ 7302250) (hf : ls_2 xr mr S (xs (i + 1).toNatClampNeg) (xs (i + 2).toNatClampNeg) = some S') (K : Sat G l x code 4 ret 2048 600000 7302250 (ce + 100) (sl + 600) 914 [.retAddr b, .ref xr, .ref mr, .int i] [] S' (.inr (b, L, xs))) : Sat G l x code 4 ret 2048 600000 7302250 ce sl 196 [.retAddr b, .ref xr, .ref mr, .int i] [] S (.inr (b, L, xs)) := by
  unfold ls_2 at hf
  refine r_aload_n dL_law_196 rfl ?_
  refine r_aloadX dL_law_197 rfl ?_
  refine r_iload_n dL_law_198 rfl ?_
  refine r_iconst (v := 1) dL_law_199 (by decide) ?_
  refine r_iadd dL_law_200 ?_
  refine r_sload dL_law_201 hb1 ?_
  refine r_aloadX dL_law_202 rfl ?_
  refine r_iload_n dL_law_203 rfl ?_
  refine r_iconst (v := 2) dL_law_204 (by decide) ?_
  refine r_iadd dL_law_205 ?_
  refine r_sload dL_law_206 hb2 ?_
  obtain ⟨q1, h1, hf⟩ := bnd hf
  refine r_callVi (st := []) (as := [.int (xs (i + 1).toNatClampNeg), .int (xs (i + 2).toNatClampNeg)]) dL_law_207 ms_X11_house ⟨rfl, w2_138, w2_139, w2_140⟩ (ok_X11_house h1) (c_X11_house h1) rfl ⟨by decide, by decide⟩ (Nat.le_of_ble_eq_true rfl) (by omega) (by omega) rfl ?_
  refine r_aload_n dL_law_210 rfl ?_
  refine r_aloadX dL_law_211 rfl ?_
  refine r_iload_n dL_law_212 rfl ?_
  refine r_iconst (v := 1) dL_law_213 (by decide) ?_
  refine r_iadd dL_law_214 ?_
  refine r_sload dL_law_215 hb1 ?_
  refine r_aloadX dL_law_216 rfl ?_
  refine r_iload_n dL_law_217 rfl ?_
  refine r_iconst (v := 2) dL_law_218 (by decide) ?_
  refine r_iadd dL_law_219 ?_
  refine r_sload dL_law_220 hb2 ?_
  obtain ⟨q2, h2, hf⟩ := bnd hf
  refine r_callVi (st := [.int q1.1]) (as := [.int (xs (i + 1).toNatClampNeg), .int (xs (i + 2).toNatClampNeg)]) dL_law_221 ms_X12_house ⟨rfl, w4_176, w4_177, w4_178⟩ (ok_X12_house h2) (c_X12_house h2) rfl ⟨by decide, by decide⟩ (Nat.le_of_ble_eq_true rfl) (by omega) (by omega) rfl ?_
  replace hf := oif hf
  refine r_icmp_eq (tgt := 914) dL_law_224 (by decide) (fun c => ?_) (fun c => absurd hf.1 c)
  have hS := Option.some.inj hf.2
  rw [hS]
  exact r_widen (by omega) (by omega) K
def ls_3 (xr mr : Nat) (S : Mm) (a1 : Int32) (a2 : Int32) : Option Mm := (f_X11_store S xr a1 a2).bind fun q => (f_X12_store q.2 mr a1 a2).bind fun r => if q.1 = r.1 then some r.2 else none
set_option maxRecDepth 20000 in
theorem lc_3 {G : Gt} {l : Launch} {b L : Nat} {xs : Nat → Int32} {ce sl xr mr : Nat} {S S' : Mm} {i : Int32} (hb1 : vp_in (i + 1) L) (hb2 : vp_in (i + 2) L) (hb3 : vp_in (i + 3) L) (hce : ce + 100 ≤ 600000) (hsl : sl + 600 ≤ 7302250) (hf : ls_3 xr mr S (xs (i + 1).toNatClampNeg) (xs (i + 2).toNatClampNeg) = some S') (K : Sat G l x code 4 ret 2048 600000 7302250 (ce + 100) (sl + 600) 914 [.retAddr b, .ref xr, .ref mr, .int i] [] S' (.inr (b, L, xs))) : Sat G l x code 4 ret 2048 600000 7302250 ce sl 229 [.retAddr b, .ref xr, .ref mr, .int i] [] S (.inr (b, L, xs)) := by
  unfold ls_3 at hf
  refine r_aload_n dL_law_229 rfl ?_
  refine r_aloadX dL_law_230 rfl ?_
  refine r_iload_n dL_law_231 rfl ?_
  refine r_iconst (v := 1) dL_law_232 (by decide) ?_
  refine r_iadd dL_law_233 ?_
  refine r_sload dL_law_234 hb1 ?_
  refine r_aloadX dL_law_235 rfl ?_
  refine r_iload_n dL_law_236 rfl ?_
  refine r_iconst (v := 2) dL_law_237 (by decide) ?_
  refine r_iadd dL_law_238 ?_
  refine r_sload dL_law_239 hb2 ?_
  obtain ⟨q1, h1, hf⟩ := bnd hf
  refine r_callVi (st := []) (as := [.int (xs (i + 1).toNatClampNeg), .int (xs (i + 2).toNatClampNeg)]) dL_law_240 ms_X11_store ⟨rfl, w2_193, w2_194, w2_195⟩ (ok_X11_store h1) (c_X11_store h1) rfl ⟨by decide, by decide⟩ (Nat.le_of_ble_eq_true rfl) (by omega) (by omega) rfl ?_
  refine r_aload_n dL_law_243 rfl ?_
  refine r_aloadX dL_law_244 rfl ?_
  refine r_iload_n dL_law_245 rfl ?_
  refine r_iconst (v := 1) dL_law_246 (by decide) ?_
  refine r_iadd dL_law_247 ?_
  refine r_sload dL_law_248 hb1 ?_
  refine r_aloadX dL_law_249 rfl ?_
  refine r_iload_n dL_law_250 rfl ?_
  refine r_iconst (v := 2) dL_law_251 (by decide) ?_
  refine r_iadd dL_law_252 ?_
  refine r_sload dL_law_253 hb2 ?_
  obtain ⟨q2, h2, hf⟩ := bnd hf
  refine r_callVi (st := [.int q1.1]) (as := [.int (xs (i + 1).toNatClampNeg), .int (xs (i + 2).toNatClampNeg)]) dL_law_254 ms_X12_store ⟨rfl, w4_188, w4_189, w4_190⟩ (ok_X12_store h2) (c_X12_store h2) rfl ⟨by decide, by decide⟩ (Nat.le_of_ble_eq_true rfl) (by omega) (by omega) rfl ?_
  replace hf := oif hf
  refine r_icmp_eq (tgt := 914) dL_law_257 (by decide) (fun c => ?_) (fun c => absurd hf.1 c)
  have hS := Option.some.inj hf.2
  rw [hS]
  exact r_widen (by omega) (by omega) K
def ls_4 (xr mr : Nat) (S : Mm) (a1 : Int32) (a2 : Int32) : Option Mm := (f_X11_price S xr a1 a2).bind fun q => (f_X12_price q.2 mr a1 a2).bind fun r => if q.1 = r.1 then some r.2 else none
set_option maxRecDepth 20000 in
theorem lc_4 {G : Gt} {l : Launch} {b L : Nat} {xs : Nat → Int32} {ce sl xr mr : Nat} {S S' : Mm} {i : Int32} (hb1 : vp_in (i + 1) L) (hb2 : vp_in (i + 2) L) (hb3 : vp_in (i + 3) L) (hce : ce + 100 ≤ 600000) (hsl : sl + 600 ≤ 7302250) (hf : ls_4 xr mr S (xs (i + 1).toNatClampNeg) (xs (i + 2).toNatClampNeg) = some S') (K : Sat G l x code 4 ret 2048 600000 7302250 (ce + 100) (sl + 600) 914 [.retAddr b, .ref xr, .ref mr, .int i] [] S' (.inr (b, L, xs))) : Sat G l x code 4 ret 2048 600000 7302250 ce sl 262 [.retAddr b, .ref xr, .ref mr, .int i] [] S (.inr (b, L, xs)) := by
  unfold ls_4 at hf
  refine r_aload_n dL_law_262 rfl ?_
  refine r_aloadX dL_law_263 rfl ?_
  refine r_iload_n dL_law_264 rfl ?_
  refine r_iconst (v := 1) dL_law_265 (by decide) ?_
  refine r_iadd dL_law_266 ?_
  refine r_sload dL_law_267 hb1 ?_
  refine r_aloadX dL_law_268 rfl ?_
  refine r_iload_n dL_law_269 rfl ?_
  refine r_iconst (v := 2) dL_law_270 (by decide) ?_
  refine r_iadd dL_law_271 ?_
  refine r_sload dL_law_272 hb2 ?_
  obtain ⟨q1, h1, hf⟩ := bnd hf
  refine r_callVi (st := []) (as := [.int (xs (i + 1).toNatClampNeg), .int (xs (i + 2).toNatClampNeg)]) dL_law_273 ms_X11_price ⟨rfl, w2_202, w2_203, w2_204⟩ (ok_X11_price h1) (c_X11_price h1) rfl ⟨by decide, by decide⟩ (Nat.le_of_ble_eq_true rfl) (by omega) (by omega) rfl ?_
  refine r_aload_n dL_law_276 rfl ?_
  refine r_aloadX dL_law_277 rfl ?_
  refine r_iload_n dL_law_278 rfl ?_
  refine r_iconst (v := 1) dL_law_279 (by decide) ?_
  refine r_iadd dL_law_280 ?_
  refine r_sload dL_law_281 hb1 ?_
  refine r_aloadX dL_law_282 rfl ?_
  refine r_iload_n dL_law_283 rfl ?_
  refine r_iconst (v := 2) dL_law_284 (by decide) ?_
  refine r_iadd dL_law_285 ?_
  refine r_sload dL_law_286 hb2 ?_
  obtain ⟨q2, h2, hf⟩ := bnd hf
  refine r_callVi (st := [.int q1.1]) (as := [.int (xs (i + 1).toNatClampNeg), .int (xs (i + 2).toNatClampNeg)]) dL_law_287 ms_X12_price ⟨rfl, w4_196, w4_197, w4_198⟩ (ok_X12_price h2) (c_X12_price h2) rfl ⟨by decide, by decide⟩ (Nat.le_of_ble_eq_true rfl) (by omega) (by omega) rfl ?_
  replace hf := oif hf
  refine r_icmp_eq (tgt := 914) dL_law_290 (by decide) (fun c => ?_) (fun c => absurd hf.1 c)
  have hS := Option.some.inj hf.2
  rw [hS]
  exact r_widen (by omega) (by omega) K
def ls_5 (xr mr : Nat) (S : Mm) (a1 : Int32) : Option Mm := (f_X11_law S xr a1).bind fun q => (f_X12_law q.2 mr a1).bind fun r => if q.1 = r.1 then some r.2 else none
set_option maxRecDepth 20000 in
theorem lc_5 {G : Gt} {l : Launch} {b L : Nat} {xs : Nat → Int32} {ce sl xr mr : Nat} {S S' : Mm} {i : Int32} (hb1 : vp_in (i + 1) L) (hb2 : vp_in (i + 2) L) (hb3 : vp_in (i + 3) L) (hce : ce + 100 ≤ 600000) (hsl : sl + 600 ≤ 7302250) (hf : ls_5 xr mr S (xs (i + 1).toNatClampNeg) = some S') (K : Sat G l x code 4 ret 2048 600000 7302250 (ce + 100) (sl + 600) 914 [.retAddr b, .ref xr, .ref mr, .int i] [] S' (.inr (b, L, xs))) : Sat G l x code 4 ret 2048 600000 7302250 ce sl 295 [.retAddr b, .ref xr, .ref mr, .int i] [] S (.inr (b, L, xs)) := by
  unfold ls_5 at hf
  refine r_aload_n dL_law_295 rfl ?_
  refine r_aloadX dL_law_296 rfl ?_
  refine r_iload_n dL_law_297 rfl ?_
  refine r_iconst (v := 1) dL_law_298 (by decide) ?_
  refine r_iadd dL_law_299 ?_
  refine r_sload dL_law_300 hb1 ?_
  obtain ⟨q1, h1, hf⟩ := bnd hf
  refine r_callVi (st := []) (as := [.int (xs (i + 1).toNatClampNeg)]) dL_law_301 ms_X11_law ⟨rfl, w2_206, w2_207, w2_208⟩ (ok_X11_law h1) (c_X11_law h1) rfl ⟨by decide, by decide⟩ (Nat.le_of_ble_eq_true rfl) (by omega) (by omega) rfl ?_
  refine r_aload_n dL_law_304 rfl ?_
  refine r_aloadX dL_law_305 rfl ?_
  refine r_iload_n dL_law_306 rfl ?_
  refine r_iconst (v := 1) dL_law_307 (by decide) ?_
  refine r_iadd dL_law_308 ?_
  refine r_sload dL_law_309 hb1 ?_
  obtain ⟨q2, h2, hf⟩ := bnd hf
  refine r_callVi (st := [.int q1.1]) (as := [.int (xs (i + 1).toNatClampNeg)]) dL_law_310 ms_X12_law ⟨rfl, w4_200, w4_201, w4_202⟩ (ok_X12_law h2) (c_X12_law h2) rfl ⟨by decide, by decide⟩ (Nat.le_of_ble_eq_true rfl) (by omega) (by omega) rfl ?_
  replace hf := oif hf
  refine r_icmp_eq (tgt := 914) dL_law_313 (by decide) (fun c => ?_) (fun c => absurd hf.1 c)
  have hS := Option.some.inj hf.2
  rw [hS]
  exact r_widen (by omega) (by omega) K
def ls_6 (xr mr : Nat) (S : Mm) (a1 : Int32) (a2 : Int32) : Option Mm := (f_X11_lawful S xr a1 a2).bind fun q => (f_X12_lawful q.2 mr a1 a2).bind fun r => if q.1 = r.1 then some r.2 else none
set_option maxRecDepth 20000 in
theorem lc_6 {G : Gt} {l : Launch} {b L : Nat} {xs : Nat → Int32} {ce sl xr mr : Nat} {S S' : Mm} {i : Int32} (hb1 : vp_in (i + 1) L) (hb2 : vp_in (i + 2) L) (hb3 : vp_in (i + 3) L) (hce : ce + 100 ≤ 600000) (hsl : sl + 600 ≤ 7302250) (hf : ls_6 xr mr S (xs (i + 1).toNatClampNeg) (xs (i + 2).toNatClampNeg) = some S') (K : Sat G l x code 4 ret 2048 600000 7302250 (ce + 100) (sl + 600) 914 [.retAddr b, .ref xr, .ref mr, .int i] [] S' (.inr (b, L, xs))) : Sat G l x code 4 ret 2048 600000 7302250 ce sl 318 [.retAddr b, .ref xr, .ref mr, .int i] [] S (.inr (b, L, xs)) := by
  unfold ls_6 at hf
  refine r_aload_n dL_law_318 rfl ?_
  refine r_aloadX dL_law_319 rfl ?_
  refine r_iload_n dL_law_320 rfl ?_
  refine r_iconst (v := 1) dL_law_321 (by decide) ?_
  refine r_iadd dL_law_322 ?_
  refine r_sload dL_law_323 hb1 ?_
  refine r_aloadX dL_law_324 rfl ?_
  refine r_iload_n dL_law_325 rfl ?_
  refine r_iconst (v := 2) dL_law_326 (by decide) ?_
  refine r_iadd dL_law_327 ?_
  refine r_sload dL_law_328 hb2 ?_
  obtain ⟨q1, h1, hf⟩ := bnd hf
  refine r_callVi (st := []) (as := [.int (xs (i + 1).toNatClampNeg), .int (xs (i + 2).toNatClampNeg)]) dL_law_329 ms_X11_lawful ⟨rfl, w2_211, w2_212, w2_213⟩ (ok_X11_lawful h1) (c_X11_lawful h1) rfl ⟨by decide, by decide⟩ (Nat.le_of_ble_eq_true rfl) (by omega) (by omega) rfl ?_
  refine r_aload_n dL_law_332 rfl ?_
  refine r_aloadX dL_law_333 rfl ?_
  refine r_iload_n dL_law_334 rfl ?_
  refine r_iconst (v := 1) dL_law_335 (by decide) ?_
  refine r_iadd dL_law_336 ?_
  refine r_sload dL_law_337 hb1 ?_
  refine r_aloadX dL_law_338 rfl ?_
  refine r_iload_n dL_law_339 rfl ?_
  refine r_iconst (v := 2) dL_law_340 (by decide) ?_
  refine r_iadd dL_law_341 ?_
  refine r_sload dL_law_342 hb2 ?_
  obtain ⟨q2, h2, hf⟩ := bnd hf
  refine r_callVi (st := [.int q1.1]) (as := [.int (xs (i + 1).toNatClampNeg), .int (xs (i + 2).toNatClampNeg)]) dL_law_343 ms_X12_lawful ⟨rfl, w4_204, w4_205, w4_206⟩ (ok_X12_lawful h2) (c_X12_lawful h2) rfl ⟨by decide, by decide⟩ (Nat.le_of_ble_eq_true rfl) (by omega) (by omega) rfl ?_
  replace hf := oif hf
  refine r_icmp_eq (tgt := 914) dL_law_346 (by decide) (fun c => ?_) (fun c => absurd hf.1 c)
  have hS := Option.some.inj hf.2
  rw [hS]
  exact r_widen (by omega) (by omega) K
def ls_7 (xr mr : Nat) (S : Mm) (a1 : Int32) (a2 : Int32) (a3 : Int32) : Option Mm := (f_X11_sale S xr a1 a2 a3).bind fun q => (f_X12_sale q.2 mr a1 a2 a3).bind fun r => if q.1 = r.1 then some r.2 else none
set_option maxRecDepth 20000 in
theorem lc_7 {G : Gt} {l : Launch} {b L : Nat} {xs : Nat → Int32} {ce sl xr mr : Nat} {S S' : Mm} {i : Int32} (hb1 : vp_in (i + 1) L) (hb2 : vp_in (i + 2) L) (hb3 : vp_in (i + 3) L) (hce : ce + 100 ≤ 600000) (hsl : sl + 600 ≤ 7302250) (hf : ls_7 xr mr S (xs (i + 1).toNatClampNeg) (xs (i + 2).toNatClampNeg) (xs (i + 3).toNatClampNeg) = some S') (K : Sat G l x code 4 ret 2048 600000 7302250 (ce + 100) (sl + 600) 914 [.retAddr b, .ref xr, .ref mr, .int i] [] S' (.inr (b, L, xs))) : Sat G l x code 4 ret 2048 600000 7302250 ce sl 351 [.retAddr b, .ref xr, .ref mr, .int i] [] S (.inr (b, L, xs)) := by
  unfold ls_7 at hf
  refine r_aload_n dL_law_351 rfl ?_
  refine r_aloadX dL_law_352 rfl ?_
  refine r_iload_n dL_law_353 rfl ?_
  refine r_iconst (v := 1) dL_law_354 (by decide) ?_
  refine r_iadd dL_law_355 ?_
  refine r_sload dL_law_356 hb1 ?_
  refine r_aloadX dL_law_357 rfl ?_
  refine r_iload_n dL_law_358 rfl ?_
  refine r_iconst (v := 2) dL_law_359 (by decide) ?_
  refine r_iadd dL_law_360 ?_
  refine r_sload dL_law_361 hb2 ?_
  refine r_aloadX dL_law_362 rfl ?_
  refine r_iload_n dL_law_363 rfl ?_
  refine r_iconst (v := 3) dL_law_364 (by decide) ?_
  refine r_iadd dL_law_365 ?_
  refine r_sload dL_law_366 hb3 ?_
  obtain ⟨q1, h1, hf⟩ := bnd hf
  refine r_callVi (st := []) (as := [.int (xs (i + 1).toNatClampNeg), .int (xs (i + 2).toNatClampNeg), .int (xs (i + 3).toNatClampNeg)]) dL_law_367 ms_X11_sale ⟨rfl, w2_237, w2_238, w2_239⟩ (ok_X11_sale h1) (c_X11_sale h1) rfl ⟨by decide, by decide⟩ (Nat.le_of_ble_eq_true rfl) (by omega) (by omega) rfl ?_
  refine r_aload_n dL_law_370 rfl ?_
  refine r_aloadX dL_law_371 rfl ?_
  refine r_iload_n dL_law_372 rfl ?_
  refine r_iconst (v := 1) dL_law_373 (by decide) ?_
  refine r_iadd dL_law_374 ?_
  refine r_sload dL_law_375 hb1 ?_
  refine r_aloadX dL_law_376 rfl ?_
  refine r_iload_n dL_law_377 rfl ?_
  refine r_iconst (v := 2) dL_law_378 (by decide) ?_
  refine r_iadd dL_law_379 ?_
  refine r_sload dL_law_380 hb2 ?_
  refine r_aloadX dL_law_381 rfl ?_
  refine r_iload_n dL_law_382 rfl ?_
  refine r_iconst (v := 3) dL_law_383 (by decide) ?_
  refine r_iadd dL_law_384 ?_
  refine r_sload dL_law_385 hb3 ?_
  obtain ⟨q2, h2, hf⟩ := bnd hf
  refine r_callVi (st := [.int q1.1]) (as := [.int (xs (i + 1).toNatClampNeg), .int (xs (i + 2).toNatClampNeg), .int (xs (i + 3).toNatClampNeg)]) dL_law_386 ms_X12_sale ⟨rfl, w4_212, w4_213, w4_214⟩ (ok_X12_sale h2) (c_X12_sale h2) rfl ⟨by decide, by decide⟩ (Nat.le_of_ble_eq_true rfl) (by omega) (by omega) rfl ?_
  replace hf := oif hf
  refine r_icmp_eq (tgt := 914) dL_law_389 (by decide) (fun c => ?_) (fun c => absurd hf.1 c)
  have hS := Option.some.inj hf.2
  rw [hS]
  exact r_widen (by omega) (by omega) K
def ls_8 (xr mr : Nat) (S : Mm)  : Option Mm := (f_X11_week S xr).bind fun q => (f_X12_week q.2 mr).bind fun r => if q.1 = r.1 then some r.2 else none
set_option maxRecDepth 20000 in
theorem lc_8 {G : Gt} {l : Launch} {b L : Nat} {xs : Nat → Int32} {ce sl xr mr : Nat} {S S' : Mm} {i : Int32} (hb1 : vp_in (i + 1) L) (hb2 : vp_in (i + 2) L) (hb3 : vp_in (i + 3) L) (hce : ce + 100 ≤ 600000) (hsl : sl + 600 ≤ 7302250) (hf : ls_8 xr mr S = some S') (K : Sat G l x code 4 ret 2048 600000 7302250 (ce + 100) (sl + 600) 914 [.retAddr b, .ref xr, .ref mr, .int i] [] S' (.inr (b, L, xs))) : Sat G l x code 4 ret 2048 600000 7302250 ce sl 394 [.retAddr b, .ref xr, .ref mr, .int i] [] S (.inr (b, L, xs)) := by
  unfold ls_8 at hf
  refine r_aload_n dL_law_394 rfl ?_
  obtain ⟨q1, h1, hf⟩ := bnd hf
  refine r_callVi (st := []) (as := []) dL_law_395 ms_X11_week ⟨rfl, w3_21, w3_22, w3_23⟩ (ok_X11_week h1) (c_X11_week h1) rfl ⟨by decide, by decide⟩ (Nat.le_of_ble_eq_true rfl) (by omega) (by omega) rfl ?_
  refine r_aload_n dL_law_398 rfl ?_
  obtain ⟨q2, h2, hf⟩ := bnd hf
  refine r_callVi (st := [.int q1.1]) (as := []) dL_law_399 ms_X12_week ⟨rfl, w4_224, w4_225, w4_226⟩ (ok_X12_week h2) (c_X12_week h2) rfl ⟨by decide, by decide⟩ (Nat.le_of_ble_eq_true rfl) (by omega) (by omega) rfl ?_
  replace hf := oif hf
  refine r_icmp_eq (tgt := 914) dL_law_402 (by decide) (fun c => ?_) (fun c => absurd hf.1 c)
  have hS := Option.some.inj hf.2
  rw [hS]
  exact r_widen (by omega) (by omega) K
def ls_9 (xr mr : Nat) (S : Mm) (a1 : Int32) (a2 : Int32) (a3 : Int32) : Option Mm := (f_X11_mule S xr a1 a2 a3).bind fun q => (f_X12_mule q.2 mr a1 a2 a3).bind fun r => if q.1 = r.1 then some r.2 else none
set_option maxRecDepth 20000 in
theorem lc_9 {G : Gt} {l : Launch} {b L : Nat} {xs : Nat → Int32} {ce sl xr mr : Nat} {S S' : Mm} {i : Int32} (hb1 : vp_in (i + 1) L) (hb2 : vp_in (i + 2) L) (hb3 : vp_in (i + 3) L) (hce : ce + 100 ≤ 600000) (hsl : sl + 600 ≤ 7302250) (hf : ls_9 xr mr S (xs (i + 1).toNatClampNeg) (xs (i + 2).toNatClampNeg) (xs (i + 3).toNatClampNeg) = some S') (K : Sat G l x code 4 ret 2048 600000 7302250 (ce + 100) (sl + 600) 914 [.retAddr b, .ref xr, .ref mr, .int i] [] S' (.inr (b, L, xs))) : Sat G l x code 4 ret 2048 600000 7302250 ce sl 407 [.retAddr b, .ref xr, .ref mr, .int i] [] S (.inr (b, L, xs)) := by
  unfold ls_9 at hf
  refine r_aload_n dL_law_407 rfl ?_
  refine r_aloadX dL_law_408 rfl ?_
  refine r_iload_n dL_law_409 rfl ?_
  refine r_iconst (v := 1) dL_law_410 (by decide) ?_
  refine r_iadd dL_law_411 ?_
  refine r_sload dL_law_412 hb1 ?_
  refine r_aloadX dL_law_413 rfl ?_
  refine r_iload_n dL_law_414 rfl ?_
  refine r_iconst (v := 2) dL_law_415 (by decide) ?_
  refine r_iadd dL_law_416 ?_
  refine r_sload dL_law_417 hb2 ?_
  refine r_aloadX dL_law_418 rfl ?_
  refine r_iload_n dL_law_419 rfl ?_
  refine r_iconst (v := 3) dL_law_420 (by decide) ?_
  refine r_iadd dL_law_421 ?_
  refine r_sload dL_law_422 hb3 ?_
  obtain ⟨q1, h1, hf⟩ := bnd hf
  refine r_callVi (st := []) (as := [.int (xs (i + 1).toNatClampNeg), .int (xs (i + 2).toNatClampNeg), .int (xs (i + 3).toNatClampNeg)]) dL_law_423 ms_X11_mule ⟨rfl, w3_72, w3_73, w3_74⟩ (ok_X11_mule h1) (c_X11_mule h1) rfl ⟨by decide, by decide⟩ (Nat.le_of_ble_eq_true rfl) (by omega) (by omega) rfl ?_
  refine r_aload_n dL_law_426 rfl ?_
  refine r_aloadX dL_law_427 rfl ?_
  refine r_iload_n dL_law_428 rfl ?_
  refine r_iconst (v := 1) dL_law_429 (by decide) ?_
  refine r_iadd dL_law_430 ?_
  refine r_sload dL_law_431 hb1 ?_
  refine r_aloadX dL_law_432 rfl ?_
  refine r_iload_n dL_law_433 rfl ?_
  refine r_iconst (v := 2) dL_law_434 (by decide) ?_
  refine r_iadd dL_law_435 ?_
  refine r_sload dL_law_436 hb2 ?_
  refine r_aloadX dL_law_437 rfl ?_
  refine r_iload_n dL_law_438 rfl ?_
  refine r_iconst (v := 3) dL_law_439 (by decide) ?_
  refine r_iadd dL_law_440 ?_
  refine r_sload dL_law_441 hb3 ?_
  obtain ⟨q2, h2, hf⟩ := bnd hf
  refine r_callVi (st := [.int q1.1]) (as := [.int (xs (i + 1).toNatClampNeg), .int (xs (i + 2).toNatClampNeg), .int (xs (i + 3).toNatClampNeg)]) dL_law_442 ms_X12_mule ⟨rfl, w5_0, w5_1, w5_2⟩ (ok_X12_mule h2) (c_X12_mule h2) rfl ⟨by decide, by decide⟩ (Nat.le_of_ble_eq_true rfl) (by omega) (by omega) rfl ?_
  replace hf := oif hf
  refine r_icmp_eq (tgt := 914) dL_law_445 (by decide) (fun c => ?_) (fun c => absurd hf.1 c)
  have hS := Option.some.inj hf.2
  rw [hS]
  exact r_widen (by omega) (by omega) K
def ls_10 (xr mr : Nat) (S : Mm) (a1 : Int32) (a2 : Int32) (a3 : Int32) : Option Mm := (f_X11_owe S xr a1 a2 a3).bind fun q => (f_X12_owe q.2 mr a1 a2 a3).bind fun r => if q.1 = r.1 then some r.2 else none
set_option maxRecDepth 20000 in
theorem lc_10 {G : Gt} {l : Launch} {b L : Nat} {xs : Nat → Int32} {ce sl xr mr : Nat} {S S' : Mm} {i : Int32} (hb1 : vp_in (i + 1) L) (hb2 : vp_in (i + 2) L) (hb3 : vp_in (i + 3) L) (hce : ce + 100 ≤ 600000) (hsl : sl + 600 ≤ 7302250) (hf : ls_10 xr mr S (xs (i + 1).toNatClampNeg) (xs (i + 2).toNatClampNeg) (xs (i + 3).toNatClampNeg) = some S') (K : Sat G l x code 4 ret 2048 600000 7302250 (ce + 100) (sl + 600) 914 [.retAddr b, .ref xr, .ref mr, .int i] [] S' (.inr (b, L, xs))) : Sat G l x code 4 ret 2048 600000 7302250 ce sl 450 [.retAddr b, .ref xr, .ref mr, .int i] [] S (.inr (b, L, xs)) := by
  unfold ls_10 at hf
  refine r_aload_n dL_law_450 rfl ?_
  refine r_aloadX dL_law_451 rfl ?_
  refine r_iload_n dL_law_452 rfl ?_
  refine r_iconst (v := 1) dL_law_453 (by decide) ?_
  refine r_iadd dL_law_454 ?_
  refine r_sload dL_law_455 hb1 ?_
  refine r_aloadX dL_law_456 rfl ?_
  refine r_iload_n dL_law_457 rfl ?_
  refine r_iconst (v := 2) dL_law_458 (by decide) ?_
  refine r_iadd dL_law_459 ?_
  refine r_sload dL_law_460 hb2 ?_
  refine r_aloadX dL_law_461 rfl ?_
  refine r_iload_n dL_law_462 rfl ?_
  refine r_iconst (v := 3) dL_law_463 (by decide) ?_
  refine r_iadd dL_law_464 ?_
  refine r_sload dL_law_465 hb3 ?_
  obtain ⟨q1, h1, hf⟩ := bnd hf
  refine r_callVi (st := []) (as := [.int (xs (i + 1).toNatClampNeg), .int (xs (i + 2).toNatClampNeg), .int (xs (i + 3).toNatClampNeg)]) dL_law_466 ms_X11_owe ⟨rfl, w3_76, w3_77, w3_78⟩ (ok_X11_owe h1) (c_X11_owe h1) rfl ⟨by decide, by decide⟩ (Nat.le_of_ble_eq_true rfl) (by omega) (by omega) rfl ?_
  refine r_aload_n dL_law_469 rfl ?_
  refine r_aloadX dL_law_470 rfl ?_
  refine r_iload_n dL_law_471 rfl ?_
  refine r_iconst (v := 1) dL_law_472 (by decide) ?_
  refine r_iadd dL_law_473 ?_
  refine r_sload dL_law_474 hb1 ?_
  refine r_aloadX dL_law_475 rfl ?_
  refine r_iload_n dL_law_476 rfl ?_
  refine r_iconst (v := 2) dL_law_477 (by decide) ?_
  refine r_iadd dL_law_478 ?_
  refine r_sload dL_law_479 hb2 ?_
  refine r_aloadX dL_law_480 rfl ?_
  refine r_iload_n dL_law_481 rfl ?_
  refine r_iconst (v := 3) dL_law_482 (by decide) ?_
  refine r_iadd dL_law_483 ?_
  refine r_sload dL_law_484 hb3 ?_
  obtain ⟨q2, h2, hf⟩ := bnd hf
  refine r_callVi (st := [.int q1.1]) (as := [.int (xs (i + 1).toNatClampNeg), .int (xs (i + 2).toNatClampNeg), .int (xs (i + 3).toNatClampNeg)]) dL_law_485 ms_X12_owe ⟨rfl, w5_4, w5_5, w5_6⟩ (ok_X12_owe h2) (c_X12_owe h2) rfl ⟨by decide, by decide⟩ (Nat.le_of_ble_eq_true rfl) (by omega) (by omega) rfl ?_
  replace hf := oif hf
  refine r_icmp_eq (tgt := 914) dL_law_488 (by decide) (fun c => ?_) (fun c => absurd hf.1 c)
  have hS := Option.some.inj hf.2
  rw [hS]
  exact r_widen (by omega) (by omega) K
def ls_11 (xr mr : Nat) (S : Mm)  : Option Mm := (f_X11_strike S xr).bind fun q => (f_X12_strike q.2 mr).bind fun r => if q.1 = r.1 then some r.2 else none
set_option maxRecDepth 20000 in
theorem lc_11 {G : Gt} {l : Launch} {b L : Nat} {xs : Nat → Int32} {ce sl xr mr : Nat} {S S' : Mm} {i : Int32} (hb1 : vp_in (i + 1) L) (hb2 : vp_in (i + 2) L) (hb3 : vp_in (i + 3) L) (hce : ce + 100 ≤ 600000) (hsl : sl + 600 ≤ 7302250) (hf : ls_11 xr mr S = some S') (K : Sat G l x code 4 ret 2048 600000 7302250 (ce + 100) (sl + 600) 914 [.retAddr b, .ref xr, .ref mr, .int i] [] S' (.inr (b, L, xs))) : Sat G l x code 4 ret 2048 600000 7302250 ce sl 493 [.retAddr b, .ref xr, .ref mr, .int i] [] S (.inr (b, L, xs)) := by
  unfold ls_11 at hf
  refine r_aload_n dL_law_493 rfl ?_
  obtain ⟨q1, h1, hf⟩ := bnd hf
  refine r_callVi (st := []) (as := []) dL_law_494 ms_X11_strike ⟨rfl, w3_85, w3_86, w3_87⟩ (ok_X11_strike h1) (c_X11_strike h1) rfl ⟨by decide, by decide⟩ (Nat.le_of_ble_eq_true rfl) (by omega) (by omega) rfl ?_
  refine r_aload_n dL_law_497 rfl ?_
  obtain ⟨q2, h2, hf⟩ := bnd hf
  refine r_callVi (st := [.int q1.1]) (as := []) dL_law_498 ms_X12_strike ⟨rfl, w5_12, w5_13, w5_14⟩ (ok_X12_strike h2) (c_X12_strike h2) rfl ⟨by decide, by decide⟩ (Nat.le_of_ble_eq_true rfl) (by omega) (by omega) rfl ?_
  replace hf := oif hf
  refine r_icmp_eq (tgt := 914) dL_law_501 (by decide) (fun c => ?_) (fun c => absurd hf.1 c)
  have hS := Option.some.inj hf.2
  rw [hS]
  exact r_widen (by omega) (by omega) K
def ls_12 (xr mr : Nat) (S : Mm) (a1 : Int32) (a2 : Int32) : Option Mm := (f_X11_behind S xr a1 a2).bind fun q => (f_X12_behind q.2 mr a1 a2).bind fun r => if q.1 = r.1 then some r.2 else none
set_option maxRecDepth 20000 in
theorem lc_12 {G : Gt} {l : Launch} {b L : Nat} {xs : Nat → Int32} {ce sl xr mr : Nat} {S S' : Mm} {i : Int32} (hb1 : vp_in (i + 1) L) (hb2 : vp_in (i + 2) L) (hb3 : vp_in (i + 3) L) (hce : ce + 100 ≤ 600000) (hsl : sl + 600 ≤ 7302250) (hf : ls_12 xr mr S (xs (i + 1).toNatClampNeg) (xs (i + 2).toNatClampNeg) = some S') (K : Sat G l x code 4 ret 2048 600000 7302250 (ce + 100) (sl + 600) 914 [.retAddr b, .ref xr, .ref mr, .int i] [] S' (.inr (b, L, xs))) : Sat G l x code 4 ret 2048 600000 7302250 ce sl 506 [.retAddr b, .ref xr, .ref mr, .int i] [] S (.inr (b, L, xs)) := by
  unfold ls_12 at hf
  refine r_aload_n dL_law_506 rfl ?_
  refine r_aloadX dL_law_507 rfl ?_
  refine r_iload_n dL_law_508 rfl ?_
  refine r_iconst (v := 1) dL_law_509 (by decide) ?_
  refine r_iadd dL_law_510 ?_
  refine r_sload dL_law_511 hb1 ?_
  refine r_aloadX dL_law_512 rfl ?_
  refine r_iload_n dL_law_513 rfl ?_
  refine r_iconst (v := 2) dL_law_514 (by decide) ?_
  refine r_iadd dL_law_515 ?_
  refine r_sload dL_law_516 hb2 ?_
  obtain ⟨q1, h1, hf⟩ := bnd hf
  refine r_callVi (st := []) (as := [.int (xs (i + 1).toNatClampNeg), .int (xs (i + 2).toNatClampNeg)]) dL_law_517 ms_X11_behind ⟨rfl, w3_104, w3_105, w3_106⟩ (ok_X11_behind h1) (c_X11_behind h1) rfl ⟨by decide, by decide⟩ (Nat.le_of_ble_eq_true rfl) (by omega) (by omega) rfl ?_
  refine r_aload_n dL_law_520 rfl ?_
  refine r_aloadX dL_law_521 rfl ?_
  refine r_iload_n dL_law_522 rfl ?_
  refine r_iconst (v := 1) dL_law_523 (by decide) ?_
  refine r_iadd dL_law_524 ?_
  refine r_sload dL_law_525 hb1 ?_
  refine r_aloadX dL_law_526 rfl ?_
  refine r_iload_n dL_law_527 rfl ?_
  refine r_iconst (v := 2) dL_law_528 (by decide) ?_
  refine r_iadd dL_law_529 ?_
  refine r_sload dL_law_530 hb2 ?_
  obtain ⟨q2, h2, hf⟩ := bnd hf
  refine r_callVi (st := [.int q1.1]) (as := [.int (xs (i + 1).toNatClampNeg), .int (xs (i + 2).toNatClampNeg)]) dL_law_531 ms_X12_behind ⟨rfl, w5_28, w5_29, w5_30⟩ (ok_X12_behind h2) (c_X12_behind h2) rfl ⟨by decide, by decide⟩ (Nat.le_of_ble_eq_true rfl) (by omega) (by omega) rfl ?_
  replace hf := oif hf
  refine r_icmp_eq (tgt := 914) dL_law_534 (by decide) (fun c => ?_) (fun c => absurd hf.1 c)
  have hS := Option.some.inj hf.2
  rw [hS]
  exact r_widen (by omega) (by omega) K
def ls_13 (xr mr : Nat) (S : Mm) (a1 : Int32) (a2 : Int32) : Option Mm := (f_X11_served S xr a1 a2).bind fun q => (f_X12_served q.2 mr a1 a2).bind fun r => if q.1 = r.1 then some r.2 else none
set_option maxRecDepth 20000 in
theorem lc_13 {G : Gt} {l : Launch} {b L : Nat} {xs : Nat → Int32} {ce sl xr mr : Nat} {S S' : Mm} {i : Int32} (hb1 : vp_in (i + 1) L) (hb2 : vp_in (i + 2) L) (hb3 : vp_in (i + 3) L) (hce : ce + 100 ≤ 600000) (hsl : sl + 600 ≤ 7302250) (hf : ls_13 xr mr S (xs (i + 1).toNatClampNeg) (xs (i + 2).toNatClampNeg) = some S') (K : Sat G l x code 4 ret 2048 600000 7302250 (ce + 100) (sl + 600) 914 [.retAddr b, .ref xr, .ref mr, .int i] [] S' (.inr (b, L, xs))) : Sat G l x code 4 ret 2048 600000 7302250 ce sl 539 [.retAddr b, .ref xr, .ref mr, .int i] [] S (.inr (b, L, xs)) := by
  unfold ls_13 at hf
  refine r_aload_n dL_law_539 rfl ?_
  refine r_aloadX dL_law_540 rfl ?_
  refine r_iload_n dL_law_541 rfl ?_
  refine r_iconst (v := 1) dL_law_542 (by decide) ?_
  refine r_iadd dL_law_543 ?_
  refine r_sload dL_law_544 hb1 ?_
  refine r_aloadX dL_law_545 rfl ?_
  refine r_iload_n dL_law_546 rfl ?_
  refine r_iconst (v := 2) dL_law_547 (by decide) ?_
  refine r_iadd dL_law_548 ?_
  refine r_sload dL_law_549 hb2 ?_
  obtain ⟨q1, h1, hf⟩ := bnd hf
  refine r_callVi (st := []) (as := [.int (xs (i + 1).toNatClampNeg), .int (xs (i + 2).toNatClampNeg)]) dL_law_550 ms_X11_served ⟨rfl, w3_112, w3_113, w3_114⟩ (ok_X11_served h1) (c_X11_served h1) rfl ⟨by decide, by decide⟩ (Nat.le_of_ble_eq_true rfl) (by omega) (by omega) rfl ?_
  refine r_aload_n dL_law_553 rfl ?_
  refine r_aloadX dL_law_554 rfl ?_
  refine r_iload_n dL_law_555 rfl ?_
  refine r_iconst (v := 1) dL_law_556 (by decide) ?_
  refine r_iadd dL_law_557 ?_
  refine r_sload dL_law_558 hb1 ?_
  refine r_aloadX dL_law_559 rfl ?_
  refine r_iload_n dL_law_560 rfl ?_
  refine r_iconst (v := 2) dL_law_561 (by decide) ?_
  refine r_iadd dL_law_562 ?_
  refine r_sload dL_law_563 hb2 ?_
  obtain ⟨q2, h2, hf⟩ := bnd hf
  refine r_callVi (st := [.int q1.1]) (as := [.int (xs (i + 1).toNatClampNeg), .int (xs (i + 2).toNatClampNeg)]) dL_law_564 ms_X12_served ⟨rfl, w5_36, w5_37, w5_38⟩ (ok_X12_served h2) (c_X12_served h2) rfl ⟨by decide, by decide⟩ (Nat.le_of_ble_eq_true rfl) (by omega) (by omega) rfl ?_
  replace hf := oif hf
  refine r_icmp_eq (tgt := 914) dL_law_567 (by decide) (fun c => ?_) (fun c => absurd hf.1 c)
  have hS := Option.some.inj hf.2
  rw [hS]
  exact r_widen (by omega) (by omega) K
def ls_14 (xr mr : Nat) (S : Mm) (a1 : Int32) : Option Mm := (f_X11_drift S xr a1).bind fun q => (f_X12_drift q.2 mr a1).bind fun r => if q.1 = r.1 then some r.2 else none
set_option maxRecDepth 20000 in
theorem lc_14 {G : Gt} {l : Launch} {b L : Nat} {xs : Nat → Int32} {ce sl xr mr : Nat} {S S' : Mm} {i : Int32} (hb1 : vp_in (i + 1) L) (hb2 : vp_in (i + 2) L) (hb3 : vp_in (i + 3) L) (hce : ce + 100 ≤ 600000) (hsl : sl + 600 ≤ 7302250) (hf : ls_14 xr mr S (xs (i + 1).toNatClampNeg) = some S') (K : Sat G l x code 4 ret 2048 600000 7302250 (ce + 100) (sl + 600) 914 [.retAddr b, .ref xr, .ref mr, .int i] [] S' (.inr (b, L, xs))) : Sat G l x code 4 ret 2048 600000 7302250 ce sl 572 [.retAddr b, .ref xr, .ref mr, .int i] [] S (.inr (b, L, xs)) := by
  unfold ls_14 at hf
  refine r_aload_n dL_law_572 rfl ?_
  refine r_aloadX dL_law_573 rfl ?_
  refine r_iload_n dL_law_574 rfl ?_
  refine r_iconst (v := 1) dL_law_575 (by decide) ?_
  refine r_iadd dL_law_576 ?_
  refine r_sload dL_law_577 hb1 ?_
  obtain ⟨q1, h1, hf⟩ := bnd hf
  refine r_callVi (st := []) (as := [.int (xs (i + 1).toNatClampNeg)]) dL_law_578 ms_X11_drift ⟨rfl, w3_116, w3_117, w3_118⟩ (ok_X11_drift h1) (c_X11_drift h1) rfl ⟨by decide, by decide⟩ (Nat.le_of_ble_eq_true rfl) (by omega) (by omega) rfl ?_
  refine r_aload_n dL_law_581 rfl ?_
  refine r_aloadX dL_law_582 rfl ?_
  refine r_iload_n dL_law_583 rfl ?_
  refine r_iconst (v := 1) dL_law_584 (by decide) ?_
  refine r_iadd dL_law_585 ?_
  refine r_sload dL_law_586 hb1 ?_
  obtain ⟨q2, h2, hf⟩ := bnd hf
  refine r_callVi (st := [.int q1.1]) (as := [.int (xs (i + 1).toNatClampNeg)]) dL_law_587 ms_X12_drift ⟨rfl, w5_44, w5_45, w5_46⟩ (ok_X12_drift h2) (c_X12_drift h2) rfl ⟨by decide, by decide⟩ (Nat.le_of_ble_eq_true rfl) (by omega) (by omega) rfl ?_
  replace hf := oif hf
  refine r_icmp_eq (tgt := 914) dL_law_590 (by decide) (fun c => ?_) (fun c => absurd hf.1 c)
  have hS := Option.some.inj hf.2
  rw [hS]
  exact r_widen (by omega) (by omega) K
def ls_15 (xr mr : Nat) (S : Mm)  : Option Mm := (f_X11_stuck S xr).bind fun q => (f_X12_stuck q.2 mr).bind fun r => if q.1 = r.1 then some r.2 else none
set_option maxRecDepth 20000 in
theorem lc_15 {G : Gt} {l : Launch} {b L : Nat} {xs : Nat → Int32} {ce sl xr mr : Nat} {S S' : Mm} {i : Int32} (hb1 : vp_in (i + 1) L) (hb2 : vp_in (i + 2) L) (hb3 : vp_in (i + 3) L) (hce : ce + 100 ≤ 600000) (hsl : sl + 600 ≤ 7302250) (hf : ls_15 xr mr S = some S') (K : Sat G l x code 4 ret 2048 600000 7302250 (ce + 100) (sl + 600) 914 [.retAddr b, .ref xr, .ref mr, .int i] [] S' (.inr (b, L, xs))) : Sat G l x code 4 ret 2048 600000 7302250 ce sl 595 [.retAddr b, .ref xr, .ref mr, .int i] [] S (.inr (b, L, xs)) := by
  unfold ls_15 at hf
  refine r_aload_n dL_law_595 rfl ?_
  obtain ⟨q1, h1, hf⟩ := bnd hf
  refine r_callVi (st := []) (as := []) dL_law_596 ms_X11_stuck ⟨rfl, w3_145, w3_146, w3_147⟩ (ok_X11_stuck h1) (c_X11_stuck h1) rfl ⟨by decide, by decide⟩ (Nat.le_of_ble_eq_true rfl) (by omega) (by omega) rfl ?_
  refine r_aload_n dL_law_599 rfl ?_
  obtain ⟨q2, h2, hf⟩ := bnd hf
  refine r_callVi (st := [.int q1.1]) (as := []) dL_law_600 ms_X12_stuck ⟨rfl, w5_48, w5_49, w5_50⟩ (ok_X12_stuck h2) (c_X12_stuck h2) rfl ⟨by decide, by decide⟩ (Nat.le_of_ble_eq_true rfl) (by omega) (by omega) rfl ?_
  replace hf := oif hf
  refine r_icmp_eq (tgt := 914) dL_law_603 (by decide) (fun c => ?_) (fun c => absurd hf.1 c)
  have hS := Option.some.inj hf.2
  rw [hS]
  exact r_widen (by omega) (by omega) K
def ls_16 (xr mr : Nat) (S : Mm) (a1 : Int32) : Option Mm := (f_X11_most S xr a1).bind fun q => (f_X12_most q.2 mr a1).bind fun r => if q.1 = r.1 then some r.2 else none
set_option maxRecDepth 20000 in
theorem lc_16 {G : Gt} {l : Launch} {b L : Nat} {xs : Nat → Int32} {ce sl xr mr : Nat} {S S' : Mm} {i : Int32} (hb1 : vp_in (i + 1) L) (hb2 : vp_in (i + 2) L) (hb3 : vp_in (i + 3) L) (hce : ce + 100 ≤ 600000) (hsl : sl + 600 ≤ 7302250) (hf : ls_16 xr mr S (xs (i + 1).toNatClampNeg) = some S') (K : Sat G l x code 4 ret 2048 600000 7302250 (ce + 100) (sl + 600) 914 [.retAddr b, .ref xr, .ref mr, .int i] [] S' (.inr (b, L, xs))) : Sat G l x code 4 ret 2048 600000 7302250 ce sl 608 [.retAddr b, .ref xr, .ref mr, .int i] [] S (.inr (b, L, xs)) := by
  unfold ls_16 at hf
  refine r_aload_n dL_law_608 rfl ?_
  refine r_aloadX dL_law_609 rfl ?_
  refine r_iload_n dL_law_610 rfl ?_
  refine r_iconst (v := 1) dL_law_611 (by decide) ?_
  refine r_iadd dL_law_612 ?_
  refine r_sload dL_law_613 hb1 ?_
  obtain ⟨q1, h1, hf⟩ := bnd hf
  refine r_callVi (st := []) (as := [.int (xs (i + 1).toNatClampNeg)]) dL_law_614 ms_X11_most ⟨rfl, w3_158, w3_159, w3_160⟩ (ok_X11_most h1) (c_X11_most h1) rfl ⟨by decide, by decide⟩ (Nat.le_of_ble_eq_true rfl) (by omega) (by omega) rfl ?_
  refine r_aload_n dL_law_617 rfl ?_
  refine r_aloadX dL_law_618 rfl ?_
  refine r_iload_n dL_law_619 rfl ?_
  refine r_iconst (v := 1) dL_law_620 (by decide) ?_
  refine r_iadd dL_law_621 ?_
  refine r_sload dL_law_622 hb1 ?_
  obtain ⟨q2, h2, hf⟩ := bnd hf
  refine r_callVi (st := [.int q1.1]) (as := [.int (xs (i + 1).toNatClampNeg)]) dL_law_623 ms_X12_most ⟨rfl, w5_52, w5_53, w5_54⟩ (ok_X12_most h2) (c_X12_most h2) rfl ⟨by decide, by decide⟩ (Nat.le_of_ble_eq_true rfl) (by omega) (by omega) rfl ?_
  replace hf := oif hf
  refine r_icmp_eq (tgt := 914) dL_law_626 (by decide) (fun c => ?_) (fun c => absurd hf.1 c)
  have hS := Option.some.inj hf.2
  rw [hS]
  exact r_widen (by omega) (by omega) K
def ls_17 (xr mr : Nat) (S : Mm) (a1 : Int32) (a2 : Int32) (a3 : Int32) : Option Mm := (f_X11_cellar S xr a1 a2 a3).bind fun q => (f_X12_cellar q.2 mr a1 a2 a3).bind fun r => if q.1 = r.1 then some r.2 else none
set_option maxRecDepth 20000 in
theorem lc_17 {G : Gt} {l : Launch} {b L : Nat} {xs : Nat → Int32} {ce sl xr mr : Nat} {S S' : Mm} {i : Int32} (hb1 : vp_in (i + 1) L) (hb2 : vp_in (i + 2) L) (hb3 : vp_in (i + 3) L) (hce : ce + 100 ≤ 600000) (hsl : sl + 600 ≤ 7302250) (hf : ls_17 xr mr S (xs (i + 1).toNatClampNeg) (xs (i + 2).toNatClampNeg) (xs (i + 3).toNatClampNeg) = some S') (K : Sat G l x code 4 ret 2048 600000 7302250 (ce + 100) (sl + 600) 914 [.retAddr b, .ref xr, .ref mr, .int i] [] S' (.inr (b, L, xs))) : Sat G l x code 4 ret 2048 600000 7302250 ce sl 631 [.retAddr b, .ref xr, .ref mr, .int i] [] S (.inr (b, L, xs)) := by
  unfold ls_17 at hf
  refine r_aload_n dL_law_631 rfl ?_
  refine r_aloadX dL_law_632 rfl ?_
  refine r_iload_n dL_law_633 rfl ?_
  refine r_iconst (v := 1) dL_law_634 (by decide) ?_
  refine r_iadd dL_law_635 ?_
  refine r_sload dL_law_636 hb1 ?_
  refine r_aloadX dL_law_637 rfl ?_
  refine r_iload_n dL_law_638 rfl ?_
  refine r_iconst (v := 2) dL_law_639 (by decide) ?_
  refine r_iadd dL_law_640 ?_
  refine r_sload dL_law_641 hb2 ?_
  refine r_aloadX dL_law_642 rfl ?_
  refine r_iload_n dL_law_643 rfl ?_
  refine r_iconst (v := 3) dL_law_644 (by decide) ?_
  refine r_iadd dL_law_645 ?_
  refine r_sload dL_law_646 hb3 ?_
  obtain ⟨q1, h1, hf⟩ := bnd hf
  refine r_callVi (st := []) (as := [.int (xs (i + 1).toNatClampNeg), .int (xs (i + 2).toNatClampNeg), .int (xs (i + 3).toNatClampNeg)]) dL_law_647 ms_X11_cellar ⟨rfl, w3_172, w3_173, w3_174⟩ (ok_X11_cellar h1) (c_X11_cellar h1) rfl ⟨by decide, by decide⟩ (Nat.le_of_ble_eq_true rfl) (by omega) (by omega) rfl ?_
  refine r_aload_n dL_law_650 rfl ?_
  refine r_aloadX dL_law_651 rfl ?_
  refine r_iload_n dL_law_652 rfl ?_
  refine r_iconst (v := 1) dL_law_653 (by decide) ?_
  refine r_iadd dL_law_654 ?_
  refine r_sload dL_law_655 hb1 ?_
  refine r_aloadX dL_law_656 rfl ?_
  refine r_iload_n dL_law_657 rfl ?_
  refine r_iconst (v := 2) dL_law_658 (by decide) ?_
  refine r_iadd dL_law_659 ?_
  refine r_sload dL_law_660 hb2 ?_
  refine r_aloadX dL_law_661 rfl ?_
  refine r_iload_n dL_law_662 rfl ?_
  refine r_iconst (v := 3) dL_law_663 (by decide) ?_
  refine r_iadd dL_law_664 ?_
  refine r_sload dL_law_665 hb3 ?_
  obtain ⟨q2, h2, hf⟩ := bnd hf
  refine r_callVi (st := [.int q1.1]) (as := [.int (xs (i + 1).toNatClampNeg), .int (xs (i + 2).toNatClampNeg), .int (xs (i + 3).toNatClampNeg)]) dL_law_666 ms_X12_cellar ⟨rfl, w5_60, w5_61, w5_62⟩ (ok_X12_cellar h2) (c_X12_cellar h2) rfl ⟨by decide, by decide⟩ (Nat.le_of_ble_eq_true rfl) (by omega) (by omega) rfl ?_
  replace hf := oif hf
  refine r_icmp_eq (tgt := 914) dL_law_669 (by decide) (fun c => ?_) (fun c => absurd hf.1 c)
  have hS := Option.some.inj hf.2
  rw [hS]
  exact r_widen (by omega) (by omega) K
def ls_18 (xr mr : Nat) (S : Mm) (a1 : Int32) (a2 : Int32) (a3 : Int32) : Option Mm := (f_X11_paths S xr a1 a2 a3).bind fun q => (f_X12_paths q.2 mr a1 a2 a3).bind fun r => if q.1 = r.1 then some r.2 else none
set_option maxRecDepth 20000 in
theorem lc_18 {G : Gt} {l : Launch} {b L : Nat} {xs : Nat → Int32} {ce sl xr mr : Nat} {S S' : Mm} {i : Int32} (hb1 : vp_in (i + 1) L) (hb2 : vp_in (i + 2) L) (hb3 : vp_in (i + 3) L) (hce : ce + 100 ≤ 600000) (hsl : sl + 600 ≤ 7302250) (hf : ls_18 xr mr S (xs (i + 1).toNatClampNeg) (xs (i + 2).toNatClampNeg) (xs (i + 3).toNatClampNeg) = some S') (K : Sat G l x code 4 ret 2048 600000 7302250 (ce + 100) (sl + 600) 914 [.retAddr b, .ref xr, .ref mr, .int i] [] S' (.inr (b, L, xs))) : Sat G l x code 4 ret 2048 600000 7302250 ce sl 674 [.retAddr b, .ref xr, .ref mr, .int i] [] S (.inr (b, L, xs)) := by
  unfold ls_18 at hf
  refine r_aload_n dL_law_674 rfl ?_
  refine r_aloadX dL_law_675 rfl ?_
  refine r_iload_n dL_law_676 rfl ?_
  refine r_iconst (v := 1) dL_law_677 (by decide) ?_
  refine r_iadd dL_law_678 ?_
  refine r_sload dL_law_679 hb1 ?_
  refine r_aloadX dL_law_680 rfl ?_
  refine r_iload_n dL_law_681 rfl ?_
  refine r_iconst (v := 2) dL_law_682 (by decide) ?_
  refine r_iadd dL_law_683 ?_
  refine r_sload dL_law_684 hb2 ?_
  refine r_aloadX dL_law_685 rfl ?_
  refine r_iload_n dL_law_686 rfl ?_
  refine r_iconst (v := 3) dL_law_687 (by decide) ?_
  refine r_iadd dL_law_688 ?_
  refine r_sload dL_law_689 hb3 ?_
  obtain ⟨q1, h1, hf⟩ := bnd hf
  refine r_callVi (st := []) (as := [.int (xs (i + 1).toNatClampNeg), .int (xs (i + 2).toNatClampNeg), .int (xs (i + 3).toNatClampNeg)]) dL_law_690 ms_X11_paths ⟨rfl, w3_182, w3_183, w3_184⟩ (ok_X11_paths h1) (c_X11_paths h1) rfl ⟨by decide, by decide⟩ (Nat.le_of_ble_eq_true rfl) (by omega) (by omega) rfl ?_
  refine r_aload_n dL_law_693 rfl ?_
  refine r_aloadX dL_law_694 rfl ?_
  refine r_iload_n dL_law_695 rfl ?_
  refine r_iconst (v := 1) dL_law_696 (by decide) ?_
  refine r_iadd dL_law_697 ?_
  refine r_sload dL_law_698 hb1 ?_
  refine r_aloadX dL_law_699 rfl ?_
  refine r_iload_n dL_law_700 rfl ?_
  refine r_iconst (v := 2) dL_law_701 (by decide) ?_
  refine r_iadd dL_law_702 ?_
  refine r_sload dL_law_703 hb2 ?_
  refine r_aloadX dL_law_704 rfl ?_
  refine r_iload_n dL_law_705 rfl ?_
  refine r_iconst (v := 3) dL_law_706 (by decide) ?_
  refine r_iadd dL_law_707 ?_
  refine r_sload dL_law_708 hb3 ?_
  obtain ⟨q2, h2, hf⟩ := bnd hf
  refine r_callVi (st := [.int q1.1]) (as := [.int (xs (i + 1).toNatClampNeg), .int (xs (i + 2).toNatClampNeg), .int (xs (i + 3).toNatClampNeg)]) dL_law_709 ms_X12_paths ⟨rfl, w5_65, w5_66, w5_67⟩ (ok_X12_paths h2) (c_X12_paths h2) rfl ⟨by decide, by decide⟩ (Nat.le_of_ble_eq_true rfl) (by omega) (by omega) rfl ?_
  replace hf := oif hf
  refine r_icmp_eq (tgt := 914) dL_law_712 (by decide) (fun c => ?_) (fun c => absurd hf.1 c)
  have hS := Option.some.inj hf.2
  rw [hS]
  exact r_widen (by omega) (by omega) K
def ls_19 (xr mr : Nat) (S : Mm) (a1 : Int32) : Option Mm := (f_X11_owed S xr a1).bind fun q => (f_X12_owed q.2 mr a1).bind fun r => if q.1 = r.1 then some r.2 else none
set_option maxRecDepth 20000 in
theorem lc_19 {G : Gt} {l : Launch} {b L : Nat} {xs : Nat → Int32} {ce sl xr mr : Nat} {S S' : Mm} {i : Int32} (hb1 : vp_in (i + 1) L) (hb2 : vp_in (i + 2) L) (hb3 : vp_in (i + 3) L) (hce : ce + 100 ≤ 600000) (hsl : sl + 600 ≤ 7302250) (hf : ls_19 xr mr S (xs (i + 1).toNatClampNeg) = some S') (K : Sat G l x code 4 ret 2048 600000 7302250 (ce + 100) (sl + 600) 914 [.retAddr b, .ref xr, .ref mr, .int i] [] S' (.inr (b, L, xs))) : Sat G l x code 4 ret 2048 600000 7302250 ce sl 717 [.retAddr b, .ref xr, .ref mr, .int i] [] S (.inr (b, L, xs)) := by
  unfold ls_19 at hf
  refine r_aload_n dL_law_717 rfl ?_
  refine r_aloadX dL_law_718 rfl ?_
  refine r_iload_n dL_law_719 rfl ?_
  refine r_iconst (v := 1) dL_law_720 (by decide) ?_
  refine r_iadd dL_law_721 ?_
  refine r_sload dL_law_722 hb1 ?_
  obtain ⟨q1, h1, hf⟩ := bnd hf
  refine r_callVi (st := []) (as := [.int (xs (i + 1).toNatClampNeg)]) dL_law_723 ms_X11_owed ⟨rfl, w3_198, w3_199, w3_200⟩ (ok_X11_owed h1) (c_X11_owed h1) rfl ⟨by decide, by decide⟩ (Nat.le_of_ble_eq_true rfl) (by omega) (by omega) rfl ?_
  refine r_aload_n dL_law_726 rfl ?_
  refine r_aloadX dL_law_727 rfl ?_
  refine r_iload_n dL_law_728 rfl ?_
  refine r_iconst (v := 1) dL_law_729 (by decide) ?_
  refine r_iadd dL_law_730 ?_
  refine r_sload dL_law_731 hb1 ?_
  obtain ⟨q2, h2, hf⟩ := bnd hf
  refine r_callVi (st := [.int q1.1]) (as := [.int (xs (i + 1).toNatClampNeg)]) dL_law_732 ms_X12_owed ⟨rfl, w5_73, w5_74, w5_75⟩ (ok_X12_owed h2) (c_X12_owed h2) rfl ⟨by decide, by decide⟩ (Nat.le_of_ble_eq_true rfl) (by omega) (by omega) rfl ?_
  replace hf := oif hf
  refine r_icmp_eq (tgt := 914) dL_law_735 (by decide) (fun c => ?_) (fun c => absurd hf.1 c)
  have hS := Option.some.inj hf.2
  rw [hS]
  exact r_widen (by omega) (by omega) K
def ls_20 (xr mr : Nat) (S : Mm) (a1 : Int32) : Option Mm := (f_X11_rings S xr a1).bind fun q => (f_X12_rings q.2 mr a1).bind fun r => if q.1 = r.1 then some r.2 else none
set_option maxRecDepth 20000 in
theorem lc_20 {G : Gt} {l : Launch} {b L : Nat} {xs : Nat → Int32} {ce sl xr mr : Nat} {S S' : Mm} {i : Int32} (hb1 : vp_in (i + 1) L) (hb2 : vp_in (i + 2) L) (hb3 : vp_in (i + 3) L) (hce : ce + 100 ≤ 600000) (hsl : sl + 600 ≤ 7302250) (hf : ls_20 xr mr S (xs (i + 1).toNatClampNeg) = some S') (K : Sat G l x code 4 ret 2048 600000 7302250 (ce + 100) (sl + 600) 914 [.retAddr b, .ref xr, .ref mr, .int i] [] S' (.inr (b, L, xs))) : Sat G l x code 4 ret 2048 600000 7302250 ce sl 740 [.retAddr b, .ref xr, .ref mr, .int i] [] S (.inr (b, L, xs)) := by
  unfold ls_20 at hf
  refine r_aload_n dL_law_740 rfl ?_
  refine r_aloadX dL_law_741 rfl ?_
  refine r_iload_n dL_law_742 rfl ?_
  refine r_iconst (v := 1) dL_law_743 (by decide) ?_
  refine r_iadd dL_law_744 ?_
  refine r_sload dL_law_745 hb1 ?_
  obtain ⟨q1, h1, hf⟩ := bnd hf
  refine r_callVi (st := []) (as := [.int (xs (i + 1).toNatClampNeg)]) dL_law_746 ms_X11_rings ⟨rfl, w3_128, w3_129, w3_130⟩ (ok_X11_rings h1) (c_X11_rings h1) rfl ⟨by decide, by decide⟩ (Nat.le_of_ble_eq_true rfl) (by omega) (by omega) rfl ?_
  refine r_aload_n dL_law_749 rfl ?_
  refine r_aloadX dL_law_750 rfl ?_
  refine r_iload_n dL_law_751 rfl ?_
  refine r_iconst (v := 1) dL_law_752 (by decide) ?_
  refine r_iadd dL_law_753 ?_
  refine r_sload dL_law_754 hb1 ?_
  obtain ⟨q2, h2, hf⟩ := bnd hf
  refine r_callVi (st := [.int q1.1]) (as := [.int (xs (i + 1).toNatClampNeg)]) dL_law_755 ms_X12_rings ⟨rfl, w5_77, w5_78, w5_79⟩ (ok_X12_rings h2) (c_X12_rings h2) rfl ⟨by decide, by decide⟩ (Nat.le_of_ble_eq_true rfl) (by omega) (by omega) rfl ?_
  replace hf := oif hf
  refine r_icmp_eq (tgt := 914) dL_law_758 (by decide) (fun c => ?_) (fun c => absurd hf.1 c)
  have hS := Option.some.inj hf.2
  rw [hS]
  exact r_widen (by omega) (by omega) K
def ls_21 (xr mr : Nat) (S : Mm) (a1 : Int32) (a2 : Int32) : Option Mm := (f_X11_votes S xr a1 a2).bind fun q => (f_X12_votes q.2 mr a1 a2).bind fun r => if q.1 = r.1 then some r.2 else none
set_option maxRecDepth 20000 in
theorem lc_21 {G : Gt} {l : Launch} {b L : Nat} {xs : Nat → Int32} {ce sl xr mr : Nat} {S S' : Mm} {i : Int32} (hb1 : vp_in (i + 1) L) (hb2 : vp_in (i + 2) L) (hb3 : vp_in (i + 3) L) (hce : ce + 100 ≤ 600000) (hsl : sl + 600 ≤ 7302250) (hf : ls_21 xr mr S (xs (i + 1).toNatClampNeg) (xs (i + 2).toNatClampNeg) = some S') (K : Sat G l x code 4 ret 2048 600000 7302250 (ce + 100) (sl + 600) 914 [.retAddr b, .ref xr, .ref mr, .int i] [] S' (.inr (b, L, xs))) : Sat G l x code 4 ret 2048 600000 7302250 ce sl 763 [.retAddr b, .ref xr, .ref mr, .int i] [] S (.inr (b, L, xs)) := by
  unfold ls_21 at hf
  refine r_aload_n dL_law_763 rfl ?_
  refine r_aloadX dL_law_764 rfl ?_
  refine r_iload_n dL_law_765 rfl ?_
  refine r_iconst (v := 1) dL_law_766 (by decide) ?_
  refine r_iadd dL_law_767 ?_
  refine r_sload dL_law_768 hb1 ?_
  refine r_aloadX dL_law_769 rfl ?_
  refine r_iload_n dL_law_770 rfl ?_
  refine r_iconst (v := 2) dL_law_771 (by decide) ?_
  refine r_iadd dL_law_772 ?_
  refine r_sload dL_law_773 hb2 ?_
  obtain ⟨q1, h1, hf⟩ := bnd hf
  refine r_callVi (st := []) (as := [.int (xs (i + 1).toNatClampNeg), .int (xs (i + 2).toNatClampNeg)]) dL_law_774 ms_X11_votes ⟨rfl, w3_124, w3_125, w3_126⟩ (ok_X11_votes h1) (c_X11_votes h1) rfl ⟨by decide, by decide⟩ (Nat.le_of_ble_eq_true rfl) (by omega) (by omega) rfl ?_
  refine r_aload_n dL_law_777 rfl ?_
  refine r_aloadX dL_law_778 rfl ?_
  refine r_iload_n dL_law_779 rfl ?_
  refine r_iconst (v := 1) dL_law_780 (by decide) ?_
  refine r_iadd dL_law_781 ?_
  refine r_sload dL_law_782 hb1 ?_
  refine r_aloadX dL_law_783 rfl ?_
  refine r_iload_n dL_law_784 rfl ?_
  refine r_iconst (v := 2) dL_law_785 (by decide) ?_
  refine r_iadd dL_law_786 ?_
  refine r_sload dL_law_787 hb2 ?_
  obtain ⟨q2, h2, hf⟩ := bnd hf
  refine r_callVi (st := [.int q1.1]) (as := [.int (xs (i + 1).toNatClampNeg), .int (xs (i + 2).toNatClampNeg)]) dL_law_788 ms_X12_votes ⟨rfl, w5_81, w5_82, w5_83⟩ (ok_X12_votes h2) (c_X12_votes h2) rfl ⟨by decide, by decide⟩ (Nat.le_of_ble_eq_true rfl) (by omega) (by omega) rfl ?_
  replace hf := oif hf
  refine r_icmp_eq (tgt := 914) dL_law_791 (by decide) (fun c => ?_) (fun c => absurd hf.1 c)
  have hS := Option.some.inj hf.2
  rw [hS]
  exact r_widen (by omega) (by omega) K
def ls_22 (xr mr : Nat) (S : Mm) (a1 : Int32) : Option Mm := (f_X11_row S xr a1).bind fun q => (f_X12_row q.2 mr a1).bind fun r => if q.1 = r.1 then some r.2 else none
set_option maxRecDepth 20000 in
theorem lc_22 {G : Gt} {l : Launch} {b L : Nat} {xs : Nat → Int32} {ce sl xr mr : Nat} {S S' : Mm} {i : Int32} (hb1 : vp_in (i + 1) L) (hb2 : vp_in (i + 2) L) (hb3 : vp_in (i + 3) L) (hce : ce + 100 ≤ 600000) (hsl : sl + 600 ≤ 7302250) (hf : ls_22 xr mr S (xs (i + 1).toNatClampNeg) = some S') (K : Sat G l x code 4 ret 2048 600000 7302250 (ce + 100) (sl + 600) 914 [.retAddr b, .ref xr, .ref mr, .int i] [] S' (.inr (b, L, xs))) : Sat G l x code 4 ret 2048 600000 7302250 ce sl 796 [.retAddr b, .ref xr, .ref mr, .int i] [] S (.inr (b, L, xs)) := by
  unfold ls_22 at hf
  refine r_aload_n dL_law_796 rfl ?_
  refine r_aloadX dL_law_797 rfl ?_
  refine r_iload_n dL_law_798 rfl ?_
  refine r_iconst (v := 1) dL_law_799 (by decide) ?_
  refine r_iadd dL_law_800 ?_
  refine r_sload dL_law_801 hb1 ?_
  obtain ⟨q1, h1, hf⟩ := bnd hf
  refine r_callVi (st := []) (as := [.int (xs (i + 1).toNatClampNeg)]) dL_law_802 ms_X11_row ⟨rfl, w3_206, w3_207, w3_208⟩ (ok_X11_row h1) (c_X11_row h1) rfl ⟨by decide, by decide⟩ (Nat.le_of_ble_eq_true rfl) (by omega) (by omega) rfl ?_
  refine r_aload_n dL_law_805 rfl ?_
  refine r_aloadX dL_law_806 rfl ?_
  refine r_iload_n dL_law_807 rfl ?_
  refine r_iconst (v := 1) dL_law_808 (by decide) ?_
  refine r_iadd dL_law_809 ?_
  refine r_sload dL_law_810 hb1 ?_
  obtain ⟨q2, h2, hf⟩ := bnd hf
  refine r_callVi (st := [.int q1.1]) (as := [.int (xs (i + 1).toNatClampNeg)]) dL_law_811 ms_X12_row ⟨rfl, w5_85, w5_86, w5_87⟩ (ok_X12_row h2) (c_X12_row h2) rfl ⟨by decide, by decide⟩ (Nat.le_of_ble_eq_true rfl) (by omega) (by omega) rfl ?_
  replace hf := oif hf
  refine r_icmp_eq (tgt := 914) dL_law_814 (by decide) (fun c => ?_) (fun c => absurd hf.1 c)
  have hS := Option.some.inj hf.2
  rw [hS]
  exact r_widen (by omega) (by omega) K
def ls_23 (xr mr : Nat) (S : Mm)  : Option Mm := (f_X11_judge S xr).bind fun q => (f_X12_judge q.2 mr).bind fun r => if q.1 = r.1 then some r.2 else none
set_option maxRecDepth 20000 in
theorem lc_23 {G : Gt} {l : Launch} {b L : Nat} {xs : Nat → Int32} {ce sl xr mr : Nat} {S S' : Mm} {i : Int32} (hb1 : vp_in (i + 1) L) (hb2 : vp_in (i + 2) L) (hb3 : vp_in (i + 3) L) (hce : ce + 100 ≤ 600000) (hsl : sl + 600 ≤ 7302250) (hf : ls_23 xr mr S = some S') (K : Sat G l x code 4 ret 2048 600000 7302250 (ce + 100) (sl + 600) 914 [.retAddr b, .ref xr, .ref mr, .int i] [] S' (.inr (b, L, xs))) : Sat G l x code 4 ret 2048 600000 7302250 ce sl 819 [.retAddr b, .ref xr, .ref mr, .int i] [] S (.inr (b, L, xs)) := by
  unfold ls_23 at hf
  refine r_aload_n dL_law_819 rfl ?_
  obtain ⟨q1, h1, hf⟩ := bnd hf
  refine r_callVi (st := []) (as := []) dL_law_820 ms_X11_judge ⟨rfl, w3_210, w3_211, w3_212⟩ (ok_X11_judge h1) (c_X11_judge h1) rfl ⟨by decide, by decide⟩ (Nat.le_of_ble_eq_true rfl) (by omega) (by omega) rfl ?_
  refine r_aload_n dL_law_823 rfl ?_
  obtain ⟨q2, h2, hf⟩ := bnd hf
  refine r_callVi (st := [.int q1.1]) (as := []) dL_law_824 ms_X12_judge ⟨rfl, w5_89, w5_90, w5_91⟩ (ok_X12_judge h2) (c_X12_judge h2) rfl ⟨by decide, by decide⟩ (Nat.le_of_ble_eq_true rfl) (by omega) (by omega) rfl ?_
  replace hf := oif hf
  refine r_icmp_eq (tgt := 914) dL_law_827 (by decide) (fun c => ?_) (fun c => absurd hf.1 c)
  have hS := Option.some.inj hf.2
  rw [hS]
  exact r_widen (by omega) (by omega) K
def ls_24 (xr mr : Nat) (S : Mm) (a1 : Int32) (a2 : Int32) : Option Mm := (f_X11_seeds S xr a1 a2).bind fun q => (f_X12_seeds q.2 mr a1 a2).bind fun r => if q.1 = r.1 then some r.2 else none
set_option maxRecDepth 20000 in
theorem lc_24 {G : Gt} {l : Launch} {b L : Nat} {xs : Nat → Int32} {ce sl xr mr : Nat} {S S' : Mm} {i : Int32} (hb1 : vp_in (i + 1) L) (hb2 : vp_in (i + 2) L) (hb3 : vp_in (i + 3) L) (hce : ce + 100 ≤ 600000) (hsl : sl + 600 ≤ 7302250) (hf : ls_24 xr mr S (xs (i + 1).toNatClampNeg) (xs (i + 2).toNatClampNeg) = some S') (K : Sat G l x code 4 ret 2048 600000 7302250 (ce + 100) (sl + 600) 914 [.retAddr b, .ref xr, .ref mr, .int i] [] S' (.inr (b, L, xs))) : Sat G l x code 4 ret 2048 600000 7302250 ce sl 832 [.retAddr b, .ref xr, .ref mr, .int i] [] S (.inr (b, L, xs)) := by
  unfold ls_24 at hf
  refine r_aload_n dL_law_832 rfl ?_
  refine r_aloadX dL_law_833 rfl ?_
  refine r_iload_n dL_law_834 rfl ?_
  refine r_iconst (v := 1) dL_law_835 (by decide) ?_
  refine r_iadd dL_law_836 ?_
  refine r_sload dL_law_837 hb1 ?_
  refine r_aloadX dL_law_838 rfl ?_
  refine r_iload_n dL_law_839 rfl ?_
  refine r_iconst (v := 2) dL_law_840 (by decide) ?_
  refine r_iadd dL_law_841 ?_
  refine r_sload dL_law_842 hb2 ?_
  obtain ⟨q1, h1, hf⟩ := bnd hf
  refine r_callVi (st := []) (as := [.int (xs (i + 1).toNatClampNeg), .int (xs (i + 2).toNatClampNeg)]) dL_law_843 ms_X11_seeds ⟨rfl, w3_132, w3_133, w3_134⟩ (ok_X11_seeds h1) (c_X11_seeds h1) rfl ⟨by decide, by decide⟩ (Nat.le_of_ble_eq_true rfl) (by omega) (by omega) rfl ?_
  refine r_aload_n dL_law_846 rfl ?_
  refine r_aloadX dL_law_847 rfl ?_
  refine r_iload_n dL_law_848 rfl ?_
  refine r_iconst (v := 1) dL_law_849 (by decide) ?_
  refine r_iadd dL_law_850 ?_
  refine r_sload dL_law_851 hb1 ?_
  refine r_aloadX dL_law_852 rfl ?_
  refine r_iload_n dL_law_853 rfl ?_
  refine r_iconst (v := 2) dL_law_854 (by decide) ?_
  refine r_iadd dL_law_855 ?_
  refine r_sload dL_law_856 hb2 ?_
  obtain ⟨q2, h2, hf⟩ := bnd hf
  refine r_callVi (st := [.int q1.1]) (as := [.int (xs (i + 1).toNatClampNeg), .int (xs (i + 2).toNatClampNeg)]) dL_law_857 ms_X12_seeds ⟨rfl, w5_97, w5_98, w5_99⟩ (ok_X12_seeds h2) (c_X12_seeds h2) rfl ⟨by decide, by decide⟩ (Nat.le_of_ble_eq_true rfl) (by omega) (by omega) rfl ?_
  replace hf := oif hf
  refine r_icmp_eq (tgt := 914) dL_law_860 (by decide) (fun c => ?_) (fun c => absurd hf.1 c)
  have hS := Option.some.inj hf.2
  rw [hS]
  exact r_widen (by omega) (by omega) K
def ls_25 (xr mr : Nat) (S : Mm)  : Option Mm := (f_X11_image S xr).bind fun q => (f_X12_image q.2 mr).bind fun r => if q.1 = r.1 then some r.2 else none
set_option maxRecDepth 20000 in
theorem lc_25 {G : Gt} {l : Launch} {b L : Nat} {xs : Nat → Int32} {ce sl xr mr : Nat} {S S' : Mm} {i : Int32} (hb1 : vp_in (i + 1) L) (hb2 : vp_in (i + 2) L) (hb3 : vp_in (i + 3) L) (hce : ce + 100 ≤ 600000) (hsl : sl + 600 ≤ 7302250) (hf : ls_25 xr mr S = some S') (K : Sat G l x code 4 ret 2048 600000 7302250 (ce + 100) (sl + 600) 914 [.retAddr b, .ref xr, .ref mr, .int i] [] S' (.inr (b, L, xs))) : Sat G l x code 4 ret 2048 600000 7302250 ce sl 865 [.retAddr b, .ref xr, .ref mr, .int i] [] S (.inr (b, L, xs)) := by
  unfold ls_25 at hf
  refine r_aload_n dL_law_865 rfl ?_
  obtain ⟨q1, h1, hf⟩ := bnd hf
  refine r_callVi (st := []) (as := []) dL_law_866 ms_X11_image ⟨rfl, w3_214, w3_215, w3_216⟩ (ok_X11_image h1) (c_X11_image h1) rfl ⟨by decide, by decide⟩ (Nat.le_of_ble_eq_true rfl) (by omega) (by omega) rfl ?_
  refine r_aload_n dL_law_869 rfl ?_
  obtain ⟨q2, h2, hf⟩ := bnd hf
  refine r_callVi (st := [.int q1.1]) (as := []) dL_law_870 ms_X12_image ⟨rfl, w4_103, w4_104, w4_105⟩ (ok_X12_image h2) (c_X12_image h2) rfl ⟨by decide, by decide⟩ (Nat.le_of_ble_eq_true rfl) (by omega) (by omega) rfl ?_
  replace hf := oif hf
  refine r_icmp_eq (tgt := 914) dL_law_873 (by decide) (fun c => ?_) (fun c => absurd hf.1 c)
  have hS := Option.some.inj hf.2
  rw [hS]
  exact r_widen (by omega) (by omega) K
def ls_26 (xr mr : Nat) (S : Mm)  : Option Mm := (f_X11_restore S xr).bind fun q => (f_X12_restore q.2 mr).bind fun r => if q.1 = r.1 then some r.2 else none
set_option maxRecDepth 20000 in
theorem lc_26 {G : Gt} {l : Launch} {b L : Nat} {xs : Nat → Int32} {ce sl xr mr : Nat} {S S' : Mm} {i : Int32} (hb1 : vp_in (i + 1) L) (hb2 : vp_in (i + 2) L) (hb3 : vp_in (i + 3) L) (hce : ce + 100 ≤ 600000) (hsl : sl + 600 ≤ 7302250) (hf : ls_26 xr mr S = some S') (K : Sat G l x code 4 ret 2048 600000 7302250 (ce + 100) (sl + 600) 914 [.retAddr b, .ref xr, .ref mr, .int i] [] S' (.inr (b, L, xs))) : Sat G l x code 4 ret 2048 600000 7302250 ce sl 878 [.retAddr b, .ref xr, .ref mr, .int i] [] S (.inr (b, L, xs)) := by
  unfold ls_26 at hf
  refine r_aload_n dL_law_878 rfl ?_
  obtain ⟨q1, h1, hf⟩ := bnd hf
  refine r_callVi (st := []) (as := []) dL_law_879 ms_X11_restore ⟨rfl, w3_218, w3_219, w3_220⟩ (ok_X11_restore h1) (c_X11_restore h1) rfl ⟨by decide, by decide⟩ (Nat.le_of_ble_eq_true rfl) (by omega) (by omega) rfl ?_
  refine r_aload_n dL_law_882 rfl ?_
  obtain ⟨q2, h2, hf⟩ := bnd hf
  refine r_callVi (st := [.int q1.1]) (as := []) dL_law_883 ms_X12_restore ⟨rfl, w4_115, w4_116, w4_117⟩ (ok_X12_restore h2) (c_X12_restore h2) rfl ⟨by decide, by decide⟩ (Nat.le_of_ble_eq_true rfl) (by omega) (by omega) rfl ?_
  replace hf := oif hf
  refine r_icmp_eq (tgt := 914) dL_law_886 (by decide) (fun c => ?_) (fun c => absurd hf.1 c)
  have hS := Option.some.inj hf.2
  rw [hS]
  exact r_widen (by omega) (by omega) K
def ls_27 (xr mr : Nat) (S : Mm) (a1 : Int32) : Option Mm := (f_X11_count S xr a1).bind fun q => (f_X12_count q.2 mr a1).bind fun r => if q.1 = r.1 then some r.2 else none
set_option maxRecDepth 20000 in
theorem lc_27 {G : Gt} {l : Launch} {b L : Nat} {xs : Nat → Int32} {ce sl xr mr : Nat} {S S' : Mm} {i : Int32} (hb1 : vp_in (i + 1) L) (hb2 : vp_in (i + 2) L) (hb3 : vp_in (i + 3) L) (hce : ce + 100 ≤ 600000) (hsl : sl + 600 ≤ 7302250) (hf : ls_27 xr mr S (xs (i + 1).toNatClampNeg) = some S') (K : Sat G l x code 4 ret 2048 600000 7302250 (ce + 100) (sl + 600) 914 [.retAddr b, .ref xr, .ref mr, .int i] [] S' (.inr (b, L, xs))) : Sat G l x code 4 ret 2048 600000 7302250 ce sl 891 [.retAddr b, .ref xr, .ref mr, .int i] [] S (.inr (b, L, xs)) := by
  unfold ls_27 at hf
  refine r_aload_n dL_law_891 rfl ?_
  refine r_aloadX dL_law_892 rfl ?_
  refine r_iload_n dL_law_893 rfl ?_
  refine r_iconst (v := 1) dL_law_894 (by decide) ?_
  refine r_iadd dL_law_895 ?_
  refine r_sload dL_law_896 hb1 ?_
  obtain ⟨q1, h1, hf⟩ := bnd hf
  refine r_callVi (st := []) (as := [.int (xs (i + 1).toNatClampNeg)]) dL_law_897 ms_X11_count ⟨rfl, w2_222, w2_223, w2_224⟩ (ok_X11_count h1) (c_X11_count h1) rfl ⟨by decide, by decide⟩ (Nat.le_of_ble_eq_true rfl) (by omega) (by omega) rfl ?_
  refine r_aload_n dL_law_900 rfl ?_
  refine r_aloadX dL_law_901 rfl ?_
  refine r_iload_n dL_law_902 rfl ?_
  refine r_iconst (v := 1) dL_law_903 (by decide) ?_
  refine r_iadd dL_law_904 ?_
  refine r_sload dL_law_905 hb1 ?_
  obtain ⟨q2, h2, hf⟩ := bnd hf
  refine r_callVi (st := [.int q1.1]) (as := [.int (xs (i + 1).toNatClampNeg)]) dL_law_906 ms_X12_count ⟨rfl, w5_108, w5_109, w5_110⟩ (ok_X12_count h2) (c_X12_count h2) rfl ⟨by decide, by decide⟩ (Nat.le_of_ble_eq_true rfl) (by omega) (by omega) rfl ?_
  replace hf := oif hf
  refine r_icmp_eq (tgt := 914) dL_law_909 (by decide) (fun c => ?_) (fun c => absurd hf.1 c)
  have hS := Option.some.inj hf.2
  rw [hS]
  exact r_widen (by omega) (by omega) K
/-- one call of the script, on both: what the memory is then, if they answer alike -/
def lawStep (xr mr : Nat) (x : Int32) (a1 a2 a3 : Int32) (S : Mm) : Option Mm := if x = 0 then ls_0 xr mr S a1 else if x = 1 then ls_1 xr mr S else if x = 2 then ls_2 xr mr S a1 a2 else if x = 3 then ls_3 xr mr S a1 a2 else if x = 4 then ls_4 xr mr S a1 a2 else if x = 5 then ls_5 xr mr S a1 else if x = 6 then ls_6 xr mr S a1 a2 else if x = 7 then ls_7 xr mr S a1 a2 a3 else if x = 8 then ls_8 xr mr S else if x = 9 then ls_9 xr mr S a1 a2 a3 else if x = 10 then ls_10 xr mr S a1 a2 a3 else if x = 11 then ls_11 xr mr S else if x = 12 then ls_12 xr mr S a1 a2 else if x = 13 then ls_13 xr mr S a1 a2 else if x = 14 then ls_14 xr mr S a1 else if x = 15 then ls_15 xr mr S else if x = 16 then ls_16 xr mr S a1 else if x = 17 then ls_17 xr mr S a1 a2 a3 else if x = 18 then ls_18 xr mr S a1 a2 a3 else if x = 19 then ls_19 xr mr S a1 else if x = 20 then ls_20 xr mr S a1 else if x = 21 then ls_21 xr mr S a1 a2 else if x = 22 then ls_22 xr mr S a1 else if x = 23 then ls_23 xr mr S else if x = 24 then ls_24 xr mr S a1 a2 else if x = 25 then ls_25 xr mr S else if x = 26 then ls_26 xr mr S else if x = 27 then ls_27 xr mr S a1 else some S
set_option maxRecDepth 20000 in
theorem law_sw {G : Gt} {l : Launch} {b L : Nat} {xs : Nat → Int32} {ce sl xr mr : Nat} {S S' : Mm} {j : Nat} (hb1 : vp_in (nI (4 * j) + 1) L) (hb2 : vp_in (nI (4 * j) + 2) L) (hb3 : vp_in (nI (4 * j) + 3) L) (hce : ce + 100 ≤ 600000) (hsl : sl + 600 ≤ 7302250) (hf : lawStep xr mr (xs (nI (4 * j)).toNatClampNeg &&& 31) (xs (nI (4 * j) + 1).toNatClampNeg) (xs (nI (4 * j) + 2).toNatClampNeg) (xs (nI (4 * j) + 3).toNatClampNeg) S = some S') (K : Sat G l x code 4 ret 2048 600000 7302250 (ce + 100) (sl + 600) 914 [.retAddr b, .ref xr, .ref mr, .int (nI (4 * j))] [] S' (.inr (b, L, xs))) : Sat G l x code 4 ret 2048 600000 7302250 ce sl 32 [.retAddr b, .ref xr, .ref mr, .int (nI (4 * j))] [.int (xs (nI (4 * j)).toNatClampNeg &&& 31)] S (.inr (b, L, xs)) := by
  unfold lawStep at hf
  by_cases c0 : xs (nI (4 * j)).toNatClampNeg &&& 31 = 0
  · replace hf := (if_pos c0).symm.trans hf
    refine r_tsIn (k := 0) (tgt := 160) dL_law_32 c0 (by decide) (by decide) (by rfl) (by decide) ?_
    exact lc_0 hb1 hb2 hb3 hce hsl hf K
  replace hf := (if_neg c0).symm.trans hf
  by_cases c1 : xs (nI (4 * j)).toNatClampNeg &&& 31 = 1
  · replace hf := (if_pos c1).symm.trans hf
    refine r_tsIn (k := 1) (tgt := 183) dL_law_32 c1 (by decide) (by decide) (by rfl) (by decide) ?_
    exact lc_1 hb1 hb2 hb3 hce hsl hf K
  replace hf := (if_neg c1).symm.trans hf
  by_cases c2 : xs (nI (4 * j)).toNatClampNeg &&& 31 = 2
  · replace hf := (if_pos c2).symm.trans hf
    refine r_tsIn (k := 2) (tgt := 196) dL_law_32 c2 (by decide) (by decide) (by rfl) (by decide) ?_
    exact lc_2 hb1 hb2 hb3 hce hsl hf K
  replace hf := (if_neg c2).symm.trans hf
  by_cases c3 : xs (nI (4 * j)).toNatClampNeg &&& 31 = 3
  · replace hf := (if_pos c3).symm.trans hf
    refine r_tsIn (k := 3) (tgt := 229) dL_law_32 c3 (by decide) (by decide) (by rfl) (by decide) ?_
    exact lc_3 hb1 hb2 hb3 hce hsl hf K
  replace hf := (if_neg c3).symm.trans hf
  by_cases c4 : xs (nI (4 * j)).toNatClampNeg &&& 31 = 4
  · replace hf := (if_pos c4).symm.trans hf
    refine r_tsIn (k := 4) (tgt := 262) dL_law_32 c4 (by decide) (by decide) (by rfl) (by decide) ?_
    exact lc_4 hb1 hb2 hb3 hce hsl hf K
  replace hf := (if_neg c4).symm.trans hf
  by_cases c5 : xs (nI (4 * j)).toNatClampNeg &&& 31 = 5
  · replace hf := (if_pos c5).symm.trans hf
    refine r_tsIn (k := 5) (tgt := 295) dL_law_32 c5 (by decide) (by decide) (by rfl) (by decide) ?_
    exact lc_5 hb1 hb2 hb3 hce hsl hf K
  replace hf := (if_neg c5).symm.trans hf
  by_cases c6 : xs (nI (4 * j)).toNatClampNeg &&& 31 = 6
  · replace hf := (if_pos c6).symm.trans hf
    refine r_tsIn (k := 6) (tgt := 318) dL_law_32 c6 (by decide) (by decide) (by rfl) (by decide) ?_
    exact lc_6 hb1 hb2 hb3 hce hsl hf K
  replace hf := (if_neg c6).symm.trans hf
  by_cases c7 : xs (nI (4 * j)).toNatClampNeg &&& 31 = 7
  · replace hf := (if_pos c7).symm.trans hf
    refine r_tsIn (k := 7) (tgt := 351) dL_law_32 c7 (by decide) (by decide) (by rfl) (by decide) ?_
    exact lc_7 hb1 hb2 hb3 hce hsl hf K
  replace hf := (if_neg c7).symm.trans hf
  by_cases c8 : xs (nI (4 * j)).toNatClampNeg &&& 31 = 8
  · replace hf := (if_pos c8).symm.trans hf
    refine r_tsIn (k := 8) (tgt := 394) dL_law_32 c8 (by decide) (by decide) (by rfl) (by decide) ?_
    exact lc_8 hb1 hb2 hb3 hce hsl hf K
  replace hf := (if_neg c8).symm.trans hf
  by_cases c9 : xs (nI (4 * j)).toNatClampNeg &&& 31 = 9
  · replace hf := (if_pos c9).symm.trans hf
    refine r_tsIn (k := 9) (tgt := 407) dL_law_32 c9 (by decide) (by decide) (by rfl) (by decide) ?_
    exact lc_9 hb1 hb2 hb3 hce hsl hf K
  replace hf := (if_neg c9).symm.trans hf
  by_cases c10 : xs (nI (4 * j)).toNatClampNeg &&& 31 = 10
  · replace hf := (if_pos c10).symm.trans hf
    refine r_tsIn (k := 10) (tgt := 450) dL_law_32 c10 (by decide) (by decide) (by rfl) (by decide) ?_
    exact lc_10 hb1 hb2 hb3 hce hsl hf K
  replace hf := (if_neg c10).symm.trans hf
  by_cases c11 : xs (nI (4 * j)).toNatClampNeg &&& 31 = 11
  · replace hf := (if_pos c11).symm.trans hf
    refine r_tsIn (k := 11) (tgt := 493) dL_law_32 c11 (by decide) (by decide) (by rfl) (by decide) ?_
    exact lc_11 hb1 hb2 hb3 hce hsl hf K
  replace hf := (if_neg c11).symm.trans hf
  by_cases c12 : xs (nI (4 * j)).toNatClampNeg &&& 31 = 12
  · replace hf := (if_pos c12).symm.trans hf
    refine r_tsIn (k := 12) (tgt := 506) dL_law_32 c12 (by decide) (by decide) (by rfl) (by decide) ?_
    exact lc_12 hb1 hb2 hb3 hce hsl hf K
  replace hf := (if_neg c12).symm.trans hf
  by_cases c13 : xs (nI (4 * j)).toNatClampNeg &&& 31 = 13
  · replace hf := (if_pos c13).symm.trans hf
    refine r_tsIn (k := 13) (tgt := 539) dL_law_32 c13 (by decide) (by decide) (by rfl) (by decide) ?_
    exact lc_13 hb1 hb2 hb3 hce hsl hf K
  replace hf := (if_neg c13).symm.trans hf
  by_cases c14 : xs (nI (4 * j)).toNatClampNeg &&& 31 = 14
  · replace hf := (if_pos c14).symm.trans hf
    refine r_tsIn (k := 14) (tgt := 572) dL_law_32 c14 (by decide) (by decide) (by rfl) (by decide) ?_
    exact lc_14 hb1 hb2 hb3 hce hsl hf K
  replace hf := (if_neg c14).symm.trans hf
  by_cases c15 : xs (nI (4 * j)).toNatClampNeg &&& 31 = 15
  · replace hf := (if_pos c15).symm.trans hf
    refine r_tsIn (k := 15) (tgt := 595) dL_law_32 c15 (by decide) (by decide) (by rfl) (by decide) ?_
    exact lc_15 hb1 hb2 hb3 hce hsl hf K
  replace hf := (if_neg c15).symm.trans hf
  by_cases c16 : xs (nI (4 * j)).toNatClampNeg &&& 31 = 16
  · replace hf := (if_pos c16).symm.trans hf
    refine r_tsIn (k := 16) (tgt := 608) dL_law_32 c16 (by decide) (by decide) (by rfl) (by decide) ?_
    exact lc_16 hb1 hb2 hb3 hce hsl hf K
  replace hf := (if_neg c16).symm.trans hf
  by_cases c17 : xs (nI (4 * j)).toNatClampNeg &&& 31 = 17
  · replace hf := (if_pos c17).symm.trans hf
    refine r_tsIn (k := 17) (tgt := 631) dL_law_32 c17 (by decide) (by decide) (by rfl) (by decide) ?_
    exact lc_17 hb1 hb2 hb3 hce hsl hf K
  replace hf := (if_neg c17).symm.trans hf
  by_cases c18 : xs (nI (4 * j)).toNatClampNeg &&& 31 = 18
  · replace hf := (if_pos c18).symm.trans hf
    refine r_tsIn (k := 18) (tgt := 674) dL_law_32 c18 (by decide) (by decide) (by rfl) (by decide) ?_
    exact lc_18 hb1 hb2 hb3 hce hsl hf K
  replace hf := (if_neg c18).symm.trans hf
  by_cases c19 : xs (nI (4 * j)).toNatClampNeg &&& 31 = 19
  · replace hf := (if_pos c19).symm.trans hf
    refine r_tsIn (k := 19) (tgt := 717) dL_law_32 c19 (by decide) (by decide) (by rfl) (by decide) ?_
    exact lc_19 hb1 hb2 hb3 hce hsl hf K
  replace hf := (if_neg c19).symm.trans hf
  by_cases c20 : xs (nI (4 * j)).toNatClampNeg &&& 31 = 20
  · replace hf := (if_pos c20).symm.trans hf
    refine r_tsIn (k := 20) (tgt := 740) dL_law_32 c20 (by decide) (by decide) (by rfl) (by decide) ?_
    exact lc_20 hb1 hb2 hb3 hce hsl hf K
  replace hf := (if_neg c20).symm.trans hf
  by_cases c21 : xs (nI (4 * j)).toNatClampNeg &&& 31 = 21
  · replace hf := (if_pos c21).symm.trans hf
    refine r_tsIn (k := 21) (tgt := 763) dL_law_32 c21 (by decide) (by decide) (by rfl) (by decide) ?_
    exact lc_21 hb1 hb2 hb3 hce hsl hf K
  replace hf := (if_neg c21).symm.trans hf
  by_cases c22 : xs (nI (4 * j)).toNatClampNeg &&& 31 = 22
  · replace hf := (if_pos c22).symm.trans hf
    refine r_tsIn (k := 22) (tgt := 796) dL_law_32 c22 (by decide) (by decide) (by rfl) (by decide) ?_
    exact lc_22 hb1 hb2 hb3 hce hsl hf K
  replace hf := (if_neg c22).symm.trans hf
  by_cases c23 : xs (nI (4 * j)).toNatClampNeg &&& 31 = 23
  · replace hf := (if_pos c23).symm.trans hf
    refine r_tsIn (k := 23) (tgt := 819) dL_law_32 c23 (by decide) (by decide) (by rfl) (by decide) ?_
    exact lc_23 hb1 hb2 hb3 hce hsl hf K
  replace hf := (if_neg c23).symm.trans hf
  by_cases c24 : xs (nI (4 * j)).toNatClampNeg &&& 31 = 24
  · replace hf := (if_pos c24).symm.trans hf
    refine r_tsIn (k := 24) (tgt := 832) dL_law_32 c24 (by decide) (by decide) (by rfl) (by decide) ?_
    exact lc_24 hb1 hb2 hb3 hce hsl hf K
  replace hf := (if_neg c24).symm.trans hf
  by_cases c25 : xs (nI (4 * j)).toNatClampNeg &&& 31 = 25
  · replace hf := (if_pos c25).symm.trans hf
    refine r_tsIn (k := 25) (tgt := 865) dL_law_32 c25 (by decide) (by decide) (by rfl) (by decide) ?_
    exact lc_25 hb1 hb2 hb3 hce hsl hf K
  replace hf := (if_neg c25).symm.trans hf
  by_cases c26 : xs (nI (4 * j)).toNatClampNeg &&& 31 = 26
  · replace hf := (if_pos c26).symm.trans hf
    refine r_tsIn (k := 26) (tgt := 878) dL_law_32 c26 (by decide) (by decide) (by rfl) (by decide) ?_
    exact lc_26 hb1 hb2 hb3 hce hsl hf K
  replace hf := (if_neg c26).symm.trans hf
  by_cases c27 : xs (nI (4 * j)).toNatClampNeg &&& 31 = 27
  · replace hf := (if_pos c27).symm.trans hf
    refine r_tsIn (k := 27) (tgt := 891) dL_law_32 c27 (by decide) (by decide) (by rfl) (by decide) ?_
    exact lc_27 hb1 hb2 hb3 hce hsl hf K
  replace hf := (if_neg c27).symm.trans hf
  refine r_tsOut (ks := [0, 1, 2, 3, 4, 5, 6, 7, 8, 9, 10, 11, 12, 13, 14, 15, 16, 17, 18, 19, 20, 21, 22, 23, 24, 25, 26, 27]) (n := 28) (tgt := 914) dL_law_32 (by decide) (by decide) (by simp only [List.mem_cons, List.not_mem_nil, or_false, not_or]; exact ⟨c0, c1, c2, c3, c4, c5, c6, c7, c8, c9, c10, c11, c12, c13, c14, c15, c16, c17, c18, c19, c20, c21, c22, c23, c24, c25, c26, c27⟩) (by decide) ?_
  have hS := Option.some.inj hf
  rw [hS]
  exact r_widen (by omega) (by omega) K
theorem law_gt {L j : Nat} (hL : L ≤ 2048) (hj : 4 * j ≤ 4096) : (nI L - 4 < nI (4 * j)) ↔ L < 4 * j + 4 := by
  have h1 : (nI L - nI 4).toInt = (L : Int) - (4 : Nat) := pk_sub_toInt (by omega) (by omega)
  have h2 : (nI (4 * j)).toInt = ((4 * j : Nat) : Int) := nI_toInt (by omega)
  rw [show (4 : Int32) = nI 4 from rfl, Int32.lt_iff_toInt_lt, h1, h2]
  omega
theorem nI_k (a k : Nat) {c : Int32} (h : nI k = c) : nI a + c = nI (a + k) := by rw [← h, nI_add]
set_option maxRecDepth 20000 in
/-- the law's loop: while each call is answered alike, it comes to its end -/
theorem law_loop {G : Gt} {l : Launch} {b L : Nat} {xs : Nat → Int32} {xr mr ce0 sl0 : Nat} (hL : L ≤ 2048) (Inv : Nat → Mm → Prop) (hstep : ∀ (j : Nat) (S : Mm) (x a1 a2 a3 : Int32), j < 512 → Inv j S → ∃ S', lawStep xr mr x a1 a2 a3 S = some S' ∧ Inv (j + 1) S') (hc0 : ce0 + 51200 ≤ 600000) (hs0 : sl0 + 307200 ≤ 7302250) : ∀ (n j : Nat) (S : Mm), n + j = 512 → Inv j S → Sat G l x code 4 ret 2048 600000 7302250 (ce0 + 100 * j) (sl0 + 600 * j) 18 [.retAddr b, .ref xr, .ref mr, .int (nI (4 * j))] [] S (.inr (b, L, xs)) := by
  intro n
  induction n with
  | zero =>
    intro j S hj hI
    refine r_iload_n dL_law_18 rfl ?_
    refine r_aloadX dL_law_19 rfl ?_
    refine r_slen dL_law_20 ?_
    refine r_iconst (v := 4) dL_law_21 (by decide) ?_
    refine r_isub dL_law_22 ?_
    refine r_icmp_gt (tgt := 920) dL_law_23 (by decide) (fun c => ?_) (fun c => ?_)
    · refine r_iconst (v := 1) dL_law_920 (by decide) ?_
      exact r_lawret dL_law_921 (by omega) (by omega)
    · exact absurd ((law_gt hL (by omega)).mpr (by omega)) c
  | succ n ih =>
    intro j S hj hI
    refine r_iload_n dL_law_18 rfl ?_
    refine r_aloadX dL_law_19 rfl ?_
    refine r_slen dL_law_20 ?_
    refine r_iconst (v := 4) dL_law_21 (by decide) ?_
    refine r_isub dL_law_22 ?_
    refine r_icmp_gt (tgt := 920) dL_law_23 (by decide) (fun c => ?_) (fun c => ?_)
    · refine r_iconst (v := 1) dL_law_920 (by decide) ?_
      exact r_lawret dL_law_921 (by omega) (by omega)
    · have hle : 4 * j + 4 ≤ L := by
        rcases Nat.lt_or_ge L (4 * j + 4) with h | h
        · exact absurd ((law_gt hL (by omega)).mpr h) c
        · exact h
      refine r_aloadX dL_law_26 rfl ?_
      refine r_iload_n dL_law_27 rfl ?_
      refine r_sload dL_law_28 (vp_in_nI (by omega) (by omega)) ?_
      refine r_bipush (v := 31) dL_law_29 (by decide) ?_
      refine r_iand dL_law_31 ?_
      obtain ⟨S', hf, hI'⟩ := hstep j S (xs (nI (4 * j)).toNatClampNeg &&& 31) (xs (nI (4 * j) + 1).toNatClampNeg) (xs (nI (4 * j) + 2).toNatClampNeg) (xs (nI (4 * j) + 3).toNatClampNeg) (by omega) hI
      refine law_sw (by rw [nI_k (c := 1) _ 1 rfl]; exact vp_in_nI (by omega) (by omega)) (by rw [nI_k (c := 2) _ 2 rfl]; exact vp_in_nI (by omega) (by omega)) (by rw [nI_k (c := 3) _ 3 rfl]; exact vp_in_nI (by omega) (by omega)) (by omega) (by omega) hf ?_
      refine r_iinc (v := 4) (lv' := [.retAddr b, .ref xr, .ref mr, .int (nI (4 * j) + 4)]) dL_law_914 rfl (by decide) (by decide) rfl rfl ?_
      refine r_goto (tgt := 18) dL_law_917 (by decide) ?_
      have h := ih (j + 1) S' (by omega) hI'
      rw [show nI (4 * (j + 1)) = nI (4 * j) + 4 by rw [nI_k (c := 4) _ 4 rfl]; congr 1] at h
      rw [show ce0 + 100 * (j + 1) = ce0 + 100 * j + 100 by omega, show sl0 + 600 * (j + 1) = sl0 + 600 * j + 600 by omega] at h
      exact h
/-- the empty memory -/
def S0 : Mm := (fun _ _ => 0, fun _ _ => none, fun _ => 0, fun _ => 0, 0)
set_option maxRecDepth 20000 in
theorem law_start {G : Gt} {l : Launch} {b L : Nat} {xs : Nat → Int32} (hL : L ≤ 2048) (Inv : Nat → Mm → Prop) (mr : Nat) (S1 S2 : Mm) (h1 : f_X11_init (nC S0 10 0) 0 = some S1) (hm : mX S1 = mr) (h2 : f_X12_init (nC S1 11 0) mr = some S2) (hI : Inv 0 S2) (hstep : ∀ (j : Nat) (S : Mm) (x a1 a2 a3 : Int32), j < 512 → Inv j S → ∃ S', lawStep 0 mr x a1 a2 a3 S = some S' ∧ Inv (j + 1) S') : Sat G l x code 4 ret 2048 600000 7302250 0 0 0 [.retAddr b, .null, .null, .null] [] S0 (.inr (b, L, xs)) := by
  subst hm
  refine r_new (ci := 10) (N := 10) dL_law_0 ⟨_, _, rfl, w1_16, w1_17, w1_1⟩ (by decide) (by decide) ?_
  refine r_dup dL_law_3 rfl ?_
  refine r_callIv (st := [.ref 0]) (as := []) dL_law_4 ms_X11_init ⟨rfl, w1_18, w1_19⟩ (c_X11_init h1) rfl ⟨by decide, by decide⟩ (Nat.le_of_ble_eq_true rfl) (by decide) (by decide) rfl ?_
  refine r_astore_n (lv' := [.retAddr b, .ref 0, .null, .null]) dL_law_7 (by decide) rfl rfl ?_
  refine r_new (ci := 11) (N := 38) dL_law_8 ⟨_, _, rfl, w3_222, w3_223, w1_7⟩ (by decide) (by decide) ?_
  refine r_dup dL_law_11 rfl ?_
  refine r_callIv (st := [.ref (mX S1)]) (as := []) dL_law_12 ms_X12_init ⟨rfl, w3_224, w3_225⟩ (c_X12_init h2) rfl ⟨by decide, by decide⟩ (Nat.le_of_ble_eq_true rfl) (by decide) (by decide) rfl ?_
  refine r_astore_n (lv' := [.retAddr b, .ref 0, .ref (mX S1), .null]) dL_law_15 (by decide) rfl rfl ?_
  refine r_iconst (v := 0) dL_law_16 (by decide) ?_
  refine r_istore_n (lv' := [.retAddr b, .ref 0, .ref (mX S1), .int (nI (4 * 0))]) dL_law_17 (by decide) rfl rfl ?_
  exact law_loop (ce0 := 55) (sl0 := 1421) hL Inv hstep (by decide) (by decide) 512 0 S2 rfl hI
set_option maxRecDepth 20000 in
/-- what the tables give at the law's entry: the classes, the arrays, the words that are no good ones -/
theorem law_known {s : State} {b : Nat} (hts : ∀ w ∈ lw_tbl, w.before #[Value.ref b] s = true) : ∃ G : Gt, G.1 = s.heap.size ∧ va_K G.2.1 vwCl (tyG G) s ∧ NX s := by
  obtain ⟨c0, i0, hK0⟩ := u_known (C := RX0) (T := TX0) (N := 6) (n := 6) hts (fun w h => (List.mem_filter.mp (uin (ci := 0) rfl w h)).1) (hts (.instantiable RX0 6) (tin2 (List.mem_of_getElem? (i := 43) (by decide +kernel))))
  obtain ⟨c1, i1, hK1⟩ := u_known (C := RX1) (T := TX1) (N := 1) (n := 1) hts (fun w h => (List.mem_filter.mp (uin (ci := 1) rfl w h)).1) (hts (.instantiable RX1 1) (tin1 (List.mem_of_getElem? (i := 33) (by decide +kernel))))
  obtain ⟨c2, i2, hK2⟩ := u_known (C := RX2) (T := TX2) (N := 6) (n := 6) hts (fun w h => (List.mem_filter.mp (uin (ci := 2) rfl w h)).1) (hts (.instantiable RX2 6) (tin2 (List.mem_of_getElem? (i := 95) (by decide +kernel))))
  obtain ⟨c3, i3, hK3⟩ := u_known (C := RX3) (T := TX3) (N := 6) (n := 6) hts (fun w h => (List.mem_filter.mp (uin (ci := 3) rfl w h)).1) (hts (.instantiable RX3 6) (tin2 (List.mem_of_getElem? (i := 69) (by decide +kernel))))
  obtain ⟨c4, i4, hK4⟩ := u_known (C := RX4) (T := TX4) (N := 6) (n := 6) hts (fun w h => (List.mem_filter.mp (uin (ci := 4) rfl w h)).1) (hts (.instantiable RX4 6) (tin1 (List.mem_of_getElem? (i := 43) (by decide +kernel))))
  obtain ⟨c5, i5, hK5⟩ := u_known (C := RX5) (T := TX5) (N := 6) (n := 6) hts (fun w h => (List.mem_filter.mp (uin (ci := 5) rfl w h)).1) (hts (.instantiable RX5 6) (tin2 (List.mem_of_getElem? (i := 56) (by decide +kernel))))
  obtain ⟨c6, i6, hK6⟩ := u_known (C := RX6) (T := TX6) (N := 9) (n := 9) hts (fun w h => (List.mem_filter.mp (uin (ci := 6) rfl w h)).1) (hts (.instantiable RX6 9) (tin1 (List.mem_of_getElem? (i := 25) (by decide +kernel))))
  obtain ⟨c7, i7, hK7⟩ := u_known (C := RX7) (T := TX7) (N := 2) (n := 2) hts (fun w h => (List.mem_filter.mp (uin (ci := 7) rfl w h)).1) (hts (.instantiable RX7 2) (tin1 (List.mem_of_getElem? (i := 166) (by decide +kernel))))
  obtain ⟨c8, i8, hK8⟩ := u_known (C := RX8) (T := TX8) (N := 6) (n := 6) hts (fun w h => (List.mem_filter.mp (uin (ci := 8) rfl w h)).1) (hts (.instantiable RX8 6) (tin2 (List.mem_of_getElem? (i := 82) (by decide +kernel))))
  obtain ⟨c9, i9, hK9⟩ := u_known (C := RX9) (T := TX9) (N := 4) (n := 4) hts (fun w h => (List.mem_filter.mp (uin (ci := 9) rfl w h)).1) (hts (.instantiable RX9 4) (tin1 (List.mem_of_getElem? (i := 142) (by decide +kernel))))
  obtain ⟨c10, i10, hK10⟩ := u_known (C := RX11) (T := TX11) (N := 10) (n := 10) hts (fun w h => (List.mem_filter.mp (uin (ci := 10) rfl w h)).1) (hts (.instantiable RX11 10) (tin1 (List.mem_of_getElem? (i := 17) (by decide +kernel))))
  obtain ⟨c11, i11, hK11⟩ := u_known (C := RX12) (T := TX12) (N := 38) (n := 38) hts (fun w h => (List.mem_filter.mp (uin (ci := 11) rfl w h)).1) (hts (.instantiable RX12 38) (tin3 (List.mem_of_getElem? (i := 223) (by decide +kernel))))
  obtain ⟨dC, dI, hKc⟩ : ∃ (dC : Nat → ClassId) (dI : Nat → Nat → Nat), ∀ (k : Nat) (q : vw_C), vwCl[k]? = some q → u_Kn s q.1 q.2.1 q.2.2 (dC k) (dI k) := by
    refine ⟨fun k => if k = 0 then c0 else if k = 1 then c1 else if k = 2 then c2 else if k = 3 then c3 else if k = 4 then c4 else if k = 5 then c5 else if k = 6 then c6 else if k = 7 then c7 else if k = 8 then c8 else if k = 9 then c9 else if k = 10 then c10 else c11, fun k => if k = 0 then i0 else if k = 1 then i1 else if k = 2 then i2 else if k = 3 then i3 else if k = 4 then i4 else if k = 5 then i5 else if k = 6 then i6 else if k = 7 then i7 else if k = 8 then i8 else if k = 9 then i9 else if k = 10 then i10 else i11, ?_⟩
    intro k q hq
    match k, hq with
    | 0, hq => cases hq; exact hK0
    | 1, hq => cases hq; exact hK1
    | 2, hq => cases hq; exact hK2
    | 3, hq => cases hq; exact hK3
    | 4, hq => cases hq; exact hK4
    | 5, hq => cases hq; exact hK5
    | 6, hq => cases hq; exact hK6
    | 7, hq => cases hq; exact hK7
    | 8, hq => cases hq; exact hK8
    | 9, hq => cases hq; exact hK9
    | 10, hq => cases hq; exact hK10
    | 11, hq => cases hq; exact hK11
    | k + 12, hq => simp [vwCl] at hq
  obtain ⟨cI, kI, compI, f1, f2, f3⟩ := Cond.arrayClass_spec (hts (.arrayClass .int) (tin1 (List.mem_of_getElem? (i := 42) (by decide +kernel))))
  have hao := hts (.arrayOver (.object "GoodsDownhill$House")) (tin1 (List.mem_of_getElem? (i := 31) (by decide +kernel)))
  obtain ⟨comp, cH, kH, g1, g2, g3, g4, g5⟩ := Cond.arrayOver_spec hao
  refine ⟨(s.heap.size, (dC, dI), cI, cH), rfl, ⟨hKc, ?_⟩, ⟨?_, ?_, va_AO.of hao⟩⟩
  · intro k q hq
    match k, hq with
    | 0, hq =>
      cases hq
      exact ⟨fun n z => ⟨fun k h => (by cases h), kI, f2, compI, f3⟩, f1⟩
    | 1, hq =>
      cases hq
      exact ⟨fun n z => ⟨fun k h => (by cases h), kH, g3, comp, g4⟩, kH, comp, g3, g4, g1, g5⟩
    | k + 2, hq => simp [tyG] at hq
  · intro q hq
    simp only [nwM, List.mem_cons, List.not_mem_nil, or_false] at hq
    rcases hq with rfl | rfl | rfl | rfl | rfl | rfl | rfl
    · exact va_Nw.of rfl (hts _ (tin1 (List.mem_of_getElem? (i := 34) (by decide +kernel))))
    · exact va_Nw.of rfl (hts _ (tin1 (List.mem_of_getElem? (i := 143) (by decide +kernel))))
    · exact va_Nw.of rfl (hts _ (tin1 (List.mem_of_getElem? (i := 167) (by decide +kernel))))
    · exact va_Nw.of rfl (hts _ (tin2 (List.mem_of_getElem? (i := 37) (by decide +kernel))))
    · exact va_Nw.of rfl (hts _ (tin2 (List.mem_of_getElem? (i := 119) (by decide +kernel))))
    · exact va_Nw.of rfl (hts _ (tin2 (List.mem_of_getElem? (i := 233) (by decide +kernel))))
    · exact va_Nw.of rfl (hts _ (tin3 (List.mem_of_getElem? (i := 6) (by decide +kernel))))
  · intro C hC
    simp only [nwC, List.mem_cons, List.not_mem_nil, or_false] at hC
    rcases hC with rfl | rfl | rfl | rfl | rfl
    · exact va_Nw.of rfl (hts _ (tin5 (List.mem_of_getElem? (i := 118) (by decide +kernel))))
    · exact va_Nw.of rfl (hts _ (tin5 (List.mem_of_getElem? (i := 119) (by decide +kernel))))
    · exact va_Nw.of rfl (hts _ (tin5 (List.mem_of_getElem? (i := 120) (by decide +kernel))))
    · exact va_Nw.of rfl (hts _ (tin5 (List.mem_of_getElem? (i := 121) (by decide +kernel))))
    · exact va_Nw.of rfl (hts _ (tin5 (List.mem_of_getElem? (i := 122) (by decide +kernel))))
set_option maxRecDepth 20000 in
/-- the law, from its entry, out of the pure facts of class and reference -/
theorem law_whole {p : Program} {e : Env} {s : State} {m : MethodId} {below : List Frame} {meth : Method} {c : Code} (l : Launch) {b L : Nat} {xs : Nat → Int32} (hL : L ≤ 2048) (C0 : lw_At p s m meth c b L xs) (Inv : Nat → Mm → Prop) (mr : Nat) (S1 S2 : Mm) (h1 : f_X11_init (nC S0 10 0) 0 = some S1) (hm : mX S1 = mr) (h2 : f_X12_init (nC S1 11 0) mr = some S2) (hI : Inv 0 S2) (hstep : ∀ (j : Nat) (S : Mm) (x a1 a2 a3 : Int32), j < 512 → Inv j S → ∃ S', lawStep 0 mr x a1 a2 a3 S = some S' ∧ Inv (j + 1) S') : W p l e room_1 s m #[Value.ref b] below meth c s.heap [] 0 0 (lw_Z below #[Value.ref b] s) (entryFrame m ([Value.ref b] : List Value).toArray 4) := by
  obtain ⟨hx, hb, hr, hml, hown, hts, hX, hbl, hlocks, hgv⟩ := id C0
  obtain ⟨G, hG, hK, hN⟩ := law_known hts
  rw [lg_entry_eq]
  have hle := lv_entry ([.ref b]) (n := 4) (Nat.le_of_ble_eq_true rfl)
  refine law_start (G := G) (l := l) (b := b) hL Inv mr S1 S2 h1 hm h2 hI hstep p e s m _ below meth c s.heap [] _ ⟨hx, hb, hr, hml, hown, fun w h => hts w (List.mem_filter.mp h).1, hlocks, fun h => absurd h (by decide), hK, hN, Nat.le_of_eq hG, rfl, hX, hbl, hG.symm⟩ ⟨?_, ?_, va_S.rf⟩ ⟨hle.1, hle.2.1, ?_⟩
  · intro k q hk
    obtain ⟨h, -⟩ := cW_lt hk
    exact absurd h (Nat.not_lt_zero k)
  · rw [hG]; rfl
  · intro k v hk hv
    match k, hk with
    | 0, hk =>
      cases hk
      exact hle.2.2 (0, .ref b) List.mem_cons_self
    | 1, hk => cases hk; exact absurd rfl hv
    | 2, hk => cases hk; exact absurd rfl hv
    | 3, hk => cases hk; exact absurd rfl hv
    | k + 4, hk => simp at hk
