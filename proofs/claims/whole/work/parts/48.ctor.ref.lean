def adM (h : Nat) (f : Nat → Nat) : Nat → Nat := fun c => if c = 0 then h else f c
def wdCR (cI cZ : ClassId) : zWd := (fun _ => [], [(cI, .int), (cZ, .boolean)], fun _ _ _ => True)
theorem sfCR_ok {cI cZ : ClassId} : zSF (wdCR cI cZ).2.2 := ⟨fun _ _ _ _ _ h => h, fun _ _ _ _ _ h => h, fun _ _ _ _ _ h => h, fun _ _ _ _ _ h => h⟩
/-- the rest of a constructor makes nothing more: it is walked over the reference's world -/
theorem za_tail {X : zX} {nL : Nat} {cI cZ : ClassId} {h : Nat} {f0 : Nat → Nat} {k n pc : Nat} {L : List (Nat × Value)} {σ q : ST} {cc : ByteArray} {own : String} {rm : Room} (B : zC X nL (wdCR cI cZ) cc own none rm) (hkn : k ≤ rm.cells ∧ n ≤ rm.slots) (hz : ∀ X' : zX, zC X' nL (wdR (adM h f0) cI cZ) cc own none rm → zJ X' nL (wdR (adM h f0) cI cZ) (zu q) pc L [] σ) : zA X nL (zQA X (wdCR cI cZ) (fun f => wfR (adM h f) cI cZ q) k n) k n pc L [] ((wdR (adM h f0) cI cZ).1 σ) := fun H locs ls hl hP hD hS => by
  have hJ := hz (X.1, X.2.1, X.2.2.1, (X.2.2.2.1.1, k, n), X.2.2.2.2) ⟨B.1, B.2.1, B.2.2.1, B.2.2.2.1, B.2.2.2.2.1, B.2.2.2.2.2.1, B.2.2.2.2.2.2.1, B.2.2.2.2.2.2.2.1, B.2.2.2.2.2.2.2.2.1, ⟨B.2.2.2.2.2.2.2.2.2.1.1, hkn.1, hkn.2⟩, sfR_ok, trivial⟩ H locs ls hl hP hD hS
  intro T hT Xs
  obtain ⟨t, a, o, b1, b2, b3, b4⟩ := hJ T hT Xs
  exact ⟨t, a, o, b1, b2, ⟨b3.1, f0, b3.2.1, b3.2.2.1, b3.2.2.2.1, b3.2.2.2.2⟩, b4⟩
theorem zc_sipush_200 : (Int16.ofInt (200)).toInt32 = ((200) : Int32) := by decide
theorem zc_sipush_3948 : (Int16.ofInt (3948)).toInt32 = ((3948) : Int32) := by decide
theorem zc_sipush_20000 : (Int16.ofInt (20000)).toInt32 = ((20000) : Int32) := by decide
set_option maxRecDepth 20000 in
set_option maxHeartbeats 4000000 in
theorem kw_908 : Cond.constantLong RX8 58 (7919) ∈ zTb := zIn4 133 rfl rfl
set_option maxRecDepth 20000 in
set_option maxHeartbeats 4000000 in
theorem kw_909 : Cond.constantLong RX8 60 (13) ∈ zTb := zIn4 134 rfl rfl
set_option maxRecDepth 20000 in
set_option maxHeartbeats 4000000 in
theorem kw_910 : Cond.constantLong RX8 62 (1000003) ∈ zTb := zIn4 135 rfl rfl
set_option maxRecDepth 20000 in
set_option maxHeartbeats 4000000 in
theorem kw_907 : Cond.methodLink RX8 3 objectInit ∈ zTb := zIn4 132 rfl rfl
theorem dX8_init_0 : decode cX8_init 0 = .ok (.aload_n 0, 1) := by decide +kernel
theorem dX8_init_1 : decode cX8_init 1 = .ok (.invokespecial 3, 3) := by decide +kernel
theorem dX8_init_4 : decode cX8_init 4 = .ok (.aload_n 0, 1) := by decide +kernel
theorem dX8_init_5 : decode cX8_init 5 = .ok (.sipush 1974, 3) := by decide +kernel
theorem dX8_init_8 : decode cX8_init 8 = .ok (.newarray .int, 2) := by decide +kernel
theorem dX8_init_10 : decode cX8_init 10 = .ok (.putfield 9, 3) := by decide +kernel
theorem dX8_init_13 : decode cX8_init 13 = .ok (.aload_n 0, 1) := by decide +kernel
theorem dX8_init_14 : decode cX8_init 14 = .ok (.sipush 1974, 3) := by decide +kernel
theorem dX8_init_17 : decode cX8_init 17 = .ok (.newarray .int, 2) := by decide +kernel
theorem dX8_init_19 : decode cX8_init 19 = .ok (.putfield 15, 3) := by decide +kernel
theorem dX8_init_22 : decode cX8_init 22 = .ok (.aload_n 0, 1) := by decide +kernel
theorem dX8_init_23 : decode cX8_init 23 = .ok (.sipush 3948, 3) := by decide +kernel
theorem dX8_init_26 : decode cX8_init 26 = .ok (.newarray .int, 2) := by decide +kernel
theorem dX8_init_28 : decode cX8_init 28 = .ok (.putfield 18, 3) := by decide +kernel
theorem dX8_init_31 : decode cX8_init 31 = .ok (.aload_n 0, 1) := by decide +kernel
theorem dX8_init_32 : decode cX8_init 32 = .ok (.sipush 10000, 3) := by decide +kernel
theorem dX8_init_35 : decode cX8_init 35 = .ok (.newarray .int, 2) := by decide +kernel
theorem dX8_init_37 : decode cX8_init 37 = .ok (.putfield 21, 3) := by decide +kernel
theorem dX8_init_40 : decode cX8_init 40 = .ok (.aload_n 0, 1) := by decide +kernel
theorem dX8_init_41 : decode cX8_init 41 = .ok (.sipush 10000, 3) := by decide +kernel
theorem dX8_init_44 : decode cX8_init 44 = .ok (.newarray .boolean, 2) := by decide +kernel
theorem dX8_init_46 : decode cX8_init 46 = .ok (.putfield 24, 3) := by decide +kernel
theorem dX8_init_49 : decode cX8_init 49 = .ok (.aload_n 0, 1) := by decide +kernel
theorem dX8_init_50 : decode cX8_init 50 = .ok (.sipush 20000, 3) := by decide +kernel
theorem dX8_init_53 : decode cX8_init 53 = .ok (.newarray .int, 2) := by decide +kernel
theorem dX8_init_55 : decode cX8_init 55 = .ok (.putfield 28, 3) := by decide +kernel
theorem dX8_init_58 : decode cX8_init 58 = .ok (.aload_n 0, 1) := by decide +kernel
theorem dX8_init_59 : decode cX8_init 59 = .ok (.sipush 20000, 3) := by decide +kernel
theorem dX8_init_62 : decode cX8_init 62 = .ok (.newarray .boolean, 2) := by decide +kernel
theorem dX8_init_64 : decode cX8_init 64 = .ok (.putfield 31, 3) := by decide +kernel
theorem dX8_init_67 : decode cX8_init 67 = .ok (.aload_n 0, 1) := by decide +kernel
theorem dX8_init_68 : decode cX8_init 68 = .ok (.iconst 2, 1) := by decide +kernel
theorem dX8_init_69 : decode cX8_init 69 = .ok (.newarray .boolean, 2) := by decide +kernel
theorem dX8_init_71 : decode cX8_init 71 = .ok (.putfield 34, 3) := by decide +kernel
theorem dX8_init_74 : decode cX8_init 74 = .ok (.aload_n 0, 1) := by decide +kernel
theorem dX8_init_75 : decode cX8_init 75 = .ok (.bipush 10, 2) := by decide +kernel
theorem dX8_init_77 : decode cX8_init 77 = .ok (.newarray .int, 2) := by decide +kernel
theorem dX8_init_79 : decode cX8_init 79 = .ok (.dup, 1) := by decide +kernel
theorem dX8_init_80 : decode cX8_init 80 = .ok (.iconst 0, 1) := by decide +kernel
theorem dX8_init_81 : decode cX8_init 81 = .ok (.iconst 4, 1) := by decide +kernel
theorem dX8_init_82 : decode cX8_init 82 = .ok (.iastore, 1) := by decide +kernel
theorem dX8_init_83 : decode cX8_init 83 = .ok (.dup, 1) := by decide +kernel
theorem dX8_init_84 : decode cX8_init 84 = .ok (.iconst 1, 1) := by decide +kernel
theorem dX8_init_85 : decode cX8_init 85 = .ok (.iconst 1, 1) := by decide +kernel
theorem dX8_init_86 : decode cX8_init 86 = .ok (.iastore, 1) := by decide +kernel
theorem dX8_init_87 : decode cX8_init 87 = .ok (.dup, 1) := by decide +kernel
theorem dX8_init_88 : decode cX8_init 88 = .ok (.iconst 2, 1) := by decide +kernel
theorem dX8_init_89 : decode cX8_init 89 = .ok (.iconst 1, 1) := by decide +kernel
theorem dX8_init_90 : decode cX8_init 90 = .ok (.iastore, 1) := by decide +kernel
theorem dX8_init_91 : decode cX8_init 91 = .ok (.dup, 1) := by decide +kernel
theorem dX8_init_92 : decode cX8_init 92 = .ok (.iconst 3, 1) := by decide +kernel
theorem dX8_init_93 : decode cX8_init 93 = .ok (.iconst 1, 1) := by decide +kernel
theorem dX8_init_94 : decode cX8_init 94 = .ok (.iastore, 1) := by decide +kernel
theorem dX8_init_95 : decode cX8_init 95 = .ok (.dup, 1) := by decide +kernel
theorem dX8_init_96 : decode cX8_init 96 = .ok (.iconst 4, 1) := by decide +kernel
theorem dX8_init_97 : decode cX8_init 97 = .ok (.iconst 1, 1) := by decide +kernel
theorem dX8_init_98 : decode cX8_init 98 = .ok (.iastore, 1) := by decide +kernel
theorem dX8_init_99 : decode cX8_init 99 = .ok (.dup, 1) := by decide +kernel
theorem dX8_init_100 : decode cX8_init 100 = .ok (.iconst 5, 1) := by decide +kernel
theorem dX8_init_101 : decode cX8_init 101 = .ok (.iconst 0, 1) := by decide +kernel
theorem dX8_init_102 : decode cX8_init 102 = .ok (.iastore, 1) := by decide +kernel
theorem dX8_init_103 : decode cX8_init 103 = .ok (.dup, 1) := by decide +kernel
theorem dX8_init_104 : decode cX8_init 104 = .ok (.bipush 6, 2) := by decide +kernel
theorem dX8_init_106 : decode cX8_init 106 = .ok (.iconst 1, 1) := by decide +kernel
theorem dX8_init_107 : decode cX8_init 107 = .ok (.iastore, 1) := by decide +kernel
theorem dX8_init_108 : decode cX8_init 108 = .ok (.dup, 1) := by decide +kernel
theorem dX8_init_109 : decode cX8_init 109 = .ok (.bipush 7, 2) := by decide +kernel
theorem dX8_init_111 : decode cX8_init 111 = .ok (.iconst 1, 1) := by decide +kernel
theorem dX8_init_112 : decode cX8_init 112 = .ok (.iastore, 1) := by decide +kernel
theorem dX8_init_113 : decode cX8_init 113 = .ok (.dup, 1) := by decide +kernel
theorem dX8_init_114 : decode cX8_init 114 = .ok (.bipush 8, 2) := by decide +kernel
theorem dX8_init_116 : decode cX8_init 116 = .ok (.iconst 0, 1) := by decide +kernel
theorem dX8_init_117 : decode cX8_init 117 = .ok (.iastore, 1) := by decide +kernel
theorem dX8_init_118 : decode cX8_init 118 = .ok (.dup, 1) := by decide +kernel
theorem dX8_init_119 : decode cX8_init 119 = .ok (.bipush 9, 2) := by decide +kernel
theorem dX8_init_121 : decode cX8_init 121 = .ok (.iconst 0, 1) := by decide +kernel
theorem dX8_init_122 : decode cX8_init 122 = .ok (.iastore, 1) := by decide +kernel
theorem dX8_init_123 : decode cX8_init 123 = .ok (.putfield 37, 3) := by decide +kernel
theorem dX8_init_126 : decode cX8_init 126 = .ok (.aload_n 0, 1) := by decide +kernel
theorem dX8_init_127 : decode cX8_init 127 = .ok (.bipush 10, 2) := by decide +kernel
theorem dX8_init_129 : decode cX8_init 129 = .ok (.newarray .int, 2) := by decide +kernel
theorem dX8_init_131 : decode cX8_init 131 = .ok (.dup, 1) := by decide +kernel
theorem dX8_init_132 : decode cX8_init 132 = .ok (.iconst 0, 1) := by decide +kernel
theorem dX8_init_133 : decode cX8_init 133 = .ok (.bipush 64, 2) := by decide +kernel
theorem dX8_init_135 : decode cX8_init 135 = .ok (.iastore, 1) := by decide +kernel
theorem dX8_init_136 : decode cX8_init 136 = .ok (.dup, 1) := by decide +kernel
theorem dX8_init_137 : decode cX8_init 137 = .ok (.iconst 1, 1) := by decide +kernel
theorem dX8_init_138 : decode cX8_init 138 = .ok (.iconst 4, 1) := by decide +kernel
theorem dX8_init_139 : decode cX8_init 139 = .ok (.iastore, 1) := by decide +kernel
theorem dX8_init_140 : decode cX8_init 140 = .ok (.dup, 1) := by decide +kernel
theorem dX8_init_141 : decode cX8_init 141 = .ok (.iconst 2, 1) := by decide +kernel
theorem dX8_init_142 : decode cX8_init 142 = .ok (.bipush 8, 2) := by decide +kernel
theorem dX8_init_144 : decode cX8_init 144 = .ok (.iastore, 1) := by decide +kernel
theorem dX8_init_145 : decode cX8_init 145 = .ok (.dup, 1) := by decide +kernel
theorem dX8_init_146 : decode cX8_init 146 = .ok (.iconst 3, 1) := by decide +kernel
theorem dX8_init_147 : decode cX8_init 147 = .ok (.bipush 32, 2) := by decide +kernel
theorem dX8_init_149 : decode cX8_init 149 = .ok (.iastore, 1) := by decide +kernel
theorem dX8_init_150 : decode cX8_init 150 = .ok (.dup, 1) := by decide +kernel
theorem dX8_init_151 : decode cX8_init 151 = .ok (.iconst 4, 1) := by decide +kernel
theorem dX8_init_152 : decode cX8_init 152 = .ok (.sipush 200, 3) := by decide +kernel
theorem dX8_init_155 : decode cX8_init 155 = .ok (.iastore, 1) := by decide +kernel
theorem dX8_init_156 : decode cX8_init 156 = .ok (.dup, 1) := by decide +kernel
theorem dX8_init_157 : decode cX8_init 157 = .ok (.iconst 5, 1) := by decide +kernel
theorem dX8_init_158 : decode cX8_init 158 = .ok (.bipush 100, 2) := by decide +kernel
theorem dX8_init_160 : decode cX8_init 160 = .ok (.iastore, 1) := by decide +kernel
theorem dX8_init_161 : decode cX8_init 161 = .ok (.dup, 1) := by decide +kernel
theorem dX8_init_162 : decode cX8_init 162 = .ok (.bipush 6, 2) := by decide +kernel
theorem dX8_init_164 : decode cX8_init 164 = .ok (.bipush 6, 2) := by decide +kernel
theorem dX8_init_166 : decode cX8_init 166 = .ok (.iastore, 1) := by decide +kernel
theorem dX8_init_167 : decode cX8_init 167 = .ok (.dup, 1) := by decide +kernel
theorem dX8_init_168 : decode cX8_init 168 = .ok (.bipush 7, 2) := by decide +kernel
theorem dX8_init_170 : decode cX8_init 170 = .ok (.sipush 10000, 3) := by decide +kernel
theorem dX8_init_173 : decode cX8_init 173 = .ok (.iastore, 1) := by decide +kernel
theorem dX8_init_174 : decode cX8_init 174 = .ok (.dup, 1) := by decide +kernel
theorem dX8_init_175 : decode cX8_init 175 = .ok (.bipush 8, 2) := by decide +kernel
theorem dX8_init_177 : decode cX8_init 177 = .ok (.iconst 2, 1) := by decide +kernel
theorem dX8_init_178 : decode cX8_init 178 = .ok (.iastore, 1) := by decide +kernel
theorem dX8_init_179 : decode cX8_init 179 = .ok (.dup, 1) := by decide +kernel
theorem dX8_init_180 : decode cX8_init 180 = .ok (.bipush 9, 2) := by decide +kernel
theorem dX8_init_182 : decode cX8_init 182 = .ok (.bipush 8, 2) := by decide +kernel
theorem dX8_init_184 : decode cX8_init 184 = .ok (.iastore, 1) := by decide +kernel
theorem dX8_init_185 : decode cX8_init 185 = .ok (.putfield 40, 3) := by decide +kernel
theorem dX8_init_188 : decode cX8_init 188 = .ok (.aload_n 0, 1) := by decide +kernel
theorem dX8_init_189 : decode cX8_init 189 = .ok (.bipush 64, 2) := by decide +kernel
theorem dX8_init_191 : decode cX8_init 191 = .ok (.newarray .int, 2) := by decide +kernel
theorem dX8_init_193 : decode cX8_init 193 = .ok (.putfield 43, 3) := by decide +kernel
theorem dX8_init_196 : decode cX8_init 196 = .ok (.aload_n 0, 1) := by decide +kernel
theorem dX8_init_197 : decode cX8_init 197 = .ok (.sipush 400, 3) := by decide +kernel
theorem dX8_init_200 : decode cX8_init 200 = .ok (.newarray .int, 2) := by decide +kernel
theorem dX8_init_202 : decode cX8_init 202 = .ok (.putfield 46, 3) := by decide +kernel
theorem dX8_init_205 : decode cX8_init 205 = .ok (.aload_n 0, 1) := by decide +kernel
theorem dX8_init_206 : decode cX8_init 206 = .ok (.bipush 64, 2) := by decide +kernel
theorem dX8_init_208 : decode cX8_init 208 = .ok (.newarray .int, 2) := by decide +kernel
theorem dX8_init_210 : decode cX8_init 210 = .ok (.putfield 49, 3) := by decide +kernel
theorem dX8_init_213 : decode cX8_init 213 = .ok (.aload_n 0, 1) := by decide +kernel
theorem dX8_init_214 : decode cX8_init 214 = .ok (.bipush 64, 2) := by decide +kernel
theorem dX8_init_216 : decode cX8_init 216 = .ok (.newarray .int, 2) := by decide +kernel
theorem dX8_init_218 : decode cX8_init 218 = .ok (.putfield 52, 3) := by decide +kernel
theorem dX8_init_221 : decode cX8_init 221 = .ok (.aload_n 0, 1) := by decide +kernel
theorem dX8_init_222 : decode cX8_init 222 = .ok (.sipush 10000, 3) := by decide +kernel
theorem dX8_init_225 : decode cX8_init 225 = .ok (.newarray .int, 2) := by decide +kernel
theorem dX8_init_227 : decode cX8_init 227 = .ok (.putfield 55, 3) := by decide +kernel
theorem dX8_init_230 : decode cX8_init 230 = .ok (.aload_n 0, 1) := by decide +kernel
theorem dX8_init_231 : decode cX8_init 231 = .ok (.getfield 9, 3) := by decide +kernel
theorem dX8_init_234 : decode cX8_init 234 = .ok (.iconst 0, 1) := by decide +kernel
theorem dX8_init_235 : decode cX8_init 235 = .ok (.bipush 16, 2) := by decide +kernel
theorem dX8_init_237 : decode cX8_init 237 = .ok (.iastore, 1) := by decide +kernel
theorem dX8_init_238 : decode cX8_init 238 = .ok (.aload_n 0, 1) := by decide +kernel
theorem dX8_init_239 : decode cX8_init 239 = .ok (.getfield 9, 3) := by decide +kernel
theorem dX8_init_242 : decode cX8_init 242 = .ok (.iconst 1, 1) := by decide +kernel
theorem dX8_init_243 : decode cX8_init 243 = .ok (.iconst 2, 1) := by decide +kernel
theorem dX8_init_244 : decode cX8_init 244 = .ok (.iastore, 1) := by decide +kernel
theorem dX8_init_245 : decode cX8_init 245 = .ok (.aload_n 0, 1) := by decide +kernel
theorem dX8_init_246 : decode cX8_init 246 = .ok (.getfield 9, 3) := by decide +kernel
theorem dX8_init_249 : decode cX8_init 249 = .ok (.iconst 2, 1) := by decide +kernel
theorem dX8_init_250 : decode cX8_init 250 = .ok (.iconst 2, 1) := by decide +kernel
theorem dX8_init_251 : decode cX8_init 251 = .ok (.iastore, 1) := by decide +kernel
theorem dX8_init_252 : decode cX8_init 252 = .ok (.aload_n 0, 1) := by decide +kernel
theorem dX8_init_253 : decode cX8_init 253 = .ok (.getfield 9, 3) := by decide +kernel
theorem dX8_init_256 : decode cX8_init 256 = .ok (.iconst 3, 1) := by decide +kernel
theorem dX8_init_257 : decode cX8_init 257 = .ok (.bipush 8, 2) := by decide +kernel
theorem dX8_init_259 : decode cX8_init 259 = .ok (.iastore, 1) := by decide +kernel
theorem dX8_init_260 : decode cX8_init 260 = .ok (.aload_n 0, 1) := by decide +kernel
theorem dX8_init_261 : decode cX8_init 261 = .ok (.getfield 9, 3) := by decide +kernel
theorem dX8_init_264 : decode cX8_init 264 = .ok (.iconst 4, 1) := by decide +kernel
theorem dX8_init_265 : decode cX8_init 265 = .ok (.bipush 16, 2) := by decide +kernel
theorem dX8_init_267 : decode cX8_init 267 = .ok (.iastore, 1) := by decide +kernel
theorem dX8_init_268 : decode cX8_init 268 = .ok (.aload_n 0, 1) := by decide +kernel
theorem dX8_init_269 : decode cX8_init 269 = .ok (.getfield 9, 3) := by decide +kernel
theorem dX8_init_272 : decode cX8_init 272 = .ok (.iconst 5, 1) := by decide +kernel
theorem dX8_init_273 : decode cX8_init 273 = .ok (.bipush 30, 2) := by decide +kernel
theorem dX8_init_275 : decode cX8_init 275 = .ok (.iastore, 1) := by decide +kernel
theorem dX8_init_276 : decode cX8_init 276 = .ok (.aload_n 0, 1) := by decide +kernel
theorem dX8_init_277 : decode cX8_init 277 = .ok (.getfield 9, 3) := by decide +kernel
theorem dX8_init_280 : decode cX8_init 280 = .ok (.bipush 6, 2) := by decide +kernel
theorem dX8_init_282 : decode cX8_init 282 = .ok (.iconst 4, 1) := by decide +kernel
theorem dX8_init_283 : decode cX8_init 283 = .ok (.iastore, 1) := by decide +kernel
theorem dX8_init_284 : decode cX8_init 284 = .ok (.aload_n 0, 1) := by decide +kernel
theorem dX8_init_285 : decode cX8_init 285 = .ok (.getfield 9, 3) := by decide +kernel
theorem dX8_init_288 : decode cX8_init 288 = .ok (.bipush 7, 2) := by decide +kernel
theorem dX8_init_290 : decode cX8_init 290 = .ok (.sipush 10000, 3) := by decide +kernel
theorem dX8_init_293 : decode cX8_init 293 = .ok (.iastore, 1) := by decide +kernel
theorem dX8_init_294 : decode cX8_init 294 = .ok (.iconst 0, 1) := by decide +kernel
theorem dX8_init_295 : decode cX8_init 295 = .ok (.istore_n 1, 1) := by decide +kernel
theorem dX8_init_296 : decode cX8_init 296 = .ok (.iload_n 1, 1) := by decide +kernel
theorem dX8_init_297 : decode cX8_init 297 = .ok (.sipush 10000, 3) := by decide +kernel
theorem dX8_init_300 : decode cX8_init 300 = .ok (.if_icmp .ge 30, 3) := by decide +kernel
theorem dX8_init_303 : decode cX8_init 303 = .ok (.aload_n 0, 1) := by decide +kernel
theorem dX8_init_304 : decode cX8_init 304 = .ok (.getfield 21, 3) := by decide +kernel
theorem dX8_init_307 : decode cX8_init 307 = .ok (.iload_n 1, 1) := by decide +kernel
theorem dX8_init_308 : decode cX8_init 308 = .ok (.ldc2_w 58, 3) := by decide +kernel
theorem dX8_init_311 : decode cX8_init 311 = .ok (.iload_n 1, 1) := by decide +kernel
theorem dX8_init_312 : decode cX8_init 312 = .ok (.i2l, 1) := by decide +kernel
theorem dX8_init_313 : decode cX8_init 313 = .ok (.lmul, 1) := by decide +kernel
theorem dX8_init_314 : decode cX8_init 314 = .ok (.ldc2_w 60, 3) := by decide +kernel
theorem dX8_init_317 : decode cX8_init 317 = .ok (.ladd, 1) := by decide +kernel
theorem dX8_init_318 : decode cX8_init 318 = .ok (.ldc2_w 62, 3) := by decide +kernel
theorem dX8_init_321 : decode cX8_init 321 = .ok (.lrem, 1) := by decide +kernel
theorem dX8_init_322 : decode cX8_init 322 = .ok (.l2i, 1) := by decide +kernel
theorem dX8_init_323 : decode cX8_init 323 = .ok (.iastore, 1) := by decide +kernel
theorem dX8_init_324 : decode cX8_init 324 = .ok (.iinc 1 1, 3) := by decide +kernel
theorem dX8_init_327 : decode cX8_init 327 = .ok (.goto (-31), 3) := by decide +kernel
theorem dX8_init_330 : decode cX8_init 330 = .ok (.aload_n 0, 1) := by decide +kernel
theorem dX8_init_331 : decode cX8_init 331 = .ok (.invokevirtual 64, 3) := by decide +kernel
theorem dX8_init_334 : decode cX8_init 334 = .ok (.return_, 1) := by decide +kernel
def mR_initT_B296 (N : Nat) (hd296 : ST → Int32 → Option (ST)) (σ : ST) (x1 : Int32) : Option (ST) :=
  if ((10000) : Int32) ≤ x1 then
    zCallu (mR_begin N σ) fun s331 =>
    some s331
  else
    zLet ((x1 : Int32).toInt64) fun v312 =>
    zLet (((7919) : Int64) * v312) fun v313 =>
    zLet ((v313 : Int64) + (13)) fun v317 =>
    zLrem v317 (1000003) fun v321 =>
    zLet ((v321 : Int64).toInt32) fun v322 =>
    zSet σ 4 10000 x1 v322 fun s323 =>
    zLet (x1 + (1)) fun v324 =>
    hd296 s323 v324
def mR_initT_296 (N : Nat) : ST → Int32 → Option (ST) := zIt (mR_initT_B296 N) (fun _ _ => none) N
set_option maxRecDepth 20000 in
set_option maxHeartbeats 4000000 in
theorem tR_initT_296 {adr : Nat → Nat} {cI cZ : ClassId} {X : zX} {q : ST} (B : zC X 2 (wdR adr cI cZ) cX8_init RX8 none { frames := 1, cells := 15, slots := 78510, locals := 21 }) (N : Nat) : ∀ (σ : ST) (x1 : Int32), mR_initT_296 N σ x1 = some q → zJ X 2 (wdR adr cI cZ) (zu q) 296 [(0, .ref (adr 0)), (1, .int x1)] [] σ := by
  refine zIt_ind (P := fun (hd : ST → Int32 → Option (ST)) => ∀ (σ : ST) (x1 : Int32), hd σ x1 = some q → zJ X 2 (wdR adr cI cZ) (zu q) 296 [(0, .ref (adr 0)), (1, .int x1)] [] σ) (fun _ _ hf => by cases hf) (fun hd296 hh296 => ?_) N
  intro σ x1 hf
  refine z_iload_n B dX8_init_296 1 rfl rfl ?_
  refine z_sipush B (10000) dX8_init_297 zc_sipush_10000 ?_
  refine z_icmp_ge B 330 dX8_init_300 (by decide) hf (fun hf => ?_) (fun hf => ?_)
  · refine z_aload_n B dX8_init_330 0 rfl rfl ?_
    refine z_callVu B (As := []) kcV_X8_64 dX8_init_331 hf (fun q hq => cR_begin q hq) (wR_o (adr := adr) (cI := cI) (cZ := cZ)) rfl rfl rfl rfl (Nat.le_of_ble_eq_true rfl) rfl rfl ⟨Nat.le_of_ble_eq_true rfl, Nat.le_of_ble_eq_true rfl⟩ (fun s331 hf => ?_)
    exact z_return B dX8_init_334 hf
  · refine z_aload_n B dX8_init_303 0 rfl rfl ?_
    refine fR_g_disk B dX8_init_304 ?_
    refine z_iload_n B dX8_init_307 1 rfl rfl ?_
    refine z_ldc2 B kw_908 dX8_init_308 ?_
    refine z_iload_n B dX8_init_311 1 rfl rfl ?_
    refine z_i2l B dX8_init_312 hf (fun v312 hf => ?_)
    refine z_lmul B dX8_init_313 hf (fun v313 hf => ?_)
    refine z_ldc2 B kw_909 dX8_init_314 ?_
    refine z_ladd B dX8_init_317 hf (fun v317 hf => ?_)
    refine z_ldc2 B kw_910 dX8_init_318 ?_
    refine z_lrem B dX8_init_321 hf (fun v321 hf => ?_)
    refine z_l2i B dX8_init_322 hf (fun v322 hf => ?_)
    refine fR_s_disk B dX8_init_323 hf (fun s323 hf => ?_)
    refine z_iinc B (1) 1 (fun v324 => [(1, .int v324), (0, .ref (adr 0))]) dX8_init_324 hf zc_iconst_1 rfl (Nat.le_of_ble_eq_true rfl) (fun _ => rfl) (fun v324 hf => ?_)
    refine z_goto B 296 dX8_init_327 (by decide) ?_
    exact z_loc [1, 0] _ rfl (hh296 s323 v324 hf)
def mR_initT (N : Nat) (σ : ST) : Option (ST) :=
  mR_initT_296 N σ (0)
set_option maxRecDepth 20000 in
set_option maxHeartbeats 4000000 in
theorem tR_initT_294 {adr : Nat → Nat} {cI cZ : ClassId} {X : zX} {q : ST} (B : zC X 2 (wdR adr cI cZ) cX8_init RX8 none { frames := 1, cells := 15, slots := 78510, locals := 21 }) (N : Nat) (σ : ST) (hf : mR_initT N σ = some q) : zJ X 2 (wdR adr cI cZ) (zu q) 294 [(0, .ref (adr 0))] [] σ := by
  refine z_iconst B (0) dX8_init_294 zc_iconst_0 ?_
  refine z_istore_n B [(1, .int (0)), (0, .ref (adr 0))] dX8_init_295 rfl (Nat.le_of_ble_eq_true rfl) rfl ?_
  exact z_loc [1, 0] _ rfl (tR_initT_296 B N σ (0) hf)
def rho1 : ST := fun c => if c = 1 then (upd (upd (upd (upd (upd (upd (upd (upd (fun _ => 0) 0 (16)) 1 (2)) 2 (2)) 3 (8)) 4 (16)) 5 (30)) 6 (4)) 7 (10000)) else if c = 9 then (upd (upd (upd (upd (upd (upd (upd (upd (upd (upd (fun _ => 0) 0 (4)) 1 (1)) 2 (1)) 3 (1)) 4 (1)) 5 (0)) 6 (1)) 7 (1)) 8 (0)) 9 (0)) else if c = 10 then (upd (upd (upd (upd (upd (upd (upd (upd (upd (upd (fun _ => 0) 0 (64)) 1 (4)) 2 (8)) 3 (32)) 4 (200)) 5 (100)) 6 (6)) 7 (10000)) 8 (2)) 9 (8)) else fun _ => 0
set_option maxRecDepth 20000 in
set_option maxHeartbeats 4000000 in
theorem kt_X8_init : Cond.code yX8_init cX8_init 2 none ∈ zTb := zIn4 131 rfl rfl
set_option maxRecDepth 20000 in
set_option maxHeartbeats 4000000 in
theorem cc_X8_init {cI cZ : ClassId} {l : Launch} {D : va_G} {N : Nat} {q : ST} (hf : mR_initT N rho1 = some q) (h : Nat) : zMc l D (wdCR cI cZ) yX8_init cX8_init 2 ({ frames := 1, cells := 15, slots := 78510, locals := 21 }) [.ref h] [(h, .inr (8, [.int 0, .null, .null, .null, .null, .null, .null, .null, .null, .null, .null, .int 0, .int 0, .int 0, .null, .int 0, .int 0, .null, .int 0, .null, .null, .null, .int 0, .int 0]))] (fun f => wfR (adM h f) cI cZ q) 15 78510 := by
  refine zMc_of sfCR_ok rfl rfl (Nat.le_of_ble_eq_true rfl) [(0, .ref h)] rfl (fun X hX1 hX2 hnm B => ?_)
  have B : zC X 2 (wdCR cI cZ) cX8_init RX8 none { frames := 1, cells := 15, slots := 78510, locals := 21 } := B
  refine za_aload_n B dX8_init_0 0 rfl rfl ?_
  refine za_objInit B kw_907 kobjI kobjC dX8_init_1 (Nat.le_of_ble_eq_true rfl) (Nat.le_of_ble_eq_true rfl) ?_
  refine za_aload_n B dX8_init_4 0 rfl rfl ?_
  refine za_sipush B (1974) dX8_init_5 zc_sipush_1974 ?_
  refine za_newa B (t0 := 0) (N := 1974) kAcI rfl (Or.inl rfl) rfl (by decide) (by decide) (Nat.le_of_ble_eq_true rfl) (Nat.le_of_ble_eq_true rfl) (Nat.le_of_ble_eq_true rfl) dX8_init_8 (fun q8_5 => ?_)
  refine za_ws [(h, .inr (8, [.int 0, .null, .null, .null, .null, .null, .null, .null, .null, .null, .null, .int 0, .int 0, .int 0, .null, .int 0, .int 0, .null, .int 0, .null, .null, .null, .int 0, .int 0])), (q8_5, .inl (cI, 1974, .inl (fun _ => 0)))] rfl ?_
  refine za_putF B hnm (q0 := 0) (j := 1) iX8 tyX8 tyX8_ok nmX8 rfl rfl (Nat.le_of_ble_eq_true rfl) kw_916 rfl rfl (tyX8_ok 1 (Nat.le_of_ble_eq_true rfl)) rfl rfl (Nat.le_of_ble_eq_true rfl) [(h, .inr (8, [.int 0, .ref q8_5, .null, .null, .null, .null, .null, .null, .null, .null, .null, .int 0, .int 0, .int 0, .null, .int 0, .int 0, .null, .int 0, .null, .null, .null, .int 0, .int 0])), (q8_5, .inl (cI, 1974, .inl (fun _ => 0)))] rfl dX8_init_10 ?_
  refine za_aload_n B dX8_init_13 0 rfl rfl ?_
  refine za_sipush B (1974) dX8_init_14 zc_sipush_1974 ?_
  refine za_newa B (t0 := 0) (N := 1974) kAcI rfl (Or.inl rfl) rfl (by decide) (by decide) (Nat.le_of_ble_eq_true rfl) (Nat.le_of_ble_eq_true rfl) (Nat.le_of_ble_eq_true rfl) dX8_init_17 (fun q17_9 => ?_)
  refine za_ws [(h, .inr (8, [.int 0, .ref q8_5, .null, .null, .null, .null, .null, .null, .null, .null, .null, .int 0, .int 0, .int 0, .null, .int 0, .int 0, .null, .int 0, .null, .null, .null, .int 0, .int 0])), (q8_5, .inl (cI, 1974, .inl (fun _ => 0))), (q17_9, .inl (cI, 1974, .inl (fun _ => 0)))] rfl ?_
  refine za_putF B hnm (q0 := 0) (j := 2) iX8 tyX8 tyX8_ok nmX8 rfl rfl (Nat.le_of_ble_eq_true rfl) kw_917 rfl rfl (tyX8_ok 2 (Nat.le_of_ble_eq_true rfl)) rfl rfl (Nat.le_of_ble_eq_true rfl) [(h, .inr (8, [.int 0, .ref q8_5, .ref q17_9, .null, .null, .null, .null, .null, .null, .null, .null, .int 0, .int 0, .int 0, .null, .int 0, .int 0, .null, .int 0, .null, .null, .null, .int 0, .int 0])), (q8_5, .inl (cI, 1974, .inl (fun _ => 0))), (q17_9, .inl (cI, 1974, .inl (fun _ => 0)))] rfl dX8_init_19 ?_
  refine za_aload_n B dX8_init_22 0 rfl rfl ?_
  refine za_sipush B (3948) dX8_init_23 zc_sipush_3948 ?_
  refine za_newa B (t0 := 0) (N := 3948) kAcI rfl (Or.inl rfl) rfl (by decide) (by decide) (Nat.le_of_ble_eq_true rfl) (Nat.le_of_ble_eq_true rfl) (Nat.le_of_ble_eq_true rfl) dX8_init_26 (fun q26_13 => ?_)
  refine za_ws [(h, .inr (8, [.int 0, .ref q8_5, .ref q17_9, .null, .null, .null, .null, .null, .null, .null, .null, .int 0, .int 0, .int 0, .null, .int 0, .int 0, .null, .int 0, .null, .null, .null, .int 0, .int 0])), (q8_5, .inl (cI, 1974, .inl (fun _ => 0))), (q17_9, .inl (cI, 1974, .inl (fun _ => 0))), (q26_13, .inl (cI, 3948, .inl (fun _ => 0)))] rfl ?_
  refine za_putF B hnm (q0 := 0) (j := 3) iX8 tyX8 tyX8_ok nmX8 rfl rfl (Nat.le_of_ble_eq_true rfl) kw_918 rfl rfl (tyX8_ok 3 (Nat.le_of_ble_eq_true rfl)) rfl rfl (Nat.le_of_ble_eq_true rfl) [(h, .inr (8, [.int 0, .ref q8_5, .ref q17_9, .ref q26_13, .null, .null, .null, .null, .null, .null, .null, .int 0, .int 0, .int 0, .null, .int 0, .int 0, .null, .int 0, .null, .null, .null, .int 0, .int 0])), (q8_5, .inl (cI, 1974, .inl (fun _ => 0))), (q17_9, .inl (cI, 1974, .inl (fun _ => 0))), (q26_13, .inl (cI, 3948, .inl (fun _ => 0)))] rfl dX8_init_28 ?_
  refine za_aload_n B dX8_init_31 0 rfl rfl ?_
  refine za_sipush B (10000) dX8_init_32 zc_sipush_10000 ?_
  refine za_newa B (t0 := 0) (N := 10000) kAcI rfl (Or.inl rfl) rfl (by decide) (by decide) (Nat.le_of_ble_eq_true rfl) (Nat.le_of_ble_eq_true rfl) (Nat.le_of_ble_eq_true rfl) dX8_init_35 (fun q35_17 => ?_)
  refine za_ws [(h, .inr (8, [.int 0, .ref q8_5, .ref q17_9, .ref q26_13, .null, .null, .null, .null, .null, .null, .null, .int 0, .int 0, .int 0, .null, .int 0, .int 0, .null, .int 0, .null, .null, .null, .int 0, .int 0])), (q8_5, .inl (cI, 1974, .inl (fun _ => 0))), (q17_9, .inl (cI, 1974, .inl (fun _ => 0))), (q26_13, .inl (cI, 3948, .inl (fun _ => 0))), (q35_17, .inl (cI, 10000, .inl (fun _ => 0)))] rfl ?_
  refine za_putF B hnm (q0 := 0) (j := 4) iX8 tyX8 tyX8_ok nmX8 rfl rfl (Nat.le_of_ble_eq_true rfl) kw_919 rfl rfl (tyX8_ok 4 (Nat.le_of_ble_eq_true rfl)) rfl rfl (Nat.le_of_ble_eq_true rfl) [(h, .inr (8, [.int 0, .ref q8_5, .ref q17_9, .ref q26_13, .ref q35_17, .null, .null, .null, .null, .null, .null, .int 0, .int 0, .int 0, .null, .int 0, .int 0, .null, .int 0, .null, .null, .null, .int 0, .int 0])), (q8_5, .inl (cI, 1974, .inl (fun _ => 0))), (q17_9, .inl (cI, 1974, .inl (fun _ => 0))), (q26_13, .inl (cI, 3948, .inl (fun _ => 0))), (q35_17, .inl (cI, 10000, .inl (fun _ => 0)))] rfl dX8_init_37 ?_
  refine za_aload_n B dX8_init_40 0 rfl rfl ?_
  refine za_sipush B (10000) dX8_init_41 zc_sipush_10000 ?_
  refine za_newa B (t0 := 1) (N := 10000) kAcZ rfl (Or.inr rfl) rfl (by decide) (by decide) (Nat.le_of_ble_eq_true rfl) (Nat.le_of_ble_eq_true rfl) (Nat.le_of_ble_eq_true rfl) dX8_init_44 (fun q44_21 => ?_)
  refine za_ws [(h, .inr (8, [.int 0, .ref q8_5, .ref q17_9, .ref q26_13, .ref q35_17, .null, .null, .null, .null, .null, .null, .int 0, .int 0, .int 0, .null, .int 0, .int 0, .null, .int 0, .null, .null, .null, .int 0, .int 0])), (q8_5, .inl (cI, 1974, .inl (fun _ => 0))), (q17_9, .inl (cI, 1974, .inl (fun _ => 0))), (q26_13, .inl (cI, 3948, .inl (fun _ => 0))), (q35_17, .inl (cI, 10000, .inl (fun _ => 0))), (q44_21, .inl (cZ, 10000, .inl (fun _ => 0)))] rfl ?_
  refine za_putF B hnm (q0 := 0) (j := 5) iX8 tyX8 tyX8_ok nmX8 rfl rfl (Nat.le_of_ble_eq_true rfl) kw_920 rfl rfl (tyX8_ok 5 (Nat.le_of_ble_eq_true rfl)) rfl rfl (Nat.le_of_ble_eq_true rfl) [(h, .inr (8, [.int 0, .ref q8_5, .ref q17_9, .ref q26_13, .ref q35_17, .ref q44_21, .null, .null, .null, .null, .null, .int 0, .int 0, .int 0, .null, .int 0, .int 0, .null, .int 0, .null, .null, .null, .int 0, .int 0])), (q8_5, .inl (cI, 1974, .inl (fun _ => 0))), (q17_9, .inl (cI, 1974, .inl (fun _ => 0))), (q26_13, .inl (cI, 3948, .inl (fun _ => 0))), (q35_17, .inl (cI, 10000, .inl (fun _ => 0))), (q44_21, .inl (cZ, 10000, .inl (fun _ => 0)))] rfl dX8_init_46 ?_
  refine za_aload_n B dX8_init_49 0 rfl rfl ?_
  refine za_sipush B (20000) dX8_init_50 zc_sipush_20000 ?_
  refine za_newa B (t0 := 0) (N := 20000) kAcI rfl (Or.inl rfl) rfl (by decide) (by decide) (Nat.le_of_ble_eq_true rfl) (Nat.le_of_ble_eq_true rfl) (Nat.le_of_ble_eq_true rfl) dX8_init_53 (fun q53_25 => ?_)
  refine za_ws [(h, .inr (8, [.int 0, .ref q8_5, .ref q17_9, .ref q26_13, .ref q35_17, .ref q44_21, .null, .null, .null, .null, .null, .int 0, .int 0, .int 0, .null, .int 0, .int 0, .null, .int 0, .null, .null, .null, .int 0, .int 0])), (q8_5, .inl (cI, 1974, .inl (fun _ => 0))), (q17_9, .inl (cI, 1974, .inl (fun _ => 0))), (q26_13, .inl (cI, 3948, .inl (fun _ => 0))), (q35_17, .inl (cI, 10000, .inl (fun _ => 0))), (q44_21, .inl (cZ, 10000, .inl (fun _ => 0))), (q53_25, .inl (cI, 20000, .inl (fun _ => 0)))] rfl ?_
  refine za_putF B hnm (q0 := 0) (j := 6) iX8 tyX8 tyX8_ok nmX8 rfl rfl (Nat.le_of_ble_eq_true rfl) kw_921 rfl rfl (tyX8_ok 6 (Nat.le_of_ble_eq_true rfl)) rfl rfl (Nat.le_of_ble_eq_true rfl) [(h, .inr (8, [.int 0, .ref q8_5, .ref q17_9, .ref q26_13, .ref q35_17, .ref q44_21, .ref q53_25, .null, .null, .null, .null, .int 0, .int 0, .int 0, .null, .int 0, .int 0, .null, .int 0, .null, .null, .null, .int 0, .int 0])), (q8_5, .inl (cI, 1974, .inl (fun _ => 0))), (q17_9, .inl (cI, 1974, .inl (fun _ => 0))), (q26_13, .inl (cI, 3948, .inl (fun _ => 0))), (q35_17, .inl (cI, 10000, .inl (fun _ => 0))), (q44_21, .inl (cZ, 10000, .inl (fun _ => 0))), (q53_25, .inl (cI, 20000, .inl (fun _ => 0)))] rfl dX8_init_55 ?_
  refine za_aload_n B dX8_init_58 0 rfl rfl ?_
  refine za_sipush B (20000) dX8_init_59 zc_sipush_20000 ?_
  refine za_newa B (t0 := 1) (N := 20000) kAcZ rfl (Or.inr rfl) rfl (by decide) (by decide) (Nat.le_of_ble_eq_true rfl) (Nat.le_of_ble_eq_true rfl) (Nat.le_of_ble_eq_true rfl) dX8_init_62 (fun q62_29 => ?_)
  refine za_ws [(h, .inr (8, [.int 0, .ref q8_5, .ref q17_9, .ref q26_13, .ref q35_17, .ref q44_21, .ref q53_25, .null, .null, .null, .null, .int 0, .int 0, .int 0, .null, .int 0, .int 0, .null, .int 0, .null, .null, .null, .int 0, .int 0])), (q8_5, .inl (cI, 1974, .inl (fun _ => 0))), (q17_9, .inl (cI, 1974, .inl (fun _ => 0))), (q26_13, .inl (cI, 3948, .inl (fun _ => 0))), (q35_17, .inl (cI, 10000, .inl (fun _ => 0))), (q44_21, .inl (cZ, 10000, .inl (fun _ => 0))), (q53_25, .inl (cI, 20000, .inl (fun _ => 0))), (q62_29, .inl (cZ, 20000, .inl (fun _ => 0)))] rfl ?_
  refine za_putF B hnm (q0 := 0) (j := 7) iX8 tyX8 tyX8_ok nmX8 rfl rfl (Nat.le_of_ble_eq_true rfl) kw_922 rfl rfl (tyX8_ok 7 (Nat.le_of_ble_eq_true rfl)) rfl rfl (Nat.le_of_ble_eq_true rfl) [(h, .inr (8, [.int 0, .ref q8_5, .ref q17_9, .ref q26_13, .ref q35_17, .ref q44_21, .ref q53_25, .ref q62_29, .null, .null, .null, .int 0, .int 0, .int 0, .null, .int 0, .int 0, .null, .int 0, .null, .null, .null, .int 0, .int 0])), (q8_5, .inl (cI, 1974, .inl (fun _ => 0))), (q17_9, .inl (cI, 1974, .inl (fun _ => 0))), (q26_13, .inl (cI, 3948, .inl (fun _ => 0))), (q35_17, .inl (cI, 10000, .inl (fun _ => 0))), (q44_21, .inl (cZ, 10000, .inl (fun _ => 0))), (q53_25, .inl (cI, 20000, .inl (fun _ => 0))), (q62_29, .inl (cZ, 20000, .inl (fun _ => 0)))] rfl dX8_init_64 ?_
  refine za_aload_n B dX8_init_67 0 rfl rfl ?_
  refine za_iconst B (2) dX8_init_68 zc_iconst_2 ?_
  refine za_newa B (t0 := 1) (N := 2) kAcZ rfl (Or.inr rfl) rfl (by decide) (by decide) (Nat.le_of_ble_eq_true rfl) (Nat.le_of_ble_eq_true rfl) (Nat.le_of_ble_eq_true rfl) dX8_init_69 (fun q69_33 => ?_)
  refine za_ws [(h, .inr (8, [.int 0, .ref q8_5, .ref q17_9, .ref q26_13, .ref q35_17, .ref q44_21, .ref q53_25, .ref q62_29, .null, .null, .null, .int 0, .int 0, .int 0, .null, .int 0, .int 0, .null, .int 0, .null, .null, .null, .int 0, .int 0])), (q8_5, .inl (cI, 1974, .inl (fun _ => 0))), (q17_9, .inl (cI, 1974, .inl (fun _ => 0))), (q26_13, .inl (cI, 3948, .inl (fun _ => 0))), (q35_17, .inl (cI, 10000, .inl (fun _ => 0))), (q44_21, .inl (cZ, 10000, .inl (fun _ => 0))), (q53_25, .inl (cI, 20000, .inl (fun _ => 0))), (q62_29, .inl (cZ, 20000, .inl (fun _ => 0))), (q69_33, .inl (cZ, 2, .inl (fun _ => 0)))] rfl ?_
  refine za_putF B hnm (q0 := 0) (j := 8) iX8 tyX8 tyX8_ok nmX8 rfl rfl (Nat.le_of_ble_eq_true rfl) kw_923 rfl rfl (tyX8_ok 8 (Nat.le_of_ble_eq_true rfl)) rfl rfl (Nat.le_of_ble_eq_true rfl) [(h, .inr (8, [.int 0, .ref q8_5, .ref q17_9, .ref q26_13, .ref q35_17, .ref q44_21, .ref q53_25, .ref q62_29, .ref q69_33, .null, .null, .int 0, .int 0, .int 0, .null, .int 0, .int 0, .null, .int 0, .null, .null, .null, .int 0, .int 0])), (q8_5, .inl (cI, 1974, .inl (fun _ => 0))), (q17_9, .inl (cI, 1974, .inl (fun _ => 0))), (q26_13, .inl (cI, 3948, .inl (fun _ => 0))), (q35_17, .inl (cI, 10000, .inl (fun _ => 0))), (q44_21, .inl (cZ, 10000, .inl (fun _ => 0))), (q53_25, .inl (cI, 20000, .inl (fun _ => 0))), (q62_29, .inl (cZ, 20000, .inl (fun _ => 0))), (q69_33, .inl (cZ, 2, .inl (fun _ => 0)))] rfl dX8_init_71 ?_
  refine za_aload_n B dX8_init_74 0 rfl rfl ?_
  refine za_bipush B (10) dX8_init_75 zc_bipush_10 ?_
  refine za_newa B (t0 := 0) (N := 10) kAcI rfl (Or.inl rfl) rfl (by decide) (by decide) (Nat.le_of_ble_eq_true rfl) (Nat.le_of_ble_eq_true rfl) (Nat.le_of_ble_eq_true rfl) dX8_init_77 (fun q77_37 => ?_)
  refine za_ws [(h, .inr (8, [.int 0, .ref q8_5, .ref q17_9, .ref q26_13, .ref q35_17, .ref q44_21, .ref q53_25, .ref q62_29, .ref q69_33, .null, .null, .int 0, .int 0, .int 0, .null, .int 0, .int 0, .null, .int 0, .null, .null, .null, .int 0, .int 0])), (q8_5, .inl (cI, 1974, .inl (fun _ => 0))), (q17_9, .inl (cI, 1974, .inl (fun _ => 0))), (q26_13, .inl (cI, 3948, .inl (fun _ => 0))), (q35_17, .inl (cI, 10000, .inl (fun _ => 0))), (q44_21, .inl (cZ, 10000, .inl (fun _ => 0))), (q53_25, .inl (cI, 20000, .inl (fun _ => 0))), (q62_29, .inl (cZ, 20000, .inl (fun _ => 0))), (q69_33, .inl (cZ, 2, .inl (fun _ => 0))), (q77_37, .inl (cI, 10, .inl (fun _ => 0)))] rfl ?_
  refine za_dup B dX8_init_79 rfl ?_
  refine za_iconst B (0) dX8_init_80 zc_iconst_0 ?_
  refine za_iconst B (4) dX8_init_81 zc_iconst_4 ?_
  refine za_iast B (q0 := 9) (t0 := 0) rfl rfl (by unfold vp_in; decide) [(h, .inr (8, [.int 0, .ref q8_5, .ref q17_9, .ref q26_13, .ref q35_17, .ref q44_21, .ref q53_25, .ref q62_29, .ref q69_33, .null, .null, .int 0, .int 0, .int 0, .null, .int 0, .int 0, .null, .int 0, .null, .null, .null, .int 0, .int 0])), (q8_5, .inl (cI, 1974, .inl (fun _ => 0))), (q17_9, .inl (cI, 1974, .inl (fun _ => 0))), (q26_13, .inl (cI, 3948, .inl (fun _ => 0))), (q35_17, .inl (cI, 10000, .inl (fun _ => 0))), (q44_21, .inl (cZ, 10000, .inl (fun _ => 0))), (q53_25, .inl (cI, 20000, .inl (fun _ => 0))), (q62_29, .inl (cZ, 20000, .inl (fun _ => 0))), (q69_33, .inl (cZ, 2, .inl (fun _ => 0))), (q77_37, .inl (cI, 10, .inl (upd (fun _ => 0) 0 (4))))] rfl dX8_init_82 ?_
  refine za_dup B dX8_init_83 rfl ?_
  refine za_iconst B (1) dX8_init_84 zc_iconst_1 ?_
  refine za_iconst B (1) dX8_init_85 zc_iconst_1 ?_
  refine za_iast B (q0 := 9) (t0 := 0) rfl rfl (by unfold vp_in; decide) [(h, .inr (8, [.int 0, .ref q8_5, .ref q17_9, .ref q26_13, .ref q35_17, .ref q44_21, .ref q53_25, .ref q62_29, .ref q69_33, .null, .null, .int 0, .int 0, .int 0, .null, .int 0, .int 0, .null, .int 0, .null, .null, .null, .int 0, .int 0])), (q8_5, .inl (cI, 1974, .inl (fun _ => 0))), (q17_9, .inl (cI, 1974, .inl (fun _ => 0))), (q26_13, .inl (cI, 3948, .inl (fun _ => 0))), (q35_17, .inl (cI, 10000, .inl (fun _ => 0))), (q44_21, .inl (cZ, 10000, .inl (fun _ => 0))), (q53_25, .inl (cI, 20000, .inl (fun _ => 0))), (q62_29, .inl (cZ, 20000, .inl (fun _ => 0))), (q69_33, .inl (cZ, 2, .inl (fun _ => 0))), (q77_37, .inl (cI, 10, .inl (upd (upd (fun _ => 0) 0 (4)) 1 (1))))] rfl dX8_init_86 ?_
  refine za_dup B dX8_init_87 rfl ?_
  refine za_iconst B (2) dX8_init_88 zc_iconst_2 ?_
  refine za_iconst B (1) dX8_init_89 zc_iconst_1 ?_
  refine za_iast B (q0 := 9) (t0 := 0) rfl rfl (by unfold vp_in; decide) [(h, .inr (8, [.int 0, .ref q8_5, .ref q17_9, .ref q26_13, .ref q35_17, .ref q44_21, .ref q53_25, .ref q62_29, .ref q69_33, .null, .null, .int 0, .int 0, .int 0, .null, .int 0, .int 0, .null, .int 0, .null, .null, .null, .int 0, .int 0])), (q8_5, .inl (cI, 1974, .inl (fun _ => 0))), (q17_9, .inl (cI, 1974, .inl (fun _ => 0))), (q26_13, .inl (cI, 3948, .inl (fun _ => 0))), (q35_17, .inl (cI, 10000, .inl (fun _ => 0))), (q44_21, .inl (cZ, 10000, .inl (fun _ => 0))), (q53_25, .inl (cI, 20000, .inl (fun _ => 0))), (q62_29, .inl (cZ, 20000, .inl (fun _ => 0))), (q69_33, .inl (cZ, 2, .inl (fun _ => 0))), (q77_37, .inl (cI, 10, .inl (upd (upd (upd (fun _ => 0) 0 (4)) 1 (1)) 2 (1))))] rfl dX8_init_90 ?_
  refine za_dup B dX8_init_91 rfl ?_
  refine za_iconst B (3) dX8_init_92 zc_iconst_3 ?_
  refine za_iconst B (1) dX8_init_93 zc_iconst_1 ?_
  refine za_iast B (q0 := 9) (t0 := 0) rfl rfl (by unfold vp_in; decide) [(h, .inr (8, [.int 0, .ref q8_5, .ref q17_9, .ref q26_13, .ref q35_17, .ref q44_21, .ref q53_25, .ref q62_29, .ref q69_33, .null, .null, .int 0, .int 0, .int 0, .null, .int 0, .int 0, .null, .int 0, .null, .null, .null, .int 0, .int 0])), (q8_5, .inl (cI, 1974, .inl (fun _ => 0))), (q17_9, .inl (cI, 1974, .inl (fun _ => 0))), (q26_13, .inl (cI, 3948, .inl (fun _ => 0))), (q35_17, .inl (cI, 10000, .inl (fun _ => 0))), (q44_21, .inl (cZ, 10000, .inl (fun _ => 0))), (q53_25, .inl (cI, 20000, .inl (fun _ => 0))), (q62_29, .inl (cZ, 20000, .inl (fun _ => 0))), (q69_33, .inl (cZ, 2, .inl (fun _ => 0))), (q77_37, .inl (cI, 10, .inl (upd (upd (upd (upd (fun _ => 0) 0 (4)) 1 (1)) 2 (1)) 3 (1))))] rfl dX8_init_94 ?_
  refine za_dup B dX8_init_95 rfl ?_
  refine za_iconst B (4) dX8_init_96 zc_iconst_4 ?_
  refine za_iconst B (1) dX8_init_97 zc_iconst_1 ?_
  refine za_iast B (q0 := 9) (t0 := 0) rfl rfl (by unfold vp_in; decide) [(h, .inr (8, [.int 0, .ref q8_5, .ref q17_9, .ref q26_13, .ref q35_17, .ref q44_21, .ref q53_25, .ref q62_29, .ref q69_33, .null, .null, .int 0, .int 0, .int 0, .null, .int 0, .int 0, .null, .int 0, .null, .null, .null, .int 0, .int 0])), (q8_5, .inl (cI, 1974, .inl (fun _ => 0))), (q17_9, .inl (cI, 1974, .inl (fun _ => 0))), (q26_13, .inl (cI, 3948, .inl (fun _ => 0))), (q35_17, .inl (cI, 10000, .inl (fun _ => 0))), (q44_21, .inl (cZ, 10000, .inl (fun _ => 0))), (q53_25, .inl (cI, 20000, .inl (fun _ => 0))), (q62_29, .inl (cZ, 20000, .inl (fun _ => 0))), (q69_33, .inl (cZ, 2, .inl (fun _ => 0))), (q77_37, .inl (cI, 10, .inl (upd (upd (upd (upd (upd (fun _ => 0) 0 (4)) 1 (1)) 2 (1)) 3 (1)) 4 (1))))] rfl dX8_init_98 ?_
  refine za_dup B dX8_init_99 rfl ?_
  refine za_iconst B (5) dX8_init_100 zc_iconst_5 ?_
  refine za_iconst B (0) dX8_init_101 zc_iconst_0 ?_
  refine za_iast B (q0 := 9) (t0 := 0) rfl rfl (by unfold vp_in; decide) [(h, .inr (8, [.int 0, .ref q8_5, .ref q17_9, .ref q26_13, .ref q35_17, .ref q44_21, .ref q53_25, .ref q62_29, .ref q69_33, .null, .null, .int 0, .int 0, .int 0, .null, .int 0, .int 0, .null, .int 0, .null, .null, .null, .int 0, .int 0])), (q8_5, .inl (cI, 1974, .inl (fun _ => 0))), (q17_9, .inl (cI, 1974, .inl (fun _ => 0))), (q26_13, .inl (cI, 3948, .inl (fun _ => 0))), (q35_17, .inl (cI, 10000, .inl (fun _ => 0))), (q44_21, .inl (cZ, 10000, .inl (fun _ => 0))), (q53_25, .inl (cI, 20000, .inl (fun _ => 0))), (q62_29, .inl (cZ, 20000, .inl (fun _ => 0))), (q69_33, .inl (cZ, 2, .inl (fun _ => 0))), (q77_37, .inl (cI, 10, .inl (upd (upd (upd (upd (upd (upd (fun _ => 0) 0 (4)) 1 (1)) 2 (1)) 3 (1)) 4 (1)) 5 (0))))] rfl dX8_init_102 ?_
  refine za_dup B dX8_init_103 rfl ?_
  refine za_bipush B (6) dX8_init_104 zc_bipush_6 ?_
  refine za_iconst B (1) dX8_init_106 zc_iconst_1 ?_
  refine za_iast B (q0 := 9) (t0 := 0) rfl rfl (by unfold vp_in; decide) [(h, .inr (8, [.int 0, .ref q8_5, .ref q17_9, .ref q26_13, .ref q35_17, .ref q44_21, .ref q53_25, .ref q62_29, .ref q69_33, .null, .null, .int 0, .int 0, .int 0, .null, .int 0, .int 0, .null, .int 0, .null, .null, .null, .int 0, .int 0])), (q8_5, .inl (cI, 1974, .inl (fun _ => 0))), (q17_9, .inl (cI, 1974, .inl (fun _ => 0))), (q26_13, .inl (cI, 3948, .inl (fun _ => 0))), (q35_17, .inl (cI, 10000, .inl (fun _ => 0))), (q44_21, .inl (cZ, 10000, .inl (fun _ => 0))), (q53_25, .inl (cI, 20000, .inl (fun _ => 0))), (q62_29, .inl (cZ, 20000, .inl (fun _ => 0))), (q69_33, .inl (cZ, 2, .inl (fun _ => 0))), (q77_37, .inl (cI, 10, .inl (upd (upd (upd (upd (upd (upd (upd (fun _ => 0) 0 (4)) 1 (1)) 2 (1)) 3 (1)) 4 (1)) 5 (0)) 6 (1))))] rfl dX8_init_107 ?_
  refine za_dup B dX8_init_108 rfl ?_
  refine za_bipush B (7) dX8_init_109 zc_bipush_7 ?_
  refine za_iconst B (1) dX8_init_111 zc_iconst_1 ?_
  refine za_iast B (q0 := 9) (t0 := 0) rfl rfl (by unfold vp_in; decide) [(h, .inr (8, [.int 0, .ref q8_5, .ref q17_9, .ref q26_13, .ref q35_17, .ref q44_21, .ref q53_25, .ref q62_29, .ref q69_33, .null, .null, .int 0, .int 0, .int 0, .null, .int 0, .int 0, .null, .int 0, .null, .null, .null, .int 0, .int 0])), (q8_5, .inl (cI, 1974, .inl (fun _ => 0))), (q17_9, .inl (cI, 1974, .inl (fun _ => 0))), (q26_13, .inl (cI, 3948, .inl (fun _ => 0))), (q35_17, .inl (cI, 10000, .inl (fun _ => 0))), (q44_21, .inl (cZ, 10000, .inl (fun _ => 0))), (q53_25, .inl (cI, 20000, .inl (fun _ => 0))), (q62_29, .inl (cZ, 20000, .inl (fun _ => 0))), (q69_33, .inl (cZ, 2, .inl (fun _ => 0))), (q77_37, .inl (cI, 10, .inl (upd (upd (upd (upd (upd (upd (upd (upd (fun _ => 0) 0 (4)) 1 (1)) 2 (1)) 3 (1)) 4 (1)) 5 (0)) 6 (1)) 7 (1))))] rfl dX8_init_112 ?_
  refine za_dup B dX8_init_113 rfl ?_
  refine za_bipush B (8) dX8_init_114 zc_bipush_8 ?_
  refine za_iconst B (0) dX8_init_116 zc_iconst_0 ?_
  refine za_iast B (q0 := 9) (t0 := 0) rfl rfl (by unfold vp_in; decide) [(h, .inr (8, [.int 0, .ref q8_5, .ref q17_9, .ref q26_13, .ref q35_17, .ref q44_21, .ref q53_25, .ref q62_29, .ref q69_33, .null, .null, .int 0, .int 0, .int 0, .null, .int 0, .int 0, .null, .int 0, .null, .null, .null, .int 0, .int 0])), (q8_5, .inl (cI, 1974, .inl (fun _ => 0))), (q17_9, .inl (cI, 1974, .inl (fun _ => 0))), (q26_13, .inl (cI, 3948, .inl (fun _ => 0))), (q35_17, .inl (cI, 10000, .inl (fun _ => 0))), (q44_21, .inl (cZ, 10000, .inl (fun _ => 0))), (q53_25, .inl (cI, 20000, .inl (fun _ => 0))), (q62_29, .inl (cZ, 20000, .inl (fun _ => 0))), (q69_33, .inl (cZ, 2, .inl (fun _ => 0))), (q77_37, .inl (cI, 10, .inl (upd (upd (upd (upd (upd (upd (upd (upd (upd (fun _ => 0) 0 (4)) 1 (1)) 2 (1)) 3 (1)) 4 (1)) 5 (0)) 6 (1)) 7 (1)) 8 (0))))] rfl dX8_init_117 ?_
  refine za_dup B dX8_init_118 rfl ?_
  refine za_bipush B (9) dX8_init_119 zc_bipush_9 ?_
  refine za_iconst B (0) dX8_init_121 zc_iconst_0 ?_
  refine za_iast B (q0 := 9) (t0 := 0) rfl rfl (by unfold vp_in; decide) [(h, .inr (8, [.int 0, .ref q8_5, .ref q17_9, .ref q26_13, .ref q35_17, .ref q44_21, .ref q53_25, .ref q62_29, .ref q69_33, .null, .null, .int 0, .int 0, .int 0, .null, .int 0, .int 0, .null, .int 0, .null, .null, .null, .int 0, .int 0])), (q8_5, .inl (cI, 1974, .inl (fun _ => 0))), (q17_9, .inl (cI, 1974, .inl (fun _ => 0))), (q26_13, .inl (cI, 3948, .inl (fun _ => 0))), (q35_17, .inl (cI, 10000, .inl (fun _ => 0))), (q44_21, .inl (cZ, 10000, .inl (fun _ => 0))), (q53_25, .inl (cI, 20000, .inl (fun _ => 0))), (q62_29, .inl (cZ, 20000, .inl (fun _ => 0))), (q69_33, .inl (cZ, 2, .inl (fun _ => 0))), (q77_37, .inl (cI, 10, .inl (upd (upd (upd (upd (upd (upd (upd (upd (upd (upd (fun _ => 0) 0 (4)) 1 (1)) 2 (1)) 3 (1)) 4 (1)) 5 (0)) 6 (1)) 7 (1)) 8 (0)) 9 (0))))] rfl dX8_init_122 ?_
  refine za_putF B hnm (q0 := 0) (j := 9) iX8 tyX8 tyX8_ok nmX8 rfl rfl (Nat.le_of_ble_eq_true rfl) kw_924 rfl rfl (tyX8_ok 9 (Nat.le_of_ble_eq_true rfl)) rfl rfl (Nat.le_of_ble_eq_true rfl) [(h, .inr (8, [.int 0, .ref q8_5, .ref q17_9, .ref q26_13, .ref q35_17, .ref q44_21, .ref q53_25, .ref q62_29, .ref q69_33, .ref q77_37, .null, .int 0, .int 0, .int 0, .null, .int 0, .int 0, .null, .int 0, .null, .null, .null, .int 0, .int 0])), (q8_5, .inl (cI, 1974, .inl (fun _ => 0))), (q17_9, .inl (cI, 1974, .inl (fun _ => 0))), (q26_13, .inl (cI, 3948, .inl (fun _ => 0))), (q35_17, .inl (cI, 10000, .inl (fun _ => 0))), (q44_21, .inl (cZ, 10000, .inl (fun _ => 0))), (q53_25, .inl (cI, 20000, .inl (fun _ => 0))), (q62_29, .inl (cZ, 20000, .inl (fun _ => 0))), (q69_33, .inl (cZ, 2, .inl (fun _ => 0))), (q77_37, .inl (cI, 10, .inl (upd (upd (upd (upd (upd (upd (upd (upd (upd (upd (fun _ => 0) 0 (4)) 1 (1)) 2 (1)) 3 (1)) 4 (1)) 5 (0)) 6 (1)) 7 (1)) 8 (0)) 9 (0))))] rfl dX8_init_123 ?_
  refine za_aload_n B dX8_init_126 0 rfl rfl ?_
  refine za_bipush B (10) dX8_init_127 zc_bipush_10 ?_
  refine za_newa B (t0 := 0) (N := 10) kAcI rfl (Or.inl rfl) rfl (by decide) (by decide) (Nat.le_of_ble_eq_true rfl) (Nat.le_of_ble_eq_true rfl) (Nat.le_of_ble_eq_true rfl) dX8_init_129 (fun q129_81 => ?_)
  refine za_ws [(h, .inr (8, [.int 0, .ref q8_5, .ref q17_9, .ref q26_13, .ref q35_17, .ref q44_21, .ref q53_25, .ref q62_29, .ref q69_33, .ref q77_37, .null, .int 0, .int 0, .int 0, .null, .int 0, .int 0, .null, .int 0, .null, .null, .null, .int 0, .int 0])), (q8_5, .inl (cI, 1974, .inl (fun _ => 0))), (q17_9, .inl (cI, 1974, .inl (fun _ => 0))), (q26_13, .inl (cI, 3948, .inl (fun _ => 0))), (q35_17, .inl (cI, 10000, .inl (fun _ => 0))), (q44_21, .inl (cZ, 10000, .inl (fun _ => 0))), (q53_25, .inl (cI, 20000, .inl (fun _ => 0))), (q62_29, .inl (cZ, 20000, .inl (fun _ => 0))), (q69_33, .inl (cZ, 2, .inl (fun _ => 0))), (q77_37, .inl (cI, 10, .inl (upd (upd (upd (upd (upd (upd (upd (upd (upd (upd (fun _ => 0) 0 (4)) 1 (1)) 2 (1)) 3 (1)) 4 (1)) 5 (0)) 6 (1)) 7 (1)) 8 (0)) 9 (0)))), (q129_81, .inl (cI, 10, .inl (fun _ => 0)))] rfl ?_
  refine za_dup B dX8_init_131 rfl ?_
  refine za_iconst B (0) dX8_init_132 zc_iconst_0 ?_
  refine za_bipush B (64) dX8_init_133 zc_bipush_64 ?_
  refine za_iast B (q0 := 10) (t0 := 0) rfl rfl (by unfold vp_in; decide) [(h, .inr (8, [.int 0, .ref q8_5, .ref q17_9, .ref q26_13, .ref q35_17, .ref q44_21, .ref q53_25, .ref q62_29, .ref q69_33, .ref q77_37, .null, .int 0, .int 0, .int 0, .null, .int 0, .int 0, .null, .int 0, .null, .null, .null, .int 0, .int 0])), (q8_5, .inl (cI, 1974, .inl (fun _ => 0))), (q17_9, .inl (cI, 1974, .inl (fun _ => 0))), (q26_13, .inl (cI, 3948, .inl (fun _ => 0))), (q35_17, .inl (cI, 10000, .inl (fun _ => 0))), (q44_21, .inl (cZ, 10000, .inl (fun _ => 0))), (q53_25, .inl (cI, 20000, .inl (fun _ => 0))), (q62_29, .inl (cZ, 20000, .inl (fun _ => 0))), (q69_33, .inl (cZ, 2, .inl (fun _ => 0))), (q77_37, .inl (cI, 10, .inl (upd (upd (upd (upd (upd (upd (upd (upd (upd (upd (fun _ => 0) 0 (4)) 1 (1)) 2 (1)) 3 (1)) 4 (1)) 5 (0)) 6 (1)) 7 (1)) 8 (0)) 9 (0)))), (q129_81, .inl (cI, 10, .inl (upd (fun _ => 0) 0 (64))))] rfl dX8_init_135 ?_
  refine za_dup B dX8_init_136 rfl ?_
  refine za_iconst B (1) dX8_init_137 zc_iconst_1 ?_
  refine za_iconst B (4) dX8_init_138 zc_iconst_4 ?_
  refine za_iast B (q0 := 10) (t0 := 0) rfl rfl (by unfold vp_in; decide) [(h, .inr (8, [.int 0, .ref q8_5, .ref q17_9, .ref q26_13, .ref q35_17, .ref q44_21, .ref q53_25, .ref q62_29, .ref q69_33, .ref q77_37, .null, .int 0, .int 0, .int 0, .null, .int 0, .int 0, .null, .int 0, .null, .null, .null, .int 0, .int 0])), (q8_5, .inl (cI, 1974, .inl (fun _ => 0))), (q17_9, .inl (cI, 1974, .inl (fun _ => 0))), (q26_13, .inl (cI, 3948, .inl (fun _ => 0))), (q35_17, .inl (cI, 10000, .inl (fun _ => 0))), (q44_21, .inl (cZ, 10000, .inl (fun _ => 0))), (q53_25, .inl (cI, 20000, .inl (fun _ => 0))), (q62_29, .inl (cZ, 20000, .inl (fun _ => 0))), (q69_33, .inl (cZ, 2, .inl (fun _ => 0))), (q77_37, .inl (cI, 10, .inl (upd (upd (upd (upd (upd (upd (upd (upd (upd (upd (fun _ => 0) 0 (4)) 1 (1)) 2 (1)) 3 (1)) 4 (1)) 5 (0)) 6 (1)) 7 (1)) 8 (0)) 9 (0)))), (q129_81, .inl (cI, 10, .inl (upd (upd (fun _ => 0) 0 (64)) 1 (4))))] rfl dX8_init_139 ?_
  refine za_dup B dX8_init_140 rfl ?_
  refine za_iconst B (2) dX8_init_141 zc_iconst_2 ?_
  refine za_bipush B (8) dX8_init_142 zc_bipush_8 ?_
  refine za_iast B (q0 := 10) (t0 := 0) rfl rfl (by unfold vp_in; decide) [(h, .inr (8, [.int 0, .ref q8_5, .ref q17_9, .ref q26_13, .ref q35_17, .ref q44_21, .ref q53_25, .ref q62_29, .ref q69_33, .ref q77_37, .null, .int 0, .int 0, .int 0, .null, .int 0, .int 0, .null, .int 0, .null, .null, .null, .int 0, .int 0])), (q8_5, .inl (cI, 1974, .inl (fun _ => 0))), (q17_9, .inl (cI, 1974, .inl (fun _ => 0))), (q26_13, .inl (cI, 3948, .inl (fun _ => 0))), (q35_17, .inl (cI, 10000, .inl (fun _ => 0))), (q44_21, .inl (cZ, 10000, .inl (fun _ => 0))), (q53_25, .inl (cI, 20000, .inl (fun _ => 0))), (q62_29, .inl (cZ, 20000, .inl (fun _ => 0))), (q69_33, .inl (cZ, 2, .inl (fun _ => 0))), (q77_37, .inl (cI, 10, .inl (upd (upd (upd (upd (upd (upd (upd (upd (upd (upd (fun _ => 0) 0 (4)) 1 (1)) 2 (1)) 3 (1)) 4 (1)) 5 (0)) 6 (1)) 7 (1)) 8 (0)) 9 (0)))), (q129_81, .inl (cI, 10, .inl (upd (upd (upd (fun _ => 0) 0 (64)) 1 (4)) 2 (8))))] rfl dX8_init_144 ?_
  refine za_dup B dX8_init_145 rfl ?_
  refine za_iconst B (3) dX8_init_146 zc_iconst_3 ?_
  refine za_bipush B (32) dX8_init_147 zc_bipush_32 ?_
  refine za_iast B (q0 := 10) (t0 := 0) rfl rfl (by unfold vp_in; decide) [(h, .inr (8, [.int 0, .ref q8_5, .ref q17_9, .ref q26_13, .ref q35_17, .ref q44_21, .ref q53_25, .ref q62_29, .ref q69_33, .ref q77_37, .null, .int 0, .int 0, .int 0, .null, .int 0, .int 0, .null, .int 0, .null, .null, .null, .int 0, .int 0])), (q8_5, .inl (cI, 1974, .inl (fun _ => 0))), (q17_9, .inl (cI, 1974, .inl (fun _ => 0))), (q26_13, .inl (cI, 3948, .inl (fun _ => 0))), (q35_17, .inl (cI, 10000, .inl (fun _ => 0))), (q44_21, .inl (cZ, 10000, .inl (fun _ => 0))), (q53_25, .inl (cI, 20000, .inl (fun _ => 0))), (q62_29, .inl (cZ, 20000, .inl (fun _ => 0))), (q69_33, .inl (cZ, 2, .inl (fun _ => 0))), (q77_37, .inl (cI, 10, .inl (upd (upd (upd (upd (upd (upd (upd (upd (upd (upd (fun _ => 0) 0 (4)) 1 (1)) 2 (1)) 3 (1)) 4 (1)) 5 (0)) 6 (1)) 7 (1)) 8 (0)) 9 (0)))), (q129_81, .inl (cI, 10, .inl (upd (upd (upd (upd (fun _ => 0) 0 (64)) 1 (4)) 2 (8)) 3 (32))))] rfl dX8_init_149 ?_
  refine za_dup B dX8_init_150 rfl ?_
  refine za_iconst B (4) dX8_init_151 zc_iconst_4 ?_
  refine za_sipush B (200) dX8_init_152 zc_sipush_200 ?_
  refine za_iast B (q0 := 10) (t0 := 0) rfl rfl (by unfold vp_in; decide) [(h, .inr (8, [.int 0, .ref q8_5, .ref q17_9, .ref q26_13, .ref q35_17, .ref q44_21, .ref q53_25, .ref q62_29, .ref q69_33, .ref q77_37, .null, .int 0, .int 0, .int 0, .null, .int 0, .int 0, .null, .int 0, .null, .null, .null, .int 0, .int 0])), (q8_5, .inl (cI, 1974, .inl (fun _ => 0))), (q17_9, .inl (cI, 1974, .inl (fun _ => 0))), (q26_13, .inl (cI, 3948, .inl (fun _ => 0))), (q35_17, .inl (cI, 10000, .inl (fun _ => 0))), (q44_21, .inl (cZ, 10000, .inl (fun _ => 0))), (q53_25, .inl (cI, 20000, .inl (fun _ => 0))), (q62_29, .inl (cZ, 20000, .inl (fun _ => 0))), (q69_33, .inl (cZ, 2, .inl (fun _ => 0))), (q77_37, .inl (cI, 10, .inl (upd (upd (upd (upd (upd (upd (upd (upd (upd (upd (fun _ => 0) 0 (4)) 1 (1)) 2 (1)) 3 (1)) 4 (1)) 5 (0)) 6 (1)) 7 (1)) 8 (0)) 9 (0)))), (q129_81, .inl (cI, 10, .inl (upd (upd (upd (upd (upd (fun _ => 0) 0 (64)) 1 (4)) 2 (8)) 3 (32)) 4 (200))))] rfl dX8_init_155 ?_
  refine za_dup B dX8_init_156 rfl ?_
  refine za_iconst B (5) dX8_init_157 zc_iconst_5 ?_
  refine za_bipush B (100) dX8_init_158 zc_bipush_100 ?_
  refine za_iast B (q0 := 10) (t0 := 0) rfl rfl (by unfold vp_in; decide) [(h, .inr (8, [.int 0, .ref q8_5, .ref q17_9, .ref q26_13, .ref q35_17, .ref q44_21, .ref q53_25, .ref q62_29, .ref q69_33, .ref q77_37, .null, .int 0, .int 0, .int 0, .null, .int 0, .int 0, .null, .int 0, .null, .null, .null, .int 0, .int 0])), (q8_5, .inl (cI, 1974, .inl (fun _ => 0))), (q17_9, .inl (cI, 1974, .inl (fun _ => 0))), (q26_13, .inl (cI, 3948, .inl (fun _ => 0))), (q35_17, .inl (cI, 10000, .inl (fun _ => 0))), (q44_21, .inl (cZ, 10000, .inl (fun _ => 0))), (q53_25, .inl (cI, 20000, .inl (fun _ => 0))), (q62_29, .inl (cZ, 20000, .inl (fun _ => 0))), (q69_33, .inl (cZ, 2, .inl (fun _ => 0))), (q77_37, .inl (cI, 10, .inl (upd (upd (upd (upd (upd (upd (upd (upd (upd (upd (fun _ => 0) 0 (4)) 1 (1)) 2 (1)) 3 (1)) 4 (1)) 5 (0)) 6 (1)) 7 (1)) 8 (0)) 9 (0)))), (q129_81, .inl (cI, 10, .inl (upd (upd (upd (upd (upd (upd (fun _ => 0) 0 (64)) 1 (4)) 2 (8)) 3 (32)) 4 (200)) 5 (100))))] rfl dX8_init_160 ?_
  refine za_dup B dX8_init_161 rfl ?_
  refine za_bipush B (6) dX8_init_162 zc_bipush_6 ?_
  refine za_bipush B (6) dX8_init_164 zc_bipush_6 ?_
  refine za_iast B (q0 := 10) (t0 := 0) rfl rfl (by unfold vp_in; decide) [(h, .inr (8, [.int 0, .ref q8_5, .ref q17_9, .ref q26_13, .ref q35_17, .ref q44_21, .ref q53_25, .ref q62_29, .ref q69_33, .ref q77_37, .null, .int 0, .int 0, .int 0, .null, .int 0, .int 0, .null, .int 0, .null, .null, .null, .int 0, .int 0])), (q8_5, .inl (cI, 1974, .inl (fun _ => 0))), (q17_9, .inl (cI, 1974, .inl (fun _ => 0))), (q26_13, .inl (cI, 3948, .inl (fun _ => 0))), (q35_17, .inl (cI, 10000, .inl (fun _ => 0))), (q44_21, .inl (cZ, 10000, .inl (fun _ => 0))), (q53_25, .inl (cI, 20000, .inl (fun _ => 0))), (q62_29, .inl (cZ, 20000, .inl (fun _ => 0))), (q69_33, .inl (cZ, 2, .inl (fun _ => 0))), (q77_37, .inl (cI, 10, .inl (upd (upd (upd (upd (upd (upd (upd (upd (upd (upd (fun _ => 0) 0 (4)) 1 (1)) 2 (1)) 3 (1)) 4 (1)) 5 (0)) 6 (1)) 7 (1)) 8 (0)) 9 (0)))), (q129_81, .inl (cI, 10, .inl (upd (upd (upd (upd (upd (upd (upd (fun _ => 0) 0 (64)) 1 (4)) 2 (8)) 3 (32)) 4 (200)) 5 (100)) 6 (6))))] rfl dX8_init_166 ?_
  refine za_dup B dX8_init_167 rfl ?_
  refine za_bipush B (7) dX8_init_168 zc_bipush_7 ?_
  refine za_sipush B (10000) dX8_init_170 zc_sipush_10000 ?_
  refine za_iast B (q0 := 10) (t0 := 0) rfl rfl (by unfold vp_in; decide) [(h, .inr (8, [.int 0, .ref q8_5, .ref q17_9, .ref q26_13, .ref q35_17, .ref q44_21, .ref q53_25, .ref q62_29, .ref q69_33, .ref q77_37, .null, .int 0, .int 0, .int 0, .null, .int 0, .int 0, .null, .int 0, .null, .null, .null, .int 0, .int 0])), (q8_5, .inl (cI, 1974, .inl (fun _ => 0))), (q17_9, .inl (cI, 1974, .inl (fun _ => 0))), (q26_13, .inl (cI, 3948, .inl (fun _ => 0))), (q35_17, .inl (cI, 10000, .inl (fun _ => 0))), (q44_21, .inl (cZ, 10000, .inl (fun _ => 0))), (q53_25, .inl (cI, 20000, .inl (fun _ => 0))), (q62_29, .inl (cZ, 20000, .inl (fun _ => 0))), (q69_33, .inl (cZ, 2, .inl (fun _ => 0))), (q77_37, .inl (cI, 10, .inl (upd (upd (upd (upd (upd (upd (upd (upd (upd (upd (fun _ => 0) 0 (4)) 1 (1)) 2 (1)) 3 (1)) 4 (1)) 5 (0)) 6 (1)) 7 (1)) 8 (0)) 9 (0)))), (q129_81, .inl (cI, 10, .inl (upd (upd (upd (upd (upd (upd (upd (upd (fun _ => 0) 0 (64)) 1 (4)) 2 (8)) 3 (32)) 4 (200)) 5 (100)) 6 (6)) 7 (10000))))] rfl dX8_init_173 ?_
  refine za_dup B dX8_init_174 rfl ?_
  refine za_bipush B (8) dX8_init_175 zc_bipush_8 ?_
  refine za_iconst B (2) dX8_init_177 zc_iconst_2 ?_
  refine za_iast B (q0 := 10) (t0 := 0) rfl rfl (by unfold vp_in; decide) [(h, .inr (8, [.int 0, .ref q8_5, .ref q17_9, .ref q26_13, .ref q35_17, .ref q44_21, .ref q53_25, .ref q62_29, .ref q69_33, .ref q77_37, .null, .int 0, .int 0, .int 0, .null, .int 0, .int 0, .null, .int 0, .null, .null, .null, .int 0, .int 0])), (q8_5, .inl (cI, 1974, .inl (fun _ => 0))), (q17_9, .inl (cI, 1974, .inl (fun _ => 0))), (q26_13, .inl (cI, 3948, .inl (fun _ => 0))), (q35_17, .inl (cI, 10000, .inl (fun _ => 0))), (q44_21, .inl (cZ, 10000, .inl (fun _ => 0))), (q53_25, .inl (cI, 20000, .inl (fun _ => 0))), (q62_29, .inl (cZ, 20000, .inl (fun _ => 0))), (q69_33, .inl (cZ, 2, .inl (fun _ => 0))), (q77_37, .inl (cI, 10, .inl (upd (upd (upd (upd (upd (upd (upd (upd (upd (upd (fun _ => 0) 0 (4)) 1 (1)) 2 (1)) 3 (1)) 4 (1)) 5 (0)) 6 (1)) 7 (1)) 8 (0)) 9 (0)))), (q129_81, .inl (cI, 10, .inl (upd (upd (upd (upd (upd (upd (upd (upd (upd (fun _ => 0) 0 (64)) 1 (4)) 2 (8)) 3 (32)) 4 (200)) 5 (100)) 6 (6)) 7 (10000)) 8 (2))))] rfl dX8_init_178 ?_
  refine za_dup B dX8_init_179 rfl ?_
  refine za_bipush B (9) dX8_init_180 zc_bipush_9 ?_
  refine za_bipush B (8) dX8_init_182 zc_bipush_8 ?_
  refine za_iast B (q0 := 10) (t0 := 0) rfl rfl (by unfold vp_in; decide) [(h, .inr (8, [.int 0, .ref q8_5, .ref q17_9, .ref q26_13, .ref q35_17, .ref q44_21, .ref q53_25, .ref q62_29, .ref q69_33, .ref q77_37, .null, .int 0, .int 0, .int 0, .null, .int 0, .int 0, .null, .int 0, .null, .null, .null, .int 0, .int 0])), (q8_5, .inl (cI, 1974, .inl (fun _ => 0))), (q17_9, .inl (cI, 1974, .inl (fun _ => 0))), (q26_13, .inl (cI, 3948, .inl (fun _ => 0))), (q35_17, .inl (cI, 10000, .inl (fun _ => 0))), (q44_21, .inl (cZ, 10000, .inl (fun _ => 0))), (q53_25, .inl (cI, 20000, .inl (fun _ => 0))), (q62_29, .inl (cZ, 20000, .inl (fun _ => 0))), (q69_33, .inl (cZ, 2, .inl (fun _ => 0))), (q77_37, .inl (cI, 10, .inl (upd (upd (upd (upd (upd (upd (upd (upd (upd (upd (fun _ => 0) 0 (4)) 1 (1)) 2 (1)) 3 (1)) 4 (1)) 5 (0)) 6 (1)) 7 (1)) 8 (0)) 9 (0)))), (q129_81, .inl (cI, 10, .inl (upd (upd (upd (upd (upd (upd (upd (upd (upd (upd (fun _ => 0) 0 (64)) 1 (4)) 2 (8)) 3 (32)) 4 (200)) 5 (100)) 6 (6)) 7 (10000)) 8 (2)) 9 (8))))] rfl dX8_init_184 ?_
  refine za_putF B hnm (q0 := 0) (j := 10) iX8 tyX8 tyX8_ok nmX8 rfl rfl (Nat.le_of_ble_eq_true rfl) kw_925 rfl rfl (tyX8_ok 10 (Nat.le_of_ble_eq_true rfl)) rfl rfl (Nat.le_of_ble_eq_true rfl) [(h, .inr (8, [.int 0, .ref q8_5, .ref q17_9, .ref q26_13, .ref q35_17, .ref q44_21, .ref q53_25, .ref q62_29, .ref q69_33, .ref q77_37, .ref q129_81, .int 0, .int 0, .int 0, .null, .int 0, .int 0, .null, .int 0, .null, .null, .null, .int 0, .int 0])), (q8_5, .inl (cI, 1974, .inl (fun _ => 0))), (q17_9, .inl (cI, 1974, .inl (fun _ => 0))), (q26_13, .inl (cI, 3948, .inl (fun _ => 0))), (q35_17, .inl (cI, 10000, .inl (fun _ => 0))), (q44_21, .inl (cZ, 10000, .inl (fun _ => 0))), (q53_25, .inl (cI, 20000, .inl (fun _ => 0))), (q62_29, .inl (cZ, 20000, .inl (fun _ => 0))), (q69_33, .inl (cZ, 2, .inl (fun _ => 0))), (q77_37, .inl (cI, 10, .inl (upd (upd (upd (upd (upd (upd (upd (upd (upd (upd (fun _ => 0) 0 (4)) 1 (1)) 2 (1)) 3 (1)) 4 (1)) 5 (0)) 6 (1)) 7 (1)) 8 (0)) 9 (0)))), (q129_81, .inl (cI, 10, .inl (upd (upd (upd (upd (upd (upd (upd (upd (upd (upd (fun _ => 0) 0 (64)) 1 (4)) 2 (8)) 3 (32)) 4 (200)) 5 (100)) 6 (6)) 7 (10000)) 8 (2)) 9 (8))))] rfl dX8_init_185 ?_
  refine za_aload_n B dX8_init_188 0 rfl rfl ?_
  refine za_bipush B (64) dX8_init_189 zc_bipush_64 ?_
  refine za_newa B (t0 := 0) (N := 64) kAcI rfl (Or.inl rfl) rfl (by decide) (by decide) (Nat.le_of_ble_eq_true rfl) (Nat.le_of_ble_eq_true rfl) (Nat.le_of_ble_eq_true rfl) dX8_init_191 (fun q191_125 => ?_)
  refine za_ws [(h, .inr (8, [.int 0, .ref q8_5, .ref q17_9, .ref q26_13, .ref q35_17, .ref q44_21, .ref q53_25, .ref q62_29, .ref q69_33, .ref q77_37, .ref q129_81, .int 0, .int 0, .int 0, .null, .int 0, .int 0, .null, .int 0, .null, .null, .null, .int 0, .int 0])), (q8_5, .inl (cI, 1974, .inl (fun _ => 0))), (q17_9, .inl (cI, 1974, .inl (fun _ => 0))), (q26_13, .inl (cI, 3948, .inl (fun _ => 0))), (q35_17, .inl (cI, 10000, .inl (fun _ => 0))), (q44_21, .inl (cZ, 10000, .inl (fun _ => 0))), (q53_25, .inl (cI, 20000, .inl (fun _ => 0))), (q62_29, .inl (cZ, 20000, .inl (fun _ => 0))), (q69_33, .inl (cZ, 2, .inl (fun _ => 0))), (q77_37, .inl (cI, 10, .inl (upd (upd (upd (upd (upd (upd (upd (upd (upd (upd (fun _ => 0) 0 (4)) 1 (1)) 2 (1)) 3 (1)) 4 (1)) 5 (0)) 6 (1)) 7 (1)) 8 (0)) 9 (0)))), (q129_81, .inl (cI, 10, .inl (upd (upd (upd (upd (upd (upd (upd (upd (upd (upd (fun _ => 0) 0 (64)) 1 (4)) 2 (8)) 3 (32)) 4 (200)) 5 (100)) 6 (6)) 7 (10000)) 8 (2)) 9 (8)))), (q191_125, .inl (cI, 64, .inl (fun _ => 0)))] rfl ?_
  refine za_putF B hnm (q0 := 0) (j := 14) iX8 tyX8 tyX8_ok nmX8 rfl rfl (Nat.le_of_ble_eq_true rfl) kw_929 rfl rfl (tyX8_ok 14 (Nat.le_of_ble_eq_true rfl)) rfl rfl (Nat.le_of_ble_eq_true rfl) [(h, .inr (8, [.int 0, .ref q8_5, .ref q17_9, .ref q26_13, .ref q35_17, .ref q44_21, .ref q53_25, .ref q62_29, .ref q69_33, .ref q77_37, .ref q129_81, .int 0, .int 0, .int 0, .ref q191_125, .int 0, .int 0, .null, .int 0, .null, .null, .null, .int 0, .int 0])), (q8_5, .inl (cI, 1974, .inl (fun _ => 0))), (q17_9, .inl (cI, 1974, .inl (fun _ => 0))), (q26_13, .inl (cI, 3948, .inl (fun _ => 0))), (q35_17, .inl (cI, 10000, .inl (fun _ => 0))), (q44_21, .inl (cZ, 10000, .inl (fun _ => 0))), (q53_25, .inl (cI, 20000, .inl (fun _ => 0))), (q62_29, .inl (cZ, 20000, .inl (fun _ => 0))), (q69_33, .inl (cZ, 2, .inl (fun _ => 0))), (q77_37, .inl (cI, 10, .inl (upd (upd (upd (upd (upd (upd (upd (upd (upd (upd (fun _ => 0) 0 (4)) 1 (1)) 2 (1)) 3 (1)) 4 (1)) 5 (0)) 6 (1)) 7 (1)) 8 (0)) 9 (0)))), (q129_81, .inl (cI, 10, .inl (upd (upd (upd (upd (upd (upd (upd (upd (upd (upd (fun _ => 0) 0 (64)) 1 (4)) 2 (8)) 3 (32)) 4 (200)) 5 (100)) 6 (6)) 7 (10000)) 8 (2)) 9 (8)))), (q191_125, .inl (cI, 64, .inl (fun _ => 0)))] rfl dX8_init_193 ?_
  refine za_aload_n B dX8_init_196 0 rfl rfl ?_
  refine za_sipush B (400) dX8_init_197 zc_sipush_400 ?_
  refine za_newa B (t0 := 0) (N := 400) kAcI rfl (Or.inl rfl) rfl (by decide) (by decide) (Nat.le_of_ble_eq_true rfl) (Nat.le_of_ble_eq_true rfl) (Nat.le_of_ble_eq_true rfl) dX8_init_200 (fun q200_129 => ?_)
  refine za_ws [(h, .inr (8, [.int 0, .ref q8_5, .ref q17_9, .ref q26_13, .ref q35_17, .ref q44_21, .ref q53_25, .ref q62_29, .ref q69_33, .ref q77_37, .ref q129_81, .int 0, .int 0, .int 0, .ref q191_125, .int 0, .int 0, .null, .int 0, .null, .null, .null, .int 0, .int 0])), (q8_5, .inl (cI, 1974, .inl (fun _ => 0))), (q17_9, .inl (cI, 1974, .inl (fun _ => 0))), (q26_13, .inl (cI, 3948, .inl (fun _ => 0))), (q35_17, .inl (cI, 10000, .inl (fun _ => 0))), (q44_21, .inl (cZ, 10000, .inl (fun _ => 0))), (q53_25, .inl (cI, 20000, .inl (fun _ => 0))), (q62_29, .inl (cZ, 20000, .inl (fun _ => 0))), (q69_33, .inl (cZ, 2, .inl (fun _ => 0))), (q77_37, .inl (cI, 10, .inl (upd (upd (upd (upd (upd (upd (upd (upd (upd (upd (fun _ => 0) 0 (4)) 1 (1)) 2 (1)) 3 (1)) 4 (1)) 5 (0)) 6 (1)) 7 (1)) 8 (0)) 9 (0)))), (q129_81, .inl (cI, 10, .inl (upd (upd (upd (upd (upd (upd (upd (upd (upd (upd (fun _ => 0) 0 (64)) 1 (4)) 2 (8)) 3 (32)) 4 (200)) 5 (100)) 6 (6)) 7 (10000)) 8 (2)) 9 (8)))), (q191_125, .inl (cI, 64, .inl (fun _ => 0))), (q200_129, .inl (cI, 400, .inl (fun _ => 0)))] rfl ?_
  refine za_putF B hnm (q0 := 0) (j := 17) iX8 tyX8 tyX8_ok nmX8 rfl rfl (Nat.le_of_ble_eq_true rfl) kw_932 rfl rfl (tyX8_ok 17 (Nat.le_of_ble_eq_true rfl)) rfl rfl (Nat.le_of_ble_eq_true rfl) [(h, .inr (8, [.int 0, .ref q8_5, .ref q17_9, .ref q26_13, .ref q35_17, .ref q44_21, .ref q53_25, .ref q62_29, .ref q69_33, .ref q77_37, .ref q129_81, .int 0, .int 0, .int 0, .ref q191_125, .int 0, .int 0, .ref q200_129, .int 0, .null, .null, .null, .int 0, .int 0])), (q8_5, .inl (cI, 1974, .inl (fun _ => 0))), (q17_9, .inl (cI, 1974, .inl (fun _ => 0))), (q26_13, .inl (cI, 3948, .inl (fun _ => 0))), (q35_17, .inl (cI, 10000, .inl (fun _ => 0))), (q44_21, .inl (cZ, 10000, .inl (fun _ => 0))), (q53_25, .inl (cI, 20000, .inl (fun _ => 0))), (q62_29, .inl (cZ, 20000, .inl (fun _ => 0))), (q69_33, .inl (cZ, 2, .inl (fun _ => 0))), (q77_37, .inl (cI, 10, .inl (upd (upd (upd (upd (upd (upd (upd (upd (upd (upd (fun _ => 0) 0 (4)) 1 (1)) 2 (1)) 3 (1)) 4 (1)) 5 (0)) 6 (1)) 7 (1)) 8 (0)) 9 (0)))), (q129_81, .inl (cI, 10, .inl (upd (upd (upd (upd (upd (upd (upd (upd (upd (upd (fun _ => 0) 0 (64)) 1 (4)) 2 (8)) 3 (32)) 4 (200)) 5 (100)) 6 (6)) 7 (10000)) 8 (2)) 9 (8)))), (q191_125, .inl (cI, 64, .inl (fun _ => 0))), (q200_129, .inl (cI, 400, .inl (fun _ => 0)))] rfl dX8_init_202 ?_
  refine za_aload_n B dX8_init_205 0 rfl rfl ?_
  refine za_bipush B (64) dX8_init_206 zc_bipush_64 ?_
  refine za_newa B (t0 := 0) (N := 64) kAcI rfl (Or.inl rfl) rfl (by decide) (by decide) (Nat.le_of_ble_eq_true rfl) (Nat.le_of_ble_eq_true rfl) (Nat.le_of_ble_eq_true rfl) dX8_init_208 (fun q208_133 => ?_)
  refine za_ws [(h, .inr (8, [.int 0, .ref q8_5, .ref q17_9, .ref q26_13, .ref q35_17, .ref q44_21, .ref q53_25, .ref q62_29, .ref q69_33, .ref q77_37, .ref q129_81, .int 0, .int 0, .int 0, .ref q191_125, .int 0, .int 0, .ref q200_129, .int 0, .null, .null, .null, .int 0, .int 0])), (q8_5, .inl (cI, 1974, .inl (fun _ => 0))), (q17_9, .inl (cI, 1974, .inl (fun _ => 0))), (q26_13, .inl (cI, 3948, .inl (fun _ => 0))), (q35_17, .inl (cI, 10000, .inl (fun _ => 0))), (q44_21, .inl (cZ, 10000, .inl (fun _ => 0))), (q53_25, .inl (cI, 20000, .inl (fun _ => 0))), (q62_29, .inl (cZ, 20000, .inl (fun _ => 0))), (q69_33, .inl (cZ, 2, .inl (fun _ => 0))), (q77_37, .inl (cI, 10, .inl (upd (upd (upd (upd (upd (upd (upd (upd (upd (upd (fun _ => 0) 0 (4)) 1 (1)) 2 (1)) 3 (1)) 4 (1)) 5 (0)) 6 (1)) 7 (1)) 8 (0)) 9 (0)))), (q129_81, .inl (cI, 10, .inl (upd (upd (upd (upd (upd (upd (upd (upd (upd (upd (fun _ => 0) 0 (64)) 1 (4)) 2 (8)) 3 (32)) 4 (200)) 5 (100)) 6 (6)) 7 (10000)) 8 (2)) 9 (8)))), (q191_125, .inl (cI, 64, .inl (fun _ => 0))), (q200_129, .inl (cI, 400, .inl (fun _ => 0))), (q208_133, .inl (cI, 64, .inl (fun _ => 0)))] rfl ?_
  refine za_putF B hnm (q0 := 0) (j := 19) iX8 tyX8 tyX8_ok nmX8 rfl rfl (Nat.le_of_ble_eq_true rfl) kw_934 rfl rfl (tyX8_ok 19 (Nat.le_of_ble_eq_true rfl)) rfl rfl (Nat.le_of_ble_eq_true rfl) [(h, .inr (8, [.int 0, .ref q8_5, .ref q17_9, .ref q26_13, .ref q35_17, .ref q44_21, .ref q53_25, .ref q62_29, .ref q69_33, .ref q77_37, .ref q129_81, .int 0, .int 0, .int 0, .ref q191_125, .int 0, .int 0, .ref q200_129, .int 0, .ref q208_133, .null, .null, .int 0, .int 0])), (q8_5, .inl (cI, 1974, .inl (fun _ => 0))), (q17_9, .inl (cI, 1974, .inl (fun _ => 0))), (q26_13, .inl (cI, 3948, .inl (fun _ => 0))), (q35_17, .inl (cI, 10000, .inl (fun _ => 0))), (q44_21, .inl (cZ, 10000, .inl (fun _ => 0))), (q53_25, .inl (cI, 20000, .inl (fun _ => 0))), (q62_29, .inl (cZ, 20000, .inl (fun _ => 0))), (q69_33, .inl (cZ, 2, .inl (fun _ => 0))), (q77_37, .inl (cI, 10, .inl (upd (upd (upd (upd (upd (upd (upd (upd (upd (upd (fun _ => 0) 0 (4)) 1 (1)) 2 (1)) 3 (1)) 4 (1)) 5 (0)) 6 (1)) 7 (1)) 8 (0)) 9 (0)))), (q129_81, .inl (cI, 10, .inl (upd (upd (upd (upd (upd (upd (upd (upd (upd (upd (fun _ => 0) 0 (64)) 1 (4)) 2 (8)) 3 (32)) 4 (200)) 5 (100)) 6 (6)) 7 (10000)) 8 (2)) 9 (8)))), (q191_125, .inl (cI, 64, .inl (fun _ => 0))), (q200_129, .inl (cI, 400, .inl (fun _ => 0))), (q208_133, .inl (cI, 64, .inl (fun _ => 0)))] rfl dX8_init_210 ?_
  refine za_aload_n B dX8_init_213 0 rfl rfl ?_
  refine za_bipush B (64) dX8_init_214 zc_bipush_64 ?_
  refine za_newa B (t0 := 0) (N := 64) kAcI rfl (Or.inl rfl) rfl (by decide) (by decide) (Nat.le_of_ble_eq_true rfl) (Nat.le_of_ble_eq_true rfl) (Nat.le_of_ble_eq_true rfl) dX8_init_216 (fun q216_137 => ?_)
  refine za_ws [(h, .inr (8, [.int 0, .ref q8_5, .ref q17_9, .ref q26_13, .ref q35_17, .ref q44_21, .ref q53_25, .ref q62_29, .ref q69_33, .ref q77_37, .ref q129_81, .int 0, .int 0, .int 0, .ref q191_125, .int 0, .int 0, .ref q200_129, .int 0, .ref q208_133, .null, .null, .int 0, .int 0])), (q8_5, .inl (cI, 1974, .inl (fun _ => 0))), (q17_9, .inl (cI, 1974, .inl (fun _ => 0))), (q26_13, .inl (cI, 3948, .inl (fun _ => 0))), (q35_17, .inl (cI, 10000, .inl (fun _ => 0))), (q44_21, .inl (cZ, 10000, .inl (fun _ => 0))), (q53_25, .inl (cI, 20000, .inl (fun _ => 0))), (q62_29, .inl (cZ, 20000, .inl (fun _ => 0))), (q69_33, .inl (cZ, 2, .inl (fun _ => 0))), (q77_37, .inl (cI, 10, .inl (upd (upd (upd (upd (upd (upd (upd (upd (upd (upd (fun _ => 0) 0 (4)) 1 (1)) 2 (1)) 3 (1)) 4 (1)) 5 (0)) 6 (1)) 7 (1)) 8 (0)) 9 (0)))), (q129_81, .inl (cI, 10, .inl (upd (upd (upd (upd (upd (upd (upd (upd (upd (upd (fun _ => 0) 0 (64)) 1 (4)) 2 (8)) 3 (32)) 4 (200)) 5 (100)) 6 (6)) 7 (10000)) 8 (2)) 9 (8)))), (q191_125, .inl (cI, 64, .inl (fun _ => 0))), (q200_129, .inl (cI, 400, .inl (fun _ => 0))), (q208_133, .inl (cI, 64, .inl (fun _ => 0))), (q216_137, .inl (cI, 64, .inl (fun _ => 0)))] rfl ?_
  refine za_putF B hnm (q0 := 0) (j := 20) iX8 tyX8 tyX8_ok nmX8 rfl rfl (Nat.le_of_ble_eq_true rfl) kw_935 rfl rfl (tyX8_ok 20 (Nat.le_of_ble_eq_true rfl)) rfl rfl (Nat.le_of_ble_eq_true rfl) [(h, .inr (8, [.int 0, .ref q8_5, .ref q17_9, .ref q26_13, .ref q35_17, .ref q44_21, .ref q53_25, .ref q62_29, .ref q69_33, .ref q77_37, .ref q129_81, .int 0, .int 0, .int 0, .ref q191_125, .int 0, .int 0, .ref q200_129, .int 0, .ref q208_133, .ref q216_137, .null, .int 0, .int 0])), (q8_5, .inl (cI, 1974, .inl (fun _ => 0))), (q17_9, .inl (cI, 1974, .inl (fun _ => 0))), (q26_13, .inl (cI, 3948, .inl (fun _ => 0))), (q35_17, .inl (cI, 10000, .inl (fun _ => 0))), (q44_21, .inl (cZ, 10000, .inl (fun _ => 0))), (q53_25, .inl (cI, 20000, .inl (fun _ => 0))), (q62_29, .inl (cZ, 20000, .inl (fun _ => 0))), (q69_33, .inl (cZ, 2, .inl (fun _ => 0))), (q77_37, .inl (cI, 10, .inl (upd (upd (upd (upd (upd (upd (upd (upd (upd (upd (fun _ => 0) 0 (4)) 1 (1)) 2 (1)) 3 (1)) 4 (1)) 5 (0)) 6 (1)) 7 (1)) 8 (0)) 9 (0)))), (q129_81, .inl (cI, 10, .inl (upd (upd (upd (upd (upd (upd (upd (upd (upd (upd (fun _ => 0) 0 (64)) 1 (4)) 2 (8)) 3 (32)) 4 (200)) 5 (100)) 6 (6)) 7 (10000)) 8 (2)) 9 (8)))), (q191_125, .inl (cI, 64, .inl (fun _ => 0))), (q200_129, .inl (cI, 400, .inl (fun _ => 0))), (q208_133, .inl (cI, 64, .inl (fun _ => 0))), (q216_137, .inl (cI, 64, .inl (fun _ => 0)))] rfl dX8_init_218 ?_
  refine za_aload_n B dX8_init_221 0 rfl rfl ?_
  refine za_sipush B (10000) dX8_init_222 zc_sipush_10000 ?_
  refine za_newa B (t0 := 0) (N := 10000) kAcI rfl (Or.inl rfl) rfl (by decide) (by decide) (Nat.le_of_ble_eq_true rfl) (Nat.le_of_ble_eq_true rfl) (Nat.le_of_ble_eq_true rfl) dX8_init_225 (fun q225_141 => ?_)
  refine za_ws [(h, .inr (8, [.int 0, .ref q8_5, .ref q17_9, .ref q26_13, .ref q35_17, .ref q44_21, .ref q53_25, .ref q62_29, .ref q69_33, .ref q77_37, .ref q129_81, .int 0, .int 0, .int 0, .ref q191_125, .int 0, .int 0, .ref q200_129, .int 0, .ref q208_133, .ref q216_137, .null, .int 0, .int 0])), (q8_5, .inl (cI, 1974, .inl (fun _ => 0))), (q17_9, .inl (cI, 1974, .inl (fun _ => 0))), (q26_13, .inl (cI, 3948, .inl (fun _ => 0))), (q35_17, .inl (cI, 10000, .inl (fun _ => 0))), (q44_21, .inl (cZ, 10000, .inl (fun _ => 0))), (q53_25, .inl (cI, 20000, .inl (fun _ => 0))), (q62_29, .inl (cZ, 20000, .inl (fun _ => 0))), (q69_33, .inl (cZ, 2, .inl (fun _ => 0))), (q77_37, .inl (cI, 10, .inl (upd (upd (upd (upd (upd (upd (upd (upd (upd (upd (fun _ => 0) 0 (4)) 1 (1)) 2 (1)) 3 (1)) 4 (1)) 5 (0)) 6 (1)) 7 (1)) 8 (0)) 9 (0)))), (q129_81, .inl (cI, 10, .inl (upd (upd (upd (upd (upd (upd (upd (upd (upd (upd (fun _ => 0) 0 (64)) 1 (4)) 2 (8)) 3 (32)) 4 (200)) 5 (100)) 6 (6)) 7 (10000)) 8 (2)) 9 (8)))), (q191_125, .inl (cI, 64, .inl (fun _ => 0))), (q200_129, .inl (cI, 400, .inl (fun _ => 0))), (q208_133, .inl (cI, 64, .inl (fun _ => 0))), (q216_137, .inl (cI, 64, .inl (fun _ => 0))), (q225_141, .inl (cI, 10000, .inl (fun _ => 0)))] rfl ?_
  refine za_putF B hnm (q0 := 0) (j := 21) iX8 tyX8 tyX8_ok nmX8 rfl rfl (Nat.le_of_ble_eq_true rfl) kw_936 rfl rfl (tyX8_ok 21 (Nat.le_of_ble_eq_true rfl)) rfl rfl (Nat.le_of_ble_eq_true rfl) [(h, .inr (8, [.int 0, .ref q8_5, .ref q17_9, .ref q26_13, .ref q35_17, .ref q44_21, .ref q53_25, .ref q62_29, .ref q69_33, .ref q77_37, .ref q129_81, .int 0, .int 0, .int 0, .ref q191_125, .int 0, .int 0, .ref q200_129, .int 0, .ref q208_133, .ref q216_137, .ref q225_141, .int 0, .int 0])), (q8_5, .inl (cI, 1974, .inl (fun _ => 0))), (q17_9, .inl (cI, 1974, .inl (fun _ => 0))), (q26_13, .inl (cI, 3948, .inl (fun _ => 0))), (q35_17, .inl (cI, 10000, .inl (fun _ => 0))), (q44_21, .inl (cZ, 10000, .inl (fun _ => 0))), (q53_25, .inl (cI, 20000, .inl (fun _ => 0))), (q62_29, .inl (cZ, 20000, .inl (fun _ => 0))), (q69_33, .inl (cZ, 2, .inl (fun _ => 0))), (q77_37, .inl (cI, 10, .inl (upd (upd (upd (upd (upd (upd (upd (upd (upd (upd (fun _ => 0) 0 (4)) 1 (1)) 2 (1)) 3 (1)) 4 (1)) 5 (0)) 6 (1)) 7 (1)) 8 (0)) 9 (0)))), (q129_81, .inl (cI, 10, .inl (upd (upd (upd (upd (upd (upd (upd (upd (upd (upd (fun _ => 0) 0 (64)) 1 (4)) 2 (8)) 3 (32)) 4 (200)) 5 (100)) 6 (6)) 7 (10000)) 8 (2)) 9 (8)))), (q191_125, .inl (cI, 64, .inl (fun _ => 0))), (q200_129, .inl (cI, 400, .inl (fun _ => 0))), (q208_133, .inl (cI, 64, .inl (fun _ => 0))), (q216_137, .inl (cI, 64, .inl (fun _ => 0))), (q225_141, .inl (cI, 10000, .inl (fun _ => 0)))] rfl dX8_init_227 ?_
  refine za_aload_n B dX8_init_230 0 rfl rfl ?_
  refine za_get B (q0 := 0) (j := 1) iX8 rfl rfl (Nat.le_of_ble_eq_true rfl) kw_916 rfl dX8_init_231 ?_
  refine za_iconst B (0) dX8_init_234 zc_iconst_0 ?_
  refine za_bipush B (16) dX8_init_235 zc_bipush_16 ?_
  refine za_iast B (q0 := 1) (t0 := 0) rfl rfl (by unfold vp_in; decide) [(h, .inr (8, [.int 0, .ref q8_5, .ref q17_9, .ref q26_13, .ref q35_17, .ref q44_21, .ref q53_25, .ref q62_29, .ref q69_33, .ref q77_37, .ref q129_81, .int 0, .int 0, .int 0, .ref q191_125, .int 0, .int 0, .ref q200_129, .int 0, .ref q208_133, .ref q216_137, .ref q225_141, .int 0, .int 0])), (q8_5, .inl (cI, 1974, .inl (upd (fun _ => 0) 0 (16)))), (q17_9, .inl (cI, 1974, .inl (fun _ => 0))), (q26_13, .inl (cI, 3948, .inl (fun _ => 0))), (q35_17, .inl (cI, 10000, .inl (fun _ => 0))), (q44_21, .inl (cZ, 10000, .inl (fun _ => 0))), (q53_25, .inl (cI, 20000, .inl (fun _ => 0))), (q62_29, .inl (cZ, 20000, .inl (fun _ => 0))), (q69_33, .inl (cZ, 2, .inl (fun _ => 0))), (q77_37, .inl (cI, 10, .inl (upd (upd (upd (upd (upd (upd (upd (upd (upd (upd (fun _ => 0) 0 (4)) 1 (1)) 2 (1)) 3 (1)) 4 (1)) 5 (0)) 6 (1)) 7 (1)) 8 (0)) 9 (0)))), (q129_81, .inl (cI, 10, .inl (upd (upd (upd (upd (upd (upd (upd (upd (upd (upd (fun _ => 0) 0 (64)) 1 (4)) 2 (8)) 3 (32)) 4 (200)) 5 (100)) 6 (6)) 7 (10000)) 8 (2)) 9 (8)))), (q191_125, .inl (cI, 64, .inl (fun _ => 0))), (q200_129, .inl (cI, 400, .inl (fun _ => 0))), (q208_133, .inl (cI, 64, .inl (fun _ => 0))), (q216_137, .inl (cI, 64, .inl (fun _ => 0))), (q225_141, .inl (cI, 10000, .inl (fun _ => 0)))] rfl dX8_init_237 ?_
  refine za_aload_n B dX8_init_238 0 rfl rfl ?_
  refine za_get B (q0 := 0) (j := 1) iX8 rfl rfl (Nat.le_of_ble_eq_true rfl) kw_916 rfl dX8_init_239 ?_
  refine za_iconst B (1) dX8_init_242 zc_iconst_1 ?_
  refine za_iconst B (2) dX8_init_243 zc_iconst_2 ?_
  refine za_iast B (q0 := 1) (t0 := 0) rfl rfl (by unfold vp_in; decide) [(h, .inr (8, [.int 0, .ref q8_5, .ref q17_9, .ref q26_13, .ref q35_17, .ref q44_21, .ref q53_25, .ref q62_29, .ref q69_33, .ref q77_37, .ref q129_81, .int 0, .int 0, .int 0, .ref q191_125, .int 0, .int 0, .ref q200_129, .int 0, .ref q208_133, .ref q216_137, .ref q225_141, .int 0, .int 0])), (q8_5, .inl (cI, 1974, .inl (upd (upd (fun _ => 0) 0 (16)) 1 (2)))), (q17_9, .inl (cI, 1974, .inl (fun _ => 0))), (q26_13, .inl (cI, 3948, .inl (fun _ => 0))), (q35_17, .inl (cI, 10000, .inl (fun _ => 0))), (q44_21, .inl (cZ, 10000, .inl (fun _ => 0))), (q53_25, .inl (cI, 20000, .inl (fun _ => 0))), (q62_29, .inl (cZ, 20000, .inl (fun _ => 0))), (q69_33, .inl (cZ, 2, .inl (fun _ => 0))), (q77_37, .inl (cI, 10, .inl (upd (upd (upd (upd (upd (upd (upd (upd (upd (upd (fun _ => 0) 0 (4)) 1 (1)) 2 (1)) 3 (1)) 4 (1)) 5 (0)) 6 (1)) 7 (1)) 8 (0)) 9 (0)))), (q129_81, .inl (cI, 10, .inl (upd (upd (upd (upd (upd (upd (upd (upd (upd (upd (fun _ => 0) 0 (64)) 1 (4)) 2 (8)) 3 (32)) 4 (200)) 5 (100)) 6 (6)) 7 (10000)) 8 (2)) 9 (8)))), (q191_125, .inl (cI, 64, .inl (fun _ => 0))), (q200_129, .inl (cI, 400, .inl (fun _ => 0))), (q208_133, .inl (cI, 64, .inl (fun _ => 0))), (q216_137, .inl (cI, 64, .inl (fun _ => 0))), (q225_141, .inl (cI, 10000, .inl (fun _ => 0)))] rfl dX8_init_244 ?_
  refine za_aload_n B dX8_init_245 0 rfl rfl ?_
  refine za_get B (q0 := 0) (j := 1) iX8 rfl rfl (Nat.le_of_ble_eq_true rfl) kw_916 rfl dX8_init_246 ?_
  refine za_iconst B (2) dX8_init_249 zc_iconst_2 ?_
  refine za_iconst B (2) dX8_init_250 zc_iconst_2 ?_
  refine za_iast B (q0 := 1) (t0 := 0) rfl rfl (by unfold vp_in; decide) [(h, .inr (8, [.int 0, .ref q8_5, .ref q17_9, .ref q26_13, .ref q35_17, .ref q44_21, .ref q53_25, .ref q62_29, .ref q69_33, .ref q77_37, .ref q129_81, .int 0, .int 0, .int 0, .ref q191_125, .int 0, .int 0, .ref q200_129, .int 0, .ref q208_133, .ref q216_137, .ref q225_141, .int 0, .int 0])), (q8_5, .inl (cI, 1974, .inl (upd (upd (upd (fun _ => 0) 0 (16)) 1 (2)) 2 (2)))), (q17_9, .inl (cI, 1974, .inl (fun _ => 0))), (q26_13, .inl (cI, 3948, .inl (fun _ => 0))), (q35_17, .inl (cI, 10000, .inl (fun _ => 0))), (q44_21, .inl (cZ, 10000, .inl (fun _ => 0))), (q53_25, .inl (cI, 20000, .inl (fun _ => 0))), (q62_29, .inl (cZ, 20000, .inl (fun _ => 0))), (q69_33, .inl (cZ, 2, .inl (fun _ => 0))), (q77_37, .inl (cI, 10, .inl (upd (upd (upd (upd (upd (upd (upd (upd (upd (upd (fun _ => 0) 0 (4)) 1 (1)) 2 (1)) 3 (1)) 4 (1)) 5 (0)) 6 (1)) 7 (1)) 8 (0)) 9 (0)))), (q129_81, .inl (cI, 10, .inl (upd (upd (upd (upd (upd (upd (upd (upd (upd (upd (fun _ => 0) 0 (64)) 1 (4)) 2 (8)) 3 (32)) 4 (200)) 5 (100)) 6 (6)) 7 (10000)) 8 (2)) 9 (8)))), (q191_125, .inl (cI, 64, .inl (fun _ => 0))), (q200_129, .inl (cI, 400, .inl (fun _ => 0))), (q208_133, .inl (cI, 64, .inl (fun _ => 0))), (q216_137, .inl (cI, 64, .inl (fun _ => 0))), (q225_141, .inl (cI, 10000, .inl (fun _ => 0)))] rfl dX8_init_251 ?_
  refine za_aload_n B dX8_init_252 0 rfl rfl ?_
  refine za_get B (q0 := 0) (j := 1) iX8 rfl rfl (Nat.le_of_ble_eq_true rfl) kw_916 rfl dX8_init_253 ?_
  refine za_iconst B (3) dX8_init_256 zc_iconst_3 ?_
  refine za_bipush B (8) dX8_init_257 zc_bipush_8 ?_
  refine za_iast B (q0 := 1) (t0 := 0) rfl rfl (by unfold vp_in; decide) [(h, .inr (8, [.int 0, .ref q8_5, .ref q17_9, .ref q26_13, .ref q35_17, .ref q44_21, .ref q53_25, .ref q62_29, .ref q69_33, .ref q77_37, .ref q129_81, .int 0, .int 0, .int 0, .ref q191_125, .int 0, .int 0, .ref q200_129, .int 0, .ref q208_133, .ref q216_137, .ref q225_141, .int 0, .int 0])), (q8_5, .inl (cI, 1974, .inl (upd (upd (upd (upd (fun _ => 0) 0 (16)) 1 (2)) 2 (2)) 3 (8)))), (q17_9, .inl (cI, 1974, .inl (fun _ => 0))), (q26_13, .inl (cI, 3948, .inl (fun _ => 0))), (q35_17, .inl (cI, 10000, .inl (fun _ => 0))), (q44_21, .inl (cZ, 10000, .inl (fun _ => 0))), (q53_25, .inl (cI, 20000, .inl (fun _ => 0))), (q62_29, .inl (cZ, 20000, .inl (fun _ => 0))), (q69_33, .inl (cZ, 2, .inl (fun _ => 0))), (q77_37, .inl (cI, 10, .inl (upd (upd (upd (upd (upd (upd (upd (upd (upd (upd (fun _ => 0) 0 (4)) 1 (1)) 2 (1)) 3 (1)) 4 (1)) 5 (0)) 6 (1)) 7 (1)) 8 (0)) 9 (0)))), (q129_81, .inl (cI, 10, .inl (upd (upd (upd (upd (upd (upd (upd (upd (upd (upd (fun _ => 0) 0 (64)) 1 (4)) 2 (8)) 3 (32)) 4 (200)) 5 (100)) 6 (6)) 7 (10000)) 8 (2)) 9 (8)))), (q191_125, .inl (cI, 64, .inl (fun _ => 0))), (q200_129, .inl (cI, 400, .inl (fun _ => 0))), (q208_133, .inl (cI, 64, .inl (fun _ => 0))), (q216_137, .inl (cI, 64, .inl (fun _ => 0))), (q225_141, .inl (cI, 10000, .inl (fun _ => 0)))] rfl dX8_init_259 ?_
  refine za_aload_n B dX8_init_260 0 rfl rfl ?_
  refine za_get B (q0 := 0) (j := 1) iX8 rfl rfl (Nat.le_of_ble_eq_true rfl) kw_916 rfl dX8_init_261 ?_
  refine za_iconst B (4) dX8_init_264 zc_iconst_4 ?_
  refine za_bipush B (16) dX8_init_265 zc_bipush_16 ?_
  refine za_iast B (q0 := 1) (t0 := 0) rfl rfl (by unfold vp_in; decide) [(h, .inr (8, [.int 0, .ref q8_5, .ref q17_9, .ref q26_13, .ref q35_17, .ref q44_21, .ref q53_25, .ref q62_29, .ref q69_33, .ref q77_37, .ref q129_81, .int 0, .int 0, .int 0, .ref q191_125, .int 0, .int 0, .ref q200_129, .int 0, .ref q208_133, .ref q216_137, .ref q225_141, .int 0, .int 0])), (q8_5, .inl (cI, 1974, .inl (upd (upd (upd (upd (upd (fun _ => 0) 0 (16)) 1 (2)) 2 (2)) 3 (8)) 4 (16)))), (q17_9, .inl (cI, 1974, .inl (fun _ => 0))), (q26_13, .inl (cI, 3948, .inl (fun _ => 0))), (q35_17, .inl (cI, 10000, .inl (fun _ => 0))), (q44_21, .inl (cZ, 10000, .inl (fun _ => 0))), (q53_25, .inl (cI, 20000, .inl (fun _ => 0))), (q62_29, .inl (cZ, 20000, .inl (fun _ => 0))), (q69_33, .inl (cZ, 2, .inl (fun _ => 0))), (q77_37, .inl (cI, 10, .inl (upd (upd (upd (upd (upd (upd (upd (upd (upd (upd (fun _ => 0) 0 (4)) 1 (1)) 2 (1)) 3 (1)) 4 (1)) 5 (0)) 6 (1)) 7 (1)) 8 (0)) 9 (0)))), (q129_81, .inl (cI, 10, .inl (upd (upd (upd (upd (upd (upd (upd (upd (upd (upd (fun _ => 0) 0 (64)) 1 (4)) 2 (8)) 3 (32)) 4 (200)) 5 (100)) 6 (6)) 7 (10000)) 8 (2)) 9 (8)))), (q191_125, .inl (cI, 64, .inl (fun _ => 0))), (q200_129, .inl (cI, 400, .inl (fun _ => 0))), (q208_133, .inl (cI, 64, .inl (fun _ => 0))), (q216_137, .inl (cI, 64, .inl (fun _ => 0))), (q225_141, .inl (cI, 10000, .inl (fun _ => 0)))] rfl dX8_init_267 ?_
  refine za_aload_n B dX8_init_268 0 rfl rfl ?_
  refine za_get B (q0 := 0) (j := 1) iX8 rfl rfl (Nat.le_of_ble_eq_true rfl) kw_916 rfl dX8_init_269 ?_
  refine za_iconst B (5) dX8_init_272 zc_iconst_5 ?_
  refine za_bipush B (30) dX8_init_273 zc_bipush_30 ?_
  refine za_iast B (q0 := 1) (t0 := 0) rfl rfl (by unfold vp_in; decide) [(h, .inr (8, [.int 0, .ref q8_5, .ref q17_9, .ref q26_13, .ref q35_17, .ref q44_21, .ref q53_25, .ref q62_29, .ref q69_33, .ref q77_37, .ref q129_81, .int 0, .int 0, .int 0, .ref q191_125, .int 0, .int 0, .ref q200_129, .int 0, .ref q208_133, .ref q216_137, .ref q225_141, .int 0, .int 0])), (q8_5, .inl (cI, 1974, .inl (upd (upd (upd (upd (upd (upd (fun _ => 0) 0 (16)) 1 (2)) 2 (2)) 3 (8)) 4 (16)) 5 (30)))), (q17_9, .inl (cI, 1974, .inl (fun _ => 0))), (q26_13, .inl (cI, 3948, .inl (fun _ => 0))), (q35_17, .inl (cI, 10000, .inl (fun _ => 0))), (q44_21, .inl (cZ, 10000, .inl (fun _ => 0))), (q53_25, .inl (cI, 20000, .inl (fun _ => 0))), (q62_29, .inl (cZ, 20000, .inl (fun _ => 0))), (q69_33, .inl (cZ, 2, .inl (fun _ => 0))), (q77_37, .inl (cI, 10, .inl (upd (upd (upd (upd (upd (upd (upd (upd (upd (upd (fun _ => 0) 0 (4)) 1 (1)) 2 (1)) 3 (1)) 4 (1)) 5 (0)) 6 (1)) 7 (1)) 8 (0)) 9 (0)))), (q129_81, .inl (cI, 10, .inl (upd (upd (upd (upd (upd (upd (upd (upd (upd (upd (fun _ => 0) 0 (64)) 1 (4)) 2 (8)) 3 (32)) 4 (200)) 5 (100)) 6 (6)) 7 (10000)) 8 (2)) 9 (8)))), (q191_125, .inl (cI, 64, .inl (fun _ => 0))), (q200_129, .inl (cI, 400, .inl (fun _ => 0))), (q208_133, .inl (cI, 64, .inl (fun _ => 0))), (q216_137, .inl (cI, 64, .inl (fun _ => 0))), (q225_141, .inl (cI, 10000, .inl (fun _ => 0)))] rfl dX8_init_275 ?_
  refine za_aload_n B dX8_init_276 0 rfl rfl ?_
  refine za_get B (q0 := 0) (j := 1) iX8 rfl rfl (Nat.le_of_ble_eq_true rfl) kw_916 rfl dX8_init_277 ?_
  refine za_bipush B (6) dX8_init_280 zc_bipush_6 ?_
  refine za_iconst B (4) dX8_init_282 zc_iconst_4 ?_
  refine za_iast B (q0 := 1) (t0 := 0) rfl rfl (by unfold vp_in; decide) [(h, .inr (8, [.int 0, .ref q8_5, .ref q17_9, .ref q26_13, .ref q35_17, .ref q44_21, .ref q53_25, .ref q62_29, .ref q69_33, .ref q77_37, .ref q129_81, .int 0, .int 0, .int 0, .ref q191_125, .int 0, .int 0, .ref q200_129, .int 0, .ref q208_133, .ref q216_137, .ref q225_141, .int 0, .int 0])), (q8_5, .inl (cI, 1974, .inl (upd (upd (upd (upd (upd (upd (upd (fun _ => 0) 0 (16)) 1 (2)) 2 (2)) 3 (8)) 4 (16)) 5 (30)) 6 (4)))), (q17_9, .inl (cI, 1974, .inl (fun _ => 0))), (q26_13, .inl (cI, 3948, .inl (fun _ => 0))), (q35_17, .inl (cI, 10000, .inl (fun _ => 0))), (q44_21, .inl (cZ, 10000, .inl (fun _ => 0))), (q53_25, .inl (cI, 20000, .inl (fun _ => 0))), (q62_29, .inl (cZ, 20000, .inl (fun _ => 0))), (q69_33, .inl (cZ, 2, .inl (fun _ => 0))), (q77_37, .inl (cI, 10, .inl (upd (upd (upd (upd (upd (upd (upd (upd (upd (upd (fun _ => 0) 0 (4)) 1 (1)) 2 (1)) 3 (1)) 4 (1)) 5 (0)) 6 (1)) 7 (1)) 8 (0)) 9 (0)))), (q129_81, .inl (cI, 10, .inl (upd (upd (upd (upd (upd (upd (upd (upd (upd (upd (fun _ => 0) 0 (64)) 1 (4)) 2 (8)) 3 (32)) 4 (200)) 5 (100)) 6 (6)) 7 (10000)) 8 (2)) 9 (8)))), (q191_125, .inl (cI, 64, .inl (fun _ => 0))), (q200_129, .inl (cI, 400, .inl (fun _ => 0))), (q208_133, .inl (cI, 64, .inl (fun _ => 0))), (q216_137, .inl (cI, 64, .inl (fun _ => 0))), (q225_141, .inl (cI, 10000, .inl (fun _ => 0)))] rfl dX8_init_283 ?_
  refine za_aload_n B dX8_init_284 0 rfl rfl ?_
  refine za_get B (q0 := 0) (j := 1) iX8 rfl rfl (Nat.le_of_ble_eq_true rfl) kw_916 rfl dX8_init_285 ?_
  refine za_bipush B (7) dX8_init_288 zc_bipush_7 ?_
  refine za_sipush B (10000) dX8_init_290 zc_sipush_10000 ?_
  refine za_iast B (q0 := 1) (t0 := 0) rfl rfl (by unfold vp_in; decide) [(h, .inr (8, [.int 0, .ref q8_5, .ref q17_9, .ref q26_13, .ref q35_17, .ref q44_21, .ref q53_25, .ref q62_29, .ref q69_33, .ref q77_37, .ref q129_81, .int 0, .int 0, .int 0, .ref q191_125, .int 0, .int 0, .ref q200_129, .int 0, .ref q208_133, .ref q216_137, .ref q225_141, .int 0, .int 0])), (q8_5, .inl (cI, 1974, .inl (upd (upd (upd (upd (upd (upd (upd (upd (fun _ => 0) 0 (16)) 1 (2)) 2 (2)) 3 (8)) 4 (16)) 5 (30)) 6 (4)) 7 (10000)))), (q17_9, .inl (cI, 1974, .inl (fun _ => 0))), (q26_13, .inl (cI, 3948, .inl (fun _ => 0))), (q35_17, .inl (cI, 10000, .inl (fun _ => 0))), (q44_21, .inl (cZ, 10000, .inl (fun _ => 0))), (q53_25, .inl (cI, 20000, .inl (fun _ => 0))), (q62_29, .inl (cZ, 20000, .inl (fun _ => 0))), (q69_33, .inl (cZ, 2, .inl (fun _ => 0))), (q77_37, .inl (cI, 10, .inl (upd (upd (upd (upd (upd (upd (upd (upd (upd (upd (fun _ => 0) 0 (4)) 1 (1)) 2 (1)) 3 (1)) 4 (1)) 5 (0)) 6 (1)) 7 (1)) 8 (0)) 9 (0)))), (q129_81, .inl (cI, 10, .inl (upd (upd (upd (upd (upd (upd (upd (upd (upd (upd (fun _ => 0) 0 (64)) 1 (4)) 2 (8)) 3 (32)) 4 (200)) 5 (100)) 6 (6)) 7 (10000)) 8 (2)) 9 (8)))), (q191_125, .inl (cI, 64, .inl (fun _ => 0))), (q200_129, .inl (cI, 400, .inl (fun _ => 0))), (q208_133, .inl (cI, 64, .inl (fun _ => 0))), (q216_137, .inl (cI, 64, .inl (fun _ => 0))), (q225_141, .inl (cI, 10000, .inl (fun _ => 0)))] rfl dX8_init_293 ?_
  refine za_ws ((wdR (adM h (fun c => ([0, q8_5, q17_9, q26_13, q35_17, q44_21, q53_25, q62_29, q69_33, q77_37, q129_81, 0, 0, 0, q191_125, 0, 0, q200_129, 0, q208_133, q216_137, q225_141] : List Nat).getD c 0)) cI cZ).1 rho1) rfl ?_
  exact za_tail B ⟨Nat.le_of_ble_eq_true rfl, Nat.le_of_ble_eq_true rfl⟩ (fun X B => tR_initT_294 B N rho1 hf)
