-- PicturePackerLaw.cell([II)I
theorem d_Law_cell_0 : decode method_2_code 0 = .ok (.iload_n 1, 1) := by decide +kernel
theorem d_Law_cell_1 : decode method_2_code 1 = .ok (.aload_n 0, 1) := by decide +kernel
theorem d_Law_cell_2 : decode method_2_code 2 = .ok (.arraylength, 1) := by decide +kernel
theorem d_Law_cell_3 : decode method_2_code 3 = .ok (.if_icmp .ge 9, 3) := by decide +kernel
theorem d_Law_cell_6 : decode method_2_code 6 = .ok (.aload_n 0, 1) := by decide +kernel
theorem d_Law_cell_7 : decode method_2_code 7 = .ok (.iload_n 1, 1) := by decide +kernel
theorem d_Law_cell_8 : decode method_2_code 8 = .ok (.iaload, 1) := by decide +kernel
theorem d_Law_cell_9 : decode method_2_code 9 = .ok (.goto 4, 3) := by decide +kernel
theorem d_Law_cell_12 : decode method_2_code 12 = .ok (.iconst 0, 1) := by decide +kernel
theorem d_Law_cell_13 : decode method_2_code 13 = .ok (.ireturn, 1) := by decide +kernel
abbrev y_Law_cell : MethodName := ⟨"PicturePackerLaw", "cell", "([II)I"⟩
def wp_Law_cell (n : Nat → Nat) (tb : Tbs) (K : Nat) (x1 : Int32) (post : Int32 → Unit → Prop) : Prop := ((nI (tb K).2.1 : Int32) ≤ x1 → (post 0 ())) ∧ (¬ ((nI (tb K).2.1 : Int32) ≤ x1) → (vp_in x1 ((tb K).2.1) ∧ (post ((tb K).2.2 (x1 : Int32).toNatClampNeg) ())))
set_option maxHeartbeats 2000000 in
set_option maxRecDepth 20000 in
theorem c_Law_cell {l : Launch} {dC : Nat → ClassId} {dI : Nat → Nat → Nat} {cI : ClassId} {tb : Tbs} {a n : Nat → Nat} {K : Nat} (hK2 : K < 4) {x1 : Int32} {post : Int32 → Unit → Prop} (h : wp_Law_cell n tb K x1 post) : CtI classes dC dI cI tb l y_Law_cell method_2_code 2 .int ({ frames := 0, cells := 0, slots := 0, locals := 0 }) [.ref (tb K).1, .int x1] [] (Unit) (fun _ => []) post := by
  refine startI (by decide) (Nat.le_of_ble_eq_true rfl) ?_
  intro p e s m below meth c ls E hr hlk hnm hl hw
  have hl : lv_has ls 2 [(0, .ref (tb K).1), (1, .int x1)] := hl
  generalize va_A [] s.heap.size = A at hw ⊢
  obtain ⟨hx, hb, hml, hown, hts⟩ := id E
  unfold wp_Law_cell at h
  refine lv_iload_n hx hb d_Law_cell_0 rfl (lv_at hl 1 rfl) ?_
  refine lv_aload_n hx hb d_Law_cell_1 rfl (lv_at hl 0 rfl) ?_
  refine ktlen (K := K) E hw hK2 d_Law_cell_2 ?_
  refine lv_icmp_ge (tgt := 12) hx hb d_Law_cell_3 (by decide) (fun c1 => ?_) (fun c1 => ?_)
  · have h := h.1 c1
    refine lv_iconst (v := 0) hx hb d_Law_cell_12 (by decide) ?_
    exact retI (out := fun u => []) (u := ()) E hr hlk rfl hw h d_Law_cell_13
  · have h := h.2 c1
    refine lv_aload_n hx hb d_Law_cell_6 rfl (lv_at hl 0 rfl) ?_
    refine lv_iload_n hx hb d_Law_cell_7 rfl (lv_at hl 1 rfl) ?_
    obtain ⟨b2, h⟩ := h
    refine ktld (K := K) E hw hK2 b2 d_Law_cell_8 ?_
    refine lv_goto (tgt := 13) hx hb d_Law_cell_9 (by decide) ?_
    exact retI (out := fun u => []) (u := ()) E hr hlk rfl hw h d_Law_cell_13
-- the law
theorem d_Law_law_0 : decode code 0 = .ok (.new 7, 3) := by decide +kernel
theorem d_Law_law_3 : decode code 3 = .ok (.dup, 1) := by decide +kernel
theorem d_Law_law_4 : decode code 4 = .ok (.aload_n 0, 1) := by decide +kernel
theorem d_Law_law_5 : decode code 5 = .ok (.iconst 0, 1) := by decide +kernel
theorem d_Law_law_6 : decode code 6 = .ok (.invokestatic 9, 3) := by decide +kernel
theorem d_Law_law_9 : decode code 9 = .ok (.aload_n 0, 1) := by decide +kernel
theorem d_Law_law_10 : decode code 10 = .ok (.iconst 1, 1) := by decide +kernel
theorem d_Law_law_11 : decode code 11 = .ok (.invokestatic 9, 3) := by decide +kernel
theorem d_Law_law_14 : decode code 14 = .ok (.invokespecial 15, 3) := by decide +kernel
theorem d_Law_law_17 : decode code 17 = .ok (.astore_n 1, 1) := by decide +kernel
theorem d_Law_law_18 : decode code 18 = .ok (.new 18, 3) := by decide +kernel
theorem d_Law_law_21 : decode code 21 = .ok (.dup, 1) := by decide +kernel
theorem d_Law_law_22 : decode code 22 = .ok (.aload_n 0, 1) := by decide +kernel
theorem d_Law_law_23 : decode code 23 = .ok (.iconst 0, 1) := by decide +kernel
theorem d_Law_law_24 : decode code 24 = .ok (.invokestatic 9, 3) := by decide +kernel
theorem d_Law_law_27 : decode code 27 = .ok (.aload_n 0, 1) := by decide +kernel
theorem d_Law_law_28 : decode code 28 = .ok (.iconst 1, 1) := by decide +kernel
theorem d_Law_law_29 : decode code 29 = .ok (.invokestatic 9, 3) := by decide +kernel
theorem d_Law_law_32 : decode code 32 = .ok (.invokespecial 20, 3) := by decide +kernel
theorem d_Law_law_35 : decode code 35 = .ok (.astore_n 2, 1) := by decide +kernel
theorem d_Law_law_36 : decode code 36 = .ok (.iconst 2, 1) := by decide +kernel
theorem d_Law_law_37 : decode code 37 = .ok (.istore_n 3, 1) := by decide +kernel
theorem d_Law_law_38 : decode code 38 = .ok (.iload_n 3, 1) := by decide +kernel
theorem d_Law_law_39 : decode code 39 = .ok (.aload_n 0, 1) := by decide +kernel
theorem d_Law_law_40 : decode code 40 = .ok (.arraylength, 1) := by decide +kernel
theorem d_Law_law_41 : decode code 41 = .ok (.iconst 5, 1) := by decide +kernel
theorem d_Law_law_42 : decode code 42 = .ok (.isub, 1) := by decide +kernel
theorem d_Law_law_43 : decode code 43 = .ok (.if_icmp .gt 270, 3) := by decide +kernel
theorem d_Law_law_46 : decode code 46 = .ok (.aload_n 0, 1) := by decide +kernel
theorem d_Law_law_47 : decode code 47 = .ok (.iload_n 3, 1) := by decide +kernel
theorem d_Law_law_48 : decode code 48 = .ok (.iaload, 1) := by decide +kernel
theorem d_Law_law_49 : decode code 49 = .ok (.bipush 7, 2) := by decide +kernel
theorem d_Law_law_51 : decode code 51 = .ok (.iand, 1) := by decide +kernel
theorem d_Law_law_52 : decode code 52 = .ok (.tableswitch 255 0 6 #[44, 87, 140, 173, 186, 209, 232], 44) := by decide +kernel
theorem d_Law_law_96 : decode code 96 = .ok (.aload_n 1, 1) := by decide +kernel
theorem d_Law_law_97 : decode code 97 = .ok (.aload_n 0, 1) := by decide +kernel
theorem d_Law_law_98 : decode code 98 = .ok (.iload_n 3, 1) := by decide +kernel
theorem d_Law_law_99 : decode code 99 = .ok (.iconst 1, 1) := by decide +kernel
theorem d_Law_law_100 : decode code 100 = .ok (.iadd, 1) := by decide +kernel
theorem d_Law_law_101 : decode code 101 = .ok (.iaload, 1) := by decide +kernel
theorem d_Law_law_102 : decode code 102 = .ok (.aload_n 0, 1) := by decide +kernel
theorem d_Law_law_103 : decode code 103 = .ok (.iload_n 3, 1) := by decide +kernel
theorem d_Law_law_104 : decode code 104 = .ok (.iconst 2, 1) := by decide +kernel
theorem d_Law_law_105 : decode code 105 = .ok (.iadd, 1) := by decide +kernel
theorem d_Law_law_106 : decode code 106 = .ok (.iaload, 1) := by decide +kernel
theorem d_Law_law_107 : decode code 107 = .ok (.aload_n 0, 1) := by decide +kernel
theorem d_Law_law_108 : decode code 108 = .ok (.iload_n 3, 1) := by decide +kernel
theorem d_Law_law_109 : decode code 109 = .ok (.iconst 3, 1) := by decide +kernel
theorem d_Law_law_110 : decode code 110 = .ok (.iadd, 1) := by decide +kernel
theorem d_Law_law_111 : decode code 111 = .ok (.iaload, 1) := by decide +kernel
theorem d_Law_law_112 : decode code 112 = .ok (.invokevirtual 21, 3) := by decide +kernel
theorem d_Law_law_115 : decode code 115 = .ok (.aload_n 2, 1) := by decide +kernel
theorem d_Law_law_116 : decode code 116 = .ok (.aload_n 0, 1) := by decide +kernel
theorem d_Law_law_117 : decode code 117 = .ok (.iload_n 3, 1) := by decide +kernel
theorem d_Law_law_118 : decode code 118 = .ok (.iconst 1, 1) := by decide +kernel
theorem d_Law_law_119 : decode code 119 = .ok (.iadd, 1) := by decide +kernel
theorem d_Law_law_120 : decode code 120 = .ok (.iaload, 1) := by decide +kernel
theorem d_Law_law_121 : decode code 121 = .ok (.aload_n 0, 1) := by decide +kernel
theorem d_Law_law_122 : decode code 122 = .ok (.iload_n 3, 1) := by decide +kernel
theorem d_Law_law_123 : decode code 123 = .ok (.iconst 2, 1) := by decide +kernel
theorem d_Law_law_124 : decode code 124 = .ok (.iadd, 1) := by decide +kernel
theorem d_Law_law_125 : decode code 125 = .ok (.iaload, 1) := by decide +kernel
theorem d_Law_law_126 : decode code 126 = .ok (.aload_n 0, 1) := by decide +kernel
theorem d_Law_law_127 : decode code 127 = .ok (.iload_n 3, 1) := by decide +kernel
theorem d_Law_law_128 : decode code 128 = .ok (.iconst 3, 1) := by decide +kernel
theorem d_Law_law_129 : decode code 129 = .ok (.iadd, 1) := by decide +kernel
theorem d_Law_law_130 : decode code 130 = .ok (.iaload, 1) := by decide +kernel
theorem d_Law_law_131 : decode code 131 = .ok (.invokevirtual 25, 3) := by decide +kernel
theorem d_Law_law_134 : decode code 134 = .ok (.if_icmp .eq 173, 3) := by decide +kernel
theorem d_Law_law_137 : decode code 137 = .ok (.iconst 0, 1) := by decide +kernel
theorem d_Law_law_138 : decode code 138 = .ok (.ireturn, 1) := by decide +kernel
theorem d_Law_law_139 : decode code 139 = .ok (.aload_n 1, 1) := by decide +kernel
theorem d_Law_law_140 : decode code 140 = .ok (.aload_n 0, 1) := by decide +kernel
theorem d_Law_law_141 : decode code 141 = .ok (.iload_n 3, 1) := by decide +kernel
theorem d_Law_law_142 : decode code 142 = .ok (.iconst 1, 1) := by decide +kernel
theorem d_Law_law_143 : decode code 143 = .ok (.iadd, 1) := by decide +kernel
theorem d_Law_law_144 : decode code 144 = .ok (.iaload, 1) := by decide +kernel
theorem d_Law_law_145 : decode code 145 = .ok (.aload_n 0, 1) := by decide +kernel
theorem d_Law_law_146 : decode code 146 = .ok (.iload_n 3, 1) := by decide +kernel
theorem d_Law_law_147 : decode code 147 = .ok (.iconst 2, 1) := by decide +kernel
theorem d_Law_law_148 : decode code 148 = .ok (.iadd, 1) := by decide +kernel
theorem d_Law_law_149 : decode code 149 = .ok (.iaload, 1) := by decide +kernel
theorem d_Law_law_150 : decode code 150 = .ok (.aload_n 0, 1) := by decide +kernel
theorem d_Law_law_151 : decode code 151 = .ok (.iload_n 3, 1) := by decide +kernel
theorem d_Law_law_152 : decode code 152 = .ok (.iconst 3, 1) := by decide +kernel
theorem d_Law_law_153 : decode code 153 = .ok (.iadd, 1) := by decide +kernel
theorem d_Law_law_154 : decode code 154 = .ok (.iaload, 1) := by decide +kernel
theorem d_Law_law_155 : decode code 155 = .ok (.aload_n 0, 1) := by decide +kernel
theorem d_Law_law_156 : decode code 156 = .ok (.iload_n 3, 1) := by decide +kernel
theorem d_Law_law_157 : decode code 157 = .ok (.iconst 4, 1) := by decide +kernel
theorem d_Law_law_158 : decode code 158 = .ok (.iadd, 1) := by decide +kernel
theorem d_Law_law_159 : decode code 159 = .ok (.iaload, 1) := by decide +kernel
theorem d_Law_law_160 : decode code 160 = .ok (.invokevirtual 26, 3) := by decide +kernel
theorem d_Law_law_163 : decode code 163 = .ok (.aload_n 2, 1) := by decide +kernel
theorem d_Law_law_164 : decode code 164 = .ok (.aload_n 0, 1) := by decide +kernel
theorem d_Law_law_165 : decode code 165 = .ok (.iload_n 3, 1) := by decide +kernel
theorem d_Law_law_166 : decode code 166 = .ok (.iconst 1, 1) := by decide +kernel
theorem d_Law_law_167 : decode code 167 = .ok (.iadd, 1) := by decide +kernel
theorem d_Law_law_168 : decode code 168 = .ok (.iaload, 1) := by decide +kernel
theorem d_Law_law_169 : decode code 169 = .ok (.aload_n 0, 1) := by decide +kernel
theorem d_Law_law_170 : decode code 170 = .ok (.iload_n 3, 1) := by decide +kernel
theorem d_Law_law_171 : decode code 171 = .ok (.iconst 2, 1) := by decide +kernel
theorem d_Law_law_172 : decode code 172 = .ok (.iadd, 1) := by decide +kernel
theorem d_Law_law_173 : decode code 173 = .ok (.iaload, 1) := by decide +kernel
theorem d_Law_law_174 : decode code 174 = .ok (.aload_n 0, 1) := by decide +kernel
theorem d_Law_law_175 : decode code 175 = .ok (.iload_n 3, 1) := by decide +kernel
theorem d_Law_law_176 : decode code 176 = .ok (.iconst 3, 1) := by decide +kernel
theorem d_Law_law_177 : decode code 177 = .ok (.iadd, 1) := by decide +kernel
theorem d_Law_law_178 : decode code 178 = .ok (.iaload, 1) := by decide +kernel
theorem d_Law_law_179 : decode code 179 = .ok (.aload_n 0, 1) := by decide +kernel
theorem d_Law_law_180 : decode code 180 = .ok (.iload_n 3, 1) := by decide +kernel
theorem d_Law_law_181 : decode code 181 = .ok (.iconst 4, 1) := by decide +kernel
theorem d_Law_law_182 : decode code 182 = .ok (.iadd, 1) := by decide +kernel
theorem d_Law_law_183 : decode code 183 = .ok (.iaload, 1) := by decide +kernel
theorem d_Law_law_184 : decode code 184 = .ok (.invokevirtual 30, 3) := by decide +kernel
theorem d_Law_law_187 : decode code 187 = .ok (.if_icmp .eq 120, 3) := by decide +kernel
theorem d_Law_law_190 : decode code 190 = .ok (.iconst 0, 1) := by decide +kernel
theorem d_Law_law_191 : decode code 191 = .ok (.ireturn, 1) := by decide +kernel
theorem d_Law_law_192 : decode code 192 = .ok (.aload_n 1, 1) := by decide +kernel
theorem d_Law_law_193 : decode code 193 = .ok (.aload_n 0, 1) := by decide +kernel
theorem d_Law_law_194 : decode code 194 = .ok (.iload_n 3, 1) := by decide +kernel
theorem d_Law_law_195 : decode code 195 = .ok (.iconst 1, 1) := by decide +kernel
theorem d_Law_law_196 : decode code 196 = .ok (.iadd, 1) := by decide +kernel
theorem d_Law_law_197 : decode code 197 = .ok (.iaload, 1) := by decide +kernel
theorem d_Law_law_198 : decode code 198 = .ok (.aload_n 0, 1) := by decide +kernel
theorem d_Law_law_199 : decode code 199 = .ok (.iload_n 3, 1) := by decide +kernel
theorem d_Law_law_200 : decode code 200 = .ok (.iconst 2, 1) := by decide +kernel
theorem d_Law_law_201 : decode code 201 = .ok (.iadd, 1) := by decide +kernel
theorem d_Law_law_202 : decode code 202 = .ok (.iaload, 1) := by decide +kernel
theorem d_Law_law_203 : decode code 203 = .ok (.invokevirtual 31, 3) := by decide +kernel
theorem d_Law_law_206 : decode code 206 = .ok (.aload_n 2, 1) := by decide +kernel
theorem d_Law_law_207 : decode code 207 = .ok (.aload_n 0, 1) := by decide +kernel
theorem d_Law_law_208 : decode code 208 = .ok (.iload_n 3, 1) := by decide +kernel
theorem d_Law_law_209 : decode code 209 = .ok (.iconst 1, 1) := by decide +kernel
theorem d_Law_law_210 : decode code 210 = .ok (.iadd, 1) := by decide +kernel
theorem d_Law_law_211 : decode code 211 = .ok (.iaload, 1) := by decide +kernel
theorem d_Law_law_212 : decode code 212 = .ok (.aload_n 0, 1) := by decide +kernel
theorem d_Law_law_213 : decode code 213 = .ok (.iload_n 3, 1) := by decide +kernel
theorem d_Law_law_214 : decode code 214 = .ok (.iconst 2, 1) := by decide +kernel
theorem d_Law_law_215 : decode code 215 = .ok (.iadd, 1) := by decide +kernel
theorem d_Law_law_216 : decode code 216 = .ok (.iaload, 1) := by decide +kernel
theorem d_Law_law_217 : decode code 217 = .ok (.invokevirtual 35, 3) := by decide +kernel
theorem d_Law_law_220 : decode code 220 = .ok (.if_icmp .eq 87, 3) := by decide +kernel
theorem d_Law_law_223 : decode code 223 = .ok (.iconst 0, 1) := by decide +kernel
theorem d_Law_law_224 : decode code 224 = .ok (.ireturn, 1) := by decide +kernel
theorem d_Law_law_225 : decode code 225 = .ok (.aload_n 1, 1) := by decide +kernel
theorem d_Law_law_226 : decode code 226 = .ok (.invokevirtual 36, 3) := by decide +kernel
theorem d_Law_law_229 : decode code 229 = .ok (.aload_n 2, 1) := by decide +kernel
theorem d_Law_law_230 : decode code 230 = .ok (.invokevirtual 40, 3) := by decide +kernel
theorem d_Law_law_233 : decode code 233 = .ok (.if_icmp .eq 74, 3) := by decide +kernel
theorem d_Law_law_236 : decode code 236 = .ok (.iconst 0, 1) := by decide +kernel
theorem d_Law_law_237 : decode code 237 = .ok (.ireturn, 1) := by decide +kernel
theorem d_Law_law_238 : decode code 238 = .ok (.aload_n 1, 1) := by decide +kernel
theorem d_Law_law_239 : decode code 239 = .ok (.aload_n 0, 1) := by decide +kernel
theorem d_Law_law_240 : decode code 240 = .ok (.iload_n 3, 1) := by decide +kernel
theorem d_Law_law_241 : decode code 241 = .ok (.iconst 1, 1) := by decide +kernel
theorem d_Law_law_242 : decode code 242 = .ok (.iadd, 1) := by decide +kernel
theorem d_Law_law_243 : decode code 243 = .ok (.iaload, 1) := by decide +kernel
theorem d_Law_law_244 : decode code 244 = .ok (.invokevirtual 41, 3) := by decide +kernel
theorem d_Law_law_247 : decode code 247 = .ok (.aload_n 2, 1) := by decide +kernel
theorem d_Law_law_248 : decode code 248 = .ok (.aload_n 0, 1) := by decide +kernel
theorem d_Law_law_249 : decode code 249 = .ok (.iload_n 3, 1) := by decide +kernel
theorem d_Law_law_250 : decode code 250 = .ok (.iconst 1, 1) := by decide +kernel
theorem d_Law_law_251 : decode code 251 = .ok (.iadd, 1) := by decide +kernel
theorem d_Law_law_252 : decode code 252 = .ok (.iaload, 1) := by decide +kernel
theorem d_Law_law_253 : decode code 253 = .ok (.invokevirtual 45, 3) := by decide +kernel
theorem d_Law_law_256 : decode code 256 = .ok (.if_icmp .eq 51, 3) := by decide +kernel
theorem d_Law_law_259 : decode code 259 = .ok (.iconst 0, 1) := by decide +kernel
theorem d_Law_law_260 : decode code 260 = .ok (.ireturn, 1) := by decide +kernel
theorem d_Law_law_261 : decode code 261 = .ok (.aload_n 1, 1) := by decide +kernel
theorem d_Law_law_262 : decode code 262 = .ok (.aload_n 0, 1) := by decide +kernel
theorem d_Law_law_263 : decode code 263 = .ok (.iload_n 3, 1) := by decide +kernel
theorem d_Law_law_264 : decode code 264 = .ok (.iconst 1, 1) := by decide +kernel
theorem d_Law_law_265 : decode code 265 = .ok (.iadd, 1) := by decide +kernel
theorem d_Law_law_266 : decode code 266 = .ok (.iaload, 1) := by decide +kernel
theorem d_Law_law_267 : decode code 267 = .ok (.invokevirtual 46, 3) := by decide +kernel
theorem d_Law_law_270 : decode code 270 = .ok (.aload_n 2, 1) := by decide +kernel
theorem d_Law_law_271 : decode code 271 = .ok (.aload_n 0, 1) := by decide +kernel
theorem d_Law_law_272 : decode code 272 = .ok (.iload_n 3, 1) := by decide +kernel
theorem d_Law_law_273 : decode code 273 = .ok (.iconst 1, 1) := by decide +kernel
theorem d_Law_law_274 : decode code 274 = .ok (.iadd, 1) := by decide +kernel
theorem d_Law_law_275 : decode code 275 = .ok (.iaload, 1) := by decide +kernel
theorem d_Law_law_276 : decode code 276 = .ok (.invokevirtual 49, 3) := by decide +kernel
theorem d_Law_law_279 : decode code 279 = .ok (.if_icmp .eq 28, 3) := by decide +kernel
theorem d_Law_law_282 : decode code 282 = .ok (.iconst 0, 1) := by decide +kernel
theorem d_Law_law_283 : decode code 283 = .ok (.ireturn, 1) := by decide +kernel
theorem d_Law_law_284 : decode code 284 = .ok (.aload_n 1, 1) := by decide +kernel
theorem d_Law_law_285 : decode code 285 = .ok (.aload_n 0, 1) := by decide +kernel
theorem d_Law_law_286 : decode code 286 = .ok (.iload_n 3, 1) := by decide +kernel
theorem d_Law_law_287 : decode code 287 = .ok (.iconst 1, 1) := by decide +kernel
theorem d_Law_law_288 : decode code 288 = .ok (.iadd, 1) := by decide +kernel
theorem d_Law_law_289 : decode code 289 = .ok (.iaload, 1) := by decide +kernel
theorem d_Law_law_290 : decode code 290 = .ok (.invokevirtual 50, 3) := by decide +kernel
theorem d_Law_law_293 : decode code 293 = .ok (.aload_n 2, 1) := by decide +kernel
theorem d_Law_law_294 : decode code 294 = .ok (.aload_n 0, 1) := by decide +kernel
theorem d_Law_law_295 : decode code 295 = .ok (.iload_n 3, 1) := by decide +kernel
theorem d_Law_law_296 : decode code 296 = .ok (.iconst 1, 1) := by decide +kernel
theorem d_Law_law_297 : decode code 297 = .ok (.iadd, 1) := by decide +kernel
theorem d_Law_law_298 : decode code 298 = .ok (.iaload, 1) := by decide +kernel
theorem d_Law_law_299 : decode code 299 = .ok (.invokevirtual 53, 3) := by decide +kernel
theorem d_Law_law_302 : decode code 302 = .ok (.if_icmp .eq 5, 3) := by decide +kernel
theorem d_Law_law_305 : decode code 305 = .ok (.iconst 0, 1) := by decide +kernel
theorem d_Law_law_306 : decode code 306 = .ok (.ireturn, 1) := by decide +kernel
theorem d_Law_law_307 : decode code 307 = .ok (.iinc 3 5, 3) := by decide +kernel
theorem d_Law_law_310 : decode code 310 = .ok (.goto (-272), 3) := by decide +kernel
theorem d_Law_law_313 : decode code 313 = .ok (.iconst 1, 1) := by decide +kernel
theorem d_Law_law_314 : decode code 314 = .ok (.ireturn, 1) := by decide +kernel
def wp_Law_law_38 (n : Nat → Nat) (tb : Tbs) (Pic_width : Int32) (Pic_height : Int32) (Pic_stride : Int32) (Rows_rowLength : Int32) (Mod_width : Int32) (Mod_height : Int32) (ct : Nat → Int32) (post : Prop) : Nat → Int32 → Int32 → Int32 → Int32 → Int32 → Int32 → Int32 → Int32 → Int32 → Int32 → Int32 → Int32 → Int32 → Int32 → Int32 → Int32 → Int32 → (Nat → Int32) → (Nat → Int32) → (Nat → Int32) → (Nat → Int32) → (Nat → Int32) → (Nat → Int32) → (Nat → Int32) → (Nat → Int32) → (Nat → Int32) → Int32 → Prop
  | 0 => fun _ _ _ _ _ _ _ _ _ _ _ _ _ _ _ _ _ _ _ _ _ _ _ _ _ _ _ => False
  | N + 1 => fun Out_size Out_gathered Out_gatheredBits Chk_start Pak_singles Pak_runs Pak_longest Fin_chained Fin_length Fin_distance Mod_thrown Mod_many Mod_size Mod_bit Mod_single Mod_runs Mod_longest pb rb fl ob nw nx mc mr mf y3 => (((nI (tb 2).2.1) - 5 : Int32) < y3 → (True)) ∧ (¬ (((nI (tb 2).2.1) - 5 : Int32) < y3) → (vp_in y3 ((tb 2).2.1) ∧ (∀ z17 : Int32, z17 = (((tb 2).2.2 (y3 : Int32).toNatClampNeg) &&& 7) → (((z17 : Int32) = 0 → (vp_in (y3 + 1) ((tb 2).2.1) ∧ (vp_in (y3 + 2) ((tb 2).2.1) ∧ (vp_in (y3 + 3) ((tb 2).2.1) ∧ (wp_PP_set n Pic_width Pic_height Pic_stride pb ((tb 2).2.2 (y3 + 1 : Int32).toNatClampNeg) ((tb 2).2.2 (y3 + 2 : Int32).toNatClampNeg) ((tb 2).2.2 (y3 + 3 : Int32).toNatClampNeg) (fun r22 u21 => vp_in (y3 + 1) ((tb 2).2.1) ∧ (vp_in (y3 + 2) ((tb 2).2.1) ∧ (vp_in (y3 + 3) ((tb 2).2.1) ∧ (wp_Mod_set n Mod_thrown Mod_width Mod_height mc ((tb 2).2.2 (y3 + 1 : Int32).toNatClampNeg) ((tb 2).2.2 (y3 + 2 : Int32).toNatClampNeg) ((tb 2).2.2 (y3 + 3 : Int32).toNatClampNeg) (fun r27 u26 => ((r22 : Int32) = r27 → (∀ z29 : Int32, z29 = (y3 + 5) → (wp_Law_law_38 n tb Pic_width Pic_height Pic_stride Rows_rowLength Mod_width Mod_height ct post N Out_size Out_gathered Out_gatheredBits Chk_start Pak_singles Pak_runs Pak_longest Fin_chained Fin_length Fin_distance u26.1 Mod_many Mod_size Mod_bit Mod_single Mod_runs Mod_longest u21 rb fl ob nw nx u26.2 mr mf z29))) ∧ (¬ ((r22 : Int32) = r27) → (False)))))))))))) ∧ ((z17 : Int32) = 1 → (vp_in (y3 + 1) ((tb 2).2.1) ∧ (vp_in (y3 + 2) ((tb 2).2.1) ∧ (vp_in (y3 + 3) ((tb 2).2.1) ∧ (vp_in (y3 + 4) ((tb 2).2.1) ∧ (wp_PP_fill n Pic_width Pic_height Pic_stride pb ((tb 2).2.2 (y3 + 1 : Int32).toNatClampNeg) ((tb 2).2.2 (y3 + 2 : Int32).toNatClampNeg) ((tb 2).2.2 (y3 + 3 : Int32).toNatClampNeg) ((tb 2).2.2 (y3 + 4 : Int32).toNatClampNeg) (fun r36 u35 => vp_in (y3 + 1) ((tb 2).2.1) ∧ (vp_in (y3 + 2) ((tb 2).2.1) ∧ (vp_in (y3 + 3) ((tb 2).2.1) ∧ (vp_in (y3 + 4) ((tb 2).2.1) ∧ (wp_Mod_fill n Mod_thrown Mod_width Mod_height mc ((tb 2).2.2 (y3 + 1 : Int32).toNatClampNeg) ((tb 2).2.2 (y3 + 2 : Int32).toNatClampNeg) ((tb 2).2.2 (y3 + 3 : Int32).toNatClampNeg) ((tb 2).2.2 (y3 + 4 : Int32).toNatClampNeg) (fun r42 u41 => ((r36 : Int32) = r42 → (∀ z44 : Int32, z44 = (y3 + 5) → (wp_Law_law_38 n tb Pic_width Pic_height Pic_stride Rows_rowLength Mod_width Mod_height ct post N Out_size Out_gathered Out_gatheredBits Chk_start Pak_singles Pak_runs Pak_longest Fin_chained Fin_length Fin_distance u41.1 Mod_many Mod_size Mod_bit Mod_single Mod_runs Mod_longest u35 rb fl ob nw nx u41.2 mr mf z44))) ∧ (¬ ((r36 : Int32) = r42) → (False)))))))))))))) ∧ ((z17 : Int32) = 2 → (vp_in (y3 + 1) ((tb 2).2.1) ∧ (vp_in (y3 + 2) ((tb 2).2.1) ∧ (wp_PP_pixel n Pic_width Pic_height Pic_stride pb ((tb 2).2.2 (y3 + 1 : Int32).toNatClampNeg) ((tb 2).2.2 (y3 + 2 : Int32).toNatClampNeg) (fun r49 _ => vp_in (y3 + 1) ((tb 2).2.1) ∧ (vp_in (y3 + 2) ((tb 2).2.1) ∧ (wp_Mod_pixel n Mod_thrown Mod_width Mod_height mc ((tb 2).2.2 (y3 + 1 : Int32).toNatClampNeg) ((tb 2).2.2 (y3 + 2 : Int32).toNatClampNeg) (fun r53 u52 => ((r49 : Int32) = r53 → (∀ z55 : Int32, z55 = (y3 + 5) → (wp_Law_law_38 n tb Pic_width Pic_height Pic_stride Rows_rowLength Mod_width Mod_height ct post N Out_size Out_gathered Out_gatheredBits Chk_start Pak_singles Pak_runs Pak_longest Fin_chained Fin_length Fin_distance u52 Mod_many Mod_size Mod_bit Mod_single Mod_runs Mod_longest pb rb fl ob nw nx mc mr mf z55))) ∧ (¬ ((r49 : Int32) = r53) → (False)))))))))) ∧ ((z17 : Int32) = 3 → (wp_PP_put n tb Pic_width Pic_height Pic_stride Rows_rowLength Out_size Out_gathered Out_gatheredBits Chk_start Pak_singles Pak_runs Pak_longest Fin_chained Fin_length Fin_distance pb rb fl ob ct nw nx (fun r58 u57 => wp_Mod_put n Mod_thrown Mod_width Mod_height Mod_many Mod_size Mod_bit Mod_single Mod_runs Mod_longest mc mr mf (fun r60 u59 => ((r58 : Int32) = r60 → (∀ z62 : Int32, z62 = (y3 + 5) → (wp_Law_law_38 n tb Pic_width Pic_height Pic_stride Rows_rowLength Mod_width Mod_height ct post N u57.1 u57.2.1 u57.2.2.1 u57.2.2.2.1 u57.2.2.2.2.1 u57.2.2.2.2.2.1 u57.2.2.2.2.2.2.1 u57.2.2.2.2.2.2.2.1 u57.2.2.2.2.2.2.2.2.1 u57.2.2.2.2.2.2.2.2.2.1 u59.1 u59.2.1 u59.2.2.1 u59.2.2.2.1 u59.2.2.2.2.1 u59.2.2.2.2.2.1 u59.2.2.2.2.2.2.1 pb u57.2.2.2.2.2.2.2.2.2.2.1 u57.2.2.2.2.2.2.2.2.2.2.2.1 u57.2.2.2.2.2.2.2.2.2.2.2.2.1 u57.2.2.2.2.2.2.2.2.2.2.2.2.2.1 u57.2.2.2.2.2.2.2.2.2.2.2.2.2.2 mc u59.2.2.2.2.2.2.2.1 u59.2.2.2.2.2.2.2.2 z62))) ∧ (¬ ((r58 : Int32) = r60) → (False)))))) ∧ ((z17 : Int32) = 4 → (vp_in (y3 + 1) ((tb 2).2.1) ∧ (wp_PP_byteAt n Out_size ob ((tb 2).2.2 (y3 + 1 : Int32).toNatClampNeg) (fun r66 _ => vp_in (y3 + 1) ((tb 2).2.1) ∧ (wp_Mod_byteAt n Mod_thrown Mod_size mf ((tb 2).2.2 (y3 + 1 : Int32).toNatClampNeg) (fun r69 u68 => ((r66 : Int32) = r69 → (∀ z71 : Int32, z71 = (y3 + 5) → (wp_Law_law_38 n tb Pic_width Pic_height Pic_stride Rows_rowLength Mod_width Mod_height ct post N Out_size Out_gathered Out_gatheredBits Chk_start Pak_singles Pak_runs Pak_longest Fin_chained Fin_length Fin_distance u68 Mod_many Mod_size Mod_bit Mod_single Mod_runs Mod_longest pb rb fl ob nw nx mc mr mf z71))) ∧ (¬ ((r66 : Int32) = r69) → (False)))))))) ∧ ((z17 : Int32) = 5 → (vp_in (y3 + 1) ((tb 2).2.1) ∧ (wp_PP_filter n fl ((tb 2).2.2 (y3 + 1 : Int32).toNatClampNeg) (fun r75 _ => vp_in (y3 + 1) ((tb 2).2.1) ∧ (wp_Mod_filter n Mod_thrown Mod_width Mod_height Mod_size mr ((tb 2).2.2 (y3 + 1 : Int32).toNatClampNeg) (fun r78 u77 => ((r75 : Int32) = r78 → (∀ z80 : Int32, z80 = (y3 + 5) → (wp_Law_law_38 n tb Pic_width Pic_height Pic_stride Rows_rowLength Mod_width Mod_height ct post N Out_size Out_gathered Out_gatheredBits Chk_start Pak_singles Pak_runs Pak_longest Fin_chained Fin_length Fin_distance u77 Mod_many Mod_size Mod_bit Mod_single Mod_runs Mod_longest pb rb fl ob nw nx mc mr mf z80))) ∧ (¬ ((r75 : Int32) = r78) → (False)))))))) ∧ ((z17 : Int32) = 6 → (vp_in (y3 + 1) ((tb 2).2.1) ∧ (wp_PP_count n Pic_width Pic_height Out_size Pak_singles Pak_runs Pak_longest ((tb 2).2.2 (y3 + 1 : Int32).toNatClampNeg) (fun r84 _ => vp_in (y3 + 1) ((tb 2).2.1) ∧ (wp_Mod_count n Mod_thrown Mod_width Mod_height Mod_size Mod_single Mod_runs Mod_longest ((tb 2).2.2 (y3 + 1 : Int32).toNatClampNeg) (fun r87 u86 => ((r84 : Int32) = r87 → (∀ z89 : Int32, z89 = (y3 + 5) → (wp_Law_law_38 n tb Pic_width Pic_height Pic_stride Rows_rowLength Mod_width Mod_height ct post N Out_size Out_gathered Out_gatheredBits Chk_start Pak_singles Pak_runs Pak_longest Fin_chained Fin_length Fin_distance u86 Mod_many Mod_size Mod_bit Mod_single Mod_runs Mod_longest pb rb fl ob nw nx mc mr mf z89))) ∧ (¬ ((r84 : Int32) = r87) → (False)))))))) ∧ (¬ (z17 : Int32) = 0 → ¬ (z17 : Int32) = 1 → ¬ (z17 : Int32) = 2 → ¬ (z17 : Int32) = 3 → ¬ (z17 : Int32) = 4 → ¬ (z17 : Int32) = 5 → ¬ (z17 : Int32) = 6 → (∀ z91 : Int32, z91 = (y3 + 5) → (wp_Law_law_38 n tb Pic_width Pic_height Pic_stride Rows_rowLength Mod_width Mod_height ct post N Out_size Out_gathered Out_gatheredBits Chk_start Pak_singles Pak_runs Pak_longest Fin_chained Fin_length Fin_distance Mod_thrown Mod_many Mod_size Mod_bit Mod_single Mod_runs Mod_longest pb rb fl ob nw nx mc mr mf z91)))))))
def wp_Law (n : Nat → Nat) (tb : Tbs) (post : Prop) : Prop := ∀ q1 : Nat, (wp_Law_cell n tb 2 0 (fun r3 _ => wp_Law_cell n tb 2 1 (fun r5 _ => wp_PP_init (fun k => 0) r3 r5 (fun u6 => ∀ q8 : Nat, (wp_Law_cell n tb 2 0 (fun r10 _ => wp_Law_cell n tb 2 1 (fun r12 _ => wp_Mod_init (fun k => 0) r10 r12 (fun u13 => ∃ N92 : Nat, wp_Law_law_38 (fun k => if k = 8 then u6.2.1 8 else if k = 9 then u6.2.1 9 else if k = 10 then u6.2.1 10 else if k = 11 then u6.2.1 11 else if k = 12 then u6.2.1 12 else if k = 13 then u6.2.1 13 else if k = 14 then u6.2.1 14 else if k = 15 then u13.2.1 15 else if k = 16 then u13.2.1 16 else if k = 17 then u13.2.1 17 else 0) tb u6.2.2.1 u6.2.2.2.1 u6.2.2.2.2.1 u6.2.2.2.2.2.1 u13.2.2.2.1 u13.2.2.2.2.1 u6.2.2.2.2.2.2.2.2.2.2.2.2.2.2.2.2.2.2.2.2.1 post N92 u6.2.2.2.2.2.2.1 u6.2.2.2.2.2.2.2.1 u6.2.2.2.2.2.2.2.2.1 u6.2.2.2.2.2.2.2.2.2.1 u6.2.2.2.2.2.2.2.2.2.2.1 u6.2.2.2.2.2.2.2.2.2.2.2.1 u6.2.2.2.2.2.2.2.2.2.2.2.2.1 u6.2.2.2.2.2.2.2.2.2.2.2.2.2.1 u6.2.2.2.2.2.2.2.2.2.2.2.2.2.2.1 u6.2.2.2.2.2.2.2.2.2.2.2.2.2.2.2.1 u13.2.2.1 u13.2.2.2.2.2.1 u13.2.2.2.2.2.2.1 u13.2.2.2.2.2.2.2.1 u13.2.2.2.2.2.2.2.2.1 u13.2.2.2.2.2.2.2.2.2.1 u13.2.2.2.2.2.2.2.2.2.2.1 u6.2.2.2.2.2.2.2.2.2.2.2.2.2.2.2.2.1 u6.2.2.2.2.2.2.2.2.2.2.2.2.2.2.2.2.2.1 u6.2.2.2.2.2.2.2.2.2.2.2.2.2.2.2.2.2.2.1 u6.2.2.2.2.2.2.2.2.2.2.2.2.2.2.2.2.2.2.2.1 u6.2.2.2.2.2.2.2.2.2.2.2.2.2.2.2.2.2.2.2.2.2.1 u6.2.2.2.2.2.2.2.2.2.2.2.2.2.2.2.2.2.2.2.2.2.2 u13.2.2.2.2.2.2.2.2.2.2.2.1 u13.2.2.2.2.2.2.2.2.2.2.2.2.1 u13.2.2.2.2.2.2.2.2.2.2.2.2.2 2))))))))
set_option maxHeartbeats 8000000 in
set_option maxRecDepth 20000 in
theorem s_Law_law_38 {l : Launch} {dC : Nat → ClassId} {dI : Nat → Nat → Nat} {cI : ClassId} {tb : Tbs} {a n : Nat → Nat} {p : Program} {e : Env} {s : State} {m : MethodId} {below : List Frame} {meth : Method} {c : Code} (E : CallFix p m c code 4 s #[Value.ref (tb 2).1] TBL "PicturePackerLaw") (hr : meth.sig.returnType = ret) (hlk : meth.locks = false) {Pic_width : Int32} {Pic_height : Int32} {Pic_stride : Int32} {Rows_rowLength : Int32} {Mod_width : Int32} {Mod_height : Int32} {ct : Nat → Int32} {post : Prop} : ∀ (N : Nat) (Out_size : Int32) (Out_gathered : Int32) (Out_gatheredBits : Int32) (Chk_start : Int32) (Pak_singles : Int32) (Pak_runs : Int32) (Pak_longest : Int32) (Fin_chained : Int32) (Fin_length : Int32) (Fin_distance : Int32) (Mod_thrown : Int32) (Mod_many : Int32) (Mod_size : Int32) (Mod_bit : Int32) (Mod_single : Int32) (Mod_runs : Int32) (Mod_longest : Int32) (pb : Nat → Int32) (rb : Nat → Int32) (fl : Nat → Int32) (ob : Nat → Int32) (nw : Nat → Int32) (nx : Nat → Int32) (mc : Nat → Int32) (mr : Nat → Int32) (mf : Nat → Int32) (y3 : Int32) (H : Heap) (locs : List Loc) (ls : Array Slot), Wl classes dC dI cI tb (fun q : Nat => s.heap.size ≤ q) s H locs [e_PP a, e_Pic a Pic_width Pic_height Pic_stride, e_Rows a Rows_rowLength, e_Out a Out_size Out_gathered Out_gatheredBits, e_Chk a Chk_start, e_Pak a Pak_singles Pak_runs Pak_longest, e_Fin a Fin_chained Fin_length Fin_distance, e_Mod a Mod_thrown Mod_width Mod_height Mod_many Mod_size Mod_bit Mod_single Mod_runs Mod_longest, e_ar a n cI 8 pb, e_ar a n cI 9 rb, e_ar a n cI 10 fl, e_ar a n cI 11 ob, e_ar a n cI 12 ct, e_ar a n cI 13 nw, e_ar a n cI 14 nx, e_ar a n cI 15 mc, e_ar a n cI 16 mr, e_ar a n cI 17 mf] → lv_has ls 4 [(0, .ref (tb 2).1), (1, .ref (a 0)), (2, .ref (a 7)), (3, .int y3)] → wp_Law_law_38 n tb Pic_width Pic_height Pic_stride Rows_rowLength Mod_width Mod_height ct post N Out_size Out_gathered Out_gatheredBits Chk_start Pak_singles Pak_runs Pak_longest Fin_chained Fin_length Fin_distance Mod_thrown Mod_many Mod_size Mod_bit Mod_single Mod_runs Mod_longest pb rb fl ob nw nx mc mr mf y3 → W p l e room_1 s m #[Value.ref (tb 2).1] below meth c H locs 18 48654 (lw_Z below #[Value.ref (tb 2).1] s) (F0 m 38 ls []) := by
  obtain ⟨hx, hb, hml, hown, hts⟩ := id E
  intro N
  induction N with
  | zero =>
    intro _ _ _ _ _ _ _ _ _ _ _ _ _ _ _ _ _ _ _ _ _ _ _ _ _ _ _ H locs ls hw hl h
    exact absurd h id
  | succ N ih =>
    intro Out_size Out_gathered Out_gatheredBits Chk_start Pak_singles Pak_runs Pak_longest Fin_chained Fin_length Fin_distance Mod_thrown Mod_many Mod_size Mod_bit Mod_single Mod_runs Mod_longest pb rb fl ob nw nx mc mr mf y3 H locs ls hw hl h
    unfold wp_Law_law_38 at h
    refine lv_iload_n hx hb d_Law_law_38 rfl (lv_at hl 3 rfl) ?_
    refine lv_aload_n hx hb d_Law_law_39 rfl (lv_at hl 0 rfl) ?_
    refine ktlen (K := 2) E hw (by decide) d_Law_law_40 ?_
    refine lv_iconst (v := 5) hx hb d_Law_law_41 (by decide) ?_
    refine lv_isub hx hb d_Law_law_42 ?_
    refine lv_icmp_gt (tgt := 313) hx hb d_Law_law_43 (by decide) (fun c15 => ?_) (fun c15 => ?_)
    · have h := h.1 c15
      refine lv_iconst (v := 1) hx hb d_Law_law_313 (by decide) ?_
      refine va_forget (fun q hq => hw.2.2.2.1.2.2 q hq) ?_
      refine W.widen (k := 600000) (n := 7302250) (Nat.le_of_ble_eq_true rfl) (Nat.le_of_ble_eq_true rfl) ?_
      exact lw_ret hx hb hr hlk d_Law_law_314
    · have h := h.2 c15
      refine lv_aload_n hx hb d_Law_law_46 rfl (lv_at hl 0 rfl) ?_
      refine lv_iload_n hx hb d_Law_law_47 rfl (lv_at hl 3 rfl) ?_
      obtain ⟨b16, h⟩ := h
      refine ktld (K := 2) E hw (by decide) b16 d_Law_law_48 ?_
      refine lv_bipush (v := 7) hx hb d_Law_law_49 (by decide) ?_
      refine lv_iand hx hb d_Law_law_51 ?_
      refine lv_topi (fun z17 ez17 => ?_)
      have h := h z17 ez17
      by_cases c30 : (z17 : Int32) = 0
      · have h := h.1 c30
        refine lv_tableIn (tgt := 96) (off := 44) hx hb d_Law_law_52 (by rw [c30]; decide) (by rw [c30]; decide) (by rw [c30]; decide) (by decide) ?_
        refine lv_aload_n hx hb d_Law_law_96 rfl (lv_at hl 1 rfl) ?_
        refine lv_aload_n hx hb d_Law_law_97 rfl (lv_at hl 0 rfl) ?_
        refine lv_iload_n hx hb d_Law_law_98 rfl (lv_at hl 3 rfl) ?_
        refine lv_iconst (v := 1) hx hb d_Law_law_99 (by decide) ?_
        refine lv_iadd hx hb d_Law_law_100 ?_
        obtain ⟨b18, h⟩ := h
        refine ktld (K := 2) E hw (by decide) b18 d_Law_law_101 ?_
        refine lv_aload_n hx hb d_Law_law_102 rfl (lv_at hl 0 rfl) ?_
        refine lv_iload_n hx hb d_Law_law_103 rfl (lv_at hl 3 rfl) ?_
        refine lv_iconst (v := 2) hx hb d_Law_law_104 (by decide) ?_
        refine lv_iadd hx hb d_Law_law_105 ?_
        obtain ⟨b19, h⟩ := h
        refine ktld (K := 2) E hw (by decide) b19 d_Law_law_106 ?_
        refine lv_aload_n hx hb d_Law_law_107 rfl (lv_at hl 0 rfl) ?_
        refine lv_iload_n hx hb d_Law_law_108 rfl (lv_at hl 3 rfl) ?_
        refine lv_iconst (v := 3) hx hb d_Law_law_109 (by decide) ?_
        refine lv_iadd hx hb d_Law_law_110 ?_
        obtain ⟨b20, h⟩ := h
        refine ktld (K := 2) E hw (by decide) b20 d_Law_law_111 ?_
        refine kVi (y := y_PP_set) (ws' := fun u21 => [e_PP a, e_Pic a Pic_width Pic_height Pic_stride, e_Rows a Rows_rowLength, e_Out a Out_size Out_gathered Out_gatheredBits, e_Chk a Chk_start, e_Pak a Pak_singles Pak_runs Pak_longest, e_Fin a Fin_chained Fin_length Fin_distance, e_Mod a Mod_thrown Mod_width Mod_height Mod_many Mod_size Mod_bit Mod_single Mod_runs Mod_longest, e_ar a n cI 8 u21, e_ar a n cI 9 rb, e_ar a n cI 10 fl, e_ar a n cI 11 ob, e_ar a n cI 12 ct, e_ar a n cI 13 nw, e_ar a n cI 14 nx, e_ar a n cI 15 mc, e_ar a n cI 16 mr, e_ar a n cI 17 mf]) (wr := [e_Rows a Rows_rowLength, e_Out a Out_size Out_gathered Out_gatheredBits, e_Chk a Chk_start, e_Pak a Pak_singles Pak_runs Pak_longest, e_Fin a Fin_chained Fin_length Fin_distance, e_Mod a Mod_thrown Mod_width Mod_height Mod_many Mod_size Mod_bit Mod_single Mod_runs Mod_longest, e_ar a n cI 9 rb, e_ar a n cI 10 fl, e_ar a n cI 11 ob, e_ar a n cI 12 ct, e_ar a n cI 13 nw, e_ar a n cI 14 nx, e_ar a n cI 15 mc, e_ar a n cI 16 mr, e_ar a n cI 17 mf]) (As := [.int ((tb 2).2.2 (y3 + 1 : Int32).toNatClampNeg), .int ((tb 2).2.2 (y3 + 2 : Int32).toNatClampNeg), .int ((tb 2).2.2 (y3 + 3 : Int32).toNatClampNeg)]) (rest := []) E hw (c_PP_set (l := l) (dC := dC) (dI := dI) (cI := cI) (tb := tb) (a := a) (n := n) (Pic_width := Pic_width) (Pic_height := Pic_height) (Pic_stride := Pic_stride) (pb := pb) (x1 := (tb 2).2.2 (y3 + 1 : Int32).toNatClampNeg) (x2 := (tb 2).2.2 (y3 + 2 : Int32).toNatClampNeg) (x3 := (tb 2).2.2 (y3 + 3 : Int32).toNatClampNeg) h) tw225 tw226 tw227 tw33 tw228 3 (by decide) ⟨Nat.le_of_ble_eq_true rfl, Nat.le_of_ble_eq_true rfl⟩ ⟨Nat.le_of_ble_eq_true rfl, Nat.le_of_ble_eq_true rfl⟩ ⟨rfl, rfl⟩ rfl rfl 0 rfl [0, 1, 8] [2, 3, 4, 5, 6, 7, 9, 10, 11, 12, 13, 14, 15, 16, 17] [15, 16, 0, 1, 2, 3, 4, 5, 17, 6, 7, 8, 9, 10, 11, 12, 13, 14] rfl rfl rfl rfl (by decide) rfl (fun _ => rfl) hl.1 rfl rfl (Nat.le_of_ble_eq_true rfl) d_Law_law_112 (fun r22 u21 H locs h hw => ?_)
        refine lv_aload_n hx hb d_Law_law_115 rfl (lv_at hl 2 rfl) ?_
        refine lv_aload_n hx hb d_Law_law_116 rfl (lv_at hl 0 rfl) ?_
        refine lv_iload_n hx hb d_Law_law_117 rfl (lv_at hl 3 rfl) ?_
        refine lv_iconst (v := 1) hx hb d_Law_law_118 (by decide) ?_
        refine lv_iadd hx hb d_Law_law_119 ?_
        obtain ⟨b23, h⟩ := h
        refine ktld (K := 2) E hw (by decide) b23 d_Law_law_120 ?_
        refine lv_aload_n hx hb d_Law_law_121 rfl (lv_at hl 0 rfl) ?_
        refine lv_iload_n hx hb d_Law_law_122 rfl (lv_at hl 3 rfl) ?_
        refine lv_iconst (v := 2) hx hb d_Law_law_123 (by decide) ?_
        refine lv_iadd hx hb d_Law_law_124 ?_
        obtain ⟨b24, h⟩ := h
        refine ktld (K := 2) E hw (by decide) b24 d_Law_law_125 ?_
        refine lv_aload_n hx hb d_Law_law_126 rfl (lv_at hl 0 rfl) ?_
        refine lv_iload_n hx hb d_Law_law_127 rfl (lv_at hl 3 rfl) ?_
        refine lv_iconst (v := 3) hx hb d_Law_law_128 (by decide) ?_
        refine lv_iadd hx hb d_Law_law_129 ?_
        obtain ⟨b25, h⟩ := h
        refine ktld (K := 2) E hw (by decide) b25 d_Law_law_130 ?_
        refine kVi (y := y_Mod_set) (ws' := fun u26 => [e_PP a, e_Pic a Pic_width Pic_height Pic_stride, e_Rows a Rows_rowLength, e_Out a Out_size Out_gathered Out_gatheredBits, e_Chk a Chk_start, e_Pak a Pak_singles Pak_runs Pak_longest, e_Fin a Fin_chained Fin_length Fin_distance, e_Mod a u26.1 Mod_width Mod_height Mod_many Mod_size Mod_bit Mod_single Mod_runs Mod_longest, e_ar a n cI 8 u21, e_ar a n cI 9 rb, e_ar a n cI 10 fl, e_ar a n cI 11 ob, e_ar a n cI 12 ct, e_ar a n cI 13 nw, e_ar a n cI 14 nx, e_ar a n cI 15 u26.2, e_ar a n cI 16 mr, e_ar a n cI 17 mf]) (wr := [e_PP a, e_Pic a Pic_width Pic_height Pic_stride, e_Rows a Rows_rowLength, e_Out a Out_size Out_gathered Out_gatheredBits, e_Chk a Chk_start, e_Pak a Pak_singles Pak_runs Pak_longest, e_Fin a Fin_chained Fin_length Fin_distance, e_ar a n cI 8 u21, e_ar a n cI 9 rb, e_ar a n cI 10 fl, e_ar a n cI 11 ob, e_ar a n cI 12 ct, e_ar a n cI 13 nw, e_ar a n cI 14 nx, e_ar a n cI 16 mr, e_ar a n cI 17 mf]) (As := [.int ((tb 2).2.2 (y3 + 1 : Int32).toNatClampNeg), .int ((tb 2).2.2 (y3 + 2 : Int32).toNatClampNeg), .int ((tb 2).2.2 (y3 + 3 : Int32).toNatClampNeg)]) (rest := [.int r22]) E hw (c_Mod_set (l := l) (dC := dC) (dI := dI) (cI := cI) (tb := tb) (a := a) (n := n) (Mod_thrown := Mod_thrown) (Mod_width := Mod_width) (Mod_height := Mod_height) (Mod_many := Mod_many) (Mod_size := Mod_size) (Mod_bit := Mod_bit) (Mod_single := Mod_single) (Mod_runs := Mod_runs) (Mod_longest := Mod_longest) (mc := mc) (x1 := (tb 2).2.2 (y3 + 1 : Int32).toNatClampNeg) (x2 := (tb 2).2.2 (y3 + 2 : Int32).toNatClampNeg) (x3 := (tb 2).2.2 (y3 + 3 : Int32).toNatClampNeg) h) tw466 tw467 tw468 tw42 tw469 3 (by decide) ⟨Nat.le_of_ble_eq_true rfl, Nat.le_of_ble_eq_true rfl⟩ ⟨Nat.le_of_ble_eq_true rfl, Nat.le_of_ble_eq_true rfl⟩ ⟨rfl, rfl⟩ rfl rfl 7 rfl [7, 15] [0, 1, 2, 3, 4, 5, 6, 8, 9, 10, 11, 12, 13, 14, 16, 17] [0, 1, 2, 3, 4, 5, 6, 16, 7, 8, 9, 10, 11, 12, 13, 17, 14, 15] rfl rfl rfl rfl (by decide) rfl (fun _ => rfl) hl.1 rfl rfl (Nat.le_of_ble_eq_true rfl) d_Law_law_131 (fun r27 u26 H locs h hw => ?_)
        refine lv_icmp_eq (tgt := 307) hx hb d_Law_law_134 (by decide) (fun c28 => ?_) (fun c28 => ?_)
        · have h := h.1 c28
          obtain ⟨z29, ez29⟩ : ∃ z : Int32, z = y3 + 5 := ⟨_, rfl⟩
          have h := h z29 ez29
          refine lv_iinc (v := z29) (lv' := [(3, .int z29), (0, .ref (tb 2).1), (1, .ref (a 0)), (2, .ref (a 7))]) hx hb d_Law_law_307 hl (k := 3) rfl (by rw [ez29]; exact congrArg (y3 + ·) (by decide)) (by decide) rfl (fun ls hl => ?_)
          refine lv_goto (tgt := 38) hx hb d_Law_law_310 (by decide) ?_
          exact ih Out_size Out_gathered Out_gatheredBits Chk_start Pak_singles Pak_runs Pak_longest Fin_chained Fin_length Fin_distance u26.1 Mod_many Mod_size Mod_bit Mod_single Mod_runs Mod_longest u21 rb fl ob nw nx u26.2 mr mf z29 _ _ ls hw (lv_sub hl [1, 2, 3, 0] rfl) h
        · have h := h.2 c28
          refine lv_iconst (v := 0) hx hb d_Law_law_137 (by decide) ?_
          exact absurd h id
      · skip
        by_cases c45 : (z17 : Int32) = 1
        · have h := h.2.1 c45
          refine lv_tableIn (tgt := 139) (off := 87) hx hb d_Law_law_52 (by rw [c45]; decide) (by rw [c45]; decide) (by rw [c45]; decide) (by decide) ?_
          refine lv_aload_n hx hb d_Law_law_139 rfl (lv_at hl 1 rfl) ?_
          refine lv_aload_n hx hb d_Law_law_140 rfl (lv_at hl 0 rfl) ?_
          refine lv_iload_n hx hb d_Law_law_141 rfl (lv_at hl 3 rfl) ?_
          refine lv_iconst (v := 1) hx hb d_Law_law_142 (by decide) ?_
          refine lv_iadd hx hb d_Law_law_143 ?_
          obtain ⟨b31, h⟩ := h
          refine ktld (K := 2) E hw (by decide) b31 d_Law_law_144 ?_
          refine lv_aload_n hx hb d_Law_law_145 rfl (lv_at hl 0 rfl) ?_
          refine lv_iload_n hx hb d_Law_law_146 rfl (lv_at hl 3 rfl) ?_
          refine lv_iconst (v := 2) hx hb d_Law_law_147 (by decide) ?_
          refine lv_iadd hx hb d_Law_law_148 ?_
          obtain ⟨b32, h⟩ := h
          refine ktld (K := 2) E hw (by decide) b32 d_Law_law_149 ?_
          refine lv_aload_n hx hb d_Law_law_150 rfl (lv_at hl 0 rfl) ?_
          refine lv_iload_n hx hb d_Law_law_151 rfl (lv_at hl 3 rfl) ?_
          refine lv_iconst (v := 3) hx hb d_Law_law_152 (by decide) ?_
          refine lv_iadd hx hb d_Law_law_153 ?_
          obtain ⟨b33, h⟩ := h
          refine ktld (K := 2) E hw (by decide) b33 d_Law_law_154 ?_
          refine lv_aload_n hx hb d_Law_law_155 rfl (lv_at hl 0 rfl) ?_
          refine lv_iload_n hx hb d_Law_law_156 rfl (lv_at hl 3 rfl) ?_
          refine lv_iconst (v := 4) hx hb d_Law_law_157 (by decide) ?_
          refine lv_iadd hx hb d_Law_law_158 ?_
          obtain ⟨b34, h⟩ := h
          refine ktld (K := 2) E hw (by decide) b34 d_Law_law_159 ?_
          refine kVi (y := y_PP_fill) (ws' := fun u35 => [e_PP a, e_Pic a Pic_width Pic_height Pic_stride, e_Rows a Rows_rowLength, e_Out a Out_size Out_gathered Out_gatheredBits, e_Chk a Chk_start, e_Pak a Pak_singles Pak_runs Pak_longest, e_Fin a Fin_chained Fin_length Fin_distance, e_Mod a Mod_thrown Mod_width Mod_height Mod_many Mod_size Mod_bit Mod_single Mod_runs Mod_longest, e_ar a n cI 8 u35, e_ar a n cI 9 rb, e_ar a n cI 10 fl, e_ar a n cI 11 ob, e_ar a n cI 12 ct, e_ar a n cI 13 nw, e_ar a n cI 14 nx, e_ar a n cI 15 mc, e_ar a n cI 16 mr, e_ar a n cI 17 mf]) (wr := [e_Rows a Rows_rowLength, e_Out a Out_size Out_gathered Out_gatheredBits, e_Chk a Chk_start, e_Pak a Pak_singles Pak_runs Pak_longest, e_Fin a Fin_chained Fin_length Fin_distance, e_Mod a Mod_thrown Mod_width Mod_height Mod_many Mod_size Mod_bit Mod_single Mod_runs Mod_longest, e_ar a n cI 9 rb, e_ar a n cI 10 fl, e_ar a n cI 11 ob, e_ar a n cI 12 ct, e_ar a n cI 13 nw, e_ar a n cI 14 nx, e_ar a n cI 15 mc, e_ar a n cI 16 mr, e_ar a n cI 17 mf]) (As := [.int ((tb 2).2.2 (y3 + 1 : Int32).toNatClampNeg), .int ((tb 2).2.2 (y3 + 2 : Int32).toNatClampNeg), .int ((tb 2).2.2 (y3 + 3 : Int32).toNatClampNeg), .int ((tb 2).2.2 (y3 + 4 : Int32).toNatClampNeg)]) (rest := []) E hw (c_PP_fill (l := l) (dC := dC) (dI := dI) (cI := cI) (tb := tb) (a := a) (n := n) (Pic_width := Pic_width) (Pic_height := Pic_height) (Pic_stride := Pic_stride) (pb := pb) (x1 := (tb 2).2.2 (y3 + 1 : Int32).toNatClampNeg) (x2 := (tb 2).2.2 (y3 + 2 : Int32).toNatClampNeg) (x3 := (tb 2).2.2 (y3 + 3 : Int32).toNatClampNeg) (x4 := (tb 2).2.2 (y3 + 4 : Int32).toNatClampNeg) h) tw241 tw242 tw243 tw33 tw244 4 (by decide) ⟨Nat.le_of_ble_eq_true rfl, Nat.le_of_ble_eq_true rfl⟩ ⟨Nat.le_of_ble_eq_true rfl, Nat.le_of_ble_eq_true rfl⟩ ⟨rfl, rfl⟩ rfl rfl 0 rfl [0, 1, 8] [2, 3, 4, 5, 6, 7, 9, 10, 11, 12, 13, 14, 15, 16, 17] [15, 16, 0, 1, 2, 3, 4, 5, 17, 6, 7, 8, 9, 10, 11, 12, 13, 14] rfl rfl rfl rfl (by decide) rfl (fun _ => rfl) hl.1 rfl rfl (Nat.le_of_ble_eq_true rfl) d_Law_law_160 (fun r36 u35 H locs h hw => ?_)
          refine lv_aload_n hx hb d_Law_law_163 rfl (lv_at hl 2 rfl) ?_
          refine lv_aload_n hx hb d_Law_law_164 rfl (lv_at hl 0 rfl) ?_
          refine lv_iload_n hx hb d_Law_law_165 rfl (lv_at hl 3 rfl) ?_
          refine lv_iconst (v := 1) hx hb d_Law_law_166 (by decide) ?_
          refine lv_iadd hx hb d_Law_law_167 ?_
          obtain ⟨b37, h⟩ := h
          refine ktld (K := 2) E hw (by decide) b37 d_Law_law_168 ?_
          refine lv_aload_n hx hb d_Law_law_169 rfl (lv_at hl 0 rfl) ?_
          refine lv_iload_n hx hb d_Law_law_170 rfl (lv_at hl 3 rfl) ?_
          refine lv_iconst (v := 2) hx hb d_Law_law_171 (by decide) ?_
          refine lv_iadd hx hb d_Law_law_172 ?_
          obtain ⟨b38, h⟩ := h
          refine ktld (K := 2) E hw (by decide) b38 d_Law_law_173 ?_
          refine lv_aload_n hx hb d_Law_law_174 rfl (lv_at hl 0 rfl) ?_
          refine lv_iload_n hx hb d_Law_law_175 rfl (lv_at hl 3 rfl) ?_
          refine lv_iconst (v := 3) hx hb d_Law_law_176 (by decide) ?_
          refine lv_iadd hx hb d_Law_law_177 ?_
          obtain ⟨b39, h⟩ := h
          refine ktld (K := 2) E hw (by decide) b39 d_Law_law_178 ?_
          refine lv_aload_n hx hb d_Law_law_179 rfl (lv_at hl 0 rfl) ?_
          refine lv_iload_n hx hb d_Law_law_180 rfl (lv_at hl 3 rfl) ?_
          refine lv_iconst (v := 4) hx hb d_Law_law_181 (by decide) ?_
          refine lv_iadd hx hb d_Law_law_182 ?_
          obtain ⟨b40, h⟩ := h
          refine ktld (K := 2) E hw (by decide) b40 d_Law_law_183 ?_
          refine kVi (y := y_Mod_fill) (ws' := fun u41 => [e_PP a, e_Pic a Pic_width Pic_height Pic_stride, e_Rows a Rows_rowLength, e_Out a Out_size Out_gathered Out_gatheredBits, e_Chk a Chk_start, e_Pak a Pak_singles Pak_runs Pak_longest, e_Fin a Fin_chained Fin_length Fin_distance, e_Mod a u41.1 Mod_width Mod_height Mod_many Mod_size Mod_bit Mod_single Mod_runs Mod_longest, e_ar a n cI 8 u35, e_ar a n cI 9 rb, e_ar a n cI 10 fl, e_ar a n cI 11 ob, e_ar a n cI 12 ct, e_ar a n cI 13 nw, e_ar a n cI 14 nx, e_ar a n cI 15 u41.2, e_ar a n cI 16 mr, e_ar a n cI 17 mf]) (wr := [e_PP a, e_Pic a Pic_width Pic_height Pic_stride, e_Rows a Rows_rowLength, e_Out a Out_size Out_gathered Out_gatheredBits, e_Chk a Chk_start, e_Pak a Pak_singles Pak_runs Pak_longest, e_Fin a Fin_chained Fin_length Fin_distance, e_ar a n cI 8 u35, e_ar a n cI 9 rb, e_ar a n cI 10 fl, e_ar a n cI 11 ob, e_ar a n cI 12 ct, e_ar a n cI 13 nw, e_ar a n cI 14 nx, e_ar a n cI 16 mr, e_ar a n cI 17 mf]) (As := [.int ((tb 2).2.2 (y3 + 1 : Int32).toNatClampNeg), .int ((tb 2).2.2 (y3 + 2 : Int32).toNatClampNeg), .int ((tb 2).2.2 (y3 + 3 : Int32).toNatClampNeg), .int ((tb 2).2.2 (y3 + 4 : Int32).toNatClampNeg)]) (rest := [.int r36]) E hw (c_Mod_fill (l := l) (dC := dC) (dI := dI) (cI := cI) (tb := tb) (a := a) (n := n) (Mod_thrown := Mod_thrown) (Mod_width := Mod_width) (Mod_height := Mod_height) (Mod_many := Mod_many) (Mod_size := Mod_size) (Mod_bit := Mod_bit) (Mod_single := Mod_single) (Mod_runs := Mod_runs) (Mod_longest := Mod_longest) (mc := mc) (x1 := (tb 2).2.2 (y3 + 1 : Int32).toNatClampNeg) (x2 := (tb 2).2.2 (y3 + 2 : Int32).toNatClampNeg) (x3 := (tb 2).2.2 (y3 + 3 : Int32).toNatClampNeg) (x4 := (tb 2).2.2 (y3 + 4 : Int32).toNatClampNeg) h) tw475 tw476 tw477 tw42 tw478 4 (by decide) ⟨Nat.le_of_ble_eq_true rfl, Nat.le_of_ble_eq_true rfl⟩ ⟨Nat.le_of_ble_eq_true rfl, Nat.le_of_ble_eq_true rfl⟩ ⟨rfl, rfl⟩ rfl rfl 7 rfl [7, 15] [0, 1, 2, 3, 4, 5, 6, 8, 9, 10, 11, 12, 13, 14, 16, 17] [0, 1, 2, 3, 4, 5, 6, 16, 7, 8, 9, 10, 11, 12, 13, 17, 14, 15] rfl rfl rfl rfl (by decide) rfl (fun _ => rfl) hl.1 rfl rfl (Nat.le_of_ble_eq_true rfl) d_Law_law_184 (fun r42 u41 H locs h hw => ?_)
          refine lv_icmp_eq (tgt := 307) hx hb d_Law_law_187 (by decide) (fun c43 => ?_) (fun c43 => ?_)
          · have h := h.1 c43
            obtain ⟨z44, ez44⟩ : ∃ z : Int32, z = y3 + 5 := ⟨_, rfl⟩
            have h := h z44 ez44
            refine lv_iinc (v := z44) (lv' := [(3, .int z44), (0, .ref (tb 2).1), (1, .ref (a 0)), (2, .ref (a 7))]) hx hb d_Law_law_307 hl (k := 3) rfl (by rw [ez44]; exact congrArg (y3 + ·) (by decide)) (by decide) rfl (fun ls hl => ?_)
            refine lv_goto (tgt := 38) hx hb d_Law_law_310 (by decide) ?_
            exact ih Out_size Out_gathered Out_gatheredBits Chk_start Pak_singles Pak_runs Pak_longest Fin_chained Fin_length Fin_distance u41.1 Mod_many Mod_size Mod_bit Mod_single Mod_runs Mod_longest u35 rb fl ob nw nx u41.2 mr mf z44 _ _ ls hw (lv_sub hl [1, 2, 3, 0] rfl) h
          · have h := h.2 c43
            refine lv_iconst (v := 0) hx hb d_Law_law_190 (by decide) ?_
            exact absurd h id
        · skip
          by_cases c56 : (z17 : Int32) = 2
          · have h := h.2.2.1 c56
            refine lv_tableIn (tgt := 192) (off := 140) hx hb d_Law_law_52 (by rw [c56]; decide) (by rw [c56]; decide) (by rw [c56]; decide) (by decide) ?_
            refine lv_aload_n hx hb d_Law_law_192 rfl (lv_at hl 1 rfl) ?_
            refine lv_aload_n hx hb d_Law_law_193 rfl (lv_at hl 0 rfl) ?_
            refine lv_iload_n hx hb d_Law_law_194 rfl (lv_at hl 3 rfl) ?_
            refine lv_iconst (v := 1) hx hb d_Law_law_195 (by decide) ?_
            refine lv_iadd hx hb d_Law_law_196 ?_
            obtain ⟨b46, h⟩ := h
            refine ktld (K := 2) E hw (by decide) b46 d_Law_law_197 ?_
            refine lv_aload_n hx hb d_Law_law_198 rfl (lv_at hl 0 rfl) ?_
            refine lv_iload_n hx hb d_Law_law_199 rfl (lv_at hl 3 rfl) ?_
            refine lv_iconst (v := 2) hx hb d_Law_law_200 (by decide) ?_
            refine lv_iadd hx hb d_Law_law_201 ?_
            obtain ⟨b47, h⟩ := h
            refine ktld (K := 2) E hw (by decide) b47 d_Law_law_202 ?_
            refine kVi (y := y_PP_pixel) (ws' := fun _ => [e_PP a, e_Pic a Pic_width Pic_height Pic_stride, e_Rows a Rows_rowLength, e_Out a Out_size Out_gathered Out_gatheredBits, e_Chk a Chk_start, e_Pak a Pak_singles Pak_runs Pak_longest, e_Fin a Fin_chained Fin_length Fin_distance, e_Mod a Mod_thrown Mod_width Mod_height Mod_many Mod_size Mod_bit Mod_single Mod_runs Mod_longest, e_ar a n cI 8 pb, e_ar a n cI 9 rb, e_ar a n cI 10 fl, e_ar a n cI 11 ob, e_ar a n cI 12 ct, e_ar a n cI 13 nw, e_ar a n cI 14 nx, e_ar a n cI 15 mc, e_ar a n cI 16 mr, e_ar a n cI 17 mf]) (wr := [e_Rows a Rows_rowLength, e_Out a Out_size Out_gathered Out_gatheredBits, e_Chk a Chk_start, e_Pak a Pak_singles Pak_runs Pak_longest, e_Fin a Fin_chained Fin_length Fin_distance, e_Mod a Mod_thrown Mod_width Mod_height Mod_many Mod_size Mod_bit Mod_single Mod_runs Mod_longest, e_ar a n cI 9 rb, e_ar a n cI 10 fl, e_ar a n cI 11 ob, e_ar a n cI 12 ct, e_ar a n cI 13 nw, e_ar a n cI 14 nx, e_ar a n cI 15 mc, e_ar a n cI 16 mr, e_ar a n cI 17 mf]) (As := [.int ((tb 2).2.2 (y3 + 1 : Int32).toNatClampNeg), .int ((tb 2).2.2 (y3 + 2 : Int32).toNatClampNeg)]) (rest := []) E hw (c_PP_pixel (l := l) (dC := dC) (dI := dI) (cI := cI) (tb := tb) (a := a) (n := n) (Pic_width := Pic_width) (Pic_height := Pic_height) (Pic_stride := Pic_stride) (pb := pb) (x1 := (tb 2).2.2 (y3 + 1 : Int32).toNatClampNeg) (x2 := (tb 2).2.2 (y3 + 2 : Int32).toNatClampNeg) h) tw245 tw246 tw247 tw33 tw248 2 (by decide) ⟨Nat.le_of_ble_eq_true rfl, Nat.le_of_ble_eq_true rfl⟩ ⟨Nat.le_of_ble_eq_true rfl, Nat.le_of_ble_eq_true rfl⟩ ⟨rfl, rfl⟩ rfl rfl 0 rfl [0, 1, 8] [2, 3, 4, 5, 6, 7, 9, 10, 11, 12, 13, 14, 15, 16, 17] [15, 16, 0, 1, 2, 3, 4, 5, 17, 6, 7, 8, 9, 10, 11, 12, 13, 14] rfl rfl rfl rfl (by decide) rfl (fun _ => rfl) hl.1 rfl rfl (Nat.le_of_ble_eq_true rfl) d_Law_law_203 (fun r49 u48 H locs h hw => ?_)
            refine lv_aload_n hx hb d_Law_law_206 rfl (lv_at hl 2 rfl) ?_
            refine lv_aload_n hx hb d_Law_law_207 rfl (lv_at hl 0 rfl) ?_
            refine lv_iload_n hx hb d_Law_law_208 rfl (lv_at hl 3 rfl) ?_
            refine lv_iconst (v := 1) hx hb d_Law_law_209 (by decide) ?_
            refine lv_iadd hx hb d_Law_law_210 ?_
            obtain ⟨b50, h⟩ := h
            refine ktld (K := 2) E hw (by decide) b50 d_Law_law_211 ?_
            refine lv_aload_n hx hb d_Law_law_212 rfl (lv_at hl 0 rfl) ?_
            refine lv_iload_n hx hb d_Law_law_213 rfl (lv_at hl 3 rfl) ?_
            refine lv_iconst (v := 2) hx hb d_Law_law_214 (by decide) ?_
            refine lv_iadd hx hb d_Law_law_215 ?_
            obtain ⟨b51, h⟩ := h
            refine ktld (K := 2) E hw (by decide) b51 d_Law_law_216 ?_
            refine kVi (y := y_Mod_pixel) (ws' := fun u52 => [e_PP a, e_Pic a Pic_width Pic_height Pic_stride, e_Rows a Rows_rowLength, e_Out a Out_size Out_gathered Out_gatheredBits, e_Chk a Chk_start, e_Pak a Pak_singles Pak_runs Pak_longest, e_Fin a Fin_chained Fin_length Fin_distance, e_Mod a u52 Mod_width Mod_height Mod_many Mod_size Mod_bit Mod_single Mod_runs Mod_longest, e_ar a n cI 8 pb, e_ar a n cI 9 rb, e_ar a n cI 10 fl, e_ar a n cI 11 ob, e_ar a n cI 12 ct, e_ar a n cI 13 nw, e_ar a n cI 14 nx, e_ar a n cI 15 mc, e_ar a n cI 16 mr, e_ar a n cI 17 mf]) (wr := [e_PP a, e_Pic a Pic_width Pic_height Pic_stride, e_Rows a Rows_rowLength, e_Out a Out_size Out_gathered Out_gatheredBits, e_Chk a Chk_start, e_Pak a Pak_singles Pak_runs Pak_longest, e_Fin a Fin_chained Fin_length Fin_distance, e_ar a n cI 8 pb, e_ar a n cI 9 rb, e_ar a n cI 10 fl, e_ar a n cI 11 ob, e_ar a n cI 12 ct, e_ar a n cI 13 nw, e_ar a n cI 14 nx, e_ar a n cI 16 mr, e_ar a n cI 17 mf]) (As := [.int ((tb 2).2.2 (y3 + 1 : Int32).toNatClampNeg), .int ((tb 2).2.2 (y3 + 2 : Int32).toNatClampNeg)]) (rest := [.int r49]) E hw (c_Mod_pixel (l := l) (dC := dC) (dI := dI) (cI := cI) (tb := tb) (a := a) (n := n) (Mod_thrown := Mod_thrown) (Mod_width := Mod_width) (Mod_height := Mod_height) (Mod_many := Mod_many) (Mod_size := Mod_size) (Mod_bit := Mod_bit) (Mod_single := Mod_single) (Mod_runs := Mod_runs) (Mod_longest := Mod_longest) (mc := mc) (x1 := (tb 2).2.2 (y3 + 1 : Int32).toNatClampNeg) (x2 := (tb 2).2.2 (y3 + 2 : Int32).toNatClampNeg) h) tw479 tw480 tw481 tw42 tw482 2 (by decide) ⟨Nat.le_of_ble_eq_true rfl, Nat.le_of_ble_eq_true rfl⟩ ⟨Nat.le_of_ble_eq_true rfl, Nat.le_of_ble_eq_true rfl⟩ ⟨rfl, rfl⟩ rfl rfl 7 rfl [7, 15] [0, 1, 2, 3, 4, 5, 6, 8, 9, 10, 11, 12, 13, 14, 16, 17] [0, 1, 2, 3, 4, 5, 6, 16, 7, 8, 9, 10, 11, 12, 13, 17, 14, 15] rfl rfl rfl rfl (by decide) rfl (fun _ => rfl) hl.1 rfl rfl (Nat.le_of_ble_eq_true rfl) d_Law_law_217 (fun r53 u52 H locs h hw => ?_)
            refine lv_icmp_eq (tgt := 307) hx hb d_Law_law_220 (by decide) (fun c54 => ?_) (fun c54 => ?_)
            · have h := h.1 c54
              obtain ⟨z55, ez55⟩ : ∃ z : Int32, z = y3 + 5 := ⟨_, rfl⟩
              have h := h z55 ez55
              refine lv_iinc (v := z55) (lv' := [(3, .int z55), (0, .ref (tb 2).1), (1, .ref (a 0)), (2, .ref (a 7))]) hx hb d_Law_law_307 hl (k := 3) rfl (by rw [ez55]; exact congrArg (y3 + ·) (by decide)) (by decide) rfl (fun ls hl => ?_)
              refine lv_goto (tgt := 38) hx hb d_Law_law_310 (by decide) ?_
              exact ih Out_size Out_gathered Out_gatheredBits Chk_start Pak_singles Pak_runs Pak_longest Fin_chained Fin_length Fin_distance u52 Mod_many Mod_size Mod_bit Mod_single Mod_runs Mod_longest pb rb fl ob nw nx mc mr mf z55 _ _ ls hw (lv_sub hl [1, 2, 3, 0] rfl) h
            · have h := h.2 c54
              refine lv_iconst (v := 0) hx hb d_Law_law_223 (by decide) ?_
              exact absurd h id
          · skip
            by_cases c63 : (z17 : Int32) = 3
            · have h := h.2.2.2.1 c63
              refine lv_tableIn (tgt := 225) (off := 173) hx hb d_Law_law_52 (by rw [c63]; decide) (by rw [c63]; decide) (by rw [c63]; decide) (by decide) ?_
              refine lv_aload_n hx hb d_Law_law_225 rfl (lv_at hl 1 rfl) ?_
              refine kVi (y := y_PP_put) (ws' := fun u57 => [e_PP a, e_Pic a Pic_width Pic_height Pic_stride, e_Rows a Rows_rowLength, e_Out a u57.1 u57.2.1 u57.2.2.1, e_Chk a u57.2.2.2.1, e_Pak a u57.2.2.2.2.1 u57.2.2.2.2.2.1 u57.2.2.2.2.2.2.1, e_Fin a u57.2.2.2.2.2.2.2.1 u57.2.2.2.2.2.2.2.2.1 u57.2.2.2.2.2.2.2.2.2.1, e_Mod a Mod_thrown Mod_width Mod_height Mod_many Mod_size Mod_bit Mod_single Mod_runs Mod_longest, e_ar a n cI 8 pb, e_ar a n cI 9 u57.2.2.2.2.2.2.2.2.2.2.1, e_ar a n cI 10 u57.2.2.2.2.2.2.2.2.2.2.2.1, e_ar a n cI 11 u57.2.2.2.2.2.2.2.2.2.2.2.2.1, e_ar a n cI 12 ct, e_ar a n cI 13 u57.2.2.2.2.2.2.2.2.2.2.2.2.2.1, e_ar a n cI 14 u57.2.2.2.2.2.2.2.2.2.2.2.2.2.2, e_ar a n cI 15 mc, e_ar a n cI 16 mr, e_ar a n cI 17 mf]) (wr := [e_Mod a Mod_thrown Mod_width Mod_height Mod_many Mod_size Mod_bit Mod_single Mod_runs Mod_longest, e_ar a n cI 15 mc, e_ar a n cI 16 mr, e_ar a n cI 17 mf]) (As := []) (rest := []) E hw (c_PP_put (l := l) (dC := dC) (dI := dI) (cI := cI) (tb := tb) (a := a) (n := n) (Pic_width := Pic_width) (Pic_height := Pic_height) (Pic_stride := Pic_stride) (Rows_rowLength := Rows_rowLength) (Out_size := Out_size) (Out_gathered := Out_gathered) (Out_gatheredBits := Out_gatheredBits) (Chk_start := Chk_start) (Pak_singles := Pak_singles) (Pak_runs := Pak_runs) (Pak_longest := Pak_longest) (Fin_chained := Fin_chained) (Fin_length := Fin_length) (Fin_distance := Fin_distance) (pb := pb) (rb := rb) (fl := fl) (ob := ob) (ct := ct) (nw := nw) (nx := nx)  h) tw253 tw254 tw255 tw33 tw256 0 (by decide) ⟨Nat.le_of_ble_eq_true rfl, Nat.le_of_ble_eq_true rfl⟩ ⟨Nat.le_of_ble_eq_true rfl, Nat.le_of_ble_eq_true rfl⟩ ⟨rfl, rfl⟩ rfl rfl 0 rfl [0, 1, 2, 3, 4, 5, 6, 8, 9, 10, 11, 12, 13, 14] [7, 15, 16, 17] [4, 5, 6, 7, 8, 9, 10, 0, 11, 12, 13, 14, 15, 16, 17, 1, 2, 3] rfl rfl rfl rfl (by decide) rfl (fun _ => rfl) hl.1 rfl rfl (Nat.le_of_ble_eq_true rfl) d_Law_law_226 (fun r58 u57 H locs h hw => ?_)
              refine lv_aload_n hx hb d_Law_law_229 rfl (lv_at hl 2 rfl) ?_
              refine kVi (y := y_Mod_put) (ws' := fun u59 => [e_PP a, e_Pic a Pic_width Pic_height Pic_stride, e_Rows a Rows_rowLength, e_Out a u57.1 u57.2.1 u57.2.2.1, e_Chk a u57.2.2.2.1, e_Pak a u57.2.2.2.2.1 u57.2.2.2.2.2.1 u57.2.2.2.2.2.2.1, e_Fin a u57.2.2.2.2.2.2.2.1 u57.2.2.2.2.2.2.2.2.1 u57.2.2.2.2.2.2.2.2.2.1, e_Mod a u59.1 Mod_width Mod_height u59.2.1 u59.2.2.1 u59.2.2.2.1 u59.2.2.2.2.1 u59.2.2.2.2.2.1 u59.2.2.2.2.2.2.1, e_ar a n cI 8 pb, e_ar a n cI 9 u57.2.2.2.2.2.2.2.2.2.2.1, e_ar a n cI 10 u57.2.2.2.2.2.2.2.2.2.2.2.1, e_ar a n cI 11 u57.2.2.2.2.2.2.2.2.2.2.2.2.1, e_ar a n cI 12 ct, e_ar a n cI 13 u57.2.2.2.2.2.2.2.2.2.2.2.2.2.1, e_ar a n cI 14 u57.2.2.2.2.2.2.2.2.2.2.2.2.2.2, e_ar a n cI 15 mc, e_ar a n cI 16 u59.2.2.2.2.2.2.2.1, e_ar a n cI 17 u59.2.2.2.2.2.2.2.2]) (wr := [e_PP a, e_Pic a Pic_width Pic_height Pic_stride, e_Rows a Rows_rowLength, e_Out a u57.1 u57.2.1 u57.2.2.1, e_Chk a u57.2.2.2.1, e_Pak a u57.2.2.2.2.1 u57.2.2.2.2.2.1 u57.2.2.2.2.2.2.1, e_Fin a u57.2.2.2.2.2.2.2.1 u57.2.2.2.2.2.2.2.2.1 u57.2.2.2.2.2.2.2.2.2.1, e_ar a n cI 8 pb, e_ar a n cI 9 u57.2.2.2.2.2.2.2.2.2.2.1, e_ar a n cI 10 u57.2.2.2.2.2.2.2.2.2.2.2.1, e_ar a n cI 11 u57.2.2.2.2.2.2.2.2.2.2.2.2.1, e_ar a n cI 12 ct, e_ar a n cI 13 u57.2.2.2.2.2.2.2.2.2.2.2.2.2.1, e_ar a n cI 14 u57.2.2.2.2.2.2.2.2.2.2.2.2.2.2]) (As := []) (rest := [.int r58]) E hw (c_Mod_put (l := l) (dC := dC) (dI := dI) (cI := cI) (tb := tb) (a := a) (n := n) (Mod_thrown := Mod_thrown) (Mod_width := Mod_width) (Mod_height := Mod_height) (Mod_many := Mod_many) (Mod_size := Mod_size) (Mod_bit := Mod_bit) (Mod_single := Mod_single) (Mod_runs := Mod_runs) (Mod_longest := Mod_longest) (mc := mc) (mr := mr) (mf := mf)  h) tw483 tw484 tw485 tw42 tw486 0 (by decide) ⟨Nat.le_of_ble_eq_true rfl, Nat.le_of_ble_eq_true rfl⟩ ⟨Nat.le_of_ble_eq_true rfl, Nat.le_of_ble_eq_true rfl⟩ ⟨rfl, rfl⟩ rfl rfl 7 rfl [7, 15, 16, 17] [0, 1, 2, 3, 4, 5, 6, 8, 9, 10, 11, 12, 13, 14] [0, 1, 2, 3, 4, 5, 6, 14, 7, 8, 9, 10, 11, 12, 13, 15, 16, 17] rfl rfl rfl rfl (by decide) rfl (fun _ => rfl) hl.1 rfl rfl (Nat.le_of_ble_eq_true rfl) d_Law_law_230 (fun r60 u59 H locs h hw => ?_)
              refine lv_icmp_eq (tgt := 307) hx hb d_Law_law_233 (by decide) (fun c61 => ?_) (fun c61 => ?_)
              · have h := h.1 c61
                obtain ⟨z62, ez62⟩ : ∃ z : Int32, z = y3 + 5 := ⟨_, rfl⟩
                have h := h z62 ez62
                refine lv_iinc (v := z62) (lv' := [(3, .int z62), (0, .ref (tb 2).1), (1, .ref (a 0)), (2, .ref (a 7))]) hx hb d_Law_law_307 hl (k := 3) rfl (by rw [ez62]; exact congrArg (y3 + ·) (by decide)) (by decide) rfl (fun ls hl => ?_)
                refine lv_goto (tgt := 38) hx hb d_Law_law_310 (by decide) ?_
                exact ih u57.1 u57.2.1 u57.2.2.1 u57.2.2.2.1 u57.2.2.2.2.1 u57.2.2.2.2.2.1 u57.2.2.2.2.2.2.1 u57.2.2.2.2.2.2.2.1 u57.2.2.2.2.2.2.2.2.1 u57.2.2.2.2.2.2.2.2.2.1 u59.1 u59.2.1 u59.2.2.1 u59.2.2.2.1 u59.2.2.2.2.1 u59.2.2.2.2.2.1 u59.2.2.2.2.2.2.1 pb u57.2.2.2.2.2.2.2.2.2.2.1 u57.2.2.2.2.2.2.2.2.2.2.2.1 u57.2.2.2.2.2.2.2.2.2.2.2.2.1 u57.2.2.2.2.2.2.2.2.2.2.2.2.2.1 u57.2.2.2.2.2.2.2.2.2.2.2.2.2.2 mc u59.2.2.2.2.2.2.2.1 u59.2.2.2.2.2.2.2.2 z62 _ _ ls hw (lv_sub hl [1, 2, 3, 0] rfl) h
              · have h := h.2 c61
                refine lv_iconst (v := 0) hx hb d_Law_law_236 (by decide) ?_
                exact absurd h id
            · skip
              by_cases c72 : (z17 : Int32) = 4
              · have h := h.2.2.2.2.1 c72
                refine lv_tableIn (tgt := 238) (off := 186) hx hb d_Law_law_52 (by rw [c72]; decide) (by rw [c72]; decide) (by rw [c72]; decide) (by decide) ?_
                refine lv_aload_n hx hb d_Law_law_238 rfl (lv_at hl 1 rfl) ?_
                refine lv_aload_n hx hb d_Law_law_239 rfl (lv_at hl 0 rfl) ?_
                refine lv_iload_n hx hb d_Law_law_240 rfl (lv_at hl 3 rfl) ?_
                refine lv_iconst (v := 1) hx hb d_Law_law_241 (by decide) ?_
                refine lv_iadd hx hb d_Law_law_242 ?_
                obtain ⟨b64, h⟩ := h
                refine ktld (K := 2) E hw (by decide) b64 d_Law_law_243 ?_
                refine kVi (y := y_PP_byteAt) (ws' := fun _ => [e_PP a, e_Pic a Pic_width Pic_height Pic_stride, e_Rows a Rows_rowLength, e_Out a Out_size Out_gathered Out_gatheredBits, e_Chk a Chk_start, e_Pak a Pak_singles Pak_runs Pak_longest, e_Fin a Fin_chained Fin_length Fin_distance, e_Mod a Mod_thrown Mod_width Mod_height Mod_many Mod_size Mod_bit Mod_single Mod_runs Mod_longest, e_ar a n cI 8 pb, e_ar a n cI 9 rb, e_ar a n cI 10 fl, e_ar a n cI 11 ob, e_ar a n cI 12 ct, e_ar a n cI 13 nw, e_ar a n cI 14 nx, e_ar a n cI 15 mc, e_ar a n cI 16 mr, e_ar a n cI 17 mf]) (wr := [e_Pic a Pic_width Pic_height Pic_stride, e_Rows a Rows_rowLength, e_Chk a Chk_start, e_Pak a Pak_singles Pak_runs Pak_longest, e_Fin a Fin_chained Fin_length Fin_distance, e_Mod a Mod_thrown Mod_width Mod_height Mod_many Mod_size Mod_bit Mod_single Mod_runs Mod_longest, e_ar a n cI 8 pb, e_ar a n cI 9 rb, e_ar a n cI 10 fl, e_ar a n cI 12 ct, e_ar a n cI 13 nw, e_ar a n cI 14 nx, e_ar a n cI 15 mc, e_ar a n cI 16 mr, e_ar a n cI 17 mf]) (As := [.int ((tb 2).2.2 (y3 + 1 : Int32).toNatClampNeg)]) (rest := []) E hw (c_PP_byteAt (l := l) (dC := dC) (dI := dI) (cI := cI) (tb := tb) (a := a) (n := n) (Out_size := Out_size) (Out_gathered := Out_gathered) (Out_gatheredBits := Out_gatheredBits) (ob := ob) (x1 := (tb 2).2.2 (y3 + 1 : Int32).toNatClampNeg) h) tw408 tw409 tw410 tw33 tw411 1 (by decide) ⟨Nat.le_of_ble_eq_true rfl, Nat.le_of_ble_eq_true rfl⟩ ⟨Nat.le_of_ble_eq_true rfl, Nat.le_of_ble_eq_true rfl⟩ ⟨rfl, rfl⟩ rfl rfl 0 rfl [0, 3, 11] [1, 2, 4, 5, 6, 7, 8, 9, 10, 12, 13, 14, 15, 16, 17] [15, 0, 1, 16, 2, 3, 4, 5, 6, 7, 8, 17, 9, 10, 11, 12, 13, 14] rfl rfl rfl rfl (by decide) rfl (fun _ => rfl) hl.1 rfl rfl (Nat.le_of_ble_eq_true rfl) d_Law_law_244 (fun r66 u65 H locs h hw => ?_)
                refine lv_aload_n hx hb d_Law_law_247 rfl (lv_at hl 2 rfl) ?_
                refine lv_aload_n hx hb d_Law_law_248 rfl (lv_at hl 0 rfl) ?_
                refine lv_iload_n hx hb d_Law_law_249 rfl (lv_at hl 3 rfl) ?_
                refine lv_iconst (v := 1) hx hb d_Law_law_250 (by decide) ?_
                refine lv_iadd hx hb d_Law_law_251 ?_
                obtain ⟨b67, h⟩ := h
                refine ktld (K := 2) E hw (by decide) b67 d_Law_law_252 ?_
                refine kVi (y := y_Mod_byteAt) (ws' := fun u68 => [e_PP a, e_Pic a Pic_width Pic_height Pic_stride, e_Rows a Rows_rowLength, e_Out a Out_size Out_gathered Out_gatheredBits, e_Chk a Chk_start, e_Pak a Pak_singles Pak_runs Pak_longest, e_Fin a Fin_chained Fin_length Fin_distance, e_Mod a u68 Mod_width Mod_height Mod_many Mod_size Mod_bit Mod_single Mod_runs Mod_longest, e_ar a n cI 8 pb, e_ar a n cI 9 rb, e_ar a n cI 10 fl, e_ar a n cI 11 ob, e_ar a n cI 12 ct, e_ar a n cI 13 nw, e_ar a n cI 14 nx, e_ar a n cI 15 mc, e_ar a n cI 16 mr, e_ar a n cI 17 mf]) (wr := [e_PP a, e_Pic a Pic_width Pic_height Pic_stride, e_Rows a Rows_rowLength, e_Out a Out_size Out_gathered Out_gatheredBits, e_Chk a Chk_start, e_Pak a Pak_singles Pak_runs Pak_longest, e_Fin a Fin_chained Fin_length Fin_distance, e_ar a n cI 8 pb, e_ar a n cI 9 rb, e_ar a n cI 10 fl, e_ar a n cI 11 ob, e_ar a n cI 12 ct, e_ar a n cI 13 nw, e_ar a n cI 14 nx, e_ar a n cI 15 mc, e_ar a n cI 16 mr]) (As := [.int ((tb 2).2.2 (y3 + 1 : Int32).toNatClampNeg)]) (rest := [.int r66]) E hw (c_Mod_byteAt (l := l) (dC := dC) (dI := dI) (cI := cI) (tb := tb) (a := a) (n := n) (Mod_thrown := Mod_thrown) (Mod_width := Mod_width) (Mod_height := Mod_height) (Mod_many := Mod_many) (Mod_size := Mod_size) (Mod_bit := Mod_bit) (Mod_single := Mod_single) (Mod_runs := Mod_runs) (Mod_longest := Mod_longest) (mf := mf) (x1 := (tb 2).2.2 (y3 + 1 : Int32).toNatClampNeg) h) tw561 tw562 tw563 tw42 tw564 1 (by decide) ⟨Nat.le_of_ble_eq_true rfl, Nat.le_of_ble_eq_true rfl⟩ ⟨Nat.le_of_ble_eq_true rfl, Nat.le_of_ble_eq_true rfl⟩ ⟨rfl, rfl⟩ rfl rfl 7 rfl [7, 17] [0, 1, 2, 3, 4, 5, 6, 8, 9, 10, 11, 12, 13, 14, 15, 16] [0, 1, 2, 3, 4, 5, 6, 16, 7, 8, 9, 10, 11, 12, 13, 14, 15, 17] rfl rfl rfl rfl (by decide) rfl (fun _ => rfl) hl.1 rfl rfl (Nat.le_of_ble_eq_true rfl) d_Law_law_253 (fun r69 u68 H locs h hw => ?_)
                refine lv_icmp_eq (tgt := 307) hx hb d_Law_law_256 (by decide) (fun c70 => ?_) (fun c70 => ?_)
                · have h := h.1 c70
                  obtain ⟨z71, ez71⟩ : ∃ z : Int32, z = y3 + 5 := ⟨_, rfl⟩
                  have h := h z71 ez71
                  refine lv_iinc (v := z71) (lv' := [(3, .int z71), (0, .ref (tb 2).1), (1, .ref (a 0)), (2, .ref (a 7))]) hx hb d_Law_law_307 hl (k := 3) rfl (by rw [ez71]; exact congrArg (y3 + ·) (by decide)) (by decide) rfl (fun ls hl => ?_)
                  refine lv_goto (tgt := 38) hx hb d_Law_law_310 (by decide) ?_
                  exact ih Out_size Out_gathered Out_gatheredBits Chk_start Pak_singles Pak_runs Pak_longest Fin_chained Fin_length Fin_distance u68 Mod_many Mod_size Mod_bit Mod_single Mod_runs Mod_longest pb rb fl ob nw nx mc mr mf z71 _ _ ls hw (lv_sub hl [1, 2, 3, 0] rfl) h
                · have h := h.2 c70
                  refine lv_iconst (v := 0) hx hb d_Law_law_259 (by decide) ?_
                  exact absurd h id
              · skip
                by_cases c81 : (z17 : Int32) = 5
                · have h := h.2.2.2.2.2.1 c81
                  refine lv_tableIn (tgt := 261) (off := 209) hx hb d_Law_law_52 (by rw [c81]; decide) (by rw [c81]; decide) (by rw [c81]; decide) (by decide) ?_
                  refine lv_aload_n hx hb d_Law_law_261 rfl (lv_at hl 1 rfl) ?_
                  refine lv_aload_n hx hb d_Law_law_262 rfl (lv_at hl 0 rfl) ?_
                  refine lv_iload_n hx hb d_Law_law_263 rfl (lv_at hl 3 rfl) ?_
                  refine lv_iconst (v := 1) hx hb d_Law_law_264 (by decide) ?_
                  refine lv_iadd hx hb d_Law_law_265 ?_
                  obtain ⟨b73, h⟩ := h
                  refine ktld (K := 2) E hw (by decide) b73 d_Law_law_266 ?_
                  refine kVi (y := y_PP_filter) (ws' := fun _ => [e_PP a, e_Pic a Pic_width Pic_height Pic_stride, e_Rows a Rows_rowLength, e_Out a Out_size Out_gathered Out_gatheredBits, e_Chk a Chk_start, e_Pak a Pak_singles Pak_runs Pak_longest, e_Fin a Fin_chained Fin_length Fin_distance, e_Mod a Mod_thrown Mod_width Mod_height Mod_many Mod_size Mod_bit Mod_single Mod_runs Mod_longest, e_ar a n cI 8 pb, e_ar a n cI 9 rb, e_ar a n cI 10 fl, e_ar a n cI 11 ob, e_ar a n cI 12 ct, e_ar a n cI 13 nw, e_ar a n cI 14 nx, e_ar a n cI 15 mc, e_ar a n cI 16 mr, e_ar a n cI 17 mf]) (wr := [e_Pic a Pic_width Pic_height Pic_stride, e_Out a Out_size Out_gathered Out_gatheredBits, e_Chk a Chk_start, e_Pak a Pak_singles Pak_runs Pak_longest, e_Fin a Fin_chained Fin_length Fin_distance, e_Mod a Mod_thrown Mod_width Mod_height Mod_many Mod_size Mod_bit Mod_single Mod_runs Mod_longest, e_ar a n cI 8 pb, e_ar a n cI 9 rb, e_ar a n cI 11 ob, e_ar a n cI 12 ct, e_ar a n cI 13 nw, e_ar a n cI 14 nx, e_ar a n cI 15 mc, e_ar a n cI 16 mr, e_ar a n cI 17 mf]) (As := [.int ((tb 2).2.2 (y3 + 1 : Int32).toNatClampNeg)]) (rest := []) E hw (c_PP_filter (l := l) (dC := dC) (dI := dI) (cI := cI) (tb := tb) (a := a) (n := n) (Rows_rowLength := Rows_rowLength) (fl := fl) (x1 := (tb 2).2.2 (y3 + 1 : Int32).toNatClampNeg) h) tw412 tw413 tw414 tw33 tw415 1 (by decide) ⟨Nat.le_of_ble_eq_true rfl, Nat.le_of_ble_eq_true rfl⟩ ⟨Nat.le_of_ble_eq_true rfl, Nat.le_of_ble_eq_true rfl⟩ ⟨rfl, rfl⟩ rfl rfl 0 rfl [0, 2, 10] [1, 3, 4, 5, 6, 7, 8, 9, 11, 12, 13, 14, 15, 16, 17] [15, 0, 16, 1, 2, 3, 4, 5, 6, 7, 17, 8, 9, 10, 11, 12, 13, 14] rfl rfl rfl rfl (by decide) rfl (fun _ => rfl) hl.1 rfl rfl (Nat.le_of_ble_eq_true rfl) d_Law_law_267 (fun r75 u74 H locs h hw => ?_)
                  refine lv_aload_n hx hb d_Law_law_270 rfl (lv_at hl 2 rfl) ?_
                  refine lv_aload_n hx hb d_Law_law_271 rfl (lv_at hl 0 rfl) ?_
                  refine lv_iload_n hx hb d_Law_law_272 rfl (lv_at hl 3 rfl) ?_
                  refine lv_iconst (v := 1) hx hb d_Law_law_273 (by decide) ?_
                  refine lv_iadd hx hb d_Law_law_274 ?_
                  obtain ⟨b76, h⟩ := h
                  refine ktld (K := 2) E hw (by decide) b76 d_Law_law_275 ?_
                  refine kVi (y := y_Mod_filter) (ws' := fun u77 => [e_PP a, e_Pic a Pic_width Pic_height Pic_stride, e_Rows a Rows_rowLength, e_Out a Out_size Out_gathered Out_gatheredBits, e_Chk a Chk_start, e_Pak a Pak_singles Pak_runs Pak_longest, e_Fin a Fin_chained Fin_length Fin_distance, e_Mod a u77 Mod_width Mod_height Mod_many Mod_size Mod_bit Mod_single Mod_runs Mod_longest, e_ar a n cI 8 pb, e_ar a n cI 9 rb, e_ar a n cI 10 fl, e_ar a n cI 11 ob, e_ar a n cI 12 ct, e_ar a n cI 13 nw, e_ar a n cI 14 nx, e_ar a n cI 15 mc, e_ar a n cI 16 mr, e_ar a n cI 17 mf]) (wr := [e_PP a, e_Pic a Pic_width Pic_height Pic_stride, e_Rows a Rows_rowLength, e_Out a Out_size Out_gathered Out_gatheredBits, e_Chk a Chk_start, e_Pak a Pak_singles Pak_runs Pak_longest, e_Fin a Fin_chained Fin_length Fin_distance, e_ar a n cI 8 pb, e_ar a n cI 9 rb, e_ar a n cI 10 fl, e_ar a n cI 11 ob, e_ar a n cI 12 ct, e_ar a n cI 13 nw, e_ar a n cI 14 nx, e_ar a n cI 15 mc, e_ar a n cI 17 mf]) (As := [.int ((tb 2).2.2 (y3 + 1 : Int32).toNatClampNeg)]) (rest := [.int r75]) E hw (c_Mod_filter (l := l) (dC := dC) (dI := dI) (cI := cI) (tb := tb) (a := a) (n := n) (Mod_thrown := Mod_thrown) (Mod_width := Mod_width) (Mod_height := Mod_height) (Mod_many := Mod_many) (Mod_size := Mod_size) (Mod_bit := Mod_bit) (Mod_single := Mod_single) (Mod_runs := Mod_runs) (Mod_longest := Mod_longest) (mr := mr) (x1 := (tb 2).2.2 (y3 + 1 : Int32).toNatClampNeg) h) tw565 tw566 tw567 tw42 tw568 1 (by decide) ⟨Nat.le_of_ble_eq_true rfl, Nat.le_of_ble_eq_true rfl⟩ ⟨Nat.le_of_ble_eq_true rfl, Nat.le_of_ble_eq_true rfl⟩ ⟨rfl, rfl⟩ rfl rfl 7 rfl [7, 16] [0, 1, 2, 3, 4, 5, 6, 8, 9, 10, 11, 12, 13, 14, 15, 17] [0, 1, 2, 3, 4, 5, 6, 16, 7, 8, 9, 10, 11, 12, 13, 14, 17, 15] rfl rfl rfl rfl (by decide) rfl (fun _ => rfl) hl.1 rfl rfl (Nat.le_of_ble_eq_true rfl) d_Law_law_276 (fun r78 u77 H locs h hw => ?_)
                  refine lv_icmp_eq (tgt := 307) hx hb d_Law_law_279 (by decide) (fun c79 => ?_) (fun c79 => ?_)
                  · have h := h.1 c79
                    obtain ⟨z80, ez80⟩ : ∃ z : Int32, z = y3 + 5 := ⟨_, rfl⟩
                    have h := h z80 ez80
                    refine lv_iinc (v := z80) (lv' := [(3, .int z80), (0, .ref (tb 2).1), (1, .ref (a 0)), (2, .ref (a 7))]) hx hb d_Law_law_307 hl (k := 3) rfl (by rw [ez80]; exact congrArg (y3 + ·) (by decide)) (by decide) rfl (fun ls hl => ?_)
                    refine lv_goto (tgt := 38) hx hb d_Law_law_310 (by decide) ?_
                    exact ih Out_size Out_gathered Out_gatheredBits Chk_start Pak_singles Pak_runs Pak_longest Fin_chained Fin_length Fin_distance u77 Mod_many Mod_size Mod_bit Mod_single Mod_runs Mod_longest pb rb fl ob nw nx mc mr mf z80 _ _ ls hw (lv_sub hl [1, 2, 3, 0] rfl) h
                  · have h := h.2 c79
                    refine lv_iconst (v := 0) hx hb d_Law_law_282 (by decide) ?_
                    exact absurd h id
                · skip
                  by_cases c90 : (z17 : Int32) = 6
                  · have h := h.2.2.2.2.2.2.1 c90
                    refine lv_tableIn (tgt := 284) (off := 232) hx hb d_Law_law_52 (by rw [c90]; decide) (by rw [c90]; decide) (by rw [c90]; decide) (by decide) ?_
                    refine lv_aload_n hx hb d_Law_law_284 rfl (lv_at hl 1 rfl) ?_
                    refine lv_aload_n hx hb d_Law_law_285 rfl (lv_at hl 0 rfl) ?_
                    refine lv_iload_n hx hb d_Law_law_286 rfl (lv_at hl 3 rfl) ?_
                    refine lv_iconst (v := 1) hx hb d_Law_law_287 (by decide) ?_
                    refine lv_iadd hx hb d_Law_law_288 ?_
                    obtain ⟨b82, h⟩ := h
                    refine ktld (K := 2) E hw (by decide) b82 d_Law_law_289 ?_
                    refine kVi (y := y_PP_count) (ws' := fun _ => [e_PP a, e_Pic a Pic_width Pic_height Pic_stride, e_Rows a Rows_rowLength, e_Out a Out_size Out_gathered Out_gatheredBits, e_Chk a Chk_start, e_Pak a Pak_singles Pak_runs Pak_longest, e_Fin a Fin_chained Fin_length Fin_distance, e_Mod a Mod_thrown Mod_width Mod_height Mod_many Mod_size Mod_bit Mod_single Mod_runs Mod_longest, e_ar a n cI 8 pb, e_ar a n cI 9 rb, e_ar a n cI 10 fl, e_ar a n cI 11 ob, e_ar a n cI 12 ct, e_ar a n cI 13 nw, e_ar a n cI 14 nx, e_ar a n cI 15 mc, e_ar a n cI 16 mr, e_ar a n cI 17 mf]) (wr := [e_Rows a Rows_rowLength, e_Chk a Chk_start, e_Fin a Fin_chained Fin_length Fin_distance, e_Mod a Mod_thrown Mod_width Mod_height Mod_many Mod_size Mod_bit Mod_single Mod_runs Mod_longest, e_ar a n cI 8 pb, e_ar a n cI 9 rb, e_ar a n cI 10 fl, e_ar a n cI 11 ob, e_ar a n cI 12 ct, e_ar a n cI 13 nw, e_ar a n cI 14 nx, e_ar a n cI 15 mc, e_ar a n cI 16 mr, e_ar a n cI 17 mf]) (As := [.int ((tb 2).2.2 (y3 + 1 : Int32).toNatClampNeg)]) (rest := []) E hw (c_PP_count (l := l) (dC := dC) (dI := dI) (cI := cI) (tb := tb) (a := a) (n := n) (Pic_width := Pic_width) (Pic_height := Pic_height) (Pic_stride := Pic_stride) (Out_size := Out_size) (Out_gathered := Out_gathered) (Out_gatheredBits := Out_gatheredBits) (Pak_singles := Pak_singles) (Pak_runs := Pak_runs) (Pak_longest := Pak_longest) (x1 := (tb 2).2.2 (y3 + 1 : Int32).toNatClampNeg) h) tw416 tw417 tw418 tw33 tw419 1 (by decide) ⟨Nat.le_of_ble_eq_true rfl, Nat.le_of_ble_eq_true rfl⟩ ⟨Nat.le_of_ble_eq_true rfl, Nat.le_of_ble_eq_true rfl⟩ ⟨rfl, rfl⟩ rfl rfl 0 rfl [0, 1, 3, 5] [2, 4, 6, 7, 8, 9, 10, 11, 12, 13, 14, 15, 16, 17] [14, 15, 0, 16, 1, 17, 2, 3, 4, 5, 6, 7, 8, 9, 10, 11, 12, 13] rfl rfl rfl rfl (by decide) rfl (fun _ => rfl) hl.1 rfl rfl (Nat.le_of_ble_eq_true rfl) d_Law_law_290 (fun r84 u83 H locs h hw => ?_)
                    refine lv_aload_n hx hb d_Law_law_293 rfl (lv_at hl 2 rfl) ?_
                    refine lv_aload_n hx hb d_Law_law_294 rfl (lv_at hl 0 rfl) ?_
                    refine lv_iload_n hx hb d_Law_law_295 rfl (lv_at hl 3 rfl) ?_
                    refine lv_iconst (v := 1) hx hb d_Law_law_296 (by decide) ?_
                    refine lv_iadd hx hb d_Law_law_297 ?_
                    obtain ⟨b85, h⟩ := h
                    refine ktld (K := 2) E hw (by decide) b85 d_Law_law_298 ?_
                    refine kVi (y := y_Mod_count) (ws' := fun u86 => [e_PP a, e_Pic a Pic_width Pic_height Pic_stride, e_Rows a Rows_rowLength, e_Out a Out_size Out_gathered Out_gatheredBits, e_Chk a Chk_start, e_Pak a Pak_singles Pak_runs Pak_longest, e_Fin a Fin_chained Fin_length Fin_distance, e_Mod a u86 Mod_width Mod_height Mod_many Mod_size Mod_bit Mod_single Mod_runs Mod_longest, e_ar a n cI 8 pb, e_ar a n cI 9 rb, e_ar a n cI 10 fl, e_ar a n cI 11 ob, e_ar a n cI 12 ct, e_ar a n cI 13 nw, e_ar a n cI 14 nx, e_ar a n cI 15 mc, e_ar a n cI 16 mr, e_ar a n cI 17 mf]) (wr := [e_PP a, e_Pic a Pic_width Pic_height Pic_stride, e_Rows a Rows_rowLength, e_Out a Out_size Out_gathered Out_gatheredBits, e_Chk a Chk_start, e_Pak a Pak_singles Pak_runs Pak_longest, e_Fin a Fin_chained Fin_length Fin_distance, e_ar a n cI 8 pb, e_ar a n cI 9 rb, e_ar a n cI 10 fl, e_ar a n cI 11 ob, e_ar a n cI 12 ct, e_ar a n cI 13 nw, e_ar a n cI 14 nx, e_ar a n cI 15 mc, e_ar a n cI 16 mr, e_ar a n cI 17 mf]) (As := [.int ((tb 2).2.2 (y3 + 1 : Int32).toNatClampNeg)]) (rest := [.int r84]) E hw (c_Mod_count (l := l) (dC := dC) (dI := dI) (cI := cI) (tb := tb) (a := a) (n := n) (Mod_thrown := Mod_thrown) (Mod_width := Mod_width) (Mod_height := Mod_height) (Mod_many := Mod_many) (Mod_size := Mod_size) (Mod_bit := Mod_bit) (Mod_single := Mod_single) (Mod_runs := Mod_runs) (Mod_longest := Mod_longest) (x1 := (tb 2).2.2 (y3 + 1 : Int32).toNatClampNeg) h) tw569 tw570 tw571 tw42 tw572 1 (by decide) ⟨Nat.le_of_ble_eq_true rfl, Nat.le_of_ble_eq_true rfl⟩ ⟨Nat.le_of_ble_eq_true rfl, Nat.le_of_ble_eq_true rfl⟩ ⟨rfl, rfl⟩ rfl rfl 7 rfl [7] [0, 1, 2, 3, 4, 5, 6, 8, 9, 10, 11, 12, 13, 14, 15, 16, 17] [0, 1, 2, 3, 4, 5, 6, 17, 7, 8, 9, 10, 11, 12, 13, 14, 15, 16] rfl rfl rfl rfl (by decide) rfl (fun _ => rfl) hl.1 rfl rfl (Nat.le_of_ble_eq_true rfl) d_Law_law_299 (fun r87 u86 H locs h hw => ?_)
                    refine lv_icmp_eq (tgt := 307) hx hb d_Law_law_302 (by decide) (fun c88 => ?_) (fun c88 => ?_)
                    · have h := h.1 c88
                      obtain ⟨z89, ez89⟩ : ∃ z : Int32, z = y3 + 5 := ⟨_, rfl⟩
                      have h := h z89 ez89
                      refine lv_iinc (v := z89) (lv' := [(3, .int z89), (0, .ref (tb 2).1), (1, .ref (a 0)), (2, .ref (a 7))]) hx hb d_Law_law_307 hl (k := 3) rfl (by rw [ez89]; exact congrArg (y3 + ·) (by decide)) (by decide) rfl (fun ls hl => ?_)
                      refine lv_goto (tgt := 38) hx hb d_Law_law_310 (by decide) ?_
                      exact ih Out_size Out_gathered Out_gatheredBits Chk_start Pak_singles Pak_runs Pak_longest Fin_chained Fin_length Fin_distance u86 Mod_many Mod_size Mod_bit Mod_single Mod_runs Mod_longest pb rb fl ob nw nx mc mr mf z89 _ _ ls hw (lv_sub hl [1, 2, 3, 0] rfl) h
                    · have h := h.2 c88
                      refine lv_iconst (v := 0) hx hb d_Law_law_305 (by decide) ?_
                      exact absurd h id
                  · skip
                    have h := h.2.2.2.2.2.2.2 c30 c45 c56 c63 c72 c81 c90
                    have qc30 := lv_neT c30 (a := 0) (by decide)
                    have qc45 := lv_neT c45 (a := 1) (by decide)
                    have qc56 := lv_neT c56 (a := 2) (by decide)
                    have qc63 := lv_neT c63 (a := 3) (by decide)
                    have qc72 := lv_neT c72 (a := 4) (by decide)
                    have qc81 := lv_neT c81 (a := 5) (by decide)
                    have qc90 := lv_neT c90 (a := 6) (by decide)
                    refine lv_tableOut (tgt := 307) hx hb d_Law_law_52 (by omega) (by decide) ?_
                    obtain ⟨z91, ez91⟩ : ∃ z : Int32, z = y3 + 5 := ⟨_, rfl⟩
                    have h := h z91 ez91
                    refine lv_iinc (v := z91) (lv' := [(3, .int z91), (0, .ref (tb 2).1), (1, .ref (a 0)), (2, .ref (a 7))]) hx hb d_Law_law_307 hl (k := 3) rfl (by rw [ez91]; exact congrArg (y3 + ·) (by decide)) (by decide) rfl (fun ls hl => ?_)
                    refine lv_goto (tgt := 38) hx hb d_Law_law_310 (by decide) ?_
                    exact ih Out_size Out_gathered Out_gatheredBits Chk_start Pak_singles Pak_runs Pak_longest Fin_chained Fin_length Fin_distance Mod_thrown Mod_many Mod_size Mod_bit Mod_single Mod_runs Mod_longest pb rb fl ob nw nx mc mr mf z91 _ _ ls hw (lv_sub hl [1, 2, 3, 0] rfl) h
set_option maxHeartbeats 8000000 in
set_option maxRecDepth 20000 in
theorem s_Law {l : Launch} {dC : Nat → ClassId} {dI : Nat → Nat → Nat} {cI : ClassId} {tb : Tbs} {a n : Nat → Nat} {p : Program} {e : Env} {s : State} {m : MethodId} {below : List Frame} {meth : Method} {c : Code} (E : CallFix p m c code 4 s #[Value.ref (tb 2).1] TBL "PicturePackerLaw") (hr : meth.sig.returnType = ret) (hlk : meth.locks = false) {post : Prop} (ls : Array Slot) (hw : Wl classes dC dI cI tb (fun q : Nat => s.heap.size ≤ q) s s.heap [] []) (hl : lv_has ls 4 [(0, .ref (tb 2).1)]) (h : wp_Law n tb post) : W p l e room_1 s m #[Value.ref (tb 2).1] below meth c s.heap [] 0 0 (lw_Z below #[Value.ref (tb 2).1] s) (F0 m 0 ls []) := by
  obtain ⟨hx, hb, hml, hown, hts⟩ := id E
  unfold wp_Law at h
  refine knew (ci := 0) (fs := [.null, .null, .null, .null, .null]) (C := "PicturePacker") (T := F_PP) (N := 5) E hw in_PP t_PP t_PP_ok rfl tw43 tw44 tw33 (by intro j hj; rcases (show j = 0 ∨ j = 1 ∨ j = 2 ∨ j = 3 ∨ j = 4 by omega) with rfl | rfl | rfl | rfl | rfl <;> rfl) (Nat.le_of_ble_eq_true rfl) (Nat.le_of_ble_eq_true rfl) d_Law_law_0 (fun q1 H hw => ?_)
  have h := h q1
  have hw : Wl classes dC dI cI tb (fun q : Nat => s.heap.size ≤ q) s H _ [(q1, .inr (0, [.null, .null, .null, .null, .null]))] := hw
  refine lv_dup hx hb d_Law_law_3 rfl ?_
  refine lv_aload_n hx hb d_Law_law_4 rfl (lv_at hl 0 rfl) ?_
  refine lv_iconst (v := 0) hx hb d_Law_law_5 (by decide) ?_
  refine kSi (y := y_Law_cell) (ws' := fun _ => [(q1, .inr (0, [.null, .null, .null, .null, .null]))]) (wr := [(q1, .inr (0, [.null, .null, .null, .null, .null]))]) (As := [.ref (tb 2).1, .int 0]) (rest := [.ref q1, .ref q1]) E hw (c_Law_cell (l := l) (dC := dC) (dI := dI) (cI := cI) (tb := tb) (a := a) (n := n)  (x1 := 0) (K := 2) (hK2 := (by decide)) h) tw420 tw421 tw32 tw422 2 (by decide) ⟨Nat.le_of_ble_eq_true rfl, Nat.le_of_ble_eq_true rfl⟩ ⟨Nat.le_of_ble_eq_true rfl, Nat.le_of_ble_eq_true rfl⟩ ⟨rfl, rfl⟩ [] [0] [0] rfl rfl rfl rfl (by decide) rfl (fun _ => rfl) hl.1 rfl rfl (Nat.le_of_ble_eq_true rfl) d_Law_law_6 (fun r3 u2 H locs h hw => ?_)
  refine lv_aload_n hx hb d_Law_law_9 rfl (lv_at hl 0 rfl) ?_
  refine lv_iconst (v := 1) hx hb d_Law_law_10 (by decide) ?_
  refine kSi (y := y_Law_cell) (ws' := fun _ => [(q1, .inr (0, [.null, .null, .null, .null, .null]))]) (wr := [(q1, .inr (0, [.null, .null, .null, .null, .null]))]) (As := [.ref (tb 2).1, .int 1]) (rest := [.int r3, .ref q1, .ref q1]) E hw (c_Law_cell (l := l) (dC := dC) (dI := dI) (cI := cI) (tb := tb) (a := a) (n := n)  (x1 := 1) (K := 2) (hK2 := (by decide)) h) tw420 tw421 tw32 tw422 2 (by decide) ⟨Nat.le_of_ble_eq_true rfl, Nat.le_of_ble_eq_true rfl⟩ ⟨Nat.le_of_ble_eq_true rfl, Nat.le_of_ble_eq_true rfl⟩ ⟨rfl, rfl⟩ [] [0] [0] rfl rfl rfl rfl (by decide) rfl (fun _ => rfl) hl.1 rfl rfl (Nat.le_of_ble_eq_true rfl) d_Law_law_11 (fun r5 u4 H locs h hw => ?_)
  refine kIv (y := y_PP_init) (ws' := fun u6 => [(q1, .inr (0, [.ref (u6.1 1), .ref (u6.1 2), .ref (u6.1 3), .ref (u6.1 4), .ref (u6.1 5)])), (u6.1 1, .inr (1, [.int u6.2.2.1, .int u6.2.2.2.1, .int u6.2.2.2.2.1, .ref (u6.1 8)])), (u6.1 8, .inl (cI, u6.2.1 8, .inl u6.2.2.2.2.2.2.2.2.2.2.2.2.2.2.2.2.1)), (u6.1 2, .inr (2, [.ref (u6.1 9), .ref (u6.1 10), .ref (u6.1 1), .int u6.2.2.2.2.2.1])), (u6.1 9, .inl (cI, u6.2.1 9, .inl u6.2.2.2.2.2.2.2.2.2.2.2.2.2.2.2.2.2.1)), (u6.1 10, .inl (cI, u6.2.1 10, .inl u6.2.2.2.2.2.2.2.2.2.2.2.2.2.2.2.2.2.2.1)), (u6.1 3, .inr (3, [.ref (u6.1 11), .int u6.2.2.2.2.2.2.1, .int u6.2.2.2.2.2.2.2.1, .int u6.2.2.2.2.2.2.2.2.1])), (u6.1 11, .inl (cI, u6.2.1 11, .inl u6.2.2.2.2.2.2.2.2.2.2.2.2.2.2.2.2.2.2.2.1)), (u6.1 4, .inr (4, [.ref (u6.1 3), .ref (u6.1 12), .int u6.2.2.2.2.2.2.2.2.2.1])), (u6.1 12, .inl (cI, u6.2.1 12, .inl u6.2.2.2.2.2.2.2.2.2.2.2.2.2.2.2.2.2.2.2.2.1)), (u6.1 5, .inr (5, [.ref (u6.1 9), .ref (u6.1 3), .ref (u6.1 6), .int u6.2.2.2.2.2.2.2.2.2.2.1, .int u6.2.2.2.2.2.2.2.2.2.2.2.1, .int u6.2.2.2.2.2.2.2.2.2.2.2.2.1])), (u6.1 6, .inr (6, [.ref (u6.1 9), .ref (u6.1 13), .ref (u6.1 14), .int u6.2.2.2.2.2.2.2.2.2.2.2.2.2.1, .int u6.2.2.2.2.2.2.2.2.2.2.2.2.2.2.1, .int u6.2.2.2.2.2.2.2.2.2.2.2.2.2.2.2.1])), (u6.1 13, .inl (cI, u6.2.1 13, .inl u6.2.2.2.2.2.2.2.2.2.2.2.2.2.2.2.2.2.2.2.2.2.1)), (u6.1 14, .inl (cI, u6.2.1 14, .inl u6.2.2.2.2.2.2.2.2.2.2.2.2.2.2.2.2.2.2.2.2.2.2))]) (wr := []) (As := [.int r3, .int r5]) (rest := [.ref q1]) E hw (c_PP_init (l := l) (dC := dC) (dI := dI) (cI := cI) (tb := tb) (a := fun k => if k = 0 then q1 else 0) (n := fun k => 0)  (x1 := r3) (x2 := r5) h) tw45 tw46 tw33 tw47 rfl 2 (by decide) ⟨Nat.le_of_ble_eq_true rfl, Nat.le_of_ble_eq_true rfl⟩ ⟨Nat.le_of_ble_eq_true rfl, Nat.le_of_ble_eq_true rfl⟩ ⟨rfl, rfl⟩ [0] [] [0, 1, 2, 3, 4, 5, 6, 7, 8, 9, 10, 11, 12, 13] rfl rfl rfl rfl (by decide) rfl (fun _ => rfl) hl.1 rfl rfl (Nat.le_of_ble_eq_true rfl) d_Law_law_14 (fun u6 H locs h hw => ?_)
  refine lv_astore_n (lv' := [(1, .ref q1), (0, .ref (tb 2).1)]) hx hb d_Law_law_17 rfl hl (by decide) rfl (fun ls hl => ?_)
  refine knew (ci := 7) (fs := [.int 0, .int 0, .int 0, .null, .null, .int 0, .null, .int 0, .int 0, .int 0, .int 0, .int 0]) (C := "PicturePackerModel") (T := F_Mod) (N := 12) E hw in_Mod t_Mod t_Mod_ok rfl tw423 tw424 tw42 (by intro j hj; rcases (show j = 0 ∨ j = 1 ∨ j = 2 ∨ j = 3 ∨ j = 4 ∨ j = 5 ∨ j = 6 ∨ j = 7 ∨ j = 8 ∨ j = 9 ∨ j = 10 ∨ j = 11 by omega) with rfl | rfl | rfl | rfl | rfl | rfl | rfl | rfl | rfl | rfl | rfl | rfl <;> rfl) (Nat.le_of_ble_eq_true rfl) (Nat.le_of_ble_eq_true rfl) d_Law_law_18 (fun q8 H hw => ?_)
  have h := h q8
  have hw : Wl classes dC dI cI tb (fun q : Nat => s.heap.size ≤ q) s H _ [(q1, .inr (0, [.ref (u6.1 1), .ref (u6.1 2), .ref (u6.1 3), .ref (u6.1 4), .ref (u6.1 5)])), (u6.1 1, .inr (1, [.int u6.2.2.1, .int u6.2.2.2.1, .int u6.2.2.2.2.1, .ref (u6.1 8)])), (u6.1 8, .inl (cI, u6.2.1 8, .inl u6.2.2.2.2.2.2.2.2.2.2.2.2.2.2.2.2.1)), (u6.1 2, .inr (2, [.ref (u6.1 9), .ref (u6.1 10), .ref (u6.1 1), .int u6.2.2.2.2.2.1])), (u6.1 9, .inl (cI, u6.2.1 9, .inl u6.2.2.2.2.2.2.2.2.2.2.2.2.2.2.2.2.2.1)), (u6.1 10, .inl (cI, u6.2.1 10, .inl u6.2.2.2.2.2.2.2.2.2.2.2.2.2.2.2.2.2.2.1)), (u6.1 3, .inr (3, [.ref (u6.1 11), .int u6.2.2.2.2.2.2.1, .int u6.2.2.2.2.2.2.2.1, .int u6.2.2.2.2.2.2.2.2.1])), (u6.1 11, .inl (cI, u6.2.1 11, .inl u6.2.2.2.2.2.2.2.2.2.2.2.2.2.2.2.2.2.2.2.1)), (u6.1 4, .inr (4, [.ref (u6.1 3), .ref (u6.1 12), .int u6.2.2.2.2.2.2.2.2.2.1])), (u6.1 12, .inl (cI, u6.2.1 12, .inl u6.2.2.2.2.2.2.2.2.2.2.2.2.2.2.2.2.2.2.2.2.1)), (u6.1 5, .inr (5, [.ref (u6.1 9), .ref (u6.1 3), .ref (u6.1 6), .int u6.2.2.2.2.2.2.2.2.2.2.1, .int u6.2.2.2.2.2.2.2.2.2.2.2.1, .int u6.2.2.2.2.2.2.2.2.2.2.2.2.1])), (u6.1 6, .inr (6, [.ref (u6.1 9), .ref (u6.1 13), .ref (u6.1 14), .int u6.2.2.2.2.2.2.2.2.2.2.2.2.2.1, .int u6.2.2.2.2.2.2.2.2.2.2.2.2.2.2.1, .int u6.2.2.2.2.2.2.2.2.2.2.2.2.2.2.2.1])), (u6.1 13, .inl (cI, u6.2.1 13, .inl u6.2.2.2.2.2.2.2.2.2.2.2.2.2.2.2.2.2.2.2.2.2.1)), (u6.1 14, .inl (cI, u6.2.1 14, .inl u6.2.2.2.2.2.2.2.2.2.2.2.2.2.2.2.2.2.2.2.2.2.2)), (q8, .inr (7, [.int 0, .int 0, .int 0, .null, .null, .int 0, .null, .int 0, .int 0, .int 0, .int 0, .int 0]))] := hw
  refine lv_dup hx hb d_Law_law_21 rfl ?_
  refine lv_aload_n hx hb d_Law_law_22 rfl (lv_at hl 1 rfl) ?_
  refine lv_iconst (v := 0) hx hb d_Law_law_23 (by decide) ?_
  refine kSi (y := y_Law_cell) (ws' := fun _ => [(q1, .inr (0, [.ref (u6.1 1), .ref (u6.1 2), .ref (u6.1 3), .ref (u6.1 4), .ref (u6.1 5)])), (u6.1 1, .inr (1, [.int u6.2.2.1, .int u6.2.2.2.1, .int u6.2.2.2.2.1, .ref (u6.1 8)])), (u6.1 8, .inl (cI, u6.2.1 8, .inl u6.2.2.2.2.2.2.2.2.2.2.2.2.2.2.2.2.1)), (u6.1 2, .inr (2, [.ref (u6.1 9), .ref (u6.1 10), .ref (u6.1 1), .int u6.2.2.2.2.2.1])), (u6.1 9, .inl (cI, u6.2.1 9, .inl u6.2.2.2.2.2.2.2.2.2.2.2.2.2.2.2.2.2.1)), (u6.1 10, .inl (cI, u6.2.1 10, .inl u6.2.2.2.2.2.2.2.2.2.2.2.2.2.2.2.2.2.2.1)), (u6.1 3, .inr (3, [.ref (u6.1 11), .int u6.2.2.2.2.2.2.1, .int u6.2.2.2.2.2.2.2.1, .int u6.2.2.2.2.2.2.2.2.1])), (u6.1 11, .inl (cI, u6.2.1 11, .inl u6.2.2.2.2.2.2.2.2.2.2.2.2.2.2.2.2.2.2.2.1)), (u6.1 4, .inr (4, [.ref (u6.1 3), .ref (u6.1 12), .int u6.2.2.2.2.2.2.2.2.2.1])), (u6.1 12, .inl (cI, u6.2.1 12, .inl u6.2.2.2.2.2.2.2.2.2.2.2.2.2.2.2.2.2.2.2.2.1)), (u6.1 5, .inr (5, [.ref (u6.1 9), .ref (u6.1 3), .ref (u6.1 6), .int u6.2.2.2.2.2.2.2.2.2.2.1, .int u6.2.2.2.2.2.2.2.2.2.2.2.1, .int u6.2.2.2.2.2.2.2.2.2.2.2.2.1])), (u6.1 6, .inr (6, [.ref (u6.1 9), .ref (u6.1 13), .ref (u6.1 14), .int u6.2.2.2.2.2.2.2.2.2.2.2.2.2.1, .int u6.2.2.2.2.2.2.2.2.2.2.2.2.2.2.1, .int u6.2.2.2.2.2.2.2.2.2.2.2.2.2.2.2.1])), (u6.1 13, .inl (cI, u6.2.1 13, .inl u6.2.2.2.2.2.2.2.2.2.2.2.2.2.2.2.2.2.2.2.2.2.1)), (u6.1 14, .inl (cI, u6.2.1 14, .inl u6.2.2.2.2.2.2.2.2.2.2.2.2.2.2.2.2.2.2.2.2.2.2)), (q8, .inr (7, [.int 0, .int 0, .int 0, .null, .null, .int 0, .null, .int 0, .int 0, .int 0, .int 0, .int 0]))]) (wr := [(q1, .inr (0, [.ref (u6.1 1), .ref (u6.1 2), .ref (u6.1 3), .ref (u6.1 4), .ref (u6.1 5)])), (u6.1 1, .inr (1, [.int u6.2.2.1, .int u6.2.2.2.1, .int u6.2.2.2.2.1, .ref (u6.1 8)])), (u6.1 8, .inl (cI, u6.2.1 8, .inl u6.2.2.2.2.2.2.2.2.2.2.2.2.2.2.2.2.1)), (u6.1 2, .inr (2, [.ref (u6.1 9), .ref (u6.1 10), .ref (u6.1 1), .int u6.2.2.2.2.2.1])), (u6.1 9, .inl (cI, u6.2.1 9, .inl u6.2.2.2.2.2.2.2.2.2.2.2.2.2.2.2.2.2.1)), (u6.1 10, .inl (cI, u6.2.1 10, .inl u6.2.2.2.2.2.2.2.2.2.2.2.2.2.2.2.2.2.2.1)), (u6.1 3, .inr (3, [.ref (u6.1 11), .int u6.2.2.2.2.2.2.1, .int u6.2.2.2.2.2.2.2.1, .int u6.2.2.2.2.2.2.2.2.1])), (u6.1 11, .inl (cI, u6.2.1 11, .inl u6.2.2.2.2.2.2.2.2.2.2.2.2.2.2.2.2.2.2.2.1)), (u6.1 4, .inr (4, [.ref (u6.1 3), .ref (u6.1 12), .int u6.2.2.2.2.2.2.2.2.2.1])), (u6.1 12, .inl (cI, u6.2.1 12, .inl u6.2.2.2.2.2.2.2.2.2.2.2.2.2.2.2.2.2.2.2.2.1)), (u6.1 5, .inr (5, [.ref (u6.1 9), .ref (u6.1 3), .ref (u6.1 6), .int u6.2.2.2.2.2.2.2.2.2.2.1, .int u6.2.2.2.2.2.2.2.2.2.2.2.1, .int u6.2.2.2.2.2.2.2.2.2.2.2.2.1])), (u6.1 6, .inr (6, [.ref (u6.1 9), .ref (u6.1 13), .ref (u6.1 14), .int u6.2.2.2.2.2.2.2.2.2.2.2.2.2.1, .int u6.2.2.2.2.2.2.2.2.2.2.2.2.2.2.1, .int u6.2.2.2.2.2.2.2.2.2.2.2.2.2.2.2.1])), (u6.1 13, .inl (cI, u6.2.1 13, .inl u6.2.2.2.2.2.2.2.2.2.2.2.2.2.2.2.2.2.2.2.2.2.1)), (u6.1 14, .inl (cI, u6.2.1 14, .inl u6.2.2.2.2.2.2.2.2.2.2.2.2.2.2.2.2.2.2.2.2.2.2)), (q8, .inr (7, [.int 0, .int 0, .int 0, .null, .null, .int 0, .null, .int 0, .int 0, .int 0, .int 0, .int 0]))]) (As := [.ref (tb 2).1, .int 0]) (rest := [.ref q8, .ref q8]) E hw (c_Law_cell (l := l) (dC := dC) (dI := dI) (cI := cI) (tb := tb) (a := a) (n := n)  (x1 := 0) (K := 2) (hK2 := (by decide)) h) tw420 tw421 tw32 tw422 2 (by decide) ⟨Nat.le_of_ble_eq_true rfl, Nat.le_of_ble_eq_true rfl⟩ ⟨Nat.le_of_ble_eq_true rfl, Nat.le_of_ble_eq_true rfl⟩ ⟨rfl, rfl⟩ [] [0, 1, 2, 3, 4, 5, 6, 7, 8, 9, 10, 11, 12, 13, 14] [0, 1, 2, 3, 4, 5, 6, 7, 8, 9, 10, 11, 12, 13, 14] rfl rfl rfl rfl (by decide) rfl (fun _ => rfl) hl.1 rfl rfl (Nat.le_of_ble_eq_true rfl) d_Law_law_24 (fun r10 u9 H locs h hw => ?_)
  refine lv_aload_n hx hb d_Law_law_27 rfl (lv_at hl 1 rfl) ?_
  refine lv_iconst (v := 1) hx hb d_Law_law_28 (by decide) ?_
  refine kSi (y := y_Law_cell) (ws' := fun _ => [(q1, .inr (0, [.ref (u6.1 1), .ref (u6.1 2), .ref (u6.1 3), .ref (u6.1 4), .ref (u6.1 5)])), (u6.1 1, .inr (1, [.int u6.2.2.1, .int u6.2.2.2.1, .int u6.2.2.2.2.1, .ref (u6.1 8)])), (u6.1 8, .inl (cI, u6.2.1 8, .inl u6.2.2.2.2.2.2.2.2.2.2.2.2.2.2.2.2.1)), (u6.1 2, .inr (2, [.ref (u6.1 9), .ref (u6.1 10), .ref (u6.1 1), .int u6.2.2.2.2.2.1])), (u6.1 9, .inl (cI, u6.2.1 9, .inl u6.2.2.2.2.2.2.2.2.2.2.2.2.2.2.2.2.2.1)), (u6.1 10, .inl (cI, u6.2.1 10, .inl u6.2.2.2.2.2.2.2.2.2.2.2.2.2.2.2.2.2.2.1)), (u6.1 3, .inr (3, [.ref (u6.1 11), .int u6.2.2.2.2.2.2.1, .int u6.2.2.2.2.2.2.2.1, .int u6.2.2.2.2.2.2.2.2.1])), (u6.1 11, .inl (cI, u6.2.1 11, .inl u6.2.2.2.2.2.2.2.2.2.2.2.2.2.2.2.2.2.2.2.1)), (u6.1 4, .inr (4, [.ref (u6.1 3), .ref (u6.1 12), .int u6.2.2.2.2.2.2.2.2.2.1])), (u6.1 12, .inl (cI, u6.2.1 12, .inl u6.2.2.2.2.2.2.2.2.2.2.2.2.2.2.2.2.2.2.2.2.1)), (u6.1 5, .inr (5, [.ref (u6.1 9), .ref (u6.1 3), .ref (u6.1 6), .int u6.2.2.2.2.2.2.2.2.2.2.1, .int u6.2.2.2.2.2.2.2.2.2.2.2.1, .int u6.2.2.2.2.2.2.2.2.2.2.2.2.1])), (u6.1 6, .inr (6, [.ref (u6.1 9), .ref (u6.1 13), .ref (u6.1 14), .int u6.2.2.2.2.2.2.2.2.2.2.2.2.2.1, .int u6.2.2.2.2.2.2.2.2.2.2.2.2.2.2.1, .int u6.2.2.2.2.2.2.2.2.2.2.2.2.2.2.2.1])), (u6.1 13, .inl (cI, u6.2.1 13, .inl u6.2.2.2.2.2.2.2.2.2.2.2.2.2.2.2.2.2.2.2.2.2.1)), (u6.1 14, .inl (cI, u6.2.1 14, .inl u6.2.2.2.2.2.2.2.2.2.2.2.2.2.2.2.2.2.2.2.2.2.2)), (q8, .inr (7, [.int 0, .int 0, .int 0, .null, .null, .int 0, .null, .int 0, .int 0, .int 0, .int 0, .int 0]))]) (wr := [(q1, .inr (0, [.ref (u6.1 1), .ref (u6.1 2), .ref (u6.1 3), .ref (u6.1 4), .ref (u6.1 5)])), (u6.1 1, .inr (1, [.int u6.2.2.1, .int u6.2.2.2.1, .int u6.2.2.2.2.1, .ref (u6.1 8)])), (u6.1 8, .inl (cI, u6.2.1 8, .inl u6.2.2.2.2.2.2.2.2.2.2.2.2.2.2.2.2.1)), (u6.1 2, .inr (2, [.ref (u6.1 9), .ref (u6.1 10), .ref (u6.1 1), .int u6.2.2.2.2.2.1])), (u6.1 9, .inl (cI, u6.2.1 9, .inl u6.2.2.2.2.2.2.2.2.2.2.2.2.2.2.2.2.2.1)), (u6.1 10, .inl (cI, u6.2.1 10, .inl u6.2.2.2.2.2.2.2.2.2.2.2.2.2.2.2.2.2.2.1)), (u6.1 3, .inr (3, [.ref (u6.1 11), .int u6.2.2.2.2.2.2.1, .int u6.2.2.2.2.2.2.2.1, .int u6.2.2.2.2.2.2.2.2.1])), (u6.1 11, .inl (cI, u6.2.1 11, .inl u6.2.2.2.2.2.2.2.2.2.2.2.2.2.2.2.2.2.2.2.1)), (u6.1 4, .inr (4, [.ref (u6.1 3), .ref (u6.1 12), .int u6.2.2.2.2.2.2.2.2.2.1])), (u6.1 12, .inl (cI, u6.2.1 12, .inl u6.2.2.2.2.2.2.2.2.2.2.2.2.2.2.2.2.2.2.2.2.1)), (u6.1 5, .inr (5, [.ref (u6.1 9), .ref (u6.1 3), .ref (u6.1 6), .int u6.2.2.2.2.2.2.2.2.2.2.1, .int u6.2.2.2.2.2.2.2.2.2.2.2.1, .int u6.2.2.2.2.2.2.2.2.2.2.2.2.1])), (u6.1 6, .inr (6, [.ref (u6.1 9), .ref (u6.1 13), .ref (u6.1 14), .int u6.2.2.2.2.2.2.2.2.2.2.2.2.2.1, .int u6.2.2.2.2.2.2.2.2.2.2.2.2.2.2.1, .int u6.2.2.2.2.2.2.2.2.2.2.2.2.2.2.2.1])), (u6.1 13, .inl (cI, u6.2.1 13, .inl u6.2.2.2.2.2.2.2.2.2.2.2.2.2.2.2.2.2.2.2.2.2.1)), (u6.1 14, .inl (cI, u6.2.1 14, .inl u6.2.2.2.2.2.2.2.2.2.2.2.2.2.2.2.2.2.2.2.2.2.2)), (q8, .inr (7, [.int 0, .int 0, .int 0, .null, .null, .int 0, .null, .int 0, .int 0, .int 0, .int 0, .int 0]))]) (As := [.ref (tb 2).1, .int 1]) (rest := [.int r10, .ref q8, .ref q8]) E hw (c_Law_cell (l := l) (dC := dC) (dI := dI) (cI := cI) (tb := tb) (a := a) (n := n)  (x1 := 1) (K := 2) (hK2 := (by decide)) h) tw420 tw421 tw32 tw422 2 (by decide) ⟨Nat.le_of_ble_eq_true rfl, Nat.le_of_ble_eq_true rfl⟩ ⟨Nat.le_of_ble_eq_true rfl, Nat.le_of_ble_eq_true rfl⟩ ⟨rfl, rfl⟩ [] [0, 1, 2, 3, 4, 5, 6, 7, 8, 9, 10, 11, 12, 13, 14] [0, 1, 2, 3, 4, 5, 6, 7, 8, 9, 10, 11, 12, 13, 14] rfl rfl rfl rfl (by decide) rfl (fun _ => rfl) hl.1 rfl rfl (Nat.le_of_ble_eq_true rfl) d_Law_law_29 (fun r12 u11 H locs h hw => ?_)
  refine kIv (y := y_Mod_init) (ws' := fun u13 => [(q1, .inr (0, [.ref (u6.1 1), .ref (u6.1 2), .ref (u6.1 3), .ref (u6.1 4), .ref (u6.1 5)])), (u6.1 1, .inr (1, [.int u6.2.2.1, .int u6.2.2.2.1, .int u6.2.2.2.2.1, .ref (u6.1 8)])), (u6.1 8, .inl (cI, u6.2.1 8, .inl u6.2.2.2.2.2.2.2.2.2.2.2.2.2.2.2.2.1)), (u6.1 2, .inr (2, [.ref (u6.1 9), .ref (u6.1 10), .ref (u6.1 1), .int u6.2.2.2.2.2.1])), (u6.1 9, .inl (cI, u6.2.1 9, .inl u6.2.2.2.2.2.2.2.2.2.2.2.2.2.2.2.2.2.1)), (u6.1 10, .inl (cI, u6.2.1 10, .inl u6.2.2.2.2.2.2.2.2.2.2.2.2.2.2.2.2.2.2.1)), (u6.1 3, .inr (3, [.ref (u6.1 11), .int u6.2.2.2.2.2.2.1, .int u6.2.2.2.2.2.2.2.1, .int u6.2.2.2.2.2.2.2.2.1])), (u6.1 11, .inl (cI, u6.2.1 11, .inl u6.2.2.2.2.2.2.2.2.2.2.2.2.2.2.2.2.2.2.2.1)), (u6.1 4, .inr (4, [.ref (u6.1 3), .ref (u6.1 12), .int u6.2.2.2.2.2.2.2.2.2.1])), (u6.1 12, .inl (cI, u6.2.1 12, .inl u6.2.2.2.2.2.2.2.2.2.2.2.2.2.2.2.2.2.2.2.2.1)), (u6.1 5, .inr (5, [.ref (u6.1 9), .ref (u6.1 3), .ref (u6.1 6), .int u6.2.2.2.2.2.2.2.2.2.2.1, .int u6.2.2.2.2.2.2.2.2.2.2.2.1, .int u6.2.2.2.2.2.2.2.2.2.2.2.2.1])), (u6.1 6, .inr (6, [.ref (u6.1 9), .ref (u6.1 13), .ref (u6.1 14), .int u6.2.2.2.2.2.2.2.2.2.2.2.2.2.1, .int u6.2.2.2.2.2.2.2.2.2.2.2.2.2.2.1, .int u6.2.2.2.2.2.2.2.2.2.2.2.2.2.2.2.1])), (u6.1 13, .inl (cI, u6.2.1 13, .inl u6.2.2.2.2.2.2.2.2.2.2.2.2.2.2.2.2.2.2.2.2.2.1)), (u6.1 14, .inl (cI, u6.2.1 14, .inl u6.2.2.2.2.2.2.2.2.2.2.2.2.2.2.2.2.2.2.2.2.2.2)), (q8, .inr (7, [.int u13.2.2.1, .int u13.2.2.2.1, .int u13.2.2.2.2.1, .ref (u13.1 15), .ref (u13.1 16), .int u13.2.2.2.2.2.1, .ref (u13.1 17), .int u13.2.2.2.2.2.2.1, .int u13.2.2.2.2.2.2.2.1, .int u13.2.2.2.2.2.2.2.2.1, .int u13.2.2.2.2.2.2.2.2.2.1, .int u13.2.2.2.2.2.2.2.2.2.2.1])), (u13.1 15, .inl (cI, u13.2.1 15, .inl u13.2.2.2.2.2.2.2.2.2.2.2.1)), (u13.1 16, .inl (cI, u13.2.1 16, .inl u13.2.2.2.2.2.2.2.2.2.2.2.2.1)), (u13.1 17, .inl (cI, u13.2.1 17, .inl u13.2.2.2.2.2.2.2.2.2.2.2.2.2))]) (wr := [(q1, .inr (0, [.ref (u6.1 1), .ref (u6.1 2), .ref (u6.1 3), .ref (u6.1 4), .ref (u6.1 5)])), (u6.1 1, .inr (1, [.int u6.2.2.1, .int u6.2.2.2.1, .int u6.2.2.2.2.1, .ref (u6.1 8)])), (u6.1 8, .inl (cI, u6.2.1 8, .inl u6.2.2.2.2.2.2.2.2.2.2.2.2.2.2.2.2.1)), (u6.1 2, .inr (2, [.ref (u6.1 9), .ref (u6.1 10), .ref (u6.1 1), .int u6.2.2.2.2.2.1])), (u6.1 9, .inl (cI, u6.2.1 9, .inl u6.2.2.2.2.2.2.2.2.2.2.2.2.2.2.2.2.2.1)), (u6.1 10, .inl (cI, u6.2.1 10, .inl u6.2.2.2.2.2.2.2.2.2.2.2.2.2.2.2.2.2.2.1)), (u6.1 3, .inr (3, [.ref (u6.1 11), .int u6.2.2.2.2.2.2.1, .int u6.2.2.2.2.2.2.2.1, .int u6.2.2.2.2.2.2.2.2.1])), (u6.1 11, .inl (cI, u6.2.1 11, .inl u6.2.2.2.2.2.2.2.2.2.2.2.2.2.2.2.2.2.2.2.1)), (u6.1 4, .inr (4, [.ref (u6.1 3), .ref (u6.1 12), .int u6.2.2.2.2.2.2.2.2.2.1])), (u6.1 12, .inl (cI, u6.2.1 12, .inl u6.2.2.2.2.2.2.2.2.2.2.2.2.2.2.2.2.2.2.2.2.1)), (u6.1 5, .inr (5, [.ref (u6.1 9), .ref (u6.1 3), .ref (u6.1 6), .int u6.2.2.2.2.2.2.2.2.2.2.1, .int u6.2.2.2.2.2.2.2.2.2.2.2.1, .int u6.2.2.2.2.2.2.2.2.2.2.2.2.1])), (u6.1 6, .inr (6, [.ref (u6.1 9), .ref (u6.1 13), .ref (u6.1 14), .int u6.2.2.2.2.2.2.2.2.2.2.2.2.2.1, .int u6.2.2.2.2.2.2.2.2.2.2.2.2.2.2.1, .int u6.2.2.2.2.2.2.2.2.2.2.2.2.2.2.2.1])), (u6.1 13, .inl (cI, u6.2.1 13, .inl u6.2.2.2.2.2.2.2.2.2.2.2.2.2.2.2.2.2.2.2.2.2.1)), (u6.1 14, .inl (cI, u6.2.1 14, .inl u6.2.2.2.2.2.2.2.2.2.2.2.2.2.2.2.2.2.2.2.2.2.2))]) (As := [.int r10, .int r12]) (rest := [.ref q8]) E hw (c_Mod_init (l := l) (dC := dC) (dI := dI) (cI := cI) (tb := tb) (a := fun k => if k = 7 then q8 else 0) (n := fun k => 0)  (x1 := r10) (x2 := r12) h) tw425 tw426 tw42 tw427 rfl 2 (by decide) ⟨Nat.le_of_ble_eq_true rfl, Nat.le_of_ble_eq_true rfl⟩ ⟨Nat.le_of_ble_eq_true rfl, Nat.le_of_ble_eq_true rfl⟩ ⟨rfl, rfl⟩ [14] [0, 1, 2, 3, 4, 5, 6, 7, 8, 9, 10, 11, 12, 13] [0, 1, 2, 3, 4, 5, 6, 7, 8, 9, 10, 11, 12, 13, 14, 15, 16, 17] rfl rfl rfl rfl (by decide) rfl (fun _ => rfl) hl.1 rfl rfl (Nat.le_of_ble_eq_true rfl) d_Law_law_32 (fun u13 H locs h hw => ?_)
  refine lv_astore_n (lv' := [(2, .ref q8), (1, .ref q1), (0, .ref (tb 2).1)]) hx hb d_Law_law_35 rfl hl (by decide) rfl (fun ls hl => ?_)
  refine lv_iconst (v := 2) hx hb d_Law_law_36 (by decide) ?_
  refine lv_istore_n (lv' := [(3, .int 2), (2, .ref q8), (1, .ref q1), (0, .ref (tb 2).1)]) hx hb d_Law_law_37 rfl hl (by decide) rfl (fun ls hl => ?_)
  obtain ⟨N92, h⟩ := h
  exact s_Law_law_38 (a := (fun k => if k = 0 then q1 else if k = 1 then u6.1 1 else if k = 2 then u6.1 2 else if k = 3 then u6.1 3 else if k = 4 then u6.1 4 else if k = 5 then u6.1 5 else if k = 6 then u6.1 6 else if k = 7 then q8 else if k = 8 then u6.1 8 else if k = 9 then u6.1 9 else if k = 10 then u6.1 10 else if k = 11 then u6.1 11 else if k = 12 then u6.1 12 else if k = 13 then u6.1 13 else if k = 14 then u6.1 14 else if k = 15 then u13.1 15 else if k = 16 then u13.1 16 else if k = 17 then u13.1 17 else 0)) (n := (fun k => if k = 8 then u6.2.1 8 else if k = 9 then u6.2.1 9 else if k = 10 then u6.2.1 10 else if k = 11 then u6.2.1 11 else if k = 12 then u6.2.1 12 else if k = 13 then u6.2.1 13 else if k = 14 then u6.2.1 14 else if k = 15 then u13.2.1 15 else if k = 16 then u13.2.1 16 else if k = 17 then u13.2.1 17 else 0)) (tb := tb) E hr hlk N92 u6.2.2.2.2.2.2.1 u6.2.2.2.2.2.2.2.1 u6.2.2.2.2.2.2.2.2.1 u6.2.2.2.2.2.2.2.2.2.1 u6.2.2.2.2.2.2.2.2.2.2.1 u6.2.2.2.2.2.2.2.2.2.2.2.1 u6.2.2.2.2.2.2.2.2.2.2.2.2.1 u6.2.2.2.2.2.2.2.2.2.2.2.2.2.1 u6.2.2.2.2.2.2.2.2.2.2.2.2.2.2.1 u6.2.2.2.2.2.2.2.2.2.2.2.2.2.2.2.1 u13.2.2.1 u13.2.2.2.2.2.1 u13.2.2.2.2.2.2.1 u13.2.2.2.2.2.2.2.1 u13.2.2.2.2.2.2.2.2.1 u13.2.2.2.2.2.2.2.2.2.1 u13.2.2.2.2.2.2.2.2.2.2.1 u6.2.2.2.2.2.2.2.2.2.2.2.2.2.2.2.2.1 u6.2.2.2.2.2.2.2.2.2.2.2.2.2.2.2.2.2.1 u6.2.2.2.2.2.2.2.2.2.2.2.2.2.2.2.2.2.2.1 u6.2.2.2.2.2.2.2.2.2.2.2.2.2.2.2.2.2.2.2.1 u6.2.2.2.2.2.2.2.2.2.2.2.2.2.2.2.2.2.2.2.2.2.1 u6.2.2.2.2.2.2.2.2.2.2.2.2.2.2.2.2.2.2.2.2.2.2 u13.2.2.2.2.2.2.2.2.2.2.2.1 u13.2.2.2.2.2.2.2.2.2.2.2.2.1 u13.2.2.2.2.2.2.2.2.2.2.2.2.2 2 _ _ ls (hw.perm [0, 1, 3, 6, 8, 10, 11, 14, 2, 4, 5, 7, 9, 12, 13, 15, 16, 17] rfl rfl) (lv_sub hl [3, 2, 1, 0] rfl) h
