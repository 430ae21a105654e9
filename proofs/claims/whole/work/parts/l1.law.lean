/-! THE LAW: its cell() and its body -/
theorem dL_cell_0 : decode cL_cell 0 = .ok (.iload_n 1, 1) := by decide +kernel
theorem dL_cell_1 : decode cL_cell 1 = .ok (.aload_n 0, 1) := by decide +kernel
theorem dL_cell_2 : decode cL_cell 2 = .ok (.arraylength, 1) := by decide +kernel
theorem dL_cell_3 : decode cL_cell 3 = .ok (.if_icmp .ge 9, 3) := by decide +kernel
theorem dL_cell_6 : decode cL_cell 6 = .ok (.aload_n 0, 1) := by decide +kernel
theorem dL_cell_7 : decode cL_cell 7 = .ok (.iload_n 1, 1) := by decide +kernel
theorem dL_cell_8 : decode cL_cell 8 = .ok (.iaload, 1) := by decide +kernel
theorem dL_cell_9 : decode cL_cell 9 = .ok (.goto 4, 3) := by decide +kernel
theorem dL_cell_12 : decode cL_cell 12 = .ok (.iconst 0, 1) := by decide +kernel
theorem dL_cell_13 : decode cL_cell 13 = .ok (.ireturn, 1) := by decide +kernel
def aL_cell_0 (L : Nat) (xs : Nat → Int32) (mc ms : Nat) (X : Nat → zV) (Q : zQt) : zT :=
  zli 1 <| zla 0 <| zxn L <| zic (fun x y => y ≤ x) (zc (.int 0) <| zj X 13 []) <| zla 0 <| zli 1 <| zxs L xs <| zj X 13 []
def aL_cell_13 (L : Nat) (xs : Nat → Int32) (mc ms : Nat) (X : Nat → zV) (Q : zQt) : zT :=
  zri Q
def lvL_cell : Nat → List Nat := fun L => match L with
  | 0 => [0, 1]
  | 13 => []
  | _ => []
def wL_cell (L : Nat) (xs : Nat → Int32) : zSp := fun mc ms av M Q => ((zlay av).length ≤ 2 ∧ zpick (zlay av) [0, 1] = some av) ∧ ∀ X : Nat → zV, zin 2 [0, 1] (aL_cell_0 L xs mc ms X Q) X 0 → zin 2 [] (aL_cell_13 L xs mc ms X Q) X 13 → X 0 0 0 av [] M
set_option maxRecDepth 100000 in
set_option maxHeartbeats 4000000 in
theorem sL_cell (l : Launch) (G : zG) {L : Nat} {xs : Nat → Int32} (hScr : zScr G L xs) : zSnd l G yL_cell cL_cell 2 (some .int) 0 0 (wL_cell L xs) := by
  refine zmk [0, 1] (by decide) (fun mc ms av M Q h => h.1) ?_
  intro p e R s m args below meth c mc ms av M Q hC hRf hRl hr hnm h lv hlv
  obtain ⟨X, hXe⟩ : ∃ X : Nat → zV, X = fun L u v vs st M => ∀ lv, zpick lv (lvL_cell L) = some vs → zAt p l e R s m args below meth c (MQ below (zQ G Q) args s mc ms (zA G)) G 2 L u v lv st M := ⟨_, rfl⟩
  have hJ : ∀ L, zOk p l e R s m args below meth c (MQ below (zQ G Q) args s mc ms (zA G)) G 2 L (zj X L (lvL_cell L)) := fun L => S_jump (fun u v lv vs st M hp hx => by rw [hXe] at hx; exact hx lv hp)
  have hB0 : zin 2 [0, 1] (aL_cell_0 L xs mc ms X Q) X 0 := by
    intro u v vs st M hb
    rw [hXe]
    refine fun lv hp => S_block (L := 0) (live := [0, 1]) ?_ u v lv vs st M hp hb
    unfold aL_cell_0
    refine S_iload_n (pc := 0) hC dL_cell_0 rfl ?_
    refine S_aload_n (pc := 1) hC dL_cell_1 rfl ?_
    refine S_xn (pc := 2) hC hScr dL_cell_2 ?_
    refine S_icmp_ge (pc := 3) (tgt := 12) hC dL_cell_3 (by decide) ?_ ?_
    · refine S_iconst (pc := 12) hC dL_cell_12 (by decide) ?_
      exact hJ 13
    · refine S_aload_n (pc := 6) hC dL_cell_6 rfl ?_
      refine S_iload_n (pc := 7) hC dL_cell_7 rfl ?_
      refine S_xs (pc := 8) hC hScr dL_cell_8 ?_
      refine S_goto (pc := 9) (tgt := 13) hC dL_cell_9 (by decide) ?_
      exact hJ 13
  have hB13 : zin 2 [] (aL_cell_13 L xs mc ms X Q) X 13 := by
    intro u v vs st M hb
    rw [hXe]
    refine fun lv hp => S_block (L := 13) (live := []) ?_ u v lv vs st M hp hb
    unfold aL_cell_13
    exact S_ireturn (pc := 13) hC hr dL_cell_13
  have := h.2 X hB0 hB13
  rw [hXe] at this
  exact this lv hlv
theorem dL_law_0 : decode cL_law 0 = .ok (.new 8, 3) := by decide +kernel
theorem dL_law_3 : decode cL_law 3 = .ok (.dup, 1) := by decide +kernel
theorem dL_law_4 : decode cL_law 4 = .ok (.aload_n 0, 1) := by decide +kernel
theorem dL_law_5 : decode cL_law 5 = .ok (.iconst 0, 1) := by decide +kernel
theorem dL_law_6 : decode cL_law 6 = .ok (.invokestatic 49, 3) := by decide +kernel
theorem dL_law_9 : decode cL_law 9 = .ok (.invokespecial 55, 3) := by decide +kernel
theorem dL_law_12 : decode cL_law 12 = .ok (.astore_n 1, 1) := by decide +kernel
theorem dL_law_13 : decode cL_law 13 = .ok (.new 58, 3) := by decide +kernel
theorem dL_law_16 : decode cL_law 16 = .ok (.dup, 1) := by decide +kernel
theorem dL_law_17 : decode cL_law 17 = .ok (.aload_n 0, 1) := by decide +kernel
theorem dL_law_18 : decode cL_law 18 = .ok (.iconst 0, 1) := by decide +kernel
theorem dL_law_19 : decode cL_law 19 = .ok (.invokestatic 49, 3) := by decide +kernel
theorem dL_law_22 : decode cL_law 22 = .ok (.invokespecial 60, 3) := by decide +kernel
theorem dL_law_25 : decode cL_law 25 = .ok (.astore_n 2, 1) := by decide +kernel
theorem dL_law_26 : decode cL_law 26 = .ok (.iconst 1, 1) := by decide +kernel
theorem dL_law_27 : decode cL_law 27 = .ok (.newarray .long, 2) := by decide +kernel
theorem dL_law_29 : decode cL_law 29 = .ok (.astore_n 3, 1) := by decide +kernel
theorem dL_law_30 : decode cL_law 30 = .ok (.iconst 1, 1) := by decide +kernel
theorem dL_law_31 : decode cL_law 31 = .ok (.istore 4, 2) := by decide +kernel
theorem dL_law_33 : decode cL_law 33 = .ok (.iload 4, 2) := by decide +kernel
theorem dL_law_35 : decode cL_law 35 = .ok (.aload_n 0, 1) := by decide +kernel
theorem dL_law_36 : decode cL_law 36 = .ok (.arraylength, 1) := by decide +kernel
theorem dL_law_37 : decode cL_law 37 = .ok (.bipush 6, 2) := by decide +kernel
theorem dL_law_39 : decode cL_law 39 = .ok (.isub, 1) := by decide +kernel
theorem dL_law_40 : decode cL_law 40 = .ok (.if_icmp .gt 815, 3) := by decide +kernel
theorem dL_law_43 : decode cL_law 43 = .ok (.aload_n 0, 1) := by decide +kernel
theorem dL_law_44 : decode cL_law 44 = .ok (.iload 4, 2) := by decide +kernel
theorem dL_law_46 : decode cL_law 46 = .ok (.iaload, 1) := by decide +kernel
theorem dL_law_47 : decode cL_law 47 = .ok (.bipush 15, 2) := by decide +kernel
theorem dL_law_49 : decode cL_law 49 = .ok (.iand, 1) := by decide +kernel
theorem dL_law_50 : decode cL_law 50 = .ok (.tableswitch 799 0 15 #[78, 151, 207, 263, 276, 289, 345, 400, 426, 451, 506, 562, 618, 662, 706, 774], 78) := by decide +kernel
theorem dL_law_128 : decode cL_law 128 = .ok (.aload_n 1, 1) := by decide +kernel
theorem dL_law_129 : decode cL_law 129 = .ok (.aload_n 0, 1) := by decide +kernel
theorem dL_law_130 : decode cL_law 130 = .ok (.iload 4, 2) := by decide +kernel
theorem dL_law_132 : decode cL_law 132 = .ok (.iconst 1, 1) := by decide +kernel
theorem dL_law_133 : decode cL_law 133 = .ok (.iadd, 1) := by decide +kernel
theorem dL_law_134 : decode cL_law 134 = .ok (.iaload, 1) := by decide +kernel
theorem dL_law_135 : decode cL_law 135 = .ok (.aload_n 0, 1) := by decide +kernel
theorem dL_law_136 : decode cL_law 136 = .ok (.iload 4, 2) := by decide +kernel
theorem dL_law_138 : decode cL_law 138 = .ok (.iconst 2, 1) := by decide +kernel
theorem dL_law_139 : decode cL_law 139 = .ok (.iadd, 1) := by decide +kernel
theorem dL_law_140 : decode cL_law 140 = .ok (.iaload, 1) := by decide +kernel
theorem dL_law_141 : decode cL_law 141 = .ok (.aload_n 0, 1) := by decide +kernel
theorem dL_law_142 : decode cL_law 142 = .ok (.iload 4, 2) := by decide +kernel
theorem dL_law_144 : decode cL_law 144 = .ok (.iconst 3, 1) := by decide +kernel
theorem dL_law_145 : decode cL_law 145 = .ok (.iadd, 1) := by decide +kernel
theorem dL_law_146 : decode cL_law 146 = .ok (.iaload, 1) := by decide +kernel
theorem dL_law_147 : decode cL_law 147 = .ok (.aload_n 0, 1) := by decide +kernel
theorem dL_law_148 : decode cL_law 148 = .ok (.iload 4, 2) := by decide +kernel
theorem dL_law_150 : decode cL_law 150 = .ok (.iconst 4, 1) := by decide +kernel
theorem dL_law_151 : decode cL_law 151 = .ok (.iadd, 1) := by decide +kernel
theorem dL_law_152 : decode cL_law 152 = .ok (.iaload, 1) := by decide +kernel
theorem dL_law_153 : decode cL_law 153 = .ok (.aload_n 0, 1) := by decide +kernel
theorem dL_law_154 : decode cL_law 154 = .ok (.iload 4, 2) := by decide +kernel
theorem dL_law_156 : decode cL_law 156 = .ok (.iconst 5, 1) := by decide +kernel
theorem dL_law_157 : decode cL_law 157 = .ok (.iadd, 1) := by decide +kernel
theorem dL_law_158 : decode cL_law 158 = .ok (.iaload, 1) := by decide +kernel
theorem dL_law_159 : decode cL_law 159 = .ok (.invokevirtual 61, 3) := by decide +kernel
theorem dL_law_162 : decode cL_law 162 = .ok (.aload_n 2, 1) := by decide +kernel
theorem dL_law_163 : decode cL_law 163 = .ok (.aload_n 0, 1) := by decide +kernel
theorem dL_law_164 : decode cL_law 164 = .ok (.iload 4, 2) := by decide +kernel
theorem dL_law_166 : decode cL_law 166 = .ok (.iconst 1, 1) := by decide +kernel
theorem dL_law_167 : decode cL_law 167 = .ok (.iadd, 1) := by decide +kernel
theorem dL_law_168 : decode cL_law 168 = .ok (.iaload, 1) := by decide +kernel
theorem dL_law_169 : decode cL_law 169 = .ok (.aload_n 0, 1) := by decide +kernel
theorem dL_law_170 : decode cL_law 170 = .ok (.iload 4, 2) := by decide +kernel
theorem dL_law_172 : decode cL_law 172 = .ok (.iconst 2, 1) := by decide +kernel
theorem dL_law_173 : decode cL_law 173 = .ok (.iadd, 1) := by decide +kernel
theorem dL_law_174 : decode cL_law 174 = .ok (.iaload, 1) := by decide +kernel
theorem dL_law_175 : decode cL_law 175 = .ok (.aload_n 0, 1) := by decide +kernel
theorem dL_law_176 : decode cL_law 176 = .ok (.iload 4, 2) := by decide +kernel
theorem dL_law_178 : decode cL_law 178 = .ok (.iconst 3, 1) := by decide +kernel
theorem dL_law_179 : decode cL_law 179 = .ok (.iadd, 1) := by decide +kernel
theorem dL_law_180 : decode cL_law 180 = .ok (.iaload, 1) := by decide +kernel
theorem dL_law_181 : decode cL_law 181 = .ok (.aload_n 0, 1) := by decide +kernel
theorem dL_law_182 : decode cL_law 182 = .ok (.iload 4, 2) := by decide +kernel
theorem dL_law_184 : decode cL_law 184 = .ok (.iconst 4, 1) := by decide +kernel
theorem dL_law_185 : decode cL_law 185 = .ok (.iadd, 1) := by decide +kernel
theorem dL_law_186 : decode cL_law 186 = .ok (.iaload, 1) := by decide +kernel
theorem dL_law_187 : decode cL_law 187 = .ok (.aload_n 0, 1) := by decide +kernel
theorem dL_law_188 : decode cL_law 188 = .ok (.iload 4, 2) := by decide +kernel
theorem dL_law_190 : decode cL_law 190 = .ok (.iconst 5, 1) := by decide +kernel
theorem dL_law_191 : decode cL_law 191 = .ok (.iadd, 1) := by decide +kernel
theorem dL_law_192 : decode cL_law 192 = .ok (.iaload, 1) := by decide +kernel
theorem dL_law_193 : decode cL_law 193 = .ok (.invokevirtual 65, 3) := by decide +kernel
theorem dL_law_196 : decode cL_law 196 = .ok (.if_icmp .eq 653, 3) := by decide +kernel
theorem dL_law_199 : decode cL_law 199 = .ok (.iconst 0, 1) := by decide +kernel
theorem dL_law_200 : decode cL_law 200 = .ok (.ireturn, 1) := by decide +kernel
theorem dL_law_201 : decode cL_law 201 = .ok (.aload_n 1, 1) := by decide +kernel
theorem dL_law_202 : decode cL_law 202 = .ok (.aload_n 0, 1) := by decide +kernel
theorem dL_law_203 : decode cL_law 203 = .ok (.iload 4, 2) := by decide +kernel
theorem dL_law_205 : decode cL_law 205 = .ok (.iconst 1, 1) := by decide +kernel
theorem dL_law_206 : decode cL_law 206 = .ok (.iadd, 1) := by decide +kernel
theorem dL_law_207 : decode cL_law 207 = .ok (.iaload, 1) := by decide +kernel
theorem dL_law_208 : decode cL_law 208 = .ok (.aload_n 3, 1) := by decide +kernel
theorem dL_law_209 : decode cL_law 209 = .ok (.invokestatic 66, 3) := by decide +kernel
theorem dL_law_212 : decode cL_law 212 = .ok (.istore 5, 2) := by decide +kernel
theorem dL_law_214 : decode cL_law 214 = .ok (.aload_n 2, 1) := by decide +kernel
theorem dL_law_215 : decode cL_law 215 = .ok (.aload_n 0, 1) := by decide +kernel
theorem dL_law_216 : decode cL_law 216 = .ok (.iload 4, 2) := by decide +kernel
theorem dL_law_218 : decode cL_law 218 = .ok (.iconst 1, 1) := by decide +kernel
theorem dL_law_219 : decode cL_law 219 = .ok (.iadd, 1) := by decide +kernel
theorem dL_law_220 : decode cL_law 220 = .ok (.iaload, 1) := by decide +kernel
theorem dL_law_221 : decode cL_law 221 = .ok (.invokevirtual 69, 3) := by decide +kernel
theorem dL_law_224 : decode cL_law 224 = .ok (.istore 6, 2) := by decide +kernel
theorem dL_law_226 : decode cL_law 226 = .ok (.aload_n 2, 1) := by decide +kernel
theorem dL_law_227 : decode cL_law 227 = .ok (.invokevirtual 70, 3) := by decide +kernel
theorem dL_law_230 : decode cL_law 230 = .ok (.iload 5, 2) := by decide +kernel
theorem dL_law_232 : decode cL_law 232 = .ok (.if_icmp .eq 5, 3) := by decide +kernel
theorem dL_law_235 : decode cL_law 235 = .ok (.iconst 0, 1) := by decide +kernel
theorem dL_law_236 : decode cL_law 236 = .ok (.ireturn, 1) := by decide +kernel
theorem dL_law_237 : decode cL_law 237 = .ok (.iload 5, 2) := by decide +kernel
theorem dL_law_239 : decode cL_law 239 = .ok (.ifCond .ne 15, 3) := by decide +kernel
theorem dL_law_242 : decode cL_law 242 = .ok (.aload_n 3, 1) := by decide +kernel
theorem dL_law_243 : decode cL_law 243 = .ok (.iconst 0, 1) := by decide +kernel
theorem dL_law_244 : decode cL_law 244 = .ok (.laload, 1) := by decide +kernel
theorem dL_law_245 : decode cL_law 245 = .ok (.iload 6, 2) := by decide +kernel
theorem dL_law_247 : decode cL_law 247 = .ok (.i2l, 1) := by decide +kernel
theorem dL_law_248 : decode cL_law 248 = .ok (.lcmp, 1) := by decide +kernel
theorem dL_law_249 : decode cL_law 249 = .ok (.ifCond .eq 5, 3) := by decide +kernel
theorem dL_law_252 : decode cL_law 252 = .ok (.iconst 0, 1) := by decide +kernel
theorem dL_law_253 : decode cL_law 253 = .ok (.ireturn, 1) := by decide +kernel
theorem dL_law_254 : decode cL_law 254 = .ok (.goto 595, 3) := by decide +kernel
theorem dL_law_257 : decode cL_law 257 = .ok (.aload_n 1, 1) := by decide +kernel
theorem dL_law_258 : decode cL_law 258 = .ok (.aload_n 0, 1) := by decide +kernel
theorem dL_law_259 : decode cL_law 259 = .ok (.iload 4, 2) := by decide +kernel
theorem dL_law_261 : decode cL_law 261 = .ok (.iconst 1, 1) := by decide +kernel
theorem dL_law_262 : decode cL_law 262 = .ok (.iadd, 1) := by decide +kernel
theorem dL_law_263 : decode cL_law 263 = .ok (.iaload, 1) := by decide +kernel
theorem dL_law_264 : decode cL_law 264 = .ok (.aload_n 3, 1) := by decide +kernel
theorem dL_law_265 : decode cL_law 265 = .ok (.invokestatic 73, 3) := by decide +kernel
theorem dL_law_268 : decode cL_law 268 = .ok (.istore 5, 2) := by decide +kernel
theorem dL_law_270 : decode cL_law 270 = .ok (.aload_n 2, 1) := by decide +kernel
theorem dL_law_271 : decode cL_law 271 = .ok (.aload_n 0, 1) := by decide +kernel
theorem dL_law_272 : decode cL_law 272 = .ok (.iload 4, 2) := by decide +kernel
theorem dL_law_274 : decode cL_law 274 = .ok (.iconst 1, 1) := by decide +kernel
theorem dL_law_275 : decode cL_law 275 = .ok (.iadd, 1) := by decide +kernel
theorem dL_law_276 : decode cL_law 276 = .ok (.iaload, 1) := by decide +kernel
theorem dL_law_277 : decode cL_law 277 = .ok (.invokevirtual 75, 3) := by decide +kernel
theorem dL_law_280 : decode cL_law 280 = .ok (.istore 6, 2) := by decide +kernel
theorem dL_law_282 : decode cL_law 282 = .ok (.aload_n 2, 1) := by decide +kernel
theorem dL_law_283 : decode cL_law 283 = .ok (.invokevirtual 70, 3) := by decide +kernel
theorem dL_law_286 : decode cL_law 286 = .ok (.iload 5, 2) := by decide +kernel
theorem dL_law_288 : decode cL_law 288 = .ok (.if_icmp .eq 5, 3) := by decide +kernel
theorem dL_law_291 : decode cL_law 291 = .ok (.iconst 0, 1) := by decide +kernel
theorem dL_law_292 : decode cL_law 292 = .ok (.ireturn, 1) := by decide +kernel
theorem dL_law_293 : decode cL_law 293 = .ok (.iload 5, 2) := by decide +kernel
theorem dL_law_295 : decode cL_law 295 = .ok (.ifCond .ne 15, 3) := by decide +kernel
theorem dL_law_298 : decode cL_law 298 = .ok (.aload_n 3, 1) := by decide +kernel
theorem dL_law_299 : decode cL_law 299 = .ok (.iconst 0, 1) := by decide +kernel
theorem dL_law_300 : decode cL_law 300 = .ok (.laload, 1) := by decide +kernel
theorem dL_law_301 : decode cL_law 301 = .ok (.iload 6, 2) := by decide +kernel
theorem dL_law_303 : decode cL_law 303 = .ok (.i2l, 1) := by decide +kernel
theorem dL_law_304 : decode cL_law 304 = .ok (.lcmp, 1) := by decide +kernel
theorem dL_law_305 : decode cL_law 305 = .ok (.ifCond .eq 5, 3) := by decide +kernel
theorem dL_law_308 : decode cL_law 308 = .ok (.iconst 0, 1) := by decide +kernel
theorem dL_law_309 : decode cL_law 309 = .ok (.ireturn, 1) := by decide +kernel
theorem dL_law_310 : decode cL_law 310 = .ok (.goto 539, 3) := by decide +kernel
theorem dL_law_313 : decode cL_law 313 = .ok (.aload_n 1, 1) := by decide +kernel
theorem dL_law_314 : decode cL_law 314 = .ok (.invokevirtual 76, 3) := by decide +kernel
theorem dL_law_317 : decode cL_law 317 = .ok (.aload_n 2, 1) := by decide +kernel
theorem dL_law_318 : decode cL_law 318 = .ok (.invokevirtual 80, 3) := by decide +kernel
theorem dL_law_321 : decode cL_law 321 = .ok (.if_icmp .eq 528, 3) := by decide +kernel
theorem dL_law_324 : decode cL_law 324 = .ok (.iconst 0, 1) := by decide +kernel
theorem dL_law_325 : decode cL_law 325 = .ok (.ireturn, 1) := by decide +kernel
theorem dL_law_326 : decode cL_law 326 = .ok (.aload_n 1, 1) := by decide +kernel
theorem dL_law_327 : decode cL_law 327 = .ok (.invokevirtual 81, 3) := by decide +kernel
theorem dL_law_330 : decode cL_law 330 = .ok (.aload_n 2, 1) := by decide +kernel
theorem dL_law_331 : decode cL_law 331 = .ok (.invokevirtual 84, 3) := by decide +kernel
theorem dL_law_334 : decode cL_law 334 = .ok (.if_icmp .eq 515, 3) := by decide +kernel
theorem dL_law_337 : decode cL_law 337 = .ok (.iconst 0, 1) := by decide +kernel
theorem dL_law_338 : decode cL_law 338 = .ok (.ireturn, 1) := by decide +kernel
theorem dL_law_339 : decode cL_law 339 = .ok (.aload_n 1, 1) := by decide +kernel
theorem dL_law_340 : decode cL_law 340 = .ok (.aload_n 0, 1) := by decide +kernel
theorem dL_law_341 : decode cL_law 341 = .ok (.iload 4, 2) := by decide +kernel
theorem dL_law_343 : decode cL_law 343 = .ok (.iconst 1, 1) := by decide +kernel
theorem dL_law_344 : decode cL_law 344 = .ok (.iadd, 1) := by decide +kernel
theorem dL_law_345 : decode cL_law 345 = .ok (.iaload, 1) := by decide +kernel
theorem dL_law_346 : decode cL_law 346 = .ok (.aload_n 3, 1) := by decide +kernel
theorem dL_law_347 : decode cL_law 347 = .ok (.invokestatic 85, 3) := by decide +kernel
theorem dL_law_350 : decode cL_law 350 = .ok (.istore 5, 2) := by decide +kernel
theorem dL_law_352 : decode cL_law 352 = .ok (.aload_n 2, 1) := by decide +kernel
theorem dL_law_353 : decode cL_law 353 = .ok (.aload_n 0, 1) := by decide +kernel
theorem dL_law_354 : decode cL_law 354 = .ok (.iload 4, 2) := by decide +kernel
theorem dL_law_356 : decode cL_law 356 = .ok (.iconst 1, 1) := by decide +kernel
theorem dL_law_357 : decode cL_law 357 = .ok (.iadd, 1) := by decide +kernel
theorem dL_law_358 : decode cL_law 358 = .ok (.iaload, 1) := by decide +kernel
theorem dL_law_359 : decode cL_law 359 = .ok (.invokevirtual 87, 3) := by decide +kernel
theorem dL_law_362 : decode cL_law 362 = .ok (.istore 6, 2) := by decide +kernel
theorem dL_law_364 : decode cL_law 364 = .ok (.aload_n 2, 1) := by decide +kernel
theorem dL_law_365 : decode cL_law 365 = .ok (.invokevirtual 70, 3) := by decide +kernel
theorem dL_law_368 : decode cL_law 368 = .ok (.iload 5, 2) := by decide +kernel
theorem dL_law_370 : decode cL_law 370 = .ok (.if_icmp .eq 5, 3) := by decide +kernel
theorem dL_law_373 : decode cL_law 373 = .ok (.iconst 0, 1) := by decide +kernel
theorem dL_law_374 : decode cL_law 374 = .ok (.ireturn, 1) := by decide +kernel
theorem dL_law_375 : decode cL_law 375 = .ok (.iload 5, 2) := by decide +kernel
theorem dL_law_377 : decode cL_law 377 = .ok (.ifCond .ne 15, 3) := by decide +kernel
theorem dL_law_380 : decode cL_law 380 = .ok (.aload_n 3, 1) := by decide +kernel
theorem dL_law_381 : decode cL_law 381 = .ok (.iconst 0, 1) := by decide +kernel
theorem dL_law_382 : decode cL_law 382 = .ok (.laload, 1) := by decide +kernel
theorem dL_law_383 : decode cL_law 383 = .ok (.iload 6, 2) := by decide +kernel
theorem dL_law_385 : decode cL_law 385 = .ok (.i2l, 1) := by decide +kernel
theorem dL_law_386 : decode cL_law 386 = .ok (.lcmp, 1) := by decide +kernel
theorem dL_law_387 : decode cL_law 387 = .ok (.ifCond .eq 5, 3) := by decide +kernel
theorem dL_law_390 : decode cL_law 390 = .ok (.iconst 0, 1) := by decide +kernel
theorem dL_law_391 : decode cL_law 391 = .ok (.ireturn, 1) := by decide +kernel
theorem dL_law_392 : decode cL_law 392 = .ok (.goto 457, 3) := by decide +kernel
theorem dL_law_395 : decode cL_law 395 = .ok (.aload_n 1, 1) := by decide +kernel
theorem dL_law_396 : decode cL_law 396 = .ok (.aload_n 0, 1) := by decide +kernel
theorem dL_law_397 : decode cL_law 397 = .ok (.iload 4, 2) := by decide +kernel
theorem dL_law_399 : decode cL_law 399 = .ok (.iconst 1, 1) := by decide +kernel
theorem dL_law_400 : decode cL_law 400 = .ok (.iadd, 1) := by decide +kernel
theorem dL_law_401 : decode cL_law 401 = .ok (.iaload, 1) := by decide +kernel
theorem dL_law_402 : decode cL_law 402 = .ok (.aload_n 3, 1) := by decide +kernel
theorem dL_law_403 : decode cL_law 403 = .ok (.invokestatic 88, 3) := by decide +kernel
theorem dL_law_406 : decode cL_law 406 = .ok (.istore 5, 2) := by decide +kernel
theorem dL_law_408 : decode cL_law 408 = .ok (.aload_n 2, 1) := by decide +kernel
theorem dL_law_409 : decode cL_law 409 = .ok (.aload_n 0, 1) := by decide +kernel
theorem dL_law_410 : decode cL_law 410 = .ok (.iload 4, 2) := by decide +kernel
theorem dL_law_412 : decode cL_law 412 = .ok (.iconst 1, 1) := by decide +kernel
theorem dL_law_413 : decode cL_law 413 = .ok (.iadd, 1) := by decide +kernel
theorem dL_law_414 : decode cL_law 414 = .ok (.iaload, 1) := by decide +kernel
theorem dL_law_415 : decode cL_law 415 = .ok (.invokevirtual 90, 3) := by decide +kernel
theorem dL_law_418 : decode cL_law 418 = .ok (.lstore 6, 2) := by decide +kernel
theorem dL_law_420 : decode cL_law 420 = .ok (.aload_n 2, 1) := by decide +kernel
theorem dL_law_421 : decode cL_law 421 = .ok (.invokevirtual 70, 3) := by decide +kernel
theorem dL_law_424 : decode cL_law 424 = .ok (.iload 5, 2) := by decide +kernel
theorem dL_law_426 : decode cL_law 426 = .ok (.if_icmp .eq 5, 3) := by decide +kernel
theorem dL_law_429 : decode cL_law 429 = .ok (.iconst 0, 1) := by decide +kernel
theorem dL_law_430 : decode cL_law 430 = .ok (.ireturn, 1) := by decide +kernel
theorem dL_law_431 : decode cL_law 431 = .ok (.iload 5, 2) := by decide +kernel
theorem dL_law_433 : decode cL_law 433 = .ok (.ifCond .ne 14, 3) := by decide +kernel
theorem dL_law_436 : decode cL_law 436 = .ok (.aload_n 3, 1) := by decide +kernel
theorem dL_law_437 : decode cL_law 437 = .ok (.iconst 0, 1) := by decide +kernel
theorem dL_law_438 : decode cL_law 438 = .ok (.laload, 1) := by decide +kernel
theorem dL_law_439 : decode cL_law 439 = .ok (.lload 6, 2) := by decide +kernel
theorem dL_law_441 : decode cL_law 441 = .ok (.lcmp, 1) := by decide +kernel
theorem dL_law_442 : decode cL_law 442 = .ok (.ifCond .eq 5, 3) := by decide +kernel
theorem dL_law_445 : decode cL_law 445 = .ok (.iconst 0, 1) := by decide +kernel
theorem dL_law_446 : decode cL_law 446 = .ok (.ireturn, 1) := by decide +kernel
theorem dL_law_447 : decode cL_law 447 = .ok (.goto 402, 3) := by decide +kernel
theorem dL_law_450 : decode cL_law 450 = .ok (.aload_n 1, 1) := by decide +kernel
theorem dL_law_451 : decode cL_law 451 = .ok (.aload_n 0, 1) := by decide +kernel
theorem dL_law_452 : decode cL_law 452 = .ok (.iload 4, 2) := by decide +kernel
theorem dL_law_454 : decode cL_law 454 = .ok (.iconst 1, 1) := by decide +kernel
theorem dL_law_455 : decode cL_law 455 = .ok (.iadd, 1) := by decide +kernel
theorem dL_law_456 : decode cL_law 456 = .ok (.iaload, 1) := by decide +kernel
theorem dL_law_457 : decode cL_law 457 = .ok (.invokevirtual 91, 3) := by decide +kernel
theorem dL_law_460 : decode cL_law 460 = .ok (.aload_n 2, 1) := by decide +kernel
theorem dL_law_461 : decode cL_law 461 = .ok (.aload_n 0, 1) := by decide +kernel
theorem dL_law_462 : decode cL_law 462 = .ok (.iload 4, 2) := by decide +kernel
theorem dL_law_464 : decode cL_law 464 = .ok (.iconst 1, 1) := by decide +kernel
theorem dL_law_465 : decode cL_law 465 = .ok (.iadd, 1) := by decide +kernel
theorem dL_law_466 : decode cL_law 466 = .ok (.iaload, 1) := by decide +kernel
theorem dL_law_467 : decode cL_law 467 = .ok (.invokevirtual 94, 3) := by decide +kernel
theorem dL_law_470 : decode cL_law 470 = .ok (.lcmp, 1) := by decide +kernel
theorem dL_law_471 : decode cL_law 471 = .ok (.ifCond .eq 378, 3) := by decide +kernel
theorem dL_law_474 : decode cL_law 474 = .ok (.iconst 0, 1) := by decide +kernel
theorem dL_law_475 : decode cL_law 475 = .ok (.ireturn, 1) := by decide +kernel
theorem dL_law_476 : decode cL_law 476 = .ok (.aload_n 1, 1) := by decide +kernel
theorem dL_law_477 : decode cL_law 477 = .ok (.aload_n 0, 1) := by decide +kernel
theorem dL_law_478 : decode cL_law 478 = .ok (.iload 4, 2) := by decide +kernel
theorem dL_law_480 : decode cL_law 480 = .ok (.iconst 1, 1) := by decide +kernel
theorem dL_law_481 : decode cL_law 481 = .ok (.iadd, 1) := by decide +kernel
theorem dL_law_482 : decode cL_law 482 = .ok (.iaload, 1) := by decide +kernel
theorem dL_law_483 : decode cL_law 483 = .ok (.invokevirtual 95, 3) := by decide +kernel
theorem dL_law_486 : decode cL_law 486 = .ok (.aload_n 2, 1) := by decide +kernel
theorem dL_law_487 : decode cL_law 487 = .ok (.aload_n 0, 1) := by decide +kernel
theorem dL_law_488 : decode cL_law 488 = .ok (.iload 4, 2) := by decide +kernel
theorem dL_law_490 : decode cL_law 490 = .ok (.iconst 1, 1) := by decide +kernel
theorem dL_law_491 : decode cL_law 491 = .ok (.iadd, 1) := by decide +kernel
theorem dL_law_492 : decode cL_law 492 = .ok (.iaload, 1) := by decide +kernel
theorem dL_law_493 : decode cL_law 493 = .ok (.invokevirtual 98, 3) := by decide +kernel
theorem dL_law_496 : decode cL_law 496 = .ok (.if_icmp .eq 353, 3) := by decide +kernel
theorem dL_law_499 : decode cL_law 499 = .ok (.iconst 0, 1) := by decide +kernel
theorem dL_law_500 : decode cL_law 500 = .ok (.ireturn, 1) := by decide +kernel
theorem dL_law_501 : decode cL_law 501 = .ok (.aload_n 1, 1) := by decide +kernel
theorem dL_law_502 : decode cL_law 502 = .ok (.aload_n 0, 1) := by decide +kernel
theorem dL_law_503 : decode cL_law 503 = .ok (.iload 4, 2) := by decide +kernel
theorem dL_law_505 : decode cL_law 505 = .ok (.iconst 1, 1) := by decide +kernel
theorem dL_law_506 : decode cL_law 506 = .ok (.iadd, 1) := by decide +kernel
theorem dL_law_507 : decode cL_law 507 = .ok (.iaload, 1) := by decide +kernel
theorem dL_law_508 : decode cL_law 508 = .ok (.aload_n 3, 1) := by decide +kernel
theorem dL_law_509 : decode cL_law 509 = .ok (.invokestatic 99, 3) := by decide +kernel
theorem dL_law_512 : decode cL_law 512 = .ok (.istore 5, 2) := by decide +kernel
theorem dL_law_514 : decode cL_law 514 = .ok (.aload_n 2, 1) := by decide +kernel
theorem dL_law_515 : decode cL_law 515 = .ok (.aload_n 0, 1) := by decide +kernel
theorem dL_law_516 : decode cL_law 516 = .ok (.iload 4, 2) := by decide +kernel
theorem dL_law_518 : decode cL_law 518 = .ok (.iconst 1, 1) := by decide +kernel
theorem dL_law_519 : decode cL_law 519 = .ok (.iadd, 1) := by decide +kernel
theorem dL_law_520 : decode cL_law 520 = .ok (.iaload, 1) := by decide +kernel
theorem dL_law_521 : decode cL_law 521 = .ok (.invokevirtual 101, 3) := by decide +kernel
theorem dL_law_524 : decode cL_law 524 = .ok (.lstore 6, 2) := by decide +kernel
theorem dL_law_526 : decode cL_law 526 = .ok (.aload_n 2, 1) := by decide +kernel
theorem dL_law_527 : decode cL_law 527 = .ok (.invokevirtual 70, 3) := by decide +kernel
theorem dL_law_530 : decode cL_law 530 = .ok (.iload 5, 2) := by decide +kernel
theorem dL_law_532 : decode cL_law 532 = .ok (.if_icmp .eq 5, 3) := by decide +kernel
theorem dL_law_535 : decode cL_law 535 = .ok (.iconst 0, 1) := by decide +kernel
theorem dL_law_536 : decode cL_law 536 = .ok (.ireturn, 1) := by decide +kernel
theorem dL_law_537 : decode cL_law 537 = .ok (.iload 5, 2) := by decide +kernel
theorem dL_law_539 : decode cL_law 539 = .ok (.ifCond .ne 14, 3) := by decide +kernel
theorem dL_law_542 : decode cL_law 542 = .ok (.aload_n 3, 1) := by decide +kernel
theorem dL_law_543 : decode cL_law 543 = .ok (.iconst 0, 1) := by decide +kernel
theorem dL_law_544 : decode cL_law 544 = .ok (.laload, 1) := by decide +kernel
theorem dL_law_545 : decode cL_law 545 = .ok (.lload 6, 2) := by decide +kernel
theorem dL_law_547 : decode cL_law 547 = .ok (.lcmp, 1) := by decide +kernel
theorem dL_law_548 : decode cL_law 548 = .ok (.ifCond .eq 5, 3) := by decide +kernel
theorem dL_law_551 : decode cL_law 551 = .ok (.iconst 0, 1) := by decide +kernel
theorem dL_law_552 : decode cL_law 552 = .ok (.ireturn, 1) := by decide +kernel
theorem dL_law_553 : decode cL_law 553 = .ok (.goto 296, 3) := by decide +kernel
theorem dL_law_556 : decode cL_law 556 = .ok (.aload_n 1, 1) := by decide +kernel
theorem dL_law_557 : decode cL_law 557 = .ok (.aload_n 0, 1) := by decide +kernel
theorem dL_law_558 : decode cL_law 558 = .ok (.iload 4, 2) := by decide +kernel
theorem dL_law_560 : decode cL_law 560 = .ok (.iconst 1, 1) := by decide +kernel
theorem dL_law_561 : decode cL_law 561 = .ok (.iadd, 1) := by decide +kernel
theorem dL_law_562 : decode cL_law 562 = .ok (.iaload, 1) := by decide +kernel
theorem dL_law_563 : decode cL_law 563 = .ok (.aload_n 3, 1) := by decide +kernel
theorem dL_law_564 : decode cL_law 564 = .ok (.invokestatic 102, 3) := by decide +kernel
theorem dL_law_567 : decode cL_law 567 = .ok (.istore 5, 2) := by decide +kernel
theorem dL_law_569 : decode cL_law 569 = .ok (.aload_n 2, 1) := by decide +kernel
theorem dL_law_570 : decode cL_law 570 = .ok (.aload_n 0, 1) := by decide +kernel
theorem dL_law_571 : decode cL_law 571 = .ok (.iload 4, 2) := by decide +kernel
theorem dL_law_573 : decode cL_law 573 = .ok (.iconst 1, 1) := by decide +kernel
theorem dL_law_574 : decode cL_law 574 = .ok (.iadd, 1) := by decide +kernel
theorem dL_law_575 : decode cL_law 575 = .ok (.iaload, 1) := by decide +kernel
theorem dL_law_576 : decode cL_law 576 = .ok (.invokevirtual 104, 3) := by decide +kernel
theorem dL_law_579 : decode cL_law 579 = .ok (.istore 6, 2) := by decide +kernel
theorem dL_law_581 : decode cL_law 581 = .ok (.aload_n 2, 1) := by decide +kernel
theorem dL_law_582 : decode cL_law 582 = .ok (.invokevirtual 70, 3) := by decide +kernel
theorem dL_law_585 : decode cL_law 585 = .ok (.iload 5, 2) := by decide +kernel
theorem dL_law_587 : decode cL_law 587 = .ok (.if_icmp .eq 5, 3) := by decide +kernel
theorem dL_law_590 : decode cL_law 590 = .ok (.iconst 0, 1) := by decide +kernel
theorem dL_law_591 : decode cL_law 591 = .ok (.ireturn, 1) := by decide +kernel
theorem dL_law_592 : decode cL_law 592 = .ok (.iload 5, 2) := by decide +kernel
theorem dL_law_594 : decode cL_law 594 = .ok (.ifCond .ne 15, 3) := by decide +kernel
theorem dL_law_597 : decode cL_law 597 = .ok (.aload_n 3, 1) := by decide +kernel
theorem dL_law_598 : decode cL_law 598 = .ok (.iconst 0, 1) := by decide +kernel
theorem dL_law_599 : decode cL_law 599 = .ok (.laload, 1) := by decide +kernel
theorem dL_law_600 : decode cL_law 600 = .ok (.iload 6, 2) := by decide +kernel
theorem dL_law_602 : decode cL_law 602 = .ok (.i2l, 1) := by decide +kernel
theorem dL_law_603 : decode cL_law 603 = .ok (.lcmp, 1) := by decide +kernel
theorem dL_law_604 : decode cL_law 604 = .ok (.ifCond .eq 5, 3) := by decide +kernel
theorem dL_law_607 : decode cL_law 607 = .ok (.iconst 0, 1) := by decide +kernel
theorem dL_law_608 : decode cL_law 608 = .ok (.ireturn, 1) := by decide +kernel
theorem dL_law_609 : decode cL_law 609 = .ok (.goto 240, 3) := by decide +kernel
theorem dL_law_612 : decode cL_law 612 = .ok (.aload_n 1, 1) := by decide +kernel
theorem dL_law_613 : decode cL_law 613 = .ok (.aload_n 0, 1) := by decide +kernel
theorem dL_law_614 : decode cL_law 614 = .ok (.iload 4, 2) := by decide +kernel
theorem dL_law_616 : decode cL_law 616 = .ok (.iconst 1, 1) := by decide +kernel
theorem dL_law_617 : decode cL_law 617 = .ok (.iadd, 1) := by decide +kernel
theorem dL_law_618 : decode cL_law 618 = .ok (.iaload, 1) := by decide +kernel
theorem dL_law_619 : decode cL_law 619 = .ok (.aload_n 3, 1) := by decide +kernel
theorem dL_law_620 : decode cL_law 620 = .ok (.invokestatic 105, 3) := by decide +kernel
theorem dL_law_623 : decode cL_law 623 = .ok (.istore 5, 2) := by decide +kernel
theorem dL_law_625 : decode cL_law 625 = .ok (.aload_n 2, 1) := by decide +kernel
theorem dL_law_626 : decode cL_law 626 = .ok (.aload_n 0, 1) := by decide +kernel
theorem dL_law_627 : decode cL_law 627 = .ok (.iload 4, 2) := by decide +kernel
theorem dL_law_629 : decode cL_law 629 = .ok (.iconst 1, 1) := by decide +kernel
theorem dL_law_630 : decode cL_law 630 = .ok (.iadd, 1) := by decide +kernel
theorem dL_law_631 : decode cL_law 631 = .ok (.iaload, 1) := by decide +kernel
theorem dL_law_632 : decode cL_law 632 = .ok (.invokevirtual 107, 3) := by decide +kernel
theorem dL_law_635 : decode cL_law 635 = .ok (.istore 6, 2) := by decide +kernel
theorem dL_law_637 : decode cL_law 637 = .ok (.aload_n 2, 1) := by decide +kernel
theorem dL_law_638 : decode cL_law 638 = .ok (.invokevirtual 70, 3) := by decide +kernel
theorem dL_law_641 : decode cL_law 641 = .ok (.iload 5, 2) := by decide +kernel
theorem dL_law_643 : decode cL_law 643 = .ok (.if_icmp .eq 5, 3) := by decide +kernel
theorem dL_law_646 : decode cL_law 646 = .ok (.iconst 0, 1) := by decide +kernel
theorem dL_law_647 : decode cL_law 647 = .ok (.ireturn, 1) := by decide +kernel
theorem dL_law_648 : decode cL_law 648 = .ok (.iload 5, 2) := by decide +kernel
theorem dL_law_650 : decode cL_law 650 = .ok (.ifCond .ne 15, 3) := by decide +kernel
theorem dL_law_653 : decode cL_law 653 = .ok (.aload_n 3, 1) := by decide +kernel
theorem dL_law_654 : decode cL_law 654 = .ok (.iconst 0, 1) := by decide +kernel
theorem dL_law_655 : decode cL_law 655 = .ok (.laload, 1) := by decide +kernel
theorem dL_law_656 : decode cL_law 656 = .ok (.iload 6, 2) := by decide +kernel
theorem dL_law_658 : decode cL_law 658 = .ok (.i2l, 1) := by decide +kernel
theorem dL_law_659 : decode cL_law 659 = .ok (.lcmp, 1) := by decide +kernel
theorem dL_law_660 : decode cL_law 660 = .ok (.ifCond .eq 5, 3) := by decide +kernel
theorem dL_law_663 : decode cL_law 663 = .ok (.iconst 0, 1) := by decide +kernel
theorem dL_law_664 : decode cL_law 664 = .ok (.ireturn, 1) := by decide +kernel
theorem dL_law_665 : decode cL_law 665 = .ok (.goto 184, 3) := by decide +kernel
theorem dL_law_668 : decode cL_law 668 = .ok (.aload_n 1, 1) := by decide +kernel
theorem dL_law_669 : decode cL_law 669 = .ok (.aload_n 3, 1) := by decide +kernel
theorem dL_law_670 : decode cL_law 670 = .ok (.invokestatic 108, 3) := by decide +kernel
theorem dL_law_673 : decode cL_law 673 = .ok (.istore 5, 2) := by decide +kernel
theorem dL_law_675 : decode cL_law 675 = .ok (.aload_n 2, 1) := by decide +kernel
theorem dL_law_676 : decode cL_law 676 = .ok (.invokevirtual 111, 3) := by decide +kernel
theorem dL_law_679 : decode cL_law 679 = .ok (.istore 6, 2) := by decide +kernel
theorem dL_law_681 : decode cL_law 681 = .ok (.aload_n 2, 1) := by decide +kernel
theorem dL_law_682 : decode cL_law 682 = .ok (.invokevirtual 70, 3) := by decide +kernel
theorem dL_law_685 : decode cL_law 685 = .ok (.iload 5, 2) := by decide +kernel
theorem dL_law_687 : decode cL_law 687 = .ok (.if_icmp .eq 5, 3) := by decide +kernel
theorem dL_law_690 : decode cL_law 690 = .ok (.iconst 0, 1) := by decide +kernel
theorem dL_law_691 : decode cL_law 691 = .ok (.ireturn, 1) := by decide +kernel
theorem dL_law_692 : decode cL_law 692 = .ok (.iload 5, 2) := by decide +kernel
theorem dL_law_694 : decode cL_law 694 = .ok (.ifCond .ne 15, 3) := by decide +kernel
theorem dL_law_697 : decode cL_law 697 = .ok (.aload_n 3, 1) := by decide +kernel
theorem dL_law_698 : decode cL_law 698 = .ok (.iconst 0, 1) := by decide +kernel
theorem dL_law_699 : decode cL_law 699 = .ok (.laload, 1) := by decide +kernel
theorem dL_law_700 : decode cL_law 700 = .ok (.iload 6, 2) := by decide +kernel
theorem dL_law_702 : decode cL_law 702 = .ok (.i2l, 1) := by decide +kernel
theorem dL_law_703 : decode cL_law 703 = .ok (.lcmp, 1) := by decide +kernel
theorem dL_law_704 : decode cL_law 704 = .ok (.ifCond .eq 5, 3) := by decide +kernel
theorem dL_law_707 : decode cL_law 707 = .ok (.iconst 0, 1) := by decide +kernel
theorem dL_law_708 : decode cL_law 708 = .ok (.ireturn, 1) := by decide +kernel
theorem dL_law_709 : decode cL_law 709 = .ok (.goto 140, 3) := by decide +kernel
theorem dL_law_712 : decode cL_law 712 = .ok (.aload_n 1, 1) := by decide +kernel
theorem dL_law_713 : decode cL_law 713 = .ok (.aload_n 3, 1) := by decide +kernel
theorem dL_law_714 : decode cL_law 714 = .ok (.invokestatic 112, 3) := by decide +kernel
theorem dL_law_717 : decode cL_law 717 = .ok (.istore 5, 2) := by decide +kernel
theorem dL_law_719 : decode cL_law 719 = .ok (.aload_n 2, 1) := by decide +kernel
theorem dL_law_720 : decode cL_law 720 = .ok (.invokevirtual 114, 3) := by decide +kernel
theorem dL_law_723 : decode cL_law 723 = .ok (.istore 6, 2) := by decide +kernel
theorem dL_law_725 : decode cL_law 725 = .ok (.aload_n 2, 1) := by decide +kernel
theorem dL_law_726 : decode cL_law 726 = .ok (.invokevirtual 70, 3) := by decide +kernel
theorem dL_law_729 : decode cL_law 729 = .ok (.iload 5, 2) := by decide +kernel
theorem dL_law_731 : decode cL_law 731 = .ok (.if_icmp .eq 5, 3) := by decide +kernel
theorem dL_law_734 : decode cL_law 734 = .ok (.iconst 0, 1) := by decide +kernel
theorem dL_law_735 : decode cL_law 735 = .ok (.ireturn, 1) := by decide +kernel
theorem dL_law_736 : decode cL_law 736 = .ok (.iload 5, 2) := by decide +kernel
theorem dL_law_738 : decode cL_law 738 = .ok (.ifCond .ne 15, 3) := by decide +kernel
theorem dL_law_741 : decode cL_law 741 = .ok (.aload_n 3, 1) := by decide +kernel
theorem dL_law_742 : decode cL_law 742 = .ok (.iconst 0, 1) := by decide +kernel
theorem dL_law_743 : decode cL_law 743 = .ok (.laload, 1) := by decide +kernel
theorem dL_law_744 : decode cL_law 744 = .ok (.iload 6, 2) := by decide +kernel
theorem dL_law_746 : decode cL_law 746 = .ok (.i2l, 1) := by decide +kernel
theorem dL_law_747 : decode cL_law 747 = .ok (.lcmp, 1) := by decide +kernel
theorem dL_law_748 : decode cL_law 748 = .ok (.ifCond .eq 5, 3) := by decide +kernel
theorem dL_law_751 : decode cL_law 751 = .ok (.iconst 0, 1) := by decide +kernel
theorem dL_law_752 : decode cL_law 752 = .ok (.ireturn, 1) := by decide +kernel
theorem dL_law_753 : decode cL_law 753 = .ok (.goto 96, 3) := by decide +kernel
theorem dL_law_756 : decode cL_law 756 = .ok (.aload_n 1, 1) := by decide +kernel
theorem dL_law_757 : decode cL_law 757 = .ok (.aload_n 0, 1) := by decide +kernel
theorem dL_law_758 : decode cL_law 758 = .ok (.iload 4, 2) := by decide +kernel
theorem dL_law_760 : decode cL_law 760 = .ok (.iconst 1, 1) := by decide +kernel
theorem dL_law_761 : decode cL_law 761 = .ok (.iadd, 1) := by decide +kernel
theorem dL_law_762 : decode cL_law 762 = .ok (.iaload, 1) := by decide +kernel
theorem dL_law_763 : decode cL_law 763 = .ok (.aload_n 0, 1) := by decide +kernel
theorem dL_law_764 : decode cL_law 764 = .ok (.iload 4, 2) := by decide +kernel
theorem dL_law_766 : decode cL_law 766 = .ok (.iconst 2, 1) := by decide +kernel
theorem dL_law_767 : decode cL_law 767 = .ok (.iadd, 1) := by decide +kernel
theorem dL_law_768 : decode cL_law 768 = .ok (.iaload, 1) := by decide +kernel
theorem dL_law_769 : decode cL_law 769 = .ok (.aload_n 3, 1) := by decide +kernel
theorem dL_law_770 : decode cL_law 770 = .ok (.invokestatic 115, 3) := by decide +kernel
theorem dL_law_773 : decode cL_law 773 = .ok (.istore 5, 2) := by decide +kernel
theorem dL_law_775 : decode cL_law 775 = .ok (.aload_n 2, 1) := by decide +kernel
theorem dL_law_776 : decode cL_law 776 = .ok (.aload_n 0, 1) := by decide +kernel
theorem dL_law_777 : decode cL_law 777 = .ok (.iload 4, 2) := by decide +kernel
theorem dL_law_779 : decode cL_law 779 = .ok (.iconst 1, 1) := by decide +kernel
theorem dL_law_780 : decode cL_law 780 = .ok (.iadd, 1) := by decide +kernel
theorem dL_law_781 : decode cL_law 781 = .ok (.iaload, 1) := by decide +kernel
theorem dL_law_782 : decode cL_law 782 = .ok (.aload_n 0, 1) := by decide +kernel
theorem dL_law_783 : decode cL_law 783 = .ok (.iload 4, 2) := by decide +kernel
theorem dL_law_785 : decode cL_law 785 = .ok (.iconst 2, 1) := by decide +kernel
theorem dL_law_786 : decode cL_law 786 = .ok (.iadd, 1) := by decide +kernel
theorem dL_law_787 : decode cL_law 787 = .ok (.iaload, 1) := by decide +kernel
theorem dL_law_788 : decode cL_law 788 = .ok (.invokevirtual 118, 3) := by decide +kernel
theorem dL_law_791 : decode cL_law 791 = .ok (.istore 6, 2) := by decide +kernel
theorem dL_law_793 : decode cL_law 793 = .ok (.aload_n 2, 1) := by decide +kernel
theorem dL_law_794 : decode cL_law 794 = .ok (.invokevirtual 70, 3) := by decide +kernel
theorem dL_law_797 : decode cL_law 797 = .ok (.iload 5, 2) := by decide +kernel
theorem dL_law_799 : decode cL_law 799 = .ok (.if_icmp .eq 5, 3) := by decide +kernel
theorem dL_law_802 : decode cL_law 802 = .ok (.iconst 0, 1) := by decide +kernel
theorem dL_law_803 : decode cL_law 803 = .ok (.ireturn, 1) := by decide +kernel
theorem dL_law_804 : decode cL_law 804 = .ok (.iload 5, 2) := by decide +kernel
theorem dL_law_806 : decode cL_law 806 = .ok (.ifCond .ne 15, 3) := by decide +kernel
theorem dL_law_809 : decode cL_law 809 = .ok (.aload_n 3, 1) := by decide +kernel
theorem dL_law_810 : decode cL_law 810 = .ok (.iconst 0, 1) := by decide +kernel
theorem dL_law_811 : decode cL_law 811 = .ok (.laload, 1) := by decide +kernel
theorem dL_law_812 : decode cL_law 812 = .ok (.iload 6, 2) := by decide +kernel
theorem dL_law_814 : decode cL_law 814 = .ok (.i2l, 1) := by decide +kernel
theorem dL_law_815 : decode cL_law 815 = .ok (.lcmp, 1) := by decide +kernel
theorem dL_law_816 : decode cL_law 816 = .ok (.ifCond .eq 5, 3) := by decide +kernel
theorem dL_law_819 : decode cL_law 819 = .ok (.iconst 0, 1) := by decide +kernel
theorem dL_law_820 : decode cL_law 820 = .ok (.ireturn, 1) := by decide +kernel
theorem dL_law_821 : decode cL_law 821 = .ok (.goto 28, 3) := by decide +kernel
theorem dL_law_824 : decode cL_law 824 = .ok (.aload_n 1, 1) := by decide +kernel
theorem dL_law_825 : decode cL_law 825 = .ok (.aload_n 0, 1) := by decide +kernel
theorem dL_law_826 : decode cL_law 826 = .ok (.iload 4, 2) := by decide +kernel
theorem dL_law_828 : decode cL_law 828 = .ok (.iconst 1, 1) := by decide +kernel
theorem dL_law_829 : decode cL_law 829 = .ok (.iadd, 1) := by decide +kernel
theorem dL_law_830 : decode cL_law 830 = .ok (.iaload, 1) := by decide +kernel
theorem dL_law_831 : decode cL_law 831 = .ok (.invokevirtual 119, 3) := by decide +kernel
theorem dL_law_834 : decode cL_law 834 = .ok (.aload_n 2, 1) := by decide +kernel
theorem dL_law_835 : decode cL_law 835 = .ok (.aload_n 0, 1) := by decide +kernel
theorem dL_law_836 : decode cL_law 836 = .ok (.iload 4, 2) := by decide +kernel
theorem dL_law_838 : decode cL_law 838 = .ok (.iconst 1, 1) := by decide +kernel
theorem dL_law_839 : decode cL_law 839 = .ok (.iadd, 1) := by decide +kernel
theorem dL_law_840 : decode cL_law 840 = .ok (.iaload, 1) := by decide +kernel
theorem dL_law_841 : decode cL_law 841 = .ok (.invokevirtual 122, 3) := by decide +kernel
theorem dL_law_844 : decode cL_law 844 = .ok (.if_icmp .eq 5, 3) := by decide +kernel
theorem dL_law_847 : decode cL_law 847 = .ok (.iconst 0, 1) := by decide +kernel
theorem dL_law_848 : decode cL_law 848 = .ok (.ireturn, 1) := by decide +kernel
theorem dL_law_849 : decode cL_law 849 = .ok (.iinc 4 6, 3) := by decide +kernel
theorem dL_law_852 : decode cL_law 852 = .ok (.goto (-819), 3) := by decide +kernel
theorem dL_law_855 : decode cL_law 855 = .ok (.iconst 1, 1) := by decide +kernel
theorem dL_law_856 : decode cL_law 856 = .ok (.ireturn, 1) := by decide +kernel
def kL_law_25 (L : Nat) (xs : Nat → Int32) (mc ms : Nat) (X : Nat → zV) : zT :=
  zsa 2 <| zc (.int 1) <| zna mc ms 2 <| zsa 3 <| zc (.int 1) <| zsi 4 <| zj X 33 [0, 1, 2, 3, 4]
def kL_law_22 (L : Nat) (xs : Nat → Int32) (mc ms : Nat) (X : Nat → zV) : zT :=
  zci mc ms 1 wX13_init <| kL_law_25 L xs mc ms X
def kL_law_12 (L : Nat) (xs : Nat → Int32) (mc ms : Nat) (X : Nat → zV) : zT :=
  zsa 1 <| znew mc ms 13 <| zdup <| zla 0 <| zc (.int 0) <| zcs mc ms 2 (wL_cell L xs) <| kL_law_22 L xs mc ms X
def kL_law_9 (L : Nat) (xs : Nat → Int32) (mc ms : Nat) (X : Nat → zV) : zT :=
  zci mc ms 1 wX11_init <| kL_law_12 L xs mc ms X
def kL_law_196 (L : Nat) (xs : Nat → Int32) (mc ms : Nat) (X : Nat → zV) : zT :=
  zic (fun x y => x = y) (zj X 849 [0, 1, 2, 3, 4]) <| zc (.int 0) <| zEnd
def kL_law_162 (L : Nat) (xs : Nat → Int32) (mc ms : Nat) (X : Nat → zV) : zT :=
  zla 2 <| zla 0 <| zli 4 <| zc (.int 1) <| zii (fun x y => x + y) <| zxs L xs <| zla 0 <| zli 4 <| zc (.int 2) <| zii (fun x y => x + y) <| zxs L xs <| zla 0 <| zli 4 <| zc (.int 3) <| zii (fun x y => x + y) <| zxs L xs <| zla 0 <| zli 4 <| zc (.int 4) <| zii (fun x y => x + y) <| zxs L xs <| zla 0 <| zli 4 <| zc (.int 5) <| zii (fun x y => x + y) <| zxs L xs <| zcv mc ms 13 5 wX13_tape <| kL_law_196 L xs mc ms X
def kL_law_128 (L : Nat) (xs : Nat → Int32) (mc ms : Nat) (X : Nat → zV) : zT :=
  zla 1 <| zla 0 <| zli 4 <| zc (.int 1) <| zii (fun x y => x + y) <| zxs L xs <| zla 0 <| zli 4 <| zc (.int 2) <| zii (fun x y => x + y) <| zxs L xs <| zla 0 <| zli 4 <| zc (.int 3) <| zii (fun x y => x + y) <| zxs L xs <| zla 0 <| zli 4 <| zc (.int 4) <| zii (fun x y => x + y) <| zxs L xs <| zla 0 <| zli 4 <| zc (.int 5) <| zii (fun x y => x + y) <| zxs L xs <| zcv mc ms 11 5 wX11_tape <| kL_law_162 L xs mc ms X
def kL_law_230 (L : Nat) (xs : Nat → Int32) (mc ms : Nat) (X : Nat → zV) : zT :=
  zli 5 <| zic (fun x y => x = y) (zli 5 <| zif (fun x => x = 0) (zla 3 <| zc (.int 0) <| zall <| zli 6 <| zi2l <| zlc <| zif (fun x => x = 0) (zj X 254 [0, 1, 2, 3, 4]) <| zc (.int 0) <| zEnd) <| zj X 254 [0, 1, 2, 3, 4]) <| zc (.int 0) <| zEnd
def kL_law_224 (L : Nat) (xs : Nat → Int32) (mc ms : Nat) (X : Nat → zV) : zT :=
  zsi 6 <| zla 2 <| zcv mc ms 13 0 wX13_thrown <| kL_law_230 L xs mc ms X
def kL_law_212 (L : Nat) (xs : Nat → Int32) (mc ms : Nat) (X : Nat → zV) : zT :=
  zsi 5 <| zla 2 <| zla 0 <| zli 4 <| zc (.int 1) <| zii (fun x y => x + y) <| zxs L xs <| zcv mc ms 13 1 wX13_submit <| kL_law_224 L xs mc ms X
def kL_law_201 (L : Nat) (xs : Nat → Int32) (mc ms : Nat) (X : Nat → zV) : zT :=
  zla 1 <| zla 0 <| zli 4 <| zc (.int 1) <| zii (fun x y => x + y) <| zxs L xs <| zla 3 <| zcs mc ms 3 wL_submit <| kL_law_212 L xs mc ms X
def kL_law_286 (L : Nat) (xs : Nat → Int32) (mc ms : Nat) (X : Nat → zV) : zT :=
  zli 5 <| zic (fun x y => x = y) (zli 5 <| zif (fun x => x = 0) (zla 3 <| zc (.int 0) <| zall <| zli 6 <| zi2l <| zlc <| zif (fun x => x = 0) (zj X 310 [0, 1, 2, 3, 4]) <| zc (.int 0) <| zEnd) <| zj X 310 [0, 1, 2, 3, 4]) <| zc (.int 0) <| zEnd
def kL_law_280 (L : Nat) (xs : Nat → Int32) (mc ms : Nat) (X : Nat → zV) : zT :=
  zsi 6 <| zla 2 <| zcv mc ms 13 0 wX13_thrown <| kL_law_286 L xs mc ms X
def kL_law_268 (L : Nat) (xs : Nat → Int32) (mc ms : Nat) (X : Nat → zV) : zT :=
  zsi 5 <| zla 2 <| zla 0 <| zli 4 <| zc (.int 1) <| zii (fun x y => x + y) <| zxs L xs <| zcv mc ms 13 1 wX13_proceed <| kL_law_280 L xs mc ms X
def kL_law_257 (L : Nat) (xs : Nat → Int32) (mc ms : Nat) (X : Nat → zV) : zT :=
  zla 1 <| zla 0 <| zli 4 <| zc (.int 1) <| zii (fun x y => x + y) <| zxs L xs <| zla 3 <| zcs mc ms 3 wL_proceed <| kL_law_268 L xs mc ms X
def kL_law_321 (L : Nat) (xs : Nat → Int32) (mc ms : Nat) (X : Nat → zV) : zT :=
  zic (fun x y => x = y) (zj X 849 [0, 1, 2, 3, 4]) <| zc (.int 0) <| zEnd
def kL_law_317 (L : Nat) (xs : Nat → Int32) (mc ms : Nat) (X : Nat → zV) : zT :=
  zla 2 <| zcv mc ms 13 0 wX13_retreat <| kL_law_321 L xs mc ms X
def kL_law_313 (L : Nat) (xs : Nat → Int32) (mc ms : Nat) (X : Nat → zV) : zT :=
  zla 1 <| zcv mc ms 11 0 wX11_retreat <| kL_law_317 L xs mc ms X
def kL_law_334 (L : Nat) (xs : Nat → Int32) (mc ms : Nat) (X : Nat → zV) : zT :=
  zic (fun x y => x = y) (zj X 849 [0, 1, 2, 3, 4]) <| zc (.int 0) <| zEnd
def kL_law_330 (L : Nat) (xs : Nat → Int32) (mc ms : Nat) (X : Nat → zV) : zT :=
  zla 2 <| zcv mc ms 13 0 wX13_legalMany <| kL_law_334 L xs mc ms X
def kL_law_326 (L : Nat) (xs : Nat → Int32) (mc ms : Nat) (X : Nat → zV) : zT :=
  zla 1 <| zcv mc ms 11 0 wX11_legalMany <| kL_law_330 L xs mc ms X
def kL_law_368 (L : Nat) (xs : Nat → Int32) (mc ms : Nat) (X : Nat → zV) : zT :=
  zli 5 <| zic (fun x y => x = y) (zli 5 <| zif (fun x => x = 0) (zla 3 <| zc (.int 0) <| zall <| zli 6 <| zi2l <| zlc <| zif (fun x => x = 0) (zj X 392 [0, 1, 2, 3, 4]) <| zc (.int 0) <| zEnd) <| zj X 392 [0, 1, 2, 3, 4]) <| zc (.int 0) <| zEnd
def kL_law_362 (L : Nat) (xs : Nat → Int32) (mc ms : Nat) (X : Nat → zV) : zT :=
  zsi 6 <| zla 2 <| zcv mc ms 13 0 wX13_thrown <| kL_law_368 L xs mc ms X
def kL_law_350 (L : Nat) (xs : Nat → Int32) (mc ms : Nat) (X : Nat → zV) : zT :=
  zsi 5 <| zla 2 <| zla 0 <| zli 4 <| zc (.int 1) <| zii (fun x y => x + y) <| zxs L xs <| zcv mc ms 13 1 wX13_legalMove <| kL_law_362 L xs mc ms X
def kL_law_339 (L : Nat) (xs : Nat → Int32) (mc ms : Nat) (X : Nat → zV) : zT :=
  zla 1 <| zla 0 <| zli 4 <| zc (.int 1) <| zii (fun x y => x + y) <| zxs L xs <| zla 3 <| zcs mc ms 3 wL_legalMove <| kL_law_350 L xs mc ms X
def kL_law_424 (L : Nat) (xs : Nat → Int32) (mc ms : Nat) (X : Nat → zV) : zT :=
  zli 5 <| zic (fun x y => x = y) (zli 5 <| zif (fun x => x = 0) (zla 3 <| zc (.int 0) <| zall <| zll 6 <| zlc <| zif (fun x => x = 0) (zj X 447 [0, 1, 2, 3, 4]) <| zc (.int 0) <| zEnd) <| zj X 447 [0, 1, 2, 3, 4]) <| zc (.int 0) <| zEnd
def kL_law_418 (L : Nat) (xs : Nat → Int32) (mc ms : Nat) (X : Nat → zV) : zT :=
  zsl 6 <| zla 2 <| zcv mc ms 13 0 wX13_thrown <| kL_law_424 L xs mc ms X
def kL_law_406 (L : Nat) (xs : Nat → Int32) (mc ms : Nat) (X : Nat → zV) : zT :=
  zsi 5 <| zla 2 <| zla 0 <| zli 4 <| zc (.int 1) <| zii (fun x y => x + y) <| zxs L xs <| zcv mc ms 13 1 wX13_spelling <| kL_law_418 L xs mc ms X
def kL_law_395 (L : Nat) (xs : Nat → Int32) (mc ms : Nat) (X : Nat → zV) : zT :=
  zla 1 <| zla 0 <| zli 4 <| zc (.int 1) <| zii (fun x y => x + y) <| zxs L xs <| zla 3 <| zcs mc ms 3 wL_spelling <| kL_law_406 L xs mc ms X
def kL_law_470 (L : Nat) (xs : Nat → Int32) (mc ms : Nat) (X : Nat → zV) : zT :=
  zlc <| zif (fun x => x = 0) (zj X 849 [0, 1, 2, 3, 4]) <| zc (.int 0) <| zEnd
def kL_law_460 (L : Nat) (xs : Nat → Int32) (mc ms : Nat) (X : Nat → zV) : zT :=
  zla 2 <| zla 0 <| zli 4 <| zc (.int 1) <| zii (fun x y => x + y) <| zxs L xs <| zcv mc ms 13 1 wX13_recordAt <| kL_law_470 L xs mc ms X
def kL_law_450 (L : Nat) (xs : Nat → Int32) (mc ms : Nat) (X : Nat → zV) : zT :=
  zla 1 <| zla 0 <| zli 4 <| zc (.int 1) <| zii (fun x y => x + y) <| zxs L xs <| zcv mc ms 11 1 wX11_recordAt <| kL_law_460 L xs mc ms X
def kL_law_496 (L : Nat) (xs : Nat → Int32) (mc ms : Nat) (X : Nat → zV) : zT :=
  zic (fun x y => x = y) (zj X 849 [0, 1, 2, 3, 4]) <| zc (.int 0) <| zEnd
def kL_law_486 (L : Nat) (xs : Nat → Int32) (mc ms : Nat) (X : Nat → zV) : zT :=
  zla 2 <| zla 0 <| zli 4 <| zc (.int 1) <| zii (fun x y => x + y) <| zxs L xs <| zcv mc ms 13 1 wX13_manOn <| kL_law_496 L xs mc ms X
def kL_law_476 (L : Nat) (xs : Nat → Int32) (mc ms : Nat) (X : Nat → zV) : zT :=
  zla 1 <| zla 0 <| zli 4 <| zc (.int 1) <| zii (fun x y => x + y) <| zxs L xs <| zcv mc ms 11 1 wX11_manOn <| kL_law_486 L xs mc ms X
def kL_law_530 (L : Nat) (xs : Nat → Int32) (mc ms : Nat) (X : Nat → zV) : zT :=
  zli 5 <| zic (fun x y => x = y) (zli 5 <| zif (fun x => x = 0) (zla 3 <| zc (.int 0) <| zall <| zll 6 <| zlc <| zif (fun x => x = 0) (zj X 553 [0, 1, 2, 3, 4]) <| zc (.int 0) <| zEnd) <| zj X 553 [0, 1, 2, 3, 4]) <| zc (.int 0) <| zEnd
def kL_law_524 (L : Nat) (xs : Nat → Int32) (mc ms : Nat) (X : Nat → zV) : zT :=
  zsl 6 <| zla 2 <| zcv mc ms 13 0 wX13_thrown <| kL_law_530 L xs mc ms X
def kL_law_512 (L : Nat) (xs : Nat → Int32) (mc ms : Nat) (X : Nat → zV) : zT :=
  zsi 5 <| zla 2 <| zla 0 <| zli 4 <| zc (.int 1) <| zii (fun x y => x + y) <| zxs L xs <| zcv mc ms 13 1 wX13_linesTo <| kL_law_524 L xs mc ms X
def kL_law_501 (L : Nat) (xs : Nat → Int32) (mc ms : Nat) (X : Nat → zV) : zT :=
  zla 1 <| zla 0 <| zli 4 <| zc (.int 1) <| zii (fun x y => x + y) <| zxs L xs <| zla 3 <| zcs mc ms 3 wL_linesTo <| kL_law_512 L xs mc ms X
def kL_law_585 (L : Nat) (xs : Nat → Int32) (mc ms : Nat) (X : Nat → zV) : zT :=
  zli 5 <| zic (fun x y => x = y) (zli 5 <| zif (fun x => x = 0) (zla 3 <| zc (.int 0) <| zall <| zli 6 <| zi2l <| zlc <| zif (fun x => x = 0) (zj X 609 [0, 1, 2, 3, 4]) <| zc (.int 0) <| zEnd) <| zj X 609 [0, 1, 2, 3, 4]) <| zc (.int 0) <| zEnd
def kL_law_579 (L : Nat) (xs : Nat → Int32) (mc ms : Nat) (X : Nat → zV) : zT :=
  zsi 6 <| zla 2 <| zcv mc ms 13 0 wX13_thrown <| kL_law_585 L xs mc ms X
def kL_law_567 (L : Nat) (xs : Nat → Int32) (mc ms : Nat) (X : Nat → zV) : zT :=
  zsi 5 <| zla 2 <| zla 0 <| zli 4 <| zc (.int 1) <| zii (fun x y => x + y) <| zxs L xs <| zcv mc ms 13 1 wX13_valueAt <| kL_law_579 L xs mc ms X
def kL_law_556 (L : Nat) (xs : Nat → Int32) (mc ms : Nat) (X : Nat → zV) : zT :=
  zla 1 <| zla 0 <| zli 4 <| zc (.int 1) <| zii (fun x y => x + y) <| zxs L xs <| zla 3 <| zcs mc ms 3 wL_valueAt <| kL_law_567 L xs mc ms X
def kL_law_641 (L : Nat) (xs : Nat → Int32) (mc ms : Nat) (X : Nat → zV) : zT :=
  zli 5 <| zic (fun x y => x = y) (zli 5 <| zif (fun x => x = 0) (zla 3 <| zc (.int 0) <| zall <| zli 6 <| zi2l <| zlc <| zif (fun x => x = 0) (zj X 665 [0, 1, 2, 3, 4]) <| zc (.int 0) <| zEnd) <| zj X 665 [0, 1, 2, 3, 4]) <| zc (.int 0) <| zEnd
def kL_law_635 (L : Nat) (xs : Nat → Int32) (mc ms : Nat) (X : Nat → zV) : zT :=
  zsi 6 <| zla 2 <| zcv mc ms 13 0 wX13_thrown <| kL_law_641 L xs mc ms X
def kL_law_623 (L : Nat) (xs : Nat → Int32) (mc ms : Nat) (X : Nat → zV) : zT :=
  zsi 5 <| zla 2 <| zla 0 <| zli 4 <| zc (.int 1) <| zii (fun x y => x + y) <| zxs L xs <| zcv mc ms 13 1 wX13_bestAt <| kL_law_635 L xs mc ms X
def kL_law_612 (L : Nat) (xs : Nat → Int32) (mc ms : Nat) (X : Nat → zV) : zT :=
  zla 1 <| zla 0 <| zli 4 <| zc (.int 1) <| zii (fun x y => x + y) <| zxs L xs <| zla 3 <| zcs mc ms 3 wL_bestAt <| kL_law_623 L xs mc ms X
def kL_law_685 (L : Nat) (xs : Nat → Int32) (mc ms : Nat) (X : Nat → zV) : zT :=
  zli 5 <| zic (fun x y => x = y) (zli 5 <| zif (fun x => x = 0) (zla 3 <| zc (.int 0) <| zall <| zli 6 <| zi2l <| zlc <| zif (fun x => x = 0) (zj X 709 [0, 1, 2, 3, 4]) <| zc (.int 0) <| zEnd) <| zj X 709 [0, 1, 2, 3, 4]) <| zc (.int 0) <| zEnd
def kL_law_679 (L : Nat) (xs : Nat → Int32) (mc ms : Nat) (X : Nat → zV) : zT :=
  zsi 6 <| zla 2 <| zcv mc ms 13 0 wX13_thrown <| kL_law_685 L xs mc ms X
def kL_law_673 (L : Nat) (xs : Nat → Int32) (mc ms : Nat) (X : Nat → zV) : zT :=
  zsi 5 <| zla 2 <| zcv mc ms 13 0 wX13_distanceToMate <| kL_law_679 L xs mc ms X
def kL_law_668 (L : Nat) (xs : Nat → Int32) (mc ms : Nat) (X : Nat → zV) : zT :=
  zla 1 <| zla 3 <| zcs mc ms 2 wL_distanceToMate <| kL_law_673 L xs mc ms X
def kL_law_729 (L : Nat) (xs : Nat → Int32) (mc ms : Nat) (X : Nat → zV) : zT :=
  zli 5 <| zic (fun x y => x = y) (zli 5 <| zif (fun x => x = 0) (zla 3 <| zc (.int 0) <| zall <| zli 6 <| zi2l <| zlc <| zif (fun x => x = 0) (zj X 753 [0, 1, 2, 3, 4]) <| zc (.int 0) <| zEnd) <| zj X 753 [0, 1, 2, 3, 4]) <| zc (.int 0) <| zEnd
def kL_law_723 (L : Nat) (xs : Nat → Int32) (mc ms : Nat) (X : Nat → zV) : zT :=
  zsi 6 <| zla 2 <| zcv mc ms 13 0 wX13_thrown <| kL_law_729 L xs mc ms X
def kL_law_717 (L : Nat) (xs : Nat → Int32) (mc ms : Nat) (X : Nat → zV) : zT :=
  zsi 5 <| zla 2 <| zcv mc ms 13 0 wX13_matingMove <| kL_law_723 L xs mc ms X
def kL_law_712 (L : Nat) (xs : Nat → Int32) (mc ms : Nat) (X : Nat → zV) : zT :=
  zla 1 <| zla 3 <| zcs mc ms 2 wL_matingMove <| kL_law_717 L xs mc ms X
def kL_law_797 (L : Nat) (xs : Nat → Int32) (mc ms : Nat) (X : Nat → zV) : zT :=
  zli 5 <| zic (fun x y => x = y) (zli 5 <| zif (fun x => x = 0) (zla 3 <| zc (.int 0) <| zall <| zli 6 <| zi2l <| zlc <| zif (fun x => x = 0) (zj X 821 [0, 1, 2, 3, 4]) <| zc (.int 0) <| zEnd) <| zj X 821 [0, 1, 2, 3, 4]) <| zc (.int 0) <| zEnd
def kL_law_791 (L : Nat) (xs : Nat → Int32) (mc ms : Nat) (X : Nat → zV) : zT :=
  zsi 6 <| zla 2 <| zcv mc ms 13 0 wX13_thrown <| kL_law_797 L xs mc ms X
def kL_law_773 (L : Nat) (xs : Nat → Int32) (mc ms : Nat) (X : Nat → zV) : zT :=
  zsi 5 <| zla 2 <| zla 0 <| zli 4 <| zc (.int 1) <| zii (fun x y => x + y) <| zxs L xs <| zla 0 <| zli 4 <| zc (.int 2) <| zii (fun x y => x + y) <| zxs L xs <| zcv mc ms 13 2 wX13_historyOf <| kL_law_791 L xs mc ms X
def kL_law_756 (L : Nat) (xs : Nat → Int32) (mc ms : Nat) (X : Nat → zV) : zT :=
  zla 1 <| zla 0 <| zli 4 <| zc (.int 1) <| zii (fun x y => x + y) <| zxs L xs <| zla 0 <| zli 4 <| zc (.int 2) <| zii (fun x y => x + y) <| zxs L xs <| zla 3 <| zcs mc ms 4 wL_historyOf <| kL_law_773 L xs mc ms X
def kL_law_844 (L : Nat) (xs : Nat → Int32) (mc ms : Nat) (X : Nat → zV) : zT :=
  zic (fun x y => x = y) (zj X 849 [0, 1, 2, 3, 4]) <| zc (.int 0) <| zEnd
def kL_law_834 (L : Nat) (xs : Nat → Int32) (mc ms : Nat) (X : Nat → zV) : zT :=
  zla 2 <| zla 0 <| zli 4 <| zc (.int 1) <| zii (fun x y => x + y) <| zxs L xs <| zcv mc ms 13 1 wX13_status <| kL_law_844 L xs mc ms X
def kL_law_824 (L : Nat) (xs : Nat → Int32) (mc ms : Nat) (X : Nat → zV) : zT :=
  zla 1 <| zla 0 <| zli 4 <| zc (.int 1) <| zii (fun x y => x + y) <| zxs L xs <| zcv mc ms 11 1 wX11_status <| kL_law_834 L xs mc ms X
def aL_law_0 (L : Nat) (xs : Nat → Int32) (mc ms : Nat) (X : Nat → zV) : zT :=
  znew mc ms 11 <| zdup <| zla 0 <| zc (.int 0) <| zcs mc ms 2 (wL_cell L xs) <| kL_law_9 L xs mc ms X
def aL_law_33 (L : Nat) (xs : Nat → Int32) (mc ms : Nat) (X : Nat → zV) : zT :=
  zli 4 <| zla 0 <| zxn L <| zc (.int 6) <| zii (fun x y => x - y) <| zic (fun x y => y < x) (zc (.int 1) <| zEnd) <| zla 0 <| zli 4 <| zxs L xs <| zc (.int 15) <| zii (fun x y => x &&& y) <| zsw 0 15 [(kL_law_128 L xs mc ms X), (kL_law_201 L xs mc ms X), (kL_law_257 L xs mc ms X), (kL_law_313 L xs mc ms X), (kL_law_326 L xs mc ms X), (kL_law_339 L xs mc ms X), (kL_law_395 L xs mc ms X), (kL_law_450 L xs mc ms X), (kL_law_476 L xs mc ms X), (kL_law_501 L xs mc ms X), (kL_law_556 L xs mc ms X), (kL_law_612 L xs mc ms X), (kL_law_668 L xs mc ms X), (kL_law_712 L xs mc ms X), (kL_law_756 L xs mc ms X), (kL_law_824 L xs mc ms X)] <| zj X 849 [0, 1, 2, 3, 4]
def aL_law_254 (L : Nat) (xs : Nat → Int32) (mc ms : Nat) (X : Nat → zV) : zT :=
  zj X 849 [0, 1, 2, 3, 4]
def aL_law_310 (L : Nat) (xs : Nat → Int32) (mc ms : Nat) (X : Nat → zV) : zT :=
  zj X 849 [0, 1, 2, 3, 4]
def aL_law_392 (L : Nat) (xs : Nat → Int32) (mc ms : Nat) (X : Nat → zV) : zT :=
  zj X 849 [0, 1, 2, 3, 4]
def aL_law_447 (L : Nat) (xs : Nat → Int32) (mc ms : Nat) (X : Nat → zV) : zT :=
  zj X 849 [0, 1, 2, 3, 4]
def aL_law_553 (L : Nat) (xs : Nat → Int32) (mc ms : Nat) (X : Nat → zV) : zT :=
  zj X 849 [0, 1, 2, 3, 4]
def aL_law_609 (L : Nat) (xs : Nat → Int32) (mc ms : Nat) (X : Nat → zV) : zT :=
  zj X 849 [0, 1, 2, 3, 4]
def aL_law_665 (L : Nat) (xs : Nat → Int32) (mc ms : Nat) (X : Nat → zV) : zT :=
  zj X 849 [0, 1, 2, 3, 4]
def aL_law_709 (L : Nat) (xs : Nat → Int32) (mc ms : Nat) (X : Nat → zV) : zT :=
  zj X 849 [0, 1, 2, 3, 4]
def aL_law_753 (L : Nat) (xs : Nat → Int32) (mc ms : Nat) (X : Nat → zV) : zT :=
  zj X 849 [0, 1, 2, 3, 4]
def aL_law_821 (L : Nat) (xs : Nat → Int32) (mc ms : Nat) (X : Nat → zV) : zT :=
  zj X 849 [0, 1, 2, 3, 4]
def aL_law_849 (L : Nat) (xs : Nat → Int32) (mc ms : Nat) (X : Nat → zV) : zT :=
  zinc 4 6 <| zj X 33 [0, 1, 2, 3, 4]
def lvL_law : Nat → List Nat := fun L => match L with
  | 0 => [0]
  | 33 => [0, 1, 2, 3, 4]
  | 254 => [0, 1, 2, 3, 4]
  | 310 => [0, 1, 2, 3, 4]
  | 392 => [0, 1, 2, 3, 4]
  | 447 => [0, 1, 2, 3, 4]
  | 553 => [0, 1, 2, 3, 4]
  | 609 => [0, 1, 2, 3, 4]
  | 665 => [0, 1, 2, 3, 4]
  | 709 => [0, 1, 2, 3, 4]
  | 753 => [0, 1, 2, 3, 4]
  | 821 => [0, 1, 2, 3, 4]
  | 849 => [0, 1, 2, 3, 4]
  | _ => []
def wL_law (L : Nat) (xs : Nat → Int32) (mc ms : Nat) (av : List Value) (M : zM) : Prop := ((zlay av).length ≤ 8 ∧ zpick (zlay av) [0] = some av) ∧ ∀ X : Nat → zV, zin 8 [0] (aL_law_0 L xs mc ms X) X 0 → zin 8 [0, 1, 2, 3, 4] (aL_law_33 L xs mc ms X) X 33 → zin 8 [0, 1, 2, 3, 4] (aL_law_254 L xs mc ms X) X 254 → zin 8 [0, 1, 2, 3, 4] (aL_law_310 L xs mc ms X) X 310 → zin 8 [0, 1, 2, 3, 4] (aL_law_392 L xs mc ms X) X 392 → zin 8 [0, 1, 2, 3, 4] (aL_law_447 L xs mc ms X) X 447 → zin 8 [0, 1, 2, 3, 4] (aL_law_553 L xs mc ms X) X 553 → zin 8 [0, 1, 2, 3, 4] (aL_law_609 L xs mc ms X) X 609 → zin 8 [0, 1, 2, 3, 4] (aL_law_665 L xs mc ms X) X 665 → zin 8 [0, 1, 2, 3, 4] (aL_law_709 L xs mc ms X) X 709 → zin 8 [0, 1, 2, 3, 4] (aL_law_753 L xs mc ms X) X 753 → zin 8 [0, 1, 2, 3, 4] (aL_law_821 L xs mc ms X) X 821 → zin 8 [0, 1, 2, 3, 4] (aL_law_849 L xs mc ms X) X 849 → X 0 0 0 av [] M
set_option maxRecDepth 100000 in
set_option maxHeartbeats 4000000 in
theorem sL_law {p : Program} {l : Launch} {e : Env} {s : State} {m : MethodId} {b : Nat} {below : List Frame} {meth : Method} {c : Code} {G : zG} {L : Nat} {xs : Nat → Int32} (hE : zXt G) (hTh : zThr G) (hl : l.stackTraces = false) (hScr : zScr G L xs) (hG1 : G.1 = s.heap.size) (hr : meth.sig.returnType = ret) (hC : zCx p room_1 s m #[Value.ref b] meth c G code 8 R_law 600128 7301064) {M : zM} (h : wL_law L xs 600128 7301064 [.ref 10] M) (lv : List (Option Value)) (hlv : zpick lv [0] = some [.ref 10]) : zAt p l e room_1 s m #[Value.ref b] below meth c (lw_Z below #[Value.ref b] s) G 8 0 0 0 lv [] M := by
  have hRf : room_1.frames = 2048 := rfl
  have hRl : room_1.locals = 84000 := rfl
  obtain ⟨X, hXe⟩ : ∃ X : Nat → zV, X = fun L u v vs st M => ∀ lv, zpick lv (lvL_law L) = some vs → zAt p l e room_1 s m #[Value.ref b] below meth c (lw_Z below #[Value.ref b] s) G 8 L u v lv st M := ⟨_, rfl⟩
  have hJ : ∀ L, zOk p l e room_1 s m #[Value.ref b] below meth c (lw_Z below #[Value.ref b] s) G 8 L (zj X L (lvL_law L)) := fun L => S_jump (fun u v lv vs st M hp hx => by rw [hXe] at hx; exact hx lv hp)
  have hB0 : zin 8 [0] (aL_law_0 L xs 600128 7301064 X) X 0 := by
    intro u v vs st M hb
    rw [hXe]
    refine fun lv hp => S_block (L := 0) (live := [0]) ?_ u v lv vs st M hp hb
    unfold aL_law_0
    refine S_new (pc := 0) hC cfX11 (by decide) wd_29 wd_30 wd_1 dL_law_0 ?_
    refine S_dup (pc := 3) hC dL_law_3 ?_
    refine S_aload_n (pc := 4) hC dL_law_4 rfl ?_
    refine S_iconst (pc := 5) hC dL_law_5 (by decide) ?_
    refine S_callS (pc := 6) hC (sL_cell l G hScr) wd_593 wd_594 wd_0 wd_595 (by decide +kernel) ⟨by rw [hRf]; decide, by rw [hRl]; decide⟩ dL_law_6 ?_
    unfold kL_law_9
    refine S_callI (pc := 9) hC (sX11_init l G hE) wd_31 wd_32 wd_1 wd_33 rfl (by decide +kernel) ⟨by rw [hRf]; decide, by rw [hRl]; decide⟩ dL_law_9 ?_
    unfold kL_law_12
    refine S_astore_n (pc := 12) hC dL_law_12 rfl (by decide) ?_
    refine S_new (pc := 13) hC cfX13 (by decide) wd_1185 wd_1186 wd_12 dL_law_13 ?_
    refine S_dup (pc := 16) hC dL_law_16 ?_
    refine S_aload_n (pc := 17) hC dL_law_17 rfl ?_
    refine S_iconst (pc := 18) hC dL_law_18 (by decide) ?_
    refine S_callS (pc := 19) hC (sL_cell l G hScr) wd_593 wd_594 wd_0 wd_595 (by decide +kernel) ⟨by rw [hRf]; decide, by rw [hRl]; decide⟩ dL_law_19 ?_
    unfold kL_law_22
    refine S_callI (pc := 22) hC (sX13_init l G) wd_1187 wd_1188 wd_12 wd_1189 rfl (by decide +kernel) ⟨by rw [hRf]; decide, by rw [hRl]; decide⟩ dL_law_22 ?_
    unfold kL_law_25
    refine S_astore_n (pc := 25) hC dL_law_25 rfl (by decide) ?_
    refine S_iconst (pc := 26) hC dL_law_26 (by decide) ?_
    refine S_newa_long (pc := 27) hC wd_88 dL_law_27 ?_
    refine S_astore_n (pc := 29) hC dL_law_29 rfl (by decide) ?_
    refine S_iconst (pc := 30) hC dL_law_30 (by decide) ?_
    refine S_istore (pc := 31) hC dL_law_31 (by decide) ?_
    exact hJ 33
  have hB33 : zin 8 [0, 1, 2, 3, 4] (aL_law_33 L xs 600128 7301064 X) X 33 := by
    intro u v vs st M hb
    rw [hXe]
    refine fun lv hp => S_block (L := 33) (live := [0, 1, 2, 3, 4]) ?_ u v lv vs st M hp hb
    unfold aL_law_33
    refine S_iload (pc := 33) hC dL_law_33 ?_
    refine S_aload_n (pc := 35) hC dL_law_35 rfl ?_
    refine S_xn (pc := 36) hC hScr dL_law_36 ?_
    refine S_bipush (pc := 37) hC dL_law_37 (by decide) ?_
    refine S_isub (pc := 39) hC dL_law_39 ?_
    refine S_icmp_gt (pc := 40) (tgt := 855) hC dL_law_40 (by decide) ?_ ?_
    · refine S_iconst (pc := 855) hC dL_law_855 (by decide) ?_
      exact S_end (pc := 856) hC hr hG1 dL_law_856
    · refine S_aload_n (pc := 43) hC dL_law_43 rfl ?_
      refine S_iload (pc := 44) hC dL_law_44 ?_
      refine S_xs (pc := 46) hC hScr dL_law_46 ?_
      refine S_bipush (pc := 47) hC dL_law_47 (by decide) ?_
      refine S_iand (pc := 49) hC dL_law_49 ?_
      refine S_table (pc := 50) (tgd := 849) hC dL_law_50 (by decide) ?_ (fun i hi => ?_)
      · exact hJ 849
      · match i, hi with
          | 0, _ =>
            refine ⟨_, 128, _, rfl, by decide, rfl, ?_⟩
            unfold kL_law_128
            refine S_aload_n (pc := 128) hC dL_law_128 rfl ?_
            refine S_aload_n (pc := 129) hC dL_law_129 rfl ?_
            refine S_iload (pc := 130) hC dL_law_130 ?_
            refine S_iconst (pc := 132) hC dL_law_132 (by decide) ?_
            refine S_iadd (pc := 133) hC dL_law_133 ?_
            refine S_xs (pc := 134) hC hScr dL_law_134 ?_
            refine S_aload_n (pc := 135) hC dL_law_135 rfl ?_
            refine S_iload (pc := 136) hC dL_law_136 ?_
            refine S_iconst (pc := 138) hC dL_law_138 (by decide) ?_
            refine S_iadd (pc := 139) hC dL_law_139 ?_
            refine S_xs (pc := 140) hC hScr dL_law_140 ?_
            refine S_aload_n (pc := 141) hC dL_law_141 rfl ?_
            refine S_iload (pc := 142) hC dL_law_142 ?_
            refine S_iconst (pc := 144) hC dL_law_144 (by decide) ?_
            refine S_iadd (pc := 145) hC dL_law_145 ?_
            refine S_xs (pc := 146) hC hScr dL_law_146 ?_
            refine S_aload_n (pc := 147) hC dL_law_147 rfl ?_
            refine S_iload (pc := 148) hC dL_law_148 ?_
            refine S_iconst (pc := 150) hC dL_law_150 (by decide) ?_
            refine S_iadd (pc := 151) hC dL_law_151 ?_
            refine S_xs (pc := 152) hC hScr dL_law_152 ?_
            refine S_aload_n (pc := 153) hC dL_law_153 rfl ?_
            refine S_iload (pc := 154) hC dL_law_154 ?_
            refine S_iconst (pc := 156) hC dL_law_156 (by decide) ?_
            refine S_iadd (pc := 157) hC dL_law_157 ?_
            refine S_xs (pc := 158) hC hScr dL_law_158 ?_
            refine S_callV (pc := 159) hC (sX11_tape l G) rfl wd_386 wd_387 wd_388 wd_1 wd_389 (by decide +kernel) ⟨by rw [hRf]; decide, by rw [hRl]; decide⟩ dL_law_159 ?_
            unfold kL_law_162
            refine S_aload_n (pc := 162) hC dL_law_162 rfl ?_
            refine S_aload_n (pc := 163) hC dL_law_163 rfl ?_
            refine S_iload (pc := 164) hC dL_law_164 ?_
            refine S_iconst (pc := 166) hC dL_law_166 (by decide) ?_
            refine S_iadd (pc := 167) hC dL_law_167 ?_
            refine S_xs (pc := 168) hC hScr dL_law_168 ?_
            refine S_aload_n (pc := 169) hC dL_law_169 rfl ?_
            refine S_iload (pc := 170) hC dL_law_170 ?_
            refine S_iconst (pc := 172) hC dL_law_172 (by decide) ?_
            refine S_iadd (pc := 173) hC dL_law_173 ?_
            refine S_xs (pc := 174) hC hScr dL_law_174 ?_
            refine S_aload_n (pc := 175) hC dL_law_175 rfl ?_
            refine S_iload (pc := 176) hC dL_law_176 ?_
            refine S_iconst (pc := 178) hC dL_law_178 (by decide) ?_
            refine S_iadd (pc := 179) hC dL_law_179 ?_
            refine S_xs (pc := 180) hC hScr dL_law_180 ?_
            refine S_aload_n (pc := 181) hC dL_law_181 rfl ?_
            refine S_iload (pc := 182) hC dL_law_182 ?_
            refine S_iconst (pc := 184) hC dL_law_184 (by decide) ?_
            refine S_iadd (pc := 185) hC dL_law_185 ?_
            refine S_xs (pc := 186) hC hScr dL_law_186 ?_
            refine S_aload_n (pc := 187) hC dL_law_187 rfl ?_
            refine S_iload (pc := 188) hC dL_law_188 ?_
            refine S_iconst (pc := 190) hC dL_law_190 (by decide) ?_
            refine S_iadd (pc := 191) hC dL_law_191 ?_
            refine S_xs (pc := 192) hC hScr dL_law_192 ?_
            refine S_callV (pc := 193) hC (sX13_tape l G) rfl wd_1338 wd_1339 wd_1340 wd_12 wd_1341 (by decide +kernel) ⟨by rw [hRf]; decide, by rw [hRl]; decide⟩ dL_law_193 ?_
            unfold kL_law_196
            refine S_icmp_eq (pc := 196) (tgt := 849) hC dL_law_196 (by decide) ?_ ?_
            · exact hJ 849
            · refine S_iconst (pc := 199) hC dL_law_199 (by decide) ?_
              exact S_end (pc := 200) hC hr hG1 dL_law_200
          | 1, _ =>
            refine ⟨_, 201, _, rfl, by decide, rfl, ?_⟩
            unfold kL_law_201
            refine S_aload_n (pc := 201) hC dL_law_201 rfl ?_
            refine S_aload_n (pc := 202) hC dL_law_202 rfl ?_
            refine S_iload (pc := 203) hC dL_law_203 ?_
            refine S_iconst (pc := 205) hC dL_law_205 (by decide) ?_
            refine S_iadd (pc := 206) hC dL_law_206 ?_
            refine S_xs (pc := 207) hC hScr dL_law_207 ?_
            refine S_aload_n (pc := 208) hC dL_law_208 rfl ?_
            refine S_callSW (pc := 209) hC (sL_submit l G hE hTh hl) wd_596 wd_597 wd_0 wd_598 (by decide +kernel) ⟨by rw [hRf]; decide, by rw [hRl]; decide⟩ dL_law_209 ?_
            unfold kL_law_212
            refine S_istore (pc := 212) hC dL_law_212 (by decide) ?_
            refine S_aload_n (pc := 214) hC dL_law_214 rfl ?_
            refine S_aload_n (pc := 215) hC dL_law_215 rfl ?_
            refine S_iload (pc := 216) hC dL_law_216 ?_
            refine S_iconst (pc := 218) hC dL_law_218 (by decide) ?_
            refine S_iadd (pc := 219) hC dL_law_219 ?_
            refine S_xs (pc := 220) hC hScr dL_law_220 ?_
            refine S_callV (pc := 221) hC (sX13_submit l G) rfl wd_1346 wd_1347 wd_1348 wd_12 wd_1349 (by decide +kernel) ⟨by rw [hRf]; decide, by rw [hRl]; decide⟩ dL_law_221 ?_
            unfold kL_law_224
            refine S_istore (pc := 224) hC dL_law_224 (by decide) ?_
            refine S_aload_n (pc := 226) hC dL_law_226 rfl ?_
            refine S_callV (pc := 227) hC (sX13_thrown l G) rfl wd_1334 wd_1335 wd_1336 wd_12 wd_1337 (by decide +kernel) ⟨by rw [hRf]; decide, by rw [hRl]; decide⟩ dL_law_227 ?_
            unfold kL_law_230
            refine S_iload (pc := 230) hC dL_law_230 ?_
            refine S_icmp_eq (pc := 232) (tgt := 237) hC dL_law_232 (by decide) ?_ ?_
            · refine S_iload (pc := 237) hC dL_law_237 ?_
              refine S_if_ne (pc := 239) (tgt := 254) hC dL_law_239 (by decide) ?_ ?_
              · exact hJ 254
              · refine S_aload_n (pc := 242) hC dL_law_242 rfl ?_
                refine S_iconst (pc := 243) hC dL_law_243 (by decide) ?_
                refine S_laload (pc := 244) hC dL_law_244 ?_
                refine S_iload (pc := 245) hC dL_law_245 ?_
                refine S_i2l (pc := 247) hC dL_law_247 ?_
                refine S_lcmp (pc := 248) hC dL_law_248 ?_
                refine S_if_eq (pc := 249) (tgt := 254) hC dL_law_249 (by decide) ?_ ?_
                · exact hJ 254
                · refine S_iconst (pc := 252) hC dL_law_252 (by decide) ?_
                  exact S_end (pc := 253) hC hr hG1 dL_law_253
            · refine S_iconst (pc := 235) hC dL_law_235 (by decide) ?_
              exact S_end (pc := 236) hC hr hG1 dL_law_236
          | 2, _ =>
            refine ⟨_, 257, _, rfl, by decide, rfl, ?_⟩
            unfold kL_law_257
            refine S_aload_n (pc := 257) hC dL_law_257 rfl ?_
            refine S_aload_n (pc := 258) hC dL_law_258 rfl ?_
            refine S_iload (pc := 259) hC dL_law_259 ?_
            refine S_iconst (pc := 261) hC dL_law_261 (by decide) ?_
            refine S_iadd (pc := 262) hC dL_law_262 ?_
            refine S_xs (pc := 263) hC hScr dL_law_263 ?_
            refine S_aload_n (pc := 264) hC dL_law_264 rfl ?_
            refine S_callSW (pc := 265) hC (sL_proceed l G hE hTh hl) wd_936 wd_937 wd_0 wd_938 (by decide +kernel) ⟨by rw [hRf]; decide, by rw [hRl]; decide⟩ dL_law_265 ?_
            unfold kL_law_268
            refine S_istore (pc := 268) hC dL_law_268 (by decide) ?_
            refine S_aload_n (pc := 270) hC dL_law_270 rfl ?_
            refine S_aload_n (pc := 271) hC dL_law_271 rfl ?_
            refine S_iload (pc := 272) hC dL_law_272 ?_
            refine S_iconst (pc := 274) hC dL_law_274 (by decide) ?_
            refine S_iadd (pc := 275) hC dL_law_275 ?_
            refine S_xs (pc := 276) hC hScr dL_law_276 ?_
            refine S_callV (pc := 277) hC (sX13_proceed l G) rfl wd_1589 wd_1590 wd_1591 wd_12 wd_1592 (by decide +kernel) ⟨by rw [hRf]; decide, by rw [hRl]; decide⟩ dL_law_277 ?_
            unfold kL_law_280
            refine S_istore (pc := 280) hC dL_law_280 (by decide) ?_
            refine S_aload_n (pc := 282) hC dL_law_282 rfl ?_
            refine S_callV (pc := 283) hC (sX13_thrown l G) rfl wd_1334 wd_1335 wd_1336 wd_12 wd_1337 (by decide +kernel) ⟨by rw [hRf]; decide, by rw [hRl]; decide⟩ dL_law_283 ?_
            unfold kL_law_286
            refine S_iload (pc := 286) hC dL_law_286 ?_
            refine S_icmp_eq (pc := 288) (tgt := 293) hC dL_law_288 (by decide) ?_ ?_
            · refine S_iload (pc := 293) hC dL_law_293 ?_
              refine S_if_ne (pc := 295) (tgt := 310) hC dL_law_295 (by decide) ?_ ?_
              · exact hJ 310
              · refine S_aload_n (pc := 298) hC dL_law_298 rfl ?_
                refine S_iconst (pc := 299) hC dL_law_299 (by decide) ?_
                refine S_laload (pc := 300) hC dL_law_300 ?_
                refine S_iload (pc := 301) hC dL_law_301 ?_
                refine S_i2l (pc := 303) hC dL_law_303 ?_
                refine S_lcmp (pc := 304) hC dL_law_304 ?_
                refine S_if_eq (pc := 305) (tgt := 310) hC dL_law_305 (by decide) ?_ ?_
                · exact hJ 310
                · refine S_iconst (pc := 308) hC dL_law_308 (by decide) ?_
                  exact S_end (pc := 309) hC hr hG1 dL_law_309
            · refine S_iconst (pc := 291) hC dL_law_291 (by decide) ?_
              exact S_end (pc := 292) hC hr hG1 dL_law_292
          | 3, _ =>
            refine ⟨_, 313, _, rfl, by decide, rfl, ?_⟩
            unfold kL_law_313
            refine S_aload_n (pc := 313) hC dL_law_313 rfl ?_
            refine S_callV (pc := 314) hC (sX11_retreat l G hE.1) rfl wd_394 wd_395 wd_396 wd_1 wd_397 (by decide +kernel) ⟨by rw [hRf]; decide, by rw [hRl]; decide⟩ dL_law_314 ?_
            unfold kL_law_317
            refine S_aload_n (pc := 317) hC dL_law_317 rfl ?_
            refine S_callV (pc := 318) hC (sX13_retreat l G) rfl wd_1593 wd_1594 wd_1595 wd_12 wd_1596 (by decide +kernel) ⟨by rw [hRf]; decide, by rw [hRl]; decide⟩ dL_law_318 ?_
            unfold kL_law_321
            refine S_icmp_eq (pc := 321) (tgt := 849) hC dL_law_321 (by decide) ?_ ?_
            · exact hJ 849
            · refine S_iconst (pc := 324) hC dL_law_324 (by decide) ?_
              exact S_end (pc := 325) hC hr hG1 dL_law_325
          | 4, _ =>
            refine ⟨_, 326, _, rfl, by decide, rfl, ?_⟩
            unfold kL_law_326
            refine S_aload_n (pc := 326) hC dL_law_326 rfl ?_
            refine S_callV (pc := 327) hC (sX11_legalMany l G) rfl wd_487 wd_488 wd_489 wd_1 wd_490 (by decide +kernel) ⟨by rw [hRf]; decide, by rw [hRl]; decide⟩ dL_law_327 ?_
            unfold kL_law_330
            refine S_aload_n (pc := 330) hC dL_law_330 rfl ?_
            refine S_callV (pc := 331) hC (sX13_legalMany l G) rfl wd_1597 wd_1598 wd_1599 wd_12 wd_1600 (by decide +kernel) ⟨by rw [hRf]; decide, by rw [hRl]; decide⟩ dL_law_331 ?_
            unfold kL_law_334
            refine S_icmp_eq (pc := 334) (tgt := 849) hC dL_law_334 (by decide) ?_ ?_
            · exact hJ 849
            · refine S_iconst (pc := 337) hC dL_law_337 (by decide) ?_
              exact S_end (pc := 338) hC hr hG1 dL_law_338
          | 5, _ =>
            refine ⟨_, 339, _, rfl, by decide, rfl, ?_⟩
            unfold kL_law_339
            refine S_aload_n (pc := 339) hC dL_law_339 rfl ?_
            refine S_aload_n (pc := 340) hC dL_law_340 rfl ?_
            refine S_iload (pc := 341) hC dL_law_341 ?_
            refine S_iconst (pc := 343) hC dL_law_343 (by decide) ?_
            refine S_iadd (pc := 344) hC dL_law_344 ?_
            refine S_xs (pc := 345) hC hScr dL_law_345 ?_
            refine S_aload_n (pc := 346) hC dL_law_346 rfl ?_
            refine S_callSW (pc := 347) hC (sL_legalMove l G hE hTh hl) wd_978 wd_979 wd_0 wd_980 (by decide +kernel) ⟨by rw [hRf]; decide, by rw [hRl]; decide⟩ dL_law_347 ?_
            unfold kL_law_350
            refine S_istore (pc := 350) hC dL_law_350 (by decide) ?_
            refine S_aload_n (pc := 352) hC dL_law_352 rfl ?_
            refine S_aload_n (pc := 353) hC dL_law_353 rfl ?_
            refine S_iload (pc := 354) hC dL_law_354 ?_
            refine S_iconst (pc := 356) hC dL_law_356 (by decide) ?_
            refine S_iadd (pc := 357) hC dL_law_357 ?_
            refine S_xs (pc := 358) hC hScr dL_law_358 ?_
            refine S_callV (pc := 359) hC (sX13_legalMove l G) rfl wd_1601 wd_1602 wd_1603 wd_12 wd_1604 (by decide +kernel) ⟨by rw [hRf]; decide, by rw [hRl]; decide⟩ dL_law_359 ?_
            unfold kL_law_362
            refine S_istore (pc := 362) hC dL_law_362 (by decide) ?_
            refine S_aload_n (pc := 364) hC dL_law_364 rfl ?_
            refine S_callV (pc := 365) hC (sX13_thrown l G) rfl wd_1334 wd_1335 wd_1336 wd_12 wd_1337 (by decide +kernel) ⟨by rw [hRf]; decide, by rw [hRl]; decide⟩ dL_law_365 ?_
            unfold kL_law_368
            refine S_iload (pc := 368) hC dL_law_368 ?_
            refine S_icmp_eq (pc := 370) (tgt := 375) hC dL_law_370 (by decide) ?_ ?_
            · refine S_iload (pc := 375) hC dL_law_375 ?_
              refine S_if_ne (pc := 377) (tgt := 392) hC dL_law_377 (by decide) ?_ ?_
              · exact hJ 392
              · refine S_aload_n (pc := 380) hC dL_law_380 rfl ?_
                refine S_iconst (pc := 381) hC dL_law_381 (by decide) ?_
                refine S_laload (pc := 382) hC dL_law_382 ?_
                refine S_iload (pc := 383) hC dL_law_383 ?_
                refine S_i2l (pc := 385) hC dL_law_385 ?_
                refine S_lcmp (pc := 386) hC dL_law_386 ?_
                refine S_if_eq (pc := 387) (tgt := 392) hC dL_law_387 (by decide) ?_ ?_
                · exact hJ 392
                · refine S_iconst (pc := 390) hC dL_law_390 (by decide) ?_
                  exact S_end (pc := 391) hC hr hG1 dL_law_391
            · refine S_iconst (pc := 373) hC dL_law_373 (by decide) ?_
              exact S_end (pc := 374) hC hr hG1 dL_law_374
          | 6, _ =>
            refine ⟨_, 395, _, rfl, by decide, rfl, ?_⟩
            unfold kL_law_395
            refine S_aload_n (pc := 395) hC dL_law_395 rfl ?_
            refine S_aload_n (pc := 396) hC dL_law_396 rfl ?_
            refine S_iload (pc := 397) hC dL_law_397 ?_
            refine S_iconst (pc := 399) hC dL_law_399 (by decide) ?_
            refine S_iadd (pc := 400) hC dL_law_400 ?_
            refine S_xs (pc := 401) hC hScr dL_law_401 ?_
            refine S_aload_n (pc := 402) hC dL_law_402 rfl ?_
            refine S_callSW (pc := 403) hC (sL_spelling l G hE hTh hl) wd_989 wd_990 wd_0 wd_991 (by decide +kernel) ⟨by rw [hRf]; decide, by rw [hRl]; decide⟩ dL_law_403 ?_
            unfold kL_law_406
            refine S_istore (pc := 406) hC dL_law_406 (by decide) ?_
            refine S_aload_n (pc := 408) hC dL_law_408 rfl ?_
            refine S_aload_n (pc := 409) hC dL_law_409 rfl ?_
            refine S_iload (pc := 410) hC dL_law_410 ?_
            refine S_iconst (pc := 412) hC dL_law_412 (by decide) ?_
            refine S_iadd (pc := 413) hC dL_law_413 ?_
            refine S_xs (pc := 414) hC hScr dL_law_414 ?_
            refine S_callV (pc := 415) hC (sX13_spelling l G) rfl wd_1609 wd_1610 wd_1611 wd_12 wd_1612 (by decide +kernel) ⟨by rw [hRf]; decide, by rw [hRl]; decide⟩ dL_law_415 ?_
            unfold kL_law_418
            refine S_lstore (pc := 418) hC dL_law_418 (by decide) ?_
            refine S_aload_n (pc := 420) hC dL_law_420 rfl ?_
            refine S_callV (pc := 421) hC (sX13_thrown l G) rfl wd_1334 wd_1335 wd_1336 wd_12 wd_1337 (by decide +kernel) ⟨by rw [hRf]; decide, by rw [hRl]; decide⟩ dL_law_421 ?_
            unfold kL_law_424
            refine S_iload (pc := 424) hC dL_law_424 ?_
            refine S_icmp_eq (pc := 426) (tgt := 431) hC dL_law_426 (by decide) ?_ ?_
            · refine S_iload (pc := 431) hC dL_law_431 ?_
              refine S_if_ne (pc := 433) (tgt := 447) hC dL_law_433 (by decide) ?_ ?_
              · exact hJ 447
              · refine S_aload_n (pc := 436) hC dL_law_436 rfl ?_
                refine S_iconst (pc := 437) hC dL_law_437 (by decide) ?_
                refine S_laload (pc := 438) hC dL_law_438 ?_
                refine S_lload (pc := 439) hC dL_law_439 ?_
                refine S_lcmp (pc := 441) hC dL_law_441 ?_
                refine S_if_eq (pc := 442) (tgt := 447) hC dL_law_442 (by decide) ?_ ?_
                · exact hJ 447
                · refine S_iconst (pc := 445) hC dL_law_445 (by decide) ?_
                  exact S_end (pc := 446) hC hr hG1 dL_law_446
            · refine S_iconst (pc := 429) hC dL_law_429 (by decide) ?_
              exact S_end (pc := 430) hC hr hG1 dL_law_430
          | 7, _ =>
            refine ⟨_, 450, _, rfl, by decide, rfl, ?_⟩
            unfold kL_law_450
            refine S_aload_n (pc := 450) hC dL_law_450 rfl ?_
            refine S_aload_n (pc := 451) hC dL_law_451 rfl ?_
            refine S_iload (pc := 452) hC dL_law_452 ?_
            refine S_iconst (pc := 454) hC dL_law_454 (by decide) ?_
            refine S_iadd (pc := 455) hC dL_law_455 ?_
            refine S_xs (pc := 456) hC hScr dL_law_456 ?_
            refine S_callV (pc := 457) hC (sX11_recordAt l G hE) rfl wd_491 wd_492 wd_493 wd_1 wd_494 (by decide +kernel) ⟨by rw [hRf]; decide, by rw [hRl]; decide⟩ dL_law_457 ?_
            unfold kL_law_460
            refine S_aload_n (pc := 460) hC dL_law_460 rfl ?_
            refine S_aload_n (pc := 461) hC dL_law_461 rfl ?_
            refine S_iload (pc := 462) hC dL_law_462 ?_
            refine S_iconst (pc := 464) hC dL_law_464 (by decide) ?_
            refine S_iadd (pc := 465) hC dL_law_465 ?_
            refine S_xs (pc := 466) hC hScr dL_law_466 ?_
            refine S_callV (pc := 467) hC (sX13_recordAt l G) rfl wd_1617 wd_1618 wd_1619 wd_12 wd_1620 (by decide +kernel) ⟨by rw [hRf]; decide, by rw [hRl]; decide⟩ dL_law_467 ?_
            unfold kL_law_470
            refine S_lcmp (pc := 470) hC dL_law_470 ?_
            refine S_if_eq (pc := 471) (tgt := 849) hC dL_law_471 (by decide) ?_ ?_
            · exact hJ 849
            · refine S_iconst (pc := 474) hC dL_law_474 (by decide) ?_
              exact S_end (pc := 475) hC hr hG1 dL_law_475
          | 8, _ =>
            refine ⟨_, 476, _, rfl, by decide, rfl, ?_⟩
            unfold kL_law_476
            refine S_aload_n (pc := 476) hC dL_law_476 rfl ?_
            refine S_aload_n (pc := 477) hC dL_law_477 rfl ?_
            refine S_iload (pc := 478) hC dL_law_478 ?_
            refine S_iconst (pc := 480) hC dL_law_480 (by decide) ?_
            refine S_iadd (pc := 481) hC dL_law_481 ?_
            refine S_xs (pc := 482) hC hScr dL_law_482 ?_
            refine S_callV (pc := 483) hC (sX11_manOn l G) rfl wd_562 wd_563 wd_564 wd_1 wd_565 (by decide +kernel) ⟨by rw [hRf]; decide, by rw [hRl]; decide⟩ dL_law_483 ?_
            unfold kL_law_486
            refine S_aload_n (pc := 486) hC dL_law_486 rfl ?_
            refine S_aload_n (pc := 487) hC dL_law_487 rfl ?_
            refine S_iload (pc := 488) hC dL_law_488 ?_
            refine S_iconst (pc := 490) hC dL_law_490 (by decide) ?_
            refine S_iadd (pc := 491) hC dL_law_491 ?_
            refine S_xs (pc := 492) hC hScr dL_law_492 ?_
            refine S_callV (pc := 493) hC (sX13_manOn l G) rfl wd_1633 wd_1634 wd_1635 wd_12 wd_1636 (by decide +kernel) ⟨by rw [hRf]; decide, by rw [hRl]; decide⟩ dL_law_493 ?_
            unfold kL_law_496
            refine S_icmp_eq (pc := 496) (tgt := 849) hC dL_law_496 (by decide) ?_ ?_
            · exact hJ 849
            · refine S_iconst (pc := 499) hC dL_law_499 (by decide) ?_
              exact S_end (pc := 500) hC hr hG1 dL_law_500
          | 9, _ =>
            refine ⟨_, 501, _, rfl, by decide, rfl, ?_⟩
            unfold kL_law_501
            refine S_aload_n (pc := 501) hC dL_law_501 rfl ?_
            refine S_aload_n (pc := 502) hC dL_law_502 rfl ?_
            refine S_iload (pc := 503) hC dL_law_503 ?_
            refine S_iconst (pc := 505) hC dL_law_505 (by decide) ?_
            refine S_iadd (pc := 506) hC dL_law_506 ?_
            refine S_xs (pc := 507) hC hScr dL_law_507 ?_
            refine S_aload_n (pc := 508) hC dL_law_508 rfl ?_
            refine S_callSW (pc := 509) hC (sL_linesTo l G hE hTh hl) wd_1001 wd_1002 wd_0 wd_1003 (by decide +kernel) ⟨by rw [hRf]; decide, by rw [hRl]; decide⟩ dL_law_509 ?_
            unfold kL_law_512
            refine S_istore (pc := 512) hC dL_law_512 (by decide) ?_
            refine S_aload_n (pc := 514) hC dL_law_514 rfl ?_
            refine S_aload_n (pc := 515) hC dL_law_515 rfl ?_
            refine S_iload (pc := 516) hC dL_law_516 ?_
            refine S_iconst (pc := 518) hC dL_law_518 (by decide) ?_
            refine S_iadd (pc := 519) hC dL_law_519 ?_
            refine S_xs (pc := 520) hC hScr dL_law_520 ?_
            refine S_callV (pc := 521) hC (sX13_linesTo l G) rfl wd_1637 wd_1638 wd_1639 wd_12 wd_1640 (by decide +kernel) ⟨by rw [hRf]; decide, by rw [hRl]; decide⟩ dL_law_521 ?_
            unfold kL_law_524
            refine S_lstore (pc := 524) hC dL_law_524 (by decide) ?_
            refine S_aload_n (pc := 526) hC dL_law_526 rfl ?_
            refine S_callV (pc := 527) hC (sX13_thrown l G) rfl wd_1334 wd_1335 wd_1336 wd_12 wd_1337 (by decide +kernel) ⟨by rw [hRf]; decide, by rw [hRl]; decide⟩ dL_law_527 ?_
            unfold kL_law_530
            refine S_iload (pc := 530) hC dL_law_530 ?_
            refine S_icmp_eq (pc := 532) (tgt := 537) hC dL_law_532 (by decide) ?_ ?_
            · refine S_iload (pc := 537) hC dL_law_537 ?_
              refine S_if_ne (pc := 539) (tgt := 553) hC dL_law_539 (by decide) ?_ ?_
              · exact hJ 553
              · refine S_aload_n (pc := 542) hC dL_law_542 rfl ?_
                refine S_iconst (pc := 543) hC dL_law_543 (by decide) ?_
                refine S_laload (pc := 544) hC dL_law_544 ?_
                refine S_lload (pc := 545) hC dL_law_545 ?_
                refine S_lcmp (pc := 547) hC dL_law_547 ?_
                refine S_if_eq (pc := 548) (tgt := 553) hC dL_law_548 (by decide) ?_ ?_
                · exact hJ 553
                · refine S_iconst (pc := 551) hC dL_law_551 (by decide) ?_
                  exact S_end (pc := 552) hC hr hG1 dL_law_552
            · refine S_iconst (pc := 535) hC dL_law_535 (by decide) ?_
              exact S_end (pc := 536) hC hr hG1 dL_law_536
          | 10, _ =>
            refine ⟨_, 556, _, rfl, by decide, rfl, ?_⟩
            unfold kL_law_556
            refine S_aload_n (pc := 556) hC dL_law_556 rfl ?_
            refine S_aload_n (pc := 557) hC dL_law_557 rfl ?_
            refine S_iload (pc := 558) hC dL_law_558 ?_
            refine S_iconst (pc := 560) hC dL_law_560 (by decide) ?_
            refine S_iadd (pc := 561) hC dL_law_561 ?_
            refine S_xs (pc := 562) hC hScr dL_law_562 ?_
            refine S_aload_n (pc := 563) hC dL_law_563 rfl ?_
            refine S_callSW (pc := 564) hC (sL_valueAt l G hE hTh hl) wd_1022 wd_1023 wd_0 wd_1024 (by decide +kernel) ⟨by rw [hRf]; decide, by rw [hRl]; decide⟩ dL_law_564 ?_
            unfold kL_law_567
            refine S_istore (pc := 567) hC dL_law_567 (by decide) ?_
            refine S_aload_n (pc := 569) hC dL_law_569 rfl ?_
            refine S_aload_n (pc := 570) hC dL_law_570 rfl ?_
            refine S_iload (pc := 571) hC dL_law_571 ?_
            refine S_iconst (pc := 573) hC dL_law_573 (by decide) ?_
            refine S_iadd (pc := 574) hC dL_law_574 ?_
            refine S_xs (pc := 575) hC hScr dL_law_575 ?_
            refine S_callV (pc := 576) hC (sX13_valueAt l G) rfl wd_1645 wd_1646 wd_1647 wd_12 wd_1648 (by decide +kernel) ⟨by rw [hRf]; decide, by rw [hRl]; decide⟩ dL_law_576 ?_
            unfold kL_law_579
            refine S_istore (pc := 579) hC dL_law_579 (by decide) ?_
            refine S_aload_n (pc := 581) hC dL_law_581 rfl ?_
            refine S_callV (pc := 582) hC (sX13_thrown l G) rfl wd_1334 wd_1335 wd_1336 wd_12 wd_1337 (by decide +kernel) ⟨by rw [hRf]; decide, by rw [hRl]; decide⟩ dL_law_582 ?_
            unfold kL_law_585
            refine S_iload (pc := 585) hC dL_law_585 ?_
            refine S_icmp_eq (pc := 587) (tgt := 592) hC dL_law_587 (by decide) ?_ ?_
            · refine S_iload (pc := 592) hC dL_law_592 ?_
              refine S_if_ne (pc := 594) (tgt := 609) hC dL_law_594 (by decide) ?_ ?_
              · exact hJ 609
              · refine S_aload_n (pc := 597) hC dL_law_597 rfl ?_
                refine S_iconst (pc := 598) hC dL_law_598 (by decide) ?_
                refine S_laload (pc := 599) hC dL_law_599 ?_
                refine S_iload (pc := 600) hC dL_law_600 ?_
                refine S_i2l (pc := 602) hC dL_law_602 ?_
                refine S_lcmp (pc := 603) hC dL_law_603 ?_
                refine S_if_eq (pc := 604) (tgt := 609) hC dL_law_604 (by decide) ?_ ?_
                · exact hJ 609
                · refine S_iconst (pc := 607) hC dL_law_607 (by decide) ?_
                  exact S_end (pc := 608) hC hr hG1 dL_law_608
            · refine S_iconst (pc := 590) hC dL_law_590 (by decide) ?_
              exact S_end (pc := 591) hC hr hG1 dL_law_591
          | 11, _ =>
            refine ⟨_, 612, _, rfl, by decide, rfl, ?_⟩
            unfold kL_law_612
            refine S_aload_n (pc := 612) hC dL_law_612 rfl ?_
            refine S_aload_n (pc := 613) hC dL_law_613 rfl ?_
            refine S_iload (pc := 614) hC dL_law_614 ?_
            refine S_iconst (pc := 616) hC dL_law_616 (by decide) ?_
            refine S_iadd (pc := 617) hC dL_law_617 ?_
            refine S_xs (pc := 618) hC hScr dL_law_618 ?_
            refine S_aload_n (pc := 619) hC dL_law_619 rfl ?_
            refine S_callSW (pc := 620) hC (sL_bestAt l G hE hTh hl) wd_1042 wd_1043 wd_0 wd_1044 (by decide +kernel) ⟨by rw [hRf]; decide, by rw [hRl]; decide⟩ dL_law_620 ?_
            unfold kL_law_623
            refine S_istore (pc := 623) hC dL_law_623 (by decide) ?_
            refine S_aload_n (pc := 625) hC dL_law_625 rfl ?_
            refine S_aload_n (pc := 626) hC dL_law_626 rfl ?_
            refine S_iload (pc := 627) hC dL_law_627 ?_
            refine S_iconst (pc := 629) hC dL_law_629 (by decide) ?_
            refine S_iadd (pc := 630) hC dL_law_630 ?_
            refine S_xs (pc := 631) hC hScr dL_law_631 ?_
            refine S_callV (pc := 632) hC (sX13_bestAt l G) rfl wd_1672 wd_1673 wd_1674 wd_12 wd_1675 (by decide +kernel) ⟨by rw [hRf]; decide, by rw [hRl]; decide⟩ dL_law_632 ?_
            unfold kL_law_635
            refine S_istore (pc := 635) hC dL_law_635 (by decide) ?_
            refine S_aload_n (pc := 637) hC dL_law_637 rfl ?_
            refine S_callV (pc := 638) hC (sX13_thrown l G) rfl wd_1334 wd_1335 wd_1336 wd_12 wd_1337 (by decide +kernel) ⟨by rw [hRf]; decide, by rw [hRl]; decide⟩ dL_law_638 ?_
            unfold kL_law_641
            refine S_iload (pc := 641) hC dL_law_641 ?_
            refine S_icmp_eq (pc := 643) (tgt := 648) hC dL_law_643 (by decide) ?_ ?_
            · refine S_iload (pc := 648) hC dL_law_648 ?_
              refine S_if_ne (pc := 650) (tgt := 665) hC dL_law_650 (by decide) ?_ ?_
              · exact hJ 665
              · refine S_aload_n (pc := 653) hC dL_law_653 rfl ?_
                refine S_iconst (pc := 654) hC dL_law_654 (by decide) ?_
                refine S_laload (pc := 655) hC dL_law_655 ?_
                refine S_iload (pc := 656) hC dL_law_656 ?_
                refine S_i2l (pc := 658) hC dL_law_658 ?_
                refine S_lcmp (pc := 659) hC dL_law_659 ?_
                refine S_if_eq (pc := 660) (tgt := 665) hC dL_law_660 (by decide) ?_ ?_
                · exact hJ 665
                · refine S_iconst (pc := 663) hC dL_law_663 (by decide) ?_
                  exact S_end (pc := 664) hC hr hG1 dL_law_664
            · refine S_iconst (pc := 646) hC dL_law_646 (by decide) ?_
              exact S_end (pc := 647) hC hr hG1 dL_law_647
          | 12, _ =>
            refine ⟨_, 668, _, rfl, by decide, rfl, ?_⟩
            unfold kL_law_668
            refine S_aload_n (pc := 668) hC dL_law_668 rfl ?_
            refine S_aload_n (pc := 669) hC dL_law_669 rfl ?_
            refine S_callSW (pc := 670) hC (sL_distanceToMate l G hE hTh hl) wd_1049 wd_1050 wd_0 wd_1051 (by decide +kernel) ⟨by rw [hRf]; decide, by rw [hRl]; decide⟩ dL_law_670 ?_
            unfold kL_law_673
            refine S_istore (pc := 673) hC dL_law_673 (by decide) ?_
            refine S_aload_n (pc := 675) hC dL_law_675 rfl ?_
            refine S_callV (pc := 676) hC (sX13_distanceToMate l G hE) rfl wd_1676 wd_1677 wd_1678 wd_12 wd_1679 (by decide +kernel) ⟨by rw [hRf]; decide, by rw [hRl]; decide⟩ dL_law_676 ?_
            unfold kL_law_679
            refine S_istore (pc := 679) hC dL_law_679 (by decide) ?_
            refine S_aload_n (pc := 681) hC dL_law_681 rfl ?_
            refine S_callV (pc := 682) hC (sX13_thrown l G) rfl wd_1334 wd_1335 wd_1336 wd_12 wd_1337 (by decide +kernel) ⟨by rw [hRf]; decide, by rw [hRl]; decide⟩ dL_law_682 ?_
            unfold kL_law_685
            refine S_iload (pc := 685) hC dL_law_685 ?_
            refine S_icmp_eq (pc := 687) (tgt := 692) hC dL_law_687 (by decide) ?_ ?_
            · refine S_iload (pc := 692) hC dL_law_692 ?_
              refine S_if_ne (pc := 694) (tgt := 709) hC dL_law_694 (by decide) ?_ ?_
              · exact hJ 709
              · refine S_aload_n (pc := 697) hC dL_law_697 rfl ?_
                refine S_iconst (pc := 698) hC dL_law_698 (by decide) ?_
                refine S_laload (pc := 699) hC dL_law_699 ?_
                refine S_iload (pc := 700) hC dL_law_700 ?_
                refine S_i2l (pc := 702) hC dL_law_702 ?_
                refine S_lcmp (pc := 703) hC dL_law_703 ?_
                refine S_if_eq (pc := 704) (tgt := 709) hC dL_law_704 (by decide) ?_ ?_
                · exact hJ 709
                · refine S_iconst (pc := 707) hC dL_law_707 (by decide) ?_
                  exact S_end (pc := 708) hC hr hG1 dL_law_708
            · refine S_iconst (pc := 690) hC dL_law_690 (by decide) ?_
              exact S_end (pc := 691) hC hr hG1 dL_law_691
          | 13, _ =>
            refine ⟨_, 712, _, rfl, by decide, rfl, ?_⟩
            unfold kL_law_712
            refine S_aload_n (pc := 712) hC dL_law_712 rfl ?_
            refine S_aload_n (pc := 713) hC dL_law_713 rfl ?_
            refine S_callSW (pc := 714) hC (sL_matingMove l G hE hTh hl) wd_1164 wd_1165 wd_0 wd_1166 (by decide +kernel) ⟨by rw [hRf]; decide, by rw [hRl]; decide⟩ dL_law_714 ?_
            unfold kL_law_717
            refine S_istore (pc := 717) hC dL_law_717 (by decide) ?_
            refine S_aload_n (pc := 719) hC dL_law_719 rfl ?_
            refine S_callV (pc := 720) hC (sX13_matingMove l G hE) rfl wd_1775 wd_1776 wd_1777 wd_12 wd_1778 (by decide +kernel) ⟨by rw [hRf]; decide, by rw [hRl]; decide⟩ dL_law_720 ?_
            unfold kL_law_723
            refine S_istore (pc := 723) hC dL_law_723 (by decide) ?_
            refine S_aload_n (pc := 725) hC dL_law_725 rfl ?_
            refine S_callV (pc := 726) hC (sX13_thrown l G) rfl wd_1334 wd_1335 wd_1336 wd_12 wd_1337 (by decide +kernel) ⟨by rw [hRf]; decide, by rw [hRl]; decide⟩ dL_law_726 ?_
            unfold kL_law_729
            refine S_iload (pc := 729) hC dL_law_729 ?_
            refine S_icmp_eq (pc := 731) (tgt := 736) hC dL_law_731 (by decide) ?_ ?_
            · refine S_iload (pc := 736) hC dL_law_736 ?_
              refine S_if_ne (pc := 738) (tgt := 753) hC dL_law_738 (by decide) ?_ ?_
              · exact hJ 753
              · refine S_aload_n (pc := 741) hC dL_law_741 rfl ?_
                refine S_iconst (pc := 742) hC dL_law_742 (by decide) ?_
                refine S_laload (pc := 743) hC dL_law_743 ?_
                refine S_iload (pc := 744) hC dL_law_744 ?_
                refine S_i2l (pc := 746) hC dL_law_746 ?_
                refine S_lcmp (pc := 747) hC dL_law_747 ?_
                refine S_if_eq (pc := 748) (tgt := 753) hC dL_law_748 (by decide) ?_ ?_
                · exact hJ 753
                · refine S_iconst (pc := 751) hC dL_law_751 (by decide) ?_
                  exact S_end (pc := 752) hC hr hG1 dL_law_752
            · refine S_iconst (pc := 734) hC dL_law_734 (by decide) ?_
              exact S_end (pc := 735) hC hr hG1 dL_law_735
          | 14, _ =>
            refine ⟨_, 756, _, rfl, by decide, rfl, ?_⟩
            unfold kL_law_756
            refine S_aload_n (pc := 756) hC dL_law_756 rfl ?_
            refine S_aload_n (pc := 757) hC dL_law_757 rfl ?_
            refine S_iload (pc := 758) hC dL_law_758 ?_
            refine S_iconst (pc := 760) hC dL_law_760 (by decide) ?_
            refine S_iadd (pc := 761) hC dL_law_761 ?_
            refine S_xs (pc := 762) hC hScr dL_law_762 ?_
            refine S_aload_n (pc := 763) hC dL_law_763 rfl ?_
            refine S_iload (pc := 764) hC dL_law_764 ?_
            refine S_iconst (pc := 766) hC dL_law_766 (by decide) ?_
            refine S_iadd (pc := 767) hC dL_law_767 ?_
            refine S_xs (pc := 768) hC hScr dL_law_768 ?_
            refine S_aload_n (pc := 769) hC dL_law_769 rfl ?_
            refine S_callSW (pc := 770) hC (sL_historyOf l G hE hTh hl) wd_1178 wd_1179 wd_0 wd_1180 (by decide +kernel) ⟨by rw [hRf]; decide, by rw [hRl]; decide⟩ dL_law_770 ?_
            unfold kL_law_773
            refine S_istore (pc := 773) hC dL_law_773 (by decide) ?_
            refine S_aload_n (pc := 775) hC dL_law_775 rfl ?_
            refine S_aload_n (pc := 776) hC dL_law_776 rfl ?_
            refine S_iload (pc := 777) hC dL_law_777 ?_
            refine S_iconst (pc := 779) hC dL_law_779 (by decide) ?_
            refine S_iadd (pc := 780) hC dL_law_780 ?_
            refine S_xs (pc := 781) hC hScr dL_law_781 ?_
            refine S_aload_n (pc := 782) hC dL_law_782 rfl ?_
            refine S_iload (pc := 783) hC dL_law_783 ?_
            refine S_iconst (pc := 785) hC dL_law_785 (by decide) ?_
            refine S_iadd (pc := 786) hC dL_law_786 ?_
            refine S_xs (pc := 787) hC hScr dL_law_787 ?_
            refine S_callV (pc := 788) hC (sX13_historyOf l G) rfl wd_1779 wd_1780 wd_1781 wd_12 wd_1782 (by decide +kernel) ⟨by rw [hRf]; decide, by rw [hRl]; decide⟩ dL_law_788 ?_
            unfold kL_law_791
            refine S_istore (pc := 791) hC dL_law_791 (by decide) ?_
            refine S_aload_n (pc := 793) hC dL_law_793 rfl ?_
            refine S_callV (pc := 794) hC (sX13_thrown l G) rfl wd_1334 wd_1335 wd_1336 wd_12 wd_1337 (by decide +kernel) ⟨by rw [hRf]; decide, by rw [hRl]; decide⟩ dL_law_794 ?_
            unfold kL_law_797
            refine S_iload (pc := 797) hC dL_law_797 ?_
            refine S_icmp_eq (pc := 799) (tgt := 804) hC dL_law_799 (by decide) ?_ ?_
            · refine S_iload (pc := 804) hC dL_law_804 ?_
              refine S_if_ne (pc := 806) (tgt := 821) hC dL_law_806 (by decide) ?_ ?_
              · exact hJ 821
              · refine S_aload_n (pc := 809) hC dL_law_809 rfl ?_
                refine S_iconst (pc := 810) hC dL_law_810 (by decide) ?_
                refine S_laload (pc := 811) hC dL_law_811 ?_
                refine S_iload (pc := 812) hC dL_law_812 ?_
                refine S_i2l (pc := 814) hC dL_law_814 ?_
                refine S_lcmp (pc := 815) hC dL_law_815 ?_
                refine S_if_eq (pc := 816) (tgt := 821) hC dL_law_816 (by decide) ?_ ?_
                · exact hJ 821
                · refine S_iconst (pc := 819) hC dL_law_819 (by decide) ?_
                  exact S_end (pc := 820) hC hr hG1 dL_law_820
            · refine S_iconst (pc := 802) hC dL_law_802 (by decide) ?_
              exact S_end (pc := 803) hC hr hG1 dL_law_803
          | 15, _ =>
            refine ⟨_, 824, _, rfl, by decide, rfl, ?_⟩
            unfold kL_law_824
            refine S_aload_n (pc := 824) hC dL_law_824 rfl ?_
            refine S_aload_n (pc := 825) hC dL_law_825 rfl ?_
            refine S_iload (pc := 826) hC dL_law_826 ?_
            refine S_iconst (pc := 828) hC dL_law_828 (by decide) ?_
            refine S_iadd (pc := 829) hC dL_law_829 ?_
            refine S_xs (pc := 830) hC hScr dL_law_830 ?_
            refine S_callV (pc := 831) hC (sX11_status l G) rfl wd_566 wd_567 wd_568 wd_1 wd_569 (by decide +kernel) ⟨by rw [hRf]; decide, by rw [hRl]; decide⟩ dL_law_831 ?_
            unfold kL_law_834
            refine S_aload_n (pc := 834) hC dL_law_834 rfl ?_
            refine S_aload_n (pc := 835) hC dL_law_835 rfl ?_
            refine S_iload (pc := 836) hC dL_law_836 ?_
            refine S_iconst (pc := 838) hC dL_law_838 (by decide) ?_
            refine S_iadd (pc := 839) hC dL_law_839 ?_
            refine S_xs (pc := 840) hC hScr dL_law_840 ?_
            refine S_callV (pc := 841) hC (sX13_status l G) rfl wd_1783 wd_1784 wd_1785 wd_12 wd_1786 (by decide +kernel) ⟨by rw [hRf]; decide, by rw [hRl]; decide⟩ dL_law_841 ?_
            unfold kL_law_844
            refine S_icmp_eq (pc := 844) (tgt := 849) hC dL_law_844 (by decide) ?_ ?_
            · exact hJ 849
            · refine S_iconst (pc := 847) hC dL_law_847 (by decide) ?_
              exact S_end (pc := 848) hC hr hG1 dL_law_848
          | n + 16, h => exact absurd h (by omega)
  have hB254 : zin 8 [0, 1, 2, 3, 4] (aL_law_254 L xs 600128 7301064 X) X 254 := by
    intro u v vs st M hb
    rw [hXe]
    refine fun lv hp => S_block (L := 254) (live := [0, 1, 2, 3, 4]) ?_ u v lv vs st M hp hb
    unfold aL_law_254
    refine S_goto (pc := 254) (tgt := 849) hC dL_law_254 (by decide) ?_
    exact hJ 849
  have hB310 : zin 8 [0, 1, 2, 3, 4] (aL_law_310 L xs 600128 7301064 X) X 310 := by
    intro u v vs st M hb
    rw [hXe]
    refine fun lv hp => S_block (L := 310) (live := [0, 1, 2, 3, 4]) ?_ u v lv vs st M hp hb
    unfold aL_law_310
    refine S_goto (pc := 310) (tgt := 849) hC dL_law_310 (by decide) ?_
    exact hJ 849
  have hB392 : zin 8 [0, 1, 2, 3, 4] (aL_law_392 L xs 600128 7301064 X) X 392 := by
    intro u v vs st M hb
    rw [hXe]
    refine fun lv hp => S_block (L := 392) (live := [0, 1, 2, 3, 4]) ?_ u v lv vs st M hp hb
    unfold aL_law_392
    refine S_goto (pc := 392) (tgt := 849) hC dL_law_392 (by decide) ?_
    exact hJ 849
  have hB447 : zin 8 [0, 1, 2, 3, 4] (aL_law_447 L xs 600128 7301064 X) X 447 := by
    intro u v vs st M hb
    rw [hXe]
    refine fun lv hp => S_block (L := 447) (live := [0, 1, 2, 3, 4]) ?_ u v lv vs st M hp hb
    unfold aL_law_447
    refine S_goto (pc := 447) (tgt := 849) hC dL_law_447 (by decide) ?_
    exact hJ 849
  have hB553 : zin 8 [0, 1, 2, 3, 4] (aL_law_553 L xs 600128 7301064 X) X 553 := by
    intro u v vs st M hb
    rw [hXe]
    refine fun lv hp => S_block (L := 553) (live := [0, 1, 2, 3, 4]) ?_ u v lv vs st M hp hb
    unfold aL_law_553
    refine S_goto (pc := 553) (tgt := 849) hC dL_law_553 (by decide) ?_
    exact hJ 849
  have hB609 : zin 8 [0, 1, 2, 3, 4] (aL_law_609 L xs 600128 7301064 X) X 609 := by
    intro u v vs st M hb
    rw [hXe]
    refine fun lv hp => S_block (L := 609) (live := [0, 1, 2, 3, 4]) ?_ u v lv vs st M hp hb
    unfold aL_law_609
    refine S_goto (pc := 609) (tgt := 849) hC dL_law_609 (by decide) ?_
    exact hJ 849
  have hB665 : zin 8 [0, 1, 2, 3, 4] (aL_law_665 L xs 600128 7301064 X) X 665 := by
    intro u v vs st M hb
    rw [hXe]
    refine fun lv hp => S_block (L := 665) (live := [0, 1, 2, 3, 4]) ?_ u v lv vs st M hp hb
    unfold aL_law_665
    refine S_goto (pc := 665) (tgt := 849) hC dL_law_665 (by decide) ?_
    exact hJ 849
  have hB709 : zin 8 [0, 1, 2, 3, 4] (aL_law_709 L xs 600128 7301064 X) X 709 := by
    intro u v vs st M hb
    rw [hXe]
    refine fun lv hp => S_block (L := 709) (live := [0, 1, 2, 3, 4]) ?_ u v lv vs st M hp hb
    unfold aL_law_709
    refine S_goto (pc := 709) (tgt := 849) hC dL_law_709 (by decide) ?_
    exact hJ 849
  have hB753 : zin 8 [0, 1, 2, 3, 4] (aL_law_753 L xs 600128 7301064 X) X 753 := by
    intro u v vs st M hb
    rw [hXe]
    refine fun lv hp => S_block (L := 753) (live := [0, 1, 2, 3, 4]) ?_ u v lv vs st M hp hb
    unfold aL_law_753
    refine S_goto (pc := 753) (tgt := 849) hC dL_law_753 (by decide) ?_
    exact hJ 849
  have hB821 : zin 8 [0, 1, 2, 3, 4] (aL_law_821 L xs 600128 7301064 X) X 821 := by
    intro u v vs st M hb
    rw [hXe]
    refine fun lv hp => S_block (L := 821) (live := [0, 1, 2, 3, 4]) ?_ u v lv vs st M hp hb
    unfold aL_law_821
    refine S_goto (pc := 821) (tgt := 849) hC dL_law_821 (by decide) ?_
    exact hJ 849
  have hB849 : zin 8 [0, 1, 2, 3, 4] (aL_law_849 L xs 600128 7301064 X) X 849 := by
    intro u v vs st M hb
    rw [hXe]
    refine fun lv hp => S_block (L := 849) (live := [0, 1, 2, 3, 4]) ?_ u v lv vs st M hp hb
    unfold aL_law_849
    refine S_iinc (pc := 849) hC dL_law_849 (by decide) (by decide) ?_
    refine S_goto (pc := 852) (tgt := 33) hC dL_law_852 (by decide) ?_
    exact hJ 33
  have := h.2 X hB0 hB33 hB254 hB310 hB392 hB447 hB553 hB609 hB665 hB709 hB753 hB821 hB849
  rw [hXe] at this
  exact this lv hlv
