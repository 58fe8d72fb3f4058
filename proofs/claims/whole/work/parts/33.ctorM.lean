section CT4
variable {M : MX} {G : GX} {A : Nat → Prop} {own : String} {cc : ByteArray} {nL : Nat} {ret : Option FieldType} {rm : Room} {Z : State → Prop} {c s pc : Nat} {L : List (Nat × Value)} {S : List Value} {ws : va_W}
/-- a store into the last cell -/
theorem cw_iastL (C : CC M G A own cc nL ret rm) {R : va_W} {a n : Nat} {f : Nat → Int32} {i x : Int32} (hi : ib i n = true) (hdg : decode cc pc = .ok (.iastore, 1)) (kk : CW M G A nL Z c s (pc + 1) L S (R ++ [(a, .inl (G.2.1 0, n, .inl (upd f i.toNatClampNeg x)))])) : CW M G A nL Z c s pc L (.int x :: .int i :: .ref a :: S) (R ++ [(a, .inl (G.2.1 0, n, .inl f))]) :=
  cw_iast (f := f) C R.length (by simp) hi hdg (cw_ws (by simp) kk)
end CT4

def rkX8 : Room := { frames := 1, cells := 18, slots := 1038, locals := 20 }
set_option maxRecDepth 100000 in
theorem ini8_59 {M : MX} {G : GX} {A : Nat → Prop} {Z : State → Prop} {c s : Nat} {L : List (Nat × Value)} {S : List Value} {R : va_W} {q : Nat} (C : CC M G A RX8 cX8_init 1 none rkX8) (kk : CW M G A 1 Z c s 129 L (.ref q :: S) (R ++ [(q, .inl (G.2.1 0, 13, .inl (stL [(0, 0), (1, 3), (2, 6), (3, 9), (4, 13), (5, 18), (6, 22), (7, 29), (8, 34), (9, 40), (10, 44), (11, 50), (12, 56)])))])) : CW M G A 1 Z c s 59 L (.ref q :: S) (R ++ [(q, .inl (G.2.1 0, 13, .inl (fun _ => 0)))]) := by
  refine cw_dup C dX8_init_59 rfl ?_
  refine cw_iconst C (v := 0) dX8_init_60 (by decide) ?_
  refine cw_iconst C (v := 0) dX8_init_61 (by decide) ?_
  refine cw_iastL C (by decide) dX8_init_62 ?_
  refine cw_dup C dX8_init_63 rfl ?_
  refine cw_iconst C (v := 1) dX8_init_64 (by decide) ?_
  refine cw_iconst C (v := 3) dX8_init_65 (by decide) ?_
  refine cw_iastL C (by decide) dX8_init_66 ?_
  refine cw_dup C dX8_init_67 rfl ?_
  refine cw_iconst C (v := 2) dX8_init_68 (by decide) ?_
  refine cw_bipush C (v := 6) dX8_init_69 (by decide) ?_
  refine cw_iastL C (by decide) dX8_init_71 ?_
  refine cw_dup C dX8_init_72 rfl ?_
  refine cw_iconst C (v := 3) dX8_init_73 (by decide) ?_
  refine cw_bipush C (v := 9) dX8_init_74 (by decide) ?_
  refine cw_iastL C (by decide) dX8_init_76 ?_
  refine cw_dup C dX8_init_77 rfl ?_
  refine cw_iconst C (v := 4) dX8_init_78 (by decide) ?_
  refine cw_bipush C (v := 13) dX8_init_79 (by decide) ?_
  refine cw_iastL C (by decide) dX8_init_81 ?_
  refine cw_dup C dX8_init_82 rfl ?_
  refine cw_iconst C (v := 5) dX8_init_83 (by decide) ?_
  refine cw_bipush C (v := 18) dX8_init_84 (by decide) ?_
  refine cw_iastL C (by decide) dX8_init_86 ?_
  refine cw_dup C dX8_init_87 rfl ?_
  refine cw_bipush C (v := 6) dX8_init_88 (by decide) ?_
  refine cw_bipush C (v := 22) dX8_init_90 (by decide) ?_
  refine cw_iastL C (by decide) dX8_init_92 ?_
  refine cw_dup C dX8_init_93 rfl ?_
  refine cw_bipush C (v := 7) dX8_init_94 (by decide) ?_
  refine cw_bipush C (v := 29) dX8_init_96 (by decide) ?_
  refine cw_iastL C (by decide) dX8_init_98 ?_
  refine cw_dup C dX8_init_99 rfl ?_
  refine cw_bipush C (v := 8) dX8_init_100 (by decide) ?_
  refine cw_bipush C (v := 34) dX8_init_102 (by decide) ?_
  refine cw_iastL C (by decide) dX8_init_104 ?_
  refine cw_dup C dX8_init_105 rfl ?_
  refine cw_bipush C (v := 9) dX8_init_106 (by decide) ?_
  refine cw_bipush C (v := 40) dX8_init_108 (by decide) ?_
  refine cw_iastL C (by decide) dX8_init_110 ?_
  refine cw_dup C dX8_init_111 rfl ?_
  refine cw_bipush C (v := 10) dX8_init_112 (by decide) ?_
  refine cw_bipush C (v := 44) dX8_init_114 (by decide) ?_
  refine cw_iastL C (by decide) dX8_init_116 ?_
  refine cw_dup C dX8_init_117 rfl ?_
  refine cw_bipush C (v := 11) dX8_init_118 (by decide) ?_
  refine cw_bipush C (v := 50) dX8_init_120 (by decide) ?_
  refine cw_iastL C (by decide) dX8_init_122 ?_
  refine cw_dup C dX8_init_123 rfl ?_
  refine cw_bipush C (v := 12) dX8_init_124 (by decide) ?_
  refine cw_bipush C (v := 56) dX8_init_126 (by decide) ?_
  refine cw_iastL C (by decide) dX8_init_128 ?_
  exact kk
set_option maxRecDepth 100000 in
theorem ini8_137 {M : MX} {G : GX} {A : Nat → Prop} {Z : State → Prop} {c s : Nat} {L : List (Nat × Value)} {S : List Value} {R : va_W} {q : Nat} (C : CC M G A RX8 cX8_init 1 none rkX8) (kk : CW M G A 1 Z c s 467 L (.ref q :: S) (R ++ [(q, .inl (G.2.1 0, 56, .inl (stL [(0, 108), (1, 97), (2, 119), (3, 102), (4, 101), (5, 101), (6, 111), (7, 110), (8, 101), (9, 99), (10, 111), (11, 105), (12, 110), (13, 115), (14, 112), (15, 101), (16, 110), (17, 100), (18, 116), (19, 97), (20, 108), (21, 107), (22, 99), (23, 108), (24, 105), (25, 112), (26, 112), (27, 101), (28, 100), (29, 112), (30, 108), (31, 97), (32, 105), (33, 110), (34, 103), (35, 111), (36, 115), (37, 115), (38, 105), (39, 112), (40, 100), (41, 101), (42, 97), (43, 102), (44, 98), (45, 101), (46, 103), (47, 103), (48, 97), (49, 114), (50, 116), (51, 97), (52, 120), (53, 109), (54, 97), (55, 110)])))])) : CW M G A 1 Z c s 137 L (.ref q :: S) (R ++ [(q, .inl (G.2.1 0, 56, .inl (fun _ => 0)))]) := by
  refine cw_dup C dX8_init_137 rfl ?_
  refine cw_iconst C (v := 0) dX8_init_138 (by decide) ?_
  refine cw_bipush C (v := 108) dX8_init_139 (by decide) ?_
  refine cw_iastL C (by decide) dX8_init_141 ?_
  refine cw_dup C dX8_init_142 rfl ?_
  refine cw_iconst C (v := 1) dX8_init_143 (by decide) ?_
  refine cw_bipush C (v := 97) dX8_init_144 (by decide) ?_
  refine cw_iastL C (by decide) dX8_init_146 ?_
  refine cw_dup C dX8_init_147 rfl ?_
  refine cw_iconst C (v := 2) dX8_init_148 (by decide) ?_
  refine cw_bipush C (v := 119) dX8_init_149 (by decide) ?_
  refine cw_iastL C (by decide) dX8_init_151 ?_
  refine cw_dup C dX8_init_152 rfl ?_
  refine cw_iconst C (v := 3) dX8_init_153 (by decide) ?_
  refine cw_bipush C (v := 102) dX8_init_154 (by decide) ?_
  refine cw_iastL C (by decide) dX8_init_156 ?_
  refine cw_dup C dX8_init_157 rfl ?_
  refine cw_iconst C (v := 4) dX8_init_158 (by decide) ?_
  refine cw_bipush C (v := 101) dX8_init_159 (by decide) ?_
  refine cw_iastL C (by decide) dX8_init_161 ?_
  refine cw_dup C dX8_init_162 rfl ?_
  refine cw_iconst C (v := 5) dX8_init_163 (by decide) ?_
  refine cw_bipush C (v := 101) dX8_init_164 (by decide) ?_
  refine cw_iastL C (by decide) dX8_init_166 ?_
  refine cw_dup C dX8_init_167 rfl ?_
  refine cw_bipush C (v := 6) dX8_init_168 (by decide) ?_
  refine cw_bipush C (v := 111) dX8_init_170 (by decide) ?_
  refine cw_iastL C (by decide) dX8_init_172 ?_
  refine cw_dup C dX8_init_173 rfl ?_
  refine cw_bipush C (v := 7) dX8_init_174 (by decide) ?_
  refine cw_bipush C (v := 110) dX8_init_176 (by decide) ?_
  refine cw_iastL C (by decide) dX8_init_178 ?_
  refine cw_dup C dX8_init_179 rfl ?_
  refine cw_bipush C (v := 8) dX8_init_180 (by decide) ?_
  refine cw_bipush C (v := 101) dX8_init_182 (by decide) ?_
  refine cw_iastL C (by decide) dX8_init_184 ?_
  refine cw_dup C dX8_init_185 rfl ?_
  refine cw_bipush C (v := 9) dX8_init_186 (by decide) ?_
  refine cw_bipush C (v := 99) dX8_init_188 (by decide) ?_
  refine cw_iastL C (by decide) dX8_init_190 ?_
  refine cw_dup C dX8_init_191 rfl ?_
  refine cw_bipush C (v := 10) dX8_init_192 (by decide) ?_
  refine cw_bipush C (v := 111) dX8_init_194 (by decide) ?_
  refine cw_iastL C (by decide) dX8_init_196 ?_
  refine cw_dup C dX8_init_197 rfl ?_
  refine cw_bipush C (v := 11) dX8_init_198 (by decide) ?_
  refine cw_bipush C (v := 105) dX8_init_200 (by decide) ?_
  refine cw_iastL C (by decide) dX8_init_202 ?_
  refine cw_dup C dX8_init_203 rfl ?_
  refine cw_bipush C (v := 12) dX8_init_204 (by decide) ?_
  refine cw_bipush C (v := 110) dX8_init_206 (by decide) ?_
  refine cw_iastL C (by decide) dX8_init_208 ?_
  refine cw_dup C dX8_init_209 rfl ?_
  refine cw_bipush C (v := 13) dX8_init_210 (by decide) ?_
  refine cw_bipush C (v := 115) dX8_init_212 (by decide) ?_
  refine cw_iastL C (by decide) dX8_init_214 ?_
  refine cw_dup C dX8_init_215 rfl ?_
  refine cw_bipush C (v := 14) dX8_init_216 (by decide) ?_
  refine cw_bipush C (v := 112) dX8_init_218 (by decide) ?_
  refine cw_iastL C (by decide) dX8_init_220 ?_
  refine cw_dup C dX8_init_221 rfl ?_
  refine cw_bipush C (v := 15) dX8_init_222 (by decide) ?_
  refine cw_bipush C (v := 101) dX8_init_224 (by decide) ?_
  refine cw_iastL C (by decide) dX8_init_226 ?_
  refine cw_dup C dX8_init_227 rfl ?_
  refine cw_bipush C (v := 16) dX8_init_228 (by decide) ?_
  refine cw_bipush C (v := 110) dX8_init_230 (by decide) ?_
  refine cw_iastL C (by decide) dX8_init_232 ?_
  refine cw_dup C dX8_init_233 rfl ?_
  refine cw_bipush C (v := 17) dX8_init_234 (by decide) ?_
  refine cw_bipush C (v := 100) dX8_init_236 (by decide) ?_
  refine cw_iastL C (by decide) dX8_init_238 ?_
  refine cw_dup C dX8_init_239 rfl ?_
  refine cw_bipush C (v := 18) dX8_init_240 (by decide) ?_
  refine cw_bipush C (v := 116) dX8_init_242 (by decide) ?_
  refine cw_iastL C (by decide) dX8_init_244 ?_
  refine cw_dup C dX8_init_245 rfl ?_
  refine cw_bipush C (v := 19) dX8_init_246 (by decide) ?_
  refine cw_bipush C (v := 97) dX8_init_248 (by decide) ?_
  refine cw_iastL C (by decide) dX8_init_250 ?_
  refine cw_dup C dX8_init_251 rfl ?_
  refine cw_bipush C (v := 20) dX8_init_252 (by decide) ?_
  refine cw_bipush C (v := 108) dX8_init_254 (by decide) ?_
  refine cw_iastL C (by decide) dX8_init_256 ?_
  refine cw_dup C dX8_init_257 rfl ?_
  refine cw_bipush C (v := 21) dX8_init_258 (by decide) ?_
  refine cw_bipush C (v := 107) dX8_init_260 (by decide) ?_
  refine cw_iastL C (by decide) dX8_init_262 ?_
  refine cw_dup C dX8_init_263 rfl ?_
  refine cw_bipush C (v := 22) dX8_init_264 (by decide) ?_
  refine cw_bipush C (v := 99) dX8_init_266 (by decide) ?_
  refine cw_iastL C (by decide) dX8_init_268 ?_
  refine cw_dup C dX8_init_269 rfl ?_
  refine cw_bipush C (v := 23) dX8_init_270 (by decide) ?_
  refine cw_bipush C (v := 108) dX8_init_272 (by decide) ?_
  refine cw_iastL C (by decide) dX8_init_274 ?_
  refine cw_dup C dX8_init_275 rfl ?_
  refine cw_bipush C (v := 24) dX8_init_276 (by decide) ?_
  refine cw_bipush C (v := 105) dX8_init_278 (by decide) ?_
  refine cw_iastL C (by decide) dX8_init_280 ?_
  refine cw_dup C dX8_init_281 rfl ?_
  refine cw_bipush C (v := 25) dX8_init_282 (by decide) ?_
  refine cw_bipush C (v := 112) dX8_init_284 (by decide) ?_
  refine cw_iastL C (by decide) dX8_init_286 ?_
  refine cw_dup C dX8_init_287 rfl ?_
  refine cw_bipush C (v := 26) dX8_init_288 (by decide) ?_
  refine cw_bipush C (v := 112) dX8_init_290 (by decide) ?_
  refine cw_iastL C (by decide) dX8_init_292 ?_
  refine cw_dup C dX8_init_293 rfl ?_
  refine cw_bipush C (v := 27) dX8_init_294 (by decide) ?_
  refine cw_bipush C (v := 101) dX8_init_296 (by decide) ?_
  refine cw_iastL C (by decide) dX8_init_298 ?_
  refine cw_dup C dX8_init_299 rfl ?_
  refine cw_bipush C (v := 28) dX8_init_300 (by decide) ?_
  refine cw_bipush C (v := 100) dX8_init_302 (by decide) ?_
  refine cw_iastL C (by decide) dX8_init_304 ?_
  refine cw_dup C dX8_init_305 rfl ?_
  refine cw_bipush C (v := 29) dX8_init_306 (by decide) ?_
  refine cw_bipush C (v := 112) dX8_init_308 (by decide) ?_
  refine cw_iastL C (by decide) dX8_init_310 ?_
  refine cw_dup C dX8_init_311 rfl ?_
  refine cw_bipush C (v := 30) dX8_init_312 (by decide) ?_
  refine cw_bipush C (v := 108) dX8_init_314 (by decide) ?_
  refine cw_iastL C (by decide) dX8_init_316 ?_
  refine cw_dup C dX8_init_317 rfl ?_
  refine cw_bipush C (v := 31) dX8_init_318 (by decide) ?_
  refine cw_bipush C (v := 97) dX8_init_320 (by decide) ?_
  refine cw_iastL C (by decide) dX8_init_322 ?_
  refine cw_dup C dX8_init_323 rfl ?_
  refine cw_bipush C (v := 32) dX8_init_324 (by decide) ?_
  refine cw_bipush C (v := 105) dX8_init_326 (by decide) ?_
  refine cw_iastL C (by decide) dX8_init_328 ?_
  refine cw_dup C dX8_init_329 rfl ?_
  refine cw_bipush C (v := 33) dX8_init_330 (by decide) ?_
  refine cw_bipush C (v := 110) dX8_init_332 (by decide) ?_
  refine cw_iastL C (by decide) dX8_init_334 ?_
  refine cw_dup C dX8_init_335 rfl ?_
  refine cw_bipush C (v := 34) dX8_init_336 (by decide) ?_
  refine cw_bipush C (v := 103) dX8_init_338 (by decide) ?_
  refine cw_iastL C (by decide) dX8_init_340 ?_
  refine cw_dup C dX8_init_341 rfl ?_
  refine cw_bipush C (v := 35) dX8_init_342 (by decide) ?_
  refine cw_bipush C (v := 111) dX8_init_344 (by decide) ?_
  refine cw_iastL C (by decide) dX8_init_346 ?_
  refine cw_dup C dX8_init_347 rfl ?_
  refine cw_bipush C (v := 36) dX8_init_348 (by decide) ?_
  refine cw_bipush C (v := 115) dX8_init_350 (by decide) ?_
  refine cw_iastL C (by decide) dX8_init_352 ?_
  refine cw_dup C dX8_init_353 rfl ?_
  refine cw_bipush C (v := 37) dX8_init_354 (by decide) ?_
  refine cw_bipush C (v := 115) dX8_init_356 (by decide) ?_
  refine cw_iastL C (by decide) dX8_init_358 ?_
  refine cw_dup C dX8_init_359 rfl ?_
  refine cw_bipush C (v := 38) dX8_init_360 (by decide) ?_
  refine cw_bipush C (v := 105) dX8_init_362 (by decide) ?_
  refine cw_iastL C (by decide) dX8_init_364 ?_
  refine cw_dup C dX8_init_365 rfl ?_
  refine cw_bipush C (v := 39) dX8_init_366 (by decide) ?_
  refine cw_bipush C (v := 112) dX8_init_368 (by decide) ?_
  refine cw_iastL C (by decide) dX8_init_370 ?_
  refine cw_dup C dX8_init_371 rfl ?_
  refine cw_bipush C (v := 40) dX8_init_372 (by decide) ?_
  refine cw_bipush C (v := 100) dX8_init_374 (by decide) ?_
  refine cw_iastL C (by decide) dX8_init_376 ?_
  refine cw_dup C dX8_init_377 rfl ?_
  refine cw_bipush C (v := 41) dX8_init_378 (by decide) ?_
  refine cw_bipush C (v := 101) dX8_init_380 (by decide) ?_
  refine cw_iastL C (by decide) dX8_init_382 ?_
  refine cw_dup C dX8_init_383 rfl ?_
  refine cw_bipush C (v := 42) dX8_init_384 (by decide) ?_
  refine cw_bipush C (v := 97) dX8_init_386 (by decide) ?_
  refine cw_iastL C (by decide) dX8_init_388 ?_
  refine cw_dup C dX8_init_389 rfl ?_
  refine cw_bipush C (v := 43) dX8_init_390 (by decide) ?_
  refine cw_bipush C (v := 102) dX8_init_392 (by decide) ?_
  refine cw_iastL C (by decide) dX8_init_394 ?_
  refine cw_dup C dX8_init_395 rfl ?_
  refine cw_bipush C (v := 44) dX8_init_396 (by decide) ?_
  refine cw_bipush C (v := 98) dX8_init_398 (by decide) ?_
  refine cw_iastL C (by decide) dX8_init_400 ?_
  refine cw_dup C dX8_init_401 rfl ?_
  refine cw_bipush C (v := 45) dX8_init_402 (by decide) ?_
  refine cw_bipush C (v := 101) dX8_init_404 (by decide) ?_
  refine cw_iastL C (by decide) dX8_init_406 ?_
  refine cw_dup C dX8_init_407 rfl ?_
  refine cw_bipush C (v := 46) dX8_init_408 (by decide) ?_
  refine cw_bipush C (v := 103) dX8_init_410 (by decide) ?_
  refine cw_iastL C (by decide) dX8_init_412 ?_
  refine cw_dup C dX8_init_413 rfl ?_
  refine cw_bipush C (v := 47) dX8_init_414 (by decide) ?_
  refine cw_bipush C (v := 103) dX8_init_416 (by decide) ?_
  refine cw_iastL C (by decide) dX8_init_418 ?_
  refine cw_dup C dX8_init_419 rfl ?_
  refine cw_bipush C (v := 48) dX8_init_420 (by decide) ?_
  refine cw_bipush C (v := 97) dX8_init_422 (by decide) ?_
  refine cw_iastL C (by decide) dX8_init_424 ?_
  refine cw_dup C dX8_init_425 rfl ?_
  refine cw_bipush C (v := 49) dX8_init_426 (by decide) ?_
  refine cw_bipush C (v := 114) dX8_init_428 (by decide) ?_
  refine cw_iastL C (by decide) dX8_init_430 ?_
  refine cw_dup C dX8_init_431 rfl ?_
  refine cw_bipush C (v := 50) dX8_init_432 (by decide) ?_
  refine cw_bipush C (v := 116) dX8_init_434 (by decide) ?_
  refine cw_iastL C (by decide) dX8_init_436 ?_
  refine cw_dup C dX8_init_437 rfl ?_
  refine cw_bipush C (v := 51) dX8_init_438 (by decide) ?_
  refine cw_bipush C (v := 97) dX8_init_440 (by decide) ?_
  refine cw_iastL C (by decide) dX8_init_442 ?_
  refine cw_dup C dX8_init_443 rfl ?_
  refine cw_bipush C (v := 52) dX8_init_444 (by decide) ?_
  refine cw_bipush C (v := 120) dX8_init_446 (by decide) ?_
  refine cw_iastL C (by decide) dX8_init_448 ?_
  refine cw_dup C dX8_init_449 rfl ?_
  refine cw_bipush C (v := 53) dX8_init_450 (by decide) ?_
  refine cw_bipush C (v := 109) dX8_init_452 (by decide) ?_
  refine cw_iastL C (by decide) dX8_init_454 ?_
  refine cw_dup C dX8_init_455 rfl ?_
  refine cw_bipush C (v := 54) dX8_init_456 (by decide) ?_
  refine cw_bipush C (v := 97) dX8_init_458 (by decide) ?_
  refine cw_iastL C (by decide) dX8_init_460 ?_
  refine cw_dup C dX8_init_461 rfl ?_
  refine cw_bipush C (v := 55) dX8_init_462 (by decide) ?_
  refine cw_bipush C (v := 110) dX8_init_464 (by decide) ?_
  refine cw_iastL C (by decide) dX8_init_466 ?_
  exact kk
set_option maxRecDepth 100000 in
theorem ini8_529 {M : MX} {G : GX} {A : Nat → Prop} {Z : State → Prop} {c s : Nat} {L : List (Nat × Value)} {S : List Value} {R : va_W} {q : Nat} (C : CC M G A RX8 cX8_init 1 none rkX8) (kk : CW M G A 1 Z c s 549 L (.ref q :: S) (R ++ [(q, .inl (G.2.1 0, 4, .inl (stL [(0, (-4)), (1, (-4)), (2, (-4)), (3, (-4))])))])) : CW M G A 1 Z c s 529 L (.ref q :: S) (R ++ [(q, .inl (G.2.1 0, 4, .inl (fun _ => 0)))]) := by
  refine cw_dup C dX8_init_529 rfl ?_
  refine cw_iconst C (v := 0) dX8_init_530 (by decide) ?_
  refine cw_bipush C (v := (-4)) dX8_init_531 (by decide) ?_
  refine cw_iastL C (by decide) dX8_init_533 ?_
  refine cw_dup C dX8_init_534 rfl ?_
  refine cw_iconst C (v := 1) dX8_init_535 (by decide) ?_
  refine cw_bipush C (v := (-4)) dX8_init_536 (by decide) ?_
  refine cw_iastL C (by decide) dX8_init_538 ?_
  refine cw_dup C dX8_init_539 rfl ?_
  refine cw_iconst C (v := 2) dX8_init_540 (by decide) ?_
  refine cw_bipush C (v := (-4)) dX8_init_541 (by decide) ?_
  refine cw_iastL C (by decide) dX8_init_543 ?_
  refine cw_dup C dX8_init_544 rfl ?_
  refine cw_iconst C (v := 3) dX8_init_545 (by decide) ?_
  refine cw_bipush C (v := (-4)) dX8_init_546 (by decide) ?_
  refine cw_iastL C (by decide) dX8_init_548 ?_
  exact kk
def cutsL : List Int32 := [0, 3, 6, 9, 13, 18, 22, 29, 34, 40, 44, 50, 56]
def letL : List Int32 := [108, 97, 119, 102, 101, 101, 111, 110, 101, 99, 111, 105, 110, 115, 112, 101, 110, 100, 116, 97, 108, 107, 99, 108, 105, 112, 112, 101, 100, 112, 108, 97, 105, 110, 103, 111, 115, 115, 105, 112, 100, 101, 97, 102, 98, 101, 103, 103, 97, 114, 116, 97, 120, 109, 97, 110]
def m0ok (w : Mem) : Prop := (∀ j, w 0 j = 0) ∧ (∀ k, k ∈ [1, 2, 3, 4, 5, 6, 9, 10, 11, 12, 13, 14, 15, 17, 18] → ∀ j, w k j = 0) ∧ (∀ i, i < 13 → w 7 i = cutsL.getD i 0) ∧ (∀ i, i < 56 → w 8 i = letL.getD i 0) ∧ ∀ i, i < 4 → w 16 i = -4
def poX8 (G : GX) (h : Nat) (ws : va_W) : Prop := ∃ (ad : Nat → Nat) (w : Mem), ad 0 = h ∧ m0ok w ∧ ws = wl (gd G ad) shM 19 w
def m0 : Mem := (fun k => [(fun _ => 0), (fun _ => 0), (fun _ => 0), (fun _ => 0), (fun _ => 0), (fun _ => 0), (fun _ => 0), (stL [(0, 0), (1, 3), (2, 6), (3, 9), (4, 13), (5, 18), (6, 22), (7, 29), (8, 34), (9, 40), (10, 44), (11, 50), (12, 56)]), (stL [(0, 108), (1, 97), (2, 119), (3, 102), (4, 101), (5, 101), (6, 111), (7, 110), (8, 101), (9, 99), (10, 111), (11, 105), (12, 110), (13, 115), (14, 112), (15, 101), (16, 110), (17, 100), (18, 116), (19, 97), (20, 108), (21, 107), (22, 99), (23, 108), (24, 105), (25, 112), (26, 112), (27, 101), (28, 100), (29, 112), (30, 108), (31, 97), (32, 105), (33, 110), (34, 103), (35, 111), (36, 115), (37, 115), (38, 105), (39, 112), (40, 100), (41, 101), (42, 97), (43, 102), (44, 98), (45, 101), (46, 103), (47, 103), (48, 97), (49, 114), (50, 116), (51, 97), (52, 120), (53, 109), (54, 97), (55, 110)]), (fun _ => 0), (fun _ => 0), (fun _ => 0), (fun _ => 0), (fun _ => 0), (fun _ => 0), (fun _ => 0), (stL [(0, (-4)), (1, (-4)), (2, (-4)), (3, (-4))]), (fun _ => 0), (fun _ => 0)].getD k (fun _ => 0))
theorem m0_ok : m0ok m0 := by
  refine ⟨fun j => rfl, fun k hk j => ?_, by decide +kernel, by decide +kernel, by decide +kernel⟩
  simp only [List.mem_cons, List.not_mem_nil, or_false] at hk
  rcases hk with rfl | rfl | rfl | rfl | rfl | rfl | rfl | rfl | rfl | rfl | rfl | rfl | rfl | rfl | rfl <;> rfl
theorem w8_obj {G : GX} {h q1 q2 q3 q4 q5 q6 q7 q8 q9 q10 q11 q12 q13 q14 q15 q16 q17 q18 : Nat} : ((h, .inr (8, [.ref q1, .ref q2, .int 0, .int 0, .ref q3, .ref q4, .int 0, .int 0, .int 0, .int 0, .int 0, .int 0, .ref q5, .ref q6, .int 0, .int 0, .int 0, .int 0, .int 0, .int 0, .int 0, .int 0, .ref q7, .ref q8, .ref q9, .ref q10, .int 0, .ref q11, .ref q12, .ref q13, .ref q14, .int 0, .int 0, .ref q15, .ref q16, .ref q17, .ref q18, .int 0])) : Nat × va_E) = (gad (gd G (fun k => [h, q1, q2, q3, q4, q5, q6, q7, q8, q9, q10, q11, q12, q13, q14, q15, q16, q17, q18].getD k 0)) 0, ce (gd G (fun k => [h, q1, q2, q3, q4, q5, q6, q7, q8, q9, q10, q11, q12, q13, q14, q15, q16, q17, q18].getD k 0)) (shM 0) (m0 0)) := by
  rw [sM0]
  show ((h, _) : Nat × va_E) = (h, .inr (8, fvs _ _ _))
  simp only [fvs, List.mapIdx_cons, List.mapIdx_nil, fv1]
  rfl
theorem w8_1 {G : GX} {h q1 q2 q3 q4 q5 q6 q7 q8 q9 q10 q11 q12 q13 q14 q15 q16 q17 q18 : Nat} : ((q1, .inl (G.2.1 0, 228, .inl (fun _ => 0))) : Nat × va_E) = (gad (gd G (fun k => [h, q1, q2, q3, q4, q5, q6, q7, q8, q9, q10, q11, q12, q13, q14, q15, q16, q17, q18].getD k 0)) 1, ce (gd G (fun k => [h, q1, q2, q3, q4, q5, q6, q7, q8, q9, q10, q11, q12, q13, q14, q15, q16, q17, q18].getD k 0)) (shM 1) (m0 1)) := rfl
theorem w8_2 {G : GX} {h q1 q2 q3 q4 q5 q6 q7 q8 q9 q10 q11 q12 q13 q14 q15 q16 q17 q18 : Nat} : ((q2, .inl (G.2.1 0, 18, .inl (fun _ => 0))) : Nat × va_E) = (gad (gd G (fun k => [h, q1, q2, q3, q4, q5, q6, q7, q8, q9, q10, q11, q12, q13, q14, q15, q16, q17, q18].getD k 0)) 2, ce (gd G (fun k => [h, q1, q2, q3, q4, q5, q6, q7, q8, q9, q10, q11, q12, q13, q14, q15, q16, q17, q18].getD k 0)) (shM 2) (m0 2)) := rfl
theorem w8_3 {G : GX} {h q1 q2 q3 q4 q5 q6 q7 q8 q9 q10 q11 q12 q13 q14 q15 q16 q17 q18 : Nat} : ((q3, .inl (G.2.1 0, 57, .inl (fun _ => 0))) : Nat × va_E) = (gad (gd G (fun k => [h, q1, q2, q3, q4, q5, q6, q7, q8, q9, q10, q11, q12, q13, q14, q15, q16, q17, q18].getD k 0)) 3, ce (gd G (fun k => [h, q1, q2, q3, q4, q5, q6, q7, q8, q9, q10, q11, q12, q13, q14, q15, q16, q17, q18].getD k 0)) (shM 3) (m0 3)) := rfl
theorem w8_4 {G : GX} {h q1 q2 q3 q4 q5 q6 q7 q8 q9 q10 q11 q12 q13 q14 q15 q16 q17 q18 : Nat} : ((q4, .inl (G.2.1 0, 18, .inl (fun _ => 0))) : Nat × va_E) = (gad (gd G (fun k => [h, q1, q2, q3, q4, q5, q6, q7, q8, q9, q10, q11, q12, q13, q14, q15, q16, q17, q18].getD k 0)) 4, ce (gd G (fun k => [h, q1, q2, q3, q4, q5, q6, q7, q8, q9, q10, q11, q12, q13, q14, q15, q16, q17, q18].getD k 0)) (shM 4) (m0 4)) := rfl
theorem w8_5 {G : GX} {h q1 q2 q3 q4 q5 q6 q7 q8 q9 q10 q11 q12 q13 q14 q15 q16 q17 q18 : Nat} : ((q5, .inl (G.2.1 0, 6, .inl (fun _ => 0))) : Nat × va_E) = (gad (gd G (fun k => [h, q1, q2, q3, q4, q5, q6, q7, q8, q9, q10, q11, q12, q13, q14, q15, q16, q17, q18].getD k 0)) 5, ce (gd G (fun k => [h, q1, q2, q3, q4, q5, q6, q7, q8, q9, q10, q11, q12, q13, q14, q15, q16, q17, q18].getD k 0)) (shM 5) (m0 5)) := rfl
theorem w8_6 {G : GX} {h q1 q2 q3 q4 q5 q6 q7 q8 q9 q10 q11 q12 q13 q14 q15 q16 q17 q18 : Nat} : ((q6, .inl (G.2.1 0, 320, .inl (fun _ => 0))) : Nat × va_E) = (gad (gd G (fun k => [h, q1, q2, q3, q4, q5, q6, q7, q8, q9, q10, q11, q12, q13, q14, q15, q16, q17, q18].getD k 0)) 6, ce (gd G (fun k => [h, q1, q2, q3, q4, q5, q6, q7, q8, q9, q10, q11, q12, q13, q14, q15, q16, q17, q18].getD k 0)) (shM 6) (m0 6)) := rfl
theorem w8_7 {G : GX} {h q1 q2 q3 q4 q5 q6 q7 q8 q9 q10 q11 q12 q13 q14 q15 q16 q17 q18 : Nat} : ((q7, .inl (G.2.1 0, 13, .inl (stL [(0, 0), (1, 3), (2, 6), (3, 9), (4, 13), (5, 18), (6, 22), (7, 29), (8, 34), (9, 40), (10, 44), (11, 50), (12, 56)]))) : Nat × va_E) = (gad (gd G (fun k => [h, q1, q2, q3, q4, q5, q6, q7, q8, q9, q10, q11, q12, q13, q14, q15, q16, q17, q18].getD k 0)) 7, ce (gd G (fun k => [h, q1, q2, q3, q4, q5, q6, q7, q8, q9, q10, q11, q12, q13, q14, q15, q16, q17, q18].getD k 0)) (shM 7) (m0 7)) := rfl
theorem w8_8 {G : GX} {h q1 q2 q3 q4 q5 q6 q7 q8 q9 q10 q11 q12 q13 q14 q15 q16 q17 q18 : Nat} : ((q8, .inl (G.2.1 0, 56, .inl (stL [(0, 108), (1, 97), (2, 119), (3, 102), (4, 101), (5, 101), (6, 111), (7, 110), (8, 101), (9, 99), (10, 111), (11, 105), (12, 110), (13, 115), (14, 112), (15, 101), (16, 110), (17, 100), (18, 116), (19, 97), (20, 108), (21, 107), (22, 99), (23, 108), (24, 105), (25, 112), (26, 112), (27, 101), (28, 100), (29, 112), (30, 108), (31, 97), (32, 105), (33, 110), (34, 103), (35, 111), (36, 115), (37, 115), (38, 105), (39, 112), (40, 100), (41, 101), (42, 97), (43, 102), (44, 98), (45, 101), (46, 103), (47, 103), (48, 97), (49, 114), (50, 116), (51, 97), (52, 120), (53, 109), (54, 97), (55, 110)]))) : Nat × va_E) = (gad (gd G (fun k => [h, q1, q2, q3, q4, q5, q6, q7, q8, q9, q10, q11, q12, q13, q14, q15, q16, q17, q18].getD k 0)) 8, ce (gd G (fun k => [h, q1, q2, q3, q4, q5, q6, q7, q8, q9, q10, q11, q12, q13, q14, q15, q16, q17, q18].getD k 0)) (shM 8) (m0 8)) := rfl
theorem w8_9 {G : GX} {h q1 q2 q3 q4 q5 q6 q7 q8 q9 q10 q11 q12 q13 q14 q15 q16 q17 q18 : Nat} : ((q9, .inl (G.2.1 0, 12, .inl (fun _ => 0))) : Nat × va_E) = (gad (gd G (fun k => [h, q1, q2, q3, q4, q5, q6, q7, q8, q9, q10, q11, q12, q13, q14, q15, q16, q17, q18].getD k 0)) 9, ce (gd G (fun k => [h, q1, q2, q3, q4, q5, q6, q7, q8, q9, q10, q11, q12, q13, q14, q15, q16, q17, q18].getD k 0)) (shM 9) (m0 9)) := rfl
theorem w8_10 {G : GX} {h q1 q2 q3 q4 q5 q6 q7 q8 q9 q10 q11 q12 q13 q14 q15 q16 q17 q18 : Nat} : ((q10, .inl (G.2.1 0, 12, .inl (fun _ => 0))) : Nat × va_E) = (gad (gd G (fun k => [h, q1, q2, q3, q4, q5, q6, q7, q8, q9, q10, q11, q12, q13, q14, q15, q16, q17, q18].getD k 0)) 10, ce (gd G (fun k => [h, q1, q2, q3, q4, q5, q6, q7, q8, q9, q10, q11, q12, q13, q14, q15, q16, q17, q18].getD k 0)) (shM 10) (m0 10)) := rfl
theorem w8_11 {G : GX} {h q1 q2 q3 q4 q5 q6 q7 q8 q9 q10 q11 q12 q13 q14 q15 q16 q17 q18 : Nat} : ((q11, .inl (G.2.1 0, 6, .inl (fun _ => 0))) : Nat × va_E) = (gad (gd G (fun k => [h, q1, q2, q3, q4, q5, q6, q7, q8, q9, q10, q11, q12, q13, q14, q15, q16, q17, q18].getD k 0)) 11, ce (gd G (fun k => [h, q1, q2, q3, q4, q5, q6, q7, q8, q9, q10, q11, q12, q13, q14, q15, q16, q17, q18].getD k 0)) (shM 11) (m0 11)) := rfl
theorem w8_12 {G : GX} {h q1 q2 q3 q4 q5 q6 q7 q8 q9 q10 q11 q12 q13 q14 q15 q16 q17 q18 : Nat} : ((q12, .inl (G.2.1 0, 6, .inl (fun _ => 0))) : Nat × va_E) = (gad (gd G (fun k => [h, q1, q2, q3, q4, q5, q6, q7, q8, q9, q10, q11, q12, q13, q14, q15, q16, q17, q18].getD k 0)) 12, ce (gd G (fun k => [h, q1, q2, q3, q4, q5, q6, q7, q8, q9, q10, q11, q12, q13, q14, q15, q16, q17, q18].getD k 0)) (shM 12) (m0 12)) := rfl
theorem w8_13 {G : GX} {h q1 q2 q3 q4 q5 q6 q7 q8 q9 q10 q11 q12 q13 q14 q15 q16 q17 q18 : Nat} : ((q13, .inl (G.2.1 0, 100, .inl (fun _ => 0))) : Nat × va_E) = (gad (gd G (fun k => [h, q1, q2, q3, q4, q5, q6, q7, q8, q9, q10, q11, q12, q13, q14, q15, q16, q17, q18].getD k 0)) 13, ce (gd G (fun k => [h, q1, q2, q3, q4, q5, q6, q7, q8, q9, q10, q11, q12, q13, q14, q15, q16, q17, q18].getD k 0)) (shM 13) (m0 13)) := rfl
theorem w8_14 {G : GX} {h q1 q2 q3 q4 q5 q6 q7 q8 q9 q10 q11 q12 q13 q14 q15 q16 q17 q18 : Nat} : ((q14, .inl (G.2.1 0, 16, .inl (fun _ => 0))) : Nat × va_E) = (gad (gd G (fun k => [h, q1, q2, q3, q4, q5, q6, q7, q8, q9, q10, q11, q12, q13, q14, q15, q16, q17, q18].getD k 0)) 14, ce (gd G (fun k => [h, q1, q2, q3, q4, q5, q6, q7, q8, q9, q10, q11, q12, q13, q14, q15, q16, q17, q18].getD k 0)) (shM 14) (m0 14)) := rfl
theorem w8_15 {G : GX} {h q1 q2 q3 q4 q5 q6 q7 q8 q9 q10 q11 q12 q13 q14 q15 q16 q17 q18 : Nat} : ((q15, .inl (G.2.1 2, 2, .inl (fun _ => 0))) : Nat × va_E) = (gad (gd G (fun k => [h, q1, q2, q3, q4, q5, q6, q7, q8, q9, q10, q11, q12, q13, q14, q15, q16, q17, q18].getD k 0)) 15, ce (gd G (fun k => [h, q1, q2, q3, q4, q5, q6, q7, q8, q9, q10, q11, q12, q13, q14, q15, q16, q17, q18].getD k 0)) (shM 15) (m0 15)) := rfl
theorem w8_16 {G : GX} {h q1 q2 q3 q4 q5 q6 q7 q8 q9 q10 q11 q12 q13 q14 q15 q16 q17 q18 : Nat} : ((q16, .inl (G.2.1 0, 4, .inl (stL [(0, (-4)), (1, (-4)), (2, (-4)), (3, (-4))]))) : Nat × va_E) = (gad (gd G (fun k => [h, q1, q2, q3, q4, q5, q6, q7, q8, q9, q10, q11, q12, q13, q14, q15, q16, q17, q18].getD k 0)) 16, ce (gd G (fun k => [h, q1, q2, q3, q4, q5, q6, q7, q8, q9, q10, q11, q12, q13, q14, q15, q16, q17, q18].getD k 0)) (shM 16) (m0 16)) := rfl
theorem w8_17 {G : GX} {h q1 q2 q3 q4 q5 q6 q7 q8 q9 q10 q11 q12 q13 q14 q15 q16 q17 q18 : Nat} : ((q17, .inl (G.2.1 0, 4, .inl (fun _ => 0))) : Nat × va_E) = (gad (gd G (fun k => [h, q1, q2, q3, q4, q5, q6, q7, q8, q9, q10, q11, q12, q13, q14, q15, q16, q17, q18].getD k 0)) 17, ce (gd G (fun k => [h, q1, q2, q3, q4, q5, q6, q7, q8, q9, q10, q11, q12, q13, q14, q15, q16, q17, q18].getD k 0)) (shM 17) (m0 17)) := rfl
theorem w8_18 {G : GX} {h q1 q2 q3 q4 q5 q6 q7 q8 q9 q10 q11 q12 q13 q14 q15 q16 q17 q18 : Nat} : ((q18, .inl (G.2.1 0, 160, .inl (fun _ => 0))) : Nat × va_E) = (gad (gd G (fun k => [h, q1, q2, q3, q4, q5, q6, q7, q8, q9, q10, q11, q12, q13, q14, q15, q16, q17, q18].getD k 0)) 18, ce (gd G (fun k => [h, q1, q2, q3, q4, q5, q6, q7, q8, q9, q10, q11, q12, q13, q14, q15, q16, q17, q18].getD k 0)) (shM 18) (m0 18)) := rfl
theorem w8_eq {G : GX} {h q1 q2 q3 q4 q5 q6 q7 q8 q9 q10 q11 q12 q13 q14 q15 q16 q17 q18 : Nat} : ([(h, .inr (8, [.ref q1, .ref q2, .int 0, .int 0, .ref q3, .ref q4, .int 0, .int 0, .int 0, .int 0, .int 0, .int 0, .ref q5, .ref q6, .int 0, .int 0, .int 0, .int 0, .int 0, .int 0, .int 0, .int 0, .ref q7, .ref q8, .ref q9, .ref q10, .int 0, .ref q11, .ref q12, .ref q13, .ref q14, .int 0, .int 0, .ref q15, .ref q16, .ref q17, .ref q18, .int 0])), (q1, .inl (G.2.1 0, 228, .inl (fun _ => 0))), (q2, .inl (G.2.1 0, 18, .inl (fun _ => 0))), (q3, .inl (G.2.1 0, 57, .inl (fun _ => 0))), (q4, .inl (G.2.1 0, 18, .inl (fun _ => 0))), (q5, .inl (G.2.1 0, 6, .inl (fun _ => 0))), (q6, .inl (G.2.1 0, 320, .inl (fun _ => 0))), (q7, .inl (G.2.1 0, 13, .inl (stL [(0, 0), (1, 3), (2, 6), (3, 9), (4, 13), (5, 18), (6, 22), (7, 29), (8, 34), (9, 40), (10, 44), (11, 50), (12, 56)]))), (q8, .inl (G.2.1 0, 56, .inl (stL [(0, 108), (1, 97), (2, 119), (3, 102), (4, 101), (5, 101), (6, 111), (7, 110), (8, 101), (9, 99), (10, 111), (11, 105), (12, 110), (13, 115), (14, 112), (15, 101), (16, 110), (17, 100), (18, 116), (19, 97), (20, 108), (21, 107), (22, 99), (23, 108), (24, 105), (25, 112), (26, 112), (27, 101), (28, 100), (29, 112), (30, 108), (31, 97), (32, 105), (33, 110), (34, 103), (35, 111), (36, 115), (37, 115), (38, 105), (39, 112), (40, 100), (41, 101), (42, 97), (43, 102), (44, 98), (45, 101), (46, 103), (47, 103), (48, 97), (49, 114), (50, 116), (51, 97), (52, 120), (53, 109), (54, 97), (55, 110)]))), (q9, .inl (G.2.1 0, 12, .inl (fun _ => 0))), (q10, .inl (G.2.1 0, 12, .inl (fun _ => 0))), (q11, .inl (G.2.1 0, 6, .inl (fun _ => 0))), (q12, .inl (G.2.1 0, 6, .inl (fun _ => 0))), (q13, .inl (G.2.1 0, 100, .inl (fun _ => 0))), (q14, .inl (G.2.1 0, 16, .inl (fun _ => 0))), (q15, .inl (G.2.1 2, 2, .inl (fun _ => 0))), (q16, .inl (G.2.1 0, 4, .inl (stL [(0, (-4)), (1, (-4)), (2, (-4)), (3, (-4))]))), (q17, .inl (G.2.1 0, 4, .inl (fun _ => 0))), (q18, .inl (G.2.1 0, 160, .inl (fun _ => 0)))] : va_W) = wl (gd G (fun k => [h, q1, q2, q3, q4, q5, q6, q7, q8, q9, q10, q11, q12, q13, q14, q15, q16, q17, q18].getD k 0)) shM 19 m0 := by
  have e : wl (gd G (fun k => [h, q1, q2, q3, q4, q5, q6, q7, q8, q9, q10, q11, q12, q13, q14, q15, q16, q17, q18].getD k 0)) shM 19 m0 = [(gad (gd G (fun k => [h, q1, q2, q3, q4, q5, q6, q7, q8, q9, q10, q11, q12, q13, q14, q15, q16, q17, q18].getD k 0)) 0, ce (gd G (fun k => [h, q1, q2, q3, q4, q5, q6, q7, q8, q9, q10, q11, q12, q13, q14, q15, q16, q17, q18].getD k 0)) (shM 0) (m0 0)), (gad (gd G (fun k => [h, q1, q2, q3, q4, q5, q6, q7, q8, q9, q10, q11, q12, q13, q14, q15, q16, q17, q18].getD k 0)) 1, ce (gd G (fun k => [h, q1, q2, q3, q4, q5, q6, q7, q8, q9, q10, q11, q12, q13, q14, q15, q16, q17, q18].getD k 0)) (shM 1) (m0 1)), (gad (gd G (fun k => [h, q1, q2, q3, q4, q5, q6, q7, q8, q9, q10, q11, q12, q13, q14, q15, q16, q17, q18].getD k 0)) 2, ce (gd G (fun k => [h, q1, q2, q3, q4, q5, q6, q7, q8, q9, q10, q11, q12, q13, q14, q15, q16, q17, q18].getD k 0)) (shM 2) (m0 2)), (gad (gd G (fun k => [h, q1, q2, q3, q4, q5, q6, q7, q8, q9, q10, q11, q12, q13, q14, q15, q16, q17, q18].getD k 0)) 3, ce (gd G (fun k => [h, q1, q2, q3, q4, q5, q6, q7, q8, q9, q10, q11, q12, q13, q14, q15, q16, q17, q18].getD k 0)) (shM 3) (m0 3)), (gad (gd G (fun k => [h, q1, q2, q3, q4, q5, q6, q7, q8, q9, q10, q11, q12, q13, q14, q15, q16, q17, q18].getD k 0)) 4, ce (gd G (fun k => [h, q1, q2, q3, q4, q5, q6, q7, q8, q9, q10, q11, q12, q13, q14, q15, q16, q17, q18].getD k 0)) (shM 4) (m0 4)), (gad (gd G (fun k => [h, q1, q2, q3, q4, q5, q6, q7, q8, q9, q10, q11, q12, q13, q14, q15, q16, q17, q18].getD k 0)) 5, ce (gd G (fun k => [h, q1, q2, q3, q4, q5, q6, q7, q8, q9, q10, q11, q12, q13, q14, q15, q16, q17, q18].getD k 0)) (shM 5) (m0 5)), (gad (gd G (fun k => [h, q1, q2, q3, q4, q5, q6, q7, q8, q9, q10, q11, q12, q13, q14, q15, q16, q17, q18].getD k 0)) 6, ce (gd G (fun k => [h, q1, q2, q3, q4, q5, q6, q7, q8, q9, q10, q11, q12, q13, q14, q15, q16, q17, q18].getD k 0)) (shM 6) (m0 6)), (gad (gd G (fun k => [h, q1, q2, q3, q4, q5, q6, q7, q8, q9, q10, q11, q12, q13, q14, q15, q16, q17, q18].getD k 0)) 7, ce (gd G (fun k => [h, q1, q2, q3, q4, q5, q6, q7, q8, q9, q10, q11, q12, q13, q14, q15, q16, q17, q18].getD k 0)) (shM 7) (m0 7)), (gad (gd G (fun k => [h, q1, q2, q3, q4, q5, q6, q7, q8, q9, q10, q11, q12, q13, q14, q15, q16, q17, q18].getD k 0)) 8, ce (gd G (fun k => [h, q1, q2, q3, q4, q5, q6, q7, q8, q9, q10, q11, q12, q13, q14, q15, q16, q17, q18].getD k 0)) (shM 8) (m0 8)), (gad (gd G (fun k => [h, q1, q2, q3, q4, q5, q6, q7, q8, q9, q10, q11, q12, q13, q14, q15, q16, q17, q18].getD k 0)) 9, ce (gd G (fun k => [h, q1, q2, q3, q4, q5, q6, q7, q8, q9, q10, q11, q12, q13, q14, q15, q16, q17, q18].getD k 0)) (shM 9) (m0 9)), (gad (gd G (fun k => [h, q1, q2, q3, q4, q5, q6, q7, q8, q9, q10, q11, q12, q13, q14, q15, q16, q17, q18].getD k 0)) 10, ce (gd G (fun k => [h, q1, q2, q3, q4, q5, q6, q7, q8, q9, q10, q11, q12, q13, q14, q15, q16, q17, q18].getD k 0)) (shM 10) (m0 10)), (gad (gd G (fun k => [h, q1, q2, q3, q4, q5, q6, q7, q8, q9, q10, q11, q12, q13, q14, q15, q16, q17, q18].getD k 0)) 11, ce (gd G (fun k => [h, q1, q2, q3, q4, q5, q6, q7, q8, q9, q10, q11, q12, q13, q14, q15, q16, q17, q18].getD k 0)) (shM 11) (m0 11)), (gad (gd G (fun k => [h, q1, q2, q3, q4, q5, q6, q7, q8, q9, q10, q11, q12, q13, q14, q15, q16, q17, q18].getD k 0)) 12, ce (gd G (fun k => [h, q1, q2, q3, q4, q5, q6, q7, q8, q9, q10, q11, q12, q13, q14, q15, q16, q17, q18].getD k 0)) (shM 12) (m0 12)), (gad (gd G (fun k => [h, q1, q2, q3, q4, q5, q6, q7, q8, q9, q10, q11, q12, q13, q14, q15, q16, q17, q18].getD k 0)) 13, ce (gd G (fun k => [h, q1, q2, q3, q4, q5, q6, q7, q8, q9, q10, q11, q12, q13, q14, q15, q16, q17, q18].getD k 0)) (shM 13) (m0 13)), (gad (gd G (fun k => [h, q1, q2, q3, q4, q5, q6, q7, q8, q9, q10, q11, q12, q13, q14, q15, q16, q17, q18].getD k 0)) 14, ce (gd G (fun k => [h, q1, q2, q3, q4, q5, q6, q7, q8, q9, q10, q11, q12, q13, q14, q15, q16, q17, q18].getD k 0)) (shM 14) (m0 14)), (gad (gd G (fun k => [h, q1, q2, q3, q4, q5, q6, q7, q8, q9, q10, q11, q12, q13, q14, q15, q16, q17, q18].getD k 0)) 15, ce (gd G (fun k => [h, q1, q2, q3, q4, q5, q6, q7, q8, q9, q10, q11, q12, q13, q14, q15, q16, q17, q18].getD k 0)) (shM 15) (m0 15)), (gad (gd G (fun k => [h, q1, q2, q3, q4, q5, q6, q7, q8, q9, q10, q11, q12, q13, q14, q15, q16, q17, q18].getD k 0)) 16, ce (gd G (fun k => [h, q1, q2, q3, q4, q5, q6, q7, q8, q9, q10, q11, q12, q13, q14, q15, q16, q17, q18].getD k 0)) (shM 16) (m0 16)), (gad (gd G (fun k => [h, q1, q2, q3, q4, q5, q6, q7, q8, q9, q10, q11, q12, q13, q14, q15, q16, q17, q18].getD k 0)) 17, ce (gd G (fun k => [h, q1, q2, q3, q4, q5, q6, q7, q8, q9, q10, q11, q12, q13, q14, q15, q16, q17, q18].getD k 0)) (shM 17) (m0 17)), (gad (gd G (fun k => [h, q1, q2, q3, q4, q5, q6, q7, q8, q9, q10, q11, q12, q13, q14, q15, q16, q17, q18].getD k 0)) 18, ce (gd G (fun k => [h, q1, q2, q3, q4, q5, q6, q7, q8, q9, q10, q11, q12, q13, q14, q15, q16, q17, q18].getD k 0)) (shM 18) (m0 18))] := rfl
  rw [e, ← w8_obj, ← w8_1, ← w8_2, ← w8_3, ← w8_4, ← w8_5, ← w8_6, ← w8_7, ← w8_8, ← w8_9, ← w8_10, ← w8_11, ← w8_12, ← w8_13, ← w8_14, ← w8_15, ← w8_16, ← w8_17, ← w8_18]
set_option maxHeartbeats 4000000 in
set_option maxRecDepth 100000 in
theorem kcX8 {l : Launch} {G : GX} {h : Nat} : KM l G yX8_init cX8_init 1 rkX8 h 8 [.null, .null, .int 0, .int 0, .null, .null, .int 0, .int 0, .int 0, .int 0, .int 0, .int 0, .null, .null, .int 0, .int 0, .int 0, .int 0, .int 0, .int 0, .int 0, .int 0, .null, .null, .null, .null, .int 0, .null, .null, .null, .null, .int 0, .int 0, .null, .null, .null, .null, .int 0] [] 18 1038 (poX8 G h) := by
  refine km_of (by decide +kernel) rfl rfl (Nat.le_of_ble_eq_true rfl) (fun M hM C hin => ?_)
  refine cw_aload_n C 0 dX8_init_0 rfl rfl ?_
  refine cw_objInit C mlX8_1 oi_im oi_cd (by decide) (Nat.le_of_ble_eq_true rfl) dX8_init_1 ?_
  refine cw_aload_n C 0 dX8_init_4 rfl rfl ?_
  refine cw_sipush C (v := 228) dX8_init_5 (by decide) ?_
  refine cw_newa C (atype := .int) 0 228 acl_int rfl rfl (fun _ => rfl) (by decide) (by decide) (by decide) (by decide) (by decide) dX8_init_8 (fun q1 => ?_)
  obtain ⟨R1, eR1⟩ : ∃ R : va_W, R = [] ++ [(q1, .inl (G.2.1 0, 228, .inl (fun _ => 0)))] := ⟨_, rfl⟩
  refine cw_ws (ws' := (h, .inr (8, [.null, .null, .int 0, .int 0, .null, .null, .int 0, .int 0, .int 0, .int 0, .int 0, .int 0, .null, .null, .int 0, .int 0, .int 0, .int 0, .int 0, .int 0, .int 0, .int 0, .null, .null, .null, .null, .int 0, .null, .null, .null, .null, .int 0, .int 0, .null, .null, .null, .null, .int 0])) :: R1) (by rw [eR1]; rfl) ?_
  refine cw_putF C hin (j := 0) (ty := .array .int) 0 rfl rfl inlX8 (by decide) tyX8 tyX8_ok nmX8 flX8_7 rfl rfl (by decide +kernel) rfl rfl (Nat.le_of_ble_eq_true rfl) dX8_init_10 ?_
  refine cw_ws (ws' := (h, .inr (8, [.ref q1, .null, .int 0, .int 0, .null, .null, .int 0, .int 0, .int 0, .int 0, .int 0, .int 0, .null, .null, .int 0, .int 0, .int 0, .int 0, .int 0, .int 0, .int 0, .int 0, .null, .null, .null, .null, .int 0, .null, .null, .null, .null, .int 0, .int 0, .null, .null, .null, .null, .int 0])) :: R1) rfl ?_
  refine cw_aload_n C 0 dX8_init_13 rfl rfl ?_
  refine cw_bipush C (v := 18) dX8_init_14 (by decide) ?_
  refine cw_newa C (atype := .int) 0 18 acl_int rfl rfl (fun _ => rfl) (by decide) (by decide) (by decide) (by decide) (by decide) dX8_init_16 (fun q2 => ?_)
  obtain ⟨R2, eR2⟩ : ∃ R : va_W, R = R1 ++ [(q2, .inl (G.2.1 0, 18, .inl (fun _ => 0)))] := ⟨_, rfl⟩
  refine cw_ws (ws' := (h, .inr (8, [.ref q1, .null, .int 0, .int 0, .null, .null, .int 0, .int 0, .int 0, .int 0, .int 0, .int 0, .null, .null, .int 0, .int 0, .int 0, .int 0, .int 0, .int 0, .int 0, .int 0, .null, .null, .null, .null, .int 0, .null, .null, .null, .null, .int 0, .int 0, .null, .null, .null, .null, .int 0])) :: R2) (by rw [eR2]; rfl) ?_
  refine cw_putF C hin (j := 1) (ty := .array .int) 0 rfl rfl inlX8 (by decide) tyX8 tyX8_ok nmX8 flX8_13 rfl rfl (by decide +kernel) rfl rfl (Nat.le_of_ble_eq_true rfl) dX8_init_18 ?_
  refine cw_ws (ws' := (h, .inr (8, [.ref q1, .ref q2, .int 0, .int 0, .null, .null, .int 0, .int 0, .int 0, .int 0, .int 0, .int 0, .null, .null, .int 0, .int 0, .int 0, .int 0, .int 0, .int 0, .int 0, .int 0, .null, .null, .null, .null, .int 0, .null, .null, .null, .null, .int 0, .int 0, .null, .null, .null, .null, .int 0])) :: R2) rfl ?_
  refine cw_aload_n C 0 dX8_init_21 rfl rfl ?_
  refine cw_bipush C (v := 57) dX8_init_22 (by decide) ?_
  refine cw_newa C (atype := .int) 0 57 acl_int rfl rfl (fun _ => rfl) (by decide) (by decide) (by decide) (by decide) (by decide) dX8_init_24 (fun q3 => ?_)
  obtain ⟨R3, eR3⟩ : ∃ R : va_W, R = R2 ++ [(q3, .inl (G.2.1 0, 57, .inl (fun _ => 0)))] := ⟨_, rfl⟩
  refine cw_ws (ws' := (h, .inr (8, [.ref q1, .ref q2, .int 0, .int 0, .null, .null, .int 0, .int 0, .int 0, .int 0, .int 0, .int 0, .null, .null, .int 0, .int 0, .int 0, .int 0, .int 0, .int 0, .int 0, .int 0, .null, .null, .null, .null, .int 0, .null, .null, .null, .null, .int 0, .int 0, .null, .null, .null, .null, .int 0])) :: R3) (by rw [eR3]; rfl) ?_
  refine cw_putF C hin (j := 4) (ty := .array .int) 0 rfl rfl inlX8 (by decide) tyX8 tyX8_ok nmX8 flX8_16 rfl rfl (by decide +kernel) rfl rfl (Nat.le_of_ble_eq_true rfl) dX8_init_26 ?_
  refine cw_ws (ws' := (h, .inr (8, [.ref q1, .ref q2, .int 0, .int 0, .ref q3, .null, .int 0, .int 0, .int 0, .int 0, .int 0, .int 0, .null, .null, .int 0, .int 0, .int 0, .int 0, .int 0, .int 0, .int 0, .int 0, .null, .null, .null, .null, .int 0, .null, .null, .null, .null, .int 0, .int 0, .null, .null, .null, .null, .int 0])) :: R3) rfl ?_
  refine cw_aload_n C 0 dX8_init_29 rfl rfl ?_
  refine cw_bipush C (v := 18) dX8_init_30 (by decide) ?_
  refine cw_newa C (atype := .int) 0 18 acl_int rfl rfl (fun _ => rfl) (by decide) (by decide) (by decide) (by decide) (by decide) dX8_init_32 (fun q4 => ?_)
  obtain ⟨R4, eR4⟩ : ∃ R : va_W, R = R3 ++ [(q4, .inl (G.2.1 0, 18, .inl (fun _ => 0)))] := ⟨_, rfl⟩
  refine cw_ws (ws' := (h, .inr (8, [.ref q1, .ref q2, .int 0, .int 0, .ref q3, .null, .int 0, .int 0, .int 0, .int 0, .int 0, .int 0, .null, .null, .int 0, .int 0, .int 0, .int 0, .int 0, .int 0, .int 0, .int 0, .null, .null, .null, .null, .int 0, .null, .null, .null, .null, .int 0, .int 0, .null, .null, .null, .null, .int 0])) :: R4) (by rw [eR4]; rfl) ?_
  refine cw_putF C hin (j := 5) (ty := .array .int) 0 rfl rfl inlX8 (by decide) tyX8 tyX8_ok nmX8 flX8_19 rfl rfl (by decide +kernel) rfl rfl (Nat.le_of_ble_eq_true rfl) dX8_init_34 ?_
  refine cw_ws (ws' := (h, .inr (8, [.ref q1, .ref q2, .int 0, .int 0, .ref q3, .ref q4, .int 0, .int 0, .int 0, .int 0, .int 0, .int 0, .null, .null, .int 0, .int 0, .int 0, .int 0, .int 0, .int 0, .int 0, .int 0, .null, .null, .null, .null, .int 0, .null, .null, .null, .null, .int 0, .int 0, .null, .null, .null, .null, .int 0])) :: R4) rfl ?_
  refine cw_aload_n C 0 dX8_init_37 rfl rfl ?_
  refine cw_bipush C (v := 6) dX8_init_38 (by decide) ?_
  refine cw_newa C (atype := .int) 0 6 acl_int rfl rfl (fun _ => rfl) (by decide) (by decide) (by decide) (by decide) (by decide) dX8_init_40 (fun q5 => ?_)
  obtain ⟨R5, eR5⟩ : ∃ R : va_W, R = R4 ++ [(q5, .inl (G.2.1 0, 6, .inl (fun _ => 0)))] := ⟨_, rfl⟩
  refine cw_ws (ws' := (h, .inr (8, [.ref q1, .ref q2, .int 0, .int 0, .ref q3, .ref q4, .int 0, .int 0, .int 0, .int 0, .int 0, .int 0, .null, .null, .int 0, .int 0, .int 0, .int 0, .int 0, .int 0, .int 0, .int 0, .null, .null, .null, .null, .int 0, .null, .null, .null, .null, .int 0, .int 0, .null, .null, .null, .null, .int 0])) :: R5) (by rw [eR5]; rfl) ?_
  refine cw_putF C hin (j := 12) (ty := .array .int) 0 rfl rfl inlX8 (by decide) tyX8 tyX8_ok nmX8 flX8_22 rfl rfl (by decide +kernel) rfl rfl (Nat.le_of_ble_eq_true rfl) dX8_init_42 ?_
  refine cw_ws (ws' := (h, .inr (8, [.ref q1, .ref q2, .int 0, .int 0, .ref q3, .ref q4, .int 0, .int 0, .int 0, .int 0, .int 0, .int 0, .ref q5, .null, .int 0, .int 0, .int 0, .int 0, .int 0, .int 0, .int 0, .int 0, .null, .null, .null, .null, .int 0, .null, .null, .null, .null, .int 0, .int 0, .null, .null, .null, .null, .int 0])) :: R5) rfl ?_
  refine cw_aload_n C 0 dX8_init_45 rfl rfl ?_
  refine cw_sipush C (v := 320) dX8_init_46 (by decide) ?_
  refine cw_newa C (atype := .int) 0 320 acl_int rfl rfl (fun _ => rfl) (by decide) (by decide) (by decide) (by decide) (by decide) dX8_init_49 (fun q6 => ?_)
  obtain ⟨R6, eR6⟩ : ∃ R : va_W, R = R5 ++ [(q6, .inl (G.2.1 0, 320, .inl (fun _ => 0)))] := ⟨_, rfl⟩
  refine cw_ws (ws' := (h, .inr (8, [.ref q1, .ref q2, .int 0, .int 0, .ref q3, .ref q4, .int 0, .int 0, .int 0, .int 0, .int 0, .int 0, .ref q5, .null, .int 0, .int 0, .int 0, .int 0, .int 0, .int 0, .int 0, .int 0, .null, .null, .null, .null, .int 0, .null, .null, .null, .null, .int 0, .int 0, .null, .null, .null, .null, .int 0])) :: R6) (by rw [eR6]; rfl) ?_
  refine cw_putF C hin (j := 13) (ty := .array .int) 0 rfl rfl inlX8 (by decide) tyX8 tyX8_ok nmX8 flX8_25 rfl rfl (by decide +kernel) rfl rfl (Nat.le_of_ble_eq_true rfl) dX8_init_51 ?_
  refine cw_ws (ws' := (h, .inr (8, [.ref q1, .ref q2, .int 0, .int 0, .ref q3, .ref q4, .int 0, .int 0, .int 0, .int 0, .int 0, .int 0, .ref q5, .ref q6, .int 0, .int 0, .int 0, .int 0, .int 0, .int 0, .int 0, .int 0, .null, .null, .null, .null, .int 0, .null, .null, .null, .null, .int 0, .int 0, .null, .null, .null, .null, .int 0])) :: R6) rfl ?_
  refine cw_aload_n C 0 dX8_init_54 rfl rfl ?_
  refine cw_bipush C (v := 13) dX8_init_55 (by decide) ?_
  refine cw_newa C (atype := .int) 0 13 acl_int rfl rfl (fun _ => rfl) (by decide) (by decide) (by decide) (by decide) (by decide) dX8_init_57 (fun q7 => ?_)
  refine cw_ws (ws' := ((h, .inr (8, [.ref q1, .ref q2, .int 0, .int 0, .ref q3, .ref q4, .int 0, .int 0, .int 0, .int 0, .int 0, .int 0, .ref q5, .ref q6, .int 0, .int 0, .int 0, .int 0, .int 0, .int 0, .int 0, .int 0, .null, .null, .null, .null, .int 0, .null, .null, .null, .null, .int 0, .int 0, .null, .null, .null, .null, .int 0])) :: R6) ++ [(q7, .inl (G.2.1 0, 13, .inl (fun _ => 0)))]) rfl ?_
  refine ini8_59 C ?_
  obtain ⟨R7, eR7⟩ : ∃ R : va_W, R = R6 ++ [(q7, .inl (G.2.1 0, 13, .inl (stL [(0, 0), (1, 3), (2, 6), (3, 9), (4, 13), (5, 18), (6, 22), (7, 29), (8, 34), (9, 40), (10, 44), (11, 50), (12, 56)])))] := ⟨_, rfl⟩
  refine cw_ws (ws' := (h, .inr (8, [.ref q1, .ref q2, .int 0, .int 0, .ref q3, .ref q4, .int 0, .int 0, .int 0, .int 0, .int 0, .int 0, .ref q5, .ref q6, .int 0, .int 0, .int 0, .int 0, .int 0, .int 0, .int 0, .int 0, .null, .null, .null, .null, .int 0, .null, .null, .null, .null, .int 0, .int 0, .null, .null, .null, .null, .int 0])) :: R7) (by rw [eR7]; rfl) ?_
  refine cw_putF C hin (j := 22) (ty := .array .int) 0 rfl rfl inlX8 (by decide) tyX8 tyX8_ok nmX8 flX8_28 rfl rfl (by decide +kernel) rfl rfl (Nat.le_of_ble_eq_true rfl) dX8_init_129 ?_
  refine cw_ws (ws' := (h, .inr (8, [.ref q1, .ref q2, .int 0, .int 0, .ref q3, .ref q4, .int 0, .int 0, .int 0, .int 0, .int 0, .int 0, .ref q5, .ref q6, .int 0, .int 0, .int 0, .int 0, .int 0, .int 0, .int 0, .int 0, .ref q7, .null, .null, .null, .int 0, .null, .null, .null, .null, .int 0, .int 0, .null, .null, .null, .null, .int 0])) :: R7) rfl ?_
  refine cw_aload_n C 0 dX8_init_132 rfl rfl ?_
  refine cw_bipush C (v := 56) dX8_init_133 (by decide) ?_
  refine cw_newa C (atype := .int) 0 56 acl_int rfl rfl (fun _ => rfl) (by decide) (by decide) (by decide) (by decide) (by decide) dX8_init_135 (fun q8 => ?_)
  refine cw_ws (ws' := ((h, .inr (8, [.ref q1, .ref q2, .int 0, .int 0, .ref q3, .ref q4, .int 0, .int 0, .int 0, .int 0, .int 0, .int 0, .ref q5, .ref q6, .int 0, .int 0, .int 0, .int 0, .int 0, .int 0, .int 0, .int 0, .ref q7, .null, .null, .null, .int 0, .null, .null, .null, .null, .int 0, .int 0, .null, .null, .null, .null, .int 0])) :: R7) ++ [(q8, .inl (G.2.1 0, 56, .inl (fun _ => 0)))]) rfl ?_
  refine ini8_137 C ?_
  obtain ⟨R8, eR8⟩ : ∃ R : va_W, R = R7 ++ [(q8, .inl (G.2.1 0, 56, .inl (stL [(0, 108), (1, 97), (2, 119), (3, 102), (4, 101), (5, 101), (6, 111), (7, 110), (8, 101), (9, 99), (10, 111), (11, 105), (12, 110), (13, 115), (14, 112), (15, 101), (16, 110), (17, 100), (18, 116), (19, 97), (20, 108), (21, 107), (22, 99), (23, 108), (24, 105), (25, 112), (26, 112), (27, 101), (28, 100), (29, 112), (30, 108), (31, 97), (32, 105), (33, 110), (34, 103), (35, 111), (36, 115), (37, 115), (38, 105), (39, 112), (40, 100), (41, 101), (42, 97), (43, 102), (44, 98), (45, 101), (46, 103), (47, 103), (48, 97), (49, 114), (50, 116), (51, 97), (52, 120), (53, 109), (54, 97), (55, 110)])))] := ⟨_, rfl⟩
  refine cw_ws (ws' := (h, .inr (8, [.ref q1, .ref q2, .int 0, .int 0, .ref q3, .ref q4, .int 0, .int 0, .int 0, .int 0, .int 0, .int 0, .ref q5, .ref q6, .int 0, .int 0, .int 0, .int 0, .int 0, .int 0, .int 0, .int 0, .ref q7, .null, .null, .null, .int 0, .null, .null, .null, .null, .int 0, .int 0, .null, .null, .null, .null, .int 0])) :: R8) (by rw [eR8]; rfl) ?_
  refine cw_putF C hin (j := 23) (ty := .array .int) 0 rfl rfl inlX8 (by decide) tyX8 tyX8_ok nmX8 flX8_31 rfl rfl (by decide +kernel) rfl rfl (Nat.le_of_ble_eq_true rfl) dX8_init_467 ?_
  refine cw_ws (ws' := (h, .inr (8, [.ref q1, .ref q2, .int 0, .int 0, .ref q3, .ref q4, .int 0, .int 0, .int 0, .int 0, .int 0, .int 0, .ref q5, .ref q6, .int 0, .int 0, .int 0, .int 0, .int 0, .int 0, .int 0, .int 0, .ref q7, .ref q8, .null, .null, .int 0, .null, .null, .null, .null, .int 0, .int 0, .null, .null, .null, .null, .int 0])) :: R8) rfl ?_
  refine cw_aload_n C 0 dX8_init_470 rfl rfl ?_
  refine cw_bipush C (v := 12) dX8_init_471 (by decide) ?_
  refine cw_newa C (atype := .int) 0 12 acl_int rfl rfl (fun _ => rfl) (by decide) (by decide) (by decide) (by decide) (by decide) dX8_init_473 (fun q9 => ?_)
  obtain ⟨R9, eR9⟩ : ∃ R : va_W, R = R8 ++ [(q9, .inl (G.2.1 0, 12, .inl (fun _ => 0)))] := ⟨_, rfl⟩
  refine cw_ws (ws' := (h, .inr (8, [.ref q1, .ref q2, .int 0, .int 0, .ref q3, .ref q4, .int 0, .int 0, .int 0, .int 0, .int 0, .int 0, .ref q5, .ref q6, .int 0, .int 0, .int 0, .int 0, .int 0, .int 0, .int 0, .int 0, .ref q7, .ref q8, .null, .null, .int 0, .null, .null, .null, .null, .int 0, .int 0, .null, .null, .null, .null, .int 0])) :: R9) (by rw [eR9]; rfl) ?_
  refine cw_putF C hin (j := 24) (ty := .array .int) 0 rfl rfl inlX8 (by decide) tyX8 tyX8_ok nmX8 flX8_34 rfl rfl (by decide +kernel) rfl rfl (Nat.le_of_ble_eq_true rfl) dX8_init_475 ?_
  refine cw_ws (ws' := (h, .inr (8, [.ref q1, .ref q2, .int 0, .int 0, .ref q3, .ref q4, .int 0, .int 0, .int 0, .int 0, .int 0, .int 0, .ref q5, .ref q6, .int 0, .int 0, .int 0, .int 0, .int 0, .int 0, .int 0, .int 0, .ref q7, .ref q8, .ref q9, .null, .int 0, .null, .null, .null, .null, .int 0, .int 0, .null, .null, .null, .null, .int 0])) :: R9) rfl ?_
  refine cw_aload_n C 0 dX8_init_478 rfl rfl ?_
  refine cw_bipush C (v := 12) dX8_init_479 (by decide) ?_
  refine cw_newa C (atype := .int) 0 12 acl_int rfl rfl (fun _ => rfl) (by decide) (by decide) (by decide) (by decide) (by decide) dX8_init_481 (fun q10 => ?_)
  obtain ⟨R10, eR10⟩ : ∃ R : va_W, R = R9 ++ [(q10, .inl (G.2.1 0, 12, .inl (fun _ => 0)))] := ⟨_, rfl⟩
  refine cw_ws (ws' := (h, .inr (8, [.ref q1, .ref q2, .int 0, .int 0, .ref q3, .ref q4, .int 0, .int 0, .int 0, .int 0, .int 0, .int 0, .ref q5, .ref q6, .int 0, .int 0, .int 0, .int 0, .int 0, .int 0, .int 0, .int 0, .ref q7, .ref q8, .ref q9, .null, .int 0, .null, .null, .null, .null, .int 0, .int 0, .null, .null, .null, .null, .int 0])) :: R10) (by rw [eR10]; rfl) ?_
  refine cw_putF C hin (j := 25) (ty := .array .int) 0 rfl rfl inlX8 (by decide) tyX8 tyX8_ok nmX8 flX8_37 rfl rfl (by decide +kernel) rfl rfl (Nat.le_of_ble_eq_true rfl) dX8_init_483 ?_
  refine cw_ws (ws' := (h, .inr (8, [.ref q1, .ref q2, .int 0, .int 0, .ref q3, .ref q4, .int 0, .int 0, .int 0, .int 0, .int 0, .int 0, .ref q5, .ref q6, .int 0, .int 0, .int 0, .int 0, .int 0, .int 0, .int 0, .int 0, .ref q7, .ref q8, .ref q9, .ref q10, .int 0, .null, .null, .null, .null, .int 0, .int 0, .null, .null, .null, .null, .int 0])) :: R10) rfl ?_
  refine cw_aload_n C 0 dX8_init_486 rfl rfl ?_
  refine cw_bipush C (v := 6) dX8_init_487 (by decide) ?_
  refine cw_newa C (atype := .int) 0 6 acl_int rfl rfl (fun _ => rfl) (by decide) (by decide) (by decide) (by decide) (by decide) dX8_init_489 (fun q11 => ?_)
  obtain ⟨R11, eR11⟩ : ∃ R : va_W, R = R10 ++ [(q11, .inl (G.2.1 0, 6, .inl (fun _ => 0)))] := ⟨_, rfl⟩
  refine cw_ws (ws' := (h, .inr (8, [.ref q1, .ref q2, .int 0, .int 0, .ref q3, .ref q4, .int 0, .int 0, .int 0, .int 0, .int 0, .int 0, .ref q5, .ref q6, .int 0, .int 0, .int 0, .int 0, .int 0, .int 0, .int 0, .int 0, .ref q7, .ref q8, .ref q9, .ref q10, .int 0, .null, .null, .null, .null, .int 0, .int 0, .null, .null, .null, .null, .int 0])) :: R11) (by rw [eR11]; rfl) ?_
  refine cw_putF C hin (j := 27) (ty := .array .int) 0 rfl rfl inlX8 (by decide) tyX8 tyX8_ok nmX8 flX8_40 rfl rfl (by decide +kernel) rfl rfl (Nat.le_of_ble_eq_true rfl) dX8_init_491 ?_
  refine cw_ws (ws' := (h, .inr (8, [.ref q1, .ref q2, .int 0, .int 0, .ref q3, .ref q4, .int 0, .int 0, .int 0, .int 0, .int 0, .int 0, .ref q5, .ref q6, .int 0, .int 0, .int 0, .int 0, .int 0, .int 0, .int 0, .int 0, .ref q7, .ref q8, .ref q9, .ref q10, .int 0, .ref q11, .null, .null, .null, .int 0, .int 0, .null, .null, .null, .null, .int 0])) :: R11) rfl ?_
  refine cw_aload_n C 0 dX8_init_494 rfl rfl ?_
  refine cw_bipush C (v := 6) dX8_init_495 (by decide) ?_
  refine cw_newa C (atype := .int) 0 6 acl_int rfl rfl (fun _ => rfl) (by decide) (by decide) (by decide) (by decide) (by decide) dX8_init_497 (fun q12 => ?_)
  obtain ⟨R12, eR12⟩ : ∃ R : va_W, R = R11 ++ [(q12, .inl (G.2.1 0, 6, .inl (fun _ => 0)))] := ⟨_, rfl⟩
  refine cw_ws (ws' := (h, .inr (8, [.ref q1, .ref q2, .int 0, .int 0, .ref q3, .ref q4, .int 0, .int 0, .int 0, .int 0, .int 0, .int 0, .ref q5, .ref q6, .int 0, .int 0, .int 0, .int 0, .int 0, .int 0, .int 0, .int 0, .ref q7, .ref q8, .ref q9, .ref q10, .int 0, .ref q11, .null, .null, .null, .int 0, .int 0, .null, .null, .null, .null, .int 0])) :: R12) (by rw [eR12]; rfl) ?_
  refine cw_putF C hin (j := 28) (ty := .array .int) 0 rfl rfl inlX8 (by decide) tyX8 tyX8_ok nmX8 flX8_43 rfl rfl (by decide +kernel) rfl rfl (Nat.le_of_ble_eq_true rfl) dX8_init_499 ?_
  refine cw_ws (ws' := (h, .inr (8, [.ref q1, .ref q2, .int 0, .int 0, .ref q3, .ref q4, .int 0, .int 0, .int 0, .int 0, .int 0, .int 0, .ref q5, .ref q6, .int 0, .int 0, .int 0, .int 0, .int 0, .int 0, .int 0, .int 0, .ref q7, .ref q8, .ref q9, .ref q10, .int 0, .ref q11, .ref q12, .null, .null, .int 0, .int 0, .null, .null, .null, .null, .int 0])) :: R12) rfl ?_
  refine cw_aload_n C 0 dX8_init_502 rfl rfl ?_
  refine cw_bipush C (v := 100) dX8_init_503 (by decide) ?_
  refine cw_newa C (atype := .int) 0 100 acl_int rfl rfl (fun _ => rfl) (by decide) (by decide) (by decide) (by decide) (by decide) dX8_init_505 (fun q13 => ?_)
  obtain ⟨R13, eR13⟩ : ∃ R : va_W, R = R12 ++ [(q13, .inl (G.2.1 0, 100, .inl (fun _ => 0)))] := ⟨_, rfl⟩
  refine cw_ws (ws' := (h, .inr (8, [.ref q1, .ref q2, .int 0, .int 0, .ref q3, .ref q4, .int 0, .int 0, .int 0, .int 0, .int 0, .int 0, .ref q5, .ref q6, .int 0, .int 0, .int 0, .int 0, .int 0, .int 0, .int 0, .int 0, .ref q7, .ref q8, .ref q9, .ref q10, .int 0, .ref q11, .ref q12, .null, .null, .int 0, .int 0, .null, .null, .null, .null, .int 0])) :: R13) (by rw [eR13]; rfl) ?_
  refine cw_putF C hin (j := 29) (ty := .array .int) 0 rfl rfl inlX8 (by decide) tyX8 tyX8_ok nmX8 flX8_46 rfl rfl (by decide +kernel) rfl rfl (Nat.le_of_ble_eq_true rfl) dX8_init_507 ?_
  refine cw_ws (ws' := (h, .inr (8, [.ref q1, .ref q2, .int 0, .int 0, .ref q3, .ref q4, .int 0, .int 0, .int 0, .int 0, .int 0, .int 0, .ref q5, .ref q6, .int 0, .int 0, .int 0, .int 0, .int 0, .int 0, .int 0, .int 0, .ref q7, .ref q8, .ref q9, .ref q10, .int 0, .ref q11, .ref q12, .ref q13, .null, .int 0, .int 0, .null, .null, .null, .null, .int 0])) :: R13) rfl ?_
  refine cw_aload_n C 0 dX8_init_510 rfl rfl ?_
  refine cw_bipush C (v := 16) dX8_init_511 (by decide) ?_
  refine cw_newa C (atype := .int) 0 16 acl_int rfl rfl (fun _ => rfl) (by decide) (by decide) (by decide) (by decide) (by decide) dX8_init_513 (fun q14 => ?_)
  obtain ⟨R14, eR14⟩ : ∃ R : va_W, R = R13 ++ [(q14, .inl (G.2.1 0, 16, .inl (fun _ => 0)))] := ⟨_, rfl⟩
  refine cw_ws (ws' := (h, .inr (8, [.ref q1, .ref q2, .int 0, .int 0, .ref q3, .ref q4, .int 0, .int 0, .int 0, .int 0, .int 0, .int 0, .ref q5, .ref q6, .int 0, .int 0, .int 0, .int 0, .int 0, .int 0, .int 0, .int 0, .ref q7, .ref q8, .ref q9, .ref q10, .int 0, .ref q11, .ref q12, .ref q13, .null, .int 0, .int 0, .null, .null, .null, .null, .int 0])) :: R14) (by rw [eR14]; rfl) ?_
  refine cw_putF C hin (j := 30) (ty := .array .int) 0 rfl rfl inlX8 (by decide) tyX8 tyX8_ok nmX8 flX8_49 rfl rfl (by decide +kernel) rfl rfl (Nat.le_of_ble_eq_true rfl) dX8_init_515 ?_
  refine cw_ws (ws' := (h, .inr (8, [.ref q1, .ref q2, .int 0, .int 0, .ref q3, .ref q4, .int 0, .int 0, .int 0, .int 0, .int 0, .int 0, .ref q5, .ref q6, .int 0, .int 0, .int 0, .int 0, .int 0, .int 0, .int 0, .int 0, .ref q7, .ref q8, .ref q9, .ref q10, .int 0, .ref q11, .ref q12, .ref q13, .ref q14, .int 0, .int 0, .null, .null, .null, .null, .int 0])) :: R14) rfl ?_
  refine cw_aload_n C 0 dX8_init_518 rfl rfl ?_
  refine cw_iconst C (v := 2) dX8_init_519 (by decide) ?_
  refine cw_newa C (atype := .boolean) 2 2 acl_boolean rfl rfl (fun _ => rfl) (by decide) (by decide) (by decide) (by decide) (by decide) dX8_init_520 (fun q15 => ?_)
  obtain ⟨R15, eR15⟩ : ∃ R : va_W, R = R14 ++ [(q15, .inl (G.2.1 2, 2, .inl (fun _ => 0)))] := ⟨_, rfl⟩
  refine cw_ws (ws' := (h, .inr (8, [.ref q1, .ref q2, .int 0, .int 0, .ref q3, .ref q4, .int 0, .int 0, .int 0, .int 0, .int 0, .int 0, .ref q5, .ref q6, .int 0, .int 0, .int 0, .int 0, .int 0, .int 0, .int 0, .int 0, .ref q7, .ref q8, .ref q9, .ref q10, .int 0, .ref q11, .ref q12, .ref q13, .ref q14, .int 0, .int 0, .null, .null, .null, .null, .int 0])) :: R15) (by rw [eR15]; rfl) ?_
  refine cw_putF C hin (j := 33) (ty := .array .boolean) 0 rfl rfl inlX8 (by decide) tyX8 tyX8_ok nmX8 flX8_52 rfl rfl (by decide +kernel) rfl rfl (Nat.le_of_ble_eq_true rfl) dX8_init_522 ?_
  refine cw_ws (ws' := (h, .inr (8, [.ref q1, .ref q2, .int 0, .int 0, .ref q3, .ref q4, .int 0, .int 0, .int 0, .int 0, .int 0, .int 0, .ref q5, .ref q6, .int 0, .int 0, .int 0, .int 0, .int 0, .int 0, .int 0, .int 0, .ref q7, .ref q8, .ref q9, .ref q10, .int 0, .ref q11, .ref q12, .ref q13, .ref q14, .int 0, .int 0, .ref q15, .null, .null, .null, .int 0])) :: R15) rfl ?_
  refine cw_aload_n C 0 dX8_init_525 rfl rfl ?_
  refine cw_iconst C (v := 4) dX8_init_526 (by decide) ?_
  refine cw_newa C (atype := .int) 0 4 acl_int rfl rfl (fun _ => rfl) (by decide) (by decide) (by decide) (by decide) (by decide) dX8_init_527 (fun q16 => ?_)
  refine cw_ws (ws' := ((h, .inr (8, [.ref q1, .ref q2, .int 0, .int 0, .ref q3, .ref q4, .int 0, .int 0, .int 0, .int 0, .int 0, .int 0, .ref q5, .ref q6, .int 0, .int 0, .int 0, .int 0, .int 0, .int 0, .int 0, .int 0, .ref q7, .ref q8, .ref q9, .ref q10, .int 0, .ref q11, .ref q12, .ref q13, .ref q14, .int 0, .int 0, .ref q15, .null, .null, .null, .int 0])) :: R15) ++ [(q16, .inl (G.2.1 0, 4, .inl (fun _ => 0)))]) rfl ?_
  refine ini8_529 C ?_
  obtain ⟨R16, eR16⟩ : ∃ R : va_W, R = R15 ++ [(q16, .inl (G.2.1 0, 4, .inl (stL [(0, (-4)), (1, (-4)), (2, (-4)), (3, (-4))])))] := ⟨_, rfl⟩
  refine cw_ws (ws' := (h, .inr (8, [.ref q1, .ref q2, .int 0, .int 0, .ref q3, .ref q4, .int 0, .int 0, .int 0, .int 0, .int 0, .int 0, .ref q5, .ref q6, .int 0, .int 0, .int 0, .int 0, .int 0, .int 0, .int 0, .int 0, .ref q7, .ref q8, .ref q9, .ref q10, .int 0, .ref q11, .ref q12, .ref q13, .ref q14, .int 0, .int 0, .ref q15, .null, .null, .null, .int 0])) :: R16) (by rw [eR16]; rfl) ?_
  refine cw_putF C hin (j := 34) (ty := .array .int) 0 rfl rfl inlX8 (by decide) tyX8 tyX8_ok nmX8 flX8_56 rfl rfl (by decide +kernel) rfl rfl (Nat.le_of_ble_eq_true rfl) dX8_init_549 ?_
  refine cw_ws (ws' := (h, .inr (8, [.ref q1, .ref q2, .int 0, .int 0, .ref q3, .ref q4, .int 0, .int 0, .int 0, .int 0, .int 0, .int 0, .ref q5, .ref q6, .int 0, .int 0, .int 0, .int 0, .int 0, .int 0, .int 0, .int 0, .ref q7, .ref q8, .ref q9, .ref q10, .int 0, .ref q11, .ref q12, .ref q13, .ref q14, .int 0, .int 0, .ref q15, .ref q16, .null, .null, .int 0])) :: R16) rfl ?_
  refine cw_aload_n C 0 dX8_init_552 rfl rfl ?_
  refine cw_iconst C (v := 4) dX8_init_553 (by decide) ?_
  refine cw_newa C (atype := .int) 0 4 acl_int rfl rfl (fun _ => rfl) (by decide) (by decide) (by decide) (by decide) (by decide) dX8_init_554 (fun q17 => ?_)
  obtain ⟨R17, eR17⟩ : ∃ R : va_W, R = R16 ++ [(q17, .inl (G.2.1 0, 4, .inl (fun _ => 0)))] := ⟨_, rfl⟩
  refine cw_ws (ws' := (h, .inr (8, [.ref q1, .ref q2, .int 0, .int 0, .ref q3, .ref q4, .int 0, .int 0, .int 0, .int 0, .int 0, .int 0, .ref q5, .ref q6, .int 0, .int 0, .int 0, .int 0, .int 0, .int 0, .int 0, .int 0, .ref q7, .ref q8, .ref q9, .ref q10, .int 0, .ref q11, .ref q12, .ref q13, .ref q14, .int 0, .int 0, .ref q15, .ref q16, .null, .null, .int 0])) :: R17) (by rw [eR17]; rfl) ?_
  refine cw_putF C hin (j := 35) (ty := .array .int) 0 rfl rfl inlX8 (by decide) tyX8 tyX8_ok nmX8 flX8_59 rfl rfl (by decide +kernel) rfl rfl (Nat.le_of_ble_eq_true rfl) dX8_init_556 ?_
  refine cw_ws (ws' := (h, .inr (8, [.ref q1, .ref q2, .int 0, .int 0, .ref q3, .ref q4, .int 0, .int 0, .int 0, .int 0, .int 0, .int 0, .ref q5, .ref q6, .int 0, .int 0, .int 0, .int 0, .int 0, .int 0, .int 0, .int 0, .ref q7, .ref q8, .ref q9, .ref q10, .int 0, .ref q11, .ref q12, .ref q13, .ref q14, .int 0, .int 0, .ref q15, .ref q16, .ref q17, .null, .int 0])) :: R17) rfl ?_
  refine cw_aload_n C 0 dX8_init_559 rfl rfl ?_
  refine cw_sipush C (v := 160) dX8_init_560 (by decide) ?_
  refine cw_newa C (atype := .int) 0 160 acl_int rfl rfl (fun _ => rfl) (by decide) (by decide) (by decide) (by decide) (by decide) dX8_init_563 (fun q18 => ?_)
  obtain ⟨R18, eR18⟩ : ∃ R : va_W, R = R17 ++ [(q18, .inl (G.2.1 0, 160, .inl (fun _ => 0)))] := ⟨_, rfl⟩
  refine cw_ws (ws' := (h, .inr (8, [.ref q1, .ref q2, .int 0, .int 0, .ref q3, .ref q4, .int 0, .int 0, .int 0, .int 0, .int 0, .int 0, .ref q5, .ref q6, .int 0, .int 0, .int 0, .int 0, .int 0, .int 0, .int 0, .int 0, .ref q7, .ref q8, .ref q9, .ref q10, .int 0, .ref q11, .ref q12, .ref q13, .ref q14, .int 0, .int 0, .ref q15, .ref q16, .ref q17, .null, .int 0])) :: R18) (by rw [eR18]; rfl) ?_
  refine cw_putF C hin (j := 36) (ty := .array .int) 0 rfl rfl inlX8 (by decide) tyX8 tyX8_ok nmX8 flX8_62 rfl rfl (by decide +kernel) rfl rfl (Nat.le_of_ble_eq_true rfl) dX8_init_565 ?_
  refine cw_ws (ws' := (h, .inr (8, [.ref q1, .ref q2, .int 0, .int 0, .ref q3, .ref q4, .int 0, .int 0, .int 0, .int 0, .int 0, .int 0, .ref q5, .ref q6, .int 0, .int 0, .int 0, .int 0, .int 0, .int 0, .int 0, .int 0, .ref q7, .ref q8, .ref q9, .ref q10, .int 0, .ref q11, .ref q12, .ref q13, .ref q14, .int 0, .int 0, .ref q15, .ref q16, .ref q17, .ref q18, .int 0])) :: R18) rfl ?_
  have ew : (h, .inr (8, [.ref q1, .ref q2, .int 0, .int 0, .ref q3, .ref q4, .int 0, .int 0, .int 0, .int 0, .int 0, .int 0, .ref q5, .ref q6, .int 0, .int 0, .int 0, .int 0, .int 0, .int 0, .int 0, .int 0, .ref q7, .ref q8, .ref q9, .ref q10, .int 0, .ref q11, .ref q12, .ref q13, .ref q14, .int 0, .int 0, .ref q15, .ref q16, .ref q17, .ref q18, .int 0])) :: R18 = [(h, .inr (8, [.ref q1, .ref q2, .int 0, .int 0, .ref q3, .ref q4, .int 0, .int 0, .int 0, .int 0, .int 0, .int 0, .ref q5, .ref q6, .int 0, .int 0, .int 0, .int 0, .int 0, .int 0, .int 0, .int 0, .ref q7, .ref q8, .ref q9, .ref q10, .int 0, .ref q11, .ref q12, .ref q13, .ref q14, .int 0, .int 0, .ref q15, .ref q16, .ref q17, .ref q18, .int 0])), (q1, .inl (G.2.1 0, 228, .inl (fun _ => 0))), (q2, .inl (G.2.1 0, 18, .inl (fun _ => 0))), (q3, .inl (G.2.1 0, 57, .inl (fun _ => 0))), (q4, .inl (G.2.1 0, 18, .inl (fun _ => 0))), (q5, .inl (G.2.1 0, 6, .inl (fun _ => 0))), (q6, .inl (G.2.1 0, 320, .inl (fun _ => 0))), (q7, .inl (G.2.1 0, 13, .inl (stL [(0, 0), (1, 3), (2, 6), (3, 9), (4, 13), (5, 18), (6, 22), (7, 29), (8, 34), (9, 40), (10, 44), (11, 50), (12, 56)]))), (q8, .inl (G.2.1 0, 56, .inl (stL [(0, 108), (1, 97), (2, 119), (3, 102), (4, 101), (5, 101), (6, 111), (7, 110), (8, 101), (9, 99), (10, 111), (11, 105), (12, 110), (13, 115), (14, 112), (15, 101), (16, 110), (17, 100), (18, 116), (19, 97), (20, 108), (21, 107), (22, 99), (23, 108), (24, 105), (25, 112), (26, 112), (27, 101), (28, 100), (29, 112), (30, 108), (31, 97), (32, 105), (33, 110), (34, 103), (35, 111), (36, 115), (37, 115), (38, 105), (39, 112), (40, 100), (41, 101), (42, 97), (43, 102), (44, 98), (45, 101), (46, 103), (47, 103), (48, 97), (49, 114), (50, 116), (51, 97), (52, 120), (53, 109), (54, 97), (55, 110)]))), (q9, .inl (G.2.1 0, 12, .inl (fun _ => 0))), (q10, .inl (G.2.1 0, 12, .inl (fun _ => 0))), (q11, .inl (G.2.1 0, 6, .inl (fun _ => 0))), (q12, .inl (G.2.1 0, 6, .inl (fun _ => 0))), (q13, .inl (G.2.1 0, 100, .inl (fun _ => 0))), (q14, .inl (G.2.1 0, 16, .inl (fun _ => 0))), (q15, .inl (G.2.1 2, 2, .inl (fun _ => 0))), (q16, .inl (G.2.1 0, 4, .inl (stL [(0, (-4)), (1, (-4)), (2, (-4)), (3, (-4))]))), (q17, .inl (G.2.1 0, 4, .inl (fun _ => 0))), (q18, .inl (G.2.1 0, 160, .inl (fun _ => 0)))] := by
    rw [eR18, eR17, eR16, eR15, eR14, eR13, eR12, eR11, eR10, eR9, eR8, eR7, eR6, eR5, eR4, eR3, eR2, eR1]
    rfl
  refine cw_ws (ew.trans w8_eq) ?_
  refine cw_widen (c' := 18) (s' := 1038) (by decide) (by decide) ?_
  exact cw_vret C dX8_init_568 ⟨_, m0, rfl, m0_ok, rfl⟩
