/-! The law's loop, its switch and its cases. -/
abbrev mjLt : mjTab := mjTb mjT_law
theorem mjTb_right {a b : List (Option mjI)} {n m : Nat} (ha : a.length = m) : mjTb (a ++ b) (m + n) = mjTb b n := by
  unfold mjTb
  rw [List.getElem?_append_right (by omega), ha, Nat.add_sub_cancel_left]
theorem mjTb_left {a b : List (Option mjI)} {n m : Nat} (ha : a.length = m) (hn : n < m) : mjTb (a ++ b) n = mjTb a n := by
  unfold mjTb
  rw [List.getElem?_append_left (by omega)]
theorem mjTl_0_len : mjTl_0.length = 150 := by decide +kernel
theorem mjTl_1_len : mjTl_1.length = 150 := by decide +kernel
theorem mjTl_2_len : mjTl_2.length = 150 := by decide +kernel
theorem mjTl_3_len : mjTl_3.length = 150 := by decide +kernel
theorem mjTl_4_len : mjTl_4.length = 150 := by decide +kernel
theorem mjTl_5_len : mjTl_5.length = 150 := by decide +kernel
theorem mjTl_6_len : mjTl_6.length = 150 := by decide +kernel
theorem mjTl_7_len : mjTl_7.length = 150 := by decide +kernel
theorem mjTl_8_len : mjTl_8.length = 150 := by decide +kernel
theorem mjTl_9_len : mjTl_9.length = 113 := by decide +kernel
theorem mjLs_0 (j : Nat) (hj : j < 150) : mjLt (j) = mjTb mjTl_0 j := by
  exact mjTb_left mjTl_0_len hj
theorem mjLs_1 (j : Nat) (hj : j < 150) : mjLt (150 + j) = mjTb mjTl_1 j := by
  refine (mjTb_right (n := j) mjTl_0_len).trans ?_
  exact mjTb_left mjTl_1_len hj
theorem mjLs_2 (j : Nat) (hj : j < 150) : mjLt (300 + j) = mjTb mjTl_2 j := by
  rw [show 300 + j = 150 + (150 + j) by omega]
  refine (mjTb_right (n := 150 + j) mjTl_0_len).trans ?_
  refine (mjTb_right (n := j) mjTl_1_len).trans ?_
  exact mjTb_left mjTl_2_len hj
theorem mjLs_3 (j : Nat) (hj : j < 150) : mjLt (450 + j) = mjTb mjTl_3 j := by
  rw [show 450 + j = 150 + (300 + j) by omega]
  refine (mjTb_right (n := 300 + j) mjTl_0_len).trans ?_
  rw [show 300 + j = 150 + (150 + j) by omega]
  refine (mjTb_right (n := 150 + j) mjTl_1_len).trans ?_
  refine (mjTb_right (n := j) mjTl_2_len).trans ?_
  exact mjTb_left mjTl_3_len hj
theorem mjLs_4 (j : Nat) (hj : j < 150) : mjLt (600 + j) = mjTb mjTl_4 j := by
  rw [show 600 + j = 150 + (450 + j) by omega]
  refine (mjTb_right (n := 450 + j) mjTl_0_len).trans ?_
  rw [show 450 + j = 150 + (300 + j) by omega]
  refine (mjTb_right (n := 300 + j) mjTl_1_len).trans ?_
  rw [show 300 + j = 150 + (150 + j) by omega]
  refine (mjTb_right (n := 150 + j) mjTl_2_len).trans ?_
  refine (mjTb_right (n := j) mjTl_3_len).trans ?_
  exact mjTb_left mjTl_4_len hj
theorem mjLs_5 (j : Nat) (hj : j < 150) : mjLt (750 + j) = mjTb mjTl_5 j := by
  rw [show 750 + j = 150 + (600 + j) by omega]
  refine (mjTb_right (n := 600 + j) mjTl_0_len).trans ?_
  rw [show 600 + j = 150 + (450 + j) by omega]
  refine (mjTb_right (n := 450 + j) mjTl_1_len).trans ?_
  rw [show 450 + j = 150 + (300 + j) by omega]
  refine (mjTb_right (n := 300 + j) mjTl_2_len).trans ?_
  rw [show 300 + j = 150 + (150 + j) by omega]
  refine (mjTb_right (n := 150 + j) mjTl_3_len).trans ?_
  refine (mjTb_right (n := j) mjTl_4_len).trans ?_
  exact mjTb_left mjTl_5_len hj
theorem mjLs_6 (j : Nat) (hj : j < 150) : mjLt (900 + j) = mjTb mjTl_6 j := by
  rw [show 900 + j = 150 + (750 + j) by omega]
  refine (mjTb_right (n := 750 + j) mjTl_0_len).trans ?_
  rw [show 750 + j = 150 + (600 + j) by omega]
  refine (mjTb_right (n := 600 + j) mjTl_1_len).trans ?_
  rw [show 600 + j = 150 + (450 + j) by omega]
  refine (mjTb_right (n := 450 + j) mjTl_2_len).trans ?_
  rw [show 450 + j = 150 + (300 + j) by omega]
  refine (mjTb_right (n := 300 + j) mjTl_3_len).trans ?_
  rw [show 300 + j = 150 + (150 + j) by omega]
  refine (mjTb_right (n := 150 + j) mjTl_4_len).trans ?_
  refine (mjTb_right (n := j) mjTl_5_len).trans ?_
  exact mjTb_left mjTl_6_len hj
theorem mjLs_7 (j : Nat) (hj : j < 150) : mjLt (1050 + j) = mjTb mjTl_7 j := by
  rw [show 1050 + j = 150 + (900 + j) by omega]
  refine (mjTb_right (n := 900 + j) mjTl_0_len).trans ?_
  rw [show 900 + j = 150 + (750 + j) by omega]
  refine (mjTb_right (n := 750 + j) mjTl_1_len).trans ?_
  rw [show 750 + j = 150 + (600 + j) by omega]
  refine (mjTb_right (n := 600 + j) mjTl_2_len).trans ?_
  rw [show 600 + j = 150 + (450 + j) by omega]
  refine (mjTb_right (n := 450 + j) mjTl_3_len).trans ?_
  rw [show 450 + j = 150 + (300 + j) by omega]
  refine (mjTb_right (n := 300 + j) mjTl_4_len).trans ?_
  rw [show 300 + j = 150 + (150 + j) by omega]
  refine (mjTb_right (n := 150 + j) mjTl_5_len).trans ?_
  refine (mjTb_right (n := j) mjTl_6_len).trans ?_
  exact mjTb_left mjTl_7_len hj
theorem mjLs_8 (j : Nat) (hj : j < 150) : mjLt (1200 + j) = mjTb mjTl_8 j := by
  rw [show 1200 + j = 150 + (1050 + j) by omega]
  refine (mjTb_right (n := 1050 + j) mjTl_0_len).trans ?_
  rw [show 1050 + j = 150 + (900 + j) by omega]
  refine (mjTb_right (n := 900 + j) mjTl_1_len).trans ?_
  rw [show 900 + j = 150 + (750 + j) by omega]
  refine (mjTb_right (n := 750 + j) mjTl_2_len).trans ?_
  rw [show 750 + j = 150 + (600 + j) by omega]
  refine (mjTb_right (n := 600 + j) mjTl_3_len).trans ?_
  rw [show 600 + j = 150 + (450 + j) by omega]
  refine (mjTb_right (n := 450 + j) mjTl_4_len).trans ?_
  rw [show 450 + j = 150 + (300 + j) by omega]
  refine (mjTb_right (n := 300 + j) mjTl_5_len).trans ?_
  rw [show 300 + j = 150 + (150 + j) by omega]
  refine (mjTb_right (n := 150 + j) mjTl_6_len).trans ?_
  refine (mjTb_right (n := j) mjTl_7_len).trans ?_
  exact mjTb_left mjTl_8_len hj
theorem mjLs_9 (j : Nat) (hj : j < 113) : mjLt (1350 + j) = mjTb mjTl_9 j := by
  rw [show 1350 + j = 150 + (1200 + j) by omega]
  refine (mjTb_right (n := 1200 + j) mjTl_0_len).trans ?_
  rw [show 1200 + j = 150 + (1050 + j) by omega]
  refine (mjTb_right (n := 1050 + j) mjTl_1_len).trans ?_
  rw [show 1050 + j = 150 + (900 + j) by omega]
  refine (mjTb_right (n := 900 + j) mjTl_2_len).trans ?_
  rw [show 900 + j = 150 + (750 + j) by omega]
  refine (mjTb_right (n := 750 + j) mjTl_3_len).trans ?_
  rw [show 750 + j = 150 + (600 + j) by omega]
  refine (mjTb_right (n := 600 + j) mjTl_4_len).trans ?_
  rw [show 600 + j = 150 + (450 + j) by omega]
  refine (mjTb_right (n := 450 + j) mjTl_5_len).trans ?_
  rw [show 450 + j = 150 + (300 + j) by omega]
  refine (mjTb_right (n := 300 + j) mjTl_6_len).trans ?_
  rw [show 300 + j = 150 + (150 + j) by omega]
  refine (mjTb_right (n := 150 + j) mjTl_7_len).trans ?_
  refine (mjTb_right (n := j) mjTl_8_len).trans ?_
  exact rfl
theorem mjLw_16 : mjLt 16 = some (.iconst 0, 1, mj0) := (mjLs_0 16 (by decide)).trans rfl
theorem mjLw_17 : mjLt 17 = some (.istore_n 3, 1, mj0) := (mjLs_0 17 (by decide)).trans rfl
theorem mjLw_18 : mjLt 18 = some (.iload_n 3, 1, mj0) := (mjLs_0 18 (by decide)).trans rfl
theorem mjLw_19 : mjLt 19 = some (.aload_n 0, 1, mj0) := (mjLs_0 19 (by decide)).trans rfl
theorem mjLw_20 : mjLt 20 = some (.arraylength, 1, mj0) := (mjLs_0 20 (by decide)).trans rfl
theorem mjLw_21 : mjLt 21 = some (.bipush 6, 2, mj0) := (mjLs_0 21 (by decide)).trans rfl
theorem mjLw_23 : mjLt 23 = some (.isub, 1, mj0) := (mjLs_0 23 (by decide)).trans rfl
theorem mjLw_24 : mjLt 24 = some (.if_icmp .gt 1437, 3, mj0) := (mjLs_0 24 (by decide)).trans rfl
theorem mjLw_27 : mjLt 27 = some (.aload_n 0, 1, mj0) := (mjLs_0 27 (by decide)).trans rfl
theorem mjLw_28 : mjLt 28 = some (.iload_n 3, 1, mj0) := (mjLs_0 28 (by decide)).trans rfl
theorem mjLw_29 : mjLt 29 = some (.iaload, 1, mj0) := (mjLs_0 29 (by decide)).trans rfl
theorem mjLw_30 : mjLt 30 = some (.bipush 63, 2, mj0) := (mjLs_0 30 (by decide)).trans rfl
theorem mjLw_32 : mjLt 32 = some (.iand, 1, mj0) := (mjLs_0 32 (by decide)).trans rfl
theorem mjLw_33 : mjLt 33 = some (.tableswitch 1422 0 41 #[183, 226, 309, 332, 365, 378, 401, 424, 457, 500, 523, 566, 619, 652, 685, 718, 761, 784, 807, 830, 853, 876, 909, 962, 1005, 1019, 1052, 1075, 1098, 1121, 1154, 1187, 1210, 1233, 1256, 1269, 1292, 1315, 1349, 1362, 1385, 1408], 183, mj0) := (mjLs_0 33 (by decide)).trans rfl
theorem mjLw_216 : mjLt 216 = some (.aload_n 1, 1, mj0) := (mjLs_1 66 (by decide)).trans rfl
theorem mjLw_217 : mjLt 217 = some (.aload_n 0, 1, mj0) := (mjLs_1 67 (by decide)).trans rfl
theorem mjLw_218 : mjLt 218 = some (.iload_n 3, 1, mj0) := (mjLs_1 68 (by decide)).trans rfl
theorem mjLw_219 : mjLt 219 = some (.iconst 1, 1, mj0) := (mjLs_1 69 (by decide)).trans rfl
theorem mjLw_220 : mjLt 220 = some (.iadd, 1, mj0) := (mjLs_1 70 (by decide)).trans rfl
theorem mjLw_221 : mjLt 221 = some (.iaload, 1, mj0) := (mjLs_1 71 (by decide)).trans rfl
theorem mjLw_222 : mjLt 222 = some (.aload_n 0, 1, mj0) := (mjLs_1 72 (by decide)).trans rfl
theorem mjLw_223 : mjLt 223 = some (.iload_n 3, 1, mj0) := (mjLs_1 73 (by decide)).trans rfl
theorem mjLw_224 : mjLt 224 = some (.iconst 2, 1, mj0) := (mjLs_1 74 (by decide)).trans rfl
theorem mjLw_225 : mjLt 225 = some (.iadd, 1, mj0) := (mjLs_1 75 (by decide)).trans rfl
theorem mjLw_226 : mjLt 226 = some (.iaload, 1, mj0) := (mjLs_1 76 (by decide)).trans rfl
theorem mjLw_227 : mjLt 227 = some (.aload_n 0, 1, mj0) := (mjLs_1 77 (by decide)).trans rfl
theorem mjLw_228 : mjLt 228 = some (.iload_n 3, 1, mj0) := (mjLs_1 78 (by decide)).trans rfl
theorem mjLw_229 : mjLt 229 = some (.iconst 3, 1, mj0) := (mjLs_1 79 (by decide)).trans rfl
theorem mjLw_230 : mjLt 230 = some (.iadd, 1, mj0) := (mjLs_1 80 (by decide)).trans rfl
theorem mjLw_231 : mjLt 231 = some (.iaload, 1, mj0) := (mjLs_1 81 (by decide)).trans rfl
theorem mjLw_232 : mjLt 232 = some (.invokevirtual 13, 3, (3, 12, 3, 10, 327, .null)) := (mjLs_1 82 (by decide)).trans rfl
theorem mjLw_235 : mjLt 235 = some (.aload_n 2, 1, mj0) := (mjLs_1 85 (by decide)).trans rfl
theorem mjLw_236 : mjLt 236 = some (.aload_n 0, 1, mj0) := (mjLs_1 86 (by decide)).trans rfl
theorem mjLw_237 : mjLt 237 = some (.iload_n 3, 1, mj0) := (mjLs_1 87 (by decide)).trans rfl
theorem mjLw_238 : mjLt 238 = some (.iconst 1, 1, mj0) := (mjLs_1 88 (by decide)).trans rfl
theorem mjLw_239 : mjLt 239 = some (.iadd, 1, mj0) := (mjLs_1 89 (by decide)).trans rfl
theorem mjLw_240 : mjLt 240 = some (.iaload, 1, mj0) := (mjLs_1 90 (by decide)).trans rfl
theorem mjLw_241 : mjLt 241 = some (.aload_n 0, 1, mj0) := (mjLs_1 91 (by decide)).trans rfl
theorem mjLw_242 : mjLt 242 = some (.iload_n 3, 1, mj0) := (mjLs_1 92 (by decide)).trans rfl
theorem mjLw_243 : mjLt 243 = some (.iconst 2, 1, mj0) := (mjLs_1 93 (by decide)).trans rfl
theorem mjLw_244 : mjLt 244 = some (.iadd, 1, mj0) := (mjLs_1 94 (by decide)).trans rfl
theorem mjLw_245 : mjLt 245 = some (.iaload, 1, mj0) := (mjLs_1 95 (by decide)).trans rfl
theorem mjLw_246 : mjLt 246 = some (.aload_n 0, 1, mj0) := (mjLs_1 96 (by decide)).trans rfl
theorem mjLw_247 : mjLt 247 = some (.iload_n 3, 1, mj0) := (mjLs_1 97 (by decide)).trans rfl
theorem mjLw_248 : mjLt 248 = some (.iconst 3, 1, mj0) := (mjLs_1 98 (by decide)).trans rfl
theorem mjLw_249 : mjLt 249 = some (.iadd, 1, mj0) := (mjLs_1 99 (by decide)).trans rfl
theorem mjLw_250 : mjLt 250 = some (.iaload, 1, mj0) := (mjLs_1 100 (by decide)).trans rfl
theorem mjLw_251 : mjLt 251 = some (.invokevirtual 17, 3, (3, 167, 3, 11, 1180, .null)) := (mjLs_1 101 (by decide)).trans rfl
theorem mjLw_254 : mjLt 254 = some (.if_icmp .eq 1201, 3, mj0) := (mjLs_1 104 (by decide)).trans rfl
theorem mjLw_257 : mjLt 257 = some (.iconst 0, 1, mj0) := (mjLs_1 107 (by decide)).trans rfl
theorem mjLw_258 : mjLt 258 = some (.ireturn, 1, mj0) := (mjLs_1 108 (by decide)).trans rfl
theorem mjLw_259 : mjLt 259 = some (.aload_n 1, 1, mj0) := (mjLs_1 109 (by decide)).trans rfl
theorem mjLw_260 : mjLt 260 = some (.aload_n 0, 1, mj0) := (mjLs_1 110 (by decide)).trans rfl
theorem mjLw_261 : mjLt 261 = some (.iload_n 3, 1, mj0) := (mjLs_1 111 (by decide)).trans rfl
theorem mjLw_262 : mjLt 262 = some (.iconst 1, 1, mj0) := (mjLs_1 112 (by decide)).trans rfl
theorem mjLw_263 : mjLt 263 = some (.iadd, 1, mj0) := (mjLs_1 113 (by decide)).trans rfl
theorem mjLw_264 : mjLt 264 = some (.iaload, 1, mj0) := (mjLs_1 114 (by decide)).trans rfl
theorem mjLw_265 : mjLt 265 = some (.aload_n 0, 1, mj0) := (mjLs_1 115 (by decide)).trans rfl
theorem mjLw_266 : mjLt 266 = some (.iload_n 3, 1, mj0) := (mjLs_1 116 (by decide)).trans rfl
theorem mjLw_267 : mjLt 267 = some (.iconst 2, 1, mj0) := (mjLs_1 117 (by decide)).trans rfl
theorem mjLw_268 : mjLt 268 = some (.iadd, 1, mj0) := (mjLs_1 118 (by decide)).trans rfl
theorem mjLw_269 : mjLt 269 = some (.iaload, 1, mj0) := (mjLs_1 119 (by decide)).trans rfl
theorem mjLw_270 : mjLt 270 = some (.aload_n 0, 1, mj0) := (mjLs_1 120 (by decide)).trans rfl
theorem mjLw_271 : mjLt 271 = some (.iload_n 3, 1, mj0) := (mjLs_1 121 (by decide)).trans rfl
theorem mjLw_272 : mjLt 272 = some (.iconst 3, 1, mj0) := (mjLs_1 122 (by decide)).trans rfl
theorem mjLw_273 : mjLt 273 = some (.iadd, 1, mj0) := (mjLs_1 123 (by decide)).trans rfl
theorem mjLw_274 : mjLt 274 = some (.iaload, 1, mj0) := (mjLs_1 124 (by decide)).trans rfl
theorem mjLw_275 : mjLt 275 = some (.aload_n 0, 1, mj0) := (mjLs_1 125 (by decide)).trans rfl
theorem mjLw_276 : mjLt 276 = some (.iload_n 3, 1, mj0) := (mjLs_1 126 (by decide)).trans rfl
theorem mjLw_277 : mjLt 277 = some (.iconst 4, 1, mj0) := (mjLs_1 127 (by decide)).trans rfl
theorem mjLw_278 : mjLt 278 = some (.iadd, 1, mj0) := (mjLs_1 128 (by decide)).trans rfl
theorem mjLw_279 : mjLt 279 = some (.iaload, 1, mj0) := (mjLs_1 129 (by decide)).trans rfl
theorem mjLw_280 : mjLt 280 = some (.i2l, 1, mj0) := (mjLs_1 130 (by decide)).trans rfl
theorem mjLw_281 : mjLt 281 = some (.bipush 32, 2, mj0) := (mjLs_1 131 (by decide)).trans rfl
theorem mjLw_283 : mjLt 283 = some (.lshl, 1, mj0) := (mjLs_1 133 (by decide)).trans rfl
theorem mjLw_284 : mjLt 284 = some (.aload_n 0, 1, mj0) := (mjLs_1 134 (by decide)).trans rfl
theorem mjLw_285 : mjLt 285 = some (.iload_n 3, 1, mj0) := (mjLs_1 135 (by decide)).trans rfl
theorem mjLw_286 : mjLt 286 = some (.iconst 5, 1, mj0) := (mjLs_1 136 (by decide)).trans rfl
theorem mjLw_287 : mjLt 287 = some (.iadd, 1, mj0) := (mjLs_1 137 (by decide)).trans rfl
theorem mjLw_288 : mjLt 288 = some (.iaload, 1, mj0) := (mjLs_1 138 (by decide)).trans rfl
theorem mjLw_289 : mjLt 289 = some (.i2l, 1, mj0) := (mjLs_1 139 (by decide)).trans rfl
theorem mjLw_290 : mjLt 290 = some (.ldc2_w 18, 3, (7, 0, 0, 0, 1573, .long (4294967295))) := (mjLs_1 140 (by decide)).trans rfl
theorem mjLw_293 : mjLt 293 = some (.land, 1, mj0) := (mjLs_1 143 (by decide)).trans rfl
theorem mjLw_294 : mjLt 294 = some (.lor, 1, mj0) := (mjLs_1 144 (by decide)).trans rfl
theorem mjLw_295 : mjLt 295 = some (.invokevirtual 20, 3, (3, 17, 4, 10, 349, .null)) := (mjLs_1 145 (by decide)).trans rfl
theorem mjLw_298 : mjLt 298 = some (.aload_n 2, 1, mj0) := (mjLs_1 148 (by decide)).trans rfl
theorem mjLw_299 : mjLt 299 = some (.aload_n 0, 1, mj0) := (mjLs_1 149 (by decide)).trans rfl
theorem mjLw_300 : mjLt 300 = some (.iload_n 3, 1, mj0) := (mjLs_2 0 (by decide)).trans rfl
theorem mjLw_301 : mjLt 301 = some (.iconst 1, 1, mj0) := (mjLs_2 1 (by decide)).trans rfl
theorem mjLw_302 : mjLt 302 = some (.iadd, 1, mj0) := (mjLs_2 2 (by decide)).trans rfl
theorem mjLw_303 : mjLt 303 = some (.iaload, 1, mj0) := (mjLs_2 3 (by decide)).trans rfl
theorem mjLw_304 : mjLt 304 = some (.aload_n 0, 1, mj0) := (mjLs_2 4 (by decide)).trans rfl
theorem mjLw_305 : mjLt 305 = some (.iload_n 3, 1, mj0) := (mjLs_2 5 (by decide)).trans rfl
theorem mjLw_306 : mjLt 306 = some (.iconst 2, 1, mj0) := (mjLs_2 6 (by decide)).trans rfl
theorem mjLw_307 : mjLt 307 = some (.iadd, 1, mj0) := (mjLs_2 7 (by decide)).trans rfl
theorem mjLw_308 : mjLt 308 = some (.iaload, 1, mj0) := (mjLs_2 8 (by decide)).trans rfl
theorem mjLw_309 : mjLt 309 = some (.aload_n 0, 1, mj0) := (mjLs_2 9 (by decide)).trans rfl
theorem mjLw_310 : mjLt 310 = some (.iload_n 3, 1, mj0) := (mjLs_2 10 (by decide)).trans rfl
theorem mjLw_311 : mjLt 311 = some (.iconst 3, 1, mj0) := (mjLs_2 11 (by decide)).trans rfl
theorem mjLw_312 : mjLt 312 = some (.iadd, 1, mj0) := (mjLs_2 12 (by decide)).trans rfl
theorem mjLw_313 : mjLt 313 = some (.iaload, 1, mj0) := (mjLs_2 13 (by decide)).trans rfl
theorem mjLw_314 : mjLt 314 = some (.aload_n 0, 1, mj0) := (mjLs_2 14 (by decide)).trans rfl
theorem mjLw_315 : mjLt 315 = some (.iload_n 3, 1, mj0) := (mjLs_2 15 (by decide)).trans rfl
theorem mjLw_316 : mjLt 316 = some (.iconst 4, 1, mj0) := (mjLs_2 16 (by decide)).trans rfl
theorem mjLw_317 : mjLt 317 = some (.iadd, 1, mj0) := (mjLs_2 17 (by decide)).trans rfl
theorem mjLw_318 : mjLt 318 = some (.iaload, 1, mj0) := (mjLs_2 18 (by decide)).trans rfl
theorem mjLw_319 : mjLt 319 = some (.i2l, 1, mj0) := (mjLs_2 19 (by decide)).trans rfl
theorem mjLw_320 : mjLt 320 = some (.bipush 32, 2, mj0) := (mjLs_2 20 (by decide)).trans rfl
theorem mjLw_322 : mjLt 322 = some (.lshl, 1, mj0) := (mjLs_2 22 (by decide)).trans rfl
theorem mjLw_323 : mjLt 323 = some (.aload_n 0, 1, mj0) := (mjLs_2 23 (by decide)).trans rfl
theorem mjLw_324 : mjLt 324 = some (.iload_n 3, 1, mj0) := (mjLs_2 24 (by decide)).trans rfl
theorem mjLw_325 : mjLt 325 = some (.iconst 5, 1, mj0) := (mjLs_2 25 (by decide)).trans rfl
theorem mjLw_326 : mjLt 326 = some (.iadd, 1, mj0) := (mjLs_2 26 (by decide)).trans rfl
theorem mjLw_327 : mjLt 327 = some (.iaload, 1, mj0) := (mjLs_2 27 (by decide)).trans rfl
theorem mjLw_328 : mjLt 328 = some (.i2l, 1, mj0) := (mjLs_2 28 (by decide)).trans rfl
theorem mjLw_329 : mjLt 329 = some (.ldc2_w 18, 3, (7, 0, 0, 0, 1573, .long (4294967295))) := (mjLs_2 29 (by decide)).trans rfl
theorem mjLw_332 : mjLt 332 = some (.land, 1, mj0) := (mjLs_2 32 (by decide)).trans rfl
theorem mjLw_333 : mjLt 333 = some (.lor, 1, mj0) := (mjLs_2 33 (by decide)).trans rfl
theorem mjLw_334 : mjLt 334 = some (.invokevirtual 24, 3, (3, 171, 4, 11, 1194, .null)) := (mjLs_2 34 (by decide)).trans rfl
theorem mjLw_337 : mjLt 337 = some (.if_icmp .eq 1118, 3, mj0) := (mjLs_2 37 (by decide)).trans rfl
theorem mjLw_340 : mjLt 340 = some (.iconst 0, 1, mj0) := (mjLs_2 40 (by decide)).trans rfl
theorem mjLw_341 : mjLt 341 = some (.ireturn, 1, mj0) := (mjLs_2 41 (by decide)).trans rfl
theorem mjLw_342 : mjLt 342 = some (.aload_n 1, 1, mj0) := (mjLs_2 42 (by decide)).trans rfl
theorem mjLw_343 : mjLt 343 = some (.aload_n 0, 1, mj0) := (mjLs_2 43 (by decide)).trans rfl
theorem mjLw_344 : mjLt 344 = some (.iload_n 3, 1, mj0) := (mjLs_2 44 (by decide)).trans rfl
theorem mjLw_345 : mjLt 345 = some (.iconst 1, 1, mj0) := (mjLs_2 45 (by decide)).trans rfl
theorem mjLw_346 : mjLt 346 = some (.iadd, 1, mj0) := (mjLs_2 46 (by decide)).trans rfl
theorem mjLw_347 : mjLt 347 = some (.iaload, 1, mj0) := (mjLs_2 47 (by decide)).trans rfl
theorem mjLw_348 : mjLt 348 = some (.invokevirtual 25, 3, (3, 22, 1, 10, 373, .null)) := (mjLs_2 48 (by decide)).trans rfl
theorem mjLw_351 : mjLt 351 = some (.aload_n 2, 1, mj0) := (mjLs_2 51 (by decide)).trans rfl
theorem mjLw_352 : mjLt 352 = some (.aload_n 0, 1, mj0) := (mjLs_2 52 (by decide)).trans rfl
theorem mjLw_353 : mjLt 353 = some (.iload_n 3, 1, mj0) := (mjLs_2 53 (by decide)).trans rfl
theorem mjLw_354 : mjLt 354 = some (.iconst 1, 1, mj0) := (mjLs_2 54 (by decide)).trans rfl
theorem mjLw_355 : mjLt 355 = some (.iadd, 1, mj0) := (mjLs_2 55 (by decide)).trans rfl
theorem mjLw_356 : mjLt 356 = some (.iaload, 1, mj0) := (mjLs_2 56 (by decide)).trans rfl
theorem mjLw_357 : mjLt 357 = some (.invokevirtual 29, 3, (3, 172, 1, 11, 1201, .null)) := (mjLs_2 57 (by decide)).trans rfl
theorem mjLw_360 : mjLt 360 = some (.if_icmp .eq 1095, 3, mj0) := (mjLs_2 60 (by decide)).trans rfl
theorem mjLw_363 : mjLt 363 = some (.iconst 0, 1, mj0) := (mjLs_2 63 (by decide)).trans rfl
theorem mjLw_364 : mjLt 364 = some (.ireturn, 1, mj0) := (mjLs_2 64 (by decide)).trans rfl
theorem mjLw_365 : mjLt 365 = some (.aload_n 1, 1, mj0) := (mjLs_2 65 (by decide)).trans rfl
theorem mjLw_366 : mjLt 366 = some (.aload_n 0, 1, mj0) := (mjLs_2 66 (by decide)).trans rfl
theorem mjLw_367 : mjLt 367 = some (.iload_n 3, 1, mj0) := (mjLs_2 67 (by decide)).trans rfl
theorem mjLw_368 : mjLt 368 = some (.iconst 1, 1, mj0) := (mjLs_2 68 (by decide)).trans rfl
theorem mjLw_369 : mjLt 369 = some (.iadd, 1, mj0) := (mjLs_2 69 (by decide)).trans rfl
theorem mjLw_370 : mjLt 370 = some (.iaload, 1, mj0) := (mjLs_2 70 (by decide)).trans rfl
theorem mjLw_371 : mjLt 371 = some (.aload_n 0, 1, mj0) := (mjLs_2 71 (by decide)).trans rfl
theorem mjLw_372 : mjLt 372 = some (.iload_n 3, 1, mj0) := (mjLs_2 72 (by decide)).trans rfl
theorem mjLw_373 : mjLt 373 = some (.iconst 2, 1, mj0) := (mjLs_2 73 (by decide)).trans rfl
theorem mjLw_374 : mjLt 374 = some (.iadd, 1, mj0) := (mjLs_2 74 (by decide)).trans rfl
theorem mjLw_375 : mjLt 375 = some (.iaload, 1, mj0) := (mjLs_2 75 (by decide)).trans rfl
theorem mjLw_376 : mjLt 376 = some (.invokevirtual 30, 3, (3, 24, 2, 10, 381, .null)) := (mjLs_2 76 (by decide)).trans rfl
theorem mjLw_379 : mjLt 379 = some (.aload_n 2, 1, mj0) := (mjLs_2 79 (by decide)).trans rfl
theorem mjLw_380 : mjLt 380 = some (.aload_n 0, 1, mj0) := (mjLs_2 80 (by decide)).trans rfl
theorem mjLw_381 : mjLt 381 = some (.iload_n 3, 1, mj0) := (mjLs_2 81 (by decide)).trans rfl
theorem mjLw_382 : mjLt 382 = some (.iconst 1, 1, mj0) := (mjLs_2 82 (by decide)).trans rfl
theorem mjLw_383 : mjLt 383 = some (.iadd, 1, mj0) := (mjLs_2 83 (by decide)).trans rfl
theorem mjLw_384 : mjLt 384 = some (.iaload, 1, mj0) := (mjLs_2 84 (by decide)).trans rfl
theorem mjLw_385 : mjLt 385 = some (.aload_n 0, 1, mj0) := (mjLs_2 85 (by decide)).trans rfl
theorem mjLw_386 : mjLt 386 = some (.iload_n 3, 1, mj0) := (mjLs_2 86 (by decide)).trans rfl
theorem mjLw_387 : mjLt 387 = some (.iconst 2, 1, mj0) := (mjLs_2 87 (by decide)).trans rfl
theorem mjLw_388 : mjLt 388 = some (.iadd, 1, mj0) := (mjLs_2 88 (by decide)).trans rfl
theorem mjLw_389 : mjLt 389 = some (.iaload, 1, mj0) := (mjLs_2 89 (by decide)).trans rfl
theorem mjLw_390 : mjLt 390 = some (.invokevirtual 34, 3, (3, 173, 2, 11, 1205, .null)) := (mjLs_2 90 (by decide)).trans rfl
theorem mjLw_393 : mjLt 393 = some (.if_icmp .eq 1062, 3, mj0) := (mjLs_2 93 (by decide)).trans rfl
theorem mjLw_396 : mjLt 396 = some (.iconst 0, 1, mj0) := (mjLs_2 96 (by decide)).trans rfl
theorem mjLw_397 : mjLt 397 = some (.ireturn, 1, mj0) := (mjLs_2 97 (by decide)).trans rfl
theorem mjLw_398 : mjLt 398 = some (.aload_n 1, 1, mj0) := (mjLs_2 98 (by decide)).trans rfl
theorem mjLw_399 : mjLt 399 = some (.invokevirtual 35, 3, (3, 46, 0, 10, 473, .null)) := (mjLs_2 99 (by decide)).trans rfl
theorem mjLw_402 : mjLt 402 = some (.aload_n 2, 1, mj0) := (mjLs_2 102 (by decide)).trans rfl
theorem mjLw_403 : mjLt 403 = some (.invokevirtual 39, 3, (3, 179, 0, 11, 1243, .null)) := (mjLs_2 103 (by decide)).trans rfl
theorem mjLw_406 : mjLt 406 = some (.if_icmp .eq 1049, 3, mj0) := (mjLs_2 106 (by decide)).trans rfl
theorem mjLw_409 : mjLt 409 = some (.iconst 0, 1, mj0) := (mjLs_2 109 (by decide)).trans rfl
theorem mjLw_410 : mjLt 410 = some (.ireturn, 1, mj0) := (mjLs_2 110 (by decide)).trans rfl
theorem mjLw_411 : mjLt 411 = some (.aload_n 1, 1, mj0) := (mjLs_2 111 (by decide)).trans rfl
theorem mjLw_412 : mjLt 412 = some (.aload_n 0, 1, mj0) := (mjLs_2 112 (by decide)).trans rfl
theorem mjLw_413 : mjLt 413 = some (.iload_n 3, 1, mj0) := (mjLs_2 113 (by decide)).trans rfl
theorem mjLw_414 : mjLt 414 = some (.iconst 1, 1, mj0) := (mjLs_2 114 (by decide)).trans rfl
theorem mjLw_415 : mjLt 415 = some (.iadd, 1, mj0) := (mjLs_2 115 (by decide)).trans rfl
theorem mjLw_416 : mjLt 416 = some (.iaload, 1, mj0) := (mjLs_2 116 (by decide)).trans rfl
theorem mjLw_417 : mjLt 417 = some (.invokevirtual 40, 3, (3, 47, 1, 10, 477, .null)) := (mjLs_2 117 (by decide)).trans rfl
theorem mjLw_420 : mjLt 420 = some (.aload_n 2, 1, mj0) := (mjLs_2 120 (by decide)).trans rfl
theorem mjLw_421 : mjLt 421 = some (.aload_n 0, 1, mj0) := (mjLs_2 121 (by decide)).trans rfl
theorem mjLw_422 : mjLt 422 = some (.iload_n 3, 1, mj0) := (mjLs_2 122 (by decide)).trans rfl
theorem mjLw_423 : mjLt 423 = some (.iconst 1, 1, mj0) := (mjLs_2 123 (by decide)).trans rfl
theorem mjLw_424 : mjLt 424 = some (.iadd, 1, mj0) := (mjLs_2 124 (by decide)).trans rfl
theorem mjLw_425 : mjLt 425 = some (.iaload, 1, mj0) := (mjLs_2 125 (by decide)).trans rfl
theorem mjLw_426 : mjLt 426 = some (.invokevirtual 43, 3, (3, 180, 1, 11, 1247, .null)) := (mjLs_2 126 (by decide)).trans rfl
theorem mjLw_429 : mjLt 429 = some (.if_icmp .eq 1026, 3, mj0) := (mjLs_2 129 (by decide)).trans rfl
theorem mjLw_432 : mjLt 432 = some (.iconst 0, 1, mj0) := (mjLs_2 132 (by decide)).trans rfl
theorem mjLw_433 : mjLt 433 = some (.ireturn, 1, mj0) := (mjLs_2 133 (by decide)).trans rfl
theorem mjLw_434 : mjLt 434 = some (.aload_n 1, 1, mj0) := (mjLs_2 134 (by decide)).trans rfl
theorem mjLw_435 : mjLt 435 = some (.aload_n 0, 1, mj0) := (mjLs_2 135 (by decide)).trans rfl
theorem mjLw_436 : mjLt 436 = some (.iload_n 3, 1, mj0) := (mjLs_2 136 (by decide)).trans rfl
theorem mjLw_437 : mjLt 437 = some (.iconst 1, 1, mj0) := (mjLs_2 137 (by decide)).trans rfl
theorem mjLw_438 : mjLt 438 = some (.iadd, 1, mj0) := (mjLs_2 138 (by decide)).trans rfl
theorem mjLw_439 : mjLt 439 = some (.iaload, 1, mj0) := (mjLs_2 139 (by decide)).trans rfl
theorem mjLw_440 : mjLt 440 = some (.invokevirtual 44, 3, (3, 49, 1, 10, 485, .null)) := (mjLs_2 140 (by decide)).trans rfl
theorem mjLw_443 : mjLt 443 = some (.aload_n 2, 1, mj0) := (mjLs_2 143 (by decide)).trans rfl
theorem mjLw_444 : mjLt 444 = some (.aload_n 0, 1, mj0) := (mjLs_2 144 (by decide)).trans rfl
theorem mjLw_445 : mjLt 445 = some (.iload_n 3, 1, mj0) := (mjLs_2 145 (by decide)).trans rfl
theorem mjLw_446 : mjLt 446 = some (.iconst 1, 1, mj0) := (mjLs_2 146 (by decide)).trans rfl
theorem mjLw_447 : mjLt 447 = some (.iadd, 1, mj0) := (mjLs_2 147 (by decide)).trans rfl
theorem mjLw_448 : mjLt 448 = some (.iaload, 1, mj0) := (mjLs_2 148 (by decide)).trans rfl
theorem mjLw_449 : mjLt 449 = some (.invokevirtual 47, 3, (3, 182, 1, 11, 1255, .null)) := (mjLs_2 149 (by decide)).trans rfl
theorem mjLw_452 : mjLt 452 = some (.if_icmp .eq 1003, 3, mj0) := (mjLs_3 2 (by decide)).trans rfl
theorem mjLw_455 : mjLt 455 = some (.iconst 0, 1, mj0) := (mjLs_3 5 (by decide)).trans rfl
theorem mjLw_456 : mjLt 456 = some (.ireturn, 1, mj0) := (mjLs_3 6 (by decide)).trans rfl
theorem mjLw_457 : mjLt 457 = some (.aload_n 1, 1, mj0) := (mjLs_3 7 (by decide)).trans rfl
theorem mjLw_458 : mjLt 458 = some (.aload_n 0, 1, mj0) := (mjLs_3 8 (by decide)).trans rfl
theorem mjLw_459 : mjLt 459 = some (.iload_n 3, 1, mj0) := (mjLs_3 9 (by decide)).trans rfl
theorem mjLw_460 : mjLt 460 = some (.iconst 1, 1, mj0) := (mjLs_3 10 (by decide)).trans rfl
theorem mjLw_461 : mjLt 461 = some (.iadd, 1, mj0) := (mjLs_3 11 (by decide)).trans rfl
theorem mjLw_462 : mjLt 462 = some (.iaload, 1, mj0) := (mjLs_3 12 (by decide)).trans rfl
theorem mjLw_463 : mjLt 463 = some (.aload_n 0, 1, mj0) := (mjLs_3 13 (by decide)).trans rfl
theorem mjLw_464 : mjLt 464 = some (.iload_n 3, 1, mj0) := (mjLs_3 14 (by decide)).trans rfl
theorem mjLw_465 : mjLt 465 = some (.iconst 2, 1, mj0) := (mjLs_3 15 (by decide)).trans rfl
theorem mjLw_466 : mjLt 466 = some (.iadd, 1, mj0) := (mjLs_3 16 (by decide)).trans rfl
theorem mjLw_467 : mjLt 467 = some (.iaload, 1, mj0) := (mjLs_3 17 (by decide)).trans rfl
theorem mjLw_468 : mjLt 468 = some (.invokevirtual 48, 3, (3, 50, 2, 10, 489, .null)) := (mjLs_3 18 (by decide)).trans rfl
theorem mjLw_471 : mjLt 471 = some (.aload_n 2, 1, mj0) := (mjLs_3 21 (by decide)).trans rfl
theorem mjLw_472 : mjLt 472 = some (.aload_n 0, 1, mj0) := (mjLs_3 22 (by decide)).trans rfl
theorem mjLw_473 : mjLt 473 = some (.iload_n 3, 1, mj0) := (mjLs_3 23 (by decide)).trans rfl
theorem mjLw_474 : mjLt 474 = some (.iconst 1, 1, mj0) := (mjLs_3 24 (by decide)).trans rfl
theorem mjLw_475 : mjLt 475 = some (.iadd, 1, mj0) := (mjLs_3 25 (by decide)).trans rfl
theorem mjLw_476 : mjLt 476 = some (.iaload, 1, mj0) := (mjLs_3 26 (by decide)).trans rfl
theorem mjLw_477 : mjLt 477 = some (.aload_n 0, 1, mj0) := (mjLs_3 27 (by decide)).trans rfl
theorem mjLw_478 : mjLt 478 = some (.iload_n 3, 1, mj0) := (mjLs_3 28 (by decide)).trans rfl
theorem mjLw_479 : mjLt 479 = some (.iconst 2, 1, mj0) := (mjLs_3 29 (by decide)).trans rfl
theorem mjLw_480 : mjLt 480 = some (.iadd, 1, mj0) := (mjLs_3 30 (by decide)).trans rfl
theorem mjLw_481 : mjLt 481 = some (.iaload, 1, mj0) := (mjLs_3 31 (by decide)).trans rfl
theorem mjLw_482 : mjLt 482 = some (.invokevirtual 51, 3, (3, 183, 2, 11, 1259, .null)) := (mjLs_3 32 (by decide)).trans rfl
theorem mjLw_485 : mjLt 485 = some (.if_icmp .eq 970, 3, mj0) := (mjLs_3 35 (by decide)).trans rfl
theorem mjLw_488 : mjLt 488 = some (.iconst 0, 1, mj0) := (mjLs_3 38 (by decide)).trans rfl
theorem mjLw_489 : mjLt 489 = some (.ireturn, 1, mj0) := (mjLs_3 39 (by decide)).trans rfl
theorem mjLw_490 : mjLt 490 = some (.aload_n 1, 1, mj0) := (mjLs_3 40 (by decide)).trans rfl
theorem mjLw_491 : mjLt 491 = some (.aload_n 0, 1, mj0) := (mjLs_3 41 (by decide)).trans rfl
theorem mjLw_492 : mjLt 492 = some (.iload_n 3, 1, mj0) := (mjLs_3 42 (by decide)).trans rfl
theorem mjLw_493 : mjLt 493 = some (.iconst 1, 1, mj0) := (mjLs_3 43 (by decide)).trans rfl
theorem mjLw_494 : mjLt 494 = some (.iadd, 1, mj0) := (mjLs_3 44 (by decide)).trans rfl
theorem mjLw_495 : mjLt 495 = some (.iaload, 1, mj0) := (mjLs_3 45 (by decide)).trans rfl
theorem mjLw_496 : mjLt 496 = some (.aload_n 0, 1, mj0) := (mjLs_3 46 (by decide)).trans rfl
theorem mjLw_497 : mjLt 497 = some (.iload_n 3, 1, mj0) := (mjLs_3 47 (by decide)).trans rfl
theorem mjLw_498 : mjLt 498 = some (.iconst 2, 1, mj0) := (mjLs_3 48 (by decide)).trans rfl
theorem mjLw_499 : mjLt 499 = some (.iadd, 1, mj0) := (mjLs_3 49 (by decide)).trans rfl
theorem mjLw_500 : mjLt 500 = some (.iaload, 1, mj0) := (mjLs_3 50 (by decide)).trans rfl
theorem mjLw_501 : mjLt 501 = some (.aload_n 0, 1, mj0) := (mjLs_3 51 (by decide)).trans rfl
theorem mjLw_502 : mjLt 502 = some (.iload_n 3, 1, mj0) := (mjLs_3 52 (by decide)).trans rfl
theorem mjLw_503 : mjLt 503 = some (.iconst 3, 1, mj0) := (mjLs_3 53 (by decide)).trans rfl
theorem mjLw_504 : mjLt 504 = some (.iadd, 1, mj0) := (mjLs_3 54 (by decide)).trans rfl
theorem mjLw_505 : mjLt 505 = some (.iaload, 1, mj0) := (mjLs_3 55 (by decide)).trans rfl
theorem mjLw_506 : mjLt 506 = some (.invokevirtual 52, 3, (3, 51, 3, 10, 493, .null)) := (mjLs_3 56 (by decide)).trans rfl
theorem mjLw_509 : mjLt 509 = some (.aload_n 2, 1, mj0) := (mjLs_3 59 (by decide)).trans rfl
theorem mjLw_510 : mjLt 510 = some (.aload_n 0, 1, mj0) := (mjLs_3 60 (by decide)).trans rfl
theorem mjLw_511 : mjLt 511 = some (.iload_n 3, 1, mj0) := (mjLs_3 61 (by decide)).trans rfl
theorem mjLw_512 : mjLt 512 = some (.iconst 1, 1, mj0) := (mjLs_3 62 (by decide)).trans rfl
theorem mjLw_513 : mjLt 513 = some (.iadd, 1, mj0) := (mjLs_3 63 (by decide)).trans rfl
theorem mjLw_514 : mjLt 514 = some (.iaload, 1, mj0) := (mjLs_3 64 (by decide)).trans rfl
theorem mjLw_515 : mjLt 515 = some (.aload_n 0, 1, mj0) := (mjLs_3 65 (by decide)).trans rfl
theorem mjLw_516 : mjLt 516 = some (.iload_n 3, 1, mj0) := (mjLs_3 66 (by decide)).trans rfl
theorem mjLw_517 : mjLt 517 = some (.iconst 2, 1, mj0) := (mjLs_3 67 (by decide)).trans rfl
theorem mjLw_518 : mjLt 518 = some (.iadd, 1, mj0) := (mjLs_3 68 (by decide)).trans rfl
theorem mjLw_519 : mjLt 519 = some (.iaload, 1, mj0) := (mjLs_3 69 (by decide)).trans rfl
theorem mjLw_520 : mjLt 520 = some (.aload_n 0, 1, mj0) := (mjLs_3 70 (by decide)).trans rfl
theorem mjLw_521 : mjLt 521 = some (.iload_n 3, 1, mj0) := (mjLs_3 71 (by decide)).trans rfl
theorem mjLw_522 : mjLt 522 = some (.iconst 3, 1, mj0) := (mjLs_3 72 (by decide)).trans rfl
theorem mjLw_523 : mjLt 523 = some (.iadd, 1, mj0) := (mjLs_3 73 (by decide)).trans rfl
theorem mjLw_524 : mjLt 524 = some (.iaload, 1, mj0) := (mjLs_3 74 (by decide)).trans rfl
theorem mjLw_525 : mjLt 525 = some (.invokevirtual 55, 3, (3, 184, 3, 11, 1263, .null)) := (mjLs_3 75 (by decide)).trans rfl
theorem mjLw_528 : mjLt 528 = some (.if_icmp .eq 927, 3, mj0) := (mjLs_3 78 (by decide)).trans rfl
theorem mjLw_531 : mjLt 531 = some (.iconst 0, 1, mj0) := (mjLs_3 81 (by decide)).trans rfl
theorem mjLw_532 : mjLt 532 = some (.ireturn, 1, mj0) := (mjLs_3 82 (by decide)).trans rfl
theorem mjLw_533 : mjLt 533 = some (.aload_n 1, 1, mj0) := (mjLs_3 83 (by decide)).trans rfl
theorem mjLw_534 : mjLt 534 = some (.aload_n 0, 1, mj0) := (mjLs_3 84 (by decide)).trans rfl
theorem mjLw_535 : mjLt 535 = some (.iload_n 3, 1, mj0) := (mjLs_3 85 (by decide)).trans rfl
theorem mjLw_536 : mjLt 536 = some (.iconst 1, 1, mj0) := (mjLs_3 86 (by decide)).trans rfl
theorem mjLw_537 : mjLt 537 = some (.iadd, 1, mj0) := (mjLs_3 87 (by decide)).trans rfl
theorem mjLw_538 : mjLt 538 = some (.iaload, 1, mj0) := (mjLs_3 88 (by decide)).trans rfl
theorem mjLw_539 : mjLt 539 = some (.invokevirtual 56, 3, (3, 52, 1, 10, 499, .null)) := (mjLs_3 89 (by decide)).trans rfl
theorem mjLw_542 : mjLt 542 = some (.aload_n 2, 1, mj0) := (mjLs_3 92 (by decide)).trans rfl
theorem mjLw_543 : mjLt 543 = some (.aload_n 0, 1, mj0) := (mjLs_3 93 (by decide)).trans rfl
theorem mjLw_544 : mjLt 544 = some (.iload_n 3, 1, mj0) := (mjLs_3 94 (by decide)).trans rfl
theorem mjLw_545 : mjLt 545 = some (.iconst 1, 1, mj0) := (mjLs_3 95 (by decide)).trans rfl
theorem mjLw_546 : mjLt 546 = some (.iadd, 1, mj0) := (mjLs_3 96 (by decide)).trans rfl
theorem mjLw_547 : mjLt 547 = some (.iaload, 1, mj0) := (mjLs_3 97 (by decide)).trans rfl
theorem mjLw_548 : mjLt 548 = some (.invokevirtual 59, 3, (3, 187, 1, 11, 1275, .null)) := (mjLs_3 98 (by decide)).trans rfl
theorem mjLw_551 : mjLt 551 = some (.if_icmp .eq 904, 3, mj0) := (mjLs_3 101 (by decide)).trans rfl
theorem mjLw_554 : mjLt 554 = some (.iconst 0, 1, mj0) := (mjLs_3 104 (by decide)).trans rfl
theorem mjLw_555 : mjLt 555 = some (.ireturn, 1, mj0) := (mjLs_3 105 (by decide)).trans rfl
theorem mjLw_556 : mjLt 556 = some (.aload_n 1, 1, mj0) := (mjLs_3 106 (by decide)).trans rfl
theorem mjLw_557 : mjLt 557 = some (.aload_n 0, 1, mj0) := (mjLs_3 107 (by decide)).trans rfl
theorem mjLw_558 : mjLt 558 = some (.iload_n 3, 1, mj0) := (mjLs_3 108 (by decide)).trans rfl
theorem mjLw_559 : mjLt 559 = some (.iconst 1, 1, mj0) := (mjLs_3 109 (by decide)).trans rfl
theorem mjLw_560 : mjLt 560 = some (.iadd, 1, mj0) := (mjLs_3 110 (by decide)).trans rfl
theorem mjLw_561 : mjLt 561 = some (.iaload, 1, mj0) := (mjLs_3 111 (by decide)).trans rfl
theorem mjLw_562 : mjLt 562 = some (.aload_n 0, 1, mj0) := (mjLs_3 112 (by decide)).trans rfl
theorem mjLw_563 : mjLt 563 = some (.iload_n 3, 1, mj0) := (mjLs_3 113 (by decide)).trans rfl
theorem mjLw_564 : mjLt 564 = some (.iconst 2, 1, mj0) := (mjLs_3 114 (by decide)).trans rfl
theorem mjLw_565 : mjLt 565 = some (.iadd, 1, mj0) := (mjLs_3 115 (by decide)).trans rfl
theorem mjLw_566 : mjLt 566 = some (.iaload, 1, mj0) := (mjLs_3 116 (by decide)).trans rfl
theorem mjLw_567 : mjLt 567 = some (.aload_n 0, 1, mj0) := (mjLs_3 117 (by decide)).trans rfl
theorem mjLw_568 : mjLt 568 = some (.iload_n 3, 1, mj0) := (mjLs_3 118 (by decide)).trans rfl
theorem mjLw_569 : mjLt 569 = some (.iconst 3, 1, mj0) := (mjLs_3 119 (by decide)).trans rfl
theorem mjLw_570 : mjLt 570 = some (.iadd, 1, mj0) := (mjLs_3 120 (by decide)).trans rfl
theorem mjLw_571 : mjLt 571 = some (.iaload, 1, mj0) := (mjLs_3 121 (by decide)).trans rfl
theorem mjLw_572 : mjLt 572 = some (.invokevirtual 60, 3, (3, 54, 3, 10, 508, .null)) := (mjLs_3 122 (by decide)).trans rfl
theorem mjLw_575 : mjLt 575 = some (.aload_n 2, 1, mj0) := (mjLs_3 125 (by decide)).trans rfl
theorem mjLw_576 : mjLt 576 = some (.aload_n 0, 1, mj0) := (mjLs_3 126 (by decide)).trans rfl
theorem mjLw_577 : mjLt 577 = some (.iload_n 3, 1, mj0) := (mjLs_3 127 (by decide)).trans rfl
theorem mjLw_578 : mjLt 578 = some (.iconst 1, 1, mj0) := (mjLs_3 128 (by decide)).trans rfl
theorem mjLw_579 : mjLt 579 = some (.iadd, 1, mj0) := (mjLs_3 129 (by decide)).trans rfl
theorem mjLw_580 : mjLt 580 = some (.iaload, 1, mj0) := (mjLs_3 130 (by decide)).trans rfl
theorem mjLw_581 : mjLt 581 = some (.aload_n 0, 1, mj0) := (mjLs_3 131 (by decide)).trans rfl
theorem mjLw_582 : mjLt 582 = some (.iload_n 3, 1, mj0) := (mjLs_3 132 (by decide)).trans rfl
theorem mjLw_583 : mjLt 583 = some (.iconst 2, 1, mj0) := (mjLs_3 133 (by decide)).trans rfl
theorem mjLw_584 : mjLt 584 = some (.iadd, 1, mj0) := (mjLs_3 134 (by decide)).trans rfl
theorem mjLw_585 : mjLt 585 = some (.iaload, 1, mj0) := (mjLs_3 135 (by decide)).trans rfl
theorem mjLw_586 : mjLt 586 = some (.aload_n 0, 1, mj0) := (mjLs_3 136 (by decide)).trans rfl
theorem mjLw_587 : mjLt 587 = some (.iload_n 3, 1, mj0) := (mjLs_3 137 (by decide)).trans rfl
theorem mjLw_588 : mjLt 588 = some (.iconst 3, 1, mj0) := (mjLs_3 138 (by decide)).trans rfl
theorem mjLw_589 : mjLt 589 = some (.iadd, 1, mj0) := (mjLs_3 139 (by decide)).trans rfl
theorem mjLw_590 : mjLt 590 = some (.iaload, 1, mj0) := (mjLs_3 140 (by decide)).trans rfl
theorem mjLw_591 : mjLt 591 = some (.invokevirtual 63, 3, (3, 188, 3, 11, 1279, .null)) := (mjLs_3 141 (by decide)).trans rfl
theorem mjLw_594 : mjLt 594 = some (.if_icmp .eq 861, 3, mj0) := (mjLs_3 144 (by decide)).trans rfl
theorem mjLw_597 : mjLt 597 = some (.iconst 0, 1, mj0) := (mjLs_3 147 (by decide)).trans rfl
theorem mjLw_598 : mjLt 598 = some (.ireturn, 1, mj0) := (mjLs_3 148 (by decide)).trans rfl
theorem mjLw_599 : mjLt 599 = some (.aload_n 1, 1, mj0) := (mjLs_3 149 (by decide)).trans rfl
theorem mjLw_600 : mjLt 600 = some (.aload_n 0, 1, mj0) := (mjLs_4 0 (by decide)).trans rfl
theorem mjLw_601 : mjLt 601 = some (.iload_n 3, 1, mj0) := (mjLs_4 1 (by decide)).trans rfl
theorem mjLw_602 : mjLt 602 = some (.iconst 1, 1, mj0) := (mjLs_4 2 (by decide)).trans rfl
theorem mjLw_603 : mjLt 603 = some (.iadd, 1, mj0) := (mjLs_4 3 (by decide)).trans rfl
theorem mjLw_604 : mjLt 604 = some (.iaload, 1, mj0) := (mjLs_4 4 (by decide)).trans rfl
theorem mjLw_605 : mjLt 605 = some (.aload_n 0, 1, mj0) := (mjLs_4 5 (by decide)).trans rfl
theorem mjLw_606 : mjLt 606 = some (.iload_n 3, 1, mj0) := (mjLs_4 6 (by decide)).trans rfl
theorem mjLw_607 : mjLt 607 = some (.iconst 2, 1, mj0) := (mjLs_4 7 (by decide)).trans rfl
theorem mjLw_608 : mjLt 608 = some (.iadd, 1, mj0) := (mjLs_4 8 (by decide)).trans rfl
theorem mjLw_609 : mjLt 609 = some (.iaload, 1, mj0) := (mjLs_4 9 (by decide)).trans rfl
theorem mjLw_610 : mjLt 610 = some (.aload_n 0, 1, mj0) := (mjLs_4 10 (by decide)).trans rfl
theorem mjLw_611 : mjLt 611 = some (.iload_n 3, 1, mj0) := (mjLs_4 11 (by decide)).trans rfl
theorem mjLw_612 : mjLt 612 = some (.iconst 3, 1, mj0) := (mjLs_4 12 (by decide)).trans rfl
theorem mjLw_613 : mjLt 613 = some (.iadd, 1, mj0) := (mjLs_4 13 (by decide)).trans rfl
theorem mjLw_614 : mjLt 614 = some (.iaload, 1, mj0) := (mjLs_4 14 (by decide)).trans rfl
theorem mjLw_615 : mjLt 615 = some (.aload_n 0, 1, mj0) := (mjLs_4 15 (by decide)).trans rfl
theorem mjLw_616 : mjLt 616 = some (.iload_n 3, 1, mj0) := (mjLs_4 16 (by decide)).trans rfl
theorem mjLw_617 : mjLt 617 = some (.iconst 4, 1, mj0) := (mjLs_4 17 (by decide)).trans rfl
theorem mjLw_618 : mjLt 618 = some (.iadd, 1, mj0) := (mjLs_4 18 (by decide)).trans rfl
theorem mjLw_619 : mjLt 619 = some (.iaload, 1, mj0) := (mjLs_4 19 (by decide)).trans rfl
theorem mjLw_620 : mjLt 620 = some (.invokevirtual 64, 3, (3, 56, 4, 10, 516, .null)) := (mjLs_4 20 (by decide)).trans rfl
theorem mjLw_623 : mjLt 623 = some (.aload_n 2, 1, mj0) := (mjLs_4 23 (by decide)).trans rfl
theorem mjLw_624 : mjLt 624 = some (.aload_n 0, 1, mj0) := (mjLs_4 24 (by decide)).trans rfl
theorem mjLw_625 : mjLt 625 = some (.iload_n 3, 1, mj0) := (mjLs_4 25 (by decide)).trans rfl
theorem mjLw_626 : mjLt 626 = some (.iconst 1, 1, mj0) := (mjLs_4 26 (by decide)).trans rfl
theorem mjLw_627 : mjLt 627 = some (.iadd, 1, mj0) := (mjLs_4 27 (by decide)).trans rfl
theorem mjLw_628 : mjLt 628 = some (.iaload, 1, mj0) := (mjLs_4 28 (by decide)).trans rfl
theorem mjLw_629 : mjLt 629 = some (.aload_n 0, 1, mj0) := (mjLs_4 29 (by decide)).trans rfl
theorem mjLw_630 : mjLt 630 = some (.iload_n 3, 1, mj0) := (mjLs_4 30 (by decide)).trans rfl
theorem mjLw_631 : mjLt 631 = some (.iconst 2, 1, mj0) := (mjLs_4 31 (by decide)).trans rfl
theorem mjLw_632 : mjLt 632 = some (.iadd, 1, mj0) := (mjLs_4 32 (by decide)).trans rfl
theorem mjLw_633 : mjLt 633 = some (.iaload, 1, mj0) := (mjLs_4 33 (by decide)).trans rfl
theorem mjLw_634 : mjLt 634 = some (.aload_n 0, 1, mj0) := (mjLs_4 34 (by decide)).trans rfl
theorem mjLw_635 : mjLt 635 = some (.iload_n 3, 1, mj0) := (mjLs_4 35 (by decide)).trans rfl
theorem mjLw_636 : mjLt 636 = some (.iconst 3, 1, mj0) := (mjLs_4 36 (by decide)).trans rfl
theorem mjLw_637 : mjLt 637 = some (.iadd, 1, mj0) := (mjLs_4 37 (by decide)).trans rfl
theorem mjLw_638 : mjLt 638 = some (.iaload, 1, mj0) := (mjLs_4 38 (by decide)).trans rfl
theorem mjLw_639 : mjLt 639 = some (.aload_n 0, 1, mj0) := (mjLs_4 39 (by decide)).trans rfl
theorem mjLw_640 : mjLt 640 = some (.iload_n 3, 1, mj0) := (mjLs_4 40 (by decide)).trans rfl
theorem mjLw_641 : mjLt 641 = some (.iconst 4, 1, mj0) := (mjLs_4 41 (by decide)).trans rfl
theorem mjLw_642 : mjLt 642 = some (.iadd, 1, mj0) := (mjLs_4 42 (by decide)).trans rfl
theorem mjLw_643 : mjLt 643 = some (.iaload, 1, mj0) := (mjLs_4 43 (by decide)).trans rfl
theorem mjLw_644 : mjLt 644 = some (.invokevirtual 68, 3, (3, 189, 4, 11, 1283, .null)) := (mjLs_4 44 (by decide)).trans rfl
theorem mjLw_647 : mjLt 647 = some (.if_icmp .eq 808, 3, mj0) := (mjLs_4 47 (by decide)).trans rfl
theorem mjLw_650 : mjLt 650 = some (.iconst 0, 1, mj0) := (mjLs_4 50 (by decide)).trans rfl
theorem mjLw_651 : mjLt 651 = some (.ireturn, 1, mj0) := (mjLs_4 51 (by decide)).trans rfl
theorem mjLw_652 : mjLt 652 = some (.aload_n 1, 1, mj0) := (mjLs_4 52 (by decide)).trans rfl
theorem mjLw_653 : mjLt 653 = some (.aload_n 0, 1, mj0) := (mjLs_4 53 (by decide)).trans rfl
theorem mjLw_654 : mjLt 654 = some (.iload_n 3, 1, mj0) := (mjLs_4 54 (by decide)).trans rfl
theorem mjLw_655 : mjLt 655 = some (.iconst 1, 1, mj0) := (mjLs_4 55 (by decide)).trans rfl
theorem mjLw_656 : mjLt 656 = some (.iadd, 1, mj0) := (mjLs_4 56 (by decide)).trans rfl
theorem mjLw_657 : mjLt 657 = some (.iaload, 1, mj0) := (mjLs_4 57 (by decide)).trans rfl
theorem mjLw_658 : mjLt 658 = some (.aload_n 0, 1, mj0) := (mjLs_4 58 (by decide)).trans rfl
theorem mjLw_659 : mjLt 659 = some (.iload_n 3, 1, mj0) := (mjLs_4 59 (by decide)).trans rfl
theorem mjLw_660 : mjLt 660 = some (.iconst 2, 1, mj0) := (mjLs_4 60 (by decide)).trans rfl
theorem mjLw_661 : mjLt 661 = some (.iadd, 1, mj0) := (mjLs_4 61 (by decide)).trans rfl
theorem mjLw_662 : mjLt 662 = some (.iaload, 1, mj0) := (mjLs_4 62 (by decide)).trans rfl
theorem mjLw_663 : mjLt 663 = some (.invokevirtual 69, 3, (3, 60, 2, 10, 535, .null)) := (mjLs_4 63 (by decide)).trans rfl
theorem mjLw_666 : mjLt 666 = some (.aload_n 2, 1, mj0) := (mjLs_4 66 (by decide)).trans rfl
theorem mjLw_667 : mjLt 667 = some (.aload_n 0, 1, mj0) := (mjLs_4 67 (by decide)).trans rfl
theorem mjLw_668 : mjLt 668 = some (.iload_n 3, 1, mj0) := (mjLs_4 68 (by decide)).trans rfl
theorem mjLw_669 : mjLt 669 = some (.iconst 1, 1, mj0) := (mjLs_4 69 (by decide)).trans rfl
theorem mjLw_670 : mjLt 670 = some (.iadd, 1, mj0) := (mjLs_4 70 (by decide)).trans rfl
theorem mjLw_671 : mjLt 671 = some (.iaload, 1, mj0) := (mjLs_4 71 (by decide)).trans rfl
theorem mjLw_672 : mjLt 672 = some (.aload_n 0, 1, mj0) := (mjLs_4 72 (by decide)).trans rfl
theorem mjLw_673 : mjLt 673 = some (.iload_n 3, 1, mj0) := (mjLs_4 73 (by decide)).trans rfl
theorem mjLw_674 : mjLt 674 = some (.iconst 2, 1, mj0) := (mjLs_4 74 (by decide)).trans rfl
theorem mjLw_675 : mjLt 675 = some (.iadd, 1, mj0) := (mjLs_4 75 (by decide)).trans rfl
theorem mjLw_676 : mjLt 676 = some (.iaload, 1, mj0) := (mjLs_4 76 (by decide)).trans rfl
theorem mjLw_677 : mjLt 677 = some (.invokevirtual 72, 3, (3, 192, 2, 11, 1295, .null)) := (mjLs_4 77 (by decide)).trans rfl
theorem mjLw_680 : mjLt 680 = some (.if_icmp .eq 775, 3, mj0) := (mjLs_4 80 (by decide)).trans rfl
theorem mjLw_683 : mjLt 683 = some (.iconst 0, 1, mj0) := (mjLs_4 83 (by decide)).trans rfl
theorem mjLw_684 : mjLt 684 = some (.ireturn, 1, mj0) := (mjLs_4 84 (by decide)).trans rfl
theorem mjLw_685 : mjLt 685 = some (.aload_n 1, 1, mj0) := (mjLs_4 85 (by decide)).trans rfl
theorem mjLw_686 : mjLt 686 = some (.aload_n 0, 1, mj0) := (mjLs_4 86 (by decide)).trans rfl
theorem mjLw_687 : mjLt 687 = some (.iload_n 3, 1, mj0) := (mjLs_4 87 (by decide)).trans rfl
theorem mjLw_688 : mjLt 688 = some (.iconst 1, 1, mj0) := (mjLs_4 88 (by decide)).trans rfl
theorem mjLw_689 : mjLt 689 = some (.iadd, 1, mj0) := (mjLs_4 89 (by decide)).trans rfl
theorem mjLw_690 : mjLt 690 = some (.iaload, 1, mj0) := (mjLs_4 90 (by decide)).trans rfl
theorem mjLw_691 : mjLt 691 = some (.aload_n 0, 1, mj0) := (mjLs_4 91 (by decide)).trans rfl
theorem mjLw_692 : mjLt 692 = some (.iload_n 3, 1, mj0) := (mjLs_4 92 (by decide)).trans rfl
theorem mjLw_693 : mjLt 693 = some (.iconst 2, 1, mj0) := (mjLs_4 93 (by decide)).trans rfl
theorem mjLw_694 : mjLt 694 = some (.iadd, 1, mj0) := (mjLs_4 94 (by decide)).trans rfl
theorem mjLw_695 : mjLt 695 = some (.iaload, 1, mj0) := (mjLs_4 95 (by decide)).trans rfl
theorem mjLw_696 : mjLt 696 = some (.invokevirtual 73, 3, (3, 62, 2, 10, 543, .null)) := (mjLs_4 96 (by decide)).trans rfl
theorem mjLw_699 : mjLt 699 = some (.aload_n 2, 1, mj0) := (mjLs_4 99 (by decide)).trans rfl
theorem mjLw_700 : mjLt 700 = some (.aload_n 0, 1, mj0) := (mjLs_4 100 (by decide)).trans rfl
theorem mjLw_701 : mjLt 701 = some (.iload_n 3, 1, mj0) := (mjLs_4 101 (by decide)).trans rfl
theorem mjLw_702 : mjLt 702 = some (.iconst 1, 1, mj0) := (mjLs_4 102 (by decide)).trans rfl
theorem mjLw_703 : mjLt 703 = some (.iadd, 1, mj0) := (mjLs_4 103 (by decide)).trans rfl
theorem mjLw_704 : mjLt 704 = some (.iaload, 1, mj0) := (mjLs_4 104 (by decide)).trans rfl
theorem mjLw_705 : mjLt 705 = some (.aload_n 0, 1, mj0) := (mjLs_4 105 (by decide)).trans rfl
theorem mjLw_706 : mjLt 706 = some (.iload_n 3, 1, mj0) := (mjLs_4 106 (by decide)).trans rfl
theorem mjLw_707 : mjLt 707 = some (.iconst 2, 1, mj0) := (mjLs_4 107 (by decide)).trans rfl
theorem mjLw_708 : mjLt 708 = some (.iadd, 1, mj0) := (mjLs_4 108 (by decide)).trans rfl
theorem mjLw_709 : mjLt 709 = some (.iaload, 1, mj0) := (mjLs_4 109 (by decide)).trans rfl
theorem mjLw_710 : mjLt 710 = some (.invokevirtual 76, 3, (3, 193, 2, 11, 1299, .null)) := (mjLs_4 110 (by decide)).trans rfl
theorem mjLw_713 : mjLt 713 = some (.if_icmp .eq 742, 3, mj0) := (mjLs_4 113 (by decide)).trans rfl
theorem mjLw_716 : mjLt 716 = some (.iconst 0, 1, mj0) := (mjLs_4 116 (by decide)).trans rfl
theorem mjLw_717 : mjLt 717 = some (.ireturn, 1, mj0) := (mjLs_4 117 (by decide)).trans rfl
theorem mjLw_718 : mjLt 718 = some (.aload_n 1, 1, mj0) := (mjLs_4 118 (by decide)).trans rfl
theorem mjLw_719 : mjLt 719 = some (.aload_n 0, 1, mj0) := (mjLs_4 119 (by decide)).trans rfl
theorem mjLw_720 : mjLt 720 = some (.iload_n 3, 1, mj0) := (mjLs_4 120 (by decide)).trans rfl
theorem mjLw_721 : mjLt 721 = some (.iconst 1, 1, mj0) := (mjLs_4 121 (by decide)).trans rfl
theorem mjLw_722 : mjLt 722 = some (.iadd, 1, mj0) := (mjLs_4 122 (by decide)).trans rfl
theorem mjLw_723 : mjLt 723 = some (.iaload, 1, mj0) := (mjLs_4 123 (by decide)).trans rfl
theorem mjLw_724 : mjLt 724 = some (.aload_n 0, 1, mj0) := (mjLs_4 124 (by decide)).trans rfl
theorem mjLw_725 : mjLt 725 = some (.iload_n 3, 1, mj0) := (mjLs_4 125 (by decide)).trans rfl
theorem mjLw_726 : mjLt 726 = some (.iconst 2, 1, mj0) := (mjLs_4 126 (by decide)).trans rfl
theorem mjLw_727 : mjLt 727 = some (.iadd, 1, mj0) := (mjLs_4 127 (by decide)).trans rfl
theorem mjLw_728 : mjLt 728 = some (.iaload, 1, mj0) := (mjLs_4 128 (by decide)).trans rfl
theorem mjLw_729 : mjLt 729 = some (.invokevirtual 77, 3, (3, 64, 2, 10, 551, .null)) := (mjLs_4 129 (by decide)).trans rfl
theorem mjLw_732 : mjLt 732 = some (.aload_n 2, 1, mj0) := (mjLs_4 132 (by decide)).trans rfl
theorem mjLw_733 : mjLt 733 = some (.aload_n 0, 1, mj0) := (mjLs_4 133 (by decide)).trans rfl
theorem mjLw_734 : mjLt 734 = some (.iload_n 3, 1, mj0) := (mjLs_4 134 (by decide)).trans rfl
theorem mjLw_735 : mjLt 735 = some (.iconst 1, 1, mj0) := (mjLs_4 135 (by decide)).trans rfl
theorem mjLw_736 : mjLt 736 = some (.iadd, 1, mj0) := (mjLs_4 136 (by decide)).trans rfl
theorem mjLw_737 : mjLt 737 = some (.iaload, 1, mj0) := (mjLs_4 137 (by decide)).trans rfl
theorem mjLw_738 : mjLt 738 = some (.aload_n 0, 1, mj0) := (mjLs_4 138 (by decide)).trans rfl
theorem mjLw_739 : mjLt 739 = some (.iload_n 3, 1, mj0) := (mjLs_4 139 (by decide)).trans rfl
theorem mjLw_740 : mjLt 740 = some (.iconst 2, 1, mj0) := (mjLs_4 140 (by decide)).trans rfl
theorem mjLw_741 : mjLt 741 = some (.iadd, 1, mj0) := (mjLs_4 141 (by decide)).trans rfl
theorem mjLw_742 : mjLt 742 = some (.iaload, 1, mj0) := (mjLs_4 142 (by decide)).trans rfl
theorem mjLw_743 : mjLt 743 = some (.invokevirtual 80, 3, (3, 194, 2, 11, 1303, .null)) := (mjLs_4 143 (by decide)).trans rfl
theorem mjLw_746 : mjLt 746 = some (.if_icmp .eq 709, 3, mj0) := (mjLs_4 146 (by decide)).trans rfl
theorem mjLw_749 : mjLt 749 = some (.iconst 0, 1, mj0) := (mjLs_4 149 (by decide)).trans rfl
theorem mjLw_750 : mjLt 750 = some (.ireturn, 1, mj0) := (mjLs_5 0 (by decide)).trans rfl
theorem mjLw_751 : mjLt 751 = some (.aload_n 1, 1, mj0) := (mjLs_5 1 (by decide)).trans rfl
theorem mjLw_752 : mjLt 752 = some (.aload_n 0, 1, mj0) := (mjLs_5 2 (by decide)).trans rfl
theorem mjLw_753 : mjLt 753 = some (.iload_n 3, 1, mj0) := (mjLs_5 3 (by decide)).trans rfl
theorem mjLw_754 : mjLt 754 = some (.iconst 1, 1, mj0) := (mjLs_5 4 (by decide)).trans rfl
theorem mjLw_755 : mjLt 755 = some (.iadd, 1, mj0) := (mjLs_5 5 (by decide)).trans rfl
theorem mjLw_756 : mjLt 756 = some (.iaload, 1, mj0) := (mjLs_5 6 (by decide)).trans rfl
theorem mjLw_757 : mjLt 757 = some (.aload_n 0, 1, mj0) := (mjLs_5 7 (by decide)).trans rfl
theorem mjLw_758 : mjLt 758 = some (.iload_n 3, 1, mj0) := (mjLs_5 8 (by decide)).trans rfl
theorem mjLw_759 : mjLt 759 = some (.iconst 2, 1, mj0) := (mjLs_5 9 (by decide)).trans rfl
theorem mjLw_760 : mjLt 760 = some (.iadd, 1, mj0) := (mjLs_5 10 (by decide)).trans rfl
theorem mjLw_761 : mjLt 761 = some (.iaload, 1, mj0) := (mjLs_5 11 (by decide)).trans rfl
theorem mjLw_762 : mjLt 762 = some (.aload_n 0, 1, mj0) := (mjLs_5 12 (by decide)).trans rfl
theorem mjLw_763 : mjLt 763 = some (.iload_n 3, 1, mj0) := (mjLs_5 13 (by decide)).trans rfl
theorem mjLw_764 : mjLt 764 = some (.iconst 3, 1, mj0) := (mjLs_5 14 (by decide)).trans rfl
theorem mjLw_765 : mjLt 765 = some (.iadd, 1, mj0) := (mjLs_5 15 (by decide)).trans rfl
theorem mjLw_766 : mjLt 766 = some (.iaload, 1, mj0) := (mjLs_5 16 (by decide)).trans rfl
theorem mjLw_767 : mjLt 767 = some (.invokevirtual 81, 3, (3, 65, 3, 10, 556, .null)) := (mjLs_5 17 (by decide)).trans rfl
theorem mjLw_770 : mjLt 770 = some (.aload_n 2, 1, mj0) := (mjLs_5 20 (by decide)).trans rfl
theorem mjLw_771 : mjLt 771 = some (.aload_n 0, 1, mj0) := (mjLs_5 21 (by decide)).trans rfl
theorem mjLw_772 : mjLt 772 = some (.iload_n 3, 1, mj0) := (mjLs_5 22 (by decide)).trans rfl
theorem mjLw_773 : mjLt 773 = some (.iconst 1, 1, mj0) := (mjLs_5 23 (by decide)).trans rfl
theorem mjLw_774 : mjLt 774 = some (.iadd, 1, mj0) := (mjLs_5 24 (by decide)).trans rfl
theorem mjLw_775 : mjLt 775 = some (.iaload, 1, mj0) := (mjLs_5 25 (by decide)).trans rfl
theorem mjLw_776 : mjLt 776 = some (.aload_n 0, 1, mj0) := (mjLs_5 26 (by decide)).trans rfl
theorem mjLw_777 : mjLt 777 = some (.iload_n 3, 1, mj0) := (mjLs_5 27 (by decide)).trans rfl
theorem mjLw_778 : mjLt 778 = some (.iconst 2, 1, mj0) := (mjLs_5 28 (by decide)).trans rfl
theorem mjLw_779 : mjLt 779 = some (.iadd, 1, mj0) := (mjLs_5 29 (by decide)).trans rfl
theorem mjLw_780 : mjLt 780 = some (.iaload, 1, mj0) := (mjLs_5 30 (by decide)).trans rfl
theorem mjLw_781 : mjLt 781 = some (.aload_n 0, 1, mj0) := (mjLs_5 31 (by decide)).trans rfl
theorem mjLw_782 : mjLt 782 = some (.iload_n 3, 1, mj0) := (mjLs_5 32 (by decide)).trans rfl
theorem mjLw_783 : mjLt 783 = some (.iconst 3, 1, mj0) := (mjLs_5 33 (by decide)).trans rfl
theorem mjLw_784 : mjLt 784 = some (.iadd, 1, mj0) := (mjLs_5 34 (by decide)).trans rfl
theorem mjLw_785 : mjLt 785 = some (.iaload, 1, mj0) := (mjLs_5 35 (by decide)).trans rfl
theorem mjLw_786 : mjLt 786 = some (.invokevirtual 84, 3, (3, 195, 3, 11, 1307, .null)) := (mjLs_5 36 (by decide)).trans rfl
theorem mjLw_789 : mjLt 789 = some (.if_icmp .eq 666, 3, mj0) := (mjLs_5 39 (by decide)).trans rfl
theorem mjLw_792 : mjLt 792 = some (.iconst 0, 1, mj0) := (mjLs_5 42 (by decide)).trans rfl
theorem mjLw_793 : mjLt 793 = some (.ireturn, 1, mj0) := (mjLs_5 43 (by decide)).trans rfl
theorem mjLw_794 : mjLt 794 = some (.aload_n 1, 1, mj0) := (mjLs_5 44 (by decide)).trans rfl
theorem mjLw_795 : mjLt 795 = some (.aload_n 0, 1, mj0) := (mjLs_5 45 (by decide)).trans rfl
theorem mjLw_796 : mjLt 796 = some (.iload_n 3, 1, mj0) := (mjLs_5 46 (by decide)).trans rfl
theorem mjLw_797 : mjLt 797 = some (.iconst 1, 1, mj0) := (mjLs_5 47 (by decide)).trans rfl
theorem mjLw_798 : mjLt 798 = some (.iadd, 1, mj0) := (mjLs_5 48 (by decide)).trans rfl
theorem mjLw_799 : mjLt 799 = some (.iaload, 1, mj0) := (mjLs_5 49 (by decide)).trans rfl
theorem mjLw_800 : mjLt 800 = some (.invokevirtual 85, 3, (3, 68, 1, 10, 568, .null)) := (mjLs_5 50 (by decide)).trans rfl
theorem mjLw_803 : mjLt 803 = some (.aload_n 2, 1, mj0) := (mjLs_5 53 (by decide)).trans rfl
theorem mjLw_804 : mjLt 804 = some (.aload_n 0, 1, mj0) := (mjLs_5 54 (by decide)).trans rfl
theorem mjLw_805 : mjLt 805 = some (.iload_n 3, 1, mj0) := (mjLs_5 55 (by decide)).trans rfl
theorem mjLw_806 : mjLt 806 = some (.iconst 1, 1, mj0) := (mjLs_5 56 (by decide)).trans rfl
theorem mjLw_807 : mjLt 807 = some (.iadd, 1, mj0) := (mjLs_5 57 (by decide)).trans rfl
theorem mjLw_808 : mjLt 808 = some (.iaload, 1, mj0) := (mjLs_5 58 (by decide)).trans rfl
theorem mjLw_809 : mjLt 809 = some (.invokevirtual 88, 3, (3, 197, 1, 11, 1315, .null)) := (mjLs_5 59 (by decide)).trans rfl
theorem mjLw_812 : mjLt 812 = some (.if_icmp .eq 643, 3, mj0) := (mjLs_5 62 (by decide)).trans rfl
theorem mjLw_815 : mjLt 815 = some (.iconst 0, 1, mj0) := (mjLs_5 65 (by decide)).trans rfl
theorem mjLw_816 : mjLt 816 = some (.ireturn, 1, mj0) := (mjLs_5 66 (by decide)).trans rfl
theorem mjLw_817 : mjLt 817 = some (.aload_n 1, 1, mj0) := (mjLs_5 67 (by decide)).trans rfl
theorem mjLw_818 : mjLt 818 = some (.aload_n 0, 1, mj0) := (mjLs_5 68 (by decide)).trans rfl
theorem mjLw_819 : mjLt 819 = some (.iload_n 3, 1, mj0) := (mjLs_5 69 (by decide)).trans rfl
theorem mjLw_820 : mjLt 820 = some (.iconst 1, 1, mj0) := (mjLs_5 70 (by decide)).trans rfl
theorem mjLw_821 : mjLt 821 = some (.iadd, 1, mj0) := (mjLs_5 71 (by decide)).trans rfl
theorem mjLw_822 : mjLt 822 = some (.iaload, 1, mj0) := (mjLs_5 72 (by decide)).trans rfl
theorem mjLw_823 : mjLt 823 = some (.invokevirtual 89, 3, (3, 72, 1, 10, 585, .null)) := (mjLs_5 73 (by decide)).trans rfl
theorem mjLw_826 : mjLt 826 = some (.aload_n 2, 1, mj0) := (mjLs_5 76 (by decide)).trans rfl
theorem mjLw_827 : mjLt 827 = some (.aload_n 0, 1, mj0) := (mjLs_5 77 (by decide)).trans rfl
theorem mjLw_828 : mjLt 828 = some (.iload_n 3, 1, mj0) := (mjLs_5 78 (by decide)).trans rfl
theorem mjLw_829 : mjLt 829 = some (.iconst 1, 1, mj0) := (mjLs_5 79 (by decide)).trans rfl
theorem mjLw_830 : mjLt 830 = some (.iadd, 1, mj0) := (mjLs_5 80 (by decide)).trans rfl
theorem mjLw_831 : mjLt 831 = some (.iaload, 1, mj0) := (mjLs_5 81 (by decide)).trans rfl
theorem mjLw_832 : mjLt 832 = some (.invokevirtual 92, 3, (3, 199, 1, 11, 1323, .null)) := (mjLs_5 82 (by decide)).trans rfl
theorem mjLw_835 : mjLt 835 = some (.if_icmp .eq 620, 3, mj0) := (mjLs_5 85 (by decide)).trans rfl
theorem mjLw_838 : mjLt 838 = some (.iconst 0, 1, mj0) := (mjLs_5 88 (by decide)).trans rfl
theorem mjLw_839 : mjLt 839 = some (.ireturn, 1, mj0) := (mjLs_5 89 (by decide)).trans rfl
theorem mjLw_840 : mjLt 840 = some (.aload_n 1, 1, mj0) := (mjLs_5 90 (by decide)).trans rfl
theorem mjLw_841 : mjLt 841 = some (.aload_n 0, 1, mj0) := (mjLs_5 91 (by decide)).trans rfl
theorem mjLw_842 : mjLt 842 = some (.iload_n 3, 1, mj0) := (mjLs_5 92 (by decide)).trans rfl
theorem mjLw_843 : mjLt 843 = some (.iconst 1, 1, mj0) := (mjLs_5 93 (by decide)).trans rfl
theorem mjLw_844 : mjLt 844 = some (.iadd, 1, mj0) := (mjLs_5 94 (by decide)).trans rfl
theorem mjLw_845 : mjLt 845 = some (.iaload, 1, mj0) := (mjLs_5 95 (by decide)).trans rfl
theorem mjLw_846 : mjLt 846 = some (.invokevirtual 93, 3, (3, 73, 1, 10, 589, .null)) := (mjLs_5 96 (by decide)).trans rfl
theorem mjLw_849 : mjLt 849 = some (.aload_n 2, 1, mj0) := (mjLs_5 99 (by decide)).trans rfl
theorem mjLw_850 : mjLt 850 = some (.aload_n 0, 1, mj0) := (mjLs_5 100 (by decide)).trans rfl
theorem mjLw_851 : mjLt 851 = some (.iload_n 3, 1, mj0) := (mjLs_5 101 (by decide)).trans rfl
theorem mjLw_852 : mjLt 852 = some (.iconst 1, 1, mj0) := (mjLs_5 102 (by decide)).trans rfl
theorem mjLw_853 : mjLt 853 = some (.iadd, 1, mj0) := (mjLs_5 103 (by decide)).trans rfl
theorem mjLw_854 : mjLt 854 = some (.iaload, 1, mj0) := (mjLs_5 104 (by decide)).trans rfl
theorem mjLw_855 : mjLt 855 = some (.invokevirtual 96, 3, (3, 200, 1, 11, 1327, .null)) := (mjLs_5 105 (by decide)).trans rfl
theorem mjLw_858 : mjLt 858 = some (.if_icmp .eq 597, 3, mj0) := (mjLs_5 108 (by decide)).trans rfl
theorem mjLw_861 : mjLt 861 = some (.iconst 0, 1, mj0) := (mjLs_5 111 (by decide)).trans rfl
theorem mjLw_862 : mjLt 862 = some (.ireturn, 1, mj0) := (mjLs_5 112 (by decide)).trans rfl
theorem mjLw_863 : mjLt 863 = some (.aload_n 1, 1, mj0) := (mjLs_5 113 (by decide)).trans rfl
theorem mjLw_864 : mjLt 864 = some (.aload_n 0, 1, mj0) := (mjLs_5 114 (by decide)).trans rfl
theorem mjLw_865 : mjLt 865 = some (.iload_n 3, 1, mj0) := (mjLs_5 115 (by decide)).trans rfl
theorem mjLw_866 : mjLt 866 = some (.iconst 1, 1, mj0) := (mjLs_5 116 (by decide)).trans rfl
theorem mjLw_867 : mjLt 867 = some (.iadd, 1, mj0) := (mjLs_5 117 (by decide)).trans rfl
theorem mjLw_868 : mjLt 868 = some (.iaload, 1, mj0) := (mjLs_5 118 (by decide)).trans rfl
theorem mjLw_869 : mjLt 869 = some (.invokevirtual 97, 3, (3, 87, 1, 10, 652, .null)) := (mjLs_5 119 (by decide)).trans rfl
theorem mjLw_872 : mjLt 872 = some (.aload_n 2, 1, mj0) := (mjLs_5 122 (by decide)).trans rfl
theorem mjLw_873 : mjLt 873 = some (.aload_n 0, 1, mj0) := (mjLs_5 123 (by decide)).trans rfl
theorem mjLw_874 : mjLt 874 = some (.iload_n 3, 1, mj0) := (mjLs_5 124 (by decide)).trans rfl
theorem mjLw_875 : mjLt 875 = some (.iconst 1, 1, mj0) := (mjLs_5 125 (by decide)).trans rfl
theorem mjLw_876 : mjLt 876 = some (.iadd, 1, mj0) := (mjLs_5 126 (by decide)).trans rfl
theorem mjLw_877 : mjLt 877 = some (.iaload, 1, mj0) := (mjLs_5 127 (by decide)).trans rfl
theorem mjLw_878 : mjLt 878 = some (.invokevirtual 100, 3, (3, 205, 1, 11, 1348, .null)) := (mjLs_5 128 (by decide)).trans rfl
theorem mjLw_881 : mjLt 881 = some (.if_icmp .eq 574, 3, mj0) := (mjLs_5 131 (by decide)).trans rfl
theorem mjLw_884 : mjLt 884 = some (.iconst 0, 1, mj0) := (mjLs_5 134 (by decide)).trans rfl
theorem mjLw_885 : mjLt 885 = some (.ireturn, 1, mj0) := (mjLs_5 135 (by decide)).trans rfl
theorem mjLw_886 : mjLt 886 = some (.aload_n 1, 1, mj0) := (mjLs_5 136 (by decide)).trans rfl
theorem mjLw_887 : mjLt 887 = some (.aload_n 0, 1, mj0) := (mjLs_5 137 (by decide)).trans rfl
theorem mjLw_888 : mjLt 888 = some (.iload_n 3, 1, mj0) := (mjLs_5 138 (by decide)).trans rfl
theorem mjLw_889 : mjLt 889 = some (.iconst 1, 1, mj0) := (mjLs_5 139 (by decide)).trans rfl
theorem mjLw_890 : mjLt 890 = some (.iadd, 1, mj0) := (mjLs_5 140 (by decide)).trans rfl
theorem mjLw_891 : mjLt 891 = some (.iaload, 1, mj0) := (mjLs_5 141 (by decide)).trans rfl
theorem mjLw_892 : mjLt 892 = some (.invokevirtual 101, 3, (3, 89, 1, 10, 660, .null)) := (mjLs_5 142 (by decide)).trans rfl
theorem mjLw_895 : mjLt 895 = some (.aload_n 2, 1, mj0) := (mjLs_5 145 (by decide)).trans rfl
theorem mjLw_896 : mjLt 896 = some (.aload_n 0, 1, mj0) := (mjLs_5 146 (by decide)).trans rfl
theorem mjLw_897 : mjLt 897 = some (.iload_n 3, 1, mj0) := (mjLs_5 147 (by decide)).trans rfl
theorem mjLw_898 : mjLt 898 = some (.iconst 1, 1, mj0) := (mjLs_5 148 (by decide)).trans rfl
theorem mjLw_899 : mjLt 899 = some (.iadd, 1, mj0) := (mjLs_5 149 (by decide)).trans rfl
theorem mjLw_900 : mjLt 900 = some (.iaload, 1, mj0) := (mjLs_6 0 (by decide)).trans rfl
theorem mjLw_901 : mjLt 901 = some (.invokevirtual 104, 3, (3, 206, 1, 11, 1352, .null)) := (mjLs_6 1 (by decide)).trans rfl
theorem mjLw_904 : mjLt 904 = some (.if_icmp .eq 551, 3, mj0) := (mjLs_6 4 (by decide)).trans rfl
theorem mjLw_907 : mjLt 907 = some (.iconst 0, 1, mj0) := (mjLs_6 7 (by decide)).trans rfl
theorem mjLw_908 : mjLt 908 = some (.ireturn, 1, mj0) := (mjLs_6 8 (by decide)).trans rfl
theorem mjLw_909 : mjLt 909 = some (.aload_n 1, 1, mj0) := (mjLs_6 9 (by decide)).trans rfl
theorem mjLw_910 : mjLt 910 = some (.aload_n 0, 1, mj0) := (mjLs_6 10 (by decide)).trans rfl
theorem mjLw_911 : mjLt 911 = some (.iload_n 3, 1, mj0) := (mjLs_6 11 (by decide)).trans rfl
theorem mjLw_912 : mjLt 912 = some (.iconst 1, 1, mj0) := (mjLs_6 12 (by decide)).trans rfl
theorem mjLw_913 : mjLt 913 = some (.iadd, 1, mj0) := (mjLs_6 13 (by decide)).trans rfl
theorem mjLw_914 : mjLt 914 = some (.iaload, 1, mj0) := (mjLs_6 14 (by decide)).trans rfl
theorem mjLw_915 : mjLt 915 = some (.aload_n 0, 1, mj0) := (mjLs_6 15 (by decide)).trans rfl
theorem mjLw_916 : mjLt 916 = some (.iload_n 3, 1, mj0) := (mjLs_6 16 (by decide)).trans rfl
theorem mjLw_917 : mjLt 917 = some (.iconst 2, 1, mj0) := (mjLs_6 17 (by decide)).trans rfl
theorem mjLw_918 : mjLt 918 = some (.iadd, 1, mj0) := (mjLs_6 18 (by decide)).trans rfl
theorem mjLw_919 : mjLt 919 = some (.iaload, 1, mj0) := (mjLs_6 19 (by decide)).trans rfl
theorem mjLw_920 : mjLt 920 = some (.invokevirtual 105, 3, (3, 113, 2, 10, 776, .null)) := (mjLs_6 20 (by decide)).trans rfl
theorem mjLw_923 : mjLt 923 = some (.aload_n 2, 1, mj0) := (mjLs_6 23 (by decide)).trans rfl
theorem mjLw_924 : mjLt 924 = some (.aload_n 0, 1, mj0) := (mjLs_6 24 (by decide)).trans rfl
theorem mjLw_925 : mjLt 925 = some (.iload_n 3, 1, mj0) := (mjLs_6 25 (by decide)).trans rfl
theorem mjLw_926 : mjLt 926 = some (.iconst 1, 1, mj0) := (mjLs_6 26 (by decide)).trans rfl
theorem mjLw_927 : mjLt 927 = some (.iadd, 1, mj0) := (mjLs_6 27 (by decide)).trans rfl
theorem mjLw_928 : mjLt 928 = some (.iaload, 1, mj0) := (mjLs_6 28 (by decide)).trans rfl
theorem mjLw_929 : mjLt 929 = some (.aload_n 0, 1, mj0) := (mjLs_6 29 (by decide)).trans rfl
theorem mjLw_930 : mjLt 930 = some (.iload_n 3, 1, mj0) := (mjLs_6 30 (by decide)).trans rfl
theorem mjLw_931 : mjLt 931 = some (.iconst 2, 1, mj0) := (mjLs_6 31 (by decide)).trans rfl
theorem mjLw_932 : mjLt 932 = some (.iadd, 1, mj0) := (mjLs_6 32 (by decide)).trans rfl
theorem mjLw_933 : mjLt 933 = some (.iaload, 1, mj0) := (mjLs_6 33 (by decide)).trans rfl
theorem mjLw_934 : mjLt 934 = some (.invokevirtual 108, 3, (3, 216, 2, 11, 1389, .null)) := (mjLs_6 34 (by decide)).trans rfl
theorem mjLw_937 : mjLt 937 = some (.if_icmp .eq 518, 3, mj0) := (mjLs_6 37 (by decide)).trans rfl
theorem mjLw_940 : mjLt 940 = some (.iconst 0, 1, mj0) := (mjLs_6 40 (by decide)).trans rfl
theorem mjLw_941 : mjLt 941 = some (.ireturn, 1, mj0) := (mjLs_6 41 (by decide)).trans rfl
theorem mjLw_942 : mjLt 942 = some (.aload_n 1, 1, mj0) := (mjLs_6 42 (by decide)).trans rfl
theorem mjLw_943 : mjLt 943 = some (.aload_n 0, 1, mj0) := (mjLs_6 43 (by decide)).trans rfl
theorem mjLw_944 : mjLt 944 = some (.iload_n 3, 1, mj0) := (mjLs_6 44 (by decide)).trans rfl
theorem mjLw_945 : mjLt 945 = some (.iconst 1, 1, mj0) := (mjLs_6 45 (by decide)).trans rfl
theorem mjLw_946 : mjLt 946 = some (.iadd, 1, mj0) := (mjLs_6 46 (by decide)).trans rfl
theorem mjLw_947 : mjLt 947 = some (.iaload, 1, mj0) := (mjLs_6 47 (by decide)).trans rfl
theorem mjLw_948 : mjLt 948 = some (.aload_n 0, 1, mj0) := (mjLs_6 48 (by decide)).trans rfl
theorem mjLw_949 : mjLt 949 = some (.iload_n 3, 1, mj0) := (mjLs_6 49 (by decide)).trans rfl
theorem mjLw_950 : mjLt 950 = some (.iconst 2, 1, mj0) := (mjLs_6 50 (by decide)).trans rfl
theorem mjLw_951 : mjLt 951 = some (.iadd, 1, mj0) := (mjLs_6 51 (by decide)).trans rfl
theorem mjLw_952 : mjLt 952 = some (.iaload, 1, mj0) := (mjLs_6 52 (by decide)).trans rfl
theorem mjLw_953 : mjLt 953 = some (.aload_n 0, 1, mj0) := (mjLs_6 53 (by decide)).trans rfl
theorem mjLw_954 : mjLt 954 = some (.iload_n 3, 1, mj0) := (mjLs_6 54 (by decide)).trans rfl
theorem mjLw_955 : mjLt 955 = some (.iconst 3, 1, mj0) := (mjLs_6 55 (by decide)).trans rfl
theorem mjLw_956 : mjLt 956 = some (.iadd, 1, mj0) := (mjLs_6 56 (by decide)).trans rfl
theorem mjLw_957 : mjLt 957 = some (.iaload, 1, mj0) := (mjLs_6 57 (by decide)).trans rfl
theorem mjLw_958 : mjLt 958 = some (.aload_n 0, 1, mj0) := (mjLs_6 58 (by decide)).trans rfl
theorem mjLw_959 : mjLt 959 = some (.iload_n 3, 1, mj0) := (mjLs_6 59 (by decide)).trans rfl
theorem mjLw_960 : mjLt 960 = some (.iconst 4, 1, mj0) := (mjLs_6 60 (by decide)).trans rfl
theorem mjLw_961 : mjLt 961 = some (.iadd, 1, mj0) := (mjLs_6 61 (by decide)).trans rfl
theorem mjLw_962 : mjLt 962 = some (.iaload, 1, mj0) := (mjLs_6 62 (by decide)).trans rfl
theorem mjLw_963 : mjLt 963 = some (.invokevirtual 109, 3, (3, 115, 4, 10, 784, .null)) := (mjLs_6 63 (by decide)).trans rfl
theorem mjLw_966 : mjLt 966 = some (.aload_n 2, 1, mj0) := (mjLs_6 66 (by decide)).trans rfl
theorem mjLw_967 : mjLt 967 = some (.aload_n 0, 1, mj0) := (mjLs_6 67 (by decide)).trans rfl
theorem mjLw_968 : mjLt 968 = some (.iload_n 3, 1, mj0) := (mjLs_6 68 (by decide)).trans rfl
theorem mjLw_969 : mjLt 969 = some (.iconst 1, 1, mj0) := (mjLs_6 69 (by decide)).trans rfl
theorem mjLw_970 : mjLt 970 = some (.iadd, 1, mj0) := (mjLs_6 70 (by decide)).trans rfl
theorem mjLw_971 : mjLt 971 = some (.iaload, 1, mj0) := (mjLs_6 71 (by decide)).trans rfl
theorem mjLw_972 : mjLt 972 = some (.aload_n 0, 1, mj0) := (mjLs_6 72 (by decide)).trans rfl
theorem mjLw_973 : mjLt 973 = some (.iload_n 3, 1, mj0) := (mjLs_6 73 (by decide)).trans rfl
theorem mjLw_974 : mjLt 974 = some (.iconst 2, 1, mj0) := (mjLs_6 74 (by decide)).trans rfl
theorem mjLw_975 : mjLt 975 = some (.iadd, 1, mj0) := (mjLs_6 75 (by decide)).trans rfl
theorem mjLw_976 : mjLt 976 = some (.iaload, 1, mj0) := (mjLs_6 76 (by decide)).trans rfl
theorem mjLw_977 : mjLt 977 = some (.aload_n 0, 1, mj0) := (mjLs_6 77 (by decide)).trans rfl
theorem mjLw_978 : mjLt 978 = some (.iload_n 3, 1, mj0) := (mjLs_6 78 (by decide)).trans rfl
theorem mjLw_979 : mjLt 979 = some (.iconst 3, 1, mj0) := (mjLs_6 79 (by decide)).trans rfl
theorem mjLw_980 : mjLt 980 = some (.iadd, 1, mj0) := (mjLs_6 80 (by decide)).trans rfl
theorem mjLw_981 : mjLt 981 = some (.iaload, 1, mj0) := (mjLs_6 81 (by decide)).trans rfl
theorem mjLw_982 : mjLt 982 = some (.aload_n 0, 1, mj0) := (mjLs_6 82 (by decide)).trans rfl
theorem mjLw_983 : mjLt 983 = some (.iload_n 3, 1, mj0) := (mjLs_6 83 (by decide)).trans rfl
theorem mjLw_984 : mjLt 984 = some (.iconst 4, 1, mj0) := (mjLs_6 84 (by decide)).trans rfl
theorem mjLw_985 : mjLt 985 = some (.iadd, 1, mj0) := (mjLs_6 85 (by decide)).trans rfl
theorem mjLw_986 : mjLt 986 = some (.iaload, 1, mj0) := (mjLs_6 86 (by decide)).trans rfl
theorem mjLw_987 : mjLt 987 = some (.invokevirtual 112, 3, (3, 217, 4, 11, 1393, .null)) := (mjLs_6 87 (by decide)).trans rfl
theorem mjLw_990 : mjLt 990 = some (.if_icmp .eq 465, 3, mj0) := (mjLs_6 90 (by decide)).trans rfl
theorem mjLw_993 : mjLt 993 = some (.iconst 0, 1, mj0) := (mjLs_6 93 (by decide)).trans rfl
theorem mjLw_994 : mjLt 994 = some (.ireturn, 1, mj0) := (mjLs_6 94 (by decide)).trans rfl
theorem mjLw_995 : mjLt 995 = some (.aload_n 1, 1, mj0) := (mjLs_6 95 (by decide)).trans rfl
theorem mjLw_996 : mjLt 996 = some (.aload_n 0, 1, mj0) := (mjLs_6 96 (by decide)).trans rfl
theorem mjLw_997 : mjLt 997 = some (.iload_n 3, 1, mj0) := (mjLs_6 97 (by decide)).trans rfl
theorem mjLw_998 : mjLt 998 = some (.iconst 1, 1, mj0) := (mjLs_6 98 (by decide)).trans rfl
theorem mjLw_999 : mjLt 999 = some (.iadd, 1, mj0) := (mjLs_6 99 (by decide)).trans rfl
theorem mjLw_1000 : mjLt 1000 = some (.iaload, 1, mj0) := (mjLs_6 100 (by decide)).trans rfl
theorem mjLw_1001 : mjLt 1001 = some (.aload_n 0, 1, mj0) := (mjLs_6 101 (by decide)).trans rfl
theorem mjLw_1002 : mjLt 1002 = some (.iload_n 3, 1, mj0) := (mjLs_6 102 (by decide)).trans rfl
theorem mjLw_1003 : mjLt 1003 = some (.iconst 2, 1, mj0) := (mjLs_6 103 (by decide)).trans rfl
theorem mjLw_1004 : mjLt 1004 = some (.iadd, 1, mj0) := (mjLs_6 104 (by decide)).trans rfl
theorem mjLw_1005 : mjLt 1005 = some (.iaload, 1, mj0) := (mjLs_6 105 (by decide)).trans rfl
theorem mjLw_1006 : mjLt 1006 = some (.aload_n 0, 1, mj0) := (mjLs_6 106 (by decide)).trans rfl
theorem mjLw_1007 : mjLt 1007 = some (.iload_n 3, 1, mj0) := (mjLs_6 107 (by decide)).trans rfl
theorem mjLw_1008 : mjLt 1008 = some (.iconst 3, 1, mj0) := (mjLs_6 108 (by decide)).trans rfl
theorem mjLw_1009 : mjLt 1009 = some (.iadd, 1, mj0) := (mjLs_6 109 (by decide)).trans rfl
theorem mjLw_1010 : mjLt 1010 = some (.iaload, 1, mj0) := (mjLs_6 110 (by decide)).trans rfl
theorem mjLw_1011 : mjLt 1011 = some (.invokevirtual 113, 3, (3, 118, 3, 10, 803, .null)) := (mjLs_6 111 (by decide)).trans rfl
theorem mjLw_1014 : mjLt 1014 = some (.aload_n 2, 1, mj0) := (mjLs_6 114 (by decide)).trans rfl
theorem mjLw_1015 : mjLt 1015 = some (.aload_n 0, 1, mj0) := (mjLs_6 115 (by decide)).trans rfl
theorem mjLw_1016 : mjLt 1016 = some (.iload_n 3, 1, mj0) := (mjLs_6 116 (by decide)).trans rfl
theorem mjLw_1017 : mjLt 1017 = some (.iconst 1, 1, mj0) := (mjLs_6 117 (by decide)).trans rfl
theorem mjLw_1018 : mjLt 1018 = some (.iadd, 1, mj0) := (mjLs_6 118 (by decide)).trans rfl
theorem mjLw_1019 : mjLt 1019 = some (.iaload, 1, mj0) := (mjLs_6 119 (by decide)).trans rfl
theorem mjLw_1020 : mjLt 1020 = some (.aload_n 0, 1, mj0) := (mjLs_6 120 (by decide)).trans rfl
theorem mjLw_1021 : mjLt 1021 = some (.iload_n 3, 1, mj0) := (mjLs_6 121 (by decide)).trans rfl
theorem mjLw_1022 : mjLt 1022 = some (.iconst 2, 1, mj0) := (mjLs_6 122 (by decide)).trans rfl
theorem mjLw_1023 : mjLt 1023 = some (.iadd, 1, mj0) := (mjLs_6 123 (by decide)).trans rfl
theorem mjLw_1024 : mjLt 1024 = some (.iaload, 1, mj0) := (mjLs_6 124 (by decide)).trans rfl
theorem mjLw_1025 : mjLt 1025 = some (.aload_n 0, 1, mj0) := (mjLs_6 125 (by decide)).trans rfl
theorem mjLw_1026 : mjLt 1026 = some (.iload_n 3, 1, mj0) := (mjLs_6 126 (by decide)).trans rfl
theorem mjLw_1027 : mjLt 1027 = some (.iconst 3, 1, mj0) := (mjLs_6 127 (by decide)).trans rfl
theorem mjLw_1028 : mjLt 1028 = some (.iadd, 1, mj0) := (mjLs_6 128 (by decide)).trans rfl
theorem mjLw_1029 : mjLt 1029 = some (.iaload, 1, mj0) := (mjLs_6 129 (by decide)).trans rfl
theorem mjLw_1030 : mjLt 1030 = some (.invokevirtual 116, 3, (3, 226, 3, 11, 1431, .null)) := (mjLs_6 130 (by decide)).trans rfl
theorem mjLw_1033 : mjLt 1033 = some (.if_icmp .eq 422, 3, mj0) := (mjLs_6 133 (by decide)).trans rfl
theorem mjLw_1036 : mjLt 1036 = some (.iconst 0, 1, mj0) := (mjLs_6 136 (by decide)).trans rfl
theorem mjLw_1037 : mjLt 1037 = some (.ireturn, 1, mj0) := (mjLs_6 137 (by decide)).trans rfl
theorem mjLw_1038 : mjLt 1038 = some (.aload_n 1, 1, mj0) := (mjLs_6 138 (by decide)).trans rfl
theorem mjLw_1039 : mjLt 1039 = some (.invokevirtual 117, 3, (3, 121, 0, 10, 816, .null)) := (mjLs_6 139 (by decide)).trans rfl
theorem mjLw_1042 : mjLt 1042 = some (.aload_n 2, 1, mj0) := (mjLs_6 142 (by decide)).trans rfl
theorem mjLw_1043 : mjLt 1043 = some (.invokevirtual 121, 3, (3, 227, 0, 11, 1435, .null)) := (mjLs_6 143 (by decide)).trans rfl
theorem mjLw_1046 : mjLt 1046 = some (.lcmp, 1, mj0) := (mjLs_6 146 (by decide)).trans rfl
theorem mjLw_1047 : mjLt 1047 = some (.ifCond .eq 408, 3, mj0) := (mjLs_6 147 (by decide)).trans rfl
theorem mjLw_1050 : mjLt 1050 = some (.iconst 0, 1, mj0) := (mjLs_7 0 (by decide)).trans rfl
theorem mjLw_1051 : mjLt 1051 = some (.ireturn, 1, mj0) := (mjLs_7 1 (by decide)).trans rfl
theorem mjLw_1052 : mjLt 1052 = some (.aload_n 1, 1, mj0) := (mjLs_7 2 (by decide)).trans rfl
theorem mjLw_1053 : mjLt 1053 = some (.aload_n 0, 1, mj0) := (mjLs_7 3 (by decide)).trans rfl
theorem mjLw_1054 : mjLt 1054 = some (.iload_n 3, 1, mj0) := (mjLs_7 4 (by decide)).trans rfl
theorem mjLw_1055 : mjLt 1055 = some (.iconst 1, 1, mj0) := (mjLs_7 5 (by decide)).trans rfl
theorem mjLw_1056 : mjLt 1056 = some (.iadd, 1, mj0) := (mjLs_7 6 (by decide)).trans rfl
theorem mjLw_1057 : mjLt 1057 = some (.iaload, 1, mj0) := (mjLs_7 7 (by decide)).trans rfl
theorem mjLw_1058 : mjLt 1058 = some (.aload_n 0, 1, mj0) := (mjLs_7 8 (by decide)).trans rfl
theorem mjLw_1059 : mjLt 1059 = some (.iload_n 3, 1, mj0) := (mjLs_7 9 (by decide)).trans rfl
theorem mjLw_1060 : mjLt 1060 = some (.iconst 2, 1, mj0) := (mjLs_7 10 (by decide)).trans rfl
theorem mjLw_1061 : mjLt 1061 = some (.iadd, 1, mj0) := (mjLs_7 11 (by decide)).trans rfl
theorem mjLw_1062 : mjLt 1062 = some (.iaload, 1, mj0) := (mjLs_7 12 (by decide)).trans rfl
theorem mjLw_1063 : mjLt 1063 = some (.invokevirtual 122, 3, (3, 122, 2, 10, 820, .null)) := (mjLs_7 13 (by decide)).trans rfl
theorem mjLw_1066 : mjLt 1066 = some (.aload_n 2, 1, mj0) := (mjLs_7 16 (by decide)).trans rfl
theorem mjLw_1067 : mjLt 1067 = some (.aload_n 0, 1, mj0) := (mjLs_7 17 (by decide)).trans rfl
theorem mjLw_1068 : mjLt 1068 = some (.iload_n 3, 1, mj0) := (mjLs_7 18 (by decide)).trans rfl
theorem mjLw_1069 : mjLt 1069 = some (.iconst 1, 1, mj0) := (mjLs_7 19 (by decide)).trans rfl
theorem mjLw_1070 : mjLt 1070 = some (.iadd, 1, mj0) := (mjLs_7 20 (by decide)).trans rfl
theorem mjLw_1071 : mjLt 1071 = some (.iaload, 1, mj0) := (mjLs_7 21 (by decide)).trans rfl
theorem mjLw_1072 : mjLt 1072 = some (.aload_n 0, 1, mj0) := (mjLs_7 22 (by decide)).trans rfl
theorem mjLw_1073 : mjLt 1073 = some (.iload_n 3, 1, mj0) := (mjLs_7 23 (by decide)).trans rfl
theorem mjLw_1074 : mjLt 1074 = some (.iconst 2, 1, mj0) := (mjLs_7 24 (by decide)).trans rfl
theorem mjLw_1075 : mjLt 1075 = some (.iadd, 1, mj0) := (mjLs_7 25 (by decide)).trans rfl
theorem mjLw_1076 : mjLt 1076 = some (.iaload, 1, mj0) := (mjLs_7 26 (by decide)).trans rfl
theorem mjLw_1077 : mjLt 1077 = some (.invokevirtual 125, 3, (3, 228, 2, 11, 1439, .null)) := (mjLs_7 27 (by decide)).trans rfl
theorem mjLw_1080 : mjLt 1080 = some (.if_icmp .eq 375, 3, mj0) := (mjLs_7 30 (by decide)).trans rfl
theorem mjLw_1083 : mjLt 1083 = some (.iconst 0, 1, mj0) := (mjLs_7 33 (by decide)).trans rfl
theorem mjLw_1084 : mjLt 1084 = some (.ireturn, 1, mj0) := (mjLs_7 34 (by decide)).trans rfl
theorem mjLw_1085 : mjLt 1085 = some (.aload_n 1, 1, mj0) := (mjLs_7 35 (by decide)).trans rfl
theorem mjLw_1086 : mjLt 1086 = some (.aload_n 0, 1, mj0) := (mjLs_7 36 (by decide)).trans rfl
theorem mjLw_1087 : mjLt 1087 = some (.iload_n 3, 1, mj0) := (mjLs_7 37 (by decide)).trans rfl
theorem mjLw_1088 : mjLt 1088 = some (.iconst 1, 1, mj0) := (mjLs_7 38 (by decide)).trans rfl
theorem mjLw_1089 : mjLt 1089 = some (.iadd, 1, mj0) := (mjLs_7 39 (by decide)).trans rfl
theorem mjLw_1090 : mjLt 1090 = some (.iaload, 1, mj0) := (mjLs_7 40 (by decide)).trans rfl
theorem mjLw_1091 : mjLt 1091 = some (.invokevirtual 126, 3, (3, 126, 1, 10, 836, .null)) := (mjLs_7 41 (by decide)).trans rfl
theorem mjLw_1094 : mjLt 1094 = some (.aload_n 2, 1, mj0) := (mjLs_7 44 (by decide)).trans rfl
theorem mjLw_1095 : mjLt 1095 = some (.aload_n 0, 1, mj0) := (mjLs_7 45 (by decide)).trans rfl
theorem mjLw_1096 : mjLt 1096 = some (.iload_n 3, 1, mj0) := (mjLs_7 46 (by decide)).trans rfl
theorem mjLw_1097 : mjLt 1097 = some (.iconst 1, 1, mj0) := (mjLs_7 47 (by decide)).trans rfl
theorem mjLw_1098 : mjLt 1098 = some (.iadd, 1, mj0) := (mjLs_7 48 (by decide)).trans rfl
theorem mjLw_1099 : mjLt 1099 = some (.iaload, 1, mj0) := (mjLs_7 49 (by decide)).trans rfl
theorem mjLw_1100 : mjLt 1100 = some (.invokevirtual 129, 3, (3, 229, 1, 11, 1443, .null)) := (mjLs_7 50 (by decide)).trans rfl
theorem mjLw_1103 : mjLt 1103 = some (.if_icmp .eq 352, 3, mj0) := (mjLs_7 53 (by decide)).trans rfl
theorem mjLw_1106 : mjLt 1106 = some (.iconst 0, 1, mj0) := (mjLs_7 56 (by decide)).trans rfl
theorem mjLw_1107 : mjLt 1107 = some (.ireturn, 1, mj0) := (mjLs_7 57 (by decide)).trans rfl
theorem mjLw_1108 : mjLt 1108 = some (.aload_n 1, 1, mj0) := (mjLs_7 58 (by decide)).trans rfl
theorem mjLw_1109 : mjLt 1109 = some (.aload_n 0, 1, mj0) := (mjLs_7 59 (by decide)).trans rfl
theorem mjLw_1110 : mjLt 1110 = some (.iload_n 3, 1, mj0) := (mjLs_7 60 (by decide)).trans rfl
theorem mjLw_1111 : mjLt 1111 = some (.iconst 1, 1, mj0) := (mjLs_7 61 (by decide)).trans rfl
theorem mjLw_1112 : mjLt 1112 = some (.iadd, 1, mj0) := (mjLs_7 62 (by decide)).trans rfl
theorem mjLw_1113 : mjLt 1113 = some (.iaload, 1, mj0) := (mjLs_7 63 (by decide)).trans rfl
theorem mjLw_1114 : mjLt 1114 = some (.invokevirtual 130, 3, (3, 139, 1, 10, 900, .null)) := (mjLs_7 64 (by decide)).trans rfl
theorem mjLw_1117 : mjLt 1117 = some (.aload_n 2, 1, mj0) := (mjLs_7 67 (by decide)).trans rfl
theorem mjLw_1118 : mjLt 1118 = some (.aload_n 0, 1, mj0) := (mjLs_7 68 (by decide)).trans rfl
theorem mjLw_1119 : mjLt 1119 = some (.iload_n 3, 1, mj0) := (mjLs_7 69 (by decide)).trans rfl
theorem mjLw_1120 : mjLt 1120 = some (.iconst 1, 1, mj0) := (mjLs_7 70 (by decide)).trans rfl
theorem mjLw_1121 : mjLt 1121 = some (.iadd, 1, mj0) := (mjLs_7 71 (by decide)).trans rfl
theorem mjLw_1122 : mjLt 1122 = some (.iaload, 1, mj0) := (mjLs_7 72 (by decide)).trans rfl
theorem mjLw_1123 : mjLt 1123 = some (.invokevirtual 133, 3, (3, 242, 1, 11, 1495, .null)) := (mjLs_7 73 (by decide)).trans rfl
theorem mjLw_1126 : mjLt 1126 = some (.if_icmp .eq 329, 3, mj0) := (mjLs_7 76 (by decide)).trans rfl
theorem mjLw_1129 : mjLt 1129 = some (.iconst 0, 1, mj0) := (mjLs_7 79 (by decide)).trans rfl
theorem mjLw_1130 : mjLt 1130 = some (.ireturn, 1, mj0) := (mjLs_7 80 (by decide)).trans rfl
theorem mjLw_1131 : mjLt 1131 = some (.aload_n 1, 1, mj0) := (mjLs_7 81 (by decide)).trans rfl
theorem mjLw_1132 : mjLt 1132 = some (.aload_n 0, 1, mj0) := (mjLs_7 82 (by decide)).trans rfl
theorem mjLw_1133 : mjLt 1133 = some (.iload_n 3, 1, mj0) := (mjLs_7 83 (by decide)).trans rfl
theorem mjLw_1134 : mjLt 1134 = some (.iconst 1, 1, mj0) := (mjLs_7 84 (by decide)).trans rfl
theorem mjLw_1135 : mjLt 1135 = some (.iadd, 1, mj0) := (mjLs_7 85 (by decide)).trans rfl
theorem mjLw_1136 : mjLt 1136 = some (.iaload, 1, mj0) := (mjLs_7 86 (by decide)).trans rfl
theorem mjLw_1137 : mjLt 1137 = some (.invokevirtual 134, 3, (3, 140, 1, 10, 904, .null)) := (mjLs_7 87 (by decide)).trans rfl
theorem mjLw_1140 : mjLt 1140 = some (.aload_n 2, 1, mj0) := (mjLs_7 90 (by decide)).trans rfl
theorem mjLw_1141 : mjLt 1141 = some (.aload_n 0, 1, mj0) := (mjLs_7 91 (by decide)).trans rfl
theorem mjLw_1142 : mjLt 1142 = some (.iload_n 3, 1, mj0) := (mjLs_7 92 (by decide)).trans rfl
theorem mjLw_1143 : mjLt 1143 = some (.iconst 1, 1, mj0) := (mjLs_7 93 (by decide)).trans rfl
theorem mjLw_1144 : mjLt 1144 = some (.iadd, 1, mj0) := (mjLs_7 94 (by decide)).trans rfl
theorem mjLw_1145 : mjLt 1145 = some (.iaload, 1, mj0) := (mjLs_7 95 (by decide)).trans rfl
theorem mjLw_1146 : mjLt 1146 = some (.invokevirtual 137, 3, (3, 243, 1, 11, 1499, .null)) := (mjLs_7 96 (by decide)).trans rfl
theorem mjLw_1149 : mjLt 1149 = some (.if_icmp .eq 306, 3, mj0) := (mjLs_7 99 (by decide)).trans rfl
theorem mjLw_1152 : mjLt 1152 = some (.iconst 0, 1, mj0) := (mjLs_7 102 (by decide)).trans rfl
theorem mjLw_1153 : mjLt 1153 = some (.ireturn, 1, mj0) := (mjLs_7 103 (by decide)).trans rfl
theorem mjLw_1154 : mjLt 1154 = some (.aload_n 1, 1, mj0) := (mjLs_7 104 (by decide)).trans rfl
theorem mjLw_1155 : mjLt 1155 = some (.aload_n 0, 1, mj0) := (mjLs_7 105 (by decide)).trans rfl
theorem mjLw_1156 : mjLt 1156 = some (.iload_n 3, 1, mj0) := (mjLs_7 106 (by decide)).trans rfl
theorem mjLw_1157 : mjLt 1157 = some (.iconst 1, 1, mj0) := (mjLs_7 107 (by decide)).trans rfl
theorem mjLw_1158 : mjLt 1158 = some (.iadd, 1, mj0) := (mjLs_7 108 (by decide)).trans rfl
theorem mjLw_1159 : mjLt 1159 = some (.iaload, 1, mj0) := (mjLs_7 109 (by decide)).trans rfl
theorem mjLw_1160 : mjLt 1160 = some (.aload_n 0, 1, mj0) := (mjLs_7 110 (by decide)).trans rfl
theorem mjLw_1161 : mjLt 1161 = some (.iload_n 3, 1, mj0) := (mjLs_7 111 (by decide)).trans rfl
theorem mjLw_1162 : mjLt 1162 = some (.iconst 2, 1, mj0) := (mjLs_7 112 (by decide)).trans rfl
theorem mjLw_1163 : mjLt 1163 = some (.iadd, 1, mj0) := (mjLs_7 113 (by decide)).trans rfl
theorem mjLw_1164 : mjLt 1164 = some (.iaload, 1, mj0) := (mjLs_7 114 (by decide)).trans rfl
theorem mjLw_1165 : mjLt 1165 = some (.invokevirtual 138, 3, (3, 141, 2, 10, 908, .null)) := (mjLs_7 115 (by decide)).trans rfl
theorem mjLw_1168 : mjLt 1168 = some (.aload_n 2, 1, mj0) := (mjLs_7 118 (by decide)).trans rfl
theorem mjLw_1169 : mjLt 1169 = some (.aload_n 0, 1, mj0) := (mjLs_7 119 (by decide)).trans rfl
theorem mjLw_1170 : mjLt 1170 = some (.iload_n 3, 1, mj0) := (mjLs_7 120 (by decide)).trans rfl
theorem mjLw_1171 : mjLt 1171 = some (.iconst 1, 1, mj0) := (mjLs_7 121 (by decide)).trans rfl
theorem mjLw_1172 : mjLt 1172 = some (.iadd, 1, mj0) := (mjLs_7 122 (by decide)).trans rfl
theorem mjLw_1173 : mjLt 1173 = some (.iaload, 1, mj0) := (mjLs_7 123 (by decide)).trans rfl
theorem mjLw_1174 : mjLt 1174 = some (.aload_n 0, 1, mj0) := (mjLs_7 124 (by decide)).trans rfl
theorem mjLw_1175 : mjLt 1175 = some (.iload_n 3, 1, mj0) := (mjLs_7 125 (by decide)).trans rfl
theorem mjLw_1176 : mjLt 1176 = some (.iconst 2, 1, mj0) := (mjLs_7 126 (by decide)).trans rfl
theorem mjLw_1177 : mjLt 1177 = some (.iadd, 1, mj0) := (mjLs_7 127 (by decide)).trans rfl
theorem mjLw_1178 : mjLt 1178 = some (.iaload, 1, mj0) := (mjLs_7 128 (by decide)).trans rfl
theorem mjLw_1179 : mjLt 1179 = some (.invokevirtual 141, 3, (3, 244, 2, 11, 1503, .null)) := (mjLs_7 129 (by decide)).trans rfl
theorem mjLw_1182 : mjLt 1182 = some (.if_icmp .eq 273, 3, mj0) := (mjLs_7 132 (by decide)).trans rfl
theorem mjLw_1185 : mjLt 1185 = some (.iconst 0, 1, mj0) := (mjLs_7 135 (by decide)).trans rfl
theorem mjLw_1186 : mjLt 1186 = some (.ireturn, 1, mj0) := (mjLs_7 136 (by decide)).trans rfl
theorem mjLw_1187 : mjLt 1187 = some (.aload_n 1, 1, mj0) := (mjLs_7 137 (by decide)).trans rfl
theorem mjLw_1188 : mjLt 1188 = some (.aload_n 0, 1, mj0) := (mjLs_7 138 (by decide)).trans rfl
theorem mjLw_1189 : mjLt 1189 = some (.iload_n 3, 1, mj0) := (mjLs_7 139 (by decide)).trans rfl
theorem mjLw_1190 : mjLt 1190 = some (.iconst 1, 1, mj0) := (mjLs_7 140 (by decide)).trans rfl
theorem mjLw_1191 : mjLt 1191 = some (.iadd, 1, mj0) := (mjLs_7 141 (by decide)).trans rfl
theorem mjLw_1192 : mjLt 1192 = some (.iaload, 1, mj0) := (mjLs_7 142 (by decide)).trans rfl
theorem mjLw_1193 : mjLt 1193 = some (.aload_n 0, 1, mj0) := (mjLs_7 143 (by decide)).trans rfl
theorem mjLw_1194 : mjLt 1194 = some (.iload_n 3, 1, mj0) := (mjLs_7 144 (by decide)).trans rfl
theorem mjLw_1195 : mjLt 1195 = some (.iconst 2, 1, mj0) := (mjLs_7 145 (by decide)).trans rfl
theorem mjLw_1196 : mjLt 1196 = some (.iadd, 1, mj0) := (mjLs_7 146 (by decide)).trans rfl
theorem mjLw_1197 : mjLt 1197 = some (.iaload, 1, mj0) := (mjLs_7 147 (by decide)).trans rfl
theorem mjLw_1198 : mjLt 1198 = some (.invokevirtual 142, 3, (3, 144, 2, 10, 922, .null)) := (mjLs_7 148 (by decide)).trans rfl
theorem mjLw_1201 : mjLt 1201 = some (.aload_n 2, 1, mj0) := (mjLs_8 1 (by decide)).trans rfl
theorem mjLw_1202 : mjLt 1202 = some (.aload_n 0, 1, mj0) := (mjLs_8 2 (by decide)).trans rfl
theorem mjLw_1203 : mjLt 1203 = some (.iload_n 3, 1, mj0) := (mjLs_8 3 (by decide)).trans rfl
theorem mjLw_1204 : mjLt 1204 = some (.iconst 1, 1, mj0) := (mjLs_8 4 (by decide)).trans rfl
theorem mjLw_1205 : mjLt 1205 = some (.iadd, 1, mj0) := (mjLs_8 5 (by decide)).trans rfl
theorem mjLw_1206 : mjLt 1206 = some (.iaload, 1, mj0) := (mjLs_8 6 (by decide)).trans rfl
theorem mjLw_1207 : mjLt 1207 = some (.aload_n 0, 1, mj0) := (mjLs_8 7 (by decide)).trans rfl
theorem mjLw_1208 : mjLt 1208 = some (.iload_n 3, 1, mj0) := (mjLs_8 8 (by decide)).trans rfl
theorem mjLw_1209 : mjLt 1209 = some (.iconst 2, 1, mj0) := (mjLs_8 9 (by decide)).trans rfl
theorem mjLw_1210 : mjLt 1210 = some (.iadd, 1, mj0) := (mjLs_8 10 (by decide)).trans rfl
theorem mjLw_1211 : mjLt 1211 = some (.iaload, 1, mj0) := (mjLs_8 11 (by decide)).trans rfl
theorem mjLw_1212 : mjLt 1212 = some (.invokevirtual 145, 3, (3, 245, 2, 11, 1507, .null)) := (mjLs_8 12 (by decide)).trans rfl
theorem mjLw_1215 : mjLt 1215 = some (.if_icmp .eq 240, 3, mj0) := (mjLs_8 15 (by decide)).trans rfl
theorem mjLw_1218 : mjLt 1218 = some (.iconst 0, 1, mj0) := (mjLs_8 18 (by decide)).trans rfl
theorem mjLw_1219 : mjLt 1219 = some (.ireturn, 1, mj0) := (mjLs_8 19 (by decide)).trans rfl
theorem mjLw_1220 : mjLt 1220 = some (.aload_n 1, 1, mj0) := (mjLs_8 20 (by decide)).trans rfl
theorem mjLw_1221 : mjLt 1221 = some (.aload_n 0, 1, mj0) := (mjLs_8 21 (by decide)).trans rfl
theorem mjLw_1222 : mjLt 1222 = some (.iload_n 3, 1, mj0) := (mjLs_8 22 (by decide)).trans rfl
theorem mjLw_1223 : mjLt 1223 = some (.iconst 1, 1, mj0) := (mjLs_8 23 (by decide)).trans rfl
theorem mjLw_1224 : mjLt 1224 = some (.iadd, 1, mj0) := (mjLs_8 24 (by decide)).trans rfl
theorem mjLw_1225 : mjLt 1225 = some (.iaload, 1, mj0) := (mjLs_8 25 (by decide)).trans rfl
theorem mjLw_1226 : mjLt 1226 = some (.invokevirtual 146, 3, (3, 146, 1, 10, 933, .null)) := (mjLs_8 26 (by decide)).trans rfl
theorem mjLw_1229 : mjLt 1229 = some (.aload_n 2, 1, mj0) := (mjLs_8 29 (by decide)).trans rfl
theorem mjLw_1230 : mjLt 1230 = some (.aload_n 0, 1, mj0) := (mjLs_8 30 (by decide)).trans rfl
theorem mjLw_1231 : mjLt 1231 = some (.iload_n 3, 1, mj0) := (mjLs_8 31 (by decide)).trans rfl
theorem mjLw_1232 : mjLt 1232 = some (.iconst 1, 1, mj0) := (mjLs_8 32 (by decide)).trans rfl
theorem mjLw_1233 : mjLt 1233 = some (.iadd, 1, mj0) := (mjLs_8 33 (by decide)).trans rfl
theorem mjLw_1234 : mjLt 1234 = some (.iaload, 1, mj0) := (mjLs_8 34 (by decide)).trans rfl
theorem mjLw_1235 : mjLt 1235 = some (.invokevirtual 149, 3, (3, 246, 1, 11, 1511, .null)) := (mjLs_8 35 (by decide)).trans rfl
theorem mjLw_1238 : mjLt 1238 = some (.if_icmp .eq 217, 3, mj0) := (mjLs_8 38 (by decide)).trans rfl
theorem mjLw_1241 : mjLt 1241 = some (.iconst 0, 1, mj0) := (mjLs_8 41 (by decide)).trans rfl
theorem mjLw_1242 : mjLt 1242 = some (.ireturn, 1, mj0) := (mjLs_8 42 (by decide)).trans rfl
theorem mjLw_1243 : mjLt 1243 = some (.aload_n 1, 1, mj0) := (mjLs_8 43 (by decide)).trans rfl
theorem mjLw_1244 : mjLt 1244 = some (.aload_n 0, 1, mj0) := (mjLs_8 44 (by decide)).trans rfl
theorem mjLw_1245 : mjLt 1245 = some (.iload_n 3, 1, mj0) := (mjLs_8 45 (by decide)).trans rfl
theorem mjLw_1246 : mjLt 1246 = some (.iconst 1, 1, mj0) := (mjLs_8 46 (by decide)).trans rfl
theorem mjLw_1247 : mjLt 1247 = some (.iadd, 1, mj0) := (mjLs_8 47 (by decide)).trans rfl
theorem mjLw_1248 : mjLt 1248 = some (.iaload, 1, mj0) := (mjLs_8 48 (by decide)).trans rfl
theorem mjLw_1249 : mjLt 1249 = some (.invokevirtual 150, 3, (3, 149, 1, 10, 946, .null)) := (mjLs_8 49 (by decide)).trans rfl
theorem mjLw_1252 : mjLt 1252 = some (.aload_n 2, 1, mj0) := (mjLs_8 52 (by decide)).trans rfl
theorem mjLw_1253 : mjLt 1253 = some (.aload_n 0, 1, mj0) := (mjLs_8 53 (by decide)).trans rfl
theorem mjLw_1254 : mjLt 1254 = some (.iload_n 3, 1, mj0) := (mjLs_8 54 (by decide)).trans rfl
theorem mjLw_1255 : mjLt 1255 = some (.iconst 1, 1, mj0) := (mjLs_8 55 (by decide)).trans rfl
theorem mjLw_1256 : mjLt 1256 = some (.iadd, 1, mj0) := (mjLs_8 56 (by decide)).trans rfl
theorem mjLw_1257 : mjLt 1257 = some (.iaload, 1, mj0) := (mjLs_8 57 (by decide)).trans rfl
theorem mjLw_1258 : mjLt 1258 = some (.invokevirtual 153, 3, (3, 248, 1, 11, 1519, .null)) := (mjLs_8 58 (by decide)).trans rfl
theorem mjLw_1261 : mjLt 1261 = some (.if_icmp .eq 194, 3, mj0) := (mjLs_8 61 (by decide)).trans rfl
theorem mjLw_1264 : mjLt 1264 = some (.iconst 0, 1, mj0) := (mjLs_8 64 (by decide)).trans rfl
theorem mjLw_1265 : mjLt 1265 = some (.ireturn, 1, mj0) := (mjLs_8 65 (by decide)).trans rfl
theorem mjLw_1266 : mjLt 1266 = some (.aload_n 1, 1, mj0) := (mjLs_8 66 (by decide)).trans rfl
theorem mjLw_1267 : mjLt 1267 = some (.aload_n 0, 1, mj0) := (mjLs_8 67 (by decide)).trans rfl
theorem mjLw_1268 : mjLt 1268 = some (.iload_n 3, 1, mj0) := (mjLs_8 68 (by decide)).trans rfl
theorem mjLw_1269 : mjLt 1269 = some (.iconst 1, 1, mj0) := (mjLs_8 69 (by decide)).trans rfl
theorem mjLw_1270 : mjLt 1270 = some (.iadd, 1, mj0) := (mjLs_8 70 (by decide)).trans rfl
theorem mjLw_1271 : mjLt 1271 = some (.iaload, 1, mj0) := (mjLs_8 71 (by decide)).trans rfl
theorem mjLw_1272 : mjLt 1272 = some (.invokevirtual 154, 3, (3, 151, 1, 10, 955, .null)) := (mjLs_8 72 (by decide)).trans rfl
theorem mjLw_1275 : mjLt 1275 = some (.aload_n 2, 1, mj0) := (mjLs_8 75 (by decide)).trans rfl
theorem mjLw_1276 : mjLt 1276 = some (.aload_n 0, 1, mj0) := (mjLs_8 76 (by decide)).trans rfl
theorem mjLw_1277 : mjLt 1277 = some (.iload_n 3, 1, mj0) := (mjLs_8 77 (by decide)).trans rfl
theorem mjLw_1278 : mjLt 1278 = some (.iconst 1, 1, mj0) := (mjLs_8 78 (by decide)).trans rfl
theorem mjLw_1279 : mjLt 1279 = some (.iadd, 1, mj0) := (mjLs_8 79 (by decide)).trans rfl
theorem mjLw_1280 : mjLt 1280 = some (.iaload, 1, mj0) := (mjLs_8 80 (by decide)).trans rfl
theorem mjLw_1281 : mjLt 1281 = some (.invokevirtual 157, 3, (3, 249, 1, 11, 1523, .null)) := (mjLs_8 81 (by decide)).trans rfl
theorem mjLw_1284 : mjLt 1284 = some (.if_icmp .eq 171, 3, mj0) := (mjLs_8 84 (by decide)).trans rfl
theorem mjLw_1287 : mjLt 1287 = some (.iconst 0, 1, mj0) := (mjLs_8 87 (by decide)).trans rfl
theorem mjLw_1288 : mjLt 1288 = some (.ireturn, 1, mj0) := (mjLs_8 88 (by decide)).trans rfl
theorem mjLw_1289 : mjLt 1289 = some (.aload_n 1, 1, mj0) := (mjLs_8 89 (by decide)).trans rfl
theorem mjLw_1290 : mjLt 1290 = some (.invokevirtual 158, 3, (3, 152, 0, 10, 961, .null)) := (mjLs_8 90 (by decide)).trans rfl
theorem mjLw_1293 : mjLt 1293 = some (.aload_n 2, 1, mj0) := (mjLs_8 93 (by decide)).trans rfl
theorem mjLw_1294 : mjLt 1294 = some (.invokevirtual 161, 3, (3, 251, 0, 11, 1531, .null)) := (mjLs_8 94 (by decide)).trans rfl
theorem mjLw_1297 : mjLt 1297 = some (.if_icmp .eq 158, 3, mj0) := (mjLs_8 97 (by decide)).trans rfl
theorem mjLw_1300 : mjLt 1300 = some (.iconst 0, 1, mj0) := (mjLs_8 100 (by decide)).trans rfl
theorem mjLw_1301 : mjLt 1301 = some (.ireturn, 1, mj0) := (mjLs_8 101 (by decide)).trans rfl
theorem mjLw_1302 : mjLt 1302 = some (.aload_n 1, 1, mj0) := (mjLs_8 102 (by decide)).trans rfl
theorem mjLw_1303 : mjLt 1303 = some (.aload_n 0, 1, mj0) := (mjLs_8 103 (by decide)).trans rfl
theorem mjLw_1304 : mjLt 1304 = some (.iload_n 3, 1, mj0) := (mjLs_8 104 (by decide)).trans rfl
theorem mjLw_1305 : mjLt 1305 = some (.iconst 1, 1, mj0) := (mjLs_8 105 (by decide)).trans rfl
theorem mjLw_1306 : mjLt 1306 = some (.iadd, 1, mj0) := (mjLs_8 106 (by decide)).trans rfl
theorem mjLw_1307 : mjLt 1307 = some (.iaload, 1, mj0) := (mjLs_8 107 (by decide)).trans rfl
theorem mjLw_1308 : mjLt 1308 = some (.invokevirtual 162, 3, (3, 153, 1, 10, 965, .null)) := (mjLs_8 108 (by decide)).trans rfl
theorem mjLw_1311 : mjLt 1311 = some (.aload_n 2, 1, mj0) := (mjLs_8 111 (by decide)).trans rfl
theorem mjLw_1312 : mjLt 1312 = some (.aload_n 0, 1, mj0) := (mjLs_8 112 (by decide)).trans rfl
theorem mjLw_1313 : mjLt 1313 = some (.iload_n 3, 1, mj0) := (mjLs_8 113 (by decide)).trans rfl
theorem mjLw_1314 : mjLt 1314 = some (.iconst 1, 1, mj0) := (mjLs_8 114 (by decide)).trans rfl
theorem mjLw_1315 : mjLt 1315 = some (.iadd, 1, mj0) := (mjLs_8 115 (by decide)).trans rfl
theorem mjLw_1316 : mjLt 1316 = some (.iaload, 1, mj0) := (mjLs_8 116 (by decide)).trans rfl
theorem mjLw_1317 : mjLt 1317 = some (.invokevirtual 165, 3, (3, 252, 1, 11, 1535, .null)) := (mjLs_8 117 (by decide)).trans rfl
theorem mjLw_1320 : mjLt 1320 = some (.if_icmp .eq 135, 3, mj0) := (mjLs_8 120 (by decide)).trans rfl
theorem mjLw_1323 : mjLt 1323 = some (.iconst 0, 1, mj0) := (mjLs_8 123 (by decide)).trans rfl
theorem mjLw_1324 : mjLt 1324 = some (.ireturn, 1, mj0) := (mjLs_8 124 (by decide)).trans rfl
theorem mjLw_1325 : mjLt 1325 = some (.aload_n 1, 1, mj0) := (mjLs_8 125 (by decide)).trans rfl
theorem mjLw_1326 : mjLt 1326 = some (.aload_n 0, 1, mj0) := (mjLs_8 126 (by decide)).trans rfl
theorem mjLw_1327 : mjLt 1327 = some (.iload_n 3, 1, mj0) := (mjLs_8 127 (by decide)).trans rfl
theorem mjLw_1328 : mjLt 1328 = some (.iconst 1, 1, mj0) := (mjLs_8 128 (by decide)).trans rfl
theorem mjLw_1329 : mjLt 1329 = some (.iadd, 1, mj0) := (mjLs_8 129 (by decide)).trans rfl
theorem mjLw_1330 : mjLt 1330 = some (.iaload, 1, mj0) := (mjLs_8 130 (by decide)).trans rfl
theorem mjLw_1331 : mjLt 1331 = some (.invokevirtual 166, 3, (3, 155, 1, 10, 973, .null)) := (mjLs_8 131 (by decide)).trans rfl
theorem mjLw_1334 : mjLt 1334 = some (.aload_n 2, 1, mj0) := (mjLs_8 134 (by decide)).trans rfl
theorem mjLw_1335 : mjLt 1335 = some (.aload_n 0, 1, mj0) := (mjLs_8 135 (by decide)).trans rfl
theorem mjLw_1336 : mjLt 1336 = some (.iload_n 3, 1, mj0) := (mjLs_8 136 (by decide)).trans rfl
theorem mjLw_1337 : mjLt 1337 = some (.iconst 1, 1, mj0) := (mjLs_8 137 (by decide)).trans rfl
theorem mjLw_1338 : mjLt 1338 = some (.iadd, 1, mj0) := (mjLs_8 138 (by decide)).trans rfl
theorem mjLw_1339 : mjLt 1339 = some (.iaload, 1, mj0) := (mjLs_8 139 (by decide)).trans rfl
theorem mjLw_1340 : mjLt 1340 = some (.invokevirtual 169, 3, (3, 253, 1, 11, 1539, .null)) := (mjLs_8 140 (by decide)).trans rfl
theorem mjLw_1343 : mjLt 1343 = some (.if_icmp .eq 112, 3, mj0) := (mjLs_8 143 (by decide)).trans rfl
theorem mjLw_1346 : mjLt 1346 = some (.iconst 0, 1, mj0) := (mjLs_8 146 (by decide)).trans rfl
theorem mjLw_1347 : mjLt 1347 = some (.ireturn, 1, mj0) := (mjLs_8 147 (by decide)).trans rfl
theorem mjLw_1348 : mjLt 1348 = some (.aload_n 1, 1, mj0) := (mjLs_8 148 (by decide)).trans rfl
theorem mjLw_1349 : mjLt 1349 = some (.aload_n 0, 1, mj0) := (mjLs_8 149 (by decide)).trans rfl
theorem mjLw_1350 : mjLt 1350 = some (.iload_n 3, 1, mj0) := (mjLs_9 0 (by decide)).trans rfl
theorem mjLw_1351 : mjLt 1351 = some (.iconst 1, 1, mj0) := (mjLs_9 1 (by decide)).trans rfl
theorem mjLw_1352 : mjLt 1352 = some (.iadd, 1, mj0) := (mjLs_9 2 (by decide)).trans rfl
theorem mjLw_1353 : mjLt 1353 = some (.iaload, 1, mj0) := (mjLs_9 3 (by decide)).trans rfl
theorem mjLw_1354 : mjLt 1354 = some (.aload_n 0, 1, mj0) := (mjLs_9 4 (by decide)).trans rfl
theorem mjLw_1355 : mjLt 1355 = some (.iload_n 3, 1, mj0) := (mjLs_9 5 (by decide)).trans rfl
theorem mjLw_1356 : mjLt 1356 = some (.iconst 2, 1, mj0) := (mjLs_9 6 (by decide)).trans rfl
theorem mjLw_1357 : mjLt 1357 = some (.iadd, 1, mj0) := (mjLs_9 7 (by decide)).trans rfl
theorem mjLw_1358 : mjLt 1358 = some (.iaload, 1, mj0) := (mjLs_9 8 (by decide)).trans rfl
theorem mjLw_1359 : mjLt 1359 = some (.invokevirtual 170, 3, (3, 157, 2, 10, 981, .null)) := (mjLs_9 9 (by decide)).trans rfl
theorem mjLw_1362 : mjLt 1362 = some (.aload_n 2, 1, mj0) := (mjLs_9 12 (by decide)).trans rfl
theorem mjLw_1363 : mjLt 1363 = some (.aload_n 0, 1, mj0) := (mjLs_9 13 (by decide)).trans rfl
theorem mjLw_1364 : mjLt 1364 = some (.iload_n 3, 1, mj0) := (mjLs_9 14 (by decide)).trans rfl
theorem mjLw_1365 : mjLt 1365 = some (.iconst 1, 1, mj0) := (mjLs_9 15 (by decide)).trans rfl
theorem mjLw_1366 : mjLt 1366 = some (.iadd, 1, mj0) := (mjLs_9 16 (by decide)).trans rfl
theorem mjLw_1367 : mjLt 1367 = some (.iaload, 1, mj0) := (mjLs_9 17 (by decide)).trans rfl
theorem mjLw_1368 : mjLt 1368 = some (.aload_n 0, 1, mj0) := (mjLs_9 18 (by decide)).trans rfl
theorem mjLw_1369 : mjLt 1369 = some (.iload_n 3, 1, mj0) := (mjLs_9 19 (by decide)).trans rfl
theorem mjLw_1370 : mjLt 1370 = some (.iconst 2, 1, mj0) := (mjLs_9 20 (by decide)).trans rfl
theorem mjLw_1371 : mjLt 1371 = some (.iadd, 1, mj0) := (mjLs_9 21 (by decide)).trans rfl
theorem mjLw_1372 : mjLt 1372 = some (.iaload, 1, mj0) := (mjLs_9 22 (by decide)).trans rfl
theorem mjLw_1373 : mjLt 1373 = some (.invokevirtual 174, 3, (3, 254, 2, 11, 1543, .null)) := (mjLs_9 23 (by decide)).trans rfl
theorem mjLw_1376 : mjLt 1376 = some (.lcmp, 1, mj0) := (mjLs_9 26 (by decide)).trans rfl
theorem mjLw_1377 : mjLt 1377 = some (.ifCond .eq 78, 3, mj0) := (mjLs_9 27 (by decide)).trans rfl
theorem mjLw_1380 : mjLt 1380 = some (.iconst 0, 1, mj0) := (mjLs_9 30 (by decide)).trans rfl
theorem mjLw_1381 : mjLt 1381 = some (.ireturn, 1, mj0) := (mjLs_9 31 (by decide)).trans rfl
theorem mjLw_1382 : mjLt 1382 = some (.aload_n 1, 1, mj0) := (mjLs_9 32 (by decide)).trans rfl
theorem mjLw_1383 : mjLt 1383 = some (.invokevirtual 175, 3, (3, 159, 0, 10, 990, .null)) := (mjLs_9 33 (by decide)).trans rfl
theorem mjLw_1386 : mjLt 1386 = some (.aload_n 2, 1, mj0) := (mjLs_9 36 (by decide)).trans rfl
theorem mjLw_1387 : mjLt 1387 = some (.invokevirtual 178, 3, (3, 256, 0, 11, 1551, .null)) := (mjLs_9 37 (by decide)).trans rfl
theorem mjLw_1390 : mjLt 1390 = some (.if_icmp .eq 65, 3, mj0) := (mjLs_9 40 (by decide)).trans rfl
theorem mjLw_1393 : mjLt 1393 = some (.iconst 0, 1, mj0) := (mjLs_9 43 (by decide)).trans rfl
theorem mjLw_1394 : mjLt 1394 = some (.ireturn, 1, mj0) := (mjLs_9 44 (by decide)).trans rfl
theorem mjLw_1395 : mjLt 1395 = some (.aload_n 1, 1, mj0) := (mjLs_9 45 (by decide)).trans rfl
theorem mjLw_1396 : mjLt 1396 = some (.aload_n 0, 1, mj0) := (mjLs_9 46 (by decide)).trans rfl
theorem mjLw_1397 : mjLt 1397 = some (.iload_n 3, 1, mj0) := (mjLs_9 47 (by decide)).trans rfl
theorem mjLw_1398 : mjLt 1398 = some (.iconst 1, 1, mj0) := (mjLs_9 48 (by decide)).trans rfl
theorem mjLw_1399 : mjLt 1399 = some (.iadd, 1, mj0) := (mjLs_9 49 (by decide)).trans rfl
theorem mjLw_1400 : mjLt 1400 = some (.iaload, 1, mj0) := (mjLs_9 50 (by decide)).trans rfl
theorem mjLw_1401 : mjLt 1401 = some (.invokevirtual 179, 3, (3, 160, 1, 10, 994, .null)) := (mjLs_9 51 (by decide)).trans rfl
theorem mjLw_1404 : mjLt 1404 = some (.aload_n 2, 1, mj0) := (mjLs_9 54 (by decide)).trans rfl
theorem mjLw_1405 : mjLt 1405 = some (.aload_n 0, 1, mj0) := (mjLs_9 55 (by decide)).trans rfl
theorem mjLw_1406 : mjLt 1406 = some (.iload_n 3, 1, mj0) := (mjLs_9 56 (by decide)).trans rfl
theorem mjLw_1407 : mjLt 1407 = some (.iconst 1, 1, mj0) := (mjLs_9 57 (by decide)).trans rfl
theorem mjLw_1408 : mjLt 1408 = some (.iadd, 1, mj0) := (mjLs_9 58 (by decide)).trans rfl
theorem mjLw_1409 : mjLt 1409 = some (.iaload, 1, mj0) := (mjLs_9 59 (by decide)).trans rfl
theorem mjLw_1410 : mjLt 1410 = some (.invokevirtual 182, 3, (3, 257, 1, 11, 1555, .null)) := (mjLs_9 60 (by decide)).trans rfl
theorem mjLw_1413 : mjLt 1413 = some (.if_icmp .eq 42, 3, mj0) := (mjLs_9 63 (by decide)).trans rfl
theorem mjLw_1416 : mjLt 1416 = some (.iconst 0, 1, mj0) := (mjLs_9 66 (by decide)).trans rfl
theorem mjLw_1417 : mjLt 1417 = some (.ireturn, 1, mj0) := (mjLs_9 67 (by decide)).trans rfl
theorem mjLw_1418 : mjLt 1418 = some (.aload_n 1, 1, mj0) := (mjLs_9 68 (by decide)).trans rfl
theorem mjLw_1419 : mjLt 1419 = some (.aload_n 0, 1, mj0) := (mjLs_9 69 (by decide)).trans rfl
theorem mjLw_1420 : mjLt 1420 = some (.iload_n 3, 1, mj0) := (mjLs_9 70 (by decide)).trans rfl
theorem mjLw_1421 : mjLt 1421 = some (.iconst 1, 1, mj0) := (mjLs_9 71 (by decide)).trans rfl
theorem mjLw_1422 : mjLt 1422 = some (.iadd, 1, mj0) := (mjLs_9 72 (by decide)).trans rfl
theorem mjLw_1423 : mjLt 1423 = some (.iaload, 1, mj0) := (mjLs_9 73 (by decide)).trans rfl
theorem mjLw_1424 : mjLt 1424 = some (.invokevirtual 183, 3, (3, 161, 1, 10, 998, .null)) := (mjLs_9 74 (by decide)).trans rfl
theorem mjLw_1427 : mjLt 1427 = some (.aload_n 2, 1, mj0) := (mjLs_9 77 (by decide)).trans rfl
theorem mjLw_1428 : mjLt 1428 = some (.aload_n 0, 1, mj0) := (mjLs_9 78 (by decide)).trans rfl
theorem mjLw_1429 : mjLt 1429 = some (.iload_n 3, 1, mj0) := (mjLs_9 79 (by decide)).trans rfl
theorem mjLw_1430 : mjLt 1430 = some (.iconst 1, 1, mj0) := (mjLs_9 80 (by decide)).trans rfl
theorem mjLw_1431 : mjLt 1431 = some (.iadd, 1, mj0) := (mjLs_9 81 (by decide)).trans rfl
theorem mjLw_1432 : mjLt 1432 = some (.iaload, 1, mj0) := (mjLs_9 82 (by decide)).trans rfl
theorem mjLw_1433 : mjLt 1433 = some (.invokevirtual 186, 3, (3, 258, 1, 11, 1559, .null)) := (mjLs_9 83 (by decide)).trans rfl
theorem mjLw_1436 : mjLt 1436 = some (.if_icmp .eq 19, 3, mj0) := (mjLs_9 86 (by decide)).trans rfl
theorem mjLw_1439 : mjLt 1439 = some (.iconst 0, 1, mj0) := (mjLs_9 89 (by decide)).trans rfl
theorem mjLw_1440 : mjLt 1440 = some (.ireturn, 1, mj0) := (mjLs_9 90 (by decide)).trans rfl
theorem mjLw_1441 : mjLt 1441 = some (.aload_n 1, 1, mj0) := (mjLs_9 91 (by decide)).trans rfl
theorem mjLw_1442 : mjLt 1442 = some (.invokevirtual 187, 3, (3, 164, 0, 10, 1010, .null)) := (mjLs_9 92 (by decide)).trans rfl
theorem mjLw_1445 : mjLt 1445 = some (.aload_n 2, 1, mj0) := (mjLs_9 95 (by decide)).trans rfl
theorem mjLw_1446 : mjLt 1446 = some (.invokevirtual 190, 3, (3, 259, 0, 11, 1563, .null)) := (mjLs_9 96 (by decide)).trans rfl
theorem mjLw_1449 : mjLt 1449 = some (.lcmp, 1, mj0) := (mjLs_9 99 (by decide)).trans rfl
theorem mjLw_1450 : mjLt 1450 = some (.ifCond .eq 5, 3, mj0) := (mjLs_9 100 (by decide)).trans rfl
theorem mjLw_1453 : mjLt 1453 = some (.iconst 0, 1, mj0) := (mjLs_9 103 (by decide)).trans rfl
theorem mjLw_1454 : mjLt 1454 = some (.ireturn, 1, mj0) := (mjLs_9 104 (by decide)).trans rfl
theorem mjLw_1455 : mjLt 1455 = some (.iinc 3 6, 3, mj0) := (mjLs_9 105 (by decide)).trans rfl
theorem mjLw_1458 : mjLt 1458 = some (.goto (-1440), 3, mj0) := (mjLs_9 108 (by decide)).trans rfl
theorem mjLw_1461 : mjLt 1461 = some (.iconst 1, 1, mj0) := (mjLs_9 111 (by decide)).trans rfl
theorem mjLw_1462 : mjLt 1462 = some (.ireturn, 1, mj0) := (mjLs_9 112 (by decide)).trans rfl
theorem lg_cmp_self (x : Int64) : lg_cmp x x = 0 := by
  unfold lg_cmp
  have h1 : ¬ x > x := Int64.lt_irrefl
  rw [if_neg h1, if_pos rfl]
theorem mjTo.slen {d nL : Nat} {scr : List Int32} {tab : mjTab} {pc len : Nat} {k : mjK} {l : mjL} {s : List Value} {h : mjH} (h1 : tab pc = some (.arraylength, len, k)) : mjTo d nL (some scr) tab (pc, l, .ref 0 :: s, h) (pc + 1, l, .int (Int32.ofNat scr.length) :: s, h) :=
  mjTo.step h1 fun call => rfl
theorem law_sw_0 {scr : Option (List Int32)} {l : mjL} {x : Int32} {h : mjH} (hs : x = Int32.ofNat 0) : mjTo 10 4 scr mjLt (33, l, [.int x], h) (216, l, [], h) := by
  subst hs
  exact mjTo.step mjLw_33 fun _ => rfl
theorem law_sw_1 {scr : Option (List Int32)} {l : mjL} {x : Int32} {h : mjH} (hs : x = Int32.ofNat 1) : mjTo 10 4 scr mjLt (33, l, [.int x], h) (259, l, [], h) := by
  subst hs
  exact mjTo.step mjLw_33 fun _ => rfl
theorem law_sw_2 {scr : Option (List Int32)} {l : mjL} {x : Int32} {h : mjH} (hs : x = Int32.ofNat 2) : mjTo 10 4 scr mjLt (33, l, [.int x], h) (342, l, [], h) := by
  subst hs
  exact mjTo.step mjLw_33 fun _ => rfl
theorem law_sw_3 {scr : Option (List Int32)} {l : mjL} {x : Int32} {h : mjH} (hs : x = Int32.ofNat 3) : mjTo 10 4 scr mjLt (33, l, [.int x], h) (365, l, [], h) := by
  subst hs
  exact mjTo.step mjLw_33 fun _ => rfl
theorem law_sw_4 {scr : Option (List Int32)} {l : mjL} {x : Int32} {h : mjH} (hs : x = Int32.ofNat 4) : mjTo 10 4 scr mjLt (33, l, [.int x], h) (398, l, [], h) := by
  subst hs
  exact mjTo.step mjLw_33 fun _ => rfl
theorem law_sw_5 {scr : Option (List Int32)} {l : mjL} {x : Int32} {h : mjH} (hs : x = Int32.ofNat 5) : mjTo 10 4 scr mjLt (33, l, [.int x], h) (411, l, [], h) := by
  subst hs
  exact mjTo.step mjLw_33 fun _ => rfl
theorem law_sw_6 {scr : Option (List Int32)} {l : mjL} {x : Int32} {h : mjH} (hs : x = Int32.ofNat 6) : mjTo 10 4 scr mjLt (33, l, [.int x], h) (434, l, [], h) := by
  subst hs
  exact mjTo.step mjLw_33 fun _ => rfl
theorem law_sw_7 {scr : Option (List Int32)} {l : mjL} {x : Int32} {h : mjH} (hs : x = Int32.ofNat 7) : mjTo 10 4 scr mjLt (33, l, [.int x], h) (457, l, [], h) := by
  subst hs
  exact mjTo.step mjLw_33 fun _ => rfl
theorem law_sw_8 {scr : Option (List Int32)} {l : mjL} {x : Int32} {h : mjH} (hs : x = Int32.ofNat 8) : mjTo 10 4 scr mjLt (33, l, [.int x], h) (490, l, [], h) := by
  subst hs
  exact mjTo.step mjLw_33 fun _ => rfl
theorem law_sw_9 {scr : Option (List Int32)} {l : mjL} {x : Int32} {h : mjH} (hs : x = Int32.ofNat 9) : mjTo 10 4 scr mjLt (33, l, [.int x], h) (533, l, [], h) := by
  subst hs
  exact mjTo.step mjLw_33 fun _ => rfl
theorem law_sw_10 {scr : Option (List Int32)} {l : mjL} {x : Int32} {h : mjH} (hs : x = Int32.ofNat 10) : mjTo 10 4 scr mjLt (33, l, [.int x], h) (556, l, [], h) := by
  subst hs
  exact mjTo.step mjLw_33 fun _ => rfl
theorem law_sw_11 {scr : Option (List Int32)} {l : mjL} {x : Int32} {h : mjH} (hs : x = Int32.ofNat 11) : mjTo 10 4 scr mjLt (33, l, [.int x], h) (599, l, [], h) := by
  subst hs
  exact mjTo.step mjLw_33 fun _ => rfl
theorem law_sw_12 {scr : Option (List Int32)} {l : mjL} {x : Int32} {h : mjH} (hs : x = Int32.ofNat 12) : mjTo 10 4 scr mjLt (33, l, [.int x], h) (652, l, [], h) := by
  subst hs
  exact mjTo.step mjLw_33 fun _ => rfl
theorem law_sw_13 {scr : Option (List Int32)} {l : mjL} {x : Int32} {h : mjH} (hs : x = Int32.ofNat 13) : mjTo 10 4 scr mjLt (33, l, [.int x], h) (685, l, [], h) := by
  subst hs
  exact mjTo.step mjLw_33 fun _ => rfl
theorem law_sw_14 {scr : Option (List Int32)} {l : mjL} {x : Int32} {h : mjH} (hs : x = Int32.ofNat 14) : mjTo 10 4 scr mjLt (33, l, [.int x], h) (718, l, [], h) := by
  subst hs
  exact mjTo.step mjLw_33 fun _ => rfl
theorem law_sw_15 {scr : Option (List Int32)} {l : mjL} {x : Int32} {h : mjH} (hs : x = Int32.ofNat 15) : mjTo 10 4 scr mjLt (33, l, [.int x], h) (751, l, [], h) := by
  subst hs
  exact mjTo.step mjLw_33 fun _ => rfl
theorem law_sw_16 {scr : Option (List Int32)} {l : mjL} {x : Int32} {h : mjH} (hs : x = Int32.ofNat 16) : mjTo 10 4 scr mjLt (33, l, [.int x], h) (794, l, [], h) := by
  subst hs
  exact mjTo.step mjLw_33 fun _ => rfl
theorem law_sw_17 {scr : Option (List Int32)} {l : mjL} {x : Int32} {h : mjH} (hs : x = Int32.ofNat 17) : mjTo 10 4 scr mjLt (33, l, [.int x], h) (817, l, [], h) := by
  subst hs
  exact mjTo.step mjLw_33 fun _ => rfl
theorem law_sw_18 {scr : Option (List Int32)} {l : mjL} {x : Int32} {h : mjH} (hs : x = Int32.ofNat 18) : mjTo 10 4 scr mjLt (33, l, [.int x], h) (840, l, [], h) := by
  subst hs
  exact mjTo.step mjLw_33 fun _ => rfl
theorem law_sw_19 {scr : Option (List Int32)} {l : mjL} {x : Int32} {h : mjH} (hs : x = Int32.ofNat 19) : mjTo 10 4 scr mjLt (33, l, [.int x], h) (863, l, [], h) := by
  subst hs
  exact mjTo.step mjLw_33 fun _ => rfl
theorem law_sw_20 {scr : Option (List Int32)} {l : mjL} {x : Int32} {h : mjH} (hs : x = Int32.ofNat 20) : mjTo 10 4 scr mjLt (33, l, [.int x], h) (886, l, [], h) := by
  subst hs
  exact mjTo.step mjLw_33 fun _ => rfl
theorem law_sw_21 {scr : Option (List Int32)} {l : mjL} {x : Int32} {h : mjH} (hs : x = Int32.ofNat 21) : mjTo 10 4 scr mjLt (33, l, [.int x], h) (909, l, [], h) := by
  subst hs
  exact mjTo.step mjLw_33 fun _ => rfl
theorem law_sw_22 {scr : Option (List Int32)} {l : mjL} {x : Int32} {h : mjH} (hs : x = Int32.ofNat 22) : mjTo 10 4 scr mjLt (33, l, [.int x], h) (942, l, [], h) := by
  subst hs
  exact mjTo.step mjLw_33 fun _ => rfl
theorem law_sw_23 {scr : Option (List Int32)} {l : mjL} {x : Int32} {h : mjH} (hs : x = Int32.ofNat 23) : mjTo 10 4 scr mjLt (33, l, [.int x], h) (995, l, [], h) := by
  subst hs
  exact mjTo.step mjLw_33 fun _ => rfl
theorem law_sw_24 {scr : Option (List Int32)} {l : mjL} {x : Int32} {h : mjH} (hs : x = Int32.ofNat 24) : mjTo 10 4 scr mjLt (33, l, [.int x], h) (1038, l, [], h) := by
  subst hs
  exact mjTo.step mjLw_33 fun _ => rfl
theorem law_sw_25 {scr : Option (List Int32)} {l : mjL} {x : Int32} {h : mjH} (hs : x = Int32.ofNat 25) : mjTo 10 4 scr mjLt (33, l, [.int x], h) (1052, l, [], h) := by
  subst hs
  exact mjTo.step mjLw_33 fun _ => rfl
theorem law_sw_26 {scr : Option (List Int32)} {l : mjL} {x : Int32} {h : mjH} (hs : x = Int32.ofNat 26) : mjTo 10 4 scr mjLt (33, l, [.int x], h) (1085, l, [], h) := by
  subst hs
  exact mjTo.step mjLw_33 fun _ => rfl
theorem law_sw_27 {scr : Option (List Int32)} {l : mjL} {x : Int32} {h : mjH} (hs : x = Int32.ofNat 27) : mjTo 10 4 scr mjLt (33, l, [.int x], h) (1108, l, [], h) := by
  subst hs
  exact mjTo.step mjLw_33 fun _ => rfl
theorem law_sw_28 {scr : Option (List Int32)} {l : mjL} {x : Int32} {h : mjH} (hs : x = Int32.ofNat 28) : mjTo 10 4 scr mjLt (33, l, [.int x], h) (1131, l, [], h) := by
  subst hs
  exact mjTo.step mjLw_33 fun _ => rfl
theorem law_sw_29 {scr : Option (List Int32)} {l : mjL} {x : Int32} {h : mjH} (hs : x = Int32.ofNat 29) : mjTo 10 4 scr mjLt (33, l, [.int x], h) (1154, l, [], h) := by
  subst hs
  exact mjTo.step mjLw_33 fun _ => rfl
theorem law_sw_30 {scr : Option (List Int32)} {l : mjL} {x : Int32} {h : mjH} (hs : x = Int32.ofNat 30) : mjTo 10 4 scr mjLt (33, l, [.int x], h) (1187, l, [], h) := by
  subst hs
  exact mjTo.step mjLw_33 fun _ => rfl
theorem law_sw_31 {scr : Option (List Int32)} {l : mjL} {x : Int32} {h : mjH} (hs : x = Int32.ofNat 31) : mjTo 10 4 scr mjLt (33, l, [.int x], h) (1220, l, [], h) := by
  subst hs
  exact mjTo.step mjLw_33 fun _ => rfl
theorem law_sw_32 {scr : Option (List Int32)} {l : mjL} {x : Int32} {h : mjH} (hs : x = Int32.ofNat 32) : mjTo 10 4 scr mjLt (33, l, [.int x], h) (1243, l, [], h) := by
  subst hs
  exact mjTo.step mjLw_33 fun _ => rfl
theorem law_sw_33 {scr : Option (List Int32)} {l : mjL} {x : Int32} {h : mjH} (hs : x = Int32.ofNat 33) : mjTo 10 4 scr mjLt (33, l, [.int x], h) (1266, l, [], h) := by
  subst hs
  exact mjTo.step mjLw_33 fun _ => rfl
theorem law_sw_34 {scr : Option (List Int32)} {l : mjL} {x : Int32} {h : mjH} (hs : x = Int32.ofNat 34) : mjTo 10 4 scr mjLt (33, l, [.int x], h) (1289, l, [], h) := by
  subst hs
  exact mjTo.step mjLw_33 fun _ => rfl
theorem law_sw_35 {scr : Option (List Int32)} {l : mjL} {x : Int32} {h : mjH} (hs : x = Int32.ofNat 35) : mjTo 10 4 scr mjLt (33, l, [.int x], h) (1302, l, [], h) := by
  subst hs
  exact mjTo.step mjLw_33 fun _ => rfl
theorem law_sw_36 {scr : Option (List Int32)} {l : mjL} {x : Int32} {h : mjH} (hs : x = Int32.ofNat 36) : mjTo 10 4 scr mjLt (33, l, [.int x], h) (1325, l, [], h) := by
  subst hs
  exact mjTo.step mjLw_33 fun _ => rfl
theorem law_sw_37 {scr : Option (List Int32)} {l : mjL} {x : Int32} {h : mjH} (hs : x = Int32.ofNat 37) : mjTo 10 4 scr mjLt (33, l, [.int x], h) (1348, l, [], h) := by
  subst hs
  exact mjTo.step mjLw_33 fun _ => rfl
theorem law_sw_38 {scr : Option (List Int32)} {l : mjL} {x : Int32} {h : mjH} (hs : x = Int32.ofNat 38) : mjTo 10 4 scr mjLt (33, l, [.int x], h) (1382, l, [], h) := by
  subst hs
  exact mjTo.step mjLw_33 fun _ => rfl
theorem law_sw_39 {scr : Option (List Int32)} {l : mjL} {x : Int32} {h : mjH} (hs : x = Int32.ofNat 39) : mjTo 10 4 scr mjLt (33, l, [.int x], h) (1395, l, [], h) := by
  subst hs
  exact mjTo.step mjLw_33 fun _ => rfl
theorem law_sw_40 {scr : Option (List Int32)} {l : mjL} {x : Int32} {h : mjH} (hs : x = Int32.ofNat 40) : mjTo 10 4 scr mjLt (33, l, [.int x], h) (1418, l, [], h) := by
  subst hs
  exact mjTo.step mjLw_33 fun _ => rfl
theorem law_sw_41 {scr : Option (List Int32)} {l : mjL} {x : Int32} {h : mjH} (hs : x = Int32.ofNat 41) : mjTo 10 4 scr mjLt (33, l, [.int x], h) (1441, l, [], h) := by
  subst hs
  exact mjTo.step mjLw_33 fun _ => rfl
theorem law_sw_42 {scr : Option (List Int32)} {l : mjL} {x : Int32} {h : mjH} (hs : x = Int32.ofNat 42) : mjTo 10 4 scr mjLt (33, l, [.int x], h) (1455, l, [], h) := by
  subst hs
  exact mjTo.step mjLw_33 fun _ => rfl
theorem law_sw_43 {scr : Option (List Int32)} {l : mjL} {x : Int32} {h : mjH} (hs : x = Int32.ofNat 43) : mjTo 10 4 scr mjLt (33, l, [.int x], h) (1455, l, [], h) := by
  subst hs
  exact mjTo.step mjLw_33 fun _ => rfl
theorem law_sw_44 {scr : Option (List Int32)} {l : mjL} {x : Int32} {h : mjH} (hs : x = Int32.ofNat 44) : mjTo 10 4 scr mjLt (33, l, [.int x], h) (1455, l, [], h) := by
  subst hs
  exact mjTo.step mjLw_33 fun _ => rfl
theorem law_sw_45 {scr : Option (List Int32)} {l : mjL} {x : Int32} {h : mjH} (hs : x = Int32.ofNat 45) : mjTo 10 4 scr mjLt (33, l, [.int x], h) (1455, l, [], h) := by
  subst hs
  exact mjTo.step mjLw_33 fun _ => rfl
theorem law_sw_46 {scr : Option (List Int32)} {l : mjL} {x : Int32} {h : mjH} (hs : x = Int32.ofNat 46) : mjTo 10 4 scr mjLt (33, l, [.int x], h) (1455, l, [], h) := by
  subst hs
  exact mjTo.step mjLw_33 fun _ => rfl
theorem law_sw_47 {scr : Option (List Int32)} {l : mjL} {x : Int32} {h : mjH} (hs : x = Int32.ofNat 47) : mjTo 10 4 scr mjLt (33, l, [.int x], h) (1455, l, [], h) := by
  subst hs
  exact mjTo.step mjLw_33 fun _ => rfl
theorem law_sw_48 {scr : Option (List Int32)} {l : mjL} {x : Int32} {h : mjH} (hs : x = Int32.ofNat 48) : mjTo 10 4 scr mjLt (33, l, [.int x], h) (1455, l, [], h) := by
  subst hs
  exact mjTo.step mjLw_33 fun _ => rfl
theorem law_sw_49 {scr : Option (List Int32)} {l : mjL} {x : Int32} {h : mjH} (hs : x = Int32.ofNat 49) : mjTo 10 4 scr mjLt (33, l, [.int x], h) (1455, l, [], h) := by
  subst hs
  exact mjTo.step mjLw_33 fun _ => rfl
theorem law_sw_50 {scr : Option (List Int32)} {l : mjL} {x : Int32} {h : mjH} (hs : x = Int32.ofNat 50) : mjTo 10 4 scr mjLt (33, l, [.int x], h) (1455, l, [], h) := by
  subst hs
  exact mjTo.step mjLw_33 fun _ => rfl
theorem law_sw_51 {scr : Option (List Int32)} {l : mjL} {x : Int32} {h : mjH} (hs : x = Int32.ofNat 51) : mjTo 10 4 scr mjLt (33, l, [.int x], h) (1455, l, [], h) := by
  subst hs
  exact mjTo.step mjLw_33 fun _ => rfl
theorem law_sw_52 {scr : Option (List Int32)} {l : mjL} {x : Int32} {h : mjH} (hs : x = Int32.ofNat 52) : mjTo 10 4 scr mjLt (33, l, [.int x], h) (1455, l, [], h) := by
  subst hs
  exact mjTo.step mjLw_33 fun _ => rfl
theorem law_sw_53 {scr : Option (List Int32)} {l : mjL} {x : Int32} {h : mjH} (hs : x = Int32.ofNat 53) : mjTo 10 4 scr mjLt (33, l, [.int x], h) (1455, l, [], h) := by
  subst hs
  exact mjTo.step mjLw_33 fun _ => rfl
theorem law_sw_54 {scr : Option (List Int32)} {l : mjL} {x : Int32} {h : mjH} (hs : x = Int32.ofNat 54) : mjTo 10 4 scr mjLt (33, l, [.int x], h) (1455, l, [], h) := by
  subst hs
  exact mjTo.step mjLw_33 fun _ => rfl
theorem law_sw_55 {scr : Option (List Int32)} {l : mjL} {x : Int32} {h : mjH} (hs : x = Int32.ofNat 55) : mjTo 10 4 scr mjLt (33, l, [.int x], h) (1455, l, [], h) := by
  subst hs
  exact mjTo.step mjLw_33 fun _ => rfl
theorem law_sw_56 {scr : Option (List Int32)} {l : mjL} {x : Int32} {h : mjH} (hs : x = Int32.ofNat 56) : mjTo 10 4 scr mjLt (33, l, [.int x], h) (1455, l, [], h) := by
  subst hs
  exact mjTo.step mjLw_33 fun _ => rfl
theorem law_sw_57 {scr : Option (List Int32)} {l : mjL} {x : Int32} {h : mjH} (hs : x = Int32.ofNat 57) : mjTo 10 4 scr mjLt (33, l, [.int x], h) (1455, l, [], h) := by
  subst hs
  exact mjTo.step mjLw_33 fun _ => rfl
theorem law_sw_58 {scr : Option (List Int32)} {l : mjL} {x : Int32} {h : mjH} (hs : x = Int32.ofNat 58) : mjTo 10 4 scr mjLt (33, l, [.int x], h) (1455, l, [], h) := by
  subst hs
  exact mjTo.step mjLw_33 fun _ => rfl
theorem law_sw_59 {scr : Option (List Int32)} {l : mjL} {x : Int32} {h : mjH} (hs : x = Int32.ofNat 59) : mjTo 10 4 scr mjLt (33, l, [.int x], h) (1455, l, [], h) := by
  subst hs
  exact mjTo.step mjLw_33 fun _ => rfl
theorem law_sw_60 {scr : Option (List Int32)} {l : mjL} {x : Int32} {h : mjH} (hs : x = Int32.ofNat 60) : mjTo 10 4 scr mjLt (33, l, [.int x], h) (1455, l, [], h) := by
  subst hs
  exact mjTo.step mjLw_33 fun _ => rfl
theorem law_sw_61 {scr : Option (List Int32)} {l : mjL} {x : Int32} {h : mjH} (hs : x = Int32.ofNat 61) : mjTo 10 4 scr mjLt (33, l, [.int x], h) (1455, l, [], h) := by
  subst hs
  exact mjTo.step mjLw_33 fun _ => rfl
theorem law_sw_62 {scr : Option (List Int32)} {l : mjL} {x : Int32} {h : mjH} (hs : x = Int32.ofNat 62) : mjTo 10 4 scr mjLt (33, l, [.int x], h) (1455, l, [], h) := by
  subst hs
  exact mjTo.step mjLw_33 fun _ => rfl
theorem law_sw_63 {scr : Option (List Int32)} {l : mjL} {x : Int32} {h : mjH} (hs : x = Int32.ofNat 63) : mjTo 10 4 scr mjLt (33, l, [.int x], h) (1455, l, [], h) := by
  subst hs
  exact mjTo.step mjLw_33 fun _ => rfl
theorem law_head {scr : List Int32} {i x0 : Int32} {h : mjH} (hgt : mjCmp .gt i (Int32.ofNat scr.length - (Int8.ofInt 6).toInt32) = false) (e0 : mjAt? scr i = some x0) : mjTo 10 4 (some scr) mjLt (18, mjLl i, [], h) (33, mjLl i, [.int (x0 &&& (Int8.ofInt 63).toInt32)], h) := by
  refine (mjTo.step mjLw_18 (s2 := (19, [(3, .int i), (2, .ref 465), (1, .ref 1), (0, .ref 0)], [.int i], h)) fun _ => rfl).trans ?_
  refine (mjTo.step mjLw_19 (s2 := (20, [(3, .int i), (2, .ref 465), (1, .ref 1), (0, .ref 0)], [.ref 0, .int i], h)) fun _ => rfl).trans ?_
  refine (mjTo.slen mjLw_20).trans ?_
  refine (mjTo.step mjLw_21 (s2 := (23, [(3, .int i), (2, .ref 465), (1, .ref 1), (0, .ref 0)], [.int (Int8.ofInt 6).toInt32, .int (Int32.ofNat scr.length), .int i], h)) fun _ => rfl).trans ?_
  refine (mjTo.step mjLw_23 (s2 := (24, [(3, .int i), (2, .ref 465), (1, .ref 1), (0, .ref 0)], [.int (Int32.ofNat scr.length - (Int8.ofInt 6).toInt32), .int i], h)) fun _ => rfl).trans ?_
  refine (mjTo.icF (n := 1461) mjLw_24 hgt rfl).trans ?_
  refine (mjTo.step mjLw_27 (s2 := (28, [(3, .int i), (2, .ref 465), (1, .ref 1), (0, .ref 0)], [.ref 0], h)) fun _ => rfl).trans ?_
  refine (mjTo.step mjLw_28 (s2 := (29, [(3, .int i), (2, .ref 465), (1, .ref 1), (0, .ref 0)], [.int i, .ref 0], h)) fun _ => rfl).trans ?_
  refine (mjTo.sald (xs := scr) mjLw_29 rfl e0).trans ?_
  refine (mjTo.step mjLw_30 (s2 := (32, [(3, .int i), (2, .ref 465), (1, .ref 1), (0, .ref 0)], [.int (Int8.ofInt 63).toInt32, .int x0], h)) fun _ => rfl).trans ?_
  exact mjTo.step mjLw_32 (s2 := (33, [(3, .int i), (2, .ref 465), (1, .ref 1), (0, .ref 0)], [.int (x0 &&& (Int8.ofInt 63).toInt32)], h)) fun _ => rfl
set_option maxRecDepth 100000 in
theorem law_exit {scr : List Int32} {i : Int32} {h : mjH} (hgt : mjCmp .gt i (Int32.ofNat scr.length - (Int8.ofInt 6).toInt32) = true) : mjTo 10 4 (some scr) mjLt (18, mjLl i, [], h) (1462, mjLl i, [.int (Int32.ofInt 1)], h) := by
  refine (mjTo.step mjLw_18 (s2 := (19, [(3, .int i), (2, .ref 465), (1, .ref 1), (0, .ref 0)], [.int i], h)) fun _ => rfl).trans ?_
  refine (mjTo.step mjLw_19 (s2 := (20, [(3, .int i), (2, .ref 465), (1, .ref 1), (0, .ref 0)], [.ref 0, .int i], h)) fun _ => rfl).trans ?_
  refine (mjTo.slen mjLw_20).trans ?_
  refine (mjTo.step mjLw_21 (s2 := (23, [(3, .int i), (2, .ref 465), (1, .ref 1), (0, .ref 0)], [.int (Int8.ofInt 6).toInt32, .int (Int32.ofNat scr.length), .int i], h)) fun _ => rfl).trans ?_
  refine (mjTo.step mjLw_23 (s2 := (24, [(3, .int i), (2, .ref 465), (1, .ref 1), (0, .ref 0)], [.int (Int32.ofNat scr.length - (Int8.ofInt 6).toInt32), .int i], h)) fun _ => rfl).trans ?_
  refine (mjTo.icT (n := 1461) mjLw_24 hgt rfl).trans ?_
  exact mjTo.step mjLw_1461 (s2 := (1462, [(3, .int i), (2, .ref 465), (1, .ref 1), (0, .ref 0)], [.int (Int32.ofInt 1)], h)) fun _ => rfl
set_option maxRecDepth 100000 in
theorem law_next {scr : List Int32} {i : Int32} {h : mjH} : mjTo 10 4 (some scr) mjLt (1455, mjLl i, [], h) (18, mjLl (i + Int32.ofInt 6), [], h) := by
  refine (mjTo.step mjLw_1455 (s2 := (1458, mjLl (i + Int32.ofInt 6), [], h)) fun _ => rfl).trans ?_
  exact mjTo.step mjLw_1458 (s2 := (18, mjLl (i + Int32.ofInt 6), [], h)) fun _ => rfl
set_option maxRecDepth 100000 in
theorem law_case_0 {scr : List Int32} {i x1 x2 x3 : Int32} {r : Int32} {h h1 h2 : mjH} {f0 f1 : List Value} (e1 : mjAt? scr (i + Int32.ofInt 1) = some x1) (e2 : mjAt? scr (i + Int32.ofInt 2) = some x2) (e3 : mjAt? scr (i + Int32.ofInt 3) = some x3) (hx : mjDoes 10 12 [.ref 1, .int x1, .int x2, .int x3] h (some (.int r)) h1) (hm : mjDoes 10 167 [.ref 465, .int x1, .int x2, .int x3] h1 (some (.int r)) h2) (k0 : h[0]? = some (.inl (10, f0))) (k1 : h1[464]? = some (.inl (11, f1))) : mjTo 10 4 (some scr) mjLt (216, mjLl i, [], h) (1455, mjLl i, [], h2) := by
  refine (mjTo.step mjLw_216 (s2 := (217, [(3, .int i), (2, .ref 465), (1, .ref 1), (0, .ref 0)], [.ref 1], h)) fun _ => rfl).trans ?_
  refine (mjTo.step mjLw_217 (s2 := (218, [(3, .int i), (2, .ref 465), (1, .ref 1), (0, .ref 0)], [.ref 0, .ref 1], h)) fun _ => rfl).trans ?_
  refine (mjTo.step mjLw_218 (s2 := (219, [(3, .int i), (2, .ref 465), (1, .ref 1), (0, .ref 0)], [.int i, .ref 0, .ref 1], h)) fun _ => rfl).trans ?_
  refine (mjTo.step mjLw_219 (s2 := (220, [(3, .int i), (2, .ref 465), (1, .ref 1), (0, .ref 0)], [.int (Int32.ofInt 1), .int i, .ref 0, .ref 1], h)) fun _ => rfl).trans ?_
  refine (mjTo.step mjLw_220 (s2 := (221, [(3, .int i), (2, .ref 465), (1, .ref 1), (0, .ref 0)], [.int (i + (Int32.ofInt 1)), .ref 0, .ref 1], h)) fun _ => rfl).trans ?_
  refine (mjTo.sald (xs := scr) mjLw_221 rfl e1).trans ?_
  refine (mjTo.step mjLw_222 (s2 := (223, [(3, .int i), (2, .ref 465), (1, .ref 1), (0, .ref 0)], [.ref 0, .int x1, .ref 1], h)) fun _ => rfl).trans ?_
  refine (mjTo.step mjLw_223 (s2 := (224, [(3, .int i), (2, .ref 465), (1, .ref 1), (0, .ref 0)], [.int i, .ref 0, .int x1, .ref 1], h)) fun _ => rfl).trans ?_
  refine (mjTo.step mjLw_224 (s2 := (225, [(3, .int i), (2, .ref 465), (1, .ref 1), (0, .ref 0)], [.int (Int32.ofInt 2), .int i, .ref 0, .int x1, .ref 1], h)) fun _ => rfl).trans ?_
  refine (mjTo.step mjLw_225 (s2 := (226, [(3, .int i), (2, .ref 465), (1, .ref 1), (0, .ref 0)], [.int (i + (Int32.ofInt 2)), .ref 0, .int x1, .ref 1], h)) fun _ => rfl).trans ?_
  refine (mjTo.sald (xs := scr) mjLw_226 rfl e2).trans ?_
  refine (mjTo.step mjLw_227 (s2 := (228, [(3, .int i), (2, .ref 465), (1, .ref 1), (0, .ref 0)], [.ref 0, .int x2, .int x1, .ref 1], h)) fun _ => rfl).trans ?_
  refine (mjTo.step mjLw_228 (s2 := (229, [(3, .int i), (2, .ref 465), (1, .ref 1), (0, .ref 0)], [.int i, .ref 0, .int x2, .int x1, .ref 1], h)) fun _ => rfl).trans ?_
  refine (mjTo.step mjLw_229 (s2 := (230, [(3, .int i), (2, .ref 465), (1, .ref 1), (0, .ref 0)], [.int (Int32.ofInt 3), .int i, .ref 0, .int x2, .int x1, .ref 1], h)) fun _ => rfl).trans ?_
  refine (mjTo.step mjLw_230 (s2 := (231, [(3, .int i), (2, .ref 465), (1, .ref 1), (0, .ref 0)], [.int (i + (Int32.ofInt 3)), .ref 0, .int x2, .int x1, .ref 1], h)) fun _ => rfl).trans ?_
  refine (mjTo.sald (xs := scr) mjLw_231 rfl e3).trans ?_
  refine (mjTo.virt (as := [.int x1, .int x2, .int x3]) (r := []) (v := some (.int r)) (h' := h1) mjLw_232 rfl k0 (Nat.le_of_ble_eq_true rfl) (hx)).trans ?_
  refine (mjTo.step mjLw_235 (s2 := (236, [(3, .int i), (2, .ref 465), (1, .ref 1), (0, .ref 0)], [.ref 465, .int r], h1)) fun _ => rfl).trans ?_
  refine (mjTo.step mjLw_236 (s2 := (237, [(3, .int i), (2, .ref 465), (1, .ref 1), (0, .ref 0)], [.ref 0, .ref 465, .int r], h1)) fun _ => rfl).trans ?_
  refine (mjTo.step mjLw_237 (s2 := (238, [(3, .int i), (2, .ref 465), (1, .ref 1), (0, .ref 0)], [.int i, .ref 0, .ref 465, .int r], h1)) fun _ => rfl).trans ?_
  refine (mjTo.step mjLw_238 (s2 := (239, [(3, .int i), (2, .ref 465), (1, .ref 1), (0, .ref 0)], [.int (Int32.ofInt 1), .int i, .ref 0, .ref 465, .int r], h1)) fun _ => rfl).trans ?_
  refine (mjTo.step mjLw_239 (s2 := (240, [(3, .int i), (2, .ref 465), (1, .ref 1), (0, .ref 0)], [.int (i + (Int32.ofInt 1)), .ref 0, .ref 465, .int r], h1)) fun _ => rfl).trans ?_
  refine (mjTo.sald (xs := scr) mjLw_240 rfl e1).trans ?_
  refine (mjTo.step mjLw_241 (s2 := (242, [(3, .int i), (2, .ref 465), (1, .ref 1), (0, .ref 0)], [.ref 0, .int x1, .ref 465, .int r], h1)) fun _ => rfl).trans ?_
  refine (mjTo.step mjLw_242 (s2 := (243, [(3, .int i), (2, .ref 465), (1, .ref 1), (0, .ref 0)], [.int i, .ref 0, .int x1, .ref 465, .int r], h1)) fun _ => rfl).trans ?_
  refine (mjTo.step mjLw_243 (s2 := (244, [(3, .int i), (2, .ref 465), (1, .ref 1), (0, .ref 0)], [.int (Int32.ofInt 2), .int i, .ref 0, .int x1, .ref 465, .int r], h1)) fun _ => rfl).trans ?_
  refine (mjTo.step mjLw_244 (s2 := (245, [(3, .int i), (2, .ref 465), (1, .ref 1), (0, .ref 0)], [.int (i + (Int32.ofInt 2)), .ref 0, .int x1, .ref 465, .int r], h1)) fun _ => rfl).trans ?_
  refine (mjTo.sald (xs := scr) mjLw_245 rfl e2).trans ?_
  refine (mjTo.step mjLw_246 (s2 := (247, [(3, .int i), (2, .ref 465), (1, .ref 1), (0, .ref 0)], [.ref 0, .int x2, .int x1, .ref 465, .int r], h1)) fun _ => rfl).trans ?_
  refine (mjTo.step mjLw_247 (s2 := (248, [(3, .int i), (2, .ref 465), (1, .ref 1), (0, .ref 0)], [.int i, .ref 0, .int x2, .int x1, .ref 465, .int r], h1)) fun _ => rfl).trans ?_
  refine (mjTo.step mjLw_248 (s2 := (249, [(3, .int i), (2, .ref 465), (1, .ref 1), (0, .ref 0)], [.int (Int32.ofInt 3), .int i, .ref 0, .int x2, .int x1, .ref 465, .int r], h1)) fun _ => rfl).trans ?_
  refine (mjTo.step mjLw_249 (s2 := (250, [(3, .int i), (2, .ref 465), (1, .ref 1), (0, .ref 0)], [.int (i + (Int32.ofInt 3)), .ref 0, .int x2, .int x1, .ref 465, .int r], h1)) fun _ => rfl).trans ?_
  refine (mjTo.sald (xs := scr) mjLw_250 rfl e3).trans ?_
  refine (mjTo.virt (as := [.int x1, .int x2, .int x3]) (r := [.int r]) (v := some (.int r)) (h' := h2) mjLw_251 rfl k1 (Nat.le_of_ble_eq_true rfl) (hm)).trans ?_
  refine (mjTo.icT (c := .eq) (x := r) (y := r) (n := 1455) mjLw_254 (decide_eq_true rfl) rfl).trans ?_
  exact mjTo.refl
set_option maxRecDepth 100000 in
theorem law_case_1 {scr : List Int32} {i x1 x2 x3 x4 x5 : Int32} {r : Int32} {h h1 h2 : mjH} {f0 f1 : List Value} (e1 : mjAt? scr (i + Int32.ofInt 1) = some x1) (e2 : mjAt? scr (i + Int32.ofInt 2) = some x2) (e3 : mjAt? scr (i + Int32.ofInt 3) = some x3) (e4 : mjAt? scr (i + Int32.ofInt 4) = some x4) (e5 : mjAt? scr (i + Int32.ofInt 5) = some x5) (hx : mjDoes 10 17 [.ref 1, .int x1, .int x2, .int x3, .long ((x4.toInt64 <<< ((Int8.ofInt 32).toInt32.toInt64 &&& 63)) ||| (x5.toInt64 &&& (4294967295)))] h (some (.int r)) h1) (hm : mjDoes 10 171 [.ref 465, .int x1, .int x2, .int x3, .long ((x4.toInt64 <<< ((Int8.ofInt 32).toInt32.toInt64 &&& 63)) ||| (x5.toInt64 &&& (4294967295)))] h1 (some (.int r)) h2) (k0 : h[0]? = some (.inl (10, f0))) (k1 : h1[464]? = some (.inl (11, f1))) : mjTo 10 4 (some scr) mjLt (259, mjLl i, [], h) (1455, mjLl i, [], h2) := by
  refine (mjTo.step mjLw_259 (s2 := (260, [(3, .int i), (2, .ref 465), (1, .ref 1), (0, .ref 0)], [.ref 1], h)) fun _ => rfl).trans ?_
  refine (mjTo.step mjLw_260 (s2 := (261, [(3, .int i), (2, .ref 465), (1, .ref 1), (0, .ref 0)], [.ref 0, .ref 1], h)) fun _ => rfl).trans ?_
  refine (mjTo.step mjLw_261 (s2 := (262, [(3, .int i), (2, .ref 465), (1, .ref 1), (0, .ref 0)], [.int i, .ref 0, .ref 1], h)) fun _ => rfl).trans ?_
  refine (mjTo.step mjLw_262 (s2 := (263, [(3, .int i), (2, .ref 465), (1, .ref 1), (0, .ref 0)], [.int (Int32.ofInt 1), .int i, .ref 0, .ref 1], h)) fun _ => rfl).trans ?_
  refine (mjTo.step mjLw_263 (s2 := (264, [(3, .int i), (2, .ref 465), (1, .ref 1), (0, .ref 0)], [.int (i + (Int32.ofInt 1)), .ref 0, .ref 1], h)) fun _ => rfl).trans ?_
  refine (mjTo.sald (xs := scr) mjLw_264 rfl e1).trans ?_
  refine (mjTo.step mjLw_265 (s2 := (266, [(3, .int i), (2, .ref 465), (1, .ref 1), (0, .ref 0)], [.ref 0, .int x1, .ref 1], h)) fun _ => rfl).trans ?_
  refine (mjTo.step mjLw_266 (s2 := (267, [(3, .int i), (2, .ref 465), (1, .ref 1), (0, .ref 0)], [.int i, .ref 0, .int x1, .ref 1], h)) fun _ => rfl).trans ?_
  refine (mjTo.step mjLw_267 (s2 := (268, [(3, .int i), (2, .ref 465), (1, .ref 1), (0, .ref 0)], [.int (Int32.ofInt 2), .int i, .ref 0, .int x1, .ref 1], h)) fun _ => rfl).trans ?_
  refine (mjTo.step mjLw_268 (s2 := (269, [(3, .int i), (2, .ref 465), (1, .ref 1), (0, .ref 0)], [.int (i + (Int32.ofInt 2)), .ref 0, .int x1, .ref 1], h)) fun _ => rfl).trans ?_
  refine (mjTo.sald (xs := scr) mjLw_269 rfl e2).trans ?_
  refine (mjTo.step mjLw_270 (s2 := (271, [(3, .int i), (2, .ref 465), (1, .ref 1), (0, .ref 0)], [.ref 0, .int x2, .int x1, .ref 1], h)) fun _ => rfl).trans ?_
  refine (mjTo.step mjLw_271 (s2 := (272, [(3, .int i), (2, .ref 465), (1, .ref 1), (0, .ref 0)], [.int i, .ref 0, .int x2, .int x1, .ref 1], h)) fun _ => rfl).trans ?_
  refine (mjTo.step mjLw_272 (s2 := (273, [(3, .int i), (2, .ref 465), (1, .ref 1), (0, .ref 0)], [.int (Int32.ofInt 3), .int i, .ref 0, .int x2, .int x1, .ref 1], h)) fun _ => rfl).trans ?_
  refine (mjTo.step mjLw_273 (s2 := (274, [(3, .int i), (2, .ref 465), (1, .ref 1), (0, .ref 0)], [.int (i + (Int32.ofInt 3)), .ref 0, .int x2, .int x1, .ref 1], h)) fun _ => rfl).trans ?_
  refine (mjTo.sald (xs := scr) mjLw_274 rfl e3).trans ?_
  refine (mjTo.step mjLw_275 (s2 := (276, [(3, .int i), (2, .ref 465), (1, .ref 1), (0, .ref 0)], [.ref 0, .int x3, .int x2, .int x1, .ref 1], h)) fun _ => rfl).trans ?_
  refine (mjTo.step mjLw_276 (s2 := (277, [(3, .int i), (2, .ref 465), (1, .ref 1), (0, .ref 0)], [.int i, .ref 0, .int x3, .int x2, .int x1, .ref 1], h)) fun _ => rfl).trans ?_
  refine (mjTo.step mjLw_277 (s2 := (278, [(3, .int i), (2, .ref 465), (1, .ref 1), (0, .ref 0)], [.int (Int32.ofInt 4), .int i, .ref 0, .int x3, .int x2, .int x1, .ref 1], h)) fun _ => rfl).trans ?_
  refine (mjTo.step mjLw_278 (s2 := (279, [(3, .int i), (2, .ref 465), (1, .ref 1), (0, .ref 0)], [.int (i + (Int32.ofInt 4)), .ref 0, .int x3, .int x2, .int x1, .ref 1], h)) fun _ => rfl).trans ?_
  refine (mjTo.sald (xs := scr) mjLw_279 rfl e4).trans ?_
  refine (mjTo.step mjLw_280 (s2 := (281, [(3, .int i), (2, .ref 465), (1, .ref 1), (0, .ref 0)], [.long (x4.toInt64), .int x3, .int x2, .int x1, .ref 1], h)) fun _ => rfl).trans ?_
  refine (mjTo.step mjLw_281 (s2 := (283, [(3, .int i), (2, .ref 465), (1, .ref 1), (0, .ref 0)], [.int ((Int8.ofInt 32).toInt32), .long (x4.toInt64), .int x3, .int x2, .int x1, .ref 1], h)) fun _ => rfl).trans ?_
  refine (mjTo.step mjLw_283 (s2 := (284, [(3, .int i), (2, .ref 465), (1, .ref 1), (0, .ref 0)], [.long (x4.toInt64 <<< ((Int8.ofInt 32).toInt32.toInt64 &&& 63)), .int x3, .int x2, .int x1, .ref 1], h)) fun _ => rfl).trans ?_
  refine (mjTo.step mjLw_284 (s2 := (285, [(3, .int i), (2, .ref 465), (1, .ref 1), (0, .ref 0)], [.ref 0, .long (x4.toInt64 <<< ((Int8.ofInt 32).toInt32.toInt64 &&& 63)), .int x3, .int x2, .int x1, .ref 1], h)) fun _ => rfl).trans ?_
  refine (mjTo.step mjLw_285 (s2 := (286, [(3, .int i), (2, .ref 465), (1, .ref 1), (0, .ref 0)], [.int i, .ref 0, .long (x4.toInt64 <<< ((Int8.ofInt 32).toInt32.toInt64 &&& 63)), .int x3, .int x2, .int x1, .ref 1], h)) fun _ => rfl).trans ?_
  refine (mjTo.step mjLw_286 (s2 := (287, [(3, .int i), (2, .ref 465), (1, .ref 1), (0, .ref 0)], [.int (Int32.ofInt 5), .int i, .ref 0, .long (x4.toInt64 <<< ((Int8.ofInt 32).toInt32.toInt64 &&& 63)), .int x3, .int x2, .int x1, .ref 1], h)) fun _ => rfl).trans ?_
  refine (mjTo.step mjLw_287 (s2 := (288, [(3, .int i), (2, .ref 465), (1, .ref 1), (0, .ref 0)], [.int (i + (Int32.ofInt 5)), .ref 0, .long (x4.toInt64 <<< ((Int8.ofInt 32).toInt32.toInt64 &&& 63)), .int x3, .int x2, .int x1, .ref 1], h)) fun _ => rfl).trans ?_
  refine (mjTo.sald (xs := scr) mjLw_288 rfl e5).trans ?_
  refine (mjTo.step mjLw_289 (s2 := (290, [(3, .int i), (2, .ref 465), (1, .ref 1), (0, .ref 0)], [.long (x5.toInt64), .long (x4.toInt64 <<< ((Int8.ofInt 32).toInt32.toInt64 &&& 63)), .int x3, .int x2, .int x1, .ref 1], h)) fun _ => rfl).trans ?_
  refine (mjTo.step mjLw_290 (s2 := (293, [(3, .int i), (2, .ref 465), (1, .ref 1), (0, .ref 0)], [.long (4294967295), .long (x5.toInt64), .long (x4.toInt64 <<< ((Int8.ofInt 32).toInt32.toInt64 &&& 63)), .int x3, .int x2, .int x1, .ref 1], h)) fun _ => rfl).trans ?_
  refine (mjTo.step mjLw_293 (s2 := (294, [(3, .int i), (2, .ref 465), (1, .ref 1), (0, .ref 0)], [.long (x5.toInt64 &&& (4294967295)), .long (x4.toInt64 <<< ((Int8.ofInt 32).toInt32.toInt64 &&& 63)), .int x3, .int x2, .int x1, .ref 1], h)) fun _ => rfl).trans ?_
  refine (mjTo.step mjLw_294 (s2 := (295, [(3, .int i), (2, .ref 465), (1, .ref 1), (0, .ref 0)], [.long ((x4.toInt64 <<< ((Int8.ofInt 32).toInt32.toInt64 &&& 63)) ||| (x5.toInt64 &&& (4294967295))), .int x3, .int x2, .int x1, .ref 1], h)) fun _ => rfl).trans ?_
  refine (mjTo.virt (as := [.int x1, .int x2, .int x3, .long ((x4.toInt64 <<< ((Int8.ofInt 32).toInt32.toInt64 &&& 63)) ||| (x5.toInt64 &&& (4294967295)))]) (r := []) (v := some (.int r)) (h' := h1) mjLw_295 rfl k0 (Nat.le_of_ble_eq_true rfl) (hx)).trans ?_
  refine (mjTo.step mjLw_298 (s2 := (299, [(3, .int i), (2, .ref 465), (1, .ref 1), (0, .ref 0)], [.ref 465, .int r], h1)) fun _ => rfl).trans ?_
  refine (mjTo.step mjLw_299 (s2 := (300, [(3, .int i), (2, .ref 465), (1, .ref 1), (0, .ref 0)], [.ref 0, .ref 465, .int r], h1)) fun _ => rfl).trans ?_
  refine (mjTo.step mjLw_300 (s2 := (301, [(3, .int i), (2, .ref 465), (1, .ref 1), (0, .ref 0)], [.int i, .ref 0, .ref 465, .int r], h1)) fun _ => rfl).trans ?_
  refine (mjTo.step mjLw_301 (s2 := (302, [(3, .int i), (2, .ref 465), (1, .ref 1), (0, .ref 0)], [.int (Int32.ofInt 1), .int i, .ref 0, .ref 465, .int r], h1)) fun _ => rfl).trans ?_
  refine (mjTo.step mjLw_302 (s2 := (303, [(3, .int i), (2, .ref 465), (1, .ref 1), (0, .ref 0)], [.int (i + (Int32.ofInt 1)), .ref 0, .ref 465, .int r], h1)) fun _ => rfl).trans ?_
  refine (mjTo.sald (xs := scr) mjLw_303 rfl e1).trans ?_
  refine (mjTo.step mjLw_304 (s2 := (305, [(3, .int i), (2, .ref 465), (1, .ref 1), (0, .ref 0)], [.ref 0, .int x1, .ref 465, .int r], h1)) fun _ => rfl).trans ?_
  refine (mjTo.step mjLw_305 (s2 := (306, [(3, .int i), (2, .ref 465), (1, .ref 1), (0, .ref 0)], [.int i, .ref 0, .int x1, .ref 465, .int r], h1)) fun _ => rfl).trans ?_
  refine (mjTo.step mjLw_306 (s2 := (307, [(3, .int i), (2, .ref 465), (1, .ref 1), (0, .ref 0)], [.int (Int32.ofInt 2), .int i, .ref 0, .int x1, .ref 465, .int r], h1)) fun _ => rfl).trans ?_
  refine (mjTo.step mjLw_307 (s2 := (308, [(3, .int i), (2, .ref 465), (1, .ref 1), (0, .ref 0)], [.int (i + (Int32.ofInt 2)), .ref 0, .int x1, .ref 465, .int r], h1)) fun _ => rfl).trans ?_
  refine (mjTo.sald (xs := scr) mjLw_308 rfl e2).trans ?_
  refine (mjTo.step mjLw_309 (s2 := (310, [(3, .int i), (2, .ref 465), (1, .ref 1), (0, .ref 0)], [.ref 0, .int x2, .int x1, .ref 465, .int r], h1)) fun _ => rfl).trans ?_
  refine (mjTo.step mjLw_310 (s2 := (311, [(3, .int i), (2, .ref 465), (1, .ref 1), (0, .ref 0)], [.int i, .ref 0, .int x2, .int x1, .ref 465, .int r], h1)) fun _ => rfl).trans ?_
  refine (mjTo.step mjLw_311 (s2 := (312, [(3, .int i), (2, .ref 465), (1, .ref 1), (0, .ref 0)], [.int (Int32.ofInt 3), .int i, .ref 0, .int x2, .int x1, .ref 465, .int r], h1)) fun _ => rfl).trans ?_
  refine (mjTo.step mjLw_312 (s2 := (313, [(3, .int i), (2, .ref 465), (1, .ref 1), (0, .ref 0)], [.int (i + (Int32.ofInt 3)), .ref 0, .int x2, .int x1, .ref 465, .int r], h1)) fun _ => rfl).trans ?_
  refine (mjTo.sald (xs := scr) mjLw_313 rfl e3).trans ?_
  refine (mjTo.step mjLw_314 (s2 := (315, [(3, .int i), (2, .ref 465), (1, .ref 1), (0, .ref 0)], [.ref 0, .int x3, .int x2, .int x1, .ref 465, .int r], h1)) fun _ => rfl).trans ?_
  refine (mjTo.step mjLw_315 (s2 := (316, [(3, .int i), (2, .ref 465), (1, .ref 1), (0, .ref 0)], [.int i, .ref 0, .int x3, .int x2, .int x1, .ref 465, .int r], h1)) fun _ => rfl).trans ?_
  refine (mjTo.step mjLw_316 (s2 := (317, [(3, .int i), (2, .ref 465), (1, .ref 1), (0, .ref 0)], [.int (Int32.ofInt 4), .int i, .ref 0, .int x3, .int x2, .int x1, .ref 465, .int r], h1)) fun _ => rfl).trans ?_
  refine (mjTo.step mjLw_317 (s2 := (318, [(3, .int i), (2, .ref 465), (1, .ref 1), (0, .ref 0)], [.int (i + (Int32.ofInt 4)), .ref 0, .int x3, .int x2, .int x1, .ref 465, .int r], h1)) fun _ => rfl).trans ?_
  refine (mjTo.sald (xs := scr) mjLw_318 rfl e4).trans ?_
  refine (mjTo.step mjLw_319 (s2 := (320, [(3, .int i), (2, .ref 465), (1, .ref 1), (0, .ref 0)], [.long (x4.toInt64), .int x3, .int x2, .int x1, .ref 465, .int r], h1)) fun _ => rfl).trans ?_
  refine (mjTo.step mjLw_320 (s2 := (322, [(3, .int i), (2, .ref 465), (1, .ref 1), (0, .ref 0)], [.int ((Int8.ofInt 32).toInt32), .long (x4.toInt64), .int x3, .int x2, .int x1, .ref 465, .int r], h1)) fun _ => rfl).trans ?_
  refine (mjTo.step mjLw_322 (s2 := (323, [(3, .int i), (2, .ref 465), (1, .ref 1), (0, .ref 0)], [.long (x4.toInt64 <<< ((Int8.ofInt 32).toInt32.toInt64 &&& 63)), .int x3, .int x2, .int x1, .ref 465, .int r], h1)) fun _ => rfl).trans ?_
  refine (mjTo.step mjLw_323 (s2 := (324, [(3, .int i), (2, .ref 465), (1, .ref 1), (0, .ref 0)], [.ref 0, .long (x4.toInt64 <<< ((Int8.ofInt 32).toInt32.toInt64 &&& 63)), .int x3, .int x2, .int x1, .ref 465, .int r], h1)) fun _ => rfl).trans ?_
  refine (mjTo.step mjLw_324 (s2 := (325, [(3, .int i), (2, .ref 465), (1, .ref 1), (0, .ref 0)], [.int i, .ref 0, .long (x4.toInt64 <<< ((Int8.ofInt 32).toInt32.toInt64 &&& 63)), .int x3, .int x2, .int x1, .ref 465, .int r], h1)) fun _ => rfl).trans ?_
  refine (mjTo.step mjLw_325 (s2 := (326, [(3, .int i), (2, .ref 465), (1, .ref 1), (0, .ref 0)], [.int (Int32.ofInt 5), .int i, .ref 0, .long (x4.toInt64 <<< ((Int8.ofInt 32).toInt32.toInt64 &&& 63)), .int x3, .int x2, .int x1, .ref 465, .int r], h1)) fun _ => rfl).trans ?_
  refine (mjTo.step mjLw_326 (s2 := (327, [(3, .int i), (2, .ref 465), (1, .ref 1), (0, .ref 0)], [.int (i + (Int32.ofInt 5)), .ref 0, .long (x4.toInt64 <<< ((Int8.ofInt 32).toInt32.toInt64 &&& 63)), .int x3, .int x2, .int x1, .ref 465, .int r], h1)) fun _ => rfl).trans ?_
  refine (mjTo.sald (xs := scr) mjLw_327 rfl e5).trans ?_
  refine (mjTo.step mjLw_328 (s2 := (329, [(3, .int i), (2, .ref 465), (1, .ref 1), (0, .ref 0)], [.long (x5.toInt64), .long (x4.toInt64 <<< ((Int8.ofInt 32).toInt32.toInt64 &&& 63)), .int x3, .int x2, .int x1, .ref 465, .int r], h1)) fun _ => rfl).trans ?_
  refine (mjTo.step mjLw_329 (s2 := (332, [(3, .int i), (2, .ref 465), (1, .ref 1), (0, .ref 0)], [.long (4294967295), .long (x5.toInt64), .long (x4.toInt64 <<< ((Int8.ofInt 32).toInt32.toInt64 &&& 63)), .int x3, .int x2, .int x1, .ref 465, .int r], h1)) fun _ => rfl).trans ?_
  refine (mjTo.step mjLw_332 (s2 := (333, [(3, .int i), (2, .ref 465), (1, .ref 1), (0, .ref 0)], [.long (x5.toInt64 &&& (4294967295)), .long (x4.toInt64 <<< ((Int8.ofInt 32).toInt32.toInt64 &&& 63)), .int x3, .int x2, .int x1, .ref 465, .int r], h1)) fun _ => rfl).trans ?_
  refine (mjTo.step mjLw_333 (s2 := (334, [(3, .int i), (2, .ref 465), (1, .ref 1), (0, .ref 0)], [.long ((x4.toInt64 <<< ((Int8.ofInt 32).toInt32.toInt64 &&& 63)) ||| (x5.toInt64 &&& (4294967295))), .int x3, .int x2, .int x1, .ref 465, .int r], h1)) fun _ => rfl).trans ?_
  refine (mjTo.virt (as := [.int x1, .int x2, .int x3, .long ((x4.toInt64 <<< ((Int8.ofInt 32).toInt32.toInt64 &&& 63)) ||| (x5.toInt64 &&& (4294967295)))]) (r := [.int r]) (v := some (.int r)) (h' := h2) mjLw_334 rfl k1 (Nat.le_of_ble_eq_true rfl) (hm)).trans ?_
  refine (mjTo.icT (c := .eq) (x := r) (y := r) (n := 1455) mjLw_337 (decide_eq_true rfl) rfl).trans ?_
  exact mjTo.refl
set_option maxRecDepth 100000 in
theorem law_case_2 {scr : List Int32} {i x1 : Int32} {r : Int32} {h h1 h2 : mjH} {f0 f1 : List Value} (e1 : mjAt? scr (i + Int32.ofInt 1) = some x1) (hx : mjDoes 10 22 [.ref 1, .int x1] h (some (.int r)) h1) (hm : mjDoes 10 172 [.ref 465, .int x1] h1 (some (.int r)) h2) (k0 : h[0]? = some (.inl (10, f0))) (k1 : h1[464]? = some (.inl (11, f1))) : mjTo 10 4 (some scr) mjLt (342, mjLl i, [], h) (1455, mjLl i, [], h2) := by
  refine (mjTo.step mjLw_342 (s2 := (343, [(3, .int i), (2, .ref 465), (1, .ref 1), (0, .ref 0)], [.ref 1], h)) fun _ => rfl).trans ?_
  refine (mjTo.step mjLw_343 (s2 := (344, [(3, .int i), (2, .ref 465), (1, .ref 1), (0, .ref 0)], [.ref 0, .ref 1], h)) fun _ => rfl).trans ?_
  refine (mjTo.step mjLw_344 (s2 := (345, [(3, .int i), (2, .ref 465), (1, .ref 1), (0, .ref 0)], [.int i, .ref 0, .ref 1], h)) fun _ => rfl).trans ?_
  refine (mjTo.step mjLw_345 (s2 := (346, [(3, .int i), (2, .ref 465), (1, .ref 1), (0, .ref 0)], [.int (Int32.ofInt 1), .int i, .ref 0, .ref 1], h)) fun _ => rfl).trans ?_
  refine (mjTo.step mjLw_346 (s2 := (347, [(3, .int i), (2, .ref 465), (1, .ref 1), (0, .ref 0)], [.int (i + (Int32.ofInt 1)), .ref 0, .ref 1], h)) fun _ => rfl).trans ?_
  refine (mjTo.sald (xs := scr) mjLw_347 rfl e1).trans ?_
  refine (mjTo.virt (as := [.int x1]) (r := []) (v := some (.int r)) (h' := h1) mjLw_348 rfl k0 (Nat.le_of_ble_eq_true rfl) (hx)).trans ?_
  refine (mjTo.step mjLw_351 (s2 := (352, [(3, .int i), (2, .ref 465), (1, .ref 1), (0, .ref 0)], [.ref 465, .int r], h1)) fun _ => rfl).trans ?_
  refine (mjTo.step mjLw_352 (s2 := (353, [(3, .int i), (2, .ref 465), (1, .ref 1), (0, .ref 0)], [.ref 0, .ref 465, .int r], h1)) fun _ => rfl).trans ?_
  refine (mjTo.step mjLw_353 (s2 := (354, [(3, .int i), (2, .ref 465), (1, .ref 1), (0, .ref 0)], [.int i, .ref 0, .ref 465, .int r], h1)) fun _ => rfl).trans ?_
  refine (mjTo.step mjLw_354 (s2 := (355, [(3, .int i), (2, .ref 465), (1, .ref 1), (0, .ref 0)], [.int (Int32.ofInt 1), .int i, .ref 0, .ref 465, .int r], h1)) fun _ => rfl).trans ?_
  refine (mjTo.step mjLw_355 (s2 := (356, [(3, .int i), (2, .ref 465), (1, .ref 1), (0, .ref 0)], [.int (i + (Int32.ofInt 1)), .ref 0, .ref 465, .int r], h1)) fun _ => rfl).trans ?_
  refine (mjTo.sald (xs := scr) mjLw_356 rfl e1).trans ?_
  refine (mjTo.virt (as := [.int x1]) (r := [.int r]) (v := some (.int r)) (h' := h2) mjLw_357 rfl k1 (Nat.le_of_ble_eq_true rfl) (hm)).trans ?_
  refine (mjTo.icT (c := .eq) (x := r) (y := r) (n := 1455) mjLw_360 (decide_eq_true rfl) rfl).trans ?_
  exact mjTo.refl
set_option maxRecDepth 100000 in
theorem law_case_3 {scr : List Int32} {i x1 x2 : Int32} {r : Int32} {h h1 h2 : mjH} {f0 f1 : List Value} (e1 : mjAt? scr (i + Int32.ofInt 1) = some x1) (e2 : mjAt? scr (i + Int32.ofInt 2) = some x2) (hx : mjDoes 10 24 [.ref 1, .int x1, .int x2] h (some (.int r)) h1) (hm : mjDoes 10 173 [.ref 465, .int x1, .int x2] h1 (some (.int r)) h2) (k0 : h[0]? = some (.inl (10, f0))) (k1 : h1[464]? = some (.inl (11, f1))) : mjTo 10 4 (some scr) mjLt (365, mjLl i, [], h) (1455, mjLl i, [], h2) := by
  refine (mjTo.step mjLw_365 (s2 := (366, [(3, .int i), (2, .ref 465), (1, .ref 1), (0, .ref 0)], [.ref 1], h)) fun _ => rfl).trans ?_
  refine (mjTo.step mjLw_366 (s2 := (367, [(3, .int i), (2, .ref 465), (1, .ref 1), (0, .ref 0)], [.ref 0, .ref 1], h)) fun _ => rfl).trans ?_
  refine (mjTo.step mjLw_367 (s2 := (368, [(3, .int i), (2, .ref 465), (1, .ref 1), (0, .ref 0)], [.int i, .ref 0, .ref 1], h)) fun _ => rfl).trans ?_
  refine (mjTo.step mjLw_368 (s2 := (369, [(3, .int i), (2, .ref 465), (1, .ref 1), (0, .ref 0)], [.int (Int32.ofInt 1), .int i, .ref 0, .ref 1], h)) fun _ => rfl).trans ?_
  refine (mjTo.step mjLw_369 (s2 := (370, [(3, .int i), (2, .ref 465), (1, .ref 1), (0, .ref 0)], [.int (i + (Int32.ofInt 1)), .ref 0, .ref 1], h)) fun _ => rfl).trans ?_
  refine (mjTo.sald (xs := scr) mjLw_370 rfl e1).trans ?_
  refine (mjTo.step mjLw_371 (s2 := (372, [(3, .int i), (2, .ref 465), (1, .ref 1), (0, .ref 0)], [.ref 0, .int x1, .ref 1], h)) fun _ => rfl).trans ?_
  refine (mjTo.step mjLw_372 (s2 := (373, [(3, .int i), (2, .ref 465), (1, .ref 1), (0, .ref 0)], [.int i, .ref 0, .int x1, .ref 1], h)) fun _ => rfl).trans ?_
  refine (mjTo.step mjLw_373 (s2 := (374, [(3, .int i), (2, .ref 465), (1, .ref 1), (0, .ref 0)], [.int (Int32.ofInt 2), .int i, .ref 0, .int x1, .ref 1], h)) fun _ => rfl).trans ?_
  refine (mjTo.step mjLw_374 (s2 := (375, [(3, .int i), (2, .ref 465), (1, .ref 1), (0, .ref 0)], [.int (i + (Int32.ofInt 2)), .ref 0, .int x1, .ref 1], h)) fun _ => rfl).trans ?_
  refine (mjTo.sald (xs := scr) mjLw_375 rfl e2).trans ?_
  refine (mjTo.virt (as := [.int x1, .int x2]) (r := []) (v := some (.int r)) (h' := h1) mjLw_376 rfl k0 (Nat.le_of_ble_eq_true rfl) (hx)).trans ?_
  refine (mjTo.step mjLw_379 (s2 := (380, [(3, .int i), (2, .ref 465), (1, .ref 1), (0, .ref 0)], [.ref 465, .int r], h1)) fun _ => rfl).trans ?_
  refine (mjTo.step mjLw_380 (s2 := (381, [(3, .int i), (2, .ref 465), (1, .ref 1), (0, .ref 0)], [.ref 0, .ref 465, .int r], h1)) fun _ => rfl).trans ?_
  refine (mjTo.step mjLw_381 (s2 := (382, [(3, .int i), (2, .ref 465), (1, .ref 1), (0, .ref 0)], [.int i, .ref 0, .ref 465, .int r], h1)) fun _ => rfl).trans ?_
  refine (mjTo.step mjLw_382 (s2 := (383, [(3, .int i), (2, .ref 465), (1, .ref 1), (0, .ref 0)], [.int (Int32.ofInt 1), .int i, .ref 0, .ref 465, .int r], h1)) fun _ => rfl).trans ?_
  refine (mjTo.step mjLw_383 (s2 := (384, [(3, .int i), (2, .ref 465), (1, .ref 1), (0, .ref 0)], [.int (i + (Int32.ofInt 1)), .ref 0, .ref 465, .int r], h1)) fun _ => rfl).trans ?_
  refine (mjTo.sald (xs := scr) mjLw_384 rfl e1).trans ?_
  refine (mjTo.step mjLw_385 (s2 := (386, [(3, .int i), (2, .ref 465), (1, .ref 1), (0, .ref 0)], [.ref 0, .int x1, .ref 465, .int r], h1)) fun _ => rfl).trans ?_
  refine (mjTo.step mjLw_386 (s2 := (387, [(3, .int i), (2, .ref 465), (1, .ref 1), (0, .ref 0)], [.int i, .ref 0, .int x1, .ref 465, .int r], h1)) fun _ => rfl).trans ?_
  refine (mjTo.step mjLw_387 (s2 := (388, [(3, .int i), (2, .ref 465), (1, .ref 1), (0, .ref 0)], [.int (Int32.ofInt 2), .int i, .ref 0, .int x1, .ref 465, .int r], h1)) fun _ => rfl).trans ?_
  refine (mjTo.step mjLw_388 (s2 := (389, [(3, .int i), (2, .ref 465), (1, .ref 1), (0, .ref 0)], [.int (i + (Int32.ofInt 2)), .ref 0, .int x1, .ref 465, .int r], h1)) fun _ => rfl).trans ?_
  refine (mjTo.sald (xs := scr) mjLw_389 rfl e2).trans ?_
  refine (mjTo.virt (as := [.int x1, .int x2]) (r := [.int r]) (v := some (.int r)) (h' := h2) mjLw_390 rfl k1 (Nat.le_of_ble_eq_true rfl) (hm)).trans ?_
  refine (mjTo.icT (c := .eq) (x := r) (y := r) (n := 1455) mjLw_393 (decide_eq_true rfl) rfl).trans ?_
  exact mjTo.refl
set_option maxRecDepth 100000 in
theorem law_case_4 {scr : List Int32} {i  : Int32} {r : Int32} {h h1 h2 : mjH} {f0 f1 : List Value}  (hx : mjDoes 10 46 [.ref 1] h (some (.int r)) h1) (hm : mjDoes 10 179 [.ref 465] h1 (some (.int r)) h2) (k0 : h[0]? = some (.inl (10, f0))) (k1 : h1[464]? = some (.inl (11, f1))) : mjTo 10 4 (some scr) mjLt (398, mjLl i, [], h) (1455, mjLl i, [], h2) := by
  refine (mjTo.step mjLw_398 (s2 := (399, [(3, .int i), (2, .ref 465), (1, .ref 1), (0, .ref 0)], [.ref 1], h)) fun _ => rfl).trans ?_
  refine (mjTo.virt (as := []) (r := []) (v := some (.int r)) (h' := h1) mjLw_399 rfl k0 (Nat.le_of_ble_eq_true rfl) (hx)).trans ?_
  refine (mjTo.step mjLw_402 (s2 := (403, [(3, .int i), (2, .ref 465), (1, .ref 1), (0, .ref 0)], [.ref 465, .int r], h1)) fun _ => rfl).trans ?_
  refine (mjTo.virt (as := []) (r := [.int r]) (v := some (.int r)) (h' := h2) mjLw_403 rfl k1 (Nat.le_of_ble_eq_true rfl) (hm)).trans ?_
  refine (mjTo.icT (c := .eq) (x := r) (y := r) (n := 1455) mjLw_406 (decide_eq_true rfl) rfl).trans ?_
  exact mjTo.refl
set_option maxRecDepth 100000 in
theorem law_case_5 {scr : List Int32} {i x1 : Int32} {r : Int32} {h h1 h2 : mjH} {f0 f1 : List Value} (e1 : mjAt? scr (i + Int32.ofInt 1) = some x1) (hx : mjDoes 10 47 [.ref 1, .int x1] h (some (.int r)) h1) (hm : mjDoes 10 180 [.ref 465, .int x1] h1 (some (.int r)) h2) (k0 : h[0]? = some (.inl (10, f0))) (k1 : h1[464]? = some (.inl (11, f1))) : mjTo 10 4 (some scr) mjLt (411, mjLl i, [], h) (1455, mjLl i, [], h2) := by
  refine (mjTo.step mjLw_411 (s2 := (412, [(3, .int i), (2, .ref 465), (1, .ref 1), (0, .ref 0)], [.ref 1], h)) fun _ => rfl).trans ?_
  refine (mjTo.step mjLw_412 (s2 := (413, [(3, .int i), (2, .ref 465), (1, .ref 1), (0, .ref 0)], [.ref 0, .ref 1], h)) fun _ => rfl).trans ?_
  refine (mjTo.step mjLw_413 (s2 := (414, [(3, .int i), (2, .ref 465), (1, .ref 1), (0, .ref 0)], [.int i, .ref 0, .ref 1], h)) fun _ => rfl).trans ?_
  refine (mjTo.step mjLw_414 (s2 := (415, [(3, .int i), (2, .ref 465), (1, .ref 1), (0, .ref 0)], [.int (Int32.ofInt 1), .int i, .ref 0, .ref 1], h)) fun _ => rfl).trans ?_
  refine (mjTo.step mjLw_415 (s2 := (416, [(3, .int i), (2, .ref 465), (1, .ref 1), (0, .ref 0)], [.int (i + (Int32.ofInt 1)), .ref 0, .ref 1], h)) fun _ => rfl).trans ?_
  refine (mjTo.sald (xs := scr) mjLw_416 rfl e1).trans ?_
  refine (mjTo.virt (as := [.int x1]) (r := []) (v := some (.int r)) (h' := h1) mjLw_417 rfl k0 (Nat.le_of_ble_eq_true rfl) (hx)).trans ?_
  refine (mjTo.step mjLw_420 (s2 := (421, [(3, .int i), (2, .ref 465), (1, .ref 1), (0, .ref 0)], [.ref 465, .int r], h1)) fun _ => rfl).trans ?_
  refine (mjTo.step mjLw_421 (s2 := (422, [(3, .int i), (2, .ref 465), (1, .ref 1), (0, .ref 0)], [.ref 0, .ref 465, .int r], h1)) fun _ => rfl).trans ?_
  refine (mjTo.step mjLw_422 (s2 := (423, [(3, .int i), (2, .ref 465), (1, .ref 1), (0, .ref 0)], [.int i, .ref 0, .ref 465, .int r], h1)) fun _ => rfl).trans ?_
  refine (mjTo.step mjLw_423 (s2 := (424, [(3, .int i), (2, .ref 465), (1, .ref 1), (0, .ref 0)], [.int (Int32.ofInt 1), .int i, .ref 0, .ref 465, .int r], h1)) fun _ => rfl).trans ?_
  refine (mjTo.step mjLw_424 (s2 := (425, [(3, .int i), (2, .ref 465), (1, .ref 1), (0, .ref 0)], [.int (i + (Int32.ofInt 1)), .ref 0, .ref 465, .int r], h1)) fun _ => rfl).trans ?_
  refine (mjTo.sald (xs := scr) mjLw_425 rfl e1).trans ?_
  refine (mjTo.virt (as := [.int x1]) (r := [.int r]) (v := some (.int r)) (h' := h2) mjLw_426 rfl k1 (Nat.le_of_ble_eq_true rfl) (hm)).trans ?_
  refine (mjTo.icT (c := .eq) (x := r) (y := r) (n := 1455) mjLw_429 (decide_eq_true rfl) rfl).trans ?_
  exact mjTo.refl
set_option maxRecDepth 100000 in
theorem law_case_6 {scr : List Int32} {i x1 : Int32} {r : Int32} {h h1 h2 : mjH} {f0 f1 : List Value} (e1 : mjAt? scr (i + Int32.ofInt 1) = some x1) (hx : mjDoes 10 49 [.ref 1, .int x1] h (some (.int r)) h1) (hm : mjDoes 10 182 [.ref 465, .int x1] h1 (some (.int r)) h2) (k0 : h[0]? = some (.inl (10, f0))) (k1 : h1[464]? = some (.inl (11, f1))) : mjTo 10 4 (some scr) mjLt (434, mjLl i, [], h) (1455, mjLl i, [], h2) := by
  refine (mjTo.step mjLw_434 (s2 := (435, [(3, .int i), (2, .ref 465), (1, .ref 1), (0, .ref 0)], [.ref 1], h)) fun _ => rfl).trans ?_
  refine (mjTo.step mjLw_435 (s2 := (436, [(3, .int i), (2, .ref 465), (1, .ref 1), (0, .ref 0)], [.ref 0, .ref 1], h)) fun _ => rfl).trans ?_
  refine (mjTo.step mjLw_436 (s2 := (437, [(3, .int i), (2, .ref 465), (1, .ref 1), (0, .ref 0)], [.int i, .ref 0, .ref 1], h)) fun _ => rfl).trans ?_
  refine (mjTo.step mjLw_437 (s2 := (438, [(3, .int i), (2, .ref 465), (1, .ref 1), (0, .ref 0)], [.int (Int32.ofInt 1), .int i, .ref 0, .ref 1], h)) fun _ => rfl).trans ?_
  refine (mjTo.step mjLw_438 (s2 := (439, [(3, .int i), (2, .ref 465), (1, .ref 1), (0, .ref 0)], [.int (i + (Int32.ofInt 1)), .ref 0, .ref 1], h)) fun _ => rfl).trans ?_
  refine (mjTo.sald (xs := scr) mjLw_439 rfl e1).trans ?_
  refine (mjTo.virt (as := [.int x1]) (r := []) (v := some (.int r)) (h' := h1) mjLw_440 rfl k0 (Nat.le_of_ble_eq_true rfl) (hx)).trans ?_
  refine (mjTo.step mjLw_443 (s2 := (444, [(3, .int i), (2, .ref 465), (1, .ref 1), (0, .ref 0)], [.ref 465, .int r], h1)) fun _ => rfl).trans ?_
  refine (mjTo.step mjLw_444 (s2 := (445, [(3, .int i), (2, .ref 465), (1, .ref 1), (0, .ref 0)], [.ref 0, .ref 465, .int r], h1)) fun _ => rfl).trans ?_
  refine (mjTo.step mjLw_445 (s2 := (446, [(3, .int i), (2, .ref 465), (1, .ref 1), (0, .ref 0)], [.int i, .ref 0, .ref 465, .int r], h1)) fun _ => rfl).trans ?_
  refine (mjTo.step mjLw_446 (s2 := (447, [(3, .int i), (2, .ref 465), (1, .ref 1), (0, .ref 0)], [.int (Int32.ofInt 1), .int i, .ref 0, .ref 465, .int r], h1)) fun _ => rfl).trans ?_
  refine (mjTo.step mjLw_447 (s2 := (448, [(3, .int i), (2, .ref 465), (1, .ref 1), (0, .ref 0)], [.int (i + (Int32.ofInt 1)), .ref 0, .ref 465, .int r], h1)) fun _ => rfl).trans ?_
  refine (mjTo.sald (xs := scr) mjLw_448 rfl e1).trans ?_
  refine (mjTo.virt (as := [.int x1]) (r := [.int r]) (v := some (.int r)) (h' := h2) mjLw_449 rfl k1 (Nat.le_of_ble_eq_true rfl) (hm)).trans ?_
  refine (mjTo.icT (c := .eq) (x := r) (y := r) (n := 1455) mjLw_452 (decide_eq_true rfl) rfl).trans ?_
  exact mjTo.refl
set_option maxRecDepth 100000 in
theorem law_case_7 {scr : List Int32} {i x1 x2 : Int32} {r : Int32} {h h1 h2 : mjH} {f0 f1 : List Value} (e1 : mjAt? scr (i + Int32.ofInt 1) = some x1) (e2 : mjAt? scr (i + Int32.ofInt 2) = some x2) (hx : mjDoes 10 50 [.ref 1, .int x1, .int x2] h (some (.int r)) h1) (hm : mjDoes 10 183 [.ref 465, .int x1, .int x2] h1 (some (.int r)) h2) (k0 : h[0]? = some (.inl (10, f0))) (k1 : h1[464]? = some (.inl (11, f1))) : mjTo 10 4 (some scr) mjLt (457, mjLl i, [], h) (1455, mjLl i, [], h2) := by
  refine (mjTo.step mjLw_457 (s2 := (458, [(3, .int i), (2, .ref 465), (1, .ref 1), (0, .ref 0)], [.ref 1], h)) fun _ => rfl).trans ?_
  refine (mjTo.step mjLw_458 (s2 := (459, [(3, .int i), (2, .ref 465), (1, .ref 1), (0, .ref 0)], [.ref 0, .ref 1], h)) fun _ => rfl).trans ?_
  refine (mjTo.step mjLw_459 (s2 := (460, [(3, .int i), (2, .ref 465), (1, .ref 1), (0, .ref 0)], [.int i, .ref 0, .ref 1], h)) fun _ => rfl).trans ?_
  refine (mjTo.step mjLw_460 (s2 := (461, [(3, .int i), (2, .ref 465), (1, .ref 1), (0, .ref 0)], [.int (Int32.ofInt 1), .int i, .ref 0, .ref 1], h)) fun _ => rfl).trans ?_
  refine (mjTo.step mjLw_461 (s2 := (462, [(3, .int i), (2, .ref 465), (1, .ref 1), (0, .ref 0)], [.int (i + (Int32.ofInt 1)), .ref 0, .ref 1], h)) fun _ => rfl).trans ?_
  refine (mjTo.sald (xs := scr) mjLw_462 rfl e1).trans ?_
  refine (mjTo.step mjLw_463 (s2 := (464, [(3, .int i), (2, .ref 465), (1, .ref 1), (0, .ref 0)], [.ref 0, .int x1, .ref 1], h)) fun _ => rfl).trans ?_
  refine (mjTo.step mjLw_464 (s2 := (465, [(3, .int i), (2, .ref 465), (1, .ref 1), (0, .ref 0)], [.int i, .ref 0, .int x1, .ref 1], h)) fun _ => rfl).trans ?_
  refine (mjTo.step mjLw_465 (s2 := (466, [(3, .int i), (2, .ref 465), (1, .ref 1), (0, .ref 0)], [.int (Int32.ofInt 2), .int i, .ref 0, .int x1, .ref 1], h)) fun _ => rfl).trans ?_
  refine (mjTo.step mjLw_466 (s2 := (467, [(3, .int i), (2, .ref 465), (1, .ref 1), (0, .ref 0)], [.int (i + (Int32.ofInt 2)), .ref 0, .int x1, .ref 1], h)) fun _ => rfl).trans ?_
  refine (mjTo.sald (xs := scr) mjLw_467 rfl e2).trans ?_
  refine (mjTo.virt (as := [.int x1, .int x2]) (r := []) (v := some (.int r)) (h' := h1) mjLw_468 rfl k0 (Nat.le_of_ble_eq_true rfl) (hx)).trans ?_
  refine (mjTo.step mjLw_471 (s2 := (472, [(3, .int i), (2, .ref 465), (1, .ref 1), (0, .ref 0)], [.ref 465, .int r], h1)) fun _ => rfl).trans ?_
  refine (mjTo.step mjLw_472 (s2 := (473, [(3, .int i), (2, .ref 465), (1, .ref 1), (0, .ref 0)], [.ref 0, .ref 465, .int r], h1)) fun _ => rfl).trans ?_
  refine (mjTo.step mjLw_473 (s2 := (474, [(3, .int i), (2, .ref 465), (1, .ref 1), (0, .ref 0)], [.int i, .ref 0, .ref 465, .int r], h1)) fun _ => rfl).trans ?_
  refine (mjTo.step mjLw_474 (s2 := (475, [(3, .int i), (2, .ref 465), (1, .ref 1), (0, .ref 0)], [.int (Int32.ofInt 1), .int i, .ref 0, .ref 465, .int r], h1)) fun _ => rfl).trans ?_
  refine (mjTo.step mjLw_475 (s2 := (476, [(3, .int i), (2, .ref 465), (1, .ref 1), (0, .ref 0)], [.int (i + (Int32.ofInt 1)), .ref 0, .ref 465, .int r], h1)) fun _ => rfl).trans ?_
  refine (mjTo.sald (xs := scr) mjLw_476 rfl e1).trans ?_
  refine (mjTo.step mjLw_477 (s2 := (478, [(3, .int i), (2, .ref 465), (1, .ref 1), (0, .ref 0)], [.ref 0, .int x1, .ref 465, .int r], h1)) fun _ => rfl).trans ?_
  refine (mjTo.step mjLw_478 (s2 := (479, [(3, .int i), (2, .ref 465), (1, .ref 1), (0, .ref 0)], [.int i, .ref 0, .int x1, .ref 465, .int r], h1)) fun _ => rfl).trans ?_
  refine (mjTo.step mjLw_479 (s2 := (480, [(3, .int i), (2, .ref 465), (1, .ref 1), (0, .ref 0)], [.int (Int32.ofInt 2), .int i, .ref 0, .int x1, .ref 465, .int r], h1)) fun _ => rfl).trans ?_
  refine (mjTo.step mjLw_480 (s2 := (481, [(3, .int i), (2, .ref 465), (1, .ref 1), (0, .ref 0)], [.int (i + (Int32.ofInt 2)), .ref 0, .int x1, .ref 465, .int r], h1)) fun _ => rfl).trans ?_
  refine (mjTo.sald (xs := scr) mjLw_481 rfl e2).trans ?_
  refine (mjTo.virt (as := [.int x1, .int x2]) (r := [.int r]) (v := some (.int r)) (h' := h2) mjLw_482 rfl k1 (Nat.le_of_ble_eq_true rfl) (hm)).trans ?_
  refine (mjTo.icT (c := .eq) (x := r) (y := r) (n := 1455) mjLw_485 (decide_eq_true rfl) rfl).trans ?_
  exact mjTo.refl
set_option maxRecDepth 100000 in
theorem law_case_8 {scr : List Int32} {i x1 x2 x3 : Int32} {r : Int32} {h h1 h2 : mjH} {f0 f1 : List Value} (e1 : mjAt? scr (i + Int32.ofInt 1) = some x1) (e2 : mjAt? scr (i + Int32.ofInt 2) = some x2) (e3 : mjAt? scr (i + Int32.ofInt 3) = some x3) (hx : mjDoes 10 51 [.ref 1, .int x1, .int x2, .int x3] h (some (.int r)) h1) (hm : mjDoes 10 184 [.ref 465, .int x1, .int x2, .int x3] h1 (some (.int r)) h2) (k0 : h[0]? = some (.inl (10, f0))) (k1 : h1[464]? = some (.inl (11, f1))) : mjTo 10 4 (some scr) mjLt (490, mjLl i, [], h) (1455, mjLl i, [], h2) := by
  refine (mjTo.step mjLw_490 (s2 := (491, [(3, .int i), (2, .ref 465), (1, .ref 1), (0, .ref 0)], [.ref 1], h)) fun _ => rfl).trans ?_
  refine (mjTo.step mjLw_491 (s2 := (492, [(3, .int i), (2, .ref 465), (1, .ref 1), (0, .ref 0)], [.ref 0, .ref 1], h)) fun _ => rfl).trans ?_
  refine (mjTo.step mjLw_492 (s2 := (493, [(3, .int i), (2, .ref 465), (1, .ref 1), (0, .ref 0)], [.int i, .ref 0, .ref 1], h)) fun _ => rfl).trans ?_
  refine (mjTo.step mjLw_493 (s2 := (494, [(3, .int i), (2, .ref 465), (1, .ref 1), (0, .ref 0)], [.int (Int32.ofInt 1), .int i, .ref 0, .ref 1], h)) fun _ => rfl).trans ?_
  refine (mjTo.step mjLw_494 (s2 := (495, [(3, .int i), (2, .ref 465), (1, .ref 1), (0, .ref 0)], [.int (i + (Int32.ofInt 1)), .ref 0, .ref 1], h)) fun _ => rfl).trans ?_
  refine (mjTo.sald (xs := scr) mjLw_495 rfl e1).trans ?_
  refine (mjTo.step mjLw_496 (s2 := (497, [(3, .int i), (2, .ref 465), (1, .ref 1), (0, .ref 0)], [.ref 0, .int x1, .ref 1], h)) fun _ => rfl).trans ?_
  refine (mjTo.step mjLw_497 (s2 := (498, [(3, .int i), (2, .ref 465), (1, .ref 1), (0, .ref 0)], [.int i, .ref 0, .int x1, .ref 1], h)) fun _ => rfl).trans ?_
  refine (mjTo.step mjLw_498 (s2 := (499, [(3, .int i), (2, .ref 465), (1, .ref 1), (0, .ref 0)], [.int (Int32.ofInt 2), .int i, .ref 0, .int x1, .ref 1], h)) fun _ => rfl).trans ?_
  refine (mjTo.step mjLw_499 (s2 := (500, [(3, .int i), (2, .ref 465), (1, .ref 1), (0, .ref 0)], [.int (i + (Int32.ofInt 2)), .ref 0, .int x1, .ref 1], h)) fun _ => rfl).trans ?_
  refine (mjTo.sald (xs := scr) mjLw_500 rfl e2).trans ?_
  refine (mjTo.step mjLw_501 (s2 := (502, [(3, .int i), (2, .ref 465), (1, .ref 1), (0, .ref 0)], [.ref 0, .int x2, .int x1, .ref 1], h)) fun _ => rfl).trans ?_
  refine (mjTo.step mjLw_502 (s2 := (503, [(3, .int i), (2, .ref 465), (1, .ref 1), (0, .ref 0)], [.int i, .ref 0, .int x2, .int x1, .ref 1], h)) fun _ => rfl).trans ?_
  refine (mjTo.step mjLw_503 (s2 := (504, [(3, .int i), (2, .ref 465), (1, .ref 1), (0, .ref 0)], [.int (Int32.ofInt 3), .int i, .ref 0, .int x2, .int x1, .ref 1], h)) fun _ => rfl).trans ?_
  refine (mjTo.step mjLw_504 (s2 := (505, [(3, .int i), (2, .ref 465), (1, .ref 1), (0, .ref 0)], [.int (i + (Int32.ofInt 3)), .ref 0, .int x2, .int x1, .ref 1], h)) fun _ => rfl).trans ?_
  refine (mjTo.sald (xs := scr) mjLw_505 rfl e3).trans ?_
  refine (mjTo.virt (as := [.int x1, .int x2, .int x3]) (r := []) (v := some (.int r)) (h' := h1) mjLw_506 rfl k0 (Nat.le_of_ble_eq_true rfl) (hx)).trans ?_
  refine (mjTo.step mjLw_509 (s2 := (510, [(3, .int i), (2, .ref 465), (1, .ref 1), (0, .ref 0)], [.ref 465, .int r], h1)) fun _ => rfl).trans ?_
  refine (mjTo.step mjLw_510 (s2 := (511, [(3, .int i), (2, .ref 465), (1, .ref 1), (0, .ref 0)], [.ref 0, .ref 465, .int r], h1)) fun _ => rfl).trans ?_
  refine (mjTo.step mjLw_511 (s2 := (512, [(3, .int i), (2, .ref 465), (1, .ref 1), (0, .ref 0)], [.int i, .ref 0, .ref 465, .int r], h1)) fun _ => rfl).trans ?_
  refine (mjTo.step mjLw_512 (s2 := (513, [(3, .int i), (2, .ref 465), (1, .ref 1), (0, .ref 0)], [.int (Int32.ofInt 1), .int i, .ref 0, .ref 465, .int r], h1)) fun _ => rfl).trans ?_
  refine (mjTo.step mjLw_513 (s2 := (514, [(3, .int i), (2, .ref 465), (1, .ref 1), (0, .ref 0)], [.int (i + (Int32.ofInt 1)), .ref 0, .ref 465, .int r], h1)) fun _ => rfl).trans ?_
  refine (mjTo.sald (xs := scr) mjLw_514 rfl e1).trans ?_
  refine (mjTo.step mjLw_515 (s2 := (516, [(3, .int i), (2, .ref 465), (1, .ref 1), (0, .ref 0)], [.ref 0, .int x1, .ref 465, .int r], h1)) fun _ => rfl).trans ?_
  refine (mjTo.step mjLw_516 (s2 := (517, [(3, .int i), (2, .ref 465), (1, .ref 1), (0, .ref 0)], [.int i, .ref 0, .int x1, .ref 465, .int r], h1)) fun _ => rfl).trans ?_
  refine (mjTo.step mjLw_517 (s2 := (518, [(3, .int i), (2, .ref 465), (1, .ref 1), (0, .ref 0)], [.int (Int32.ofInt 2), .int i, .ref 0, .int x1, .ref 465, .int r], h1)) fun _ => rfl).trans ?_
  refine (mjTo.step mjLw_518 (s2 := (519, [(3, .int i), (2, .ref 465), (1, .ref 1), (0, .ref 0)], [.int (i + (Int32.ofInt 2)), .ref 0, .int x1, .ref 465, .int r], h1)) fun _ => rfl).trans ?_
  refine (mjTo.sald (xs := scr) mjLw_519 rfl e2).trans ?_
  refine (mjTo.step mjLw_520 (s2 := (521, [(3, .int i), (2, .ref 465), (1, .ref 1), (0, .ref 0)], [.ref 0, .int x2, .int x1, .ref 465, .int r], h1)) fun _ => rfl).trans ?_
  refine (mjTo.step mjLw_521 (s2 := (522, [(3, .int i), (2, .ref 465), (1, .ref 1), (0, .ref 0)], [.int i, .ref 0, .int x2, .int x1, .ref 465, .int r], h1)) fun _ => rfl).trans ?_
  refine (mjTo.step mjLw_522 (s2 := (523, [(3, .int i), (2, .ref 465), (1, .ref 1), (0, .ref 0)], [.int (Int32.ofInt 3), .int i, .ref 0, .int x2, .int x1, .ref 465, .int r], h1)) fun _ => rfl).trans ?_
  refine (mjTo.step mjLw_523 (s2 := (524, [(3, .int i), (2, .ref 465), (1, .ref 1), (0, .ref 0)], [.int (i + (Int32.ofInt 3)), .ref 0, .int x2, .int x1, .ref 465, .int r], h1)) fun _ => rfl).trans ?_
  refine (mjTo.sald (xs := scr) mjLw_524 rfl e3).trans ?_
  refine (mjTo.virt (as := [.int x1, .int x2, .int x3]) (r := [.int r]) (v := some (.int r)) (h' := h2) mjLw_525 rfl k1 (Nat.le_of_ble_eq_true rfl) (hm)).trans ?_
  refine (mjTo.icT (c := .eq) (x := r) (y := r) (n := 1455) mjLw_528 (decide_eq_true rfl) rfl).trans ?_
  exact mjTo.refl
set_option maxRecDepth 100000 in
theorem law_case_9 {scr : List Int32} {i x1 : Int32} {r : Int32} {h h1 h2 : mjH} {f0 f1 : List Value} (e1 : mjAt? scr (i + Int32.ofInt 1) = some x1) (hx : mjDoes 10 52 [.ref 1, .int x1] h (some (.int r)) h1) (hm : mjDoes 10 187 [.ref 465, .int x1] h1 (some (.int r)) h2) (k0 : h[0]? = some (.inl (10, f0))) (k1 : h1[464]? = some (.inl (11, f1))) : mjTo 10 4 (some scr) mjLt (533, mjLl i, [], h) (1455, mjLl i, [], h2) := by
  refine (mjTo.step mjLw_533 (s2 := (534, [(3, .int i), (2, .ref 465), (1, .ref 1), (0, .ref 0)], [.ref 1], h)) fun _ => rfl).trans ?_
  refine (mjTo.step mjLw_534 (s2 := (535, [(3, .int i), (2, .ref 465), (1, .ref 1), (0, .ref 0)], [.ref 0, .ref 1], h)) fun _ => rfl).trans ?_
  refine (mjTo.step mjLw_535 (s2 := (536, [(3, .int i), (2, .ref 465), (1, .ref 1), (0, .ref 0)], [.int i, .ref 0, .ref 1], h)) fun _ => rfl).trans ?_
  refine (mjTo.step mjLw_536 (s2 := (537, [(3, .int i), (2, .ref 465), (1, .ref 1), (0, .ref 0)], [.int (Int32.ofInt 1), .int i, .ref 0, .ref 1], h)) fun _ => rfl).trans ?_
  refine (mjTo.step mjLw_537 (s2 := (538, [(3, .int i), (2, .ref 465), (1, .ref 1), (0, .ref 0)], [.int (i + (Int32.ofInt 1)), .ref 0, .ref 1], h)) fun _ => rfl).trans ?_
  refine (mjTo.sald (xs := scr) mjLw_538 rfl e1).trans ?_
  refine (mjTo.virt (as := [.int x1]) (r := []) (v := some (.int r)) (h' := h1) mjLw_539 rfl k0 (Nat.le_of_ble_eq_true rfl) (hx)).trans ?_
  refine (mjTo.step mjLw_542 (s2 := (543, [(3, .int i), (2, .ref 465), (1, .ref 1), (0, .ref 0)], [.ref 465, .int r], h1)) fun _ => rfl).trans ?_
  refine (mjTo.step mjLw_543 (s2 := (544, [(3, .int i), (2, .ref 465), (1, .ref 1), (0, .ref 0)], [.ref 0, .ref 465, .int r], h1)) fun _ => rfl).trans ?_
  refine (mjTo.step mjLw_544 (s2 := (545, [(3, .int i), (2, .ref 465), (1, .ref 1), (0, .ref 0)], [.int i, .ref 0, .ref 465, .int r], h1)) fun _ => rfl).trans ?_
  refine (mjTo.step mjLw_545 (s2 := (546, [(3, .int i), (2, .ref 465), (1, .ref 1), (0, .ref 0)], [.int (Int32.ofInt 1), .int i, .ref 0, .ref 465, .int r], h1)) fun _ => rfl).trans ?_
  refine (mjTo.step mjLw_546 (s2 := (547, [(3, .int i), (2, .ref 465), (1, .ref 1), (0, .ref 0)], [.int (i + (Int32.ofInt 1)), .ref 0, .ref 465, .int r], h1)) fun _ => rfl).trans ?_
  refine (mjTo.sald (xs := scr) mjLw_547 rfl e1).trans ?_
  refine (mjTo.virt (as := [.int x1]) (r := [.int r]) (v := some (.int r)) (h' := h2) mjLw_548 rfl k1 (Nat.le_of_ble_eq_true rfl) (hm)).trans ?_
  refine (mjTo.icT (c := .eq) (x := r) (y := r) (n := 1455) mjLw_551 (decide_eq_true rfl) rfl).trans ?_
  exact mjTo.refl
set_option maxRecDepth 100000 in
theorem law_case_10 {scr : List Int32} {i x1 x2 x3 : Int32} {r : Int32} {h h1 h2 : mjH} {f0 f1 : List Value} (e1 : mjAt? scr (i + Int32.ofInt 1) = some x1) (e2 : mjAt? scr (i + Int32.ofInt 2) = some x2) (e3 : mjAt? scr (i + Int32.ofInt 3) = some x3) (hx : mjDoes 10 54 [.ref 1, .int x1, .int x2, .int x3] h (some (.int r)) h1) (hm : mjDoes 10 188 [.ref 465, .int x1, .int x2, .int x3] h1 (some (.int r)) h2) (k0 : h[0]? = some (.inl (10, f0))) (k1 : h1[464]? = some (.inl (11, f1))) : mjTo 10 4 (some scr) mjLt (556, mjLl i, [], h) (1455, mjLl i, [], h2) := by
  refine (mjTo.step mjLw_556 (s2 := (557, [(3, .int i), (2, .ref 465), (1, .ref 1), (0, .ref 0)], [.ref 1], h)) fun _ => rfl).trans ?_
  refine (mjTo.step mjLw_557 (s2 := (558, [(3, .int i), (2, .ref 465), (1, .ref 1), (0, .ref 0)], [.ref 0, .ref 1], h)) fun _ => rfl).trans ?_
  refine (mjTo.step mjLw_558 (s2 := (559, [(3, .int i), (2, .ref 465), (1, .ref 1), (0, .ref 0)], [.int i, .ref 0, .ref 1], h)) fun _ => rfl).trans ?_
  refine (mjTo.step mjLw_559 (s2 := (560, [(3, .int i), (2, .ref 465), (1, .ref 1), (0, .ref 0)], [.int (Int32.ofInt 1), .int i, .ref 0, .ref 1], h)) fun _ => rfl).trans ?_
  refine (mjTo.step mjLw_560 (s2 := (561, [(3, .int i), (2, .ref 465), (1, .ref 1), (0, .ref 0)], [.int (i + (Int32.ofInt 1)), .ref 0, .ref 1], h)) fun _ => rfl).trans ?_
  refine (mjTo.sald (xs := scr) mjLw_561 rfl e1).trans ?_
  refine (mjTo.step mjLw_562 (s2 := (563, [(3, .int i), (2, .ref 465), (1, .ref 1), (0, .ref 0)], [.ref 0, .int x1, .ref 1], h)) fun _ => rfl).trans ?_
  refine (mjTo.step mjLw_563 (s2 := (564, [(3, .int i), (2, .ref 465), (1, .ref 1), (0, .ref 0)], [.int i, .ref 0, .int x1, .ref 1], h)) fun _ => rfl).trans ?_
  refine (mjTo.step mjLw_564 (s2 := (565, [(3, .int i), (2, .ref 465), (1, .ref 1), (0, .ref 0)], [.int (Int32.ofInt 2), .int i, .ref 0, .int x1, .ref 1], h)) fun _ => rfl).trans ?_
  refine (mjTo.step mjLw_565 (s2 := (566, [(3, .int i), (2, .ref 465), (1, .ref 1), (0, .ref 0)], [.int (i + (Int32.ofInt 2)), .ref 0, .int x1, .ref 1], h)) fun _ => rfl).trans ?_
  refine (mjTo.sald (xs := scr) mjLw_566 rfl e2).trans ?_
  refine (mjTo.step mjLw_567 (s2 := (568, [(3, .int i), (2, .ref 465), (1, .ref 1), (0, .ref 0)], [.ref 0, .int x2, .int x1, .ref 1], h)) fun _ => rfl).trans ?_
  refine (mjTo.step mjLw_568 (s2 := (569, [(3, .int i), (2, .ref 465), (1, .ref 1), (0, .ref 0)], [.int i, .ref 0, .int x2, .int x1, .ref 1], h)) fun _ => rfl).trans ?_
  refine (mjTo.step mjLw_569 (s2 := (570, [(3, .int i), (2, .ref 465), (1, .ref 1), (0, .ref 0)], [.int (Int32.ofInt 3), .int i, .ref 0, .int x2, .int x1, .ref 1], h)) fun _ => rfl).trans ?_
  refine (mjTo.step mjLw_570 (s2 := (571, [(3, .int i), (2, .ref 465), (1, .ref 1), (0, .ref 0)], [.int (i + (Int32.ofInt 3)), .ref 0, .int x2, .int x1, .ref 1], h)) fun _ => rfl).trans ?_
  refine (mjTo.sald (xs := scr) mjLw_571 rfl e3).trans ?_
  refine (mjTo.virt (as := [.int x1, .int x2, .int x3]) (r := []) (v := some (.int r)) (h' := h1) mjLw_572 rfl k0 (Nat.le_of_ble_eq_true rfl) (hx)).trans ?_
  refine (mjTo.step mjLw_575 (s2 := (576, [(3, .int i), (2, .ref 465), (1, .ref 1), (0, .ref 0)], [.ref 465, .int r], h1)) fun _ => rfl).trans ?_
  refine (mjTo.step mjLw_576 (s2 := (577, [(3, .int i), (2, .ref 465), (1, .ref 1), (0, .ref 0)], [.ref 0, .ref 465, .int r], h1)) fun _ => rfl).trans ?_
  refine (mjTo.step mjLw_577 (s2 := (578, [(3, .int i), (2, .ref 465), (1, .ref 1), (0, .ref 0)], [.int i, .ref 0, .ref 465, .int r], h1)) fun _ => rfl).trans ?_
  refine (mjTo.step mjLw_578 (s2 := (579, [(3, .int i), (2, .ref 465), (1, .ref 1), (0, .ref 0)], [.int (Int32.ofInt 1), .int i, .ref 0, .ref 465, .int r], h1)) fun _ => rfl).trans ?_
  refine (mjTo.step mjLw_579 (s2 := (580, [(3, .int i), (2, .ref 465), (1, .ref 1), (0, .ref 0)], [.int (i + (Int32.ofInt 1)), .ref 0, .ref 465, .int r], h1)) fun _ => rfl).trans ?_
  refine (mjTo.sald (xs := scr) mjLw_580 rfl e1).trans ?_
  refine (mjTo.step mjLw_581 (s2 := (582, [(3, .int i), (2, .ref 465), (1, .ref 1), (0, .ref 0)], [.ref 0, .int x1, .ref 465, .int r], h1)) fun _ => rfl).trans ?_
  refine (mjTo.step mjLw_582 (s2 := (583, [(3, .int i), (2, .ref 465), (1, .ref 1), (0, .ref 0)], [.int i, .ref 0, .int x1, .ref 465, .int r], h1)) fun _ => rfl).trans ?_
  refine (mjTo.step mjLw_583 (s2 := (584, [(3, .int i), (2, .ref 465), (1, .ref 1), (0, .ref 0)], [.int (Int32.ofInt 2), .int i, .ref 0, .int x1, .ref 465, .int r], h1)) fun _ => rfl).trans ?_
  refine (mjTo.step mjLw_584 (s2 := (585, [(3, .int i), (2, .ref 465), (1, .ref 1), (0, .ref 0)], [.int (i + (Int32.ofInt 2)), .ref 0, .int x1, .ref 465, .int r], h1)) fun _ => rfl).trans ?_
  refine (mjTo.sald (xs := scr) mjLw_585 rfl e2).trans ?_
  refine (mjTo.step mjLw_586 (s2 := (587, [(3, .int i), (2, .ref 465), (1, .ref 1), (0, .ref 0)], [.ref 0, .int x2, .int x1, .ref 465, .int r], h1)) fun _ => rfl).trans ?_
  refine (mjTo.step mjLw_587 (s2 := (588, [(3, .int i), (2, .ref 465), (1, .ref 1), (0, .ref 0)], [.int i, .ref 0, .int x2, .int x1, .ref 465, .int r], h1)) fun _ => rfl).trans ?_
  refine (mjTo.step mjLw_588 (s2 := (589, [(3, .int i), (2, .ref 465), (1, .ref 1), (0, .ref 0)], [.int (Int32.ofInt 3), .int i, .ref 0, .int x2, .int x1, .ref 465, .int r], h1)) fun _ => rfl).trans ?_
  refine (mjTo.step mjLw_589 (s2 := (590, [(3, .int i), (2, .ref 465), (1, .ref 1), (0, .ref 0)], [.int (i + (Int32.ofInt 3)), .ref 0, .int x2, .int x1, .ref 465, .int r], h1)) fun _ => rfl).trans ?_
  refine (mjTo.sald (xs := scr) mjLw_590 rfl e3).trans ?_
  refine (mjTo.virt (as := [.int x1, .int x2, .int x3]) (r := [.int r]) (v := some (.int r)) (h' := h2) mjLw_591 rfl k1 (Nat.le_of_ble_eq_true rfl) (hm)).trans ?_
  refine (mjTo.icT (c := .eq) (x := r) (y := r) (n := 1455) mjLw_594 (decide_eq_true rfl) rfl).trans ?_
  exact mjTo.refl
set_option maxRecDepth 100000 in
theorem law_case_11 {scr : List Int32} {i x1 x2 x3 x4 : Int32} {r : Int32} {h h1 h2 : mjH} {f0 f1 : List Value} (e1 : mjAt? scr (i + Int32.ofInt 1) = some x1) (e2 : mjAt? scr (i + Int32.ofInt 2) = some x2) (e3 : mjAt? scr (i + Int32.ofInt 3) = some x3) (e4 : mjAt? scr (i + Int32.ofInt 4) = some x4) (hx : mjDoes 10 56 [.ref 1, .int x1, .int x2, .int x3, .int x4] h (some (.int r)) h1) (hm : mjDoes 10 189 [.ref 465, .int x1, .int x2, .int x3, .int x4] h1 (some (.int r)) h2) (k0 : h[0]? = some (.inl (10, f0))) (k1 : h1[464]? = some (.inl (11, f1))) : mjTo 10 4 (some scr) mjLt (599, mjLl i, [], h) (1455, mjLl i, [], h2) := by
  refine (mjTo.step mjLw_599 (s2 := (600, [(3, .int i), (2, .ref 465), (1, .ref 1), (0, .ref 0)], [.ref 1], h)) fun _ => rfl).trans ?_
  refine (mjTo.step mjLw_600 (s2 := (601, [(3, .int i), (2, .ref 465), (1, .ref 1), (0, .ref 0)], [.ref 0, .ref 1], h)) fun _ => rfl).trans ?_
  refine (mjTo.step mjLw_601 (s2 := (602, [(3, .int i), (2, .ref 465), (1, .ref 1), (0, .ref 0)], [.int i, .ref 0, .ref 1], h)) fun _ => rfl).trans ?_
  refine (mjTo.step mjLw_602 (s2 := (603, [(3, .int i), (2, .ref 465), (1, .ref 1), (0, .ref 0)], [.int (Int32.ofInt 1), .int i, .ref 0, .ref 1], h)) fun _ => rfl).trans ?_
  refine (mjTo.step mjLw_603 (s2 := (604, [(3, .int i), (2, .ref 465), (1, .ref 1), (0, .ref 0)], [.int (i + (Int32.ofInt 1)), .ref 0, .ref 1], h)) fun _ => rfl).trans ?_
  refine (mjTo.sald (xs := scr) mjLw_604 rfl e1).trans ?_
  refine (mjTo.step mjLw_605 (s2 := (606, [(3, .int i), (2, .ref 465), (1, .ref 1), (0, .ref 0)], [.ref 0, .int x1, .ref 1], h)) fun _ => rfl).trans ?_
  refine (mjTo.step mjLw_606 (s2 := (607, [(3, .int i), (2, .ref 465), (1, .ref 1), (0, .ref 0)], [.int i, .ref 0, .int x1, .ref 1], h)) fun _ => rfl).trans ?_
  refine (mjTo.step mjLw_607 (s2 := (608, [(3, .int i), (2, .ref 465), (1, .ref 1), (0, .ref 0)], [.int (Int32.ofInt 2), .int i, .ref 0, .int x1, .ref 1], h)) fun _ => rfl).trans ?_
  refine (mjTo.step mjLw_608 (s2 := (609, [(3, .int i), (2, .ref 465), (1, .ref 1), (0, .ref 0)], [.int (i + (Int32.ofInt 2)), .ref 0, .int x1, .ref 1], h)) fun _ => rfl).trans ?_
  refine (mjTo.sald (xs := scr) mjLw_609 rfl e2).trans ?_
  refine (mjTo.step mjLw_610 (s2 := (611, [(3, .int i), (2, .ref 465), (1, .ref 1), (0, .ref 0)], [.ref 0, .int x2, .int x1, .ref 1], h)) fun _ => rfl).trans ?_
  refine (mjTo.step mjLw_611 (s2 := (612, [(3, .int i), (2, .ref 465), (1, .ref 1), (0, .ref 0)], [.int i, .ref 0, .int x2, .int x1, .ref 1], h)) fun _ => rfl).trans ?_
  refine (mjTo.step mjLw_612 (s2 := (613, [(3, .int i), (2, .ref 465), (1, .ref 1), (0, .ref 0)], [.int (Int32.ofInt 3), .int i, .ref 0, .int x2, .int x1, .ref 1], h)) fun _ => rfl).trans ?_
  refine (mjTo.step mjLw_613 (s2 := (614, [(3, .int i), (2, .ref 465), (1, .ref 1), (0, .ref 0)], [.int (i + (Int32.ofInt 3)), .ref 0, .int x2, .int x1, .ref 1], h)) fun _ => rfl).trans ?_
  refine (mjTo.sald (xs := scr) mjLw_614 rfl e3).trans ?_
  refine (mjTo.step mjLw_615 (s2 := (616, [(3, .int i), (2, .ref 465), (1, .ref 1), (0, .ref 0)], [.ref 0, .int x3, .int x2, .int x1, .ref 1], h)) fun _ => rfl).trans ?_
  refine (mjTo.step mjLw_616 (s2 := (617, [(3, .int i), (2, .ref 465), (1, .ref 1), (0, .ref 0)], [.int i, .ref 0, .int x3, .int x2, .int x1, .ref 1], h)) fun _ => rfl).trans ?_
  refine (mjTo.step mjLw_617 (s2 := (618, [(3, .int i), (2, .ref 465), (1, .ref 1), (0, .ref 0)], [.int (Int32.ofInt 4), .int i, .ref 0, .int x3, .int x2, .int x1, .ref 1], h)) fun _ => rfl).trans ?_
  refine (mjTo.step mjLw_618 (s2 := (619, [(3, .int i), (2, .ref 465), (1, .ref 1), (0, .ref 0)], [.int (i + (Int32.ofInt 4)), .ref 0, .int x3, .int x2, .int x1, .ref 1], h)) fun _ => rfl).trans ?_
  refine (mjTo.sald (xs := scr) mjLw_619 rfl e4).trans ?_
  refine (mjTo.virt (as := [.int x1, .int x2, .int x3, .int x4]) (r := []) (v := some (.int r)) (h' := h1) mjLw_620 rfl k0 (Nat.le_of_ble_eq_true rfl) (hx)).trans ?_
  refine (mjTo.step mjLw_623 (s2 := (624, [(3, .int i), (2, .ref 465), (1, .ref 1), (0, .ref 0)], [.ref 465, .int r], h1)) fun _ => rfl).trans ?_
  refine (mjTo.step mjLw_624 (s2 := (625, [(3, .int i), (2, .ref 465), (1, .ref 1), (0, .ref 0)], [.ref 0, .ref 465, .int r], h1)) fun _ => rfl).trans ?_
  refine (mjTo.step mjLw_625 (s2 := (626, [(3, .int i), (2, .ref 465), (1, .ref 1), (0, .ref 0)], [.int i, .ref 0, .ref 465, .int r], h1)) fun _ => rfl).trans ?_
  refine (mjTo.step mjLw_626 (s2 := (627, [(3, .int i), (2, .ref 465), (1, .ref 1), (0, .ref 0)], [.int (Int32.ofInt 1), .int i, .ref 0, .ref 465, .int r], h1)) fun _ => rfl).trans ?_
  refine (mjTo.step mjLw_627 (s2 := (628, [(3, .int i), (2, .ref 465), (1, .ref 1), (0, .ref 0)], [.int (i + (Int32.ofInt 1)), .ref 0, .ref 465, .int r], h1)) fun _ => rfl).trans ?_
  refine (mjTo.sald (xs := scr) mjLw_628 rfl e1).trans ?_
  refine (mjTo.step mjLw_629 (s2 := (630, [(3, .int i), (2, .ref 465), (1, .ref 1), (0, .ref 0)], [.ref 0, .int x1, .ref 465, .int r], h1)) fun _ => rfl).trans ?_
  refine (mjTo.step mjLw_630 (s2 := (631, [(3, .int i), (2, .ref 465), (1, .ref 1), (0, .ref 0)], [.int i, .ref 0, .int x1, .ref 465, .int r], h1)) fun _ => rfl).trans ?_
  refine (mjTo.step mjLw_631 (s2 := (632, [(3, .int i), (2, .ref 465), (1, .ref 1), (0, .ref 0)], [.int (Int32.ofInt 2), .int i, .ref 0, .int x1, .ref 465, .int r], h1)) fun _ => rfl).trans ?_
  refine (mjTo.step mjLw_632 (s2 := (633, [(3, .int i), (2, .ref 465), (1, .ref 1), (0, .ref 0)], [.int (i + (Int32.ofInt 2)), .ref 0, .int x1, .ref 465, .int r], h1)) fun _ => rfl).trans ?_
  refine (mjTo.sald (xs := scr) mjLw_633 rfl e2).trans ?_
  refine (mjTo.step mjLw_634 (s2 := (635, [(3, .int i), (2, .ref 465), (1, .ref 1), (0, .ref 0)], [.ref 0, .int x2, .int x1, .ref 465, .int r], h1)) fun _ => rfl).trans ?_
  refine (mjTo.step mjLw_635 (s2 := (636, [(3, .int i), (2, .ref 465), (1, .ref 1), (0, .ref 0)], [.int i, .ref 0, .int x2, .int x1, .ref 465, .int r], h1)) fun _ => rfl).trans ?_
  refine (mjTo.step mjLw_636 (s2 := (637, [(3, .int i), (2, .ref 465), (1, .ref 1), (0, .ref 0)], [.int (Int32.ofInt 3), .int i, .ref 0, .int x2, .int x1, .ref 465, .int r], h1)) fun _ => rfl).trans ?_
  refine (mjTo.step mjLw_637 (s2 := (638, [(3, .int i), (2, .ref 465), (1, .ref 1), (0, .ref 0)], [.int (i + (Int32.ofInt 3)), .ref 0, .int x2, .int x1, .ref 465, .int r], h1)) fun _ => rfl).trans ?_
  refine (mjTo.sald (xs := scr) mjLw_638 rfl e3).trans ?_
  refine (mjTo.step mjLw_639 (s2 := (640, [(3, .int i), (2, .ref 465), (1, .ref 1), (0, .ref 0)], [.ref 0, .int x3, .int x2, .int x1, .ref 465, .int r], h1)) fun _ => rfl).trans ?_
  refine (mjTo.step mjLw_640 (s2 := (641, [(3, .int i), (2, .ref 465), (1, .ref 1), (0, .ref 0)], [.int i, .ref 0, .int x3, .int x2, .int x1, .ref 465, .int r], h1)) fun _ => rfl).trans ?_
  refine (mjTo.step mjLw_641 (s2 := (642, [(3, .int i), (2, .ref 465), (1, .ref 1), (0, .ref 0)], [.int (Int32.ofInt 4), .int i, .ref 0, .int x3, .int x2, .int x1, .ref 465, .int r], h1)) fun _ => rfl).trans ?_
  refine (mjTo.step mjLw_642 (s2 := (643, [(3, .int i), (2, .ref 465), (1, .ref 1), (0, .ref 0)], [.int (i + (Int32.ofInt 4)), .ref 0, .int x3, .int x2, .int x1, .ref 465, .int r], h1)) fun _ => rfl).trans ?_
  refine (mjTo.sald (xs := scr) mjLw_643 rfl e4).trans ?_
  refine (mjTo.virt (as := [.int x1, .int x2, .int x3, .int x4]) (r := [.int r]) (v := some (.int r)) (h' := h2) mjLw_644 rfl k1 (Nat.le_of_ble_eq_true rfl) (hm)).trans ?_
  refine (mjTo.icT (c := .eq) (x := r) (y := r) (n := 1455) mjLw_647 (decide_eq_true rfl) rfl).trans ?_
  exact mjTo.refl
set_option maxRecDepth 100000 in
theorem law_case_12 {scr : List Int32} {i x1 x2 : Int32} {r : Int32} {h h1 h2 : mjH} {f0 f1 : List Value} (e1 : mjAt? scr (i + Int32.ofInt 1) = some x1) (e2 : mjAt? scr (i + Int32.ofInt 2) = some x2) (hx : mjDoes 10 60 [.ref 1, .int x1, .int x2] h (some (.int r)) h1) (hm : mjDoes 10 192 [.ref 465, .int x1, .int x2] h1 (some (.int r)) h2) (k0 : h[0]? = some (.inl (10, f0))) (k1 : h1[464]? = some (.inl (11, f1))) : mjTo 10 4 (some scr) mjLt (652, mjLl i, [], h) (1455, mjLl i, [], h2) := by
  refine (mjTo.step mjLw_652 (s2 := (653, [(3, .int i), (2, .ref 465), (1, .ref 1), (0, .ref 0)], [.ref 1], h)) fun _ => rfl).trans ?_
  refine (mjTo.step mjLw_653 (s2 := (654, [(3, .int i), (2, .ref 465), (1, .ref 1), (0, .ref 0)], [.ref 0, .ref 1], h)) fun _ => rfl).trans ?_
  refine (mjTo.step mjLw_654 (s2 := (655, [(3, .int i), (2, .ref 465), (1, .ref 1), (0, .ref 0)], [.int i, .ref 0, .ref 1], h)) fun _ => rfl).trans ?_
  refine (mjTo.step mjLw_655 (s2 := (656, [(3, .int i), (2, .ref 465), (1, .ref 1), (0, .ref 0)], [.int (Int32.ofInt 1), .int i, .ref 0, .ref 1], h)) fun _ => rfl).trans ?_
  refine (mjTo.step mjLw_656 (s2 := (657, [(3, .int i), (2, .ref 465), (1, .ref 1), (0, .ref 0)], [.int (i + (Int32.ofInt 1)), .ref 0, .ref 1], h)) fun _ => rfl).trans ?_
  refine (mjTo.sald (xs := scr) mjLw_657 rfl e1).trans ?_
  refine (mjTo.step mjLw_658 (s2 := (659, [(3, .int i), (2, .ref 465), (1, .ref 1), (0, .ref 0)], [.ref 0, .int x1, .ref 1], h)) fun _ => rfl).trans ?_
  refine (mjTo.step mjLw_659 (s2 := (660, [(3, .int i), (2, .ref 465), (1, .ref 1), (0, .ref 0)], [.int i, .ref 0, .int x1, .ref 1], h)) fun _ => rfl).trans ?_
  refine (mjTo.step mjLw_660 (s2 := (661, [(3, .int i), (2, .ref 465), (1, .ref 1), (0, .ref 0)], [.int (Int32.ofInt 2), .int i, .ref 0, .int x1, .ref 1], h)) fun _ => rfl).trans ?_
  refine (mjTo.step mjLw_661 (s2 := (662, [(3, .int i), (2, .ref 465), (1, .ref 1), (0, .ref 0)], [.int (i + (Int32.ofInt 2)), .ref 0, .int x1, .ref 1], h)) fun _ => rfl).trans ?_
  refine (mjTo.sald (xs := scr) mjLw_662 rfl e2).trans ?_
  refine (mjTo.virt (as := [.int x1, .int x2]) (r := []) (v := some (.int r)) (h' := h1) mjLw_663 rfl k0 (Nat.le_of_ble_eq_true rfl) (hx)).trans ?_
  refine (mjTo.step mjLw_666 (s2 := (667, [(3, .int i), (2, .ref 465), (1, .ref 1), (0, .ref 0)], [.ref 465, .int r], h1)) fun _ => rfl).trans ?_
  refine (mjTo.step mjLw_667 (s2 := (668, [(3, .int i), (2, .ref 465), (1, .ref 1), (0, .ref 0)], [.ref 0, .ref 465, .int r], h1)) fun _ => rfl).trans ?_
  refine (mjTo.step mjLw_668 (s2 := (669, [(3, .int i), (2, .ref 465), (1, .ref 1), (0, .ref 0)], [.int i, .ref 0, .ref 465, .int r], h1)) fun _ => rfl).trans ?_
  refine (mjTo.step mjLw_669 (s2 := (670, [(3, .int i), (2, .ref 465), (1, .ref 1), (0, .ref 0)], [.int (Int32.ofInt 1), .int i, .ref 0, .ref 465, .int r], h1)) fun _ => rfl).trans ?_
  refine (mjTo.step mjLw_670 (s2 := (671, [(3, .int i), (2, .ref 465), (1, .ref 1), (0, .ref 0)], [.int (i + (Int32.ofInt 1)), .ref 0, .ref 465, .int r], h1)) fun _ => rfl).trans ?_
  refine (mjTo.sald (xs := scr) mjLw_671 rfl e1).trans ?_
  refine (mjTo.step mjLw_672 (s2 := (673, [(3, .int i), (2, .ref 465), (1, .ref 1), (0, .ref 0)], [.ref 0, .int x1, .ref 465, .int r], h1)) fun _ => rfl).trans ?_
  refine (mjTo.step mjLw_673 (s2 := (674, [(3, .int i), (2, .ref 465), (1, .ref 1), (0, .ref 0)], [.int i, .ref 0, .int x1, .ref 465, .int r], h1)) fun _ => rfl).trans ?_
  refine (mjTo.step mjLw_674 (s2 := (675, [(3, .int i), (2, .ref 465), (1, .ref 1), (0, .ref 0)], [.int (Int32.ofInt 2), .int i, .ref 0, .int x1, .ref 465, .int r], h1)) fun _ => rfl).trans ?_
  refine (mjTo.step mjLw_675 (s2 := (676, [(3, .int i), (2, .ref 465), (1, .ref 1), (0, .ref 0)], [.int (i + (Int32.ofInt 2)), .ref 0, .int x1, .ref 465, .int r], h1)) fun _ => rfl).trans ?_
  refine (mjTo.sald (xs := scr) mjLw_676 rfl e2).trans ?_
  refine (mjTo.virt (as := [.int x1, .int x2]) (r := [.int r]) (v := some (.int r)) (h' := h2) mjLw_677 rfl k1 (Nat.le_of_ble_eq_true rfl) (hm)).trans ?_
  refine (mjTo.icT (c := .eq) (x := r) (y := r) (n := 1455) mjLw_680 (decide_eq_true rfl) rfl).trans ?_
  exact mjTo.refl
set_option maxRecDepth 100000 in
theorem law_case_13 {scr : List Int32} {i x1 x2 : Int32} {r : Int32} {h h1 h2 : mjH} {f0 f1 : List Value} (e1 : mjAt? scr (i + Int32.ofInt 1) = some x1) (e2 : mjAt? scr (i + Int32.ofInt 2) = some x2) (hx : mjDoes 10 62 [.ref 1, .int x1, .int x2] h (some (.int r)) h1) (hm : mjDoes 10 193 [.ref 465, .int x1, .int x2] h1 (some (.int r)) h2) (k0 : h[0]? = some (.inl (10, f0))) (k1 : h1[464]? = some (.inl (11, f1))) : mjTo 10 4 (some scr) mjLt (685, mjLl i, [], h) (1455, mjLl i, [], h2) := by
  refine (mjTo.step mjLw_685 (s2 := (686, [(3, .int i), (2, .ref 465), (1, .ref 1), (0, .ref 0)], [.ref 1], h)) fun _ => rfl).trans ?_
  refine (mjTo.step mjLw_686 (s2 := (687, [(3, .int i), (2, .ref 465), (1, .ref 1), (0, .ref 0)], [.ref 0, .ref 1], h)) fun _ => rfl).trans ?_
  refine (mjTo.step mjLw_687 (s2 := (688, [(3, .int i), (2, .ref 465), (1, .ref 1), (0, .ref 0)], [.int i, .ref 0, .ref 1], h)) fun _ => rfl).trans ?_
  refine (mjTo.step mjLw_688 (s2 := (689, [(3, .int i), (2, .ref 465), (1, .ref 1), (0, .ref 0)], [.int (Int32.ofInt 1), .int i, .ref 0, .ref 1], h)) fun _ => rfl).trans ?_
  refine (mjTo.step mjLw_689 (s2 := (690, [(3, .int i), (2, .ref 465), (1, .ref 1), (0, .ref 0)], [.int (i + (Int32.ofInt 1)), .ref 0, .ref 1], h)) fun _ => rfl).trans ?_
  refine (mjTo.sald (xs := scr) mjLw_690 rfl e1).trans ?_
  refine (mjTo.step mjLw_691 (s2 := (692, [(3, .int i), (2, .ref 465), (1, .ref 1), (0, .ref 0)], [.ref 0, .int x1, .ref 1], h)) fun _ => rfl).trans ?_
  refine (mjTo.step mjLw_692 (s2 := (693, [(3, .int i), (2, .ref 465), (1, .ref 1), (0, .ref 0)], [.int i, .ref 0, .int x1, .ref 1], h)) fun _ => rfl).trans ?_
  refine (mjTo.step mjLw_693 (s2 := (694, [(3, .int i), (2, .ref 465), (1, .ref 1), (0, .ref 0)], [.int (Int32.ofInt 2), .int i, .ref 0, .int x1, .ref 1], h)) fun _ => rfl).trans ?_
  refine (mjTo.step mjLw_694 (s2 := (695, [(3, .int i), (2, .ref 465), (1, .ref 1), (0, .ref 0)], [.int (i + (Int32.ofInt 2)), .ref 0, .int x1, .ref 1], h)) fun _ => rfl).trans ?_
  refine (mjTo.sald (xs := scr) mjLw_695 rfl e2).trans ?_
  refine (mjTo.virt (as := [.int x1, .int x2]) (r := []) (v := some (.int r)) (h' := h1) mjLw_696 rfl k0 (Nat.le_of_ble_eq_true rfl) (hx)).trans ?_
  refine (mjTo.step mjLw_699 (s2 := (700, [(3, .int i), (2, .ref 465), (1, .ref 1), (0, .ref 0)], [.ref 465, .int r], h1)) fun _ => rfl).trans ?_
  refine (mjTo.step mjLw_700 (s2 := (701, [(3, .int i), (2, .ref 465), (1, .ref 1), (0, .ref 0)], [.ref 0, .ref 465, .int r], h1)) fun _ => rfl).trans ?_
  refine (mjTo.step mjLw_701 (s2 := (702, [(3, .int i), (2, .ref 465), (1, .ref 1), (0, .ref 0)], [.int i, .ref 0, .ref 465, .int r], h1)) fun _ => rfl).trans ?_
  refine (mjTo.step mjLw_702 (s2 := (703, [(3, .int i), (2, .ref 465), (1, .ref 1), (0, .ref 0)], [.int (Int32.ofInt 1), .int i, .ref 0, .ref 465, .int r], h1)) fun _ => rfl).trans ?_
  refine (mjTo.step mjLw_703 (s2 := (704, [(3, .int i), (2, .ref 465), (1, .ref 1), (0, .ref 0)], [.int (i + (Int32.ofInt 1)), .ref 0, .ref 465, .int r], h1)) fun _ => rfl).trans ?_
  refine (mjTo.sald (xs := scr) mjLw_704 rfl e1).trans ?_
  refine (mjTo.step mjLw_705 (s2 := (706, [(3, .int i), (2, .ref 465), (1, .ref 1), (0, .ref 0)], [.ref 0, .int x1, .ref 465, .int r], h1)) fun _ => rfl).trans ?_
  refine (mjTo.step mjLw_706 (s2 := (707, [(3, .int i), (2, .ref 465), (1, .ref 1), (0, .ref 0)], [.int i, .ref 0, .int x1, .ref 465, .int r], h1)) fun _ => rfl).trans ?_
  refine (mjTo.step mjLw_707 (s2 := (708, [(3, .int i), (2, .ref 465), (1, .ref 1), (0, .ref 0)], [.int (Int32.ofInt 2), .int i, .ref 0, .int x1, .ref 465, .int r], h1)) fun _ => rfl).trans ?_
  refine (mjTo.step mjLw_708 (s2 := (709, [(3, .int i), (2, .ref 465), (1, .ref 1), (0, .ref 0)], [.int (i + (Int32.ofInt 2)), .ref 0, .int x1, .ref 465, .int r], h1)) fun _ => rfl).trans ?_
  refine (mjTo.sald (xs := scr) mjLw_709 rfl e2).trans ?_
  refine (mjTo.virt (as := [.int x1, .int x2]) (r := [.int r]) (v := some (.int r)) (h' := h2) mjLw_710 rfl k1 (Nat.le_of_ble_eq_true rfl) (hm)).trans ?_
  refine (mjTo.icT (c := .eq) (x := r) (y := r) (n := 1455) mjLw_713 (decide_eq_true rfl) rfl).trans ?_
  exact mjTo.refl
set_option maxRecDepth 100000 in
theorem law_case_14 {scr : List Int32} {i x1 x2 : Int32} {r : Int32} {h h1 h2 : mjH} {f0 f1 : List Value} (e1 : mjAt? scr (i + Int32.ofInt 1) = some x1) (e2 : mjAt? scr (i + Int32.ofInt 2) = some x2) (hx : mjDoes 10 64 [.ref 1, .int x1, .int x2] h (some (.int r)) h1) (hm : mjDoes 10 194 [.ref 465, .int x1, .int x2] h1 (some (.int r)) h2) (k0 : h[0]? = some (.inl (10, f0))) (k1 : h1[464]? = some (.inl (11, f1))) : mjTo 10 4 (some scr) mjLt (718, mjLl i, [], h) (1455, mjLl i, [], h2) := by
  refine (mjTo.step mjLw_718 (s2 := (719, [(3, .int i), (2, .ref 465), (1, .ref 1), (0, .ref 0)], [.ref 1], h)) fun _ => rfl).trans ?_
  refine (mjTo.step mjLw_719 (s2 := (720, [(3, .int i), (2, .ref 465), (1, .ref 1), (0, .ref 0)], [.ref 0, .ref 1], h)) fun _ => rfl).trans ?_
  refine (mjTo.step mjLw_720 (s2 := (721, [(3, .int i), (2, .ref 465), (1, .ref 1), (0, .ref 0)], [.int i, .ref 0, .ref 1], h)) fun _ => rfl).trans ?_
  refine (mjTo.step mjLw_721 (s2 := (722, [(3, .int i), (2, .ref 465), (1, .ref 1), (0, .ref 0)], [.int (Int32.ofInt 1), .int i, .ref 0, .ref 1], h)) fun _ => rfl).trans ?_
  refine (mjTo.step mjLw_722 (s2 := (723, [(3, .int i), (2, .ref 465), (1, .ref 1), (0, .ref 0)], [.int (i + (Int32.ofInt 1)), .ref 0, .ref 1], h)) fun _ => rfl).trans ?_
  refine (mjTo.sald (xs := scr) mjLw_723 rfl e1).trans ?_
  refine (mjTo.step mjLw_724 (s2 := (725, [(3, .int i), (2, .ref 465), (1, .ref 1), (0, .ref 0)], [.ref 0, .int x1, .ref 1], h)) fun _ => rfl).trans ?_
  refine (mjTo.step mjLw_725 (s2 := (726, [(3, .int i), (2, .ref 465), (1, .ref 1), (0, .ref 0)], [.int i, .ref 0, .int x1, .ref 1], h)) fun _ => rfl).trans ?_
  refine (mjTo.step mjLw_726 (s2 := (727, [(3, .int i), (2, .ref 465), (1, .ref 1), (0, .ref 0)], [.int (Int32.ofInt 2), .int i, .ref 0, .int x1, .ref 1], h)) fun _ => rfl).trans ?_
  refine (mjTo.step mjLw_727 (s2 := (728, [(3, .int i), (2, .ref 465), (1, .ref 1), (0, .ref 0)], [.int (i + (Int32.ofInt 2)), .ref 0, .int x1, .ref 1], h)) fun _ => rfl).trans ?_
  refine (mjTo.sald (xs := scr) mjLw_728 rfl e2).trans ?_
  refine (mjTo.virt (as := [.int x1, .int x2]) (r := []) (v := some (.int r)) (h' := h1) mjLw_729 rfl k0 (Nat.le_of_ble_eq_true rfl) (hx)).trans ?_
  refine (mjTo.step mjLw_732 (s2 := (733, [(3, .int i), (2, .ref 465), (1, .ref 1), (0, .ref 0)], [.ref 465, .int r], h1)) fun _ => rfl).trans ?_
  refine (mjTo.step mjLw_733 (s2 := (734, [(3, .int i), (2, .ref 465), (1, .ref 1), (0, .ref 0)], [.ref 0, .ref 465, .int r], h1)) fun _ => rfl).trans ?_
  refine (mjTo.step mjLw_734 (s2 := (735, [(3, .int i), (2, .ref 465), (1, .ref 1), (0, .ref 0)], [.int i, .ref 0, .ref 465, .int r], h1)) fun _ => rfl).trans ?_
  refine (mjTo.step mjLw_735 (s2 := (736, [(3, .int i), (2, .ref 465), (1, .ref 1), (0, .ref 0)], [.int (Int32.ofInt 1), .int i, .ref 0, .ref 465, .int r], h1)) fun _ => rfl).trans ?_
  refine (mjTo.step mjLw_736 (s2 := (737, [(3, .int i), (2, .ref 465), (1, .ref 1), (0, .ref 0)], [.int (i + (Int32.ofInt 1)), .ref 0, .ref 465, .int r], h1)) fun _ => rfl).trans ?_
  refine (mjTo.sald (xs := scr) mjLw_737 rfl e1).trans ?_
  refine (mjTo.step mjLw_738 (s2 := (739, [(3, .int i), (2, .ref 465), (1, .ref 1), (0, .ref 0)], [.ref 0, .int x1, .ref 465, .int r], h1)) fun _ => rfl).trans ?_
  refine (mjTo.step mjLw_739 (s2 := (740, [(3, .int i), (2, .ref 465), (1, .ref 1), (0, .ref 0)], [.int i, .ref 0, .int x1, .ref 465, .int r], h1)) fun _ => rfl).trans ?_
  refine (mjTo.step mjLw_740 (s2 := (741, [(3, .int i), (2, .ref 465), (1, .ref 1), (0, .ref 0)], [.int (Int32.ofInt 2), .int i, .ref 0, .int x1, .ref 465, .int r], h1)) fun _ => rfl).trans ?_
  refine (mjTo.step mjLw_741 (s2 := (742, [(3, .int i), (2, .ref 465), (1, .ref 1), (0, .ref 0)], [.int (i + (Int32.ofInt 2)), .ref 0, .int x1, .ref 465, .int r], h1)) fun _ => rfl).trans ?_
  refine (mjTo.sald (xs := scr) mjLw_742 rfl e2).trans ?_
  refine (mjTo.virt (as := [.int x1, .int x2]) (r := [.int r]) (v := some (.int r)) (h' := h2) mjLw_743 rfl k1 (Nat.le_of_ble_eq_true rfl) (hm)).trans ?_
  refine (mjTo.icT (c := .eq) (x := r) (y := r) (n := 1455) mjLw_746 (decide_eq_true rfl) rfl).trans ?_
  exact mjTo.refl
set_option maxRecDepth 100000 in
theorem law_case_15 {scr : List Int32} {i x1 x2 x3 : Int32} {r : Int32} {h h1 h2 : mjH} {f0 f1 : List Value} (e1 : mjAt? scr (i + Int32.ofInt 1) = some x1) (e2 : mjAt? scr (i + Int32.ofInt 2) = some x2) (e3 : mjAt? scr (i + Int32.ofInt 3) = some x3) (hx : mjDoes 10 65 [.ref 1, .int x1, .int x2, .int x3] h (some (.int r)) h1) (hm : mjDoes 10 195 [.ref 465, .int x1, .int x2, .int x3] h1 (some (.int r)) h2) (k0 : h[0]? = some (.inl (10, f0))) (k1 : h1[464]? = some (.inl (11, f1))) : mjTo 10 4 (some scr) mjLt (751, mjLl i, [], h) (1455, mjLl i, [], h2) := by
  refine (mjTo.step mjLw_751 (s2 := (752, [(3, .int i), (2, .ref 465), (1, .ref 1), (0, .ref 0)], [.ref 1], h)) fun _ => rfl).trans ?_
  refine (mjTo.step mjLw_752 (s2 := (753, [(3, .int i), (2, .ref 465), (1, .ref 1), (0, .ref 0)], [.ref 0, .ref 1], h)) fun _ => rfl).trans ?_
  refine (mjTo.step mjLw_753 (s2 := (754, [(3, .int i), (2, .ref 465), (1, .ref 1), (0, .ref 0)], [.int i, .ref 0, .ref 1], h)) fun _ => rfl).trans ?_
  refine (mjTo.step mjLw_754 (s2 := (755, [(3, .int i), (2, .ref 465), (1, .ref 1), (0, .ref 0)], [.int (Int32.ofInt 1), .int i, .ref 0, .ref 1], h)) fun _ => rfl).trans ?_
  refine (mjTo.step mjLw_755 (s2 := (756, [(3, .int i), (2, .ref 465), (1, .ref 1), (0, .ref 0)], [.int (i + (Int32.ofInt 1)), .ref 0, .ref 1], h)) fun _ => rfl).trans ?_
  refine (mjTo.sald (xs := scr) mjLw_756 rfl e1).trans ?_
  refine (mjTo.step mjLw_757 (s2 := (758, [(3, .int i), (2, .ref 465), (1, .ref 1), (0, .ref 0)], [.ref 0, .int x1, .ref 1], h)) fun _ => rfl).trans ?_
  refine (mjTo.step mjLw_758 (s2 := (759, [(3, .int i), (2, .ref 465), (1, .ref 1), (0, .ref 0)], [.int i, .ref 0, .int x1, .ref 1], h)) fun _ => rfl).trans ?_
  refine (mjTo.step mjLw_759 (s2 := (760, [(3, .int i), (2, .ref 465), (1, .ref 1), (0, .ref 0)], [.int (Int32.ofInt 2), .int i, .ref 0, .int x1, .ref 1], h)) fun _ => rfl).trans ?_
  refine (mjTo.step mjLw_760 (s2 := (761, [(3, .int i), (2, .ref 465), (1, .ref 1), (0, .ref 0)], [.int (i + (Int32.ofInt 2)), .ref 0, .int x1, .ref 1], h)) fun _ => rfl).trans ?_
  refine (mjTo.sald (xs := scr) mjLw_761 rfl e2).trans ?_
  refine (mjTo.step mjLw_762 (s2 := (763, [(3, .int i), (2, .ref 465), (1, .ref 1), (0, .ref 0)], [.ref 0, .int x2, .int x1, .ref 1], h)) fun _ => rfl).trans ?_
  refine (mjTo.step mjLw_763 (s2 := (764, [(3, .int i), (2, .ref 465), (1, .ref 1), (0, .ref 0)], [.int i, .ref 0, .int x2, .int x1, .ref 1], h)) fun _ => rfl).trans ?_
  refine (mjTo.step mjLw_764 (s2 := (765, [(3, .int i), (2, .ref 465), (1, .ref 1), (0, .ref 0)], [.int (Int32.ofInt 3), .int i, .ref 0, .int x2, .int x1, .ref 1], h)) fun _ => rfl).trans ?_
  refine (mjTo.step mjLw_765 (s2 := (766, [(3, .int i), (2, .ref 465), (1, .ref 1), (0, .ref 0)], [.int (i + (Int32.ofInt 3)), .ref 0, .int x2, .int x1, .ref 1], h)) fun _ => rfl).trans ?_
  refine (mjTo.sald (xs := scr) mjLw_766 rfl e3).trans ?_
  refine (mjTo.virt (as := [.int x1, .int x2, .int x3]) (r := []) (v := some (.int r)) (h' := h1) mjLw_767 rfl k0 (Nat.le_of_ble_eq_true rfl) (hx)).trans ?_
  refine (mjTo.step mjLw_770 (s2 := (771, [(3, .int i), (2, .ref 465), (1, .ref 1), (0, .ref 0)], [.ref 465, .int r], h1)) fun _ => rfl).trans ?_
  refine (mjTo.step mjLw_771 (s2 := (772, [(3, .int i), (2, .ref 465), (1, .ref 1), (0, .ref 0)], [.ref 0, .ref 465, .int r], h1)) fun _ => rfl).trans ?_
  refine (mjTo.step mjLw_772 (s2 := (773, [(3, .int i), (2, .ref 465), (1, .ref 1), (0, .ref 0)], [.int i, .ref 0, .ref 465, .int r], h1)) fun _ => rfl).trans ?_
  refine (mjTo.step mjLw_773 (s2 := (774, [(3, .int i), (2, .ref 465), (1, .ref 1), (0, .ref 0)], [.int (Int32.ofInt 1), .int i, .ref 0, .ref 465, .int r], h1)) fun _ => rfl).trans ?_
  refine (mjTo.step mjLw_774 (s2 := (775, [(3, .int i), (2, .ref 465), (1, .ref 1), (0, .ref 0)], [.int (i + (Int32.ofInt 1)), .ref 0, .ref 465, .int r], h1)) fun _ => rfl).trans ?_
  refine (mjTo.sald (xs := scr) mjLw_775 rfl e1).trans ?_
  refine (mjTo.step mjLw_776 (s2 := (777, [(3, .int i), (2, .ref 465), (1, .ref 1), (0, .ref 0)], [.ref 0, .int x1, .ref 465, .int r], h1)) fun _ => rfl).trans ?_
  refine (mjTo.step mjLw_777 (s2 := (778, [(3, .int i), (2, .ref 465), (1, .ref 1), (0, .ref 0)], [.int i, .ref 0, .int x1, .ref 465, .int r], h1)) fun _ => rfl).trans ?_
  refine (mjTo.step mjLw_778 (s2 := (779, [(3, .int i), (2, .ref 465), (1, .ref 1), (0, .ref 0)], [.int (Int32.ofInt 2), .int i, .ref 0, .int x1, .ref 465, .int r], h1)) fun _ => rfl).trans ?_
  refine (mjTo.step mjLw_779 (s2 := (780, [(3, .int i), (2, .ref 465), (1, .ref 1), (0, .ref 0)], [.int (i + (Int32.ofInt 2)), .ref 0, .int x1, .ref 465, .int r], h1)) fun _ => rfl).trans ?_
  refine (mjTo.sald (xs := scr) mjLw_780 rfl e2).trans ?_
  refine (mjTo.step mjLw_781 (s2 := (782, [(3, .int i), (2, .ref 465), (1, .ref 1), (0, .ref 0)], [.ref 0, .int x2, .int x1, .ref 465, .int r], h1)) fun _ => rfl).trans ?_
  refine (mjTo.step mjLw_782 (s2 := (783, [(3, .int i), (2, .ref 465), (1, .ref 1), (0, .ref 0)], [.int i, .ref 0, .int x2, .int x1, .ref 465, .int r], h1)) fun _ => rfl).trans ?_
  refine (mjTo.step mjLw_783 (s2 := (784, [(3, .int i), (2, .ref 465), (1, .ref 1), (0, .ref 0)], [.int (Int32.ofInt 3), .int i, .ref 0, .int x2, .int x1, .ref 465, .int r], h1)) fun _ => rfl).trans ?_
  refine (mjTo.step mjLw_784 (s2 := (785, [(3, .int i), (2, .ref 465), (1, .ref 1), (0, .ref 0)], [.int (i + (Int32.ofInt 3)), .ref 0, .int x2, .int x1, .ref 465, .int r], h1)) fun _ => rfl).trans ?_
  refine (mjTo.sald (xs := scr) mjLw_785 rfl e3).trans ?_
  refine (mjTo.virt (as := [.int x1, .int x2, .int x3]) (r := [.int r]) (v := some (.int r)) (h' := h2) mjLw_786 rfl k1 (Nat.le_of_ble_eq_true rfl) (hm)).trans ?_
  refine (mjTo.icT (c := .eq) (x := r) (y := r) (n := 1455) mjLw_789 (decide_eq_true rfl) rfl).trans ?_
  exact mjTo.refl
set_option maxRecDepth 100000 in
theorem law_case_16 {scr : List Int32} {i x1 : Int32} {r : Int32} {h h1 h2 : mjH} {f0 f1 : List Value} (e1 : mjAt? scr (i + Int32.ofInt 1) = some x1) (hx : mjDoes 10 68 [.ref 1, .int x1] h (some (.int r)) h1) (hm : mjDoes 10 197 [.ref 465, .int x1] h1 (some (.int r)) h2) (k0 : h[0]? = some (.inl (10, f0))) (k1 : h1[464]? = some (.inl (11, f1))) : mjTo 10 4 (some scr) mjLt (794, mjLl i, [], h) (1455, mjLl i, [], h2) := by
  refine (mjTo.step mjLw_794 (s2 := (795, [(3, .int i), (2, .ref 465), (1, .ref 1), (0, .ref 0)], [.ref 1], h)) fun _ => rfl).trans ?_
  refine (mjTo.step mjLw_795 (s2 := (796, [(3, .int i), (2, .ref 465), (1, .ref 1), (0, .ref 0)], [.ref 0, .ref 1], h)) fun _ => rfl).trans ?_
  refine (mjTo.step mjLw_796 (s2 := (797, [(3, .int i), (2, .ref 465), (1, .ref 1), (0, .ref 0)], [.int i, .ref 0, .ref 1], h)) fun _ => rfl).trans ?_
  refine (mjTo.step mjLw_797 (s2 := (798, [(3, .int i), (2, .ref 465), (1, .ref 1), (0, .ref 0)], [.int (Int32.ofInt 1), .int i, .ref 0, .ref 1], h)) fun _ => rfl).trans ?_
  refine (mjTo.step mjLw_798 (s2 := (799, [(3, .int i), (2, .ref 465), (1, .ref 1), (0, .ref 0)], [.int (i + (Int32.ofInt 1)), .ref 0, .ref 1], h)) fun _ => rfl).trans ?_
  refine (mjTo.sald (xs := scr) mjLw_799 rfl e1).trans ?_
  refine (mjTo.virt (as := [.int x1]) (r := []) (v := some (.int r)) (h' := h1) mjLw_800 rfl k0 (Nat.le_of_ble_eq_true rfl) (hx)).trans ?_
  refine (mjTo.step mjLw_803 (s2 := (804, [(3, .int i), (2, .ref 465), (1, .ref 1), (0, .ref 0)], [.ref 465, .int r], h1)) fun _ => rfl).trans ?_
  refine (mjTo.step mjLw_804 (s2 := (805, [(3, .int i), (2, .ref 465), (1, .ref 1), (0, .ref 0)], [.ref 0, .ref 465, .int r], h1)) fun _ => rfl).trans ?_
  refine (mjTo.step mjLw_805 (s2 := (806, [(3, .int i), (2, .ref 465), (1, .ref 1), (0, .ref 0)], [.int i, .ref 0, .ref 465, .int r], h1)) fun _ => rfl).trans ?_
  refine (mjTo.step mjLw_806 (s2 := (807, [(3, .int i), (2, .ref 465), (1, .ref 1), (0, .ref 0)], [.int (Int32.ofInt 1), .int i, .ref 0, .ref 465, .int r], h1)) fun _ => rfl).trans ?_
  refine (mjTo.step mjLw_807 (s2 := (808, [(3, .int i), (2, .ref 465), (1, .ref 1), (0, .ref 0)], [.int (i + (Int32.ofInt 1)), .ref 0, .ref 465, .int r], h1)) fun _ => rfl).trans ?_
  refine (mjTo.sald (xs := scr) mjLw_808 rfl e1).trans ?_
  refine (mjTo.virt (as := [.int x1]) (r := [.int r]) (v := some (.int r)) (h' := h2) mjLw_809 rfl k1 (Nat.le_of_ble_eq_true rfl) (hm)).trans ?_
  refine (mjTo.icT (c := .eq) (x := r) (y := r) (n := 1455) mjLw_812 (decide_eq_true rfl) rfl).trans ?_
  exact mjTo.refl
set_option maxRecDepth 100000 in
theorem law_case_17 {scr : List Int32} {i x1 : Int32} {r : Int32} {h h1 h2 : mjH} {f0 f1 : List Value} (e1 : mjAt? scr (i + Int32.ofInt 1) = some x1) (hx : mjDoes 10 72 [.ref 1, .int x1] h (some (.int r)) h1) (hm : mjDoes 10 199 [.ref 465, .int x1] h1 (some (.int r)) h2) (k0 : h[0]? = some (.inl (10, f0))) (k1 : h1[464]? = some (.inl (11, f1))) : mjTo 10 4 (some scr) mjLt (817, mjLl i, [], h) (1455, mjLl i, [], h2) := by
  refine (mjTo.step mjLw_817 (s2 := (818, [(3, .int i), (2, .ref 465), (1, .ref 1), (0, .ref 0)], [.ref 1], h)) fun _ => rfl).trans ?_
  refine (mjTo.step mjLw_818 (s2 := (819, [(3, .int i), (2, .ref 465), (1, .ref 1), (0, .ref 0)], [.ref 0, .ref 1], h)) fun _ => rfl).trans ?_
  refine (mjTo.step mjLw_819 (s2 := (820, [(3, .int i), (2, .ref 465), (1, .ref 1), (0, .ref 0)], [.int i, .ref 0, .ref 1], h)) fun _ => rfl).trans ?_
  refine (mjTo.step mjLw_820 (s2 := (821, [(3, .int i), (2, .ref 465), (1, .ref 1), (0, .ref 0)], [.int (Int32.ofInt 1), .int i, .ref 0, .ref 1], h)) fun _ => rfl).trans ?_
  refine (mjTo.step mjLw_821 (s2 := (822, [(3, .int i), (2, .ref 465), (1, .ref 1), (0, .ref 0)], [.int (i + (Int32.ofInt 1)), .ref 0, .ref 1], h)) fun _ => rfl).trans ?_
  refine (mjTo.sald (xs := scr) mjLw_822 rfl e1).trans ?_
  refine (mjTo.virt (as := [.int x1]) (r := []) (v := some (.int r)) (h' := h1) mjLw_823 rfl k0 (Nat.le_of_ble_eq_true rfl) (hx)).trans ?_
  refine (mjTo.step mjLw_826 (s2 := (827, [(3, .int i), (2, .ref 465), (1, .ref 1), (0, .ref 0)], [.ref 465, .int r], h1)) fun _ => rfl).trans ?_
  refine (mjTo.step mjLw_827 (s2 := (828, [(3, .int i), (2, .ref 465), (1, .ref 1), (0, .ref 0)], [.ref 0, .ref 465, .int r], h1)) fun _ => rfl).trans ?_
  refine (mjTo.step mjLw_828 (s2 := (829, [(3, .int i), (2, .ref 465), (1, .ref 1), (0, .ref 0)], [.int i, .ref 0, .ref 465, .int r], h1)) fun _ => rfl).trans ?_
  refine (mjTo.step mjLw_829 (s2 := (830, [(3, .int i), (2, .ref 465), (1, .ref 1), (0, .ref 0)], [.int (Int32.ofInt 1), .int i, .ref 0, .ref 465, .int r], h1)) fun _ => rfl).trans ?_
  refine (mjTo.step mjLw_830 (s2 := (831, [(3, .int i), (2, .ref 465), (1, .ref 1), (0, .ref 0)], [.int (i + (Int32.ofInt 1)), .ref 0, .ref 465, .int r], h1)) fun _ => rfl).trans ?_
  refine (mjTo.sald (xs := scr) mjLw_831 rfl e1).trans ?_
  refine (mjTo.virt (as := [.int x1]) (r := [.int r]) (v := some (.int r)) (h' := h2) mjLw_832 rfl k1 (Nat.le_of_ble_eq_true rfl) (hm)).trans ?_
  refine (mjTo.icT (c := .eq) (x := r) (y := r) (n := 1455) mjLw_835 (decide_eq_true rfl) rfl).trans ?_
  exact mjTo.refl
set_option maxRecDepth 100000 in
theorem law_case_18 {scr : List Int32} {i x1 : Int32} {r : Int32} {h h1 h2 : mjH} {f0 f1 : List Value} (e1 : mjAt? scr (i + Int32.ofInt 1) = some x1) (hx : mjDoes 10 73 [.ref 1, .int x1] h (some (.int r)) h1) (hm : mjDoes 10 200 [.ref 465, .int x1] h1 (some (.int r)) h2) (k0 : h[0]? = some (.inl (10, f0))) (k1 : h1[464]? = some (.inl (11, f1))) : mjTo 10 4 (some scr) mjLt (840, mjLl i, [], h) (1455, mjLl i, [], h2) := by
  refine (mjTo.step mjLw_840 (s2 := (841, [(3, .int i), (2, .ref 465), (1, .ref 1), (0, .ref 0)], [.ref 1], h)) fun _ => rfl).trans ?_
  refine (mjTo.step mjLw_841 (s2 := (842, [(3, .int i), (2, .ref 465), (1, .ref 1), (0, .ref 0)], [.ref 0, .ref 1], h)) fun _ => rfl).trans ?_
  refine (mjTo.step mjLw_842 (s2 := (843, [(3, .int i), (2, .ref 465), (1, .ref 1), (0, .ref 0)], [.int i, .ref 0, .ref 1], h)) fun _ => rfl).trans ?_
  refine (mjTo.step mjLw_843 (s2 := (844, [(3, .int i), (2, .ref 465), (1, .ref 1), (0, .ref 0)], [.int (Int32.ofInt 1), .int i, .ref 0, .ref 1], h)) fun _ => rfl).trans ?_
  refine (mjTo.step mjLw_844 (s2 := (845, [(3, .int i), (2, .ref 465), (1, .ref 1), (0, .ref 0)], [.int (i + (Int32.ofInt 1)), .ref 0, .ref 1], h)) fun _ => rfl).trans ?_
  refine (mjTo.sald (xs := scr) mjLw_845 rfl e1).trans ?_
  refine (mjTo.virt (as := [.int x1]) (r := []) (v := some (.int r)) (h' := h1) mjLw_846 rfl k0 (Nat.le_of_ble_eq_true rfl) (hx)).trans ?_
  refine (mjTo.step mjLw_849 (s2 := (850, [(3, .int i), (2, .ref 465), (1, .ref 1), (0, .ref 0)], [.ref 465, .int r], h1)) fun _ => rfl).trans ?_
  refine (mjTo.step mjLw_850 (s2 := (851, [(3, .int i), (2, .ref 465), (1, .ref 1), (0, .ref 0)], [.ref 0, .ref 465, .int r], h1)) fun _ => rfl).trans ?_
  refine (mjTo.step mjLw_851 (s2 := (852, [(3, .int i), (2, .ref 465), (1, .ref 1), (0, .ref 0)], [.int i, .ref 0, .ref 465, .int r], h1)) fun _ => rfl).trans ?_
  refine (mjTo.step mjLw_852 (s2 := (853, [(3, .int i), (2, .ref 465), (1, .ref 1), (0, .ref 0)], [.int (Int32.ofInt 1), .int i, .ref 0, .ref 465, .int r], h1)) fun _ => rfl).trans ?_
  refine (mjTo.step mjLw_853 (s2 := (854, [(3, .int i), (2, .ref 465), (1, .ref 1), (0, .ref 0)], [.int (i + (Int32.ofInt 1)), .ref 0, .ref 465, .int r], h1)) fun _ => rfl).trans ?_
  refine (mjTo.sald (xs := scr) mjLw_854 rfl e1).trans ?_
  refine (mjTo.virt (as := [.int x1]) (r := [.int r]) (v := some (.int r)) (h' := h2) mjLw_855 rfl k1 (Nat.le_of_ble_eq_true rfl) (hm)).trans ?_
  refine (mjTo.icT (c := .eq) (x := r) (y := r) (n := 1455) mjLw_858 (decide_eq_true rfl) rfl).trans ?_
  exact mjTo.refl
set_option maxRecDepth 100000 in
theorem law_case_19 {scr : List Int32} {i x1 : Int32} {r : Int32} {h h1 h2 : mjH} {f0 f1 : List Value} (e1 : mjAt? scr (i + Int32.ofInt 1) = some x1) (hx : mjDoes 10 87 [.ref 1, .int x1] h (some (.int r)) h1) (hm : mjDoes 10 205 [.ref 465, .int x1] h1 (some (.int r)) h2) (k0 : h[0]? = some (.inl (10, f0))) (k1 : h1[464]? = some (.inl (11, f1))) : mjTo 10 4 (some scr) mjLt (863, mjLl i, [], h) (1455, mjLl i, [], h2) := by
  refine (mjTo.step mjLw_863 (s2 := (864, [(3, .int i), (2, .ref 465), (1, .ref 1), (0, .ref 0)], [.ref 1], h)) fun _ => rfl).trans ?_
  refine (mjTo.step mjLw_864 (s2 := (865, [(3, .int i), (2, .ref 465), (1, .ref 1), (0, .ref 0)], [.ref 0, .ref 1], h)) fun _ => rfl).trans ?_
  refine (mjTo.step mjLw_865 (s2 := (866, [(3, .int i), (2, .ref 465), (1, .ref 1), (0, .ref 0)], [.int i, .ref 0, .ref 1], h)) fun _ => rfl).trans ?_
  refine (mjTo.step mjLw_866 (s2 := (867, [(3, .int i), (2, .ref 465), (1, .ref 1), (0, .ref 0)], [.int (Int32.ofInt 1), .int i, .ref 0, .ref 1], h)) fun _ => rfl).trans ?_
  refine (mjTo.step mjLw_867 (s2 := (868, [(3, .int i), (2, .ref 465), (1, .ref 1), (0, .ref 0)], [.int (i + (Int32.ofInt 1)), .ref 0, .ref 1], h)) fun _ => rfl).trans ?_
  refine (mjTo.sald (xs := scr) mjLw_868 rfl e1).trans ?_
  refine (mjTo.virt (as := [.int x1]) (r := []) (v := some (.int r)) (h' := h1) mjLw_869 rfl k0 (Nat.le_of_ble_eq_true rfl) (hx)).trans ?_
  refine (mjTo.step mjLw_872 (s2 := (873, [(3, .int i), (2, .ref 465), (1, .ref 1), (0, .ref 0)], [.ref 465, .int r], h1)) fun _ => rfl).trans ?_
  refine (mjTo.step mjLw_873 (s2 := (874, [(3, .int i), (2, .ref 465), (1, .ref 1), (0, .ref 0)], [.ref 0, .ref 465, .int r], h1)) fun _ => rfl).trans ?_
  refine (mjTo.step mjLw_874 (s2 := (875, [(3, .int i), (2, .ref 465), (1, .ref 1), (0, .ref 0)], [.int i, .ref 0, .ref 465, .int r], h1)) fun _ => rfl).trans ?_
  refine (mjTo.step mjLw_875 (s2 := (876, [(3, .int i), (2, .ref 465), (1, .ref 1), (0, .ref 0)], [.int (Int32.ofInt 1), .int i, .ref 0, .ref 465, .int r], h1)) fun _ => rfl).trans ?_
  refine (mjTo.step mjLw_876 (s2 := (877, [(3, .int i), (2, .ref 465), (1, .ref 1), (0, .ref 0)], [.int (i + (Int32.ofInt 1)), .ref 0, .ref 465, .int r], h1)) fun _ => rfl).trans ?_
  refine (mjTo.sald (xs := scr) mjLw_877 rfl e1).trans ?_
  refine (mjTo.virt (as := [.int x1]) (r := [.int r]) (v := some (.int r)) (h' := h2) mjLw_878 rfl k1 (Nat.le_of_ble_eq_true rfl) (hm)).trans ?_
  refine (mjTo.icT (c := .eq) (x := r) (y := r) (n := 1455) mjLw_881 (decide_eq_true rfl) rfl).trans ?_
  exact mjTo.refl
set_option maxRecDepth 100000 in
theorem law_case_20 {scr : List Int32} {i x1 : Int32} {r : Int32} {h h1 h2 : mjH} {f0 f1 : List Value} (e1 : mjAt? scr (i + Int32.ofInt 1) = some x1) (hx : mjDoes 10 89 [.ref 1, .int x1] h (some (.int r)) h1) (hm : mjDoes 10 206 [.ref 465, .int x1] h1 (some (.int r)) h2) (k0 : h[0]? = some (.inl (10, f0))) (k1 : h1[464]? = some (.inl (11, f1))) : mjTo 10 4 (some scr) mjLt (886, mjLl i, [], h) (1455, mjLl i, [], h2) := by
  refine (mjTo.step mjLw_886 (s2 := (887, [(3, .int i), (2, .ref 465), (1, .ref 1), (0, .ref 0)], [.ref 1], h)) fun _ => rfl).trans ?_
  refine (mjTo.step mjLw_887 (s2 := (888, [(3, .int i), (2, .ref 465), (1, .ref 1), (0, .ref 0)], [.ref 0, .ref 1], h)) fun _ => rfl).trans ?_
  refine (mjTo.step mjLw_888 (s2 := (889, [(3, .int i), (2, .ref 465), (1, .ref 1), (0, .ref 0)], [.int i, .ref 0, .ref 1], h)) fun _ => rfl).trans ?_
  refine (mjTo.step mjLw_889 (s2 := (890, [(3, .int i), (2, .ref 465), (1, .ref 1), (0, .ref 0)], [.int (Int32.ofInt 1), .int i, .ref 0, .ref 1], h)) fun _ => rfl).trans ?_
  refine (mjTo.step mjLw_890 (s2 := (891, [(3, .int i), (2, .ref 465), (1, .ref 1), (0, .ref 0)], [.int (i + (Int32.ofInt 1)), .ref 0, .ref 1], h)) fun _ => rfl).trans ?_
  refine (mjTo.sald (xs := scr) mjLw_891 rfl e1).trans ?_
  refine (mjTo.virt (as := [.int x1]) (r := []) (v := some (.int r)) (h' := h1) mjLw_892 rfl k0 (Nat.le_of_ble_eq_true rfl) (hx)).trans ?_
  refine (mjTo.step mjLw_895 (s2 := (896, [(3, .int i), (2, .ref 465), (1, .ref 1), (0, .ref 0)], [.ref 465, .int r], h1)) fun _ => rfl).trans ?_
  refine (mjTo.step mjLw_896 (s2 := (897, [(3, .int i), (2, .ref 465), (1, .ref 1), (0, .ref 0)], [.ref 0, .ref 465, .int r], h1)) fun _ => rfl).trans ?_
  refine (mjTo.step mjLw_897 (s2 := (898, [(3, .int i), (2, .ref 465), (1, .ref 1), (0, .ref 0)], [.int i, .ref 0, .ref 465, .int r], h1)) fun _ => rfl).trans ?_
  refine (mjTo.step mjLw_898 (s2 := (899, [(3, .int i), (2, .ref 465), (1, .ref 1), (0, .ref 0)], [.int (Int32.ofInt 1), .int i, .ref 0, .ref 465, .int r], h1)) fun _ => rfl).trans ?_
  refine (mjTo.step mjLw_899 (s2 := (900, [(3, .int i), (2, .ref 465), (1, .ref 1), (0, .ref 0)], [.int (i + (Int32.ofInt 1)), .ref 0, .ref 465, .int r], h1)) fun _ => rfl).trans ?_
  refine (mjTo.sald (xs := scr) mjLw_900 rfl e1).trans ?_
  refine (mjTo.virt (as := [.int x1]) (r := [.int r]) (v := some (.int r)) (h' := h2) mjLw_901 rfl k1 (Nat.le_of_ble_eq_true rfl) (hm)).trans ?_
  refine (mjTo.icT (c := .eq) (x := r) (y := r) (n := 1455) mjLw_904 (decide_eq_true rfl) rfl).trans ?_
  exact mjTo.refl
set_option maxRecDepth 100000 in
theorem law_case_21 {scr : List Int32} {i x1 x2 : Int32} {r : Int32} {h h1 h2 : mjH} {f0 f1 : List Value} (e1 : mjAt? scr (i + Int32.ofInt 1) = some x1) (e2 : mjAt? scr (i + Int32.ofInt 2) = some x2) (hx : mjDoes 10 113 [.ref 1, .int x1, .int x2] h (some (.int r)) h1) (hm : mjDoes 10 216 [.ref 465, .int x1, .int x2] h1 (some (.int r)) h2) (k0 : h[0]? = some (.inl (10, f0))) (k1 : h1[464]? = some (.inl (11, f1))) : mjTo 10 4 (some scr) mjLt (909, mjLl i, [], h) (1455, mjLl i, [], h2) := by
  refine (mjTo.step mjLw_909 (s2 := (910, [(3, .int i), (2, .ref 465), (1, .ref 1), (0, .ref 0)], [.ref 1], h)) fun _ => rfl).trans ?_
  refine (mjTo.step mjLw_910 (s2 := (911, [(3, .int i), (2, .ref 465), (1, .ref 1), (0, .ref 0)], [.ref 0, .ref 1], h)) fun _ => rfl).trans ?_
  refine (mjTo.step mjLw_911 (s2 := (912, [(3, .int i), (2, .ref 465), (1, .ref 1), (0, .ref 0)], [.int i, .ref 0, .ref 1], h)) fun _ => rfl).trans ?_
  refine (mjTo.step mjLw_912 (s2 := (913, [(3, .int i), (2, .ref 465), (1, .ref 1), (0, .ref 0)], [.int (Int32.ofInt 1), .int i, .ref 0, .ref 1], h)) fun _ => rfl).trans ?_
  refine (mjTo.step mjLw_913 (s2 := (914, [(3, .int i), (2, .ref 465), (1, .ref 1), (0, .ref 0)], [.int (i + (Int32.ofInt 1)), .ref 0, .ref 1], h)) fun _ => rfl).trans ?_
  refine (mjTo.sald (xs := scr) mjLw_914 rfl e1).trans ?_
  refine (mjTo.step mjLw_915 (s2 := (916, [(3, .int i), (2, .ref 465), (1, .ref 1), (0, .ref 0)], [.ref 0, .int x1, .ref 1], h)) fun _ => rfl).trans ?_
  refine (mjTo.step mjLw_916 (s2 := (917, [(3, .int i), (2, .ref 465), (1, .ref 1), (0, .ref 0)], [.int i, .ref 0, .int x1, .ref 1], h)) fun _ => rfl).trans ?_
  refine (mjTo.step mjLw_917 (s2 := (918, [(3, .int i), (2, .ref 465), (1, .ref 1), (0, .ref 0)], [.int (Int32.ofInt 2), .int i, .ref 0, .int x1, .ref 1], h)) fun _ => rfl).trans ?_
  refine (mjTo.step mjLw_918 (s2 := (919, [(3, .int i), (2, .ref 465), (1, .ref 1), (0, .ref 0)], [.int (i + (Int32.ofInt 2)), .ref 0, .int x1, .ref 1], h)) fun _ => rfl).trans ?_
  refine (mjTo.sald (xs := scr) mjLw_919 rfl e2).trans ?_
  refine (mjTo.virt (as := [.int x1, .int x2]) (r := []) (v := some (.int r)) (h' := h1) mjLw_920 rfl k0 (Nat.le_of_ble_eq_true rfl) (hx)).trans ?_
  refine (mjTo.step mjLw_923 (s2 := (924, [(3, .int i), (2, .ref 465), (1, .ref 1), (0, .ref 0)], [.ref 465, .int r], h1)) fun _ => rfl).trans ?_
  refine (mjTo.step mjLw_924 (s2 := (925, [(3, .int i), (2, .ref 465), (1, .ref 1), (0, .ref 0)], [.ref 0, .ref 465, .int r], h1)) fun _ => rfl).trans ?_
  refine (mjTo.step mjLw_925 (s2 := (926, [(3, .int i), (2, .ref 465), (1, .ref 1), (0, .ref 0)], [.int i, .ref 0, .ref 465, .int r], h1)) fun _ => rfl).trans ?_
  refine (mjTo.step mjLw_926 (s2 := (927, [(3, .int i), (2, .ref 465), (1, .ref 1), (0, .ref 0)], [.int (Int32.ofInt 1), .int i, .ref 0, .ref 465, .int r], h1)) fun _ => rfl).trans ?_
  refine (mjTo.step mjLw_927 (s2 := (928, [(3, .int i), (2, .ref 465), (1, .ref 1), (0, .ref 0)], [.int (i + (Int32.ofInt 1)), .ref 0, .ref 465, .int r], h1)) fun _ => rfl).trans ?_
  refine (mjTo.sald (xs := scr) mjLw_928 rfl e1).trans ?_
  refine (mjTo.step mjLw_929 (s2 := (930, [(3, .int i), (2, .ref 465), (1, .ref 1), (0, .ref 0)], [.ref 0, .int x1, .ref 465, .int r], h1)) fun _ => rfl).trans ?_
  refine (mjTo.step mjLw_930 (s2 := (931, [(3, .int i), (2, .ref 465), (1, .ref 1), (0, .ref 0)], [.int i, .ref 0, .int x1, .ref 465, .int r], h1)) fun _ => rfl).trans ?_
  refine (mjTo.step mjLw_931 (s2 := (932, [(3, .int i), (2, .ref 465), (1, .ref 1), (0, .ref 0)], [.int (Int32.ofInt 2), .int i, .ref 0, .int x1, .ref 465, .int r], h1)) fun _ => rfl).trans ?_
  refine (mjTo.step mjLw_932 (s2 := (933, [(3, .int i), (2, .ref 465), (1, .ref 1), (0, .ref 0)], [.int (i + (Int32.ofInt 2)), .ref 0, .int x1, .ref 465, .int r], h1)) fun _ => rfl).trans ?_
  refine (mjTo.sald (xs := scr) mjLw_933 rfl e2).trans ?_
  refine (mjTo.virt (as := [.int x1, .int x2]) (r := [.int r]) (v := some (.int r)) (h' := h2) mjLw_934 rfl k1 (Nat.le_of_ble_eq_true rfl) (hm)).trans ?_
  refine (mjTo.icT (c := .eq) (x := r) (y := r) (n := 1455) mjLw_937 (decide_eq_true rfl) rfl).trans ?_
  exact mjTo.refl
set_option maxRecDepth 100000 in
theorem law_case_22 {scr : List Int32} {i x1 x2 x3 x4 : Int32} {r : Int32} {h h1 h2 : mjH} {f0 f1 : List Value} (e1 : mjAt? scr (i + Int32.ofInt 1) = some x1) (e2 : mjAt? scr (i + Int32.ofInt 2) = some x2) (e3 : mjAt? scr (i + Int32.ofInt 3) = some x3) (e4 : mjAt? scr (i + Int32.ofInt 4) = some x4) (hx : mjDoes 10 115 [.ref 1, .int x1, .int x2, .int x3, .int x4] h (some (.int r)) h1) (hm : mjDoes 10 217 [.ref 465, .int x1, .int x2, .int x3, .int x4] h1 (some (.int r)) h2) (k0 : h[0]? = some (.inl (10, f0))) (k1 : h1[464]? = some (.inl (11, f1))) : mjTo 10 4 (some scr) mjLt (942, mjLl i, [], h) (1455, mjLl i, [], h2) := by
  refine (mjTo.step mjLw_942 (s2 := (943, [(3, .int i), (2, .ref 465), (1, .ref 1), (0, .ref 0)], [.ref 1], h)) fun _ => rfl).trans ?_
  refine (mjTo.step mjLw_943 (s2 := (944, [(3, .int i), (2, .ref 465), (1, .ref 1), (0, .ref 0)], [.ref 0, .ref 1], h)) fun _ => rfl).trans ?_
  refine (mjTo.step mjLw_944 (s2 := (945, [(3, .int i), (2, .ref 465), (1, .ref 1), (0, .ref 0)], [.int i, .ref 0, .ref 1], h)) fun _ => rfl).trans ?_
  refine (mjTo.step mjLw_945 (s2 := (946, [(3, .int i), (2, .ref 465), (1, .ref 1), (0, .ref 0)], [.int (Int32.ofInt 1), .int i, .ref 0, .ref 1], h)) fun _ => rfl).trans ?_
  refine (mjTo.step mjLw_946 (s2 := (947, [(3, .int i), (2, .ref 465), (1, .ref 1), (0, .ref 0)], [.int (i + (Int32.ofInt 1)), .ref 0, .ref 1], h)) fun _ => rfl).trans ?_
  refine (mjTo.sald (xs := scr) mjLw_947 rfl e1).trans ?_
  refine (mjTo.step mjLw_948 (s2 := (949, [(3, .int i), (2, .ref 465), (1, .ref 1), (0, .ref 0)], [.ref 0, .int x1, .ref 1], h)) fun _ => rfl).trans ?_
  refine (mjTo.step mjLw_949 (s2 := (950, [(3, .int i), (2, .ref 465), (1, .ref 1), (0, .ref 0)], [.int i, .ref 0, .int x1, .ref 1], h)) fun _ => rfl).trans ?_
  refine (mjTo.step mjLw_950 (s2 := (951, [(3, .int i), (2, .ref 465), (1, .ref 1), (0, .ref 0)], [.int (Int32.ofInt 2), .int i, .ref 0, .int x1, .ref 1], h)) fun _ => rfl).trans ?_
  refine (mjTo.step mjLw_951 (s2 := (952, [(3, .int i), (2, .ref 465), (1, .ref 1), (0, .ref 0)], [.int (i + (Int32.ofInt 2)), .ref 0, .int x1, .ref 1], h)) fun _ => rfl).trans ?_
  refine (mjTo.sald (xs := scr) mjLw_952 rfl e2).trans ?_
  refine (mjTo.step mjLw_953 (s2 := (954, [(3, .int i), (2, .ref 465), (1, .ref 1), (0, .ref 0)], [.ref 0, .int x2, .int x1, .ref 1], h)) fun _ => rfl).trans ?_
  refine (mjTo.step mjLw_954 (s2 := (955, [(3, .int i), (2, .ref 465), (1, .ref 1), (0, .ref 0)], [.int i, .ref 0, .int x2, .int x1, .ref 1], h)) fun _ => rfl).trans ?_
  refine (mjTo.step mjLw_955 (s2 := (956, [(3, .int i), (2, .ref 465), (1, .ref 1), (0, .ref 0)], [.int (Int32.ofInt 3), .int i, .ref 0, .int x2, .int x1, .ref 1], h)) fun _ => rfl).trans ?_
  refine (mjTo.step mjLw_956 (s2 := (957, [(3, .int i), (2, .ref 465), (1, .ref 1), (0, .ref 0)], [.int (i + (Int32.ofInt 3)), .ref 0, .int x2, .int x1, .ref 1], h)) fun _ => rfl).trans ?_
  refine (mjTo.sald (xs := scr) mjLw_957 rfl e3).trans ?_
  refine (mjTo.step mjLw_958 (s2 := (959, [(3, .int i), (2, .ref 465), (1, .ref 1), (0, .ref 0)], [.ref 0, .int x3, .int x2, .int x1, .ref 1], h)) fun _ => rfl).trans ?_
  refine (mjTo.step mjLw_959 (s2 := (960, [(3, .int i), (2, .ref 465), (1, .ref 1), (0, .ref 0)], [.int i, .ref 0, .int x3, .int x2, .int x1, .ref 1], h)) fun _ => rfl).trans ?_
  refine (mjTo.step mjLw_960 (s2 := (961, [(3, .int i), (2, .ref 465), (1, .ref 1), (0, .ref 0)], [.int (Int32.ofInt 4), .int i, .ref 0, .int x3, .int x2, .int x1, .ref 1], h)) fun _ => rfl).trans ?_
  refine (mjTo.step mjLw_961 (s2 := (962, [(3, .int i), (2, .ref 465), (1, .ref 1), (0, .ref 0)], [.int (i + (Int32.ofInt 4)), .ref 0, .int x3, .int x2, .int x1, .ref 1], h)) fun _ => rfl).trans ?_
  refine (mjTo.sald (xs := scr) mjLw_962 rfl e4).trans ?_
  refine (mjTo.virt (as := [.int x1, .int x2, .int x3, .int x4]) (r := []) (v := some (.int r)) (h' := h1) mjLw_963 rfl k0 (Nat.le_of_ble_eq_true rfl) (hx)).trans ?_
  refine (mjTo.step mjLw_966 (s2 := (967, [(3, .int i), (2, .ref 465), (1, .ref 1), (0, .ref 0)], [.ref 465, .int r], h1)) fun _ => rfl).trans ?_
  refine (mjTo.step mjLw_967 (s2 := (968, [(3, .int i), (2, .ref 465), (1, .ref 1), (0, .ref 0)], [.ref 0, .ref 465, .int r], h1)) fun _ => rfl).trans ?_
  refine (mjTo.step mjLw_968 (s2 := (969, [(3, .int i), (2, .ref 465), (1, .ref 1), (0, .ref 0)], [.int i, .ref 0, .ref 465, .int r], h1)) fun _ => rfl).trans ?_
  refine (mjTo.step mjLw_969 (s2 := (970, [(3, .int i), (2, .ref 465), (1, .ref 1), (0, .ref 0)], [.int (Int32.ofInt 1), .int i, .ref 0, .ref 465, .int r], h1)) fun _ => rfl).trans ?_
  refine (mjTo.step mjLw_970 (s2 := (971, [(3, .int i), (2, .ref 465), (1, .ref 1), (0, .ref 0)], [.int (i + (Int32.ofInt 1)), .ref 0, .ref 465, .int r], h1)) fun _ => rfl).trans ?_
  refine (mjTo.sald (xs := scr) mjLw_971 rfl e1).trans ?_
  refine (mjTo.step mjLw_972 (s2 := (973, [(3, .int i), (2, .ref 465), (1, .ref 1), (0, .ref 0)], [.ref 0, .int x1, .ref 465, .int r], h1)) fun _ => rfl).trans ?_
  refine (mjTo.step mjLw_973 (s2 := (974, [(3, .int i), (2, .ref 465), (1, .ref 1), (0, .ref 0)], [.int i, .ref 0, .int x1, .ref 465, .int r], h1)) fun _ => rfl).trans ?_
  refine (mjTo.step mjLw_974 (s2 := (975, [(3, .int i), (2, .ref 465), (1, .ref 1), (0, .ref 0)], [.int (Int32.ofInt 2), .int i, .ref 0, .int x1, .ref 465, .int r], h1)) fun _ => rfl).trans ?_
  refine (mjTo.step mjLw_975 (s2 := (976, [(3, .int i), (2, .ref 465), (1, .ref 1), (0, .ref 0)], [.int (i + (Int32.ofInt 2)), .ref 0, .int x1, .ref 465, .int r], h1)) fun _ => rfl).trans ?_
  refine (mjTo.sald (xs := scr) mjLw_976 rfl e2).trans ?_
  refine (mjTo.step mjLw_977 (s2 := (978, [(3, .int i), (2, .ref 465), (1, .ref 1), (0, .ref 0)], [.ref 0, .int x2, .int x1, .ref 465, .int r], h1)) fun _ => rfl).trans ?_
  refine (mjTo.step mjLw_978 (s2 := (979, [(3, .int i), (2, .ref 465), (1, .ref 1), (0, .ref 0)], [.int i, .ref 0, .int x2, .int x1, .ref 465, .int r], h1)) fun _ => rfl).trans ?_
  refine (mjTo.step mjLw_979 (s2 := (980, [(3, .int i), (2, .ref 465), (1, .ref 1), (0, .ref 0)], [.int (Int32.ofInt 3), .int i, .ref 0, .int x2, .int x1, .ref 465, .int r], h1)) fun _ => rfl).trans ?_
  refine (mjTo.step mjLw_980 (s2 := (981, [(3, .int i), (2, .ref 465), (1, .ref 1), (0, .ref 0)], [.int (i + (Int32.ofInt 3)), .ref 0, .int x2, .int x1, .ref 465, .int r], h1)) fun _ => rfl).trans ?_
  refine (mjTo.sald (xs := scr) mjLw_981 rfl e3).trans ?_
  refine (mjTo.step mjLw_982 (s2 := (983, [(3, .int i), (2, .ref 465), (1, .ref 1), (0, .ref 0)], [.ref 0, .int x3, .int x2, .int x1, .ref 465, .int r], h1)) fun _ => rfl).trans ?_
  refine (mjTo.step mjLw_983 (s2 := (984, [(3, .int i), (2, .ref 465), (1, .ref 1), (0, .ref 0)], [.int i, .ref 0, .int x3, .int x2, .int x1, .ref 465, .int r], h1)) fun _ => rfl).trans ?_
  refine (mjTo.step mjLw_984 (s2 := (985, [(3, .int i), (2, .ref 465), (1, .ref 1), (0, .ref 0)], [.int (Int32.ofInt 4), .int i, .ref 0, .int x3, .int x2, .int x1, .ref 465, .int r], h1)) fun _ => rfl).trans ?_
  refine (mjTo.step mjLw_985 (s2 := (986, [(3, .int i), (2, .ref 465), (1, .ref 1), (0, .ref 0)], [.int (i + (Int32.ofInt 4)), .ref 0, .int x3, .int x2, .int x1, .ref 465, .int r], h1)) fun _ => rfl).trans ?_
  refine (mjTo.sald (xs := scr) mjLw_986 rfl e4).trans ?_
  refine (mjTo.virt (as := [.int x1, .int x2, .int x3, .int x4]) (r := [.int r]) (v := some (.int r)) (h' := h2) mjLw_987 rfl k1 (Nat.le_of_ble_eq_true rfl) (hm)).trans ?_
  refine (mjTo.icT (c := .eq) (x := r) (y := r) (n := 1455) mjLw_990 (decide_eq_true rfl) rfl).trans ?_
  exact mjTo.refl
set_option maxRecDepth 100000 in
theorem law_case_23 {scr : List Int32} {i x1 x2 x3 : Int32} {r : Int32} {h h1 h2 : mjH} {f0 f1 : List Value} (e1 : mjAt? scr (i + Int32.ofInt 1) = some x1) (e2 : mjAt? scr (i + Int32.ofInt 2) = some x2) (e3 : mjAt? scr (i + Int32.ofInt 3) = some x3) (hx : mjDoes 10 118 [.ref 1, .int x1, .int x2, .int x3] h (some (.int r)) h1) (hm : mjDoes 10 226 [.ref 465, .int x1, .int x2, .int x3] h1 (some (.int r)) h2) (k0 : h[0]? = some (.inl (10, f0))) (k1 : h1[464]? = some (.inl (11, f1))) : mjTo 10 4 (some scr) mjLt (995, mjLl i, [], h) (1455, mjLl i, [], h2) := by
  refine (mjTo.step mjLw_995 (s2 := (996, [(3, .int i), (2, .ref 465), (1, .ref 1), (0, .ref 0)], [.ref 1], h)) fun _ => rfl).trans ?_
  refine (mjTo.step mjLw_996 (s2 := (997, [(3, .int i), (2, .ref 465), (1, .ref 1), (0, .ref 0)], [.ref 0, .ref 1], h)) fun _ => rfl).trans ?_
  refine (mjTo.step mjLw_997 (s2 := (998, [(3, .int i), (2, .ref 465), (1, .ref 1), (0, .ref 0)], [.int i, .ref 0, .ref 1], h)) fun _ => rfl).trans ?_
  refine (mjTo.step mjLw_998 (s2 := (999, [(3, .int i), (2, .ref 465), (1, .ref 1), (0, .ref 0)], [.int (Int32.ofInt 1), .int i, .ref 0, .ref 1], h)) fun _ => rfl).trans ?_
  refine (mjTo.step mjLw_999 (s2 := (1000, [(3, .int i), (2, .ref 465), (1, .ref 1), (0, .ref 0)], [.int (i + (Int32.ofInt 1)), .ref 0, .ref 1], h)) fun _ => rfl).trans ?_
  refine (mjTo.sald (xs := scr) mjLw_1000 rfl e1).trans ?_
  refine (mjTo.step mjLw_1001 (s2 := (1002, [(3, .int i), (2, .ref 465), (1, .ref 1), (0, .ref 0)], [.ref 0, .int x1, .ref 1], h)) fun _ => rfl).trans ?_
  refine (mjTo.step mjLw_1002 (s2 := (1003, [(3, .int i), (2, .ref 465), (1, .ref 1), (0, .ref 0)], [.int i, .ref 0, .int x1, .ref 1], h)) fun _ => rfl).trans ?_
  refine (mjTo.step mjLw_1003 (s2 := (1004, [(3, .int i), (2, .ref 465), (1, .ref 1), (0, .ref 0)], [.int (Int32.ofInt 2), .int i, .ref 0, .int x1, .ref 1], h)) fun _ => rfl).trans ?_
  refine (mjTo.step mjLw_1004 (s2 := (1005, [(3, .int i), (2, .ref 465), (1, .ref 1), (0, .ref 0)], [.int (i + (Int32.ofInt 2)), .ref 0, .int x1, .ref 1], h)) fun _ => rfl).trans ?_
  refine (mjTo.sald (xs := scr) mjLw_1005 rfl e2).trans ?_
  refine (mjTo.step mjLw_1006 (s2 := (1007, [(3, .int i), (2, .ref 465), (1, .ref 1), (0, .ref 0)], [.ref 0, .int x2, .int x1, .ref 1], h)) fun _ => rfl).trans ?_
  refine (mjTo.step mjLw_1007 (s2 := (1008, [(3, .int i), (2, .ref 465), (1, .ref 1), (0, .ref 0)], [.int i, .ref 0, .int x2, .int x1, .ref 1], h)) fun _ => rfl).trans ?_
  refine (mjTo.step mjLw_1008 (s2 := (1009, [(3, .int i), (2, .ref 465), (1, .ref 1), (0, .ref 0)], [.int (Int32.ofInt 3), .int i, .ref 0, .int x2, .int x1, .ref 1], h)) fun _ => rfl).trans ?_
  refine (mjTo.step mjLw_1009 (s2 := (1010, [(3, .int i), (2, .ref 465), (1, .ref 1), (0, .ref 0)], [.int (i + (Int32.ofInt 3)), .ref 0, .int x2, .int x1, .ref 1], h)) fun _ => rfl).trans ?_
  refine (mjTo.sald (xs := scr) mjLw_1010 rfl e3).trans ?_
  refine (mjTo.virt (as := [.int x1, .int x2, .int x3]) (r := []) (v := some (.int r)) (h' := h1) mjLw_1011 rfl k0 (Nat.le_of_ble_eq_true rfl) (hx)).trans ?_
  refine (mjTo.step mjLw_1014 (s2 := (1015, [(3, .int i), (2, .ref 465), (1, .ref 1), (0, .ref 0)], [.ref 465, .int r], h1)) fun _ => rfl).trans ?_
  refine (mjTo.step mjLw_1015 (s2 := (1016, [(3, .int i), (2, .ref 465), (1, .ref 1), (0, .ref 0)], [.ref 0, .ref 465, .int r], h1)) fun _ => rfl).trans ?_
  refine (mjTo.step mjLw_1016 (s2 := (1017, [(3, .int i), (2, .ref 465), (1, .ref 1), (0, .ref 0)], [.int i, .ref 0, .ref 465, .int r], h1)) fun _ => rfl).trans ?_
  refine (mjTo.step mjLw_1017 (s2 := (1018, [(3, .int i), (2, .ref 465), (1, .ref 1), (0, .ref 0)], [.int (Int32.ofInt 1), .int i, .ref 0, .ref 465, .int r], h1)) fun _ => rfl).trans ?_
  refine (mjTo.step mjLw_1018 (s2 := (1019, [(3, .int i), (2, .ref 465), (1, .ref 1), (0, .ref 0)], [.int (i + (Int32.ofInt 1)), .ref 0, .ref 465, .int r], h1)) fun _ => rfl).trans ?_
  refine (mjTo.sald (xs := scr) mjLw_1019 rfl e1).trans ?_
  refine (mjTo.step mjLw_1020 (s2 := (1021, [(3, .int i), (2, .ref 465), (1, .ref 1), (0, .ref 0)], [.ref 0, .int x1, .ref 465, .int r], h1)) fun _ => rfl).trans ?_
  refine (mjTo.step mjLw_1021 (s2 := (1022, [(3, .int i), (2, .ref 465), (1, .ref 1), (0, .ref 0)], [.int i, .ref 0, .int x1, .ref 465, .int r], h1)) fun _ => rfl).trans ?_
  refine (mjTo.step mjLw_1022 (s2 := (1023, [(3, .int i), (2, .ref 465), (1, .ref 1), (0, .ref 0)], [.int (Int32.ofInt 2), .int i, .ref 0, .int x1, .ref 465, .int r], h1)) fun _ => rfl).trans ?_
  refine (mjTo.step mjLw_1023 (s2 := (1024, [(3, .int i), (2, .ref 465), (1, .ref 1), (0, .ref 0)], [.int (i + (Int32.ofInt 2)), .ref 0, .int x1, .ref 465, .int r], h1)) fun _ => rfl).trans ?_
  refine (mjTo.sald (xs := scr) mjLw_1024 rfl e2).trans ?_
  refine (mjTo.step mjLw_1025 (s2 := (1026, [(3, .int i), (2, .ref 465), (1, .ref 1), (0, .ref 0)], [.ref 0, .int x2, .int x1, .ref 465, .int r], h1)) fun _ => rfl).trans ?_
  refine (mjTo.step mjLw_1026 (s2 := (1027, [(3, .int i), (2, .ref 465), (1, .ref 1), (0, .ref 0)], [.int i, .ref 0, .int x2, .int x1, .ref 465, .int r], h1)) fun _ => rfl).trans ?_
  refine (mjTo.step mjLw_1027 (s2 := (1028, [(3, .int i), (2, .ref 465), (1, .ref 1), (0, .ref 0)], [.int (Int32.ofInt 3), .int i, .ref 0, .int x2, .int x1, .ref 465, .int r], h1)) fun _ => rfl).trans ?_
  refine (mjTo.step mjLw_1028 (s2 := (1029, [(3, .int i), (2, .ref 465), (1, .ref 1), (0, .ref 0)], [.int (i + (Int32.ofInt 3)), .ref 0, .int x2, .int x1, .ref 465, .int r], h1)) fun _ => rfl).trans ?_
  refine (mjTo.sald (xs := scr) mjLw_1029 rfl e3).trans ?_
  refine (mjTo.virt (as := [.int x1, .int x2, .int x3]) (r := [.int r]) (v := some (.int r)) (h' := h2) mjLw_1030 rfl k1 (Nat.le_of_ble_eq_true rfl) (hm)).trans ?_
  refine (mjTo.icT (c := .eq) (x := r) (y := r) (n := 1455) mjLw_1033 (decide_eq_true rfl) rfl).trans ?_
  exact mjTo.refl
set_option maxRecDepth 100000 in
theorem law_case_24 {scr : List Int32} {i  : Int32} {r : Int64} {h h1 h2 : mjH} {f0 f1 : List Value}  (hx : mjDoes 10 121 [.ref 1] h (some (.long r)) h1) (hm : mjDoes 10 227 [.ref 465] h1 (some (.long r)) h2) (k0 : h[0]? = some (.inl (10, f0))) (k1 : h1[464]? = some (.inl (11, f1))) : mjTo 10 4 (some scr) mjLt (1038, mjLl i, [], h) (1455, mjLl i, [], h2) := by
  refine (mjTo.step mjLw_1038 (s2 := (1039, [(3, .int i), (2, .ref 465), (1, .ref 1), (0, .ref 0)], [.ref 1], h)) fun _ => rfl).trans ?_
  refine (mjTo.virt (as := []) (r := []) (v := some (.long r)) (h' := h1) mjLw_1039 rfl k0 (Nat.le_of_ble_eq_true rfl) (hx)).trans ?_
  refine (mjTo.step mjLw_1042 (s2 := (1043, [(3, .int i), (2, .ref 465), (1, .ref 1), (0, .ref 0)], [.ref 465, .long r], h1)) fun _ => rfl).trans ?_
  refine (mjTo.virt (as := []) (r := [.long r]) (v := some (.long r)) (h' := h2) mjLw_1043 rfl k1 (Nat.le_of_ble_eq_true rfl) (hm)).trans ?_
  refine (mjTo.step mjLw_1046 (s2 := (1047, [(3, .int i), (2, .ref 465), (1, .ref 1), (0, .ref 0)], [.int (lg_cmp r r)], h2)) fun _ => rfl).trans ?_
  refine (mjTo.ifT (c := .eq) (x := (lg_cmp r r)) (n := 1455) mjLw_1047 (decide_eq_true (lg_cmp_self r)) rfl).trans ?_
  exact mjTo.refl
set_option maxRecDepth 100000 in
theorem law_case_25 {scr : List Int32} {i x1 x2 : Int32} {r : Int32} {h h1 h2 : mjH} {f0 f1 : List Value} (e1 : mjAt? scr (i + Int32.ofInt 1) = some x1) (e2 : mjAt? scr (i + Int32.ofInt 2) = some x2) (hx : mjDoes 10 122 [.ref 1, .int x1, .int x2] h (some (.int r)) h1) (hm : mjDoes 10 228 [.ref 465, .int x1, .int x2] h1 (some (.int r)) h2) (k0 : h[0]? = some (.inl (10, f0))) (k1 : h1[464]? = some (.inl (11, f1))) : mjTo 10 4 (some scr) mjLt (1052, mjLl i, [], h) (1455, mjLl i, [], h2) := by
  refine (mjTo.step mjLw_1052 (s2 := (1053, [(3, .int i), (2, .ref 465), (1, .ref 1), (0, .ref 0)], [.ref 1], h)) fun _ => rfl).trans ?_
  refine (mjTo.step mjLw_1053 (s2 := (1054, [(3, .int i), (2, .ref 465), (1, .ref 1), (0, .ref 0)], [.ref 0, .ref 1], h)) fun _ => rfl).trans ?_
  refine (mjTo.step mjLw_1054 (s2 := (1055, [(3, .int i), (2, .ref 465), (1, .ref 1), (0, .ref 0)], [.int i, .ref 0, .ref 1], h)) fun _ => rfl).trans ?_
  refine (mjTo.step mjLw_1055 (s2 := (1056, [(3, .int i), (2, .ref 465), (1, .ref 1), (0, .ref 0)], [.int (Int32.ofInt 1), .int i, .ref 0, .ref 1], h)) fun _ => rfl).trans ?_
  refine (mjTo.step mjLw_1056 (s2 := (1057, [(3, .int i), (2, .ref 465), (1, .ref 1), (0, .ref 0)], [.int (i + (Int32.ofInt 1)), .ref 0, .ref 1], h)) fun _ => rfl).trans ?_
  refine (mjTo.sald (xs := scr) mjLw_1057 rfl e1).trans ?_
  refine (mjTo.step mjLw_1058 (s2 := (1059, [(3, .int i), (2, .ref 465), (1, .ref 1), (0, .ref 0)], [.ref 0, .int x1, .ref 1], h)) fun _ => rfl).trans ?_
  refine (mjTo.step mjLw_1059 (s2 := (1060, [(3, .int i), (2, .ref 465), (1, .ref 1), (0, .ref 0)], [.int i, .ref 0, .int x1, .ref 1], h)) fun _ => rfl).trans ?_
  refine (mjTo.step mjLw_1060 (s2 := (1061, [(3, .int i), (2, .ref 465), (1, .ref 1), (0, .ref 0)], [.int (Int32.ofInt 2), .int i, .ref 0, .int x1, .ref 1], h)) fun _ => rfl).trans ?_
  refine (mjTo.step mjLw_1061 (s2 := (1062, [(3, .int i), (2, .ref 465), (1, .ref 1), (0, .ref 0)], [.int (i + (Int32.ofInt 2)), .ref 0, .int x1, .ref 1], h)) fun _ => rfl).trans ?_
  refine (mjTo.sald (xs := scr) mjLw_1062 rfl e2).trans ?_
  refine (mjTo.virt (as := [.int x1, .int x2]) (r := []) (v := some (.int r)) (h' := h1) mjLw_1063 rfl k0 (Nat.le_of_ble_eq_true rfl) (hx)).trans ?_
  refine (mjTo.step mjLw_1066 (s2 := (1067, [(3, .int i), (2, .ref 465), (1, .ref 1), (0, .ref 0)], [.ref 465, .int r], h1)) fun _ => rfl).trans ?_
  refine (mjTo.step mjLw_1067 (s2 := (1068, [(3, .int i), (2, .ref 465), (1, .ref 1), (0, .ref 0)], [.ref 0, .ref 465, .int r], h1)) fun _ => rfl).trans ?_
  refine (mjTo.step mjLw_1068 (s2 := (1069, [(3, .int i), (2, .ref 465), (1, .ref 1), (0, .ref 0)], [.int i, .ref 0, .ref 465, .int r], h1)) fun _ => rfl).trans ?_
  refine (mjTo.step mjLw_1069 (s2 := (1070, [(3, .int i), (2, .ref 465), (1, .ref 1), (0, .ref 0)], [.int (Int32.ofInt 1), .int i, .ref 0, .ref 465, .int r], h1)) fun _ => rfl).trans ?_
  refine (mjTo.step mjLw_1070 (s2 := (1071, [(3, .int i), (2, .ref 465), (1, .ref 1), (0, .ref 0)], [.int (i + (Int32.ofInt 1)), .ref 0, .ref 465, .int r], h1)) fun _ => rfl).trans ?_
  refine (mjTo.sald (xs := scr) mjLw_1071 rfl e1).trans ?_
  refine (mjTo.step mjLw_1072 (s2 := (1073, [(3, .int i), (2, .ref 465), (1, .ref 1), (0, .ref 0)], [.ref 0, .int x1, .ref 465, .int r], h1)) fun _ => rfl).trans ?_
  refine (mjTo.step mjLw_1073 (s2 := (1074, [(3, .int i), (2, .ref 465), (1, .ref 1), (0, .ref 0)], [.int i, .ref 0, .int x1, .ref 465, .int r], h1)) fun _ => rfl).trans ?_
  refine (mjTo.step mjLw_1074 (s2 := (1075, [(3, .int i), (2, .ref 465), (1, .ref 1), (0, .ref 0)], [.int (Int32.ofInt 2), .int i, .ref 0, .int x1, .ref 465, .int r], h1)) fun _ => rfl).trans ?_
  refine (mjTo.step mjLw_1075 (s2 := (1076, [(3, .int i), (2, .ref 465), (1, .ref 1), (0, .ref 0)], [.int (i + (Int32.ofInt 2)), .ref 0, .int x1, .ref 465, .int r], h1)) fun _ => rfl).trans ?_
  refine (mjTo.sald (xs := scr) mjLw_1076 rfl e2).trans ?_
  refine (mjTo.virt (as := [.int x1, .int x2]) (r := [.int r]) (v := some (.int r)) (h' := h2) mjLw_1077 rfl k1 (Nat.le_of_ble_eq_true rfl) (hm)).trans ?_
  refine (mjTo.icT (c := .eq) (x := r) (y := r) (n := 1455) mjLw_1080 (decide_eq_true rfl) rfl).trans ?_
  exact mjTo.refl
set_option maxRecDepth 100000 in
theorem law_case_26 {scr : List Int32} {i x1 : Int32} {r : Int32} {h h1 h2 : mjH} {f0 f1 : List Value} (e1 : mjAt? scr (i + Int32.ofInt 1) = some x1) (hx : mjDoes 10 126 [.ref 1, .int x1] h (some (.int r)) h1) (hm : mjDoes 10 229 [.ref 465, .int x1] h1 (some (.int r)) h2) (k0 : h[0]? = some (.inl (10, f0))) (k1 : h1[464]? = some (.inl (11, f1))) : mjTo 10 4 (some scr) mjLt (1085, mjLl i, [], h) (1455, mjLl i, [], h2) := by
  refine (mjTo.step mjLw_1085 (s2 := (1086, [(3, .int i), (2, .ref 465), (1, .ref 1), (0, .ref 0)], [.ref 1], h)) fun _ => rfl).trans ?_
  refine (mjTo.step mjLw_1086 (s2 := (1087, [(3, .int i), (2, .ref 465), (1, .ref 1), (0, .ref 0)], [.ref 0, .ref 1], h)) fun _ => rfl).trans ?_
  refine (mjTo.step mjLw_1087 (s2 := (1088, [(3, .int i), (2, .ref 465), (1, .ref 1), (0, .ref 0)], [.int i, .ref 0, .ref 1], h)) fun _ => rfl).trans ?_
  refine (mjTo.step mjLw_1088 (s2 := (1089, [(3, .int i), (2, .ref 465), (1, .ref 1), (0, .ref 0)], [.int (Int32.ofInt 1), .int i, .ref 0, .ref 1], h)) fun _ => rfl).trans ?_
  refine (mjTo.step mjLw_1089 (s2 := (1090, [(3, .int i), (2, .ref 465), (1, .ref 1), (0, .ref 0)], [.int (i + (Int32.ofInt 1)), .ref 0, .ref 1], h)) fun _ => rfl).trans ?_
  refine (mjTo.sald (xs := scr) mjLw_1090 rfl e1).trans ?_
  refine (mjTo.virt (as := [.int x1]) (r := []) (v := some (.int r)) (h' := h1) mjLw_1091 rfl k0 (Nat.le_of_ble_eq_true rfl) (hx)).trans ?_
  refine (mjTo.step mjLw_1094 (s2 := (1095, [(3, .int i), (2, .ref 465), (1, .ref 1), (0, .ref 0)], [.ref 465, .int r], h1)) fun _ => rfl).trans ?_
  refine (mjTo.step mjLw_1095 (s2 := (1096, [(3, .int i), (2, .ref 465), (1, .ref 1), (0, .ref 0)], [.ref 0, .ref 465, .int r], h1)) fun _ => rfl).trans ?_
  refine (mjTo.step mjLw_1096 (s2 := (1097, [(3, .int i), (2, .ref 465), (1, .ref 1), (0, .ref 0)], [.int i, .ref 0, .ref 465, .int r], h1)) fun _ => rfl).trans ?_
  refine (mjTo.step mjLw_1097 (s2 := (1098, [(3, .int i), (2, .ref 465), (1, .ref 1), (0, .ref 0)], [.int (Int32.ofInt 1), .int i, .ref 0, .ref 465, .int r], h1)) fun _ => rfl).trans ?_
  refine (mjTo.step mjLw_1098 (s2 := (1099, [(3, .int i), (2, .ref 465), (1, .ref 1), (0, .ref 0)], [.int (i + (Int32.ofInt 1)), .ref 0, .ref 465, .int r], h1)) fun _ => rfl).trans ?_
  refine (mjTo.sald (xs := scr) mjLw_1099 rfl e1).trans ?_
  refine (mjTo.virt (as := [.int x1]) (r := [.int r]) (v := some (.int r)) (h' := h2) mjLw_1100 rfl k1 (Nat.le_of_ble_eq_true rfl) (hm)).trans ?_
  refine (mjTo.icT (c := .eq) (x := r) (y := r) (n := 1455) mjLw_1103 (decide_eq_true rfl) rfl).trans ?_
  exact mjTo.refl
set_option maxRecDepth 100000 in
theorem law_case_27 {scr : List Int32} {i x1 : Int32} {r : Int32} {h h1 h2 : mjH} {f0 f1 : List Value} (e1 : mjAt? scr (i + Int32.ofInt 1) = some x1) (hx : mjDoes 10 139 [.ref 1, .int x1] h (some (.int r)) h1) (hm : mjDoes 10 242 [.ref 465, .int x1] h1 (some (.int r)) h2) (k0 : h[0]? = some (.inl (10, f0))) (k1 : h1[464]? = some (.inl (11, f1))) : mjTo 10 4 (some scr) mjLt (1108, mjLl i, [], h) (1455, mjLl i, [], h2) := by
  refine (mjTo.step mjLw_1108 (s2 := (1109, [(3, .int i), (2, .ref 465), (1, .ref 1), (0, .ref 0)], [.ref 1], h)) fun _ => rfl).trans ?_
  refine (mjTo.step mjLw_1109 (s2 := (1110, [(3, .int i), (2, .ref 465), (1, .ref 1), (0, .ref 0)], [.ref 0, .ref 1], h)) fun _ => rfl).trans ?_
  refine (mjTo.step mjLw_1110 (s2 := (1111, [(3, .int i), (2, .ref 465), (1, .ref 1), (0, .ref 0)], [.int i, .ref 0, .ref 1], h)) fun _ => rfl).trans ?_
  refine (mjTo.step mjLw_1111 (s2 := (1112, [(3, .int i), (2, .ref 465), (1, .ref 1), (0, .ref 0)], [.int (Int32.ofInt 1), .int i, .ref 0, .ref 1], h)) fun _ => rfl).trans ?_
  refine (mjTo.step mjLw_1112 (s2 := (1113, [(3, .int i), (2, .ref 465), (1, .ref 1), (0, .ref 0)], [.int (i + (Int32.ofInt 1)), .ref 0, .ref 1], h)) fun _ => rfl).trans ?_
  refine (mjTo.sald (xs := scr) mjLw_1113 rfl e1).trans ?_
  refine (mjTo.virt (as := [.int x1]) (r := []) (v := some (.int r)) (h' := h1) mjLw_1114 rfl k0 (Nat.le_of_ble_eq_true rfl) (hx)).trans ?_
  refine (mjTo.step mjLw_1117 (s2 := (1118, [(3, .int i), (2, .ref 465), (1, .ref 1), (0, .ref 0)], [.ref 465, .int r], h1)) fun _ => rfl).trans ?_
  refine (mjTo.step mjLw_1118 (s2 := (1119, [(3, .int i), (2, .ref 465), (1, .ref 1), (0, .ref 0)], [.ref 0, .ref 465, .int r], h1)) fun _ => rfl).trans ?_
  refine (mjTo.step mjLw_1119 (s2 := (1120, [(3, .int i), (2, .ref 465), (1, .ref 1), (0, .ref 0)], [.int i, .ref 0, .ref 465, .int r], h1)) fun _ => rfl).trans ?_
  refine (mjTo.step mjLw_1120 (s2 := (1121, [(3, .int i), (2, .ref 465), (1, .ref 1), (0, .ref 0)], [.int (Int32.ofInt 1), .int i, .ref 0, .ref 465, .int r], h1)) fun _ => rfl).trans ?_
  refine (mjTo.step mjLw_1121 (s2 := (1122, [(3, .int i), (2, .ref 465), (1, .ref 1), (0, .ref 0)], [.int (i + (Int32.ofInt 1)), .ref 0, .ref 465, .int r], h1)) fun _ => rfl).trans ?_
  refine (mjTo.sald (xs := scr) mjLw_1122 rfl e1).trans ?_
  refine (mjTo.virt (as := [.int x1]) (r := [.int r]) (v := some (.int r)) (h' := h2) mjLw_1123 rfl k1 (Nat.le_of_ble_eq_true rfl) (hm)).trans ?_
  refine (mjTo.icT (c := .eq) (x := r) (y := r) (n := 1455) mjLw_1126 (decide_eq_true rfl) rfl).trans ?_
  exact mjTo.refl
set_option maxRecDepth 100000 in
theorem law_case_28 {scr : List Int32} {i x1 : Int32} {r : Int32} {h h1 h2 : mjH} {f0 f1 : List Value} (e1 : mjAt? scr (i + Int32.ofInt 1) = some x1) (hx : mjDoes 10 140 [.ref 1, .int x1] h (some (.int r)) h1) (hm : mjDoes 10 243 [.ref 465, .int x1] h1 (some (.int r)) h2) (k0 : h[0]? = some (.inl (10, f0))) (k1 : h1[464]? = some (.inl (11, f1))) : mjTo 10 4 (some scr) mjLt (1131, mjLl i, [], h) (1455, mjLl i, [], h2) := by
  refine (mjTo.step mjLw_1131 (s2 := (1132, [(3, .int i), (2, .ref 465), (1, .ref 1), (0, .ref 0)], [.ref 1], h)) fun _ => rfl).trans ?_
  refine (mjTo.step mjLw_1132 (s2 := (1133, [(3, .int i), (2, .ref 465), (1, .ref 1), (0, .ref 0)], [.ref 0, .ref 1], h)) fun _ => rfl).trans ?_
  refine (mjTo.step mjLw_1133 (s2 := (1134, [(3, .int i), (2, .ref 465), (1, .ref 1), (0, .ref 0)], [.int i, .ref 0, .ref 1], h)) fun _ => rfl).trans ?_
  refine (mjTo.step mjLw_1134 (s2 := (1135, [(3, .int i), (2, .ref 465), (1, .ref 1), (0, .ref 0)], [.int (Int32.ofInt 1), .int i, .ref 0, .ref 1], h)) fun _ => rfl).trans ?_
  refine (mjTo.step mjLw_1135 (s2 := (1136, [(3, .int i), (2, .ref 465), (1, .ref 1), (0, .ref 0)], [.int (i + (Int32.ofInt 1)), .ref 0, .ref 1], h)) fun _ => rfl).trans ?_
  refine (mjTo.sald (xs := scr) mjLw_1136 rfl e1).trans ?_
  refine (mjTo.virt (as := [.int x1]) (r := []) (v := some (.int r)) (h' := h1) mjLw_1137 rfl k0 (Nat.le_of_ble_eq_true rfl) (hx)).trans ?_
  refine (mjTo.step mjLw_1140 (s2 := (1141, [(3, .int i), (2, .ref 465), (1, .ref 1), (0, .ref 0)], [.ref 465, .int r], h1)) fun _ => rfl).trans ?_
  refine (mjTo.step mjLw_1141 (s2 := (1142, [(3, .int i), (2, .ref 465), (1, .ref 1), (0, .ref 0)], [.ref 0, .ref 465, .int r], h1)) fun _ => rfl).trans ?_
  refine (mjTo.step mjLw_1142 (s2 := (1143, [(3, .int i), (2, .ref 465), (1, .ref 1), (0, .ref 0)], [.int i, .ref 0, .ref 465, .int r], h1)) fun _ => rfl).trans ?_
  refine (mjTo.step mjLw_1143 (s2 := (1144, [(3, .int i), (2, .ref 465), (1, .ref 1), (0, .ref 0)], [.int (Int32.ofInt 1), .int i, .ref 0, .ref 465, .int r], h1)) fun _ => rfl).trans ?_
  refine (mjTo.step mjLw_1144 (s2 := (1145, [(3, .int i), (2, .ref 465), (1, .ref 1), (0, .ref 0)], [.int (i + (Int32.ofInt 1)), .ref 0, .ref 465, .int r], h1)) fun _ => rfl).trans ?_
  refine (mjTo.sald (xs := scr) mjLw_1145 rfl e1).trans ?_
  refine (mjTo.virt (as := [.int x1]) (r := [.int r]) (v := some (.int r)) (h' := h2) mjLw_1146 rfl k1 (Nat.le_of_ble_eq_true rfl) (hm)).trans ?_
  refine (mjTo.icT (c := .eq) (x := r) (y := r) (n := 1455) mjLw_1149 (decide_eq_true rfl) rfl).trans ?_
  exact mjTo.refl
set_option maxRecDepth 100000 in
theorem law_case_29 {scr : List Int32} {i x1 x2 : Int32} {r : Int32} {h h1 h2 : mjH} {f0 f1 : List Value} (e1 : mjAt? scr (i + Int32.ofInt 1) = some x1) (e2 : mjAt? scr (i + Int32.ofInt 2) = some x2) (hx : mjDoes 10 141 [.ref 1, .int x1, .int x2] h (some (.int r)) h1) (hm : mjDoes 10 244 [.ref 465, .int x1, .int x2] h1 (some (.int r)) h2) (k0 : h[0]? = some (.inl (10, f0))) (k1 : h1[464]? = some (.inl (11, f1))) : mjTo 10 4 (some scr) mjLt (1154, mjLl i, [], h) (1455, mjLl i, [], h2) := by
  refine (mjTo.step mjLw_1154 (s2 := (1155, [(3, .int i), (2, .ref 465), (1, .ref 1), (0, .ref 0)], [.ref 1], h)) fun _ => rfl).trans ?_
  refine (mjTo.step mjLw_1155 (s2 := (1156, [(3, .int i), (2, .ref 465), (1, .ref 1), (0, .ref 0)], [.ref 0, .ref 1], h)) fun _ => rfl).trans ?_
  refine (mjTo.step mjLw_1156 (s2 := (1157, [(3, .int i), (2, .ref 465), (1, .ref 1), (0, .ref 0)], [.int i, .ref 0, .ref 1], h)) fun _ => rfl).trans ?_
  refine (mjTo.step mjLw_1157 (s2 := (1158, [(3, .int i), (2, .ref 465), (1, .ref 1), (0, .ref 0)], [.int (Int32.ofInt 1), .int i, .ref 0, .ref 1], h)) fun _ => rfl).trans ?_
  refine (mjTo.step mjLw_1158 (s2 := (1159, [(3, .int i), (2, .ref 465), (1, .ref 1), (0, .ref 0)], [.int (i + (Int32.ofInt 1)), .ref 0, .ref 1], h)) fun _ => rfl).trans ?_
  refine (mjTo.sald (xs := scr) mjLw_1159 rfl e1).trans ?_
  refine (mjTo.step mjLw_1160 (s2 := (1161, [(3, .int i), (2, .ref 465), (1, .ref 1), (0, .ref 0)], [.ref 0, .int x1, .ref 1], h)) fun _ => rfl).trans ?_
  refine (mjTo.step mjLw_1161 (s2 := (1162, [(3, .int i), (2, .ref 465), (1, .ref 1), (0, .ref 0)], [.int i, .ref 0, .int x1, .ref 1], h)) fun _ => rfl).trans ?_
  refine (mjTo.step mjLw_1162 (s2 := (1163, [(3, .int i), (2, .ref 465), (1, .ref 1), (0, .ref 0)], [.int (Int32.ofInt 2), .int i, .ref 0, .int x1, .ref 1], h)) fun _ => rfl).trans ?_
  refine (mjTo.step mjLw_1163 (s2 := (1164, [(3, .int i), (2, .ref 465), (1, .ref 1), (0, .ref 0)], [.int (i + (Int32.ofInt 2)), .ref 0, .int x1, .ref 1], h)) fun _ => rfl).trans ?_
  refine (mjTo.sald (xs := scr) mjLw_1164 rfl e2).trans ?_
  refine (mjTo.virt (as := [.int x1, .int x2]) (r := []) (v := some (.int r)) (h' := h1) mjLw_1165 rfl k0 (Nat.le_of_ble_eq_true rfl) (hx)).trans ?_
  refine (mjTo.step mjLw_1168 (s2 := (1169, [(3, .int i), (2, .ref 465), (1, .ref 1), (0, .ref 0)], [.ref 465, .int r], h1)) fun _ => rfl).trans ?_
  refine (mjTo.step mjLw_1169 (s2 := (1170, [(3, .int i), (2, .ref 465), (1, .ref 1), (0, .ref 0)], [.ref 0, .ref 465, .int r], h1)) fun _ => rfl).trans ?_
  refine (mjTo.step mjLw_1170 (s2 := (1171, [(3, .int i), (2, .ref 465), (1, .ref 1), (0, .ref 0)], [.int i, .ref 0, .ref 465, .int r], h1)) fun _ => rfl).trans ?_
  refine (mjTo.step mjLw_1171 (s2 := (1172, [(3, .int i), (2, .ref 465), (1, .ref 1), (0, .ref 0)], [.int (Int32.ofInt 1), .int i, .ref 0, .ref 465, .int r], h1)) fun _ => rfl).trans ?_
  refine (mjTo.step mjLw_1172 (s2 := (1173, [(3, .int i), (2, .ref 465), (1, .ref 1), (0, .ref 0)], [.int (i + (Int32.ofInt 1)), .ref 0, .ref 465, .int r], h1)) fun _ => rfl).trans ?_
  refine (mjTo.sald (xs := scr) mjLw_1173 rfl e1).trans ?_
  refine (mjTo.step mjLw_1174 (s2 := (1175, [(3, .int i), (2, .ref 465), (1, .ref 1), (0, .ref 0)], [.ref 0, .int x1, .ref 465, .int r], h1)) fun _ => rfl).trans ?_
  refine (mjTo.step mjLw_1175 (s2 := (1176, [(3, .int i), (2, .ref 465), (1, .ref 1), (0, .ref 0)], [.int i, .ref 0, .int x1, .ref 465, .int r], h1)) fun _ => rfl).trans ?_
  refine (mjTo.step mjLw_1176 (s2 := (1177, [(3, .int i), (2, .ref 465), (1, .ref 1), (0, .ref 0)], [.int (Int32.ofInt 2), .int i, .ref 0, .int x1, .ref 465, .int r], h1)) fun _ => rfl).trans ?_
  refine (mjTo.step mjLw_1177 (s2 := (1178, [(3, .int i), (2, .ref 465), (1, .ref 1), (0, .ref 0)], [.int (i + (Int32.ofInt 2)), .ref 0, .int x1, .ref 465, .int r], h1)) fun _ => rfl).trans ?_
  refine (mjTo.sald (xs := scr) mjLw_1178 rfl e2).trans ?_
  refine (mjTo.virt (as := [.int x1, .int x2]) (r := [.int r]) (v := some (.int r)) (h' := h2) mjLw_1179 rfl k1 (Nat.le_of_ble_eq_true rfl) (hm)).trans ?_
  refine (mjTo.icT (c := .eq) (x := r) (y := r) (n := 1455) mjLw_1182 (decide_eq_true rfl) rfl).trans ?_
  exact mjTo.refl
set_option maxRecDepth 100000 in
theorem law_case_30 {scr : List Int32} {i x1 x2 : Int32} {r : Int32} {h h1 h2 : mjH} {f0 f1 : List Value} (e1 : mjAt? scr (i + Int32.ofInt 1) = some x1) (e2 : mjAt? scr (i + Int32.ofInt 2) = some x2) (hx : mjDoes 10 144 [.ref 1, .int x1, .int x2] h (some (.int r)) h1) (hm : mjDoes 10 245 [.ref 465, .int x1, .int x2] h1 (some (.int r)) h2) (k0 : h[0]? = some (.inl (10, f0))) (k1 : h1[464]? = some (.inl (11, f1))) : mjTo 10 4 (some scr) mjLt (1187, mjLl i, [], h) (1455, mjLl i, [], h2) := by
  refine (mjTo.step mjLw_1187 (s2 := (1188, [(3, .int i), (2, .ref 465), (1, .ref 1), (0, .ref 0)], [.ref 1], h)) fun _ => rfl).trans ?_
  refine (mjTo.step mjLw_1188 (s2 := (1189, [(3, .int i), (2, .ref 465), (1, .ref 1), (0, .ref 0)], [.ref 0, .ref 1], h)) fun _ => rfl).trans ?_
  refine (mjTo.step mjLw_1189 (s2 := (1190, [(3, .int i), (2, .ref 465), (1, .ref 1), (0, .ref 0)], [.int i, .ref 0, .ref 1], h)) fun _ => rfl).trans ?_
  refine (mjTo.step mjLw_1190 (s2 := (1191, [(3, .int i), (2, .ref 465), (1, .ref 1), (0, .ref 0)], [.int (Int32.ofInt 1), .int i, .ref 0, .ref 1], h)) fun _ => rfl).trans ?_
  refine (mjTo.step mjLw_1191 (s2 := (1192, [(3, .int i), (2, .ref 465), (1, .ref 1), (0, .ref 0)], [.int (i + (Int32.ofInt 1)), .ref 0, .ref 1], h)) fun _ => rfl).trans ?_
  refine (mjTo.sald (xs := scr) mjLw_1192 rfl e1).trans ?_
  refine (mjTo.step mjLw_1193 (s2 := (1194, [(3, .int i), (2, .ref 465), (1, .ref 1), (0, .ref 0)], [.ref 0, .int x1, .ref 1], h)) fun _ => rfl).trans ?_
  refine (mjTo.step mjLw_1194 (s2 := (1195, [(3, .int i), (2, .ref 465), (1, .ref 1), (0, .ref 0)], [.int i, .ref 0, .int x1, .ref 1], h)) fun _ => rfl).trans ?_
  refine (mjTo.step mjLw_1195 (s2 := (1196, [(3, .int i), (2, .ref 465), (1, .ref 1), (0, .ref 0)], [.int (Int32.ofInt 2), .int i, .ref 0, .int x1, .ref 1], h)) fun _ => rfl).trans ?_
  refine (mjTo.step mjLw_1196 (s2 := (1197, [(3, .int i), (2, .ref 465), (1, .ref 1), (0, .ref 0)], [.int (i + (Int32.ofInt 2)), .ref 0, .int x1, .ref 1], h)) fun _ => rfl).trans ?_
  refine (mjTo.sald (xs := scr) mjLw_1197 rfl e2).trans ?_
  refine (mjTo.virt (as := [.int x1, .int x2]) (r := []) (v := some (.int r)) (h' := h1) mjLw_1198 rfl k0 (Nat.le_of_ble_eq_true rfl) (hx)).trans ?_
  refine (mjTo.step mjLw_1201 (s2 := (1202, [(3, .int i), (2, .ref 465), (1, .ref 1), (0, .ref 0)], [.ref 465, .int r], h1)) fun _ => rfl).trans ?_
  refine (mjTo.step mjLw_1202 (s2 := (1203, [(3, .int i), (2, .ref 465), (1, .ref 1), (0, .ref 0)], [.ref 0, .ref 465, .int r], h1)) fun _ => rfl).trans ?_
  refine (mjTo.step mjLw_1203 (s2 := (1204, [(3, .int i), (2, .ref 465), (1, .ref 1), (0, .ref 0)], [.int i, .ref 0, .ref 465, .int r], h1)) fun _ => rfl).trans ?_
  refine (mjTo.step mjLw_1204 (s2 := (1205, [(3, .int i), (2, .ref 465), (1, .ref 1), (0, .ref 0)], [.int (Int32.ofInt 1), .int i, .ref 0, .ref 465, .int r], h1)) fun _ => rfl).trans ?_
  refine (mjTo.step mjLw_1205 (s2 := (1206, [(3, .int i), (2, .ref 465), (1, .ref 1), (0, .ref 0)], [.int (i + (Int32.ofInt 1)), .ref 0, .ref 465, .int r], h1)) fun _ => rfl).trans ?_
  refine (mjTo.sald (xs := scr) mjLw_1206 rfl e1).trans ?_
  refine (mjTo.step mjLw_1207 (s2 := (1208, [(3, .int i), (2, .ref 465), (1, .ref 1), (0, .ref 0)], [.ref 0, .int x1, .ref 465, .int r], h1)) fun _ => rfl).trans ?_
  refine (mjTo.step mjLw_1208 (s2 := (1209, [(3, .int i), (2, .ref 465), (1, .ref 1), (0, .ref 0)], [.int i, .ref 0, .int x1, .ref 465, .int r], h1)) fun _ => rfl).trans ?_
  refine (mjTo.step mjLw_1209 (s2 := (1210, [(3, .int i), (2, .ref 465), (1, .ref 1), (0, .ref 0)], [.int (Int32.ofInt 2), .int i, .ref 0, .int x1, .ref 465, .int r], h1)) fun _ => rfl).trans ?_
  refine (mjTo.step mjLw_1210 (s2 := (1211, [(3, .int i), (2, .ref 465), (1, .ref 1), (0, .ref 0)], [.int (i + (Int32.ofInt 2)), .ref 0, .int x1, .ref 465, .int r], h1)) fun _ => rfl).trans ?_
  refine (mjTo.sald (xs := scr) mjLw_1211 rfl e2).trans ?_
  refine (mjTo.virt (as := [.int x1, .int x2]) (r := [.int r]) (v := some (.int r)) (h' := h2) mjLw_1212 rfl k1 (Nat.le_of_ble_eq_true rfl) (hm)).trans ?_
  refine (mjTo.icT (c := .eq) (x := r) (y := r) (n := 1455) mjLw_1215 (decide_eq_true rfl) rfl).trans ?_
  exact mjTo.refl
set_option maxRecDepth 100000 in
theorem law_case_31 {scr : List Int32} {i x1 : Int32} {r : Int32} {h h1 h2 : mjH} {f0 f1 : List Value} (e1 : mjAt? scr (i + Int32.ofInt 1) = some x1) (hx : mjDoes 10 146 [.ref 1, .int x1] h (some (.int r)) h1) (hm : mjDoes 10 246 [.ref 465, .int x1] h1 (some (.int r)) h2) (k0 : h[0]? = some (.inl (10, f0))) (k1 : h1[464]? = some (.inl (11, f1))) : mjTo 10 4 (some scr) mjLt (1220, mjLl i, [], h) (1455, mjLl i, [], h2) := by
  refine (mjTo.step mjLw_1220 (s2 := (1221, [(3, .int i), (2, .ref 465), (1, .ref 1), (0, .ref 0)], [.ref 1], h)) fun _ => rfl).trans ?_
  refine (mjTo.step mjLw_1221 (s2 := (1222, [(3, .int i), (2, .ref 465), (1, .ref 1), (0, .ref 0)], [.ref 0, .ref 1], h)) fun _ => rfl).trans ?_
  refine (mjTo.step mjLw_1222 (s2 := (1223, [(3, .int i), (2, .ref 465), (1, .ref 1), (0, .ref 0)], [.int i, .ref 0, .ref 1], h)) fun _ => rfl).trans ?_
  refine (mjTo.step mjLw_1223 (s2 := (1224, [(3, .int i), (2, .ref 465), (1, .ref 1), (0, .ref 0)], [.int (Int32.ofInt 1), .int i, .ref 0, .ref 1], h)) fun _ => rfl).trans ?_
  refine (mjTo.step mjLw_1224 (s2 := (1225, [(3, .int i), (2, .ref 465), (1, .ref 1), (0, .ref 0)], [.int (i + (Int32.ofInt 1)), .ref 0, .ref 1], h)) fun _ => rfl).trans ?_
  refine (mjTo.sald (xs := scr) mjLw_1225 rfl e1).trans ?_
  refine (mjTo.virt (as := [.int x1]) (r := []) (v := some (.int r)) (h' := h1) mjLw_1226 rfl k0 (Nat.le_of_ble_eq_true rfl) (hx)).trans ?_
  refine (mjTo.step mjLw_1229 (s2 := (1230, [(3, .int i), (2, .ref 465), (1, .ref 1), (0, .ref 0)], [.ref 465, .int r], h1)) fun _ => rfl).trans ?_
  refine (mjTo.step mjLw_1230 (s2 := (1231, [(3, .int i), (2, .ref 465), (1, .ref 1), (0, .ref 0)], [.ref 0, .ref 465, .int r], h1)) fun _ => rfl).trans ?_
  refine (mjTo.step mjLw_1231 (s2 := (1232, [(3, .int i), (2, .ref 465), (1, .ref 1), (0, .ref 0)], [.int i, .ref 0, .ref 465, .int r], h1)) fun _ => rfl).trans ?_
  refine (mjTo.step mjLw_1232 (s2 := (1233, [(3, .int i), (2, .ref 465), (1, .ref 1), (0, .ref 0)], [.int (Int32.ofInt 1), .int i, .ref 0, .ref 465, .int r], h1)) fun _ => rfl).trans ?_
  refine (mjTo.step mjLw_1233 (s2 := (1234, [(3, .int i), (2, .ref 465), (1, .ref 1), (0, .ref 0)], [.int (i + (Int32.ofInt 1)), .ref 0, .ref 465, .int r], h1)) fun _ => rfl).trans ?_
  refine (mjTo.sald (xs := scr) mjLw_1234 rfl e1).trans ?_
  refine (mjTo.virt (as := [.int x1]) (r := [.int r]) (v := some (.int r)) (h' := h2) mjLw_1235 rfl k1 (Nat.le_of_ble_eq_true rfl) (hm)).trans ?_
  refine (mjTo.icT (c := .eq) (x := r) (y := r) (n := 1455) mjLw_1238 (decide_eq_true rfl) rfl).trans ?_
  exact mjTo.refl
set_option maxRecDepth 100000 in
theorem law_case_32 {scr : List Int32} {i x1 : Int32} {r : Int32} {h h1 h2 : mjH} {f0 f1 : List Value} (e1 : mjAt? scr (i + Int32.ofInt 1) = some x1) (hx : mjDoes 10 149 [.ref 1, .int x1] h (some (.int r)) h1) (hm : mjDoes 10 248 [.ref 465, .int x1] h1 (some (.int r)) h2) (k0 : h[0]? = some (.inl (10, f0))) (k1 : h1[464]? = some (.inl (11, f1))) : mjTo 10 4 (some scr) mjLt (1243, mjLl i, [], h) (1455, mjLl i, [], h2) := by
  refine (mjTo.step mjLw_1243 (s2 := (1244, [(3, .int i), (2, .ref 465), (1, .ref 1), (0, .ref 0)], [.ref 1], h)) fun _ => rfl).trans ?_
  refine (mjTo.step mjLw_1244 (s2 := (1245, [(3, .int i), (2, .ref 465), (1, .ref 1), (0, .ref 0)], [.ref 0, .ref 1], h)) fun _ => rfl).trans ?_
  refine (mjTo.step mjLw_1245 (s2 := (1246, [(3, .int i), (2, .ref 465), (1, .ref 1), (0, .ref 0)], [.int i, .ref 0, .ref 1], h)) fun _ => rfl).trans ?_
  refine (mjTo.step mjLw_1246 (s2 := (1247, [(3, .int i), (2, .ref 465), (1, .ref 1), (0, .ref 0)], [.int (Int32.ofInt 1), .int i, .ref 0, .ref 1], h)) fun _ => rfl).trans ?_
  refine (mjTo.step mjLw_1247 (s2 := (1248, [(3, .int i), (2, .ref 465), (1, .ref 1), (0, .ref 0)], [.int (i + (Int32.ofInt 1)), .ref 0, .ref 1], h)) fun _ => rfl).trans ?_
  refine (mjTo.sald (xs := scr) mjLw_1248 rfl e1).trans ?_
  refine (mjTo.virt (as := [.int x1]) (r := []) (v := some (.int r)) (h' := h1) mjLw_1249 rfl k0 (Nat.le_of_ble_eq_true rfl) (hx)).trans ?_
  refine (mjTo.step mjLw_1252 (s2 := (1253, [(3, .int i), (2, .ref 465), (1, .ref 1), (0, .ref 0)], [.ref 465, .int r], h1)) fun _ => rfl).trans ?_
  refine (mjTo.step mjLw_1253 (s2 := (1254, [(3, .int i), (2, .ref 465), (1, .ref 1), (0, .ref 0)], [.ref 0, .ref 465, .int r], h1)) fun _ => rfl).trans ?_
  refine (mjTo.step mjLw_1254 (s2 := (1255, [(3, .int i), (2, .ref 465), (1, .ref 1), (0, .ref 0)], [.int i, .ref 0, .ref 465, .int r], h1)) fun _ => rfl).trans ?_
  refine (mjTo.step mjLw_1255 (s2 := (1256, [(3, .int i), (2, .ref 465), (1, .ref 1), (0, .ref 0)], [.int (Int32.ofInt 1), .int i, .ref 0, .ref 465, .int r], h1)) fun _ => rfl).trans ?_
  refine (mjTo.step mjLw_1256 (s2 := (1257, [(3, .int i), (2, .ref 465), (1, .ref 1), (0, .ref 0)], [.int (i + (Int32.ofInt 1)), .ref 0, .ref 465, .int r], h1)) fun _ => rfl).trans ?_
  refine (mjTo.sald (xs := scr) mjLw_1257 rfl e1).trans ?_
  refine (mjTo.virt (as := [.int x1]) (r := [.int r]) (v := some (.int r)) (h' := h2) mjLw_1258 rfl k1 (Nat.le_of_ble_eq_true rfl) (hm)).trans ?_
  refine (mjTo.icT (c := .eq) (x := r) (y := r) (n := 1455) mjLw_1261 (decide_eq_true rfl) rfl).trans ?_
  exact mjTo.refl
set_option maxRecDepth 100000 in
theorem law_case_33 {scr : List Int32} {i x1 : Int32} {r : Int32} {h h1 h2 : mjH} {f0 f1 : List Value} (e1 : mjAt? scr (i + Int32.ofInt 1) = some x1) (hx : mjDoes 10 151 [.ref 1, .int x1] h (some (.int r)) h1) (hm : mjDoes 10 249 [.ref 465, .int x1] h1 (some (.int r)) h2) (k0 : h[0]? = some (.inl (10, f0))) (k1 : h1[464]? = some (.inl (11, f1))) : mjTo 10 4 (some scr) mjLt (1266, mjLl i, [], h) (1455, mjLl i, [], h2) := by
  refine (mjTo.step mjLw_1266 (s2 := (1267, [(3, .int i), (2, .ref 465), (1, .ref 1), (0, .ref 0)], [.ref 1], h)) fun _ => rfl).trans ?_
  refine (mjTo.step mjLw_1267 (s2 := (1268, [(3, .int i), (2, .ref 465), (1, .ref 1), (0, .ref 0)], [.ref 0, .ref 1], h)) fun _ => rfl).trans ?_
  refine (mjTo.step mjLw_1268 (s2 := (1269, [(3, .int i), (2, .ref 465), (1, .ref 1), (0, .ref 0)], [.int i, .ref 0, .ref 1], h)) fun _ => rfl).trans ?_
  refine (mjTo.step mjLw_1269 (s2 := (1270, [(3, .int i), (2, .ref 465), (1, .ref 1), (0, .ref 0)], [.int (Int32.ofInt 1), .int i, .ref 0, .ref 1], h)) fun _ => rfl).trans ?_
  refine (mjTo.step mjLw_1270 (s2 := (1271, [(3, .int i), (2, .ref 465), (1, .ref 1), (0, .ref 0)], [.int (i + (Int32.ofInt 1)), .ref 0, .ref 1], h)) fun _ => rfl).trans ?_
  refine (mjTo.sald (xs := scr) mjLw_1271 rfl e1).trans ?_
  refine (mjTo.virt (as := [.int x1]) (r := []) (v := some (.int r)) (h' := h1) mjLw_1272 rfl k0 (Nat.le_of_ble_eq_true rfl) (hx)).trans ?_
  refine (mjTo.step mjLw_1275 (s2 := (1276, [(3, .int i), (2, .ref 465), (1, .ref 1), (0, .ref 0)], [.ref 465, .int r], h1)) fun _ => rfl).trans ?_
  refine (mjTo.step mjLw_1276 (s2 := (1277, [(3, .int i), (2, .ref 465), (1, .ref 1), (0, .ref 0)], [.ref 0, .ref 465, .int r], h1)) fun _ => rfl).trans ?_
  refine (mjTo.step mjLw_1277 (s2 := (1278, [(3, .int i), (2, .ref 465), (1, .ref 1), (0, .ref 0)], [.int i, .ref 0, .ref 465, .int r], h1)) fun _ => rfl).trans ?_
  refine (mjTo.step mjLw_1278 (s2 := (1279, [(3, .int i), (2, .ref 465), (1, .ref 1), (0, .ref 0)], [.int (Int32.ofInt 1), .int i, .ref 0, .ref 465, .int r], h1)) fun _ => rfl).trans ?_
  refine (mjTo.step mjLw_1279 (s2 := (1280, [(3, .int i), (2, .ref 465), (1, .ref 1), (0, .ref 0)], [.int (i + (Int32.ofInt 1)), .ref 0, .ref 465, .int r], h1)) fun _ => rfl).trans ?_
  refine (mjTo.sald (xs := scr) mjLw_1280 rfl e1).trans ?_
  refine (mjTo.virt (as := [.int x1]) (r := [.int r]) (v := some (.int r)) (h' := h2) mjLw_1281 rfl k1 (Nat.le_of_ble_eq_true rfl) (hm)).trans ?_
  refine (mjTo.icT (c := .eq) (x := r) (y := r) (n := 1455) mjLw_1284 (decide_eq_true rfl) rfl).trans ?_
  exact mjTo.refl
set_option maxRecDepth 100000 in
theorem law_case_34 {scr : List Int32} {i  : Int32} {r : Int32} {h h1 h2 : mjH} {f0 f1 : List Value}  (hx : mjDoes 10 152 [.ref 1] h (some (.int r)) h1) (hm : mjDoes 10 251 [.ref 465] h1 (some (.int r)) h2) (k0 : h[0]? = some (.inl (10, f0))) (k1 : h1[464]? = some (.inl (11, f1))) : mjTo 10 4 (some scr) mjLt (1289, mjLl i, [], h) (1455, mjLl i, [], h2) := by
  refine (mjTo.step mjLw_1289 (s2 := (1290, [(3, .int i), (2, .ref 465), (1, .ref 1), (0, .ref 0)], [.ref 1], h)) fun _ => rfl).trans ?_
  refine (mjTo.virt (as := []) (r := []) (v := some (.int r)) (h' := h1) mjLw_1290 rfl k0 (Nat.le_of_ble_eq_true rfl) (hx)).trans ?_
  refine (mjTo.step mjLw_1293 (s2 := (1294, [(3, .int i), (2, .ref 465), (1, .ref 1), (0, .ref 0)], [.ref 465, .int r], h1)) fun _ => rfl).trans ?_
  refine (mjTo.virt (as := []) (r := [.int r]) (v := some (.int r)) (h' := h2) mjLw_1294 rfl k1 (Nat.le_of_ble_eq_true rfl) (hm)).trans ?_
  refine (mjTo.icT (c := .eq) (x := r) (y := r) (n := 1455) mjLw_1297 (decide_eq_true rfl) rfl).trans ?_
  exact mjTo.refl
set_option maxRecDepth 100000 in
theorem law_case_35 {scr : List Int32} {i x1 : Int32} {r : Int32} {h h1 h2 : mjH} {f0 f1 : List Value} (e1 : mjAt? scr (i + Int32.ofInt 1) = some x1) (hx : mjDoes 10 153 [.ref 1, .int x1] h (some (.int r)) h1) (hm : mjDoes 10 252 [.ref 465, .int x1] h1 (some (.int r)) h2) (k0 : h[0]? = some (.inl (10, f0))) (k1 : h1[464]? = some (.inl (11, f1))) : mjTo 10 4 (some scr) mjLt (1302, mjLl i, [], h) (1455, mjLl i, [], h2) := by
  refine (mjTo.step mjLw_1302 (s2 := (1303, [(3, .int i), (2, .ref 465), (1, .ref 1), (0, .ref 0)], [.ref 1], h)) fun _ => rfl).trans ?_
  refine (mjTo.step mjLw_1303 (s2 := (1304, [(3, .int i), (2, .ref 465), (1, .ref 1), (0, .ref 0)], [.ref 0, .ref 1], h)) fun _ => rfl).trans ?_
  refine (mjTo.step mjLw_1304 (s2 := (1305, [(3, .int i), (2, .ref 465), (1, .ref 1), (0, .ref 0)], [.int i, .ref 0, .ref 1], h)) fun _ => rfl).trans ?_
  refine (mjTo.step mjLw_1305 (s2 := (1306, [(3, .int i), (2, .ref 465), (1, .ref 1), (0, .ref 0)], [.int (Int32.ofInt 1), .int i, .ref 0, .ref 1], h)) fun _ => rfl).trans ?_
  refine (mjTo.step mjLw_1306 (s2 := (1307, [(3, .int i), (2, .ref 465), (1, .ref 1), (0, .ref 0)], [.int (i + (Int32.ofInt 1)), .ref 0, .ref 1], h)) fun _ => rfl).trans ?_
  refine (mjTo.sald (xs := scr) mjLw_1307 rfl e1).trans ?_
  refine (mjTo.virt (as := [.int x1]) (r := []) (v := some (.int r)) (h' := h1) mjLw_1308 rfl k0 (Nat.le_of_ble_eq_true rfl) (hx)).trans ?_
  refine (mjTo.step mjLw_1311 (s2 := (1312, [(3, .int i), (2, .ref 465), (1, .ref 1), (0, .ref 0)], [.ref 465, .int r], h1)) fun _ => rfl).trans ?_
  refine (mjTo.step mjLw_1312 (s2 := (1313, [(3, .int i), (2, .ref 465), (1, .ref 1), (0, .ref 0)], [.ref 0, .ref 465, .int r], h1)) fun _ => rfl).trans ?_
  refine (mjTo.step mjLw_1313 (s2 := (1314, [(3, .int i), (2, .ref 465), (1, .ref 1), (0, .ref 0)], [.int i, .ref 0, .ref 465, .int r], h1)) fun _ => rfl).trans ?_
  refine (mjTo.step mjLw_1314 (s2 := (1315, [(3, .int i), (2, .ref 465), (1, .ref 1), (0, .ref 0)], [.int (Int32.ofInt 1), .int i, .ref 0, .ref 465, .int r], h1)) fun _ => rfl).trans ?_
  refine (mjTo.step mjLw_1315 (s2 := (1316, [(3, .int i), (2, .ref 465), (1, .ref 1), (0, .ref 0)], [.int (i + (Int32.ofInt 1)), .ref 0, .ref 465, .int r], h1)) fun _ => rfl).trans ?_
  refine (mjTo.sald (xs := scr) mjLw_1316 rfl e1).trans ?_
  refine (mjTo.virt (as := [.int x1]) (r := [.int r]) (v := some (.int r)) (h' := h2) mjLw_1317 rfl k1 (Nat.le_of_ble_eq_true rfl) (hm)).trans ?_
  refine (mjTo.icT (c := .eq) (x := r) (y := r) (n := 1455) mjLw_1320 (decide_eq_true rfl) rfl).trans ?_
  exact mjTo.refl
set_option maxRecDepth 100000 in
theorem law_case_36 {scr : List Int32} {i x1 : Int32} {r : Int32} {h h1 h2 : mjH} {f0 f1 : List Value} (e1 : mjAt? scr (i + Int32.ofInt 1) = some x1) (hx : mjDoes 10 155 [.ref 1, .int x1] h (some (.int r)) h1) (hm : mjDoes 10 253 [.ref 465, .int x1] h1 (some (.int r)) h2) (k0 : h[0]? = some (.inl (10, f0))) (k1 : h1[464]? = some (.inl (11, f1))) : mjTo 10 4 (some scr) mjLt (1325, mjLl i, [], h) (1455, mjLl i, [], h2) := by
  refine (mjTo.step mjLw_1325 (s2 := (1326, [(3, .int i), (2, .ref 465), (1, .ref 1), (0, .ref 0)], [.ref 1], h)) fun _ => rfl).trans ?_
  refine (mjTo.step mjLw_1326 (s2 := (1327, [(3, .int i), (2, .ref 465), (1, .ref 1), (0, .ref 0)], [.ref 0, .ref 1], h)) fun _ => rfl).trans ?_
  refine (mjTo.step mjLw_1327 (s2 := (1328, [(3, .int i), (2, .ref 465), (1, .ref 1), (0, .ref 0)], [.int i, .ref 0, .ref 1], h)) fun _ => rfl).trans ?_
  refine (mjTo.step mjLw_1328 (s2 := (1329, [(3, .int i), (2, .ref 465), (1, .ref 1), (0, .ref 0)], [.int (Int32.ofInt 1), .int i, .ref 0, .ref 1], h)) fun _ => rfl).trans ?_
  refine (mjTo.step mjLw_1329 (s2 := (1330, [(3, .int i), (2, .ref 465), (1, .ref 1), (0, .ref 0)], [.int (i + (Int32.ofInt 1)), .ref 0, .ref 1], h)) fun _ => rfl).trans ?_
  refine (mjTo.sald (xs := scr) mjLw_1330 rfl e1).trans ?_
  refine (mjTo.virt (as := [.int x1]) (r := []) (v := some (.int r)) (h' := h1) mjLw_1331 rfl k0 (Nat.le_of_ble_eq_true rfl) (hx)).trans ?_
  refine (mjTo.step mjLw_1334 (s2 := (1335, [(3, .int i), (2, .ref 465), (1, .ref 1), (0, .ref 0)], [.ref 465, .int r], h1)) fun _ => rfl).trans ?_
  refine (mjTo.step mjLw_1335 (s2 := (1336, [(3, .int i), (2, .ref 465), (1, .ref 1), (0, .ref 0)], [.ref 0, .ref 465, .int r], h1)) fun _ => rfl).trans ?_
  refine (mjTo.step mjLw_1336 (s2 := (1337, [(3, .int i), (2, .ref 465), (1, .ref 1), (0, .ref 0)], [.int i, .ref 0, .ref 465, .int r], h1)) fun _ => rfl).trans ?_
  refine (mjTo.step mjLw_1337 (s2 := (1338, [(3, .int i), (2, .ref 465), (1, .ref 1), (0, .ref 0)], [.int (Int32.ofInt 1), .int i, .ref 0, .ref 465, .int r], h1)) fun _ => rfl).trans ?_
  refine (mjTo.step mjLw_1338 (s2 := (1339, [(3, .int i), (2, .ref 465), (1, .ref 1), (0, .ref 0)], [.int (i + (Int32.ofInt 1)), .ref 0, .ref 465, .int r], h1)) fun _ => rfl).trans ?_
  refine (mjTo.sald (xs := scr) mjLw_1339 rfl e1).trans ?_
  refine (mjTo.virt (as := [.int x1]) (r := [.int r]) (v := some (.int r)) (h' := h2) mjLw_1340 rfl k1 (Nat.le_of_ble_eq_true rfl) (hm)).trans ?_
  refine (mjTo.icT (c := .eq) (x := r) (y := r) (n := 1455) mjLw_1343 (decide_eq_true rfl) rfl).trans ?_
  exact mjTo.refl
set_option maxRecDepth 100000 in
theorem law_case_37 {scr : List Int32} {i x1 x2 : Int32} {r : Int64} {h h1 h2 : mjH} {f0 f1 : List Value} (e1 : mjAt? scr (i + Int32.ofInt 1) = some x1) (e2 : mjAt? scr (i + Int32.ofInt 2) = some x2) (hx : mjDoes 10 157 [.ref 1, .int x1, .int x2] h (some (.long r)) h1) (hm : mjDoes 10 254 [.ref 465, .int x1, .int x2] h1 (some (.long r)) h2) (k0 : h[0]? = some (.inl (10, f0))) (k1 : h1[464]? = some (.inl (11, f1))) : mjTo 10 4 (some scr) mjLt (1348, mjLl i, [], h) (1455, mjLl i, [], h2) := by
  refine (mjTo.step mjLw_1348 (s2 := (1349, [(3, .int i), (2, .ref 465), (1, .ref 1), (0, .ref 0)], [.ref 1], h)) fun _ => rfl).trans ?_
  refine (mjTo.step mjLw_1349 (s2 := (1350, [(3, .int i), (2, .ref 465), (1, .ref 1), (0, .ref 0)], [.ref 0, .ref 1], h)) fun _ => rfl).trans ?_
  refine (mjTo.step mjLw_1350 (s2 := (1351, [(3, .int i), (2, .ref 465), (1, .ref 1), (0, .ref 0)], [.int i, .ref 0, .ref 1], h)) fun _ => rfl).trans ?_
  refine (mjTo.step mjLw_1351 (s2 := (1352, [(3, .int i), (2, .ref 465), (1, .ref 1), (0, .ref 0)], [.int (Int32.ofInt 1), .int i, .ref 0, .ref 1], h)) fun _ => rfl).trans ?_
  refine (mjTo.step mjLw_1352 (s2 := (1353, [(3, .int i), (2, .ref 465), (1, .ref 1), (0, .ref 0)], [.int (i + (Int32.ofInt 1)), .ref 0, .ref 1], h)) fun _ => rfl).trans ?_
  refine (mjTo.sald (xs := scr) mjLw_1353 rfl e1).trans ?_
  refine (mjTo.step mjLw_1354 (s2 := (1355, [(3, .int i), (2, .ref 465), (1, .ref 1), (0, .ref 0)], [.ref 0, .int x1, .ref 1], h)) fun _ => rfl).trans ?_
  refine (mjTo.step mjLw_1355 (s2 := (1356, [(3, .int i), (2, .ref 465), (1, .ref 1), (0, .ref 0)], [.int i, .ref 0, .int x1, .ref 1], h)) fun _ => rfl).trans ?_
  refine (mjTo.step mjLw_1356 (s2 := (1357, [(3, .int i), (2, .ref 465), (1, .ref 1), (0, .ref 0)], [.int (Int32.ofInt 2), .int i, .ref 0, .int x1, .ref 1], h)) fun _ => rfl).trans ?_
  refine (mjTo.step mjLw_1357 (s2 := (1358, [(3, .int i), (2, .ref 465), (1, .ref 1), (0, .ref 0)], [.int (i + (Int32.ofInt 2)), .ref 0, .int x1, .ref 1], h)) fun _ => rfl).trans ?_
  refine (mjTo.sald (xs := scr) mjLw_1358 rfl e2).trans ?_
  refine (mjTo.virt (as := [.int x1, .int x2]) (r := []) (v := some (.long r)) (h' := h1) mjLw_1359 rfl k0 (Nat.le_of_ble_eq_true rfl) (hx)).trans ?_
  refine (mjTo.step mjLw_1362 (s2 := (1363, [(3, .int i), (2, .ref 465), (1, .ref 1), (0, .ref 0)], [.ref 465, .long r], h1)) fun _ => rfl).trans ?_
  refine (mjTo.step mjLw_1363 (s2 := (1364, [(3, .int i), (2, .ref 465), (1, .ref 1), (0, .ref 0)], [.ref 0, .ref 465, .long r], h1)) fun _ => rfl).trans ?_
  refine (mjTo.step mjLw_1364 (s2 := (1365, [(3, .int i), (2, .ref 465), (1, .ref 1), (0, .ref 0)], [.int i, .ref 0, .ref 465, .long r], h1)) fun _ => rfl).trans ?_
  refine (mjTo.step mjLw_1365 (s2 := (1366, [(3, .int i), (2, .ref 465), (1, .ref 1), (0, .ref 0)], [.int (Int32.ofInt 1), .int i, .ref 0, .ref 465, .long r], h1)) fun _ => rfl).trans ?_
  refine (mjTo.step mjLw_1366 (s2 := (1367, [(3, .int i), (2, .ref 465), (1, .ref 1), (0, .ref 0)], [.int (i + (Int32.ofInt 1)), .ref 0, .ref 465, .long r], h1)) fun _ => rfl).trans ?_
  refine (mjTo.sald (xs := scr) mjLw_1367 rfl e1).trans ?_
  refine (mjTo.step mjLw_1368 (s2 := (1369, [(3, .int i), (2, .ref 465), (1, .ref 1), (0, .ref 0)], [.ref 0, .int x1, .ref 465, .long r], h1)) fun _ => rfl).trans ?_
  refine (mjTo.step mjLw_1369 (s2 := (1370, [(3, .int i), (2, .ref 465), (1, .ref 1), (0, .ref 0)], [.int i, .ref 0, .int x1, .ref 465, .long r], h1)) fun _ => rfl).trans ?_
  refine (mjTo.step mjLw_1370 (s2 := (1371, [(3, .int i), (2, .ref 465), (1, .ref 1), (0, .ref 0)], [.int (Int32.ofInt 2), .int i, .ref 0, .int x1, .ref 465, .long r], h1)) fun _ => rfl).trans ?_
  refine (mjTo.step mjLw_1371 (s2 := (1372, [(3, .int i), (2, .ref 465), (1, .ref 1), (0, .ref 0)], [.int (i + (Int32.ofInt 2)), .ref 0, .int x1, .ref 465, .long r], h1)) fun _ => rfl).trans ?_
  refine (mjTo.sald (xs := scr) mjLw_1372 rfl e2).trans ?_
  refine (mjTo.virt (as := [.int x1, .int x2]) (r := [.long r]) (v := some (.long r)) (h' := h2) mjLw_1373 rfl k1 (Nat.le_of_ble_eq_true rfl) (hm)).trans ?_
  refine (mjTo.step mjLw_1376 (s2 := (1377, [(3, .int i), (2, .ref 465), (1, .ref 1), (0, .ref 0)], [.int (lg_cmp r r)], h2)) fun _ => rfl).trans ?_
  refine (mjTo.ifT (c := .eq) (x := (lg_cmp r r)) (n := 1455) mjLw_1377 (decide_eq_true (lg_cmp_self r)) rfl).trans ?_
  exact mjTo.refl
set_option maxRecDepth 100000 in
theorem law_case_38 {scr : List Int32} {i  : Int32} {r : Int32} {h h1 h2 : mjH} {f0 f1 : List Value}  (hx : mjDoes 10 159 [.ref 1] h (some (.int r)) h1) (hm : mjDoes 10 256 [.ref 465] h1 (some (.int r)) h2) (k0 : h[0]? = some (.inl (10, f0))) (k1 : h1[464]? = some (.inl (11, f1))) : mjTo 10 4 (some scr) mjLt (1382, mjLl i, [], h) (1455, mjLl i, [], h2) := by
  refine (mjTo.step mjLw_1382 (s2 := (1383, [(3, .int i), (2, .ref 465), (1, .ref 1), (0, .ref 0)], [.ref 1], h)) fun _ => rfl).trans ?_
  refine (mjTo.virt (as := []) (r := []) (v := some (.int r)) (h' := h1) mjLw_1383 rfl k0 (Nat.le_of_ble_eq_true rfl) (hx)).trans ?_
  refine (mjTo.step mjLw_1386 (s2 := (1387, [(3, .int i), (2, .ref 465), (1, .ref 1), (0, .ref 0)], [.ref 465, .int r], h1)) fun _ => rfl).trans ?_
  refine (mjTo.virt (as := []) (r := [.int r]) (v := some (.int r)) (h' := h2) mjLw_1387 rfl k1 (Nat.le_of_ble_eq_true rfl) (hm)).trans ?_
  refine (mjTo.icT (c := .eq) (x := r) (y := r) (n := 1455) mjLw_1390 (decide_eq_true rfl) rfl).trans ?_
  exact mjTo.refl
set_option maxRecDepth 100000 in
theorem law_case_39 {scr : List Int32} {i x1 : Int32} {r : Int32} {h h1 h2 : mjH} {f0 f1 : List Value} (e1 : mjAt? scr (i + Int32.ofInt 1) = some x1) (hx : mjDoes 10 160 [.ref 1, .int x1] h (some (.int r)) h1) (hm : mjDoes 10 257 [.ref 465, .int x1] h1 (some (.int r)) h2) (k0 : h[0]? = some (.inl (10, f0))) (k1 : h1[464]? = some (.inl (11, f1))) : mjTo 10 4 (some scr) mjLt (1395, mjLl i, [], h) (1455, mjLl i, [], h2) := by
  refine (mjTo.step mjLw_1395 (s2 := (1396, [(3, .int i), (2, .ref 465), (1, .ref 1), (0, .ref 0)], [.ref 1], h)) fun _ => rfl).trans ?_
  refine (mjTo.step mjLw_1396 (s2 := (1397, [(3, .int i), (2, .ref 465), (1, .ref 1), (0, .ref 0)], [.ref 0, .ref 1], h)) fun _ => rfl).trans ?_
  refine (mjTo.step mjLw_1397 (s2 := (1398, [(3, .int i), (2, .ref 465), (1, .ref 1), (0, .ref 0)], [.int i, .ref 0, .ref 1], h)) fun _ => rfl).trans ?_
  refine (mjTo.step mjLw_1398 (s2 := (1399, [(3, .int i), (2, .ref 465), (1, .ref 1), (0, .ref 0)], [.int (Int32.ofInt 1), .int i, .ref 0, .ref 1], h)) fun _ => rfl).trans ?_
  refine (mjTo.step mjLw_1399 (s2 := (1400, [(3, .int i), (2, .ref 465), (1, .ref 1), (0, .ref 0)], [.int (i + (Int32.ofInt 1)), .ref 0, .ref 1], h)) fun _ => rfl).trans ?_
  refine (mjTo.sald (xs := scr) mjLw_1400 rfl e1).trans ?_
  refine (mjTo.virt (as := [.int x1]) (r := []) (v := some (.int r)) (h' := h1) mjLw_1401 rfl k0 (Nat.le_of_ble_eq_true rfl) (hx)).trans ?_
  refine (mjTo.step mjLw_1404 (s2 := (1405, [(3, .int i), (2, .ref 465), (1, .ref 1), (0, .ref 0)], [.ref 465, .int r], h1)) fun _ => rfl).trans ?_
  refine (mjTo.step mjLw_1405 (s2 := (1406, [(3, .int i), (2, .ref 465), (1, .ref 1), (0, .ref 0)], [.ref 0, .ref 465, .int r], h1)) fun _ => rfl).trans ?_
  refine (mjTo.step mjLw_1406 (s2 := (1407, [(3, .int i), (2, .ref 465), (1, .ref 1), (0, .ref 0)], [.int i, .ref 0, .ref 465, .int r], h1)) fun _ => rfl).trans ?_
  refine (mjTo.step mjLw_1407 (s2 := (1408, [(3, .int i), (2, .ref 465), (1, .ref 1), (0, .ref 0)], [.int (Int32.ofInt 1), .int i, .ref 0, .ref 465, .int r], h1)) fun _ => rfl).trans ?_
  refine (mjTo.step mjLw_1408 (s2 := (1409, [(3, .int i), (2, .ref 465), (1, .ref 1), (0, .ref 0)], [.int (i + (Int32.ofInt 1)), .ref 0, .ref 465, .int r], h1)) fun _ => rfl).trans ?_
  refine (mjTo.sald (xs := scr) mjLw_1409 rfl e1).trans ?_
  refine (mjTo.virt (as := [.int x1]) (r := [.int r]) (v := some (.int r)) (h' := h2) mjLw_1410 rfl k1 (Nat.le_of_ble_eq_true rfl) (hm)).trans ?_
  refine (mjTo.icT (c := .eq) (x := r) (y := r) (n := 1455) mjLw_1413 (decide_eq_true rfl) rfl).trans ?_
  exact mjTo.refl
set_option maxRecDepth 100000 in
theorem law_case_40 {scr : List Int32} {i x1 : Int32} {r : Int32} {h h1 h2 : mjH} {f0 f1 : List Value} (e1 : mjAt? scr (i + Int32.ofInt 1) = some x1) (hx : mjDoes 10 161 [.ref 1, .int x1] h (some (.int r)) h1) (hm : mjDoes 10 258 [.ref 465, .int x1] h1 (some (.int r)) h2) (k0 : h[0]? = some (.inl (10, f0))) (k1 : h1[464]? = some (.inl (11, f1))) : mjTo 10 4 (some scr) mjLt (1418, mjLl i, [], h) (1455, mjLl i, [], h2) := by
  refine (mjTo.step mjLw_1418 (s2 := (1419, [(3, .int i), (2, .ref 465), (1, .ref 1), (0, .ref 0)], [.ref 1], h)) fun _ => rfl).trans ?_
  refine (mjTo.step mjLw_1419 (s2 := (1420, [(3, .int i), (2, .ref 465), (1, .ref 1), (0, .ref 0)], [.ref 0, .ref 1], h)) fun _ => rfl).trans ?_
  refine (mjTo.step mjLw_1420 (s2 := (1421, [(3, .int i), (2, .ref 465), (1, .ref 1), (0, .ref 0)], [.int i, .ref 0, .ref 1], h)) fun _ => rfl).trans ?_
  refine (mjTo.step mjLw_1421 (s2 := (1422, [(3, .int i), (2, .ref 465), (1, .ref 1), (0, .ref 0)], [.int (Int32.ofInt 1), .int i, .ref 0, .ref 1], h)) fun _ => rfl).trans ?_
  refine (mjTo.step mjLw_1422 (s2 := (1423, [(3, .int i), (2, .ref 465), (1, .ref 1), (0, .ref 0)], [.int (i + (Int32.ofInt 1)), .ref 0, .ref 1], h)) fun _ => rfl).trans ?_
  refine (mjTo.sald (xs := scr) mjLw_1423 rfl e1).trans ?_
  refine (mjTo.virt (as := [.int x1]) (r := []) (v := some (.int r)) (h' := h1) mjLw_1424 rfl k0 (Nat.le_of_ble_eq_true rfl) (hx)).trans ?_
  refine (mjTo.step mjLw_1427 (s2 := (1428, [(3, .int i), (2, .ref 465), (1, .ref 1), (0, .ref 0)], [.ref 465, .int r], h1)) fun _ => rfl).trans ?_
  refine (mjTo.step mjLw_1428 (s2 := (1429, [(3, .int i), (2, .ref 465), (1, .ref 1), (0, .ref 0)], [.ref 0, .ref 465, .int r], h1)) fun _ => rfl).trans ?_
  refine (mjTo.step mjLw_1429 (s2 := (1430, [(3, .int i), (2, .ref 465), (1, .ref 1), (0, .ref 0)], [.int i, .ref 0, .ref 465, .int r], h1)) fun _ => rfl).trans ?_
  refine (mjTo.step mjLw_1430 (s2 := (1431, [(3, .int i), (2, .ref 465), (1, .ref 1), (0, .ref 0)], [.int (Int32.ofInt 1), .int i, .ref 0, .ref 465, .int r], h1)) fun _ => rfl).trans ?_
  refine (mjTo.step mjLw_1431 (s2 := (1432, [(3, .int i), (2, .ref 465), (1, .ref 1), (0, .ref 0)], [.int (i + (Int32.ofInt 1)), .ref 0, .ref 465, .int r], h1)) fun _ => rfl).trans ?_
  refine (mjTo.sald (xs := scr) mjLw_1432 rfl e1).trans ?_
  refine (mjTo.virt (as := [.int x1]) (r := [.int r]) (v := some (.int r)) (h' := h2) mjLw_1433 rfl k1 (Nat.le_of_ble_eq_true rfl) (hm)).trans ?_
  refine (mjTo.icT (c := .eq) (x := r) (y := r) (n := 1455) mjLw_1436 (decide_eq_true rfl) rfl).trans ?_
  exact mjTo.refl
set_option maxRecDepth 100000 in
theorem law_case_41 {scr : List Int32} {i  : Int32} {r : Int64} {h h1 h2 : mjH} {f0 f1 : List Value}  (hx : mjDoes 10 164 [.ref 1] h (some (.long r)) h1) (hm : mjDoes 10 259 [.ref 465] h1 (some (.long r)) h2) (k0 : h[0]? = some (.inl (10, f0))) (k1 : h1[464]? = some (.inl (11, f1))) : mjTo 10 4 (some scr) mjLt (1441, mjLl i, [], h) (1455, mjLl i, [], h2) := by
  refine (mjTo.step mjLw_1441 (s2 := (1442, [(3, .int i), (2, .ref 465), (1, .ref 1), (0, .ref 0)], [.ref 1], h)) fun _ => rfl).trans ?_
  refine (mjTo.virt (as := []) (r := []) (v := some (.long r)) (h' := h1) mjLw_1442 rfl k0 (Nat.le_of_ble_eq_true rfl) (hx)).trans ?_
  refine (mjTo.step mjLw_1445 (s2 := (1446, [(3, .int i), (2, .ref 465), (1, .ref 1), (0, .ref 0)], [.ref 465, .long r], h1)) fun _ => rfl).trans ?_
  refine (mjTo.virt (as := []) (r := [.long r]) (v := some (.long r)) (h' := h2) mjLw_1446 rfl k1 (Nat.le_of_ble_eq_true rfl) (hm)).trans ?_
  refine (mjTo.step mjLw_1449 (s2 := (1450, [(3, .int i), (2, .ref 465), (1, .ref 1), (0, .ref 0)], [.int (lg_cmp r r)], h2)) fun _ => rfl).trans ?_
  refine (mjTo.ifT (c := .eq) (x := (lg_cmp r r)) (n := 1455) mjLw_1450 (decide_eq_true (lg_cmp_self r)) rfl).trans ?_
  exact mjTo.refl
