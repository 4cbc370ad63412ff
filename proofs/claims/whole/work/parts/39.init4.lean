/-! The reference's constructor: its row of words. -/
def g9l : List Int32 := [114, 97, 110, 107, 115, 32, 98, 97, 114, 115, 32, 105, 102, 32, 111, 114, 32, 97, 110, 100, 32, 110, 111, 116, 32, 118, 101, 114, 116, 101, 120, 32, 112, 97, 114, 116, 32, 107, 101, 121, 32, 115, 101, 101, 100, 32, 109, 111, 111, 100, 32, 100, 101, 103, 114, 101, 101, 32, 116, 105, 109, 101, 32, 100, 111, 110, 101, 32, 108, 97, 116, 101, 115, 116, 32, 107, 101, 121, 115, 32, 110, 117, 109, 98, 101, 114, 32, 97, 100, 100, 32, 116, 97, 107, 101, 32, 115, 105, 100, 101, 32, 98, 117, 105, 108, 100, 32, 116, 105, 109, 101, 115, 32]
def g9w (i : Nat) : Int32 := g9l.getD i 0
def m9 (M : gM) (a j : Nat) : gM := g_wm M (fun b i => if b = a + 6 ∧ i < j then g9w i else g_mi M b i) (g_ml M)
theorem m9_0 {M : gM} {a : Nat} : M = m9 M a 0 := by
  unfold m9 g_wm
  have e : (fun b i => if b = a + 6 ∧ i < 0 then g9w i else g_mi M b i) = g_mi M := by
    funext b i; rw [if_neg (by omega)]
  rw [e]; rfl
theorem m9_s {M : gM} {a j : Nat} {x : Int32} (h : g9w j = x) : g_wi (m9 M a j) (a + 6) j x = m9 M a (j + 1) := by
  subst h
  have e : g_u2 (fun b i => if b = a + 6 ∧ i < j then g9w i else g_mi M b i) (a + 6) j (g9w j) = (fun b i => if b = a + 6 ∧ i < j + 1 then g9w i else g_mi M b i) := by
    funext b i
    unfold g_u2
    dsimp only
    by_cases hb : b = a + 6
    · by_cases hi : i = j
      · subst hi; rw [if_pos ⟨hb, rfl⟩, if_pos (by omega)]
      · rw [if_neg (by omega)]
        by_cases h2 : i < j
        · rw [if_pos (by omega), if_pos (by omega)]
        · rw [if_neg (by omega), if_neg (by omega)]
    · rw [if_neg (by omega), if_neg (by omega), if_neg (by omega)]
  unfold m9
  rw [← e]; rfl
theorem k9 {M : gM} {a j b : Nat} {v : Option (Nat × Nat)} (h : g_kd M b = v) : g_kd (m9 M a j) b = v := h
theorem n9 {M : gM} {a j n : Nat} (h : g_nx M = n) : g_nx (m9 M a j) = n := h
theorem Bl.m9 {lo hi a j : Nat} {M : gM} (hc : a + 6 < lo ∨ hi ≤ a + 6) : Bl lo hi M (m9 M a j) := fun b h1 h2 => ⟨rfl, rfl, by funext i; show (if b = a + 6 ∧ i < j then g9w i else g_mi M b i) = _; rw [if_neg (by omega)], rfl⟩
theorem Fr.m9 {a j : Nat} {M M1 : gM} (h : Fr a M M1) : Fr a M (m9 M1 a j) := fun b hb => by
  obtain ⟨x1, x2, x3, x4⟩ := h b hb
  exact ⟨x1, x2, by rw [← x3]; funext i; show (if b = a + 6 ∧ i < j then g9w i else g_mi M1 b i) = _; rw [if_neg (by omega)], x4⟩
theorem Ow.m9 {a t n : Nat} {M : gM} (h : Ar M (a + 6) t n) : Ow (m9 M a 113) (a + 6) (fun _ => none) (fun i => if i < 113 then g9w i else 0) := ⟨h.2.2.2, fun i => by
  show (if a + 6 = a + 6 ∧ i < 113 then g9w i else g_mi M (a + 6) i) = (if i < 113 then g9w i else 0)
  rw [h.2.1 i]
  by_cases hi : i < 113
  · rw [if_pos ⟨rfl, hi⟩, if_pos hi]
  · rw [if_neg (by omega), if_neg hi]⟩
theorem s9 {X : gX} {d mc ms c z p1 p2 p3 p4 pc j a : Nat} {x i : Int32} {Q : Option Value → gM → Prop} {M : gM} {L : List (Nat × Value)} {st : List Value} (hk : g_kd M (a + 6) = some (101, 113)) (hd : decode (kB kX9_init) pc = .ok (.dup, 1)) (e1 : pc + 1 = p1) (h2 : ∀ {st : List Value} {M : gM}, Go X d mc ms kX9_init Q p2 L (.int i :: st) M c z → Go X d mc ms kX9_init Q p1 L st M c z) (h3 : ∀ {st : List Value} {M : gM}, Go X d mc ms kX9_init Q p3 L (.int x :: st) M c z → Go X d mc ms kX9_init Q p2 L st M c z) (hb : decode (kB kX9_init) p3 = .ok (.bastore, 1)) (e4 : p3 + 1 = p4) (hi : i.toNatClampNeg = j) (hj : vp_in i 113) (hx : narrow .byte (.int x) = .int x) (hw : g9w j = x) (h : Go X d mc ms kX9_init Q p4 L (.ref (a + 6) :: st) (m9 M a (j + 1)) c z) : Go X d mc ms kX9_init Q pc L (.ref (a + 6) :: st) (m9 M a j) c z := by
  refine g_dup p1 hd e1 rfl ?_
  refine h2 ?_
  refine h3 ?_
  refine h_bastore p4 j hb e4 hi (k9 hk) hj hx ?_
  rw [m9_s hw]
  exact h
set_option maxRecDepth 10000 in
theorem w9_0 {X : gX} {d mc ms c z a : Nat} {Q : Option Value → gM → Prop} {M : gM} {L : List (Nat × Value)} {st : List Value} (hk : g_kd M (a + 6) = some (101, 113)) (h : Go X d mc ms kX9_init Q 165 L (.ref (a + 6) :: st) (m9 M a 20) c z) : Go X d mc ms kX9_init Q 51 L (.ref (a + 6) :: st) (m9 M a 0) c z := by
  refine s9 (i := 0) (x := 114) hk dX9_init_51 rfl (fun q => g_iconst (0) 53 dX9_init_52 rfl rfl q) (fun q => g_bipush (114) 55 dX9_init_53 rfl rfl q) dX9_init_55 rfl rfl (vp_lit rfl) rfl rfl ?_
  refine s9 (i := 1) (x := 97) hk dX9_init_56 rfl (fun q => g_iconst (1) 58 dX9_init_57 rfl rfl q) (fun q => g_bipush (97) 60 dX9_init_58 rfl rfl q) dX9_init_60 rfl rfl (vp_lit rfl) rfl rfl ?_
  refine s9 (i := 2) (x := 110) hk dX9_init_61 rfl (fun q => g_iconst (2) 63 dX9_init_62 rfl rfl q) (fun q => g_bipush (110) 65 dX9_init_63 rfl rfl q) dX9_init_65 rfl rfl (vp_lit rfl) rfl rfl ?_
  refine s9 (i := 3) (x := 107) hk dX9_init_66 rfl (fun q => g_iconst (3) 68 dX9_init_67 rfl rfl q) (fun q => g_bipush (107) 70 dX9_init_68 rfl rfl q) dX9_init_70 rfl rfl (vp_lit rfl) rfl rfl ?_
  refine s9 (i := 4) (x := 115) hk dX9_init_71 rfl (fun q => g_iconst (4) 73 dX9_init_72 rfl rfl q) (fun q => g_bipush (115) 75 dX9_init_73 rfl rfl q) dX9_init_75 rfl rfl (vp_lit rfl) rfl rfl ?_
  refine s9 (i := 5) (x := 32) hk dX9_init_76 rfl (fun q => g_iconst (5) 78 dX9_init_77 rfl rfl q) (fun q => g_bipush (32) 80 dX9_init_78 rfl rfl q) dX9_init_80 rfl rfl (vp_lit rfl) rfl rfl ?_
  refine s9 (i := 6) (x := 98) hk dX9_init_81 rfl (fun q => g_bipush (6) 84 dX9_init_82 rfl rfl q) (fun q => g_bipush (98) 86 dX9_init_84 rfl rfl q) dX9_init_86 rfl rfl (vp_lit rfl) rfl rfl ?_
  refine s9 (i := 7) (x := 97) hk dX9_init_87 rfl (fun q => g_bipush (7) 90 dX9_init_88 rfl rfl q) (fun q => g_bipush (97) 92 dX9_init_90 rfl rfl q) dX9_init_92 rfl rfl (vp_lit rfl) rfl rfl ?_
  refine s9 (i := 8) (x := 114) hk dX9_init_93 rfl (fun q => g_bipush (8) 96 dX9_init_94 rfl rfl q) (fun q => g_bipush (114) 98 dX9_init_96 rfl rfl q) dX9_init_98 rfl rfl (vp_lit rfl) rfl rfl ?_
  refine s9 (i := 9) (x := 115) hk dX9_init_99 rfl (fun q => g_bipush (9) 102 dX9_init_100 rfl rfl q) (fun q => g_bipush (115) 104 dX9_init_102 rfl rfl q) dX9_init_104 rfl rfl (vp_lit rfl) rfl rfl ?_
  refine s9 (i := 10) (x := 32) hk dX9_init_105 rfl (fun q => g_bipush (10) 108 dX9_init_106 rfl rfl q) (fun q => g_bipush (32) 110 dX9_init_108 rfl rfl q) dX9_init_110 rfl rfl (vp_lit rfl) rfl rfl ?_
  refine s9 (i := 11) (x := 105) hk dX9_init_111 rfl (fun q => g_bipush (11) 114 dX9_init_112 rfl rfl q) (fun q => g_bipush (105) 116 dX9_init_114 rfl rfl q) dX9_init_116 rfl rfl (vp_lit rfl) rfl rfl ?_
  refine s9 (i := 12) (x := 102) hk dX9_init_117 rfl (fun q => g_bipush (12) 120 dX9_init_118 rfl rfl q) (fun q => g_bipush (102) 122 dX9_init_120 rfl rfl q) dX9_init_122 rfl rfl (vp_lit rfl) rfl rfl ?_
  refine s9 (i := 13) (x := 32) hk dX9_init_123 rfl (fun q => g_bipush (13) 126 dX9_init_124 rfl rfl q) (fun q => g_bipush (32) 128 dX9_init_126 rfl rfl q) dX9_init_128 rfl rfl (vp_lit rfl) rfl rfl ?_
  refine s9 (i := 14) (x := 111) hk dX9_init_129 rfl (fun q => g_bipush (14) 132 dX9_init_130 rfl rfl q) (fun q => g_bipush (111) 134 dX9_init_132 rfl rfl q) dX9_init_134 rfl rfl (vp_lit rfl) rfl rfl ?_
  refine s9 (i := 15) (x := 114) hk dX9_init_135 rfl (fun q => g_bipush (15) 138 dX9_init_136 rfl rfl q) (fun q => g_bipush (114) 140 dX9_init_138 rfl rfl q) dX9_init_140 rfl rfl (vp_lit rfl) rfl rfl ?_
  refine s9 (i := 16) (x := 32) hk dX9_init_141 rfl (fun q => g_bipush (16) 144 dX9_init_142 rfl rfl q) (fun q => g_bipush (32) 146 dX9_init_144 rfl rfl q) dX9_init_146 rfl rfl (vp_lit rfl) rfl rfl ?_
  refine s9 (i := 17) (x := 97) hk dX9_init_147 rfl (fun q => g_bipush (17) 150 dX9_init_148 rfl rfl q) (fun q => g_bipush (97) 152 dX9_init_150 rfl rfl q) dX9_init_152 rfl rfl (vp_lit rfl) rfl rfl ?_
  refine s9 (i := 18) (x := 110) hk dX9_init_153 rfl (fun q => g_bipush (18) 156 dX9_init_154 rfl rfl q) (fun q => g_bipush (110) 158 dX9_init_156 rfl rfl q) dX9_init_158 rfl rfl (vp_lit rfl) rfl rfl ?_
  refine s9 (i := 19) (x := 100) hk dX9_init_159 rfl (fun q => g_bipush (19) 162 dX9_init_160 rfl rfl q) (fun q => g_bipush (100) 164 dX9_init_162 rfl rfl q) dX9_init_164 rfl rfl (vp_lit rfl) rfl rfl ?_
  exact h
set_option maxRecDepth 10000 in
theorem w9_20 {X : gX} {d mc ms c z a : Nat} {Q : Option Value → gM → Prop} {M : gM} {L : List (Nat × Value)} {st : List Value} (hk : g_kd M (a + 6) = some (101, 113)) (h : Go X d mc ms kX9_init Q 285 L (.ref (a + 6) :: st) (m9 M a 40) c z) : Go X d mc ms kX9_init Q 165 L (.ref (a + 6) :: st) (m9 M a 20) c z := by
  refine s9 (i := 20) (x := 32) hk dX9_init_165 rfl (fun q => g_bipush (20) 168 dX9_init_166 rfl rfl q) (fun q => g_bipush (32) 170 dX9_init_168 rfl rfl q) dX9_init_170 rfl rfl (vp_lit rfl) rfl rfl ?_
  refine s9 (i := 21) (x := 110) hk dX9_init_171 rfl (fun q => g_bipush (21) 174 dX9_init_172 rfl rfl q) (fun q => g_bipush (110) 176 dX9_init_174 rfl rfl q) dX9_init_176 rfl rfl (vp_lit rfl) rfl rfl ?_
  refine s9 (i := 22) (x := 111) hk dX9_init_177 rfl (fun q => g_bipush (22) 180 dX9_init_178 rfl rfl q) (fun q => g_bipush (111) 182 dX9_init_180 rfl rfl q) dX9_init_182 rfl rfl (vp_lit rfl) rfl rfl ?_
  refine s9 (i := 23) (x := 116) hk dX9_init_183 rfl (fun q => g_bipush (23) 186 dX9_init_184 rfl rfl q) (fun q => g_bipush (116) 188 dX9_init_186 rfl rfl q) dX9_init_188 rfl rfl (vp_lit rfl) rfl rfl ?_
  refine s9 (i := 24) (x := 32) hk dX9_init_189 rfl (fun q => g_bipush (24) 192 dX9_init_190 rfl rfl q) (fun q => g_bipush (32) 194 dX9_init_192 rfl rfl q) dX9_init_194 rfl rfl (vp_lit rfl) rfl rfl ?_
  refine s9 (i := 25) (x := 118) hk dX9_init_195 rfl (fun q => g_bipush (25) 198 dX9_init_196 rfl rfl q) (fun q => g_bipush (118) 200 dX9_init_198 rfl rfl q) dX9_init_200 rfl rfl (vp_lit rfl) rfl rfl ?_
  refine s9 (i := 26) (x := 101) hk dX9_init_201 rfl (fun q => g_bipush (26) 204 dX9_init_202 rfl rfl q) (fun q => g_bipush (101) 206 dX9_init_204 rfl rfl q) dX9_init_206 rfl rfl (vp_lit rfl) rfl rfl ?_
  refine s9 (i := 27) (x := 114) hk dX9_init_207 rfl (fun q => g_bipush (27) 210 dX9_init_208 rfl rfl q) (fun q => g_bipush (114) 212 dX9_init_210 rfl rfl q) dX9_init_212 rfl rfl (vp_lit rfl) rfl rfl ?_
  refine s9 (i := 28) (x := 116) hk dX9_init_213 rfl (fun q => g_bipush (28) 216 dX9_init_214 rfl rfl q) (fun q => g_bipush (116) 218 dX9_init_216 rfl rfl q) dX9_init_218 rfl rfl (vp_lit rfl) rfl rfl ?_
  refine s9 (i := 29) (x := 101) hk dX9_init_219 rfl (fun q => g_bipush (29) 222 dX9_init_220 rfl rfl q) (fun q => g_bipush (101) 224 dX9_init_222 rfl rfl q) dX9_init_224 rfl rfl (vp_lit rfl) rfl rfl ?_
  refine s9 (i := 30) (x := 120) hk dX9_init_225 rfl (fun q => g_bipush (30) 228 dX9_init_226 rfl rfl q) (fun q => g_bipush (120) 230 dX9_init_228 rfl rfl q) dX9_init_230 rfl rfl (vp_lit rfl) rfl rfl ?_
  refine s9 (i := 31) (x := 32) hk dX9_init_231 rfl (fun q => g_bipush (31) 234 dX9_init_232 rfl rfl q) (fun q => g_bipush (32) 236 dX9_init_234 rfl rfl q) dX9_init_236 rfl rfl (vp_lit rfl) rfl rfl ?_
  refine s9 (i := 32) (x := 112) hk dX9_init_237 rfl (fun q => g_bipush (32) 240 dX9_init_238 rfl rfl q) (fun q => g_bipush (112) 242 dX9_init_240 rfl rfl q) dX9_init_242 rfl rfl (vp_lit rfl) rfl rfl ?_
  refine s9 (i := 33) (x := 97) hk dX9_init_243 rfl (fun q => g_bipush (33) 246 dX9_init_244 rfl rfl q) (fun q => g_bipush (97) 248 dX9_init_246 rfl rfl q) dX9_init_248 rfl rfl (vp_lit rfl) rfl rfl ?_
  refine s9 (i := 34) (x := 114) hk dX9_init_249 rfl (fun q => g_bipush (34) 252 dX9_init_250 rfl rfl q) (fun q => g_bipush (114) 254 dX9_init_252 rfl rfl q) dX9_init_254 rfl rfl (vp_lit rfl) rfl rfl ?_
  refine s9 (i := 35) (x := 116) hk dX9_init_255 rfl (fun q => g_bipush (35) 258 dX9_init_256 rfl rfl q) (fun q => g_bipush (116) 260 dX9_init_258 rfl rfl q) dX9_init_260 rfl rfl (vp_lit rfl) rfl rfl ?_
  refine s9 (i := 36) (x := 32) hk dX9_init_261 rfl (fun q => g_bipush (36) 264 dX9_init_262 rfl rfl q) (fun q => g_bipush (32) 266 dX9_init_264 rfl rfl q) dX9_init_266 rfl rfl (vp_lit rfl) rfl rfl ?_
  refine s9 (i := 37) (x := 107) hk dX9_init_267 rfl (fun q => g_bipush (37) 270 dX9_init_268 rfl rfl q) (fun q => g_bipush (107) 272 dX9_init_270 rfl rfl q) dX9_init_272 rfl rfl (vp_lit rfl) rfl rfl ?_
  refine s9 (i := 38) (x := 101) hk dX9_init_273 rfl (fun q => g_bipush (38) 276 dX9_init_274 rfl rfl q) (fun q => g_bipush (101) 278 dX9_init_276 rfl rfl q) dX9_init_278 rfl rfl (vp_lit rfl) rfl rfl ?_
  refine s9 (i := 39) (x := 121) hk dX9_init_279 rfl (fun q => g_bipush (39) 282 dX9_init_280 rfl rfl q) (fun q => g_bipush (121) 284 dX9_init_282 rfl rfl q) dX9_init_284 rfl rfl (vp_lit rfl) rfl rfl ?_
  exact h
set_option maxRecDepth 10000 in
theorem w9_40 {X : gX} {d mc ms c z a : Nat} {Q : Option Value → gM → Prop} {M : gM} {L : List (Nat × Value)} {st : List Value} (hk : g_kd M (a + 6) = some (101, 113)) (h : Go X d mc ms kX9_init Q 405 L (.ref (a + 6) :: st) (m9 M a 60) c z) : Go X d mc ms kX9_init Q 285 L (.ref (a + 6) :: st) (m9 M a 40) c z := by
  refine s9 (i := 40) (x := 32) hk dX9_init_285 rfl (fun q => g_bipush (40) 288 dX9_init_286 rfl rfl q) (fun q => g_bipush (32) 290 dX9_init_288 rfl rfl q) dX9_init_290 rfl rfl (vp_lit rfl) rfl rfl ?_
  refine s9 (i := 41) (x := 115) hk dX9_init_291 rfl (fun q => g_bipush (41) 294 dX9_init_292 rfl rfl q) (fun q => g_bipush (115) 296 dX9_init_294 rfl rfl q) dX9_init_296 rfl rfl (vp_lit rfl) rfl rfl ?_
  refine s9 (i := 42) (x := 101) hk dX9_init_297 rfl (fun q => g_bipush (42) 300 dX9_init_298 rfl rfl q) (fun q => g_bipush (101) 302 dX9_init_300 rfl rfl q) dX9_init_302 rfl rfl (vp_lit rfl) rfl rfl ?_
  refine s9 (i := 43) (x := 101) hk dX9_init_303 rfl (fun q => g_bipush (43) 306 dX9_init_304 rfl rfl q) (fun q => g_bipush (101) 308 dX9_init_306 rfl rfl q) dX9_init_308 rfl rfl (vp_lit rfl) rfl rfl ?_
  refine s9 (i := 44) (x := 100) hk dX9_init_309 rfl (fun q => g_bipush (44) 312 dX9_init_310 rfl rfl q) (fun q => g_bipush (100) 314 dX9_init_312 rfl rfl q) dX9_init_314 rfl rfl (vp_lit rfl) rfl rfl ?_
  refine s9 (i := 45) (x := 32) hk dX9_init_315 rfl (fun q => g_bipush (45) 318 dX9_init_316 rfl rfl q) (fun q => g_bipush (32) 320 dX9_init_318 rfl rfl q) dX9_init_320 rfl rfl (vp_lit rfl) rfl rfl ?_
  refine s9 (i := 46) (x := 109) hk dX9_init_321 rfl (fun q => g_bipush (46) 324 dX9_init_322 rfl rfl q) (fun q => g_bipush (109) 326 dX9_init_324 rfl rfl q) dX9_init_326 rfl rfl (vp_lit rfl) rfl rfl ?_
  refine s9 (i := 47) (x := 111) hk dX9_init_327 rfl (fun q => g_bipush (47) 330 dX9_init_328 rfl rfl q) (fun q => g_bipush (111) 332 dX9_init_330 rfl rfl q) dX9_init_332 rfl rfl (vp_lit rfl) rfl rfl ?_
  refine s9 (i := 48) (x := 111) hk dX9_init_333 rfl (fun q => g_bipush (48) 336 dX9_init_334 rfl rfl q) (fun q => g_bipush (111) 338 dX9_init_336 rfl rfl q) dX9_init_338 rfl rfl (vp_lit rfl) rfl rfl ?_
  refine s9 (i := 49) (x := 100) hk dX9_init_339 rfl (fun q => g_bipush (49) 342 dX9_init_340 rfl rfl q) (fun q => g_bipush (100) 344 dX9_init_342 rfl rfl q) dX9_init_344 rfl rfl (vp_lit rfl) rfl rfl ?_
  refine s9 (i := 50) (x := 32) hk dX9_init_345 rfl (fun q => g_bipush (50) 348 dX9_init_346 rfl rfl q) (fun q => g_bipush (32) 350 dX9_init_348 rfl rfl q) dX9_init_350 rfl rfl (vp_lit rfl) rfl rfl ?_
  refine s9 (i := 51) (x := 100) hk dX9_init_351 rfl (fun q => g_bipush (51) 354 dX9_init_352 rfl rfl q) (fun q => g_bipush (100) 356 dX9_init_354 rfl rfl q) dX9_init_356 rfl rfl (vp_lit rfl) rfl rfl ?_
  refine s9 (i := 52) (x := 101) hk dX9_init_357 rfl (fun q => g_bipush (52) 360 dX9_init_358 rfl rfl q) (fun q => g_bipush (101) 362 dX9_init_360 rfl rfl q) dX9_init_362 rfl rfl (vp_lit rfl) rfl rfl ?_
  refine s9 (i := 53) (x := 103) hk dX9_init_363 rfl (fun q => g_bipush (53) 366 dX9_init_364 rfl rfl q) (fun q => g_bipush (103) 368 dX9_init_366 rfl rfl q) dX9_init_368 rfl rfl (vp_lit rfl) rfl rfl ?_
  refine s9 (i := 54) (x := 114) hk dX9_init_369 rfl (fun q => g_bipush (54) 372 dX9_init_370 rfl rfl q) (fun q => g_bipush (114) 374 dX9_init_372 rfl rfl q) dX9_init_374 rfl rfl (vp_lit rfl) rfl rfl ?_
  refine s9 (i := 55) (x := 101) hk dX9_init_375 rfl (fun q => g_bipush (55) 378 dX9_init_376 rfl rfl q) (fun q => g_bipush (101) 380 dX9_init_378 rfl rfl q) dX9_init_380 rfl rfl (vp_lit rfl) rfl rfl ?_
  refine s9 (i := 56) (x := 101) hk dX9_init_381 rfl (fun q => g_bipush (56) 384 dX9_init_382 rfl rfl q) (fun q => g_bipush (101) 386 dX9_init_384 rfl rfl q) dX9_init_386 rfl rfl (vp_lit rfl) rfl rfl ?_
  refine s9 (i := 57) (x := 32) hk dX9_init_387 rfl (fun q => g_bipush (57) 390 dX9_init_388 rfl rfl q) (fun q => g_bipush (32) 392 dX9_init_390 rfl rfl q) dX9_init_392 rfl rfl (vp_lit rfl) rfl rfl ?_
  refine s9 (i := 58) (x := 116) hk dX9_init_393 rfl (fun q => g_bipush (58) 396 dX9_init_394 rfl rfl q) (fun q => g_bipush (116) 398 dX9_init_396 rfl rfl q) dX9_init_398 rfl rfl (vp_lit rfl) rfl rfl ?_
  refine s9 (i := 59) (x := 105) hk dX9_init_399 rfl (fun q => g_bipush (59) 402 dX9_init_400 rfl rfl q) (fun q => g_bipush (105) 404 dX9_init_402 rfl rfl q) dX9_init_404 rfl rfl (vp_lit rfl) rfl rfl ?_
  exact h
set_option maxRecDepth 10000 in
theorem w9_60 {X : gX} {d mc ms c z a : Nat} {Q : Option Value → gM → Prop} {M : gM} {L : List (Nat × Value)} {st : List Value} (hk : g_kd M (a + 6) = some (101, 113)) (h : Go X d mc ms kX9_init Q 525 L (.ref (a + 6) :: st) (m9 M a 80) c z) : Go X d mc ms kX9_init Q 405 L (.ref (a + 6) :: st) (m9 M a 60) c z := by
  refine s9 (i := 60) (x := 109) hk dX9_init_405 rfl (fun q => g_bipush (60) 408 dX9_init_406 rfl rfl q) (fun q => g_bipush (109) 410 dX9_init_408 rfl rfl q) dX9_init_410 rfl rfl (vp_lit rfl) rfl rfl ?_
  refine s9 (i := 61) (x := 101) hk dX9_init_411 rfl (fun q => g_bipush (61) 414 dX9_init_412 rfl rfl q) (fun q => g_bipush (101) 416 dX9_init_414 rfl rfl q) dX9_init_416 rfl rfl (vp_lit rfl) rfl rfl ?_
  refine s9 (i := 62) (x := 32) hk dX9_init_417 rfl (fun q => g_bipush (62) 420 dX9_init_418 rfl rfl q) (fun q => g_bipush (32) 422 dX9_init_420 rfl rfl q) dX9_init_422 rfl rfl (vp_lit rfl) rfl rfl ?_
  refine s9 (i := 63) (x := 100) hk dX9_init_423 rfl (fun q => g_bipush (63) 426 dX9_init_424 rfl rfl q) (fun q => g_bipush (100) 428 dX9_init_426 rfl rfl q) dX9_init_428 rfl rfl (vp_lit rfl) rfl rfl ?_
  refine s9 (i := 64) (x := 111) hk dX9_init_429 rfl (fun q => g_bipush (64) 432 dX9_init_430 rfl rfl q) (fun q => g_bipush (111) 434 dX9_init_432 rfl rfl q) dX9_init_434 rfl rfl (vp_lit rfl) rfl rfl ?_
  refine s9 (i := 65) (x := 110) hk dX9_init_435 rfl (fun q => g_bipush (65) 438 dX9_init_436 rfl rfl q) (fun q => g_bipush (110) 440 dX9_init_438 rfl rfl q) dX9_init_440 rfl rfl (vp_lit rfl) rfl rfl ?_
  refine s9 (i := 66) (x := 101) hk dX9_init_441 rfl (fun q => g_bipush (66) 444 dX9_init_442 rfl rfl q) (fun q => g_bipush (101) 446 dX9_init_444 rfl rfl q) dX9_init_446 rfl rfl (vp_lit rfl) rfl rfl ?_
  refine s9 (i := 67) (x := 32) hk dX9_init_447 rfl (fun q => g_bipush (67) 450 dX9_init_448 rfl rfl q) (fun q => g_bipush (32) 452 dX9_init_450 rfl rfl q) dX9_init_452 rfl rfl (vp_lit rfl) rfl rfl ?_
  refine s9 (i := 68) (x := 108) hk dX9_init_453 rfl (fun q => g_bipush (68) 456 dX9_init_454 rfl rfl q) (fun q => g_bipush (108) 458 dX9_init_456 rfl rfl q) dX9_init_458 rfl rfl (vp_lit rfl) rfl rfl ?_
  refine s9 (i := 69) (x := 97) hk dX9_init_459 rfl (fun q => g_bipush (69) 462 dX9_init_460 rfl rfl q) (fun q => g_bipush (97) 464 dX9_init_462 rfl rfl q) dX9_init_464 rfl rfl (vp_lit rfl) rfl rfl ?_
  refine s9 (i := 70) (x := 116) hk dX9_init_465 rfl (fun q => g_bipush (70) 468 dX9_init_466 rfl rfl q) (fun q => g_bipush (116) 470 dX9_init_468 rfl rfl q) dX9_init_470 rfl rfl (vp_lit rfl) rfl rfl ?_
  refine s9 (i := 71) (x := 101) hk dX9_init_471 rfl (fun q => g_bipush (71) 474 dX9_init_472 rfl rfl q) (fun q => g_bipush (101) 476 dX9_init_474 rfl rfl q) dX9_init_476 rfl rfl (vp_lit rfl) rfl rfl ?_
  refine s9 (i := 72) (x := 115) hk dX9_init_477 rfl (fun q => g_bipush (72) 480 dX9_init_478 rfl rfl q) (fun q => g_bipush (115) 482 dX9_init_480 rfl rfl q) dX9_init_482 rfl rfl (vp_lit rfl) rfl rfl ?_
  refine s9 (i := 73) (x := 116) hk dX9_init_483 rfl (fun q => g_bipush (73) 486 dX9_init_484 rfl rfl q) (fun q => g_bipush (116) 488 dX9_init_486 rfl rfl q) dX9_init_488 rfl rfl (vp_lit rfl) rfl rfl ?_
  refine s9 (i := 74) (x := 32) hk dX9_init_489 rfl (fun q => g_bipush (74) 492 dX9_init_490 rfl rfl q) (fun q => g_bipush (32) 494 dX9_init_492 rfl rfl q) dX9_init_494 rfl rfl (vp_lit rfl) rfl rfl ?_
  refine s9 (i := 75) (x := 107) hk dX9_init_495 rfl (fun q => g_bipush (75) 498 dX9_init_496 rfl rfl q) (fun q => g_bipush (107) 500 dX9_init_498 rfl rfl q) dX9_init_500 rfl rfl (vp_lit rfl) rfl rfl ?_
  refine s9 (i := 76) (x := 101) hk dX9_init_501 rfl (fun q => g_bipush (76) 504 dX9_init_502 rfl rfl q) (fun q => g_bipush (101) 506 dX9_init_504 rfl rfl q) dX9_init_506 rfl rfl (vp_lit rfl) rfl rfl ?_
  refine s9 (i := 77) (x := 121) hk dX9_init_507 rfl (fun q => g_bipush (77) 510 dX9_init_508 rfl rfl q) (fun q => g_bipush (121) 512 dX9_init_510 rfl rfl q) dX9_init_512 rfl rfl (vp_lit rfl) rfl rfl ?_
  refine s9 (i := 78) (x := 115) hk dX9_init_513 rfl (fun q => g_bipush (78) 516 dX9_init_514 rfl rfl q) (fun q => g_bipush (115) 518 dX9_init_516 rfl rfl q) dX9_init_518 rfl rfl (vp_lit rfl) rfl rfl ?_
  refine s9 (i := 79) (x := 32) hk dX9_init_519 rfl (fun q => g_bipush (79) 522 dX9_init_520 rfl rfl q) (fun q => g_bipush (32) 524 dX9_init_522 rfl rfl q) dX9_init_524 rfl rfl (vp_lit rfl) rfl rfl ?_
  exact h
set_option maxRecDepth 10000 in
theorem w9_80 {X : gX} {d mc ms c z a : Nat} {Q : Option Value → gM → Prop} {M : gM} {L : List (Nat × Value)} {st : List Value} (hk : g_kd M (a + 6) = some (101, 113)) (h : Go X d mc ms kX9_init Q 645 L (.ref (a + 6) :: st) (m9 M a 100) c z) : Go X d mc ms kX9_init Q 525 L (.ref (a + 6) :: st) (m9 M a 80) c z := by
  refine s9 (i := 80) (x := 110) hk dX9_init_525 rfl (fun q => g_bipush (80) 528 dX9_init_526 rfl rfl q) (fun q => g_bipush (110) 530 dX9_init_528 rfl rfl q) dX9_init_530 rfl rfl (vp_lit rfl) rfl rfl ?_
  refine s9 (i := 81) (x := 117) hk dX9_init_531 rfl (fun q => g_bipush (81) 534 dX9_init_532 rfl rfl q) (fun q => g_bipush (117) 536 dX9_init_534 rfl rfl q) dX9_init_536 rfl rfl (vp_lit rfl) rfl rfl ?_
  refine s9 (i := 82) (x := 109) hk dX9_init_537 rfl (fun q => g_bipush (82) 540 dX9_init_538 rfl rfl q) (fun q => g_bipush (109) 542 dX9_init_540 rfl rfl q) dX9_init_542 rfl rfl (vp_lit rfl) rfl rfl ?_
  refine s9 (i := 83) (x := 98) hk dX9_init_543 rfl (fun q => g_bipush (83) 546 dX9_init_544 rfl rfl q) (fun q => g_bipush (98) 548 dX9_init_546 rfl rfl q) dX9_init_548 rfl rfl (vp_lit rfl) rfl rfl ?_
  refine s9 (i := 84) (x := 101) hk dX9_init_549 rfl (fun q => g_bipush (84) 552 dX9_init_550 rfl rfl q) (fun q => g_bipush (101) 554 dX9_init_552 rfl rfl q) dX9_init_554 rfl rfl (vp_lit rfl) rfl rfl ?_
  refine s9 (i := 85) (x := 114) hk dX9_init_555 rfl (fun q => g_bipush (85) 558 dX9_init_556 rfl rfl q) (fun q => g_bipush (114) 560 dX9_init_558 rfl rfl q) dX9_init_560 rfl rfl (vp_lit rfl) rfl rfl ?_
  refine s9 (i := 86) (x := 32) hk dX9_init_561 rfl (fun q => g_bipush (86) 564 dX9_init_562 rfl rfl q) (fun q => g_bipush (32) 566 dX9_init_564 rfl rfl q) dX9_init_566 rfl rfl (vp_lit rfl) rfl rfl ?_
  refine s9 (i := 87) (x := 97) hk dX9_init_567 rfl (fun q => g_bipush (87) 570 dX9_init_568 rfl rfl q) (fun q => g_bipush (97) 572 dX9_init_570 rfl rfl q) dX9_init_572 rfl rfl (vp_lit rfl) rfl rfl ?_
  refine s9 (i := 88) (x := 100) hk dX9_init_573 rfl (fun q => g_bipush (88) 576 dX9_init_574 rfl rfl q) (fun q => g_bipush (100) 578 dX9_init_576 rfl rfl q) dX9_init_578 rfl rfl (vp_lit rfl) rfl rfl ?_
  refine s9 (i := 89) (x := 100) hk dX9_init_579 rfl (fun q => g_bipush (89) 582 dX9_init_580 rfl rfl q) (fun q => g_bipush (100) 584 dX9_init_582 rfl rfl q) dX9_init_584 rfl rfl (vp_lit rfl) rfl rfl ?_
  refine s9 (i := 90) (x := 32) hk dX9_init_585 rfl (fun q => g_bipush (90) 588 dX9_init_586 rfl rfl q) (fun q => g_bipush (32) 590 dX9_init_588 rfl rfl q) dX9_init_590 rfl rfl (vp_lit rfl) rfl rfl ?_
  refine s9 (i := 91) (x := 116) hk dX9_init_591 rfl (fun q => g_bipush (91) 594 dX9_init_592 rfl rfl q) (fun q => g_bipush (116) 596 dX9_init_594 rfl rfl q) dX9_init_596 rfl rfl (vp_lit rfl) rfl rfl ?_
  refine s9 (i := 92) (x := 97) hk dX9_init_597 rfl (fun q => g_bipush (92) 600 dX9_init_598 rfl rfl q) (fun q => g_bipush (97) 602 dX9_init_600 rfl rfl q) dX9_init_602 rfl rfl (vp_lit rfl) rfl rfl ?_
  refine s9 (i := 93) (x := 107) hk dX9_init_603 rfl (fun q => g_bipush (93) 606 dX9_init_604 rfl rfl q) (fun q => g_bipush (107) 608 dX9_init_606 rfl rfl q) dX9_init_608 rfl rfl (vp_lit rfl) rfl rfl ?_
  refine s9 (i := 94) (x := 101) hk dX9_init_609 rfl (fun q => g_bipush (94) 612 dX9_init_610 rfl rfl q) (fun q => g_bipush (101) 614 dX9_init_612 rfl rfl q) dX9_init_614 rfl rfl (vp_lit rfl) rfl rfl ?_
  refine s9 (i := 95) (x := 32) hk dX9_init_615 rfl (fun q => g_bipush (95) 618 dX9_init_616 rfl rfl q) (fun q => g_bipush (32) 620 dX9_init_618 rfl rfl q) dX9_init_620 rfl rfl (vp_lit rfl) rfl rfl ?_
  refine s9 (i := 96) (x := 115) hk dX9_init_621 rfl (fun q => g_bipush (96) 624 dX9_init_622 rfl rfl q) (fun q => g_bipush (115) 626 dX9_init_624 rfl rfl q) dX9_init_626 rfl rfl (vp_lit rfl) rfl rfl ?_
  refine s9 (i := 97) (x := 105) hk dX9_init_627 rfl (fun q => g_bipush (97) 630 dX9_init_628 rfl rfl q) (fun q => g_bipush (105) 632 dX9_init_630 rfl rfl q) dX9_init_632 rfl rfl (vp_lit rfl) rfl rfl ?_
  refine s9 (i := 98) (x := 100) hk dX9_init_633 rfl (fun q => g_bipush (98) 636 dX9_init_634 rfl rfl q) (fun q => g_bipush (100) 638 dX9_init_636 rfl rfl q) dX9_init_638 rfl rfl (vp_lit rfl) rfl rfl ?_
  refine s9 (i := 99) (x := 101) hk dX9_init_639 rfl (fun q => g_bipush (99) 642 dX9_init_640 rfl rfl q) (fun q => g_bipush (101) 644 dX9_init_642 rfl rfl q) dX9_init_644 rfl rfl (vp_lit rfl) rfl rfl ?_
  exact h
set_option maxRecDepth 10000 in
theorem w9_100 {X : gX} {d mc ms c z a : Nat} {Q : Option Value → gM → Prop} {M : gM} {L : List (Nat × Value)} {st : List Value} (hk : g_kd M (a + 6) = some (101, 113)) (h : Go X d mc ms kX9_init Q 723 L (.ref (a + 6) :: st) (m9 M a 113) c z) : Go X d mc ms kX9_init Q 645 L (.ref (a + 6) :: st) (m9 M a 100) c z := by
  refine s9 (i := 100) (x := 32) hk dX9_init_645 rfl (fun q => g_bipush (100) 648 dX9_init_646 rfl rfl q) (fun q => g_bipush (32) 650 dX9_init_648 rfl rfl q) dX9_init_650 rfl rfl (vp_lit rfl) rfl rfl ?_
  refine s9 (i := 101) (x := 98) hk dX9_init_651 rfl (fun q => g_bipush (101) 654 dX9_init_652 rfl rfl q) (fun q => g_bipush (98) 656 dX9_init_654 rfl rfl q) dX9_init_656 rfl rfl (vp_lit rfl) rfl rfl ?_
  refine s9 (i := 102) (x := 117) hk dX9_init_657 rfl (fun q => g_bipush (102) 660 dX9_init_658 rfl rfl q) (fun q => g_bipush (117) 662 dX9_init_660 rfl rfl q) dX9_init_662 rfl rfl (vp_lit rfl) rfl rfl ?_
  refine s9 (i := 103) (x := 105) hk dX9_init_663 rfl (fun q => g_bipush (103) 666 dX9_init_664 rfl rfl q) (fun q => g_bipush (105) 668 dX9_init_666 rfl rfl q) dX9_init_668 rfl rfl (vp_lit rfl) rfl rfl ?_
  refine s9 (i := 104) (x := 108) hk dX9_init_669 rfl (fun q => g_bipush (104) 672 dX9_init_670 rfl rfl q) (fun q => g_bipush (108) 674 dX9_init_672 rfl rfl q) dX9_init_674 rfl rfl (vp_lit rfl) rfl rfl ?_
  refine s9 (i := 105) (x := 100) hk dX9_init_675 rfl (fun q => g_bipush (105) 678 dX9_init_676 rfl rfl q) (fun q => g_bipush (100) 680 dX9_init_678 rfl rfl q) dX9_init_680 rfl rfl (vp_lit rfl) rfl rfl ?_
  refine s9 (i := 106) (x := 32) hk dX9_init_681 rfl (fun q => g_bipush (106) 684 dX9_init_682 rfl rfl q) (fun q => g_bipush (32) 686 dX9_init_684 rfl rfl q) dX9_init_686 rfl rfl (vp_lit rfl) rfl rfl ?_
  refine s9 (i := 107) (x := 116) hk dX9_init_687 rfl (fun q => g_bipush (107) 690 dX9_init_688 rfl rfl q) (fun q => g_bipush (116) 692 dX9_init_690 rfl rfl q) dX9_init_692 rfl rfl (vp_lit rfl) rfl rfl ?_
  refine s9 (i := 108) (x := 105) hk dX9_init_693 rfl (fun q => g_bipush (108) 696 dX9_init_694 rfl rfl q) (fun q => g_bipush (105) 698 dX9_init_696 rfl rfl q) dX9_init_698 rfl rfl (vp_lit rfl) rfl rfl ?_
  refine s9 (i := 109) (x := 109) hk dX9_init_699 rfl (fun q => g_bipush (109) 702 dX9_init_700 rfl rfl q) (fun q => g_bipush (109) 704 dX9_init_702 rfl rfl q) dX9_init_704 rfl rfl (vp_lit rfl) rfl rfl ?_
  refine s9 (i := 110) (x := 101) hk dX9_init_705 rfl (fun q => g_bipush (110) 708 dX9_init_706 rfl rfl q) (fun q => g_bipush (101) 710 dX9_init_708 rfl rfl q) dX9_init_710 rfl rfl (vp_lit rfl) rfl rfl ?_
  refine s9 (i := 111) (x := 115) hk dX9_init_711 rfl (fun q => g_bipush (111) 714 dX9_init_712 rfl rfl q) (fun q => g_bipush (115) 716 dX9_init_714 rfl rfl q) dX9_init_716 rfl rfl (vp_lit rfl) rfl rfl ?_
  refine s9 (i := 112) (x := 32) hk dX9_init_717 rfl (fun q => g_bipush (112) 720 dX9_init_718 rfl rfl q) (fun q => g_bipush (32) 722 dX9_init_720 rfl rfl q) dX9_init_722 rfl rfl (vp_lit rfl) rfl rfl ?_
  exact h
theorem w9seq {X : gX} {d mc ms c z a : Nat} {Q : Option Value → gM → Prop} {M : gM} {L : List (Nat × Value)} {st : List Value} (hk : g_kd M (a + 6) = some (101, 113)) (hc : c ≤ mc) (hz : z ≤ ms) (h : Go X d mc ms kX9_init Q 723 L (.ref (a + 6) :: st) (m9 M a 113) c z) : Go X d mc ms kX9_init Q 51 L (.ref (a + 6) :: st) M c z := by
  rw [show Go X d mc ms kX9_init Q 51 L (.ref (a + 6) :: st) M c z = Go X d mc ms kX9_init Q 51 L (.ref (a + 6) :: st) (m9 M a 0) c z from congrArg (fun q => Go X d mc ms kX9_init Q 51 L (.ref (a + 6) :: st) q c z) m9_0]
  exact w9_0 hk (w9_20 hk (w9_40 hk (w9_60 hk (w9_80 hk (w9_100 hk h)))))
/-- what X9_init makes -/
def G9 (M : gM) (a : Nat) : Prop := g_kd M a = some (9, 50) ∧ Ow M a (va_up (va_up (va_up (va_up (va_up (va_up (va_up (va_up (va_up (va_up (va_up (va_up (va_up (va_up (va_up (va_up (va_up (va_up (va_up (va_up (va_up (va_up (va_up (fun _ => none) 1 (some (a + 1))) 2 (some (a + 2))) 3 (some (a + 3))) 4 (some (a + 4))) 5 (some (a + 5))) 7 (some (a + 6))) 11 (some (a + 7))) 12 (some (a + 8))) 15 (some (a + 9))) 16 (some (a + 10))) 17 (some (a + 11))) 26 (some (a + 12))) 29 (some (a + 13))) 30 (some (a + 14))) 31 (some (a + 15))) 32 (some (a + 16))) 33 (some (a + 17))) 34 (some (a + 18))) 36 (some (a + 19))) 37 (some (a + 20))) 39 (some (a + 21))) 46 (some (a + 22))) 47 (some (a + 23))) (va_up (va_up (fun _ => 0) 14 (-1)) 40 (-1)) ∧ Ar M (a + 1) 100 7 ∧ g_kd M (a + 2) = some (100, 5812) ∧ Ow M (a + 2) (fun _ => none) (va_up (va_up (va_up (fun _ => 0) 200 (1)) 31 (4)) 204 (-1)) ∧ Ar M (a + 3) 100 11624 ∧ Ar M (a + 4) 102 2 ∧ Ar M (a + 5) 100 564 ∧ g_kd M (a + 6) = some (101, 113) ∧ Ow M (a + 6) (fun _ => none) (fun i => if i < 113 then g9w i else 0) ∧ Ar M (a + 7) 101 400 ∧ Ar M (a + 8) 100 5 ∧ Ar M (a + 9) 100 401 ∧ Ar M (a + 10) 100 401 ∧ Ar M (a + 11) 100 401 ∧ Ar M (a + 12) 100 7 ∧ Ar M (a + 13) 100 30 ∧ Ar M (a + 14) 100 30 ∧ Ar M (a + 15) 100 60 ∧ Ar M (a + 16) 100 90 ∧ Ar M (a + 17) 100 60 ∧ Ar M (a + 18) 100 60 ∧ Ar M (a + 19) 100 3024 ∧ Ar M (a + 20) 100 3024 ∧ Ar M (a + 21) 103 21 ∧ Ar M (a + 22) 103 1 ∧ Ar M (a + 23) 100 40
theorem G9.bl {M M2 : gM} {a : Nat} (h : Bl a (a + 24) M M2) (e : G9 M a) : G9 M2 a := ⟨h.k (by omega) (by omega) e.1, e.2.1.bl (h.sub (by omega) (by omega)), Ar.bl (h.sub (by omega) (by omega)) e.2.2.1, h.k (by omega) (by omega) e.2.2.2.1, e.2.2.2.2.1.bl (h.sub (by omega) (by omega)), Ar.bl (h.sub (by omega) (by omega)) e.2.2.2.2.2.1, Ar.bl (h.sub (by omega) (by omega)) e.2.2.2.2.2.2.1, Ar.bl (h.sub (by omega) (by omega)) e.2.2.2.2.2.2.2.1, h.k (by omega) (by omega) e.2.2.2.2.2.2.2.2.1, e.2.2.2.2.2.2.2.2.2.1.bl (h.sub (by omega) (by omega)), Ar.bl (h.sub (by omega) (by omega)) e.2.2.2.2.2.2.2.2.2.2.1, Ar.bl (h.sub (by omega) (by omega)) e.2.2.2.2.2.2.2.2.2.2.2.1, Ar.bl (h.sub (by omega) (by omega)) e.2.2.2.2.2.2.2.2.2.2.2.2.1, Ar.bl (h.sub (by omega) (by omega)) e.2.2.2.2.2.2.2.2.2.2.2.2.2.1, Ar.bl (h.sub (by omega) (by omega)) e.2.2.2.2.2.2.2.2.2.2.2.2.2.2.1, Ar.bl (h.sub (by omega) (by omega)) e.2.2.2.2.2.2.2.2.2.2.2.2.2.2.2.1, Ar.bl (h.sub (by omega) (by omega)) e.2.2.2.2.2.2.2.2.2.2.2.2.2.2.2.2.1, Ar.bl (h.sub (by omega) (by omega)) e.2.2.2.2.2.2.2.2.2.2.2.2.2.2.2.2.2.1, Ar.bl (h.sub (by omega) (by omega)) e.2.2.2.2.2.2.2.2.2.2.2.2.2.2.2.2.2.2.1, Ar.bl (h.sub (by omega) (by omega)) e.2.2.2.2.2.2.2.2.2.2.2.2.2.2.2.2.2.2.2.1, Ar.bl (h.sub (by omega) (by omega)) e.2.2.2.2.2.2.2.2.2.2.2.2.2.2.2.2.2.2.2.2.1, Ar.bl (h.sub (by omega) (by omega)) e.2.2.2.2.2.2.2.2.2.2.2.2.2.2.2.2.2.2.2.2.2.1, Ar.bl (h.sub (by omega) (by omega)) e.2.2.2.2.2.2.2.2.2.2.2.2.2.2.2.2.2.2.2.2.2.2.1, Ar.bl (h.sub (by omega) (by omega)) e.2.2.2.2.2.2.2.2.2.2.2.2.2.2.2.2.2.2.2.2.2.2.2.1, Ar.bl (h.sub (by omega) (by omega)) e.2.2.2.2.2.2.2.2.2.2.2.2.2.2.2.2.2.2.2.2.2.2.2.2.1, Ar.bl (h.sub (by omega) (by omega)) e.2.2.2.2.2.2.2.2.2.2.2.2.2.2.2.2.2.2.2.2.2.2.2.2.2.1, Ar.bl (h.sub (by omega) (by omega)) e.2.2.2.2.2.2.2.2.2.2.2.2.2.2.2.2.2.2.2.2.2.2.2.2.2.2⟩
set_option maxRecDepth 10000 in
set_option maxHeartbeats 4000000 in
theorem iX9_init_c8 {X : gX} {d : Nat} {Q : Option Value → gM → Prop} {M0 M : gM} {a : Nat} (h1 : Ar M (a + 1) 100 7) (h2 : Ar M (a + 2) 100 5812) (h3 : Ar M (a + 3) 100 11624) (h4 : Ar M (a + 4) 102 2) (h5 : Ar M (a + 5) 100 564) (h7 : Ar M (a + 7) 101 400) (h8 : Ar M (a + 8) 100 5) (h9 : Ar M (a + 9) 100 401) (h10 : Ar M (a + 10) 100 401) (h11 : Ar M (a + 11) 100 401) (h12 : Ar M (a + 12) 100 7) (h13 : Ar M (a + 13) 100 30) (h14 : Ar M (a + 14) 100 30) (h15 : Ar M (a + 15) 100 60) (h16 : Ar M (a + 16) 100 90) (h17 : Ar M (a + 17) 100 60) (h18 : Ar M (a + 18) 100 60) (h19 : Ar M (a + 19) 100 3024) (h20 : Ar M (a + 20) 100 3024) (h21 : Ar M (a + 21) 103 21) (h22 : Ar M (a + 22) 103 1) (k6 : g_kd M (a + 6) = some (101, 113)) (w6 : Ow M (a + 6) (fun _ => none) (fun i => if i < 113 then g9w i else 0)) (hk : g_kd M a = some (9, 50)) (ho : Ow M a (va_up (va_up (va_up (va_up (va_up (va_up (va_up (va_up (va_up (va_up (va_up (va_up (va_up (va_up (va_up (va_up (va_up (va_up (va_up (va_up (va_up (va_up (fun _ => none) 1 (some (a + 1))) 2 (some (a + 2))) 3 (some (a + 3))) 4 (some (a + 4))) 5 (some (a + 5))) 7 (some (a + 6))) 11 (some (a + 7))) 12 (some (a + 8))) 15 (some (a + 9))) 16 (some (a + 10))) 17 (some (a + 11))) 26 (some (a + 12))) 29 (some (a + 13))) 30 (some (a + 14))) 31 (some (a + 15))) 32 (some (a + 16))) 33 (some (a + 17))) 34 (some (a + 18))) 36 (some (a + 19))) 37 (some (a + 20))) 39 (some (a + 21))) 46 (some (a + 22))) (va_up (va_up (fun _ => 0) 14 (-1)) 40 (-1))) (hF : Fr a M0 M) (hn : g_nx M = a + 23) (hQ : ∀ M2, Fr a M0 M2 → g_nx M2 = a + 24 → G9 M2 a → Q none M2) : Go X (d + 1) 23 26177 kX9_init Q 868 [(0, .ref a)] [] M 22 26137 := by
  refine g_aload_n 0 869 dX9_init_868 rfl rfl ?_
  refine g_bipush (40) 871 dX9_init_869 rfl rfl ?_
  refine i_newa (t := 0) 873 (a + 23) dX9_init_871 rfl rfl (by decide) q1_71 (by decide) rfl (by decide) (Nat.le_of_ble_eq_true rfl) (Nat.le_of_ble_eq_true rfl) hn ?_
  replace h1 := Ar.bl (Bl.new (c := 100) (z := 40) hn (by omega)) h1
  replace h2 := Ar.bl (Bl.new (c := 100) (z := 40) hn (by omega)) h2
  replace h3 := Ar.bl (Bl.new (c := 100) (z := 40) hn (by omega)) h3
  replace h4 := Ar.bl (Bl.new (c := 100) (z := 40) hn (by omega)) h4
  replace h5 := Ar.bl (Bl.new (c := 100) (z := 40) hn (by omega)) h5
  replace h7 := Ar.bl (Bl.new (c := 100) (z := 40) hn (by omega)) h7
  replace h8 := Ar.bl (Bl.new (c := 100) (z := 40) hn (by omega)) h8
  replace h9 := Ar.bl (Bl.new (c := 100) (z := 40) hn (by omega)) h9
  replace h10 := Ar.bl (Bl.new (c := 100) (z := 40) hn (by omega)) h10
  replace h11 := Ar.bl (Bl.new (c := 100) (z := 40) hn (by omega)) h11
  replace h12 := Ar.bl (Bl.new (c := 100) (z := 40) hn (by omega)) h12
  replace h13 := Ar.bl (Bl.new (c := 100) (z := 40) hn (by omega)) h13
  replace h14 := Ar.bl (Bl.new (c := 100) (z := 40) hn (by omega)) h14
  replace h15 := Ar.bl (Bl.new (c := 100) (z := 40) hn (by omega)) h15
  replace h16 := Ar.bl (Bl.new (c := 100) (z := 40) hn (by omega)) h16
  replace h17 := Ar.bl (Bl.new (c := 100) (z := 40) hn (by omega)) h17
  replace h18 := Ar.bl (Bl.new (c := 100) (z := 40) hn (by omega)) h18
  replace h19 := Ar.bl (Bl.new (c := 100) (z := 40) hn (by omega)) h19
  replace h20 := Ar.bl (Bl.new (c := 100) (z := 40) hn (by omega)) h20
  replace h21 := Ar.bl (Bl.new (c := 100) (z := 40) hn (by omega)) h21
  replace h22 := Ar.bl (Bl.new (c := 100) (z := 40) hn (by omega)) h22
  replace w6 := w6.bl (Bl.new (c := 100) (z := 40) hn (by omega))
  replace k6 := kn (c := 100) (z := 40) k6 hn (by omega)
  replace ho := ho.bl (Bl.new (c := 100) (z := 40) hn (by omega))
  replace hk := kn (c := 100) (z := 40) hk hn (by omega)
  replace hF := hF.new (c := 100) (z := 40) hn (by omega)
  have h23 := Ar.mk (c := 100) (z := 40) hn
  replace hn : g_nx _ = a + 24 := nn (c := 100) (z := 40) hn
  refine g_putRF 876 dX9_init_873 rfl flX9_100 hk rfl rfl rfl ?_
  replace h1 := Ar.bl (Bl.wr (c := a) (i := 47) (v := some (a + 23)) (by omega)) h1
  replace h2 := Ar.bl (Bl.wr (c := a) (i := 47) (v := some (a + 23)) (by omega)) h2
  replace h3 := Ar.bl (Bl.wr (c := a) (i := 47) (v := some (a + 23)) (by omega)) h3
  replace h4 := Ar.bl (Bl.wr (c := a) (i := 47) (v := some (a + 23)) (by omega)) h4
  replace h5 := Ar.bl (Bl.wr (c := a) (i := 47) (v := some (a + 23)) (by omega)) h5
  replace h7 := Ar.bl (Bl.wr (c := a) (i := 47) (v := some (a + 23)) (by omega)) h7
  replace h8 := Ar.bl (Bl.wr (c := a) (i := 47) (v := some (a + 23)) (by omega)) h8
  replace h9 := Ar.bl (Bl.wr (c := a) (i := 47) (v := some (a + 23)) (by omega)) h9
  replace h10 := Ar.bl (Bl.wr (c := a) (i := 47) (v := some (a + 23)) (by omega)) h10
  replace h11 := Ar.bl (Bl.wr (c := a) (i := 47) (v := some (a + 23)) (by omega)) h11
  replace h12 := Ar.bl (Bl.wr (c := a) (i := 47) (v := some (a + 23)) (by omega)) h12
  replace h13 := Ar.bl (Bl.wr (c := a) (i := 47) (v := some (a + 23)) (by omega)) h13
  replace h14 := Ar.bl (Bl.wr (c := a) (i := 47) (v := some (a + 23)) (by omega)) h14
  replace h15 := Ar.bl (Bl.wr (c := a) (i := 47) (v := some (a + 23)) (by omega)) h15
  replace h16 := Ar.bl (Bl.wr (c := a) (i := 47) (v := some (a + 23)) (by omega)) h16
  replace h17 := Ar.bl (Bl.wr (c := a) (i := 47) (v := some (a + 23)) (by omega)) h17
  replace h18 := Ar.bl (Bl.wr (c := a) (i := 47) (v := some (a + 23)) (by omega)) h18
  replace h19 := Ar.bl (Bl.wr (c := a) (i := 47) (v := some (a + 23)) (by omega)) h19
  replace h20 := Ar.bl (Bl.wr (c := a) (i := 47) (v := some (a + 23)) (by omega)) h20
  replace h21 := Ar.bl (Bl.wr (c := a) (i := 47) (v := some (a + 23)) (by omega)) h21
  replace h22 := Ar.bl (Bl.wr (c := a) (i := 47) (v := some (a + 23)) (by omega)) h22
  replace h23 := Ar.bl (Bl.wr (c := a) (i := 47) (v := some (a + 23)) (by omega)) h23
  replace w6 := w6.bl (Bl.wr (c := a) (i := 47) (v := some (a + 23)) (by omega))
  replace ho := ho.wr (i := 47) (v := some (a + 23))
  replace hF := hF.wr (i := 47) (v := some (a + 23)) (Nat.le_refl a)
  replace hk := kwr (c := a) (i := 47) (v := some (a + 23)) hk
  replace k6 := kwr (c := a) (i := 47) (v := some (a + 23)) k6
  replace hn := nwr (c := a) (i := 47) (v := some (a + 23)) hn
  refine g_aload_n 0 877 dX9_init_876 rfl rfl ?_
  refine g_getR 880 (a + 2) dX9_init_877 rfl flX9_28 hk (ho.1 2) ?_
  refine g_sipush (200) 883 dX9_init_880 rfl rfl ?_
  refine g_iconst (1) 884 dX9_init_883 rfl rfl ?_
  replace w6 := w6.bl (Bl.wi (c := a + 2) (i := 200) (v := (1)) (by omega))
  replace k6 := kwi (c := a + 2) (i := 200) (v := (1)) k6
  refine h_iastore 885 200 dX9_init_884 rfl rfl h2.1 (vp_lit rfl) ?_
  have k2 := h2.1
  have w2 := (Ow.ar h2).wi (i := 200) (v := (1))
  replace h1 := Ar.bl (Bl.wi (c := a + 2) (i := 200) (v := (1)) (by omega)) h1
  replace h3 := Ar.bl (Bl.wi (c := a + 2) (i := 200) (v := (1)) (by omega)) h3
  replace h4 := Ar.bl (Bl.wi (c := a + 2) (i := 200) (v := (1)) (by omega)) h4
  replace h5 := Ar.bl (Bl.wi (c := a + 2) (i := 200) (v := (1)) (by omega)) h5
  replace h7 := Ar.bl (Bl.wi (c := a + 2) (i := 200) (v := (1)) (by omega)) h7
  replace h8 := Ar.bl (Bl.wi (c := a + 2) (i := 200) (v := (1)) (by omega)) h8
  replace h9 := Ar.bl (Bl.wi (c := a + 2) (i := 200) (v := (1)) (by omega)) h9
  replace h10 := Ar.bl (Bl.wi (c := a + 2) (i := 200) (v := (1)) (by omega)) h10
  replace h11 := Ar.bl (Bl.wi (c := a + 2) (i := 200) (v := (1)) (by omega)) h11
  replace h12 := Ar.bl (Bl.wi (c := a + 2) (i := 200) (v := (1)) (by omega)) h12
  replace h13 := Ar.bl (Bl.wi (c := a + 2) (i := 200) (v := (1)) (by omega)) h13
  replace h14 := Ar.bl (Bl.wi (c := a + 2) (i := 200) (v := (1)) (by omega)) h14
  replace h15 := Ar.bl (Bl.wi (c := a + 2) (i := 200) (v := (1)) (by omega)) h15
  replace h16 := Ar.bl (Bl.wi (c := a + 2) (i := 200) (v := (1)) (by omega)) h16
  replace h17 := Ar.bl (Bl.wi (c := a + 2) (i := 200) (v := (1)) (by omega)) h17
  replace h18 := Ar.bl (Bl.wi (c := a + 2) (i := 200) (v := (1)) (by omega)) h18
  replace h19 := Ar.bl (Bl.wi (c := a + 2) (i := 200) (v := (1)) (by omega)) h19
  replace h20 := Ar.bl (Bl.wi (c := a + 2) (i := 200) (v := (1)) (by omega)) h20
  replace h21 := Ar.bl (Bl.wi (c := a + 2) (i := 200) (v := (1)) (by omega)) h21
  replace h22 := Ar.bl (Bl.wi (c := a + 2) (i := 200) (v := (1)) (by omega)) h22
  replace h23 := Ar.bl (Bl.wi (c := a + 2) (i := 200) (v := (1)) (by omega)) h23
  replace ho := ho.bl (Bl.wi (c := a + 2) (i := 200) (v := (1)) (by omega))
  replace hF := hF.wi (c := a + 2) (i := 200) (v := (1)) (by omega)
  replace hk := kwi (c := a + 2) (i := 200) (v := (1)) hk
  replace k2 := kwi (c := a + 2) (i := 200) (v := (1)) k2
  replace hn := nwi (c := a + 2) (i := 200) (v := (1)) hn
  refine g_aload_n 0 886 dX9_init_885 rfl rfl ?_
  refine g_getR 889 (a + 2) dX9_init_886 rfl flX9_28 hk (ho.1 2) ?_
  refine g_bipush (31) 891 dX9_init_889 rfl rfl ?_
  refine g_iconst (4) 892 dX9_init_891 rfl rfl ?_
  refine h_iastore 893 31 dX9_init_892 rfl rfl k2 (vp_lit rfl) ?_
  replace h1 := Ar.bl (Bl.wi (c := a + 2) (i := 31) (v := (4)) (by omega)) h1
  replace h3 := Ar.bl (Bl.wi (c := a + 2) (i := 31) (v := (4)) (by omega)) h3
  replace h4 := Ar.bl (Bl.wi (c := a + 2) (i := 31) (v := (4)) (by omega)) h4
  replace h5 := Ar.bl (Bl.wi (c := a + 2) (i := 31) (v := (4)) (by omega)) h5
  replace h7 := Ar.bl (Bl.wi (c := a + 2) (i := 31) (v := (4)) (by omega)) h7
  replace h8 := Ar.bl (Bl.wi (c := a + 2) (i := 31) (v := (4)) (by omega)) h8
  replace h9 := Ar.bl (Bl.wi (c := a + 2) (i := 31) (v := (4)) (by omega)) h9
  replace h10 := Ar.bl (Bl.wi (c := a + 2) (i := 31) (v := (4)) (by omega)) h10
  replace h11 := Ar.bl (Bl.wi (c := a + 2) (i := 31) (v := (4)) (by omega)) h11
  replace h12 := Ar.bl (Bl.wi (c := a + 2) (i := 31) (v := (4)) (by omega)) h12
  replace h13 := Ar.bl (Bl.wi (c := a + 2) (i := 31) (v := (4)) (by omega)) h13
  replace h14 := Ar.bl (Bl.wi (c := a + 2) (i := 31) (v := (4)) (by omega)) h14
  replace h15 := Ar.bl (Bl.wi (c := a + 2) (i := 31) (v := (4)) (by omega)) h15
  replace h16 := Ar.bl (Bl.wi (c := a + 2) (i := 31) (v := (4)) (by omega)) h16
  replace h17 := Ar.bl (Bl.wi (c := a + 2) (i := 31) (v := (4)) (by omega)) h17
  replace h18 := Ar.bl (Bl.wi (c := a + 2) (i := 31) (v := (4)) (by omega)) h18
  replace h19 := Ar.bl (Bl.wi (c := a + 2) (i := 31) (v := (4)) (by omega)) h19
  replace h20 := Ar.bl (Bl.wi (c := a + 2) (i := 31) (v := (4)) (by omega)) h20
  replace h21 := Ar.bl (Bl.wi (c := a + 2) (i := 31) (v := (4)) (by omega)) h21
  replace h22 := Ar.bl (Bl.wi (c := a + 2) (i := 31) (v := (4)) (by omega)) h22
  replace h23 := Ar.bl (Bl.wi (c := a + 2) (i := 31) (v := (4)) (by omega)) h23
  replace w6 := w6.bl (Bl.wi (c := a + 2) (i := 31) (v := (4)) (by omega))
  replace k6 := kwi (c := a + 2) (i := 31) (v := (4)) k6
  replace k2 := kwi (c := a + 2) (i := 31) (v := (4)) k2
  replace w2 := w2.wi (i := 31) (v := (4))
  replace ho := ho.bl (Bl.wi (c := a + 2) (i := 31) (v := (4)) (by omega))
  replace hF := hF.wi (c := a + 2) (i := 31) (v := (4)) (by omega)
  replace hk := kwi (c := a + 2) (i := 31) (v := (4)) hk
  replace hn := nwi (c := a + 2) (i := 31) (v := (4)) hn
  refine g_aload_n 0 894 dX9_init_893 rfl rfl ?_
  refine g_getR 897 (a + 2) dX9_init_894 rfl flX9_28 hk (ho.1 2) ?_
  refine g_sipush (204) 900 dX9_init_897 rfl rfl ?_
  refine g_iconst (-1) 901 dX9_init_900 rfl rfl ?_
  refine h_iastore 902 204 dX9_init_901 rfl rfl k2 (vp_lit rfl) ?_
  replace h1 := Ar.bl (Bl.wi (c := a + 2) (i := 204) (v := (-1)) (by omega)) h1
  replace h3 := Ar.bl (Bl.wi (c := a + 2) (i := 204) (v := (-1)) (by omega)) h3
  replace h4 := Ar.bl (Bl.wi (c := a + 2) (i := 204) (v := (-1)) (by omega)) h4
  replace h5 := Ar.bl (Bl.wi (c := a + 2) (i := 204) (v := (-1)) (by omega)) h5
  replace h7 := Ar.bl (Bl.wi (c := a + 2) (i := 204) (v := (-1)) (by omega)) h7
  replace h8 := Ar.bl (Bl.wi (c := a + 2) (i := 204) (v := (-1)) (by omega)) h8
  replace h9 := Ar.bl (Bl.wi (c := a + 2) (i := 204) (v := (-1)) (by omega)) h9
  replace h10 := Ar.bl (Bl.wi (c := a + 2) (i := 204) (v := (-1)) (by omega)) h10
  replace h11 := Ar.bl (Bl.wi (c := a + 2) (i := 204) (v := (-1)) (by omega)) h11
  replace h12 := Ar.bl (Bl.wi (c := a + 2) (i := 204) (v := (-1)) (by omega)) h12
  replace h13 := Ar.bl (Bl.wi (c := a + 2) (i := 204) (v := (-1)) (by omega)) h13
  replace h14 := Ar.bl (Bl.wi (c := a + 2) (i := 204) (v := (-1)) (by omega)) h14
  replace h15 := Ar.bl (Bl.wi (c := a + 2) (i := 204) (v := (-1)) (by omega)) h15
  replace h16 := Ar.bl (Bl.wi (c := a + 2) (i := 204) (v := (-1)) (by omega)) h16
  replace h17 := Ar.bl (Bl.wi (c := a + 2) (i := 204) (v := (-1)) (by omega)) h17
  replace h18 := Ar.bl (Bl.wi (c := a + 2) (i := 204) (v := (-1)) (by omega)) h18
  replace h19 := Ar.bl (Bl.wi (c := a + 2) (i := 204) (v := (-1)) (by omega)) h19
  replace h20 := Ar.bl (Bl.wi (c := a + 2) (i := 204) (v := (-1)) (by omega)) h20
  replace h21 := Ar.bl (Bl.wi (c := a + 2) (i := 204) (v := (-1)) (by omega)) h21
  replace h22 := Ar.bl (Bl.wi (c := a + 2) (i := 204) (v := (-1)) (by omega)) h22
  replace h23 := Ar.bl (Bl.wi (c := a + 2) (i := 204) (v := (-1)) (by omega)) h23
  replace w6 := w6.bl (Bl.wi (c := a + 2) (i := 204) (v := (-1)) (by omega))
  replace k6 := kwi (c := a + 2) (i := 204) (v := (-1)) k6
  replace k2 := kwi (c := a + 2) (i := 204) (v := (-1)) k2
  replace w2 := w2.wi (i := 204) (v := (-1))
  replace ho := ho.bl (Bl.wi (c := a + 2) (i := 204) (v := (-1)) (by omega))
  replace hF := hF.wi (c := a + 2) (i := 204) (v := (-1)) (by omega)
  replace hk := kwi (c := a + 2) (i := 204) (v := (-1)) hk
  replace hn := nwi (c := a + 2) (i := 204) (v := (-1)) hn
  exact g_vret dX9_init_902 rfl (Nat.le_of_ble_eq_true rfl) (Nat.le_of_ble_eq_true rfl) (hQ _ hF hn ⟨hk, ho, h1, k2, w2, h3, h4, h5, k6, w6, h7, h8, h9, h10, h11, h12, h13, h14, h15, h16, h17, h18, h19, h20, h21, h22, h23⟩)
set_option maxRecDepth 10000 in
set_option maxHeartbeats 4000000 in
theorem iX9_init_c7 {X : gX} {d : Nat} {Q : Option Value → gM → Prop} {M0 M : gM} {a : Nat} (h1 : Ar M (a + 1) 100 7) (h2 : Ar M (a + 2) 100 5812) (h3 : Ar M (a + 3) 100 11624) (h4 : Ar M (a + 4) 102 2) (h5 : Ar M (a + 5) 100 564) (h7 : Ar M (a + 7) 101 400) (h8 : Ar M (a + 8) 100 5) (h9 : Ar M (a + 9) 100 401) (h10 : Ar M (a + 10) 100 401) (h11 : Ar M (a + 11) 100 401) (h12 : Ar M (a + 12) 100 7) (h13 : Ar M (a + 13) 100 30) (h14 : Ar M (a + 14) 100 30) (h15 : Ar M (a + 15) 100 60) (h16 : Ar M (a + 16) 100 90) (h17 : Ar M (a + 17) 100 60) (h18 : Ar M (a + 18) 100 60) (h19 : Ar M (a + 19) 100 3024) (h20 : Ar M (a + 20) 100 3024) (k6 : g_kd M (a + 6) = some (101, 113)) (w6 : Ow M (a + 6) (fun _ => none) (fun i => if i < 113 then g9w i else 0)) (hk : g_kd M a = some (9, 50)) (ho : Ow M a (va_up (va_up (va_up (va_up (va_up (va_up (va_up (va_up (va_up (va_up (va_up (va_up (va_up (va_up (va_up (va_up (va_up (va_up (va_up (va_up (fun _ => none) 1 (some (a + 1))) 2 (some (a + 2))) 3 (some (a + 3))) 4 (some (a + 4))) 5 (some (a + 5))) 7 (some (a + 6))) 11 (some (a + 7))) 12 (some (a + 8))) 15 (some (a + 9))) 16 (some (a + 10))) 17 (some (a + 11))) 26 (some (a + 12))) 29 (some (a + 13))) 30 (some (a + 14))) 31 (some (a + 15))) 32 (some (a + 16))) 33 (some (a + 17))) 34 (some (a + 18))) 36 (some (a + 19))) 37 (some (a + 20))) (va_up (fun _ => 0) 14 (-1))) (hF : Fr a M0 M) (hn : g_nx M = a + 21) (hQ : ∀ M2, Fr a M0 M2 → g_nx M2 = a + 24 → G9 M2 a → Q none M2) : Go X (d + 1) 23 26177 kX9_init Q 848 [(0, .ref a)] [] M 20 26115 := by
  refine g_aload_n 0 849 dX9_init_848 rfl rfl ?_
  refine g_bipush (21) 851 dX9_init_849 rfl rfl ?_
  refine i_newa (t := 3) 853 (a + 21) dX9_init_851 rfl rfl (by decide) q2_145 (by decide) rfl (by decide) (Nat.le_of_ble_eq_true rfl) (Nat.le_of_ble_eq_true rfl) hn ?_
  replace h1 := Ar.bl (Bl.new (c := 103) (z := 21) hn (by omega)) h1
  replace h2 := Ar.bl (Bl.new (c := 103) (z := 21) hn (by omega)) h2
  replace h3 := Ar.bl (Bl.new (c := 103) (z := 21) hn (by omega)) h3
  replace h4 := Ar.bl (Bl.new (c := 103) (z := 21) hn (by omega)) h4
  replace h5 := Ar.bl (Bl.new (c := 103) (z := 21) hn (by omega)) h5
  replace h7 := Ar.bl (Bl.new (c := 103) (z := 21) hn (by omega)) h7
  replace h8 := Ar.bl (Bl.new (c := 103) (z := 21) hn (by omega)) h8
  replace h9 := Ar.bl (Bl.new (c := 103) (z := 21) hn (by omega)) h9
  replace h10 := Ar.bl (Bl.new (c := 103) (z := 21) hn (by omega)) h10
  replace h11 := Ar.bl (Bl.new (c := 103) (z := 21) hn (by omega)) h11
  replace h12 := Ar.bl (Bl.new (c := 103) (z := 21) hn (by omega)) h12
  replace h13 := Ar.bl (Bl.new (c := 103) (z := 21) hn (by omega)) h13
  replace h14 := Ar.bl (Bl.new (c := 103) (z := 21) hn (by omega)) h14
  replace h15 := Ar.bl (Bl.new (c := 103) (z := 21) hn (by omega)) h15
  replace h16 := Ar.bl (Bl.new (c := 103) (z := 21) hn (by omega)) h16
  replace h17 := Ar.bl (Bl.new (c := 103) (z := 21) hn (by omega)) h17
  replace h18 := Ar.bl (Bl.new (c := 103) (z := 21) hn (by omega)) h18
  replace h19 := Ar.bl (Bl.new (c := 103) (z := 21) hn (by omega)) h19
  replace h20 := Ar.bl (Bl.new (c := 103) (z := 21) hn (by omega)) h20
  replace w6 := w6.bl (Bl.new (c := 103) (z := 21) hn (by omega))
  replace k6 := kn (c := 103) (z := 21) k6 hn (by omega)
  replace ho := ho.bl (Bl.new (c := 103) (z := 21) hn (by omega))
  replace hk := kn (c := 103) (z := 21) hk hn (by omega)
  replace hF := hF.new (c := 103) (z := 21) hn (by omega)
  have h21 := Ar.mk (c := 103) (z := 21) hn
  replace hn : g_nx _ = a + 22 := nn (c := 103) (z := 21) hn
  refine g_putRF 856 dX9_init_853 rfl flX9_90 hk rfl rfl rfl ?_
  replace h1 := Ar.bl (Bl.wr (c := a) (i := 39) (v := some (a + 21)) (by omega)) h1
  replace h2 := Ar.bl (Bl.wr (c := a) (i := 39) (v := some (a + 21)) (by omega)) h2
  replace h3 := Ar.bl (Bl.wr (c := a) (i := 39) (v := some (a + 21)) (by omega)) h3
  replace h4 := Ar.bl (Bl.wr (c := a) (i := 39) (v := some (a + 21)) (by omega)) h4
  replace h5 := Ar.bl (Bl.wr (c := a) (i := 39) (v := some (a + 21)) (by omega)) h5
  replace h7 := Ar.bl (Bl.wr (c := a) (i := 39) (v := some (a + 21)) (by omega)) h7
  replace h8 := Ar.bl (Bl.wr (c := a) (i := 39) (v := some (a + 21)) (by omega)) h8
  replace h9 := Ar.bl (Bl.wr (c := a) (i := 39) (v := some (a + 21)) (by omega)) h9
  replace h10 := Ar.bl (Bl.wr (c := a) (i := 39) (v := some (a + 21)) (by omega)) h10
  replace h11 := Ar.bl (Bl.wr (c := a) (i := 39) (v := some (a + 21)) (by omega)) h11
  replace h12 := Ar.bl (Bl.wr (c := a) (i := 39) (v := some (a + 21)) (by omega)) h12
  replace h13 := Ar.bl (Bl.wr (c := a) (i := 39) (v := some (a + 21)) (by omega)) h13
  replace h14 := Ar.bl (Bl.wr (c := a) (i := 39) (v := some (a + 21)) (by omega)) h14
  replace h15 := Ar.bl (Bl.wr (c := a) (i := 39) (v := some (a + 21)) (by omega)) h15
  replace h16 := Ar.bl (Bl.wr (c := a) (i := 39) (v := some (a + 21)) (by omega)) h16
  replace h17 := Ar.bl (Bl.wr (c := a) (i := 39) (v := some (a + 21)) (by omega)) h17
  replace h18 := Ar.bl (Bl.wr (c := a) (i := 39) (v := some (a + 21)) (by omega)) h18
  replace h19 := Ar.bl (Bl.wr (c := a) (i := 39) (v := some (a + 21)) (by omega)) h19
  replace h20 := Ar.bl (Bl.wr (c := a) (i := 39) (v := some (a + 21)) (by omega)) h20
  replace h21 := Ar.bl (Bl.wr (c := a) (i := 39) (v := some (a + 21)) (by omega)) h21
  replace w6 := w6.bl (Bl.wr (c := a) (i := 39) (v := some (a + 21)) (by omega))
  replace ho := ho.wr (i := 39) (v := some (a + 21))
  replace hF := hF.wr (i := 39) (v := some (a + 21)) (Nat.le_refl a)
  replace hk := kwr (c := a) (i := 39) (v := some (a + 21)) hk
  replace k6 := kwr (c := a) (i := 39) (v := some (a + 21)) k6
  replace hn := nwr (c := a) (i := 39) (v := some (a + 21)) hn
  refine g_aload_n 0 857 dX9_init_856 rfl rfl ?_
  refine g_iconst (-1) 858 dX9_init_857 rfl rfl ?_
  refine g_putI 861 dX9_init_858 rfl flX9_94 hk ?_
  replace h1 := Ar.bl (Bl.wi (c := a) (i := 40) (v := (-1)) (by omega)) h1
  replace h2 := Ar.bl (Bl.wi (c := a) (i := 40) (v := (-1)) (by omega)) h2
  replace h3 := Ar.bl (Bl.wi (c := a) (i := 40) (v := (-1)) (by omega)) h3
  replace h4 := Ar.bl (Bl.wi (c := a) (i := 40) (v := (-1)) (by omega)) h4
  replace h5 := Ar.bl (Bl.wi (c := a) (i := 40) (v := (-1)) (by omega)) h5
  replace h7 := Ar.bl (Bl.wi (c := a) (i := 40) (v := (-1)) (by omega)) h7
  replace h8 := Ar.bl (Bl.wi (c := a) (i := 40) (v := (-1)) (by omega)) h8
  replace h9 := Ar.bl (Bl.wi (c := a) (i := 40) (v := (-1)) (by omega)) h9
  replace h10 := Ar.bl (Bl.wi (c := a) (i := 40) (v := (-1)) (by omega)) h10
  replace h11 := Ar.bl (Bl.wi (c := a) (i := 40) (v := (-1)) (by omega)) h11
  replace h12 := Ar.bl (Bl.wi (c := a) (i := 40) (v := (-1)) (by omega)) h12
  replace h13 := Ar.bl (Bl.wi (c := a) (i := 40) (v := (-1)) (by omega)) h13
  replace h14 := Ar.bl (Bl.wi (c := a) (i := 40) (v := (-1)) (by omega)) h14
  replace h15 := Ar.bl (Bl.wi (c := a) (i := 40) (v := (-1)) (by omega)) h15
  replace h16 := Ar.bl (Bl.wi (c := a) (i := 40) (v := (-1)) (by omega)) h16
  replace h17 := Ar.bl (Bl.wi (c := a) (i := 40) (v := (-1)) (by omega)) h17
  replace h18 := Ar.bl (Bl.wi (c := a) (i := 40) (v := (-1)) (by omega)) h18
  replace h19 := Ar.bl (Bl.wi (c := a) (i := 40) (v := (-1)) (by omega)) h19
  replace h20 := Ar.bl (Bl.wi (c := a) (i := 40) (v := (-1)) (by omega)) h20
  replace h21 := Ar.bl (Bl.wi (c := a) (i := 40) (v := (-1)) (by omega)) h21
  replace w6 := w6.bl (Bl.wi (c := a) (i := 40) (v := (-1)) (by omega))
  replace ho := ho.wi (i := 40) (v := (-1))
  replace hF := hF.wi (i := 40) (v := (-1)) (Nat.le_refl a)
  replace hk := kwi (c := a) (i := 40) (v := (-1)) hk
  replace k6 := kwi (c := a) (i := 40) (v := (-1)) k6
  replace hn := nwi (c := a) (i := 40) (v := (-1)) hn
  refine g_aload_n 0 862 dX9_init_861 rfl rfl ?_
  refine g_iconst (1) 863 dX9_init_862 rfl rfl ?_
  refine i_newa (t := 3) 865 (a + 22) dX9_init_863 rfl rfl (by decide) q2_145 (by decide) rfl (by decide) (Nat.le_of_ble_eq_true rfl) (Nat.le_of_ble_eq_true rfl) hn ?_
  replace h1 := Ar.bl (Bl.new (c := 103) (z := 1) hn (by omega)) h1
  replace h2 := Ar.bl (Bl.new (c := 103) (z := 1) hn (by omega)) h2
  replace h3 := Ar.bl (Bl.new (c := 103) (z := 1) hn (by omega)) h3
  replace h4 := Ar.bl (Bl.new (c := 103) (z := 1) hn (by omega)) h4
  replace h5 := Ar.bl (Bl.new (c := 103) (z := 1) hn (by omega)) h5
  replace h7 := Ar.bl (Bl.new (c := 103) (z := 1) hn (by omega)) h7
  replace h8 := Ar.bl (Bl.new (c := 103) (z := 1) hn (by omega)) h8
  replace h9 := Ar.bl (Bl.new (c := 103) (z := 1) hn (by omega)) h9
  replace h10 := Ar.bl (Bl.new (c := 103) (z := 1) hn (by omega)) h10
  replace h11 := Ar.bl (Bl.new (c := 103) (z := 1) hn (by omega)) h11
  replace h12 := Ar.bl (Bl.new (c := 103) (z := 1) hn (by omega)) h12
  replace h13 := Ar.bl (Bl.new (c := 103) (z := 1) hn (by omega)) h13
  replace h14 := Ar.bl (Bl.new (c := 103) (z := 1) hn (by omega)) h14
  replace h15 := Ar.bl (Bl.new (c := 103) (z := 1) hn (by omega)) h15
  replace h16 := Ar.bl (Bl.new (c := 103) (z := 1) hn (by omega)) h16
  replace h17 := Ar.bl (Bl.new (c := 103) (z := 1) hn (by omega)) h17
  replace h18 := Ar.bl (Bl.new (c := 103) (z := 1) hn (by omega)) h18
  replace h19 := Ar.bl (Bl.new (c := 103) (z := 1) hn (by omega)) h19
  replace h20 := Ar.bl (Bl.new (c := 103) (z := 1) hn (by omega)) h20
  replace h21 := Ar.bl (Bl.new (c := 103) (z := 1) hn (by omega)) h21
  replace w6 := w6.bl (Bl.new (c := 103) (z := 1) hn (by omega))
  replace k6 := kn (c := 103) (z := 1) k6 hn (by omega)
  replace ho := ho.bl (Bl.new (c := 103) (z := 1) hn (by omega))
  replace hk := kn (c := 103) (z := 1) hk hn (by omega)
  replace hF := hF.new (c := 103) (z := 1) hn (by omega)
  have h22 := Ar.mk (c := 103) (z := 1) hn
  replace hn : g_nx _ = a + 23 := nn (c := 103) (z := 1) hn
  refine g_putRF 868 dX9_init_865 rfl flX9_97 hk rfl rfl rfl ?_
  replace h1 := Ar.bl (Bl.wr (c := a) (i := 46) (v := some (a + 22)) (by omega)) h1
  replace h2 := Ar.bl (Bl.wr (c := a) (i := 46) (v := some (a + 22)) (by omega)) h2
  replace h3 := Ar.bl (Bl.wr (c := a) (i := 46) (v := some (a + 22)) (by omega)) h3
  replace h4 := Ar.bl (Bl.wr (c := a) (i := 46) (v := some (a + 22)) (by omega)) h4
  replace h5 := Ar.bl (Bl.wr (c := a) (i := 46) (v := some (a + 22)) (by omega)) h5
  replace h7 := Ar.bl (Bl.wr (c := a) (i := 46) (v := some (a + 22)) (by omega)) h7
  replace h8 := Ar.bl (Bl.wr (c := a) (i := 46) (v := some (a + 22)) (by omega)) h8
  replace h9 := Ar.bl (Bl.wr (c := a) (i := 46) (v := some (a + 22)) (by omega)) h9
  replace h10 := Ar.bl (Bl.wr (c := a) (i := 46) (v := some (a + 22)) (by omega)) h10
  replace h11 := Ar.bl (Bl.wr (c := a) (i := 46) (v := some (a + 22)) (by omega)) h11
  replace h12 := Ar.bl (Bl.wr (c := a) (i := 46) (v := some (a + 22)) (by omega)) h12
  replace h13 := Ar.bl (Bl.wr (c := a) (i := 46) (v := some (a + 22)) (by omega)) h13
  replace h14 := Ar.bl (Bl.wr (c := a) (i := 46) (v := some (a + 22)) (by omega)) h14
  replace h15 := Ar.bl (Bl.wr (c := a) (i := 46) (v := some (a + 22)) (by omega)) h15
  replace h16 := Ar.bl (Bl.wr (c := a) (i := 46) (v := some (a + 22)) (by omega)) h16
  replace h17 := Ar.bl (Bl.wr (c := a) (i := 46) (v := some (a + 22)) (by omega)) h17
  replace h18 := Ar.bl (Bl.wr (c := a) (i := 46) (v := some (a + 22)) (by omega)) h18
  replace h19 := Ar.bl (Bl.wr (c := a) (i := 46) (v := some (a + 22)) (by omega)) h19
  replace h20 := Ar.bl (Bl.wr (c := a) (i := 46) (v := some (a + 22)) (by omega)) h20
  replace h21 := Ar.bl (Bl.wr (c := a) (i := 46) (v := some (a + 22)) (by omega)) h21
  replace h22 := Ar.bl (Bl.wr (c := a) (i := 46) (v := some (a + 22)) (by omega)) h22
  replace w6 := w6.bl (Bl.wr (c := a) (i := 46) (v := some (a + 22)) (by omega))
  replace ho := ho.wr (i := 46) (v := some (a + 22))
  replace hF := hF.wr (i := 46) (v := some (a + 22)) (Nat.le_refl a)
  replace hk := kwr (c := a) (i := 46) (v := some (a + 22)) hk
  replace k6 := kwr (c := a) (i := 46) (v := some (a + 22)) k6
  replace hn := nwr (c := a) (i := 46) (v := some (a + 22)) hn
  exact iX9_init_c8 h1 h2 h3 h4 h5 h7 h8 h9 h10 h11 h12 h13 h14 h15 h16 h17 h18 h19 h20 h21 h22 k6 w6 hk ho hF hn hQ
set_option maxRecDepth 10000 in
set_option maxHeartbeats 4000000 in
theorem iX9_init_c6 {X : gX} {d : Nat} {Q : Option Value → gM → Prop} {M0 M : gM} {a : Nat} (h1 : Ar M (a + 1) 100 7) (h2 : Ar M (a + 2) 100 5812) (h3 : Ar M (a + 3) 100 11624) (h4 : Ar M (a + 4) 102 2) (h5 : Ar M (a + 5) 100 564) (h7 : Ar M (a + 7) 101 400) (h8 : Ar M (a + 8) 100 5) (h9 : Ar M (a + 9) 100 401) (h10 : Ar M (a + 10) 100 401) (h11 : Ar M (a + 11) 100 401) (h12 : Ar M (a + 12) 100 7) (h13 : Ar M (a + 13) 100 30) (h14 : Ar M (a + 14) 100 30) (h15 : Ar M (a + 15) 100 60) (h16 : Ar M (a + 16) 100 90) (h17 : Ar M (a + 17) 100 60) (k6 : g_kd M (a + 6) = some (101, 113)) (w6 : Ow M (a + 6) (fun _ => none) (fun i => if i < 113 then g9w i else 0)) (hk : g_kd M a = some (9, 50)) (ho : Ow M a (va_up (va_up (va_up (va_up (va_up (va_up (va_up (va_up (va_up (va_up (va_up (va_up (va_up (va_up (va_up (va_up (va_up (fun _ => none) 1 (some (a + 1))) 2 (some (a + 2))) 3 (some (a + 3))) 4 (some (a + 4))) 5 (some (a + 5))) 7 (some (a + 6))) 11 (some (a + 7))) 12 (some (a + 8))) 15 (some (a + 9))) 16 (some (a + 10))) 17 (some (a + 11))) 26 (some (a + 12))) 29 (some (a + 13))) 30 (some (a + 14))) 31 (some (a + 15))) 32 (some (a + 16))) 33 (some (a + 17))) (va_up (fun _ => 0) 14 (-1))) (hF : Fr a M0 M) (hn : g_nx M = a + 18) (hQ : ∀ M2, Fr a M0 M2 → g_nx M2 = a + 24 → G9 M2 a → Q none M2) : Go X (d + 1) 23 26177 kX9_init Q 822 [(0, .ref a)] [] M 17 20007 := by
  refine g_aload_n 0 823 dX9_init_822 rfl rfl ?_
  refine g_bipush (60) 825 dX9_init_823 rfl rfl ?_
  refine i_newa (t := 0) 827 (a + 18) dX9_init_825 rfl rfl (by decide) q1_71 (by decide) rfl (by decide) (Nat.le_of_ble_eq_true rfl) (Nat.le_of_ble_eq_true rfl) hn ?_
  replace h1 := Ar.bl (Bl.new (c := 100) (z := 60) hn (by omega)) h1
  replace h2 := Ar.bl (Bl.new (c := 100) (z := 60) hn (by omega)) h2
  replace h3 := Ar.bl (Bl.new (c := 100) (z := 60) hn (by omega)) h3
  replace h4 := Ar.bl (Bl.new (c := 100) (z := 60) hn (by omega)) h4
  replace h5 := Ar.bl (Bl.new (c := 100) (z := 60) hn (by omega)) h5
  replace h7 := Ar.bl (Bl.new (c := 100) (z := 60) hn (by omega)) h7
  replace h8 := Ar.bl (Bl.new (c := 100) (z := 60) hn (by omega)) h8
  replace h9 := Ar.bl (Bl.new (c := 100) (z := 60) hn (by omega)) h9
  replace h10 := Ar.bl (Bl.new (c := 100) (z := 60) hn (by omega)) h10
  replace h11 := Ar.bl (Bl.new (c := 100) (z := 60) hn (by omega)) h11
  replace h12 := Ar.bl (Bl.new (c := 100) (z := 60) hn (by omega)) h12
  replace h13 := Ar.bl (Bl.new (c := 100) (z := 60) hn (by omega)) h13
  replace h14 := Ar.bl (Bl.new (c := 100) (z := 60) hn (by omega)) h14
  replace h15 := Ar.bl (Bl.new (c := 100) (z := 60) hn (by omega)) h15
  replace h16 := Ar.bl (Bl.new (c := 100) (z := 60) hn (by omega)) h16
  replace h17 := Ar.bl (Bl.new (c := 100) (z := 60) hn (by omega)) h17
  replace w6 := w6.bl (Bl.new (c := 100) (z := 60) hn (by omega))
  replace k6 := kn (c := 100) (z := 60) k6 hn (by omega)
  replace ho := ho.bl (Bl.new (c := 100) (z := 60) hn (by omega))
  replace hk := kn (c := 100) (z := 60) hk hn (by omega)
  replace hF := hF.new (c := 100) (z := 60) hn (by omega)
  have h18 := Ar.mk (c := 100) (z := 60) hn
  replace hn : g_nx _ = a + 19 := nn (c := 100) (z := 60) hn
  refine g_putRF 830 dX9_init_827 rfl flX9_81 hk rfl rfl rfl ?_
  replace h1 := Ar.bl (Bl.wr (c := a) (i := 34) (v := some (a + 18)) (by omega)) h1
  replace h2 := Ar.bl (Bl.wr (c := a) (i := 34) (v := some (a + 18)) (by omega)) h2
  replace h3 := Ar.bl (Bl.wr (c := a) (i := 34) (v := some (a + 18)) (by omega)) h3
  replace h4 := Ar.bl (Bl.wr (c := a) (i := 34) (v := some (a + 18)) (by omega)) h4
  replace h5 := Ar.bl (Bl.wr (c := a) (i := 34) (v := some (a + 18)) (by omega)) h5
  replace h7 := Ar.bl (Bl.wr (c := a) (i := 34) (v := some (a + 18)) (by omega)) h7
  replace h8 := Ar.bl (Bl.wr (c := a) (i := 34) (v := some (a + 18)) (by omega)) h8
  replace h9 := Ar.bl (Bl.wr (c := a) (i := 34) (v := some (a + 18)) (by omega)) h9
  replace h10 := Ar.bl (Bl.wr (c := a) (i := 34) (v := some (a + 18)) (by omega)) h10
  replace h11 := Ar.bl (Bl.wr (c := a) (i := 34) (v := some (a + 18)) (by omega)) h11
  replace h12 := Ar.bl (Bl.wr (c := a) (i := 34) (v := some (a + 18)) (by omega)) h12
  replace h13 := Ar.bl (Bl.wr (c := a) (i := 34) (v := some (a + 18)) (by omega)) h13
  replace h14 := Ar.bl (Bl.wr (c := a) (i := 34) (v := some (a + 18)) (by omega)) h14
  replace h15 := Ar.bl (Bl.wr (c := a) (i := 34) (v := some (a + 18)) (by omega)) h15
  replace h16 := Ar.bl (Bl.wr (c := a) (i := 34) (v := some (a + 18)) (by omega)) h16
  replace h17 := Ar.bl (Bl.wr (c := a) (i := 34) (v := some (a + 18)) (by omega)) h17
  replace h18 := Ar.bl (Bl.wr (c := a) (i := 34) (v := some (a + 18)) (by omega)) h18
  replace w6 := w6.bl (Bl.wr (c := a) (i := 34) (v := some (a + 18)) (by omega))
  replace ho := ho.wr (i := 34) (v := some (a + 18))
  replace hF := hF.wr (i := 34) (v := some (a + 18)) (Nat.le_refl a)
  replace hk := kwr (c := a) (i := 34) (v := some (a + 18)) hk
  replace k6 := kwr (c := a) (i := 34) (v := some (a + 18)) k6
  replace hn := nwr (c := a) (i := 34) (v := some (a + 18)) hn
  refine g_aload_n 0 831 dX9_init_830 rfl rfl ?_
  refine g_sipush (3024) 834 dX9_init_831 rfl rfl ?_
  refine i_newa (t := 0) 836 (a + 19) dX9_init_834 rfl rfl (by decide) q1_71 (by decide) rfl (by decide) (Nat.le_of_ble_eq_true rfl) (Nat.le_of_ble_eq_true rfl) hn ?_
  replace h1 := Ar.bl (Bl.new (c := 100) (z := 3024) hn (by omega)) h1
  replace h2 := Ar.bl (Bl.new (c := 100) (z := 3024) hn (by omega)) h2
  replace h3 := Ar.bl (Bl.new (c := 100) (z := 3024) hn (by omega)) h3
  replace h4 := Ar.bl (Bl.new (c := 100) (z := 3024) hn (by omega)) h4
  replace h5 := Ar.bl (Bl.new (c := 100) (z := 3024) hn (by omega)) h5
  replace h7 := Ar.bl (Bl.new (c := 100) (z := 3024) hn (by omega)) h7
  replace h8 := Ar.bl (Bl.new (c := 100) (z := 3024) hn (by omega)) h8
  replace h9 := Ar.bl (Bl.new (c := 100) (z := 3024) hn (by omega)) h9
  replace h10 := Ar.bl (Bl.new (c := 100) (z := 3024) hn (by omega)) h10
  replace h11 := Ar.bl (Bl.new (c := 100) (z := 3024) hn (by omega)) h11
  replace h12 := Ar.bl (Bl.new (c := 100) (z := 3024) hn (by omega)) h12
  replace h13 := Ar.bl (Bl.new (c := 100) (z := 3024) hn (by omega)) h13
  replace h14 := Ar.bl (Bl.new (c := 100) (z := 3024) hn (by omega)) h14
  replace h15 := Ar.bl (Bl.new (c := 100) (z := 3024) hn (by omega)) h15
  replace h16 := Ar.bl (Bl.new (c := 100) (z := 3024) hn (by omega)) h16
  replace h17 := Ar.bl (Bl.new (c := 100) (z := 3024) hn (by omega)) h17
  replace h18 := Ar.bl (Bl.new (c := 100) (z := 3024) hn (by omega)) h18
  replace w6 := w6.bl (Bl.new (c := 100) (z := 3024) hn (by omega))
  replace k6 := kn (c := 100) (z := 3024) k6 hn (by omega)
  replace ho := ho.bl (Bl.new (c := 100) (z := 3024) hn (by omega))
  replace hk := kn (c := 100) (z := 3024) hk hn (by omega)
  replace hF := hF.new (c := 100) (z := 3024) hn (by omega)
  have h19 := Ar.mk (c := 100) (z := 3024) hn
  replace hn : g_nx _ = a + 20 := nn (c := 100) (z := 3024) hn
  refine g_putRF 839 dX9_init_836 rfl flX9_84 hk rfl rfl rfl ?_
  replace h1 := Ar.bl (Bl.wr (c := a) (i := 36) (v := some (a + 19)) (by omega)) h1
  replace h2 := Ar.bl (Bl.wr (c := a) (i := 36) (v := some (a + 19)) (by omega)) h2
  replace h3 := Ar.bl (Bl.wr (c := a) (i := 36) (v := some (a + 19)) (by omega)) h3
  replace h4 := Ar.bl (Bl.wr (c := a) (i := 36) (v := some (a + 19)) (by omega)) h4
  replace h5 := Ar.bl (Bl.wr (c := a) (i := 36) (v := some (a + 19)) (by omega)) h5
  replace h7 := Ar.bl (Bl.wr (c := a) (i := 36) (v := some (a + 19)) (by omega)) h7
  replace h8 := Ar.bl (Bl.wr (c := a) (i := 36) (v := some (a + 19)) (by omega)) h8
  replace h9 := Ar.bl (Bl.wr (c := a) (i := 36) (v := some (a + 19)) (by omega)) h9
  replace h10 := Ar.bl (Bl.wr (c := a) (i := 36) (v := some (a + 19)) (by omega)) h10
  replace h11 := Ar.bl (Bl.wr (c := a) (i := 36) (v := some (a + 19)) (by omega)) h11
  replace h12 := Ar.bl (Bl.wr (c := a) (i := 36) (v := some (a + 19)) (by omega)) h12
  replace h13 := Ar.bl (Bl.wr (c := a) (i := 36) (v := some (a + 19)) (by omega)) h13
  replace h14 := Ar.bl (Bl.wr (c := a) (i := 36) (v := some (a + 19)) (by omega)) h14
  replace h15 := Ar.bl (Bl.wr (c := a) (i := 36) (v := some (a + 19)) (by omega)) h15
  replace h16 := Ar.bl (Bl.wr (c := a) (i := 36) (v := some (a + 19)) (by omega)) h16
  replace h17 := Ar.bl (Bl.wr (c := a) (i := 36) (v := some (a + 19)) (by omega)) h17
  replace h18 := Ar.bl (Bl.wr (c := a) (i := 36) (v := some (a + 19)) (by omega)) h18
  replace h19 := Ar.bl (Bl.wr (c := a) (i := 36) (v := some (a + 19)) (by omega)) h19
  replace w6 := w6.bl (Bl.wr (c := a) (i := 36) (v := some (a + 19)) (by omega))
  replace ho := ho.wr (i := 36) (v := some (a + 19))
  replace hF := hF.wr (i := 36) (v := some (a + 19)) (Nat.le_refl a)
  replace hk := kwr (c := a) (i := 36) (v := some (a + 19)) hk
  replace k6 := kwr (c := a) (i := 36) (v := some (a + 19)) k6
  replace hn := nwr (c := a) (i := 36) (v := some (a + 19)) hn
  refine g_aload_n 0 840 dX9_init_839 rfl rfl ?_
  refine g_sipush (3024) 843 dX9_init_840 rfl rfl ?_
  refine i_newa (t := 0) 845 (a + 20) dX9_init_843 rfl rfl (by decide) q1_71 (by decide) rfl (by decide) (Nat.le_of_ble_eq_true rfl) (Nat.le_of_ble_eq_true rfl) hn ?_
  replace h1 := Ar.bl (Bl.new (c := 100) (z := 3024) hn (by omega)) h1
  replace h2 := Ar.bl (Bl.new (c := 100) (z := 3024) hn (by omega)) h2
  replace h3 := Ar.bl (Bl.new (c := 100) (z := 3024) hn (by omega)) h3
  replace h4 := Ar.bl (Bl.new (c := 100) (z := 3024) hn (by omega)) h4
  replace h5 := Ar.bl (Bl.new (c := 100) (z := 3024) hn (by omega)) h5
  replace h7 := Ar.bl (Bl.new (c := 100) (z := 3024) hn (by omega)) h7
  replace h8 := Ar.bl (Bl.new (c := 100) (z := 3024) hn (by omega)) h8
  replace h9 := Ar.bl (Bl.new (c := 100) (z := 3024) hn (by omega)) h9
  replace h10 := Ar.bl (Bl.new (c := 100) (z := 3024) hn (by omega)) h10
  replace h11 := Ar.bl (Bl.new (c := 100) (z := 3024) hn (by omega)) h11
  replace h12 := Ar.bl (Bl.new (c := 100) (z := 3024) hn (by omega)) h12
  replace h13 := Ar.bl (Bl.new (c := 100) (z := 3024) hn (by omega)) h13
  replace h14 := Ar.bl (Bl.new (c := 100) (z := 3024) hn (by omega)) h14
  replace h15 := Ar.bl (Bl.new (c := 100) (z := 3024) hn (by omega)) h15
  replace h16 := Ar.bl (Bl.new (c := 100) (z := 3024) hn (by omega)) h16
  replace h17 := Ar.bl (Bl.new (c := 100) (z := 3024) hn (by omega)) h17
  replace h18 := Ar.bl (Bl.new (c := 100) (z := 3024) hn (by omega)) h18
  replace h19 := Ar.bl (Bl.new (c := 100) (z := 3024) hn (by omega)) h19
  replace w6 := w6.bl (Bl.new (c := 100) (z := 3024) hn (by omega))
  replace k6 := kn (c := 100) (z := 3024) k6 hn (by omega)
  replace ho := ho.bl (Bl.new (c := 100) (z := 3024) hn (by omega))
  replace hk := kn (c := 100) (z := 3024) hk hn (by omega)
  replace hF := hF.new (c := 100) (z := 3024) hn (by omega)
  have h20 := Ar.mk (c := 100) (z := 3024) hn
  replace hn : g_nx _ = a + 21 := nn (c := 100) (z := 3024) hn
  refine g_putRF 848 dX9_init_845 rfl flX9_87 hk rfl rfl rfl ?_
  replace h1 := Ar.bl (Bl.wr (c := a) (i := 37) (v := some (a + 20)) (by omega)) h1
  replace h2 := Ar.bl (Bl.wr (c := a) (i := 37) (v := some (a + 20)) (by omega)) h2
  replace h3 := Ar.bl (Bl.wr (c := a) (i := 37) (v := some (a + 20)) (by omega)) h3
  replace h4 := Ar.bl (Bl.wr (c := a) (i := 37) (v := some (a + 20)) (by omega)) h4
  replace h5 := Ar.bl (Bl.wr (c := a) (i := 37) (v := some (a + 20)) (by omega)) h5
  replace h7 := Ar.bl (Bl.wr (c := a) (i := 37) (v := some (a + 20)) (by omega)) h7
  replace h8 := Ar.bl (Bl.wr (c := a) (i := 37) (v := some (a + 20)) (by omega)) h8
  replace h9 := Ar.bl (Bl.wr (c := a) (i := 37) (v := some (a + 20)) (by omega)) h9
  replace h10 := Ar.bl (Bl.wr (c := a) (i := 37) (v := some (a + 20)) (by omega)) h10
  replace h11 := Ar.bl (Bl.wr (c := a) (i := 37) (v := some (a + 20)) (by omega)) h11
  replace h12 := Ar.bl (Bl.wr (c := a) (i := 37) (v := some (a + 20)) (by omega)) h12
  replace h13 := Ar.bl (Bl.wr (c := a) (i := 37) (v := some (a + 20)) (by omega)) h13
  replace h14 := Ar.bl (Bl.wr (c := a) (i := 37) (v := some (a + 20)) (by omega)) h14
  replace h15 := Ar.bl (Bl.wr (c := a) (i := 37) (v := some (a + 20)) (by omega)) h15
  replace h16 := Ar.bl (Bl.wr (c := a) (i := 37) (v := some (a + 20)) (by omega)) h16
  replace h17 := Ar.bl (Bl.wr (c := a) (i := 37) (v := some (a + 20)) (by omega)) h17
  replace h18 := Ar.bl (Bl.wr (c := a) (i := 37) (v := some (a + 20)) (by omega)) h18
  replace h19 := Ar.bl (Bl.wr (c := a) (i := 37) (v := some (a + 20)) (by omega)) h19
  replace h20 := Ar.bl (Bl.wr (c := a) (i := 37) (v := some (a + 20)) (by omega)) h20
  replace w6 := w6.bl (Bl.wr (c := a) (i := 37) (v := some (a + 20)) (by omega))
  replace ho := ho.wr (i := 37) (v := some (a + 20))
  replace hF := hF.wr (i := 37) (v := some (a + 20)) (Nat.le_refl a)
  replace hk := kwr (c := a) (i := 37) (v := some (a + 20)) hk
  replace k6 := kwr (c := a) (i := 37) (v := some (a + 20)) k6
  replace hn := nwr (c := a) (i := 37) (v := some (a + 20)) hn
  exact iX9_init_c7 h1 h2 h3 h4 h5 h7 h8 h9 h10 h11 h12 h13 h14 h15 h16 h17 h18 h19 h20 k6 w6 hk ho hF hn hQ
set_option maxRecDepth 10000 in
set_option maxHeartbeats 4000000 in
theorem iX9_init_c5 {X : gX} {d : Nat} {Q : Option Value → gM → Prop} {M0 M : gM} {a : Nat} (h1 : Ar M (a + 1) 100 7) (h2 : Ar M (a + 2) 100 5812) (h3 : Ar M (a + 3) 100 11624) (h4 : Ar M (a + 4) 102 2) (h5 : Ar M (a + 5) 100 564) (h7 : Ar M (a + 7) 101 400) (h8 : Ar M (a + 8) 100 5) (h9 : Ar M (a + 9) 100 401) (h10 : Ar M (a + 10) 100 401) (h11 : Ar M (a + 11) 100 401) (h12 : Ar M (a + 12) 100 7) (h13 : Ar M (a + 13) 100 30) (h14 : Ar M (a + 14) 100 30) (k6 : g_kd M (a + 6) = some (101, 113)) (w6 : Ow M (a + 6) (fun _ => none) (fun i => if i < 113 then g9w i else 0)) (hk : g_kd M a = some (9, 50)) (ho : Ow M a (va_up (va_up (va_up (va_up (va_up (va_up (va_up (va_up (va_up (va_up (va_up (va_up (va_up (va_up (fun _ => none) 1 (some (a + 1))) 2 (some (a + 2))) 3 (some (a + 3))) 4 (some (a + 4))) 5 (some (a + 5))) 7 (some (a + 6))) 11 (some (a + 7))) 12 (some (a + 8))) 15 (some (a + 9))) 16 (some (a + 10))) 17 (some (a + 11))) 26 (some (a + 12))) 29 (some (a + 13))) 30 (some (a + 14))) (va_up (fun _ => 0) 14 (-1))) (hF : Fr a M0 M) (hn : g_nx M = a + 15) (hQ : ∀ M2, Fr a M0 M2 → g_nx M2 = a + 24 → G9 M2 a → Q none M2) : Go X (d + 1) 23 26177 kX9_init Q 798 [(0, .ref a)] [] M 14 19797 := by
  refine g_aload_n 0 799 dX9_init_798 rfl rfl ?_
  refine g_bipush (60) 801 dX9_init_799 rfl rfl ?_
  refine i_newa (t := 0) 803 (a + 15) dX9_init_801 rfl rfl (by decide) q1_71 (by decide) rfl (by decide) (Nat.le_of_ble_eq_true rfl) (Nat.le_of_ble_eq_true rfl) hn ?_
  replace h1 := Ar.bl (Bl.new (c := 100) (z := 60) hn (by omega)) h1
  replace h2 := Ar.bl (Bl.new (c := 100) (z := 60) hn (by omega)) h2
  replace h3 := Ar.bl (Bl.new (c := 100) (z := 60) hn (by omega)) h3
  replace h4 := Ar.bl (Bl.new (c := 100) (z := 60) hn (by omega)) h4
  replace h5 := Ar.bl (Bl.new (c := 100) (z := 60) hn (by omega)) h5
  replace h7 := Ar.bl (Bl.new (c := 100) (z := 60) hn (by omega)) h7
  replace h8 := Ar.bl (Bl.new (c := 100) (z := 60) hn (by omega)) h8
  replace h9 := Ar.bl (Bl.new (c := 100) (z := 60) hn (by omega)) h9
  replace h10 := Ar.bl (Bl.new (c := 100) (z := 60) hn (by omega)) h10
  replace h11 := Ar.bl (Bl.new (c := 100) (z := 60) hn (by omega)) h11
  replace h12 := Ar.bl (Bl.new (c := 100) (z := 60) hn (by omega)) h12
  replace h13 := Ar.bl (Bl.new (c := 100) (z := 60) hn (by omega)) h13
  replace h14 := Ar.bl (Bl.new (c := 100) (z := 60) hn (by omega)) h14
  replace w6 := w6.bl (Bl.new (c := 100) (z := 60) hn (by omega))
  replace k6 := kn (c := 100) (z := 60) k6 hn (by omega)
  replace ho := ho.bl (Bl.new (c := 100) (z := 60) hn (by omega))
  replace hk := kn (c := 100) (z := 60) hk hn (by omega)
  replace hF := hF.new (c := 100) (z := 60) hn (by omega)
  have h15 := Ar.mk (c := 100) (z := 60) hn
  replace hn : g_nx _ = a + 16 := nn (c := 100) (z := 60) hn
  refine g_putRF 806 dX9_init_803 rfl flX9_72 hk rfl rfl rfl ?_
  replace h1 := Ar.bl (Bl.wr (c := a) (i := 31) (v := some (a + 15)) (by omega)) h1
  replace h2 := Ar.bl (Bl.wr (c := a) (i := 31) (v := some (a + 15)) (by omega)) h2
  replace h3 := Ar.bl (Bl.wr (c := a) (i := 31) (v := some (a + 15)) (by omega)) h3
  replace h4 := Ar.bl (Bl.wr (c := a) (i := 31) (v := some (a + 15)) (by omega)) h4
  replace h5 := Ar.bl (Bl.wr (c := a) (i := 31) (v := some (a + 15)) (by omega)) h5
  replace h7 := Ar.bl (Bl.wr (c := a) (i := 31) (v := some (a + 15)) (by omega)) h7
  replace h8 := Ar.bl (Bl.wr (c := a) (i := 31) (v := some (a + 15)) (by omega)) h8
  replace h9 := Ar.bl (Bl.wr (c := a) (i := 31) (v := some (a + 15)) (by omega)) h9
  replace h10 := Ar.bl (Bl.wr (c := a) (i := 31) (v := some (a + 15)) (by omega)) h10
  replace h11 := Ar.bl (Bl.wr (c := a) (i := 31) (v := some (a + 15)) (by omega)) h11
  replace h12 := Ar.bl (Bl.wr (c := a) (i := 31) (v := some (a + 15)) (by omega)) h12
  replace h13 := Ar.bl (Bl.wr (c := a) (i := 31) (v := some (a + 15)) (by omega)) h13
  replace h14 := Ar.bl (Bl.wr (c := a) (i := 31) (v := some (a + 15)) (by omega)) h14
  replace h15 := Ar.bl (Bl.wr (c := a) (i := 31) (v := some (a + 15)) (by omega)) h15
  replace w6 := w6.bl (Bl.wr (c := a) (i := 31) (v := some (a + 15)) (by omega))
  replace ho := ho.wr (i := 31) (v := some (a + 15))
  replace hF := hF.wr (i := 31) (v := some (a + 15)) (Nat.le_refl a)
  replace hk := kwr (c := a) (i := 31) (v := some (a + 15)) hk
  replace k6 := kwr (c := a) (i := 31) (v := some (a + 15)) k6
  replace hn := nwr (c := a) (i := 31) (v := some (a + 15)) hn
  refine g_aload_n 0 807 dX9_init_806 rfl rfl ?_
  refine g_bipush (90) 809 dX9_init_807 rfl rfl ?_
  refine i_newa (t := 0) 811 (a + 16) dX9_init_809 rfl rfl (by decide) q1_71 (by decide) rfl (by decide) (Nat.le_of_ble_eq_true rfl) (Nat.le_of_ble_eq_true rfl) hn ?_
  replace h1 := Ar.bl (Bl.new (c := 100) (z := 90) hn (by omega)) h1
  replace h2 := Ar.bl (Bl.new (c := 100) (z := 90) hn (by omega)) h2
  replace h3 := Ar.bl (Bl.new (c := 100) (z := 90) hn (by omega)) h3
  replace h4 := Ar.bl (Bl.new (c := 100) (z := 90) hn (by omega)) h4
  replace h5 := Ar.bl (Bl.new (c := 100) (z := 90) hn (by omega)) h5
  replace h7 := Ar.bl (Bl.new (c := 100) (z := 90) hn (by omega)) h7
  replace h8 := Ar.bl (Bl.new (c := 100) (z := 90) hn (by omega)) h8
  replace h9 := Ar.bl (Bl.new (c := 100) (z := 90) hn (by omega)) h9
  replace h10 := Ar.bl (Bl.new (c := 100) (z := 90) hn (by omega)) h10
  replace h11 := Ar.bl (Bl.new (c := 100) (z := 90) hn (by omega)) h11
  replace h12 := Ar.bl (Bl.new (c := 100) (z := 90) hn (by omega)) h12
  replace h13 := Ar.bl (Bl.new (c := 100) (z := 90) hn (by omega)) h13
  replace h14 := Ar.bl (Bl.new (c := 100) (z := 90) hn (by omega)) h14
  replace h15 := Ar.bl (Bl.new (c := 100) (z := 90) hn (by omega)) h15
  replace w6 := w6.bl (Bl.new (c := 100) (z := 90) hn (by omega))
  replace k6 := kn (c := 100) (z := 90) k6 hn (by omega)
  replace ho := ho.bl (Bl.new (c := 100) (z := 90) hn (by omega))
  replace hk := kn (c := 100) (z := 90) hk hn (by omega)
  replace hF := hF.new (c := 100) (z := 90) hn (by omega)
  have h16 := Ar.mk (c := 100) (z := 90) hn
  replace hn : g_nx _ = a + 17 := nn (c := 100) (z := 90) hn
  refine g_putRF 814 dX9_init_811 rfl flX9_75 hk rfl rfl rfl ?_
  replace h1 := Ar.bl (Bl.wr (c := a) (i := 32) (v := some (a + 16)) (by omega)) h1
  replace h2 := Ar.bl (Bl.wr (c := a) (i := 32) (v := some (a + 16)) (by omega)) h2
  replace h3 := Ar.bl (Bl.wr (c := a) (i := 32) (v := some (a + 16)) (by omega)) h3
  replace h4 := Ar.bl (Bl.wr (c := a) (i := 32) (v := some (a + 16)) (by omega)) h4
  replace h5 := Ar.bl (Bl.wr (c := a) (i := 32) (v := some (a + 16)) (by omega)) h5
  replace h7 := Ar.bl (Bl.wr (c := a) (i := 32) (v := some (a + 16)) (by omega)) h7
  replace h8 := Ar.bl (Bl.wr (c := a) (i := 32) (v := some (a + 16)) (by omega)) h8
  replace h9 := Ar.bl (Bl.wr (c := a) (i := 32) (v := some (a + 16)) (by omega)) h9
  replace h10 := Ar.bl (Bl.wr (c := a) (i := 32) (v := some (a + 16)) (by omega)) h10
  replace h11 := Ar.bl (Bl.wr (c := a) (i := 32) (v := some (a + 16)) (by omega)) h11
  replace h12 := Ar.bl (Bl.wr (c := a) (i := 32) (v := some (a + 16)) (by omega)) h12
  replace h13 := Ar.bl (Bl.wr (c := a) (i := 32) (v := some (a + 16)) (by omega)) h13
  replace h14 := Ar.bl (Bl.wr (c := a) (i := 32) (v := some (a + 16)) (by omega)) h14
  replace h15 := Ar.bl (Bl.wr (c := a) (i := 32) (v := some (a + 16)) (by omega)) h15
  replace h16 := Ar.bl (Bl.wr (c := a) (i := 32) (v := some (a + 16)) (by omega)) h16
  replace w6 := w6.bl (Bl.wr (c := a) (i := 32) (v := some (a + 16)) (by omega))
  replace ho := ho.wr (i := 32) (v := some (a + 16))
  replace hF := hF.wr (i := 32) (v := some (a + 16)) (Nat.le_refl a)
  replace hk := kwr (c := a) (i := 32) (v := some (a + 16)) hk
  replace k6 := kwr (c := a) (i := 32) (v := some (a + 16)) k6
  replace hn := nwr (c := a) (i := 32) (v := some (a + 16)) hn
  refine g_aload_n 0 815 dX9_init_814 rfl rfl ?_
  refine g_bipush (60) 817 dX9_init_815 rfl rfl ?_
  refine i_newa (t := 0) 819 (a + 17) dX9_init_817 rfl rfl (by decide) q1_71 (by decide) rfl (by decide) (Nat.le_of_ble_eq_true rfl) (Nat.le_of_ble_eq_true rfl) hn ?_
  replace h1 := Ar.bl (Bl.new (c := 100) (z := 60) hn (by omega)) h1
  replace h2 := Ar.bl (Bl.new (c := 100) (z := 60) hn (by omega)) h2
  replace h3 := Ar.bl (Bl.new (c := 100) (z := 60) hn (by omega)) h3
  replace h4 := Ar.bl (Bl.new (c := 100) (z := 60) hn (by omega)) h4
  replace h5 := Ar.bl (Bl.new (c := 100) (z := 60) hn (by omega)) h5
  replace h7 := Ar.bl (Bl.new (c := 100) (z := 60) hn (by omega)) h7
  replace h8 := Ar.bl (Bl.new (c := 100) (z := 60) hn (by omega)) h8
  replace h9 := Ar.bl (Bl.new (c := 100) (z := 60) hn (by omega)) h9
  replace h10 := Ar.bl (Bl.new (c := 100) (z := 60) hn (by omega)) h10
  replace h11 := Ar.bl (Bl.new (c := 100) (z := 60) hn (by omega)) h11
  replace h12 := Ar.bl (Bl.new (c := 100) (z := 60) hn (by omega)) h12
  replace h13 := Ar.bl (Bl.new (c := 100) (z := 60) hn (by omega)) h13
  replace h14 := Ar.bl (Bl.new (c := 100) (z := 60) hn (by omega)) h14
  replace h15 := Ar.bl (Bl.new (c := 100) (z := 60) hn (by omega)) h15
  replace h16 := Ar.bl (Bl.new (c := 100) (z := 60) hn (by omega)) h16
  replace w6 := w6.bl (Bl.new (c := 100) (z := 60) hn (by omega))
  replace k6 := kn (c := 100) (z := 60) k6 hn (by omega)
  replace ho := ho.bl (Bl.new (c := 100) (z := 60) hn (by omega))
  replace hk := kn (c := 100) (z := 60) hk hn (by omega)
  replace hF := hF.new (c := 100) (z := 60) hn (by omega)
  have h17 := Ar.mk (c := 100) (z := 60) hn
  replace hn : g_nx _ = a + 18 := nn (c := 100) (z := 60) hn
  refine g_putRF 822 dX9_init_819 rfl flX9_78 hk rfl rfl rfl ?_
  replace h1 := Ar.bl (Bl.wr (c := a) (i := 33) (v := some (a + 17)) (by omega)) h1
  replace h2 := Ar.bl (Bl.wr (c := a) (i := 33) (v := some (a + 17)) (by omega)) h2
  replace h3 := Ar.bl (Bl.wr (c := a) (i := 33) (v := some (a + 17)) (by omega)) h3
  replace h4 := Ar.bl (Bl.wr (c := a) (i := 33) (v := some (a + 17)) (by omega)) h4
  replace h5 := Ar.bl (Bl.wr (c := a) (i := 33) (v := some (a + 17)) (by omega)) h5
  replace h7 := Ar.bl (Bl.wr (c := a) (i := 33) (v := some (a + 17)) (by omega)) h7
  replace h8 := Ar.bl (Bl.wr (c := a) (i := 33) (v := some (a + 17)) (by omega)) h8
  replace h9 := Ar.bl (Bl.wr (c := a) (i := 33) (v := some (a + 17)) (by omega)) h9
  replace h10 := Ar.bl (Bl.wr (c := a) (i := 33) (v := some (a + 17)) (by omega)) h10
  replace h11 := Ar.bl (Bl.wr (c := a) (i := 33) (v := some (a + 17)) (by omega)) h11
  replace h12 := Ar.bl (Bl.wr (c := a) (i := 33) (v := some (a + 17)) (by omega)) h12
  replace h13 := Ar.bl (Bl.wr (c := a) (i := 33) (v := some (a + 17)) (by omega)) h13
  replace h14 := Ar.bl (Bl.wr (c := a) (i := 33) (v := some (a + 17)) (by omega)) h14
  replace h15 := Ar.bl (Bl.wr (c := a) (i := 33) (v := some (a + 17)) (by omega)) h15
  replace h16 := Ar.bl (Bl.wr (c := a) (i := 33) (v := some (a + 17)) (by omega)) h16
  replace h17 := Ar.bl (Bl.wr (c := a) (i := 33) (v := some (a + 17)) (by omega)) h17
  replace w6 := w6.bl (Bl.wr (c := a) (i := 33) (v := some (a + 17)) (by omega))
  replace ho := ho.wr (i := 33) (v := some (a + 17))
  replace hF := hF.wr (i := 33) (v := some (a + 17)) (Nat.le_refl a)
  replace hk := kwr (c := a) (i := 33) (v := some (a + 17)) hk
  replace k6 := kwr (c := a) (i := 33) (v := some (a + 17)) k6
  replace hn := nwr (c := a) (i := 33) (v := some (a + 17)) hn
  exact iX9_init_c6 h1 h2 h3 h4 h5 h7 h8 h9 h10 h11 h12 h13 h14 h15 h16 h17 k6 w6 hk ho hF hn hQ
set_option maxRecDepth 10000 in
set_option maxHeartbeats 4000000 in
theorem iX9_init_c4 {X : gX} {d : Nat} {Q : Option Value → gM → Prop} {M0 M : gM} {a : Nat} (h1 : Ar M (a + 1) 100 7) (h2 : Ar M (a + 2) 100 5812) (h3 : Ar M (a + 3) 100 11624) (h4 : Ar M (a + 4) 102 2) (h5 : Ar M (a + 5) 100 564) (h7 : Ar M (a + 7) 101 400) (h8 : Ar M (a + 8) 100 5) (h9 : Ar M (a + 9) 100 401) (h10 : Ar M (a + 10) 100 401) (h11 : Ar M (a + 11) 100 401) (k6 : g_kd M (a + 6) = some (101, 113)) (w6 : Ow M (a + 6) (fun _ => none) (fun i => if i < 113 then g9w i else 0)) (hk : g_kd M a = some (9, 50)) (ho : Ow M a (va_up (va_up (va_up (va_up (va_up (va_up (va_up (va_up (va_up (va_up (va_up (fun _ => none) 1 (some (a + 1))) 2 (some (a + 2))) 3 (some (a + 3))) 4 (some (a + 4))) 5 (some (a + 5))) 7 (some (a + 6))) 11 (some (a + 7))) 12 (some (a + 8))) 15 (some (a + 9))) 16 (some (a + 10))) 17 (some (a + 11))) (va_up (fun _ => 0) 14 (-1))) (hF : Fr a M0 M) (hn : g_nx M = a + 12) (hQ : ∀ M2, Fr a M0 M2 → g_nx M2 = a + 24 → G9 M2 a → Q none M2) : Go X (d + 1) 23 26177 kX9_init Q 774 [(0, .ref a)] [] M 11 19730 := by
  refine g_aload_n 0 775 dX9_init_774 rfl rfl ?_
  refine g_bipush (7) 777 dX9_init_775 rfl rfl ?_
  refine i_newa (t := 0) 779 (a + 12) dX9_init_777 rfl rfl (by decide) q1_71 (by decide) rfl (by decide) (Nat.le_of_ble_eq_true rfl) (Nat.le_of_ble_eq_true rfl) hn ?_
  replace h1 := Ar.bl (Bl.new (c := 100) (z := 7) hn (by omega)) h1
  replace h2 := Ar.bl (Bl.new (c := 100) (z := 7) hn (by omega)) h2
  replace h3 := Ar.bl (Bl.new (c := 100) (z := 7) hn (by omega)) h3
  replace h4 := Ar.bl (Bl.new (c := 100) (z := 7) hn (by omega)) h4
  replace h5 := Ar.bl (Bl.new (c := 100) (z := 7) hn (by omega)) h5
  replace h7 := Ar.bl (Bl.new (c := 100) (z := 7) hn (by omega)) h7
  replace h8 := Ar.bl (Bl.new (c := 100) (z := 7) hn (by omega)) h8
  replace h9 := Ar.bl (Bl.new (c := 100) (z := 7) hn (by omega)) h9
  replace h10 := Ar.bl (Bl.new (c := 100) (z := 7) hn (by omega)) h10
  replace h11 := Ar.bl (Bl.new (c := 100) (z := 7) hn (by omega)) h11
  replace w6 := w6.bl (Bl.new (c := 100) (z := 7) hn (by omega))
  replace k6 := kn (c := 100) (z := 7) k6 hn (by omega)
  replace ho := ho.bl (Bl.new (c := 100) (z := 7) hn (by omega))
  replace hk := kn (c := 100) (z := 7) hk hn (by omega)
  replace hF := hF.new (c := 100) (z := 7) hn (by omega)
  have h12 := Ar.mk (c := 100) (z := 7) hn
  replace hn : g_nx _ = a + 13 := nn (c := 100) (z := 7) hn
  refine g_putRF 782 dX9_init_779 rfl flX9_63 hk rfl rfl rfl ?_
  replace h1 := Ar.bl (Bl.wr (c := a) (i := 26) (v := some (a + 12)) (by omega)) h1
  replace h2 := Ar.bl (Bl.wr (c := a) (i := 26) (v := some (a + 12)) (by omega)) h2
  replace h3 := Ar.bl (Bl.wr (c := a) (i := 26) (v := some (a + 12)) (by omega)) h3
  replace h4 := Ar.bl (Bl.wr (c := a) (i := 26) (v := some (a + 12)) (by omega)) h4
  replace h5 := Ar.bl (Bl.wr (c := a) (i := 26) (v := some (a + 12)) (by omega)) h5
  replace h7 := Ar.bl (Bl.wr (c := a) (i := 26) (v := some (a + 12)) (by omega)) h7
  replace h8 := Ar.bl (Bl.wr (c := a) (i := 26) (v := some (a + 12)) (by omega)) h8
  replace h9 := Ar.bl (Bl.wr (c := a) (i := 26) (v := some (a + 12)) (by omega)) h9
  replace h10 := Ar.bl (Bl.wr (c := a) (i := 26) (v := some (a + 12)) (by omega)) h10
  replace h11 := Ar.bl (Bl.wr (c := a) (i := 26) (v := some (a + 12)) (by omega)) h11
  replace h12 := Ar.bl (Bl.wr (c := a) (i := 26) (v := some (a + 12)) (by omega)) h12
  replace w6 := w6.bl (Bl.wr (c := a) (i := 26) (v := some (a + 12)) (by omega))
  replace ho := ho.wr (i := 26) (v := some (a + 12))
  replace hF := hF.wr (i := 26) (v := some (a + 12)) (Nat.le_refl a)
  replace hk := kwr (c := a) (i := 26) (v := some (a + 12)) hk
  replace k6 := kwr (c := a) (i := 26) (v := some (a + 12)) k6
  replace hn := nwr (c := a) (i := 26) (v := some (a + 12)) hn
  refine g_aload_n 0 783 dX9_init_782 rfl rfl ?_
  refine g_bipush (30) 785 dX9_init_783 rfl rfl ?_
  refine i_newa (t := 0) 787 (a + 13) dX9_init_785 rfl rfl (by decide) q1_71 (by decide) rfl (by decide) (Nat.le_of_ble_eq_true rfl) (Nat.le_of_ble_eq_true rfl) hn ?_
  replace h1 := Ar.bl (Bl.new (c := 100) (z := 30) hn (by omega)) h1
  replace h2 := Ar.bl (Bl.new (c := 100) (z := 30) hn (by omega)) h2
  replace h3 := Ar.bl (Bl.new (c := 100) (z := 30) hn (by omega)) h3
  replace h4 := Ar.bl (Bl.new (c := 100) (z := 30) hn (by omega)) h4
  replace h5 := Ar.bl (Bl.new (c := 100) (z := 30) hn (by omega)) h5
  replace h7 := Ar.bl (Bl.new (c := 100) (z := 30) hn (by omega)) h7
  replace h8 := Ar.bl (Bl.new (c := 100) (z := 30) hn (by omega)) h8
  replace h9 := Ar.bl (Bl.new (c := 100) (z := 30) hn (by omega)) h9
  replace h10 := Ar.bl (Bl.new (c := 100) (z := 30) hn (by omega)) h10
  replace h11 := Ar.bl (Bl.new (c := 100) (z := 30) hn (by omega)) h11
  replace h12 := Ar.bl (Bl.new (c := 100) (z := 30) hn (by omega)) h12
  replace w6 := w6.bl (Bl.new (c := 100) (z := 30) hn (by omega))
  replace k6 := kn (c := 100) (z := 30) k6 hn (by omega)
  replace ho := ho.bl (Bl.new (c := 100) (z := 30) hn (by omega))
  replace hk := kn (c := 100) (z := 30) hk hn (by omega)
  replace hF := hF.new (c := 100) (z := 30) hn (by omega)
  have h13 := Ar.mk (c := 100) (z := 30) hn
  replace hn : g_nx _ = a + 14 := nn (c := 100) (z := 30) hn
  refine g_putRF 790 dX9_init_787 rfl flX9_66 hk rfl rfl rfl ?_
  replace h1 := Ar.bl (Bl.wr (c := a) (i := 29) (v := some (a + 13)) (by omega)) h1
  replace h2 := Ar.bl (Bl.wr (c := a) (i := 29) (v := some (a + 13)) (by omega)) h2
  replace h3 := Ar.bl (Bl.wr (c := a) (i := 29) (v := some (a + 13)) (by omega)) h3
  replace h4 := Ar.bl (Bl.wr (c := a) (i := 29) (v := some (a + 13)) (by omega)) h4
  replace h5 := Ar.bl (Bl.wr (c := a) (i := 29) (v := some (a + 13)) (by omega)) h5
  replace h7 := Ar.bl (Bl.wr (c := a) (i := 29) (v := some (a + 13)) (by omega)) h7
  replace h8 := Ar.bl (Bl.wr (c := a) (i := 29) (v := some (a + 13)) (by omega)) h8
  replace h9 := Ar.bl (Bl.wr (c := a) (i := 29) (v := some (a + 13)) (by omega)) h9
  replace h10 := Ar.bl (Bl.wr (c := a) (i := 29) (v := some (a + 13)) (by omega)) h10
  replace h11 := Ar.bl (Bl.wr (c := a) (i := 29) (v := some (a + 13)) (by omega)) h11
  replace h12 := Ar.bl (Bl.wr (c := a) (i := 29) (v := some (a + 13)) (by omega)) h12
  replace h13 := Ar.bl (Bl.wr (c := a) (i := 29) (v := some (a + 13)) (by omega)) h13
  replace w6 := w6.bl (Bl.wr (c := a) (i := 29) (v := some (a + 13)) (by omega))
  replace ho := ho.wr (i := 29) (v := some (a + 13))
  replace hF := hF.wr (i := 29) (v := some (a + 13)) (Nat.le_refl a)
  replace hk := kwr (c := a) (i := 29) (v := some (a + 13)) hk
  replace k6 := kwr (c := a) (i := 29) (v := some (a + 13)) k6
  replace hn := nwr (c := a) (i := 29) (v := some (a + 13)) hn
  refine g_aload_n 0 791 dX9_init_790 rfl rfl ?_
  refine g_bipush (30) 793 dX9_init_791 rfl rfl ?_
  refine i_newa (t := 0) 795 (a + 14) dX9_init_793 rfl rfl (by decide) q1_71 (by decide) rfl (by decide) (Nat.le_of_ble_eq_true rfl) (Nat.le_of_ble_eq_true rfl) hn ?_
  replace h1 := Ar.bl (Bl.new (c := 100) (z := 30) hn (by omega)) h1
  replace h2 := Ar.bl (Bl.new (c := 100) (z := 30) hn (by omega)) h2
  replace h3 := Ar.bl (Bl.new (c := 100) (z := 30) hn (by omega)) h3
  replace h4 := Ar.bl (Bl.new (c := 100) (z := 30) hn (by omega)) h4
  replace h5 := Ar.bl (Bl.new (c := 100) (z := 30) hn (by omega)) h5
  replace h7 := Ar.bl (Bl.new (c := 100) (z := 30) hn (by omega)) h7
  replace h8 := Ar.bl (Bl.new (c := 100) (z := 30) hn (by omega)) h8
  replace h9 := Ar.bl (Bl.new (c := 100) (z := 30) hn (by omega)) h9
  replace h10 := Ar.bl (Bl.new (c := 100) (z := 30) hn (by omega)) h10
  replace h11 := Ar.bl (Bl.new (c := 100) (z := 30) hn (by omega)) h11
  replace h12 := Ar.bl (Bl.new (c := 100) (z := 30) hn (by omega)) h12
  replace h13 := Ar.bl (Bl.new (c := 100) (z := 30) hn (by omega)) h13
  replace w6 := w6.bl (Bl.new (c := 100) (z := 30) hn (by omega))
  replace k6 := kn (c := 100) (z := 30) k6 hn (by omega)
  replace ho := ho.bl (Bl.new (c := 100) (z := 30) hn (by omega))
  replace hk := kn (c := 100) (z := 30) hk hn (by omega)
  replace hF := hF.new (c := 100) (z := 30) hn (by omega)
  have h14 := Ar.mk (c := 100) (z := 30) hn
  replace hn : g_nx _ = a + 15 := nn (c := 100) (z := 30) hn
  refine g_putRF 798 dX9_init_795 rfl flX9_69 hk rfl rfl rfl ?_
  replace h1 := Ar.bl (Bl.wr (c := a) (i := 30) (v := some (a + 14)) (by omega)) h1
  replace h2 := Ar.bl (Bl.wr (c := a) (i := 30) (v := some (a + 14)) (by omega)) h2
  replace h3 := Ar.bl (Bl.wr (c := a) (i := 30) (v := some (a + 14)) (by omega)) h3
  replace h4 := Ar.bl (Bl.wr (c := a) (i := 30) (v := some (a + 14)) (by omega)) h4
  replace h5 := Ar.bl (Bl.wr (c := a) (i := 30) (v := some (a + 14)) (by omega)) h5
  replace h7 := Ar.bl (Bl.wr (c := a) (i := 30) (v := some (a + 14)) (by omega)) h7
  replace h8 := Ar.bl (Bl.wr (c := a) (i := 30) (v := some (a + 14)) (by omega)) h8
  replace h9 := Ar.bl (Bl.wr (c := a) (i := 30) (v := some (a + 14)) (by omega)) h9
  replace h10 := Ar.bl (Bl.wr (c := a) (i := 30) (v := some (a + 14)) (by omega)) h10
  replace h11 := Ar.bl (Bl.wr (c := a) (i := 30) (v := some (a + 14)) (by omega)) h11
  replace h12 := Ar.bl (Bl.wr (c := a) (i := 30) (v := some (a + 14)) (by omega)) h12
  replace h13 := Ar.bl (Bl.wr (c := a) (i := 30) (v := some (a + 14)) (by omega)) h13
  replace h14 := Ar.bl (Bl.wr (c := a) (i := 30) (v := some (a + 14)) (by omega)) h14
  replace w6 := w6.bl (Bl.wr (c := a) (i := 30) (v := some (a + 14)) (by omega))
  replace ho := ho.wr (i := 30) (v := some (a + 14))
  replace hF := hF.wr (i := 30) (v := some (a + 14)) (Nat.le_refl a)
  replace hk := kwr (c := a) (i := 30) (v := some (a + 14)) hk
  replace k6 := kwr (c := a) (i := 30) (v := some (a + 14)) k6
  replace hn := nwr (c := a) (i := 30) (v := some (a + 14)) hn
  exact iX9_init_c5 h1 h2 h3 h4 h5 h7 h8 h9 h10 h11 h12 h13 h14 k6 w6 hk ho hF hn hQ
set_option maxRecDepth 10000 in
set_option maxHeartbeats 4000000 in
theorem iX9_init_c3 {X : gX} {d : Nat} {Q : Option Value → gM → Prop} {M0 M : gM} {a : Nat} (h1 : Ar M (a + 1) 100 7) (h2 : Ar M (a + 2) 100 5812) (h3 : Ar M (a + 3) 100 11624) (h4 : Ar M (a + 4) 102 2) (h5 : Ar M (a + 5) 100 564) (h7 : Ar M (a + 7) 101 400) (h8 : Ar M (a + 8) 100 5) (k6 : g_kd M (a + 6) = some (101, 113)) (w6 : Ow M (a + 6) (fun _ => none) (fun i => if i < 113 then g9w i else 0)) (hk : g_kd M a = some (9, 50)) (ho : Ow M a (va_up (va_up (va_up (va_up (va_up (va_up (va_up (va_up (fun _ => none) 1 (some (a + 1))) 2 (some (a + 2))) 3 (some (a + 3))) 4 (some (a + 4))) 5 (some (a + 5))) 7 (some (a + 6))) 11 (some (a + 7))) 12 (some (a + 8))) (va_up (fun _ => 0) 14 (-1))) (hF : Fr a M0 M) (hn : g_nx M = a + 9) (hQ : ∀ M2, Fr a M0 M2 → g_nx M2 = a + 24 → G9 M2 a → Q none M2) : Go X (d + 1) 23 26177 kX9_init Q 747 [(0, .ref a)] [] M 8 18527 := by
  refine g_aload_n 0 748 dX9_init_747 rfl rfl ?_
  refine g_sipush (401) 751 dX9_init_748 rfl rfl ?_
  refine i_newa (t := 0) 753 (a + 9) dX9_init_751 rfl rfl (by decide) q1_71 (by decide) rfl (by decide) (Nat.le_of_ble_eq_true rfl) (Nat.le_of_ble_eq_true rfl) hn ?_
  replace h1 := Ar.bl (Bl.new (c := 100) (z := 401) hn (by omega)) h1
  replace h2 := Ar.bl (Bl.new (c := 100) (z := 401) hn (by omega)) h2
  replace h3 := Ar.bl (Bl.new (c := 100) (z := 401) hn (by omega)) h3
  replace h4 := Ar.bl (Bl.new (c := 100) (z := 401) hn (by omega)) h4
  replace h5 := Ar.bl (Bl.new (c := 100) (z := 401) hn (by omega)) h5
  replace h7 := Ar.bl (Bl.new (c := 100) (z := 401) hn (by omega)) h7
  replace h8 := Ar.bl (Bl.new (c := 100) (z := 401) hn (by omega)) h8
  replace w6 := w6.bl (Bl.new (c := 100) (z := 401) hn (by omega))
  replace k6 := kn (c := 100) (z := 401) k6 hn (by omega)
  replace ho := ho.bl (Bl.new (c := 100) (z := 401) hn (by omega))
  replace hk := kn (c := 100) (z := 401) hk hn (by omega)
  replace hF := hF.new (c := 100) (z := 401) hn (by omega)
  have h9 := Ar.mk (c := 100) (z := 401) hn
  replace hn : g_nx _ = a + 10 := nn (c := 100) (z := 401) hn
  refine g_putRF 756 dX9_init_753 rfl flX9_54 hk rfl rfl rfl ?_
  replace h1 := Ar.bl (Bl.wr (c := a) (i := 15) (v := some (a + 9)) (by omega)) h1
  replace h2 := Ar.bl (Bl.wr (c := a) (i := 15) (v := some (a + 9)) (by omega)) h2
  replace h3 := Ar.bl (Bl.wr (c := a) (i := 15) (v := some (a + 9)) (by omega)) h3
  replace h4 := Ar.bl (Bl.wr (c := a) (i := 15) (v := some (a + 9)) (by omega)) h4
  replace h5 := Ar.bl (Bl.wr (c := a) (i := 15) (v := some (a + 9)) (by omega)) h5
  replace h7 := Ar.bl (Bl.wr (c := a) (i := 15) (v := some (a + 9)) (by omega)) h7
  replace h8 := Ar.bl (Bl.wr (c := a) (i := 15) (v := some (a + 9)) (by omega)) h8
  replace h9 := Ar.bl (Bl.wr (c := a) (i := 15) (v := some (a + 9)) (by omega)) h9
  replace w6 := w6.bl (Bl.wr (c := a) (i := 15) (v := some (a + 9)) (by omega))
  replace ho := ho.wr (i := 15) (v := some (a + 9))
  replace hF := hF.wr (i := 15) (v := some (a + 9)) (Nat.le_refl a)
  replace hk := kwr (c := a) (i := 15) (v := some (a + 9)) hk
  replace k6 := kwr (c := a) (i := 15) (v := some (a + 9)) k6
  replace hn := nwr (c := a) (i := 15) (v := some (a + 9)) hn
  refine g_aload_n 0 757 dX9_init_756 rfl rfl ?_
  refine g_sipush (401) 760 dX9_init_757 rfl rfl ?_
  refine i_newa (t := 0) 762 (a + 10) dX9_init_760 rfl rfl (by decide) q1_71 (by decide) rfl (by decide) (Nat.le_of_ble_eq_true rfl) (Nat.le_of_ble_eq_true rfl) hn ?_
  replace h1 := Ar.bl (Bl.new (c := 100) (z := 401) hn (by omega)) h1
  replace h2 := Ar.bl (Bl.new (c := 100) (z := 401) hn (by omega)) h2
  replace h3 := Ar.bl (Bl.new (c := 100) (z := 401) hn (by omega)) h3
  replace h4 := Ar.bl (Bl.new (c := 100) (z := 401) hn (by omega)) h4
  replace h5 := Ar.bl (Bl.new (c := 100) (z := 401) hn (by omega)) h5
  replace h7 := Ar.bl (Bl.new (c := 100) (z := 401) hn (by omega)) h7
  replace h8 := Ar.bl (Bl.new (c := 100) (z := 401) hn (by omega)) h8
  replace h9 := Ar.bl (Bl.new (c := 100) (z := 401) hn (by omega)) h9
  replace w6 := w6.bl (Bl.new (c := 100) (z := 401) hn (by omega))
  replace k6 := kn (c := 100) (z := 401) k6 hn (by omega)
  replace ho := ho.bl (Bl.new (c := 100) (z := 401) hn (by omega))
  replace hk := kn (c := 100) (z := 401) hk hn (by omega)
  replace hF := hF.new (c := 100) (z := 401) hn (by omega)
  have h10 := Ar.mk (c := 100) (z := 401) hn
  replace hn : g_nx _ = a + 11 := nn (c := 100) (z := 401) hn
  refine g_putRF 765 dX9_init_762 rfl flX9_57 hk rfl rfl rfl ?_
  replace h1 := Ar.bl (Bl.wr (c := a) (i := 16) (v := some (a + 10)) (by omega)) h1
  replace h2 := Ar.bl (Bl.wr (c := a) (i := 16) (v := some (a + 10)) (by omega)) h2
  replace h3 := Ar.bl (Bl.wr (c := a) (i := 16) (v := some (a + 10)) (by omega)) h3
  replace h4 := Ar.bl (Bl.wr (c := a) (i := 16) (v := some (a + 10)) (by omega)) h4
  replace h5 := Ar.bl (Bl.wr (c := a) (i := 16) (v := some (a + 10)) (by omega)) h5
  replace h7 := Ar.bl (Bl.wr (c := a) (i := 16) (v := some (a + 10)) (by omega)) h7
  replace h8 := Ar.bl (Bl.wr (c := a) (i := 16) (v := some (a + 10)) (by omega)) h8
  replace h9 := Ar.bl (Bl.wr (c := a) (i := 16) (v := some (a + 10)) (by omega)) h9
  replace h10 := Ar.bl (Bl.wr (c := a) (i := 16) (v := some (a + 10)) (by omega)) h10
  replace w6 := w6.bl (Bl.wr (c := a) (i := 16) (v := some (a + 10)) (by omega))
  replace ho := ho.wr (i := 16) (v := some (a + 10))
  replace hF := hF.wr (i := 16) (v := some (a + 10)) (Nat.le_refl a)
  replace hk := kwr (c := a) (i := 16) (v := some (a + 10)) hk
  replace k6 := kwr (c := a) (i := 16) (v := some (a + 10)) k6
  replace hn := nwr (c := a) (i := 16) (v := some (a + 10)) hn
  refine g_aload_n 0 766 dX9_init_765 rfl rfl ?_
  refine g_sipush (401) 769 dX9_init_766 rfl rfl ?_
  refine i_newa (t := 0) 771 (a + 11) dX9_init_769 rfl rfl (by decide) q1_71 (by decide) rfl (by decide) (Nat.le_of_ble_eq_true rfl) (Nat.le_of_ble_eq_true rfl) hn ?_
  replace h1 := Ar.bl (Bl.new (c := 100) (z := 401) hn (by omega)) h1
  replace h2 := Ar.bl (Bl.new (c := 100) (z := 401) hn (by omega)) h2
  replace h3 := Ar.bl (Bl.new (c := 100) (z := 401) hn (by omega)) h3
  replace h4 := Ar.bl (Bl.new (c := 100) (z := 401) hn (by omega)) h4
  replace h5 := Ar.bl (Bl.new (c := 100) (z := 401) hn (by omega)) h5
  replace h7 := Ar.bl (Bl.new (c := 100) (z := 401) hn (by omega)) h7
  replace h8 := Ar.bl (Bl.new (c := 100) (z := 401) hn (by omega)) h8
  replace h9 := Ar.bl (Bl.new (c := 100) (z := 401) hn (by omega)) h9
  replace h10 := Ar.bl (Bl.new (c := 100) (z := 401) hn (by omega)) h10
  replace w6 := w6.bl (Bl.new (c := 100) (z := 401) hn (by omega))
  replace k6 := kn (c := 100) (z := 401) k6 hn (by omega)
  replace ho := ho.bl (Bl.new (c := 100) (z := 401) hn (by omega))
  replace hk := kn (c := 100) (z := 401) hk hn (by omega)
  replace hF := hF.new (c := 100) (z := 401) hn (by omega)
  have h11 := Ar.mk (c := 100) (z := 401) hn
  replace hn : g_nx _ = a + 12 := nn (c := 100) (z := 401) hn
  refine g_putRF 774 dX9_init_771 rfl flX9_60 hk rfl rfl rfl ?_
  replace h1 := Ar.bl (Bl.wr (c := a) (i := 17) (v := some (a + 11)) (by omega)) h1
  replace h2 := Ar.bl (Bl.wr (c := a) (i := 17) (v := some (a + 11)) (by omega)) h2
  replace h3 := Ar.bl (Bl.wr (c := a) (i := 17) (v := some (a + 11)) (by omega)) h3
  replace h4 := Ar.bl (Bl.wr (c := a) (i := 17) (v := some (a + 11)) (by omega)) h4
  replace h5 := Ar.bl (Bl.wr (c := a) (i := 17) (v := some (a + 11)) (by omega)) h5
  replace h7 := Ar.bl (Bl.wr (c := a) (i := 17) (v := some (a + 11)) (by omega)) h7
  replace h8 := Ar.bl (Bl.wr (c := a) (i := 17) (v := some (a + 11)) (by omega)) h8
  replace h9 := Ar.bl (Bl.wr (c := a) (i := 17) (v := some (a + 11)) (by omega)) h9
  replace h10 := Ar.bl (Bl.wr (c := a) (i := 17) (v := some (a + 11)) (by omega)) h10
  replace h11 := Ar.bl (Bl.wr (c := a) (i := 17) (v := some (a + 11)) (by omega)) h11
  replace w6 := w6.bl (Bl.wr (c := a) (i := 17) (v := some (a + 11)) (by omega))
  replace ho := ho.wr (i := 17) (v := some (a + 11))
  replace hF := hF.wr (i := 17) (v := some (a + 11)) (Nat.le_refl a)
  replace hk := kwr (c := a) (i := 17) (v := some (a + 11)) hk
  replace k6 := kwr (c := a) (i := 17) (v := some (a + 11)) k6
  replace hn := nwr (c := a) (i := 17) (v := some (a + 11)) hn
  exact iX9_init_c4 h1 h2 h3 h4 h5 h7 h8 h9 h10 h11 k6 w6 hk ho hF hn hQ
set_option maxRecDepth 10000 in
set_option maxHeartbeats 4000000 in
theorem iX9_init_c2 {X : gX} {d : Nat} {Q : Option Value → gM → Prop} {M0 M : gM} {a : Nat} (h1 : Ar M (a + 1) 100 7) (h2 : Ar M (a + 2) 100 5812) (h3 : Ar M (a + 3) 100 11624) (h4 : Ar M (a + 4) 102 2) (h5 : Ar M (a + 5) 100 564) (k6 : g_kd M (a + 6) = some (101, 113)) (w6 : Ow M (a + 6) (fun _ => none) (fun i => if i < 113 then g9w i else 0)) (hk : g_kd M a = some (9, 50)) (ho : Ow M a (va_up (va_up (va_up (va_up (va_up (va_up (fun _ => none) 1 (some (a + 1))) 2 (some (a + 2))) 3 (some (a + 3))) 4 (some (a + 4))) 5 (some (a + 5))) 7 (some (a + 6))) (fun _ => 0)) (hF : Fr a M0 M) (hn : g_nx M = a + 7) (hQ : ∀ M2, Fr a M0 M2 → g_nx M2 = a + 24 → G9 M2 a → Q none M2) : Go X (d + 1) 23 26177 kX9_init Q 726 [(0, .ref a)] [] M 6 18122 := by
  refine g_aload_n 0 727 dX9_init_726 rfl rfl ?_
  refine g_sipush (400) 730 dX9_init_727 rfl rfl ?_
  refine i_newa (t := 1) 732 (a + 7) dX9_init_730 rfl rfl (by decide) q3_181 (by decide) rfl (by decide) (Nat.le_of_ble_eq_true rfl) (Nat.le_of_ble_eq_true rfl) hn ?_
  replace h1 := Ar.bl (Bl.new (c := 101) (z := 400) hn (by omega)) h1
  replace h2 := Ar.bl (Bl.new (c := 101) (z := 400) hn (by omega)) h2
  replace h3 := Ar.bl (Bl.new (c := 101) (z := 400) hn (by omega)) h3
  replace h4 := Ar.bl (Bl.new (c := 101) (z := 400) hn (by omega)) h4
  replace h5 := Ar.bl (Bl.new (c := 101) (z := 400) hn (by omega)) h5
  replace w6 := w6.bl (Bl.new (c := 101) (z := 400) hn (by omega))
  replace k6 := kn (c := 101) (z := 400) k6 hn (by omega)
  replace ho := ho.bl (Bl.new (c := 101) (z := 400) hn (by omega))
  replace hk := kn (c := 101) (z := 400) hk hn (by omega)
  replace hF := hF.new (c := 101) (z := 400) hn (by omega)
  have h7 := Ar.mk (c := 101) (z := 400) hn
  replace hn : g_nx _ = a + 8 := nn (c := 101) (z := 400) hn
  refine g_putRF 735 dX9_init_732 rfl flX9_45 hk rfl rfl rfl ?_
  replace h1 := Ar.bl (Bl.wr (c := a) (i := 11) (v := some (a + 7)) (by omega)) h1
  replace h2 := Ar.bl (Bl.wr (c := a) (i := 11) (v := some (a + 7)) (by omega)) h2
  replace h3 := Ar.bl (Bl.wr (c := a) (i := 11) (v := some (a + 7)) (by omega)) h3
  replace h4 := Ar.bl (Bl.wr (c := a) (i := 11) (v := some (a + 7)) (by omega)) h4
  replace h5 := Ar.bl (Bl.wr (c := a) (i := 11) (v := some (a + 7)) (by omega)) h5
  replace h7 := Ar.bl (Bl.wr (c := a) (i := 11) (v := some (a + 7)) (by omega)) h7
  replace w6 := w6.bl (Bl.wr (c := a) (i := 11) (v := some (a + 7)) (by omega))
  replace ho := ho.wr (i := 11) (v := some (a + 7))
  replace hF := hF.wr (i := 11) (v := some (a + 7)) (Nat.le_refl a)
  replace hk := kwr (c := a) (i := 11) (v := some (a + 7)) hk
  replace k6 := kwr (c := a) (i := 11) (v := some (a + 7)) k6
  replace hn := nwr (c := a) (i := 11) (v := some (a + 7)) hn
  refine g_aload_n 0 736 dX9_init_735 rfl rfl ?_
  refine g_iconst (5) 737 dX9_init_736 rfl rfl ?_
  refine i_newa (t := 0) 739 (a + 8) dX9_init_737 rfl rfl (by decide) q1_71 (by decide) rfl (by decide) (Nat.le_of_ble_eq_true rfl) (Nat.le_of_ble_eq_true rfl) hn ?_
  replace h1 := Ar.bl (Bl.new (c := 100) (z := 5) hn (by omega)) h1
  replace h2 := Ar.bl (Bl.new (c := 100) (z := 5) hn (by omega)) h2
  replace h3 := Ar.bl (Bl.new (c := 100) (z := 5) hn (by omega)) h3
  replace h4 := Ar.bl (Bl.new (c := 100) (z := 5) hn (by omega)) h4
  replace h5 := Ar.bl (Bl.new (c := 100) (z := 5) hn (by omega)) h5
  replace h7 := Ar.bl (Bl.new (c := 100) (z := 5) hn (by omega)) h7
  replace w6 := w6.bl (Bl.new (c := 100) (z := 5) hn (by omega))
  replace k6 := kn (c := 100) (z := 5) k6 hn (by omega)
  replace ho := ho.bl (Bl.new (c := 100) (z := 5) hn (by omega))
  replace hk := kn (c := 100) (z := 5) hk hn (by omega)
  replace hF := hF.new (c := 100) (z := 5) hn (by omega)
  have h8 := Ar.mk (c := 100) (z := 5) hn
  replace hn : g_nx _ = a + 9 := nn (c := 100) (z := 5) hn
  refine g_putRF 742 dX9_init_739 rfl flX9_48 hk rfl rfl rfl ?_
  replace h1 := Ar.bl (Bl.wr (c := a) (i := 12) (v := some (a + 8)) (by omega)) h1
  replace h2 := Ar.bl (Bl.wr (c := a) (i := 12) (v := some (a + 8)) (by omega)) h2
  replace h3 := Ar.bl (Bl.wr (c := a) (i := 12) (v := some (a + 8)) (by omega)) h3
  replace h4 := Ar.bl (Bl.wr (c := a) (i := 12) (v := some (a + 8)) (by omega)) h4
  replace h5 := Ar.bl (Bl.wr (c := a) (i := 12) (v := some (a + 8)) (by omega)) h5
  replace h7 := Ar.bl (Bl.wr (c := a) (i := 12) (v := some (a + 8)) (by omega)) h7
  replace h8 := Ar.bl (Bl.wr (c := a) (i := 12) (v := some (a + 8)) (by omega)) h8
  replace w6 := w6.bl (Bl.wr (c := a) (i := 12) (v := some (a + 8)) (by omega))
  replace ho := ho.wr (i := 12) (v := some (a + 8))
  replace hF := hF.wr (i := 12) (v := some (a + 8)) (Nat.le_refl a)
  replace hk := kwr (c := a) (i := 12) (v := some (a + 8)) hk
  replace k6 := kwr (c := a) (i := 12) (v := some (a + 8)) k6
  replace hn := nwr (c := a) (i := 12) (v := some (a + 8)) hn
  refine g_aload_n 0 743 dX9_init_742 rfl rfl ?_
  refine g_iconst (-1) 744 dX9_init_743 rfl rfl ?_
  refine g_putI 747 dX9_init_744 rfl flX9_51 hk ?_
  replace h1 := Ar.bl (Bl.wi (c := a) (i := 14) (v := (-1)) (by omega)) h1
  replace h2 := Ar.bl (Bl.wi (c := a) (i := 14) (v := (-1)) (by omega)) h2
  replace h3 := Ar.bl (Bl.wi (c := a) (i := 14) (v := (-1)) (by omega)) h3
  replace h4 := Ar.bl (Bl.wi (c := a) (i := 14) (v := (-1)) (by omega)) h4
  replace h5 := Ar.bl (Bl.wi (c := a) (i := 14) (v := (-1)) (by omega)) h5
  replace h7 := Ar.bl (Bl.wi (c := a) (i := 14) (v := (-1)) (by omega)) h7
  replace h8 := Ar.bl (Bl.wi (c := a) (i := 14) (v := (-1)) (by omega)) h8
  replace w6 := w6.bl (Bl.wi (c := a) (i := 14) (v := (-1)) (by omega))
  replace ho := ho.wi (i := 14) (v := (-1))
  replace hF := hF.wi (i := 14) (v := (-1)) (Nat.le_refl a)
  replace hk := kwi (c := a) (i := 14) (v := (-1)) hk
  replace k6 := kwi (c := a) (i := 14) (v := (-1)) k6
  replace hn := nwi (c := a) (i := 14) (v := (-1)) hn
  exact iX9_init_c3 h1 h2 h3 h4 h5 h7 h8 k6 w6 hk ho hF hn hQ
set_option maxRecDepth 10000 in
set_option maxHeartbeats 4000000 in
theorem iX9_init_c1 {X : gX} {d : Nat} {Q : Option Value → gM → Prop} {M0 M : gM} {a : Nat} (h1 : Ar M (a + 1) 100 7) (h2 : Ar M (a + 2) 100 5812) (h3 : Ar M (a + 3) 100 11624) (hk : g_kd M a = some (9, 50)) (ho : Ow M a (va_up (va_up (va_up (fun _ => none) 1 (some (a + 1))) 2 (some (a + 2))) 3 (some (a + 3))) (fun _ => 0)) (hF : Fr a M0 M) (hn : g_nx M = a + 4) (hQ : ∀ M2, Fr a M0 M2 → g_nx M2 = a + 24 → G9 M2 a → Q none M2) : Go X (d + 1) 23 26177 kX9_init Q 30 [(0, .ref a)] [] M 3 17443 := by
  refine g_aload_n 0 31 dX9_init_30 rfl rfl ?_
  refine g_iconst (2) 32 dX9_init_31 rfl rfl ?_
  refine i_newa (t := 2) 34 (a + 4) dX9_init_32 rfl rfl (by decide) q2_87 (by decide) rfl (by decide) (Nat.le_of_ble_eq_true rfl) (Nat.le_of_ble_eq_true rfl) hn ?_
  replace h1 := Ar.bl (Bl.new (c := 102) (z := 2) hn (by omega)) h1
  replace h2 := Ar.bl (Bl.new (c := 102) (z := 2) hn (by omega)) h2
  replace h3 := Ar.bl (Bl.new (c := 102) (z := 2) hn (by omega)) h3
  replace ho := ho.bl (Bl.new (c := 102) (z := 2) hn (by omega))
  replace hk := kn (c := 102) (z := 2) hk hn (by omega)
  replace hF := hF.new (c := 102) (z := 2) hn (by omega)
  have h4 := Ar.mk (c := 102) (z := 2) hn
  replace hn : g_nx _ = a + 5 := nn (c := 102) (z := 2) hn
  refine g_putRF 37 dX9_init_34 rfl flX9_34 hk rfl rfl rfl ?_
  replace h1 := Ar.bl (Bl.wr (c := a) (i := 4) (v := some (a + 4)) (by omega)) h1
  replace h2 := Ar.bl (Bl.wr (c := a) (i := 4) (v := some (a + 4)) (by omega)) h2
  replace h3 := Ar.bl (Bl.wr (c := a) (i := 4) (v := some (a + 4)) (by omega)) h3
  replace h4 := Ar.bl (Bl.wr (c := a) (i := 4) (v := some (a + 4)) (by omega)) h4
  replace ho := ho.wr (i := 4) (v := some (a + 4))
  replace hF := hF.wr (i := 4) (v := some (a + 4)) (Nat.le_refl a)
  replace hk := kwr (c := a) (i := 4) (v := some (a + 4)) hk
  replace hn := nwr (c := a) (i := 4) (v := some (a + 4)) hn
  refine g_aload_n 0 38 dX9_init_37 rfl rfl ?_
  refine g_sipush (564) 41 dX9_init_38 rfl rfl ?_
  refine i_newa (t := 0) 43 (a + 5) dX9_init_41 rfl rfl (by decide) q1_71 (by decide) rfl (by decide) (Nat.le_of_ble_eq_true rfl) (Nat.le_of_ble_eq_true rfl) hn ?_
  replace h1 := Ar.bl (Bl.new (c := 100) (z := 564) hn (by omega)) h1
  replace h2 := Ar.bl (Bl.new (c := 100) (z := 564) hn (by omega)) h2
  replace h3 := Ar.bl (Bl.new (c := 100) (z := 564) hn (by omega)) h3
  replace h4 := Ar.bl (Bl.new (c := 100) (z := 564) hn (by omega)) h4
  replace ho := ho.bl (Bl.new (c := 100) (z := 564) hn (by omega))
  replace hk := kn (c := 100) (z := 564) hk hn (by omega)
  replace hF := hF.new (c := 100) (z := 564) hn (by omega)
  have h5 := Ar.mk (c := 100) (z := 564) hn
  replace hn : g_nx _ = a + 6 := nn (c := 100) (z := 564) hn
  refine g_putRF 46 dX9_init_43 rfl flX9_38 hk rfl rfl rfl ?_
  replace h1 := Ar.bl (Bl.wr (c := a) (i := 5) (v := some (a + 5)) (by omega)) h1
  replace h2 := Ar.bl (Bl.wr (c := a) (i := 5) (v := some (a + 5)) (by omega)) h2
  replace h3 := Ar.bl (Bl.wr (c := a) (i := 5) (v := some (a + 5)) (by omega)) h3
  replace h4 := Ar.bl (Bl.wr (c := a) (i := 5) (v := some (a + 5)) (by omega)) h4
  replace h5 := Ar.bl (Bl.wr (c := a) (i := 5) (v := some (a + 5)) (by omega)) h5
  replace ho := ho.wr (i := 5) (v := some (a + 5))
  replace hF := hF.wr (i := 5) (v := some (a + 5)) (Nat.le_refl a)
  replace hk := kwr (c := a) (i := 5) (v := some (a + 5)) hk
  replace hn := nwr (c := a) (i := 5) (v := some (a + 5)) hn
  refine g_aload_n 0 47 dX9_init_46 rfl rfl ?_
  refine g_bipush (113) 49 dX9_init_47 rfl rfl ?_
  refine i_newa (t := 1) 51 (a + 6) dX9_init_49 rfl rfl (by decide) q3_181 (by decide) rfl (by decide) (Nat.le_of_ble_eq_true rfl) (Nat.le_of_ble_eq_true rfl) hn ?_
  replace h1 := Ar.bl (Bl.new (c := 101) (z := 113) hn (by omega)) h1
  replace h2 := Ar.bl (Bl.new (c := 101) (z := 113) hn (by omega)) h2
  replace h3 := Ar.bl (Bl.new (c := 101) (z := 113) hn (by omega)) h3
  replace h4 := Ar.bl (Bl.new (c := 101) (z := 113) hn (by omega)) h4
  replace h5 := Ar.bl (Bl.new (c := 101) (z := 113) hn (by omega)) h5
  replace ho := ho.bl (Bl.new (c := 101) (z := 113) hn (by omega))
  replace hk := kn (c := 101) (z := 113) hk hn (by omega)
  replace hF := hF.new (c := 101) (z := 113) hn (by omega)
  have h6 := Ar.mk (c := 101) (z := 113) hn
  replace hn : g_nx _ = a + 7 := nn (c := 101) (z := 113) hn
  refine w9seq h6.1 (Nat.le_of_ble_eq_true rfl) (Nat.le_of_ble_eq_true rfl) ?_
  replace h1 := Ar.bl (Bl.m9 (a := a) (j := 113) (by omega)) h1
  replace h2 := Ar.bl (Bl.m9 (a := a) (j := 113) (by omega)) h2
  replace h3 := Ar.bl (Bl.m9 (a := a) (j := 113) (by omega)) h3
  replace h4 := Ar.bl (Bl.m9 (a := a) (j := 113) (by omega)) h4
  replace h5 := Ar.bl (Bl.m9 (a := a) (j := 113) (by omega)) h5
  have w6 := Ow.m9 h6
  have k6 := k9 (a := a) (j := 113) h6.1
  replace ho := ho.bl (Bl.m9 (a := a) (j := 113) (by omega))
  replace hk := k9 (a := a) (j := 113) hk
  replace hF := Fr.m9 (j := 113) hF
  replace hn := n9 (a := a) (j := 113) hn
  refine g_putRF 726 dX9_init_723 rfl flX9_41 hk rfl rfl rfl ?_
  replace h1 := Ar.bl (Bl.wr (c := a) (i := 7) (v := some (a + 6)) (by omega)) h1
  replace h2 := Ar.bl (Bl.wr (c := a) (i := 7) (v := some (a + 6)) (by omega)) h2
  replace h3 := Ar.bl (Bl.wr (c := a) (i := 7) (v := some (a + 6)) (by omega)) h3
  replace h4 := Ar.bl (Bl.wr (c := a) (i := 7) (v := some (a + 6)) (by omega)) h4
  replace h5 := Ar.bl (Bl.wr (c := a) (i := 7) (v := some (a + 6)) (by omega)) h5
  replace w6 := w6.bl (Bl.wr (c := a) (i := 7) (v := some (a + 6)) (by omega))
  replace ho := ho.wr (i := 7) (v := some (a + 6))
  replace hF := hF.wr (i := 7) (v := some (a + 6)) (Nat.le_refl a)
  replace hk := kwr (c := a) (i := 7) (v := some (a + 6)) hk
  replace k6 := kwr (c := a) (i := 7) (v := some (a + 6)) k6
  replace hn := nwr (c := a) (i := 7) (v := some (a + 6)) hn
  exact iX9_init_c2 h1 h2 h3 h4 h5 k6 w6 hk ho hF hn hQ
set_option maxRecDepth 10000 in
set_option maxHeartbeats 4000000 in
theorem iX9_init {X : gX} {d : Nat} {Q : Option Value → gM → Prop} {M : gM} {a : Nat} (hr : Ar M a 9 50) (hn : g_nx M = a + 1) (hQ : ∀ M2, Fr a M M2 → g_nx M2 = a + 24 → G9 M2 a → Q none M2) : Cn X (d + 1) 23 26177 kX9_init [.ref a] M Q := by
  refine g_meth rfl rfl (Nat.le_of_ble_eq_true rfl) rfl ?_
  have hk := hr.1
  have ho := Ow.ar hr
  have hF : Fr a M M := Fr.rf
  refine g_aload_n 0 1 dX9_init_0 rfl rfl ?_
  refine g_objInit 4 dX9_init_1 rfl q5_1 q1_24 q1_25 (Nat.le_of_ble_eq_true rfl) ?_
  refine g_aload_n 0 5 dX9_init_4 rfl rfl ?_
  refine g_bipush (7) 7 dX9_init_5 rfl rfl ?_
  refine i_newa (t := 0) 9 (a + 1) dX9_init_7 rfl rfl (by decide) q1_71 (by decide) rfl (by decide) (Nat.le_of_ble_eq_true rfl) (Nat.le_of_ble_eq_true rfl) hn ?_
  replace ho := ho.bl (Bl.new (c := 100) (z := 7) hn (by omega))
  replace hk := kn (c := 100) (z := 7) hk hn (by omega)
  replace hF := hF.new (c := 100) (z := 7) hn (by omega)
  have h1 := Ar.mk (c := 100) (z := 7) hn
  replace hn : g_nx _ = a + 2 := nn (c := 100) (z := 7) hn
  refine g_putRF 12 dX9_init_9 rfl flX9_7 hk rfl rfl rfl ?_
  replace h1 := Ar.bl (Bl.wr (c := a) (i := 1) (v := some (a + 1)) (by omega)) h1
  replace ho := ho.wr (i := 1) (v := some (a + 1))
  replace hF := hF.wr (i := 1) (v := some (a + 1)) (Nat.le_refl a)
  replace hk := kwr (c := a) (i := 1) (v := some (a + 1)) hk
  replace hn := nwr (c := a) (i := 1) (v := some (a + 1)) hn
  refine g_aload_n 0 13 dX9_init_12 rfl rfl ?_
  refine g_sipush (5812) 16 dX9_init_13 rfl rfl ?_
  refine i_newa (t := 0) 18 (a + 2) dX9_init_16 rfl rfl (by decide) q1_71 (by decide) rfl (by decide) (Nat.le_of_ble_eq_true rfl) (Nat.le_of_ble_eq_true rfl) hn ?_
  replace h1 := Ar.bl (Bl.new (c := 100) (z := 5812) hn (by omega)) h1
  replace ho := ho.bl (Bl.new (c := 100) (z := 5812) hn (by omega))
  replace hk := kn (c := 100) (z := 5812) hk hn (by omega)
  replace hF := hF.new (c := 100) (z := 5812) hn (by omega)
  have h2 := Ar.mk (c := 100) (z := 5812) hn
  replace hn : g_nx _ = a + 3 := nn (c := 100) (z := 5812) hn
  refine g_putRF 21 dX9_init_18 rfl flX9_28 hk rfl rfl rfl ?_
  replace h1 := Ar.bl (Bl.wr (c := a) (i := 2) (v := some (a + 2)) (by omega)) h1
  replace h2 := Ar.bl (Bl.wr (c := a) (i := 2) (v := some (a + 2)) (by omega)) h2
  replace ho := ho.wr (i := 2) (v := some (a + 2))
  replace hF := hF.wr (i := 2) (v := some (a + 2)) (Nat.le_refl a)
  replace hk := kwr (c := a) (i := 2) (v := some (a + 2)) hk
  replace hn := nwr (c := a) (i := 2) (v := some (a + 2)) hn
  refine g_aload_n 0 22 dX9_init_21 rfl rfl ?_
  refine g_sipush (11624) 25 dX9_init_22 rfl rfl ?_
  refine i_newa (t := 0) 27 (a + 3) dX9_init_25 rfl rfl (by decide) q1_71 (by decide) rfl (by decide) (Nat.le_of_ble_eq_true rfl) (Nat.le_of_ble_eq_true rfl) hn ?_
  replace h1 := Ar.bl (Bl.new (c := 100) (z := 11624) hn (by omega)) h1
  replace h2 := Ar.bl (Bl.new (c := 100) (z := 11624) hn (by omega)) h2
  replace ho := ho.bl (Bl.new (c := 100) (z := 11624) hn (by omega))
  replace hk := kn (c := 100) (z := 11624) hk hn (by omega)
  replace hF := hF.new (c := 100) (z := 11624) hn (by omega)
  have h3 := Ar.mk (c := 100) (z := 11624) hn
  replace hn : g_nx _ = a + 4 := nn (c := 100) (z := 11624) hn
  refine g_putRF 30 dX9_init_27 rfl flX9_31 hk rfl rfl rfl ?_
  replace h1 := Ar.bl (Bl.wr (c := a) (i := 3) (v := some (a + 3)) (by omega)) h1
  replace h2 := Ar.bl (Bl.wr (c := a) (i := 3) (v := some (a + 3)) (by omega)) h2
  replace h3 := Ar.bl (Bl.wr (c := a) (i := 3) (v := some (a + 3)) (by omega)) h3
  replace ho := ho.wr (i := 3) (v := some (a + 3))
  replace hF := hF.wr (i := 3) (v := some (a + 3)) (Nat.le_refl a)
  replace hk := kwr (c := a) (i := 3) (v := some (a + 3)) hk
  replace hn := nwr (c := a) (i := 3) (v := some (a + 3)) hn
  exact iX9_init_c1 h1 h2 h3 hk ho hF hn hQ
