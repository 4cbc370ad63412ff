/-! The law's cases: a call of the class, the same of the reference, the answers compared. -/
abbrev kL : gK := (RL, x, cL_law, 4, some .boolean)
/-- both answer alike, what holds goes on -/
def Ob (X : gX) (d mc1 ms1 : Nat) (k1 k2 : gK) (Inv : gM → Prop) (a a2 : Nat) (av : List Value) : Prop := ∀ M, Inv M → (∀ c, g_kd M c ≠ none → c < g_nx M) → g_kd M a = some (8, 17) ∧ ∀ Q : Option Value → gM → Prop, (∀ (w : Int32) (M1 : gM), g_kd M1 a2 = some (9, 50) → (∀ Q2 : Option Value → gM → Prop, (∀ M2, Inv M2 → Q2 (some (.int w)) M2) → Cn X d 0 0 k2 (.ref a2 :: av) M1 Q2) → Q (some (.int w)) M1) → Cn X d mc1 ms1 k1 (.ref a :: av) M Q
def ObL (X : gX) (d mc1 ms1 : Nat) (k1 k2 : gK) (Inv : gM → Prop) (a a2 : Nat) (av : List Value) : Prop := ∀ M, Inv M → (∀ c, g_kd M c ≠ none → c < g_nx M) → g_kd M a = some (8, 17) ∧ ∀ Q : Option Value → gM → Prop, (∀ (w : Int64) (M1 : gM), g_kd M1 a2 = some (9, 50) → (∀ Q2 : Option Value → gM → Prop, (∀ M2, Inv M2 → Q2 (some (.long w)) M2) → Cn X d 0 0 k2 (.ref a2 :: av) M1 Q2) → Q (some (.long w)) M1) → Cn X d mc1 ms1 k1 (.ref a :: av) M Q
section LWC
variable {S : State → Array Value → Prop} {Z : List Frame → Array Value → State → State → Prop} {X : gX} {d : Nat} {M : gM} {c z a a2 b Ls : Nat} {xs : Nat → Int32} {iv x1 x2 x3 x4 x5 : Int32} {Inv : gM → Prop}
theorem lwc_0 (hX : ∀ s args, S s args → va_X b Ls xs s s.heap ∧ b < s.heap.size) (hO : Ob X d 0 0 kX8_key kX9_key Inv a a2 [.int x1, .int x2]) (hI : Inv M) (hfr : ∀ c, g_kd M c ≠ none → c < g_nx M) (hc1 : c + 0 ≤ 600000) (hz1 : z + 0 ≤ 7302250) (h1 : vp_in (iv + 1) Ls ∧ xs (iv + 1).toNatClampNeg = x1) (h2 : vp_in (iv + 2) Ls ∧ xs (iv + 2).toNatClampNeg = x2) (h : ∀ M2, Inv M2 → Gs S Z X (d + 1) 600000 7302250 kL 1122 [(3, .int iv), (0, .ref b), (1, .ref a), (2, .ref a2)] [] M2 (c + 0) (z + 0)) : Gs S Z X (d + 1) 600000 7302250 kL 204 [(3, .int iv), (0, .ref b), (1, .ref a), (2, .ref a2)] [] M c z := by
  refine r_aload_n 2 205 dL_law_204 rfl rfl ?_
  refine r_aload_n 1 206 dL_law_205 rfl rfl ?_
  refine r_iload_n 0 207 dL_law_206 rfl rfl ?_
  refine r_iconst (1) 208 dL_law_207 rfl rfl ?_
  refine r_iadd 209 dL_law_208 rfl ?_
  refine r_sld 210 hX dL_law_209 rfl h1.1 h1.2 ?_
  refine r_aload_n 1 211 dL_law_210 rfl rfl ?_
  refine r_iload_n 0 212 dL_law_211 rfl rfl ?_
  refine r_iconst (2) 213 dL_law_212 rfl rfl ?_
  refine r_iadd 214 dL_law_213 rfl ?_
  refine r_sld 215 hX dL_law_214 rfl h2.1 h2.2 ?_
  obtain ⟨ka, hc⟩ := hO M hI hfr
  refine r_callV (mc1 := 0) (ms1 := 0) (b := a) (rest := []) (av := [.int x1, .int x2]) kX8_key 218 dL_law_215 rfl rfl mbL_13 imX8_key seX8_key gcl8.1 ka (Nat.le_of_ble_eq_true rfl) hc1 hz1 (hc _ ?_)
  intro w M1 k2 hc2
  show Gs S Z X (d + 1) 600000 7302250 kL 218 [(3, .int iv), (0, .ref b), (1, .ref a), (2, .ref a2)] [.int w] M1 (c + 0) (z + 0)
  refine r_aload_n 3 219 dL_law_218 rfl rfl ?_
  refine r_aload_n 1 220 dL_law_219 rfl rfl ?_
  refine r_iload_n 0 221 dL_law_220 rfl rfl ?_
  refine r_iconst (1) 222 dL_law_221 rfl rfl ?_
  refine r_iadd 223 dL_law_222 rfl ?_
  refine r_sld 224 hX dL_law_223 rfl h1.1 h1.2 ?_
  refine r_aload_n 1 225 dL_law_224 rfl rfl ?_
  refine r_iload_n 0 226 dL_law_225 rfl rfl ?_
  refine r_iconst (2) 227 dL_law_226 rfl rfl ?_
  refine r_iadd 228 dL_law_227 rfl ?_
  refine r_sld 229 hX dL_law_228 rfl h2.1 h2.2 ?_
  refine r_callV (mc1 := 0) (ms1 := 0) (b := a2) (rest := [.int w]) (av := [.int x1, .int x2]) kX9_key 232 dL_law_229 rfl rfl mbL_17 imX9_key seX9_key gcl9.1 k2 (Nat.le_of_ble_eq_true rfl) hc1 hz1 (hc2 _ ?_)
  intro M2 hI2
  show Gs S Z X (d + 1) 600000 7302250 kL 232 [(3, .int iv), (0, .ref b), (1, .ref a), (2, .ref a2)] [.int w, .int w] M2 (c + 0) (z + 0)
  exact r_icmp_eq 1122 235 dL_law_232 rfl rfl (fun _ => h M2 hI2) (fun q => absurd rfl q)
theorem lwc_1 (hX : ∀ s args, S s args → va_X b Ls xs s s.heap ∧ b < s.heap.size) (hO : Ob X d 0 0 kX8_vertex kX9_vertex Inv a a2 [.int x1, .int x2]) (hI : Inv M) (hfr : ∀ c, g_kd M c ≠ none → c < g_nx M) (hc1 : c + 0 ≤ 600000) (hz1 : z + 0 ≤ 7302250) (h1 : vp_in (iv + 1) Ls ∧ xs (iv + 1).toNatClampNeg = x1) (h2 : vp_in (iv + 2) Ls ∧ xs (iv + 2).toNatClampNeg = x2) (h : ∀ M2, Inv M2 → Gs S Z X (d + 1) 600000 7302250 kL 1122 [(3, .int iv), (0, .ref b), (1, .ref a), (2, .ref a2)] [] M2 (c + 0) (z + 0)) : Gs S Z X (d + 1) 600000 7302250 kL 237 [(3, .int iv), (0, .ref b), (1, .ref a), (2, .ref a2)] [] M c z := by
  refine r_aload_n 2 238 dL_law_237 rfl rfl ?_
  refine r_aload_n 1 239 dL_law_238 rfl rfl ?_
  refine r_iload_n 0 240 dL_law_239 rfl rfl ?_
  refine r_iconst (1) 241 dL_law_240 rfl rfl ?_
  refine r_iadd 242 dL_law_241 rfl ?_
  refine r_sld 243 hX dL_law_242 rfl h1.1 h1.2 ?_
  refine r_aload_n 1 244 dL_law_243 rfl rfl ?_
  refine r_iload_n 0 245 dL_law_244 rfl rfl ?_
  refine r_iconst (2) 246 dL_law_245 rfl rfl ?_
  refine r_iadd 247 dL_law_246 rfl ?_
  refine r_sld 248 hX dL_law_247 rfl h2.1 h2.2 ?_
  obtain ⟨ka, hc⟩ := hO M hI hfr
  refine r_callV (mc1 := 0) (ms1 := 0) (b := a) (rest := []) (av := [.int x1, .int x2]) kX8_vertex 251 dL_law_248 rfl rfl mbL_18 imX8_vertex seX8_vertex gcl8.1 ka (Nat.le_of_ble_eq_true rfl) hc1 hz1 (hc _ ?_)
  intro w M1 k2 hc2
  show Gs S Z X (d + 1) 600000 7302250 kL 251 [(3, .int iv), (0, .ref b), (1, .ref a), (2, .ref a2)] [.int w] M1 (c + 0) (z + 0)
  refine r_aload_n 3 252 dL_law_251 rfl rfl ?_
  refine r_aload_n 1 253 dL_law_252 rfl rfl ?_
  refine r_iload_n 0 254 dL_law_253 rfl rfl ?_
  refine r_iconst (1) 255 dL_law_254 rfl rfl ?_
  refine r_iadd 256 dL_law_255 rfl ?_
  refine r_sld 257 hX dL_law_256 rfl h1.1 h1.2 ?_
  refine r_aload_n 1 258 dL_law_257 rfl rfl ?_
  refine r_iload_n 0 259 dL_law_258 rfl rfl ?_
  refine r_iconst (2) 260 dL_law_259 rfl rfl ?_
  refine r_iadd 261 dL_law_260 rfl ?_
  refine r_sld 262 hX dL_law_261 rfl h2.1 h2.2 ?_
  refine r_callV (mc1 := 0) (ms1 := 0) (b := a2) (rest := [.int w]) (av := [.int x1, .int x2]) kX9_vertex 265 dL_law_262 rfl rfl mbL_21 imX9_vertex seX9_vertex gcl9.1 k2 (Nat.le_of_ble_eq_true rfl) hc1 hz1 (hc2 _ ?_)
  intro M2 hI2
  show Gs S Z X (d + 1) 600000 7302250 kL 265 [(3, .int iv), (0, .ref b), (1, .ref a), (2, .ref a2)] [.int w, .int w] M2 (c + 0) (z + 0)
  exact r_icmp_eq 1122 268 dL_law_265 rfl rfl (fun _ => h M2 hI2) (fun q => absurd rfl q)
theorem lwc_2 (hX : ∀ s args, S s args → va_X b Ls xs s s.heap ∧ b < s.heap.size) (hO : Ob X d 0 0 kX8_there kX9_there Inv a a2 [.int x1]) (hI : Inv M) (hfr : ∀ c, g_kd M c ≠ none → c < g_nx M) (hc1 : c + 0 ≤ 600000) (hz1 : z + 0 ≤ 7302250) (h1 : vp_in (iv + 1) Ls ∧ xs (iv + 1).toNatClampNeg = x1) (h : ∀ M2, Inv M2 → Gs S Z X (d + 1) 600000 7302250 kL 1122 [(3, .int iv), (0, .ref b), (1, .ref a), (2, .ref a2)] [] M2 (c + 0) (z + 0)) : Gs S Z X (d + 1) 600000 7302250 kL 270 [(3, .int iv), (0, .ref b), (1, .ref a), (2, .ref a2)] [] M c z := by
  refine r_aload_n 2 271 dL_law_270 rfl rfl ?_
  refine r_aload_n 1 272 dL_law_271 rfl rfl ?_
  refine r_iload_n 0 273 dL_law_272 rfl rfl ?_
  refine r_iconst (1) 274 dL_law_273 rfl rfl ?_
  refine r_iadd 275 dL_law_274 rfl ?_
  refine r_sld 276 hX dL_law_275 rfl h1.1 h1.2 ?_
  obtain ⟨ka, hc⟩ := hO M hI hfr
  refine r_callV (mc1 := 0) (ms1 := 0) (b := a) (rest := []) (av := [.int x1]) kX8_there 279 dL_law_276 rfl rfl mbL_22 imX8_there seX8_there gcl8.1 ka (Nat.le_of_ble_eq_true rfl) hc1 hz1 (hc _ ?_)
  intro w M1 k2 hc2
  show Gs S Z X (d + 1) 600000 7302250 kL 279 [(3, .int iv), (0, .ref b), (1, .ref a), (2, .ref a2)] [.int w] M1 (c + 0) (z + 0)
  refine r_aload_n 3 280 dL_law_279 rfl rfl ?_
  refine r_aload_n 1 281 dL_law_280 rfl rfl ?_
  refine r_iload_n 0 282 dL_law_281 rfl rfl ?_
  refine r_iconst (1) 283 dL_law_282 rfl rfl ?_
  refine r_iadd 284 dL_law_283 rfl ?_
  refine r_sld 285 hX dL_law_284 rfl h1.1 h1.2 ?_
  refine r_callV (mc1 := 0) (ms1 := 0) (b := a2) (rest := [.int w]) (av := [.int x1]) kX9_there 288 dL_law_285 rfl rfl mbL_26 imX9_there seX9_there gcl9.1 k2 (Nat.le_of_ble_eq_true rfl) hc1 hz1 (hc2 _ ?_)
  intro M2 hI2
  show Gs S Z X (d + 1) 600000 7302250 kL 288 [(3, .int iv), (0, .ref b), (1, .ref a), (2, .ref a2)] [.int w, .int w] M2 (c + 0) (z + 0)
  exact r_icmp_eq 1122 291 dL_law_288 rfl rfl (fun _ => h M2 hI2) (fun q => absurd rfl q)
theorem lwc_3 (hX : ∀ s args, S s args → va_X b Ls xs s s.heap ∧ b < s.heap.size) (hO : Ob X d 0 0 kX8_ceiling kX9_ceiling Inv a a2 [.int x1]) (hI : Inv M) (hfr : ∀ c, g_kd M c ≠ none → c < g_nx M) (hc1 : c + 0 ≤ 600000) (hz1 : z + 0 ≤ 7302250) (h1 : vp_in (iv + 1) Ls ∧ xs (iv + 1).toNatClampNeg = x1) (h : ∀ M2, Inv M2 → Gs S Z X (d + 1) 600000 7302250 kL 1122 [(3, .int iv), (0, .ref b), (1, .ref a), (2, .ref a2)] [] M2 (c + 0) (z + 0)) : Gs S Z X (d + 1) 600000 7302250 kL 293 [(3, .int iv), (0, .ref b), (1, .ref a), (2, .ref a2)] [] M c z := by
  refine r_aload_n 2 294 dL_law_293 rfl rfl ?_
  refine r_aload_n 1 295 dL_law_294 rfl rfl ?_
  refine r_iload_n 0 296 dL_law_295 rfl rfl ?_
  refine r_iconst (1) 297 dL_law_296 rfl rfl ?_
  refine r_iadd 298 dL_law_297 rfl ?_
  refine r_sld 299 hX dL_law_298 rfl h1.1 h1.2 ?_
  obtain ⟨ka, hc⟩ := hO M hI hfr
  refine r_callV (mc1 := 0) (ms1 := 0) (b := a) (rest := []) (av := [.int x1]) kX8_ceiling 302 dL_law_299 rfl rfl mbL_27 imX8_ceiling seX8_ceiling gcl8.1 ka (Nat.le_of_ble_eq_true rfl) hc1 hz1 (hc _ ?_)
  intro w M1 k2 hc2
  show Gs S Z X (d + 1) 600000 7302250 kL 302 [(3, .int iv), (0, .ref b), (1, .ref a), (2, .ref a2)] [.int w] M1 (c + 0) (z + 0)
  refine r_aload_n 3 303 dL_law_302 rfl rfl ?_
  refine r_aload_n 1 304 dL_law_303 rfl rfl ?_
  refine r_iload_n 0 305 dL_law_304 rfl rfl ?_
  refine r_iconst (1) 306 dL_law_305 rfl rfl ?_
  refine r_iadd 307 dL_law_306 rfl ?_
  refine r_sld 308 hX dL_law_307 rfl h1.1 h1.2 ?_
  refine r_callV (mc1 := 0) (ms1 := 0) (b := a2) (rest := [.int w]) (av := [.int x1]) kX9_ceiling 311 dL_law_308 rfl rfl mbL_30 imX9_ceiling seX9_ceiling gcl9.1 k2 (Nat.le_of_ble_eq_true rfl) hc1 hz1 (hc2 _ ?_)
  intro M2 hI2
  show Gs S Z X (d + 1) 600000 7302250 kL 311 [(3, .int iv), (0, .ref b), (1, .ref a), (2, .ref a2)] [.int w, .int w] M2 (c + 0) (z + 0)
  exact r_icmp_eq 1122 314 dL_law_311 rfl rfl (fun _ => h M2 hI2) (fun q => absurd rfl q)
theorem lwc_4 (hX : ∀ s args, S s args → va_X b Ls xs s s.heap ∧ b < s.heap.size) (hO : Ob X d 0 0 kX8_terms kX9_terms Inv a a2 [.int x1, .int x2]) (hI : Inv M) (hfr : ∀ c, g_kd M c ≠ none → c < g_nx M) (hc1 : c + 0 ≤ 600000) (hz1 : z + 0 ≤ 7302250) (h1 : vp_in (iv + 1) Ls ∧ xs (iv + 1).toNatClampNeg = x1) (h2 : vp_in (iv + 2) Ls ∧ xs (iv + 2).toNatClampNeg = x2) (h : ∀ M2, Inv M2 → Gs S Z X (d + 1) 600000 7302250 kL 1122 [(3, .int iv), (0, .ref b), (1, .ref a), (2, .ref a2)] [] M2 (c + 0) (z + 0)) : Gs S Z X (d + 1) 600000 7302250 kL 316 [(3, .int iv), (0, .ref b), (1, .ref a), (2, .ref a2)] [] M c z := by
  refine r_aload_n 2 317 dL_law_316 rfl rfl ?_
  refine r_aload_n 1 318 dL_law_317 rfl rfl ?_
  refine r_iload_n 0 319 dL_law_318 rfl rfl ?_
  refine r_iconst (1) 320 dL_law_319 rfl rfl ?_
  refine r_iadd 321 dL_law_320 rfl ?_
  refine r_sld 322 hX dL_law_321 rfl h1.1 h1.2 ?_
  refine r_aload_n 1 323 dL_law_322 rfl rfl ?_
  refine r_iload_n 0 324 dL_law_323 rfl rfl ?_
  refine r_iconst (2) 325 dL_law_324 rfl rfl ?_
  refine r_iadd 326 dL_law_325 rfl ?_
  refine r_sld 327 hX dL_law_326 rfl h2.1 h2.2 ?_
  obtain ⟨ka, hc⟩ := hO M hI hfr
  refine r_callV (mc1 := 0) (ms1 := 0) (b := a) (rest := []) (av := [.int x1, .int x2]) kX8_terms 330 dL_law_327 rfl rfl mbL_31 imX8_terms seX8_terms gcl8.1 ka (Nat.le_of_ble_eq_true rfl) hc1 hz1 (hc _ ?_)
  intro w M1 k2 hc2
  show Gs S Z X (d + 1) 600000 7302250 kL 330 [(3, .int iv), (0, .ref b), (1, .ref a), (2, .ref a2)] [.int w] M1 (c + 0) (z + 0)
  refine r_aload_n 3 331 dL_law_330 rfl rfl ?_
  refine r_aload_n 1 332 dL_law_331 rfl rfl ?_
  refine r_iload_n 0 333 dL_law_332 rfl rfl ?_
  refine r_iconst (1) 334 dL_law_333 rfl rfl ?_
  refine r_iadd 335 dL_law_334 rfl ?_
  refine r_sld 336 hX dL_law_335 rfl h1.1 h1.2 ?_
  refine r_aload_n 1 337 dL_law_336 rfl rfl ?_
  refine r_iload_n 0 338 dL_law_337 rfl rfl ?_
  refine r_iconst (2) 339 dL_law_338 rfl rfl ?_
  refine r_iadd 340 dL_law_339 rfl ?_
  refine r_sld 341 hX dL_law_340 rfl h2.1 h2.2 ?_
  refine r_callV (mc1 := 0) (ms1 := 0) (b := a2) (rest := [.int w]) (av := [.int x1, .int x2]) kX9_terms 344 dL_law_341 rfl rfl mbL_34 imX9_terms seX9_terms gcl9.1 k2 (Nat.le_of_ble_eq_true rfl) hc1 hz1 (hc2 _ ?_)
  intro M2 hI2
  show Gs S Z X (d + 1) 600000 7302250 kL 344 [(3, .int iv), (0, .ref b), (1, .ref a), (2, .ref a2)] [.int w, .int w] M2 (c + 0) (z + 0)
  exact r_icmp_eq 1122 347 dL_law_344 rfl rfl (fun _ => h M2 hI2) (fun q => absurd rfl q)
theorem lwc_5 (hX : ∀ s args, S s args → va_X b Ls xs s s.heap ∧ b < s.heap.size) (hO : Ob X d 0 0 kX8_feed kX9_feed Inv a a2 [.int x1, .int x2, .int x3, .int x4, .int x5]) (hI : Inv M) (hfr : ∀ c, g_kd M c ≠ none → c < g_nx M) (hc1 : c + 0 ≤ 600000) (hz1 : z + 0 ≤ 7302250) (h1 : vp_in (iv + 1) Ls ∧ xs (iv + 1).toNatClampNeg = x1) (h2 : vp_in (iv + 2) Ls ∧ xs (iv + 2).toNatClampNeg = x2) (h3 : vp_in (iv + 3) Ls ∧ xs (iv + 3).toNatClampNeg = x3) (h4 : vp_in (iv + 4) Ls ∧ xs (iv + 4).toNatClampNeg = x4) (h5 : vp_in (iv + 5) Ls ∧ xs (iv + 5).toNatClampNeg = x5) (h : ∀ M2, Inv M2 → Gs S Z X (d + 1) 600000 7302250 kL 1122 [(3, .int iv), (0, .ref b), (1, .ref a), (2, .ref a2)] [] M2 (c + 0) (z + 0)) : Gs S Z X (d + 1) 600000 7302250 kL 349 [(3, .int iv), (0, .ref b), (1, .ref a), (2, .ref a2)] [] M c z := by
  refine r_aload_n 2 350 dL_law_349 rfl rfl ?_
  refine r_aload_n 1 351 dL_law_350 rfl rfl ?_
  refine r_iload_n 0 352 dL_law_351 rfl rfl ?_
  refine r_iconst (1) 353 dL_law_352 rfl rfl ?_
  refine r_iadd 354 dL_law_353 rfl ?_
  refine r_sld 355 hX dL_law_354 rfl h1.1 h1.2 ?_
  refine r_aload_n 1 356 dL_law_355 rfl rfl ?_
  refine r_iload_n 0 357 dL_law_356 rfl rfl ?_
  refine r_iconst (2) 358 dL_law_357 rfl rfl ?_
  refine r_iadd 359 dL_law_358 rfl ?_
  refine r_sld 360 hX dL_law_359 rfl h2.1 h2.2 ?_
  refine r_aload_n 1 361 dL_law_360 rfl rfl ?_
  refine r_iload_n 0 362 dL_law_361 rfl rfl ?_
  refine r_iconst (3) 363 dL_law_362 rfl rfl ?_
  refine r_iadd 364 dL_law_363 rfl ?_
  refine r_sld 365 hX dL_law_364 rfl h3.1 h3.2 ?_
  refine r_aload_n 1 366 dL_law_365 rfl rfl ?_
  refine r_iload_n 0 367 dL_law_366 rfl rfl ?_
  refine r_iconst (4) 368 dL_law_367 rfl rfl ?_
  refine r_iadd 369 dL_law_368 rfl ?_
  refine r_sld 370 hX dL_law_369 rfl h4.1 h4.2 ?_
  refine r_aload_n 1 371 dL_law_370 rfl rfl ?_
  refine r_iload_n 0 372 dL_law_371 rfl rfl ?_
  refine r_iconst (5) 373 dL_law_372 rfl rfl ?_
  refine r_iadd 374 dL_law_373 rfl ?_
  refine r_sld 375 hX dL_law_374 rfl h5.1 h5.2 ?_
  obtain ⟨ka, hc⟩ := hO M hI hfr
  refine r_callV (mc1 := 0) (ms1 := 0) (b := a) (rest := []) (av := [.int x1, .int x2, .int x3, .int x4, .int x5]) kX8_feed 378 dL_law_375 rfl rfl mbL_35 imX8_feed seX8_feed gcl8.1 ka (Nat.le_of_ble_eq_true rfl) hc1 hz1 (hc _ ?_)
  intro w M1 k2 hc2
  show Gs S Z X (d + 1) 600000 7302250 kL 378 [(3, .int iv), (0, .ref b), (1, .ref a), (2, .ref a2)] [.int w] M1 (c + 0) (z + 0)
  refine r_aload_n 3 379 dL_law_378 rfl rfl ?_
  refine r_aload_n 1 380 dL_law_379 rfl rfl ?_
  refine r_iload_n 0 381 dL_law_380 rfl rfl ?_
  refine r_iconst (1) 382 dL_law_381 rfl rfl ?_
  refine r_iadd 383 dL_law_382 rfl ?_
  refine r_sld 384 hX dL_law_383 rfl h1.1 h1.2 ?_
  refine r_aload_n 1 385 dL_law_384 rfl rfl ?_
  refine r_iload_n 0 386 dL_law_385 rfl rfl ?_
  refine r_iconst (2) 387 dL_law_386 rfl rfl ?_
  refine r_iadd 388 dL_law_387 rfl ?_
  refine r_sld 389 hX dL_law_388 rfl h2.1 h2.2 ?_
  refine r_aload_n 1 390 dL_law_389 rfl rfl ?_
  refine r_iload_n 0 391 dL_law_390 rfl rfl ?_
  refine r_iconst (3) 392 dL_law_391 rfl rfl ?_
  refine r_iadd 393 dL_law_392 rfl ?_
  refine r_sld 394 hX dL_law_393 rfl h3.1 h3.2 ?_
  refine r_aload_n 1 395 dL_law_394 rfl rfl ?_
  refine r_iload_n 0 396 dL_law_395 rfl rfl ?_
  refine r_iconst (4) 397 dL_law_396 rfl rfl ?_
  refine r_iadd 398 dL_law_397 rfl ?_
  refine r_sld 399 hX dL_law_398 rfl h4.1 h4.2 ?_
  refine r_aload_n 1 400 dL_law_399 rfl rfl ?_
  refine r_iload_n 0 401 dL_law_400 rfl rfl ?_
  refine r_iconst (5) 402 dL_law_401 rfl rfl ?_
  refine r_iadd 403 dL_law_402 rfl ?_
  refine r_sld 404 hX dL_law_403 rfl h5.1 h5.2 ?_
  refine r_callV (mc1 := 0) (ms1 := 0) (b := a2) (rest := [.int w]) (av := [.int x1, .int x2, .int x3, .int x4, .int x5]) kX9_feed 407 dL_law_404 rfl rfl mbL_39 imX9_feed seX9_feed gcl9.1 k2 (Nat.le_of_ble_eq_true rfl) hc1 hz1 (hc2 _ ?_)
  intro M2 hI2
  show Gs S Z X (d + 1) 600000 7302250 kL 407 [(3, .int iv), (0, .ref b), (1, .ref a), (2, .ref a2)] [.int w, .int w] M2 (c + 0) (z + 0)
  exact r_icmp_eq 1122 410 dL_law_407 rfl rfl (fun _ => h M2 hI2) (fun q => absurd rfl q)
theorem lwc_6 (hX : ∀ s args, S s args → va_X b Ls xs s s.heap ∧ b < s.heap.size) (hO : Ob X d 0 0 kX8_end kX9_end Inv a a2 [.int x1]) (hI : Inv M) (hfr : ∀ c, g_kd M c ≠ none → c < g_nx M) (hc1 : c + 0 ≤ 600000) (hz1 : z + 0 ≤ 7302250) (h1 : vp_in (iv + 1) Ls ∧ xs (iv + 1).toNatClampNeg = x1) (h : ∀ M2, Inv M2 → Gs S Z X (d + 1) 600000 7302250 kL 1122 [(3, .int iv), (0, .ref b), (1, .ref a), (2, .ref a2)] [] M2 (c + 0) (z + 0)) : Gs S Z X (d + 1) 600000 7302250 kL 412 [(3, .int iv), (0, .ref b), (1, .ref a), (2, .ref a2)] [] M c z := by
  refine r_aload_n 2 413 dL_law_412 rfl rfl ?_
  refine r_aload_n 1 414 dL_law_413 rfl rfl ?_
  refine r_iload_n 0 415 dL_law_414 rfl rfl ?_
  refine r_iconst (1) 416 dL_law_415 rfl rfl ?_
  refine r_iadd 417 dL_law_416 rfl ?_
  refine r_sld 418 hX dL_law_417 rfl h1.1 h1.2 ?_
  obtain ⟨ka, hc⟩ := hO M hI hfr
  refine r_callV (mc1 := 0) (ms1 := 0) (b := a) (rest := []) (av := [.int x1]) kX8_end 421 dL_law_418 rfl rfl mbL_40 imX8_end seX8_end gcl8.1 ka (Nat.le_of_ble_eq_true rfl) hc1 hz1 (hc _ ?_)
  intro w M1 k2 hc2
  show Gs S Z X (d + 1) 600000 7302250 kL 421 [(3, .int iv), (0, .ref b), (1, .ref a), (2, .ref a2)] [.int w] M1 (c + 0) (z + 0)
  refine r_aload_n 3 422 dL_law_421 rfl rfl ?_
  refine r_aload_n 1 423 dL_law_422 rfl rfl ?_
  refine r_iload_n 0 424 dL_law_423 rfl rfl ?_
  refine r_iconst (1) 425 dL_law_424 rfl rfl ?_
  refine r_iadd 426 dL_law_425 rfl ?_
  refine r_sld 427 hX dL_law_426 rfl h1.1 h1.2 ?_
  refine r_callV (mc1 := 0) (ms1 := 0) (b := a2) (rest := [.int w]) (av := [.int x1]) kX9_end 430 dL_law_427 rfl rfl mbL_43 imX9_end seX9_end gcl9.1 k2 (Nat.le_of_ble_eq_true rfl) hc1 hz1 (hc2 _ ?_)
  intro M2 hI2
  show Gs S Z X (d + 1) 600000 7302250 kL 430 [(3, .int iv), (0, .ref b), (1, .ref a), (2, .ref a2)] [.int w, .int w] M2 (c + 0) (z + 0)
  exact r_icmp_eq 1122 433 dL_law_430 rfl rfl (fun _ => h M2 hI2) (fun q => absurd rfl q)
theorem lwc_7 (hX : ∀ s args, S s args → va_X b Ls xs s s.heap ∧ b < s.heap.size) (hO : Ob X d 0 0 kX8_row kX9_row Inv a a2 []) (hI : Inv M) (hfr : ∀ c, g_kd M c ≠ none → c < g_nx M) (hc1 : c + 0 ≤ 600000) (hz1 : z + 0 ≤ 7302250)  (h : ∀ M2, Inv M2 → Gs S Z X (d + 1) 600000 7302250 kL 1122 [(3, .int iv), (0, .ref b), (1, .ref a), (2, .ref a2)] [] M2 (c + 0) (z + 0)) : Gs S Z X (d + 1) 600000 7302250 kL 435 [(3, .int iv), (0, .ref b), (1, .ref a), (2, .ref a2)] [] M c z := by
  refine r_aload_n 2 436 dL_law_435 rfl rfl ?_
  obtain ⟨ka, hc⟩ := hO M hI hfr
  refine r_callV (mc1 := 0) (ms1 := 0) (b := a) (rest := []) (av := []) kX8_row 439 dL_law_436 rfl rfl mbL_44 imX8_row seX8_row gcl8.1 ka (Nat.le_of_ble_eq_true rfl) hc1 hz1 (hc _ ?_)
  intro w M1 k2 hc2
  show Gs S Z X (d + 1) 600000 7302250 kL 439 [(3, .int iv), (0, .ref b), (1, .ref a), (2, .ref a2)] [.int w] M1 (c + 0) (z + 0)
  refine r_aload_n 3 440 dL_law_439 rfl rfl ?_
  refine r_callV (mc1 := 0) (ms1 := 0) (b := a2) (rest := [.int w]) (av := []) kX9_row 443 dL_law_440 rfl rfl mbL_48 imX9_row seX9_row gcl9.1 k2 (Nat.le_of_ble_eq_true rfl) hc1 hz1 (hc2 _ ?_)
  intro M2 hI2
  show Gs S Z X (d + 1) 600000 7302250 kL 443 [(3, .int iv), (0, .ref b), (1, .ref a), (2, .ref a2)] [.int w, .int w] M2 (c + 0) (z + 0)
  exact r_icmp_eq 1122 446 dL_law_443 rfl rfl (fun _ => h M2 hI2) (fun q => absurd rfl q)
theorem lwc_8 (hX : ∀ s args, S s args → va_X b Ls xs s s.heap ∧ b < s.heap.size) (hO : Ob X d 0 0 kX8_blanks kX9_blanks Inv a a2 []) (hI : Inv M) (hfr : ∀ c, g_kd M c ≠ none → c < g_nx M) (hc1 : c + 0 ≤ 600000) (hz1 : z + 0 ≤ 7302250)  (h : ∀ M2, Inv M2 → Gs S Z X (d + 1) 600000 7302250 kL 1122 [(3, .int iv), (0, .ref b), (1, .ref a), (2, .ref a2)] [] M2 (c + 0) (z + 0)) : Gs S Z X (d + 1) 600000 7302250 kL 448 [(3, .int iv), (0, .ref b), (1, .ref a), (2, .ref a2)] [] M c z := by
  refine r_aload_n 2 449 dL_law_448 rfl rfl ?_
  obtain ⟨ka, hc⟩ := hO M hI hfr
  refine r_callV (mc1 := 0) (ms1 := 0) (b := a) (rest := []) (av := []) kX8_blanks 452 dL_law_449 rfl rfl mbL_49 imX8_blanks seX8_blanks gcl8.1 ka (Nat.le_of_ble_eq_true rfl) hc1 hz1 (hc _ ?_)
  intro w M1 k2 hc2
  show Gs S Z X (d + 1) 600000 7302250 kL 452 [(3, .int iv), (0, .ref b), (1, .ref a), (2, .ref a2)] [.int w] M1 (c + 0) (z + 0)
  refine r_aload_n 3 453 dL_law_452 rfl rfl ?_
  refine r_callV (mc1 := 0) (ms1 := 0) (b := a2) (rest := [.int w]) (av := []) kX9_blanks 456 dL_law_453 rfl rfl mbL_52 imX9_blanks seX9_blanks gcl9.1 k2 (Nat.le_of_ble_eq_true rfl) hc1 hz1 (hc2 _ ?_)
  intro M2 hI2
  show Gs S Z X (d + 1) 600000 7302250 kL 456 [(3, .int iv), (0, .ref b), (1, .ref a), (2, .ref a2)] [.int w, .int w] M2 (c + 0) (z + 0)
  exact r_icmp_eq 1122 459 dL_law_456 rfl rfl (fun _ => h M2 hI2) (fun q => absurd rfl q)
theorem lwc_9 (hX : ∀ s args, S s args → va_X b Ls xs s s.heap ∧ b < s.heap.size) (hO : Ob X d 7 976 kX8_law kX9_law Inv a a2 []) (hI : Inv M) (hfr : ∀ c, g_kd M c ≠ none → c < g_nx M) (hc1 : c + 7 ≤ 600000) (hz1 : z + 976 ≤ 7302250)  (h : ∀ M2, Inv M2 → Gs S Z X (d + 1) 600000 7302250 kL 1122 [(3, .int iv), (0, .ref b), (1, .ref a), (2, .ref a2)] [] M2 (c + 7) (z + 976)) : Gs S Z X (d + 1) 600000 7302250 kL 461 [(3, .int iv), (0, .ref b), (1, .ref a), (2, .ref a2)] [] M c z := by
  refine r_aload_n 2 462 dL_law_461 rfl rfl ?_
  obtain ⟨ka, hc⟩ := hO M hI hfr
  refine r_callV (mc1 := 7) (ms1 := 976) (b := a) (rest := []) (av := []) kX8_law 465 dL_law_462 rfl rfl mbL_53 imX8_law seX8_law gcl8.1 ka (Nat.le_of_ble_eq_true rfl) hc1 hz1 (hc _ ?_)
  intro w M1 k2 hc2
  show Gs S Z X (d + 1) 600000 7302250 kL 465 [(3, .int iv), (0, .ref b), (1, .ref a), (2, .ref a2)] [.int w] M1 (c + 7) (z + 976)
  refine r_aload_n 3 466 dL_law_465 rfl rfl ?_
  refine r_callV (mc1 := 0) (ms1 := 0) (b := a2) (rest := [.int w]) (av := []) kX9_law 469 dL_law_466 rfl rfl mbL_56 imX9_law seX9_law gcl9.1 k2 (Nat.le_of_ble_eq_true rfl) hc1 hz1 (hc2 _ ?_)
  intro M2 hI2
  show Gs S Z X (d + 1) 600000 7302250 kL 469 [(3, .int iv), (0, .ref b), (1, .ref a), (2, .ref a2)] [.int w, .int w] M2 (c + 7) (z + 976)
  exact r_icmp_eq 1122 472 dL_law_469 rfl rfl (fun _ => h M2 hI2) (fun q => absurd rfl q)
theorem lwc_10 (hX : ∀ s args, S s args → va_X b Ls xs s s.heap ∧ b < s.heap.size) (hO : Ob X d 0 0 kX8_orders kX9_orders Inv a a2 []) (hI : Inv M) (hfr : ∀ c, g_kd M c ≠ none → c < g_nx M) (hc1 : c + 0 ≤ 600000) (hz1 : z + 0 ≤ 7302250)  (h : ∀ M2, Inv M2 → Gs S Z X (d + 1) 600000 7302250 kL 1122 [(3, .int iv), (0, .ref b), (1, .ref a), (2, .ref a2)] [] M2 (c + 0) (z + 0)) : Gs S Z X (d + 1) 600000 7302250 kL 474 [(3, .int iv), (0, .ref b), (1, .ref a), (2, .ref a2)] [] M c z := by
  refine r_aload_n 2 475 dL_law_474 rfl rfl ?_
  obtain ⟨ka, hc⟩ := hO M hI hfr
  refine r_callV (mc1 := 0) (ms1 := 0) (b := a) (rest := []) (av := []) kX8_orders 478 dL_law_475 rfl rfl mbL_57 imX8_orders seX8_orders gcl8.1 ka (Nat.le_of_ble_eq_true rfl) hc1 hz1 (hc _ ?_)
  intro w M1 k2 hc2
  show Gs S Z X (d + 1) 600000 7302250 kL 478 [(3, .int iv), (0, .ref b), (1, .ref a), (2, .ref a2)] [.int w] M1 (c + 0) (z + 0)
  refine r_aload_n 3 479 dL_law_478 rfl rfl ?_
  refine r_callV (mc1 := 0) (ms1 := 0) (b := a2) (rest := [.int w]) (av := []) kX9_orders 482 dL_law_479 rfl rfl mbL_60 imX9_orders seX9_orders gcl9.1 k2 (Nat.le_of_ble_eq_true rfl) hc1 hz1 (hc2 _ ?_)
  intro M2 hI2
  show Gs S Z X (d + 1) 600000 7302250 kL 482 [(3, .int iv), (0, .ref b), (1, .ref a), (2, .ref a2)] [.int w, .int w] M2 (c + 0) (z + 0)
  exact r_icmp_eq 1122 485 dL_law_482 rfl rfl (fun _ => h M2 hI2) (fun q => absurd rfl q)
theorem lwc_11 (hX : ∀ s args, S s args → va_X b Ls xs s s.heap ∧ b < s.heap.size) (hO : Ob X d 0 0 kX8_fault kX9_fault Inv a a2 []) (hI : Inv M) (hfr : ∀ c, g_kd M c ≠ none → c < g_nx M) (hc1 : c + 0 ≤ 600000) (hz1 : z + 0 ≤ 7302250)  (h : ∀ M2, Inv M2 → Gs S Z X (d + 1) 600000 7302250 kL 1122 [(3, .int iv), (0, .ref b), (1, .ref a), (2, .ref a2)] [] M2 (c + 0) (z + 0)) : Gs S Z X (d + 1) 600000 7302250 kL 487 [(3, .int iv), (0, .ref b), (1, .ref a), (2, .ref a2)] [] M c z := by
  refine r_aload_n 2 488 dL_law_487 rfl rfl ?_
  obtain ⟨ka, hc⟩ := hO M hI hfr
  refine r_callV (mc1 := 0) (ms1 := 0) (b := a) (rest := []) (av := []) kX8_fault 491 dL_law_488 rfl rfl mbL_61 imX8_fault seX8_fault gcl8.1 ka (Nat.le_of_ble_eq_true rfl) hc1 hz1 (hc _ ?_)
  intro w M1 k2 hc2
  show Gs S Z X (d + 1) 600000 7302250 kL 491 [(3, .int iv), (0, .ref b), (1, .ref a), (2, .ref a2)] [.int w] M1 (c + 0) (z + 0)
  refine r_aload_n 3 492 dL_law_491 rfl rfl ?_
  refine r_callV (mc1 := 0) (ms1 := 0) (b := a2) (rest := [.int w]) (av := []) kX9_fault 495 dL_law_492 rfl rfl mbL_64 imX9_fault seX9_fault gcl9.1 k2 (Nat.le_of_ble_eq_true rfl) hc1 hz1 (hc2 _ ?_)
  intro M2 hI2
  show Gs S Z X (d + 1) 600000 7302250 kL 495 [(3, .int iv), (0, .ref b), (1, .ref a), (2, .ref a2)] [.int w, .int w] M2 (c + 0) (z + 0)
  exact r_icmp_eq 1122 498 dL_law_495 rfl rfl (fun _ => h M2 hI2) (fun q => absurd rfl q)
theorem lwc_12 (hX : ∀ s args, S s args → va_X b Ls xs s s.heap ∧ b < s.heap.size) (hO : Ob X d 0 0 kX8_stopped kX9_stopped Inv a a2 []) (hI : Inv M) (hfr : ∀ c, g_kd M c ≠ none → c < g_nx M) (hc1 : c + 0 ≤ 600000) (hz1 : z + 0 ≤ 7302250)  (h : ∀ M2, Inv M2 → Gs S Z X (d + 1) 600000 7302250 kL 1122 [(3, .int iv), (0, .ref b), (1, .ref a), (2, .ref a2)] [] M2 (c + 0) (z + 0)) : Gs S Z X (d + 1) 600000 7302250 kL 500 [(3, .int iv), (0, .ref b), (1, .ref a), (2, .ref a2)] [] M c z := by
  refine r_aload_n 2 501 dL_law_500 rfl rfl ?_
  obtain ⟨ka, hc⟩ := hO M hI hfr
  refine r_callV (mc1 := 0) (ms1 := 0) (b := a) (rest := []) (av := []) kX8_stopped 504 dL_law_501 rfl rfl mbL_65 imX8_stopped seX8_stopped gcl8.1 ka (Nat.le_of_ble_eq_true rfl) hc1 hz1 (hc _ ?_)
  intro w M1 k2 hc2
  show Gs S Z X (d + 1) 600000 7302250 kL 504 [(3, .int iv), (0, .ref b), (1, .ref a), (2, .ref a2)] [.int w] M1 (c + 0) (z + 0)
  refine r_aload_n 3 505 dL_law_504 rfl rfl ?_
  refine r_callV (mc1 := 0) (ms1 := 0) (b := a2) (rest := [.int w]) (av := []) kX9_stopped 508 dL_law_505 rfl rfl mbL_68 imX9_stopped seX9_stopped gcl9.1 k2 (Nat.le_of_ble_eq_true rfl) hc1 hz1 (hc2 _ ?_)
  intro M2 hI2
  show Gs S Z X (d + 1) 600000 7302250 kL 508 [(3, .int iv), (0, .ref b), (1, .ref a), (2, .ref a2)] [.int w, .int w] M2 (c + 0) (z + 0)
  exact r_icmp_eq 1122 511 dL_law_508 rfl rfl (fun _ => h M2 hI2) (fun q => absurd rfl q)
theorem lwc_13 (hX : ∀ s args, S s args → va_X b Ls xs s s.heap ∧ b < s.heap.size) (hO : Ob X d 0 0 kX8_force kX9_force Inv a a2 [.int x1]) (hI : Inv M) (hfr : ∀ c, g_kd M c ≠ none → c < g_nx M) (hc1 : c + 0 ≤ 600000) (hz1 : z + 0 ≤ 7302250) (h1 : vp_in (iv + 1) Ls ∧ xs (iv + 1).toNatClampNeg = x1) (h : ∀ M2, Inv M2 → Gs S Z X (d + 1) 600000 7302250 kL 1122 [(3, .int iv), (0, .ref b), (1, .ref a), (2, .ref a2)] [] M2 (c + 0) (z + 0)) : Gs S Z X (d + 1) 600000 7302250 kL 513 [(3, .int iv), (0, .ref b), (1, .ref a), (2, .ref a2)] [] M c z := by
  refine r_aload_n 2 514 dL_law_513 rfl rfl ?_
  refine r_aload_n 1 515 dL_law_514 rfl rfl ?_
  refine r_iload_n 0 516 dL_law_515 rfl rfl ?_
  refine r_iconst (1) 517 dL_law_516 rfl rfl ?_
  refine r_iadd 518 dL_law_517 rfl ?_
  refine r_sld 519 hX dL_law_518 rfl h1.1 h1.2 ?_
  obtain ⟨ka, hc⟩ := hO M hI hfr
  refine r_callV (mc1 := 0) (ms1 := 0) (b := a) (rest := []) (av := [.int x1]) kX8_force 522 dL_law_519 rfl rfl mbL_69 imX8_force seX8_force gcl8.1 ka (Nat.le_of_ble_eq_true rfl) hc1 hz1 (hc _ ?_)
  intro w M1 k2 hc2
  show Gs S Z X (d + 1) 600000 7302250 kL 522 [(3, .int iv), (0, .ref b), (1, .ref a), (2, .ref a2)] [.int w] M1 (c + 0) (z + 0)
  refine r_aload_n 3 523 dL_law_522 rfl rfl ?_
  refine r_aload_n 1 524 dL_law_523 rfl rfl ?_
  refine r_iload_n 0 525 dL_law_524 rfl rfl ?_
  refine r_iconst (1) 526 dL_law_525 rfl rfl ?_
  refine r_iadd 527 dL_law_526 rfl ?_
  refine r_sld 528 hX dL_law_527 rfl h1.1 h1.2 ?_
  refine r_callV (mc1 := 0) (ms1 := 0) (b := a2) (rest := [.int w]) (av := [.int x1]) kX9_force 531 dL_law_528 rfl rfl mbL_72 imX9_force seX9_force gcl9.1 k2 (Nat.le_of_ble_eq_true rfl) hc1 hz1 (hc2 _ ?_)
  intro M2 hI2
  show Gs S Z X (d + 1) 600000 7302250 kL 531 [(3, .int iv), (0, .ref b), (1, .ref a), (2, .ref a2)] [.int w, .int w] M2 (c + 0) (z + 0)
  exact r_icmp_eq 1122 534 dL_law_531 rfl rfl (fun _ => h M2 hI2) (fun q => absurd rfl q)
theorem lwc_14 (hX : ∀ s args, S s args → va_X b Ls xs s s.heap ∧ b < s.heap.size) (hO : Ob X d 0 0 kX8_add kX9_add Inv a a2 [.int x1]) (hI : Inv M) (hfr : ∀ c, g_kd M c ≠ none → c < g_nx M) (hc1 : c + 0 ≤ 600000) (hz1 : z + 0 ≤ 7302250) (h1 : vp_in (iv + 1) Ls ∧ xs (iv + 1).toNatClampNeg = x1) (h : ∀ M2, Inv M2 → Gs S Z X (d + 1) 600000 7302250 kL 1122 [(3, .int iv), (0, .ref b), (1, .ref a), (2, .ref a2)] [] M2 (c + 0) (z + 0)) : Gs S Z X (d + 1) 600000 7302250 kL 536 [(3, .int iv), (0, .ref b), (1, .ref a), (2, .ref a2)] [] M c z := by
  refine r_aload_n 2 537 dL_law_536 rfl rfl ?_
  refine r_aload_n 1 538 dL_law_537 rfl rfl ?_
  refine r_iload_n 0 539 dL_law_538 rfl rfl ?_
  refine r_iconst (1) 540 dL_law_539 rfl rfl ?_
  refine r_iadd 541 dL_law_540 rfl ?_
  refine r_sld 542 hX dL_law_541 rfl h1.1 h1.2 ?_
  obtain ⟨ka, hc⟩ := hO M hI hfr
  refine r_callV (mc1 := 0) (ms1 := 0) (b := a) (rest := []) (av := [.int x1]) kX8_add 545 dL_law_542 rfl rfl mbL_73 imX8_add seX8_add gcl8.1 ka (Nat.le_of_ble_eq_true rfl) hc1 hz1 (hc _ ?_)
  intro w M1 k2 hc2
  show Gs S Z X (d + 1) 600000 7302250 kL 545 [(3, .int iv), (0, .ref b), (1, .ref a), (2, .ref a2)] [.int w] M1 (c + 0) (z + 0)
  refine r_aload_n 3 546 dL_law_545 rfl rfl ?_
  refine r_aload_n 1 547 dL_law_546 rfl rfl ?_
  refine r_iload_n 0 548 dL_law_547 rfl rfl ?_
  refine r_iconst (1) 549 dL_law_548 rfl rfl ?_
  refine r_iadd 550 dL_law_549 rfl ?_
  refine r_sld 551 hX dL_law_550 rfl h1.1 h1.2 ?_
  refine r_callV (mc1 := 0) (ms1 := 0) (b := a2) (rest := [.int w]) (av := [.int x1]) kX9_add 554 dL_law_551 rfl rfl mbL_76 imX9_add seX9_add gcl9.1 k2 (Nat.le_of_ble_eq_true rfl) hc1 hz1 (hc2 _ ?_)
  intro M2 hI2
  show Gs S Z X (d + 1) 600000 7302250 kL 554 [(3, .int iv), (0, .ref b), (1, .ref a), (2, .ref a2)] [.int w, .int w] M2 (c + 0) (z + 0)
  exact r_icmp_eq 1122 557 dL_law_554 rfl rfl (fun _ => h M2 hI2) (fun q => absurd rfl q)
theorem lwc_15 (hX : ∀ s args, S s args → va_X b Ls xs s s.heap ∧ b < s.heap.size) (hO : Ob X d 0 0 kX8_take kX9_take Inv a a2 [.int x1]) (hI : Inv M) (hfr : ∀ c, g_kd M c ≠ none → c < g_nx M) (hc1 : c + 0 ≤ 600000) (hz1 : z + 0 ≤ 7302250) (h1 : vp_in (iv + 1) Ls ∧ xs (iv + 1).toNatClampNeg = x1) (h : ∀ M2, Inv M2 → Gs S Z X (d + 1) 600000 7302250 kL 1122 [(3, .int iv), (0, .ref b), (1, .ref a), (2, .ref a2)] [] M2 (c + 0) (z + 0)) : Gs S Z X (d + 1) 600000 7302250 kL 559 [(3, .int iv), (0, .ref b), (1, .ref a), (2, .ref a2)] [] M c z := by
  refine r_aload_n 2 560 dL_law_559 rfl rfl ?_
  refine r_aload_n 1 561 dL_law_560 rfl rfl ?_
  refine r_iload_n 0 562 dL_law_561 rfl rfl ?_
  refine r_iconst (1) 563 dL_law_562 rfl rfl ?_
  refine r_iadd 564 dL_law_563 rfl ?_
  refine r_sld 565 hX dL_law_564 rfl h1.1 h1.2 ?_
  obtain ⟨ka, hc⟩ := hO M hI hfr
  refine r_callV (mc1 := 0) (ms1 := 0) (b := a) (rest := []) (av := [.int x1]) kX8_take 568 dL_law_565 rfl rfl mbL_77 imX8_take seX8_take gcl8.1 ka (Nat.le_of_ble_eq_true rfl) hc1 hz1 (hc _ ?_)
  intro w M1 k2 hc2
  show Gs S Z X (d + 1) 600000 7302250 kL 568 [(3, .int iv), (0, .ref b), (1, .ref a), (2, .ref a2)] [.int w] M1 (c + 0) (z + 0)
  refine r_aload_n 3 569 dL_law_568 rfl rfl ?_
  refine r_aload_n 1 570 dL_law_569 rfl rfl ?_
  refine r_iload_n 0 571 dL_law_570 rfl rfl ?_
  refine r_iconst (1) 572 dL_law_571 rfl rfl ?_
  refine r_iadd 573 dL_law_572 rfl ?_
  refine r_sld 574 hX dL_law_573 rfl h1.1 h1.2 ?_
  refine r_callV (mc1 := 0) (ms1 := 0) (b := a2) (rest := [.int w]) (av := [.int x1]) kX9_take 577 dL_law_574 rfl rfl mbL_80 imX9_take seX9_take gcl9.1 k2 (Nat.le_of_ble_eq_true rfl) hc1 hz1 (hc2 _ ?_)
  intro M2 hI2
  show Gs S Z X (d + 1) 600000 7302250 kL 577 [(3, .int iv), (0, .ref b), (1, .ref a), (2, .ref a2)] [.int w, .int w] M2 (c + 0) (z + 0)
  exact r_icmp_eq 1122 580 dL_law_577 rfl rfl (fun _ => h M2 hI2) (fun q => absurd rfl q)
theorem lwc_16 (hX : ∀ s args, S s args → va_X b Ls xs s s.heap ∧ b < s.heap.size) (hO : Ob X d 0 0 kX8_side kX9_side Inv a a2 [.int x1]) (hI : Inv M) (hfr : ∀ c, g_kd M c ≠ none → c < g_nx M) (hc1 : c + 0 ≤ 600000) (hz1 : z + 0 ≤ 7302250) (h1 : vp_in (iv + 1) Ls ∧ xs (iv + 1).toNatClampNeg = x1) (h : ∀ M2, Inv M2 → Gs S Z X (d + 1) 600000 7302250 kL 1122 [(3, .int iv), (0, .ref b), (1, .ref a), (2, .ref a2)] [] M2 (c + 0) (z + 0)) : Gs S Z X (d + 1) 600000 7302250 kL 582 [(3, .int iv), (0, .ref b), (1, .ref a), (2, .ref a2)] [] M c z := by
  refine r_aload_n 2 583 dL_law_582 rfl rfl ?_
  refine r_aload_n 1 584 dL_law_583 rfl rfl ?_
  refine r_iload_n 0 585 dL_law_584 rfl rfl ?_
  refine r_iconst (1) 586 dL_law_585 rfl rfl ?_
  refine r_iadd 587 dL_law_586 rfl ?_
  refine r_sld 588 hX dL_law_587 rfl h1.1 h1.2 ?_
  obtain ⟨ka, hc⟩ := hO M hI hfr
  refine r_callV (mc1 := 0) (ms1 := 0) (b := a) (rest := []) (av := [.int x1]) kX8_side 591 dL_law_588 rfl rfl mbL_81 imX8_side seX8_side gcl8.1 ka (Nat.le_of_ble_eq_true rfl) hc1 hz1 (hc _ ?_)
  intro w M1 k2 hc2
  show Gs S Z X (d + 1) 600000 7302250 kL 591 [(3, .int iv), (0, .ref b), (1, .ref a), (2, .ref a2)] [.int w] M1 (c + 0) (z + 0)
  refine r_aload_n 3 592 dL_law_591 rfl rfl ?_
  refine r_aload_n 1 593 dL_law_592 rfl rfl ?_
  refine r_iload_n 0 594 dL_law_593 rfl rfl ?_
  refine r_iconst (1) 595 dL_law_594 rfl rfl ?_
  refine r_iadd 596 dL_law_595 rfl ?_
  refine r_sld 597 hX dL_law_596 rfl h1.1 h1.2 ?_
  refine r_callV (mc1 := 0) (ms1 := 0) (b := a2) (rest := [.int w]) (av := [.int x1]) kX9_side 600 dL_law_597 rfl rfl mbL_84 imX9_side seX9_side gcl9.1 k2 (Nat.le_of_ble_eq_true rfl) hc1 hz1 (hc2 _ ?_)
  intro M2 hI2
  show Gs S Z X (d + 1) 600000 7302250 kL 600 [(3, .int iv), (0, .ref b), (1, .ref a), (2, .ref a2)] [.int w, .int w] M2 (c + 0) (z + 0)
  exact r_icmp_eq 1122 603 dL_law_600 rfl rfl (fun _ => h M2 hI2) (fun q => absurd rfl q)
theorem lwc_17 (hX : ∀ s args, S s args → va_X b Ls xs s s.heap ∧ b < s.heap.size) (hO : Ob X d 0 0 kX8_seed kX9_seed Inv a a2 [.int x1]) (hI : Inv M) (hfr : ∀ c, g_kd M c ≠ none → c < g_nx M) (hc1 : c + 0 ≤ 600000) (hz1 : z + 0 ≤ 7302250) (h1 : vp_in (iv + 1) Ls ∧ xs (iv + 1).toNatClampNeg = x1) (h : ∀ M2, Inv M2 → Gs S Z X (d + 1) 600000 7302250 kL 1122 [(3, .int iv), (0, .ref b), (1, .ref a), (2, .ref a2)] [] M2 (c + 0) (z + 0)) : Gs S Z X (d + 1) 600000 7302250 kL 605 [(3, .int iv), (0, .ref b), (1, .ref a), (2, .ref a2)] [] M c z := by
  refine r_aload_n 2 606 dL_law_605 rfl rfl ?_
  refine r_aload_n 1 607 dL_law_606 rfl rfl ?_
  refine r_iload_n 0 608 dL_law_607 rfl rfl ?_
  refine r_iconst (1) 609 dL_law_608 rfl rfl ?_
  refine r_iadd 610 dL_law_609 rfl ?_
  refine r_sld 611 hX dL_law_610 rfl h1.1 h1.2 ?_
  obtain ⟨ka, hc⟩ := hO M hI hfr
  refine r_callV (mc1 := 0) (ms1 := 0) (b := a) (rest := []) (av := [.int x1]) kX8_seed 614 dL_law_611 rfl rfl mbL_85 imX8_seed seX8_seed gcl8.1 ka (Nat.le_of_ble_eq_true rfl) hc1 hz1 (hc _ ?_)
  intro w M1 k2 hc2
  show Gs S Z X (d + 1) 600000 7302250 kL 614 [(3, .int iv), (0, .ref b), (1, .ref a), (2, .ref a2)] [.int w] M1 (c + 0) (z + 0)
  refine r_aload_n 3 615 dL_law_614 rfl rfl ?_
  refine r_aload_n 1 616 dL_law_615 rfl rfl ?_
  refine r_iload_n 0 617 dL_law_616 rfl rfl ?_
  refine r_iconst (1) 618 dL_law_617 rfl rfl ?_
  refine r_iadd 619 dL_law_618 rfl ?_
  refine r_sld 620 hX dL_law_619 rfl h1.1 h1.2 ?_
  refine r_callV (mc1 := 0) (ms1 := 0) (b := a2) (rest := [.int w]) (av := [.int x1]) kX9_seed 623 dL_law_620 rfl rfl mbL_88 imX9_seed seX9_seed gcl9.1 k2 (Nat.le_of_ble_eq_true rfl) hc1 hz1 (hc2 _ ?_)
  intro M2 hI2
  show Gs S Z X (d + 1) 600000 7302250 kL 623 [(3, .int iv), (0, .ref b), (1, .ref a), (2, .ref a2)] [.int w, .int w] M2 (c + 0) (z + 0)
  exact r_icmp_eq 1122 626 dL_law_623 rfl rfl (fun _ => h M2 hI2) (fun q => absurd rfl q)
theorem lwc_18 (hX : ∀ s args, S s args → va_X b Ls xs s s.heap ∧ b < s.heap.size) (hO : Ob X d 0 0 kX8_build kX9_build Inv a a2 []) (hI : Inv M) (hfr : ∀ c, g_kd M c ≠ none → c < g_nx M) (hc1 : c + 0 ≤ 600000) (hz1 : z + 0 ≤ 7302250)  (h : ∀ M2, Inv M2 → Gs S Z X (d + 1) 600000 7302250 kL 1122 [(3, .int iv), (0, .ref b), (1, .ref a), (2, .ref a2)] [] M2 (c + 0) (z + 0)) : Gs S Z X (d + 1) 600000 7302250 kL 628 [(3, .int iv), (0, .ref b), (1, .ref a), (2, .ref a2)] [] M c z := by
  refine r_aload_n 2 629 dL_law_628 rfl rfl ?_
  obtain ⟨ka, hc⟩ := hO M hI hfr
  refine r_callV (mc1 := 0) (ms1 := 0) (b := a) (rest := []) (av := []) kX8_build 632 dL_law_629 rfl rfl mbL_89 imX8_build seX8_build gcl8.1 ka (Nat.le_of_ble_eq_true rfl) hc1 hz1 (hc _ ?_)
  intro w M1 k2 hc2
  show Gs S Z X (d + 1) 600000 7302250 kL 632 [(3, .int iv), (0, .ref b), (1, .ref a), (2, .ref a2)] [.int w] M1 (c + 0) (z + 0)
  refine r_aload_n 3 633 dL_law_632 rfl rfl ?_
  refine r_callV (mc1 := 0) (ms1 := 0) (b := a2) (rest := [.int w]) (av := []) kX9_build 636 dL_law_633 rfl rfl mbL_92 imX9_build seX9_build gcl9.1 k2 (Nat.le_of_ble_eq_true rfl) hc1 hz1 (hc2 _ ?_)
  intro M2 hI2
  show Gs S Z X (d + 1) 600000 7302250 kL 636 [(3, .int iv), (0, .ref b), (1, .ref a), (2, .ref a2)] [.int w, .int w] M2 (c + 0) (z + 0)
  exact r_icmp_eq 1122 639 dL_law_636 rfl rfl (fun _ => h M2 hI2) (fun q => absurd rfl q)
theorem lwc_19 (hX : ∀ s args, S s args → va_X b Ls xs s s.heap ∧ b < s.heap.size) (hO : Ob X d 0 0 kX8_undo kX9_undo Inv a a2 []) (hI : Inv M) (hfr : ∀ c, g_kd M c ≠ none → c < g_nx M) (hc1 : c + 0 ≤ 600000) (hz1 : z + 0 ≤ 7302250)  (h : ∀ M2, Inv M2 → Gs S Z X (d + 1) 600000 7302250 kL 1122 [(3, .int iv), (0, .ref b), (1, .ref a), (2, .ref a2)] [] M2 (c + 0) (z + 0)) : Gs S Z X (d + 1) 600000 7302250 kL 641 [(3, .int iv), (0, .ref b), (1, .ref a), (2, .ref a2)] [] M c z := by
  refine r_aload_n 2 642 dL_law_641 rfl rfl ?_
  obtain ⟨ka, hc⟩ := hO M hI hfr
  refine r_callV (mc1 := 0) (ms1 := 0) (b := a) (rest := []) (av := []) kX8_undo 645 dL_law_642 rfl rfl mbL_93 imX8_undo seX8_undo gcl8.1 ka (Nat.le_of_ble_eq_true rfl) hc1 hz1 (hc _ ?_)
  intro w M1 k2 hc2
  show Gs S Z X (d + 1) 600000 7302250 kL 645 [(3, .int iv), (0, .ref b), (1, .ref a), (2, .ref a2)] [.int w] M1 (c + 0) (z + 0)
  refine r_aload_n 3 646 dL_law_645 rfl rfl ?_
  refine r_callV (mc1 := 0) (ms1 := 0) (b := a2) (rest := [.int w]) (av := []) kX9_undo 649 dL_law_646 rfl rfl mbL_96 imX9_undo seX9_undo gcl9.1 k2 (Nat.le_of_ble_eq_true rfl) hc1 hz1 (hc2 _ ?_)
  intro M2 hI2
  show Gs S Z X (d + 1) 600000 7302250 kL 649 [(3, .int iv), (0, .ref b), (1, .ref a), (2, .ref a2)] [.int w, .int w] M2 (c + 0) (z + 0)
  exact r_icmp_eq 1122 652 dL_law_649 rfl rfl (fun _ => h M2 hI2) (fun q => absurd rfl q)
theorem lwc_20 (hX : ∀ s args, S s args → va_X b Ls xs s s.heap ∧ b < s.heap.size) (hO : Ob X d 0 0 kX8_core kX9_core Inv a a2 [.int x1]) (hI : Inv M) (hfr : ∀ c, g_kd M c ≠ none → c < g_nx M) (hc1 : c + 0 ≤ 600000) (hz1 : z + 0 ≤ 7302250) (h1 : vp_in (iv + 1) Ls ∧ xs (iv + 1).toNatClampNeg = x1) (h : ∀ M2, Inv M2 → Gs S Z X (d + 1) 600000 7302250 kL 1122 [(3, .int iv), (0, .ref b), (1, .ref a), (2, .ref a2)] [] M2 (c + 0) (z + 0)) : Gs S Z X (d + 1) 600000 7302250 kL 654 [(3, .int iv), (0, .ref b), (1, .ref a), (2, .ref a2)] [] M c z := by
  refine r_aload_n 2 655 dL_law_654 rfl rfl ?_
  refine r_aload_n 1 656 dL_law_655 rfl rfl ?_
  refine r_iload_n 0 657 dL_law_656 rfl rfl ?_
  refine r_iconst (1) 658 dL_law_657 rfl rfl ?_
  refine r_iadd 659 dL_law_658 rfl ?_
  refine r_sld 660 hX dL_law_659 rfl h1.1 h1.2 ?_
  obtain ⟨ka, hc⟩ := hO M hI hfr
  refine r_callV (mc1 := 0) (ms1 := 0) (b := a) (rest := []) (av := [.int x1]) kX8_core 663 dL_law_660 rfl rfl mbL_97 imX8_core seX8_core gcl8.1 ka (Nat.le_of_ble_eq_true rfl) hc1 hz1 (hc _ ?_)
  intro w M1 k2 hc2
  show Gs S Z X (d + 1) 600000 7302250 kL 663 [(3, .int iv), (0, .ref b), (1, .ref a), (2, .ref a2)] [.int w] M1 (c + 0) (z + 0)
  refine r_aload_n 3 664 dL_law_663 rfl rfl ?_
  refine r_aload_n 1 665 dL_law_664 rfl rfl ?_
  refine r_iload_n 0 666 dL_law_665 rfl rfl ?_
  refine r_iconst (1) 667 dL_law_666 rfl rfl ?_
  refine r_iadd 668 dL_law_667 rfl ?_
  refine r_sld 669 hX dL_law_668 rfl h1.1 h1.2 ?_
  refine r_callV (mc1 := 0) (ms1 := 0) (b := a2) (rest := [.int w]) (av := [.int x1]) kX9_core 672 dL_law_669 rfl rfl mbL_100 imX9_core seX9_core gcl9.1 k2 (Nat.le_of_ble_eq_true rfl) hc1 hz1 (hc2 _ ?_)
  intro M2 hI2
  show Gs S Z X (d + 1) 600000 7302250 kL 672 [(3, .int iv), (0, .ref b), (1, .ref a), (2, .ref a2)] [.int w, .int w] M2 (c + 0) (z + 0)
  exact r_icmp_eq 1122 675 dL_law_672 rfl rfl (fun _ => h M2 hI2) (fun q => absurd rfl q)
theorem lwc_21 (hX : ∀ s args, S s args → va_X b Ls xs s s.heap ∧ b < s.heap.size) (hO : Ob X d 0 0 kX8_peeled kX9_peeled Inv a a2 [.int x1, .int x2]) (hI : Inv M) (hfr : ∀ c, g_kd M c ≠ none → c < g_nx M) (hc1 : c + 0 ≤ 600000) (hz1 : z + 0 ≤ 7302250) (h1 : vp_in (iv + 1) Ls ∧ xs (iv + 1).toNatClampNeg = x1) (h2 : vp_in (iv + 2) Ls ∧ xs (iv + 2).toNatClampNeg = x2) (h : ∀ M2, Inv M2 → Gs S Z X (d + 1) 600000 7302250 kL 1122 [(3, .int iv), (0, .ref b), (1, .ref a), (2, .ref a2)] [] M2 (c + 0) (z + 0)) : Gs S Z X (d + 1) 600000 7302250 kL 677 [(3, .int iv), (0, .ref b), (1, .ref a), (2, .ref a2)] [] M c z := by
  refine r_aload_n 2 678 dL_law_677 rfl rfl ?_
  refine r_aload_n 1 679 dL_law_678 rfl rfl ?_
  refine r_iload_n 0 680 dL_law_679 rfl rfl ?_
  refine r_iconst (1) 681 dL_law_680 rfl rfl ?_
  refine r_iadd 682 dL_law_681 rfl ?_
  refine r_sld 683 hX dL_law_682 rfl h1.1 h1.2 ?_
  refine r_aload_n 1 684 dL_law_683 rfl rfl ?_
  refine r_iload_n 0 685 dL_law_684 rfl rfl ?_
  refine r_iconst (2) 686 dL_law_685 rfl rfl ?_
  refine r_iadd 687 dL_law_686 rfl ?_
  refine r_sld 688 hX dL_law_687 rfl h2.1 h2.2 ?_
  obtain ⟨ka, hc⟩ := hO M hI hfr
  refine r_callV (mc1 := 0) (ms1 := 0) (b := a) (rest := []) (av := [.int x1, .int x2]) kX8_peeled 691 dL_law_688 rfl rfl mbL_101 imX8_peeled seX8_peeled gcl8.1 ka (Nat.le_of_ble_eq_true rfl) hc1 hz1 (hc _ ?_)
  intro w M1 k2 hc2
  show Gs S Z X (d + 1) 600000 7302250 kL 691 [(3, .int iv), (0, .ref b), (1, .ref a), (2, .ref a2)] [.int w] M1 (c + 0) (z + 0)
  refine r_aload_n 3 692 dL_law_691 rfl rfl ?_
  refine r_aload_n 1 693 dL_law_692 rfl rfl ?_
  refine r_iload_n 0 694 dL_law_693 rfl rfl ?_
  refine r_iconst (1) 695 dL_law_694 rfl rfl ?_
  refine r_iadd 696 dL_law_695 rfl ?_
  refine r_sld 697 hX dL_law_696 rfl h1.1 h1.2 ?_
  refine r_aload_n 1 698 dL_law_697 rfl rfl ?_
  refine r_iload_n 0 699 dL_law_698 rfl rfl ?_
  refine r_iconst (2) 700 dL_law_699 rfl rfl ?_
  refine r_iadd 701 dL_law_700 rfl ?_
  refine r_sld 702 hX dL_law_701 rfl h2.1 h2.2 ?_
  refine r_callV (mc1 := 0) (ms1 := 0) (b := a2) (rest := [.int w]) (av := [.int x1, .int x2]) kX9_peeled 705 dL_law_702 rfl rfl mbL_104 imX9_peeled seX9_peeled gcl9.1 k2 (Nat.le_of_ble_eq_true rfl) hc1 hz1 (hc2 _ ?_)
  intro M2 hI2
  show Gs S Z X (d + 1) 600000 7302250 kL 705 [(3, .int iv), (0, .ref b), (1, .ref a), (2, .ref a2)] [.int w, .int w] M2 (c + 0) (z + 0)
  exact r_icmp_eq 1122 708 dL_law_705 rfl rfl (fun _ => h M2 hI2) (fun q => absurd rfl q)
theorem lwc_22 (hX : ∀ s args, S s args → va_X b Ls xs s s.heap ∧ b < s.heap.size) (hO : Ob X d 0 0 kX8_good kX9_good Inv a a2 [.int x1]) (hI : Inv M) (hfr : ∀ c, g_kd M c ≠ none → c < g_nx M) (hc1 : c + 0 ≤ 600000) (hz1 : z + 0 ≤ 7302250) (h1 : vp_in (iv + 1) Ls ∧ xs (iv + 1).toNatClampNeg = x1) (h : ∀ M2, Inv M2 → Gs S Z X (d + 1) 600000 7302250 kL 1122 [(3, .int iv), (0, .ref b), (1, .ref a), (2, .ref a2)] [] M2 (c + 0) (z + 0)) : Gs S Z X (d + 1) 600000 7302250 kL 710 [(3, .int iv), (0, .ref b), (1, .ref a), (2, .ref a2)] [] M c z := by
  refine r_aload_n 2 711 dL_law_710 rfl rfl ?_
  refine r_aload_n 1 712 dL_law_711 rfl rfl ?_
  refine r_iload_n 0 713 dL_law_712 rfl rfl ?_
  refine r_iconst (1) 714 dL_law_713 rfl rfl ?_
  refine r_iadd 715 dL_law_714 rfl ?_
  refine r_sld 716 hX dL_law_715 rfl h1.1 h1.2 ?_
  obtain ⟨ka, hc⟩ := hO M hI hfr
  refine r_callV (mc1 := 0) (ms1 := 0) (b := a) (rest := []) (av := [.int x1]) kX8_good 719 dL_law_716 rfl rfl mbL_105 imX8_good seX8_good gcl8.1 ka (Nat.le_of_ble_eq_true rfl) hc1 hz1 (hc _ ?_)
  intro w M1 k2 hc2
  show Gs S Z X (d + 1) 600000 7302250 kL 719 [(3, .int iv), (0, .ref b), (1, .ref a), (2, .ref a2)] [.int w] M1 (c + 0) (z + 0)
  refine r_aload_n 3 720 dL_law_719 rfl rfl ?_
  refine r_aload_n 1 721 dL_law_720 rfl rfl ?_
  refine r_iload_n 0 722 dL_law_721 rfl rfl ?_
  refine r_iconst (1) 723 dL_law_722 rfl rfl ?_
  refine r_iadd 724 dL_law_723 rfl ?_
  refine r_sld 725 hX dL_law_724 rfl h1.1 h1.2 ?_
  refine r_callV (mc1 := 0) (ms1 := 0) (b := a2) (rest := [.int w]) (av := [.int x1]) kX9_good 728 dL_law_725 rfl rfl mbL_108 imX9_good seX9_good gcl9.1 k2 (Nat.le_of_ble_eq_true rfl) hc1 hz1 (hc2 _ ?_)
  intro M2 hI2
  show Gs S Z X (d + 1) 600000 7302250 kL 728 [(3, .int iv), (0, .ref b), (1, .ref a), (2, .ref a2)] [.int w, .int w] M2 (c + 0) (z + 0)
  exact r_icmp_eq 1122 731 dL_law_728 rfl rfl (fun _ => h M2 hI2) (fun q => absurd rfl q)
theorem lwc_23 (hX : ∀ s args, S s args → va_X b Ls xs s s.heap ∧ b < s.heap.size) (hO : Ob X d 0 0 kX8_leastSide kX9_leastSide Inv a a2 []) (hI : Inv M) (hfr : ∀ c, g_kd M c ≠ none → c < g_nx M) (hc1 : c + 0 ≤ 600000) (hz1 : z + 0 ≤ 7302250)  (h : ∀ M2, Inv M2 → Gs S Z X (d + 1) 600000 7302250 kL 1122 [(3, .int iv), (0, .ref b), (1, .ref a), (2, .ref a2)] [] M2 (c + 0) (z + 0)) : Gs S Z X (d + 1) 600000 7302250 kL 733 [(3, .int iv), (0, .ref b), (1, .ref a), (2, .ref a2)] [] M c z := by
  refine r_aload_n 2 734 dL_law_733 rfl rfl ?_
  obtain ⟨ka, hc⟩ := hO M hI hfr
  refine r_callV (mc1 := 0) (ms1 := 0) (b := a) (rest := []) (av := []) kX8_leastSide 737 dL_law_734 rfl rfl mbL_109 imX8_leastSide seX8_leastSide gcl8.1 ka (Nat.le_of_ble_eq_true rfl) hc1 hz1 (hc _ ?_)
  intro w M1 k2 hc2
  show Gs S Z X (d + 1) 600000 7302250 kL 737 [(3, .int iv), (0, .ref b), (1, .ref a), (2, .ref a2)] [.int w] M1 (c + 0) (z + 0)
  refine r_aload_n 3 738 dL_law_737 rfl rfl ?_
  refine r_callV (mc1 := 0) (ms1 := 0) (b := a2) (rest := [.int w]) (av := []) kX9_leastSide 741 dL_law_738 rfl rfl mbL_112 imX9_leastSide seX9_leastSide gcl9.1 k2 (Nat.le_of_ble_eq_true rfl) hc1 hz1 (hc2 _ ?_)
  intro M2 hI2
  show Gs S Z X (d + 1) 600000 7302250 kL 741 [(3, .int iv), (0, .ref b), (1, .ref a), (2, .ref a2)] [.int w, .int w] M2 (c + 0) (z + 0)
  exact r_icmp_eq 1122 744 dL_law_741 rfl rfl (fun _ => h M2 hI2) (fun q => absurd rfl q)
theorem lwc_24 (hX : ∀ s args, S s args → va_X b Ls xs s s.heap ∧ b < s.heap.size) (hO : Ob X d 0 0 kX8_found kX9_found Inv a a2 [.int x1, .int x2]) (hI : Inv M) (hfr : ∀ c, g_kd M c ≠ none → c < g_nx M) (hc1 : c + 0 ≤ 600000) (hz1 : z + 0 ≤ 7302250) (h1 : vp_in (iv + 1) Ls ∧ xs (iv + 1).toNatClampNeg = x1) (h2 : vp_in (iv + 2) Ls ∧ xs (iv + 2).toNatClampNeg = x2) (h : ∀ M2, Inv M2 → Gs S Z X (d + 1) 600000 7302250 kL 1122 [(3, .int iv), (0, .ref b), (1, .ref a), (2, .ref a2)] [] M2 (c + 0) (z + 0)) : Gs S Z X (d + 1) 600000 7302250 kL 746 [(3, .int iv), (0, .ref b), (1, .ref a), (2, .ref a2)] [] M c z := by
  refine r_aload_n 2 747 dL_law_746 rfl rfl ?_
  refine r_aload_n 1 748 dL_law_747 rfl rfl ?_
  refine r_iload_n 0 749 dL_law_748 rfl rfl ?_
  refine r_iconst (1) 750 dL_law_749 rfl rfl ?_
  refine r_iadd 751 dL_law_750 rfl ?_
  refine r_sld 752 hX dL_law_751 rfl h1.1 h1.2 ?_
  refine r_aload_n 1 753 dL_law_752 rfl rfl ?_
  refine r_iload_n 0 754 dL_law_753 rfl rfl ?_
  refine r_iconst (2) 755 dL_law_754 rfl rfl ?_
  refine r_iadd 756 dL_law_755 rfl ?_
  refine r_sld 757 hX dL_law_756 rfl h2.1 h2.2 ?_
  obtain ⟨ka, hc⟩ := hO M hI hfr
  refine r_callV (mc1 := 0) (ms1 := 0) (b := a) (rest := []) (av := [.int x1, .int x2]) kX8_found 760 dL_law_757 rfl rfl mbL_113 imX8_found seX8_found gcl8.1 ka (Nat.le_of_ble_eq_true rfl) hc1 hz1 (hc _ ?_)
  intro w M1 k2 hc2
  show Gs S Z X (d + 1) 600000 7302250 kL 760 [(3, .int iv), (0, .ref b), (1, .ref a), (2, .ref a2)] [.int w] M1 (c + 0) (z + 0)
  refine r_aload_n 3 761 dL_law_760 rfl rfl ?_
  refine r_aload_n 1 762 dL_law_761 rfl rfl ?_
  refine r_iload_n 0 763 dL_law_762 rfl rfl ?_
  refine r_iconst (1) 764 dL_law_763 rfl rfl ?_
  refine r_iadd 765 dL_law_764 rfl ?_
  refine r_sld 766 hX dL_law_765 rfl h1.1 h1.2 ?_
  refine r_aload_n 1 767 dL_law_766 rfl rfl ?_
  refine r_iload_n 0 768 dL_law_767 rfl rfl ?_
  refine r_iconst (2) 769 dL_law_768 rfl rfl ?_
  refine r_iadd 770 dL_law_769 rfl ?_
  refine r_sld 771 hX dL_law_770 rfl h2.1 h2.2 ?_
  refine r_callV (mc1 := 0) (ms1 := 0) (b := a2) (rest := [.int w]) (av := [.int x1, .int x2]) kX9_found 774 dL_law_771 rfl rfl mbL_116 imX9_found seX9_found gcl9.1 k2 (Nat.le_of_ble_eq_true rfl) hc1 hz1 (hc2 _ ?_)
  intro M2 hI2
  show Gs S Z X (d + 1) 600000 7302250 kL 774 [(3, .int iv), (0, .ref b), (1, .ref a), (2, .ref a2)] [.int w, .int w] M2 (c + 0) (z + 0)
  exact r_icmp_eq 1122 777 dL_law_774 rfl rfl (fun _ => h M2 hI2) (fun q => absurd rfl q)
theorem lwc_25 (hX : ∀ s args, S s args → va_X b Ls xs s s.heap ∧ b < s.heap.size) (hO : Ob X d 0 0 kX8_table kX9_table Inv a a2 [.int x1]) (hI : Inv M) (hfr : ∀ c, g_kd M c ≠ none → c < g_nx M) (hc1 : c + 0 ≤ 600000) (hz1 : z + 0 ≤ 7302250) (h1 : vp_in (iv + 1) Ls ∧ xs (iv + 1).toNatClampNeg = x1) (h : ∀ M2, Inv M2 → Gs S Z X (d + 1) 600000 7302250 kL 1122 [(3, .int iv), (0, .ref b), (1, .ref a), (2, .ref a2)] [] M2 (c + 0) (z + 0)) : Gs S Z X (d + 1) 600000 7302250 kL 779 [(3, .int iv), (0, .ref b), (1, .ref a), (2, .ref a2)] [] M c z := by
  refine r_aload_n 2 780 dL_law_779 rfl rfl ?_
  refine r_aload_n 1 781 dL_law_780 rfl rfl ?_
  refine r_iload_n 0 782 dL_law_781 rfl rfl ?_
  refine r_iconst (1) 783 dL_law_782 rfl rfl ?_
  refine r_iadd 784 dL_law_783 rfl ?_
  refine r_sld 785 hX dL_law_784 rfl h1.1 h1.2 ?_
  obtain ⟨ka, hc⟩ := hO M hI hfr
  refine r_callV (mc1 := 0) (ms1 := 0) (b := a) (rest := []) (av := [.int x1]) kX8_table 788 dL_law_785 rfl rfl mbL_117 imX8_table seX8_table gcl8.1 ka (Nat.le_of_ble_eq_true rfl) hc1 hz1 (hc _ ?_)
  intro w M1 k2 hc2
  show Gs S Z X (d + 1) 600000 7302250 kL 788 [(3, .int iv), (0, .ref b), (1, .ref a), (2, .ref a2)] [.int w] M1 (c + 0) (z + 0)
  refine r_aload_n 3 789 dL_law_788 rfl rfl ?_
  refine r_aload_n 1 790 dL_law_789 rfl rfl ?_
  refine r_iload_n 0 791 dL_law_790 rfl rfl ?_
  refine r_iconst (1) 792 dL_law_791 rfl rfl ?_
  refine r_iadd 793 dL_law_792 rfl ?_
  refine r_sld 794 hX dL_law_793 rfl h1.1 h1.2 ?_
  refine r_callV (mc1 := 0) (ms1 := 0) (b := a2) (rest := [.int w]) (av := [.int x1]) kX9_table 797 dL_law_794 rfl rfl mbL_120 imX9_table seX9_table gcl9.1 k2 (Nat.le_of_ble_eq_true rfl) hc1 hz1 (hc2 _ ?_)
  intro M2 hI2
  show Gs S Z X (d + 1) 600000 7302250 kL 797 [(3, .int iv), (0, .ref b), (1, .ref a), (2, .ref a2)] [.int w, .int w] M2 (c + 0) (z + 0)
  exact r_icmp_eq 1122 800 dL_law_797 rfl rfl (fun _ => h M2 hI2) (fun q => absurd rfl q)
theorem lwc_26 (hX : ∀ s args, S s args → va_X b Ls xs s s.heap ∧ b < s.heap.size) (hO : Ob X d 0 0 kX8_twin kX9_twin Inv a a2 [.int x1]) (hI : Inv M) (hfr : ∀ c, g_kd M c ≠ none → c < g_nx M) (hc1 : c + 0 ≤ 600000) (hz1 : z + 0 ≤ 7302250) (h1 : vp_in (iv + 1) Ls ∧ xs (iv + 1).toNatClampNeg = x1) (h : ∀ M2, Inv M2 → Gs S Z X (d + 1) 600000 7302250 kL 1122 [(3, .int iv), (0, .ref b), (1, .ref a), (2, .ref a2)] [] M2 (c + 0) (z + 0)) : Gs S Z X (d + 1) 600000 7302250 kL 802 [(3, .int iv), (0, .ref b), (1, .ref a), (2, .ref a2)] [] M c z := by
  refine r_aload_n 2 803 dL_law_802 rfl rfl ?_
  refine r_aload_n 1 804 dL_law_803 rfl rfl ?_
  refine r_iload_n 0 805 dL_law_804 rfl rfl ?_
  refine r_iconst (1) 806 dL_law_805 rfl rfl ?_
  refine r_iadd 807 dL_law_806 rfl ?_
  refine r_sld 808 hX dL_law_807 rfl h1.1 h1.2 ?_
  obtain ⟨ka, hc⟩ := hO M hI hfr
  refine r_callV (mc1 := 0) (ms1 := 0) (b := a) (rest := []) (av := [.int x1]) kX8_twin 811 dL_law_808 rfl rfl mbL_121 imX8_twin seX8_twin gcl8.1 ka (Nat.le_of_ble_eq_true rfl) hc1 hz1 (hc _ ?_)
  intro w M1 k2 hc2
  show Gs S Z X (d + 1) 600000 7302250 kL 811 [(3, .int iv), (0, .ref b), (1, .ref a), (2, .ref a2)] [.int w] M1 (c + 0) (z + 0)
  refine r_aload_n 3 812 dL_law_811 rfl rfl ?_
  refine r_aload_n 1 813 dL_law_812 rfl rfl ?_
  refine r_iload_n 0 814 dL_law_813 rfl rfl ?_
  refine r_iconst (1) 815 dL_law_814 rfl rfl ?_
  refine r_iadd 816 dL_law_815 rfl ?_
  refine r_sld 817 hX dL_law_816 rfl h1.1 h1.2 ?_
  refine r_callV (mc1 := 0) (ms1 := 0) (b := a2) (rest := [.int w]) (av := [.int x1]) kX9_twin 820 dL_law_817 rfl rfl mbL_124 imX9_twin seX9_twin gcl9.1 k2 (Nat.le_of_ble_eq_true rfl) hc1 hz1 (hc2 _ ?_)
  intro M2 hI2
  show Gs S Z X (d + 1) 600000 7302250 kL 820 [(3, .int iv), (0, .ref b), (1, .ref a), (2, .ref a2)] [.int w, .int w] M2 (c + 0) (z + 0)
  exact r_icmp_eq 1122 823 dL_law_820 rfl rfl (fun _ => h M2 hI2) (fun q => absurd rfl q)
theorem lwc_27 (hX : ∀ s args, S s args → va_X b Ls xs s s.heap ∧ b < s.heap.size) (hO : Ob X d 0 0 kX8_seen kX9_seen Inv a a2 [.int x1, .int x2]) (hI : Inv M) (hfr : ∀ c, g_kd M c ≠ none → c < g_nx M) (hc1 : c + 0 ≤ 600000) (hz1 : z + 0 ≤ 7302250) (h1 : vp_in (iv + 1) Ls ∧ xs (iv + 1).toNatClampNeg = x1) (h2 : vp_in (iv + 2) Ls ∧ xs (iv + 2).toNatClampNeg = x2) (h : ∀ M2, Inv M2 → Gs S Z X (d + 1) 600000 7302250 kL 1122 [(3, .int iv), (0, .ref b), (1, .ref a), (2, .ref a2)] [] M2 (c + 0) (z + 0)) : Gs S Z X (d + 1) 600000 7302250 kL 825 [(3, .int iv), (0, .ref b), (1, .ref a), (2, .ref a2)] [] M c z := by
  refine r_aload_n 2 826 dL_law_825 rfl rfl ?_
  refine r_aload_n 1 827 dL_law_826 rfl rfl ?_
  refine r_iload_n 0 828 dL_law_827 rfl rfl ?_
  refine r_iconst (1) 829 dL_law_828 rfl rfl ?_
  refine r_iadd 830 dL_law_829 rfl ?_
  refine r_sld 831 hX dL_law_830 rfl h1.1 h1.2 ?_
  refine r_aload_n 1 832 dL_law_831 rfl rfl ?_
  refine r_iload_n 0 833 dL_law_832 rfl rfl ?_
  refine r_iconst (2) 834 dL_law_833 rfl rfl ?_
  refine r_iadd 835 dL_law_834 rfl ?_
  refine r_sld 836 hX dL_law_835 rfl h2.1 h2.2 ?_
  obtain ⟨ka, hc⟩ := hO M hI hfr
  refine r_callV (mc1 := 0) (ms1 := 0) (b := a) (rest := []) (av := [.int x1, .int x2]) kX8_seen 839 dL_law_836 rfl rfl mbL_125 imX8_seen seX8_seen gcl8.1 ka (Nat.le_of_ble_eq_true rfl) hc1 hz1 (hc _ ?_)
  intro w M1 k2 hc2
  show Gs S Z X (d + 1) 600000 7302250 kL 839 [(3, .int iv), (0, .ref b), (1, .ref a), (2, .ref a2)] [.int w] M1 (c + 0) (z + 0)
  refine r_aload_n 3 840 dL_law_839 rfl rfl ?_
  refine r_aload_n 1 841 dL_law_840 rfl rfl ?_
  refine r_iload_n 0 842 dL_law_841 rfl rfl ?_
  refine r_iconst (1) 843 dL_law_842 rfl rfl ?_
  refine r_iadd 844 dL_law_843 rfl ?_
  refine r_sld 845 hX dL_law_844 rfl h1.1 h1.2 ?_
  refine r_aload_n 1 846 dL_law_845 rfl rfl ?_
  refine r_iload_n 0 847 dL_law_846 rfl rfl ?_
  refine r_iconst (2) 848 dL_law_847 rfl rfl ?_
  refine r_iadd 849 dL_law_848 rfl ?_
  refine r_sld 850 hX dL_law_849 rfl h2.1 h2.2 ?_
  refine r_callV (mc1 := 0) (ms1 := 0) (b := a2) (rest := [.int w]) (av := [.int x1, .int x2]) kX9_seen 853 dL_law_850 rfl rfl mbL_128 imX9_seen seX9_seen gcl9.1 k2 (Nat.le_of_ble_eq_true rfl) hc1 hz1 (hc2 _ ?_)
  intro M2 hI2
  show Gs S Z X (d + 1) 600000 7302250 kL 853 [(3, .int iv), (0, .ref b), (1, .ref a), (2, .ref a2)] [.int w, .int w] M2 (c + 0) (z + 0)
  exact r_icmp_eq 1122 856 dL_law_853 rfl rfl (fun _ => h M2 hI2) (fun q => absurd rfl q)
theorem lwc_28 (hX : ∀ s args, S s args → va_X b Ls xs s s.heap ∧ b < s.heap.size) (hO : Ob X d 0 0 kX8_forget kX9_forget Inv a a2 []) (hI : Inv M) (hfr : ∀ c, g_kd M c ≠ none → c < g_nx M) (hc1 : c + 0 ≤ 600000) (hz1 : z + 0 ≤ 7302250)  (h : ∀ M2, Inv M2 → Gs S Z X (d + 1) 600000 7302250 kL 1122 [(3, .int iv), (0, .ref b), (1, .ref a), (2, .ref a2)] [] M2 (c + 0) (z + 0)) : Gs S Z X (d + 1) 600000 7302250 kL 858 [(3, .int iv), (0, .ref b), (1, .ref a), (2, .ref a2)] [] M c z := by
  refine r_aload_n 2 859 dL_law_858 rfl rfl ?_
  obtain ⟨ka, hc⟩ := hO M hI hfr
  refine r_callV (mc1 := 0) (ms1 := 0) (b := a) (rest := []) (av := []) kX8_forget 862 dL_law_859 rfl rfl mbL_129 imX8_forget seX8_forget gcl8.1 ka (Nat.le_of_ble_eq_true rfl) hc1 hz1 (hc _ ?_)
  intro w M1 k2 hc2
  show Gs S Z X (d + 1) 600000 7302250 kL 862 [(3, .int iv), (0, .ref b), (1, .ref a), (2, .ref a2)] [.int w] M1 (c + 0) (z + 0)
  refine r_aload_n 3 863 dL_law_862 rfl rfl ?_
  refine r_callV (mc1 := 0) (ms1 := 0) (b := a2) (rest := [.int w]) (av := []) kX9_forget 866 dL_law_863 rfl rfl mbL_132 imX9_forget seX9_forget gcl9.1 k2 (Nat.le_of_ble_eq_true rfl) hc1 hz1 (hc2 _ ?_)
  intro M2 hI2
  show Gs S Z X (d + 1) 600000 7302250 kL 866 [(3, .int iv), (0, .ref b), (1, .ref a), (2, .ref a2)] [.int w, .int w] M2 (c + 0) (z + 0)
  exact r_icmp_eq 1122 869 dL_law_866 rfl rfl (fun _ => h M2 hI2) (fun q => absurd rfl q)
theorem lwc_29 (hX : ∀ s args, S s args → va_X b Ls xs s s.heap ∧ b < s.heap.size) (hO : Ob X d 0 0 kX8_canBe kX9_canBe Inv a a2 [.int x1]) (hI : Inv M) (hfr : ∀ c, g_kd M c ≠ none → c < g_nx M) (hc1 : c + 0 ≤ 600000) (hz1 : z + 0 ≤ 7302250) (h1 : vp_in (iv + 1) Ls ∧ xs (iv + 1).toNatClampNeg = x1) (h : ∀ M2, Inv M2 → Gs S Z X (d + 1) 600000 7302250 kL 1122 [(3, .int iv), (0, .ref b), (1, .ref a), (2, .ref a2)] [] M2 (c + 0) (z + 0)) : Gs S Z X (d + 1) 600000 7302250 kL 871 [(3, .int iv), (0, .ref b), (1, .ref a), (2, .ref a2)] [] M c z := by
  refine r_aload_n 2 872 dL_law_871 rfl rfl ?_
  refine r_aload_n 1 873 dL_law_872 rfl rfl ?_
  refine r_iload_n 0 874 dL_law_873 rfl rfl ?_
  refine r_iconst (1) 875 dL_law_874 rfl rfl ?_
  refine r_iadd 876 dL_law_875 rfl ?_
  refine r_sld 877 hX dL_law_876 rfl h1.1 h1.2 ?_
  obtain ⟨ka, hc⟩ := hO M hI hfr
  refine r_callV (mc1 := 0) (ms1 := 0) (b := a) (rest := []) (av := [.int x1]) kX8_canBe 880 dL_law_877 rfl rfl mbL_133 imX8_canBe seX8_canBe gcl8.1 ka (Nat.le_of_ble_eq_true rfl) hc1 hz1 (hc _ ?_)
  intro w M1 k2 hc2
  show Gs S Z X (d + 1) 600000 7302250 kL 880 [(3, .int iv), (0, .ref b), (1, .ref a), (2, .ref a2)] [.int w] M1 (c + 0) (z + 0)
  refine r_aload_n 3 881 dL_law_880 rfl rfl ?_
  refine r_aload_n 1 882 dL_law_881 rfl rfl ?_
  refine r_iload_n 0 883 dL_law_882 rfl rfl ?_
  refine r_iconst (1) 884 dL_law_883 rfl rfl ?_
  refine r_iadd 885 dL_law_884 rfl ?_
  refine r_sld 886 hX dL_law_885 rfl h1.1 h1.2 ?_
  refine r_callV (mc1 := 0) (ms1 := 0) (b := a2) (rest := [.int w]) (av := [.int x1]) kX9_canBe 889 dL_law_886 rfl rfl mbL_136 imX9_canBe seX9_canBe gcl9.1 k2 (Nat.le_of_ble_eq_true rfl) hc1 hz1 (hc2 _ ?_)
  intro M2 hI2
  show Gs S Z X (d + 1) 600000 7302250 kL 889 [(3, .int iv), (0, .ref b), (1, .ref a), (2, .ref a2)] [.int w, .int w] M2 (c + 0) (z + 0)
  exact r_icmp_eq 1122 892 dL_law_889 rfl rfl (fun _ => h M2 hI2) (fun q => absurd rfl q)
theorem lwc_30 (hX : ∀ s args, S s args → va_X b Ls xs s s.heap ∧ b < s.heap.size) (hO : Ob X d 0 0 kX8_ask kX9_ask Inv a a2 [.int x1]) (hI : Inv M) (hfr : ∀ c, g_kd M c ≠ none → c < g_nx M) (hc1 : c + 0 ≤ 600000) (hz1 : z + 0 ≤ 7302250) (h1 : vp_in (iv + 1) Ls ∧ xs (iv + 1).toNatClampNeg = x1) (h : ∀ M2, Inv M2 → Gs S Z X (d + 1) 600000 7302250 kL 1122 [(3, .int iv), (0, .ref b), (1, .ref a), (2, .ref a2)] [] M2 (c + 0) (z + 0)) : Gs S Z X (d + 1) 600000 7302250 kL 894 [(3, .int iv), (0, .ref b), (1, .ref a), (2, .ref a2)] [] M c z := by
  refine r_aload_n 2 895 dL_law_894 rfl rfl ?_
  refine r_aload_n 1 896 dL_law_895 rfl rfl ?_
  refine r_iload_n 0 897 dL_law_896 rfl rfl ?_
  refine r_iconst (1) 898 dL_law_897 rfl rfl ?_
  refine r_iadd 899 dL_law_898 rfl ?_
  refine r_sld 900 hX dL_law_899 rfl h1.1 h1.2 ?_
  obtain ⟨ka, hc⟩ := hO M hI hfr
  refine r_callV (mc1 := 0) (ms1 := 0) (b := a) (rest := []) (av := [.int x1]) kX8_ask 903 dL_law_900 rfl rfl mbL_137 imX8_ask seX8_ask gcl8.1 ka (Nat.le_of_ble_eq_true rfl) hc1 hz1 (hc _ ?_)
  intro w M1 k2 hc2
  show Gs S Z X (d + 1) 600000 7302250 kL 903 [(3, .int iv), (0, .ref b), (1, .ref a), (2, .ref a2)] [.int w] M1 (c + 0) (z + 0)
  refine r_aload_n 3 904 dL_law_903 rfl rfl ?_
  refine r_aload_n 1 905 dL_law_904 rfl rfl ?_
  refine r_iload_n 0 906 dL_law_905 rfl rfl ?_
  refine r_iconst (1) 907 dL_law_906 rfl rfl ?_
  refine r_iadd 908 dL_law_907 rfl ?_
  refine r_sld 909 hX dL_law_908 rfl h1.1 h1.2 ?_
  refine r_callV (mc1 := 0) (ms1 := 0) (b := a2) (rest := [.int w]) (av := [.int x1]) kX9_ask 912 dL_law_909 rfl rfl mbL_140 imX9_ask seX9_ask gcl9.1 k2 (Nat.le_of_ble_eq_true rfl) hc1 hz1 (hc2 _ ?_)
  intro M2 hI2
  show Gs S Z X (d + 1) 600000 7302250 kL 912 [(3, .int iv), (0, .ref b), (1, .ref a), (2, .ref a2)] [.int w, .int w] M2 (c + 0) (z + 0)
  exact r_icmp_eq 1122 915 dL_law_912 rfl rfl (fun _ => h M2 hI2) (fun q => absurd rfl q)
theorem lwc_31 (hX : ∀ s args, S s args → va_X b Ls xs s s.heap ∧ b < s.heap.size) (hO : ObL X d 0 0 kX8_few kX9_few Inv a a2 [.int x1, .int x2]) (hI : Inv M) (hfr : ∀ c, g_kd M c ≠ none → c < g_nx M) (hc1 : c + 0 ≤ 600000) (hz1 : z + 0 ≤ 7302250) (h1 : vp_in (iv + 1) Ls ∧ xs (iv + 1).toNatClampNeg = x1) (h2 : vp_in (iv + 2) Ls ∧ xs (iv + 2).toNatClampNeg = x2) (h : ∀ M2, Inv M2 → Gs S Z X (d + 1) 600000 7302250 kL 1122 [(3, .int iv), (0, .ref b), (1, .ref a), (2, .ref a2)] [] M2 (c + 0) (z + 0)) : Gs S Z X (d + 1) 600000 7302250 kL 917 [(3, .int iv), (0, .ref b), (1, .ref a), (2, .ref a2)] [] M c z := by
  refine r_aload_n 2 918 dL_law_917 rfl rfl ?_
  refine r_aload_n 1 919 dL_law_918 rfl rfl ?_
  refine r_iload_n 0 920 dL_law_919 rfl rfl ?_
  refine r_iconst (1) 921 dL_law_920 rfl rfl ?_
  refine r_iadd 922 dL_law_921 rfl ?_
  refine r_sld 923 hX dL_law_922 rfl h1.1 h1.2 ?_
  refine r_aload_n 1 924 dL_law_923 rfl rfl ?_
  refine r_iload_n 0 925 dL_law_924 rfl rfl ?_
  refine r_iconst (2) 926 dL_law_925 rfl rfl ?_
  refine r_iadd 927 dL_law_926 rfl ?_
  refine r_sld 928 hX dL_law_927 rfl h2.1 h2.2 ?_
  obtain ⟨ka, hc⟩ := hO M hI hfr
  refine r_callV (mc1 := 0) (ms1 := 0) (b := a) (rest := []) (av := [.int x1, .int x2]) kX8_few 931 dL_law_928 rfl rfl mbL_141 imX8_few seX8_few gcl8.1 ka (Nat.le_of_ble_eq_true rfl) hc1 hz1 (hc _ ?_)
  intro w M1 k2 hc2
  show Gs S Z X (d + 1) 600000 7302250 kL 931 [(3, .int iv), (0, .ref b), (1, .ref a), (2, .ref a2)] [.long w] M1 (c + 0) (z + 0)
  refine r_aload_n 3 932 dL_law_931 rfl rfl ?_
  refine r_aload_n 1 933 dL_law_932 rfl rfl ?_
  refine r_iload_n 0 934 dL_law_933 rfl rfl ?_
  refine r_iconst (1) 935 dL_law_934 rfl rfl ?_
  refine r_iadd 936 dL_law_935 rfl ?_
  refine r_sld 937 hX dL_law_936 rfl h1.1 h1.2 ?_
  refine r_aload_n 1 938 dL_law_937 rfl rfl ?_
  refine r_iload_n 0 939 dL_law_938 rfl rfl ?_
  refine r_iconst (2) 940 dL_law_939 rfl rfl ?_
  refine r_iadd 941 dL_law_940 rfl ?_
  refine r_sld 942 hX dL_law_941 rfl h2.1 h2.2 ?_
  refine r_callV (mc1 := 0) (ms1 := 0) (b := a2) (rest := [.long w]) (av := [.int x1, .int x2]) kX9_few 945 dL_law_942 rfl rfl mbL_145 imX9_few seX9_few gcl9.1 k2 (Nat.le_of_ble_eq_true rfl) hc1 hz1 (hc2 _ ?_)
  intro M2 hI2
  show Gs S Z X (d + 1) 600000 7302250 kL 945 [(3, .int iv), (0, .ref b), (1, .ref a), (2, .ref a2)] [.long w, .long w] M2 (c + 0) (z + 0)
  refine r_lcmp 946 dL_law_945 rfl ?_
  rw [show lg_cmp w w = 0 from by simp [lg_cmp]]
  exact r_if_eq 1122 949 dL_law_946 rfl rfl (fun _ => h M2 hI2) (fun q => absurd rfl q)
theorem lwc_32 (hX : ∀ s args, S s args → va_X b Ls xs s s.heap ∧ b < s.heap.size) (hO : Ob X d 0 0 kX8_compare kX9_compare Inv a a2 [.int x1, .int x2]) (hI : Inv M) (hfr : ∀ c, g_kd M c ≠ none → c < g_nx M) (hc1 : c + 0 ≤ 600000) (hz1 : z + 0 ≤ 7302250) (h1 : vp_in (iv + 1) Ls ∧ xs (iv + 1).toNatClampNeg = x1) (h2 : vp_in (iv + 2) Ls ∧ xs (iv + 2).toNatClampNeg = x2) (h : ∀ M2, Inv M2 → Gs S Z X (d + 1) 600000 7302250 kL 1122 [(3, .int iv), (0, .ref b), (1, .ref a), (2, .ref a2)] [] M2 (c + 0) (z + 0)) : Gs S Z X (d + 1) 600000 7302250 kL 951 [(3, .int iv), (0, .ref b), (1, .ref a), (2, .ref a2)] [] M c z := by
  refine r_aload_n 2 952 dL_law_951 rfl rfl ?_
  refine r_aload_n 1 953 dL_law_952 rfl rfl ?_
  refine r_iload_n 0 954 dL_law_953 rfl rfl ?_
  refine r_iconst (1) 955 dL_law_954 rfl rfl ?_
  refine r_iadd 956 dL_law_955 rfl ?_
  refine r_sld 957 hX dL_law_956 rfl h1.1 h1.2 ?_
  refine r_aload_n 1 958 dL_law_957 rfl rfl ?_
  refine r_iload_n 0 959 dL_law_958 rfl rfl ?_
  refine r_iconst (2) 960 dL_law_959 rfl rfl ?_
  refine r_iadd 961 dL_law_960 rfl ?_
  refine r_sld 962 hX dL_law_961 rfl h2.1 h2.2 ?_
  obtain ⟨ka, hc⟩ := hO M hI hfr
  refine r_callV (mc1 := 0) (ms1 := 0) (b := a) (rest := []) (av := [.int x1, .int x2]) kX8_compare 965 dL_law_962 rfl rfl mbL_146 imX8_compare seX8_compare gcl8.1 ka (Nat.le_of_ble_eq_true rfl) hc1 hz1 (hc _ ?_)
  intro w M1 k2 hc2
  show Gs S Z X (d + 1) 600000 7302250 kL 965 [(3, .int iv), (0, .ref b), (1, .ref a), (2, .ref a2)] [.int w] M1 (c + 0) (z + 0)
  refine r_aload_n 3 966 dL_law_965 rfl rfl ?_
  refine r_aload_n 1 967 dL_law_966 rfl rfl ?_
  refine r_iload_n 0 968 dL_law_967 rfl rfl ?_
  refine r_iconst (1) 969 dL_law_968 rfl rfl ?_
  refine r_iadd 970 dL_law_969 rfl ?_
  refine r_sld 971 hX dL_law_970 rfl h1.1 h1.2 ?_
  refine r_aload_n 1 972 dL_law_971 rfl rfl ?_
  refine r_iload_n 0 973 dL_law_972 rfl rfl ?_
  refine r_iconst (2) 974 dL_law_973 rfl rfl ?_
  refine r_iadd 975 dL_law_974 rfl ?_
  refine r_sld 976 hX dL_law_975 rfl h2.1 h2.2 ?_
  refine r_callV (mc1 := 0) (ms1 := 0) (b := a2) (rest := [.int w]) (av := [.int x1, .int x2]) kX9_compare 979 dL_law_976 rfl rfl mbL_149 imX9_compare seX9_compare gcl9.1 k2 (Nat.le_of_ble_eq_true rfl) hc1 hz1 (hc2 _ ?_)
  intro M2 hI2
  show Gs S Z X (d + 1) 600000 7302250 kL 979 [(3, .int iv), (0, .ref b), (1, .ref a), (2, .ref a2)] [.int w, .int w] M2 (c + 0) (z + 0)
  exact r_icmp_eq 1122 982 dL_law_979 rfl rfl (fun _ => h M2 hI2) (fun q => absurd rfl q)
theorem lwc_33 (hX : ∀ s args, S s args → va_X b Ls xs s s.heap ∧ b < s.heap.size) (hO : Ob X d 0 0 kX8_years kX9_years Inv a a2 [.int x1, .int x2]) (hI : Inv M) (hfr : ∀ c, g_kd M c ≠ none → c < g_nx M) (hc1 : c + 0 ≤ 600000) (hz1 : z + 0 ≤ 7302250) (h1 : vp_in (iv + 1) Ls ∧ xs (iv + 1).toNatClampNeg = x1) (h2 : vp_in (iv + 2) Ls ∧ xs (iv + 2).toNatClampNeg = x2) (h : ∀ M2, Inv M2 → Gs S Z X (d + 1) 600000 7302250 kL 1122 [(3, .int iv), (0, .ref b), (1, .ref a), (2, .ref a2)] [] M2 (c + 0) (z + 0)) : Gs S Z X (d + 1) 600000 7302250 kL 984 [(3, .int iv), (0, .ref b), (1, .ref a), (2, .ref a2)] [] M c z := by
  refine r_aload_n 2 985 dL_law_984 rfl rfl ?_
  refine r_aload_n 1 986 dL_law_985 rfl rfl ?_
  refine r_iload_n 0 987 dL_law_986 rfl rfl ?_
  refine r_iconst (1) 988 dL_law_987 rfl rfl ?_
  refine r_iadd 989 dL_law_988 rfl ?_
  refine r_sld 990 hX dL_law_989 rfl h1.1 h1.2 ?_
  refine r_aload_n 1 991 dL_law_990 rfl rfl ?_
  refine r_iload_n 0 992 dL_law_991 rfl rfl ?_
  refine r_iconst (2) 993 dL_law_992 rfl rfl ?_
  refine r_iadd 994 dL_law_993 rfl ?_
  refine r_sld 995 hX dL_law_994 rfl h2.1 h2.2 ?_
  obtain ⟨ka, hc⟩ := hO M hI hfr
  refine r_callV (mc1 := 0) (ms1 := 0) (b := a) (rest := []) (av := [.int x1, .int x2]) kX8_years 998 dL_law_995 rfl rfl mbL_150 imX8_years seX8_years gcl8.1 ka (Nat.le_of_ble_eq_true rfl) hc1 hz1 (hc _ ?_)
  intro w M1 k2 hc2
  show Gs S Z X (d + 1) 600000 7302250 kL 998 [(3, .int iv), (0, .ref b), (1, .ref a), (2, .ref a2)] [.int w] M1 (c + 0) (z + 0)
  refine r_aload_n 3 999 dL_law_998 rfl rfl ?_
  refine r_aload_n 1 1000 dL_law_999 rfl rfl ?_
  refine r_iload_n 0 1001 dL_law_1000 rfl rfl ?_
  refine r_iconst (1) 1002 dL_law_1001 rfl rfl ?_
  refine r_iadd 1003 dL_law_1002 rfl ?_
  refine r_sld 1004 hX dL_law_1003 rfl h1.1 h1.2 ?_
  refine r_aload_n 1 1005 dL_law_1004 rfl rfl ?_
  refine r_iload_n 0 1006 dL_law_1005 rfl rfl ?_
  refine r_iconst (2) 1007 dL_law_1006 rfl rfl ?_
  refine r_iadd 1008 dL_law_1007 rfl ?_
  refine r_sld 1009 hX dL_law_1008 rfl h2.1 h2.2 ?_
  refine r_callV (mc1 := 0) (ms1 := 0) (b := a2) (rest := [.int w]) (av := [.int x1, .int x2]) kX9_years 1012 dL_law_1009 rfl rfl mbL_153 imX9_years seX9_years gcl9.1 k2 (Nat.le_of_ble_eq_true rfl) hc1 hz1 (hc2 _ ?_)
  intro M2 hI2
  show Gs S Z X (d + 1) 600000 7302250 kL 1012 [(3, .int iv), (0, .ref b), (1, .ref a), (2, .ref a2)] [.int w, .int w] M2 (c + 0) (z + 0)
  exact r_icmp_eq 1122 1015 dL_law_1012 rfl rfl (fun _ => h M2 hI2) (fun q => absurd rfl q)
theorem lwc_34 (hX : ∀ s args, S s args → va_X b Ls xs s s.heap ∧ b < s.heap.size) (hO : Ob X d 0 0 kX8_drawn kX9_drawn Inv a a2 [.int x1]) (hI : Inv M) (hfr : ∀ c, g_kd M c ≠ none → c < g_nx M) (hc1 : c + 0 ≤ 600000) (hz1 : z + 0 ≤ 7302250) (h1 : vp_in (iv + 1) Ls ∧ xs (iv + 1).toNatClampNeg = x1) (h : ∀ M2, Inv M2 → Gs S Z X (d + 1) 600000 7302250 kL 1122 [(3, .int iv), (0, .ref b), (1, .ref a), (2, .ref a2)] [] M2 (c + 0) (z + 0)) : Gs S Z X (d + 1) 600000 7302250 kL 1017 [(3, .int iv), (0, .ref b), (1, .ref a), (2, .ref a2)] [] M c z := by
  refine r_aload_n 2 1018 dL_law_1017 rfl rfl ?_
  refine r_aload_n 1 1019 dL_law_1018 rfl rfl ?_
  refine r_iload_n 0 1020 dL_law_1019 rfl rfl ?_
  refine r_iconst (1) 1021 dL_law_1020 rfl rfl ?_
  refine r_iadd 1022 dL_law_1021 rfl ?_
  refine r_sld 1023 hX dL_law_1022 rfl h1.1 h1.2 ?_
  obtain ⟨ka, hc⟩ := hO M hI hfr
  refine r_callV (mc1 := 0) (ms1 := 0) (b := a) (rest := []) (av := [.int x1]) kX8_drawn 1026 dL_law_1023 rfl rfl mbL_154 imX8_drawn seX8_drawn gcl8.1 ka (Nat.le_of_ble_eq_true rfl) hc1 hz1 (hc _ ?_)
  intro w M1 k2 hc2
  show Gs S Z X (d + 1) 600000 7302250 kL 1026 [(3, .int iv), (0, .ref b), (1, .ref a), (2, .ref a2)] [.int w] M1 (c + 0) (z + 0)
  refine r_aload_n 3 1027 dL_law_1026 rfl rfl ?_
  refine r_aload_n 1 1028 dL_law_1027 rfl rfl ?_
  refine r_iload_n 0 1029 dL_law_1028 rfl rfl ?_
  refine r_iconst (1) 1030 dL_law_1029 rfl rfl ?_
  refine r_iadd 1031 dL_law_1030 rfl ?_
  refine r_sld 1032 hX dL_law_1031 rfl h1.1 h1.2 ?_
  refine r_callV (mc1 := 0) (ms1 := 0) (b := a2) (rest := [.int w]) (av := [.int x1]) kX9_drawn 1035 dL_law_1032 rfl rfl mbL_157 imX9_drawn seX9_drawn gcl9.1 k2 (Nat.le_of_ble_eq_true rfl) hc1 hz1 (hc2 _ ?_)
  intro M2 hI2
  show Gs S Z X (d + 1) 600000 7302250 kL 1035 [(3, .int iv), (0, .ref b), (1, .ref a), (2, .ref a2)] [.int w, .int w] M2 (c + 0) (z + 0)
  exact r_icmp_eq 1122 1038 dL_law_1035 rfl rfl (fun _ => h M2 hI2) (fun q => absurd rfl q)
theorem lwc_35 (hX : ∀ s args, S s args → va_X b Ls xs s s.heap ∧ b < s.heap.size) (hO : Ob X d 0 0 kX8_image kX9_image Inv a a2 [.int x1]) (hI : Inv M) (hfr : ∀ c, g_kd M c ≠ none → c < g_nx M) (hc1 : c + 0 ≤ 600000) (hz1 : z + 0 ≤ 7302250) (h1 : vp_in (iv + 1) Ls ∧ xs (iv + 1).toNatClampNeg = x1) (h : ∀ M2, Inv M2 → Gs S Z X (d + 1) 600000 7302250 kL 1122 [(3, .int iv), (0, .ref b), (1, .ref a), (2, .ref a2)] [] M2 (c + 0) (z + 0)) : Gs S Z X (d + 1) 600000 7302250 kL 1040 [(3, .int iv), (0, .ref b), (1, .ref a), (2, .ref a2)] [] M c z := by
  refine r_aload_n 2 1041 dL_law_1040 rfl rfl ?_
  refine r_aload_n 1 1042 dL_law_1041 rfl rfl ?_
  refine r_iload_n 0 1043 dL_law_1042 rfl rfl ?_
  refine r_iconst (1) 1044 dL_law_1043 rfl rfl ?_
  refine r_iadd 1045 dL_law_1044 rfl ?_
  refine r_sld 1046 hX dL_law_1045 rfl h1.1 h1.2 ?_
  obtain ⟨ka, hc⟩ := hO M hI hfr
  refine r_callV (mc1 := 0) (ms1 := 0) (b := a) (rest := []) (av := [.int x1]) kX8_image 1049 dL_law_1046 rfl rfl mbL_158 imX8_image seX8_image gcl8.1 ka (Nat.le_of_ble_eq_true rfl) hc1 hz1 (hc _ ?_)
  intro w M1 k2 hc2
  show Gs S Z X (d + 1) 600000 7302250 kL 1049 [(3, .int iv), (0, .ref b), (1, .ref a), (2, .ref a2)] [.int w] M1 (c + 0) (z + 0)
  refine r_aload_n 3 1050 dL_law_1049 rfl rfl ?_
  refine r_aload_n 1 1051 dL_law_1050 rfl rfl ?_
  refine r_iload_n 0 1052 dL_law_1051 rfl rfl ?_
  refine r_iconst (1) 1053 dL_law_1052 rfl rfl ?_
  refine r_iadd 1054 dL_law_1053 rfl ?_
  refine r_sld 1055 hX dL_law_1054 rfl h1.1 h1.2 ?_
  refine r_callV (mc1 := 0) (ms1 := 0) (b := a2) (rest := [.int w]) (av := [.int x1]) kX9_image 1058 dL_law_1055 rfl rfl mbL_161 imX9_image seX9_image gcl9.1 k2 (Nat.le_of_ble_eq_true rfl) hc1 hz1 (hc2 _ ?_)
  intro M2 hI2
  show Gs S Z X (d + 1) 600000 7302250 kL 1058 [(3, .int iv), (0, .ref b), (1, .ref a), (2, .ref a2)] [.int w, .int w] M2 (c + 0) (z + 0)
  exact r_icmp_eq 1122 1061 dL_law_1058 rfl rfl (fun _ => h M2 hI2) (fun q => absurd rfl q)
theorem lwc_36 (hX : ∀ s args, S s args → va_X b Ls xs s s.heap ∧ b < s.heap.size) (hO : Ob X d 0 0 kX8_back kX9_back Inv a a2 [.int x1]) (hI : Inv M) (hfr : ∀ c, g_kd M c ≠ none → c < g_nx M) (hc1 : c + 0 ≤ 600000) (hz1 : z + 0 ≤ 7302250) (h1 : vp_in (iv + 1) Ls ∧ xs (iv + 1).toNatClampNeg = x1) (h : ∀ M2, Inv M2 → Gs S Z X (d + 1) 600000 7302250 kL 1122 [(3, .int iv), (0, .ref b), (1, .ref a), (2, .ref a2)] [] M2 (c + 0) (z + 0)) : Gs S Z X (d + 1) 600000 7302250 kL 1063 [(3, .int iv), (0, .ref b), (1, .ref a), (2, .ref a2)] [] M c z := by
  refine r_aload_n 2 1064 dL_law_1063 rfl rfl ?_
  refine r_aload_n 1 1065 dL_law_1064 rfl rfl ?_
  refine r_iload_n 0 1066 dL_law_1065 rfl rfl ?_
  refine r_iconst (1) 1067 dL_law_1066 rfl rfl ?_
  refine r_iadd 1068 dL_law_1067 rfl ?_
  refine r_sld 1069 hX dL_law_1068 rfl h1.1 h1.2 ?_
  obtain ⟨ka, hc⟩ := hO M hI hfr
  refine r_callV (mc1 := 0) (ms1 := 0) (b := a) (rest := []) (av := [.int x1]) kX8_back 1072 dL_law_1069 rfl rfl mbL_162 imX8_back seX8_back gcl8.1 ka (Nat.le_of_ble_eq_true rfl) hc1 hz1 (hc _ ?_)
  intro w M1 k2 hc2
  show Gs S Z X (d + 1) 600000 7302250 kL 1072 [(3, .int iv), (0, .ref b), (1, .ref a), (2, .ref a2)] [.int w] M1 (c + 0) (z + 0)
  refine r_aload_n 3 1073 dL_law_1072 rfl rfl ?_
  refine r_aload_n 1 1074 dL_law_1073 rfl rfl ?_
  refine r_iload_n 0 1075 dL_law_1074 rfl rfl ?_
  refine r_iconst (1) 1076 dL_law_1075 rfl rfl ?_
  refine r_iadd 1077 dL_law_1076 rfl ?_
  refine r_sld 1078 hX dL_law_1077 rfl h1.1 h1.2 ?_
  refine r_callV (mc1 := 0) (ms1 := 0) (b := a2) (rest := [.int w]) (av := [.int x1]) kX9_back 1081 dL_law_1078 rfl rfl mbL_165 imX9_back seX9_back gcl9.1 k2 (Nat.le_of_ble_eq_true rfl) hc1 hz1 (hc2 _ ?_)
  intro M2 hI2
  show Gs S Z X (d + 1) 600000 7302250 kL 1081 [(3, .int iv), (0, .ref b), (1, .ref a), (2, .ref a2)] [.int w, .int w] M2 (c + 0) (z + 0)
  exact r_icmp_eq 1122 1084 dL_law_1081 rfl rfl (fun _ => h M2 hI2) (fun q => absurd rfl q)
theorem lwc_37 (hX : ∀ s args, S s args → va_X b Ls xs s s.heap ∧ b < s.heap.size) (hO : Ob X d 0 0 kX8_count kX9_count Inv a a2 [.int x1]) (hI : Inv M) (hfr : ∀ c, g_kd M c ≠ none → c < g_nx M) (hc1 : c + 0 ≤ 600000) (hz1 : z + 0 ≤ 7302250) (h1 : vp_in (iv + 1) Ls ∧ xs (iv + 1).toNatClampNeg = x1) (h : ∀ M2, Inv M2 → Gs S Z X (d + 1) 600000 7302250 kL 1122 [(3, .int iv), (0, .ref b), (1, .ref a), (2, .ref a2)] [] M2 (c + 0) (z + 0)) : Gs S Z X (d + 1) 600000 7302250 kL 1086 [(3, .int iv), (0, .ref b), (1, .ref a), (2, .ref a2)] [] M c z := by
  refine r_aload_n 2 1087 dL_law_1086 rfl rfl ?_
  refine r_aload_n 1 1088 dL_law_1087 rfl rfl ?_
  refine r_iload_n 0 1089 dL_law_1088 rfl rfl ?_
  refine r_iconst (1) 1090 dL_law_1089 rfl rfl ?_
  refine r_iadd 1091 dL_law_1090 rfl ?_
  refine r_sld 1092 hX dL_law_1091 rfl h1.1 h1.2 ?_
  obtain ⟨ka, hc⟩ := hO M hI hfr
  refine r_callV (mc1 := 0) (ms1 := 0) (b := a) (rest := []) (av := [.int x1]) kX8_count 1095 dL_law_1092 rfl rfl mbL_166 imX8_count seX8_count gcl8.1 ka (Nat.le_of_ble_eq_true rfl) hc1 hz1 (hc _ ?_)
  intro w M1 k2 hc2
  show Gs S Z X (d + 1) 600000 7302250 kL 1095 [(3, .int iv), (0, .ref b), (1, .ref a), (2, .ref a2)] [.int w] M1 (c + 0) (z + 0)
  refine r_aload_n 3 1096 dL_law_1095 rfl rfl ?_
  refine r_aload_n 1 1097 dL_law_1096 rfl rfl ?_
  refine r_iload_n 0 1098 dL_law_1097 rfl rfl ?_
  refine r_iconst (1) 1099 dL_law_1098 rfl rfl ?_
  refine r_iadd 1100 dL_law_1099 rfl ?_
  refine r_sld 1101 hX dL_law_1100 rfl h1.1 h1.2 ?_
  refine r_callV (mc1 := 0) (ms1 := 0) (b := a2) (rest := [.int w]) (av := [.int x1]) kX9_count 1104 dL_law_1101 rfl rfl mbL_169 imX9_count seX9_count gcl9.1 k2 (Nat.le_of_ble_eq_true rfl) hc1 hz1 (hc2 _ ?_)
  intro M2 hI2
  show Gs S Z X (d + 1) 600000 7302250 kL 1104 [(3, .int iv), (0, .ref b), (1, .ref a), (2, .ref a2)] [.int w, .int w] M2 (c + 0) (z + 0)
  exact r_icmp_eq 1122 1107 dL_law_1104 rfl rfl (fun _ => h M2 hI2) (fun q => absurd rfl q)
theorem lwc_38 (hX : ∀ s args, S s args → va_X b Ls xs s s.heap ∧ b < s.heap.size) (hO : Ob X d 0 0 kX8_status kX9_status Inv a a2 []) (hI : Inv M) (hfr : ∀ c, g_kd M c ≠ none → c < g_nx M) (hc1 : c + 0 ≤ 600000) (hz1 : z + 0 ≤ 7302250)  (h : ∀ M2, Inv M2 → Gs S Z X (d + 1) 600000 7302250 kL 1122 [(3, .int iv), (0, .ref b), (1, .ref a), (2, .ref a2)] [] M2 (c + 0) (z + 0)) : Gs S Z X (d + 1) 600000 7302250 kL 1109 [(3, .int iv), (0, .ref b), (1, .ref a), (2, .ref a2)] [] M c z := by
  refine r_aload_n 2 1110 dL_law_1109 rfl rfl ?_
  obtain ⟨ka, hc⟩ := hO M hI hfr
  refine r_callV (mc1 := 0) (ms1 := 0) (b := a) (rest := []) (av := []) kX8_status 1113 dL_law_1110 rfl rfl mbL_170 imX8_status seX8_status gcl8.1 ka (Nat.le_of_ble_eq_true rfl) hc1 hz1 (hc _ ?_)
  intro w M1 k2 hc2
  show Gs S Z X (d + 1) 600000 7302250 kL 1113 [(3, .int iv), (0, .ref b), (1, .ref a), (2, .ref a2)] [.int w] M1 (c + 0) (z + 0)
  refine r_aload_n 3 1114 dL_law_1113 rfl rfl ?_
  refine r_callV (mc1 := 0) (ms1 := 0) (b := a2) (rest := [.int w]) (av := []) kX9_status 1117 dL_law_1114 rfl rfl mbL_173 imX9_status seX9_status gcl9.1 k2 (Nat.le_of_ble_eq_true rfl) hc1 hz1 (hc2 _ ?_)
  intro M2 hI2
  show Gs S Z X (d + 1) 600000 7302250 kL 1117 [(3, .int iv), (0, .ref b), (1, .ref a), (2, .ref a2)] [.int w, .int w] M2 (c + 0) (z + 0)
  exact r_icmp_eq 1122 1120 dL_law_1117 rfl rfl (fun _ => h M2 hI2) (fun q => absurd rfl q)
end LWC
