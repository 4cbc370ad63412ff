/-- what X8_init makes -/
def G8 (M : gM) (a : Nat) : Prop := g_kd M a = some (8, 17) ∧ Ow M a (va_up (va_up (va_up (va_up (va_up (va_up (va_up (va_up (va_up (va_up (va_up (va_up (va_up (va_up (fun _ => none) 0 (some (a + 1))) 1 (some (a + 12))) 2 (some (a + 13))) 3 (some (a + 135))) 4 (some (a + 257))) 5 (some (a + 264))) 6 (some (a + 271))) 7 (some (a + 274))) 8 (some (a + 282))) 9 (some (a + 296))) 10 (some (a + 303))) 11 (some (a + 304))) 12 (some (a + 305))) 13 (some (a + 306))) (va_up (fun _ => 0) 14 (-1)) ∧ G7 M (a + 1) ∧ g_kd M (a + 12) = some (106, 2) ∧ Ow M (a + 12) (va_up (va_up (fun _ => none) 0 (some (a + 307))) 1 (some (a + 318))) (fun _ => 0) ∧ G0 M (a + 13) ∧ G0 M (a + 135) ∧ G3 M (a + 257) ∧ G3 M (a + 264) ∧ G4 M (a + 271) ∧ G1 M (a + 274) ∧ G2 M (a + 282) ∧ G6 M (a + 296) 0 0 ∧ g_kd M (a + 303) = some (100, 40) ∧ Ow M (a + 303) (fun _ => none) (fun j => if j < 40 then -1 else 0) ∧ Ar M (a + 304) 100 5 ∧ Ar M (a + 305) 100 30 ∧ Ar M (a + 306) 103 20 ∧ G7 M (a + 307) ∧ G7 M (a + 318)
theorem G8.bl {M M2 : gM} {a : Nat} (h : Bl a (a + 329) M M2) (e : G8 M a) : G8 M2 a := ⟨h.k (by omega) (by omega) e.1, e.2.1.bl (h.sub (by omega) (by omega)), G7.bl (h.sub (by omega) (by omega)) e.2.2.1, h.k (by omega) (by omega) e.2.2.2.1, e.2.2.2.2.1.bl (h.sub (by omega) (by omega)), G0.bl (h.sub (by omega) (by omega)) e.2.2.2.2.2.1, G0.bl (h.sub (by omega) (by omega)) e.2.2.2.2.2.2.1, G3.bl (h.sub (by omega) (by omega)) e.2.2.2.2.2.2.2.1, G3.bl (h.sub (by omega) (by omega)) e.2.2.2.2.2.2.2.2.1, G4.bl (h.sub (by omega) (by omega)) e.2.2.2.2.2.2.2.2.2.1, G1.bl (h.sub (by omega) (by omega)) e.2.2.2.2.2.2.2.2.2.2.1, G2.bl (h.sub (by omega) (by omega)) e.2.2.2.2.2.2.2.2.2.2.2.1, G6.bl (h.sub (by omega) (by omega)) e.2.2.2.2.2.2.2.2.2.2.2.2.1, h.k (by omega) (by omega) e.2.2.2.2.2.2.2.2.2.2.2.2.2.1, e.2.2.2.2.2.2.2.2.2.2.2.2.2.2.1.bl (h.sub (by omega) (by omega)), Ar.bl (h.sub (by omega) (by omega)) e.2.2.2.2.2.2.2.2.2.2.2.2.2.2.2.1, Ar.bl (h.sub (by omega) (by omega)) e.2.2.2.2.2.2.2.2.2.2.2.2.2.2.2.2.1, Ar.bl (h.sub (by omega) (by omega)) e.2.2.2.2.2.2.2.2.2.2.2.2.2.2.2.2.2.1, G7.bl (h.sub (by omega) (by omega)) e.2.2.2.2.2.2.2.2.2.2.2.2.2.2.2.2.2.2.1, G7.bl (h.sub (by omega) (by omega)) e.2.2.2.2.2.2.2.2.2.2.2.2.2.2.2.2.2.2.2⟩
set_option maxRecDepth 10000 in
set_option maxHeartbeats 4000000 in
theorem iX8_init_c11 {X : gX} {d : Nat} {Q : Option Value → gM → Prop} {M0 M : gM} {a : Nat} (h1 : G7 M (a + 1)) (h13 : G0 M (a + 13)) (h135 : G0 M (a + 135)) (h257 : G3 M (a + 257)) (h264 : G3 M (a + 264)) (h271 : G4 M (a + 271)) (h274 : G1 M (a + 274)) (h282 : G2 M (a + 282)) (h296 : G6 M (a + 296) 0 0) (h303 : Ar M (a + 303) 100 40) (h304 : Ar M (a + 304) 100 5) (h305 : Ar M (a + 305) 100 30) (h306 : Ar M (a + 306) 103 20) (h307 : G7 M (a + 307)) (h318 : G7 M (a + 318)) (k12 : g_kd M (a + 12) = some (106, 2)) (w12 : Ow M (a + 12) (va_up (fun _ => none) 0 (some (a + 307))) (fun _ => 0)) (hk : g_kd M a = some (8, 17)) (ho : Ow M a (va_up (va_up (va_up (va_up (va_up (va_up (va_up (va_up (va_up (va_up (va_up (va_up (va_up (va_up (fun _ => none) 0 (some (a + 1))) 1 (some (a + 12))) 2 (some (a + 13))) 3 (some (a + 135))) 4 (some (a + 257))) 5 (some (a + 264))) 6 (some (a + 271))) 7 (some (a + 274))) 8 (some (a + 282))) 9 (some (a + 296))) 10 (some (a + 303))) 11 (some (a + 304))) 12 (some (a + 305))) 13 (some (a + 306))) (va_up (fun _ => 0) 14 (-1))) (hF : Fr a M0 M) (hn : g_nx M = a + 329) (hQ : ∀ M2, Fr a M0 M2 → g_nx M2 = a + 329 → G8 M2 a → Q none M2) : Go X (d + 4) 328 11110 kX8_init Q 172 [(1, .int (1)), (0, .ref a)] [.ref (a + 318), .int (1), .ref (a + 12)] M 328 11110 := by
  refine g_aastore (t := 6) 173 dX8_init_172 rfl k12 (by decide) rfl h318.1 gcl7.1 (vp_lit rfl) ?_
  rw [show (1 : Int32).toNatClampNeg = 1 from rfl]
  replace h1 := G7.bl (Bl.wr (c := a + 12) (i := 1) (v := some (a + 318)) (by omega)) h1
  replace h13 := G0.bl (Bl.wr (c := a + 12) (i := 1) (v := some (a + 318)) (by omega)) h13
  replace h135 := G0.bl (Bl.wr (c := a + 12) (i := 1) (v := some (a + 318)) (by omega)) h135
  replace h257 := G3.bl (Bl.wr (c := a + 12) (i := 1) (v := some (a + 318)) (by omega)) h257
  replace h264 := G3.bl (Bl.wr (c := a + 12) (i := 1) (v := some (a + 318)) (by omega)) h264
  replace h271 := G4.bl (Bl.wr (c := a + 12) (i := 1) (v := some (a + 318)) (by omega)) h271
  replace h274 := G1.bl (Bl.wr (c := a + 12) (i := 1) (v := some (a + 318)) (by omega)) h274
  replace h282 := G2.bl (Bl.wr (c := a + 12) (i := 1) (v := some (a + 318)) (by omega)) h282
  replace h296 := G6.bl (Bl.wr (c := a + 12) (i := 1) (v := some (a + 318)) (by omega)) h296
  replace h303 := Ar.bl (Bl.wr (c := a + 12) (i := 1) (v := some (a + 318)) (by omega)) h303
  replace h304 := Ar.bl (Bl.wr (c := a + 12) (i := 1) (v := some (a + 318)) (by omega)) h304
  replace h305 := Ar.bl (Bl.wr (c := a + 12) (i := 1) (v := some (a + 318)) (by omega)) h305
  replace h306 := Ar.bl (Bl.wr (c := a + 12) (i := 1) (v := some (a + 318)) (by omega)) h306
  replace h307 := G7.bl (Bl.wr (c := a + 12) (i := 1) (v := some (a + 318)) (by omega)) h307
  replace h318 := G7.bl (Bl.wr (c := a + 12) (i := 1) (v := some (a + 318)) (by omega)) h318
  replace w12 := w12.wr (i := 1) (v := some (a + 318))
  replace ho := ho.bl (Bl.wr (c := a + 12) (i := 1) (v := some (a + 318)) (by omega))
  replace hF := hF.wr (c := a + 12) (i := 1) (v := some (a + 318)) (by omega)
  replace hk := kwr (c := a + 12) (i := 1) (v := some (a + 318)) hk
  replace k12 := kwr (c := a + 12) (i := 1) (v := some (a + 318)) k12
  replace hn := nwr (c := a + 12) (i := 1) (v := some (a + 318)) hn
  refine g_iinc (2) 0 176 [(1, .int (2)), (0, .ref a)] dX8_init_173 rfl rfl rfl (Nat.le_of_ble_eq_true rfl) rfl ?_
  refine g_goto 155 dX8_init_176 rfl ?_
  refine g_iload_n 0 156 dX8_init_155 rfl rfl ?_
  refine g_iconst (2) 157 dX8_init_156 rfl rfl ?_
  refine g_icmp_ge 179 160 dX8_init_157 rfl rfl (fun _ => ?_) (fun q => absurd q (by decide))
  refine g_aload_n 1 180 dX8_init_179 rfl rfl ?_
  refine g_getR 183 (a + 303) dX8_init_180 rfl flX8_74 hk (ho.1 10) ?_
  refine g_iconst (-1) 184 dX8_init_183 rfl rfl ?_
  refine g_callS (mc1 := 0) (ms1 := 0) (rest := []) (av := [.ref (a + 303), .int (-1)]) kJ7_fill_53178 187 dX8_init_184 rfl rfl mbX8_92 smJ7_fill_53178 (Nat.le_of_ble_eq_true rfl) (Nat.le_of_ble_eq_true rfl) (Nat.le_of_ble_eq_true rfl) (tFill (n := 40) h303.1 (by decide) ?_)
  intro M1 hf hnf hw
  show Go X _ _ _ kX8_init Q 187 [(1, .int (2)), (0, .ref a)] [] M1 328 11110
  replace h1 := G7.bl (hf (by omega)) h1
  replace h13 := G0.bl (hf (by omega)) h13
  replace h135 := G0.bl (hf (by omega)) h135
  replace h257 := G3.bl (hf (by omega)) h257
  replace h264 := G3.bl (hf (by omega)) h264
  replace h271 := G4.bl (hf (by omega)) h271
  replace h274 := G1.bl (hf (by omega)) h274
  replace h282 := G2.bl (hf (by omega)) h282
  replace h296 := G6.bl (hf (by omega)) h296
  replace h304 := Ar.bl (hf (by omega)) h304
  replace h305 := Ar.bl (hf (by omega)) h305
  replace h306 := Ar.bl (hf (by omega)) h306
  replace h307 := G7.bl (hf (by omega)) h307
  replace h318 := G7.bl (hf (by omega)) h318
  replace w12 := w12.bl (hf (by omega))
  replace k12 := (hf (lo := a + 12) (hi := a + 13) (by omega)).k (by omega) (by omega) k12
  replace ho := ho.bl (hf (by omega))
  replace hk := (hf (lo := a) (hi := a + 1) (by omega)).k (by omega) (by omega) hk
  have hF : Fr a M0 M1 := fun b hb => by
    obtain ⟨x1, x2, x3, x4⟩ := hF b hb
    obtain ⟨y1, y2, y3, y4⟩ := hf (lo := b) (hi := b + 1) (by omega) b (by omega) (by omega)
    exact ⟨y1.trans x1, y2.trans x2, y3.trans x3, y4.trans x4⟩
  have hn : g_nx M1 = a + 329 := hnf.trans hn
  have k303 := hw.1
  have w303 : Ow M1 (a + 303) (fun _ => none) (fun j => if j < 40 then -1 else 0) := ⟨fun j => (hw.2.1 j).trans (h303.2.2.2 j), fun j => by rw [hw.2.2 j, h303.2.1 j]⟩
  exact g_vret dX8_init_187 rfl (Nat.le_of_ble_eq_true rfl) (Nat.le_of_ble_eq_true rfl) (hQ _ hF hn ⟨hk, ho, h1, k12, w12, h13, h135, h257, h264, h271, h274, h282, h296, k303, w303, h304, h305, h306, h307, h318⟩)
set_option maxRecDepth 10000 in
set_option maxHeartbeats 4000000 in
theorem iX8_init_c10 {X : gX} {d : Nat} {Q : Option Value → gM → Prop} {M0 M : gM} {a : Nat} (h1 : G7 M (a + 1)) (h12 : Ar M (a + 12) 106 2) (h13 : G0 M (a + 13)) (h135 : G0 M (a + 135)) (h257 : G3 M (a + 257)) (h264 : G3 M (a + 264)) (h271 : G4 M (a + 271)) (h274 : G1 M (a + 274)) (h282 : G2 M (a + 282)) (h296 : G6 M (a + 296) 0 0) (h303 : Ar M (a + 303) 100 40) (h304 : Ar M (a + 304) 100 5) (h305 : Ar M (a + 305) 100 30) (h306 : Ar M (a + 306) 103 20) (h307 : G7 M (a + 307)) (hk : g_kd M a = some (8, 17)) (ho : Ow M a (va_up (va_up (va_up (va_up (va_up (va_up (va_up (va_up (va_up (va_up (va_up (va_up (va_up (va_up (fun _ => none) 0 (some (a + 1))) 1 (some (a + 12))) 2 (some (a + 13))) 3 (some (a + 135))) 4 (some (a + 257))) 5 (some (a + 264))) 6 (some (a + 271))) 7 (some (a + 274))) 8 (some (a + 282))) 9 (some (a + 296))) 10 (some (a + 303))) 11 (some (a + 304))) 12 (some (a + 305))) 13 (some (a + 306))) (va_up (fun _ => 0) 14 (-1))) (hF : Fr a M0 M) (hn : g_nx M = a + 318) (hQ : ∀ M2, Fr a M0 M2 → g_nx M2 = a + 329 → G8 M2 a → Q none M2) : Go X (d + 4) 328 11110 kX8_init Q 172 [(1, .int (0)), (0, .ref a)] [.ref (a + 307), .int (0), .ref (a + 12)] M 317 10888 := by
  have k12 := h12.1
  have w12 := Ow.ar h12
  refine g_aastore (t := 6) 173 dX8_init_172 rfl k12 (by decide) rfl h307.1 gcl7.1 (vp_lit rfl) ?_
  rw [show (0 : Int32).toNatClampNeg = 0 from rfl]
  replace h1 := G7.bl (Bl.wr (c := a + 12) (i := 0) (v := some (a + 307)) (by omega)) h1
  replace h13 := G0.bl (Bl.wr (c := a + 12) (i := 0) (v := some (a + 307)) (by omega)) h13
  replace h135 := G0.bl (Bl.wr (c := a + 12) (i := 0) (v := some (a + 307)) (by omega)) h135
  replace h257 := G3.bl (Bl.wr (c := a + 12) (i := 0) (v := some (a + 307)) (by omega)) h257
  replace h264 := G3.bl (Bl.wr (c := a + 12) (i := 0) (v := some (a + 307)) (by omega)) h264
  replace h271 := G4.bl (Bl.wr (c := a + 12) (i := 0) (v := some (a + 307)) (by omega)) h271
  replace h274 := G1.bl (Bl.wr (c := a + 12) (i := 0) (v := some (a + 307)) (by omega)) h274
  replace h282 := G2.bl (Bl.wr (c := a + 12) (i := 0) (v := some (a + 307)) (by omega)) h282
  replace h296 := G6.bl (Bl.wr (c := a + 12) (i := 0) (v := some (a + 307)) (by omega)) h296
  replace h303 := Ar.bl (Bl.wr (c := a + 12) (i := 0) (v := some (a + 307)) (by omega)) h303
  replace h304 := Ar.bl (Bl.wr (c := a + 12) (i := 0) (v := some (a + 307)) (by omega)) h304
  replace h305 := Ar.bl (Bl.wr (c := a + 12) (i := 0) (v := some (a + 307)) (by omega)) h305
  replace h306 := Ar.bl (Bl.wr (c := a + 12) (i := 0) (v := some (a + 307)) (by omega)) h306
  replace h307 := G7.bl (Bl.wr (c := a + 12) (i := 0) (v := some (a + 307)) (by omega)) h307
  replace w12 := w12.wr (i := 0) (v := some (a + 307))
  replace ho := ho.bl (Bl.wr (c := a + 12) (i := 0) (v := some (a + 307)) (by omega))
  replace hF := hF.wr (c := a + 12) (i := 0) (v := some (a + 307)) (by omega)
  replace hk := kwr (c := a + 12) (i := 0) (v := some (a + 307)) hk
  replace k12 := kwr (c := a + 12) (i := 0) (v := some (a + 307)) k12
  replace hn := nwr (c := a + 12) (i := 0) (v := some (a + 307)) hn
  refine g_iinc (1) 0 176 [(1, .int (1)), (0, .ref a)] dX8_init_173 rfl rfl rfl (Nat.le_of_ble_eq_true rfl) rfl ?_
  refine g_goto 155 dX8_init_176 rfl ?_
  refine g_iload_n 0 156 dX8_init_155 rfl rfl ?_
  refine g_iconst (2) 157 dX8_init_156 rfl rfl ?_
  refine g_icmp_ge 179 160 dX8_init_157 rfl rfl (fun q => absurd q (by decide)) (fun _ => ?_)
  refine g_aload_n 1 161 dX8_init_160 rfl rfl ?_
  refine g_getR 164 (a + 12) dX8_init_161 rfl flX8_18 hk (ho.1 1) ?_
  refine g_iload_n 0 165 dX8_init_164 rfl rfl ?_
  refine i_newo 168 (a + 318) dX8_init_165 rfl gcl7 q1_26 q1_27 q1_2 (Nat.le_of_ble_eq_true rfl) (Nat.le_of_ble_eq_true rfl) hn ?_
  replace h1 := G7.bl (Bl.new (c := 7) (z := 8) hn (by omega)) h1
  replace h13 := G0.bl (Bl.new (c := 7) (z := 8) hn (by omega)) h13
  replace h135 := G0.bl (Bl.new (c := 7) (z := 8) hn (by omega)) h135
  replace h257 := G3.bl (Bl.new (c := 7) (z := 8) hn (by omega)) h257
  replace h264 := G3.bl (Bl.new (c := 7) (z := 8) hn (by omega)) h264
  replace h271 := G4.bl (Bl.new (c := 7) (z := 8) hn (by omega)) h271
  replace h274 := G1.bl (Bl.new (c := 7) (z := 8) hn (by omega)) h274
  replace h282 := G2.bl (Bl.new (c := 7) (z := 8) hn (by omega)) h282
  replace h296 := G6.bl (Bl.new (c := 7) (z := 8) hn (by omega)) h296
  replace h303 := Ar.bl (Bl.new (c := 7) (z := 8) hn (by omega)) h303
  replace h304 := Ar.bl (Bl.new (c := 7) (z := 8) hn (by omega)) h304
  replace h305 := Ar.bl (Bl.new (c := 7) (z := 8) hn (by omega)) h305
  replace h306 := Ar.bl (Bl.new (c := 7) (z := 8) hn (by omega)) h306
  replace h307 := G7.bl (Bl.new (c := 7) (z := 8) hn (by omega)) h307
  replace w12 := w12.bl (Bl.new (c := 7) (z := 8) hn (by omega))
  replace k12 := kn (c := 7) (z := 8) k12 hn (by omega)
  replace ho := ho.bl (Bl.new (c := 7) (z := 8) hn (by omega))
  replace hk := kn (c := 7) (z := 8) hk hn (by omega)
  replace hF := hF.new (c := 7) (z := 8) hn (by omega)
  have h318 := Ar.mk (c := 7) (z := 8) hn
  replace hn : g_nx _ = a + 319 := nn (c := 7) (z := 8) hn
  refine g_dup 169 dX8_init_168 rfl rfl ?_
  refine g_callIN (mc1 := 10) (ms1 := 214) (b := (a + 318)) (rest := [.ref (a + 318), .int (1), .ref (a + 12)]) (av := []) kX7_init 172 dX8_init_169 rfl rfl mbX8_13 imX7_init rfl rfl (Nat.le_of_ble_eq_true rfl) (Nat.le_of_ble_eq_true rfl) (Nat.le_of_ble_eq_true rfl) (iX7_init h318 hn ?_)
  intro M319 hf hn2 hg
  show Go X _ _ _ kX8_init Q 172 [(1, .int (1)), (0, .ref a)] [.ref (a + 318), .int (1), .ref (a + 12)] M319 328 11110
  replace h1 := G7.bl (Bl.fr hf (by omega)) h1
  replace h13 := G0.bl (Bl.fr hf (by omega)) h13
  replace h135 := G0.bl (Bl.fr hf (by omega)) h135
  replace h257 := G3.bl (Bl.fr hf (by omega)) h257
  replace h264 := G3.bl (Bl.fr hf (by omega)) h264
  replace h271 := G4.bl (Bl.fr hf (by omega)) h271
  replace h274 := G1.bl (Bl.fr hf (by omega)) h274
  replace h282 := G2.bl (Bl.fr hf (by omega)) h282
  replace h296 := G6.bl (Bl.fr hf (by omega)) h296
  replace h303 := Ar.bl (Bl.fr hf (by omega)) h303
  replace h304 := Ar.bl (Bl.fr hf (by omega)) h304
  replace h305 := Ar.bl (Bl.fr hf (by omega)) h305
  replace h306 := Ar.bl (Bl.fr hf (by omega)) h306
  replace h307 := G7.bl (Bl.fr hf (by omega)) h307
  replace w12 := w12.bl (Bl.fr hf (by omega))
  replace k12 := (Bl.fr (lo := a + 12) (hi := a + 13) hf (by omega)).k (by omega) (by omega) k12
  replace ho := ho.bl (Bl.fr hf (by omega))
  replace hk := (Bl.fr (lo := a) (hi := a + 1) hf (by omega)).k (by omega) (by omega) hk
  replace hF := hF.tr hf (by omega)
  have hn : g_nx M319 = a + 329 := hn2
  have h318 := hg
  exact iX8_init_c11 h1 h13 h135 h257 h264 h271 h274 h282 h296 h303 h304 h305 h306 h307 h318 k12 w12 hk ho hF hn hQ
set_option maxRecDepth 10000 in
set_option maxHeartbeats 4000000 in
theorem iX8_init_c9 {X : gX} {d : Nat} {Q : Option Value → gM → Prop} {M0 M : gM} {a : Nat} (h1 : G7 M (a + 1)) (h12 : Ar M (a + 12) 106 2) (h13 : G0 M (a + 13)) (h135 : G0 M (a + 135)) (h257 : G3 M (a + 257)) (h264 : G3 M (a + 264)) (h271 : G4 M (a + 271)) (h274 : G1 M (a + 274)) (h282 : G2 M (a + 282)) (h296 : G6 M (a + 296) 0 0) (hk : g_kd M a = some (8, 17)) (ho : Ow M a (va_up (va_up (va_up (va_up (va_up (va_up (va_up (va_up (va_up (fun _ => none) 0 (some (a + 1))) 1 (some (a + 12))) 2 (some (a + 13))) 3 (some (a + 135))) 4 (some (a + 257))) 5 (some (a + 264))) 6 (some (a + 271))) 7 (some (a + 274))) 8 (some (a + 282))) (fun _ => 0)) (hF : Fr a M0 M) (hn : g_nx M = a + 303) (hQ : ∀ M2, Fr a M0 M2 → g_nx M2 = a + 329 → G8 M2 a → Q none M2) : Go X (d + 4) 328 11110 kX8_init Q 114 [(0, .ref a)] [.ref (a + 296), .ref a] M 302 10571 := by
  refine g_putRF 117 dX8_init_114 rfl flX8_70 hk rfl rfl rfl ?_
  replace h1 := G7.bl (Bl.wr (c := a) (i := 9) (v := some (a + 296)) (by omega)) h1
  replace h12 := Ar.bl (Bl.wr (c := a) (i := 9) (v := some (a + 296)) (by omega)) h12
  replace h13 := G0.bl (Bl.wr (c := a) (i := 9) (v := some (a + 296)) (by omega)) h13
  replace h135 := G0.bl (Bl.wr (c := a) (i := 9) (v := some (a + 296)) (by omega)) h135
  replace h257 := G3.bl (Bl.wr (c := a) (i := 9) (v := some (a + 296)) (by omega)) h257
  replace h264 := G3.bl (Bl.wr (c := a) (i := 9) (v := some (a + 296)) (by omega)) h264
  replace h271 := G4.bl (Bl.wr (c := a) (i := 9) (v := some (a + 296)) (by omega)) h271
  replace h274 := G1.bl (Bl.wr (c := a) (i := 9) (v := some (a + 296)) (by omega)) h274
  replace h282 := G2.bl (Bl.wr (c := a) (i := 9) (v := some (a + 296)) (by omega)) h282
  replace h296 := G6.bl (Bl.wr (c := a) (i := 9) (v := some (a + 296)) (by omega)) h296
  replace ho := ho.wr (i := 9) (v := some (a + 296))
  replace hF := hF.wr (i := 9) (v := some (a + 296)) (Nat.le_refl a)
  replace hk := kwr (c := a) (i := 9) (v := some (a + 296)) hk
  replace hn := nwr (c := a) (i := 9) (v := some (a + 296)) hn
  refine g_aload_n 0 118 dX8_init_117 rfl rfl ?_
  refine g_bipush (40) 120 dX8_init_118 rfl rfl ?_
  refine i_newa (t := 0) 122 (a + 303) dX8_init_120 rfl rfl (by decide) q1_71 (by decide) rfl (by decide) (Nat.le_of_ble_eq_true rfl) (Nat.le_of_ble_eq_true rfl) hn ?_
  replace h1 := G7.bl (Bl.new (c := 100) (z := 40) hn (by omega)) h1
  replace h12 := Ar.bl (Bl.new (c := 100) (z := 40) hn (by omega)) h12
  replace h13 := G0.bl (Bl.new (c := 100) (z := 40) hn (by omega)) h13
  replace h135 := G0.bl (Bl.new (c := 100) (z := 40) hn (by omega)) h135
  replace h257 := G3.bl (Bl.new (c := 100) (z := 40) hn (by omega)) h257
  replace h264 := G3.bl (Bl.new (c := 100) (z := 40) hn (by omega)) h264
  replace h271 := G4.bl (Bl.new (c := 100) (z := 40) hn (by omega)) h271
  replace h274 := G1.bl (Bl.new (c := 100) (z := 40) hn (by omega)) h274
  replace h282 := G2.bl (Bl.new (c := 100) (z := 40) hn (by omega)) h282
  replace h296 := G6.bl (Bl.new (c := 100) (z := 40) hn (by omega)) h296
  replace ho := ho.bl (Bl.new (c := 100) (z := 40) hn (by omega))
  replace hk := kn (c := 100) (z := 40) hk hn (by omega)
  replace hF := hF.new (c := 100) (z := 40) hn (by omega)
  have h303 := Ar.mk (c := 100) (z := 40) hn
  replace hn : g_nx _ = a + 304 := nn (c := 100) (z := 40) hn
  refine g_putRF 125 dX8_init_122 rfl flX8_74 hk rfl rfl rfl ?_
  replace h1 := G7.bl (Bl.wr (c := a) (i := 10) (v := some (a + 303)) (by omega)) h1
  replace h12 := Ar.bl (Bl.wr (c := a) (i := 10) (v := some (a + 303)) (by omega)) h12
  replace h13 := G0.bl (Bl.wr (c := a) (i := 10) (v := some (a + 303)) (by omega)) h13
  replace h135 := G0.bl (Bl.wr (c := a) (i := 10) (v := some (a + 303)) (by omega)) h135
  replace h257 := G3.bl (Bl.wr (c := a) (i := 10) (v := some (a + 303)) (by omega)) h257
  replace h264 := G3.bl (Bl.wr (c := a) (i := 10) (v := some (a + 303)) (by omega)) h264
  replace h271 := G4.bl (Bl.wr (c := a) (i := 10) (v := some (a + 303)) (by omega)) h271
  replace h274 := G1.bl (Bl.wr (c := a) (i := 10) (v := some (a + 303)) (by omega)) h274
  replace h282 := G2.bl (Bl.wr (c := a) (i := 10) (v := some (a + 303)) (by omega)) h282
  replace h296 := G6.bl (Bl.wr (c := a) (i := 10) (v := some (a + 303)) (by omega)) h296
  replace h303 := Ar.bl (Bl.wr (c := a) (i := 10) (v := some (a + 303)) (by omega)) h303
  replace ho := ho.wr (i := 10) (v := some (a + 303))
  replace hF := hF.wr (i := 10) (v := some (a + 303)) (Nat.le_refl a)
  replace hk := kwr (c := a) (i := 10) (v := some (a + 303)) hk
  replace hn := nwr (c := a) (i := 10) (v := some (a + 303)) hn
  refine g_aload_n 0 126 dX8_init_125 rfl rfl ?_
  refine g_iconst (5) 127 dX8_init_126 rfl rfl ?_
  refine i_newa (t := 0) 129 (a + 304) dX8_init_127 rfl rfl (by decide) q1_71 (by decide) rfl (by decide) (Nat.le_of_ble_eq_true rfl) (Nat.le_of_ble_eq_true rfl) hn ?_
  replace h1 := G7.bl (Bl.new (c := 100) (z := 5) hn (by omega)) h1
  replace h12 := Ar.bl (Bl.new (c := 100) (z := 5) hn (by omega)) h12
  replace h13 := G0.bl (Bl.new (c := 100) (z := 5) hn (by omega)) h13
  replace h135 := G0.bl (Bl.new (c := 100) (z := 5) hn (by omega)) h135
  replace h257 := G3.bl (Bl.new (c := 100) (z := 5) hn (by omega)) h257
  replace h264 := G3.bl (Bl.new (c := 100) (z := 5) hn (by omega)) h264
  replace h271 := G4.bl (Bl.new (c := 100) (z := 5) hn (by omega)) h271
  replace h274 := G1.bl (Bl.new (c := 100) (z := 5) hn (by omega)) h274
  replace h282 := G2.bl (Bl.new (c := 100) (z := 5) hn (by omega)) h282
  replace h296 := G6.bl (Bl.new (c := 100) (z := 5) hn (by omega)) h296
  replace h303 := Ar.bl (Bl.new (c := 100) (z := 5) hn (by omega)) h303
  replace ho := ho.bl (Bl.new (c := 100) (z := 5) hn (by omega))
  replace hk := kn (c := 100) (z := 5) hk hn (by omega)
  replace hF := hF.new (c := 100) (z := 5) hn (by omega)
  have h304 := Ar.mk (c := 100) (z := 5) hn
  replace hn : g_nx _ = a + 305 := nn (c := 100) (z := 5) hn
  refine g_putRF 132 dX8_init_129 rfl flX8_78 hk rfl rfl rfl ?_
  replace h1 := G7.bl (Bl.wr (c := a) (i := 11) (v := some (a + 304)) (by omega)) h1
  replace h12 := Ar.bl (Bl.wr (c := a) (i := 11) (v := some (a + 304)) (by omega)) h12
  replace h13 := G0.bl (Bl.wr (c := a) (i := 11) (v := some (a + 304)) (by omega)) h13
  replace h135 := G0.bl (Bl.wr (c := a) (i := 11) (v := some (a + 304)) (by omega)) h135
  replace h257 := G3.bl (Bl.wr (c := a) (i := 11) (v := some (a + 304)) (by omega)) h257
  replace h264 := G3.bl (Bl.wr (c := a) (i := 11) (v := some (a + 304)) (by omega)) h264
  replace h271 := G4.bl (Bl.wr (c := a) (i := 11) (v := some (a + 304)) (by omega)) h271
  replace h274 := G1.bl (Bl.wr (c := a) (i := 11) (v := some (a + 304)) (by omega)) h274
  replace h282 := G2.bl (Bl.wr (c := a) (i := 11) (v := some (a + 304)) (by omega)) h282
  replace h296 := G6.bl (Bl.wr (c := a) (i := 11) (v := some (a + 304)) (by omega)) h296
  replace h303 := Ar.bl (Bl.wr (c := a) (i := 11) (v := some (a + 304)) (by omega)) h303
  replace h304 := Ar.bl (Bl.wr (c := a) (i := 11) (v := some (a + 304)) (by omega)) h304
  replace ho := ho.wr (i := 11) (v := some (a + 304))
  replace hF := hF.wr (i := 11) (v := some (a + 304)) (Nat.le_refl a)
  replace hk := kwr (c := a) (i := 11) (v := some (a + 304)) hk
  replace hn := nwr (c := a) (i := 11) (v := some (a + 304)) hn
  refine g_aload_n 0 133 dX8_init_132 rfl rfl ?_
  refine g_bipush (30) 135 dX8_init_133 rfl rfl ?_
  refine i_newa (t := 0) 137 (a + 305) dX8_init_135 rfl rfl (by decide) q1_71 (by decide) rfl (by decide) (Nat.le_of_ble_eq_true rfl) (Nat.le_of_ble_eq_true rfl) hn ?_
  replace h1 := G7.bl (Bl.new (c := 100) (z := 30) hn (by omega)) h1
  replace h12 := Ar.bl (Bl.new (c := 100) (z := 30) hn (by omega)) h12
  replace h13 := G0.bl (Bl.new (c := 100) (z := 30) hn (by omega)) h13
  replace h135 := G0.bl (Bl.new (c := 100) (z := 30) hn (by omega)) h135
  replace h257 := G3.bl (Bl.new (c := 100) (z := 30) hn (by omega)) h257
  replace h264 := G3.bl (Bl.new (c := 100) (z := 30) hn (by omega)) h264
  replace h271 := G4.bl (Bl.new (c := 100) (z := 30) hn (by omega)) h271
  replace h274 := G1.bl (Bl.new (c := 100) (z := 30) hn (by omega)) h274
  replace h282 := G2.bl (Bl.new (c := 100) (z := 30) hn (by omega)) h282
  replace h296 := G6.bl (Bl.new (c := 100) (z := 30) hn (by omega)) h296
  replace h303 := Ar.bl (Bl.new (c := 100) (z := 30) hn (by omega)) h303
  replace h304 := Ar.bl (Bl.new (c := 100) (z := 30) hn (by omega)) h304
  replace ho := ho.bl (Bl.new (c := 100) (z := 30) hn (by omega))
  replace hk := kn (c := 100) (z := 30) hk hn (by omega)
  replace hF := hF.new (c := 100) (z := 30) hn (by omega)
  have h305 := Ar.mk (c := 100) (z := 30) hn
  replace hn : g_nx _ = a + 306 := nn (c := 100) (z := 30) hn
  refine g_putRF 140 dX8_init_137 rfl flX8_81 hk rfl rfl rfl ?_
  replace h1 := G7.bl (Bl.wr (c := a) (i := 12) (v := some (a + 305)) (by omega)) h1
  replace h12 := Ar.bl (Bl.wr (c := a) (i := 12) (v := some (a + 305)) (by omega)) h12
  replace h13 := G0.bl (Bl.wr (c := a) (i := 12) (v := some (a + 305)) (by omega)) h13
  replace h135 := G0.bl (Bl.wr (c := a) (i := 12) (v := some (a + 305)) (by omega)) h135
  replace h257 := G3.bl (Bl.wr (c := a) (i := 12) (v := some (a + 305)) (by omega)) h257
  replace h264 := G3.bl (Bl.wr (c := a) (i := 12) (v := some (a + 305)) (by omega)) h264
  replace h271 := G4.bl (Bl.wr (c := a) (i := 12) (v := some (a + 305)) (by omega)) h271
  replace h274 := G1.bl (Bl.wr (c := a) (i := 12) (v := some (a + 305)) (by omega)) h274
  replace h282 := G2.bl (Bl.wr (c := a) (i := 12) (v := some (a + 305)) (by omega)) h282
  replace h296 := G6.bl (Bl.wr (c := a) (i := 12) (v := some (a + 305)) (by omega)) h296
  replace h303 := Ar.bl (Bl.wr (c := a) (i := 12) (v := some (a + 305)) (by omega)) h303
  replace h304 := Ar.bl (Bl.wr (c := a) (i := 12) (v := some (a + 305)) (by omega)) h304
  replace h305 := Ar.bl (Bl.wr (c := a) (i := 12) (v := some (a + 305)) (by omega)) h305
  replace ho := ho.wr (i := 12) (v := some (a + 305))
  replace hF := hF.wr (i := 12) (v := some (a + 305)) (Nat.le_refl a)
  replace hk := kwr (c := a) (i := 12) (v := some (a + 305)) hk
  replace hn := nwr (c := a) (i := 12) (v := some (a + 305)) hn
  refine g_aload_n 0 141 dX8_init_140 rfl rfl ?_
  refine g_bipush (20) 143 dX8_init_141 rfl rfl ?_
  refine i_newa (t := 3) 145 (a + 306) dX8_init_143 rfl rfl (by decide) q2_145 (by decide) rfl (by decide) (Nat.le_of_ble_eq_true rfl) (Nat.le_of_ble_eq_true rfl) hn ?_
  replace h1 := G7.bl (Bl.new (c := 103) (z := 20) hn (by omega)) h1
  replace h12 := Ar.bl (Bl.new (c := 103) (z := 20) hn (by omega)) h12
  replace h13 := G0.bl (Bl.new (c := 103) (z := 20) hn (by omega)) h13
  replace h135 := G0.bl (Bl.new (c := 103) (z := 20) hn (by omega)) h135
  replace h257 := G3.bl (Bl.new (c := 103) (z := 20) hn (by omega)) h257
  replace h264 := G3.bl (Bl.new (c := 103) (z := 20) hn (by omega)) h264
  replace h271 := G4.bl (Bl.new (c := 103) (z := 20) hn (by omega)) h271
  replace h274 := G1.bl (Bl.new (c := 103) (z := 20) hn (by omega)) h274
  replace h282 := G2.bl (Bl.new (c := 103) (z := 20) hn (by omega)) h282
  replace h296 := G6.bl (Bl.new (c := 103) (z := 20) hn (by omega)) h296
  replace h303 := Ar.bl (Bl.new (c := 103) (z := 20) hn (by omega)) h303
  replace h304 := Ar.bl (Bl.new (c := 103) (z := 20) hn (by omega)) h304
  replace h305 := Ar.bl (Bl.new (c := 103) (z := 20) hn (by omega)) h305
  replace ho := ho.bl (Bl.new (c := 103) (z := 20) hn (by omega))
  replace hk := kn (c := 103) (z := 20) hk hn (by omega)
  replace hF := hF.new (c := 103) (z := 20) hn (by omega)
  have h306 := Ar.mk (c := 103) (z := 20) hn
  replace hn : g_nx _ = a + 307 := nn (c := 103) (z := 20) hn
  refine g_putRF 148 dX8_init_145 rfl flX8_84 hk rfl rfl rfl ?_
  replace h1 := G7.bl (Bl.wr (c := a) (i := 13) (v := some (a + 306)) (by omega)) h1
  replace h12 := Ar.bl (Bl.wr (c := a) (i := 13) (v := some (a + 306)) (by omega)) h12
  replace h13 := G0.bl (Bl.wr (c := a) (i := 13) (v := some (a + 306)) (by omega)) h13
  replace h135 := G0.bl (Bl.wr (c := a) (i := 13) (v := some (a + 306)) (by omega)) h135
  replace h257 := G3.bl (Bl.wr (c := a) (i := 13) (v := some (a + 306)) (by omega)) h257
  replace h264 := G3.bl (Bl.wr (c := a) (i := 13) (v := some (a + 306)) (by omega)) h264
  replace h271 := G4.bl (Bl.wr (c := a) (i := 13) (v := some (a + 306)) (by omega)) h271
  replace h274 := G1.bl (Bl.wr (c := a) (i := 13) (v := some (a + 306)) (by omega)) h274
  replace h282 := G2.bl (Bl.wr (c := a) (i := 13) (v := some (a + 306)) (by omega)) h282
  replace h296 := G6.bl (Bl.wr (c := a) (i := 13) (v := some (a + 306)) (by omega)) h296
  replace h303 := Ar.bl (Bl.wr (c := a) (i := 13) (v := some (a + 306)) (by omega)) h303
  replace h304 := Ar.bl (Bl.wr (c := a) (i := 13) (v := some (a + 306)) (by omega)) h304
  replace h305 := Ar.bl (Bl.wr (c := a) (i := 13) (v := some (a + 306)) (by omega)) h305
  replace h306 := Ar.bl (Bl.wr (c := a) (i := 13) (v := some (a + 306)) (by omega)) h306
  replace ho := ho.wr (i := 13) (v := some (a + 306))
  replace hF := hF.wr (i := 13) (v := some (a + 306)) (Nat.le_refl a)
  replace hk := kwr (c := a) (i := 13) (v := some (a + 306)) hk
  replace hn := nwr (c := a) (i := 13) (v := some (a + 306)) hn
  refine g_aload_n 0 149 dX8_init_148 rfl rfl ?_
  refine g_iconst (-1) 150 dX8_init_149 rfl rfl ?_
  refine g_putI 153 dX8_init_150 rfl flX8_88 hk ?_
  replace h1 := G7.bl (Bl.wi (c := a) (i := 14) (v := (-1)) (by omega)) h1
  replace h12 := Ar.bl (Bl.wi (c := a) (i := 14) (v := (-1)) (by omega)) h12
  replace h13 := G0.bl (Bl.wi (c := a) (i := 14) (v := (-1)) (by omega)) h13
  replace h135 := G0.bl (Bl.wi (c := a) (i := 14) (v := (-1)) (by omega)) h135
  replace h257 := G3.bl (Bl.wi (c := a) (i := 14) (v := (-1)) (by omega)) h257
  replace h264 := G3.bl (Bl.wi (c := a) (i := 14) (v := (-1)) (by omega)) h264
  replace h271 := G4.bl (Bl.wi (c := a) (i := 14) (v := (-1)) (by omega)) h271
  replace h274 := G1.bl (Bl.wi (c := a) (i := 14) (v := (-1)) (by omega)) h274
  replace h282 := G2.bl (Bl.wi (c := a) (i := 14) (v := (-1)) (by omega)) h282
  replace h296 := G6.bl (Bl.wi (c := a) (i := 14) (v := (-1)) (by omega)) h296
  replace h303 := Ar.bl (Bl.wi (c := a) (i := 14) (v := (-1)) (by omega)) h303
  replace h304 := Ar.bl (Bl.wi (c := a) (i := 14) (v := (-1)) (by omega)) h304
  replace h305 := Ar.bl (Bl.wi (c := a) (i := 14) (v := (-1)) (by omega)) h305
  replace h306 := Ar.bl (Bl.wi (c := a) (i := 14) (v := (-1)) (by omega)) h306
  replace ho := ho.wi (i := 14) (v := (-1))
  replace hF := hF.wi (i := 14) (v := (-1)) (Nat.le_refl a)
  replace hk := kwi (c := a) (i := 14) (v := (-1)) hk
  replace hn := nwi (c := a) (i := 14) (v := (-1)) hn
  refine g_iconst (0) 154 dX8_init_153 rfl rfl ?_
  refine g_istore_n 155 [(1, .int (0)), (0, .ref a)] dX8_init_154 rfl (Nat.le_of_ble_eq_true rfl) rfl ?_
  refine g_iload_n 0 156 dX8_init_155 rfl rfl ?_
  refine g_iconst (2) 157 dX8_init_156 rfl rfl ?_
  refine g_icmp_ge 179 160 dX8_init_157 rfl rfl (fun q => absurd q (by decide)) (fun _ => ?_)
  refine g_aload_n 1 161 dX8_init_160 rfl rfl ?_
  refine g_getR 164 (a + 12) dX8_init_161 rfl flX8_18 hk (ho.1 1) ?_
  refine g_iload_n 0 165 dX8_init_164 rfl rfl ?_
  refine i_newo 168 (a + 307) dX8_init_165 rfl gcl7 q1_26 q1_27 q1_2 (Nat.le_of_ble_eq_true rfl) (Nat.le_of_ble_eq_true rfl) hn ?_
  replace h1 := G7.bl (Bl.new (c := 7) (z := 8) hn (by omega)) h1
  replace h12 := Ar.bl (Bl.new (c := 7) (z := 8) hn (by omega)) h12
  replace h13 := G0.bl (Bl.new (c := 7) (z := 8) hn (by omega)) h13
  replace h135 := G0.bl (Bl.new (c := 7) (z := 8) hn (by omega)) h135
  replace h257 := G3.bl (Bl.new (c := 7) (z := 8) hn (by omega)) h257
  replace h264 := G3.bl (Bl.new (c := 7) (z := 8) hn (by omega)) h264
  replace h271 := G4.bl (Bl.new (c := 7) (z := 8) hn (by omega)) h271
  replace h274 := G1.bl (Bl.new (c := 7) (z := 8) hn (by omega)) h274
  replace h282 := G2.bl (Bl.new (c := 7) (z := 8) hn (by omega)) h282
  replace h296 := G6.bl (Bl.new (c := 7) (z := 8) hn (by omega)) h296
  replace h303 := Ar.bl (Bl.new (c := 7) (z := 8) hn (by omega)) h303
  replace h304 := Ar.bl (Bl.new (c := 7) (z := 8) hn (by omega)) h304
  replace h305 := Ar.bl (Bl.new (c := 7) (z := 8) hn (by omega)) h305
  replace h306 := Ar.bl (Bl.new (c := 7) (z := 8) hn (by omega)) h306
  replace ho := ho.bl (Bl.new (c := 7) (z := 8) hn (by omega))
  replace hk := kn (c := 7) (z := 8) hk hn (by omega)
  replace hF := hF.new (c := 7) (z := 8) hn (by omega)
  have h307 := Ar.mk (c := 7) (z := 8) hn
  replace hn : g_nx _ = a + 308 := nn (c := 7) (z := 8) hn
  refine g_dup 169 dX8_init_168 rfl rfl ?_
  refine g_callIN (mc1 := 10) (ms1 := 214) (b := (a + 307)) (rest := [.ref (a + 307), .int (0), .ref (a + 12)]) (av := []) kX7_init 172 dX8_init_169 rfl rfl mbX8_13 imX7_init rfl rfl (Nat.le_of_ble_eq_true rfl) (Nat.le_of_ble_eq_true rfl) (Nat.le_of_ble_eq_true rfl) (iX7_init h307 hn ?_)
  intro M308 hf hn2 hg
  show Go X _ _ _ kX8_init Q 172 [(1, .int (0)), (0, .ref a)] [.ref (a + 307), .int (0), .ref (a + 12)] M308 317 10888
  replace h1 := G7.bl (Bl.fr hf (by omega)) h1
  replace h12 := Ar.bl (Bl.fr hf (by omega)) h12
  replace h13 := G0.bl (Bl.fr hf (by omega)) h13
  replace h135 := G0.bl (Bl.fr hf (by omega)) h135
  replace h257 := G3.bl (Bl.fr hf (by omega)) h257
  replace h264 := G3.bl (Bl.fr hf (by omega)) h264
  replace h271 := G4.bl (Bl.fr hf (by omega)) h271
  replace h274 := G1.bl (Bl.fr hf (by omega)) h274
  replace h282 := G2.bl (Bl.fr hf (by omega)) h282
  replace h296 := G6.bl (Bl.fr hf (by omega)) h296
  replace h303 := Ar.bl (Bl.fr hf (by omega)) h303
  replace h304 := Ar.bl (Bl.fr hf (by omega)) h304
  replace h305 := Ar.bl (Bl.fr hf (by omega)) h305
  replace h306 := Ar.bl (Bl.fr hf (by omega)) h306
  replace ho := ho.bl (Bl.fr hf (by omega))
  replace hk := (Bl.fr (lo := a) (hi := a + 1) hf (by omega)).k (by omega) (by omega) hk
  replace hF := hF.tr hf (by omega)
  have hn : g_nx M308 = a + 318 := hn2
  have h307 := hg
  exact iX8_init_c10 h1 h12 h13 h135 h257 h264 h271 h274 h282 h296 h303 h304 h305 h306 h307 hk ho hF hn hQ
set_option maxRecDepth 10000 in
set_option maxHeartbeats 4000000 in
theorem iX8_init_c8 {X : gX} {d : Nat} {Q : Option Value → gM → Prop} {M0 M : gM} {a : Nat} (h1 : G7 M (a + 1)) (h12 : Ar M (a + 12) 106 2) (h13 : G0 M (a + 13)) (h135 : G0 M (a + 135)) (h257 : G3 M (a + 257)) (h264 : G3 M (a + 264)) (h271 : G4 M (a + 271)) (h274 : G1 M (a + 274)) (h282 : G2 M (a + 282)) (hk : g_kd M a = some (8, 17)) (ho : Ow M a (va_up (va_up (va_up (va_up (va_up (va_up (va_up (va_up (fun _ => none) 0 (some (a + 1))) 1 (some (a + 12))) 2 (some (a + 13))) 3 (some (a + 135))) 4 (some (a + 257))) 5 (some (a + 264))) 6 (some (a + 271))) 7 (some (a + 274))) (fun _ => 0)) (hF : Fr a M0 M) (hn : g_nx M = a + 296) (hQ : ∀ M2, Fr a M0 M2 → g_nx M2 = a + 329 → G8 M2 a → Q none M2) : Go X (d + 4) 328 11110 kX8_init Q 101 [(0, .ref a)] [.ref (a + 282), .ref a] M 295 10563 := by
  refine g_putRF 104 dX8_init_101 rfl flX8_61 hk rfl rfl rfl ?_
  replace h1 := G7.bl (Bl.wr (c := a) (i := 8) (v := some (a + 282)) (by omega)) h1
  replace h12 := Ar.bl (Bl.wr (c := a) (i := 8) (v := some (a + 282)) (by omega)) h12
  replace h13 := G0.bl (Bl.wr (c := a) (i := 8) (v := some (a + 282)) (by omega)) h13
  replace h135 := G0.bl (Bl.wr (c := a) (i := 8) (v := some (a + 282)) (by omega)) h135
  replace h257 := G3.bl (Bl.wr (c := a) (i := 8) (v := some (a + 282)) (by omega)) h257
  replace h264 := G3.bl (Bl.wr (c := a) (i := 8) (v := some (a + 282)) (by omega)) h264
  replace h271 := G4.bl (Bl.wr (c := a) (i := 8) (v := some (a + 282)) (by omega)) h271
  replace h274 := G1.bl (Bl.wr (c := a) (i := 8) (v := some (a + 282)) (by omega)) h274
  replace h282 := G2.bl (Bl.wr (c := a) (i := 8) (v := some (a + 282)) (by omega)) h282
  replace ho := ho.wr (i := 8) (v := some (a + 282))
  replace hF := hF.wr (i := 8) (v := some (a + 282)) (Nat.le_refl a)
  replace hk := kwr (c := a) (i := 8) (v := some (a + 282)) hk
  replace hn := nwr (c := a) (i := 8) (v := some (a + 282)) hn
  refine g_aload_n 0 105 dX8_init_104 rfl rfl ?_
  refine i_newo 108 (a + 296) dX8_init_105 rfl gcl6 q2_88 q1_229 q1_9 (Nat.le_of_ble_eq_true rfl) (Nat.le_of_ble_eq_true rfl) hn ?_
  replace h1 := G7.bl (Bl.new (c := 6) (z := 8) hn (by omega)) h1
  replace h12 := Ar.bl (Bl.new (c := 6) (z := 8) hn (by omega)) h12
  replace h13 := G0.bl (Bl.new (c := 6) (z := 8) hn (by omega)) h13
  replace h135 := G0.bl (Bl.new (c := 6) (z := 8) hn (by omega)) h135
  replace h257 := G3.bl (Bl.new (c := 6) (z := 8) hn (by omega)) h257
  replace h264 := G3.bl (Bl.new (c := 6) (z := 8) hn (by omega)) h264
  replace h271 := G4.bl (Bl.new (c := 6) (z := 8) hn (by omega)) h271
  replace h274 := G1.bl (Bl.new (c := 6) (z := 8) hn (by omega)) h274
  replace h282 := G2.bl (Bl.new (c := 6) (z := 8) hn (by omega)) h282
  replace ho := ho.bl (Bl.new (c := 6) (z := 8) hn (by omega))
  replace hk := kn (c := 6) (z := 8) hk hn (by omega)
  replace hF := hF.new (c := 6) (z := 8) hn (by omega)
  have h296 := Ar.mk (c := 6) (z := 8) hn
  replace hn : g_nx _ = a + 297 := nn (c := 6) (z := 8) hn
  refine g_dup 109 dX8_init_108 rfl rfl ?_
  refine g_iconst (0) 110 dX8_init_109 rfl rfl ?_
  refine g_iconst (0) 111 dX8_init_110 rfl rfl ?_
  refine g_callI (mc1 := 6) (ms1 := 0) (b := (a + 296)) (rest := [.ref (a + 296), .ref a]) (av := [.int (0), .int (0)]) kX6_init 114 dX8_init_111 rfl rfl mbX8_67 imX6_init rfl rfl (Nat.le_of_ble_eq_true rfl) (Nat.le_of_ble_eq_true rfl) (Nat.le_of_ble_eq_true rfl) (iX6_init (n := 0) (m := 0) rfl rfl (by decide) (by decide) (by decide) (by decide) h296 hn ?_)
  intro M297 hf hn2 hg
  show Go X _ _ _ kX8_init Q 114 [(0, .ref a)] [.ref (a + 296), .ref a] M297 302 10571
  replace h1 := G7.bl (Bl.fr hf (by omega)) h1
  replace h12 := Ar.bl (Bl.fr hf (by omega)) h12
  replace h13 := G0.bl (Bl.fr hf (by omega)) h13
  replace h135 := G0.bl (Bl.fr hf (by omega)) h135
  replace h257 := G3.bl (Bl.fr hf (by omega)) h257
  replace h264 := G3.bl (Bl.fr hf (by omega)) h264
  replace h271 := G4.bl (Bl.fr hf (by omega)) h271
  replace h274 := G1.bl (Bl.fr hf (by omega)) h274
  replace h282 := G2.bl (Bl.fr hf (by omega)) h282
  replace ho := ho.bl (Bl.fr hf (by omega))
  replace hk := (Bl.fr (lo := a) (hi := a + 1) hf (by omega)).k (by omega) (by omega) hk
  replace hF := hF.tr hf (by omega)
  have hn : g_nx M297 = a + 303 := hn2
  have h296 := hg
  exact iX8_init_c9 h1 h12 h13 h135 h257 h264 h271 h274 h282 h296 hk ho hF hn hQ
set_option maxRecDepth 10000 in
set_option maxHeartbeats 4000000 in
theorem iX8_init_c7 {X : gX} {d : Nat} {Q : Option Value → gM → Prop} {M0 M : gM} {a : Nat} (h1 : G7 M (a + 1)) (h12 : Ar M (a + 12) 106 2) (h13 : G0 M (a + 13)) (h135 : G0 M (a + 135)) (h257 : G3 M (a + 257)) (h264 : G3 M (a + 264)) (h271 : G4 M (a + 271)) (h274 : G1 M (a + 274)) (hk : g_kd M a = some (8, 17)) (ho : Ow M a (va_up (va_up (va_up (va_up (va_up (va_up (va_up (fun _ => none) 0 (some (a + 1))) 1 (some (a + 12))) 2 (some (a + 13))) 3 (some (a + 135))) 4 (some (a + 257))) 5 (some (a + 264))) 6 (some (a + 271))) (fun _ => 0)) (hF : Fr a M0 M) (hn : g_nx M = a + 282) (hQ : ∀ M2, Fr a M0 M2 → g_nx M2 = a + 329 → G8 M2 a → Q none M2) : Go X (d + 4) 328 11110 kX8_init Q 90 [(0, .ref a)] [.ref (a + 274), .ref a] M 281 7871 := by
  refine g_putRF 93 dX8_init_90 rfl flX8_54 hk rfl rfl rfl ?_
  replace h1 := G7.bl (Bl.wr (c := a) (i := 7) (v := some (a + 274)) (by omega)) h1
  replace h12 := Ar.bl (Bl.wr (c := a) (i := 7) (v := some (a + 274)) (by omega)) h12
  replace h13 := G0.bl (Bl.wr (c := a) (i := 7) (v := some (a + 274)) (by omega)) h13
  replace h135 := G0.bl (Bl.wr (c := a) (i := 7) (v := some (a + 274)) (by omega)) h135
  replace h257 := G3.bl (Bl.wr (c := a) (i := 7) (v := some (a + 274)) (by omega)) h257
  replace h264 := G3.bl (Bl.wr (c := a) (i := 7) (v := some (a + 274)) (by omega)) h264
  replace h271 := G4.bl (Bl.wr (c := a) (i := 7) (v := some (a + 274)) (by omega)) h271
  replace h274 := G1.bl (Bl.wr (c := a) (i := 7) (v := some (a + 274)) (by omega)) h274
  replace ho := ho.wr (i := 7) (v := some (a + 274))
  replace hF := hF.wr (i := 7) (v := some (a + 274)) (Nat.le_refl a)
  replace hk := kwr (c := a) (i := 7) (v := some (a + 274)) hk
  replace hn := nwr (c := a) (i := 7) (v := some (a + 274)) hn
  refine g_aload_n 0 94 dX8_init_93 rfl rfl ?_
  refine i_newo 97 (a + 282) dX8_init_94 rfl gcl2 q1_222 q1_223 q1_8 (Nat.le_of_ble_eq_true rfl) (Nat.le_of_ble_eq_true rfl) hn ?_
  replace h1 := G7.bl (Bl.new (c := 2) (z := 13) hn (by omega)) h1
  replace h12 := Ar.bl (Bl.new (c := 2) (z := 13) hn (by omega)) h12
  replace h13 := G0.bl (Bl.new (c := 2) (z := 13) hn (by omega)) h13
  replace h135 := G0.bl (Bl.new (c := 2) (z := 13) hn (by omega)) h135
  replace h257 := G3.bl (Bl.new (c := 2) (z := 13) hn (by omega)) h257
  replace h264 := G3.bl (Bl.new (c := 2) (z := 13) hn (by omega)) h264
  replace h271 := G4.bl (Bl.new (c := 2) (z := 13) hn (by omega)) h271
  replace h274 := G1.bl (Bl.new (c := 2) (z := 13) hn (by omega)) h274
  replace ho := ho.bl (Bl.new (c := 2) (z := 13) hn (by omega))
  replace hk := kn (c := 2) (z := 13) hk hn (by omega)
  replace hF := hF.new (c := 2) (z := 13) hn (by omega)
  have h282 := Ar.mk (c := 2) (z := 13) hn
  replace hn : g_nx _ = a + 283 := nn (c := 2) (z := 13) hn
  refine g_dup 98 dX8_init_97 rfl rfl ?_
  refine g_callIN (mc1 := 13) (ms1 := 2679) (b := (a + 282)) (rest := [.ref (a + 282), .ref a]) (av := []) kX2_init 101 dX8_init_98 rfl rfl mbX8_60 imX2_init rfl rfl (Nat.le_of_ble_eq_true rfl) (Nat.le_of_ble_eq_true rfl) (Nat.le_of_ble_eq_true rfl) (iX2_init h282 hn ?_)
  intro M283 hf hn2 hg
  show Go X _ _ _ kX8_init Q 101 [(0, .ref a)] [.ref (a + 282), .ref a] M283 295 10563
  replace h1 := G7.bl (Bl.fr hf (by omega)) h1
  replace h12 := Ar.bl (Bl.fr hf (by omega)) h12
  replace h13 := G0.bl (Bl.fr hf (by omega)) h13
  replace h135 := G0.bl (Bl.fr hf (by omega)) h135
  replace h257 := G3.bl (Bl.fr hf (by omega)) h257
  replace h264 := G3.bl (Bl.fr hf (by omega)) h264
  replace h271 := G4.bl (Bl.fr hf (by omega)) h271
  replace h274 := G1.bl (Bl.fr hf (by omega)) h274
  replace ho := ho.bl (Bl.fr hf (by omega))
  replace hk := (Bl.fr (lo := a) (hi := a + 1) hf (by omega)).k (by omega) (by omega) hk
  replace hF := hF.tr hf (by omega)
  have hn : g_nx M283 = a + 296 := hn2
  have h282 := hg
  exact iX8_init_c8 h1 h12 h13 h135 h257 h264 h271 h274 h282 hk ho hF hn hQ
set_option maxRecDepth 10000 in
set_option maxHeartbeats 4000000 in
theorem iX8_init_c6 {X : gX} {d : Nat} {Q : Option Value → gM → Prop} {M0 M : gM} {a : Nat} (h1 : G7 M (a + 1)) (h12 : Ar M (a + 12) 106 2) (h13 : G0 M (a + 13)) (h135 : G0 M (a + 135)) (h257 : G3 M (a + 257)) (h264 : G3 M (a + 264)) (h271 : G4 M (a + 271)) (hk : g_kd M a = some (8, 17)) (ho : Ow M a (va_up (va_up (va_up (va_up (va_up (va_up (fun _ => none) 0 (some (a + 1))) 1 (some (a + 12))) 2 (some (a + 13))) 3 (some (a + 135))) 4 (some (a + 257))) 5 (some (a + 264))) (fun _ => 0)) (hF : Fr a M0 M) (hn : g_nx M = a + 274) (hQ : ∀ M2, Fr a M0 M2 → g_nx M2 = a + 329 → G8 M2 a → Q none M2) : Go X (d + 4) 328 11110 kX8_init Q 75 [(0, .ref a)] [.ref (a + 271), .ref a] M 273 7469 := by
  refine g_putRF 78 dX8_init_75 rfl flX8_45 hk rfl rfl rfl ?_
  replace h1 := G7.bl (Bl.wr (c := a) (i := 6) (v := some (a + 271)) (by omega)) h1
  replace h12 := Ar.bl (Bl.wr (c := a) (i := 6) (v := some (a + 271)) (by omega)) h12
  replace h13 := G0.bl (Bl.wr (c := a) (i := 6) (v := some (a + 271)) (by omega)) h13
  replace h135 := G0.bl (Bl.wr (c := a) (i := 6) (v := some (a + 271)) (by omega)) h135
  replace h257 := G3.bl (Bl.wr (c := a) (i := 6) (v := some (a + 271)) (by omega)) h257
  replace h264 := G3.bl (Bl.wr (c := a) (i := 6) (v := some (a + 271)) (by omega)) h264
  replace h271 := G4.bl (Bl.wr (c := a) (i := 6) (v := some (a + 271)) (by omega)) h271
  replace ho := ho.wr (i := 6) (v := some (a + 271))
  replace hF := hF.wr (i := 6) (v := some (a + 271)) (Nat.le_refl a)
  replace hk := kwr (c := a) (i := 6) (v := some (a + 271)) hk
  replace hn := nwr (c := a) (i := 6) (v := some (a + 271)) hn
  refine g_aload_n 0 79 dX8_init_78 rfl rfl ?_
  refine i_newo 82 (a + 274) dX8_init_79 rfl gcl1 q1_181 q1_182 q1_7 (Nat.le_of_ble_eq_true rfl) (Nat.le_of_ble_eq_true rfl) hn ?_
  replace h1 := G7.bl (Bl.new (c := 1) (z := 9) hn (by omega)) h1
  replace h12 := Ar.bl (Bl.new (c := 1) (z := 9) hn (by omega)) h12
  replace h13 := G0.bl (Bl.new (c := 1) (z := 9) hn (by omega)) h13
  replace h135 := G0.bl (Bl.new (c := 1) (z := 9) hn (by omega)) h135
  replace h257 := G3.bl (Bl.new (c := 1) (z := 9) hn (by omega)) h257
  replace h264 := G3.bl (Bl.new (c := 1) (z := 9) hn (by omega)) h264
  replace h271 := G4.bl (Bl.new (c := 1) (z := 9) hn (by omega)) h271
  replace ho := ho.bl (Bl.new (c := 1) (z := 9) hn (by omega))
  replace hk := kn (c := 1) (z := 9) hk hn (by omega)
  replace hF := hF.new (c := 1) (z := 9) hn (by omega)
  have h274 := Ar.mk (c := 1) (z := 9) hn
  replace hn : g_nx _ = a + 275 := nn (c := 1) (z := 9) hn
  refine g_dup 83 dX8_init_82 rfl rfl ?_
  refine g_aload_n 0 84 dX8_init_83 rfl rfl ?_
  refine g_getR 87 (a + 271) dX8_init_84 rfl flX8_45 hk (ho.1 6) ?_
  refine g_callI (mc1 := 7) (ms1 := 393) (b := (a + 274)) (rest := [.ref (a + 274), .ref a]) (av := [.ref (a + 271)]) kX1_init 90 dX8_init_87 rfl rfl mbX8_51 imX1_init rfl rfl (Nat.le_of_ble_eq_true rfl) (Nat.le_of_ble_eq_true rfl) (Nat.le_of_ble_eq_true rfl) (iX1_init h274 hn ?_)
  intro M275 hf hn2 hg
  show Go X _ _ _ kX8_init Q 90 [(0, .ref a)] [.ref (a + 274), .ref a] M275 281 7871
  replace h1 := G7.bl (Bl.fr hf (by omega)) h1
  replace h12 := Ar.bl (Bl.fr hf (by omega)) h12
  replace h13 := G0.bl (Bl.fr hf (by omega)) h13
  replace h135 := G0.bl (Bl.fr hf (by omega)) h135
  replace h257 := G3.bl (Bl.fr hf (by omega)) h257
  replace h264 := G3.bl (Bl.fr hf (by omega)) h264
  replace h271 := G4.bl (Bl.fr hf (by omega)) h271
  replace ho := ho.bl (Bl.fr hf (by omega))
  replace hk := (Bl.fr (lo := a) (hi := a + 1) hf (by omega)).k (by omega) (by omega) hk
  replace hF := hF.tr hf (by omega)
  have hn : g_nx M275 = a + 282 := hn2
  have h274 := hg
  exact iX8_init_c7 h1 h12 h13 h135 h257 h264 h271 h274 hk ho hF hn hQ
set_option maxRecDepth 10000 in
set_option maxHeartbeats 4000000 in
theorem iX8_init_c5 {X : gX} {d : Nat} {Q : Option Value → gM → Prop} {M0 M : gM} {a : Nat} (h1 : G7 M (a + 1)) (h12 : Ar M (a + 12) 106 2) (h13 : G0 M (a + 13)) (h135 : G0 M (a + 135)) (h257 : G3 M (a + 257)) (h264 : G3 M (a + 264)) (hk : g_kd M a = some (8, 17)) (ho : Ow M a (va_up (va_up (va_up (va_up (va_up (fun _ => none) 0 (some (a + 1))) 1 (some (a + 12))) 2 (some (a + 13))) 3 (some (a + 135))) 4 (some (a + 257))) (fun _ => 0)) (hF : Fr a M0 M) (hn : g_nx M = a + 271) (hQ : ∀ M2, Fr a M0 M2 → g_nx M2 = a + 329 → G8 M2 a → Q none M2) : Go X (d + 4) 328 11110 kX8_init Q 64 [(0, .ref a)] [.ref (a + 264), .ref a] M 270 7356 := by
  refine g_putRF 67 dX8_init_64 rfl flX8_39 hk rfl rfl rfl ?_
  replace h1 := G7.bl (Bl.wr (c := a) (i := 5) (v := some (a + 264)) (by omega)) h1
  replace h12 := Ar.bl (Bl.wr (c := a) (i := 5) (v := some (a + 264)) (by omega)) h12
  replace h13 := G0.bl (Bl.wr (c := a) (i := 5) (v := some (a + 264)) (by omega)) h13
  replace h135 := G0.bl (Bl.wr (c := a) (i := 5) (v := some (a + 264)) (by omega)) h135
  replace h257 := G3.bl (Bl.wr (c := a) (i := 5) (v := some (a + 264)) (by omega)) h257
  replace h264 := G3.bl (Bl.wr (c := a) (i := 5) (v := some (a + 264)) (by omega)) h264
  replace ho := ho.wr (i := 5) (v := some (a + 264))
  replace hF := hF.wr (i := 5) (v := some (a + 264)) (Nat.le_refl a)
  replace hk := kwr (c := a) (i := 5) (v := some (a + 264)) hk
  replace hn := nwr (c := a) (i := 5) (v := some (a + 264)) hn
  refine g_aload_n 0 68 dX8_init_67 rfl rfl ?_
  refine i_newo 71 (a + 271) dX8_init_68 rfl gcl4 q1_167 q1_168 q1_6 (Nat.le_of_ble_eq_true rfl) (Nat.le_of_ble_eq_true rfl) hn ?_
  replace h1 := G7.bl (Bl.new (c := 4) (z := 2) hn (by omega)) h1
  replace h12 := Ar.bl (Bl.new (c := 4) (z := 2) hn (by omega)) h12
  replace h13 := G0.bl (Bl.new (c := 4) (z := 2) hn (by omega)) h13
  replace h135 := G0.bl (Bl.new (c := 4) (z := 2) hn (by omega)) h135
  replace h257 := G3.bl (Bl.new (c := 4) (z := 2) hn (by omega)) h257
  replace h264 := G3.bl (Bl.new (c := 4) (z := 2) hn (by omega)) h264
  replace ho := ho.bl (Bl.new (c := 4) (z := 2) hn (by omega))
  replace hk := kn (c := 4) (z := 2) hk hn (by omega)
  replace hF := hF.new (c := 4) (z := 2) hn (by omega)
  have h271 := Ar.mk (c := 4) (z := 2) hn
  replace hn : g_nx _ = a + 272 := nn (c := 4) (z := 2) hn
  refine g_dup 72 dX8_init_71 rfl rfl ?_
  refine g_callIN (mc1 := 2) (ms1 := 111) (b := (a + 271)) (rest := [.ref (a + 271), .ref a]) (av := []) kX4_init 75 dX8_init_72 rfl rfl mbX8_44 imX4_init rfl rfl (Nat.le_of_ble_eq_true rfl) (Nat.le_of_ble_eq_true rfl) (Nat.le_of_ble_eq_true rfl) (iX4_init h271 hn ?_)
  intro M272 hf hn2 hg
  show Go X _ _ _ kX8_init Q 75 [(0, .ref a)] [.ref (a + 271), .ref a] M272 273 7469
  replace h1 := G7.bl (Bl.fr hf (by omega)) h1
  replace h12 := Ar.bl (Bl.fr hf (by omega)) h12
  replace h13 := G0.bl (Bl.fr hf (by omega)) h13
  replace h135 := G0.bl (Bl.fr hf (by omega)) h135
  replace h257 := G3.bl (Bl.fr hf (by omega)) h257
  replace h264 := G3.bl (Bl.fr hf (by omega)) h264
  replace ho := ho.bl (Bl.fr hf (by omega))
  replace hk := (Bl.fr (lo := a) (hi := a + 1) hf (by omega)).k (by omega) (by omega) hk
  replace hF := hF.tr hf (by omega)
  have hn : g_nx M272 = a + 274 := hn2
  have h271 := hg
  exact iX8_init_c6 h1 h12 h13 h135 h257 h264 h271 hk ho hF hn hQ
set_option maxRecDepth 10000 in
set_option maxHeartbeats 4000000 in
theorem iX8_init_c4 {X : gX} {d : Nat} {Q : Option Value → gM → Prop} {M0 M : gM} {a : Nat} (h1 : G7 M (a + 1)) (h12 : Ar M (a + 12) 106 2) (h13 : G0 M (a + 13)) (h135 : G0 M (a + 135)) (h257 : G3 M (a + 257)) (hk : g_kd M a = some (8, 17)) (ho : Ow M a (va_up (va_up (va_up (va_up (fun _ => none) 0 (some (a + 1))) 1 (some (a + 12))) 2 (some (a + 13))) 3 (some (a + 135))) (fun _ => 0)) (hF : Fr a M0 M) (hn : g_nx M = a + 264) (hQ : ∀ M2, Fr a M0 M2 → g_nx M2 = a + 329 → G8 M2 a → Q none M2) : Go X (d + 4) 328 11110 kX8_init Q 53 [(0, .ref a)] [.ref (a + 257), .ref a] M 263 7160 := by
  refine g_putRF 56 dX8_init_53 rfl flX8_35 hk rfl rfl rfl ?_
  replace h1 := G7.bl (Bl.wr (c := a) (i := 4) (v := some (a + 257)) (by omega)) h1
  replace h12 := Ar.bl (Bl.wr (c := a) (i := 4) (v := some (a + 257)) (by omega)) h12
  replace h13 := G0.bl (Bl.wr (c := a) (i := 4) (v := some (a + 257)) (by omega)) h13
  replace h135 := G0.bl (Bl.wr (c := a) (i := 4) (v := some (a + 257)) (by omega)) h135
  replace h257 := G3.bl (Bl.wr (c := a) (i := 4) (v := some (a + 257)) (by omega)) h257
  replace ho := ho.wr (i := 4) (v := some (a + 257))
  replace hF := hF.wr (i := 4) (v := some (a + 257)) (Nat.le_refl a)
  replace hk := kwr (c := a) (i := 4) (v := some (a + 257)) hk
  replace hn := nwr (c := a) (i := 4) (v := some (a + 257)) hn
  refine g_aload_n 0 57 dX8_init_56 rfl rfl ?_
  refine i_newo 60 (a + 264) dX8_init_57 rfl gcl3 q1_165 q1_33 q1_3 (Nat.le_of_ble_eq_true rfl) (Nat.le_of_ble_eq_true rfl) hn ?_
  replace h1 := G7.bl (Bl.new (c := 3) (z := 6) hn (by omega)) h1
  replace h12 := Ar.bl (Bl.new (c := 3) (z := 6) hn (by omega)) h12
  replace h13 := G0.bl (Bl.new (c := 3) (z := 6) hn (by omega)) h13
  replace h135 := G0.bl (Bl.new (c := 3) (z := 6) hn (by omega)) h135
  replace h257 := G3.bl (Bl.new (c := 3) (z := 6) hn (by omega)) h257
  replace ho := ho.bl (Bl.new (c := 3) (z := 6) hn (by omega))
  replace hk := kn (c := 3) (z := 6) hk hn (by omega)
  replace hF := hF.new (c := 3) (z := 6) hn (by omega)
  have h264 := Ar.mk (c := 3) (z := 6) hn
  replace hn : g_nx _ = a + 265 := nn (c := 3) (z := 6) hn
  refine g_dup 61 dX8_init_60 rfl rfl ?_
  refine g_callI (mc1 := 6) (ms1 := 190) (b := (a + 264)) (rest := [.ref (a + 264), .ref a]) (av := []) kX3_init 64 dX8_init_61 rfl rfl mbX8_34 imX3_init rfl rfl (Nat.le_of_ble_eq_true rfl) (Nat.le_of_ble_eq_true rfl) (Nat.le_of_ble_eq_true rfl) (iX3_init h264 hn ?_)
  intro M265 hf hn2 hg
  show Go X _ _ _ kX8_init Q 64 [(0, .ref a)] [.ref (a + 264), .ref a] M265 270 7356
  replace h1 := G7.bl (Bl.fr hf (by omega)) h1
  replace h12 := Ar.bl (Bl.fr hf (by omega)) h12
  replace h13 := G0.bl (Bl.fr hf (by omega)) h13
  replace h135 := G0.bl (Bl.fr hf (by omega)) h135
  replace h257 := G3.bl (Bl.fr hf (by omega)) h257
  replace ho := ho.bl (Bl.fr hf (by omega))
  replace hk := (Bl.fr (lo := a) (hi := a + 1) hf (by omega)).k (by omega) (by omega) hk
  replace hF := hF.tr hf (by omega)
  have hn : g_nx M265 = a + 271 := hn2
  have h264 := hg
  exact iX8_init_c5 h1 h12 h13 h135 h257 h264 hk ho hF hn hQ
set_option maxRecDepth 10000 in
set_option maxHeartbeats 4000000 in
theorem iX8_init_c3 {X : gX} {d : Nat} {Q : Option Value → gM → Prop} {M0 M : gM} {a : Nat} (h1 : G7 M (a + 1)) (h12 : Ar M (a + 12) 106 2) (h13 : G0 M (a + 13)) (h135 : G0 M (a + 135)) (hk : g_kd M a = some (8, 17)) (ho : Ow M a (va_up (va_up (va_up (fun _ => none) 0 (some (a + 1))) 1 (some (a + 12))) 2 (some (a + 13))) (fun _ => 0)) (hF : Fr a M0 M) (hn : g_nx M = a + 257) (hQ : ∀ M2, Fr a M0 M2 → g_nx M2 = a + 329 → G8 M2 a → Q none M2) : Go X (d + 4) 328 11110 kX8_init Q 42 [(0, .ref a)] [.ref (a + 135), .ref a] M 256 6964 := by
  refine g_putRF 45 dX8_init_42 rfl flX8_29 hk rfl rfl rfl ?_
  replace h1 := G7.bl (Bl.wr (c := a) (i := 3) (v := some (a + 135)) (by omega)) h1
  replace h12 := Ar.bl (Bl.wr (c := a) (i := 3) (v := some (a + 135)) (by omega)) h12
  replace h13 := G0.bl (Bl.wr (c := a) (i := 3) (v := some (a + 135)) (by omega)) h13
  replace h135 := G0.bl (Bl.wr (c := a) (i := 3) (v := some (a + 135)) (by omega)) h135
  replace ho := ho.wr (i := 3) (v := some (a + 135))
  replace hF := hF.wr (i := 3) (v := some (a + 135)) (Nat.le_refl a)
  replace hk := kwr (c := a) (i := 3) (v := some (a + 135)) hk
  replace hn := nwr (c := a) (i := 3) (v := some (a + 135)) hn
  refine g_aload_n 0 46 dX8_init_45 rfl rfl ?_
  refine i_newo 49 (a + 257) dX8_init_46 rfl gcl3 q1_165 q1_33 q1_3 (Nat.le_of_ble_eq_true rfl) (Nat.le_of_ble_eq_true rfl) hn ?_
  replace h1 := G7.bl (Bl.new (c := 3) (z := 6) hn (by omega)) h1
  replace h12 := Ar.bl (Bl.new (c := 3) (z := 6) hn (by omega)) h12
  replace h13 := G0.bl (Bl.new (c := 3) (z := 6) hn (by omega)) h13
  replace h135 := G0.bl (Bl.new (c := 3) (z := 6) hn (by omega)) h135
  replace ho := ho.bl (Bl.new (c := 3) (z := 6) hn (by omega))
  replace hk := kn (c := 3) (z := 6) hk hn (by omega)
  replace hF := hF.new (c := 3) (z := 6) hn (by omega)
  have h257 := Ar.mk (c := 3) (z := 6) hn
  replace hn : g_nx _ = a + 258 := nn (c := 3) (z := 6) hn
  refine g_dup 50 dX8_init_49 rfl rfl ?_
  refine g_callI (mc1 := 6) (ms1 := 190) (b := (a + 257)) (rest := [.ref (a + 257), .ref a]) (av := []) kX3_init 53 dX8_init_50 rfl rfl mbX8_34 imX3_init rfl rfl (Nat.le_of_ble_eq_true rfl) (Nat.le_of_ble_eq_true rfl) (Nat.le_of_ble_eq_true rfl) (iX3_init h257 hn ?_)
  intro M258 hf hn2 hg
  show Go X _ _ _ kX8_init Q 53 [(0, .ref a)] [.ref (a + 257), .ref a] M258 263 7160
  replace h1 := G7.bl (Bl.fr hf (by omega)) h1
  replace h12 := Ar.bl (Bl.fr hf (by omega)) h12
  replace h13 := G0.bl (Bl.fr hf (by omega)) h13
  replace h135 := G0.bl (Bl.fr hf (by omega)) h135
  replace ho := ho.bl (Bl.fr hf (by omega))
  replace hk := (Bl.fr (lo := a) (hi := a + 1) hf (by omega)).k (by omega) (by omega) hk
  replace hF := hF.tr hf (by omega)
  have hn : g_nx M258 = a + 264 := hn2
  have h257 := hg
  exact iX8_init_c4 h1 h12 h13 h135 h257 hk ho hF hn hQ
set_option maxRecDepth 10000 in
set_option maxHeartbeats 4000000 in
theorem iX8_init_c2 {X : gX} {d : Nat} {Q : Option Value → gM → Prop} {M0 M : gM} {a : Nat} (h1 : G7 M (a + 1)) (h12 : Ar M (a + 12) 106 2) (h13 : G0 M (a + 13)) (hk : g_kd M a = some (8, 17)) (ho : Ow M a (va_up (va_up (fun _ => none) 0 (some (a + 1))) 1 (some (a + 12))) (fun _ => 0)) (hF : Fr a M0 M) (hn : g_nx M = a + 135) (hQ : ∀ M2, Fr a M0 M2 → g_nx M2 = a + 329 → G8 M2 a → Q none M2) : Go X (d + 4) 328 11110 kX8_init Q 31 [(0, .ref a)] [.ref (a + 13), .ref a] M 134 3594 := by
  refine g_putRF 34 dX8_init_31 rfl flX8_25 hk rfl rfl rfl ?_
  replace h1 := G7.bl (Bl.wr (c := a) (i := 2) (v := some (a + 13)) (by omega)) h1
  replace h12 := Ar.bl (Bl.wr (c := a) (i := 2) (v := some (a + 13)) (by omega)) h12
  replace h13 := G0.bl (Bl.wr (c := a) (i := 2) (v := some (a + 13)) (by omega)) h13
  replace ho := ho.wr (i := 2) (v := some (a + 13))
  replace hF := hF.wr (i := 2) (v := some (a + 13)) (Nat.le_refl a)
  replace hk := kwr (c := a) (i := 2) (v := some (a + 13)) hk
  replace hn := nwr (c := a) (i := 2) (v := some (a + 13)) hn
  refine g_aload_n 0 35 dX8_init_34 rfl rfl ?_
  refine i_newo 38 (a + 135) dX8_init_35 rfl gcl0 q1_142 q1_143 q1_5 (Nat.le_of_ble_eq_true rfl) (Nat.le_of_ble_eq_true rfl) hn ?_
  replace h1 := G7.bl (Bl.new (c := 0) (z := 4) hn (by omega)) h1
  replace h12 := Ar.bl (Bl.new (c := 0) (z := 4) hn (by omega)) h12
  replace h13 := G0.bl (Bl.new (c := 0) (z := 4) hn (by omega)) h13
  replace ho := ho.bl (Bl.new (c := 0) (z := 4) hn (by omega))
  replace hk := kn (c := 0) (z := 4) hk hn (by omega)
  replace hF := hF.new (c := 0) (z := 4) hn (by omega)
  have h135 := Ar.mk (c := 0) (z := 4) hn
  replace hn : g_nx _ = a + 136 := nn (c := 0) (z := 4) hn
  refine g_dup 39 dX8_init_38 rfl rfl ?_
  refine g_callI (mc1 := 121) (ms1 := 3366) (b := (a + 135)) (rest := [.ref (a + 135), .ref a]) (av := []) kX0_init 42 dX8_init_39 rfl rfl mbX8_24 imX0_init rfl rfl (Nat.le_of_ble_eq_true rfl) (Nat.le_of_ble_eq_true rfl) (Nat.le_of_ble_eq_true rfl) (iX0_init h135 hn ?_)
  intro M136 hf hn2 hg
  show Go X _ _ _ kX8_init Q 42 [(0, .ref a)] [.ref (a + 135), .ref a] M136 256 6964
  replace h1 := G7.bl (Bl.fr hf (by omega)) h1
  replace h12 := Ar.bl (Bl.fr hf (by omega)) h12
  replace h13 := G0.bl (Bl.fr hf (by omega)) h13
  replace ho := ho.bl (Bl.fr hf (by omega))
  replace hk := (Bl.fr (lo := a) (hi := a + 1) hf (by omega)).k (by omega) (by omega) hk
  replace hF := hF.tr hf (by omega)
  have hn : g_nx M136 = a + 257 := hn2
  have h135 := hg
  exact iX8_init_c3 h1 h12 h13 h135 hk ho hF hn hQ
set_option maxRecDepth 10000 in
set_option maxHeartbeats 4000000 in
theorem iX8_init_c1 {X : gX} {d : Nat} {Q : Option Value → gM → Prop} {M0 M : gM} {a : Nat} (h1 : G7 M (a + 1)) (hk : g_kd M a = some (8, 17)) (ho : Ow M a (fun _ => none) (fun _ => 0)) (hF : Fr a M0 M) (hn : g_nx M = a + 12) (hQ : ∀ M2, Fr a M0 M2 → g_nx M2 = a + 329 → G8 M2 a → Q none M2) : Go X (d + 4) 328 11110 kX8_init Q 12 [(0, .ref a)] [.ref (a + 1), .ref a] M 11 222 := by
  refine g_putRF 15 dX8_init_12 rfl flX8_14 hk rfl rfl rfl ?_
  replace h1 := G7.bl (Bl.wr (c := a) (i := 0) (v := some (a + 1)) (by omega)) h1
  replace ho := ho.wr (i := 0) (v := some (a + 1))
  replace hF := hF.wr (i := 0) (v := some (a + 1)) (Nat.le_refl a)
  replace hk := kwr (c := a) (i := 0) (v := some (a + 1)) hk
  replace hn := nwr (c := a) (i := 0) (v := some (a + 1)) hn
  refine g_aload_n 0 16 dX8_init_15 rfl rfl ?_
  refine g_iconst (2) 17 dX8_init_16 rfl rfl ?_
  refine i_newq (t := 6) (C := RX7) 20 (a + 12) dX8_init_17 rfl (by decide) rfl q1_26 (by decide) (by decide) rfl (by decide) (Nat.le_of_ble_eq_true rfl) (Nat.le_of_ble_eq_true rfl) hn ?_
  replace h1 := G7.bl (Bl.new (c := 106) (z := 2) hn (by omega)) h1
  replace ho := ho.bl (Bl.new (c := 106) (z := 2) hn (by omega))
  replace hk := kn (c := 106) (z := 2) hk hn (by omega)
  replace hF := hF.new (c := 106) (z := 2) hn (by omega)
  have h12 := Ar.mk (c := 106) (z := 2) hn
  replace hn : g_nx _ = a + 13 := nn (c := 106) (z := 2) hn
  refine g_putRF 23 dX8_init_20 rfl flX8_18 hk rfl rfl rfl ?_
  replace h1 := G7.bl (Bl.wr (c := a) (i := 1) (v := some (a + 12)) (by omega)) h1
  replace h12 := Ar.bl (Bl.wr (c := a) (i := 1) (v := some (a + 12)) (by omega)) h12
  replace ho := ho.wr (i := 1) (v := some (a + 12))
  replace hF := hF.wr (i := 1) (v := some (a + 12)) (Nat.le_refl a)
  replace hk := kwr (c := a) (i := 1) (v := some (a + 12)) hk
  replace hn := nwr (c := a) (i := 1) (v := some (a + 12)) hn
  refine g_aload_n 0 24 dX8_init_23 rfl rfl ?_
  refine i_newo 27 (a + 13) dX8_init_24 rfl gcl0 q1_142 q1_143 q1_5 (Nat.le_of_ble_eq_true rfl) (Nat.le_of_ble_eq_true rfl) hn ?_
  replace h1 := G7.bl (Bl.new (c := 0) (z := 4) hn (by omega)) h1
  replace h12 := Ar.bl (Bl.new (c := 0) (z := 4) hn (by omega)) h12
  replace ho := ho.bl (Bl.new (c := 0) (z := 4) hn (by omega))
  replace hk := kn (c := 0) (z := 4) hk hn (by omega)
  replace hF := hF.new (c := 0) (z := 4) hn (by omega)
  have h13 := Ar.mk (c := 0) (z := 4) hn
  replace hn : g_nx _ = a + 14 := nn (c := 0) (z := 4) hn
  refine g_dup 28 dX8_init_27 rfl rfl ?_
  refine g_callI (mc1 := 121) (ms1 := 3366) (b := (a + 13)) (rest := [.ref (a + 13), .ref a]) (av := []) kX0_init 31 dX8_init_28 rfl rfl mbX8_24 imX0_init rfl rfl (Nat.le_of_ble_eq_true rfl) (Nat.le_of_ble_eq_true rfl) (Nat.le_of_ble_eq_true rfl) (iX0_init h13 hn ?_)
  intro M14 hf hn2 hg
  show Go X _ _ _ kX8_init Q 31 [(0, .ref a)] [.ref (a + 13), .ref a] M14 134 3594
  replace h1 := G7.bl (Bl.fr hf (by omega)) h1
  replace h12 := Ar.bl (Bl.fr hf (by omega)) h12
  replace ho := ho.bl (Bl.fr hf (by omega))
  replace hk := (Bl.fr (lo := a) (hi := a + 1) hf (by omega)).k (by omega) (by omega) hk
  replace hF := hF.tr hf (by omega)
  have hn : g_nx M14 = a + 135 := hn2
  have h13 := hg
  exact iX8_init_c2 h1 h12 h13 hk ho hF hn hQ
set_option maxRecDepth 10000 in
set_option maxHeartbeats 4000000 in
theorem iX8_init {X : gX} {d : Nat} {Q : Option Value → gM → Prop} {M : gM} {a : Nat} (hr : Ar M a 8 17) (hn : g_nx M = a + 1) (hQ : ∀ M2, Fr a M M2 → g_nx M2 = a + 329 → G8 M2 a → Q none M2) : Cn X (d + 4) 328 11110 kX8_init [.ref a] M Q := by
  refine g_meth rfl rfl (Nat.le_of_ble_eq_true rfl) rfl ?_
  have hk := hr.1
  have ho := Ow.ar hr
  have hF : Fr a M M := Fr.rf
  refine g_aload_n 0 1 dX8_init_0 rfl rfl ?_
  refine g_objInit 4 dX8_init_1 rfl q1_23 q1_24 q1_25 (Nat.le_of_ble_eq_true rfl) ?_
  refine g_aload_n 0 5 dX8_init_4 rfl rfl ?_
  refine i_newo 8 (a + 1) dX8_init_5 rfl gcl7 q1_26 q1_27 q1_2 (Nat.le_of_ble_eq_true rfl) (Nat.le_of_ble_eq_true rfl) hn ?_
  replace ho := ho.bl (Bl.new (c := 7) (z := 8) hn (by omega))
  replace hk := kn (c := 7) (z := 8) hk hn (by omega)
  replace hF := hF.new (c := 7) (z := 8) hn (by omega)
  have h1 := Ar.mk (c := 7) (z := 8) hn
  replace hn : g_nx _ = a + 2 := nn (c := 7) (z := 8) hn
  refine g_dup 9 dX8_init_8 rfl rfl ?_
  refine g_callIN (mc1 := 10) (ms1 := 214) (b := (a + 1)) (rest := [.ref (a + 1), .ref a]) (av := []) kX7_init 12 dX8_init_9 rfl rfl mbX8_13 imX7_init rfl rfl (Nat.le_of_ble_eq_true rfl) (Nat.le_of_ble_eq_true rfl) (Nat.le_of_ble_eq_true rfl) (iX7_init h1 hn ?_)
  intro M2 hf hn2 hg
  show Go X _ _ _ kX8_init Q 12 [(0, .ref a)] [.ref (a + 1), .ref a] M2 11 222
  replace ho := ho.bl (Bl.fr hf (by omega))
  replace hk := (Bl.fr (lo := a) (hi := a + 1) hf (by omega)).k (by omega) (by omega) hk
  replace hF := hF.tr hf (by omega)
  have hn : g_nx M2 = a + 12 := hn2
  have h1 := hg
  exact iX8_init_c1 h1 hk ho hF hn hQ
