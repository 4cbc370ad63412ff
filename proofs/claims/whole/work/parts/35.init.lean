/-- what X5_init makes -/
def G5 (M : gM) (a : Nat) : Prop := g_kd M a = some (5, 7) ∧ Ow M a (va_up (va_up (va_up (fun _ => none) 0 (some (a + 1))) 1 (some (a + 2))) 2 (some (a + 3))) (va_up (fun _ => 0) 5 (4)) ∧ Ar M (a + 1) 100 30 ∧ Ar M (a + 2) 100 60 ∧ Ar M (a + 3) 100 60
theorem G5.bl {M M2 : gM} {a : Nat} (h : Bl a (a + 4) M M2) (e : G5 M a) : G5 M2 a := ⟨h.k (by omega) (by omega) e.1, e.2.1.bl (h.sub (by omega) (by omega)), Ar.bl (h.sub (by omega) (by omega)) e.2.2.1, Ar.bl (h.sub (by omega) (by omega)) e.2.2.2.1, Ar.bl (h.sub (by omega) (by omega)) e.2.2.2.2⟩
set_option maxRecDepth 10000 in
theorem iX5_init {X : gX} {d : Nat} {Q : Option Value → gM → Prop} {M : gM} {a : Nat} (hr : Ar M a 5 7) (hn : g_nx M = a + 1) (hQ : ∀ M2, Fr a M M2 → g_nx M2 = a + 4 → G5 M2 a → Q none M2) : Cn X (d + 1) 3 150 kX5_init [.ref a] M Q := by
  refine g_meth rfl rfl (Nat.le_of_ble_eq_true rfl) rfl ?_
  have hk := hr.1
  have ho := Ow.ar hr
  have hF : Fr a M M := Fr.rf
  refine g_aload_n 0 1 dX5_init_0 rfl rfl ?_
  refine g_objInit 4 dX5_init_1 rfl q1_43 q1_24 q1_25 (Nat.le_of_ble_eq_true rfl) ?_
  refine g_aload_n 0 5 dX5_init_4 rfl rfl ?_
  refine g_bipush (30) 7 dX5_init_5 rfl rfl ?_
  refine i_newa (t := 0) 9 (a + 1) dX5_init_7 rfl rfl (by decide) q1_71 (by decide) rfl (by decide) (Nat.le_of_ble_eq_true rfl) (Nat.le_of_ble_eq_true rfl) hn ?_
  have ho := ho.bl (Bl.new (c := 100) (z := 30) hn (by omega))
  have hk := kn (c := 100) (z := 30) hk hn (by omega)
  have hF := hF.new (c := 100) (z := 30) hn (by omega)
  have h1 := Ar.mk (c := 100) (z := 30) hn
  have hn : g_nx _ = a + 2 := nn (c := 100) (z := 30) hn
  refine g_putRF 12 dX5_init_9 rfl flX5_9 hk rfl rfl rfl ?_
  have h1 := Ar.bl (Bl.wr (c := a) (i := 0) (v := some (a + 1)) (by omega)) h1
  have ho := ho.wr (i := 0) (v := some (a + 1))
  have hF := hF.wr (i := 0) (v := some (a + 1)) (Nat.le_refl a)
  have hk := kwr (c := a) (i := 0) (v := some (a + 1)) hk
  have hn := nwr (c := a) (i := 0) (v := some (a + 1)) hn
  refine g_aload_n 0 13 dX5_init_12 rfl rfl ?_
  refine g_bipush (60) 15 dX5_init_13 rfl rfl ?_
  refine i_newa (t := 0) 17 (a + 2) dX5_init_15 rfl rfl (by decide) q1_71 (by decide) rfl (by decide) (Nat.le_of_ble_eq_true rfl) (Nat.le_of_ble_eq_true rfl) hn ?_
  have h1 := Ar.bl (Bl.new (c := 100) (z := 60) hn (by omega)) h1
  have ho := ho.bl (Bl.new (c := 100) (z := 60) hn (by omega))
  have hk := kn (c := 100) (z := 60) hk hn (by omega)
  have hF := hF.new (c := 100) (z := 60) hn (by omega)
  have h2 := Ar.mk (c := 100) (z := 60) hn
  have hn : g_nx _ = a + 3 := nn (c := 100) (z := 60) hn
  refine g_putRF 20 dX5_init_17 rfl flX5_15 hk rfl rfl rfl ?_
  have h1 := Ar.bl (Bl.wr (c := a) (i := 1) (v := some (a + 2)) (by omega)) h1
  have h2 := Ar.bl (Bl.wr (c := a) (i := 1) (v := some (a + 2)) (by omega)) h2
  have ho := ho.wr (i := 1) (v := some (a + 2))
  have hF := hF.wr (i := 1) (v := some (a + 2)) (Nat.le_refl a)
  have hk := kwr (c := a) (i := 1) (v := some (a + 2)) hk
  have hn := nwr (c := a) (i := 1) (v := some (a + 2)) hn
  refine g_aload_n 0 21 dX5_init_20 rfl rfl ?_
  refine g_bipush (60) 23 dX5_init_21 rfl rfl ?_
  refine i_newa (t := 0) 25 (a + 3) dX5_init_23 rfl rfl (by decide) q1_71 (by decide) rfl (by decide) (Nat.le_of_ble_eq_true rfl) (Nat.le_of_ble_eq_true rfl) hn ?_
  have h1 := Ar.bl (Bl.new (c := 100) (z := 60) hn (by omega)) h1
  have h2 := Ar.bl (Bl.new (c := 100) (z := 60) hn (by omega)) h2
  have ho := ho.bl (Bl.new (c := 100) (z := 60) hn (by omega))
  have hk := kn (c := 100) (z := 60) hk hn (by omega)
  have hF := hF.new (c := 100) (z := 60) hn (by omega)
  have h3 := Ar.mk (c := 100) (z := 60) hn
  have hn : g_nx _ = a + 4 := nn (c := 100) (z := 60) hn
  refine g_putRF 28 dX5_init_25 rfl flX5_18 hk rfl rfl rfl ?_
  have h1 := Ar.bl (Bl.wr (c := a) (i := 2) (v := some (a + 3)) (by omega)) h1
  have h2 := Ar.bl (Bl.wr (c := a) (i := 2) (v := some (a + 3)) (by omega)) h2
  have h3 := Ar.bl (Bl.wr (c := a) (i := 2) (v := some (a + 3)) (by omega)) h3
  have ho := ho.wr (i := 2) (v := some (a + 3))
  have hF := hF.wr (i := 2) (v := some (a + 3)) (Nat.le_refl a)
  have hk := kwr (c := a) (i := 2) (v := some (a + 3)) hk
  have hn := nwr (c := a) (i := 2) (v := some (a + 3)) hn
  refine g_aload_n 0 29 dX5_init_28 rfl rfl ?_
  refine g_iconst (4) 30 dX5_init_29 rfl rfl ?_
  refine g_putI 33 dX5_init_30 rfl flX5_21 hk ?_
  have h1 := Ar.bl (Bl.wi (c := a) (i := 5) (v := (4)) (by omega)) h1
  have h2 := Ar.bl (Bl.wi (c := a) (i := 5) (v := (4)) (by omega)) h2
  have h3 := Ar.bl (Bl.wi (c := a) (i := 5) (v := (4)) (by omega)) h3
  have ho := ho.wi (i := 5) (v := (4))
  have hF := hF.wi (i := 5) (v := (4)) (Nat.le_refl a)
  have hk := kwi (c := a) (i := 5) (v := (4)) hk
  have hn := nwi (c := a) (i := 5) (v := (4)) hn
  exact g_vret dX5_init_33 rfl (Nat.le_of_ble_eq_true rfl) (Nat.le_of_ble_eq_true rfl) (hQ _ hF hn ⟨hk, ho, h1, h2, h3⟩)
/-- what X3_init makes -/
def G3 (M : gM) (a : Nat) : Prop := g_kd M a = some (3, 6) ∧ Ow M a (va_up (va_up (va_up (fun _ => none) 0 (some (a + 1))) 1 (some (a + 2))) 2 (some (a + 3))) (va_up (fun _ => 0) 4 (4)) ∧ Ar M (a + 1) 100 30 ∧ g_kd M (a + 2) = some (100, 3) ∧ Ow M (a + 2) (fun _ => none) (va_up (fun _ => 0) 1 (1)) ∧ G5 M (a + 3)
theorem G3.bl {M M2 : gM} {a : Nat} (h : Bl a (a + 7) M M2) (e : G3 M a) : G3 M2 a := ⟨h.k (by omega) (by omega) e.1, e.2.1.bl (h.sub (by omega) (by omega)), Ar.bl (h.sub (by omega) (by omega)) e.2.2.1, h.k (by omega) (by omega) e.2.2.2.1, e.2.2.2.2.1.bl (h.sub (by omega) (by omega)), G5.bl (h.sub (by omega) (by omega)) e.2.2.2.2.2⟩
set_option maxRecDepth 10000 in
theorem iX3_init {X : gX} {d : Nat} {Q : Option Value → gM → Prop} {M : gM} {a : Nat} (hr : Ar M a 3 6) (hn : g_nx M = a + 1) (hQ : ∀ M2, Fr a M M2 → g_nx M2 = a + 7 → G3 M2 a → Q none M2) : Cn X (d + 2) 6 190 kX3_init [.ref a] M Q := by
  refine g_meth rfl rfl (Nat.le_of_ble_eq_true rfl) rfl ?_
  have hk := hr.1
  have ho := Ow.ar hr
  have hF : Fr a M M := Fr.rf
  refine g_aload_n 0 1 dX3_init_0 rfl rfl ?_
  refine g_objInit 4 dX3_init_1 rfl q1_37 q1_24 q1_25 (Nat.le_of_ble_eq_true rfl) ?_
  refine g_aload_n 0 5 dX3_init_4 rfl rfl ?_
  refine g_bipush (30) 7 dX3_init_5 rfl rfl ?_
  refine i_newa (t := 0) 9 (a + 1) dX3_init_7 rfl rfl (by decide) q1_71 (by decide) rfl (by decide) (Nat.le_of_ble_eq_true rfl) (Nat.le_of_ble_eq_true rfl) hn ?_
  have ho := ho.bl (Bl.new (c := 100) (z := 30) hn (by omega))
  have hk := kn (c := 100) (z := 30) hk hn (by omega)
  have hF := hF.new (c := 100) (z := 30) hn (by omega)
  have h1 := Ar.mk (c := 100) (z := 30) hn
  have hn : g_nx _ = a + 2 := nn (c := 100) (z := 30) hn
  refine g_putRF 12 dX3_init_9 rfl flX3_9 hk rfl rfl rfl ?_
  have h1 := Ar.bl (Bl.wr (c := a) (i := 0) (v := some (a + 1)) (by omega)) h1
  have ho := ho.wr (i := 0) (v := some (a + 1))
  have hF := hF.wr (i := 0) (v := some (a + 1)) (Nat.le_refl a)
  have hk := kwr (c := a) (i := 0) (v := some (a + 1)) hk
  have hn := nwr (c := a) (i := 0) (v := some (a + 1)) hn
  refine g_aload_n 0 13 dX3_init_12 rfl rfl ?_
  refine g_iconst (3) 14 dX3_init_13 rfl rfl ?_
  refine i_newa (t := 0) 16 (a + 2) dX3_init_14 rfl rfl (by decide) q1_71 (by decide) rfl (by decide) (Nat.le_of_ble_eq_true rfl) (Nat.le_of_ble_eq_true rfl) hn ?_
  have h1 := Ar.bl (Bl.new (c := 100) (z := 3) hn (by omega)) h1
  have ho := ho.bl (Bl.new (c := 100) (z := 3) hn (by omega))
  have hk := kn (c := 100) (z := 3) hk hn (by omega)
  have hF := hF.new (c := 100) (z := 3) hn (by omega)
  have h2 := Ar.mk (c := 100) (z := 3) hn
  have hn : g_nx _ = a + 3 := nn (c := 100) (z := 3) hn
  refine g_putRF 19 dX3_init_16 rfl flX3_15 hk rfl rfl rfl ?_
  have h1 := Ar.bl (Bl.wr (c := a) (i := 1) (v := some (a + 2)) (by omega)) h1
  have h2 := Ar.bl (Bl.wr (c := a) (i := 1) (v := some (a + 2)) (by omega)) h2
  have ho := ho.wr (i := 1) (v := some (a + 2))
  have hF := hF.wr (i := 1) (v := some (a + 2)) (Nat.le_refl a)
  have hk := kwr (c := a) (i := 1) (v := some (a + 2)) hk
  have hn := nwr (c := a) (i := 1) (v := some (a + 2)) hn
  refine g_aload_n 0 20 dX3_init_19 rfl rfl ?_
  refine i_newo 23 (a + 3) dX3_init_20 rfl gcl5 q1_38 q1_39 q1_4 (Nat.le_of_ble_eq_true rfl) (Nat.le_of_ble_eq_true rfl) hn ?_
  have h1 := Ar.bl (Bl.new (c := 5) (z := 7) hn (by omega)) h1
  have h2 := Ar.bl (Bl.new (c := 5) (z := 7) hn (by omega)) h2
  have ho := ho.bl (Bl.new (c := 5) (z := 7) hn (by omega))
  have hk := kn (c := 5) (z := 7) hk hn (by omega)
  have hF := hF.new (c := 5) (z := 7) hn (by omega)
  have h3 := Ar.mk (c := 5) (z := 7) hn
  have hn : g_nx _ = a + 4 := nn (c := 5) (z := 7) hn
  refine g_dup 24 dX3_init_23 rfl rfl ?_
  refine g_callIN (mc1 := 3) (ms1 := 150) (b := (a + 3)) (rest := [.ref (a + 3), .ref a]) (av := []) kX5_init 27 dX3_init_24 rfl rfl mbX3_20 imX5_init rfl rfl (Nat.le_of_ble_eq_true rfl) (Nat.le_of_ble_eq_true rfl) (Nat.le_of_ble_eq_true rfl) (iX5_init h3 hn ?_)
  intro M4 hf hn2 hg
  show Go X _ _ _ kX3_init Q 27 [(0, .ref a)] [.ref (a + 3), .ref a] M4 6 190
  have h1 := Ar.bl (Bl.fr hf (by omega)) h1
  have h2 := Ar.bl (Bl.fr hf (by omega)) h2
  have ho := ho.bl (Bl.fr hf (by omega))
  have hk := (Bl.fr (lo := a) (hi := a + 1) hf (by omega)).k (by omega) (by omega) hk
  have hF := hF.tr hf (by omega)
  have hn : g_nx M4 = a + 7 := hn2
  have h3 := hg
  refine g_putRF 30 dX3_init_27 rfl flX3_21 hk rfl rfl rfl ?_
  have h1 := Ar.bl (Bl.wr (c := a) (i := 2) (v := some (a + 3)) (by omega)) h1
  have h2 := Ar.bl (Bl.wr (c := a) (i := 2) (v := some (a + 3)) (by omega)) h2
  have h3 := G5.bl (Bl.wr (c := a) (i := 2) (v := some (a + 3)) (by omega)) h3
  have ho := ho.wr (i := 2) (v := some (a + 3))
  have hF := hF.wr (i := 2) (v := some (a + 3)) (Nat.le_refl a)
  have hk := kwr (c := a) (i := 2) (v := some (a + 3)) hk
  have hn := nwr (c := a) (i := 2) (v := some (a + 3)) hn
  refine g_aload_n 0 31 dX3_init_30 rfl rfl ?_
  refine g_iconst (4) 32 dX3_init_31 rfl rfl ?_
  refine g_putI 35 dX3_init_32 rfl flX3_25 hk ?_
  have h1 := Ar.bl (Bl.wi (c := a) (i := 4) (v := (4)) (by omega)) h1
  have h2 := Ar.bl (Bl.wi (c := a) (i := 4) (v := (4)) (by omega)) h2
  have h3 := G5.bl (Bl.wi (c := a) (i := 4) (v := (4)) (by omega)) h3
  have ho := ho.wi (i := 4) (v := (4))
  have hF := hF.wi (i := 4) (v := (4)) (Nat.le_refl a)
  have hk := kwi (c := a) (i := 4) (v := (4)) hk
  have hn := nwi (c := a) (i := 4) (v := (4)) hn
  refine g_aload_n 0 36 dX3_init_35 rfl rfl ?_
  refine g_getR 39 (a + 2) dX3_init_36 rfl flX3_15 hk (ho.1 1) ?_
  refine g_iconst (1) 40 dX3_init_39 rfl rfl ?_
  refine g_iconst (1) 41 dX3_init_40 rfl rfl ?_
  refine h_iastore 42 1 dX3_init_41 rfl rfl h2.1 (vp_lit rfl) ?_
  have k2 := h2.1
  have w2 := (Ow.ar h2).wi (i := 1) (v := (1))
  have h1 := Ar.bl (Bl.wi (c := a + 2) (i := 1) (v := (1)) (by omega)) h1
  have h3 := G5.bl (Bl.wi (c := a + 2) (i := 1) (v := (1)) (by omega)) h3
  have ho := ho.bl (Bl.wi (c := a + 2) (i := 1) (v := (1)) (by omega))
  have hF := hF.wi (c := a + 2) (i := 1) (v := (1)) (by omega)
  have hk := kwi (c := a + 2) (i := 1) (v := (1)) hk
  have k2 := kwi (c := a + 2) (i := 1) (v := (1)) k2
  have hn := nwi (c := a + 2) (i := 1) (v := (1)) hn
  exact g_vret dX3_init_42 rfl (Nat.le_of_ble_eq_true rfl) (Nat.le_of_ble_eq_true rfl) (hQ _ hF hn ⟨hk, ho, h1, k2, w2, h3⟩)
/-- what X4_init makes -/
def G4 (M : gM) (a : Nat) : Prop := g_kd M a = some (4, 2) ∧ Ow M a (va_up (va_up (fun _ => none) 0 (some (a + 1))) 1 (some (a + 2))) (fun _ => 0) ∧ Ar M (a + 1) 100 60 ∧ Ar M (a + 2) 100 51
theorem G4.bl {M M2 : gM} {a : Nat} (h : Bl a (a + 3) M M2) (e : G4 M a) : G4 M2 a := ⟨h.k (by omega) (by omega) e.1, e.2.1.bl (h.sub (by omega) (by omega)), Ar.bl (h.sub (by omega) (by omega)) e.2.2.1, Ar.bl (h.sub (by omega) (by omega)) e.2.2.2⟩
set_option maxRecDepth 10000 in
theorem iX4_init {X : gX} {d : Nat} {Q : Option Value → gM → Prop} {M : gM} {a : Nat} (hr : Ar M a 4 2) (hn : g_nx M = a + 1) (hQ : ∀ M2, Fr a M M2 → g_nx M2 = a + 3 → G4 M2 a → Q none M2) : Cn X (d + 1) 2 111 kX4_init [.ref a] M Q := by
  refine g_meth rfl rfl (Nat.le_of_ble_eq_true rfl) rfl ?_
  have hk := hr.1
  have ho := Ow.ar hr
  have hF : Fr a M M := Fr.rf
  refine g_aload_n 0 1 dX4_init_0 rfl rfl ?_
  refine g_objInit 4 dX4_init_1 rfl q1_172 q1_24 q1_25 (Nat.le_of_ble_eq_true rfl) ?_
  refine g_aload_n 0 5 dX4_init_4 rfl rfl ?_
  refine g_bipush (60) 7 dX4_init_5 rfl rfl ?_
  refine i_newa (t := 0) 9 (a + 1) dX4_init_7 rfl rfl (by decide) q1_71 (by decide) rfl (by decide) (Nat.le_of_ble_eq_true rfl) (Nat.le_of_ble_eq_true rfl) hn ?_
  have ho := ho.bl (Bl.new (c := 100) (z := 60) hn (by omega))
  have hk := kn (c := 100) (z := 60) hk hn (by omega)
  have hF := hF.new (c := 100) (z := 60) hn (by omega)
  have h1 := Ar.mk (c := 100) (z := 60) hn
  have hn : g_nx _ = a + 2 := nn (c := 100) (z := 60) hn
  refine g_putRF 12 dX4_init_9 rfl flX4_9 hk rfl rfl rfl ?_
  have h1 := Ar.bl (Bl.wr (c := a) (i := 0) (v := some (a + 1)) (by omega)) h1
  have ho := ho.wr (i := 0) (v := some (a + 1))
  have hF := hF.wr (i := 0) (v := some (a + 1)) (Nat.le_refl a)
  have hk := kwr (c := a) (i := 0) (v := some (a + 1)) hk
  have hn := nwr (c := a) (i := 0) (v := some (a + 1)) hn
  refine g_aload_n 0 13 dX4_init_12 rfl rfl ?_
  refine g_bipush (51) 15 dX4_init_13 rfl rfl ?_
  refine i_newa (t := 0) 17 (a + 2) dX4_init_15 rfl rfl (by decide) q1_71 (by decide) rfl (by decide) (Nat.le_of_ble_eq_true rfl) (Nat.le_of_ble_eq_true rfl) hn ?_
  have h1 := Ar.bl (Bl.new (c := 100) (z := 51) hn (by omega)) h1
  have ho := ho.bl (Bl.new (c := 100) (z := 51) hn (by omega))
  have hk := kn (c := 100) (z := 51) hk hn (by omega)
  have hF := hF.new (c := 100) (z := 51) hn (by omega)
  have h2 := Ar.mk (c := 100) (z := 51) hn
  have hn : g_nx _ = a + 3 := nn (c := 100) (z := 51) hn
  refine g_putRF 20 dX4_init_17 rfl flX4_15 hk rfl rfl rfl ?_
  have h1 := Ar.bl (Bl.wr (c := a) (i := 1) (v := some (a + 2)) (by omega)) h1
  have h2 := Ar.bl (Bl.wr (c := a) (i := 1) (v := some (a + 2)) (by omega)) h2
  have ho := ho.wr (i := 1) (v := some (a + 2))
  have hF := hF.wr (i := 1) (v := some (a + 2)) (Nat.le_refl a)
  have hk := kwr (c := a) (i := 1) (v := some (a + 2)) hk
  have hn := nwr (c := a) (i := 1) (v := some (a + 2)) hn
  exact g_vret dX4_init_20 rfl (Nat.le_of_ble_eq_true rfl) (Nat.le_of_ble_eq_true rfl) (hQ _ hF hn ⟨hk, ho, h1, h2⟩)
/-- what X1_init makes -/
def G1 (M : gM) (a : Nat) : Prop := g_kd M a = some (1, 9) ∧ Ow M a (va_up (va_up (va_up (va_up (va_up (va_up (va_up (va_up (fun _ => none) 0 (some (a + 1))) 1 (some (a + 2))) 2 (some (a + 3))) 3 (some (a + 4))) 4 (some (a + 5))) 5 (some (a + 6))) 6 (some (a + 7))) 7 (some (a - 3))) (fun _ => 0) ∧ Ar M (a + 1) 100 90 ∧ Ar M (a + 2) 100 30 ∧ Ar M (a + 3) 100 30 ∧ Ar M (a + 4) 100 60 ∧ Ar M (a + 5) 100 60 ∧ Ar M (a + 6) 100 60 ∧ Ar M (a + 7) 100 63
theorem G1.bl {M M2 : gM} {a : Nat} (h : Bl a (a + 8) M M2) (e : G1 M a) : G1 M2 a := ⟨h.k (by omega) (by omega) e.1, e.2.1.bl (h.sub (by omega) (by omega)), Ar.bl (h.sub (by omega) (by omega)) e.2.2.1, Ar.bl (h.sub (by omega) (by omega)) e.2.2.2.1, Ar.bl (h.sub (by omega) (by omega)) e.2.2.2.2.1, Ar.bl (h.sub (by omega) (by omega)) e.2.2.2.2.2.1, Ar.bl (h.sub (by omega) (by omega)) e.2.2.2.2.2.2.1, Ar.bl (h.sub (by omega) (by omega)) e.2.2.2.2.2.2.2.1, Ar.bl (h.sub (by omega) (by omega)) e.2.2.2.2.2.2.2.2⟩
set_option maxRecDepth 10000 in
theorem iX1_init {X : gX} {d : Nat} {Q : Option Value → gM → Prop} {M : gM} {a : Nat} (hr : Ar M a 1 9) (hn : g_nx M = a + 1) (hQ : ∀ M2, Fr a M M2 → g_nx M2 = a + 8 → G1 M2 a → Q none M2) : Cn X (d + 1) 7 393 kX1_init [.ref a, .ref (a - 3)] M Q := by
  refine g_meth rfl rfl (Nat.le_of_ble_eq_true rfl) rfl ?_
  have hk := hr.1
  have ho := Ow.ar hr
  have hF : Fr a M M := Fr.rf
  refine g_aload_n 0 1 dX1_init_0 rfl rfl ?_
  refine g_objInit 4 dX1_init_1 rfl q1_186 q1_24 q1_25 (Nat.le_of_ble_eq_true rfl) ?_
  refine g_aload_n 0 5 dX1_init_4 rfl rfl ?_
  refine g_bipush (90) 7 dX1_init_5 rfl rfl ?_
  refine i_newa (t := 0) 9 (a + 1) dX1_init_7 rfl rfl (by decide) q1_71 (by decide) rfl (by decide) (Nat.le_of_ble_eq_true rfl) (Nat.le_of_ble_eq_true rfl) hn ?_
  have ho := ho.bl (Bl.new (c := 100) (z := 90) hn (by omega))
  have hk := kn (c := 100) (z := 90) hk hn (by omega)
  have hF := hF.new (c := 100) (z := 90) hn (by omega)
  have h1 := Ar.mk (c := 100) (z := 90) hn
  have hn : g_nx _ = a + 2 := nn (c := 100) (z := 90) hn
  refine g_putRF 12 dX1_init_9 rfl flX1_9 hk rfl rfl rfl ?_
  have h1 := Ar.bl (Bl.wr (c := a) (i := 0) (v := some (a + 1)) (by omega)) h1
  have ho := ho.wr (i := 0) (v := some (a + 1))
  have hF := hF.wr (i := 0) (v := some (a + 1)) (Nat.le_refl a)
  have hk := kwr (c := a) (i := 0) (v := some (a + 1)) hk
  have hn := nwr (c := a) (i := 0) (v := some (a + 1)) hn
  refine g_aload_n 0 13 dX1_init_12 rfl rfl ?_
  refine g_bipush (30) 15 dX1_init_13 rfl rfl ?_
  refine i_newa (t := 0) 17 (a + 2) dX1_init_15 rfl rfl (by decide) q1_71 (by decide) rfl (by decide) (Nat.le_of_ble_eq_true rfl) (Nat.le_of_ble_eq_true rfl) hn ?_
  have h1 := Ar.bl (Bl.new (c := 100) (z := 30) hn (by omega)) h1
  have ho := ho.bl (Bl.new (c := 100) (z := 30) hn (by omega))
  have hk := kn (c := 100) (z := 30) hk hn (by omega)
  have hF := hF.new (c := 100) (z := 30) hn (by omega)
  have h2 := Ar.mk (c := 100) (z := 30) hn
  have hn : g_nx _ = a + 3 := nn (c := 100) (z := 30) hn
  refine g_putRF 20 dX1_init_17 rfl flX1_15 hk rfl rfl rfl ?_
  have h1 := Ar.bl (Bl.wr (c := a) (i := 1) (v := some (a + 2)) (by omega)) h1
  have h2 := Ar.bl (Bl.wr (c := a) (i := 1) (v := some (a + 2)) (by omega)) h2
  have ho := ho.wr (i := 1) (v := some (a + 2))
  have hF := hF.wr (i := 1) (v := some (a + 2)) (Nat.le_refl a)
  have hk := kwr (c := a) (i := 1) (v := some (a + 2)) hk
  have hn := nwr (c := a) (i := 1) (v := some (a + 2)) hn
  refine g_aload_n 0 21 dX1_init_20 rfl rfl ?_
  refine g_bipush (30) 23 dX1_init_21 rfl rfl ?_
  refine i_newa (t := 0) 25 (a + 3) dX1_init_23 rfl rfl (by decide) q1_71 (by decide) rfl (by decide) (Nat.le_of_ble_eq_true rfl) (Nat.le_of_ble_eq_true rfl) hn ?_
  have h1 := Ar.bl (Bl.new (c := 100) (z := 30) hn (by omega)) h1
  have h2 := Ar.bl (Bl.new (c := 100) (z := 30) hn (by omega)) h2
  have ho := ho.bl (Bl.new (c := 100) (z := 30) hn (by omega))
  have hk := kn (c := 100) (z := 30) hk hn (by omega)
  have hF := hF.new (c := 100) (z := 30) hn (by omega)
  have h3 := Ar.mk (c := 100) (z := 30) hn
  have hn : g_nx _ = a + 4 := nn (c := 100) (z := 30) hn
  refine g_putRF 28 dX1_init_25 rfl flX1_18 hk rfl rfl rfl ?_
  have h1 := Ar.bl (Bl.wr (c := a) (i := 2) (v := some (a + 3)) (by omega)) h1
  have h2 := Ar.bl (Bl.wr (c := a) (i := 2) (v := some (a + 3)) (by omega)) h2
  have h3 := Ar.bl (Bl.wr (c := a) (i := 2) (v := some (a + 3)) (by omega)) h3
  have ho := ho.wr (i := 2) (v := some (a + 3))
  have hF := hF.wr (i := 2) (v := some (a + 3)) (Nat.le_refl a)
  have hk := kwr (c := a) (i := 2) (v := some (a + 3)) hk
  have hn := nwr (c := a) (i := 2) (v := some (a + 3)) hn
  refine g_aload_n 0 29 dX1_init_28 rfl rfl ?_
  refine g_bipush (60) 31 dX1_init_29 rfl rfl ?_
  refine i_newa (t := 0) 33 (a + 4) dX1_init_31 rfl rfl (by decide) q1_71 (by decide) rfl (by decide) (Nat.le_of_ble_eq_true rfl) (Nat.le_of_ble_eq_true rfl) hn ?_
  have h1 := Ar.bl (Bl.new (c := 100) (z := 60) hn (by omega)) h1
  have h2 := Ar.bl (Bl.new (c := 100) (z := 60) hn (by omega)) h2
  have h3 := Ar.bl (Bl.new (c := 100) (z := 60) hn (by omega)) h3
  have ho := ho.bl (Bl.new (c := 100) (z := 60) hn (by omega))
  have hk := kn (c := 100) (z := 60) hk hn (by omega)
  have hF := hF.new (c := 100) (z := 60) hn (by omega)
  have h4 := Ar.mk (c := 100) (z := 60) hn
  have hn : g_nx _ = a + 5 := nn (c := 100) (z := 60) hn
  refine g_putRF 36 dX1_init_33 rfl flX1_21 hk rfl rfl rfl ?_
  have h1 := Ar.bl (Bl.wr (c := a) (i := 3) (v := some (a + 4)) (by omega)) h1
  have h2 := Ar.bl (Bl.wr (c := a) (i := 3) (v := some (a + 4)) (by omega)) h2
  have h3 := Ar.bl (Bl.wr (c := a) (i := 3) (v := some (a + 4)) (by omega)) h3
  have h4 := Ar.bl (Bl.wr (c := a) (i := 3) (v := some (a + 4)) (by omega)) h4
  have ho := ho.wr (i := 3) (v := some (a + 4))
  have hF := hF.wr (i := 3) (v := some (a + 4)) (Nat.le_refl a)
  have hk := kwr (c := a) (i := 3) (v := some (a + 4)) hk
  have hn := nwr (c := a) (i := 3) (v := some (a + 4)) hn
  refine g_aload_n 0 37 dX1_init_36 rfl rfl ?_
  refine g_bipush (60) 39 dX1_init_37 rfl rfl ?_
  refine i_newa (t := 0) 41 (a + 5) dX1_init_39 rfl rfl (by decide) q1_71 (by decide) rfl (by decide) (Nat.le_of_ble_eq_true rfl) (Nat.le_of_ble_eq_true rfl) hn ?_
  have h1 := Ar.bl (Bl.new (c := 100) (z := 60) hn (by omega)) h1
  have h2 := Ar.bl (Bl.new (c := 100) (z := 60) hn (by omega)) h2
  have h3 := Ar.bl (Bl.new (c := 100) (z := 60) hn (by omega)) h3
  have h4 := Ar.bl (Bl.new (c := 100) (z := 60) hn (by omega)) h4
  have ho := ho.bl (Bl.new (c := 100) (z := 60) hn (by omega))
  have hk := kn (c := 100) (z := 60) hk hn (by omega)
  have hF := hF.new (c := 100) (z := 60) hn (by omega)
  have h5 := Ar.mk (c := 100) (z := 60) hn
  have hn : g_nx _ = a + 6 := nn (c := 100) (z := 60) hn
  refine g_putRF 44 dX1_init_41 rfl flX1_24 hk rfl rfl rfl ?_
  have h1 := Ar.bl (Bl.wr (c := a) (i := 4) (v := some (a + 5)) (by omega)) h1
  have h2 := Ar.bl (Bl.wr (c := a) (i := 4) (v := some (a + 5)) (by omega)) h2
  have h3 := Ar.bl (Bl.wr (c := a) (i := 4) (v := some (a + 5)) (by omega)) h3
  have h4 := Ar.bl (Bl.wr (c := a) (i := 4) (v := some (a + 5)) (by omega)) h4
  have h5 := Ar.bl (Bl.wr (c := a) (i := 4) (v := some (a + 5)) (by omega)) h5
  have ho := ho.wr (i := 4) (v := some (a + 5))
  have hF := hF.wr (i := 4) (v := some (a + 5)) (Nat.le_refl a)
  have hk := kwr (c := a) (i := 4) (v := some (a + 5)) hk
  have hn := nwr (c := a) (i := 4) (v := some (a + 5)) hn
  refine g_aload_n 0 45 dX1_init_44 rfl rfl ?_
  refine g_bipush (60) 47 dX1_init_45 rfl rfl ?_
  refine i_newa (t := 0) 49 (a + 6) dX1_init_47 rfl rfl (by decide) q1_71 (by decide) rfl (by decide) (Nat.le_of_ble_eq_true rfl) (Nat.le_of_ble_eq_true rfl) hn ?_
  have h1 := Ar.bl (Bl.new (c := 100) (z := 60) hn (by omega)) h1
  have h2 := Ar.bl (Bl.new (c := 100) (z := 60) hn (by omega)) h2
  have h3 := Ar.bl (Bl.new (c := 100) (z := 60) hn (by omega)) h3
  have h4 := Ar.bl (Bl.new (c := 100) (z := 60) hn (by omega)) h4
  have h5 := Ar.bl (Bl.new (c := 100) (z := 60) hn (by omega)) h5
  have ho := ho.bl (Bl.new (c := 100) (z := 60) hn (by omega))
  have hk := kn (c := 100) (z := 60) hk hn (by omega)
  have hF := hF.new (c := 100) (z := 60) hn (by omega)
  have h6 := Ar.mk (c := 100) (z := 60) hn
  have hn : g_nx _ = a + 7 := nn (c := 100) (z := 60) hn
  refine g_putRF 52 dX1_init_49 rfl flX1_27 hk rfl rfl rfl ?_
  have h1 := Ar.bl (Bl.wr (c := a) (i := 5) (v := some (a + 6)) (by omega)) h1
  have h2 := Ar.bl (Bl.wr (c := a) (i := 5) (v := some (a + 6)) (by omega)) h2
  have h3 := Ar.bl (Bl.wr (c := a) (i := 5) (v := some (a + 6)) (by omega)) h3
  have h4 := Ar.bl (Bl.wr (c := a) (i := 5) (v := some (a + 6)) (by omega)) h4
  have h5 := Ar.bl (Bl.wr (c := a) (i := 5) (v := some (a + 6)) (by omega)) h5
  have h6 := Ar.bl (Bl.wr (c := a) (i := 5) (v := some (a + 6)) (by omega)) h6
  have ho := ho.wr (i := 5) (v := some (a + 6))
  have hF := hF.wr (i := 5) (v := some (a + 6)) (Nat.le_refl a)
  have hk := kwr (c := a) (i := 5) (v := some (a + 6)) hk
  have hn := nwr (c := a) (i := 5) (v := some (a + 6)) hn
  refine g_aload_n 0 53 dX1_init_52 rfl rfl ?_
  refine g_bipush (63) 55 dX1_init_53 rfl rfl ?_
  refine i_newa (t := 0) 57 (a + 7) dX1_init_55 rfl rfl (by decide) q1_71 (by decide) rfl (by decide) (Nat.le_of_ble_eq_true rfl) (Nat.le_of_ble_eq_true rfl) hn ?_
  have h1 := Ar.bl (Bl.new (c := 100) (z := 63) hn (by omega)) h1
  have h2 := Ar.bl (Bl.new (c := 100) (z := 63) hn (by omega)) h2
  have h3 := Ar.bl (Bl.new (c := 100) (z := 63) hn (by omega)) h3
  have h4 := Ar.bl (Bl.new (c := 100) (z := 63) hn (by omega)) h4
  have h5 := Ar.bl (Bl.new (c := 100) (z := 63) hn (by omega)) h5
  have h6 := Ar.bl (Bl.new (c := 100) (z := 63) hn (by omega)) h6
  have ho := ho.bl (Bl.new (c := 100) (z := 63) hn (by omega))
  have hk := kn (c := 100) (z := 63) hk hn (by omega)
  have hF := hF.new (c := 100) (z := 63) hn (by omega)
  have h7 := Ar.mk (c := 100) (z := 63) hn
  have hn : g_nx _ = a + 8 := nn (c := 100) (z := 63) hn
  refine g_putRF 60 dX1_init_57 rfl flX1_30 hk rfl rfl rfl ?_
  have h1 := Ar.bl (Bl.wr (c := a) (i := 6) (v := some (a + 7)) (by omega)) h1
  have h2 := Ar.bl (Bl.wr (c := a) (i := 6) (v := some (a + 7)) (by omega)) h2
  have h3 := Ar.bl (Bl.wr (c := a) (i := 6) (v := some (a + 7)) (by omega)) h3
  have h4 := Ar.bl (Bl.wr (c := a) (i := 6) (v := some (a + 7)) (by omega)) h4
  have h5 := Ar.bl (Bl.wr (c := a) (i := 6) (v := some (a + 7)) (by omega)) h5
  have h6 := Ar.bl (Bl.wr (c := a) (i := 6) (v := some (a + 7)) (by omega)) h6
  have h7 := Ar.bl (Bl.wr (c := a) (i := 6) (v := some (a + 7)) (by omega)) h7
  have ho := ho.wr (i := 6) (v := some (a + 7))
  have hF := hF.wr (i := 6) (v := some (a + 7)) (Nat.le_refl a)
  have hk := kwr (c := a) (i := 6) (v := some (a + 7)) hk
  have hn := nwr (c := a) (i := 6) (v := some (a + 7)) hn
  refine g_aload_n 0 61 dX1_init_60 rfl rfl ?_
  refine g_aload_n 1 62 dX1_init_61 rfl rfl ?_
  refine g_putRF 65 dX1_init_62 rfl flX1_33 hk rfl rfl rfl ?_
  have h1 := Ar.bl (Bl.wr (c := a) (i := 7) (v := some (a - 3)) (by omega)) h1
  have h2 := Ar.bl (Bl.wr (c := a) (i := 7) (v := some (a - 3)) (by omega)) h2
  have h3 := Ar.bl (Bl.wr (c := a) (i := 7) (v := some (a - 3)) (by omega)) h3
  have h4 := Ar.bl (Bl.wr (c := a) (i := 7) (v := some (a - 3)) (by omega)) h4
  have h5 := Ar.bl (Bl.wr (c := a) (i := 7) (v := some (a - 3)) (by omega)) h5
  have h6 := Ar.bl (Bl.wr (c := a) (i := 7) (v := some (a - 3)) (by omega)) h6
  have h7 := Ar.bl (Bl.wr (c := a) (i := 7) (v := some (a - 3)) (by omega)) h7
  have ho := ho.wr (i := 7) (v := some (a - 3))
  have hF := hF.wr (i := 7) (v := some (a - 3)) (Nat.le_refl a)
  have hk := kwr (c := a) (i := 7) (v := some (a - 3)) hk
  have hn := nwr (c := a) (i := 7) (v := some (a - 3)) hn
  exact g_vret dX1_init_65 rfl (Nat.le_of_ble_eq_true rfl) (Nat.le_of_ble_eq_true rfl) (hQ _ hF hn ⟨hk, ho, h1, h2, h3, h4, h5, h6, h7⟩)
