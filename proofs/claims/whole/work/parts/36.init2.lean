/-! More constructors. -/
/-- what X6_init makes: a text of n clauses, m steps -/
def G6 (M : gM) (a n m : Nat) : Prop := g_kd M a = some (6, 8) ∧ Ow M a (va_up (va_up (va_up (va_up (va_up (va_up (fun _ => none) 0 (some (a + 1))) 1 (some (a + 2))) 2 (some (a + 3))) 3 (some (a + 4))) 4 (some (a + 5))) 5 (some (a + 6))) (fun _ => 0) ∧ Ar M (a + 1) 100 n ∧ Ar M (a + 2) 100 n ∧ Ar M (a + 3) 100 n ∧ Ar M (a + 4) 100 n ∧ Ar M (a + 5) 100 m ∧ Ar M (a + 6) 100 m
theorem G6.bl {M M2 : gM} {a n m : Nat} (h : Bl a (a + 7) M M2) (e : G6 M a n m) : G6 M2 a n m := ⟨h.k (by omega) (by omega) e.1, e.2.1.bl (h.sub (by omega) (by omega)), Ar.bl (h.sub (by omega) (by omega)) e.2.2.1, Ar.bl (h.sub (by omega) (by omega)) e.2.2.2.1, Ar.bl (h.sub (by omega) (by omega)) e.2.2.2.2.1, Ar.bl (h.sub (by omega) (by omega)) e.2.2.2.2.2.1, Ar.bl (h.sub (by omega) (by omega)) e.2.2.2.2.2.2.1, Ar.bl (h.sub (by omega) (by omega)) e.2.2.2.2.2.2.2⟩
set_option maxRecDepth 10000 in
theorem iX6_init {X : gX} {d : Nat} {Q : Option Value → gM → Prop} {M : gM} {a n m : Nat} {x y : Int32} (hx : x.toNatClampNeg = n) (hy : y.toNatClampNeg = m) (gx : ¬ x < 0) (gy : ¬ y < 0) (bn : n ≤ 1000000) (bm : m ≤ 1000000) (hr : Ar M a 6 8) (hn : g_nx M = a + 1) (hQ : ∀ M2, Fr a M M2 → g_nx M2 = a + 7 → G6 M2 a n m → Q none M2) : Cn X (d + 1) 6 (4 * n + 2 * m) kX6_init [.ref a, .int x, .int y] M Q := by
  refine g_meth rfl rfl (Nat.le_of_ble_eq_true rfl) rfl ?_
  have hk := hr.1
  have ho := Ow.ar hr
  have hF : Fr a M M := Fr.rf
  refine g_aload_n 0 1 dX6_init_0 rfl rfl ?_
  refine g_objInit 4 dX6_init_1 rfl q1_233 q1_24 q1_25 (Nat.le_of_ble_eq_true rfl) ?_
  refine g_iload_n 1 5 dX6_init_4 rfl rfl ?_
  refine g_iconst (0) 6 dX6_init_5 rfl rfl ?_
  refine h_max 9 dX6_init_6 rfl mbX6_9 smJ9_max_7cf53 (Nat.le_of_ble_eq_true rfl) (Nat.zero_le _) (Nat.zero_le _) ?_
  rw [show i_max x 0 = x from if_neg gx]
  refine g_istore_n 10 [(3, .int x), (0, .ref a), (1, .int x), (2, .int y)] dX6_init_9 rfl (Nat.le_of_ble_eq_true rfl) rfl ?_
  refine g_iload_n 3 11 dX6_init_10 rfl rfl ?_
  refine g_iconst (0) 12 dX6_init_11 rfl rfl ?_
  refine h_max 15 dX6_init_12 rfl mbX6_9 smJ9_max_7cf53 (Nat.le_of_ble_eq_true rfl) (Nat.zero_le _) (Nat.zero_le _) ?_
  rw [show i_max y 0 = y from if_neg gy]
  refine g_istore 17 [(4, .int y), (3, .int x), (0, .ref a), (1, .int x), (2, .int y)] dX6_init_15 rfl (Nat.le_of_ble_eq_true rfl) rfl ?_
  refine g_aload_n 2 18 dX6_init_17 rfl rfl ?_
  refine g_iload_n 1 19 dX6_init_18 rfl rfl ?_
  refine i_newa (t := 0) 21 (a + 1) dX6_init_19 rfl rfl (by decide) q1_71 gx hx bn (Nat.le_of_ble_eq_true rfl) (by omega) hn ?_
  have ho := ho.bl (Bl.new (c := 100) (z := n) hn (by omega))
  have hk := kn (c := 100) (z := n) hk hn (by omega)
  have hF := hF.new (c := 100) (z := n) hn (by omega)
  have h1 := Ar.mk (c := 100) (z := n) hn
  have hn : g_nx _ = a + 2 := nn (c := 100) (z := n) hn
  refine g_putRF 24 dX6_init_21 rfl flX6_15 hk rfl rfl rfl ?_
  have h1 := Ar.bl (Bl.wr (c := a) (i := 0) (v := some (a + 1)) (by omega)) h1
  have ho := ho.wr (i := 0) (v := some (a + 1))
  have hF := hF.wr (i := 0) (v := some (a + 1)) (Nat.le_refl a)
  have hk := kwr (c := a) (i := 0) (v := some (a + 1)) hk
  have hn := nwr (c := a) (i := 0) (v := some (a + 1)) hn
  refine g_aload_n 2 25 dX6_init_24 rfl rfl ?_
  refine g_iload_n 1 26 dX6_init_25 rfl rfl ?_
  refine i_newa (t := 0) 28 (a + 2) dX6_init_26 rfl rfl (by decide) q1_71 gx hx bn (Nat.le_of_ble_eq_true rfl) (by omega) hn ?_
  have h1 := Ar.bl (Bl.new (c := 100) (z := n) hn (by omega)) h1
  have ho := ho.bl (Bl.new (c := 100) (z := n) hn (by omega))
  have hk := kn (c := 100) (z := n) hk hn (by omega)
  have hF := hF.new (c := 100) (z := n) hn (by omega)
  have h2 := Ar.mk (c := 100) (z := n) hn
  have hn : g_nx _ = a + 3 := nn (c := 100) (z := n) hn
  refine g_putRF 31 dX6_init_28 rfl flX6_21 hk rfl rfl rfl ?_
  have h1 := Ar.bl (Bl.wr (c := a) (i := 1) (v := some (a + 2)) (by omega)) h1
  have h2 := Ar.bl (Bl.wr (c := a) (i := 1) (v := some (a + 2)) (by omega)) h2
  have ho := ho.wr (i := 1) (v := some (a + 2))
  have hF := hF.wr (i := 1) (v := some (a + 2)) (Nat.le_refl a)
  have hk := kwr (c := a) (i := 1) (v := some (a + 2)) hk
  have hn := nwr (c := a) (i := 1) (v := some (a + 2)) hn
  refine g_aload_n 2 32 dX6_init_31 rfl rfl ?_
  refine g_iload_n 1 33 dX6_init_32 rfl rfl ?_
  refine i_newa (t := 0) 35 (a + 3) dX6_init_33 rfl rfl (by decide) q1_71 gx hx bn (Nat.le_of_ble_eq_true rfl) (by omega) hn ?_
  have h1 := Ar.bl (Bl.new (c := 100) (z := n) hn (by omega)) h1
  have h2 := Ar.bl (Bl.new (c := 100) (z := n) hn (by omega)) h2
  have ho := ho.bl (Bl.new (c := 100) (z := n) hn (by omega))
  have hk := kn (c := 100) (z := n) hk hn (by omega)
  have hF := hF.new (c := 100) (z := n) hn (by omega)
  have h3 := Ar.mk (c := 100) (z := n) hn
  have hn : g_nx _ = a + 4 := nn (c := 100) (z := n) hn
  refine g_putRF 38 dX6_init_35 rfl flX6_24 hk rfl rfl rfl ?_
  have h1 := Ar.bl (Bl.wr (c := a) (i := 2) (v := some (a + 3)) (by omega)) h1
  have h2 := Ar.bl (Bl.wr (c := a) (i := 2) (v := some (a + 3)) (by omega)) h2
  have h3 := Ar.bl (Bl.wr (c := a) (i := 2) (v := some (a + 3)) (by omega)) h3
  have ho := ho.wr (i := 2) (v := some (a + 3))
  have hF := hF.wr (i := 2) (v := some (a + 3)) (Nat.le_refl a)
  have hk := kwr (c := a) (i := 2) (v := some (a + 3)) hk
  have hn := nwr (c := a) (i := 2) (v := some (a + 3)) hn
  refine g_aload_n 2 39 dX6_init_38 rfl rfl ?_
  refine g_iload_n 1 40 dX6_init_39 rfl rfl ?_
  refine i_newa (t := 0) 42 (a + 4) dX6_init_40 rfl rfl (by decide) q1_71 gx hx bn (Nat.le_of_ble_eq_true rfl) (by omega) hn ?_
  have h1 := Ar.bl (Bl.new (c := 100) (z := n) hn (by omega)) h1
  have h2 := Ar.bl (Bl.new (c := 100) (z := n) hn (by omega)) h2
  have h3 := Ar.bl (Bl.new (c := 100) (z := n) hn (by omega)) h3
  have ho := ho.bl (Bl.new (c := 100) (z := n) hn (by omega))
  have hk := kn (c := 100) (z := n) hk hn (by omega)
  have hF := hF.new (c := 100) (z := n) hn (by omega)
  have h4 := Ar.mk (c := 100) (z := n) hn
  have hn : g_nx _ = a + 5 := nn (c := 100) (z := n) hn
  refine g_putRF 45 dX6_init_42 rfl flX6_27 hk rfl rfl rfl ?_
  have h1 := Ar.bl (Bl.wr (c := a) (i := 3) (v := some (a + 4)) (by omega)) h1
  have h2 := Ar.bl (Bl.wr (c := a) (i := 3) (v := some (a + 4)) (by omega)) h2
  have h3 := Ar.bl (Bl.wr (c := a) (i := 3) (v := some (a + 4)) (by omega)) h3
  have h4 := Ar.bl (Bl.wr (c := a) (i := 3) (v := some (a + 4)) (by omega)) h4
  have ho := ho.wr (i := 3) (v := some (a + 4))
  have hF := hF.wr (i := 3) (v := some (a + 4)) (Nat.le_refl a)
  have hk := kwr (c := a) (i := 3) (v := some (a + 4)) hk
  have hn := nwr (c := a) (i := 3) (v := some (a + 4)) hn
  refine g_aload_n 2 46 dX6_init_45 rfl rfl ?_
  refine g_iload 0 48 dX6_init_46 rfl rfl ?_
  refine i_newa (t := 0) 50 (a + 5) dX6_init_48 rfl rfl (by decide) q1_71 gy hy bm (Nat.le_of_ble_eq_true rfl) (by omega) hn ?_
  have h1 := Ar.bl (Bl.new (c := 100) (z := m) hn (by omega)) h1
  have h2 := Ar.bl (Bl.new (c := 100) (z := m) hn (by omega)) h2
  have h3 := Ar.bl (Bl.new (c := 100) (z := m) hn (by omega)) h3
  have h4 := Ar.bl (Bl.new (c := 100) (z := m) hn (by omega)) h4
  have ho := ho.bl (Bl.new (c := 100) (z := m) hn (by omega))
  have hk := kn (c := 100) (z := m) hk hn (by omega)
  have hF := hF.new (c := 100) (z := m) hn (by omega)
  have h5 := Ar.mk (c := 100) (z := m) hn
  have hn : g_nx _ = a + 6 := nn (c := 100) (z := m) hn
  refine g_putRF 53 dX6_init_50 rfl flX6_30 hk rfl rfl rfl ?_
  have h1 := Ar.bl (Bl.wr (c := a) (i := 4) (v := some (a + 5)) (by omega)) h1
  have h2 := Ar.bl (Bl.wr (c := a) (i := 4) (v := some (a + 5)) (by omega)) h2
  have h3 := Ar.bl (Bl.wr (c := a) (i := 4) (v := some (a + 5)) (by omega)) h3
  have h4 := Ar.bl (Bl.wr (c := a) (i := 4) (v := some (a + 5)) (by omega)) h4
  have h5 := Ar.bl (Bl.wr (c := a) (i := 4) (v := some (a + 5)) (by omega)) h5
  have ho := ho.wr (i := 4) (v := some (a + 5))
  have hF := hF.wr (i := 4) (v := some (a + 5)) (Nat.le_refl a)
  have hk := kwr (c := a) (i := 4) (v := some (a + 5)) hk
  have hn := nwr (c := a) (i := 4) (v := some (a + 5)) hn
  refine g_aload_n 2 54 dX6_init_53 rfl rfl ?_
  refine g_iload 0 56 dX6_init_54 rfl rfl ?_
  refine i_newa (t := 0) 58 (a + 6) dX6_init_56 rfl rfl (by decide) q1_71 gy hy bm (Nat.le_of_ble_eq_true rfl) (by omega) hn ?_
  have h1 := Ar.bl (Bl.new (c := 100) (z := m) hn (by omega)) h1
  have h2 := Ar.bl (Bl.new (c := 100) (z := m) hn (by omega)) h2
  have h3 := Ar.bl (Bl.new (c := 100) (z := m) hn (by omega)) h3
  have h4 := Ar.bl (Bl.new (c := 100) (z := m) hn (by omega)) h4
  have h5 := Ar.bl (Bl.new (c := 100) (z := m) hn (by omega)) h5
  have ho := ho.bl (Bl.new (c := 100) (z := m) hn (by omega))
  have hk := kn (c := 100) (z := m) hk hn (by omega)
  have hF := hF.new (c := 100) (z := m) hn (by omega)
  have h6 := Ar.mk (c := 100) (z := m) hn
  have hn : g_nx _ = a + 7 := nn (c := 100) (z := m) hn
  refine g_putRF 61 dX6_init_58 rfl flX6_33 hk rfl rfl rfl ?_
  have h1 := Ar.bl (Bl.wr (c := a) (i := 5) (v := some (a + 6)) (by omega)) h1
  have h2 := Ar.bl (Bl.wr (c := a) (i := 5) (v := some (a + 6)) (by omega)) h2
  have h3 := Ar.bl (Bl.wr (c := a) (i := 5) (v := some (a + 6)) (by omega)) h3
  have h4 := Ar.bl (Bl.wr (c := a) (i := 5) (v := some (a + 6)) (by omega)) h4
  have h5 := Ar.bl (Bl.wr (c := a) (i := 5) (v := some (a + 6)) (by omega)) h5
  have h6 := Ar.bl (Bl.wr (c := a) (i := 5) (v := some (a + 6)) (by omega)) h6
  have ho := ho.wr (i := 5) (v := some (a + 6))
  have hF := hF.wr (i := 5) (v := some (a + 6)) (Nat.le_refl a)
  have hk := kwr (c := a) (i := 5) (v := some (a + 6)) hk
  have hn := nwr (c := a) (i := 5) (v := some (a + 6)) hn
  exact g_vret dX6_init_61 rfl (Nat.le_of_ble_eq_true rfl) (by omega) (hQ _ hF hn ⟨hk, ho, h1, h2, h3, h4, h5, h6⟩)
/-- what X2_init makes -/
def G2 (M : gM) (a : Nat) : Prop := g_kd M a = some (2, 13) ∧ Ow M a (va_up (va_up (va_up (va_up (va_up (va_up (va_up (fun _ => none) 0 (some (a + 1))) 1 (some (a + 2))) 2 (some (a + 9))) 3 (some (a + 10))) 7 (some (a + 11))) 8 (some (a + 12))) 9 (some (a + 13))) (va_up (fun _ => 0) 6 (-1)) ∧ Ar M (a + 1) 100 400 ∧ G6 M (a + 2) 12 460 ∧ Ar M (a + 9) 100 50 ∧ Ar M (a + 10) 102 50 ∧ Ar M (a + 11) 100 401 ∧ Ar M (a + 12) 100 401 ∧ Ar M (a + 13) 100 401
theorem G2.bl {M M2 : gM} {a : Nat} (h : Bl a (a + 14) M M2) (e : G2 M a) : G2 M2 a := ⟨h.k (by omega) (by omega) e.1, e.2.1.bl (h.sub (by omega) (by omega)), Ar.bl (h.sub (by omega) (by omega)) e.2.2.1, G6.bl (h.sub (by omega) (by omega)) e.2.2.2.1, Ar.bl (h.sub (by omega) (by omega)) e.2.2.2.2.1, Ar.bl (h.sub (by omega) (by omega)) e.2.2.2.2.2.1, Ar.bl (h.sub (by omega) (by omega)) e.2.2.2.2.2.2.1, Ar.bl (h.sub (by omega) (by omega)) e.2.2.2.2.2.2.2.1, Ar.bl (h.sub (by omega) (by omega)) e.2.2.2.2.2.2.2.2⟩
set_option maxRecDepth 10000 in
theorem iX2_init {X : gX} {d : Nat} {Q : Option Value → gM → Prop} {M : gM} {a : Nat} (hr : Ar M a 2 13) (hn : g_nx M = a + 1) (hQ : ∀ M2, Fr a M M2 → g_nx M2 = a + 14 → G2 M2 a → Q none M2) : Cn X (d + 2) 13 2679 kX2_init [.ref a] M Q := by
  refine g_meth rfl rfl (Nat.le_of_ble_eq_true rfl) rfl ?_
  have hk := hr.1
  have ho := Ow.ar hr
  have hF : Fr a M M := Fr.rf
  refine g_aload_n 0 1 dX2_init_0 rfl rfl ?_
  refine g_objInit 4 dX2_init_1 rfl q1_227 q1_24 q1_25 (Nat.le_of_ble_eq_true rfl) ?_
  refine g_aload_n 0 5 dX2_init_4 rfl rfl ?_
  refine g_sipush (400) 8 dX2_init_5 rfl rfl ?_
  refine i_newa (t := 0) 10 (a + 1) dX2_init_8 rfl rfl (by decide) q1_71 (by decide) rfl (by decide) (Nat.le_of_ble_eq_true rfl) (Nat.le_of_ble_eq_true rfl) hn ?_
  have ho := ho.bl (Bl.new (c := 100) (z := 400) hn (by omega))
  have hk := kn (c := 100) (z := 400) hk hn (by omega)
  have hF := hF.new (c := 100) (z := 400) hn (by omega)
  have h1 := Ar.mk (c := 100) (z := 400) hn
  have hn : g_nx _ = a + 2 := nn (c := 100) (z := 400) hn
  refine g_putRF 13 dX2_init_10 rfl flX2_9 hk rfl rfl rfl ?_
  have h1 := Ar.bl (Bl.wr (c := a) (i := 0) (v := some (a + 1)) (by omega)) h1
  have ho := ho.wr (i := 0) (v := some (a + 1))
  have hF := hF.wr (i := 0) (v := some (a + 1)) (Nat.le_refl a)
  have hk := kwr (c := a) (i := 0) (v := some (a + 1)) hk
  have hn := nwr (c := a) (i := 0) (v := some (a + 1)) hn
  refine g_aload_n 0 14 dX2_init_13 rfl rfl ?_
  refine i_newo 17 (a + 2) dX2_init_14 rfl gcl6 q1_228 q1_229 q1_9 (Nat.le_of_ble_eq_true rfl) (Nat.le_of_ble_eq_true rfl) hn ?_
  have h1 := Ar.bl (Bl.new (c := 6) (z := 8) hn (by omega)) h1
  have ho := ho.bl (Bl.new (c := 6) (z := 8) hn (by omega))
  have hk := kn (c := 6) (z := 8) hk hn (by omega)
  have hF := hF.new (c := 6) (z := 8) hn (by omega)
  have h2 := Ar.mk (c := 6) (z := 8) hn
  have hn : g_nx _ = a + 3 := nn (c := 6) (z := 8) hn
  refine g_dup 18 dX2_init_17 rfl rfl ?_
  refine g_bipush (12) 20 dX2_init_18 rfl rfl ?_
  refine g_sipush (460) 23 dX2_init_20 rfl rfl ?_
  refine g_callI (mc1 := 6) (ms1 := 968) (b := (a + 2)) (rest := [.ref (a + 2), .ref a]) (av := [.int (12), .int (460)]) kX6_init 26 dX2_init_23 rfl rfl mbX2_17 imX6_init rfl rfl (Nat.le_of_ble_eq_true rfl) (Nat.le_of_ble_eq_true rfl) (Nat.le_of_ble_eq_true rfl) (iX6_init (n := 12) (m := 460) rfl rfl (by decide) (by decide) (by decide) (by decide) h2 hn ?_)
  intro M3 hf hn2 hg
  show Go X _ _ _ kX2_init Q 26 [(0, .ref a)] [.ref (a + 2), .ref a] M3 8 1376
  have h1 := Ar.bl (Bl.fr hf (by omega)) h1
  have ho := ho.bl (Bl.fr hf (by omega))
  have hk := (Bl.fr (lo := a) (hi := a + 1) hf (by omega)).k (by omega) (by omega) hk
  have hF := hF.tr hf (by omega)
  have hn : g_nx M3 = a + 9 := hn2
  have h2 := hg
  refine g_putRF 29 dX2_init_26 rfl flX2_20 hk rfl rfl rfl ?_
  have h1 := Ar.bl (Bl.wr (c := a) (i := 1) (v := some (a + 2)) (by omega)) h1
  have h2 := G6.bl (Bl.wr (c := a) (i := 1) (v := some (a + 2)) (by omega)) h2
  have ho := ho.wr (i := 1) (v := some (a + 2))
  have hF := hF.wr (i := 1) (v := some (a + 2)) (Nat.le_refl a)
  have hk := kwr (c := a) (i := 1) (v := some (a + 2)) hk
  have hn := nwr (c := a) (i := 1) (v := some (a + 2)) hn
  refine g_aload_n 0 30 dX2_init_29 rfl rfl ?_
  refine g_bipush (50) 32 dX2_init_30 rfl rfl ?_
  refine i_newa (t := 0) 34 (a + 9) dX2_init_32 rfl rfl (by decide) q1_71 (by decide) rfl (by decide) (Nat.le_of_ble_eq_true rfl) (Nat.le_of_ble_eq_true rfl) hn ?_
  have h1 := Ar.bl (Bl.new (c := 100) (z := 50) hn (by omega)) h1
  have h2 := G6.bl (Bl.new (c := 100) (z := 50) hn (by omega)) h2
  have ho := ho.bl (Bl.new (c := 100) (z := 50) hn (by omega))
  have hk := kn (c := 100) (z := 50) hk hn (by omega)
  have hF := hF.new (c := 100) (z := 50) hn (by omega)
  have h9 := Ar.mk (c := 100) (z := 50) hn
  have hn : g_nx _ = a + 10 := nn (c := 100) (z := 50) hn
  refine g_putRF 37 dX2_init_34 rfl flX2_24 hk rfl rfl rfl ?_
  have h1 := Ar.bl (Bl.wr (c := a) (i := 2) (v := some (a + 9)) (by omega)) h1
  have h2 := G6.bl (Bl.wr (c := a) (i := 2) (v := some (a + 9)) (by omega)) h2
  have h9 := Ar.bl (Bl.wr (c := a) (i := 2) (v := some (a + 9)) (by omega)) h9
  have ho := ho.wr (i := 2) (v := some (a + 9))
  have hF := hF.wr (i := 2) (v := some (a + 9)) (Nat.le_refl a)
  have hk := kwr (c := a) (i := 2) (v := some (a + 9)) hk
  have hn := nwr (c := a) (i := 2) (v := some (a + 9)) hn
  refine g_aload_n 0 38 dX2_init_37 rfl rfl ?_
  refine g_bipush (50) 40 dX2_init_38 rfl rfl ?_
  refine i_newa (t := 2) 42 (a + 10) dX2_init_40 rfl rfl (by decide) q2_87 (by decide) rfl (by decide) (Nat.le_of_ble_eq_true rfl) (Nat.le_of_ble_eq_true rfl) hn ?_
  have h1 := Ar.bl (Bl.new (c := 102) (z := 50) hn (by omega)) h1
  have h2 := G6.bl (Bl.new (c := 102) (z := 50) hn (by omega)) h2
  have h9 := Ar.bl (Bl.new (c := 102) (z := 50) hn (by omega)) h9
  have ho := ho.bl (Bl.new (c := 102) (z := 50) hn (by omega))
  have hk := kn (c := 102) (z := 50) hk hn (by omega)
  have hF := hF.new (c := 102) (z := 50) hn (by omega)
  have h10 := Ar.mk (c := 102) (z := 50) hn
  have hn : g_nx _ = a + 11 := nn (c := 102) (z := 50) hn
  refine g_putRF 45 dX2_init_42 rfl flX2_27 hk rfl rfl rfl ?_
  have h1 := Ar.bl (Bl.wr (c := a) (i := 3) (v := some (a + 10)) (by omega)) h1
  have h2 := G6.bl (Bl.wr (c := a) (i := 3) (v := some (a + 10)) (by omega)) h2
  have h9 := Ar.bl (Bl.wr (c := a) (i := 3) (v := some (a + 10)) (by omega)) h9
  have h10 := Ar.bl (Bl.wr (c := a) (i := 3) (v := some (a + 10)) (by omega)) h10
  have ho := ho.wr (i := 3) (v := some (a + 10))
  have hF := hF.wr (i := 3) (v := some (a + 10)) (Nat.le_refl a)
  have hk := kwr (c := a) (i := 3) (v := some (a + 10)) hk
  have hn := nwr (c := a) (i := 3) (v := some (a + 10)) hn
  refine g_aload_n 0 46 dX2_init_45 rfl rfl ?_
  refine g_iconst (-1) 47 dX2_init_46 rfl rfl ?_
  refine g_putI 50 dX2_init_47 rfl flX2_31 hk ?_
  have h1 := Ar.bl (Bl.wi (c := a) (i := 6) (v := (-1)) (by omega)) h1
  have h2 := G6.bl (Bl.wi (c := a) (i := 6) (v := (-1)) (by omega)) h2
  have h9 := Ar.bl (Bl.wi (c := a) (i := 6) (v := (-1)) (by omega)) h9
  have h10 := Ar.bl (Bl.wi (c := a) (i := 6) (v := (-1)) (by omega)) h10
  have ho := ho.wi (i := 6) (v := (-1))
  have hF := hF.wi (i := 6) (v := (-1)) (Nat.le_refl a)
  have hk := kwi (c := a) (i := 6) (v := (-1)) hk
  have hn := nwi (c := a) (i := 6) (v := (-1)) hn
  refine g_aload_n 0 51 dX2_init_50 rfl rfl ?_
  refine g_sipush (401) 54 dX2_init_51 rfl rfl ?_
  refine i_newa (t := 0) 56 (a + 11) dX2_init_54 rfl rfl (by decide) q1_71 (by decide) rfl (by decide) (Nat.le_of_ble_eq_true rfl) (Nat.le_of_ble_eq_true rfl) hn ?_
  have h1 := Ar.bl (Bl.new (c := 100) (z := 401) hn (by omega)) h1
  have h2 := G6.bl (Bl.new (c := 100) (z := 401) hn (by omega)) h2
  have h9 := Ar.bl (Bl.new (c := 100) (z := 401) hn (by omega)) h9
  have h10 := Ar.bl (Bl.new (c := 100) (z := 401) hn (by omega)) h10
  have ho := ho.bl (Bl.new (c := 100) (z := 401) hn (by omega))
  have hk := kn (c := 100) (z := 401) hk hn (by omega)
  have hF := hF.new (c := 100) (z := 401) hn (by omega)
  have h11 := Ar.mk (c := 100) (z := 401) hn
  have hn : g_nx _ = a + 12 := nn (c := 100) (z := 401) hn
  refine g_putRF 59 dX2_init_56 rfl flX2_35 hk rfl rfl rfl ?_
  have h1 := Ar.bl (Bl.wr (c := a) (i := 7) (v := some (a + 11)) (by omega)) h1
  have h2 := G6.bl (Bl.wr (c := a) (i := 7) (v := some (a + 11)) (by omega)) h2
  have h9 := Ar.bl (Bl.wr (c := a) (i := 7) (v := some (a + 11)) (by omega)) h9
  have h10 := Ar.bl (Bl.wr (c := a) (i := 7) (v := some (a + 11)) (by omega)) h10
  have h11 := Ar.bl (Bl.wr (c := a) (i := 7) (v := some (a + 11)) (by omega)) h11
  have ho := ho.wr (i := 7) (v := some (a + 11))
  have hF := hF.wr (i := 7) (v := some (a + 11)) (Nat.le_refl a)
  have hk := kwr (c := a) (i := 7) (v := some (a + 11)) hk
  have hn := nwr (c := a) (i := 7) (v := some (a + 11)) hn
  refine g_aload_n 0 60 dX2_init_59 rfl rfl ?_
  refine g_sipush (401) 63 dX2_init_60 rfl rfl ?_
  refine i_newa (t := 0) 65 (a + 12) dX2_init_63 rfl rfl (by decide) q1_71 (by decide) rfl (by decide) (Nat.le_of_ble_eq_true rfl) (Nat.le_of_ble_eq_true rfl) hn ?_
  have h1 := Ar.bl (Bl.new (c := 100) (z := 401) hn (by omega)) h1
  have h2 := G6.bl (Bl.new (c := 100) (z := 401) hn (by omega)) h2
  have h9 := Ar.bl (Bl.new (c := 100) (z := 401) hn (by omega)) h9
  have h10 := Ar.bl (Bl.new (c := 100) (z := 401) hn (by omega)) h10
  have h11 := Ar.bl (Bl.new (c := 100) (z := 401) hn (by omega)) h11
  have ho := ho.bl (Bl.new (c := 100) (z := 401) hn (by omega))
  have hk := kn (c := 100) (z := 401) hk hn (by omega)
  have hF := hF.new (c := 100) (z := 401) hn (by omega)
  have h12 := Ar.mk (c := 100) (z := 401) hn
  have hn : g_nx _ = a + 13 := nn (c := 100) (z := 401) hn
  refine g_putRF 68 dX2_init_65 rfl flX2_38 hk rfl rfl rfl ?_
  have h1 := Ar.bl (Bl.wr (c := a) (i := 8) (v := some (a + 12)) (by omega)) h1
  have h2 := G6.bl (Bl.wr (c := a) (i := 8) (v := some (a + 12)) (by omega)) h2
  have h9 := Ar.bl (Bl.wr (c := a) (i := 8) (v := some (a + 12)) (by omega)) h9
  have h10 := Ar.bl (Bl.wr (c := a) (i := 8) (v := some (a + 12)) (by omega)) h10
  have h11 := Ar.bl (Bl.wr (c := a) (i := 8) (v := some (a + 12)) (by omega)) h11
  have h12 := Ar.bl (Bl.wr (c := a) (i := 8) (v := some (a + 12)) (by omega)) h12
  have ho := ho.wr (i := 8) (v := some (a + 12))
  have hF := hF.wr (i := 8) (v := some (a + 12)) (Nat.le_refl a)
  have hk := kwr (c := a) (i := 8) (v := some (a + 12)) hk
  have hn := nwr (c := a) (i := 8) (v := some (a + 12)) hn
  refine g_aload_n 0 69 dX2_init_68 rfl rfl ?_
  refine g_sipush (401) 72 dX2_init_69 rfl rfl ?_
  refine i_newa (t := 0) 74 (a + 13) dX2_init_72 rfl rfl (by decide) q1_71 (by decide) rfl (by decide) (Nat.le_of_ble_eq_true rfl) (Nat.le_of_ble_eq_true rfl) hn ?_
  have h1 := Ar.bl (Bl.new (c := 100) (z := 401) hn (by omega)) h1
  have h2 := G6.bl (Bl.new (c := 100) (z := 401) hn (by omega)) h2
  have h9 := Ar.bl (Bl.new (c := 100) (z := 401) hn (by omega)) h9
  have h10 := Ar.bl (Bl.new (c := 100) (z := 401) hn (by omega)) h10
  have h11 := Ar.bl (Bl.new (c := 100) (z := 401) hn (by omega)) h11
  have h12 := Ar.bl (Bl.new (c := 100) (z := 401) hn (by omega)) h12
  have ho := ho.bl (Bl.new (c := 100) (z := 401) hn (by omega))
  have hk := kn (c := 100) (z := 401) hk hn (by omega)
  have hF := hF.new (c := 100) (z := 401) hn (by omega)
  have h13 := Ar.mk (c := 100) (z := 401) hn
  have hn : g_nx _ = a + 14 := nn (c := 100) (z := 401) hn
  refine g_putRF 77 dX2_init_74 rfl flX2_41 hk rfl rfl rfl ?_
  have h1 := Ar.bl (Bl.wr (c := a) (i := 9) (v := some (a + 13)) (by omega)) h1
  have h2 := G6.bl (Bl.wr (c := a) (i := 9) (v := some (a + 13)) (by omega)) h2
  have h9 := Ar.bl (Bl.wr (c := a) (i := 9) (v := some (a + 13)) (by omega)) h9
  have h10 := Ar.bl (Bl.wr (c := a) (i := 9) (v := some (a + 13)) (by omega)) h10
  have h11 := Ar.bl (Bl.wr (c := a) (i := 9) (v := some (a + 13)) (by omega)) h11
  have h12 := Ar.bl (Bl.wr (c := a) (i := 9) (v := some (a + 13)) (by omega)) h12
  have h13 := Ar.bl (Bl.wr (c := a) (i := 9) (v := some (a + 13)) (by omega)) h13
  have ho := ho.wr (i := 9) (v := some (a + 13))
  have hF := hF.wr (i := 9) (v := some (a + 13)) (Nat.le_refl a)
  have hk := kwr (c := a) (i := 9) (v := some (a + 13)) hk
  have hn := nwr (c := a) (i := 9) (v := some (a + 13)) hn
  exact g_vret dX2_init_77 rfl (Nat.le_of_ble_eq_true rfl) (Nat.le_of_ble_eq_true rfl) (hQ _ hF hn ⟨hk, ho, h1, h2, h9, h10, h11, h12, h13⟩)
/-- what X7_init makes -/
def G7 (M : gM) (a : Nat) : Prop := g_kd M a = some (7, 8) ∧ Ow M a (va_up (va_up (va_up (va_up (fun _ => none) 0 (some (a + 1))) 1 (some (a + 8))) 2 (some (a + 9))) 3 (some (a + 10))) (va_up (fun _ => 0) 6 (-1)) ∧ G3 M (a + 1) ∧ Ar M (a + 8) 100 6 ∧ Ar M (a + 9) 100 6 ∧ Ar M (a + 10) 105 6
theorem G7.bl {M M2 : gM} {a : Nat} (h : Bl a (a + 11) M M2) (e : G7 M a) : G7 M2 a := ⟨h.k (by omega) (by omega) e.1, e.2.1.bl (h.sub (by omega) (by omega)), G3.bl (h.sub (by omega) (by omega)) e.2.2.1, Ar.bl (h.sub (by omega) (by omega)) e.2.2.2.1, Ar.bl (h.sub (by omega) (by omega)) e.2.2.2.2.1, Ar.bl (h.sub (by omega) (by omega)) e.2.2.2.2.2⟩
set_option maxRecDepth 10000 in
theorem iX7_init {X : gX} {d : Nat} {Q : Option Value → gM → Prop} {M : gM} {a : Nat} (hr : Ar M a 7 8) (hn : g_nx M = a + 1) (hQ : ∀ M2, Fr a M M2 → g_nx M2 = a + 11 → G7 M2 a → Q none M2) : Cn X (d + 3) 10 214 kX7_init [.ref a] M Q := by
  refine g_meth rfl rfl (Nat.le_of_ble_eq_true rfl) rfl ?_
  have hk := hr.1
  have ho := Ow.ar hr
  have hF : Fr a M M := Fr.rf
  refine g_aload_n 0 1 dX7_init_0 rfl rfl ?_
  refine g_objInit 4 dX7_init_1 rfl q1_31 q1_24 q1_25 (Nat.le_of_ble_eq_true rfl) ?_
  refine g_aload_n 0 5 dX7_init_4 rfl rfl ?_
  refine i_newo 8 (a + 1) dX7_init_5 rfl gcl3 q1_32 q1_33 q1_3 (Nat.le_of_ble_eq_true rfl) (Nat.le_of_ble_eq_true rfl) hn ?_
  have ho := ho.bl (Bl.new (c := 3) (z := 6) hn (by omega))
  have hk := kn (c := 3) (z := 6) hk hn (by omega)
  have hF := hF.new (c := 3) (z := 6) hn (by omega)
  have h1 := Ar.mk (c := 3) (z := 6) hn
  have hn : g_nx _ = a + 2 := nn (c := 3) (z := 6) hn
  refine g_dup 9 dX7_init_8 rfl rfl ?_
  refine g_callI (mc1 := 6) (ms1 := 190) (b := (a + 1)) (rest := [.ref (a + 1), .ref a]) (av := []) kX3_init 12 dX7_init_9 rfl rfl mbX7_11 imX3_init rfl rfl (Nat.le_of_ble_eq_true rfl) (Nat.le_of_ble_eq_true rfl) (Nat.le_of_ble_eq_true rfl) (iX3_init h1 hn ?_)
  intro M2 hf hn2 hg
  show Go X _ _ _ kX7_init Q 12 [(0, .ref a)] [.ref (a + 1), .ref a] M2 7 196
  have ho := ho.bl (Bl.fr hf (by omega))
  have hk := (Bl.fr (lo := a) (hi := a + 1) hf (by omega)).k (by omega) (by omega) hk
  have hF := hF.tr hf (by omega)
  have hn : g_nx M2 = a + 8 := hn2
  have h1 := hg
  refine g_putRF 15 dX7_init_12 rfl flX7_12 hk rfl rfl rfl ?_
  have h1 := G3.bl (Bl.wr (c := a) (i := 0) (v := some (a + 1)) (by omega)) h1
  have ho := ho.wr (i := 0) (v := some (a + 1))
  have hF := hF.wr (i := 0) (v := some (a + 1)) (Nat.le_refl a)
  have hk := kwr (c := a) (i := 0) (v := some (a + 1)) hk
  have hn := nwr (c := a) (i := 0) (v := some (a + 1)) hn
  refine g_aload_n 0 16 dX7_init_15 rfl rfl ?_
  refine g_bipush (6) 18 dX7_init_16 rfl rfl ?_
  refine i_newa (t := 0) 20 (a + 8) dX7_init_18 rfl rfl (by decide) q1_71 (by decide) rfl (by decide) (Nat.le_of_ble_eq_true rfl) (Nat.le_of_ble_eq_true rfl) hn ?_
  have h1 := G3.bl (Bl.new (c := 100) (z := 6) hn (by omega)) h1
  have ho := ho.bl (Bl.new (c := 100) (z := 6) hn (by omega))
  have hk := kn (c := 100) (z := 6) hk hn (by omega)
  have hF := hF.new (c := 100) (z := 6) hn (by omega)
  have h8 := Ar.mk (c := 100) (z := 6) hn
  have hn : g_nx _ = a + 9 := nn (c := 100) (z := 6) hn
  refine g_putRF 23 dX7_init_20 rfl flX7_18 hk rfl rfl rfl ?_
  have h1 := G3.bl (Bl.wr (c := a) (i := 1) (v := some (a + 8)) (by omega)) h1
  have h8 := Ar.bl (Bl.wr (c := a) (i := 1) (v := some (a + 8)) (by omega)) h8
  have ho := ho.wr (i := 1) (v := some (a + 8))
  have hF := hF.wr (i := 1) (v := some (a + 8)) (Nat.le_refl a)
  have hk := kwr (c := a) (i := 1) (v := some (a + 8)) hk
  have hn := nwr (c := a) (i := 1) (v := some (a + 8)) hn
  refine g_aload_n 0 24 dX7_init_23 rfl rfl ?_
  refine g_bipush (6) 26 dX7_init_24 rfl rfl ?_
  refine i_newa (t := 0) 28 (a + 9) dX7_init_26 rfl rfl (by decide) q1_71 (by decide) rfl (by decide) (Nat.le_of_ble_eq_true rfl) (Nat.le_of_ble_eq_true rfl) hn ?_
  have h1 := G3.bl (Bl.new (c := 100) (z := 6) hn (by omega)) h1
  have h8 := Ar.bl (Bl.new (c := 100) (z := 6) hn (by omega)) h8
  have ho := ho.bl (Bl.new (c := 100) (z := 6) hn (by omega))
  have hk := kn (c := 100) (z := 6) hk hn (by omega)
  have hF := hF.new (c := 100) (z := 6) hn (by omega)
  have h9 := Ar.mk (c := 100) (z := 6) hn
  have hn : g_nx _ = a + 10 := nn (c := 100) (z := 6) hn
  refine g_putRF 31 dX7_init_28 rfl flX7_22 hk rfl rfl rfl ?_
  have h1 := G3.bl (Bl.wr (c := a) (i := 2) (v := some (a + 9)) (by omega)) h1
  have h8 := Ar.bl (Bl.wr (c := a) (i := 2) (v := some (a + 9)) (by omega)) h8
  have h9 := Ar.bl (Bl.wr (c := a) (i := 2) (v := some (a + 9)) (by omega)) h9
  have ho := ho.wr (i := 2) (v := some (a + 9))
  have hF := hF.wr (i := 2) (v := some (a + 9)) (Nat.le_refl a)
  have hk := kwr (c := a) (i := 2) (v := some (a + 9)) hk
  have hn := nwr (c := a) (i := 2) (v := some (a + 9)) hn
  refine g_aload_n 0 32 dX7_init_31 rfl rfl ?_
  refine g_bipush (6) 34 dX7_init_32 rfl rfl ?_
  refine i_newq (t := 5) (C := RX6) 37 (a + 10) dX7_init_34 rfl (by decide) rfl q1_107 (by decide) (by decide) rfl (by decide) (Nat.le_of_ble_eq_true rfl) (Nat.le_of_ble_eq_true rfl) hn ?_
  have h1 := G3.bl (Bl.new (c := 105) (z := 6) hn (by omega)) h1
  have h8 := Ar.bl (Bl.new (c := 105) (z := 6) hn (by omega)) h8
  have h9 := Ar.bl (Bl.new (c := 105) (z := 6) hn (by omega)) h9
  have ho := ho.bl (Bl.new (c := 105) (z := 6) hn (by omega))
  have hk := kn (c := 105) (z := 6) hk hn (by omega)
  have hF := hF.new (c := 105) (z := 6) hn (by omega)
  have h10 := Ar.mk (c := 105) (z := 6) hn
  have hn : g_nx _ = a + 11 := nn (c := 105) (z := 6) hn
  refine g_putRF 40 dX7_init_37 rfl flX7_27 hk rfl rfl rfl ?_
  have h1 := G3.bl (Bl.wr (c := a) (i := 3) (v := some (a + 10)) (by omega)) h1
  have h8 := Ar.bl (Bl.wr (c := a) (i := 3) (v := some (a + 10)) (by omega)) h8
  have h9 := Ar.bl (Bl.wr (c := a) (i := 3) (v := some (a + 10)) (by omega)) h9
  have h10 := Ar.bl (Bl.wr (c := a) (i := 3) (v := some (a + 10)) (by omega)) h10
  have ho := ho.wr (i := 3) (v := some (a + 10))
  have hF := hF.wr (i := 3) (v := some (a + 10)) (Nat.le_refl a)
  have hk := kwr (c := a) (i := 3) (v := some (a + 10)) hk
  have hn := nwr (c := a) (i := 3) (v := some (a + 10)) hn
  refine g_aload_n 0 41 dX7_init_40 rfl rfl ?_
  refine g_iconst (-1) 42 dX7_init_41 rfl rfl ?_
  refine g_putI 45 dX7_init_42 rfl flX7_31 hk ?_
  have h1 := G3.bl (Bl.wi (c := a) (i := 6) (v := (-1)) (by omega)) h1
  have h8 := Ar.bl (Bl.wi (c := a) (i := 6) (v := (-1)) (by omega)) h8
  have h9 := Ar.bl (Bl.wi (c := a) (i := 6) (v := (-1)) (by omega)) h9
  have h10 := Ar.bl (Bl.wi (c := a) (i := 6) (v := (-1)) (by omega)) h10
  have ho := ho.wi (i := 6) (v := (-1))
  have hF := hF.wi (i := 6) (v := (-1)) (Nat.le_refl a)
  have hk := kwi (c := a) (i := 6) (v := (-1)) hk
  have hn := nwi (c := a) (i := 6) (v := (-1)) hn
  exact g_vret dX7_init_45 rfl (Nat.le_of_ble_eq_true rfl) (Nat.le_of_ble_eq_true rfl) (hQ _ hF hn ⟨hk, ho, h1, h8, h9, h10⟩)
/-- what X0_init makes -/
def G0 (M : gM) (a : Nat) : Prop := g_kd M a = some (0, 4) ∧ Ow M a (va_up (va_up (fun _ => none) 0 (some (a + 1))) 1 (some (a + 2))) (fun _ => 0) ∧ g_kd M (a + 1) = some (104, 17) ∧ Ow M (a + 1) (va_up (va_up (va_up (va_up (va_up (va_up (va_up (va_up (va_up (va_up (va_up (va_up (va_up (va_up (va_up (va_up (va_up (fun _ => none) 0 (some (a + 3))) 1 (some (a + 10))) 2 (some (a + 17))) 3 (some (a + 24))) 4 (some (a + 31))) 5 (some (a + 38))) 6 (some (a + 45))) 7 (some (a + 52))) 8 (some (a + 59))) 9 (some (a + 66))) 10 (some (a + 73))) 11 (some (a + 80))) 12 (some (a + 87))) 13 (some (a + 94))) 14 (some (a + 101))) 15 (some (a + 108))) 16 (some (a + 115))) (fun _ => 0) ∧ Ar M (a + 2) 100 17 ∧ G3 M (a + 3) ∧ G3 M (a + 10) ∧ G3 M (a + 17) ∧ G3 M (a + 24) ∧ G3 M (a + 31) ∧ G3 M (a + 38) ∧ G3 M (a + 45) ∧ G3 M (a + 52) ∧ G3 M (a + 59) ∧ G3 M (a + 66) ∧ G3 M (a + 73) ∧ G3 M (a + 80) ∧ G3 M (a + 87) ∧ G3 M (a + 94) ∧ G3 M (a + 101) ∧ G3 M (a + 108) ∧ G3 M (a + 115)
theorem G0.bl {M M2 : gM} {a : Nat} (h : Bl a (a + 122) M M2) (e : G0 M a) : G0 M2 a := ⟨h.k (by omega) (by omega) e.1, e.2.1.bl (h.sub (by omega) (by omega)), h.k (by omega) (by omega) e.2.2.1, e.2.2.2.1.bl (h.sub (by omega) (by omega)), Ar.bl (h.sub (by omega) (by omega)) e.2.2.2.2.1, G3.bl (h.sub (by omega) (by omega)) e.2.2.2.2.2.1, G3.bl (h.sub (by omega) (by omega)) e.2.2.2.2.2.2.1, G3.bl (h.sub (by omega) (by omega)) e.2.2.2.2.2.2.2.1, G3.bl (h.sub (by omega) (by omega)) e.2.2.2.2.2.2.2.2.1, G3.bl (h.sub (by omega) (by omega)) e.2.2.2.2.2.2.2.2.2.1, G3.bl (h.sub (by omega) (by omega)) e.2.2.2.2.2.2.2.2.2.2.1, G3.bl (h.sub (by omega) (by omega)) e.2.2.2.2.2.2.2.2.2.2.2.1, G3.bl (h.sub (by omega) (by omega)) e.2.2.2.2.2.2.2.2.2.2.2.2.1, G3.bl (h.sub (by omega) (by omega)) e.2.2.2.2.2.2.2.2.2.2.2.2.2.1, G3.bl (h.sub (by omega) (by omega)) e.2.2.2.2.2.2.2.2.2.2.2.2.2.2.1, G3.bl (h.sub (by omega) (by omega)) e.2.2.2.2.2.2.2.2.2.2.2.2.2.2.2.1, G3.bl (h.sub (by omega) (by omega)) e.2.2.2.2.2.2.2.2.2.2.2.2.2.2.2.2.1, G3.bl (h.sub (by omega) (by omega)) e.2.2.2.2.2.2.2.2.2.2.2.2.2.2.2.2.2.1, G3.bl (h.sub (by omega) (by omega)) e.2.2.2.2.2.2.2.2.2.2.2.2.2.2.2.2.2.2.1, G3.bl (h.sub (by omega) (by omega)) e.2.2.2.2.2.2.2.2.2.2.2.2.2.2.2.2.2.2.2.1, G3.bl (h.sub (by omega) (by omega)) e.2.2.2.2.2.2.2.2.2.2.2.2.2.2.2.2.2.2.2.2.1, G3.bl (h.sub (by omega) (by omega)) e.2.2.2.2.2.2.2.2.2.2.2.2.2.2.2.2.2.2.2.2.2⟩
set_option maxRecDepth 10000 in
theorem iX0_init {X : gX} {d : Nat} {Q : Option Value → gM → Prop} {M : gM} {a : Nat} (hr : Ar M a 0 4) (hn : g_nx M = a + 1) (hQ : ∀ M2, Fr a M M2 → g_nx M2 = a + 122 → G0 M2 a → Q none M2) : Cn X (d + 3) 121 3366 kX0_init [.ref a] M Q := by
  refine g_meth rfl rfl (Nat.le_of_ble_eq_true rfl) rfl ?_
  have hk := hr.1
  have ho := Ow.ar hr
  have hF : Fr a M M := Fr.rf
  refine g_aload_n 0 1 dX0_init_0 rfl rfl ?_
  refine g_objInit 4 dX0_init_1 rfl q1_147 q1_24 q1_25 (Nat.le_of_ble_eq_true rfl) ?_
  refine g_aload_n 0 5 dX0_init_4 rfl rfl ?_
  refine g_bipush (17) 7 dX0_init_5 rfl rfl ?_
  refine i_newq (t := 4) (C := RX3) 10 (a + 1) dX0_init_7 rfl (by decide) rfl q1_148 (by decide) (by decide) rfl (by decide) (Nat.le_of_ble_eq_true rfl) (Nat.le_of_ble_eq_true rfl) hn ?_
  have ho := ho.bl (Bl.new (c := 104) (z := 17) hn (by omega))
  have hk := kn (c := 104) (z := 17) hk hn (by omega)
  have hF := hF.new (c := 104) (z := 17) hn (by omega)
  have h1 := Ar.mk (c := 104) (z := 17) hn
  have hn : g_nx _ = a + 2 := nn (c := 104) (z := 17) hn
  refine g_putRF 13 dX0_init_10 rfl flX0_13 hk rfl rfl rfl ?_
  have h1 := Ar.bl (Bl.wr (c := a) (i := 0) (v := some (a + 1)) (by omega)) h1
  have ho := ho.wr (i := 0) (v := some (a + 1))
  have hF := hF.wr (i := 0) (v := some (a + 1)) (Nat.le_refl a)
  have hk := kwr (c := a) (i := 0) (v := some (a + 1)) hk
  have hn := nwr (c := a) (i := 0) (v := some (a + 1)) hn
  refine g_aload_n 0 14 dX0_init_13 rfl rfl ?_
  refine g_bipush (17) 16 dX0_init_14 rfl rfl ?_
  refine i_newa (t := 0) 18 (a + 2) dX0_init_16 rfl rfl (by decide) q1_71 (by decide) rfl (by decide) (Nat.le_of_ble_eq_true rfl) (Nat.le_of_ble_eq_true rfl) hn ?_
  have h1 := Ar.bl (Bl.new (c := 100) (z := 17) hn (by omega)) h1
  have ho := ho.bl (Bl.new (c := 100) (z := 17) hn (by omega))
  have hk := kn (c := 100) (z := 17) hk hn (by omega)
  have hF := hF.new (c := 100) (z := 17) hn (by omega)
  have h2 := Ar.mk (c := 100) (z := 17) hn
  have hn : g_nx _ = a + 3 := nn (c := 100) (z := 17) hn
  refine g_putRF 21 dX0_init_18 rfl flX0_17 hk rfl rfl rfl ?_
  have h1 := Ar.bl (Bl.wr (c := a) (i := 1) (v := some (a + 2)) (by omega)) h1
  have h2 := Ar.bl (Bl.wr (c := a) (i := 1) (v := some (a + 2)) (by omega)) h2
  have ho := ho.wr (i := 1) (v := some (a + 2))
  have hF := hF.wr (i := 1) (v := some (a + 2)) (Nat.le_refl a)
  have hk := kwr (c := a) (i := 1) (v := some (a + 2)) hk
  have hn := nwr (c := a) (i := 1) (v := some (a + 2)) hn
  refine g_iconst (0) 22 dX0_init_21 rfl rfl ?_
  refine g_istore_n 23 [(1, .int (0)), (0, .ref a)] dX0_init_22 rfl (Nat.le_of_ble_eq_true rfl) rfl ?_
  refine g_iload_n 0 24 dX0_init_23 rfl rfl ?_
  refine g_bipush (17) 26 dX0_init_24 rfl rfl ?_
  refine g_icmp_ge 48 29 dX0_init_26 rfl rfl (fun q => absurd q (by decide)) (fun _ => ?_)
  refine g_aload_n 1 30 dX0_init_29 rfl rfl ?_
  refine g_getR 33 (a + 1) dX0_init_30 rfl flX0_13 hk (ho.1 0) ?_
  refine g_iload_n 0 34 dX0_init_33 rfl rfl ?_
  refine i_newo 37 (a + 3) dX0_init_34 rfl gcl3 q1_148 q1_33 q1_3 (Nat.le_of_ble_eq_true rfl) (Nat.le_of_ble_eq_true rfl) hn ?_
  have h1 := Ar.bl (Bl.new (c := 3) (z := 6) hn (by omega)) h1
  have h2 := Ar.bl (Bl.new (c := 3) (z := 6) hn (by omega)) h2
  have ho := ho.bl (Bl.new (c := 3) (z := 6) hn (by omega))
  have hk := kn (c := 3) (z := 6) hk hn (by omega)
  have hF := hF.new (c := 3) (z := 6) hn (by omega)
  have h3 := Ar.mk (c := 3) (z := 6) hn
  have hn : g_nx _ = a + 4 := nn (c := 3) (z := 6) hn
  refine g_dup 38 dX0_init_37 rfl rfl ?_
  refine g_callI (mc1 := 6) (ms1 := 190) (b := (a + 3)) (rest := [.ref (a + 3), .int (0), .ref (a + 1)]) (av := []) kX3_init 41 dX0_init_38 rfl rfl mbX0_21 imX3_init rfl rfl (Nat.le_of_ble_eq_true rfl) (Nat.le_of_ble_eq_true rfl) (Nat.le_of_ble_eq_true rfl) (iX3_init h3 hn ?_)
  intro M4 hf hn2 hg
  show Go X _ _ _ kX0_init Q 41 [(1, .int (0)), (0, .ref a)] [.ref (a + 3), .int (0), .ref (a + 1)] M4 9 230
  have h1 := Ar.bl (Bl.fr hf (by omega)) h1
  have h2 := Ar.bl (Bl.fr hf (by omega)) h2
  have ho := ho.bl (Bl.fr hf (by omega))
  have hk := (Bl.fr (lo := a) (hi := a + 1) hf (by omega)).k (by omega) (by omega) hk
  have hF := hF.tr hf (by omega)
  have hn : g_nx M4 = a + 10 := hn2
  have h3 := hg
  have k1 := h1.1
  have w1 := Ow.ar h1
  refine g_aastore (t := 4) 42 dX0_init_41 rfl k1 (by decide) rfl h3.1 gcl3.1 (vp_lit rfl) ?_
  rw [show (0 : Int32).toNatClampNeg = 0 from rfl]
  have h2 := Ar.bl (Bl.wr (c := a + 1) (i := 0) (v := some (a + 3)) (by omega)) h2
  have h3 := G3.bl (Bl.wr (c := a + 1) (i := 0) (v := some (a + 3)) (by omega)) h3
  have w1 := w1.wr (i := 0) (v := some (a + 3))
  have ho := ho.bl (Bl.wr (c := a + 1) (i := 0) (v := some (a + 3)) (by omega))
  have hF := hF.wr (c := a + 1) (i := 0) (v := some (a + 3)) (by omega)
  have hk := kwr (c := a + 1) (i := 0) (v := some (a + 3)) hk
  have k1 := kwr (c := a + 1) (i := 0) (v := some (a + 3)) k1
  have hn := nwr (c := a + 1) (i := 0) (v := some (a + 3)) hn
  refine g_iinc (1) 0 45 [(1, .int (1)), (0, .ref a)] dX0_init_42 rfl rfl rfl (Nat.le_of_ble_eq_true rfl) rfl ?_
  refine g_goto 23 dX0_init_45 rfl ?_
  refine g_iload_n 0 24 dX0_init_23 rfl rfl ?_
  refine g_bipush (17) 26 dX0_init_24 rfl rfl ?_
  refine g_icmp_ge 48 29 dX0_init_26 rfl rfl (fun q => absurd q (by decide)) (fun _ => ?_)
  refine g_aload_n 1 30 dX0_init_29 rfl rfl ?_
  refine g_getR 33 (a + 1) dX0_init_30 rfl flX0_13 hk (ho.1 0) ?_
  refine g_iload_n 0 34 dX0_init_33 rfl rfl ?_
  refine i_newo 37 (a + 10) dX0_init_34 rfl gcl3 q1_148 q1_33 q1_3 (Nat.le_of_ble_eq_true rfl) (Nat.le_of_ble_eq_true rfl) hn ?_
  have h2 := Ar.bl (Bl.new (c := 3) (z := 6) hn (by omega)) h2
  have h3 := G3.bl (Bl.new (c := 3) (z := 6) hn (by omega)) h3
  have w1 := w1.bl (Bl.new (c := 3) (z := 6) hn (by omega))
  have k1 := kn (c := 3) (z := 6) k1 hn (by omega)
  have ho := ho.bl (Bl.new (c := 3) (z := 6) hn (by omega))
  have hk := kn (c := 3) (z := 6) hk hn (by omega)
  have hF := hF.new (c := 3) (z := 6) hn (by omega)
  have h10 := Ar.mk (c := 3) (z := 6) hn
  have hn : g_nx _ = a + 11 := nn (c := 3) (z := 6) hn
  refine g_dup 38 dX0_init_37 rfl rfl ?_
  refine g_callI (mc1 := 6) (ms1 := 190) (b := (a + 10)) (rest := [.ref (a + 10), .int (1), .ref (a + 1)]) (av := []) kX3_init 41 dX0_init_38 rfl rfl mbX0_21 imX3_init rfl rfl (Nat.le_of_ble_eq_true rfl) (Nat.le_of_ble_eq_true rfl) (Nat.le_of_ble_eq_true rfl) (iX3_init h10 hn ?_)
  intro M11 hf hn2 hg
  show Go X _ _ _ kX0_init Q 41 [(1, .int (1)), (0, .ref a)] [.ref (a + 10), .int (1), .ref (a + 1)] M11 16 426
  have h2 := Ar.bl (Bl.fr hf (by omega)) h2
  have h3 := G3.bl (Bl.fr hf (by omega)) h3
  have w1 := w1.bl (Bl.fr hf (by omega))
  have k1 := (Bl.fr (lo := a + 1) (hi := a + 2) hf (by omega)).k (by omega) (by omega) k1
  have ho := ho.bl (Bl.fr hf (by omega))
  have hk := (Bl.fr (lo := a) (hi := a + 1) hf (by omega)).k (by omega) (by omega) hk
  have hF := hF.tr hf (by omega)
  have hn : g_nx M11 = a + 17 := hn2
  have h10 := hg
  refine g_aastore (t := 4) 42 dX0_init_41 rfl k1 (by decide) rfl h10.1 gcl3.1 (vp_lit rfl) ?_
  rw [show (1 : Int32).toNatClampNeg = 1 from rfl]
  have h2 := Ar.bl (Bl.wr (c := a + 1) (i := 1) (v := some (a + 10)) (by omega)) h2
  have h3 := G3.bl (Bl.wr (c := a + 1) (i := 1) (v := some (a + 10)) (by omega)) h3
  have h10 := G3.bl (Bl.wr (c := a + 1) (i := 1) (v := some (a + 10)) (by omega)) h10
  have w1 := w1.wr (i := 1) (v := some (a + 10))
  have ho := ho.bl (Bl.wr (c := a + 1) (i := 1) (v := some (a + 10)) (by omega))
  have hF := hF.wr (c := a + 1) (i := 1) (v := some (a + 10)) (by omega)
  have hk := kwr (c := a + 1) (i := 1) (v := some (a + 10)) hk
  have k1 := kwr (c := a + 1) (i := 1) (v := some (a + 10)) k1
  have hn := nwr (c := a + 1) (i := 1) (v := some (a + 10)) hn
  refine g_iinc (2) 0 45 [(1, .int (2)), (0, .ref a)] dX0_init_42 rfl rfl rfl (Nat.le_of_ble_eq_true rfl) rfl ?_
  refine g_goto 23 dX0_init_45 rfl ?_
  refine g_iload_n 0 24 dX0_init_23 rfl rfl ?_
  refine g_bipush (17) 26 dX0_init_24 rfl rfl ?_
  refine g_icmp_ge 48 29 dX0_init_26 rfl rfl (fun q => absurd q (by decide)) (fun _ => ?_)
  refine g_aload_n 1 30 dX0_init_29 rfl rfl ?_
  refine g_getR 33 (a + 1) dX0_init_30 rfl flX0_13 hk (ho.1 0) ?_
  refine g_iload_n 0 34 dX0_init_33 rfl rfl ?_
  refine i_newo 37 (a + 17) dX0_init_34 rfl gcl3 q1_148 q1_33 q1_3 (Nat.le_of_ble_eq_true rfl) (Nat.le_of_ble_eq_true rfl) hn ?_
  have h2 := Ar.bl (Bl.new (c := 3) (z := 6) hn (by omega)) h2
  have h3 := G3.bl (Bl.new (c := 3) (z := 6) hn (by omega)) h3
  have h10 := G3.bl (Bl.new (c := 3) (z := 6) hn (by omega)) h10
  have w1 := w1.bl (Bl.new (c := 3) (z := 6) hn (by omega))
  have k1 := kn (c := 3) (z := 6) k1 hn (by omega)
  have ho := ho.bl (Bl.new (c := 3) (z := 6) hn (by omega))
  have hk := kn (c := 3) (z := 6) hk hn (by omega)
  have hF := hF.new (c := 3) (z := 6) hn (by omega)
  have h17 := Ar.mk (c := 3) (z := 6) hn
  have hn : g_nx _ = a + 18 := nn (c := 3) (z := 6) hn
  refine g_dup 38 dX0_init_37 rfl rfl ?_
  refine g_callI (mc1 := 6) (ms1 := 190) (b := (a + 17)) (rest := [.ref (a + 17), .int (2), .ref (a + 1)]) (av := []) kX3_init 41 dX0_init_38 rfl rfl mbX0_21 imX3_init rfl rfl (Nat.le_of_ble_eq_true rfl) (Nat.le_of_ble_eq_true rfl) (Nat.le_of_ble_eq_true rfl) (iX3_init h17 hn ?_)
  intro M18 hf hn2 hg
  show Go X _ _ _ kX0_init Q 41 [(1, .int (2)), (0, .ref a)] [.ref (a + 17), .int (2), .ref (a + 1)] M18 23 622
  have h2 := Ar.bl (Bl.fr hf (by omega)) h2
  have h3 := G3.bl (Bl.fr hf (by omega)) h3
  have h10 := G3.bl (Bl.fr hf (by omega)) h10
  have w1 := w1.bl (Bl.fr hf (by omega))
  have k1 := (Bl.fr (lo := a + 1) (hi := a + 2) hf (by omega)).k (by omega) (by omega) k1
  have ho := ho.bl (Bl.fr hf (by omega))
  have hk := (Bl.fr (lo := a) (hi := a + 1) hf (by omega)).k (by omega) (by omega) hk
  have hF := hF.tr hf (by omega)
  have hn : g_nx M18 = a + 24 := hn2
  have h17 := hg
  refine g_aastore (t := 4) 42 dX0_init_41 rfl k1 (by decide) rfl h17.1 gcl3.1 (vp_lit rfl) ?_
  rw [show (2 : Int32).toNatClampNeg = 2 from rfl]
  have h2 := Ar.bl (Bl.wr (c := a + 1) (i := 2) (v := some (a + 17)) (by omega)) h2
  have h3 := G3.bl (Bl.wr (c := a + 1) (i := 2) (v := some (a + 17)) (by omega)) h3
  have h10 := G3.bl (Bl.wr (c := a + 1) (i := 2) (v := some (a + 17)) (by omega)) h10
  have h17 := G3.bl (Bl.wr (c := a + 1) (i := 2) (v := some (a + 17)) (by omega)) h17
  have w1 := w1.wr (i := 2) (v := some (a + 17))
  have ho := ho.bl (Bl.wr (c := a + 1) (i := 2) (v := some (a + 17)) (by omega))
  have hF := hF.wr (c := a + 1) (i := 2) (v := some (a + 17)) (by omega)
  have hk := kwr (c := a + 1) (i := 2) (v := some (a + 17)) hk
  have k1 := kwr (c := a + 1) (i := 2) (v := some (a + 17)) k1
  have hn := nwr (c := a + 1) (i := 2) (v := some (a + 17)) hn
  refine g_iinc (3) 0 45 [(1, .int (3)), (0, .ref a)] dX0_init_42 rfl rfl rfl (Nat.le_of_ble_eq_true rfl) rfl ?_
  refine g_goto 23 dX0_init_45 rfl ?_
  refine g_iload_n 0 24 dX0_init_23 rfl rfl ?_
  refine g_bipush (17) 26 dX0_init_24 rfl rfl ?_
  refine g_icmp_ge 48 29 dX0_init_26 rfl rfl (fun q => absurd q (by decide)) (fun _ => ?_)
  refine g_aload_n 1 30 dX0_init_29 rfl rfl ?_
  refine g_getR 33 (a + 1) dX0_init_30 rfl flX0_13 hk (ho.1 0) ?_
  refine g_iload_n 0 34 dX0_init_33 rfl rfl ?_
  refine i_newo 37 (a + 24) dX0_init_34 rfl gcl3 q1_148 q1_33 q1_3 (Nat.le_of_ble_eq_true rfl) (Nat.le_of_ble_eq_true rfl) hn ?_
  have h2 := Ar.bl (Bl.new (c := 3) (z := 6) hn (by omega)) h2
  have h3 := G3.bl (Bl.new (c := 3) (z := 6) hn (by omega)) h3
  have h10 := G3.bl (Bl.new (c := 3) (z := 6) hn (by omega)) h10
  have h17 := G3.bl (Bl.new (c := 3) (z := 6) hn (by omega)) h17
  have w1 := w1.bl (Bl.new (c := 3) (z := 6) hn (by omega))
  have k1 := kn (c := 3) (z := 6) k1 hn (by omega)
  have ho := ho.bl (Bl.new (c := 3) (z := 6) hn (by omega))
  have hk := kn (c := 3) (z := 6) hk hn (by omega)
  have hF := hF.new (c := 3) (z := 6) hn (by omega)
  have h24 := Ar.mk (c := 3) (z := 6) hn
  have hn : g_nx _ = a + 25 := nn (c := 3) (z := 6) hn
  refine g_dup 38 dX0_init_37 rfl rfl ?_
  refine g_callI (mc1 := 6) (ms1 := 190) (b := (a + 24)) (rest := [.ref (a + 24), .int (3), .ref (a + 1)]) (av := []) kX3_init 41 dX0_init_38 rfl rfl mbX0_21 imX3_init rfl rfl (Nat.le_of_ble_eq_true rfl) (Nat.le_of_ble_eq_true rfl) (Nat.le_of_ble_eq_true rfl) (iX3_init h24 hn ?_)
  intro M25 hf hn2 hg
  show Go X _ _ _ kX0_init Q 41 [(1, .int (3)), (0, .ref a)] [.ref (a + 24), .int (3), .ref (a + 1)] M25 30 818
  have h2 := Ar.bl (Bl.fr hf (by omega)) h2
  have h3 := G3.bl (Bl.fr hf (by omega)) h3
  have h10 := G3.bl (Bl.fr hf (by omega)) h10
  have h17 := G3.bl (Bl.fr hf (by omega)) h17
  have w1 := w1.bl (Bl.fr hf (by omega))
  have k1 := (Bl.fr (lo := a + 1) (hi := a + 2) hf (by omega)).k (by omega) (by omega) k1
  have ho := ho.bl (Bl.fr hf (by omega))
  have hk := (Bl.fr (lo := a) (hi := a + 1) hf (by omega)).k (by omega) (by omega) hk
  have hF := hF.tr hf (by omega)
  have hn : g_nx M25 = a + 31 := hn2
  have h24 := hg
  refine g_aastore (t := 4) 42 dX0_init_41 rfl k1 (by decide) rfl h24.1 gcl3.1 (vp_lit rfl) ?_
  rw [show (3 : Int32).toNatClampNeg = 3 from rfl]
  have h2 := Ar.bl (Bl.wr (c := a + 1) (i := 3) (v := some (a + 24)) (by omega)) h2
  have h3 := G3.bl (Bl.wr (c := a + 1) (i := 3) (v := some (a + 24)) (by omega)) h3
  have h10 := G3.bl (Bl.wr (c := a + 1) (i := 3) (v := some (a + 24)) (by omega)) h10
  have h17 := G3.bl (Bl.wr (c := a + 1) (i := 3) (v := some (a + 24)) (by omega)) h17
  have h24 := G3.bl (Bl.wr (c := a + 1) (i := 3) (v := some (a + 24)) (by omega)) h24
  have w1 := w1.wr (i := 3) (v := some (a + 24))
  have ho := ho.bl (Bl.wr (c := a + 1) (i := 3) (v := some (a + 24)) (by omega))
  have hF := hF.wr (c := a + 1) (i := 3) (v := some (a + 24)) (by omega)
  have hk := kwr (c := a + 1) (i := 3) (v := some (a + 24)) hk
  have k1 := kwr (c := a + 1) (i := 3) (v := some (a + 24)) k1
  have hn := nwr (c := a + 1) (i := 3) (v := some (a + 24)) hn
  refine g_iinc (4) 0 45 [(1, .int (4)), (0, .ref a)] dX0_init_42 rfl rfl rfl (Nat.le_of_ble_eq_true rfl) rfl ?_
  refine g_goto 23 dX0_init_45 rfl ?_
  refine g_iload_n 0 24 dX0_init_23 rfl rfl ?_
  refine g_bipush (17) 26 dX0_init_24 rfl rfl ?_
  refine g_icmp_ge 48 29 dX0_init_26 rfl rfl (fun q => absurd q (by decide)) (fun _ => ?_)
  refine g_aload_n 1 30 dX0_init_29 rfl rfl ?_
  refine g_getR 33 (a + 1) dX0_init_30 rfl flX0_13 hk (ho.1 0) ?_
  refine g_iload_n 0 34 dX0_init_33 rfl rfl ?_
  refine i_newo 37 (a + 31) dX0_init_34 rfl gcl3 q1_148 q1_33 q1_3 (Nat.le_of_ble_eq_true rfl) (Nat.le_of_ble_eq_true rfl) hn ?_
  have h2 := Ar.bl (Bl.new (c := 3) (z := 6) hn (by omega)) h2
  have h3 := G3.bl (Bl.new (c := 3) (z := 6) hn (by omega)) h3
  have h10 := G3.bl (Bl.new (c := 3) (z := 6) hn (by omega)) h10
  have h17 := G3.bl (Bl.new (c := 3) (z := 6) hn (by omega)) h17
  have h24 := G3.bl (Bl.new (c := 3) (z := 6) hn (by omega)) h24
  have w1 := w1.bl (Bl.new (c := 3) (z := 6) hn (by omega))
  have k1 := kn (c := 3) (z := 6) k1 hn (by omega)
  have ho := ho.bl (Bl.new (c := 3) (z := 6) hn (by omega))
  have hk := kn (c := 3) (z := 6) hk hn (by omega)
  have hF := hF.new (c := 3) (z := 6) hn (by omega)
  have h31 := Ar.mk (c := 3) (z := 6) hn
  have hn : g_nx _ = a + 32 := nn (c := 3) (z := 6) hn
  refine g_dup 38 dX0_init_37 rfl rfl ?_
  refine g_callI (mc1 := 6) (ms1 := 190) (b := (a + 31)) (rest := [.ref (a + 31), .int (4), .ref (a + 1)]) (av := []) kX3_init 41 dX0_init_38 rfl rfl mbX0_21 imX3_init rfl rfl (Nat.le_of_ble_eq_true rfl) (Nat.le_of_ble_eq_true rfl) (Nat.le_of_ble_eq_true rfl) (iX3_init h31 hn ?_)
  intro M32 hf hn2 hg
  show Go X _ _ _ kX0_init Q 41 [(1, .int (4)), (0, .ref a)] [.ref (a + 31), .int (4), .ref (a + 1)] M32 37 1014
  have h2 := Ar.bl (Bl.fr hf (by omega)) h2
  have h3 := G3.bl (Bl.fr hf (by omega)) h3
  have h10 := G3.bl (Bl.fr hf (by omega)) h10
  have h17 := G3.bl (Bl.fr hf (by omega)) h17
  have h24 := G3.bl (Bl.fr hf (by omega)) h24
  have w1 := w1.bl (Bl.fr hf (by omega))
  have k1 := (Bl.fr (lo := a + 1) (hi := a + 2) hf (by omega)).k (by omega) (by omega) k1
  have ho := ho.bl (Bl.fr hf (by omega))
  have hk := (Bl.fr (lo := a) (hi := a + 1) hf (by omega)).k (by omega) (by omega) hk
  have hF := hF.tr hf (by omega)
  have hn : g_nx M32 = a + 38 := hn2
  have h31 := hg
  refine g_aastore (t := 4) 42 dX0_init_41 rfl k1 (by decide) rfl h31.1 gcl3.1 (vp_lit rfl) ?_
  rw [show (4 : Int32).toNatClampNeg = 4 from rfl]
  have h2 := Ar.bl (Bl.wr (c := a + 1) (i := 4) (v := some (a + 31)) (by omega)) h2
  have h3 := G3.bl (Bl.wr (c := a + 1) (i := 4) (v := some (a + 31)) (by omega)) h3
  have h10 := G3.bl (Bl.wr (c := a + 1) (i := 4) (v := some (a + 31)) (by omega)) h10
  have h17 := G3.bl (Bl.wr (c := a + 1) (i := 4) (v := some (a + 31)) (by omega)) h17
  have h24 := G3.bl (Bl.wr (c := a + 1) (i := 4) (v := some (a + 31)) (by omega)) h24
  have h31 := G3.bl (Bl.wr (c := a + 1) (i := 4) (v := some (a + 31)) (by omega)) h31
  have w1 := w1.wr (i := 4) (v := some (a + 31))
  have ho := ho.bl (Bl.wr (c := a + 1) (i := 4) (v := some (a + 31)) (by omega))
  have hF := hF.wr (c := a + 1) (i := 4) (v := some (a + 31)) (by omega)
  have hk := kwr (c := a + 1) (i := 4) (v := some (a + 31)) hk
  have k1 := kwr (c := a + 1) (i := 4) (v := some (a + 31)) k1
  have hn := nwr (c := a + 1) (i := 4) (v := some (a + 31)) hn
  refine g_iinc (5) 0 45 [(1, .int (5)), (0, .ref a)] dX0_init_42 rfl rfl rfl (Nat.le_of_ble_eq_true rfl) rfl ?_
  refine g_goto 23 dX0_init_45 rfl ?_
  refine g_iload_n 0 24 dX0_init_23 rfl rfl ?_
  refine g_bipush (17) 26 dX0_init_24 rfl rfl ?_
  refine g_icmp_ge 48 29 dX0_init_26 rfl rfl (fun q => absurd q (by decide)) (fun _ => ?_)
  refine g_aload_n 1 30 dX0_init_29 rfl rfl ?_
  refine g_getR 33 (a + 1) dX0_init_30 rfl flX0_13 hk (ho.1 0) ?_
  refine g_iload_n 0 34 dX0_init_33 rfl rfl ?_
  refine i_newo 37 (a + 38) dX0_init_34 rfl gcl3 q1_148 q1_33 q1_3 (Nat.le_of_ble_eq_true rfl) (Nat.le_of_ble_eq_true rfl) hn ?_
  have h2 := Ar.bl (Bl.new (c := 3) (z := 6) hn (by omega)) h2
  have h3 := G3.bl (Bl.new (c := 3) (z := 6) hn (by omega)) h3
  have h10 := G3.bl (Bl.new (c := 3) (z := 6) hn (by omega)) h10
  have h17 := G3.bl (Bl.new (c := 3) (z := 6) hn (by omega)) h17
  have h24 := G3.bl (Bl.new (c := 3) (z := 6) hn (by omega)) h24
  have h31 := G3.bl (Bl.new (c := 3) (z := 6) hn (by omega)) h31
  have w1 := w1.bl (Bl.new (c := 3) (z := 6) hn (by omega))
  have k1 := kn (c := 3) (z := 6) k1 hn (by omega)
  have ho := ho.bl (Bl.new (c := 3) (z := 6) hn (by omega))
  have hk := kn (c := 3) (z := 6) hk hn (by omega)
  have hF := hF.new (c := 3) (z := 6) hn (by omega)
  have h38 := Ar.mk (c := 3) (z := 6) hn
  have hn : g_nx _ = a + 39 := nn (c := 3) (z := 6) hn
  refine g_dup 38 dX0_init_37 rfl rfl ?_
  refine g_callI (mc1 := 6) (ms1 := 190) (b := (a + 38)) (rest := [.ref (a + 38), .int (5), .ref (a + 1)]) (av := []) kX3_init 41 dX0_init_38 rfl rfl mbX0_21 imX3_init rfl rfl (Nat.le_of_ble_eq_true rfl) (Nat.le_of_ble_eq_true rfl) (Nat.le_of_ble_eq_true rfl) (iX3_init h38 hn ?_)
  intro M39 hf hn2 hg
  show Go X _ _ _ kX0_init Q 41 [(1, .int (5)), (0, .ref a)] [.ref (a + 38), .int (5), .ref (a + 1)] M39 44 1210
  have h2 := Ar.bl (Bl.fr hf (by omega)) h2
  have h3 := G3.bl (Bl.fr hf (by omega)) h3
  have h10 := G3.bl (Bl.fr hf (by omega)) h10
  have h17 := G3.bl (Bl.fr hf (by omega)) h17
  have h24 := G3.bl (Bl.fr hf (by omega)) h24
  have h31 := G3.bl (Bl.fr hf (by omega)) h31
  have w1 := w1.bl (Bl.fr hf (by omega))
  have k1 := (Bl.fr (lo := a + 1) (hi := a + 2) hf (by omega)).k (by omega) (by omega) k1
  have ho := ho.bl (Bl.fr hf (by omega))
  have hk := (Bl.fr (lo := a) (hi := a + 1) hf (by omega)).k (by omega) (by omega) hk
  have hF := hF.tr hf (by omega)
  have hn : g_nx M39 = a + 45 := hn2
  have h38 := hg
  refine g_aastore (t := 4) 42 dX0_init_41 rfl k1 (by decide) rfl h38.1 gcl3.1 (vp_lit rfl) ?_
  rw [show (5 : Int32).toNatClampNeg = 5 from rfl]
  have h2 := Ar.bl (Bl.wr (c := a + 1) (i := 5) (v := some (a + 38)) (by omega)) h2
  have h3 := G3.bl (Bl.wr (c := a + 1) (i := 5) (v := some (a + 38)) (by omega)) h3
  have h10 := G3.bl (Bl.wr (c := a + 1) (i := 5) (v := some (a + 38)) (by omega)) h10
  have h17 := G3.bl (Bl.wr (c := a + 1) (i := 5) (v := some (a + 38)) (by omega)) h17
  have h24 := G3.bl (Bl.wr (c := a + 1) (i := 5) (v := some (a + 38)) (by omega)) h24
  have h31 := G3.bl (Bl.wr (c := a + 1) (i := 5) (v := some (a + 38)) (by omega)) h31
  have h38 := G3.bl (Bl.wr (c := a + 1) (i := 5) (v := some (a + 38)) (by omega)) h38
  have w1 := w1.wr (i := 5) (v := some (a + 38))
  have ho := ho.bl (Bl.wr (c := a + 1) (i := 5) (v := some (a + 38)) (by omega))
  have hF := hF.wr (c := a + 1) (i := 5) (v := some (a + 38)) (by omega)
  have hk := kwr (c := a + 1) (i := 5) (v := some (a + 38)) hk
  have k1 := kwr (c := a + 1) (i := 5) (v := some (a + 38)) k1
  have hn := nwr (c := a + 1) (i := 5) (v := some (a + 38)) hn
  refine g_iinc (6) 0 45 [(1, .int (6)), (0, .ref a)] dX0_init_42 rfl rfl rfl (Nat.le_of_ble_eq_true rfl) rfl ?_
  refine g_goto 23 dX0_init_45 rfl ?_
  refine g_iload_n 0 24 dX0_init_23 rfl rfl ?_
  refine g_bipush (17) 26 dX0_init_24 rfl rfl ?_
  refine g_icmp_ge 48 29 dX0_init_26 rfl rfl (fun q => absurd q (by decide)) (fun _ => ?_)
  refine g_aload_n 1 30 dX0_init_29 rfl rfl ?_
  refine g_getR 33 (a + 1) dX0_init_30 rfl flX0_13 hk (ho.1 0) ?_
  refine g_iload_n 0 34 dX0_init_33 rfl rfl ?_
  refine i_newo 37 (a + 45) dX0_init_34 rfl gcl3 q1_148 q1_33 q1_3 (Nat.le_of_ble_eq_true rfl) (Nat.le_of_ble_eq_true rfl) hn ?_
  have h2 := Ar.bl (Bl.new (c := 3) (z := 6) hn (by omega)) h2
  have h3 := G3.bl (Bl.new (c := 3) (z := 6) hn (by omega)) h3
  have h10 := G3.bl (Bl.new (c := 3) (z := 6) hn (by omega)) h10
  have h17 := G3.bl (Bl.new (c := 3) (z := 6) hn (by omega)) h17
  have h24 := G3.bl (Bl.new (c := 3) (z := 6) hn (by omega)) h24
  have h31 := G3.bl (Bl.new (c := 3) (z := 6) hn (by omega)) h31
  have h38 := G3.bl (Bl.new (c := 3) (z := 6) hn (by omega)) h38
  have w1 := w1.bl (Bl.new (c := 3) (z := 6) hn (by omega))
  have k1 := kn (c := 3) (z := 6) k1 hn (by omega)
  have ho := ho.bl (Bl.new (c := 3) (z := 6) hn (by omega))
  have hk := kn (c := 3) (z := 6) hk hn (by omega)
  have hF := hF.new (c := 3) (z := 6) hn (by omega)
  have h45 := Ar.mk (c := 3) (z := 6) hn
  have hn : g_nx _ = a + 46 := nn (c := 3) (z := 6) hn
  refine g_dup 38 dX0_init_37 rfl rfl ?_
  refine g_callI (mc1 := 6) (ms1 := 190) (b := (a + 45)) (rest := [.ref (a + 45), .int (6), .ref (a + 1)]) (av := []) kX3_init 41 dX0_init_38 rfl rfl mbX0_21 imX3_init rfl rfl (Nat.le_of_ble_eq_true rfl) (Nat.le_of_ble_eq_true rfl) (Nat.le_of_ble_eq_true rfl) (iX3_init h45 hn ?_)
  intro M46 hf hn2 hg
  show Go X _ _ _ kX0_init Q 41 [(1, .int (6)), (0, .ref a)] [.ref (a + 45), .int (6), .ref (a + 1)] M46 51 1406
  have h2 := Ar.bl (Bl.fr hf (by omega)) h2
  have h3 := G3.bl (Bl.fr hf (by omega)) h3
  have h10 := G3.bl (Bl.fr hf (by omega)) h10
  have h17 := G3.bl (Bl.fr hf (by omega)) h17
  have h24 := G3.bl (Bl.fr hf (by omega)) h24
  have h31 := G3.bl (Bl.fr hf (by omega)) h31
  have h38 := G3.bl (Bl.fr hf (by omega)) h38
  have w1 := w1.bl (Bl.fr hf (by omega))
  have k1 := (Bl.fr (lo := a + 1) (hi := a + 2) hf (by omega)).k (by omega) (by omega) k1
  have ho := ho.bl (Bl.fr hf (by omega))
  have hk := (Bl.fr (lo := a) (hi := a + 1) hf (by omega)).k (by omega) (by omega) hk
  have hF := hF.tr hf (by omega)
  have hn : g_nx M46 = a + 52 := hn2
  have h45 := hg
  refine g_aastore (t := 4) 42 dX0_init_41 rfl k1 (by decide) rfl h45.1 gcl3.1 (vp_lit rfl) ?_
  rw [show (6 : Int32).toNatClampNeg = 6 from rfl]
  have h2 := Ar.bl (Bl.wr (c := a + 1) (i := 6) (v := some (a + 45)) (by omega)) h2
  have h3 := G3.bl (Bl.wr (c := a + 1) (i := 6) (v := some (a + 45)) (by omega)) h3
  have h10 := G3.bl (Bl.wr (c := a + 1) (i := 6) (v := some (a + 45)) (by omega)) h10
  have h17 := G3.bl (Bl.wr (c := a + 1) (i := 6) (v := some (a + 45)) (by omega)) h17
  have h24 := G3.bl (Bl.wr (c := a + 1) (i := 6) (v := some (a + 45)) (by omega)) h24
  have h31 := G3.bl (Bl.wr (c := a + 1) (i := 6) (v := some (a + 45)) (by omega)) h31
  have h38 := G3.bl (Bl.wr (c := a + 1) (i := 6) (v := some (a + 45)) (by omega)) h38
  have h45 := G3.bl (Bl.wr (c := a + 1) (i := 6) (v := some (a + 45)) (by omega)) h45
  have w1 := w1.wr (i := 6) (v := some (a + 45))
  have ho := ho.bl (Bl.wr (c := a + 1) (i := 6) (v := some (a + 45)) (by omega))
  have hF := hF.wr (c := a + 1) (i := 6) (v := some (a + 45)) (by omega)
  have hk := kwr (c := a + 1) (i := 6) (v := some (a + 45)) hk
  have k1 := kwr (c := a + 1) (i := 6) (v := some (a + 45)) k1
  have hn := nwr (c := a + 1) (i := 6) (v := some (a + 45)) hn
  refine g_iinc (7) 0 45 [(1, .int (7)), (0, .ref a)] dX0_init_42 rfl rfl rfl (Nat.le_of_ble_eq_true rfl) rfl ?_
  refine g_goto 23 dX0_init_45 rfl ?_
  refine g_iload_n 0 24 dX0_init_23 rfl rfl ?_
  refine g_bipush (17) 26 dX0_init_24 rfl rfl ?_
  refine g_icmp_ge 48 29 dX0_init_26 rfl rfl (fun q => absurd q (by decide)) (fun _ => ?_)
  refine g_aload_n 1 30 dX0_init_29 rfl rfl ?_
  refine g_getR 33 (a + 1) dX0_init_30 rfl flX0_13 hk (ho.1 0) ?_
  refine g_iload_n 0 34 dX0_init_33 rfl rfl ?_
  refine i_newo 37 (a + 52) dX0_init_34 rfl gcl3 q1_148 q1_33 q1_3 (Nat.le_of_ble_eq_true rfl) (Nat.le_of_ble_eq_true rfl) hn ?_
  have h2 := Ar.bl (Bl.new (c := 3) (z := 6) hn (by omega)) h2
  have h3 := G3.bl (Bl.new (c := 3) (z := 6) hn (by omega)) h3
  have h10 := G3.bl (Bl.new (c := 3) (z := 6) hn (by omega)) h10
  have h17 := G3.bl (Bl.new (c := 3) (z := 6) hn (by omega)) h17
  have h24 := G3.bl (Bl.new (c := 3) (z := 6) hn (by omega)) h24
  have h31 := G3.bl (Bl.new (c := 3) (z := 6) hn (by omega)) h31
  have h38 := G3.bl (Bl.new (c := 3) (z := 6) hn (by omega)) h38
  have h45 := G3.bl (Bl.new (c := 3) (z := 6) hn (by omega)) h45
  have w1 := w1.bl (Bl.new (c := 3) (z := 6) hn (by omega))
  have k1 := kn (c := 3) (z := 6) k1 hn (by omega)
  have ho := ho.bl (Bl.new (c := 3) (z := 6) hn (by omega))
  have hk := kn (c := 3) (z := 6) hk hn (by omega)
  have hF := hF.new (c := 3) (z := 6) hn (by omega)
  have h52 := Ar.mk (c := 3) (z := 6) hn
  have hn : g_nx _ = a + 53 := nn (c := 3) (z := 6) hn
  refine g_dup 38 dX0_init_37 rfl rfl ?_
  refine g_callI (mc1 := 6) (ms1 := 190) (b := (a + 52)) (rest := [.ref (a + 52), .int (7), .ref (a + 1)]) (av := []) kX3_init 41 dX0_init_38 rfl rfl mbX0_21 imX3_init rfl rfl (Nat.le_of_ble_eq_true rfl) (Nat.le_of_ble_eq_true rfl) (Nat.le_of_ble_eq_true rfl) (iX3_init h52 hn ?_)
  intro M53 hf hn2 hg
  show Go X _ _ _ kX0_init Q 41 [(1, .int (7)), (0, .ref a)] [.ref (a + 52), .int (7), .ref (a + 1)] M53 58 1602
  have h2 := Ar.bl (Bl.fr hf (by omega)) h2
  have h3 := G3.bl (Bl.fr hf (by omega)) h3
  have h10 := G3.bl (Bl.fr hf (by omega)) h10
  have h17 := G3.bl (Bl.fr hf (by omega)) h17
  have h24 := G3.bl (Bl.fr hf (by omega)) h24
  have h31 := G3.bl (Bl.fr hf (by omega)) h31
  have h38 := G3.bl (Bl.fr hf (by omega)) h38
  have h45 := G3.bl (Bl.fr hf (by omega)) h45
  have w1 := w1.bl (Bl.fr hf (by omega))
  have k1 := (Bl.fr (lo := a + 1) (hi := a + 2) hf (by omega)).k (by omega) (by omega) k1
  have ho := ho.bl (Bl.fr hf (by omega))
  have hk := (Bl.fr (lo := a) (hi := a + 1) hf (by omega)).k (by omega) (by omega) hk
  have hF := hF.tr hf (by omega)
  have hn : g_nx M53 = a + 59 := hn2
  have h52 := hg
  refine g_aastore (t := 4) 42 dX0_init_41 rfl k1 (by decide) rfl h52.1 gcl3.1 (vp_lit rfl) ?_
  rw [show (7 : Int32).toNatClampNeg = 7 from rfl]
  have h2 := Ar.bl (Bl.wr (c := a + 1) (i := 7) (v := some (a + 52)) (by omega)) h2
  have h3 := G3.bl (Bl.wr (c := a + 1) (i := 7) (v := some (a + 52)) (by omega)) h3
  have h10 := G3.bl (Bl.wr (c := a + 1) (i := 7) (v := some (a + 52)) (by omega)) h10
  have h17 := G3.bl (Bl.wr (c := a + 1) (i := 7) (v := some (a + 52)) (by omega)) h17
  have h24 := G3.bl (Bl.wr (c := a + 1) (i := 7) (v := some (a + 52)) (by omega)) h24
  have h31 := G3.bl (Bl.wr (c := a + 1) (i := 7) (v := some (a + 52)) (by omega)) h31
  have h38 := G3.bl (Bl.wr (c := a + 1) (i := 7) (v := some (a + 52)) (by omega)) h38
  have h45 := G3.bl (Bl.wr (c := a + 1) (i := 7) (v := some (a + 52)) (by omega)) h45
  have h52 := G3.bl (Bl.wr (c := a + 1) (i := 7) (v := some (a + 52)) (by omega)) h52
  have w1 := w1.wr (i := 7) (v := some (a + 52))
  have ho := ho.bl (Bl.wr (c := a + 1) (i := 7) (v := some (a + 52)) (by omega))
  have hF := hF.wr (c := a + 1) (i := 7) (v := some (a + 52)) (by omega)
  have hk := kwr (c := a + 1) (i := 7) (v := some (a + 52)) hk
  have k1 := kwr (c := a + 1) (i := 7) (v := some (a + 52)) k1
  have hn := nwr (c := a + 1) (i := 7) (v := some (a + 52)) hn
  refine g_iinc (8) 0 45 [(1, .int (8)), (0, .ref a)] dX0_init_42 rfl rfl rfl (Nat.le_of_ble_eq_true rfl) rfl ?_
  refine g_goto 23 dX0_init_45 rfl ?_
  refine g_iload_n 0 24 dX0_init_23 rfl rfl ?_
  refine g_bipush (17) 26 dX0_init_24 rfl rfl ?_
  refine g_icmp_ge 48 29 dX0_init_26 rfl rfl (fun q => absurd q (by decide)) (fun _ => ?_)
  refine g_aload_n 1 30 dX0_init_29 rfl rfl ?_
  refine g_getR 33 (a + 1) dX0_init_30 rfl flX0_13 hk (ho.1 0) ?_
  refine g_iload_n 0 34 dX0_init_33 rfl rfl ?_
  refine i_newo 37 (a + 59) dX0_init_34 rfl gcl3 q1_148 q1_33 q1_3 (Nat.le_of_ble_eq_true rfl) (Nat.le_of_ble_eq_true rfl) hn ?_
  have h2 := Ar.bl (Bl.new (c := 3) (z := 6) hn (by omega)) h2
  have h3 := G3.bl (Bl.new (c := 3) (z := 6) hn (by omega)) h3
  have h10 := G3.bl (Bl.new (c := 3) (z := 6) hn (by omega)) h10
  have h17 := G3.bl (Bl.new (c := 3) (z := 6) hn (by omega)) h17
  have h24 := G3.bl (Bl.new (c := 3) (z := 6) hn (by omega)) h24
  have h31 := G3.bl (Bl.new (c := 3) (z := 6) hn (by omega)) h31
  have h38 := G3.bl (Bl.new (c := 3) (z := 6) hn (by omega)) h38
  have h45 := G3.bl (Bl.new (c := 3) (z := 6) hn (by omega)) h45
  have h52 := G3.bl (Bl.new (c := 3) (z := 6) hn (by omega)) h52
  have w1 := w1.bl (Bl.new (c := 3) (z := 6) hn (by omega))
  have k1 := kn (c := 3) (z := 6) k1 hn (by omega)
  have ho := ho.bl (Bl.new (c := 3) (z := 6) hn (by omega))
  have hk := kn (c := 3) (z := 6) hk hn (by omega)
  have hF := hF.new (c := 3) (z := 6) hn (by omega)
  have h59 := Ar.mk (c := 3) (z := 6) hn
  have hn : g_nx _ = a + 60 := nn (c := 3) (z := 6) hn
  refine g_dup 38 dX0_init_37 rfl rfl ?_
  refine g_callI (mc1 := 6) (ms1 := 190) (b := (a + 59)) (rest := [.ref (a + 59), .int (8), .ref (a + 1)]) (av := []) kX3_init 41 dX0_init_38 rfl rfl mbX0_21 imX3_init rfl rfl (Nat.le_of_ble_eq_true rfl) (Nat.le_of_ble_eq_true rfl) (Nat.le_of_ble_eq_true rfl) (iX3_init h59 hn ?_)
  intro M60 hf hn2 hg
  show Go X _ _ _ kX0_init Q 41 [(1, .int (8)), (0, .ref a)] [.ref (a + 59), .int (8), .ref (a + 1)] M60 65 1798
  have h2 := Ar.bl (Bl.fr hf (by omega)) h2
  have h3 := G3.bl (Bl.fr hf (by omega)) h3
  have h10 := G3.bl (Bl.fr hf (by omega)) h10
  have h17 := G3.bl (Bl.fr hf (by omega)) h17
  have h24 := G3.bl (Bl.fr hf (by omega)) h24
  have h31 := G3.bl (Bl.fr hf (by omega)) h31
  have h38 := G3.bl (Bl.fr hf (by omega)) h38
  have h45 := G3.bl (Bl.fr hf (by omega)) h45
  have h52 := G3.bl (Bl.fr hf (by omega)) h52
  have w1 := w1.bl (Bl.fr hf (by omega))
  have k1 := (Bl.fr (lo := a + 1) (hi := a + 2) hf (by omega)).k (by omega) (by omega) k1
  have ho := ho.bl (Bl.fr hf (by omega))
  have hk := (Bl.fr (lo := a) (hi := a + 1) hf (by omega)).k (by omega) (by omega) hk
  have hF := hF.tr hf (by omega)
  have hn : g_nx M60 = a + 66 := hn2
  have h59 := hg
  refine g_aastore (t := 4) 42 dX0_init_41 rfl k1 (by decide) rfl h59.1 gcl3.1 (vp_lit rfl) ?_
  rw [show (8 : Int32).toNatClampNeg = 8 from rfl]
  have h2 := Ar.bl (Bl.wr (c := a + 1) (i := 8) (v := some (a + 59)) (by omega)) h2
  have h3 := G3.bl (Bl.wr (c := a + 1) (i := 8) (v := some (a + 59)) (by omega)) h3
  have h10 := G3.bl (Bl.wr (c := a + 1) (i := 8) (v := some (a + 59)) (by omega)) h10
  have h17 := G3.bl (Bl.wr (c := a + 1) (i := 8) (v := some (a + 59)) (by omega)) h17
  have h24 := G3.bl (Bl.wr (c := a + 1) (i := 8) (v := some (a + 59)) (by omega)) h24
  have h31 := G3.bl (Bl.wr (c := a + 1) (i := 8) (v := some (a + 59)) (by omega)) h31
  have h38 := G3.bl (Bl.wr (c := a + 1) (i := 8) (v := some (a + 59)) (by omega)) h38
  have h45 := G3.bl (Bl.wr (c := a + 1) (i := 8) (v := some (a + 59)) (by omega)) h45
  have h52 := G3.bl (Bl.wr (c := a + 1) (i := 8) (v := some (a + 59)) (by omega)) h52
  have h59 := G3.bl (Bl.wr (c := a + 1) (i := 8) (v := some (a + 59)) (by omega)) h59
  have w1 := w1.wr (i := 8) (v := some (a + 59))
  have ho := ho.bl (Bl.wr (c := a + 1) (i := 8) (v := some (a + 59)) (by omega))
  have hF := hF.wr (c := a + 1) (i := 8) (v := some (a + 59)) (by omega)
  have hk := kwr (c := a + 1) (i := 8) (v := some (a + 59)) hk
  have k1 := kwr (c := a + 1) (i := 8) (v := some (a + 59)) k1
  have hn := nwr (c := a + 1) (i := 8) (v := some (a + 59)) hn
  refine g_iinc (9) 0 45 [(1, .int (9)), (0, .ref a)] dX0_init_42 rfl rfl rfl (Nat.le_of_ble_eq_true rfl) rfl ?_
  refine g_goto 23 dX0_init_45 rfl ?_
  refine g_iload_n 0 24 dX0_init_23 rfl rfl ?_
  refine g_bipush (17) 26 dX0_init_24 rfl rfl ?_
  refine g_icmp_ge 48 29 dX0_init_26 rfl rfl (fun q => absurd q (by decide)) (fun _ => ?_)
  refine g_aload_n 1 30 dX0_init_29 rfl rfl ?_
  refine g_getR 33 (a + 1) dX0_init_30 rfl flX0_13 hk (ho.1 0) ?_
  refine g_iload_n 0 34 dX0_init_33 rfl rfl ?_
  refine i_newo 37 (a + 66) dX0_init_34 rfl gcl3 q1_148 q1_33 q1_3 (Nat.le_of_ble_eq_true rfl) (Nat.le_of_ble_eq_true rfl) hn ?_
  have h2 := Ar.bl (Bl.new (c := 3) (z := 6) hn (by omega)) h2
  have h3 := G3.bl (Bl.new (c := 3) (z := 6) hn (by omega)) h3
  have h10 := G3.bl (Bl.new (c := 3) (z := 6) hn (by omega)) h10
  have h17 := G3.bl (Bl.new (c := 3) (z := 6) hn (by omega)) h17
  have h24 := G3.bl (Bl.new (c := 3) (z := 6) hn (by omega)) h24
  have h31 := G3.bl (Bl.new (c := 3) (z := 6) hn (by omega)) h31
  have h38 := G3.bl (Bl.new (c := 3) (z := 6) hn (by omega)) h38
  have h45 := G3.bl (Bl.new (c := 3) (z := 6) hn (by omega)) h45
  have h52 := G3.bl (Bl.new (c := 3) (z := 6) hn (by omega)) h52
  have h59 := G3.bl (Bl.new (c := 3) (z := 6) hn (by omega)) h59
  have w1 := w1.bl (Bl.new (c := 3) (z := 6) hn (by omega))
  have k1 := kn (c := 3) (z := 6) k1 hn (by omega)
  have ho := ho.bl (Bl.new (c := 3) (z := 6) hn (by omega))
  have hk := kn (c := 3) (z := 6) hk hn (by omega)
  have hF := hF.new (c := 3) (z := 6) hn (by omega)
  have h66 := Ar.mk (c := 3) (z := 6) hn
  have hn : g_nx _ = a + 67 := nn (c := 3) (z := 6) hn
  refine g_dup 38 dX0_init_37 rfl rfl ?_
  refine g_callI (mc1 := 6) (ms1 := 190) (b := (a + 66)) (rest := [.ref (a + 66), .int (9), .ref (a + 1)]) (av := []) kX3_init 41 dX0_init_38 rfl rfl mbX0_21 imX3_init rfl rfl (Nat.le_of_ble_eq_true rfl) (Nat.le_of_ble_eq_true rfl) (Nat.le_of_ble_eq_true rfl) (iX3_init h66 hn ?_)
  intro M67 hf hn2 hg
  show Go X _ _ _ kX0_init Q 41 [(1, .int (9)), (0, .ref a)] [.ref (a + 66), .int (9), .ref (a + 1)] M67 72 1994
  have h2 := Ar.bl (Bl.fr hf (by omega)) h2
  have h3 := G3.bl (Bl.fr hf (by omega)) h3
  have h10 := G3.bl (Bl.fr hf (by omega)) h10
  have h17 := G3.bl (Bl.fr hf (by omega)) h17
  have h24 := G3.bl (Bl.fr hf (by omega)) h24
  have h31 := G3.bl (Bl.fr hf (by omega)) h31
  have h38 := G3.bl (Bl.fr hf (by omega)) h38
  have h45 := G3.bl (Bl.fr hf (by omega)) h45
  have h52 := G3.bl (Bl.fr hf (by omega)) h52
  have h59 := G3.bl (Bl.fr hf (by omega)) h59
  have w1 := w1.bl (Bl.fr hf (by omega))
  have k1 := (Bl.fr (lo := a + 1) (hi := a + 2) hf (by omega)).k (by omega) (by omega) k1
  have ho := ho.bl (Bl.fr hf (by omega))
  have hk := (Bl.fr (lo := a) (hi := a + 1) hf (by omega)).k (by omega) (by omega) hk
  have hF := hF.tr hf (by omega)
  have hn : g_nx M67 = a + 73 := hn2
  have h66 := hg
  refine g_aastore (t := 4) 42 dX0_init_41 rfl k1 (by decide) rfl h66.1 gcl3.1 (vp_lit rfl) ?_
  rw [show (9 : Int32).toNatClampNeg = 9 from rfl]
  have h2 := Ar.bl (Bl.wr (c := a + 1) (i := 9) (v := some (a + 66)) (by omega)) h2
  have h3 := G3.bl (Bl.wr (c := a + 1) (i := 9) (v := some (a + 66)) (by omega)) h3
  have h10 := G3.bl (Bl.wr (c := a + 1) (i := 9) (v := some (a + 66)) (by omega)) h10
  have h17 := G3.bl (Bl.wr (c := a + 1) (i := 9) (v := some (a + 66)) (by omega)) h17
  have h24 := G3.bl (Bl.wr (c := a + 1) (i := 9) (v := some (a + 66)) (by omega)) h24
  have h31 := G3.bl (Bl.wr (c := a + 1) (i := 9) (v := some (a + 66)) (by omega)) h31
  have h38 := G3.bl (Bl.wr (c := a + 1) (i := 9) (v := some (a + 66)) (by omega)) h38
  have h45 := G3.bl (Bl.wr (c := a + 1) (i := 9) (v := some (a + 66)) (by omega)) h45
  have h52 := G3.bl (Bl.wr (c := a + 1) (i := 9) (v := some (a + 66)) (by omega)) h52
  have h59 := G3.bl (Bl.wr (c := a + 1) (i := 9) (v := some (a + 66)) (by omega)) h59
  have h66 := G3.bl (Bl.wr (c := a + 1) (i := 9) (v := some (a + 66)) (by omega)) h66
  have w1 := w1.wr (i := 9) (v := some (a + 66))
  have ho := ho.bl (Bl.wr (c := a + 1) (i := 9) (v := some (a + 66)) (by omega))
  have hF := hF.wr (c := a + 1) (i := 9) (v := some (a + 66)) (by omega)
  have hk := kwr (c := a + 1) (i := 9) (v := some (a + 66)) hk
  have k1 := kwr (c := a + 1) (i := 9) (v := some (a + 66)) k1
  have hn := nwr (c := a + 1) (i := 9) (v := some (a + 66)) hn
  refine g_iinc (10) 0 45 [(1, .int (10)), (0, .ref a)] dX0_init_42 rfl rfl rfl (Nat.le_of_ble_eq_true rfl) rfl ?_
  refine g_goto 23 dX0_init_45 rfl ?_
  refine g_iload_n 0 24 dX0_init_23 rfl rfl ?_
  refine g_bipush (17) 26 dX0_init_24 rfl rfl ?_
  refine g_icmp_ge 48 29 dX0_init_26 rfl rfl (fun q => absurd q (by decide)) (fun _ => ?_)
  refine g_aload_n 1 30 dX0_init_29 rfl rfl ?_
  refine g_getR 33 (a + 1) dX0_init_30 rfl flX0_13 hk (ho.1 0) ?_
  refine g_iload_n 0 34 dX0_init_33 rfl rfl ?_
  refine i_newo 37 (a + 73) dX0_init_34 rfl gcl3 q1_148 q1_33 q1_3 (Nat.le_of_ble_eq_true rfl) (Nat.le_of_ble_eq_true rfl) hn ?_
  have h2 := Ar.bl (Bl.new (c := 3) (z := 6) hn (by omega)) h2
  have h3 := G3.bl (Bl.new (c := 3) (z := 6) hn (by omega)) h3
  have h10 := G3.bl (Bl.new (c := 3) (z := 6) hn (by omega)) h10
  have h17 := G3.bl (Bl.new (c := 3) (z := 6) hn (by omega)) h17
  have h24 := G3.bl (Bl.new (c := 3) (z := 6) hn (by omega)) h24
  have h31 := G3.bl (Bl.new (c := 3) (z := 6) hn (by omega)) h31
  have h38 := G3.bl (Bl.new (c := 3) (z := 6) hn (by omega)) h38
  have h45 := G3.bl (Bl.new (c := 3) (z := 6) hn (by omega)) h45
  have h52 := G3.bl (Bl.new (c := 3) (z := 6) hn (by omega)) h52
  have h59 := G3.bl (Bl.new (c := 3) (z := 6) hn (by omega)) h59
  have h66 := G3.bl (Bl.new (c := 3) (z := 6) hn (by omega)) h66
  have w1 := w1.bl (Bl.new (c := 3) (z := 6) hn (by omega))
  have k1 := kn (c := 3) (z := 6) k1 hn (by omega)
  have ho := ho.bl (Bl.new (c := 3) (z := 6) hn (by omega))
  have hk := kn (c := 3) (z := 6) hk hn (by omega)
  have hF := hF.new (c := 3) (z := 6) hn (by omega)
  have h73 := Ar.mk (c := 3) (z := 6) hn
  have hn : g_nx _ = a + 74 := nn (c := 3) (z := 6) hn
  refine g_dup 38 dX0_init_37 rfl rfl ?_
  refine g_callI (mc1 := 6) (ms1 := 190) (b := (a + 73)) (rest := [.ref (a + 73), .int (10), .ref (a + 1)]) (av := []) kX3_init 41 dX0_init_38 rfl rfl mbX0_21 imX3_init rfl rfl (Nat.le_of_ble_eq_true rfl) (Nat.le_of_ble_eq_true rfl) (Nat.le_of_ble_eq_true rfl) (iX3_init h73 hn ?_)
  intro M74 hf hn2 hg
  show Go X _ _ _ kX0_init Q 41 [(1, .int (10)), (0, .ref a)] [.ref (a + 73), .int (10), .ref (a + 1)] M74 79 2190
  have h2 := Ar.bl (Bl.fr hf (by omega)) h2
  have h3 := G3.bl (Bl.fr hf (by omega)) h3
  have h10 := G3.bl (Bl.fr hf (by omega)) h10
  have h17 := G3.bl (Bl.fr hf (by omega)) h17
  have h24 := G3.bl (Bl.fr hf (by omega)) h24
  have h31 := G3.bl (Bl.fr hf (by omega)) h31
  have h38 := G3.bl (Bl.fr hf (by omega)) h38
  have h45 := G3.bl (Bl.fr hf (by omega)) h45
  have h52 := G3.bl (Bl.fr hf (by omega)) h52
  have h59 := G3.bl (Bl.fr hf (by omega)) h59
  have h66 := G3.bl (Bl.fr hf (by omega)) h66
  have w1 := w1.bl (Bl.fr hf (by omega))
  have k1 := (Bl.fr (lo := a + 1) (hi := a + 2) hf (by omega)).k (by omega) (by omega) k1
  have ho := ho.bl (Bl.fr hf (by omega))
  have hk := (Bl.fr (lo := a) (hi := a + 1) hf (by omega)).k (by omega) (by omega) hk
  have hF := hF.tr hf (by omega)
  have hn : g_nx M74 = a + 80 := hn2
  have h73 := hg
  refine g_aastore (t := 4) 42 dX0_init_41 rfl k1 (by decide) rfl h73.1 gcl3.1 (vp_lit rfl) ?_
  rw [show (10 : Int32).toNatClampNeg = 10 from rfl]
  have h2 := Ar.bl (Bl.wr (c := a + 1) (i := 10) (v := some (a + 73)) (by omega)) h2
  have h3 := G3.bl (Bl.wr (c := a + 1) (i := 10) (v := some (a + 73)) (by omega)) h3
  have h10 := G3.bl (Bl.wr (c := a + 1) (i := 10) (v := some (a + 73)) (by omega)) h10
  have h17 := G3.bl (Bl.wr (c := a + 1) (i := 10) (v := some (a + 73)) (by omega)) h17
  have h24 := G3.bl (Bl.wr (c := a + 1) (i := 10) (v := some (a + 73)) (by omega)) h24
  have h31 := G3.bl (Bl.wr (c := a + 1) (i := 10) (v := some (a + 73)) (by omega)) h31
  have h38 := G3.bl (Bl.wr (c := a + 1) (i := 10) (v := some (a + 73)) (by omega)) h38
  have h45 := G3.bl (Bl.wr (c := a + 1) (i := 10) (v := some (a + 73)) (by omega)) h45
  have h52 := G3.bl (Bl.wr (c := a + 1) (i := 10) (v := some (a + 73)) (by omega)) h52
  have h59 := G3.bl (Bl.wr (c := a + 1) (i := 10) (v := some (a + 73)) (by omega)) h59
  have h66 := G3.bl (Bl.wr (c := a + 1) (i := 10) (v := some (a + 73)) (by omega)) h66
  have h73 := G3.bl (Bl.wr (c := a + 1) (i := 10) (v := some (a + 73)) (by omega)) h73
  have w1 := w1.wr (i := 10) (v := some (a + 73))
  have ho := ho.bl (Bl.wr (c := a + 1) (i := 10) (v := some (a + 73)) (by omega))
  have hF := hF.wr (c := a + 1) (i := 10) (v := some (a + 73)) (by omega)
  have hk := kwr (c := a + 1) (i := 10) (v := some (a + 73)) hk
  have k1 := kwr (c := a + 1) (i := 10) (v := some (a + 73)) k1
  have hn := nwr (c := a + 1) (i := 10) (v := some (a + 73)) hn
  refine g_iinc (11) 0 45 [(1, .int (11)), (0, .ref a)] dX0_init_42 rfl rfl rfl (Nat.le_of_ble_eq_true rfl) rfl ?_
  refine g_goto 23 dX0_init_45 rfl ?_
  refine g_iload_n 0 24 dX0_init_23 rfl rfl ?_
  refine g_bipush (17) 26 dX0_init_24 rfl rfl ?_
  refine g_icmp_ge 48 29 dX0_init_26 rfl rfl (fun q => absurd q (by decide)) (fun _ => ?_)
  refine g_aload_n 1 30 dX0_init_29 rfl rfl ?_
  refine g_getR 33 (a + 1) dX0_init_30 rfl flX0_13 hk (ho.1 0) ?_
  refine g_iload_n 0 34 dX0_init_33 rfl rfl ?_
  refine i_newo 37 (a + 80) dX0_init_34 rfl gcl3 q1_148 q1_33 q1_3 (Nat.le_of_ble_eq_true rfl) (Nat.le_of_ble_eq_true rfl) hn ?_
  have h2 := Ar.bl (Bl.new (c := 3) (z := 6) hn (by omega)) h2
  have h3 := G3.bl (Bl.new (c := 3) (z := 6) hn (by omega)) h3
  have h10 := G3.bl (Bl.new (c := 3) (z := 6) hn (by omega)) h10
  have h17 := G3.bl (Bl.new (c := 3) (z := 6) hn (by omega)) h17
  have h24 := G3.bl (Bl.new (c := 3) (z := 6) hn (by omega)) h24
  have h31 := G3.bl (Bl.new (c := 3) (z := 6) hn (by omega)) h31
  have h38 := G3.bl (Bl.new (c := 3) (z := 6) hn (by omega)) h38
  have h45 := G3.bl (Bl.new (c := 3) (z := 6) hn (by omega)) h45
  have h52 := G3.bl (Bl.new (c := 3) (z := 6) hn (by omega)) h52
  have h59 := G3.bl (Bl.new (c := 3) (z := 6) hn (by omega)) h59
  have h66 := G3.bl (Bl.new (c := 3) (z := 6) hn (by omega)) h66
  have h73 := G3.bl (Bl.new (c := 3) (z := 6) hn (by omega)) h73
  have w1 := w1.bl (Bl.new (c := 3) (z := 6) hn (by omega))
  have k1 := kn (c := 3) (z := 6) k1 hn (by omega)
  have ho := ho.bl (Bl.new (c := 3) (z := 6) hn (by omega))
  have hk := kn (c := 3) (z := 6) hk hn (by omega)
  have hF := hF.new (c := 3) (z := 6) hn (by omega)
  have h80 := Ar.mk (c := 3) (z := 6) hn
  have hn : g_nx _ = a + 81 := nn (c := 3) (z := 6) hn
  refine g_dup 38 dX0_init_37 rfl rfl ?_
  refine g_callI (mc1 := 6) (ms1 := 190) (b := (a + 80)) (rest := [.ref (a + 80), .int (11), .ref (a + 1)]) (av := []) kX3_init 41 dX0_init_38 rfl rfl mbX0_21 imX3_init rfl rfl (Nat.le_of_ble_eq_true rfl) (Nat.le_of_ble_eq_true rfl) (Nat.le_of_ble_eq_true rfl) (iX3_init h80 hn ?_)
  intro M81 hf hn2 hg
  show Go X _ _ _ kX0_init Q 41 [(1, .int (11)), (0, .ref a)] [.ref (a + 80), .int (11), .ref (a + 1)] M81 86 2386
  have h2 := Ar.bl (Bl.fr hf (by omega)) h2
  have h3 := G3.bl (Bl.fr hf (by omega)) h3
  have h10 := G3.bl (Bl.fr hf (by omega)) h10
  have h17 := G3.bl (Bl.fr hf (by omega)) h17
  have h24 := G3.bl (Bl.fr hf (by omega)) h24
  have h31 := G3.bl (Bl.fr hf (by omega)) h31
  have h38 := G3.bl (Bl.fr hf (by omega)) h38
  have h45 := G3.bl (Bl.fr hf (by omega)) h45
  have h52 := G3.bl (Bl.fr hf (by omega)) h52
  have h59 := G3.bl (Bl.fr hf (by omega)) h59
  have h66 := G3.bl (Bl.fr hf (by omega)) h66
  have h73 := G3.bl (Bl.fr hf (by omega)) h73
  have w1 := w1.bl (Bl.fr hf (by omega))
  have k1 := (Bl.fr (lo := a + 1) (hi := a + 2) hf (by omega)).k (by omega) (by omega) k1
  have ho := ho.bl (Bl.fr hf (by omega))
  have hk := (Bl.fr (lo := a) (hi := a + 1) hf (by omega)).k (by omega) (by omega) hk
  have hF := hF.tr hf (by omega)
  have hn : g_nx M81 = a + 87 := hn2
  have h80 := hg
  refine g_aastore (t := 4) 42 dX0_init_41 rfl k1 (by decide) rfl h80.1 gcl3.1 (vp_lit rfl) ?_
  rw [show (11 : Int32).toNatClampNeg = 11 from rfl]
  have h2 := Ar.bl (Bl.wr (c := a + 1) (i := 11) (v := some (a + 80)) (by omega)) h2
  have h3 := G3.bl (Bl.wr (c := a + 1) (i := 11) (v := some (a + 80)) (by omega)) h3
  have h10 := G3.bl (Bl.wr (c := a + 1) (i := 11) (v := some (a + 80)) (by omega)) h10
  have h17 := G3.bl (Bl.wr (c := a + 1) (i := 11) (v := some (a + 80)) (by omega)) h17
  have h24 := G3.bl (Bl.wr (c := a + 1) (i := 11) (v := some (a + 80)) (by omega)) h24
  have h31 := G3.bl (Bl.wr (c := a + 1) (i := 11) (v := some (a + 80)) (by omega)) h31
  have h38 := G3.bl (Bl.wr (c := a + 1) (i := 11) (v := some (a + 80)) (by omega)) h38
  have h45 := G3.bl (Bl.wr (c := a + 1) (i := 11) (v := some (a + 80)) (by omega)) h45
  have h52 := G3.bl (Bl.wr (c := a + 1) (i := 11) (v := some (a + 80)) (by omega)) h52
  have h59 := G3.bl (Bl.wr (c := a + 1) (i := 11) (v := some (a + 80)) (by omega)) h59
  have h66 := G3.bl (Bl.wr (c := a + 1) (i := 11) (v := some (a + 80)) (by omega)) h66
  have h73 := G3.bl (Bl.wr (c := a + 1) (i := 11) (v := some (a + 80)) (by omega)) h73
  have h80 := G3.bl (Bl.wr (c := a + 1) (i := 11) (v := some (a + 80)) (by omega)) h80
  have w1 := w1.wr (i := 11) (v := some (a + 80))
  have ho := ho.bl (Bl.wr (c := a + 1) (i := 11) (v := some (a + 80)) (by omega))
  have hF := hF.wr (c := a + 1) (i := 11) (v := some (a + 80)) (by omega)
  have hk := kwr (c := a + 1) (i := 11) (v := some (a + 80)) hk
  have k1 := kwr (c := a + 1) (i := 11) (v := some (a + 80)) k1
  have hn := nwr (c := a + 1) (i := 11) (v := some (a + 80)) hn
  refine g_iinc (12) 0 45 [(1, .int (12)), (0, .ref a)] dX0_init_42 rfl rfl rfl (Nat.le_of_ble_eq_true rfl) rfl ?_
  refine g_goto 23 dX0_init_45 rfl ?_
  refine g_iload_n 0 24 dX0_init_23 rfl rfl ?_
  refine g_bipush (17) 26 dX0_init_24 rfl rfl ?_
  refine g_icmp_ge 48 29 dX0_init_26 rfl rfl (fun q => absurd q (by decide)) (fun _ => ?_)
  refine g_aload_n 1 30 dX0_init_29 rfl rfl ?_
  refine g_getR 33 (a + 1) dX0_init_30 rfl flX0_13 hk (ho.1 0) ?_
  refine g_iload_n 0 34 dX0_init_33 rfl rfl ?_
  refine i_newo 37 (a + 87) dX0_init_34 rfl gcl3 q1_148 q1_33 q1_3 (Nat.le_of_ble_eq_true rfl) (Nat.le_of_ble_eq_true rfl) hn ?_
  have h2 := Ar.bl (Bl.new (c := 3) (z := 6) hn (by omega)) h2
  have h3 := G3.bl (Bl.new (c := 3) (z := 6) hn (by omega)) h3
  have h10 := G3.bl (Bl.new (c := 3) (z := 6) hn (by omega)) h10
  have h17 := G3.bl (Bl.new (c := 3) (z := 6) hn (by omega)) h17
  have h24 := G3.bl (Bl.new (c := 3) (z := 6) hn (by omega)) h24
  have h31 := G3.bl (Bl.new (c := 3) (z := 6) hn (by omega)) h31
  have h38 := G3.bl (Bl.new (c := 3) (z := 6) hn (by omega)) h38
  have h45 := G3.bl (Bl.new (c := 3) (z := 6) hn (by omega)) h45
  have h52 := G3.bl (Bl.new (c := 3) (z := 6) hn (by omega)) h52
  have h59 := G3.bl (Bl.new (c := 3) (z := 6) hn (by omega)) h59
  have h66 := G3.bl (Bl.new (c := 3) (z := 6) hn (by omega)) h66
  have h73 := G3.bl (Bl.new (c := 3) (z := 6) hn (by omega)) h73
  have h80 := G3.bl (Bl.new (c := 3) (z := 6) hn (by omega)) h80
  have w1 := w1.bl (Bl.new (c := 3) (z := 6) hn (by omega))
  have k1 := kn (c := 3) (z := 6) k1 hn (by omega)
  have ho := ho.bl (Bl.new (c := 3) (z := 6) hn (by omega))
  have hk := kn (c := 3) (z := 6) hk hn (by omega)
  have hF := hF.new (c := 3) (z := 6) hn (by omega)
  have h87 := Ar.mk (c := 3) (z := 6) hn
  have hn : g_nx _ = a + 88 := nn (c := 3) (z := 6) hn
  refine g_dup 38 dX0_init_37 rfl rfl ?_
  refine g_callI (mc1 := 6) (ms1 := 190) (b := (a + 87)) (rest := [.ref (a + 87), .int (12), .ref (a + 1)]) (av := []) kX3_init 41 dX0_init_38 rfl rfl mbX0_21 imX3_init rfl rfl (Nat.le_of_ble_eq_true rfl) (Nat.le_of_ble_eq_true rfl) (Nat.le_of_ble_eq_true rfl) (iX3_init h87 hn ?_)
  intro M88 hf hn2 hg
  show Go X _ _ _ kX0_init Q 41 [(1, .int (12)), (0, .ref a)] [.ref (a + 87), .int (12), .ref (a + 1)] M88 93 2582
  have h2 := Ar.bl (Bl.fr hf (by omega)) h2
  have h3 := G3.bl (Bl.fr hf (by omega)) h3
  have h10 := G3.bl (Bl.fr hf (by omega)) h10
  have h17 := G3.bl (Bl.fr hf (by omega)) h17
  have h24 := G3.bl (Bl.fr hf (by omega)) h24
  have h31 := G3.bl (Bl.fr hf (by omega)) h31
  have h38 := G3.bl (Bl.fr hf (by omega)) h38
  have h45 := G3.bl (Bl.fr hf (by omega)) h45
  have h52 := G3.bl (Bl.fr hf (by omega)) h52
  have h59 := G3.bl (Bl.fr hf (by omega)) h59
  have h66 := G3.bl (Bl.fr hf (by omega)) h66
  have h73 := G3.bl (Bl.fr hf (by omega)) h73
  have h80 := G3.bl (Bl.fr hf (by omega)) h80
  have w1 := w1.bl (Bl.fr hf (by omega))
  have k1 := (Bl.fr (lo := a + 1) (hi := a + 2) hf (by omega)).k (by omega) (by omega) k1
  have ho := ho.bl (Bl.fr hf (by omega))
  have hk := (Bl.fr (lo := a) (hi := a + 1) hf (by omega)).k (by omega) (by omega) hk
  have hF := hF.tr hf (by omega)
  have hn : g_nx M88 = a + 94 := hn2
  have h87 := hg
  refine g_aastore (t := 4) 42 dX0_init_41 rfl k1 (by decide) rfl h87.1 gcl3.1 (vp_lit rfl) ?_
  rw [show (12 : Int32).toNatClampNeg = 12 from rfl]
  have h2 := Ar.bl (Bl.wr (c := a + 1) (i := 12) (v := some (a + 87)) (by omega)) h2
  have h3 := G3.bl (Bl.wr (c := a + 1) (i := 12) (v := some (a + 87)) (by omega)) h3
  have h10 := G3.bl (Bl.wr (c := a + 1) (i := 12) (v := some (a + 87)) (by omega)) h10
  have h17 := G3.bl (Bl.wr (c := a + 1) (i := 12) (v := some (a + 87)) (by omega)) h17
  have h24 := G3.bl (Bl.wr (c := a + 1) (i := 12) (v := some (a + 87)) (by omega)) h24
  have h31 := G3.bl (Bl.wr (c := a + 1) (i := 12) (v := some (a + 87)) (by omega)) h31
  have h38 := G3.bl (Bl.wr (c := a + 1) (i := 12) (v := some (a + 87)) (by omega)) h38
  have h45 := G3.bl (Bl.wr (c := a + 1) (i := 12) (v := some (a + 87)) (by omega)) h45
  have h52 := G3.bl (Bl.wr (c := a + 1) (i := 12) (v := some (a + 87)) (by omega)) h52
  have h59 := G3.bl (Bl.wr (c := a + 1) (i := 12) (v := some (a + 87)) (by omega)) h59
  have h66 := G3.bl (Bl.wr (c := a + 1) (i := 12) (v := some (a + 87)) (by omega)) h66
  have h73 := G3.bl (Bl.wr (c := a + 1) (i := 12) (v := some (a + 87)) (by omega)) h73
  have h80 := G3.bl (Bl.wr (c := a + 1) (i := 12) (v := some (a + 87)) (by omega)) h80
  have h87 := G3.bl (Bl.wr (c := a + 1) (i := 12) (v := some (a + 87)) (by omega)) h87
  have w1 := w1.wr (i := 12) (v := some (a + 87))
  have ho := ho.bl (Bl.wr (c := a + 1) (i := 12) (v := some (a + 87)) (by omega))
  have hF := hF.wr (c := a + 1) (i := 12) (v := some (a + 87)) (by omega)
  have hk := kwr (c := a + 1) (i := 12) (v := some (a + 87)) hk
  have k1 := kwr (c := a + 1) (i := 12) (v := some (a + 87)) k1
  have hn := nwr (c := a + 1) (i := 12) (v := some (a + 87)) hn
  refine g_iinc (13) 0 45 [(1, .int (13)), (0, .ref a)] dX0_init_42 rfl rfl rfl (Nat.le_of_ble_eq_true rfl) rfl ?_
  refine g_goto 23 dX0_init_45 rfl ?_
  refine g_iload_n 0 24 dX0_init_23 rfl rfl ?_
  refine g_bipush (17) 26 dX0_init_24 rfl rfl ?_
  refine g_icmp_ge 48 29 dX0_init_26 rfl rfl (fun q => absurd q (by decide)) (fun _ => ?_)
  refine g_aload_n 1 30 dX0_init_29 rfl rfl ?_
  refine g_getR 33 (a + 1) dX0_init_30 rfl flX0_13 hk (ho.1 0) ?_
  refine g_iload_n 0 34 dX0_init_33 rfl rfl ?_
  refine i_newo 37 (a + 94) dX0_init_34 rfl gcl3 q1_148 q1_33 q1_3 (Nat.le_of_ble_eq_true rfl) (Nat.le_of_ble_eq_true rfl) hn ?_
  have h2 := Ar.bl (Bl.new (c := 3) (z := 6) hn (by omega)) h2
  have h3 := G3.bl (Bl.new (c := 3) (z := 6) hn (by omega)) h3
  have h10 := G3.bl (Bl.new (c := 3) (z := 6) hn (by omega)) h10
  have h17 := G3.bl (Bl.new (c := 3) (z := 6) hn (by omega)) h17
  have h24 := G3.bl (Bl.new (c := 3) (z := 6) hn (by omega)) h24
  have h31 := G3.bl (Bl.new (c := 3) (z := 6) hn (by omega)) h31
  have h38 := G3.bl (Bl.new (c := 3) (z := 6) hn (by omega)) h38
  have h45 := G3.bl (Bl.new (c := 3) (z := 6) hn (by omega)) h45
  have h52 := G3.bl (Bl.new (c := 3) (z := 6) hn (by omega)) h52
  have h59 := G3.bl (Bl.new (c := 3) (z := 6) hn (by omega)) h59
  have h66 := G3.bl (Bl.new (c := 3) (z := 6) hn (by omega)) h66
  have h73 := G3.bl (Bl.new (c := 3) (z := 6) hn (by omega)) h73
  have h80 := G3.bl (Bl.new (c := 3) (z := 6) hn (by omega)) h80
  have h87 := G3.bl (Bl.new (c := 3) (z := 6) hn (by omega)) h87
  have w1 := w1.bl (Bl.new (c := 3) (z := 6) hn (by omega))
  have k1 := kn (c := 3) (z := 6) k1 hn (by omega)
  have ho := ho.bl (Bl.new (c := 3) (z := 6) hn (by omega))
  have hk := kn (c := 3) (z := 6) hk hn (by omega)
  have hF := hF.new (c := 3) (z := 6) hn (by omega)
  have h94 := Ar.mk (c := 3) (z := 6) hn
  have hn : g_nx _ = a + 95 := nn (c := 3) (z := 6) hn
  refine g_dup 38 dX0_init_37 rfl rfl ?_
  refine g_callI (mc1 := 6) (ms1 := 190) (b := (a + 94)) (rest := [.ref (a + 94), .int (13), .ref (a + 1)]) (av := []) kX3_init 41 dX0_init_38 rfl rfl mbX0_21 imX3_init rfl rfl (Nat.le_of_ble_eq_true rfl) (Nat.le_of_ble_eq_true rfl) (Nat.le_of_ble_eq_true rfl) (iX3_init h94 hn ?_)
  intro M95 hf hn2 hg
  show Go X _ _ _ kX0_init Q 41 [(1, .int (13)), (0, .ref a)] [.ref (a + 94), .int (13), .ref (a + 1)] M95 100 2778
  have h2 := Ar.bl (Bl.fr hf (by omega)) h2
  have h3 := G3.bl (Bl.fr hf (by omega)) h3
  have h10 := G3.bl (Bl.fr hf (by omega)) h10
  have h17 := G3.bl (Bl.fr hf (by omega)) h17
  have h24 := G3.bl (Bl.fr hf (by omega)) h24
  have h31 := G3.bl (Bl.fr hf (by omega)) h31
  have h38 := G3.bl (Bl.fr hf (by omega)) h38
  have h45 := G3.bl (Bl.fr hf (by omega)) h45
  have h52 := G3.bl (Bl.fr hf (by omega)) h52
  have h59 := G3.bl (Bl.fr hf (by omega)) h59
  have h66 := G3.bl (Bl.fr hf (by omega)) h66
  have h73 := G3.bl (Bl.fr hf (by omega)) h73
  have h80 := G3.bl (Bl.fr hf (by omega)) h80
  have h87 := G3.bl (Bl.fr hf (by omega)) h87
  have w1 := w1.bl (Bl.fr hf (by omega))
  have k1 := (Bl.fr (lo := a + 1) (hi := a + 2) hf (by omega)).k (by omega) (by omega) k1
  have ho := ho.bl (Bl.fr hf (by omega))
  have hk := (Bl.fr (lo := a) (hi := a + 1) hf (by omega)).k (by omega) (by omega) hk
  have hF := hF.tr hf (by omega)
  have hn : g_nx M95 = a + 101 := hn2
  have h94 := hg
  refine g_aastore (t := 4) 42 dX0_init_41 rfl k1 (by decide) rfl h94.1 gcl3.1 (vp_lit rfl) ?_
  rw [show (13 : Int32).toNatClampNeg = 13 from rfl]
  have h2 := Ar.bl (Bl.wr (c := a + 1) (i := 13) (v := some (a + 94)) (by omega)) h2
  have h3 := G3.bl (Bl.wr (c := a + 1) (i := 13) (v := some (a + 94)) (by omega)) h3
  have h10 := G3.bl (Bl.wr (c := a + 1) (i := 13) (v := some (a + 94)) (by omega)) h10
  have h17 := G3.bl (Bl.wr (c := a + 1) (i := 13) (v := some (a + 94)) (by omega)) h17
  have h24 := G3.bl (Bl.wr (c := a + 1) (i := 13) (v := some (a + 94)) (by omega)) h24
  have h31 := G3.bl (Bl.wr (c := a + 1) (i := 13) (v := some (a + 94)) (by omega)) h31
  have h38 := G3.bl (Bl.wr (c := a + 1) (i := 13) (v := some (a + 94)) (by omega)) h38
  have h45 := G3.bl (Bl.wr (c := a + 1) (i := 13) (v := some (a + 94)) (by omega)) h45
  have h52 := G3.bl (Bl.wr (c := a + 1) (i := 13) (v := some (a + 94)) (by omega)) h52
  have h59 := G3.bl (Bl.wr (c := a + 1) (i := 13) (v := some (a + 94)) (by omega)) h59
  have h66 := G3.bl (Bl.wr (c := a + 1) (i := 13) (v := some (a + 94)) (by omega)) h66
  have h73 := G3.bl (Bl.wr (c := a + 1) (i := 13) (v := some (a + 94)) (by omega)) h73
  have h80 := G3.bl (Bl.wr (c := a + 1) (i := 13) (v := some (a + 94)) (by omega)) h80
  have h87 := G3.bl (Bl.wr (c := a + 1) (i := 13) (v := some (a + 94)) (by omega)) h87
  have h94 := G3.bl (Bl.wr (c := a + 1) (i := 13) (v := some (a + 94)) (by omega)) h94
  have w1 := w1.wr (i := 13) (v := some (a + 94))
  have ho := ho.bl (Bl.wr (c := a + 1) (i := 13) (v := some (a + 94)) (by omega))
  have hF := hF.wr (c := a + 1) (i := 13) (v := some (a + 94)) (by omega)
  have hk := kwr (c := a + 1) (i := 13) (v := some (a + 94)) hk
  have k1 := kwr (c := a + 1) (i := 13) (v := some (a + 94)) k1
  have hn := nwr (c := a + 1) (i := 13) (v := some (a + 94)) hn
  refine g_iinc (14) 0 45 [(1, .int (14)), (0, .ref a)] dX0_init_42 rfl rfl rfl (Nat.le_of_ble_eq_true rfl) rfl ?_
  refine g_goto 23 dX0_init_45 rfl ?_
  refine g_iload_n 0 24 dX0_init_23 rfl rfl ?_
  refine g_bipush (17) 26 dX0_init_24 rfl rfl ?_
  refine g_icmp_ge 48 29 dX0_init_26 rfl rfl (fun q => absurd q (by decide)) (fun _ => ?_)
  refine g_aload_n 1 30 dX0_init_29 rfl rfl ?_
  refine g_getR 33 (a + 1) dX0_init_30 rfl flX0_13 hk (ho.1 0) ?_
  refine g_iload_n 0 34 dX0_init_33 rfl rfl ?_
  refine i_newo 37 (a + 101) dX0_init_34 rfl gcl3 q1_148 q1_33 q1_3 (Nat.le_of_ble_eq_true rfl) (Nat.le_of_ble_eq_true rfl) hn ?_
  have h2 := Ar.bl (Bl.new (c := 3) (z := 6) hn (by omega)) h2
  have h3 := G3.bl (Bl.new (c := 3) (z := 6) hn (by omega)) h3
  have h10 := G3.bl (Bl.new (c := 3) (z := 6) hn (by omega)) h10
  have h17 := G3.bl (Bl.new (c := 3) (z := 6) hn (by omega)) h17
  have h24 := G3.bl (Bl.new (c := 3) (z := 6) hn (by omega)) h24
  have h31 := G3.bl (Bl.new (c := 3) (z := 6) hn (by omega)) h31
  have h38 := G3.bl (Bl.new (c := 3) (z := 6) hn (by omega)) h38
  have h45 := G3.bl (Bl.new (c := 3) (z := 6) hn (by omega)) h45
  have h52 := G3.bl (Bl.new (c := 3) (z := 6) hn (by omega)) h52
  have h59 := G3.bl (Bl.new (c := 3) (z := 6) hn (by omega)) h59
  have h66 := G3.bl (Bl.new (c := 3) (z := 6) hn (by omega)) h66
  have h73 := G3.bl (Bl.new (c := 3) (z := 6) hn (by omega)) h73
  have h80 := G3.bl (Bl.new (c := 3) (z := 6) hn (by omega)) h80
  have h87 := G3.bl (Bl.new (c := 3) (z := 6) hn (by omega)) h87
  have h94 := G3.bl (Bl.new (c := 3) (z := 6) hn (by omega)) h94
  have w1 := w1.bl (Bl.new (c := 3) (z := 6) hn (by omega))
  have k1 := kn (c := 3) (z := 6) k1 hn (by omega)
  have ho := ho.bl (Bl.new (c := 3) (z := 6) hn (by omega))
  have hk := kn (c := 3) (z := 6) hk hn (by omega)
  have hF := hF.new (c := 3) (z := 6) hn (by omega)
  have h101 := Ar.mk (c := 3) (z := 6) hn
  have hn : g_nx _ = a + 102 := nn (c := 3) (z := 6) hn
  refine g_dup 38 dX0_init_37 rfl rfl ?_
  refine g_callI (mc1 := 6) (ms1 := 190) (b := (a + 101)) (rest := [.ref (a + 101), .int (14), .ref (a + 1)]) (av := []) kX3_init 41 dX0_init_38 rfl rfl mbX0_21 imX3_init rfl rfl (Nat.le_of_ble_eq_true rfl) (Nat.le_of_ble_eq_true rfl) (Nat.le_of_ble_eq_true rfl) (iX3_init h101 hn ?_)
  intro M102 hf hn2 hg
  show Go X _ _ _ kX0_init Q 41 [(1, .int (14)), (0, .ref a)] [.ref (a + 101), .int (14), .ref (a + 1)] M102 107 2974
  have h2 := Ar.bl (Bl.fr hf (by omega)) h2
  have h3 := G3.bl (Bl.fr hf (by omega)) h3
  have h10 := G3.bl (Bl.fr hf (by omega)) h10
  have h17 := G3.bl (Bl.fr hf (by omega)) h17
  have h24 := G3.bl (Bl.fr hf (by omega)) h24
  have h31 := G3.bl (Bl.fr hf (by omega)) h31
  have h38 := G3.bl (Bl.fr hf (by omega)) h38
  have h45 := G3.bl (Bl.fr hf (by omega)) h45
  have h52 := G3.bl (Bl.fr hf (by omega)) h52
  have h59 := G3.bl (Bl.fr hf (by omega)) h59
  have h66 := G3.bl (Bl.fr hf (by omega)) h66
  have h73 := G3.bl (Bl.fr hf (by omega)) h73
  have h80 := G3.bl (Bl.fr hf (by omega)) h80
  have h87 := G3.bl (Bl.fr hf (by omega)) h87
  have h94 := G3.bl (Bl.fr hf (by omega)) h94
  have w1 := w1.bl (Bl.fr hf (by omega))
  have k1 := (Bl.fr (lo := a + 1) (hi := a + 2) hf (by omega)).k (by omega) (by omega) k1
  have ho := ho.bl (Bl.fr hf (by omega))
  have hk := (Bl.fr (lo := a) (hi := a + 1) hf (by omega)).k (by omega) (by omega) hk
  have hF := hF.tr hf (by omega)
  have hn : g_nx M102 = a + 108 := hn2
  have h101 := hg
  refine g_aastore (t := 4) 42 dX0_init_41 rfl k1 (by decide) rfl h101.1 gcl3.1 (vp_lit rfl) ?_
  rw [show (14 : Int32).toNatClampNeg = 14 from rfl]
  have h2 := Ar.bl (Bl.wr (c := a + 1) (i := 14) (v := some (a + 101)) (by omega)) h2
  have h3 := G3.bl (Bl.wr (c := a + 1) (i := 14) (v := some (a + 101)) (by omega)) h3
  have h10 := G3.bl (Bl.wr (c := a + 1) (i := 14) (v := some (a + 101)) (by omega)) h10
  have h17 := G3.bl (Bl.wr (c := a + 1) (i := 14) (v := some (a + 101)) (by omega)) h17
  have h24 := G3.bl (Bl.wr (c := a + 1) (i := 14) (v := some (a + 101)) (by omega)) h24
  have h31 := G3.bl (Bl.wr (c := a + 1) (i := 14) (v := some (a + 101)) (by omega)) h31
  have h38 := G3.bl (Bl.wr (c := a + 1) (i := 14) (v := some (a + 101)) (by omega)) h38
  have h45 := G3.bl (Bl.wr (c := a + 1) (i := 14) (v := some (a + 101)) (by omega)) h45
  have h52 := G3.bl (Bl.wr (c := a + 1) (i := 14) (v := some (a + 101)) (by omega)) h52
  have h59 := G3.bl (Bl.wr (c := a + 1) (i := 14) (v := some (a + 101)) (by omega)) h59
  have h66 := G3.bl (Bl.wr (c := a + 1) (i := 14) (v := some (a + 101)) (by omega)) h66
  have h73 := G3.bl (Bl.wr (c := a + 1) (i := 14) (v := some (a + 101)) (by omega)) h73
  have h80 := G3.bl (Bl.wr (c := a + 1) (i := 14) (v := some (a + 101)) (by omega)) h80
  have h87 := G3.bl (Bl.wr (c := a + 1) (i := 14) (v := some (a + 101)) (by omega)) h87
  have h94 := G3.bl (Bl.wr (c := a + 1) (i := 14) (v := some (a + 101)) (by omega)) h94
  have h101 := G3.bl (Bl.wr (c := a + 1) (i := 14) (v := some (a + 101)) (by omega)) h101
  have w1 := w1.wr (i := 14) (v := some (a + 101))
  have ho := ho.bl (Bl.wr (c := a + 1) (i := 14) (v := some (a + 101)) (by omega))
  have hF := hF.wr (c := a + 1) (i := 14) (v := some (a + 101)) (by omega)
  have hk := kwr (c := a + 1) (i := 14) (v := some (a + 101)) hk
  have k1 := kwr (c := a + 1) (i := 14) (v := some (a + 101)) k1
  have hn := nwr (c := a + 1) (i := 14) (v := some (a + 101)) hn
  refine g_iinc (15) 0 45 [(1, .int (15)), (0, .ref a)] dX0_init_42 rfl rfl rfl (Nat.le_of_ble_eq_true rfl) rfl ?_
  refine g_goto 23 dX0_init_45 rfl ?_
  refine g_iload_n 0 24 dX0_init_23 rfl rfl ?_
  refine g_bipush (17) 26 dX0_init_24 rfl rfl ?_
  refine g_icmp_ge 48 29 dX0_init_26 rfl rfl (fun q => absurd q (by decide)) (fun _ => ?_)
  refine g_aload_n 1 30 dX0_init_29 rfl rfl ?_
  refine g_getR 33 (a + 1) dX0_init_30 rfl flX0_13 hk (ho.1 0) ?_
  refine g_iload_n 0 34 dX0_init_33 rfl rfl ?_
  refine i_newo 37 (a + 108) dX0_init_34 rfl gcl3 q1_148 q1_33 q1_3 (Nat.le_of_ble_eq_true rfl) (Nat.le_of_ble_eq_true rfl) hn ?_
  have h2 := Ar.bl (Bl.new (c := 3) (z := 6) hn (by omega)) h2
  have h3 := G3.bl (Bl.new (c := 3) (z := 6) hn (by omega)) h3
  have h10 := G3.bl (Bl.new (c := 3) (z := 6) hn (by omega)) h10
  have h17 := G3.bl (Bl.new (c := 3) (z := 6) hn (by omega)) h17
  have h24 := G3.bl (Bl.new (c := 3) (z := 6) hn (by omega)) h24
  have h31 := G3.bl (Bl.new (c := 3) (z := 6) hn (by omega)) h31
  have h38 := G3.bl (Bl.new (c := 3) (z := 6) hn (by omega)) h38
  have h45 := G3.bl (Bl.new (c := 3) (z := 6) hn (by omega)) h45
  have h52 := G3.bl (Bl.new (c := 3) (z := 6) hn (by omega)) h52
  have h59 := G3.bl (Bl.new (c := 3) (z := 6) hn (by omega)) h59
  have h66 := G3.bl (Bl.new (c := 3) (z := 6) hn (by omega)) h66
  have h73 := G3.bl (Bl.new (c := 3) (z := 6) hn (by omega)) h73
  have h80 := G3.bl (Bl.new (c := 3) (z := 6) hn (by omega)) h80
  have h87 := G3.bl (Bl.new (c := 3) (z := 6) hn (by omega)) h87
  have h94 := G3.bl (Bl.new (c := 3) (z := 6) hn (by omega)) h94
  have h101 := G3.bl (Bl.new (c := 3) (z := 6) hn (by omega)) h101
  have w1 := w1.bl (Bl.new (c := 3) (z := 6) hn (by omega))
  have k1 := kn (c := 3) (z := 6) k1 hn (by omega)
  have ho := ho.bl (Bl.new (c := 3) (z := 6) hn (by omega))
  have hk := kn (c := 3) (z := 6) hk hn (by omega)
  have hF := hF.new (c := 3) (z := 6) hn (by omega)
  have h108 := Ar.mk (c := 3) (z := 6) hn
  have hn : g_nx _ = a + 109 := nn (c := 3) (z := 6) hn
  refine g_dup 38 dX0_init_37 rfl rfl ?_
  refine g_callI (mc1 := 6) (ms1 := 190) (b := (a + 108)) (rest := [.ref (a + 108), .int (15), .ref (a + 1)]) (av := []) kX3_init 41 dX0_init_38 rfl rfl mbX0_21 imX3_init rfl rfl (Nat.le_of_ble_eq_true rfl) (Nat.le_of_ble_eq_true rfl) (Nat.le_of_ble_eq_true rfl) (iX3_init h108 hn ?_)
  intro M109 hf hn2 hg
  show Go X _ _ _ kX0_init Q 41 [(1, .int (15)), (0, .ref a)] [.ref (a + 108), .int (15), .ref (a + 1)] M109 114 3170
  have h2 := Ar.bl (Bl.fr hf (by omega)) h2
  have h3 := G3.bl (Bl.fr hf (by omega)) h3
  have h10 := G3.bl (Bl.fr hf (by omega)) h10
  have h17 := G3.bl (Bl.fr hf (by omega)) h17
  have h24 := G3.bl (Bl.fr hf (by omega)) h24
  have h31 := G3.bl (Bl.fr hf (by omega)) h31
  have h38 := G3.bl (Bl.fr hf (by omega)) h38
  have h45 := G3.bl (Bl.fr hf (by omega)) h45
  have h52 := G3.bl (Bl.fr hf (by omega)) h52
  have h59 := G3.bl (Bl.fr hf (by omega)) h59
  have h66 := G3.bl (Bl.fr hf (by omega)) h66
  have h73 := G3.bl (Bl.fr hf (by omega)) h73
  have h80 := G3.bl (Bl.fr hf (by omega)) h80
  have h87 := G3.bl (Bl.fr hf (by omega)) h87
  have h94 := G3.bl (Bl.fr hf (by omega)) h94
  have h101 := G3.bl (Bl.fr hf (by omega)) h101
  have w1 := w1.bl (Bl.fr hf (by omega))
  have k1 := (Bl.fr (lo := a + 1) (hi := a + 2) hf (by omega)).k (by omega) (by omega) k1
  have ho := ho.bl (Bl.fr hf (by omega))
  have hk := (Bl.fr (lo := a) (hi := a + 1) hf (by omega)).k (by omega) (by omega) hk
  have hF := hF.tr hf (by omega)
  have hn : g_nx M109 = a + 115 := hn2
  have h108 := hg
  refine g_aastore (t := 4) 42 dX0_init_41 rfl k1 (by decide) rfl h108.1 gcl3.1 (vp_lit rfl) ?_
  rw [show (15 : Int32).toNatClampNeg = 15 from rfl]
  have h2 := Ar.bl (Bl.wr (c := a + 1) (i := 15) (v := some (a + 108)) (by omega)) h2
  have h3 := G3.bl (Bl.wr (c := a + 1) (i := 15) (v := some (a + 108)) (by omega)) h3
  have h10 := G3.bl (Bl.wr (c := a + 1) (i := 15) (v := some (a + 108)) (by omega)) h10
  have h17 := G3.bl (Bl.wr (c := a + 1) (i := 15) (v := some (a + 108)) (by omega)) h17
  have h24 := G3.bl (Bl.wr (c := a + 1) (i := 15) (v := some (a + 108)) (by omega)) h24
  have h31 := G3.bl (Bl.wr (c := a + 1) (i := 15) (v := some (a + 108)) (by omega)) h31
  have h38 := G3.bl (Bl.wr (c := a + 1) (i := 15) (v := some (a + 108)) (by omega)) h38
  have h45 := G3.bl (Bl.wr (c := a + 1) (i := 15) (v := some (a + 108)) (by omega)) h45
  have h52 := G3.bl (Bl.wr (c := a + 1) (i := 15) (v := some (a + 108)) (by omega)) h52
  have h59 := G3.bl (Bl.wr (c := a + 1) (i := 15) (v := some (a + 108)) (by omega)) h59
  have h66 := G3.bl (Bl.wr (c := a + 1) (i := 15) (v := some (a + 108)) (by omega)) h66
  have h73 := G3.bl (Bl.wr (c := a + 1) (i := 15) (v := some (a + 108)) (by omega)) h73
  have h80 := G3.bl (Bl.wr (c := a + 1) (i := 15) (v := some (a + 108)) (by omega)) h80
  have h87 := G3.bl (Bl.wr (c := a + 1) (i := 15) (v := some (a + 108)) (by omega)) h87
  have h94 := G3.bl (Bl.wr (c := a + 1) (i := 15) (v := some (a + 108)) (by omega)) h94
  have h101 := G3.bl (Bl.wr (c := a + 1) (i := 15) (v := some (a + 108)) (by omega)) h101
  have h108 := G3.bl (Bl.wr (c := a + 1) (i := 15) (v := some (a + 108)) (by omega)) h108
  have w1 := w1.wr (i := 15) (v := some (a + 108))
  have ho := ho.bl (Bl.wr (c := a + 1) (i := 15) (v := some (a + 108)) (by omega))
  have hF := hF.wr (c := a + 1) (i := 15) (v := some (a + 108)) (by omega)
  have hk := kwr (c := a + 1) (i := 15) (v := some (a + 108)) hk
  have k1 := kwr (c := a + 1) (i := 15) (v := some (a + 108)) k1
  have hn := nwr (c := a + 1) (i := 15) (v := some (a + 108)) hn
  refine g_iinc (16) 0 45 [(1, .int (16)), (0, .ref a)] dX0_init_42 rfl rfl rfl (Nat.le_of_ble_eq_true rfl) rfl ?_
  refine g_goto 23 dX0_init_45 rfl ?_
  refine g_iload_n 0 24 dX0_init_23 rfl rfl ?_
  refine g_bipush (17) 26 dX0_init_24 rfl rfl ?_
  refine g_icmp_ge 48 29 dX0_init_26 rfl rfl (fun q => absurd q (by decide)) (fun _ => ?_)
  refine g_aload_n 1 30 dX0_init_29 rfl rfl ?_
  refine g_getR 33 (a + 1) dX0_init_30 rfl flX0_13 hk (ho.1 0) ?_
  refine g_iload_n 0 34 dX0_init_33 rfl rfl ?_
  refine i_newo 37 (a + 115) dX0_init_34 rfl gcl3 q1_148 q1_33 q1_3 (Nat.le_of_ble_eq_true rfl) (Nat.le_of_ble_eq_true rfl) hn ?_
  have h2 := Ar.bl (Bl.new (c := 3) (z := 6) hn (by omega)) h2
  have h3 := G3.bl (Bl.new (c := 3) (z := 6) hn (by omega)) h3
  have h10 := G3.bl (Bl.new (c := 3) (z := 6) hn (by omega)) h10
  have h17 := G3.bl (Bl.new (c := 3) (z := 6) hn (by omega)) h17
  have h24 := G3.bl (Bl.new (c := 3) (z := 6) hn (by omega)) h24
  have h31 := G3.bl (Bl.new (c := 3) (z := 6) hn (by omega)) h31
  have h38 := G3.bl (Bl.new (c := 3) (z := 6) hn (by omega)) h38
  have h45 := G3.bl (Bl.new (c := 3) (z := 6) hn (by omega)) h45
  have h52 := G3.bl (Bl.new (c := 3) (z := 6) hn (by omega)) h52
  have h59 := G3.bl (Bl.new (c := 3) (z := 6) hn (by omega)) h59
  have h66 := G3.bl (Bl.new (c := 3) (z := 6) hn (by omega)) h66
  have h73 := G3.bl (Bl.new (c := 3) (z := 6) hn (by omega)) h73
  have h80 := G3.bl (Bl.new (c := 3) (z := 6) hn (by omega)) h80
  have h87 := G3.bl (Bl.new (c := 3) (z := 6) hn (by omega)) h87
  have h94 := G3.bl (Bl.new (c := 3) (z := 6) hn (by omega)) h94
  have h101 := G3.bl (Bl.new (c := 3) (z := 6) hn (by omega)) h101
  have h108 := G3.bl (Bl.new (c := 3) (z := 6) hn (by omega)) h108
  have w1 := w1.bl (Bl.new (c := 3) (z := 6) hn (by omega))
  have k1 := kn (c := 3) (z := 6) k1 hn (by omega)
  have ho := ho.bl (Bl.new (c := 3) (z := 6) hn (by omega))
  have hk := kn (c := 3) (z := 6) hk hn (by omega)
  have hF := hF.new (c := 3) (z := 6) hn (by omega)
  have h115 := Ar.mk (c := 3) (z := 6) hn
  have hn : g_nx _ = a + 116 := nn (c := 3) (z := 6) hn
  refine g_dup 38 dX0_init_37 rfl rfl ?_
  refine g_callI (mc1 := 6) (ms1 := 190) (b := (a + 115)) (rest := [.ref (a + 115), .int (16), .ref (a + 1)]) (av := []) kX3_init 41 dX0_init_38 rfl rfl mbX0_21 imX3_init rfl rfl (Nat.le_of_ble_eq_true rfl) (Nat.le_of_ble_eq_true rfl) (Nat.le_of_ble_eq_true rfl) (iX3_init h115 hn ?_)
  intro M116 hf hn2 hg
  show Go X _ _ _ kX0_init Q 41 [(1, .int (16)), (0, .ref a)] [.ref (a + 115), .int (16), .ref (a + 1)] M116 121 3366
  have h2 := Ar.bl (Bl.fr hf (by omega)) h2
  have h3 := G3.bl (Bl.fr hf (by omega)) h3
  have h10 := G3.bl (Bl.fr hf (by omega)) h10
  have h17 := G3.bl (Bl.fr hf (by omega)) h17
  have h24 := G3.bl (Bl.fr hf (by omega)) h24
  have h31 := G3.bl (Bl.fr hf (by omega)) h31
  have h38 := G3.bl (Bl.fr hf (by omega)) h38
  have h45 := G3.bl (Bl.fr hf (by omega)) h45
  have h52 := G3.bl (Bl.fr hf (by omega)) h52
  have h59 := G3.bl (Bl.fr hf (by omega)) h59
  have h66 := G3.bl (Bl.fr hf (by omega)) h66
  have h73 := G3.bl (Bl.fr hf (by omega)) h73
  have h80 := G3.bl (Bl.fr hf (by omega)) h80
  have h87 := G3.bl (Bl.fr hf (by omega)) h87
  have h94 := G3.bl (Bl.fr hf (by omega)) h94
  have h101 := G3.bl (Bl.fr hf (by omega)) h101
  have h108 := G3.bl (Bl.fr hf (by omega)) h108
  have w1 := w1.bl (Bl.fr hf (by omega))
  have k1 := (Bl.fr (lo := a + 1) (hi := a + 2) hf (by omega)).k (by omega) (by omega) k1
  have ho := ho.bl (Bl.fr hf (by omega))
  have hk := (Bl.fr (lo := a) (hi := a + 1) hf (by omega)).k (by omega) (by omega) hk
  have hF := hF.tr hf (by omega)
  have hn : g_nx M116 = a + 122 := hn2
  have h115 := hg
  refine g_aastore (t := 4) 42 dX0_init_41 rfl k1 (by decide) rfl h115.1 gcl3.1 (vp_lit rfl) ?_
  rw [show (16 : Int32).toNatClampNeg = 16 from rfl]
  have h2 := Ar.bl (Bl.wr (c := a + 1) (i := 16) (v := some (a + 115)) (by omega)) h2
  have h3 := G3.bl (Bl.wr (c := a + 1) (i := 16) (v := some (a + 115)) (by omega)) h3
  have h10 := G3.bl (Bl.wr (c := a + 1) (i := 16) (v := some (a + 115)) (by omega)) h10
  have h17 := G3.bl (Bl.wr (c := a + 1) (i := 16) (v := some (a + 115)) (by omega)) h17
  have h24 := G3.bl (Bl.wr (c := a + 1) (i := 16) (v := some (a + 115)) (by omega)) h24
  have h31 := G3.bl (Bl.wr (c := a + 1) (i := 16) (v := some (a + 115)) (by omega)) h31
  have h38 := G3.bl (Bl.wr (c := a + 1) (i := 16) (v := some (a + 115)) (by omega)) h38
  have h45 := G3.bl (Bl.wr (c := a + 1) (i := 16) (v := some (a + 115)) (by omega)) h45
  have h52 := G3.bl (Bl.wr (c := a + 1) (i := 16) (v := some (a + 115)) (by omega)) h52
  have h59 := G3.bl (Bl.wr (c := a + 1) (i := 16) (v := some (a + 115)) (by omega)) h59
  have h66 := G3.bl (Bl.wr (c := a + 1) (i := 16) (v := some (a + 115)) (by omega)) h66
  have h73 := G3.bl (Bl.wr (c := a + 1) (i := 16) (v := some (a + 115)) (by omega)) h73
  have h80 := G3.bl (Bl.wr (c := a + 1) (i := 16) (v := some (a + 115)) (by omega)) h80
  have h87 := G3.bl (Bl.wr (c := a + 1) (i := 16) (v := some (a + 115)) (by omega)) h87
  have h94 := G3.bl (Bl.wr (c := a + 1) (i := 16) (v := some (a + 115)) (by omega)) h94
  have h101 := G3.bl (Bl.wr (c := a + 1) (i := 16) (v := some (a + 115)) (by omega)) h101
  have h108 := G3.bl (Bl.wr (c := a + 1) (i := 16) (v := some (a + 115)) (by omega)) h108
  have h115 := G3.bl (Bl.wr (c := a + 1) (i := 16) (v := some (a + 115)) (by omega)) h115
  have w1 := w1.wr (i := 16) (v := some (a + 115))
  have ho := ho.bl (Bl.wr (c := a + 1) (i := 16) (v := some (a + 115)) (by omega))
  have hF := hF.wr (c := a + 1) (i := 16) (v := some (a + 115)) (by omega)
  have hk := kwr (c := a + 1) (i := 16) (v := some (a + 115)) hk
  have k1 := kwr (c := a + 1) (i := 16) (v := some (a + 115)) k1
  have hn := nwr (c := a + 1) (i := 16) (v := some (a + 115)) hn
  refine g_iinc (17) 0 45 [(1, .int (17)), (0, .ref a)] dX0_init_42 rfl rfl rfl (Nat.le_of_ble_eq_true rfl) rfl ?_
  refine g_goto 23 dX0_init_45 rfl ?_
  refine g_iload_n 0 24 dX0_init_23 rfl rfl ?_
  refine g_bipush (17) 26 dX0_init_24 rfl rfl ?_
  refine g_icmp_ge 48 29 dX0_init_26 rfl rfl (fun _ => ?_) (fun q => absurd q (by decide))
  exact g_vret dX0_init_48 rfl (Nat.le_of_ble_eq_true rfl) (Nat.le_of_ble_eq_true rfl) (hQ _ hF hn ⟨hk, ho, k1, w1, h2, h3, h10, h17, h24, h31, h38, h45, h52, h59, h66, h73, h80, h87, h94, h101, h108, h115⟩)
