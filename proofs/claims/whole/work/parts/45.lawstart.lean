/-! The law from its entry: what is known of the start, the two objects. -/
theorem room_le {s : State} {pl : Platform} {r r' : Room} (hf : r.frames ≤ r'.frames) (hl : r.locals ≤ r'.locals) (hc : r.cells ≤ r'.cells) (hs : r.slots ≤ r'.slots) (h : s.hasRoom pl r' = true) : s.hasRoom pl r = true := by
  simp only [State.hasRoom, Bool.and_eq_true, decide_eq_true_eq] at h ⊢
  obtain ⟨⟨⟨⟨h1, h2, h3, h4, h5, h6⟩, h7⟩, h8⟩, h9⟩ := h
  refine ⟨⟨⟨⟨?_, ?_, ?_, ?_, ?_, h6⟩, ?_⟩, ?_⟩, h9⟩ <;> omega
theorem lw_in {w : Cond} (i : Nat) (h : tables_1[i]? = some w) : w ∈ lw_tbl := List.mem_append_right _ (List.mem_of_getElem? h)
theorem arr_c {args : Array Value} {s : State} {ty : FieldType} (h : (Cond.arrayClass ty).before args s = true) (ht : ∀ C, ty ≠ .object C) : ∃ cA : ClassId, ArrOfT s cA ty ∧ va_RA s cA ty := by
  obtain ⟨c, k, comp, h1, h2, h3⟩ := Cond.arrayClass_spec h
  refine ⟨c, fun n z => ⟨fun k h => (by cases h), k, h2, comp, h3⟩, ?_⟩
  cases ty with
  | object C => exact absurd rfl (ht C)
  | _ => exact h1
theorem arr_o {args : Array Value} {s : State} {C : String} (h : (Cond.arrayOver (.object C)).before args s = true) : ∃ cA : ClassId, ArrOfT s cA (.object C) ∧ va_RA s cA (.object C) := by
  obtain ⟨comp, c, k, h1, h2, h3, h4, h5⟩ := Cond.arrayOver_spec h
  exact ⟨c, fun n z => ⟨fun k h => (by cases h), k, h3, comp, h4⟩, k, comp, h3, h4, h1, h5⟩
/-- what holds at the law's entry -/
def lw_At (p : Program) (s : State) (m : MethodId) (meth : Method) (c : Code) (b L : Nat) (xs : Nat → Int32) : Prop :=
  p.tables.exec = Jvm.exec ∧ c.code = code ∧ meth.sig.returnType = ret ∧ c.maxLocals = 4 ∧ s.vm.findClass RL = some m.cls ∧ (∀ w ∈ lw_tbl, w.before #[Value.ref b] s = true) ∧ va_X b L xs s s.heap ∧ b < s.heap.size ∧ meth.locks = false ∧ meth.name = "law" ∧ (Jvm.Cond.and given_1 narrow_1).before #[Value.ref b] s = true
def g_stm : Term := .string RX2 89
theorem lw_el : ∀ j : Nat, j < 113 → Cond.eq (.elem (.field g_stm "java/lang/String" "value" "[B") (.int (Int32.ofNat j))) (.int (g_vb.getD j 0)) ∈ flatC (Jvm.Cond.and given_1 narrow_1) := by decide +kernel
theorem lw_str {s : State} {b : Nat} (hts : ∀ w ∈ lw_tbl, w.before #[Value.ref b] s = true) (hgv : (Jvm.Cond.and given_1 narrow_1).before #[Value.ref b] s = true) : ∃ adK adV : Nat → Nat, ∀ (l : Launch) (D : va_G) (aC : Nat → ClassId), g_Str (l, D, aC, s.heap.size, adK, adV) s := by
  have hf := flat_of_before _ hgv
  have hA : ∀ a : Nat, a < s.heap.size → ¬ (fun q => s.heap.size ≤ q) a := fun a h => Nat.not_le.mpr h
  obtain ⟨adK, adV, hS, hE⟩ := vk_Sof (args := #[Value.ref b]) (s := s) (N := 1) (tm := fun _ => g_stm) (len := [113]) (byt := [g_vb]) (A := fun q => s.heap.size ≤ q)
    (fun i hi => by have : i = 0 := by omega
                    subst this; decide)
    (fun i _ => hf _ (by decide +kernel)) (fun i _ => hf _ (by decide +kernel)) (fun i _ => hf _ (by decide +kernel))
    (fun i hi => by have : i = 0 := by omega
                    subst this; exact hf _ (by decide +kernel))
    (fun i hi j hj => by have : i = 0 := by omega
                         subst this; exact hf _ (lw_el j hj))
    (fun i j hi hj hne => absurd (by omega) hne) hA
  refine ⟨adK, adV, fun l D aC => ⟨vk_R.of (hts _ (lw_in 531 (by decide +kernel))) (hE 0 (by omega)), hS, ?_, ?_, ?_, ?_⟩⟩
  · intro q hq
    simp only [g_nst, List.mem_cons, List.not_mem_nil, or_false] at hq
    rcases hq with rfl | rfl | rfl | rfl | rfl | rfl | rfl
    · exact va_Nw.of rfl (hts _ (lw_in 28 (by decide +kernel)))
    · exact va_Nw.of rfl (hts _ (lw_in 40 (by decide +kernel)))
    · exact va_Nw.of rfl (hts _ (lw_in 169 (by decide +kernel)))
    · exact va_Nw.of rfl (hts _ (lw_in 224 (by decide +kernel)))
    · exact va_Nw.of rfl (hts _ (lw_in 447 (by decide +kernel)))
    · exact va_Nw.of rfl (hts _ (lw_in 692 (by decide +kernel)))
    · exact va_Nw.of rfl (hts _ (lw_in 746 (by decide +kernel)))
  · intro C hC
    simp only [List.mem_cons, List.not_mem_nil, or_false] at hC
    rcases hC with rfl | rfl | rfl
    · exact va_AO.of (hts _ (lw_in 149 (by decide +kernel)))
    · exact va_AO.of (hts _ (lw_in 108 (by decide +kernel)))
    · exact va_AO.of (hts _ (lw_in 141 (by decide +kernel)))
  · exact va_Zof (hts _ (lw_in 541 (by decide +kernel))) (hts _ (lw_in 13 (by decide +kernel))) (va_eqt (hf _ (by decide +kernel))) hA
  · exact va_Zqof (hts _ (lw_in 557 (by decide +kernel))) (hts _ (lw_in 15 (by decide +kernel))) (hf _ (by decide +kernel)) hA
theorem lw_cls {s : State} {b : Nat} (hts : ∀ w ∈ gtbl, w.before #[Value.ref b] s = true) : ∃ D : va_G, ∀ (k : Nat) (q : vw_C), vwCl[k]? = some q → u_Kn s q.1 q.2.1 q.2.2 (D.1 k) (D.2 k) := by
  obtain ⟨c0, i0, k0⟩ := u_known (C := RX0) (T := TX0) (N := 4) (n := 4) hts gcl0.2.1 (hts _ q1_143)
  obtain ⟨c1, i1, k1⟩ := u_known (C := RX1) (T := TX1) (N := 9) (n := 9) hts gcl1.2.1 (hts _ q1_182)
  obtain ⟨c2, i2, k2⟩ := u_known (C := RX2) (T := TX2) (N := 13) (n := 13) hts gcl2.2.1 (hts _ q1_223)
  obtain ⟨c3, i3, k3⟩ := u_known (C := RX3) (T := TX3) (N := 6) (n := 6) hts gcl3.2.1 (hts _ q1_33)
  obtain ⟨c4, i4, k4⟩ := u_known (C := RX4) (T := TX4) (N := 2) (n := 2) hts gcl4.2.1 (hts _ q1_168)
  obtain ⟨c5, i5, k5⟩ := u_known (C := RX5) (T := TX5) (N := 7) (n := 7) hts gcl5.2.1 (hts _ q1_39)
  obtain ⟨c6, i6, k6⟩ := u_known (C := RX6) (T := TX6) (N := 8) (n := 8) hts gcl6.2.1 (hts _ q1_229)
  obtain ⟨c7, i7, k7⟩ := u_known (C := RX7) (T := TX7) (N := 8) (n := 8) hts gcl7.2.1 (hts _ q1_27)
  obtain ⟨c8, i8, k8⟩ := u_known (C := RX8) (T := TX8) (N := 17) (n := 17) hts gcl8.2.1 (hts _ q1_19)
  obtain ⟨c9, i9, k9⟩ := u_known (C := RX9) (T := TX9) (N := 50) (n := 50) hts gcl9.2.1 (hts _ q4_237)
  refine ⟨(fun k => match k with | 0 => c0 | 1 => c1 | 2 => c2 | 3 => c3 | 4 => c4 | 5 => c5 | 6 => c6 | 7 => c7 | 8 => c8 | _ => c9, fun k => match k with | 0 => i0 | 1 => i1 | 2 => i2 | 3 => i3 | 4 => i4 | 5 => i5 | 6 => i6 | 7 => i7 | 8 => i8 | _ => i9), ?_⟩
  intro k q hq
  match k, hq with
  | 0, hq => cases hq; exact k0
  | 1, hq => cases hq; exact k1
  | 2, hq => cases hq; exact k2
  | 3, hq => cases hq; exact k3
  | 4, hq => cases hq; exact k4
  | 5, hq => cases hq; exact k5
  | 6, hq => cases hq; exact k6
  | 7, hq => cases hq; exact k7
  | 8, hq => cases hq; exact k8
  | 9, hq => cases hq; exact k9
  | k + 10, hq => simp [vwCl] at hq
theorem lw_arr {s : State} {b : Nat} (hts : ∀ w ∈ lw_tbl, w.before #[Value.ref b] s = true) (hgs : ∀ w ∈ gtbl, w.before #[Value.ref b] s = true) : ∃ aC : Nat → ClassId, ∀ (k : Nat) (q : ClassId × FieldType), (g_atys aC)[k]? = some q → ArrOfT s q.1 q.2 ∧ va_RA s q.1 q.2 := by
  obtain ⟨c0, h0⟩ := arr_c (hgs _ q1_71) (fun C q => by cases q)
  obtain ⟨c1, h1⟩ := arr_c (hgs _ q3_181) (fun C q => by cases q)
  obtain ⟨c2, h2⟩ := arr_c (hgs _ q2_87) (fun C q => by cases q)
  obtain ⟨c3, h3⟩ := arr_c (hgs _ q2_145) (fun C q => by cases q)
  obtain ⟨c4, h4⟩ := arr_o (C := RX3) (hts _ (lw_in 149 (by decide +kernel)))
  obtain ⟨c5, h5⟩ := arr_o (C := RX6) (hts _ (lw_in 108 (by decide +kernel)))
  obtain ⟨c6, h6⟩ := arr_o (C := RX7) (hts _ (lw_in 141 (by decide +kernel)))
  refine ⟨fun k => match k with | 0 => c0 | 1 => c1 | 2 => c2 | 3 => c3 | 4 => c4 | 5 => c5 | _ => c6, ?_⟩
  intro k q hq
  match k, hq with
  | 0, hq => cases hq; exact h0
  | 1, hq => cases hq; exact h1
  | 2, hq => cases hq; exact h2
  | 3, hq => cases hq; exact h3
  | 4, hq => cases hq; exact h4
  | 5, hq => cases hq; exact h5
  | 6, hq => cases hq; exact h6
  | k + 7, hq => simp [g_atys] at hq
theorem r_loc {S : State → Array Value → Prop} {Z : List Frame → Array Value → State → State → Prop} {X : gX} {d mc ms : Nat} {k : gK} {pc : Nat} {L L2 : List (Nat × Value)} {st : List Value} {M : gM} {c z : Nat} (ks : List Nat) (hl : lv_pick L ks = L2) (h : Gs S Z X d mc ms k pc L2 st M c z) : Gs S Z X d mc ms k pc L st M c z := by
  intro p e s m args below meth cd A H locs ls hs hF hA hB hW hS hl2
  exact h p e s m args below meth cd A H locs ls hs hF hA hB hW hS (lv_sub hl2 ks hl)
/-- nothing is there yet, but the cells below n -/
def g_no (n : Nat) : gM := (fun _ => none, fun _ _ => none, fun _ _ => 0, fun _ _ => 0, n)
theorem lw_from {S : State → Array Value → Prop} {X : gX} {a b Ls : Nat} {xs : Nat → Int32} {Inv : gM → Prop} (hX : ∀ s args, S s args → va_X b Ls xs s s.heap ∧ b < s.heap.size) (hL : Ls ≤ 3072) (hO : ObAll X 1311 Inv a (a + 329)) (hI : ∀ M, G8 M a → G9 M (a + 329) → g_nx M = a + 353 → Inv M) : Gs S lw_Z X 1312 600000 7302250 kL 0 [(0, .ref b)] [] (g_no a) 0 0 := by
  have hb : g_nx (g_no a) = a := rfl
  refine r_newi 3 a dL_law_0 rfl gcl8 q1_18 q1_19 q1_1 (Nat.le_of_ble_eq_true rfl) (Nat.le_of_ble_eq_true rfl) hb ?_
  have hA : Ar (g_new (g_no a) 8 17) a 8 17 := Ar.mk hb
  have hn : g_nx (g_new (g_no a) 8 17) = a + 1 := nn hb
  generalize g_new (g_no a) 8 17 = M1 at hA hn ⊢
  refine r_dup 4 dL_law_3 rfl rfl ?_
  refine r_callI (mc1 := 328) (ms1 := 11110) (b := a) (rest := [.ref a]) (av := []) kX8_init 7 dL_law_4 rfl rfl mbL_9 imX8_init rfl rfl (Nat.le_of_ble_eq_true rfl) (Nat.le_of_ble_eq_true rfl) (Nat.le_of_ble_eq_true rfl) (iX8_init hA hn ?_)
  intro M2 hF2 hn2 g8
  show Gs S lw_Z X 1312 600000 7302250 kL 7 [(0, .ref b)] [.ref a] M2 329 11127
  refine r_astore_n 8 [(1, .ref a), (0, .ref b)] dL_law_7 rfl (Nat.le_of_ble_eq_true rfl) rfl ?_
  refine r_newi 11 (a + 329) dL_law_8 rfl gcl9 q4_236 q4_237 q1_12 (Nat.le_of_ble_eq_true rfl) (Nat.le_of_ble_eq_true rfl) hn2 ?_
  have hA9 : Ar (g_new M2 9 50) (a + 329) 9 50 := Ar.mk hn2
  have hn9 : g_nx (g_new M2 9 50) = a + 329 + 1 := nn hn2
  have g8b : G8 (g_new M2 9 50) a := G8.bl (Bl.new hn2 (Nat.le_refl _)) g8
  generalize g_new M2 9 50 = M3 at hA9 hn9 g8b ⊢
  refine r_dup 12 dL_law_11 rfl rfl ?_
  refine r_callI (mc1 := 23) (ms1 := 26177) (b := a + 329) (rest := [.ref (a + 329)]) (av := []) kX9_init 15 dL_law_12 rfl rfl mbL_12 imX9_init rfl rfl (Nat.le_of_ble_eq_true rfl) (Nat.le_of_ble_eq_true rfl) (Nat.le_of_ble_eq_true rfl) (iX9_init hA9 hn9 ?_)
  intro M4 hF4 hn4 g9
  show Gs S lw_Z X 1312 600000 7302250 kL 15 [(1, .ref a), (0, .ref b)] [.ref (a + 329)] M4 353 37354
  have g8c : G8 M4 a := G8.bl (Bl.fr hF4 (Nat.le_refl _)) g8b
  refine r_astore_n 16 [(2, .ref (a + 329)), (1, .ref a), (0, .ref b)] dL_law_15 rfl (Nat.le_of_ble_eq_true rfl) rfl ?_
  refine r_iconst (0) 17 dL_law_16 rfl rfl ?_
  refine r_istore_n 18 [(3, .int 0), (2, .ref (a + 329)), (1, .ref a), (0, .ref b)] dL_law_17 rfl (Nat.le_of_ble_eq_true rfl) rfl ?_
  refine r_loc [0, 3, 2, 1] rfl ?_
  exact lw_loop (d := 1311) hX hL hO (Ls + 1) 0 353 37354 M4 (by omega) (by omega) (Nat.le_of_ble_eq_true rfl) (Nat.le_of_ble_eq_true rfl) (hI M4 g8c g9 hn4)
/-- THE LAW, out of its calls: what holds of the two objects, how it begins, that each call keeps it and both answer alike -/
theorem lw_all (Inv : Nat → gM → Prop) (hO : ∀ (X : gX) (a : Nat), ObAll X 1311 (Inv a) a (a + 329)) (hI : ∀ a M, G8 M a → G9 M (a + 329) → g_nx M = a + 353 → Inv a M) {p : Program} {e : Env} {s : State} {m : MethodId} {below : List Frame} {meth : Method} {c : Code} (l : Launch) {b L : Nat} {xs : Nat → Int32} (hL : L ≤ 3072) (C0 : lw_At p s m meth c b L xs) : W p l e room_1 s m #[Value.ref b] below meth c s.heap [] 0 0 (lw_Z below #[Value.ref b] s) (entryFrame m ([Value.ref b] : List Value).toArray 4) := by
  obtain ⟨hx, hb, hr, hml, hown, hts, hX, hbl, hlocks, hname, hgv⟩ := C0
  have hgs : ∀ w ∈ gtbl, w.before #[Value.ref b] s = true := fun w hw => hts w (List.mem_filter.mp hw).1
  obtain ⟨D, hD⟩ := lw_cls hgs
  obtain ⟨aC, haC⟩ := lw_arr hts hgs
  obtain ⟨adK, adV, hStr⟩ := lw_str hts hgv
  have key := lw_from (S := fun s' args' => s' = s ∧ args' = #[Value.ref b]) (X := (l, D, aC, s.heap.size, adK, adV)) (a := s.heap.size) (b := b) (Ls := L) (xs := xs) (Inv := Inv s.heap.size) (fun s' args' h => by obtain ⟨rfl, _⟩ := h; exact ⟨hX, hbl⟩) hL (hO _ _) (fun M => hI _ M)
  have hl := lv_entry ([.ref b]) (n := 4) (Nat.le_of_ble_eq_true rfl)
  rw [lg_entry_eq]
  generalize (lg_sl ([.ref b]) ++ List.replicate (4 - (lg_sl ([.ref b])).length) Slot.unset).toArray = ls at hl ⊢
  have hl : lv_has ls 4 [(0, .ref b)] := hl
  intro T hT Xs
  refine key p e s m #[Value.ref b] below meth c (fun q => s.heap.size ≤ q) s.heap [] ls ⟨⟨rfl, rfl⟩, fun q h => h⟩ ⟨hx, hb, hr, hml, hown, hgs, hlocks, hname, ⟨hD, haC⟩, hStr l D aC⟩ (fun q h => h) (fun q h => h) ⟨rfl, fun a h => absurd rfl h⟩ va_S.rf hl T hT { Xs with room := room_le (r' := room_1) (Nat.le_of_ble_eq_true rfl) (Nat.le_of_ble_eq_true rfl) (Nat.le_refl _) (Nat.le_refl _) Xs.room }
