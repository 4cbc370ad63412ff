theorem dJ0_length_8abf5_0 : decode cJ0_length_8abf5 0 = .ok (.aload_n 0, 1) := by decide +kernel
theorem dJ0_length_8abf5_1 : decode cJ0_length_8abf5 1 = .ok (.getfield 9, 3) := by decide +kernel
theorem dJ0_length_8abf5_4 : decode cJ0_length_8abf5 4 = .ok (.arraylength, 1) := by decide +kernel
theorem dJ0_length_8abf5_5 : decode cJ0_length_8abf5 5 = .ok (.aload_n 0, 1) := by decide +kernel
theorem dJ0_length_8abf5_6 : decode cJ0_length_8abf5 6 = .ok (.invokevirtual 335, 3) := by decide +kernel
theorem dJ0_length_8abf5_9 : decode cJ0_length_8abf5 9 = .ok (.ishr, 1) := by decide +kernel
theorem dJ0_length_8abf5_10 : decode cJ0_length_8abf5 10 = .ok (.ireturn, 1) := by decide +kernel
theorem dJ0_charAt_5068e_0 : decode cJ0_charAt_5068e 0 = .ok (.aload_n 0, 1) := by decide +kernel
theorem dJ0_charAt_5068e_1 : decode cJ0_charAt_5068e 1 = .ok (.invokevirtual 492, 3) := by decide +kernel
theorem dJ0_charAt_5068e_4 : decode cJ0_charAt_5068e 4 = .ok (.ifCond .eq 12, 3) := by decide +kernel
theorem dJ0_charAt_5068e_7 : decode cJ0_charAt_5068e 7 = .ok (.aload_n 0, 1) := by decide +kernel
theorem dJ0_charAt_5068e_8 : decode cJ0_charAt_5068e 8 = .ok (.getfield 9, 3) := by decide +kernel
theorem dJ0_charAt_5068e_11 : decode cJ0_charAt_5068e 11 = .ok (.iload_n 1, 1) := by decide +kernel
theorem dJ0_charAt_5068e_12 : decode cJ0_charAt_5068e 12 = .ok (.invokestatic 495, 3) := by decide +kernel
theorem dJ0_charAt_5068e_15 : decode cJ0_charAt_5068e 15 = .ok (.ireturn, 1) := by decide +kernel
theorem dJ0_charAt_5068e_16 : decode cJ0_charAt_5068e 16 = .ok (.aload_n 0, 1) := by decide +kernel
theorem dJ0_charAt_5068e_17 : decode cJ0_charAt_5068e 17 = .ok (.getfield 9, 3) := by decide +kernel
theorem dJ0_charAt_5068e_20 : decode cJ0_charAt_5068e 20 = .ok (.iload_n 1, 1) := by decide +kernel
theorem dJ0_charAt_5068e_21 : decode cJ0_charAt_5068e 21 = .ok (.invokestatic 498, 3) := by decide +kernel
theorem dJ0_charAt_5068e_24 : decode cJ0_charAt_5068e 24 = .ok (.ireturn, 1) := by decide +kernel
theorem dJ0_coder_7d493_0 : decode cJ0_coder_7d493 0 = .ok (.getstatic 38, 3) := by decide +kernel
theorem dJ0_coder_7d493_3 : decode cJ0_coder_7d493 3 = .ok (.ifCond .eq 10, 3) := by decide +kernel
theorem dJ0_coder_7d493_6 : decode cJ0_coder_7d493 6 = .ok (.aload_n 0, 1) := by decide +kernel
theorem dJ0_coder_7d493_7 : decode cJ0_coder_7d493 7 = .ok (.getfield 15, 3) := by decide +kernel
theorem dJ0_coder_7d493_10 : decode cJ0_coder_7d493 10 = .ok (.goto 4, 3) := by decide +kernel
theorem dJ0_coder_7d493_13 : decode cJ0_coder_7d493 13 = .ok (.iconst 1, 1) := by decide +kernel
theorem dJ0_coder_7d493_14 : decode cJ0_coder_7d493 14 = .ok (.ireturn, 1) := by decide +kernel
theorem dJ0_isLatin1_aae02_0 : decode cJ0_isLatin1_aae02 0 = .ok (.getstatic 38, 3) := by decide +kernel
theorem dJ0_isLatin1_aae02_3 : decode cJ0_isLatin1_aae02 3 = .ok (.ifCond .eq 14, 3) := by decide +kernel
theorem dJ0_isLatin1_aae02_6 : decode cJ0_isLatin1_aae02 6 = .ok (.aload_n 0, 1) := by decide +kernel
theorem dJ0_isLatin1_aae02_7 : decode cJ0_isLatin1_aae02 7 = .ok (.getfield 15, 3) := by decide +kernel
theorem dJ0_isLatin1_aae02_10 : decode cJ0_isLatin1_aae02 10 = .ok (.ifCond .ne 7, 3) := by decide +kernel
theorem dJ0_isLatin1_aae02_13 : decode cJ0_isLatin1_aae02 13 = .ok (.iconst 1, 1) := by decide +kernel
theorem dJ0_isLatin1_aae02_14 : decode cJ0_isLatin1_aae02 14 = .ok (.goto 4, 3) := by decide +kernel
theorem dJ0_isLatin1_aae02_17 : decode cJ0_isLatin1_aae02 17 = .ok (.iconst 0, 1) := by decide +kernel
theorem dJ0_isLatin1_aae02_18 : decode cJ0_isLatin1_aae02 18 = .ok (.ireturn, 1) := by decide +kernel
theorem dJ0_checkIndex_df160_0 : decode cJ0_checkIndex_df160 0 = .ok (.iload_n 0, 1) := by decide +kernel
theorem dJ0_checkIndex_df160_1 : decode cJ0_checkIndex_df160 1 = .ok (.iload_n 1, 1) := by decide +kernel
theorem dJ0_checkIndex_df160_2 : decode cJ0_checkIndex_df160 2 = .ok (.getstatic 1053, 3) := by decide +kernel
theorem dJ0_checkIndex_df160_5 : decode cJ0_checkIndex_df160 5 = .ok (.invokestatic 1059, 3) := by decide +kernel
theorem dJ0_checkIndex_df160_8 : decode cJ0_checkIndex_df160 8 = .ok (.pop, 1) := by decide +kernel
theorem dJ0_checkIndex_df160_9 : decode cJ0_checkIndex_df160 9 = .ok (.return_, 1) := by decide +kernel
theorem dJ1_charAt_3b067_0 : decode cJ1_charAt_3b067 0 = .ok (.iload_n 1, 1) := by decide +kernel
theorem dJ1_charAt_3b067_1 : decode cJ1_charAt_3b067 1 = .ok (.aload_n 0, 1) := by decide +kernel
theorem dJ1_charAt_3b067_2 : decode cJ1_charAt_3b067 2 = .ok (.arraylength, 1) := by decide +kernel
theorem dJ1_charAt_3b067_3 : decode cJ1_charAt_3b067 3 = .ok (.invokestatic 9, 3) := by decide +kernel
theorem dJ1_charAt_3b067_6 : decode cJ1_charAt_3b067 6 = .ok (.aload_n 0, 1) := by decide +kernel
theorem dJ1_charAt_3b067_7 : decode cJ1_charAt_3b067 7 = .ok (.iload_n 1, 1) := by decide +kernel
theorem dJ1_charAt_3b067_8 : decode cJ1_charAt_3b067 8 = .ok (.baload, 1) := by decide +kernel
theorem dJ1_charAt_3b067_9 : decode cJ1_charAt_3b067 9 = .ok (.sipush 255, 3) := by decide +kernel
theorem dJ1_charAt_3b067_12 : decode cJ1_charAt_3b067 12 = .ok (.iand, 1) := by decide +kernel
theorem dJ1_charAt_3b067_13 : decode cJ1_charAt_3b067 13 = .ok (.i2c, 1) := by decide +kernel
theorem dJ1_charAt_3b067_14 : decode cJ1_charAt_3b067 14 = .ok (.ireturn, 1) := by decide +kernel
theorem dJ3_checkIndex_8e157_0 : decode cJ3_checkIndex_8e157 0 = .ok (.iload_n 0, 1) := by decide +kernel
theorem dJ3_checkIndex_8e157_1 : decode cJ3_checkIndex_8e157 1 = .ok (.ifCond .lt 8, 3) := by decide +kernel
theorem dJ3_checkIndex_8e157_4 : decode cJ3_checkIndex_8e157 4 = .ok (.iload_n 0, 1) := by decide +kernel
theorem dJ3_checkIndex_8e157_5 : decode cJ3_checkIndex_8e157 5 = .ok (.iload_n 1, 1) := by decide +kernel
theorem dJ3_checkIndex_8e157_6 : decode cJ3_checkIndex_8e157 6 = .ok (.if_icmp .lt 10, 3) := by decide +kernel
theorem dJ3_checkIndex_8e157_9 : decode cJ3_checkIndex_8e157 9 = .ok (.aload_n 2, 1) := by decide +kernel
theorem dJ3_checkIndex_8e157_10 : decode cJ3_checkIndex_8e157 10 = .ok (.iload_n 0, 1) := by decide +kernel
theorem dJ3_checkIndex_8e157_11 : decode cJ3_checkIndex_8e157 11 = .ok (.iload_n 1, 1) := by decide +kernel
theorem dJ3_checkIndex_8e157_12 : decode cJ3_checkIndex_8e157 12 = .ok (.invokestatic 95, 3) := by decide +kernel
theorem dJ3_checkIndex_8e157_15 : decode cJ3_checkIndex_8e157 15 = .ok (.athrow, 1) := by decide +kernel
theorem dJ3_checkIndex_8e157_16 : decode cJ3_checkIndex_8e157 16 = .ok (.iload_n 0, 1) := by decide +kernel
theorem dJ3_checkIndex_8e157_17 : decode cJ3_checkIndex_8e157 17 = .ok (.ireturn, 1) := by decide +kernel
theorem qs_val : Cond.fieldLink RJ0 9 "java/lang/String" "value" "[B" ∈ gtbl := g_in7 (List.mem_of_getElem? (i := 206) rfl) rfl
theorem qs_cod : Cond.fieldLink RJ0 15 "java/lang/String" "coder" "B" ∈ gtbl := g_in7 (List.mem_of_getElem? (i := 207) rfl) rfl
theorem qs_cs : Cond.fieldLink RJ0 38 "java/lang/String" "COMPACT_STRINGS" "Z" ∈ gtbl := g_in3 (List.mem_of_getElem? (i := 60) rfl) rfl
theorem qs_fm : Cond.fieldLink RJ0 1053 "jdk/internal/util/Preconditions" "SIOOBE_FORMATTER" "Ljava/util/function/BiFunction;" ∈ gtbl := g_in3 (List.mem_of_getElem? (i := 76) rfl) rfl

section GS
variable {X : gX} {d mc ms : Nat} {k : gK} {Q : Option Value → gM → Prop} {pc : Nat} {L : List (Nat × Value)} {st : List Value} {M : gM} {c z : Nat}
theorem g_i2c {x : Int32} (pc' : Nat) (hd : decode (kB k) pc = .ok (.i2c, 1)) (hp : pc + 1 = pc') (h : Go X d mc ms k Q pc' L (.int ((x.toUInt32 % 65536).toInt32) :: st) M c z) : Go X d mc ms k Q pc L (.int x :: st) M c z := by
  subst hp
  exact fun p e s m args below meth cd A H locs ls hF hA hB hW hS hl => lv_i2c hF.1 hF.2.1 hd rfl (h p e s m args below meth cd A H locs ls hF hA hB hW hS hl)
theorem g_tret {v : Int32} {ty : FieldType} (hd : decode (kB k) pc = .ok (.ireturn, 1)) (hr : kR k = some ty) (hv : narrow ty (.int v) = .int v) (hcc : c ≤ mc) (hzz : z ≤ ms) (hq : Q (some (.int v)) M) : Go X d mc ms k Q pc L [.int v] M c z :=
  fun p e s m args below meth cd A H locs ls hF hA hB hW hS hl => W.widen hcc hzz (W.zret hF.1 hF.2.1 (hF.2.2.1.trans hr) hv (fun t ht hWm => ⟨⟨_, _, rfl, hq, by rw [ht]; exact hW⟩, hS.F ht⟩) hS.2.2 hd hF.2.2.2.2.2.2.1)
theorem g_sval (pc' : Nat) (hd : decode (kB k) pc = .ok (.getfield 9, 3)) (hp : pc + 3 = pc') (ho : kO k = RJ0) (h : Go X d mc ms k Q pc' L (.ref (X.2.2.2.2.2 0) :: st) M c z) : Go X d mc ms k Q pc L (.ref (X.2.2.2.2.1 0) :: st) M c z := by
  subst hp
  intro p e s m args below meth cd A H locs ls hF hA hB hW hS hl
  have hE := (hF.2.2.2.2.2.2.2.2.2.2.1.narrow hB).1 0 (by decide)
  exact vk_getf hF.1 hF.2.1 hE.2.2.1 hS (by rw [← ho]; exact hF.2.2.2.2.1) (hF.2.2.2.2.2.1 _ qs_val) (fun _ h9 => h9) hd (h p e s m args below meth cd A H locs ls hF hA hB hW hS hl)
theorem g_scod (pc' : Nat) (hd : decode (kB k) pc = .ok (.getfield 15, 3)) (hp : pc + 3 = pc') (ho : kO k = RJ0) (h : Go X d mc ms k Q pc' L (.int 0 :: st) M c z) : Go X d mc ms k Q pc L (.ref (X.2.2.2.2.1 0) :: st) M c z := by
  subst hp
  intro p e s m args below meth cd A H locs ls hF hA hB hW hS hl
  have hE := (hF.2.2.2.2.2.2.2.2.2.2.1.narrow hB).1 0 (by decide)
  exact vk_getf hF.1 hF.2.1 hE.2.1 hS (by rw [← ho]; exact hF.2.2.2.2.1) (hF.2.2.2.2.2.1 _ qs_cod) (fun _ h9 => h9) hd (h p e s m args below meth cd A H locs ls hF hA hB hW hS hl)
theorem g_slen (pc' : Nat) (hd : decode (kB k) pc = .ok (.arraylength, 1)) (hp : pc + 1 = pc') (h : Go X d mc ms k Q pc' L (.int 113 :: st) M c z) : Go X d mc ms k Q pc L (.ref (X.2.2.2.2.2 0) :: st) M c z := by
  subst hp
  intro p e s m args below meth cd A H locs ls hF hA hB hW hS hl
  have hE := (hF.2.2.2.2.2.2.2.2.2.2.1.narrow hB).1 0 (by decide)
  exact va_tlen hF.1 hF.2.1 hE.2.2.2 hS rfl hd (h p e s m args below meth cd A H locs ls hF hA hB hW hS hl)
theorem g_sbal {i : Int32} (pc' : Nat) (hd : decode (kB k) pc = .ok (.baload, 1)) (hp : pc + 1 = pc') (hin : vp_in i 113) (h : Go X d mc ms k Q pc' L (.int (g_vb.getD i.toNatClampNeg 0) :: st) M c z) : Go X d mc ms k Q pc L (.int i :: .ref (X.2.2.2.2.2 0) :: st) M c z := by
  subst hp
  intro p e s m args below meth cd A H locs ls hF hA hB hW hS hl
  have hE := (hF.2.2.2.2.2.2.2.2.2.2.1.narrow hB).1 0 (by decide)
  exact va_tb hF.1 hF.2.1 hE.2.2.2 hS hin rfl hd (h p e s m args below meth cd A H locs ls hF hA hB hW hS hl)
theorem g_scs (pc' : Nat) (hd : decode (kB k) pc = .ok (.getstatic 38, 3)) (hp : pc + 3 = pc') (ho : kO k = RJ0) (h : Go X d mc ms k Q pc' L (.int 1 :: st) M c z) : Go X d mc ms k Q pc L st M c z := by
  subst hp
  intro p e s m args below meth cd A H locs ls hF hA hB hW hS hl
  exact va_gets hF.1 hF.2.1 (hF.2.2.2.2.2.2.2.2.2.2.2.2.2.1.narrow hB) hS (by rw [← ho]; exact hF.2.2.2.2.1) (hF.2.2.2.2.2.1 _ qs_cs) (fun _ h9 => h9) hd (h p e s m args below meth cd A H locs ls hF hA hB hW hS hl)
theorem g_sfm (pc' : Nat) (hd : decode (kB k) pc = .ok (.getstatic 1053, 3)) (hp : pc + 3 = pc') (ho : kO k = RJ0) (h : ∀ r : Option Nat, Go X d mc ms k Q pc' L (va_rf r :: st) M c z) : Go X d mc ms k Q pc L st M c z := by
  subst hp
  intro p e s m args below meth cd A H locs ls hF hA hB hW hS hl
  rcases hF.2.2.2.2.2.2.2.2.2.2.2.2.2.2.narrow hB with hz | ⟨t, hz⟩
  · exact va_gets hF.1 hF.2.1 hz hS (by rw [← ho]; exact hF.2.2.2.2.1) (hF.2.2.2.2.2.1 _ qs_fm) (fun _ h9 => h9) hd (h none p e s m args below meth cd A H locs ls hF hA hB hW hS hl)
  · exact va_gets hF.1 hF.2.1 hz hS (by rw [← ho]; exact hF.2.2.2.2.1) (hF.2.2.2.2.2.1 _ qs_fm) (fun _ h9 => h9) hd (h (some t) p e s m args below meth cd A H locs ls hF hA hB hW hS hl)
theorem g_callVS {ix : Nat} {rest av : List Value} (j : gK) (pc' : Nat) (hd : decode (kB k) pc = .ok (.invokevirtual ix, 3)) (hp : pc + 3 = pc') (hst : st = av.reverse ++ .ref (X.2.2.2.2.1 0) :: rest) (hb : g_MB (kO k) ix j av.length false) (hi : Cond.instanceMethod (kY j) ∈ gtbl) (hs : Cond.selects "java/lang/String" (kY j) (kY j) ∈ gtbl) (hw : (rest.map fun v => v.category).sum ≤ 8) (hcc : c ≤ mc) (hzz : z ≤ ms)
    (h : Cn X d 0 0 j (.ref (X.2.2.2.2.1 0) :: av) M (fun v M1 => Go X (d + 1) mc ms k Q pc' L (v.toList ++ rest) M1 c z)) : Go X (d + 1) mc ms k Q pc L st M c z := by
  subst hp
  subst hst
  intro p e s m args below meth cd A H locs ls hF hA hB hW hS hl
  have hE := hF.2.2.2.2.2.2.2.2.2.2.1.narrow hB
  refine g_back (mc1 := 0) (ms1 := 0) (va_runV (C := "java/lang/String") (b := X.2.2.2.2.1 0) (As := av) (rest := rest) ⟨hF.1, hF.2.1, hF.2.2.2.1, hF.2.2.2.2.1, hF.2.2.2.2.2.1⟩ (h A (fun q hq => hA q (Nat.le_trans hS.1 (by rw [hW.1]; exact hq))) hB) ⟨g_callB hb hF.2.2.2.2.2.1, hF.2.2.2.2.2.1 _ hi, hF.2.2.2.2.2.1 _ hs⟩ ⟨g_blind, vk_recv hE (by decide) hS, fun U hU hv => g_pre (.ref (X.2.2.2.2.1 0) :: av) hF hB hW hS U hU hv⟩ rfl rfl hl.1 rfl (lv_room hw) hd ⟨hcc, hzz⟩) hS ?_
  intro v M1 H1 locs1 hq hW1 hS1
  exact hq p e s m args below meth cd A H1 locs1 ls hF hA hB hW1 hS1 hl
end GS
section GT
variable {X : gX} {d mc ms : Nat} {Q : Option Value → gM → Prop} {M : gM}
theorem tJ3_chk {i n : Int32} {r : Option Nat} (h0 : ¬ i < 0) (h1 : i < n) (hQ : Q (some (.int i)) M) : Cn X d mc ms kJ3_checkIndex_8e157 [.int i, .int n, va_rf r] M Q := by
  cases r with
  | none =>
    refine g_meth rfl rfl (Nat.le_of_ble_eq_true rfl) rfl ?_
    refine g_iload_n 0 1 dJ3_checkIndex_8e157_0 rfl rfl ?_
    refine g_if_lt 9 4 dJ3_checkIndex_8e157_1 rfl rfl (fun q => absurd q h0) (fun _ => ?_)
    refine g_iload_n 0 5 dJ3_checkIndex_8e157_4 rfl rfl ?_
    refine g_iload_n 1 6 dJ3_checkIndex_8e157_5 rfl rfl ?_
    refine g_icmp_lt 16 9 dJ3_checkIndex_8e157_6 rfl rfl (fun _ => ?_) (fun q => absurd h1 q)
    refine g_iload_n 0 17 dJ3_checkIndex_8e157_16 rfl rfl ?_
    exact g_iret dJ3_checkIndex_8e157_17 rfl (Nat.zero_le _) (Nat.zero_le _) hQ
  | some t =>
    refine g_meth rfl rfl (Nat.le_of_ble_eq_true rfl) rfl ?_
    refine g_iload_n 0 1 dJ3_checkIndex_8e157_0 rfl rfl ?_
    refine g_if_lt 9 4 dJ3_checkIndex_8e157_1 rfl rfl (fun q => absurd q h0) (fun _ => ?_)
    refine g_iload_n 0 5 dJ3_checkIndex_8e157_4 rfl rfl ?_
    refine g_iload_n 1 6 dJ3_checkIndex_8e157_5 rfl rfl ?_
    refine g_icmp_lt 16 9 dJ3_checkIndex_8e157_6 rfl rfl (fun _ => ?_) (fun q => absurd h1 q)
    refine g_iload_n 0 17 dJ3_checkIndex_8e157_16 rfl rfl ?_
    exact g_iret dJ3_checkIndex_8e157_17 rfl (Nat.zero_le _) (Nat.zero_le _) hQ
theorem tJ0_chk {i n : Int32} (h0 : ¬ i < 0) (h1 : i < n) (hQ : Q none M) : Cn X (d + 1) mc ms kJ0_checkIndex_df160 [.int i, .int n] M Q := by
  refine g_meth rfl rfl (Nat.le_of_ble_eq_true rfl) rfl ?_
  refine g_iload_n 0 1 dJ0_checkIndex_df160_0 rfl rfl ?_
  refine g_iload_n 1 2 dJ0_checkIndex_df160_1 rfl rfl ?_
  refine g_sfm 5 dJ0_checkIndex_df160_2 rfl rfl (fun r => ?_)
  refine g_callS (mc1 := 0) (ms1 := 0) (rest := []) (av := [.int i, .int n, va_rf r]) kJ3_checkIndex_8e157 8 dJ0_checkIndex_df160_5 rfl rfl mbJ0_1059 smJ3_checkIndex_8e157 (Nat.le_of_ble_eq_true rfl) (Nat.zero_le _) (Nat.zero_le _) (tJ3_chk h0 h1 ?_)
  show Go X (d + 1) mc ms kJ0_checkIndex_df160 Q 8 [(0, .int i), (1, .int n)] [.int i] M 0 0
  refine g_pop 9 dJ0_checkIndex_df160_8 rfl rfl ?_
  exact g_vret dJ0_checkIndex_df160_9 rfl (Nat.zero_le _) (Nat.zero_le _) hQ
/-- the char at i of the vocabulary -/
def g_vch (i : Int32) : Int32 := ((g_vb.getD i.toNatClampNeg 0 &&& 255).toUInt32 % 65536).toInt32
theorem tJ1_charAt {i : Int32} (hi : vp_in i 113) (h1 : i < 113) (hQ : Q (some (.int (g_vch i))) M) : Cn X (d + 2) mc ms kJ1_charAt_3b067 [.ref (X.2.2.2.2.2 0), .int i] M Q := by
  have h0 : ¬ i < 0 := fun q => hi (Or.inl q)
  refine g_meth rfl rfl (Nat.le_of_ble_eq_true rfl) rfl ?_
  refine g_iload_n 1 1 dJ1_charAt_3b067_0 rfl rfl ?_
  refine g_aload_n 0 2 dJ1_charAt_3b067_1 rfl rfl ?_
  refine g_slen 3 dJ1_charAt_3b067_2 rfl ?_
  refine g_callS (mc1 := 0) (ms1 := 0) (rest := []) (av := [.int i, .int 113]) kJ0_checkIndex_df160 6 dJ1_charAt_3b067_3 rfl rfl mbJ1_9 smJ0_checkIndex_df160 (Nat.le_of_ble_eq_true rfl) (Nat.zero_le _) (Nat.zero_le _) (tJ0_chk h0 h1 ?_)
  show Go X (d + 2) mc ms kJ1_charAt_3b067 Q 6 [(0, .ref (X.2.2.2.2.2 0)), (1, .int i)] [] M 0 0
  refine g_aload_n 0 7 dJ1_charAt_3b067_6 rfl rfl ?_
  refine g_iload_n 1 8 dJ1_charAt_3b067_7 rfl rfl ?_
  refine g_sbal 9 dJ1_charAt_3b067_8 rfl hi ?_
  refine g_sipush 255 12 dJ1_charAt_3b067_9 rfl rfl ?_
  refine g_iand 13 dJ1_charAt_3b067_12 rfl ?_
  refine g_i2c 14 dJ1_charAt_3b067_13 rfl ?_
  exact g_tret (ty := .char) dJ1_charAt_3b067_14 rfl (pk_nc _) (Nat.zero_le _) (Nat.zero_le _) hQ
theorem tJ0_lat (hQ : Q (some (.int 1)) M) : Cn X d mc ms kJ0_isLatin1_aae02 [.ref (X.2.2.2.2.1 0)] M Q := by
  refine g_meth rfl rfl (Nat.le_of_ble_eq_true rfl) rfl ?_
  refine g_scs 3 dJ0_isLatin1_aae02_0 rfl rfl ?_
  refine g_if_eq 17 6 dJ0_isLatin1_aae02_3 rfl rfl (fun q => absurd q (by decide)) (fun _ => ?_)
  refine g_aload_n 0 7 dJ0_isLatin1_aae02_6 rfl rfl ?_
  refine g_scod 10 dJ0_isLatin1_aae02_7 rfl rfl ?_
  refine g_if_ne 17 13 dJ0_isLatin1_aae02_10 rfl rfl (fun q => absurd rfl q) (fun _ => ?_)
  refine g_iconst 1 14 dJ0_isLatin1_aae02_13 rfl rfl ?_
  refine g_goto 18 dJ0_isLatin1_aae02_14 rfl ?_
  exact g_zret dJ0_isLatin1_aae02_18 rfl (by decide) (Nat.zero_le _) (Nat.zero_le _) hQ
theorem tJ0_cod (hQ : Q (some (.int 0)) M) : Cn X d mc ms kJ0_coder_7d493 [.ref (X.2.2.2.2.1 0)] M Q := by
  refine g_meth rfl rfl (Nat.le_of_ble_eq_true rfl) rfl ?_
  refine g_scs 3 dJ0_coder_7d493_0 rfl rfl ?_
  refine g_if_eq 13 6 dJ0_coder_7d493_3 rfl rfl (fun q => absurd q (by decide)) (fun _ => ?_)
  refine g_aload_n 0 7 dJ0_coder_7d493_6 rfl rfl ?_
  refine g_scod 10 dJ0_coder_7d493_7 rfl rfl ?_
  refine g_goto 14 dJ0_coder_7d493_10 rfl ?_
  exact g_tret (ty := .byte) dJ0_coder_7d493_14 rfl rfl (Nat.zero_le _) (Nat.zero_le _) hQ
theorem tJ0_len (hQ : Q (some (.int 113)) M) : Cn X (d + 1) mc ms kJ0_length_8abf5 [.ref (X.2.2.2.2.1 0)] M Q := by
  refine g_meth rfl rfl (Nat.le_of_ble_eq_true rfl) rfl ?_
  refine g_aload_n 0 1 dJ0_length_8abf5_0 rfl rfl ?_
  refine g_sval 4 dJ0_length_8abf5_1 rfl rfl ?_
  refine g_slen 5 dJ0_length_8abf5_4 rfl ?_
  refine g_aload_n 0 6 dJ0_length_8abf5_5 rfl rfl ?_
  refine g_callVS (rest := [.int 113]) (av := []) kJ0_coder_7d493 9 dJ0_length_8abf5_6 rfl rfl mbJ0_335 imJ0_coder_7d493 seJ0_coder_7d493 (Nat.le_of_ble_eq_true rfl) (Nat.zero_le _) (Nat.zero_le _) (tJ0_cod ?_)
  show Go X (d + 1) mc ms kJ0_length_8abf5 Q 9 [(0, .ref (X.2.2.2.2.1 0))] [.int 0, .int 113] M 0 0
  refine g_ishr 10 dJ0_length_8abf5_9 rfl ?_
  rw [show (113 : Int32) >>> ((0 : Int32) &&& 31) = 113 from rfl]
  exact g_iret dJ0_length_8abf5_10 rfl (Nat.zero_le _) (Nat.zero_le _) hQ
theorem tJ0_char {i : Int32} (hi : vp_in i 113) (h1 : i < 113) (hQ : Q (some (.int (g_vch i))) M) : Cn X (d + 3) mc ms kJ0_charAt_5068e [.ref (X.2.2.2.2.1 0), .int i] M Q := by
  refine g_meth rfl rfl (Nat.le_of_ble_eq_true rfl) rfl ?_
  refine g_aload_n 0 1 dJ0_charAt_5068e_0 rfl rfl ?_
  refine g_callVS (rest := []) (av := []) kJ0_isLatin1_aae02 4 dJ0_charAt_5068e_1 rfl rfl mbJ0_492 imJ0_isLatin1_aae02 seJ0_isLatin1_aae02 (Nat.le_of_ble_eq_true rfl) (Nat.zero_le _) (Nat.zero_le _) (tJ0_lat ?_)
  show Go X (d + 3) mc ms kJ0_charAt_5068e Q 4 [(0, .ref (X.2.2.2.2.1 0)), (1, .int i)] [.int 1] M 0 0
  refine g_if_eq 16 7 dJ0_charAt_5068e_4 rfl rfl (fun q => absurd q (by decide)) (fun _ => ?_)
  refine g_aload_n 0 8 dJ0_charAt_5068e_7 rfl rfl ?_
  refine g_sval 11 dJ0_charAt_5068e_8 rfl rfl ?_
  refine g_iload_n 1 12 dJ0_charAt_5068e_11 rfl rfl ?_
  refine g_callS (mc1 := 0) (ms1 := 0) (rest := []) (av := [.ref (X.2.2.2.2.2 0), .int i]) kJ1_charAt_3b067 15 dJ0_charAt_5068e_12 rfl rfl mbJ0_495 smJ1_charAt_3b067 (Nat.le_of_ble_eq_true rfl) (Nat.zero_le _) (Nat.zero_le _) (tJ1_charAt hi h1 ?_)
  show Go X (d + 3) mc ms kJ0_charAt_5068e Q 15 [(0, .ref (X.2.2.2.2.1 0)), (1, .int i)] [.int (g_vch i)] M 0 0
  exact g_tret (ty := .char) dJ0_charAt_5068e_15 rfl (pk_nc _) (Nat.zero_le _) (Nat.zero_le _) hQ
end GT
/-! methods of a class that has natives of the same name nowhere: Math.floorMod -/
theorem g_methF {X : gX} {d mc ms : Nat} {k : gK} {Q : Option Value → gM → Prop} {M : gM} {av : List Value} {L0 : List (Nat × Value)} (hy : plainFor (kY k) = true) (ho : (kY k).cls = kO k) (hn : (lg_sl av).length ≤ kN k) (hL : lv_args 0 av = L0) (h : Go X d mc ms k Q 0 L0 [] M 0 0) : Cn X d mc ms k av M Q := by
  subst hL
  intro A hA hB
  refine MetFree.of_bodySF (code := kB k) (maxLocals := kN k) (ret := kR k) hy ?_ ?_
  · intro args s m h hn
    obtain ⟨meth, c, h1, h2, h3, h4, h5, h6, -, -⟩ := Cond.code_spec hn (atoms_spec (ws := gws k) h _ List.mem_cons_self)
    exact ⟨meth, c, h1, h2, h3, h4, h5, h6⟩
  · intro p e s m args below meth cd s₁ B hml hv _
    obtain ⟨rfl, hW, hK, hStr⟩ := hv
    have hts := atoms_spec (ws := gws k) B.pre
    have hl := lv_entry av (n := kN k) hn
    have hh0 : s₁.heap = s.heap := by rw [B.state]; rfl
    have hw := h p e s m av.toArray below meth cd A s.heap [] _ ⟨B.exec, B.bytes, B.returns, hml, (by rw [← ho]; exact findClass_of_methodNamed B.named), fun w hw => hts w (List.mem_cons_of_mem _ hw), B.notSynchronized, (name_of_methodNamed B.named B.method).1, hK, hStr⟩ (fun q hq => hA q (by rw [← hW.1]; exact hq)) hB hW va_S.rf hl
    obtain ⟨t, a1, o, b1, b2, b3⟩ := hw s₁ hh0 (Stand.of_body B)
    rw [← lg_entry_eq] at a1
    exact ⟨t, o, a1, b1, b2, ⟨b3.1, b3.2⟩⟩
