/-! group gMP: X9_readTest,X9_readBoth,X9_readPlain,X9_readSum,X9_readTerm,X9_readPart -/
set_option maxRecDepth 4000 in
theorem sX9_readTest_0 {X : gX} {d mc ms : Nat} {Q : Option Value → gM → Prop} {M : gM} {a0 : Nat} {x1 : Int32} (s0 : Mo M a0) (h1 : Cn X (d + 3) 0 0 kX9_readBoth [.ref a0, .int (x1)] M (fun v M1 => Go X (d + 4) mc ms kX9_readTest Q 5 [(0, .ref a0), (1, .int (x1))] (v.toList ++ []) M1 0 0)) : Cn X (d + 4) mc ms kX9_readTest [.ref a0, .int (x1)] M Q := by
  refine g_meth rfl rfl (Nat.le_of_ble_eq_true rfl) rfl ?_
  refine g_aload_n 0 1 dX9_readTest_0 rfl rfl ?_
  refine g_iload_n 1 2 dX9_readTest_1 rfl rfl ?_
  exact g_callV (mc1 := 0) (ms1 := 0) (b := a0) (rest := []) (av := [.int (x1)]) kX9_readBoth 5 dX9_readTest_2 rfl rfl mbX9_222 imX9_readBoth seX9_readBoth gcl9.1 s0.1 (Nat.le_of_ble_eq_true rfl) (Nat.zero_le _) (Nat.zero_le _) (h1)

set_option maxRecDepth 4000 in
theorem sX9_readTest_5 {X : gX} {d mc ms : Nat} {Q : Option Value → gM → Prop} {M : gM} {c z : Nat} {a0 : Nat} {x1 : Int32} (s0 : Mo M a0) (w1 : c ≤ mc) (w2 : z ≤ ms) (b3 : EX9_takes0 M a0 4) (h4 : ((fX9_takes0 M a0 4) = 0) → Q none (mX9_takes0 M a0 4)) (h5 : (¬ (fX9_takes0 M a0 4) = 0) → Cn X (d + 3) 0 0 kX9_readBoth [.ref a0, .int (x1)] (mX9_takes0 M a0 4) (fun v M1 => Go X (d + 4) mc ms kX9_readTest Q 18 [(0, .ref a0), (1, .int (x1))] (v.toList ++ []) M1 c z)) : Go X (d + 4) mc ms kX9_readTest Q 5 [(0, .ref a0), (1, .int (x1))] [] M c z := by
  refine g_aload_n 0 6 dX9_readTest_5 rfl rfl ?_
  refine g_iconst (4) 7 dX9_readTest_6 rfl rfl ?_
  refine g_callV (mc1 := 0) (ms1 := 0) (b := a0) (rest := []) (av := [.int (4)]) kX9_takes0 10 dX9_readTest_7 rfl rfl mbX9_189 imX9_takes0 seX9_takes0 gcl9.1 s0.1 (Nat.le_of_ble_eq_true rfl) (w1) (w2) (tX9_takes0 s0 (b3) ?_)
  show Go X (d + 4) mc ms kX9_readTest Q 10 [(0, .ref a0), (1, .int (x1))] [.int ((fX9_takes0 M a0 4))] (mX9_takes0 M a0 4) c z
  refine g_if_eq 21 13 dX9_readTest_10 rfl rfl (fun c1 => ?_) (fun c1 => ?_)
  · skip
    exact g_vret dX9_readTest_21 rfl (w1) (w2) (h4 c1)
  · skip
    refine g_aload_n 0 14 dX9_readTest_13 rfl rfl ?_
    refine g_iload_n 1 15 dX9_readTest_14 rfl rfl ?_
    exact g_callV (mc1 := 0) (ms1 := 0) (b := a0) (rest := []) (av := [.int (x1)]) kX9_readBoth 18 dX9_readTest_15 rfl rfl mbX9_222 imX9_readBoth seX9_readBoth gcl9.1 (Sm.k (Sm.tr Sm.rf jX9_takes0) s0.1) (Nat.le_of_ble_eq_true rfl) (w1) (w2) (h5 c1)

set_option maxRecDepth 4000 in
theorem sX9_readTest_18 {X : gX} {d mc ms : Nat} {Q : Option Value → gM → Prop} {M : gM} {c z : Nat} {a0 : Nat} {x1 : Int32} (s0 : Mo M a0) (h1 : Go X (d + 4) mc ms kX9_readTest Q 5 [(0, .ref a0), (1, .int (x1))] [] M c z) : Go X (d + 4) mc ms kX9_readTest Q 18 [(0, .ref a0), (1, .int (x1))] [] M c z := by
  refine g_goto 5 dX9_readTest_18 rfl ?_
  exact (h1)

set_option maxRecDepth 4000 in
theorem sX9_readBoth_0 {X : gX} {d mc ms : Nat} {Q : Option Value → gM → Prop} {M : gM} {a0 : Nat} {x1 : Int32} (s0 : Mo M a0) (h1 : Cn X (d + 3) 0 0 kX9_readPlain [.ref a0, .int (x1)] M (fun v M1 => Go X (d + 4) mc ms kX9_readBoth Q 5 [(0, .ref a0), (1, .int (x1))] (v.toList ++ []) M1 0 0)) : Cn X (d + 4) mc ms kX9_readBoth [.ref a0, .int (x1)] M Q := by
  refine g_meth rfl rfl (Nat.le_of_ble_eq_true rfl) rfl ?_
  refine g_aload_n 0 1 dX9_readBoth_0 rfl rfl ?_
  refine g_iload_n 1 2 dX9_readBoth_1 rfl rfl ?_
  exact g_callV (mc1 := 0) (ms1 := 0) (b := a0) (rest := []) (av := [.int (x1)]) kX9_readPlain 5 dX9_readBoth_2 rfl rfl mbX9_225 imX9_readPlain seX9_readPlain gcl9.1 s0.1 (Nat.le_of_ble_eq_true rfl) (Nat.zero_le _) (Nat.zero_le _) (h1)

set_option maxRecDepth 4000 in
theorem sX9_readBoth_5 {X : gX} {d mc ms : Nat} {Q : Option Value → gM → Prop} {M : gM} {c z : Nat} {a0 : Nat} {x1 : Int32} (s0 : Mo M a0) (w1 : c ≤ mc) (w2 : z ≤ ms) (b3 : EX9_takes0 M a0 5) (h4 : ((fX9_takes0 M a0 5) = 0) → Q none (mX9_takes0 M a0 5)) (h5 : (¬ (fX9_takes0 M a0 5) = 0) → Cn X (d + 3) 0 0 kX9_readPlain [.ref a0, .int (x1)] (mX9_takes0 M a0 5) (fun v M1 => Go X (d + 4) mc ms kX9_readBoth Q 18 [(0, .ref a0), (1, .int (x1))] (v.toList ++ []) M1 c z)) : Go X (d + 4) mc ms kX9_readBoth Q 5 [(0, .ref a0), (1, .int (x1))] [] M c z := by
  refine g_aload_n 0 6 dX9_readBoth_5 rfl rfl ?_
  refine g_iconst (5) 7 dX9_readBoth_6 rfl rfl ?_
  refine g_callV (mc1 := 0) (ms1 := 0) (b := a0) (rest := []) (av := [.int (5)]) kX9_takes0 10 dX9_readBoth_7 rfl rfl mbX9_189 imX9_takes0 seX9_takes0 gcl9.1 s0.1 (Nat.le_of_ble_eq_true rfl) (w1) (w2) (tX9_takes0 s0 (b3) ?_)
  show Go X (d + 4) mc ms kX9_readBoth Q 10 [(0, .ref a0), (1, .int (x1))] [.int ((fX9_takes0 M a0 5))] (mX9_takes0 M a0 5) c z
  refine g_if_eq 21 13 dX9_readBoth_10 rfl rfl (fun c1 => ?_) (fun c1 => ?_)
  · skip
    exact g_vret dX9_readBoth_21 rfl (w1) (w2) (h4 c1)
  · skip
    refine g_aload_n 0 14 dX9_readBoth_13 rfl rfl ?_
    refine g_iload_n 1 15 dX9_readBoth_14 rfl rfl ?_
    exact g_callV (mc1 := 0) (ms1 := 0) (b := a0) (rest := []) (av := [.int (x1)]) kX9_readPlain 18 dX9_readBoth_15 rfl rfl mbX9_225 imX9_readPlain seX9_readPlain gcl9.1 (Sm.k (Sm.tr Sm.rf jX9_takes0) s0.1) (Nat.le_of_ble_eq_true rfl) (w1) (w2) (h5 c1)

set_option maxRecDepth 4000 in
theorem sX9_readBoth_18 {X : gX} {d mc ms : Nat} {Q : Option Value → gM → Prop} {M : gM} {c z : Nat} {a0 : Nat} {x1 : Int32} (s0 : Mo M a0) (h1 : Go X (d + 4) mc ms kX9_readBoth Q 5 [(0, .ref a0), (1, .int (x1))] [] M c z) : Go X (d + 4) mc ms kX9_readBoth Q 18 [(0, .ref a0), (1, .int (x1))] [] M c z := by
  refine g_goto 5 dX9_readBoth_18 rfl ?_
  exact (h1)

set_option maxRecDepth 4000 in
theorem sX9_readPlain_0 {X : gX} {d mc ms : Nat} {Q : Option Value → gM → Prop} {M : gM} {a0 : Nat} {x1 : Int32} (s0 : Mo M a0) (h1 : Go X (d + 4) mc ms kX9_readPlain Q 2 [(0, .ref a0), (1, .int (x1)), (2, .int (1))] [] M 0 0) : Cn X (d + 4) mc ms kX9_readPlain [.ref a0, .int (x1)] M Q := by
  refine g_meth rfl rfl (Nat.le_of_ble_eq_true rfl) rfl ?_
  refine g_iconst (1) 1 dX9_readPlain_0 rfl rfl ?_
  refine g_istore_n 2 [(2, .int (1)), (0, .ref a0), (1, .int (x1))] dX9_readPlain_1 rfl (Nat.le_of_ble_eq_true rfl) rfl ?_
  exact g_sub [1, 2, 0] _ rfl (h1)

set_option maxRecDepth 4000 in
theorem sX9_readPlain_2 {X : gX} {d mc ms : Nat} {Q : Option Value → gM → Prop} {M : gM} {c z : Nat} {a0 : Nat} {x1 : Int32} {x2 : Int32} (s0 : Mo M a0) (w1 : c ≤ mc) (w2 : z ≤ ms) (b3 : (x2 = 0) → (¬ (fX9_fine M a0) = 0) → vp_in ((g_mi M a0 19)) 401) (h4 : (x2 = 0) → (¬ (fX9_fine M a0) = 0) → (¬ (g_mi M (a0 + 9) ((g_mi M a0 19)).toNatClampNeg) = (fX9_sign 40)) → Cn X (d + 3) 0 0 kX9_readSum [.ref a0, .int (x1)] M (fun v M1 => Go X (d + 4) mc ms kX9_readPlain Q 95 [(0, .ref a0), (1, .int (x1))] (v.toList ++ []) M1 c z)) (h5 : (x2 = 0) → (¬ (fX9_fine M a0) = 0) → ((g_mi M (a0 + 9) ((g_mi M a0 19)).toNatClampNeg) = (fX9_sign 40)) → (¬ x1 = 8) → Cn X (d + 3) 0 0 kX9_readTest [.ref a0, .int ((x1 + 1))] (g_wi M a0 19 ((g_mi M a0 19) + 1)) (fun v M1 => Go X (d + 4) mc ms kX9_readPlain Q 78 [(0, .ref a0)] (v.toList ++ []) M1 c z)) (b6 : (x2 = 0) → (¬ (fX9_fine M a0) = 0) → ((g_mi M (a0 + 9) ((g_mi M a0 19)).toNatClampNeg) = (fX9_sign 40)) → (x1 = 8) → EX9_faults M a0) (h7 : (x2 = 0) → (¬ (fX9_fine M a0) = 0) → ((g_mi M (a0 + 9) ((g_mi M a0 19)).toNatClampNeg) = (fX9_sign 40)) → (x1 = 8) → (¬ (fX9_fine (mX9_faults M a0) a0) = 0) → Cn X (d + 3) 0 0 kX9_readTest [.ref a0, .int ((x1 + 1))] (g_wi (mX9_faults M a0) a0 19 ((g_mi (mX9_faults M a0) a0 19) + 1)) (fun v M1 => Go X (d + 4) mc ms kX9_readPlain Q 78 [(0, .ref a0)] (v.toList ++ []) M1 c z)) (h8 : (x2 = 0) → (¬ (fX9_fine M a0) = 0) → ((g_mi M (a0 + 9) ((g_mi M a0 19)).toNatClampNeg) = (fX9_sign 40)) → (x1 = 8) → ((fX9_fine (mX9_faults M a0) a0) = 0) → Q none (mX9_faults M a0)) (h9 : (x2 = 0) → ((fX9_fine M a0) = 0) → Q none M) (b10 : (¬ x2 = 0) → EX9_takes0 M a0 6) (h11 : (¬ x2 = 0) → Go X (d + 4) mc ms kX9_readPlain Q 2 [(0, .ref a0), (1, .int (x1)), (2, .int ((fX9_takes0 M a0 6)))] [] (mX9_takes0 M a0 6) c z) : Go X (d + 4) mc ms kX9_readPlain Q 2 [(0, .ref a0), (1, .int (x1)), (2, .int (x2))] [] M c z := by
  refine g_iload_n 2 3 dX9_readPlain_2 rfl rfl ?_
  refine g_if_eq 16 6 dX9_readPlain_3 rfl rfl (fun c1 => ?_) (fun c1 => ?_)
  · skip
    refine g_aload_n 0 17 dX9_readPlain_16 rfl rfl ?_
    refine g_callV (mc1 := 0) (ms1 := 0) (b := a0) (rest := []) (av := []) kX9_fine 20 dX9_readPlain_17 rfl rfl mbX9_182 imX9_fine seX9_fine gcl9.1 s0.1 (Nat.le_of_ble_eq_true rfl) (w1) (w2) (tX9_fine s0 ?_)
    show Go X (d + 4) mc ms kX9_readPlain Q 20 [(0, .ref a0), (1, .int (x1)), (2, .int (x2))] [.int ((fX9_fine M a0))] M c z
    refine g_if_ne 24 23 dX9_readPlain_20 rfl rfl (fun c2 => ?_) (fun c2 => ?_)
    · skip
      refine g_aload_n 0 25 dX9_readPlain_24 rfl rfl ?_
      refine g_getR 28 (a0 + 9) dX9_readPlain_25 rfl flX9_54 s0.1 s0.2.2.2.2.2.2.2.2.2.2.2.2.2.2.2.2.2.1 ?_
      refine g_aload_n 0 29 dX9_readPlain_28 rfl rfl ?_
      refine g_getI 32 dX9_readPlain_29 rfl flX9_186 s0.1 ?_
      refine h_iaload 33 ((g_mi M a0 19)).toNatClampNeg dX9_readPlain_32 rfl rfl s0.2.2.2.2.2.2.2.2.2.2.2.2.2.2.2.2.2.2.1 (b3 c1 c2) ?_
      refine g_istore_n 34 [(3, .int ((g_mi M (a0 + 9) ((g_mi M a0 19)).toNatClampNeg))), (0, .ref a0), (1, .int (x1)), (2, .int (x2))] dX9_readPlain_33 rfl (Nat.le_of_ble_eq_true rfl) rfl ?_
      refine g_iload_n 0 35 dX9_readPlain_34 rfl rfl ?_
      refine g_bipush (40) 37 dX9_readPlain_35 rfl rfl ?_
      refine g_callS (mc1 := 0) (ms1 := 0) (rest := [.int ((g_mi M (a0 + 9) ((g_mi M a0 19)).toNatClampNeg))]) (av := [.int (40)]) kX9_sign 40 dX9_readPlain_37 rfl rfl mbX9_228 smX9_sign (Nat.le_of_ble_eq_true rfl) (w1) (w2) (tX9_sign  ?_)
      show Go X (d + 4) mc ms kX9_readPlain Q 40 [(3, .int ((g_mi M (a0 + 9) ((g_mi M a0 19)).toNatClampNeg))), (0, .ref a0), (1, .int (x1)), (2, .int (x2))] [.int ((fX9_sign 40)), .int ((g_mi M (a0 + 9) ((g_mi M a0 19)).toNatClampNeg))] M c z
      refine g_icmp_ne 90 43 dX9_readPlain_40 rfl rfl (fun c3 => ?_) (fun c3 => ?_)
      · skip
        refine g_aload_n 1 91 dX9_readPlain_90 rfl rfl ?_
        refine g_iload_n 2 92 dX9_readPlain_91 rfl rfl ?_
        refine g_sub [1, 2] [(0, .ref a0), (1, .int (x1))] rfl ?_
        exact g_callV (mc1 := 0) (ms1 := 0) (b := a0) (rest := []) (av := [.int (x1)]) kX9_readSum 95 dX9_readPlain_92 rfl rfl mbX9_198 imX9_readSum seX9_readSum gcl9.1 s0.1 (Nat.le_of_ble_eq_true rfl) (w1) (w2) (h4 c1 c2 c3)
      · skip
        refine g_iload_n 2 44 dX9_readPlain_43 rfl rfl ?_
        refine g_bipush (8) 46 dX9_readPlain_44 rfl rfl ?_
        refine g_icmp_ne 53 49 dX9_readPlain_46 rfl rfl (fun c4 => ?_) (fun c4 => ?_)
        · skip
          refine g_aload_n 1 54 dX9_readPlain_53 rfl rfl ?_
          refine g_callV (mc1 := 0) (ms1 := 0) (b := a0) (rest := []) (av := []) kX9_fine 57 dX9_readPlain_54 rfl rfl mbX9_182 imX9_fine seX9_fine gcl9.1 s0.1 (Nat.le_of_ble_eq_true rfl) (w1) (w2) (tX9_fine s0 ?_)
          show Go X (d + 4) mc ms kX9_readPlain Q 57 [(3, .int ((g_mi M (a0 + 9) ((g_mi M a0 19)).toNatClampNeg))), (0, .ref a0), (1, .int (x1)), (2, .int (x2))] [.int ((fX9_fine M a0))] M c z
          refine g_if_ne 61 60 dX9_readPlain_57 rfl rfl (fun _ => ?_) (fun q => absurd q c2)
          refine g_aload_n 1 62 dX9_readPlain_61 rfl rfl ?_
          refine g_dup 63 dX9_readPlain_62 rfl rfl ?_
          refine g_getI 66 dX9_readPlain_63 rfl flX9_186 s0.1 ?_
          refine g_iconst (1) 67 dX9_readPlain_66 rfl rfl ?_
          refine g_iadd 68 dX9_readPlain_67 rfl ?_
          refine g_putI 71 dX9_readPlain_68 rfl flX9_186 s0.1 ?_
          refine g_aload_n 1 72 dX9_readPlain_71 rfl rfl ?_
          refine g_iload_n 2 73 dX9_readPlain_72 rfl rfl ?_
          refine g_iconst (1) 74 dX9_readPlain_73 rfl rfl ?_
          refine g_iadd 75 dX9_readPlain_74 rfl ?_
          refine g_sub [1] [(0, .ref a0)] rfl ?_
          exact g_callV (mc1 := 0) (ms1 := 0) (b := a0) (rest := []) (av := [.int ((x1 + 1))]) kX9_readTest 78 dX9_readPlain_75 rfl rfl mbX9_205 imX9_readTest seX9_readTest gcl9.1 (Sm.k (Sm.wi Sm.rf) s0.1) (Nat.le_of_ble_eq_true rfl) (w1) (w2) (h5 c1 c2 c3 c4)
        · skip
          refine g_aload_n 1 50 dX9_readPlain_49 rfl rfl ?_
          refine g_callV (mc1 := 0) (ms1 := 0) (b := a0) (rest := []) (av := []) kX9_faults 53 dX9_readPlain_50 rfl rfl mbX9_192 imX9_faults seX9_faults gcl9.1 s0.1 (Nat.le_of_ble_eq_true rfl) (w1) (w2) (tX9_faults s0 (b6 c1 c2 c3 c4) ?_)
          show Go X (d + 4) mc ms kX9_readPlain Q 53 [(3, .int ((g_mi M (a0 + 9) ((g_mi M a0 19)).toNatClampNeg))), (0, .ref a0), (1, .int (x1)), (2, .int (x2))] [] (mX9_faults M a0) c z
          refine g_aload_n 1 54 dX9_readPlain_53 rfl rfl ?_
          refine g_callV (mc1 := 0) (ms1 := 0) (b := a0) (rest := []) (av := []) kX9_fine 57 dX9_readPlain_54 rfl rfl mbX9_182 imX9_fine seX9_fine gcl9.1 (Sm.k (Sm.tr Sm.rf jX9_faults) s0.1) (Nat.le_of_ble_eq_true rfl) (w1) (w2) (tX9_fine (Mo.sm (Sm.tr Sm.rf jX9_faults) s0) ?_)
          show Go X (d + 4) mc ms kX9_readPlain Q 57 [(3, .int ((g_mi M (a0 + 9) ((g_mi M a0 19)).toNatClampNeg))), (0, .ref a0), (1, .int (x1)), (2, .int (x2))] [.int ((fX9_fine (mX9_faults M a0) a0))] (mX9_faults M a0) c z
          refine g_if_ne 61 60 dX9_readPlain_57 rfl rfl (fun c5 => ?_) (fun c5 => ?_)
          · skip
            refine g_aload_n 1 62 dX9_readPlain_61 rfl rfl ?_
            refine g_dup 63 dX9_readPlain_62 rfl rfl ?_
            refine g_getI 66 dX9_readPlain_63 rfl flX9_186 (Sm.k (Sm.tr Sm.rf jX9_faults) s0.1) ?_
            refine g_iconst (1) 67 dX9_readPlain_66 rfl rfl ?_
            refine g_iadd 68 dX9_readPlain_67 rfl ?_
            refine g_putI 71 dX9_readPlain_68 rfl flX9_186 (Sm.k (Sm.tr Sm.rf jX9_faults) s0.1) ?_
            refine g_aload_n 1 72 dX9_readPlain_71 rfl rfl ?_
            refine g_iload_n 2 73 dX9_readPlain_72 rfl rfl ?_
            refine g_iconst (1) 74 dX9_readPlain_73 rfl rfl ?_
            refine g_iadd 75 dX9_readPlain_74 rfl ?_
            refine g_sub [1] [(0, .ref a0)] rfl ?_
            exact g_callV (mc1 := 0) (ms1 := 0) (b := a0) (rest := []) (av := [.int ((x1 + 1))]) kX9_readTest 78 dX9_readPlain_75 rfl rfl mbX9_205 imX9_readTest seX9_readTest gcl9.1 (Sm.k (Sm.wi (Sm.tr Sm.rf jX9_faults)) s0.1) (Nat.le_of_ble_eq_true rfl) (w1) (w2) (h7 c1 c2 c3 c4 c5)
          · skip
            exact g_vret dX9_readPlain_60 rfl (w1) (w2) (h8 c1 c2 c3 c4 c5)
    · skip
      exact g_vret dX9_readPlain_23 rfl (w1) (w2) (h9 c1 c2)
  · skip
    refine g_aload_n 0 7 dX9_readPlain_6 rfl rfl ?_
    refine g_bipush (6) 9 dX9_readPlain_7 rfl rfl ?_
    refine g_callV (mc1 := 0) (ms1 := 0) (b := a0) (rest := []) (av := [.int (6)]) kX9_takes0 12 dX9_readPlain_9 rfl rfl mbX9_189 imX9_takes0 seX9_takes0 gcl9.1 s0.1 (Nat.le_of_ble_eq_true rfl) (w1) (w2) (tX9_takes0 s0 (b10 c1) ?_)
    show Go X (d + 4) mc ms kX9_readPlain Q 12 [(0, .ref a0), (1, .int (x1)), (2, .int (x2))] [.int ((fX9_takes0 M a0 6))] (mX9_takes0 M a0 6) c z
    refine g_istore_n 13 [(2, .int ((fX9_takes0 M a0 6))), (0, .ref a0), (1, .int (x1))] dX9_readPlain_12 rfl (Nat.le_of_ble_eq_true rfl) rfl ?_
    refine g_goto 2 dX9_readPlain_13 rfl ?_
    exact g_sub [1, 2, 0] _ rfl (h11 c1)

set_option maxRecDepth 4000 in
theorem sX9_readPlain_78 {X : gX} {d mc ms : Nat} {Q : Option Value → gM → Prop} {M : gM} {c z : Nat} {a0 : Nat} (s0 : Mo M a0) (w1 : c ≤ mc) (w2 : z ≤ ms) (b3 : EX9_must M a0 (fX9_sign 41)) (h4 : Go X (d + 4) mc ms kX9_readPlain Q 133 [] [] (mX9_must M a0 (fX9_sign 41)) c z) : Go X (d + 4) mc ms kX9_readPlain Q 78 [(0, .ref a0)] [] M c z := by
  refine g_aload_n 0 79 dX9_readPlain_78 rfl rfl ?_
  refine g_bipush (41) 81 dX9_readPlain_79 rfl rfl ?_
  refine g_callS (mc1 := 0) (ms1 := 0) (rest := [.ref a0]) (av := [.int (41)]) kX9_sign 84 dX9_readPlain_81 rfl rfl mbX9_228 smX9_sign (Nat.le_of_ble_eq_true rfl) (w1) (w2) (tX9_sign  ?_)
  show Go X (d + 4) mc ms kX9_readPlain Q 84 [(0, .ref a0)] [.int ((fX9_sign 41)), .ref a0] M c z
  refine g_callV (mc1 := 0) (ms1 := 0) (b := a0) (rest := []) (av := [.int ((fX9_sign 41))]) kX9_must 87 dX9_readPlain_84 rfl rfl mbX9_202 imX9_must seX9_must gcl9.1 s0.1 (Nat.le_of_ble_eq_true rfl) (w1) (w2) (tX9_must s0 (b3) ?_)
  show Go X (d + 4) mc ms kX9_readPlain Q 87 [(0, .ref a0)] [] (mX9_must M a0 (fX9_sign 41)) c z
  refine g_goto 133 dX9_readPlain_87 rfl ?_
  exact g_sub [] _ rfl (h4)

set_option maxRecDepth 4000 in
theorem sX9_readPlain_95 {X : gX} {d mc ms : Nat} {Q : Option Value → gM → Prop} {M : gM} {c z : Nat} {a0 : Nat} {x1 : Int32} (s0 : Mo M a0) (w1 : c ≤ mc) (w2 : z ≤ ms) (b3 : EX9_takes0 M a0 (fX9_sign 60)) (h4 : (¬ (fX9_takes0 M a0 (fX9_sign 60)) = 0) → Cn X (d + 3) 0 0 kX9_readSum [.ref a0, .int (x1)] (mX9_takes0 M a0 (fX9_sign 60)) (fun v M1 => Go X (d + 4) mc ms kX9_readPlain Q 133 [] (v.toList ++ []) M1 c z)) (b5 : ((fX9_takes0 M a0 (fX9_sign 60)) = 0) → EX9_takes0 (mX9_takes0 M a0 (fX9_sign 60)) a0 (fX9_sign 62)) (h6 : ((fX9_takes0 M a0 (fX9_sign 60)) = 0) → (¬ (fX9_takes0 (mX9_takes0 M a0 (fX9_sign 60)) a0 (fX9_sign 62)) = 0) → Cn X (d + 3) 0 0 kX9_readSum [.ref a0, .int (x1)] (mX9_takes0 (mX9_takes0 M a0 (fX9_sign 60)) a0 (fX9_sign 62)) (fun v M1 => Go X (d + 4) mc ms kX9_readPlain Q 133 [] (v.toList ++ []) M1 c z)) (b7 : ((fX9_takes0 M a0 (fX9_sign 60)) = 0) → ((fX9_takes0 (mX9_takes0 M a0 (fX9_sign 60)) a0 (fX9_sign 62)) = 0) → EX9_must (mX9_takes0 (mX9_takes0 M a0 (fX9_sign 60)) a0 (fX9_sign 62)) a0 (fX9_sign 61)) (h8 : ((fX9_takes0 M a0 (fX9_sign 60)) = 0) → ((fX9_takes0 (mX9_takes0 M a0 (fX9_sign 60)) a0 (fX9_sign 62)) = 0) → Cn X (d + 3) 0 0 kX9_readSum [.ref a0, .int (x1)] (mX9_must (mX9_takes0 (mX9_takes0 M a0 (fX9_sign 60)) a0 (fX9_sign 62)) a0 (fX9_sign 61)) (fun v M1 => Go X (d + 4) mc ms kX9_readPlain Q 133 [] (v.toList ++ []) M1 c z)) : Go X (d + 4) mc ms kX9_readPlain Q 95 [(0, .ref a0), (1, .int (x1))] [] M c z := by
  refine g_aload_n 0 96 dX9_readPlain_95 rfl rfl ?_
  refine g_bipush (60) 98 dX9_readPlain_96 rfl rfl ?_
  refine g_callS (mc1 := 0) (ms1 := 0) (rest := [.ref a0]) (av := [.int (60)]) kX9_sign 101 dX9_readPlain_98 rfl rfl mbX9_228 smX9_sign (Nat.le_of_ble_eq_true rfl) (w1) (w2) (tX9_sign  ?_)
  show Go X (d + 4) mc ms kX9_readPlain Q 101 [(0, .ref a0), (1, .int (x1))] [.int ((fX9_sign 60)), .ref a0] M c z
  refine g_callV (mc1 := 0) (ms1 := 0) (b := a0) (rest := []) (av := [.int ((fX9_sign 60))]) kX9_takes0 104 dX9_readPlain_101 rfl rfl mbX9_189 imX9_takes0 seX9_takes0 gcl9.1 s0.1 (Nat.le_of_ble_eq_true rfl) (w1) (w2) (tX9_takes0 s0 (b3) ?_)
  show Go X (d + 4) mc ms kX9_readPlain Q 104 [(0, .ref a0), (1, .int (x1))] [.int ((fX9_takes0 M a0 (fX9_sign 60)))] (mX9_takes0 M a0 (fX9_sign 60)) c z
  refine g_if_ne 128 107 dX9_readPlain_104 rfl rfl (fun c1 => ?_) (fun c1 => ?_)
  · skip
    refine g_aload_n 0 129 dX9_readPlain_128 rfl rfl ?_
    refine g_iload_n 1 130 dX9_readPlain_129 rfl rfl ?_
    refine g_sub [] [] rfl ?_
    exact g_callV (mc1 := 0) (ms1 := 0) (b := a0) (rest := []) (av := [.int (x1)]) kX9_readSum 133 dX9_readPlain_130 rfl rfl mbX9_198 imX9_readSum seX9_readSum gcl9.1 (Sm.k (Sm.tr Sm.rf jX9_takes0) s0.1) (Nat.le_of_ble_eq_true rfl) (w1) (w2) (h4 c1)
  · skip
    refine g_aload_n 0 108 dX9_readPlain_107 rfl rfl ?_
    refine g_bipush (62) 110 dX9_readPlain_108 rfl rfl ?_
    refine g_callS (mc1 := 0) (ms1 := 0) (rest := [.ref a0]) (av := [.int (62)]) kX9_sign 113 dX9_readPlain_110 rfl rfl mbX9_228 smX9_sign (Nat.le_of_ble_eq_true rfl) (w1) (w2) (tX9_sign  ?_)
    show Go X (d + 4) mc ms kX9_readPlain Q 113 [(0, .ref a0), (1, .int (x1))] [.int ((fX9_sign 62)), .ref a0] (mX9_takes0 M a0 (fX9_sign 60)) c z
    refine g_callV (mc1 := 0) (ms1 := 0) (b := a0) (rest := []) (av := [.int ((fX9_sign 62))]) kX9_takes0 116 dX9_readPlain_113 rfl rfl mbX9_189 imX9_takes0 seX9_takes0 gcl9.1 (Sm.k (Sm.tr Sm.rf jX9_takes0) s0.1) (Nat.le_of_ble_eq_true rfl) (w1) (w2) (tX9_takes0 (Mo.sm (Sm.tr Sm.rf jX9_takes0) s0) (b5 c1) ?_)
    show Go X (d + 4) mc ms kX9_readPlain Q 116 [(0, .ref a0), (1, .int (x1))] [.int ((fX9_takes0 (mX9_takes0 M a0 (fX9_sign 60)) a0 (fX9_sign 62)))] (mX9_takes0 (mX9_takes0 M a0 (fX9_sign 60)) a0 (fX9_sign 62)) c z
    refine g_if_ne 128 119 dX9_readPlain_116 rfl rfl (fun c2 => ?_) (fun c2 => ?_)
    · skip
      refine g_aload_n 0 129 dX9_readPlain_128 rfl rfl ?_
      refine g_iload_n 1 130 dX9_readPlain_129 rfl rfl ?_
      refine g_sub [] [] rfl ?_
      exact g_callV (mc1 := 0) (ms1 := 0) (b := a0) (rest := []) (av := [.int (x1)]) kX9_readSum 133 dX9_readPlain_130 rfl rfl mbX9_198 imX9_readSum seX9_readSum gcl9.1 (Sm.k (Sm.tr (Sm.tr Sm.rf jX9_takes0) jX9_takes0) s0.1) (Nat.le_of_ble_eq_true rfl) (w1) (w2) (h6 c1 c2)
    · skip
      refine g_aload_n 0 120 dX9_readPlain_119 rfl rfl ?_
      refine g_bipush (61) 122 dX9_readPlain_120 rfl rfl ?_
      refine g_callS (mc1 := 0) (ms1 := 0) (rest := [.ref a0]) (av := [.int (61)]) kX9_sign 125 dX9_readPlain_122 rfl rfl mbX9_228 smX9_sign (Nat.le_of_ble_eq_true rfl) (w1) (w2) (tX9_sign  ?_)
      show Go X (d + 4) mc ms kX9_readPlain Q 125 [(0, .ref a0), (1, .int (x1))] [.int ((fX9_sign 61)), .ref a0] (mX9_takes0 (mX9_takes0 M a0 (fX9_sign 60)) a0 (fX9_sign 62)) c z
      refine g_callV (mc1 := 0) (ms1 := 0) (b := a0) (rest := []) (av := [.int ((fX9_sign 61))]) kX9_must 128 dX9_readPlain_125 rfl rfl mbX9_202 imX9_must seX9_must gcl9.1 (Sm.k (Sm.tr (Sm.tr Sm.rf jX9_takes0) jX9_takes0) s0.1) (Nat.le_of_ble_eq_true rfl) (w1) (w2) (tX9_must (Mo.sm (Sm.tr (Sm.tr Sm.rf jX9_takes0) jX9_takes0) s0) (b7 c1 c2) ?_)
      show Go X (d + 4) mc ms kX9_readPlain Q 128 [(0, .ref a0), (1, .int (x1))] [] (mX9_must (mX9_takes0 (mX9_takes0 M a0 (fX9_sign 60)) a0 (fX9_sign 62)) a0 (fX9_sign 61)) c z
      refine g_aload_n 0 129 dX9_readPlain_128 rfl rfl ?_
      refine g_iload_n 1 130 dX9_readPlain_129 rfl rfl ?_
      refine g_sub [] [] rfl ?_
      exact g_callV (mc1 := 0) (ms1 := 0) (b := a0) (rest := []) (av := [.int (x1)]) kX9_readSum 133 dX9_readPlain_130 rfl rfl mbX9_198 imX9_readSum seX9_readSum gcl9.1 (Sm.k (Sm.tr (Sm.tr (Sm.tr Sm.rf jX9_takes0) jX9_takes0) jX9_must) s0.1) (Nat.le_of_ble_eq_true rfl) (w1) (w2) (h8 c1 c2)

set_option maxRecDepth 4000 in
theorem sX9_readPlain_133 {X : gX} {d mc ms : Nat} {Q : Option Value → gM → Prop} {M : gM} {c z : Nat}  (h1 : Q none M) (w2 : c ≤ mc) (w3 : z ≤ ms) : Go X (d + 4) mc ms kX9_readPlain Q 133 [] [] M c z := by
  exact g_vret dX9_readPlain_133 rfl (w2) (w3) (h1)

set_option maxRecDepth 4000 in
theorem sX9_readSum_0 {X : gX} {d mc ms : Nat} {Q : Option Value → gM → Prop} {M : gM} {a0 : Nat} {x1 : Int32} (s0 : Mo M a0) (h1 : Cn X (d + 3) 0 0 kX9_readTerm [.ref a0, .int (x1)] M (fun v M1 => Go X (d + 4) mc ms kX9_readSum Q 5 [(0, .ref a0), (1, .int (x1))] (v.toList ++ []) M1 0 0)) : Cn X (d + 4) mc ms kX9_readSum [.ref a0, .int (x1)] M Q := by
  refine g_meth rfl rfl (Nat.le_of_ble_eq_true rfl) rfl ?_
  refine g_aload_n 0 1 dX9_readSum_0 rfl rfl ?_
  refine g_iload_n 1 2 dX9_readSum_1 rfl rfl ?_
  exact g_callV (mc1 := 0) (ms1 := 0) (b := a0) (rest := []) (av := [.int (x1)]) kX9_readTerm 5 dX9_readSum_2 rfl rfl mbX9_232 imX9_readTerm seX9_readTerm gcl9.1 s0.1 (Nat.le_of_ble_eq_true rfl) (Nat.zero_le _) (Nat.zero_le _) (h1)

set_option maxRecDepth 4000 in
theorem sX9_readSum_5 {X : gX} {d mc ms : Nat} {Q : Option Value → gM → Prop} {M : gM} {c z : Nat} {a0 : Nat} {x1 : Int32} (s0 : Mo M a0) (w1 : c ≤ mc) (w2 : z ≤ ms) (b3 : EX9_takes0 M a0 (fX9_sign 43)) (h4 : (¬ (fX9_takes0 M a0 (fX9_sign 43)) = 0) → Cn X (d + 3) 0 0 kX9_readTerm [.ref a0, .int (x1)] (mX9_takes0 M a0 (fX9_sign 43)) (fun v M1 => Go X (d + 4) mc ms kX9_readSum Q 34 [(0, .ref a0), (1, .int (x1))] (v.toList ++ []) M1 c z)) (b5 : ((fX9_takes0 M a0 (fX9_sign 43)) = 0) → EX9_takes0 (mX9_takes0 M a0 (fX9_sign 43)) a0 (fX9_sign 45)) (h6 : ((fX9_takes0 M a0 (fX9_sign 43)) = 0) → ((fX9_takes0 (mX9_takes0 M a0 (fX9_sign 43)) a0 (fX9_sign 45)) = 0) → Q none (mX9_takes0 (mX9_takes0 M a0 (fX9_sign 43)) a0 (fX9_sign 45))) (h7 : ((fX9_takes0 M a0 (fX9_sign 43)) = 0) → (¬ (fX9_takes0 (mX9_takes0 M a0 (fX9_sign 43)) a0 (fX9_sign 45)) = 0) → Cn X (d + 3) 0 0 kX9_readTerm [.ref a0, .int (x1)] (mX9_takes0 (mX9_takes0 M a0 (fX9_sign 43)) a0 (fX9_sign 45)) (fun v M1 => Go X (d + 4) mc ms kX9_readSum Q 34 [(0, .ref a0), (1, .int (x1))] (v.toList ++ []) M1 c z)) : Go X (d + 4) mc ms kX9_readSum Q 5 [(0, .ref a0), (1, .int (x1))] [] M c z := by
  refine g_aload_n 0 6 dX9_readSum_5 rfl rfl ?_
  refine g_bipush (43) 8 dX9_readSum_6 rfl rfl ?_
  refine g_callS (mc1 := 0) (ms1 := 0) (rest := [.ref a0]) (av := [.int (43)]) kX9_sign 11 dX9_readSum_8 rfl rfl mbX9_228 smX9_sign (Nat.le_of_ble_eq_true rfl) (w1) (w2) (tX9_sign  ?_)
  show Go X (d + 4) mc ms kX9_readSum Q 11 [(0, .ref a0), (1, .int (x1))] [.int ((fX9_sign 43)), .ref a0] M c z
  refine g_callV (mc1 := 0) (ms1 := 0) (b := a0) (rest := []) (av := [.int ((fX9_sign 43))]) kX9_takes0 14 dX9_readSum_11 rfl rfl mbX9_189 imX9_takes0 seX9_takes0 gcl9.1 s0.1 (Nat.le_of_ble_eq_true rfl) (w1) (w2) (tX9_takes0 s0 (b3) ?_)
  show Go X (d + 4) mc ms kX9_readSum Q 14 [(0, .ref a0), (1, .int (x1))] [.int ((fX9_takes0 M a0 (fX9_sign 43)))] (mX9_takes0 M a0 (fX9_sign 43)) c z
  refine g_if_ne 29 17 dX9_readSum_14 rfl rfl (fun c1 => ?_) (fun c1 => ?_)
  · skip
    refine g_aload_n 0 30 dX9_readSum_29 rfl rfl ?_
    refine g_iload_n 1 31 dX9_readSum_30 rfl rfl ?_
    exact g_callV (mc1 := 0) (ms1 := 0) (b := a0) (rest := []) (av := [.int (x1)]) kX9_readTerm 34 dX9_readSum_31 rfl rfl mbX9_232 imX9_readTerm seX9_readTerm gcl9.1 (Sm.k (Sm.tr Sm.rf jX9_takes0) s0.1) (Nat.le_of_ble_eq_true rfl) (w1) (w2) (h4 c1)
  · skip
    refine g_aload_n 0 18 dX9_readSum_17 rfl rfl ?_
    refine g_bipush (45) 20 dX9_readSum_18 rfl rfl ?_
    refine g_callS (mc1 := 0) (ms1 := 0) (rest := [.ref a0]) (av := [.int (45)]) kX9_sign 23 dX9_readSum_20 rfl rfl mbX9_228 smX9_sign (Nat.le_of_ble_eq_true rfl) (w1) (w2) (tX9_sign  ?_)
    show Go X (d + 4) mc ms kX9_readSum Q 23 [(0, .ref a0), (1, .int (x1))] [.int ((fX9_sign 45)), .ref a0] (mX9_takes0 M a0 (fX9_sign 43)) c z
    refine g_callV (mc1 := 0) (ms1 := 0) (b := a0) (rest := []) (av := [.int ((fX9_sign 45))]) kX9_takes0 26 dX9_readSum_23 rfl rfl mbX9_189 imX9_takes0 seX9_takes0 gcl9.1 (Sm.k (Sm.tr Sm.rf jX9_takes0) s0.1) (Nat.le_of_ble_eq_true rfl) (w1) (w2) (tX9_takes0 (Mo.sm (Sm.tr Sm.rf jX9_takes0) s0) (b5 c1) ?_)
    show Go X (d + 4) mc ms kX9_readSum Q 26 [(0, .ref a0), (1, .int (x1))] [.int ((fX9_takes0 (mX9_takes0 M a0 (fX9_sign 43)) a0 (fX9_sign 45)))] (mX9_takes0 (mX9_takes0 M a0 (fX9_sign 43)) a0 (fX9_sign 45)) c z
    refine g_if_eq 37 29 dX9_readSum_26 rfl rfl (fun c2 => ?_) (fun c2 => ?_)
    · skip
      exact g_vret dX9_readSum_37 rfl (w1) (w2) (h6 c1 c2)
    · skip
      refine g_aload_n 0 30 dX9_readSum_29 rfl rfl ?_
      refine g_iload_n 1 31 dX9_readSum_30 rfl rfl ?_
      exact g_callV (mc1 := 0) (ms1 := 0) (b := a0) (rest := []) (av := [.int (x1)]) kX9_readTerm 34 dX9_readSum_31 rfl rfl mbX9_232 imX9_readTerm seX9_readTerm gcl9.1 (Sm.k (Sm.tr (Sm.tr Sm.rf jX9_takes0) jX9_takes0) s0.1) (Nat.le_of_ble_eq_true rfl) (w1) (w2) (h7 c1 c2)

set_option maxRecDepth 4000 in
theorem sX9_readSum_34 {X : gX} {d mc ms : Nat} {Q : Option Value → gM → Prop} {M : gM} {c z : Nat} {a0 : Nat} {x1 : Int32} (s0 : Mo M a0) (h1 : Go X (d + 4) mc ms kX9_readSum Q 5 [(0, .ref a0), (1, .int (x1))] [] M c z) : Go X (d + 4) mc ms kX9_readSum Q 34 [(0, .ref a0), (1, .int (x1))] [] M c z := by
  refine g_goto 5 dX9_readSum_34 rfl ?_
  exact (h1)

set_option maxRecDepth 4000 in
theorem sX9_readTerm_0 {X : gX} {d mc ms : Nat} {Q : Option Value → gM → Prop} {M : gM} {a0 : Nat} {x1 : Int32} (s0 : Mo M a0) (h1 : Cn X (d + 3) 0 0 kX9_readPart [.ref a0, .int (x1)] M (fun v M1 => Go X (d + 4) mc ms kX9_readTerm Q 5 [(0, .ref a0), (1, .int (x1))] (v.toList ++ []) M1 0 0)) : Cn X (d + 4) mc ms kX9_readTerm [.ref a0, .int (x1)] M Q := by
  refine g_meth rfl rfl (Nat.le_of_ble_eq_true rfl) rfl ?_
  refine g_aload_n 0 1 dX9_readTerm_0 rfl rfl ?_
  refine g_iload_n 1 2 dX9_readTerm_1 rfl rfl ?_
  exact g_callV (mc1 := 0) (ms1 := 0) (b := a0) (rest := []) (av := [.int (x1)]) kX9_readPart 5 dX9_readTerm_2 rfl rfl mbX9_235 imX9_readPart seX9_readPart gcl9.1 s0.1 (Nat.le_of_ble_eq_true rfl) (Nat.zero_le _) (Nat.zero_le _) (h1)

set_option maxRecDepth 4000 in
theorem sX9_readTerm_5 {X : gX} {d mc ms : Nat} {Q : Option Value → gM → Prop} {M : gM} {c z : Nat} {a0 : Nat} {x1 : Int32} (s0 : Mo M a0) (w1 : c ≤ mc) (w2 : z ≤ ms) (b3 : EX9_takes0 M a0 (fX9_sign 42)) (h4 : (¬ (fX9_takes0 M a0 (fX9_sign 42)) = 0) → Cn X (d + 3) 0 0 kX9_readPart [.ref a0, .int (x1)] (mX9_takes0 M a0 (fX9_sign 42)) (fun v M1 => Go X (d + 4) mc ms kX9_readTerm Q 46 [(0, .ref a0), (1, .int (x1))] (v.toList ++ []) M1 c z)) (b5 : ((fX9_takes0 M a0 (fX9_sign 42)) = 0) → EX9_takes0 (mX9_takes0 M a0 (fX9_sign 42)) a0 (fX9_sign 47)) (h6 : ((fX9_takes0 M a0 (fX9_sign 42)) = 0) → (¬ (fX9_takes0 (mX9_takes0 M a0 (fX9_sign 42)) a0 (fX9_sign 47)) = 0) → Cn X (d + 3) 0 0 kX9_readPart [.ref a0, .int (x1)] (mX9_takes0 (mX9_takes0 M a0 (fX9_sign 42)) a0 (fX9_sign 47)) (fun v M1 => Go X (d + 4) mc ms kX9_readTerm Q 46 [(0, .ref a0), (1, .int (x1))] (v.toList ++ []) M1 c z)) (b7 : ((fX9_takes0 M a0 (fX9_sign 42)) = 0) → ((fX9_takes0 (mX9_takes0 M a0 (fX9_sign 42)) a0 (fX9_sign 47)) = 0) → EX9_takes0 (mX9_takes0 (mX9_takes0 M a0 (fX9_sign 42)) a0 (fX9_sign 47)) a0 (fX9_sign 37)) (h8 : ((fX9_takes0 M a0 (fX9_sign 42)) = 0) → ((fX9_takes0 (mX9_takes0 M a0 (fX9_sign 42)) a0 (fX9_sign 47)) = 0) → ((fX9_takes0 (mX9_takes0 (mX9_takes0 M a0 (fX9_sign 42)) a0 (fX9_sign 47)) a0 (fX9_sign 37)) = 0) → Q none (mX9_takes0 (mX9_takes0 (mX9_takes0 M a0 (fX9_sign 42)) a0 (fX9_sign 47)) a0 (fX9_sign 37))) (h9 : ((fX9_takes0 M a0 (fX9_sign 42)) = 0) → ((fX9_takes0 (mX9_takes0 M a0 (fX9_sign 42)) a0 (fX9_sign 47)) = 0) → (¬ (fX9_takes0 (mX9_takes0 (mX9_takes0 M a0 (fX9_sign 42)) a0 (fX9_sign 47)) a0 (fX9_sign 37)) = 0) → Cn X (d + 3) 0 0 kX9_readPart [.ref a0, .int (x1)] (mX9_takes0 (mX9_takes0 (mX9_takes0 M a0 (fX9_sign 42)) a0 (fX9_sign 47)) a0 (fX9_sign 37)) (fun v M1 => Go X (d + 4) mc ms kX9_readTerm Q 46 [(0, .ref a0), (1, .int (x1))] (v.toList ++ []) M1 c z)) : Go X (d + 4) mc ms kX9_readTerm Q 5 [(0, .ref a0), (1, .int (x1))] [] M c z := by
  refine g_aload_n 0 6 dX9_readTerm_5 rfl rfl ?_
  refine g_bipush (42) 8 dX9_readTerm_6 rfl rfl ?_
  refine g_callS (mc1 := 0) (ms1 := 0) (rest := [.ref a0]) (av := [.int (42)]) kX9_sign 11 dX9_readTerm_8 rfl rfl mbX9_228 smX9_sign (Nat.le_of_ble_eq_true rfl) (w1) (w2) (tX9_sign  ?_)
  show Go X (d + 4) mc ms kX9_readTerm Q 11 [(0, .ref a0), (1, .int (x1))] [.int ((fX9_sign 42)), .ref a0] M c z
  refine g_callV (mc1 := 0) (ms1 := 0) (b := a0) (rest := []) (av := [.int ((fX9_sign 42))]) kX9_takes0 14 dX9_readTerm_11 rfl rfl mbX9_189 imX9_takes0 seX9_takes0 gcl9.1 s0.1 (Nat.le_of_ble_eq_true rfl) (w1) (w2) (tX9_takes0 s0 (b3) ?_)
  show Go X (d + 4) mc ms kX9_readTerm Q 14 [(0, .ref a0), (1, .int (x1))] [.int ((fX9_takes0 M a0 (fX9_sign 42)))] (mX9_takes0 M a0 (fX9_sign 42)) c z
  refine g_if_ne 41 17 dX9_readTerm_14 rfl rfl (fun c1 => ?_) (fun c1 => ?_)
  · skip
    refine g_aload_n 0 42 dX9_readTerm_41 rfl rfl ?_
    refine g_iload_n 1 43 dX9_readTerm_42 rfl rfl ?_
    exact g_callV (mc1 := 0) (ms1 := 0) (b := a0) (rest := []) (av := [.int (x1)]) kX9_readPart 46 dX9_readTerm_43 rfl rfl mbX9_235 imX9_readPart seX9_readPart gcl9.1 (Sm.k (Sm.tr Sm.rf jX9_takes0) s0.1) (Nat.le_of_ble_eq_true rfl) (w1) (w2) (h4 c1)
  · skip
    refine g_aload_n 0 18 dX9_readTerm_17 rfl rfl ?_
    refine g_bipush (47) 20 dX9_readTerm_18 rfl rfl ?_
    refine g_callS (mc1 := 0) (ms1 := 0) (rest := [.ref a0]) (av := [.int (47)]) kX9_sign 23 dX9_readTerm_20 rfl rfl mbX9_228 smX9_sign (Nat.le_of_ble_eq_true rfl) (w1) (w2) (tX9_sign  ?_)
    show Go X (d + 4) mc ms kX9_readTerm Q 23 [(0, .ref a0), (1, .int (x1))] [.int ((fX9_sign 47)), .ref a0] (mX9_takes0 M a0 (fX9_sign 42)) c z
    refine g_callV (mc1 := 0) (ms1 := 0) (b := a0) (rest := []) (av := [.int ((fX9_sign 47))]) kX9_takes0 26 dX9_readTerm_23 rfl rfl mbX9_189 imX9_takes0 seX9_takes0 gcl9.1 (Sm.k (Sm.tr Sm.rf jX9_takes0) s0.1) (Nat.le_of_ble_eq_true rfl) (w1) (w2) (tX9_takes0 (Mo.sm (Sm.tr Sm.rf jX9_takes0) s0) (b5 c1) ?_)
    show Go X (d + 4) mc ms kX9_readTerm Q 26 [(0, .ref a0), (1, .int (x1))] [.int ((fX9_takes0 (mX9_takes0 M a0 (fX9_sign 42)) a0 (fX9_sign 47)))] (mX9_takes0 (mX9_takes0 M a0 (fX9_sign 42)) a0 (fX9_sign 47)) c z
    refine g_if_ne 41 29 dX9_readTerm_26 rfl rfl (fun c2 => ?_) (fun c2 => ?_)
    · skip
      refine g_aload_n 0 42 dX9_readTerm_41 rfl rfl ?_
      refine g_iload_n 1 43 dX9_readTerm_42 rfl rfl ?_
      exact g_callV (mc1 := 0) (ms1 := 0) (b := a0) (rest := []) (av := [.int (x1)]) kX9_readPart 46 dX9_readTerm_43 rfl rfl mbX9_235 imX9_readPart seX9_readPart gcl9.1 (Sm.k (Sm.tr (Sm.tr Sm.rf jX9_takes0) jX9_takes0) s0.1) (Nat.le_of_ble_eq_true rfl) (w1) (w2) (h6 c1 c2)
    · skip
      refine g_aload_n 0 30 dX9_readTerm_29 rfl rfl ?_
      refine g_bipush (37) 32 dX9_readTerm_30 rfl rfl ?_
      refine g_callS (mc1 := 0) (ms1 := 0) (rest := [.ref a0]) (av := [.int (37)]) kX9_sign 35 dX9_readTerm_32 rfl rfl mbX9_228 smX9_sign (Nat.le_of_ble_eq_true rfl) (w1) (w2) (tX9_sign  ?_)
      show Go X (d + 4) mc ms kX9_readTerm Q 35 [(0, .ref a0), (1, .int (x1))] [.int ((fX9_sign 37)), .ref a0] (mX9_takes0 (mX9_takes0 M a0 (fX9_sign 42)) a0 (fX9_sign 47)) c z
      refine g_callV (mc1 := 0) (ms1 := 0) (b := a0) (rest := []) (av := [.int ((fX9_sign 37))]) kX9_takes0 38 dX9_readTerm_35 rfl rfl mbX9_189 imX9_takes0 seX9_takes0 gcl9.1 (Sm.k (Sm.tr (Sm.tr Sm.rf jX9_takes0) jX9_takes0) s0.1) (Nat.le_of_ble_eq_true rfl) (w1) (w2) (tX9_takes0 (Mo.sm (Sm.tr (Sm.tr Sm.rf jX9_takes0) jX9_takes0) s0) (b7 c1 c2) ?_)
      show Go X (d + 4) mc ms kX9_readTerm Q 38 [(0, .ref a0), (1, .int (x1))] [.int ((fX9_takes0 (mX9_takes0 (mX9_takes0 M a0 (fX9_sign 42)) a0 (fX9_sign 47)) a0 (fX9_sign 37)))] (mX9_takes0 (mX9_takes0 (mX9_takes0 M a0 (fX9_sign 42)) a0 (fX9_sign 47)) a0 (fX9_sign 37)) c z
      refine g_if_eq 49 41 dX9_readTerm_38 rfl rfl (fun c3 => ?_) (fun c3 => ?_)
      · skip
        exact g_vret dX9_readTerm_49 rfl (w1) (w2) (h8 c1 c2 c3)
      · skip
        refine g_aload_n 0 42 dX9_readTerm_41 rfl rfl ?_
        refine g_iload_n 1 43 dX9_readTerm_42 rfl rfl ?_
        exact g_callV (mc1 := 0) (ms1 := 0) (b := a0) (rest := []) (av := [.int (x1)]) kX9_readPart 46 dX9_readTerm_43 rfl rfl mbX9_235 imX9_readPart seX9_readPart gcl9.1 (Sm.k (Sm.tr (Sm.tr (Sm.tr Sm.rf jX9_takes0) jX9_takes0) jX9_takes0) s0.1) (Nat.le_of_ble_eq_true rfl) (w1) (w2) (h9 c1 c2 c3)

set_option maxRecDepth 4000 in
theorem sX9_readTerm_46 {X : gX} {d mc ms : Nat} {Q : Option Value → gM → Prop} {M : gM} {c z : Nat} {a0 : Nat} {x1 : Int32} (s0 : Mo M a0) (h1 : Go X (d + 4) mc ms kX9_readTerm Q 5 [(0, .ref a0), (1, .int (x1))] [] M c z) : Go X (d + 4) mc ms kX9_readTerm Q 46 [(0, .ref a0), (1, .int (x1))] [] M c z := by
  refine g_goto 5 dX9_readTerm_46 rfl ?_
  exact (h1)

set_option maxRecDepth 4000 in
theorem sX9_readPart_0 {X : gX} {d mc ms : Nat} {Q : Option Value → gM → Prop} {M : gM} {a0 : Nat} {x1 : Int32} (s0 : Mo M a0) (b1 : (¬ (fX9_fine M a0) = 0) → vp_in ((g_mi M a0 19)) 401) (b2 : (¬ (fX9_fine M a0) = 0) → (¬ (g_mi M (a0 + 9) ((g_mi M a0 19)).toNatClampNeg) = (fX9_sign 91)) → (¬ (g_mi M (a0 + 9) ((g_mi M a0 19)).toNatClampNeg) = 50) → ((g_mi M (a0 + 9) ((g_mi M a0 19)).toNatClampNeg) < (g_mi M a0 8)) → EX9_faults M a0) (h3 : (¬ (fX9_fine M a0) = 0) → (¬ (g_mi M (a0 + 9) ((g_mi M a0 19)).toNatClampNeg) = (fX9_sign 91)) → (¬ (g_mi M (a0 + 9) ((g_mi M a0 19)).toNatClampNeg) = 50) → ((g_mi M (a0 + 9) ((g_mi M a0 19)).toNatClampNeg) < (g_mi M a0 8)) → Q none (mX9_faults M a0)) (b4 : (¬ (fX9_fine M a0) = 0) → (¬ (g_mi M (a0 + 9) ((g_mi M a0 19)).toNatClampNeg) = (fX9_sign 91)) → (¬ (g_mi M (a0 + 9) ((g_mi M a0 19)).toNatClampNeg) = 50) → (¬ (g_mi M (a0 + 9) ((g_mi M a0 19)).toNatClampNeg) < (g_mi M a0 8)) → ((g_mi M a0 9) < (g_mi M (a0 + 9) ((g_mi M a0 19)).toNatClampNeg)) → EX9_faults M a0) (h5 : (¬ (fX9_fine M a0) = 0) → (¬ (g_mi M (a0 + 9) ((g_mi M a0 19)).toNatClampNeg) = (fX9_sign 91)) → (¬ (g_mi M (a0 + 9) ((g_mi M a0 19)).toNatClampNeg) = 50) → (¬ (g_mi M (a0 + 9) ((g_mi M a0 19)).toNatClampNeg) < (g_mi M a0 8)) → ((g_mi M a0 9) < (g_mi M (a0 + 9) ((g_mi M a0 19)).toNatClampNeg)) → Q none (mX9_faults M a0)) (b6 : (¬ (fX9_fine M a0) = 0) → (¬ (g_mi M (a0 + 9) ((g_mi M a0 19)).toNatClampNeg) = (fX9_sign 91)) → (¬ (g_mi M (a0 + 9) ((g_mi M a0 19)).toNatClampNeg) = 50) → (¬ (g_mi M (a0 + 9) ((g_mi M a0 19)).toNatClampNeg) < (g_mi M a0 8)) → (¬ (g_mi M a0 9) < (g_mi M (a0 + 9) ((g_mi M a0 19)).toNatClampNeg)) → EX9_leaf M a0) (h7 : (¬ (fX9_fine M a0) = 0) → (¬ (g_mi M (a0 + 9) ((g_mi M a0 19)).toNatClampNeg) = (fX9_sign 91)) → (¬ (g_mi M (a0 + 9) ((g_mi M a0 19)).toNatClampNeg) = 50) → (¬ (g_mi M (a0 + 9) ((g_mi M a0 19)).toNatClampNeg) < (g_mi M a0 8)) → (¬ (g_mi M a0 9) < (g_mi M (a0 + 9) ((g_mi M a0 19)).toNatClampNeg)) → ((g_mi (mX9_leaf M a0) a0 10) = 0) → Q none (mX9_leaf M a0)) (h8 : (¬ (fX9_fine M a0) = 0) → (¬ (g_mi M (a0 + 9) ((g_mi M a0 19)).toNatClampNeg) = (fX9_sign 91)) → (¬ (g_mi M (a0 + 9) ((g_mi M a0 19)).toNatClampNeg) = 50) → (¬ (g_mi M (a0 + 9) ((g_mi M a0 19)).toNatClampNeg) < (g_mi M a0 8)) → (¬ (g_mi M a0 9) < (g_mi M (a0 + 9) ((g_mi M a0 19)).toNatClampNeg)) → (¬ (g_mi (mX9_leaf M a0) a0 10) = 0) → (¬ (g_mi M (a0 + 9) ((g_mi M a0 19)).toNatClampNeg) = 12) → (¬ (g_mi M (a0 + 9) ((g_mi M a0 19)).toNatClampNeg) = 17) → Q none (mX9_leaf M a0)) (b9 : (¬ (fX9_fine M a0) = 0) → (¬ (g_mi M (a0 + 9) ((g_mi M a0 19)).toNatClampNeg) = (fX9_sign 91)) → (¬ (g_mi M (a0 + 9) ((g_mi M a0 19)).toNatClampNeg) = 50) → (¬ (g_mi M (a0 + 9) ((g_mi M a0 19)).toNatClampNeg) < (g_mi M a0 8)) → (¬ (g_mi M a0 9) < (g_mi M (a0 + 9) ((g_mi M a0 19)).toNatClampNeg)) → (¬ (g_mi (mX9_leaf M a0) a0 10) = 0) → (¬ (g_mi M (a0 + 9) ((g_mi M a0 19)).toNatClampNeg) = 12) → ((g_mi M (a0 + 9) ((g_mi M a0 19)).toNatClampNeg) = 17) → EX9_mustNumber (mX9_leaf M a0) a0 0 999) (h10 : (¬ (fX9_fine M a0) = 0) → (¬ (g_mi M (a0 + 9) ((g_mi M a0 19)).toNatClampNeg) = (fX9_sign 91)) → (¬ (g_mi M (a0 + 9) ((g_mi M a0 19)).toNatClampNeg) = 50) → (¬ (g_mi M (a0 + 9) ((g_mi M a0 19)).toNatClampNeg) < (g_mi M a0 8)) → (¬ (g_mi M a0 9) < (g_mi M (a0 + 9) ((g_mi M a0 19)).toNatClampNeg)) → (¬ (g_mi (mX9_leaf M a0) a0 10) = 0) → (¬ (g_mi M (a0 + 9) ((g_mi M a0 19)).toNatClampNeg) = 12) → ((g_mi M (a0 + 9) ((g_mi M a0 19)).toNatClampNeg) = 17) → Q none (mX9_mustNumber (mX9_leaf M a0) a0 0 999)) (b11 : (¬ (fX9_fine M a0) = 0) → (¬ (g_mi M (a0 + 9) ((g_mi M a0 19)).toNatClampNeg) = (fX9_sign 91)) → (¬ (g_mi M (a0 + 9) ((g_mi M a0 19)).toNatClampNeg) = 50) → (¬ (g_mi M (a0 + 9) ((g_mi M a0 19)).toNatClampNeg) < (g_mi M a0 8)) → (¬ (g_mi M a0 9) < (g_mi M (a0 + 9) ((g_mi M a0 19)).toNatClampNeg)) → (¬ (g_mi (mX9_leaf M a0) a0 10) = 0) → ((g_mi M (a0 + 9) ((g_mi M a0 19)).toNatClampNeg) = 12) → EX9_mustNumber (mX9_leaf M a0) a0 0 59) (h12 : (¬ (fX9_fine M a0) = 0) → (¬ (g_mi M (a0 + 9) ((g_mi M a0 19)).toNatClampNeg) = (fX9_sign 91)) → (¬ (g_mi M (a0 + 9) ((g_mi M a0 19)).toNatClampNeg) = 50) → (¬ (g_mi M (a0 + 9) ((g_mi M a0 19)).toNatClampNeg) < (g_mi M a0 8)) → (¬ (g_mi M a0 9) < (g_mi M (a0 + 9) ((g_mi M a0 19)).toNatClampNeg)) → (¬ (g_mi (mX9_leaf M a0) a0 10) = 0) → ((g_mi M (a0 + 9) ((g_mi M a0 19)).toNatClampNeg) = 12) → ((g_mi (mX9_mustNumber (mX9_leaf M a0) a0 0 59) a0 10) = 0) → Q none (mX9_mustNumber (mX9_leaf M a0) a0 0 59)) (h13 : (¬ (fX9_fine M a0) = 0) → (¬ (g_mi M (a0 + 9) ((g_mi M a0 19)).toNatClampNeg) = (fX9_sign 91)) → (¬ (g_mi M (a0 + 9) ((g_mi M a0 19)).toNatClampNeg) = 50) → (¬ (g_mi M (a0 + 9) ((g_mi M a0 19)).toNatClampNeg) < (g_mi M a0 8)) → (¬ (g_mi M a0 9) < (g_mi M (a0 + 9) ((g_mi M a0 19)).toNatClampNeg)) → (¬ (g_mi (mX9_leaf M a0) a0 10) = 0) → ((g_mi M (a0 + 9) ((g_mi M a0 19)).toNatClampNeg) = 12) → (¬ (g_mi (mX9_mustNumber (mX9_leaf M a0) a0 0 59) a0 10) = 0) → Q none (mX9_mustNumber (mX9_leaf M a0) a0 0 59)) (b14 : (¬ (fX9_fine M a0) = 0) → (¬ (g_mi M (a0 + 9) ((g_mi M a0 19)).toNatClampNeg) = (fX9_sign 91)) → ((g_mi M (a0 + 9) ((g_mi M a0 19)).toNatClampNeg) = 50) → vp_in ((g_mi M a0 19)) 401) (b15 : (¬ (fX9_fine M a0) = 0) → (¬ (g_mi M (a0 + 9) ((g_mi M a0 19)).toNatClampNeg) = (fX9_sign 91)) → ((g_mi M (a0 + 9) ((g_mi M a0 19)).toNatClampNeg) = 50) → ((g_mi M (a0 + 10) ((g_mi M a0 19)).toNatClampNeg) ≤ 1000) → EX9_leaf M a0) (h16 : (¬ (fX9_fine M a0) = 0) → (¬ (g_mi M (a0 + 9) ((g_mi M a0 19)).toNatClampNeg) = (fX9_sign 91)) → ((g_mi M (a0 + 9) ((g_mi M a0 19)).toNatClampNeg) = 50) → ((g_mi M (a0 + 10) ((g_mi M a0 19)).toNatClampNeg) ≤ 1000) → ((g_mi (mX9_leaf M a0) a0 10) = 0) → Q none (mX9_leaf M a0)) (h17 : (¬ (fX9_fine M a0) = 0) → (¬ (g_mi M (a0 + 9) ((g_mi M a0 19)).toNatClampNeg) = (fX9_sign 91)) → ((g_mi M (a0 + 9) ((g_mi M a0 19)).toNatClampNeg) = 50) → ((g_mi M (a0 + 10) ((g_mi M a0 19)).toNatClampNeg) ≤ 1000) → (¬ (g_mi (mX9_leaf M a0) a0 10) = 0) → Q none (mX9_leaf M a0)) (b18 : (¬ (fX9_fine M a0) = 0) → (¬ (g_mi M (a0 + 9) ((g_mi M a0 19)).toNatClampNeg) = (fX9_sign 91)) → ((g_mi M (a0 + 9) ((g_mi M a0 19)).toNatClampNeg) = 50) → (¬ (g_mi M (a0 + 10) ((g_mi M a0 19)).toNatClampNeg) ≤ 1000) → ((g_mi M (a0 + 9) ((g_mi M a0 19)).toNatClampNeg) < (g_mi M a0 8)) → EX9_faults M a0) (h19 : (¬ (fX9_fine M a0) = 0) → (¬ (g_mi M (a0 + 9) ((g_mi M a0 19)).toNatClampNeg) = (fX9_sign 91)) → ((g_mi M (a0 + 9) ((g_mi M a0 19)).toNatClampNeg) = 50) → (¬ (g_mi M (a0 + 10) ((g_mi M a0 19)).toNatClampNeg) ≤ 1000) → ((g_mi M (a0 + 9) ((g_mi M a0 19)).toNatClampNeg) < (g_mi M a0 8)) → Q none (mX9_faults M a0)) (b20 : (¬ (fX9_fine M a0) = 0) → (¬ (g_mi M (a0 + 9) ((g_mi M a0 19)).toNatClampNeg) = (fX9_sign 91)) → ((g_mi M (a0 + 9) ((g_mi M a0 19)).toNatClampNeg) = 50) → (¬ (g_mi M (a0 + 10) ((g_mi M a0 19)).toNatClampNeg) ≤ 1000) → (¬ (g_mi M (a0 + 9) ((g_mi M a0 19)).toNatClampNeg) < (g_mi M a0 8)) → ((g_mi M a0 9) < (g_mi M (a0 + 9) ((g_mi M a0 19)).toNatClampNeg)) → EX9_faults M a0) (h21 : (¬ (fX9_fine M a0) = 0) → (¬ (g_mi M (a0 + 9) ((g_mi M a0 19)).toNatClampNeg) = (fX9_sign 91)) → ((g_mi M (a0 + 9) ((g_mi M a0 19)).toNatClampNeg) = 50) → (¬ (g_mi M (a0 + 10) ((g_mi M a0 19)).toNatClampNeg) ≤ 1000) → (¬ (g_mi M (a0 + 9) ((g_mi M a0 19)).toNatClampNeg) < (g_mi M a0 8)) → ((g_mi M a0 9) < (g_mi M (a0 + 9) ((g_mi M a0 19)).toNatClampNeg)) → Q none (mX9_faults M a0)) (b22 : (¬ (fX9_fine M a0) = 0) → (¬ (g_mi M (a0 + 9) ((g_mi M a0 19)).toNatClampNeg) = (fX9_sign 91)) → ((g_mi M (a0 + 9) ((g_mi M a0 19)).toNatClampNeg) = 50) → (¬ (g_mi M (a0 + 10) ((g_mi M a0 19)).toNatClampNeg) ≤ 1000) → (¬ (g_mi M (a0 + 9) ((g_mi M a0 19)).toNatClampNeg) < (g_mi M a0 8)) → (¬ (g_mi M a0 9) < (g_mi M (a0 + 9) ((g_mi M a0 19)).toNatClampNeg)) → EX9_leaf M a0) (h23 : (¬ (fX9_fine M a0) = 0) → (¬ (g_mi M (a0 + 9) ((g_mi M a0 19)).toNatClampNeg) = (fX9_sign 91)) → ((g_mi M (a0 + 9) ((g_mi M a0 19)).toNatClampNeg) = 50) → (¬ (g_mi M (a0 + 10) ((g_mi M a0 19)).toNatClampNeg) ≤ 1000) → (¬ (g_mi M (a0 + 9) ((g_mi M a0 19)).toNatClampNeg) < (g_mi M a0 8)) → (¬ (g_mi M a0 9) < (g_mi M (a0 + 9) ((g_mi M a0 19)).toNatClampNeg)) → ((g_mi (mX9_leaf M a0) a0 10) = 0) → Q none (mX9_leaf M a0)) (h24 : (¬ (fX9_fine M a0) = 0) → (¬ (g_mi M (a0 + 9) ((g_mi M a0 19)).toNatClampNeg) = (fX9_sign 91)) → ((g_mi M (a0 + 9) ((g_mi M a0 19)).toNatClampNeg) = 50) → (¬ (g_mi M (a0 + 10) ((g_mi M a0 19)).toNatClampNeg) ≤ 1000) → (¬ (g_mi M (a0 + 9) ((g_mi M a0 19)).toNatClampNeg) < (g_mi M a0 8)) → (¬ (g_mi M a0 9) < (g_mi M (a0 + 9) ((g_mi M a0 19)).toNatClampNeg)) → (¬ (g_mi (mX9_leaf M a0) a0 10) = 0) → Q none (mX9_leaf M a0)) (h25 : (¬ (fX9_fine M a0) = 0) → ((g_mi M (a0 + 9) ((g_mi M a0 19)).toNatClampNeg) = (fX9_sign 91)) → (¬ x1 = 8) → Cn X (d + 3) 0 0 kX9_readSum [.ref a0, .int ((x1 + 1))] (g_wi M a0 19 ((g_mi M a0 19) + 1)) (fun v M1 => Go X (d + 4) mc ms kX9_readPart Q 62 [(0, .ref a0)] (v.toList ++ []) M1 0 0)) (b26 : (¬ (fX9_fine M a0) = 0) → ((g_mi M (a0 + 9) ((g_mi M a0 19)).toNatClampNeg) = (fX9_sign 91)) → (x1 = 8) → EX9_faults M a0) (h27 : (¬ (fX9_fine M a0) = 0) → ((g_mi M (a0 + 9) ((g_mi M a0 19)).toNatClampNeg) = (fX9_sign 91)) → (x1 = 8) → (¬ (fX9_fine (mX9_faults M a0) a0) = 0) → Cn X (d + 3) 0 0 kX9_readSum [.ref a0, .int ((x1 + 1))] (g_wi (mX9_faults M a0) a0 19 ((g_mi (mX9_faults M a0) a0 19) + 1)) (fun v M1 => Go X (d + 4) mc ms kX9_readPart Q 62 [(0, .ref a0)] (v.toList ++ []) M1 0 0)) (h28 : (¬ (fX9_fine M a0) = 0) → ((g_mi M (a0 + 9) ((g_mi M a0 19)).toNatClampNeg) = (fX9_sign 91)) → (x1 = 8) → ((fX9_fine (mX9_faults M a0) a0) = 0) → Q none (mX9_faults M a0)) (h29 : ((fX9_fine M a0) = 0) → Q none M) : Cn X (d + 4) mc ms kX9_readPart [.ref a0, .int (x1)] M Q := by
  refine g_meth rfl rfl (Nat.le_of_ble_eq_true rfl) rfl ?_
  refine g_aload_n 0 1 dX9_readPart_0 rfl rfl ?_
  refine g_callV (mc1 := 0) (ms1 := 0) (b := a0) (rest := []) (av := []) kX9_fine 4 dX9_readPart_1 rfl rfl mbX9_182 imX9_fine seX9_fine gcl9.1 s0.1 (Nat.le_of_ble_eq_true rfl) (Nat.zero_le _) (Nat.zero_le _) (tX9_fine s0 ?_)
  show Go X (d + 4) mc ms kX9_readPart Q 4 [(0, .ref a0), (1, .int (x1))] [.int ((fX9_fine M a0))] M 0 0
  refine g_if_ne 8 7 dX9_readPart_4 rfl rfl (fun c1 => ?_) (fun c1 => ?_)
  · skip
    refine g_aload_n 0 9 dX9_readPart_8 rfl rfl ?_
    refine g_getR 12 (a0 + 9) dX9_readPart_9 rfl flX9_54 s0.1 s0.2.2.2.2.2.2.2.2.2.2.2.2.2.2.2.2.2.1 ?_
    refine g_aload_n 0 13 dX9_readPart_12 rfl rfl ?_
    refine g_getI 16 dX9_readPart_13 rfl flX9_186 s0.1 ?_
    refine h_iaload 17 ((g_mi M a0 19)).toNatClampNeg dX9_readPart_16 rfl rfl s0.2.2.2.2.2.2.2.2.2.2.2.2.2.2.2.2.2.2.1 (b1 c1) ?_
    refine g_istore_n 18 [(2, .int ((g_mi M (a0 + 9) ((g_mi M a0 19)).toNatClampNeg))), (0, .ref a0), (1, .int (x1))] dX9_readPart_17 rfl (Nat.le_of_ble_eq_true rfl) rfl ?_
    refine g_iload_n 0 19 dX9_readPart_18 rfl rfl ?_
    refine g_bipush (91) 21 dX9_readPart_19 rfl rfl ?_
    refine g_callS (mc1 := 0) (ms1 := 0) (rest := [.int ((g_mi M (a0 + 9) ((g_mi M a0 19)).toNatClampNeg))]) (av := [.int (91)]) kX9_sign 24 dX9_readPart_21 rfl rfl mbX9_228 smX9_sign (Nat.le_of_ble_eq_true rfl) (Nat.zero_le _) (Nat.zero_le _) (tX9_sign  ?_)
    show Go X (d + 4) mc ms kX9_readPart Q 24 [(2, .int ((g_mi M (a0 + 9) ((g_mi M a0 19)).toNatClampNeg))), (0, .ref a0), (1, .int (x1))] [.int ((fX9_sign 91)), .int ((g_mi M (a0 + 9) ((g_mi M a0 19)).toNatClampNeg))] M 0 0
    refine g_icmp_ne 74 27 dX9_readPart_24 rfl rfl (fun c2 => ?_) (fun c2 => ?_)
    · skip
      refine g_iload_n 0 75 dX9_readPart_74 rfl rfl ?_
      refine g_bipush (50) 77 dX9_readPart_75 rfl rfl ?_
      refine g_icmp_ne 95 80 dX9_readPart_77 rfl rfl (fun c3 => ?_) (fun c3 => ?_)
      · skip
        refine g_iload_n 0 96 dX9_readPart_95 rfl rfl ?_
        refine g_aload_n 1 97 dX9_readPart_96 rfl rfl ?_
        refine g_getI 100 dX9_readPart_97 rfl flX9_238 s0.1 ?_
        refine g_icmp_lt 159 103 dX9_readPart_100 rfl rfl (fun c4 => ?_) (fun c4 => ?_)
        · skip
          refine g_aload_n 1 160 dX9_readPart_159 rfl rfl ?_
          refine g_callV (mc1 := 0) (ms1 := 0) (b := a0) (rest := []) (av := []) kX9_faults 163 dX9_readPart_160 rfl rfl mbX9_192 imX9_faults seX9_faults gcl9.1 s0.1 (Nat.le_of_ble_eq_true rfl) (Nat.zero_le _) (Nat.zero_le _) (tX9_faults s0 (b2 c1 c2 c3 c4) ?_)
          show Go X (d + 4) mc ms kX9_readPart Q 163 [(2, .int ((g_mi M (a0 + 9) ((g_mi M a0 19)).toNatClampNeg))), (0, .ref a0), (1, .int (x1))] [] (mX9_faults M a0) 0 0
          exact g_vret dX9_readPart_163 rfl (Nat.zero_le _) (Nat.zero_le _) (h3 c1 c2 c3 c4)
        · skip
          refine g_iload_n 0 104 dX9_readPart_103 rfl rfl ?_
          refine g_aload_n 1 105 dX9_readPart_104 rfl rfl ?_
          refine g_getI 108 dX9_readPart_105 rfl flX9_241 s0.1 ?_
          refine g_icmp_gt 159 111 dX9_readPart_108 rfl rfl (fun c5 => ?_) (fun c5 => ?_)
          · skip
            refine g_aload_n 1 160 dX9_readPart_159 rfl rfl ?_
            refine g_callV (mc1 := 0) (ms1 := 0) (b := a0) (rest := []) (av := []) kX9_faults 163 dX9_readPart_160 rfl rfl mbX9_192 imX9_faults seX9_faults gcl9.1 s0.1 (Nat.le_of_ble_eq_true rfl) (Nat.zero_le _) (Nat.zero_le _) (tX9_faults s0 (b4 c1 c2 c3 c4 c5) ?_)
            show Go X (d + 4) mc ms kX9_readPart Q 163 [(2, .int ((g_mi M (a0 + 9) ((g_mi M a0 19)).toNatClampNeg))), (0, .ref a0), (1, .int (x1))] [] (mX9_faults M a0) 0 0
            exact g_vret dX9_readPart_163 rfl (Nat.zero_le _) (Nat.zero_le _) (h5 c1 c2 c3 c4 c5)
          · skip
            refine g_aload_n 1 112 dX9_readPart_111 rfl rfl ?_
            refine g_callV (mc1 := 0) (ms1 := 0) (b := a0) (rest := []) (av := []) kX9_leaf 115 dX9_readPart_112 rfl rfl mbX9_244 imX9_leaf seX9_leaf gcl9.1 s0.1 (Nat.le_of_ble_eq_true rfl) (Nat.zero_le _) (Nat.zero_le _) (tX9_leaf s0 (b6 c1 c2 c3 c4 c5) ?_)
            show Go X (d + 4) mc ms kX9_readPart Q 115 [(2, .int ((g_mi M (a0 + 9) ((g_mi M a0 19)).toNatClampNeg))), (0, .ref a0), (1, .int (x1))] [] (mX9_leaf M a0) 0 0
            refine g_aload_n 1 116 dX9_readPart_115 rfl rfl ?_
            refine g_getI 119 dX9_readPart_116 rfl flX9_212 (Sm.k (Sm.tr Sm.rf jX9_leaf) s0.1) ?_
            refine g_if_eq 135 122 dX9_readPart_119 rfl rfl (fun c6 => ?_) (fun c6 => ?_)
            · skip
              refine g_aload_n 1 136 dX9_readPart_135 rfl rfl ?_
              refine g_getI 139 dX9_readPart_136 rfl flX9_212 (Sm.k (Sm.tr Sm.rf jX9_leaf) s0.1) ?_
              refine g_if_eq 163 142 dX9_readPart_139 rfl rfl (fun _ => ?_) (fun q => absurd c6 q)
              exact g_vret dX9_readPart_163 rfl (Nat.zero_le _) (Nat.zero_le _) (h7 c1 c2 c3 c4 c5 c6)
            · skip
              refine g_iload_n 0 123 dX9_readPart_122 rfl rfl ?_
              refine g_bipush (12) 125 dX9_readPart_123 rfl rfl ?_
              refine g_icmp_ne 135 128 dX9_readPart_125 rfl rfl (fun c7 => ?_) (fun c7 => ?_)
              · skip
                refine g_aload_n 1 136 dX9_readPart_135 rfl rfl ?_
                refine g_getI 139 dX9_readPart_136 rfl flX9_212 (Sm.k (Sm.tr Sm.rf jX9_leaf) s0.1) ?_
                refine g_if_eq 163 142 dX9_readPart_139 rfl rfl (fun q => absurd q c6) (fun _ => ?_)
                refine g_iload_n 0 143 dX9_readPart_142 rfl rfl ?_
                refine g_bipush (17) 145 dX9_readPart_143 rfl rfl ?_
                refine g_icmp_ne 163 148 dX9_readPart_145 rfl rfl (fun c8 => ?_) (fun c8 => ?_)
                · skip
                  exact g_vret dX9_readPart_163 rfl (Nat.zero_le _) (Nat.zero_le _) (h8 c1 c2 c3 c4 c5 c6 c7 c8)
                · skip
                  refine g_aload_n 1 149 dX9_readPart_148 rfl rfl ?_
                  refine g_iconst (0) 150 dX9_readPart_149 rfl rfl ?_
                  refine g_sipush (999) 153 dX9_readPart_150 rfl rfl ?_
                  refine g_callV (mc1 := 0) (ms1 := 0) (b := a0) (rest := []) (av := [.int (0), .int (999)]) kX9_mustNumber 156 dX9_readPart_153 rfl rfl mbX9_208 imX9_mustNumber seX9_mustNumber gcl9.1 (Sm.k (Sm.tr Sm.rf jX9_leaf) s0.1) (Nat.le_of_ble_eq_true rfl) (Nat.zero_le _) (Nat.zero_le _) (tX9_mustNumber (Mo.sm (Sm.tr Sm.rf jX9_leaf) s0) (b9 c1 c2 c3 c4 c5 c6 c7 c8) ?_)
                  show Go X (d + 4) mc ms kX9_readPart Q 156 [(2, .int ((g_mi M (a0 + 9) ((g_mi M a0 19)).toNatClampNeg))), (0, .ref a0), (1, .int (x1))] [] (mX9_mustNumber (mX9_leaf M a0) a0 0 999) 0 0
                  refine g_goto 163 dX9_readPart_156 rfl ?_
                  exact g_vret dX9_readPart_163 rfl (Nat.zero_le _) (Nat.zero_le _) (h10 c1 c2 c3 c4 c5 c6 c7 c8)
              · skip
                refine g_aload_n 1 129 dX9_readPart_128 rfl rfl ?_
                refine g_iconst (0) 130 dX9_readPart_129 rfl rfl ?_
                refine g_bipush (59) 132 dX9_readPart_130 rfl rfl ?_
                refine g_callV (mc1 := 0) (ms1 := 0) (b := a0) (rest := []) (av := [.int (0), .int (59)]) kX9_mustNumber 135 dX9_readPart_132 rfl rfl mbX9_208 imX9_mustNumber seX9_mustNumber gcl9.1 (Sm.k (Sm.tr Sm.rf jX9_leaf) s0.1) (Nat.le_of_ble_eq_true rfl) (Nat.zero_le _) (Nat.zero_le _) (tX9_mustNumber (Mo.sm (Sm.tr Sm.rf jX9_leaf) s0) (b11 c1 c2 c3 c4 c5 c6 c7) ?_)
                show Go X (d + 4) mc ms kX9_readPart Q 135 [(2, .int ((g_mi M (a0 + 9) ((g_mi M a0 19)).toNatClampNeg))), (0, .ref a0), (1, .int (x1))] [] (mX9_mustNumber (mX9_leaf M a0) a0 0 59) 0 0
                refine g_aload_n 1 136 dX9_readPart_135 rfl rfl ?_
                refine g_getI 139 dX9_readPart_136 rfl flX9_212 (Sm.k (Sm.tr (Sm.tr Sm.rf jX9_leaf) jX9_mustNumber) s0.1) ?_
                refine g_if_eq 163 142 dX9_readPart_139 rfl rfl (fun c9 => ?_) (fun c9 => ?_)
                · skip
                  exact g_vret dX9_readPart_163 rfl (Nat.zero_le _) (Nat.zero_le _) (h12 c1 c2 c3 c4 c5 c6 c7 c9)
                · skip
                  refine g_iload_n 0 143 dX9_readPart_142 rfl rfl ?_
                  refine g_bipush (17) 145 dX9_readPart_143 rfl rfl ?_
                  refine g_icmp_ne 163 148 dX9_readPart_145 rfl rfl (fun _ => ?_) (fun q => absurd (c7.symm.trans q) (by decide))
                  exact g_vret dX9_readPart_163 rfl (Nat.zero_le _) (Nat.zero_le _) (h13 c1 c2 c3 c4 c5 c6 c7 c9)
      · skip
        refine g_aload_n 1 81 dX9_readPart_80 rfl rfl ?_
        refine g_getR 84 (a0 + 10) dX9_readPart_81 rfl flX9_57 s0.1 s0.2.2.2.2.2.2.2.2.2.2.2.2.2.2.2.2.2.2.2.1 ?_
        refine g_aload_n 1 85 dX9_readPart_84 rfl rfl ?_
        refine g_getI 88 dX9_readPart_85 rfl flX9_186 s0.1 ?_
        refine h_iaload 89 ((g_mi M a0 19)).toNatClampNeg dX9_readPart_88 rfl rfl s0.2.2.2.2.2.2.2.2.2.2.2.2.2.2.2.2.2.2.2.2.1 (b14 c1 c2 c3) ?_
        refine g_sipush (1000) 92 dX9_readPart_89 rfl rfl ?_
        refine g_icmp_le 111 95 dX9_readPart_92 rfl rfl (fun c10 => ?_) (fun c10 => ?_)
        · skip
          refine g_aload_n 1 112 dX9_readPart_111 rfl rfl ?_
          refine g_callV (mc1 := 0) (ms1 := 0) (b := a0) (rest := []) (av := []) kX9_leaf 115 dX9_readPart_112 rfl rfl mbX9_244 imX9_leaf seX9_leaf gcl9.1 s0.1 (Nat.le_of_ble_eq_true rfl) (Nat.zero_le _) (Nat.zero_le _) (tX9_leaf s0 (b15 c1 c2 c3 c10) ?_)
          show Go X (d + 4) mc ms kX9_readPart Q 115 [(2, .int ((g_mi M (a0 + 9) ((g_mi M a0 19)).toNatClampNeg))), (0, .ref a0), (1, .int (x1))] [] (mX9_leaf M a0) 0 0
          refine g_aload_n 1 116 dX9_readPart_115 rfl rfl ?_
          refine g_getI 119 dX9_readPart_116 rfl flX9_212 (Sm.k (Sm.tr Sm.rf jX9_leaf) s0.1) ?_
          refine g_if_eq 135 122 dX9_readPart_119 rfl rfl (fun c11 => ?_) (fun c11 => ?_)
          · skip
            refine g_aload_n 1 136 dX9_readPart_135 rfl rfl ?_
            refine g_getI 139 dX9_readPart_136 rfl flX9_212 (Sm.k (Sm.tr Sm.rf jX9_leaf) s0.1) ?_
            refine g_if_eq 163 142 dX9_readPart_139 rfl rfl (fun _ => ?_) (fun q => absurd c11 q)
            exact g_vret dX9_readPart_163 rfl (Nat.zero_le _) (Nat.zero_le _) (h16 c1 c2 c3 c10 c11)
          · skip
            refine g_iload_n 0 123 dX9_readPart_122 rfl rfl ?_
            refine g_bipush (12) 125 dX9_readPart_123 rfl rfl ?_
            refine g_icmp_ne 135 128 dX9_readPart_125 rfl rfl (fun _ => ?_) (fun q => absurd (c3.symm.trans q) (by decide))
            refine g_aload_n 1 136 dX9_readPart_135 rfl rfl ?_
            refine g_getI 139 dX9_readPart_136 rfl flX9_212 (Sm.k (Sm.tr Sm.rf jX9_leaf) s0.1) ?_
            refine g_if_eq 163 142 dX9_readPart_139 rfl rfl (fun q => absurd q c11) (fun _ => ?_)
            refine g_iload_n 0 143 dX9_readPart_142 rfl rfl ?_
            refine g_bipush (17) 145 dX9_readPart_143 rfl rfl ?_
            refine g_icmp_ne 163 148 dX9_readPart_145 rfl rfl (fun _ => ?_) (fun q => absurd (c3.symm.trans q) (by decide))
            exact g_vret dX9_readPart_163 rfl (Nat.zero_le _) (Nat.zero_le _) (h17 c1 c2 c3 c10 c11)
        · skip
          refine g_iload_n 0 96 dX9_readPart_95 rfl rfl ?_
          refine g_aload_n 1 97 dX9_readPart_96 rfl rfl ?_
          refine g_getI 100 dX9_readPart_97 rfl flX9_238 s0.1 ?_
          refine g_icmp_lt 159 103 dX9_readPart_100 rfl rfl (fun c12 => ?_) (fun c12 => ?_)
          · skip
            refine g_aload_n 1 160 dX9_readPart_159 rfl rfl ?_
            refine g_callV (mc1 := 0) (ms1 := 0) (b := a0) (rest := []) (av := []) kX9_faults 163 dX9_readPart_160 rfl rfl mbX9_192 imX9_faults seX9_faults gcl9.1 s0.1 (Nat.le_of_ble_eq_true rfl) (Nat.zero_le _) (Nat.zero_le _) (tX9_faults s0 (b18 c1 c2 c3 c10 c12) ?_)
            show Go X (d + 4) mc ms kX9_readPart Q 163 [(2, .int ((g_mi M (a0 + 9) ((g_mi M a0 19)).toNatClampNeg))), (0, .ref a0), (1, .int (x1))] [] (mX9_faults M a0) 0 0
            exact g_vret dX9_readPart_163 rfl (Nat.zero_le _) (Nat.zero_le _) (h19 c1 c2 c3 c10 c12)
          · skip
            refine g_iload_n 0 104 dX9_readPart_103 rfl rfl ?_
            refine g_aload_n 1 105 dX9_readPart_104 rfl rfl ?_
            refine g_getI 108 dX9_readPart_105 rfl flX9_241 s0.1 ?_
            refine g_icmp_gt 159 111 dX9_readPart_108 rfl rfl (fun c13 => ?_) (fun c13 => ?_)
            · skip
              refine g_aload_n 1 160 dX9_readPart_159 rfl rfl ?_
              refine g_callV (mc1 := 0) (ms1 := 0) (b := a0) (rest := []) (av := []) kX9_faults 163 dX9_readPart_160 rfl rfl mbX9_192 imX9_faults seX9_faults gcl9.1 s0.1 (Nat.le_of_ble_eq_true rfl) (Nat.zero_le _) (Nat.zero_le _) (tX9_faults s0 (b20 c1 c2 c3 c10 c12 c13) ?_)
              show Go X (d + 4) mc ms kX9_readPart Q 163 [(2, .int ((g_mi M (a0 + 9) ((g_mi M a0 19)).toNatClampNeg))), (0, .ref a0), (1, .int (x1))] [] (mX9_faults M a0) 0 0
              exact g_vret dX9_readPart_163 rfl (Nat.zero_le _) (Nat.zero_le _) (h21 c1 c2 c3 c10 c12 c13)
            · skip
              refine g_aload_n 1 112 dX9_readPart_111 rfl rfl ?_
              refine g_callV (mc1 := 0) (ms1 := 0) (b := a0) (rest := []) (av := []) kX9_leaf 115 dX9_readPart_112 rfl rfl mbX9_244 imX9_leaf seX9_leaf gcl9.1 s0.1 (Nat.le_of_ble_eq_true rfl) (Nat.zero_le _) (Nat.zero_le _) (tX9_leaf s0 (b22 c1 c2 c3 c10 c12 c13) ?_)
              show Go X (d + 4) mc ms kX9_readPart Q 115 [(2, .int ((g_mi M (a0 + 9) ((g_mi M a0 19)).toNatClampNeg))), (0, .ref a0), (1, .int (x1))] [] (mX9_leaf M a0) 0 0
              refine g_aload_n 1 116 dX9_readPart_115 rfl rfl ?_
              refine g_getI 119 dX9_readPart_116 rfl flX9_212 (Sm.k (Sm.tr Sm.rf jX9_leaf) s0.1) ?_
              refine g_if_eq 135 122 dX9_readPart_119 rfl rfl (fun c14 => ?_) (fun c14 => ?_)
              · skip
                refine g_aload_n 1 136 dX9_readPart_135 rfl rfl ?_
                refine g_getI 139 dX9_readPart_136 rfl flX9_212 (Sm.k (Sm.tr Sm.rf jX9_leaf) s0.1) ?_
                refine g_if_eq 163 142 dX9_readPart_139 rfl rfl (fun _ => ?_) (fun q => absurd c14 q)
                exact g_vret dX9_readPart_163 rfl (Nat.zero_le _) (Nat.zero_le _) (h23 c1 c2 c3 c10 c12 c13 c14)
              · skip
                refine g_iload_n 0 123 dX9_readPart_122 rfl rfl ?_
                refine g_bipush (12) 125 dX9_readPart_123 rfl rfl ?_
                refine g_icmp_ne 135 128 dX9_readPart_125 rfl rfl (fun _ => ?_) (fun q => absurd (c3.symm.trans q) (by decide))
                refine g_aload_n 1 136 dX9_readPart_135 rfl rfl ?_
                refine g_getI 139 dX9_readPart_136 rfl flX9_212 (Sm.k (Sm.tr Sm.rf jX9_leaf) s0.1) ?_
                refine g_if_eq 163 142 dX9_readPart_139 rfl rfl (fun q => absurd q c14) (fun _ => ?_)
                refine g_iload_n 0 143 dX9_readPart_142 rfl rfl ?_
                refine g_bipush (17) 145 dX9_readPart_143 rfl rfl ?_
                refine g_icmp_ne 163 148 dX9_readPart_145 rfl rfl (fun _ => ?_) (fun q => absurd (c3.symm.trans q) (by decide))
                exact g_vret dX9_readPart_163 rfl (Nat.zero_le _) (Nat.zero_le _) (h24 c1 c2 c3 c10 c12 c13 c14)
    · skip
      refine g_iload_n 2 28 dX9_readPart_27 rfl rfl ?_
      refine g_bipush (8) 30 dX9_readPart_28 rfl rfl ?_
      refine g_icmp_ne 37 33 dX9_readPart_30 rfl rfl (fun c15 => ?_) (fun c15 => ?_)
      · skip
        refine g_aload_n 1 38 dX9_readPart_37 rfl rfl ?_
        refine g_callV (mc1 := 0) (ms1 := 0) (b := a0) (rest := []) (av := []) kX9_fine 41 dX9_readPart_38 rfl rfl mbX9_182 imX9_fine seX9_fine gcl9.1 s0.1 (Nat.le_of_ble_eq_true rfl) (Nat.zero_le _) (Nat.zero_le _) (tX9_fine s0 ?_)
        show Go X (d + 4) mc ms kX9_readPart Q 41 [(2, .int ((g_mi M (a0 + 9) ((g_mi M a0 19)).toNatClampNeg))), (0, .ref a0), (1, .int (x1))] [.int ((fX9_fine M a0))] M 0 0
        refine g_if_ne 45 44 dX9_readPart_41 rfl rfl (fun _ => ?_) (fun q => absurd q c1)
        refine g_aload_n 1 46 dX9_readPart_45 rfl rfl ?_
        refine g_dup 47 dX9_readPart_46 rfl rfl ?_
        refine g_getI 50 dX9_readPart_47 rfl flX9_186 s0.1 ?_
        refine g_iconst (1) 51 dX9_readPart_50 rfl rfl ?_
        refine g_iadd 52 dX9_readPart_51 rfl ?_
        refine g_putI 55 dX9_readPart_52 rfl flX9_186 s0.1 ?_
        refine g_aload_n 1 56 dX9_readPart_55 rfl rfl ?_
        refine g_iload_n 2 57 dX9_readPart_56 rfl rfl ?_
        refine g_iconst (1) 58 dX9_readPart_57 rfl rfl ?_
        refine g_iadd 59 dX9_readPart_58 rfl ?_
        refine g_sub [1] [(0, .ref a0)] rfl ?_
        exact g_callV (mc1 := 0) (ms1 := 0) (b := a0) (rest := []) (av := [.int ((x1 + 1))]) kX9_readSum 62 dX9_readPart_59 rfl rfl mbX9_198 imX9_readSum seX9_readSum gcl9.1 (Sm.k (Sm.wi Sm.rf) s0.1) (Nat.le_of_ble_eq_true rfl) (Nat.zero_le _) (Nat.zero_le _) (h25 c1 c2 c15)
      · skip
        refine g_aload_n 1 34 dX9_readPart_33 rfl rfl ?_
        refine g_callV (mc1 := 0) (ms1 := 0) (b := a0) (rest := []) (av := []) kX9_faults 37 dX9_readPart_34 rfl rfl mbX9_192 imX9_faults seX9_faults gcl9.1 s0.1 (Nat.le_of_ble_eq_true rfl) (Nat.zero_le _) (Nat.zero_le _) (tX9_faults s0 (b26 c1 c2 c15) ?_)
        show Go X (d + 4) mc ms kX9_readPart Q 37 [(2, .int ((g_mi M (a0 + 9) ((g_mi M a0 19)).toNatClampNeg))), (0, .ref a0), (1, .int (x1))] [] (mX9_faults M a0) 0 0
        refine g_aload_n 1 38 dX9_readPart_37 rfl rfl ?_
        refine g_callV (mc1 := 0) (ms1 := 0) (b := a0) (rest := []) (av := []) kX9_fine 41 dX9_readPart_38 rfl rfl mbX9_182 imX9_fine seX9_fine gcl9.1 (Sm.k (Sm.tr Sm.rf jX9_faults) s0.1) (Nat.le_of_ble_eq_true rfl) (Nat.zero_le _) (Nat.zero_le _) (tX9_fine (Mo.sm (Sm.tr Sm.rf jX9_faults) s0) ?_)
        show Go X (d + 4) mc ms kX9_readPart Q 41 [(2, .int ((g_mi M (a0 + 9) ((g_mi M a0 19)).toNatClampNeg))), (0, .ref a0), (1, .int (x1))] [.int ((fX9_fine (mX9_faults M a0) a0))] (mX9_faults M a0) 0 0
        refine g_if_ne 45 44 dX9_readPart_41 rfl rfl (fun c16 => ?_) (fun c16 => ?_)
        · skip
          refine g_aload_n 1 46 dX9_readPart_45 rfl rfl ?_
          refine g_dup 47 dX9_readPart_46 rfl rfl ?_
          refine g_getI 50 dX9_readPart_47 rfl flX9_186 (Sm.k (Sm.tr Sm.rf jX9_faults) s0.1) ?_
          refine g_iconst (1) 51 dX9_readPart_50 rfl rfl ?_
          refine g_iadd 52 dX9_readPart_51 rfl ?_
          refine g_putI 55 dX9_readPart_52 rfl flX9_186 (Sm.k (Sm.tr Sm.rf jX9_faults) s0.1) ?_
          refine g_aload_n 1 56 dX9_readPart_55 rfl rfl ?_
          refine g_iload_n 2 57 dX9_readPart_56 rfl rfl ?_
          refine g_iconst (1) 58 dX9_readPart_57 rfl rfl ?_
          refine g_iadd 59 dX9_readPart_58 rfl ?_
          refine g_sub [1] [(0, .ref a0)] rfl ?_
          exact g_callV (mc1 := 0) (ms1 := 0) (b := a0) (rest := []) (av := [.int ((x1 + 1))]) kX9_readSum 62 dX9_readPart_59 rfl rfl mbX9_198 imX9_readSum seX9_readSum gcl9.1 (Sm.k (Sm.wi (Sm.tr Sm.rf jX9_faults)) s0.1) (Nat.le_of_ble_eq_true rfl) (Nat.zero_le _) (Nat.zero_le _) (h27 c1 c2 c15 c16)
        · skip
          exact g_vret dX9_readPart_44 rfl (Nat.zero_le _) (Nat.zero_le _) (h28 c1 c2 c15 c16)
  · skip
    exact g_vret dX9_readPart_7 rfl (Nat.zero_le _) (Nat.zero_le _) (h29 c1)

set_option maxRecDepth 4000 in
theorem sX9_readPart_62 {X : gX} {d mc ms : Nat} {Q : Option Value → gM → Prop} {M : gM} {c z : Nat} {a0 : Nat} (s0 : Mo M a0) (w1 : c ≤ mc) (w2 : z ≤ ms) (b3 : EX9_must M a0 (fX9_sign 93)) (h4 : Q none (mX9_must M a0 (fX9_sign 93))) : Go X (d + 4) mc ms kX9_readPart Q 62 [(0, .ref a0)] [] M c z := by
  refine g_aload_n 0 63 dX9_readPart_62 rfl rfl ?_
  refine g_bipush (93) 65 dX9_readPart_63 rfl rfl ?_
  refine g_callS (mc1 := 0) (ms1 := 0) (rest := [.ref a0]) (av := [.int (93)]) kX9_sign 68 dX9_readPart_65 rfl rfl mbX9_228 smX9_sign (Nat.le_of_ble_eq_true rfl) (w1) (w2) (tX9_sign  ?_)
  show Go X (d + 4) mc ms kX9_readPart Q 68 [(0, .ref a0)] [.int ((fX9_sign 93)), .ref a0] M c z
  refine g_callV (mc1 := 0) (ms1 := 0) (b := a0) (rest := []) (av := [.int ((fX9_sign 93))]) kX9_must 71 dX9_readPart_68 rfl rfl mbX9_202 imX9_must seX9_must gcl9.1 s0.1 (Nat.le_of_ble_eq_true rfl) (w1) (w2) (tX9_must s0 (b3) ?_)
  show Go X (d + 4) mc ms kX9_readPart Q 71 [(0, .ref a0)] [] (mX9_must M a0 (fX9_sign 93)) c z
  refine g_goto 163 dX9_readPart_71 rfl ?_
  exact g_vret dX9_readPart_163 rfl (w1) (w2) (h4)

def bX9_readTest_0 (N : Nat) (M : gM) (f : Nat → Nat → Int32) (a0 : Nat) (x1 : Int32) (kw : Nat → (Nat → Nat → Int32) → Nat → Int32 → Int32 → Int32 × Int64 × (Nat → Nat → Int32)) : Int32 × Int64 × (Nat → Nat → Int32) := (kw 1 (kw 3 (g_mi (g_wm M f (g_ml M))) a0 x1 0).2.2 a0 x1 0)
def eX9_readTest_0 (N : Nat) (M : gM) (f : Nat → Nat → Int32) (a0 : Nat) (x1 : Int32) (kw : Nat → (Nat → Nat → Int32) → Nat → Int32 → Int32 → Int32 × Int64 × (Nat → Nat → Int32)) (kv : Nat → (Nat → Nat → Int32) → Nat → Int32 → Int32 → Prop) : Prop := (kv 3 (g_mi (g_wm M f (g_ml M))) a0 x1 0 ∧ (kv 1 (kw 3 (g_mi (g_wm M f (g_ml M))) a0 x1 0).2.2 a0 x1 0))
def bX9_readTest_5 (N : Nat) (M : gM) (f : Nat → Nat → Int32) (a0 : Nat) (x1 : Int32) (kw : Nat → (Nat → Nat → Int32) → Nat → Int32 → Int32 → Int32 × Int64 × (Nat → Nat → Int32)) : Int32 × Int64 × (Nat → Nat → Int32) := (if (fX9_takes0 (g_wm M f (g_ml M)) a0 4) = 0 then (0, 0, g_mi (mX9_takes0 (g_wm M f (g_ml M)) a0 4)) else (kw 2 (kw 3 (g_mi (mX9_takes0 (g_wm M f (g_ml M)) a0 4)) a0 x1 0).2.2 a0 x1 0))
def eX9_readTest_5 (N : Nat) (M : gM) (f : Nat → Nat → Int32) (a0 : Nat) (x1 : Int32) (kw : Nat → (Nat → Nat → Int32) → Nat → Int32 → Int32 → Int32 × Int64 × (Nat → Nat → Int32)) (kv : Nat → (Nat → Nat → Int32) → Nat → Int32 → Int32 → Prop) : Prop := (EX9_takes0 (g_wm M f (g_ml M)) a0 4) ∧ (if (fX9_takes0 (g_wm M f (g_ml M)) a0 4) = 0 then True else (kv 3 (g_mi (mX9_takes0 (g_wm M f (g_ml M)) a0 4)) a0 x1 0 ∧ (kv 2 (kw 3 (g_mi (mX9_takes0 (g_wm M f (g_ml M)) a0 4)) a0 x1 0).2.2 a0 x1 0)))
def bX9_readTest_18 (N : Nat) (M : gM) (f : Nat → Nat → Int32) (a0 : Nat) (x1 : Int32) (kw : Nat → (Nat → Nat → Int32) → Nat → Int32 → Int32 → Int32 × Int64 × (Nat → Nat → Int32)) : Int32 × Int64 × (Nat → Nat → Int32) := (kw 1 (g_mi (g_wm M f (g_ml M))) a0 x1 0)
def eX9_readTest_18 (N : Nat) (M : gM) (f : Nat → Nat → Int32) (a0 : Nat) (x1 : Int32) (kw : Nat → (Nat → Nat → Int32) → Nat → Int32 → Int32 → Int32 × Int64 × (Nat → Nat → Int32)) (kv : Nat → (Nat → Nat → Int32) → Nat → Int32 → Int32 → Prop) : Prop := (kv 1 (g_mi (g_wm M f (g_ml M))) a0 x1 0)
def bX9_readBoth_0 (N : Nat) (M : gM) (f : Nat → Nat → Int32) (a0 : Nat) (x1 : Int32) (kw : Nat → (Nat → Nat → Int32) → Nat → Int32 → Int32 → Int32 × Int64 × (Nat → Nat → Int32)) : Int32 × Int64 × (Nat → Nat → Int32) := (kw 4 (kw 6 (g_mi (g_wm M f (g_ml M))) a0 x1 0).2.2 a0 x1 0)
def eX9_readBoth_0 (N : Nat) (M : gM) (f : Nat → Nat → Int32) (a0 : Nat) (x1 : Int32) (kw : Nat → (Nat → Nat → Int32) → Nat → Int32 → Int32 → Int32 × Int64 × (Nat → Nat → Int32)) (kv : Nat → (Nat → Nat → Int32) → Nat → Int32 → Int32 → Prop) : Prop := (kv 6 (g_mi (g_wm M f (g_ml M))) a0 x1 0 ∧ (kv 4 (kw 6 (g_mi (g_wm M f (g_ml M))) a0 x1 0).2.2 a0 x1 0))
def bX9_readBoth_5 (N : Nat) (M : gM) (f : Nat → Nat → Int32) (a0 : Nat) (x1 : Int32) (kw : Nat → (Nat → Nat → Int32) → Nat → Int32 → Int32 → Int32 × Int64 × (Nat → Nat → Int32)) : Int32 × Int64 × (Nat → Nat → Int32) := (if (fX9_takes0 (g_wm M f (g_ml M)) a0 5) = 0 then (0, 0, g_mi (mX9_takes0 (g_wm M f (g_ml M)) a0 5)) else (kw 5 (kw 6 (g_mi (mX9_takes0 (g_wm M f (g_ml M)) a0 5)) a0 x1 0).2.2 a0 x1 0))
def eX9_readBoth_5 (N : Nat) (M : gM) (f : Nat → Nat → Int32) (a0 : Nat) (x1 : Int32) (kw : Nat → (Nat → Nat → Int32) → Nat → Int32 → Int32 → Int32 × Int64 × (Nat → Nat → Int32)) (kv : Nat → (Nat → Nat → Int32) → Nat → Int32 → Int32 → Prop) : Prop := (EX9_takes0 (g_wm M f (g_ml M)) a0 5) ∧ (if (fX9_takes0 (g_wm M f (g_ml M)) a0 5) = 0 then True else (kv 6 (g_mi (mX9_takes0 (g_wm M f (g_ml M)) a0 5)) a0 x1 0 ∧ (kv 5 (kw 6 (g_mi (mX9_takes0 (g_wm M f (g_ml M)) a0 5)) a0 x1 0).2.2 a0 x1 0)))
def bX9_readBoth_18 (N : Nat) (M : gM) (f : Nat → Nat → Int32) (a0 : Nat) (x1 : Int32) (kw : Nat → (Nat → Nat → Int32) → Nat → Int32 → Int32 → Int32 × Int64 × (Nat → Nat → Int32)) : Int32 × Int64 × (Nat → Nat → Int32) := (kw 4 (g_mi (g_wm M f (g_ml M))) a0 x1 0)
def eX9_readBoth_18 (N : Nat) (M : gM) (f : Nat → Nat → Int32) (a0 : Nat) (x1 : Int32) (kw : Nat → (Nat → Nat → Int32) → Nat → Int32 → Int32 → Int32 × Int64 × (Nat → Nat → Int32)) (kv : Nat → (Nat → Nat → Int32) → Nat → Int32 → Int32 → Prop) : Prop := (kv 4 (g_mi (g_wm M f (g_ml M))) a0 x1 0)
def bX9_readPlain_0 (N : Nat) (M : gM) (f : Nat → Nat → Int32) (a0 : Nat) (x1 : Int32) (kw : Nat → (Nat → Nat → Int32) → Nat → Int32 → Int32 → Int32 × Int64 × (Nat → Nat → Int32)) : Int32 × Int64 × (Nat → Nat → Int32) := (kw 7 (g_mi (g_wm M f (g_ml M))) a0 x1 1)
def eX9_readPlain_0 (N : Nat) (M : gM) (f : Nat → Nat → Int32) (a0 : Nat) (x1 : Int32) (kw : Nat → (Nat → Nat → Int32) → Nat → Int32 → Int32 → Int32 × Int64 × (Nat → Nat → Int32)) (kv : Nat → (Nat → Nat → Int32) → Nat → Int32 → Int32 → Prop) : Prop := (kv 7 (g_mi (g_wm M f (g_ml M))) a0 x1 1)
def bX9_readPlain_2 (N : Nat) (M : gM) (f : Nat → Nat → Int32) (a0 : Nat) (x1 : Int32) (x2 : Int32) (kw : Nat → (Nat → Nat → Int32) → Nat → Int32 → Int32 → Int32 × Int64 × (Nat → Nat → Int32)) : Int32 × Int64 × (Nat → Nat → Int32) := (if x2 = 0 then (if (fX9_fine (g_wm M f (g_ml M)) a0) = 0 then (0, 0, g_mi (g_wm M f (g_ml M))) else (if (g_mi (g_wm M f (g_ml M)) (a0 + 9) ((g_mi (g_wm M f (g_ml M)) a0 19)).toNatClampNeg) = (fX9_sign 40) then (if x1 = 8 then (if (fX9_fine (mX9_faults (g_wm M f (g_ml M)) a0) a0) = 0 then (0, 0, g_mi (mX9_faults (g_wm M f (g_ml M)) a0)) else (kw 8 (kw 0 (g_mi (g_wi (mX9_faults (g_wm M f (g_ml M)) a0) a0 19 ((g_mi (mX9_faults (g_wm M f (g_ml M)) a0) a0 19) + 1))) a0 (x1 + 1) 0).2.2 a0 0 0)) else (kw 8 (kw 0 (g_mi (g_wi (g_wm M f (g_ml M)) a0 19 ((g_mi (g_wm M f (g_ml M)) a0 19) + 1))) a0 (x1 + 1) 0).2.2 a0 0 0)) else (kw 9 (kw 11 (g_mi (g_wm M f (g_ml M))) a0 x1 0).2.2 a0 x1 0))) else (kw 7 (g_mi (mX9_takes0 (g_wm M f (g_ml M)) a0 6)) a0 x1 (fX9_takes0 (g_wm M f (g_ml M)) a0 6)))
def eX9_readPlain_2 (N : Nat) (M : gM) (f : Nat → Nat → Int32) (a0 : Nat) (x1 : Int32) (x2 : Int32) (kw : Nat → (Nat → Nat → Int32) → Nat → Int32 → Int32 → Int32 × Int64 × (Nat → Nat → Int32)) (kv : Nat → (Nat → Nat → Int32) → Nat → Int32 → Int32 → Prop) : Prop := ((x2 = 0) → (¬ (fX9_fine (g_wm M f (g_ml M)) a0) = 0) → vp_in ((g_mi (g_wm M f (g_ml M)) a0 19)) 401) ∧ ((x2 = 0) → (¬ (fX9_fine (g_wm M f (g_ml M)) a0) = 0) → ((g_mi (g_wm M f (g_ml M)) (a0 + 9) ((g_mi (g_wm M f (g_ml M)) a0 19)).toNatClampNeg) = (fX9_sign 40)) → (x1 = 8) → EX9_faults (g_wm M f (g_ml M)) a0) ∧ ((¬ x2 = 0) → EX9_takes0 (g_wm M f (g_ml M)) a0 6) ∧ (if x2 = 0 then (if (fX9_fine (g_wm M f (g_ml M)) a0) = 0 then True else (if (g_mi (g_wm M f (g_ml M)) (a0 + 9) ((g_mi (g_wm M f (g_ml M)) a0 19)).toNatClampNeg) = (fX9_sign 40) then (if x1 = 8 then (if (fX9_fine (mX9_faults (g_wm M f (g_ml M)) a0) a0) = 0 then True else (kv 0 (g_mi (g_wi (mX9_faults (g_wm M f (g_ml M)) a0) a0 19 ((g_mi (mX9_faults (g_wm M f (g_ml M)) a0) a0 19) + 1))) a0 (x1 + 1) 0 ∧ (kv 8 (kw 0 (g_mi (g_wi (mX9_faults (g_wm M f (g_ml M)) a0) a0 19 ((g_mi (mX9_faults (g_wm M f (g_ml M)) a0) a0 19) + 1))) a0 (x1 + 1) 0).2.2 a0 0 0))) else (kv 0 (g_mi (g_wi (g_wm M f (g_ml M)) a0 19 ((g_mi (g_wm M f (g_ml M)) a0 19) + 1))) a0 (x1 + 1) 0 ∧ (kv 8 (kw 0 (g_mi (g_wi (g_wm M f (g_ml M)) a0 19 ((g_mi (g_wm M f (g_ml M)) a0 19) + 1))) a0 (x1 + 1) 0).2.2 a0 0 0))) else (kv 11 (g_mi (g_wm M f (g_ml M))) a0 x1 0 ∧ (kv 9 (kw 11 (g_mi (g_wm M f (g_ml M))) a0 x1 0).2.2 a0 x1 0)))) else (kv 7 (g_mi (mX9_takes0 (g_wm M f (g_ml M)) a0 6)) a0 x1 (fX9_takes0 (g_wm M f (g_ml M)) a0 6)))
def bX9_readPlain_78 (N : Nat) (M : gM) (f : Nat → Nat → Int32) (a0 : Nat) (kw : Nat → (Nat → Nat → Int32) → Nat → Int32 → Int32 → Int32 × Int64 × (Nat → Nat → Int32)) : Int32 × Int64 × (Nat → Nat → Int32) := (kw 10 (g_mi (mX9_must (g_wm M f (g_ml M)) a0 (fX9_sign 41))) 0 0 0)
def eX9_readPlain_78 (N : Nat) (M : gM) (f : Nat → Nat → Int32) (a0 : Nat) (kw : Nat → (Nat → Nat → Int32) → Nat → Int32 → Int32 → Int32 × Int64 × (Nat → Nat → Int32)) (kv : Nat → (Nat → Nat → Int32) → Nat → Int32 → Int32 → Prop) : Prop := (EX9_must (g_wm M f (g_ml M)) a0 (fX9_sign 41)) ∧ (kv 10 (g_mi (mX9_must (g_wm M f (g_ml M)) a0 (fX9_sign 41))) 0 0 0)
def bX9_readPlain_95 (N : Nat) (M : gM) (f : Nat → Nat → Int32) (a0 : Nat) (x1 : Int32) (kw : Nat → (Nat → Nat → Int32) → Nat → Int32 → Int32 → Int32 × Int64 × (Nat → Nat → Int32)) : Int32 × Int64 × (Nat → Nat → Int32) := (if (fX9_takes0 (g_wm M f (g_ml M)) a0 (fX9_sign 60)) = 0 then (if (fX9_takes0 (mX9_takes0 (g_wm M f (g_ml M)) a0 (fX9_sign 60)) a0 (fX9_sign 62)) = 0 then (kw 10 (kw 11 (g_mi (mX9_must (mX9_takes0 (mX9_takes0 (g_wm M f (g_ml M)) a0 (fX9_sign 60)) a0 (fX9_sign 62)) a0 (fX9_sign 61))) a0 x1 0).2.2 0 0 0) else (kw 10 (kw 11 (g_mi (mX9_takes0 (mX9_takes0 (g_wm M f (g_ml M)) a0 (fX9_sign 60)) a0 (fX9_sign 62))) a0 x1 0).2.2 0 0 0)) else (kw 10 (kw 11 (g_mi (mX9_takes0 (g_wm M f (g_ml M)) a0 (fX9_sign 60))) a0 x1 0).2.2 0 0 0))
def eX9_readPlain_95 (N : Nat) (M : gM) (f : Nat → Nat → Int32) (a0 : Nat) (x1 : Int32) (kw : Nat → (Nat → Nat → Int32) → Nat → Int32 → Int32 → Int32 × Int64 × (Nat → Nat → Int32)) (kv : Nat → (Nat → Nat → Int32) → Nat → Int32 → Int32 → Prop) : Prop := (EX9_takes0 (g_wm M f (g_ml M)) a0 (fX9_sign 60)) ∧ (((fX9_takes0 (g_wm M f (g_ml M)) a0 (fX9_sign 60)) = 0) → EX9_takes0 (mX9_takes0 (g_wm M f (g_ml M)) a0 (fX9_sign 60)) a0 (fX9_sign 62)) ∧ (((fX9_takes0 (g_wm M f (g_ml M)) a0 (fX9_sign 60)) = 0) → ((fX9_takes0 (mX9_takes0 (g_wm M f (g_ml M)) a0 (fX9_sign 60)) a0 (fX9_sign 62)) = 0) → EX9_must (mX9_takes0 (mX9_takes0 (g_wm M f (g_ml M)) a0 (fX9_sign 60)) a0 (fX9_sign 62)) a0 (fX9_sign 61)) ∧ (if (fX9_takes0 (g_wm M f (g_ml M)) a0 (fX9_sign 60)) = 0 then (if (fX9_takes0 (mX9_takes0 (g_wm M f (g_ml M)) a0 (fX9_sign 60)) a0 (fX9_sign 62)) = 0 then (kv 11 (g_mi (mX9_must (mX9_takes0 (mX9_takes0 (g_wm M f (g_ml M)) a0 (fX9_sign 60)) a0 (fX9_sign 62)) a0 (fX9_sign 61))) a0 x1 0 ∧ (kv 10 (kw 11 (g_mi (mX9_must (mX9_takes0 (mX9_takes0 (g_wm M f (g_ml M)) a0 (fX9_sign 60)) a0 (fX9_sign 62)) a0 (fX9_sign 61))) a0 x1 0).2.2 0 0 0)) else (kv 11 (g_mi (mX9_takes0 (mX9_takes0 (g_wm M f (g_ml M)) a0 (fX9_sign 60)) a0 (fX9_sign 62))) a0 x1 0 ∧ (kv 10 (kw 11 (g_mi (mX9_takes0 (mX9_takes0 (g_wm M f (g_ml M)) a0 (fX9_sign 60)) a0 (fX9_sign 62))) a0 x1 0).2.2 0 0 0))) else (kv 11 (g_mi (mX9_takes0 (g_wm M f (g_ml M)) a0 (fX9_sign 60))) a0 x1 0 ∧ (kv 10 (kw 11 (g_mi (mX9_takes0 (g_wm M f (g_ml M)) a0 (fX9_sign 60))) a0 x1 0).2.2 0 0 0)))
def bX9_readPlain_133 (N : Nat) (M : gM) (f : Nat → Nat → Int32)  (kw : Nat → (Nat → Nat → Int32) → Nat → Int32 → Int32 → Int32 × Int64 × (Nat → Nat → Int32)) : Int32 × Int64 × (Nat → Nat → Int32) := (0, 0, g_mi (g_wm M f (g_ml M)))
def eX9_readPlain_133 (N : Nat) (M : gM) (f : Nat → Nat → Int32)  (kw : Nat → (Nat → Nat → Int32) → Nat → Int32 → Int32 → Int32 × Int64 × (Nat → Nat → Int32)) (kv : Nat → (Nat → Nat → Int32) → Nat → Int32 → Int32 → Prop) : Prop := True
def bX9_readSum_0 (N : Nat) (M : gM) (f : Nat → Nat → Int32) (a0 : Nat) (x1 : Int32) (kw : Nat → (Nat → Nat → Int32) → Nat → Int32 → Int32 → Int32 × Int64 × (Nat → Nat → Int32)) : Int32 × Int64 × (Nat → Nat → Int32) := (kw 12 (kw 14 (g_mi (g_wm M f (g_ml M))) a0 x1 0).2.2 a0 x1 0)
def eX9_readSum_0 (N : Nat) (M : gM) (f : Nat → Nat → Int32) (a0 : Nat) (x1 : Int32) (kw : Nat → (Nat → Nat → Int32) → Nat → Int32 → Int32 → Int32 × Int64 × (Nat → Nat → Int32)) (kv : Nat → (Nat → Nat → Int32) → Nat → Int32 → Int32 → Prop) : Prop := (kv 14 (g_mi (g_wm M f (g_ml M))) a0 x1 0 ∧ (kv 12 (kw 14 (g_mi (g_wm M f (g_ml M))) a0 x1 0).2.2 a0 x1 0))
def bX9_readSum_5 (N : Nat) (M : gM) (f : Nat → Nat → Int32) (a0 : Nat) (x1 : Int32) (kw : Nat → (Nat → Nat → Int32) → Nat → Int32 → Int32 → Int32 × Int64 × (Nat → Nat → Int32)) : Int32 × Int64 × (Nat → Nat → Int32) := (if (fX9_takes0 (g_wm M f (g_ml M)) a0 (fX9_sign 43)) = 0 then (if (fX9_takes0 (mX9_takes0 (g_wm M f (g_ml M)) a0 (fX9_sign 43)) a0 (fX9_sign 45)) = 0 then (0, 0, g_mi (mX9_takes0 (mX9_takes0 (g_wm M f (g_ml M)) a0 (fX9_sign 43)) a0 (fX9_sign 45))) else (kw 13 (kw 14 (g_mi (mX9_takes0 (mX9_takes0 (g_wm M f (g_ml M)) a0 (fX9_sign 43)) a0 (fX9_sign 45))) a0 x1 0).2.2 a0 x1 0)) else (kw 13 (kw 14 (g_mi (mX9_takes0 (g_wm M f (g_ml M)) a0 (fX9_sign 43))) a0 x1 0).2.2 a0 x1 0))
def eX9_readSum_5 (N : Nat) (M : gM) (f : Nat → Nat → Int32) (a0 : Nat) (x1 : Int32) (kw : Nat → (Nat → Nat → Int32) → Nat → Int32 → Int32 → Int32 × Int64 × (Nat → Nat → Int32)) (kv : Nat → (Nat → Nat → Int32) → Nat → Int32 → Int32 → Prop) : Prop := (EX9_takes0 (g_wm M f (g_ml M)) a0 (fX9_sign 43)) ∧ (((fX9_takes0 (g_wm M f (g_ml M)) a0 (fX9_sign 43)) = 0) → EX9_takes0 (mX9_takes0 (g_wm M f (g_ml M)) a0 (fX9_sign 43)) a0 (fX9_sign 45)) ∧ (if (fX9_takes0 (g_wm M f (g_ml M)) a0 (fX9_sign 43)) = 0 then (if (fX9_takes0 (mX9_takes0 (g_wm M f (g_ml M)) a0 (fX9_sign 43)) a0 (fX9_sign 45)) = 0 then True else (kv 14 (g_mi (mX9_takes0 (mX9_takes0 (g_wm M f (g_ml M)) a0 (fX9_sign 43)) a0 (fX9_sign 45))) a0 x1 0 ∧ (kv 13 (kw 14 (g_mi (mX9_takes0 (mX9_takes0 (g_wm M f (g_ml M)) a0 (fX9_sign 43)) a0 (fX9_sign 45))) a0 x1 0).2.2 a0 x1 0))) else (kv 14 (g_mi (mX9_takes0 (g_wm M f (g_ml M)) a0 (fX9_sign 43))) a0 x1 0 ∧ (kv 13 (kw 14 (g_mi (mX9_takes0 (g_wm M f (g_ml M)) a0 (fX9_sign 43))) a0 x1 0).2.2 a0 x1 0)))
def bX9_readSum_34 (N : Nat) (M : gM) (f : Nat → Nat → Int32) (a0 : Nat) (x1 : Int32) (kw : Nat → (Nat → Nat → Int32) → Nat → Int32 → Int32 → Int32 × Int64 × (Nat → Nat → Int32)) : Int32 × Int64 × (Nat → Nat → Int32) := (kw 12 (g_mi (g_wm M f (g_ml M))) a0 x1 0)
def eX9_readSum_34 (N : Nat) (M : gM) (f : Nat → Nat → Int32) (a0 : Nat) (x1 : Int32) (kw : Nat → (Nat → Nat → Int32) → Nat → Int32 → Int32 → Int32 × Int64 × (Nat → Nat → Int32)) (kv : Nat → (Nat → Nat → Int32) → Nat → Int32 → Int32 → Prop) : Prop := (kv 12 (g_mi (g_wm M f (g_ml M))) a0 x1 0)
def bX9_readTerm_0 (N : Nat) (M : gM) (f : Nat → Nat → Int32) (a0 : Nat) (x1 : Int32) (kw : Nat → (Nat → Nat → Int32) → Nat → Int32 → Int32 → Int32 × Int64 × (Nat → Nat → Int32)) : Int32 × Int64 × (Nat → Nat → Int32) := (kw 15 (kw 17 (g_mi (g_wm M f (g_ml M))) a0 x1 0).2.2 a0 x1 0)
def eX9_readTerm_0 (N : Nat) (M : gM) (f : Nat → Nat → Int32) (a0 : Nat) (x1 : Int32) (kw : Nat → (Nat → Nat → Int32) → Nat → Int32 → Int32 → Int32 × Int64 × (Nat → Nat → Int32)) (kv : Nat → (Nat → Nat → Int32) → Nat → Int32 → Int32 → Prop) : Prop := (kv 17 (g_mi (g_wm M f (g_ml M))) a0 x1 0 ∧ (kv 15 (kw 17 (g_mi (g_wm M f (g_ml M))) a0 x1 0).2.2 a0 x1 0))
def bX9_readTerm_5 (N : Nat) (M : gM) (f : Nat → Nat → Int32) (a0 : Nat) (x1 : Int32) (kw : Nat → (Nat → Nat → Int32) → Nat → Int32 → Int32 → Int32 × Int64 × (Nat → Nat → Int32)) : Int32 × Int64 × (Nat → Nat → Int32) := (if (fX9_takes0 (g_wm M f (g_ml M)) a0 (fX9_sign 42)) = 0 then (if (fX9_takes0 (mX9_takes0 (g_wm M f (g_ml M)) a0 (fX9_sign 42)) a0 (fX9_sign 47)) = 0 then (if (fX9_takes0 (mX9_takes0 (mX9_takes0 (g_wm M f (g_ml M)) a0 (fX9_sign 42)) a0 (fX9_sign 47)) a0 (fX9_sign 37)) = 0 then (0, 0, g_mi (mX9_takes0 (mX9_takes0 (mX9_takes0 (g_wm M f (g_ml M)) a0 (fX9_sign 42)) a0 (fX9_sign 47)) a0 (fX9_sign 37))) else (kw 16 (kw 17 (g_mi (mX9_takes0 (mX9_takes0 (mX9_takes0 (g_wm M f (g_ml M)) a0 (fX9_sign 42)) a0 (fX9_sign 47)) a0 (fX9_sign 37))) a0 x1 0).2.2 a0 x1 0)) else (kw 16 (kw 17 (g_mi (mX9_takes0 (mX9_takes0 (g_wm M f (g_ml M)) a0 (fX9_sign 42)) a0 (fX9_sign 47))) a0 x1 0).2.2 a0 x1 0)) else (kw 16 (kw 17 (g_mi (mX9_takes0 (g_wm M f (g_ml M)) a0 (fX9_sign 42))) a0 x1 0).2.2 a0 x1 0))
def eX9_readTerm_5 (N : Nat) (M : gM) (f : Nat → Nat → Int32) (a0 : Nat) (x1 : Int32) (kw : Nat → (Nat → Nat → Int32) → Nat → Int32 → Int32 → Int32 × Int64 × (Nat → Nat → Int32)) (kv : Nat → (Nat → Nat → Int32) → Nat → Int32 → Int32 → Prop) : Prop := (EX9_takes0 (g_wm M f (g_ml M)) a0 (fX9_sign 42)) ∧ (((fX9_takes0 (g_wm M f (g_ml M)) a0 (fX9_sign 42)) = 0) → EX9_takes0 (mX9_takes0 (g_wm M f (g_ml M)) a0 (fX9_sign 42)) a0 (fX9_sign 47)) ∧ (((fX9_takes0 (g_wm M f (g_ml M)) a0 (fX9_sign 42)) = 0) → ((fX9_takes0 (mX9_takes0 (g_wm M f (g_ml M)) a0 (fX9_sign 42)) a0 (fX9_sign 47)) = 0) → EX9_takes0 (mX9_takes0 (mX9_takes0 (g_wm M f (g_ml M)) a0 (fX9_sign 42)) a0 (fX9_sign 47)) a0 (fX9_sign 37)) ∧ (if (fX9_takes0 (g_wm M f (g_ml M)) a0 (fX9_sign 42)) = 0 then (if (fX9_takes0 (mX9_takes0 (g_wm M f (g_ml M)) a0 (fX9_sign 42)) a0 (fX9_sign 47)) = 0 then (if (fX9_takes0 (mX9_takes0 (mX9_takes0 (g_wm M f (g_ml M)) a0 (fX9_sign 42)) a0 (fX9_sign 47)) a0 (fX9_sign 37)) = 0 then True else (kv 17 (g_mi (mX9_takes0 (mX9_takes0 (mX9_takes0 (g_wm M f (g_ml M)) a0 (fX9_sign 42)) a0 (fX9_sign 47)) a0 (fX9_sign 37))) a0 x1 0 ∧ (kv 16 (kw 17 (g_mi (mX9_takes0 (mX9_takes0 (mX9_takes0 (g_wm M f (g_ml M)) a0 (fX9_sign 42)) a0 (fX9_sign 47)) a0 (fX9_sign 37))) a0 x1 0).2.2 a0 x1 0))) else (kv 17 (g_mi (mX9_takes0 (mX9_takes0 (g_wm M f (g_ml M)) a0 (fX9_sign 42)) a0 (fX9_sign 47))) a0 x1 0 ∧ (kv 16 (kw 17 (g_mi (mX9_takes0 (mX9_takes0 (g_wm M f (g_ml M)) a0 (fX9_sign 42)) a0 (fX9_sign 47))) a0 x1 0).2.2 a0 x1 0))) else (kv 17 (g_mi (mX9_takes0 (g_wm M f (g_ml M)) a0 (fX9_sign 42))) a0 x1 0 ∧ (kv 16 (kw 17 (g_mi (mX9_takes0 (g_wm M f (g_ml M)) a0 (fX9_sign 42))) a0 x1 0).2.2 a0 x1 0)))
def bX9_readTerm_46 (N : Nat) (M : gM) (f : Nat → Nat → Int32) (a0 : Nat) (x1 : Int32) (kw : Nat → (Nat → Nat → Int32) → Nat → Int32 → Int32 → Int32 × Int64 × (Nat → Nat → Int32)) : Int32 × Int64 × (Nat → Nat → Int32) := (kw 15 (g_mi (g_wm M f (g_ml M))) a0 x1 0)
def eX9_readTerm_46 (N : Nat) (M : gM) (f : Nat → Nat → Int32) (a0 : Nat) (x1 : Int32) (kw : Nat → (Nat → Nat → Int32) → Nat → Int32 → Int32 → Int32 × Int64 × (Nat → Nat → Int32)) (kv : Nat → (Nat → Nat → Int32) → Nat → Int32 → Int32 → Prop) : Prop := (kv 15 (g_mi (g_wm M f (g_ml M))) a0 x1 0)
def bX9_readPart_0 (N : Nat) (M : gM) (f : Nat → Nat → Int32) (a0 : Nat) (x1 : Int32) (kw : Nat → (Nat → Nat → Int32) → Nat → Int32 → Int32 → Int32 × Int64 × (Nat → Nat → Int32)) : Int32 × Int64 × (Nat → Nat → Int32) := (if (fX9_fine (g_wm M f (g_ml M)) a0) = 0 then (0, 0, g_mi (g_wm M f (g_ml M))) else (if (g_mi (g_wm M f (g_ml M)) (a0 + 9) ((g_mi (g_wm M f (g_ml M)) a0 19)).toNatClampNeg) = (fX9_sign 91) then (if x1 = 8 then (if (fX9_fine (mX9_faults (g_wm M f (g_ml M)) a0) a0) = 0 then (0, 0, g_mi (mX9_faults (g_wm M f (g_ml M)) a0)) else (kw 18 (kw 11 (g_mi (g_wi (mX9_faults (g_wm M f (g_ml M)) a0) a0 19 ((g_mi (mX9_faults (g_wm M f (g_ml M)) a0) a0 19) + 1))) a0 (x1 + 1) 0).2.2 a0 0 0)) else (kw 18 (kw 11 (g_mi (g_wi (g_wm M f (g_ml M)) a0 19 ((g_mi (g_wm M f (g_ml M)) a0 19) + 1))) a0 (x1 + 1) 0).2.2 a0 0 0)) else (if (g_mi (g_wm M f (g_ml M)) (a0 + 9) ((g_mi (g_wm M f (g_ml M)) a0 19)).toNatClampNeg) = 50 then (if (g_mi (g_wm M f (g_ml M)) (a0 + 10) ((g_mi (g_wm M f (g_ml M)) a0 19)).toNatClampNeg) ≤ 1000 then (if (g_mi (mX9_leaf (g_wm M f (g_ml M)) a0) a0 10) = 0 then (0, 0, g_mi (mX9_leaf (g_wm M f (g_ml M)) a0)) else (0, 0, g_mi (mX9_leaf (g_wm M f (g_ml M)) a0))) else (if (g_mi (g_wm M f (g_ml M)) (a0 + 9) ((g_mi (g_wm M f (g_ml M)) a0 19)).toNatClampNeg) < (g_mi (g_wm M f (g_ml M)) a0 8) then (0, 0, g_mi (mX9_faults (g_wm M f (g_ml M)) a0)) else (if (g_mi (g_wm M f (g_ml M)) a0 9) < (g_mi (g_wm M f (g_ml M)) (a0 + 9) ((g_mi (g_wm M f (g_ml M)) a0 19)).toNatClampNeg) then (0, 0, g_mi (mX9_faults (g_wm M f (g_ml M)) a0)) else (if (g_mi (mX9_leaf (g_wm M f (g_ml M)) a0) a0 10) = 0 then (0, 0, g_mi (mX9_leaf (g_wm M f (g_ml M)) a0)) else (0, 0, g_mi (mX9_leaf (g_wm M f (g_ml M)) a0)))))) else (if (g_mi (g_wm M f (g_ml M)) (a0 + 9) ((g_mi (g_wm M f (g_ml M)) a0 19)).toNatClampNeg) < (g_mi (g_wm M f (g_ml M)) a0 8) then (0, 0, g_mi (mX9_faults (g_wm M f (g_ml M)) a0)) else (if (g_mi (g_wm M f (g_ml M)) a0 9) < (g_mi (g_wm M f (g_ml M)) (a0 + 9) ((g_mi (g_wm M f (g_ml M)) a0 19)).toNatClampNeg) then (0, 0, g_mi (mX9_faults (g_wm M f (g_ml M)) a0)) else (if (g_mi (mX9_leaf (g_wm M f (g_ml M)) a0) a0 10) = 0 then (0, 0, g_mi (mX9_leaf (g_wm M f (g_ml M)) a0)) else (if (g_mi (g_wm M f (g_ml M)) (a0 + 9) ((g_mi (g_wm M f (g_ml M)) a0 19)).toNatClampNeg) = 12 then (if (g_mi (mX9_mustNumber (mX9_leaf (g_wm M f (g_ml M)) a0) a0 0 59) a0 10) = 0 then (0, 0, g_mi (mX9_mustNumber (mX9_leaf (g_wm M f (g_ml M)) a0) a0 0 59)) else (0, 0, g_mi (mX9_mustNumber (mX9_leaf (g_wm M f (g_ml M)) a0) a0 0 59))) else (if (g_mi (g_wm M f (g_ml M)) (a0 + 9) ((g_mi (g_wm M f (g_ml M)) a0 19)).toNatClampNeg) = 17 then (0, 0, g_mi (mX9_mustNumber (mX9_leaf (g_wm M f (g_ml M)) a0) a0 0 999)) else (0, 0, g_mi (mX9_leaf (g_wm M f (g_ml M)) a0))))))))))
def eX9_readPart_0 (N : Nat) (M : gM) (f : Nat → Nat → Int32) (a0 : Nat) (x1 : Int32) (kw : Nat → (Nat → Nat → Int32) → Nat → Int32 → Int32 → Int32 × Int64 × (Nat → Nat → Int32)) (kv : Nat → (Nat → Nat → Int32) → Nat → Int32 → Int32 → Prop) : Prop := ((¬ (fX9_fine (g_wm M f (g_ml M)) a0) = 0) → vp_in ((g_mi (g_wm M f (g_ml M)) a0 19)) 401) ∧ ((¬ (fX9_fine (g_wm M f (g_ml M)) a0) = 0) → (¬ (g_mi (g_wm M f (g_ml M)) (a0 + 9) ((g_mi (g_wm M f (g_ml M)) a0 19)).toNatClampNeg) = (fX9_sign 91)) → (¬ (g_mi (g_wm M f (g_ml M)) (a0 + 9) ((g_mi (g_wm M f (g_ml M)) a0 19)).toNatClampNeg) = 50) → ((g_mi (g_wm M f (g_ml M)) (a0 + 9) ((g_mi (g_wm M f (g_ml M)) a0 19)).toNatClampNeg) < (g_mi (g_wm M f (g_ml M)) a0 8)) → EX9_faults (g_wm M f (g_ml M)) a0) ∧ ((¬ (fX9_fine (g_wm M f (g_ml M)) a0) = 0) → (¬ (g_mi (g_wm M f (g_ml M)) (a0 + 9) ((g_mi (g_wm M f (g_ml M)) a0 19)).toNatClampNeg) = (fX9_sign 91)) → (¬ (g_mi (g_wm M f (g_ml M)) (a0 + 9) ((g_mi (g_wm M f (g_ml M)) a0 19)).toNatClampNeg) = 50) → (¬ (g_mi (g_wm M f (g_ml M)) (a0 + 9) ((g_mi (g_wm M f (g_ml M)) a0 19)).toNatClampNeg) < (g_mi (g_wm M f (g_ml M)) a0 8)) → ((g_mi (g_wm M f (g_ml M)) a0 9) < (g_mi (g_wm M f (g_ml M)) (a0 + 9) ((g_mi (g_wm M f (g_ml M)) a0 19)).toNatClampNeg)) → EX9_faults (g_wm M f (g_ml M)) a0) ∧ ((¬ (fX9_fine (g_wm M f (g_ml M)) a0) = 0) → (¬ (g_mi (g_wm M f (g_ml M)) (a0 + 9) ((g_mi (g_wm M f (g_ml M)) a0 19)).toNatClampNeg) = (fX9_sign 91)) → (¬ (g_mi (g_wm M f (g_ml M)) (a0 + 9) ((g_mi (g_wm M f (g_ml M)) a0 19)).toNatClampNeg) = 50) → (¬ (g_mi (g_wm M f (g_ml M)) (a0 + 9) ((g_mi (g_wm M f (g_ml M)) a0 19)).toNatClampNeg) < (g_mi (g_wm M f (g_ml M)) a0 8)) → (¬ (g_mi (g_wm M f (g_ml M)) a0 9) < (g_mi (g_wm M f (g_ml M)) (a0 + 9) ((g_mi (g_wm M f (g_ml M)) a0 19)).toNatClampNeg)) → EX9_leaf (g_wm M f (g_ml M)) a0) ∧ ((¬ (fX9_fine (g_wm M f (g_ml M)) a0) = 0) → (¬ (g_mi (g_wm M f (g_ml M)) (a0 + 9) ((g_mi (g_wm M f (g_ml M)) a0 19)).toNatClampNeg) = (fX9_sign 91)) → (¬ (g_mi (g_wm M f (g_ml M)) (a0 + 9) ((g_mi (g_wm M f (g_ml M)) a0 19)).toNatClampNeg) = 50) → (¬ (g_mi (g_wm M f (g_ml M)) (a0 + 9) ((g_mi (g_wm M f (g_ml M)) a0 19)).toNatClampNeg) < (g_mi (g_wm M f (g_ml M)) a0 8)) → (¬ (g_mi (g_wm M f (g_ml M)) a0 9) < (g_mi (g_wm M f (g_ml M)) (a0 + 9) ((g_mi (g_wm M f (g_ml M)) a0 19)).toNatClampNeg)) → (¬ (g_mi (mX9_leaf (g_wm M f (g_ml M)) a0) a0 10) = 0) → (¬ (g_mi (g_wm M f (g_ml M)) (a0 + 9) ((g_mi (g_wm M f (g_ml M)) a0 19)).toNatClampNeg) = 12) → ((g_mi (g_wm M f (g_ml M)) (a0 + 9) ((g_mi (g_wm M f (g_ml M)) a0 19)).toNatClampNeg) = 17) → EX9_mustNumber (mX9_leaf (g_wm M f (g_ml M)) a0) a0 0 999) ∧ ((¬ (fX9_fine (g_wm M f (g_ml M)) a0) = 0) → (¬ (g_mi (g_wm M f (g_ml M)) (a0 + 9) ((g_mi (g_wm M f (g_ml M)) a0 19)).toNatClampNeg) = (fX9_sign 91)) → (¬ (g_mi (g_wm M f (g_ml M)) (a0 + 9) ((g_mi (g_wm M f (g_ml M)) a0 19)).toNatClampNeg) = 50) → (¬ (g_mi (g_wm M f (g_ml M)) (a0 + 9) ((g_mi (g_wm M f (g_ml M)) a0 19)).toNatClampNeg) < (g_mi (g_wm M f (g_ml M)) a0 8)) → (¬ (g_mi (g_wm M f (g_ml M)) a0 9) < (g_mi (g_wm M f (g_ml M)) (a0 + 9) ((g_mi (g_wm M f (g_ml M)) a0 19)).toNatClampNeg)) → (¬ (g_mi (mX9_leaf (g_wm M f (g_ml M)) a0) a0 10) = 0) → ((g_mi (g_wm M f (g_ml M)) (a0 + 9) ((g_mi (g_wm M f (g_ml M)) a0 19)).toNatClampNeg) = 12) → EX9_mustNumber (mX9_leaf (g_wm M f (g_ml M)) a0) a0 0 59) ∧ ((¬ (fX9_fine (g_wm M f (g_ml M)) a0) = 0) → (¬ (g_mi (g_wm M f (g_ml M)) (a0 + 9) ((g_mi (g_wm M f (g_ml M)) a0 19)).toNatClampNeg) = (fX9_sign 91)) → ((g_mi (g_wm M f (g_ml M)) (a0 + 9) ((g_mi (g_wm M f (g_ml M)) a0 19)).toNatClampNeg) = 50) → vp_in ((g_mi (g_wm M f (g_ml M)) a0 19)) 401) ∧ ((¬ (fX9_fine (g_wm M f (g_ml M)) a0) = 0) → (¬ (g_mi (g_wm M f (g_ml M)) (a0 + 9) ((g_mi (g_wm M f (g_ml M)) a0 19)).toNatClampNeg) = (fX9_sign 91)) → ((g_mi (g_wm M f (g_ml M)) (a0 + 9) ((g_mi (g_wm M f (g_ml M)) a0 19)).toNatClampNeg) = 50) → ((g_mi (g_wm M f (g_ml M)) (a0 + 10) ((g_mi (g_wm M f (g_ml M)) a0 19)).toNatClampNeg) ≤ 1000) → EX9_leaf (g_wm M f (g_ml M)) a0) ∧ ((¬ (fX9_fine (g_wm M f (g_ml M)) a0) = 0) → (¬ (g_mi (g_wm M f (g_ml M)) (a0 + 9) ((g_mi (g_wm M f (g_ml M)) a0 19)).toNatClampNeg) = (fX9_sign 91)) → ((g_mi (g_wm M f (g_ml M)) (a0 + 9) ((g_mi (g_wm M f (g_ml M)) a0 19)).toNatClampNeg) = 50) → (¬ (g_mi (g_wm M f (g_ml M)) (a0 + 10) ((g_mi (g_wm M f (g_ml M)) a0 19)).toNatClampNeg) ≤ 1000) → ((g_mi (g_wm M f (g_ml M)) (a0 + 9) ((g_mi (g_wm M f (g_ml M)) a0 19)).toNatClampNeg) < (g_mi (g_wm M f (g_ml M)) a0 8)) → EX9_faults (g_wm M f (g_ml M)) a0) ∧ ((¬ (fX9_fine (g_wm M f (g_ml M)) a0) = 0) → (¬ (g_mi (g_wm M f (g_ml M)) (a0 + 9) ((g_mi (g_wm M f (g_ml M)) a0 19)).toNatClampNeg) = (fX9_sign 91)) → ((g_mi (g_wm M f (g_ml M)) (a0 + 9) ((g_mi (g_wm M f (g_ml M)) a0 19)).toNatClampNeg) = 50) → (¬ (g_mi (g_wm M f (g_ml M)) (a0 + 10) ((g_mi (g_wm M f (g_ml M)) a0 19)).toNatClampNeg) ≤ 1000) → (¬ (g_mi (g_wm M f (g_ml M)) (a0 + 9) ((g_mi (g_wm M f (g_ml M)) a0 19)).toNatClampNeg) < (g_mi (g_wm M f (g_ml M)) a0 8)) → ((g_mi (g_wm M f (g_ml M)) a0 9) < (g_mi (g_wm M f (g_ml M)) (a0 + 9) ((g_mi (g_wm M f (g_ml M)) a0 19)).toNatClampNeg)) → EX9_faults (g_wm M f (g_ml M)) a0) ∧ ((¬ (fX9_fine (g_wm M f (g_ml M)) a0) = 0) → (¬ (g_mi (g_wm M f (g_ml M)) (a0 + 9) ((g_mi (g_wm M f (g_ml M)) a0 19)).toNatClampNeg) = (fX9_sign 91)) → ((g_mi (g_wm M f (g_ml M)) (a0 + 9) ((g_mi (g_wm M f (g_ml M)) a0 19)).toNatClampNeg) = 50) → (¬ (g_mi (g_wm M f (g_ml M)) (a0 + 10) ((g_mi (g_wm M f (g_ml M)) a0 19)).toNatClampNeg) ≤ 1000) → (¬ (g_mi (g_wm M f (g_ml M)) (a0 + 9) ((g_mi (g_wm M f (g_ml M)) a0 19)).toNatClampNeg) < (g_mi (g_wm M f (g_ml M)) a0 8)) → (¬ (g_mi (g_wm M f (g_ml M)) a0 9) < (g_mi (g_wm M f (g_ml M)) (a0 + 9) ((g_mi (g_wm M f (g_ml M)) a0 19)).toNatClampNeg)) → EX9_leaf (g_wm M f (g_ml M)) a0) ∧ ((¬ (fX9_fine (g_wm M f (g_ml M)) a0) = 0) → ((g_mi (g_wm M f (g_ml M)) (a0 + 9) ((g_mi (g_wm M f (g_ml M)) a0 19)).toNatClampNeg) = (fX9_sign 91)) → (x1 = 8) → EX9_faults (g_wm M f (g_ml M)) a0) ∧ (if (fX9_fine (g_wm M f (g_ml M)) a0) = 0 then True else (if (g_mi (g_wm M f (g_ml M)) (a0 + 9) ((g_mi (g_wm M f (g_ml M)) a0 19)).toNatClampNeg) = (fX9_sign 91) then (if x1 = 8 then (if (fX9_fine (mX9_faults (g_wm M f (g_ml M)) a0) a0) = 0 then True else (kv 11 (g_mi (g_wi (mX9_faults (g_wm M f (g_ml M)) a0) a0 19 ((g_mi (mX9_faults (g_wm M f (g_ml M)) a0) a0 19) + 1))) a0 (x1 + 1) 0 ∧ (kv 18 (kw 11 (g_mi (g_wi (mX9_faults (g_wm M f (g_ml M)) a0) a0 19 ((g_mi (mX9_faults (g_wm M f (g_ml M)) a0) a0 19) + 1))) a0 (x1 + 1) 0).2.2 a0 0 0))) else (kv 11 (g_mi (g_wi (g_wm M f (g_ml M)) a0 19 ((g_mi (g_wm M f (g_ml M)) a0 19) + 1))) a0 (x1 + 1) 0 ∧ (kv 18 (kw 11 (g_mi (g_wi (g_wm M f (g_ml M)) a0 19 ((g_mi (g_wm M f (g_ml M)) a0 19) + 1))) a0 (x1 + 1) 0).2.2 a0 0 0))) else (if (g_mi (g_wm M f (g_ml M)) (a0 + 9) ((g_mi (g_wm M f (g_ml M)) a0 19)).toNatClampNeg) = 50 then (if (g_mi (g_wm M f (g_ml M)) (a0 + 10) ((g_mi (g_wm M f (g_ml M)) a0 19)).toNatClampNeg) ≤ 1000 then (if (g_mi (mX9_leaf (g_wm M f (g_ml M)) a0) a0 10) = 0 then True else True) else (if (g_mi (g_wm M f (g_ml M)) (a0 + 9) ((g_mi (g_wm M f (g_ml M)) a0 19)).toNatClampNeg) < (g_mi (g_wm M f (g_ml M)) a0 8) then True else (if (g_mi (g_wm M f (g_ml M)) a0 9) < (g_mi (g_wm M f (g_ml M)) (a0 + 9) ((g_mi (g_wm M f (g_ml M)) a0 19)).toNatClampNeg) then True else (if (g_mi (mX9_leaf (g_wm M f (g_ml M)) a0) a0 10) = 0 then True else True)))) else (if (g_mi (g_wm M f (g_ml M)) (a0 + 9) ((g_mi (g_wm M f (g_ml M)) a0 19)).toNatClampNeg) < (g_mi (g_wm M f (g_ml M)) a0 8) then True else (if (g_mi (g_wm M f (g_ml M)) a0 9) < (g_mi (g_wm M f (g_ml M)) (a0 + 9) ((g_mi (g_wm M f (g_ml M)) a0 19)).toNatClampNeg) then True else (if (g_mi (mX9_leaf (g_wm M f (g_ml M)) a0) a0 10) = 0 then True else (if (g_mi (g_wm M f (g_ml M)) (a0 + 9) ((g_mi (g_wm M f (g_ml M)) a0 19)).toNatClampNeg) = 12 then (if (g_mi (mX9_mustNumber (mX9_leaf (g_wm M f (g_ml M)) a0) a0 0 59) a0 10) = 0 then True else True) else (if (g_mi (g_wm M f (g_ml M)) (a0 + 9) ((g_mi (g_wm M f (g_ml M)) a0 19)).toNatClampNeg) = 17 then True else True))))))))
def bX9_readPart_62 (N : Nat) (M : gM) (f : Nat → Nat → Int32) (a0 : Nat) (kw : Nat → (Nat → Nat → Int32) → Nat → Int32 → Int32 → Int32 × Int64 × (Nat → Nat → Int32)) : Int32 × Int64 × (Nat → Nat → Int32) := (0, 0, g_mi (mX9_must (g_wm M f (g_ml M)) a0 (fX9_sign 93)))
def eX9_readPart_62 (N : Nat) (M : gM) (f : Nat → Nat → Int32) (a0 : Nat) (kw : Nat → (Nat → Nat → Int32) → Nat → Int32 → Int32 → Int32 × Int64 × (Nat → Nat → Int32)) (kv : Nat → (Nat → Nat → Int32) → Nat → Int32 → Int32 → Prop) : Prop := (EX9_must (g_wm M f (g_ml M)) a0 (fX9_sign 93)) ∧ True
def wgMP (N : Nat) (M : gM) : Nat → Nat → (Nat → Nat → Int32) → Nat → Int32 → Int32 → Int32 × Int64 × (Nat → Nat → Int32)
  | 0, _, f, _, _, _ => (0, 0, f)
  | n + 1, h, f, a0, x1, x2 => if h = 0 then bX9_readTest_0 N M f a0 x1 (wgMP N M n) else if h = 1 then bX9_readTest_5 N M f a0 x1 (wgMP N M n) else if h = 2 then bX9_readTest_18 N M f a0 x1 (wgMP N M n) else if h = 3 then bX9_readBoth_0 N M f a0 x1 (wgMP N M n) else if h = 4 then bX9_readBoth_5 N M f a0 x1 (wgMP N M n) else if h = 5 then bX9_readBoth_18 N M f a0 x1 (wgMP N M n) else if h = 6 then bX9_readPlain_0 N M f a0 x1 (wgMP N M n) else if h = 7 then bX9_readPlain_2 N M f a0 x1 x2 (wgMP N M n) else if h = 8 then bX9_readPlain_78 N M f a0 (wgMP N M n) else if h = 9 then bX9_readPlain_95 N M f a0 x1 (wgMP N M n) else if h = 10 then bX9_readPlain_133 N M f  (wgMP N M n) else if h = 11 then bX9_readSum_0 N M f a0 x1 (wgMP N M n) else if h = 12 then bX9_readSum_5 N M f a0 x1 (wgMP N M n) else if h = 13 then bX9_readSum_34 N M f a0 x1 (wgMP N M n) else if h = 14 then bX9_readTerm_0 N M f a0 x1 (wgMP N M n) else if h = 15 then bX9_readTerm_5 N M f a0 x1 (wgMP N M n) else if h = 16 then bX9_readTerm_46 N M f a0 x1 (wgMP N M n) else if h = 17 then bX9_readPart_0 N M f a0 x1 (wgMP N M n) else bX9_readPart_62 N M f a0 (wgMP N M n)
def vgMP (N : Nat) (M : gM) : Nat → Nat → (Nat → Nat → Int32) → Nat → Int32 → Int32 → Prop
  | 0, _, _, _, _, _ => False
  | n + 1, h, f, a0, x1, x2 => if h = 0 then eX9_readTest_0 N M f a0 x1 (wgMP N M n) (vgMP N M n) else if h = 1 then eX9_readTest_5 N M f a0 x1 (wgMP N M n) (vgMP N M n) else if h = 2 then eX9_readTest_18 N M f a0 x1 (wgMP N M n) (vgMP N M n) else if h = 3 then eX9_readBoth_0 N M f a0 x1 (wgMP N M n) (vgMP N M n) else if h = 4 then eX9_readBoth_5 N M f a0 x1 (wgMP N M n) (vgMP N M n) else if h = 5 then eX9_readBoth_18 N M f a0 x1 (wgMP N M n) (vgMP N M n) else if h = 6 then eX9_readPlain_0 N M f a0 x1 (wgMP N M n) (vgMP N M n) else if h = 7 then eX9_readPlain_2 N M f a0 x1 x2 (wgMP N M n) (vgMP N M n) else if h = 8 then eX9_readPlain_78 N M f a0 (wgMP N M n) (vgMP N M n) else if h = 9 then eX9_readPlain_95 N M f a0 x1 (wgMP N M n) (vgMP N M n) else if h = 10 then eX9_readPlain_133 N M f  (wgMP N M n) (vgMP N M n) else if h = 11 then eX9_readSum_0 N M f a0 x1 (wgMP N M n) (vgMP N M n) else if h = 12 then eX9_readSum_5 N M f a0 x1 (wgMP N M n) (vgMP N M n) else if h = 13 then eX9_readSum_34 N M f a0 x1 (wgMP N M n) (vgMP N M n) else if h = 14 then eX9_readTerm_0 N M f a0 x1 (wgMP N M n) (vgMP N M n) else if h = 15 then eX9_readTerm_5 N M f a0 x1 (wgMP N M n) (vgMP N M n) else if h = 16 then eX9_readTerm_46 N M f a0 x1 (wgMP N M n) (vgMP N M n) else if h = 17 then eX9_readPart_0 N M f a0 x1 (wgMP N M n) (vgMP N M n) else eX9_readPart_62 N M f a0 (wgMP N M n) (vgMP N M n)
def PX9_readTest_0 (X : gX) (N : Nat) (M : gM) (n : Nat) : Prop := ∀ (d D mc ms : Nat) (Q : Option Value → gM → Prop) (f : Nat → Nat → Int32) (a0 : Nat) (x1 : Int32) (x2 : Int32), D = d + n + 4 → Mo M a0 → vgMP N M n 0 f a0 x1 x2 → Q none (g_wm M (wgMP N M n 0 f a0 x1 x2).2.2 (g_ml M)) → Cn X D mc ms kX9_readTest [.ref a0, .int (x1)] (g_wm M f (g_ml M)) Q
def PX9_readTest_5 (X : gX) (N : Nat) (M : gM) (n : Nat) : Prop := ∀ (d D mc ms : Nat) (Q : Option Value → gM → Prop) (f : Nat → Nat → Int32) (a0 : Nat) (x1 : Int32) (x2 : Int32), D = d + n + 4 → Mo M a0 → vgMP N M n 1 f a0 x1 x2 → Q none (g_wm M (wgMP N M n 1 f a0 x1 x2).2.2 (g_ml M)) → Go X D mc ms kX9_readTest Q 5 [(0, .ref a0), (1, .int (x1))] [] (g_wm M f (g_ml M)) 0 0
def PX9_readTest_18 (X : gX) (N : Nat) (M : gM) (n : Nat) : Prop := ∀ (d D mc ms : Nat) (Q : Option Value → gM → Prop) (f : Nat → Nat → Int32) (a0 : Nat) (x1 : Int32) (x2 : Int32), D = d + n + 4 → Mo M a0 → vgMP N M n 2 f a0 x1 x2 → Q none (g_wm M (wgMP N M n 2 f a0 x1 x2).2.2 (g_ml M)) → Go X D mc ms kX9_readTest Q 18 [(0, .ref a0), (1, .int (x1))] [] (g_wm M f (g_ml M)) 0 0
def PX9_readBoth_0 (X : gX) (N : Nat) (M : gM) (n : Nat) : Prop := ∀ (d D mc ms : Nat) (Q : Option Value → gM → Prop) (f : Nat → Nat → Int32) (a0 : Nat) (x1 : Int32) (x2 : Int32), D = d + n + 4 → Mo M a0 → vgMP N M n 3 f a0 x1 x2 → Q none (g_wm M (wgMP N M n 3 f a0 x1 x2).2.2 (g_ml M)) → Cn X D mc ms kX9_readBoth [.ref a0, .int (x1)] (g_wm M f (g_ml M)) Q
def PX9_readBoth_5 (X : gX) (N : Nat) (M : gM) (n : Nat) : Prop := ∀ (d D mc ms : Nat) (Q : Option Value → gM → Prop) (f : Nat → Nat → Int32) (a0 : Nat) (x1 : Int32) (x2 : Int32), D = d + n + 4 → Mo M a0 → vgMP N M n 4 f a0 x1 x2 → Q none (g_wm M (wgMP N M n 4 f a0 x1 x2).2.2 (g_ml M)) → Go X D mc ms kX9_readBoth Q 5 [(0, .ref a0), (1, .int (x1))] [] (g_wm M f (g_ml M)) 0 0
def PX9_readBoth_18 (X : gX) (N : Nat) (M : gM) (n : Nat) : Prop := ∀ (d D mc ms : Nat) (Q : Option Value → gM → Prop) (f : Nat → Nat → Int32) (a0 : Nat) (x1 : Int32) (x2 : Int32), D = d + n + 4 → Mo M a0 → vgMP N M n 5 f a0 x1 x2 → Q none (g_wm M (wgMP N M n 5 f a0 x1 x2).2.2 (g_ml M)) → Go X D mc ms kX9_readBoth Q 18 [(0, .ref a0), (1, .int (x1))] [] (g_wm M f (g_ml M)) 0 0
def PX9_readPlain_0 (X : gX) (N : Nat) (M : gM) (n : Nat) : Prop := ∀ (d D mc ms : Nat) (Q : Option Value → gM → Prop) (f : Nat → Nat → Int32) (a0 : Nat) (x1 : Int32) (x2 : Int32), D = d + n + 4 → Mo M a0 → vgMP N M n 6 f a0 x1 x2 → Q none (g_wm M (wgMP N M n 6 f a0 x1 x2).2.2 (g_ml M)) → Cn X D mc ms kX9_readPlain [.ref a0, .int (x1)] (g_wm M f (g_ml M)) Q
def PX9_readPlain_2 (X : gX) (N : Nat) (M : gM) (n : Nat) : Prop := ∀ (d D mc ms : Nat) (Q : Option Value → gM → Prop) (f : Nat → Nat → Int32) (a0 : Nat) (x1 : Int32) (x2 : Int32), D = d + n + 4 → Mo M a0 → vgMP N M n 7 f a0 x1 x2 → Q none (g_wm M (wgMP N M n 7 f a0 x1 x2).2.2 (g_ml M)) → Go X D mc ms kX9_readPlain Q 2 [(0, .ref a0), (1, .int (x1)), (2, .int (x2))] [] (g_wm M f (g_ml M)) 0 0
def PX9_readPlain_78 (X : gX) (N : Nat) (M : gM) (n : Nat) : Prop := ∀ (d D mc ms : Nat) (Q : Option Value → gM → Prop) (f : Nat → Nat → Int32) (a0 : Nat) (x1 : Int32) (x2 : Int32), D = d + n + 4 → Mo M a0 → vgMP N M n 8 f a0 x1 x2 → Q none (g_wm M (wgMP N M n 8 f a0 x1 x2).2.2 (g_ml M)) → Go X D mc ms kX9_readPlain Q 78 [(0, .ref a0)] [] (g_wm M f (g_ml M)) 0 0
def PX9_readPlain_95 (X : gX) (N : Nat) (M : gM) (n : Nat) : Prop := ∀ (d D mc ms : Nat) (Q : Option Value → gM → Prop) (f : Nat → Nat → Int32) (a0 : Nat) (x1 : Int32) (x2 : Int32), D = d + n + 4 → Mo M a0 → vgMP N M n 9 f a0 x1 x2 → Q none (g_wm M (wgMP N M n 9 f a0 x1 x2).2.2 (g_ml M)) → Go X D mc ms kX9_readPlain Q 95 [(0, .ref a0), (1, .int (x1))] [] (g_wm M f (g_ml M)) 0 0
def PX9_readPlain_133 (X : gX) (N : Nat) (M : gM) (n : Nat) : Prop := ∀ (d D mc ms : Nat) (Q : Option Value → gM → Prop) (f : Nat → Nat → Int32) (a0 : Nat) (x1 : Int32) (x2 : Int32), D = d + n + 4 → vgMP N M n 10 f a0 x1 x2 → Q none (g_wm M (wgMP N M n 10 f a0 x1 x2).2.2 (g_ml M)) → Go X D mc ms kX9_readPlain Q 133 [] [] (g_wm M f (g_ml M)) 0 0
def PX9_readSum_0 (X : gX) (N : Nat) (M : gM) (n : Nat) : Prop := ∀ (d D mc ms : Nat) (Q : Option Value → gM → Prop) (f : Nat → Nat → Int32) (a0 : Nat) (x1 : Int32) (x2 : Int32), D = d + n + 4 → Mo M a0 → vgMP N M n 11 f a0 x1 x2 → Q none (g_wm M (wgMP N M n 11 f a0 x1 x2).2.2 (g_ml M)) → Cn X D mc ms kX9_readSum [.ref a0, .int (x1)] (g_wm M f (g_ml M)) Q
def PX9_readSum_5 (X : gX) (N : Nat) (M : gM) (n : Nat) : Prop := ∀ (d D mc ms : Nat) (Q : Option Value → gM → Prop) (f : Nat → Nat → Int32) (a0 : Nat) (x1 : Int32) (x2 : Int32), D = d + n + 4 → Mo M a0 → vgMP N M n 12 f a0 x1 x2 → Q none (g_wm M (wgMP N M n 12 f a0 x1 x2).2.2 (g_ml M)) → Go X D mc ms kX9_readSum Q 5 [(0, .ref a0), (1, .int (x1))] [] (g_wm M f (g_ml M)) 0 0
def PX9_readSum_34 (X : gX) (N : Nat) (M : gM) (n : Nat) : Prop := ∀ (d D mc ms : Nat) (Q : Option Value → gM → Prop) (f : Nat → Nat → Int32) (a0 : Nat) (x1 : Int32) (x2 : Int32), D = d + n + 4 → Mo M a0 → vgMP N M n 13 f a0 x1 x2 → Q none (g_wm M (wgMP N M n 13 f a0 x1 x2).2.2 (g_ml M)) → Go X D mc ms kX9_readSum Q 34 [(0, .ref a0), (1, .int (x1))] [] (g_wm M f (g_ml M)) 0 0
def PX9_readTerm_0 (X : gX) (N : Nat) (M : gM) (n : Nat) : Prop := ∀ (d D mc ms : Nat) (Q : Option Value → gM → Prop) (f : Nat → Nat → Int32) (a0 : Nat) (x1 : Int32) (x2 : Int32), D = d + n + 4 → Mo M a0 → vgMP N M n 14 f a0 x1 x2 → Q none (g_wm M (wgMP N M n 14 f a0 x1 x2).2.2 (g_ml M)) → Cn X D mc ms kX9_readTerm [.ref a0, .int (x1)] (g_wm M f (g_ml M)) Q
def PX9_readTerm_5 (X : gX) (N : Nat) (M : gM) (n : Nat) : Prop := ∀ (d D mc ms : Nat) (Q : Option Value → gM → Prop) (f : Nat → Nat → Int32) (a0 : Nat) (x1 : Int32) (x2 : Int32), D = d + n + 4 → Mo M a0 → vgMP N M n 15 f a0 x1 x2 → Q none (g_wm M (wgMP N M n 15 f a0 x1 x2).2.2 (g_ml M)) → Go X D mc ms kX9_readTerm Q 5 [(0, .ref a0), (1, .int (x1))] [] (g_wm M f (g_ml M)) 0 0
def PX9_readTerm_46 (X : gX) (N : Nat) (M : gM) (n : Nat) : Prop := ∀ (d D mc ms : Nat) (Q : Option Value → gM → Prop) (f : Nat → Nat → Int32) (a0 : Nat) (x1 : Int32) (x2 : Int32), D = d + n + 4 → Mo M a0 → vgMP N M n 16 f a0 x1 x2 → Q none (g_wm M (wgMP N M n 16 f a0 x1 x2).2.2 (g_ml M)) → Go X D mc ms kX9_readTerm Q 46 [(0, .ref a0), (1, .int (x1))] [] (g_wm M f (g_ml M)) 0 0
def PX9_readPart_0 (X : gX) (N : Nat) (M : gM) (n : Nat) : Prop := ∀ (d D mc ms : Nat) (Q : Option Value → gM → Prop) (f : Nat → Nat → Int32) (a0 : Nat) (x1 : Int32) (x2 : Int32), D = d + n + 4 → Mo M a0 → vgMP N M n 17 f a0 x1 x2 → Q none (g_wm M (wgMP N M n 17 f a0 x1 x2).2.2 (g_ml M)) → Cn X D mc ms kX9_readPart [.ref a0, .int (x1)] (g_wm M f (g_ml M)) Q
def PX9_readPart_62 (X : gX) (N : Nat) (M : gM) (n : Nat) : Prop := ∀ (d D mc ms : Nat) (Q : Option Value → gM → Prop) (f : Nat → Nat → Int32) (a0 : Nat) (x1 : Int32) (x2 : Int32), D = d + n + 4 → Mo M a0 → vgMP N M n 18 f a0 x1 x2 → Q none (g_wm M (wgMP N M n 18 f a0 x1 x2).2.2 (g_ml M)) → Go X D mc ms kX9_readPart Q 62 [(0, .ref a0)] [] (g_wm M f (g_ml M)) 0 0
def PgMP (X : gX) (N : Nat) (M : gM) (n : Nat) : Prop := PX9_readTest_0 X N M n ∧ PX9_readTest_5 X N M n ∧ PX9_readTest_18 X N M n ∧ PX9_readBoth_0 X N M n ∧ PX9_readBoth_5 X N M n ∧ PX9_readBoth_18 X N M n ∧ PX9_readPlain_0 X N M n ∧ PX9_readPlain_2 X N M n ∧ PX9_readPlain_78 X N M n ∧ PX9_readPlain_95 X N M n ∧ PX9_readPlain_133 X N M n ∧ PX9_readSum_0 X N M n ∧ PX9_readSum_5 X N M n ∧ PX9_readSum_34 X N M n ∧ PX9_readTerm_0 X N M n ∧ PX9_readTerm_5 X N M n ∧ PX9_readTerm_46 X N M n ∧ PX9_readPart_0 X N M n ∧ PX9_readPart_62 X N M n
set_option maxRecDepth 10000 in
theorem zX9_readTest_0 {X : gX} {N : Nat} {M : gM} {n : Nat} (ih : PgMP X N M n) : PX9_readTest_0 X N M (n + 1) := by
  intro d D mc ms Q f a0 x1 x2 hD s0 hT hQ
  subst hD
  rw [vgMP, if_pos (show (0 : Nat) = 0 from rfl)] at hT
  rw [wgMP, if_pos (show (0 : Nat) = 0 from rfl)] at hQ
  unfold bX9_readTest_0 at hQ
  unfold eX9_readTest_0 at hT
  exact sX9_readTest_0 (M := (g_wm M f (g_ml M))) (d := d + (n + 1)) (Mo.sm Sm.wm s0) (Sm.c Sm.wm (ih.2.2.2.1 d _ 0 0 _ _ _ _ _ (by omega) (s0) hT.1 (ih.2.1 (d + 1) _ _ _ _ _ _ _ _ (by omega) (s0) hT.2 hQ)))
set_option maxRecDepth 10000 in
theorem zX9_readTest_5 {X : gX} {N : Nat} {M : gM} {n : Nat} (ih : PgMP X N M n) : PX9_readTest_5 X N M (n + 1) := by
  intro d D mc ms Q f a0 x1 x2 hD s0 hT hQ
  subst hD
  rw [vgMP, if_neg (show ¬ (1 : Nat) = 0 by decide), if_pos (show (1 : Nat) = 1 from rfl)] at hT
  rw [wgMP, if_neg (show ¬ (1 : Nat) = 0 by decide), if_pos (show (1 : Nat) = 1 from rfl)] at hQ
  unfold bX9_readTest_5 at hQ
  unfold eX9_readTest_5 at hT
  obtain ⟨b3, hT⟩ := hT
  exact sX9_readTest_5 (M := (g_wm M f (g_ml M))) (d := d + (n + 1)) (Mo.sm Sm.wm s0) (Nat.zero_le _) (Nat.zero_le _) b3 (fun c1 => by simp only [if_pos c1] at hQ; exact Sm.q (Sm.tr Sm.wm (Sm.tr Sm.rf jX9_takes0)) hQ) (fun c1 => by simp only [if_neg c1] at hQ hT; exact Sm.c (Sm.tr Sm.wm (Sm.tr Sm.rf jX9_takes0)) (ih.2.2.2.1 d _ 0 0 _ _ _ _ _ (by omega) (s0) hT.1 (ih.2.2.1 (d + 1) _ _ _ _ _ _ _ _ (by omega) (s0) hT.2 hQ)))
set_option maxRecDepth 10000 in
theorem zX9_readTest_18 {X : gX} {N : Nat} {M : gM} {n : Nat} (ih : PgMP X N M n) : PX9_readTest_18 X N M (n + 1) := by
  intro d D mc ms Q f a0 x1 x2 hD s0 hT hQ
  subst hD
  rw [vgMP, if_neg (show ¬ (2 : Nat) = 0 by decide), if_neg (show ¬ (2 : Nat) = 1 by decide), if_pos (show (2 : Nat) = 2 from rfl)] at hT
  rw [wgMP, if_neg (show ¬ (2 : Nat) = 0 by decide), if_neg (show ¬ (2 : Nat) = 1 by decide), if_pos (show (2 : Nat) = 2 from rfl)] at hQ
  unfold bX9_readTest_18 at hQ
  unfold eX9_readTest_18 at hT
  exact sX9_readTest_18 (M := (g_wm M f (g_ml M))) (d := d + (n + 1)) (Mo.sm Sm.wm s0) (Sm.g Sm.wm (ih.2.1 (d + 1) _ _ _ _ _ _ _ _ (by omega) (s0) hT hQ))
set_option maxRecDepth 10000 in
theorem zX9_readBoth_0 {X : gX} {N : Nat} {M : gM} {n : Nat} (ih : PgMP X N M n) : PX9_readBoth_0 X N M (n + 1) := by
  intro d D mc ms Q f a0 x1 x2 hD s0 hT hQ
  subst hD
  rw [vgMP, if_neg (show ¬ (3 : Nat) = 0 by decide), if_neg (show ¬ (3 : Nat) = 1 by decide), if_neg (show ¬ (3 : Nat) = 2 by decide), if_pos (show (3 : Nat) = 3 from rfl)] at hT
  rw [wgMP, if_neg (show ¬ (3 : Nat) = 0 by decide), if_neg (show ¬ (3 : Nat) = 1 by decide), if_neg (show ¬ (3 : Nat) = 2 by decide), if_pos (show (3 : Nat) = 3 from rfl)] at hQ
  unfold bX9_readBoth_0 at hQ
  unfold eX9_readBoth_0 at hT
  exact sX9_readBoth_0 (M := (g_wm M f (g_ml M))) (d := d + (n + 1)) (Mo.sm Sm.wm s0) (Sm.c Sm.wm (ih.2.2.2.2.2.2.1 d _ 0 0 _ _ _ _ _ (by omega) (s0) hT.1 (ih.2.2.2.2.1 (d + 1) _ _ _ _ _ _ _ _ (by omega) (s0) hT.2 hQ)))
set_option maxRecDepth 10000 in
theorem zX9_readBoth_5 {X : gX} {N : Nat} {M : gM} {n : Nat} (ih : PgMP X N M n) : PX9_readBoth_5 X N M (n + 1) := by
  intro d D mc ms Q f a0 x1 x2 hD s0 hT hQ
  subst hD
  rw [vgMP, if_neg (show ¬ (4 : Nat) = 0 by decide), if_neg (show ¬ (4 : Nat) = 1 by decide), if_neg (show ¬ (4 : Nat) = 2 by decide), if_neg (show ¬ (4 : Nat) = 3 by decide), if_pos (show (4 : Nat) = 4 from rfl)] at hT
  rw [wgMP, if_neg (show ¬ (4 : Nat) = 0 by decide), if_neg (show ¬ (4 : Nat) = 1 by decide), if_neg (show ¬ (4 : Nat) = 2 by decide), if_neg (show ¬ (4 : Nat) = 3 by decide), if_pos (show (4 : Nat) = 4 from rfl)] at hQ
  unfold bX9_readBoth_5 at hQ
  unfold eX9_readBoth_5 at hT
  obtain ⟨b3, hT⟩ := hT
  exact sX9_readBoth_5 (M := (g_wm M f (g_ml M))) (d := d + (n + 1)) (Mo.sm Sm.wm s0) (Nat.zero_le _) (Nat.zero_le _) b3 (fun c1 => by simp only [if_pos c1] at hQ; exact Sm.q (Sm.tr Sm.wm (Sm.tr Sm.rf jX9_takes0)) hQ) (fun c1 => by simp only [if_neg c1] at hQ hT; exact Sm.c (Sm.tr Sm.wm (Sm.tr Sm.rf jX9_takes0)) (ih.2.2.2.2.2.2.1 d _ 0 0 _ _ _ _ _ (by omega) (s0) hT.1 (ih.2.2.2.2.2.1 (d + 1) _ _ _ _ _ _ _ _ (by omega) (s0) hT.2 hQ)))
set_option maxRecDepth 10000 in
theorem zX9_readBoth_18 {X : gX} {N : Nat} {M : gM} {n : Nat} (ih : PgMP X N M n) : PX9_readBoth_18 X N M (n + 1) := by
  intro d D mc ms Q f a0 x1 x2 hD s0 hT hQ
  subst hD
  rw [vgMP, if_neg (show ¬ (5 : Nat) = 0 by decide), if_neg (show ¬ (5 : Nat) = 1 by decide), if_neg (show ¬ (5 : Nat) = 2 by decide), if_neg (show ¬ (5 : Nat) = 3 by decide), if_neg (show ¬ (5 : Nat) = 4 by decide), if_pos (show (5 : Nat) = 5 from rfl)] at hT
  rw [wgMP, if_neg (show ¬ (5 : Nat) = 0 by decide), if_neg (show ¬ (5 : Nat) = 1 by decide), if_neg (show ¬ (5 : Nat) = 2 by decide), if_neg (show ¬ (5 : Nat) = 3 by decide), if_neg (show ¬ (5 : Nat) = 4 by decide), if_pos (show (5 : Nat) = 5 from rfl)] at hQ
  unfold bX9_readBoth_18 at hQ
  unfold eX9_readBoth_18 at hT
  exact sX9_readBoth_18 (M := (g_wm M f (g_ml M))) (d := d + (n + 1)) (Mo.sm Sm.wm s0) (Sm.g Sm.wm (ih.2.2.2.2.1 (d + 1) _ _ _ _ _ _ _ _ (by omega) (s0) hT hQ))
set_option maxRecDepth 10000 in
theorem zX9_readPlain_0 {X : gX} {N : Nat} {M : gM} {n : Nat} (ih : PgMP X N M n) : PX9_readPlain_0 X N M (n + 1) := by
  intro d D mc ms Q f a0 x1 x2 hD s0 hT hQ
  subst hD
  rw [vgMP, if_neg (show ¬ (6 : Nat) = 0 by decide), if_neg (show ¬ (6 : Nat) = 1 by decide), if_neg (show ¬ (6 : Nat) = 2 by decide), if_neg (show ¬ (6 : Nat) = 3 by decide), if_neg (show ¬ (6 : Nat) = 4 by decide), if_neg (show ¬ (6 : Nat) = 5 by decide), if_pos (show (6 : Nat) = 6 from rfl)] at hT
  rw [wgMP, if_neg (show ¬ (6 : Nat) = 0 by decide), if_neg (show ¬ (6 : Nat) = 1 by decide), if_neg (show ¬ (6 : Nat) = 2 by decide), if_neg (show ¬ (6 : Nat) = 3 by decide), if_neg (show ¬ (6 : Nat) = 4 by decide), if_neg (show ¬ (6 : Nat) = 5 by decide), if_pos (show (6 : Nat) = 6 from rfl)] at hQ
  unfold bX9_readPlain_0 at hQ
  unfold eX9_readPlain_0 at hT
  exact sX9_readPlain_0 (M := (g_wm M f (g_ml M))) (d := d + (n + 1)) (Mo.sm Sm.wm s0) (Sm.g Sm.wm (ih.2.2.2.2.2.2.2.1 (d + 1) _ _ _ _ _ _ _ _ (by omega) (s0) hT hQ))
set_option maxRecDepth 10000 in
theorem zX9_readPlain_2 {X : gX} {N : Nat} {M : gM} {n : Nat} (ih : PgMP X N M n) : PX9_readPlain_2 X N M (n + 1) := by
  intro d D mc ms Q f a0 x1 x2 hD s0 hT hQ
  subst hD
  rw [vgMP, if_neg (show ¬ (7 : Nat) = 0 by decide), if_neg (show ¬ (7 : Nat) = 1 by decide), if_neg (show ¬ (7 : Nat) = 2 by decide), if_neg (show ¬ (7 : Nat) = 3 by decide), if_neg (show ¬ (7 : Nat) = 4 by decide), if_neg (show ¬ (7 : Nat) = 5 by decide), if_neg (show ¬ (7 : Nat) = 6 by decide), if_pos (show (7 : Nat) = 7 from rfl)] at hT
  rw [wgMP, if_neg (show ¬ (7 : Nat) = 0 by decide), if_neg (show ¬ (7 : Nat) = 1 by decide), if_neg (show ¬ (7 : Nat) = 2 by decide), if_neg (show ¬ (7 : Nat) = 3 by decide), if_neg (show ¬ (7 : Nat) = 4 by decide), if_neg (show ¬ (7 : Nat) = 5 by decide), if_neg (show ¬ (7 : Nat) = 6 by decide), if_pos (show (7 : Nat) = 7 from rfl)] at hQ
  unfold bX9_readPlain_2 at hQ
  unfold eX9_readPlain_2 at hT
  obtain ⟨b3, b6, b10, hT⟩ := hT
  exact sX9_readPlain_2 (M := (g_wm M f (g_ml M))) (d := d + (n + 1)) (Mo.sm Sm.wm s0) (Nat.zero_le _) (Nat.zero_le _) b3 (fun c1 c2 c3 => by simp only [if_pos c1, if_neg c2, if_neg c3] at hQ hT; exact Sm.c Sm.wm (ih.2.2.2.2.2.2.2.2.2.2.2.1 d _ 0 0 _ _ _ _ _ (by omega) (s0) hT.1 (ih.2.2.2.2.2.2.2.2.2.1 (d + 1) _ _ _ _ _ _ _ _ (by omega) (s0) hT.2 hQ))) (fun c1 c2 c3 c4 => by simp only [if_pos c1, if_neg c2, if_pos c3, if_neg c4] at hQ hT; exact Sm.c (Sm.tr Sm.wm (Sm.wi Sm.rf)) (ih.1 d _ 0 0 _ _ _ _ _ (by omega) (s0) hT.1 (ih.2.2.2.2.2.2.2.2.1 (d + 1) _ _ _ _ _ _ _ _ (by omega) (s0) hT.2 hQ))) b6 (fun c1 c2 c3 c4 c5 => by simp only [if_pos c1, if_neg c2, if_pos c3, if_pos c4, if_neg c5] at hQ hT; exact Sm.c (Sm.tr Sm.wm (Sm.wi (Sm.tr Sm.rf jX9_faults))) (ih.1 d _ 0 0 _ _ _ _ _ (by omega) (s0) hT.1 (ih.2.2.2.2.2.2.2.2.1 (d + 1) _ _ _ _ _ _ _ _ (by omega) (s0) hT.2 hQ))) (fun c1 c2 c3 c4 c5 => by simp only [if_pos c1, if_neg c2, if_pos c3, if_pos c4, if_pos c5] at hQ; exact Sm.q (Sm.tr Sm.wm (Sm.tr Sm.rf jX9_faults)) hQ) (fun c1 c2 => by simp only [if_pos c1, if_pos c2] at hQ; exact Sm.q Sm.wm hQ) b10 (fun c1 => by simp only [if_neg c1] at hQ hT; exact Sm.g (Sm.tr Sm.wm (Sm.tr Sm.rf jX9_takes0)) (ih.2.2.2.2.2.2.2.1 (d + 1) _ _ _ _ _ _ _ _ (by omega) (s0) hT hQ))
set_option maxRecDepth 10000 in
theorem zX9_readPlain_78 {X : gX} {N : Nat} {M : gM} {n : Nat} (ih : PgMP X N M n) : PX9_readPlain_78 X N M (n + 1) := by
  intro d D mc ms Q f a0 x1 x2 hD s0 hT hQ
  subst hD
  rw [vgMP, if_neg (show ¬ (8 : Nat) = 0 by decide), if_neg (show ¬ (8 : Nat) = 1 by decide), if_neg (show ¬ (8 : Nat) = 2 by decide), if_neg (show ¬ (8 : Nat) = 3 by decide), if_neg (show ¬ (8 : Nat) = 4 by decide), if_neg (show ¬ (8 : Nat) = 5 by decide), if_neg (show ¬ (8 : Nat) = 6 by decide), if_neg (show ¬ (8 : Nat) = 7 by decide), if_pos (show (8 : Nat) = 8 from rfl)] at hT
  rw [wgMP, if_neg (show ¬ (8 : Nat) = 0 by decide), if_neg (show ¬ (8 : Nat) = 1 by decide), if_neg (show ¬ (8 : Nat) = 2 by decide), if_neg (show ¬ (8 : Nat) = 3 by decide), if_neg (show ¬ (8 : Nat) = 4 by decide), if_neg (show ¬ (8 : Nat) = 5 by decide), if_neg (show ¬ (8 : Nat) = 6 by decide), if_neg (show ¬ (8 : Nat) = 7 by decide), if_pos (show (8 : Nat) = 8 from rfl)] at hQ
  unfold bX9_readPlain_78 at hQ
  unfold eX9_readPlain_78 at hT
  obtain ⟨b3, hT⟩ := hT
  exact sX9_readPlain_78 (M := (g_wm M f (g_ml M))) (d := d + (n + 1)) (Mo.sm Sm.wm s0) (Nat.zero_le _) (Nat.zero_le _) b3 (Sm.g (Sm.tr Sm.wm (Sm.tr Sm.rf jX9_must)) (ih.2.2.2.2.2.2.2.2.2.2.1 (d + 1) _ _ _ _ _ _ _ _ (by omega)  hT hQ))
set_option maxRecDepth 10000 in
theorem zX9_readPlain_95 {X : gX} {N : Nat} {M : gM} {n : Nat} (ih : PgMP X N M n) : PX9_readPlain_95 X N M (n + 1) := by
  intro d D mc ms Q f a0 x1 x2 hD s0 hT hQ
  subst hD
  rw [vgMP, if_neg (show ¬ (9 : Nat) = 0 by decide), if_neg (show ¬ (9 : Nat) = 1 by decide), if_neg (show ¬ (9 : Nat) = 2 by decide), if_neg (show ¬ (9 : Nat) = 3 by decide), if_neg (show ¬ (9 : Nat) = 4 by decide), if_neg (show ¬ (9 : Nat) = 5 by decide), if_neg (show ¬ (9 : Nat) = 6 by decide), if_neg (show ¬ (9 : Nat) = 7 by decide), if_neg (show ¬ (9 : Nat) = 8 by decide), if_pos (show (9 : Nat) = 9 from rfl)] at hT
  rw [wgMP, if_neg (show ¬ (9 : Nat) = 0 by decide), if_neg (show ¬ (9 : Nat) = 1 by decide), if_neg (show ¬ (9 : Nat) = 2 by decide), if_neg (show ¬ (9 : Nat) = 3 by decide), if_neg (show ¬ (9 : Nat) = 4 by decide), if_neg (show ¬ (9 : Nat) = 5 by decide), if_neg (show ¬ (9 : Nat) = 6 by decide), if_neg (show ¬ (9 : Nat) = 7 by decide), if_neg (show ¬ (9 : Nat) = 8 by decide), if_pos (show (9 : Nat) = 9 from rfl)] at hQ
  unfold bX9_readPlain_95 at hQ
  unfold eX9_readPlain_95 at hT
  obtain ⟨b3, b5, b7, hT⟩ := hT
  exact sX9_readPlain_95 (M := (g_wm M f (g_ml M))) (d := d + (n + 1)) (Mo.sm Sm.wm s0) (Nat.zero_le _) (Nat.zero_le _) b3 (fun c1 => by simp only [if_neg c1] at hQ hT; exact Sm.c (Sm.tr Sm.wm (Sm.tr Sm.rf jX9_takes0)) (ih.2.2.2.2.2.2.2.2.2.2.2.1 d _ 0 0 _ _ _ _ _ (by omega) (s0) hT.1 (ih.2.2.2.2.2.2.2.2.2.2.1 (d + 1) _ _ _ _ _ _ _ _ (by omega)  hT.2 hQ))) b5 (fun c1 c2 => by simp only [if_pos c1, if_neg c2] at hQ hT; exact Sm.c (Sm.tr Sm.wm (Sm.tr (Sm.tr Sm.rf jX9_takes0) jX9_takes0)) (ih.2.2.2.2.2.2.2.2.2.2.2.1 d _ 0 0 _ _ _ _ _ (by omega) (s0) hT.1 (ih.2.2.2.2.2.2.2.2.2.2.1 (d + 1) _ _ _ _ _ _ _ _ (by omega)  hT.2 hQ))) b7 (fun c1 c2 => by simp only [if_pos c1, if_pos c2] at hQ hT; exact Sm.c (Sm.tr Sm.wm (Sm.tr (Sm.tr (Sm.tr Sm.rf jX9_takes0) jX9_takes0) jX9_must)) (ih.2.2.2.2.2.2.2.2.2.2.2.1 d _ 0 0 _ _ _ _ _ (by omega) (s0) hT.1 (ih.2.2.2.2.2.2.2.2.2.2.1 (d + 1) _ _ _ _ _ _ _ _ (by omega)  hT.2 hQ)))
set_option maxRecDepth 10000 in
theorem zX9_readPlain_133 {X : gX} {N : Nat} {M : gM} {n : Nat} (ih : PgMP X N M n) : PX9_readPlain_133 X N M (n + 1) := by
  intro d D mc ms Q f a0 x1 x2 hD  hT hQ
  subst hD
  rw [vgMP, if_neg (show ¬ (10 : Nat) = 0 by decide), if_neg (show ¬ (10 : Nat) = 1 by decide), if_neg (show ¬ (10 : Nat) = 2 by decide), if_neg (show ¬ (10 : Nat) = 3 by decide), if_neg (show ¬ (10 : Nat) = 4 by decide), if_neg (show ¬ (10 : Nat) = 5 by decide), if_neg (show ¬ (10 : Nat) = 6 by decide), if_neg (show ¬ (10 : Nat) = 7 by decide), if_neg (show ¬ (10 : Nat) = 8 by decide), if_neg (show ¬ (10 : Nat) = 9 by decide), if_pos (show (10 : Nat) = 10 from rfl)] at hT
  rw [wgMP, if_neg (show ¬ (10 : Nat) = 0 by decide), if_neg (show ¬ (10 : Nat) = 1 by decide), if_neg (show ¬ (10 : Nat) = 2 by decide), if_neg (show ¬ (10 : Nat) = 3 by decide), if_neg (show ¬ (10 : Nat) = 4 by decide), if_neg (show ¬ (10 : Nat) = 5 by decide), if_neg (show ¬ (10 : Nat) = 6 by decide), if_neg (show ¬ (10 : Nat) = 7 by decide), if_neg (show ¬ (10 : Nat) = 8 by decide), if_neg (show ¬ (10 : Nat) = 9 by decide), if_pos (show (10 : Nat) = 10 from rfl)] at hQ
  unfold bX9_readPlain_133 at hQ
  unfold eX9_readPlain_133 at hT
  exact sX9_readPlain_133 (M := (g_wm M f (g_ml M))) (d := d + (n + 1)) (Sm.q Sm.wm hQ) (Nat.zero_le _) (Nat.zero_le _)
set_option maxRecDepth 10000 in
theorem zX9_readSum_0 {X : gX} {N : Nat} {M : gM} {n : Nat} (ih : PgMP X N M n) : PX9_readSum_0 X N M (n + 1) := by
  intro d D mc ms Q f a0 x1 x2 hD s0 hT hQ
  subst hD
  rw [vgMP, if_neg (show ¬ (11 : Nat) = 0 by decide), if_neg (show ¬ (11 : Nat) = 1 by decide), if_neg (show ¬ (11 : Nat) = 2 by decide), if_neg (show ¬ (11 : Nat) = 3 by decide), if_neg (show ¬ (11 : Nat) = 4 by decide), if_neg (show ¬ (11 : Nat) = 5 by decide), if_neg (show ¬ (11 : Nat) = 6 by decide), if_neg (show ¬ (11 : Nat) = 7 by decide), if_neg (show ¬ (11 : Nat) = 8 by decide), if_neg (show ¬ (11 : Nat) = 9 by decide), if_neg (show ¬ (11 : Nat) = 10 by decide), if_pos (show (11 : Nat) = 11 from rfl)] at hT
  rw [wgMP, if_neg (show ¬ (11 : Nat) = 0 by decide), if_neg (show ¬ (11 : Nat) = 1 by decide), if_neg (show ¬ (11 : Nat) = 2 by decide), if_neg (show ¬ (11 : Nat) = 3 by decide), if_neg (show ¬ (11 : Nat) = 4 by decide), if_neg (show ¬ (11 : Nat) = 5 by decide), if_neg (show ¬ (11 : Nat) = 6 by decide), if_neg (show ¬ (11 : Nat) = 7 by decide), if_neg (show ¬ (11 : Nat) = 8 by decide), if_neg (show ¬ (11 : Nat) = 9 by decide), if_neg (show ¬ (11 : Nat) = 10 by decide), if_pos (show (11 : Nat) = 11 from rfl)] at hQ
  unfold bX9_readSum_0 at hQ
  unfold eX9_readSum_0 at hT
  exact sX9_readSum_0 (M := (g_wm M f (g_ml M))) (d := d + (n + 1)) (Mo.sm Sm.wm s0) (Sm.c Sm.wm (ih.2.2.2.2.2.2.2.2.2.2.2.2.2.2.1 d _ 0 0 _ _ _ _ _ (by omega) (s0) hT.1 (ih.2.2.2.2.2.2.2.2.2.2.2.2.1 (d + 1) _ _ _ _ _ _ _ _ (by omega) (s0) hT.2 hQ)))
set_option maxRecDepth 10000 in
theorem zX9_readSum_5 {X : gX} {N : Nat} {M : gM} {n : Nat} (ih : PgMP X N M n) : PX9_readSum_5 X N M (n + 1) := by
  intro d D mc ms Q f a0 x1 x2 hD s0 hT hQ
  subst hD
  rw [vgMP, if_neg (show ¬ (12 : Nat) = 0 by decide), if_neg (show ¬ (12 : Nat) = 1 by decide), if_neg (show ¬ (12 : Nat) = 2 by decide), if_neg (show ¬ (12 : Nat) = 3 by decide), if_neg (show ¬ (12 : Nat) = 4 by decide), if_neg (show ¬ (12 : Nat) = 5 by decide), if_neg (show ¬ (12 : Nat) = 6 by decide), if_neg (show ¬ (12 : Nat) = 7 by decide), if_neg (show ¬ (12 : Nat) = 8 by decide), if_neg (show ¬ (12 : Nat) = 9 by decide), if_neg (show ¬ (12 : Nat) = 10 by decide), if_neg (show ¬ (12 : Nat) = 11 by decide), if_pos (show (12 : Nat) = 12 from rfl)] at hT
  rw [wgMP, if_neg (show ¬ (12 : Nat) = 0 by decide), if_neg (show ¬ (12 : Nat) = 1 by decide), if_neg (show ¬ (12 : Nat) = 2 by decide), if_neg (show ¬ (12 : Nat) = 3 by decide), if_neg (show ¬ (12 : Nat) = 4 by decide), if_neg (show ¬ (12 : Nat) = 5 by decide), if_neg (show ¬ (12 : Nat) = 6 by decide), if_neg (show ¬ (12 : Nat) = 7 by decide), if_neg (show ¬ (12 : Nat) = 8 by decide), if_neg (show ¬ (12 : Nat) = 9 by decide), if_neg (show ¬ (12 : Nat) = 10 by decide), if_neg (show ¬ (12 : Nat) = 11 by decide), if_pos (show (12 : Nat) = 12 from rfl)] at hQ
  unfold bX9_readSum_5 at hQ
  unfold eX9_readSum_5 at hT
  obtain ⟨b3, b5, hT⟩ := hT
  exact sX9_readSum_5 (M := (g_wm M f (g_ml M))) (d := d + (n + 1)) (Mo.sm Sm.wm s0) (Nat.zero_le _) (Nat.zero_le _) b3 (fun c1 => by simp only [if_neg c1] at hQ hT; exact Sm.c (Sm.tr Sm.wm (Sm.tr Sm.rf jX9_takes0)) (ih.2.2.2.2.2.2.2.2.2.2.2.2.2.2.1 d _ 0 0 _ _ _ _ _ (by omega) (s0) hT.1 (ih.2.2.2.2.2.2.2.2.2.2.2.2.2.1 (d + 1) _ _ _ _ _ _ _ _ (by omega) (s0) hT.2 hQ))) b5 (fun c1 c2 => by simp only [if_pos c1, if_pos c2] at hQ; exact Sm.q (Sm.tr Sm.wm (Sm.tr (Sm.tr Sm.rf jX9_takes0) jX9_takes0)) hQ) (fun c1 c2 => by simp only [if_pos c1, if_neg c2] at hQ hT; exact Sm.c (Sm.tr Sm.wm (Sm.tr (Sm.tr Sm.rf jX9_takes0) jX9_takes0)) (ih.2.2.2.2.2.2.2.2.2.2.2.2.2.2.1 d _ 0 0 _ _ _ _ _ (by omega) (s0) hT.1 (ih.2.2.2.2.2.2.2.2.2.2.2.2.2.1 (d + 1) _ _ _ _ _ _ _ _ (by omega) (s0) hT.2 hQ)))
set_option maxRecDepth 10000 in
theorem zX9_readSum_34 {X : gX} {N : Nat} {M : gM} {n : Nat} (ih : PgMP X N M n) : PX9_readSum_34 X N M (n + 1) := by
  intro d D mc ms Q f a0 x1 x2 hD s0 hT hQ
  subst hD
  rw [vgMP, if_neg (show ¬ (13 : Nat) = 0 by decide), if_neg (show ¬ (13 : Nat) = 1 by decide), if_neg (show ¬ (13 : Nat) = 2 by decide), if_neg (show ¬ (13 : Nat) = 3 by decide), if_neg (show ¬ (13 : Nat) = 4 by decide), if_neg (show ¬ (13 : Nat) = 5 by decide), if_neg (show ¬ (13 : Nat) = 6 by decide), if_neg (show ¬ (13 : Nat) = 7 by decide), if_neg (show ¬ (13 : Nat) = 8 by decide), if_neg (show ¬ (13 : Nat) = 9 by decide), if_neg (show ¬ (13 : Nat) = 10 by decide), if_neg (show ¬ (13 : Nat) = 11 by decide), if_neg (show ¬ (13 : Nat) = 12 by decide), if_pos (show (13 : Nat) = 13 from rfl)] at hT
  rw [wgMP, if_neg (show ¬ (13 : Nat) = 0 by decide), if_neg (show ¬ (13 : Nat) = 1 by decide), if_neg (show ¬ (13 : Nat) = 2 by decide), if_neg (show ¬ (13 : Nat) = 3 by decide), if_neg (show ¬ (13 : Nat) = 4 by decide), if_neg (show ¬ (13 : Nat) = 5 by decide), if_neg (show ¬ (13 : Nat) = 6 by decide), if_neg (show ¬ (13 : Nat) = 7 by decide), if_neg (show ¬ (13 : Nat) = 8 by decide), if_neg (show ¬ (13 : Nat) = 9 by decide), if_neg (show ¬ (13 : Nat) = 10 by decide), if_neg (show ¬ (13 : Nat) = 11 by decide), if_neg (show ¬ (13 : Nat) = 12 by decide), if_pos (show (13 : Nat) = 13 from rfl)] at hQ
  unfold bX9_readSum_34 at hQ
  unfold eX9_readSum_34 at hT
  exact sX9_readSum_34 (M := (g_wm M f (g_ml M))) (d := d + (n + 1)) (Mo.sm Sm.wm s0) (Sm.g Sm.wm (ih.2.2.2.2.2.2.2.2.2.2.2.2.1 (d + 1) _ _ _ _ _ _ _ _ (by omega) (s0) hT hQ))
set_option maxRecDepth 10000 in
theorem zX9_readTerm_0 {X : gX} {N : Nat} {M : gM} {n : Nat} (ih : PgMP X N M n) : PX9_readTerm_0 X N M (n + 1) := by
  intro d D mc ms Q f a0 x1 x2 hD s0 hT hQ
  subst hD
  rw [vgMP, if_neg (show ¬ (14 : Nat) = 0 by decide), if_neg (show ¬ (14 : Nat) = 1 by decide), if_neg (show ¬ (14 : Nat) = 2 by decide), if_neg (show ¬ (14 : Nat) = 3 by decide), if_neg (show ¬ (14 : Nat) = 4 by decide), if_neg (show ¬ (14 : Nat) = 5 by decide), if_neg (show ¬ (14 : Nat) = 6 by decide), if_neg (show ¬ (14 : Nat) = 7 by decide), if_neg (show ¬ (14 : Nat) = 8 by decide), if_neg (show ¬ (14 : Nat) = 9 by decide), if_neg (show ¬ (14 : Nat) = 10 by decide), if_neg (show ¬ (14 : Nat) = 11 by decide), if_neg (show ¬ (14 : Nat) = 12 by decide), if_neg (show ¬ (14 : Nat) = 13 by decide), if_pos (show (14 : Nat) = 14 from rfl)] at hT
  rw [wgMP, if_neg (show ¬ (14 : Nat) = 0 by decide), if_neg (show ¬ (14 : Nat) = 1 by decide), if_neg (show ¬ (14 : Nat) = 2 by decide), if_neg (show ¬ (14 : Nat) = 3 by decide), if_neg (show ¬ (14 : Nat) = 4 by decide), if_neg (show ¬ (14 : Nat) = 5 by decide), if_neg (show ¬ (14 : Nat) = 6 by decide), if_neg (show ¬ (14 : Nat) = 7 by decide), if_neg (show ¬ (14 : Nat) = 8 by decide), if_neg (show ¬ (14 : Nat) = 9 by decide), if_neg (show ¬ (14 : Nat) = 10 by decide), if_neg (show ¬ (14 : Nat) = 11 by decide), if_neg (show ¬ (14 : Nat) = 12 by decide), if_neg (show ¬ (14 : Nat) = 13 by decide), if_pos (show (14 : Nat) = 14 from rfl)] at hQ
  unfold bX9_readTerm_0 at hQ
  unfold eX9_readTerm_0 at hT
  exact sX9_readTerm_0 (M := (g_wm M f (g_ml M))) (d := d + (n + 1)) (Mo.sm Sm.wm s0) (Sm.c Sm.wm (ih.2.2.2.2.2.2.2.2.2.2.2.2.2.2.2.2.2.1 d _ 0 0 _ _ _ _ _ (by omega) (s0) hT.1 (ih.2.2.2.2.2.2.2.2.2.2.2.2.2.2.2.1 (d + 1) _ _ _ _ _ _ _ _ (by omega) (s0) hT.2 hQ)))
set_option maxRecDepth 10000 in
theorem zX9_readTerm_5 {X : gX} {N : Nat} {M : gM} {n : Nat} (ih : PgMP X N M n) : PX9_readTerm_5 X N M (n + 1) := by
  intro d D mc ms Q f a0 x1 x2 hD s0 hT hQ
  subst hD
  rw [vgMP, if_neg (show ¬ (15 : Nat) = 0 by decide), if_neg (show ¬ (15 : Nat) = 1 by decide), if_neg (show ¬ (15 : Nat) = 2 by decide), if_neg (show ¬ (15 : Nat) = 3 by decide), if_neg (show ¬ (15 : Nat) = 4 by decide), if_neg (show ¬ (15 : Nat) = 5 by decide), if_neg (show ¬ (15 : Nat) = 6 by decide), if_neg (show ¬ (15 : Nat) = 7 by decide), if_neg (show ¬ (15 : Nat) = 8 by decide), if_neg (show ¬ (15 : Nat) = 9 by decide), if_neg (show ¬ (15 : Nat) = 10 by decide), if_neg (show ¬ (15 : Nat) = 11 by decide), if_neg (show ¬ (15 : Nat) = 12 by decide), if_neg (show ¬ (15 : Nat) = 13 by decide), if_neg (show ¬ (15 : Nat) = 14 by decide), if_pos (show (15 : Nat) = 15 from rfl)] at hT
  rw [wgMP, if_neg (show ¬ (15 : Nat) = 0 by decide), if_neg (show ¬ (15 : Nat) = 1 by decide), if_neg (show ¬ (15 : Nat) = 2 by decide), if_neg (show ¬ (15 : Nat) = 3 by decide), if_neg (show ¬ (15 : Nat) = 4 by decide), if_neg (show ¬ (15 : Nat) = 5 by decide), if_neg (show ¬ (15 : Nat) = 6 by decide), if_neg (show ¬ (15 : Nat) = 7 by decide), if_neg (show ¬ (15 : Nat) = 8 by decide), if_neg (show ¬ (15 : Nat) = 9 by decide), if_neg (show ¬ (15 : Nat) = 10 by decide), if_neg (show ¬ (15 : Nat) = 11 by decide), if_neg (show ¬ (15 : Nat) = 12 by decide), if_neg (show ¬ (15 : Nat) = 13 by decide), if_neg (show ¬ (15 : Nat) = 14 by decide), if_pos (show (15 : Nat) = 15 from rfl)] at hQ
  unfold bX9_readTerm_5 at hQ
  unfold eX9_readTerm_5 at hT
  obtain ⟨b3, b5, b7, hT⟩ := hT
  exact sX9_readTerm_5 (M := (g_wm M f (g_ml M))) (d := d + (n + 1)) (Mo.sm Sm.wm s0) (Nat.zero_le _) (Nat.zero_le _) b3 (fun c1 => by simp only [if_neg c1] at hQ hT; exact Sm.c (Sm.tr Sm.wm (Sm.tr Sm.rf jX9_takes0)) (ih.2.2.2.2.2.2.2.2.2.2.2.2.2.2.2.2.2.1 d _ 0 0 _ _ _ _ _ (by omega) (s0) hT.1 (ih.2.2.2.2.2.2.2.2.2.2.2.2.2.2.2.2.1 (d + 1) _ _ _ _ _ _ _ _ (by omega) (s0) hT.2 hQ))) b5 (fun c1 c2 => by simp only [if_pos c1, if_neg c2] at hQ hT; exact Sm.c (Sm.tr Sm.wm (Sm.tr (Sm.tr Sm.rf jX9_takes0) jX9_takes0)) (ih.2.2.2.2.2.2.2.2.2.2.2.2.2.2.2.2.2.1 d _ 0 0 _ _ _ _ _ (by omega) (s0) hT.1 (ih.2.2.2.2.2.2.2.2.2.2.2.2.2.2.2.2.1 (d + 1) _ _ _ _ _ _ _ _ (by omega) (s0) hT.2 hQ))) b7 (fun c1 c2 c3 => by simp only [if_pos c1, if_pos c2, if_pos c3] at hQ; exact Sm.q (Sm.tr Sm.wm (Sm.tr (Sm.tr (Sm.tr Sm.rf jX9_takes0) jX9_takes0) jX9_takes0)) hQ) (fun c1 c2 c3 => by simp only [if_pos c1, if_pos c2, if_neg c3] at hQ hT; exact Sm.c (Sm.tr Sm.wm (Sm.tr (Sm.tr (Sm.tr Sm.rf jX9_takes0) jX9_takes0) jX9_takes0)) (ih.2.2.2.2.2.2.2.2.2.2.2.2.2.2.2.2.2.1 d _ 0 0 _ _ _ _ _ (by omega) (s0) hT.1 (ih.2.2.2.2.2.2.2.2.2.2.2.2.2.2.2.2.1 (d + 1) _ _ _ _ _ _ _ _ (by omega) (s0) hT.2 hQ)))
set_option maxRecDepth 10000 in
theorem zX9_readTerm_46 {X : gX} {N : Nat} {M : gM} {n : Nat} (ih : PgMP X N M n) : PX9_readTerm_46 X N M (n + 1) := by
  intro d D mc ms Q f a0 x1 x2 hD s0 hT hQ
  subst hD
  rw [vgMP, if_neg (show ¬ (16 : Nat) = 0 by decide), if_neg (show ¬ (16 : Nat) = 1 by decide), if_neg (show ¬ (16 : Nat) = 2 by decide), if_neg (show ¬ (16 : Nat) = 3 by decide), if_neg (show ¬ (16 : Nat) = 4 by decide), if_neg (show ¬ (16 : Nat) = 5 by decide), if_neg (show ¬ (16 : Nat) = 6 by decide), if_neg (show ¬ (16 : Nat) = 7 by decide), if_neg (show ¬ (16 : Nat) = 8 by decide), if_neg (show ¬ (16 : Nat) = 9 by decide), if_neg (show ¬ (16 : Nat) = 10 by decide), if_neg (show ¬ (16 : Nat) = 11 by decide), if_neg (show ¬ (16 : Nat) = 12 by decide), if_neg (show ¬ (16 : Nat) = 13 by decide), if_neg (show ¬ (16 : Nat) = 14 by decide), if_neg (show ¬ (16 : Nat) = 15 by decide), if_pos (show (16 : Nat) = 16 from rfl)] at hT
  rw [wgMP, if_neg (show ¬ (16 : Nat) = 0 by decide), if_neg (show ¬ (16 : Nat) = 1 by decide), if_neg (show ¬ (16 : Nat) = 2 by decide), if_neg (show ¬ (16 : Nat) = 3 by decide), if_neg (show ¬ (16 : Nat) = 4 by decide), if_neg (show ¬ (16 : Nat) = 5 by decide), if_neg (show ¬ (16 : Nat) = 6 by decide), if_neg (show ¬ (16 : Nat) = 7 by decide), if_neg (show ¬ (16 : Nat) = 8 by decide), if_neg (show ¬ (16 : Nat) = 9 by decide), if_neg (show ¬ (16 : Nat) = 10 by decide), if_neg (show ¬ (16 : Nat) = 11 by decide), if_neg (show ¬ (16 : Nat) = 12 by decide), if_neg (show ¬ (16 : Nat) = 13 by decide), if_neg (show ¬ (16 : Nat) = 14 by decide), if_neg (show ¬ (16 : Nat) = 15 by decide), if_pos (show (16 : Nat) = 16 from rfl)] at hQ
  unfold bX9_readTerm_46 at hQ
  unfold eX9_readTerm_46 at hT
  exact sX9_readTerm_46 (M := (g_wm M f (g_ml M))) (d := d + (n + 1)) (Mo.sm Sm.wm s0) (Sm.g Sm.wm (ih.2.2.2.2.2.2.2.2.2.2.2.2.2.2.2.1 (d + 1) _ _ _ _ _ _ _ _ (by omega) (s0) hT hQ))
set_option maxRecDepth 10000 in
theorem zX9_readPart_0 {X : gX} {N : Nat} {M : gM} {n : Nat} (ih : PgMP X N M n) : PX9_readPart_0 X N M (n + 1) := by
  intro d D mc ms Q f a0 x1 x2 hD s0 hT hQ
  subst hD
  rw [vgMP, if_neg (show ¬ (17 : Nat) = 0 by decide), if_neg (show ¬ (17 : Nat) = 1 by decide), if_neg (show ¬ (17 : Nat) = 2 by decide), if_neg (show ¬ (17 : Nat) = 3 by decide), if_neg (show ¬ (17 : Nat) = 4 by decide), if_neg (show ¬ (17 : Nat) = 5 by decide), if_neg (show ¬ (17 : Nat) = 6 by decide), if_neg (show ¬ (17 : Nat) = 7 by decide), if_neg (show ¬ (17 : Nat) = 8 by decide), if_neg (show ¬ (17 : Nat) = 9 by decide), if_neg (show ¬ (17 : Nat) = 10 by decide), if_neg (show ¬ (17 : Nat) = 11 by decide), if_neg (show ¬ (17 : Nat) = 12 by decide), if_neg (show ¬ (17 : Nat) = 13 by decide), if_neg (show ¬ (17 : Nat) = 14 by decide), if_neg (show ¬ (17 : Nat) = 15 by decide), if_neg (show ¬ (17 : Nat) = 16 by decide), if_pos (show (17 : Nat) = 17 from rfl)] at hT
  rw [wgMP, if_neg (show ¬ (17 : Nat) = 0 by decide), if_neg (show ¬ (17 : Nat) = 1 by decide), if_neg (show ¬ (17 : Nat) = 2 by decide), if_neg (show ¬ (17 : Nat) = 3 by decide), if_neg (show ¬ (17 : Nat) = 4 by decide), if_neg (show ¬ (17 : Nat) = 5 by decide), if_neg (show ¬ (17 : Nat) = 6 by decide), if_neg (show ¬ (17 : Nat) = 7 by decide), if_neg (show ¬ (17 : Nat) = 8 by decide), if_neg (show ¬ (17 : Nat) = 9 by decide), if_neg (show ¬ (17 : Nat) = 10 by decide), if_neg (show ¬ (17 : Nat) = 11 by decide), if_neg (show ¬ (17 : Nat) = 12 by decide), if_neg (show ¬ (17 : Nat) = 13 by decide), if_neg (show ¬ (17 : Nat) = 14 by decide), if_neg (show ¬ (17 : Nat) = 15 by decide), if_neg (show ¬ (17 : Nat) = 16 by decide), if_pos (show (17 : Nat) = 17 from rfl)] at hQ
  unfold bX9_readPart_0 at hQ
  unfold eX9_readPart_0 at hT
  obtain ⟨b1, b2, b4, b6, b9, b11, b14, b15, b18, b20, b22, b26, hT⟩ := hT
  exact sX9_readPart_0 (M := (g_wm M f (g_ml M))) (d := d + (n + 1)) (Mo.sm Sm.wm s0) b1 b2 (fun c1 c2 c3 c4 => by simp only [if_neg c1, if_neg c2, if_neg c3, if_pos c4] at hQ; exact Sm.q (Sm.tr Sm.wm (Sm.tr Sm.rf jX9_faults)) hQ) b4 (fun c1 c2 c3 c4 c5 => by simp only [if_neg c1, if_neg c2, if_neg c3, if_neg c4, if_pos c5] at hQ; exact Sm.q (Sm.tr Sm.wm (Sm.tr Sm.rf jX9_faults)) hQ) b6 (fun c1 c2 c3 c4 c5 c6 => by simp only [if_neg c1, if_neg c2, if_neg c3, if_neg c4, if_neg c5, if_pos c6] at hQ; exact Sm.q (Sm.tr Sm.wm (Sm.tr Sm.rf jX9_leaf)) hQ) (fun c1 c2 c3 c4 c5 c6 c7 c8 => by simp only [if_neg c1, if_neg c2, if_neg c3, if_neg c4, if_neg c5, if_neg c6, if_neg c7, if_neg c8] at hQ; exact Sm.q (Sm.tr Sm.wm (Sm.tr Sm.rf jX9_leaf)) hQ) b9 (fun c1 c2 c3 c4 c5 c6 c7 c8 => by simp only [if_neg c1, if_neg c2, if_neg c3, if_neg c4, if_neg c5, if_neg c6, if_neg c7, if_pos c8] at hQ; exact Sm.q (Sm.tr Sm.wm (Sm.tr (Sm.tr Sm.rf jX9_leaf) jX9_mustNumber)) hQ) b11 (fun c1 c2 c3 c4 c5 c6 c7 c9 => by simp only [if_neg c1, if_neg c2, if_neg c3, if_neg c4, if_neg c5, if_neg c6, if_pos c7, if_pos c9] at hQ; exact Sm.q (Sm.tr Sm.wm (Sm.tr (Sm.tr Sm.rf jX9_leaf) jX9_mustNumber)) hQ) (fun c1 c2 c3 c4 c5 c6 c7 c9 => by simp only [if_neg c1, if_neg c2, if_neg c3, if_neg c4, if_neg c5, if_neg c6, if_pos c7, if_neg c9] at hQ; exact Sm.q (Sm.tr Sm.wm (Sm.tr (Sm.tr Sm.rf jX9_leaf) jX9_mustNumber)) hQ) b14 b15 (fun c1 c2 c3 c10 c11 => by simp only [if_neg c1, if_neg c2, if_pos c3, if_pos c10, if_pos c11] at hQ; exact Sm.q (Sm.tr Sm.wm (Sm.tr Sm.rf jX9_leaf)) hQ) (fun c1 c2 c3 c10 c11 => by simp only [if_neg c1, if_neg c2, if_pos c3, if_pos c10, if_neg c11] at hQ; exact Sm.q (Sm.tr Sm.wm (Sm.tr Sm.rf jX9_leaf)) hQ) b18 (fun c1 c2 c3 c10 c12 => by simp only [if_neg c1, if_neg c2, if_pos c3, if_neg c10, if_pos c12] at hQ; exact Sm.q (Sm.tr Sm.wm (Sm.tr Sm.rf jX9_faults)) hQ) b20 (fun c1 c2 c3 c10 c12 c13 => by simp only [if_neg c1, if_neg c2, if_pos c3, if_neg c10, if_neg c12, if_pos c13] at hQ; exact Sm.q (Sm.tr Sm.wm (Sm.tr Sm.rf jX9_faults)) hQ) b22 (fun c1 c2 c3 c10 c12 c13 c14 => by simp only [if_neg c1, if_neg c2, if_pos c3, if_neg c10, if_neg c12, if_neg c13, if_pos c14] at hQ; exact Sm.q (Sm.tr Sm.wm (Sm.tr Sm.rf jX9_leaf)) hQ) (fun c1 c2 c3 c10 c12 c13 c14 => by simp only [if_neg c1, if_neg c2, if_pos c3, if_neg c10, if_neg c12, if_neg c13, if_neg c14] at hQ; exact Sm.q (Sm.tr Sm.wm (Sm.tr Sm.rf jX9_leaf)) hQ) (fun c1 c2 c15 => by simp only [if_neg c1, if_pos c2, if_neg c15] at hQ hT; exact Sm.c (Sm.tr Sm.wm (Sm.wi Sm.rf)) (ih.2.2.2.2.2.2.2.2.2.2.2.1 d _ 0 0 _ _ _ _ _ (by omega) (s0) hT.1 (ih.2.2.2.2.2.2.2.2.2.2.2.2.2.2.2.2.2.2 (d + 1) _ _ _ _ _ _ _ _ (by omega) (s0) hT.2 hQ))) b26 (fun c1 c2 c15 c16 => by simp only [if_neg c1, if_pos c2, if_pos c15, if_neg c16] at hQ hT; exact Sm.c (Sm.tr Sm.wm (Sm.wi (Sm.tr Sm.rf jX9_faults))) (ih.2.2.2.2.2.2.2.2.2.2.2.1 d _ 0 0 _ _ _ _ _ (by omega) (s0) hT.1 (ih.2.2.2.2.2.2.2.2.2.2.2.2.2.2.2.2.2.2 (d + 1) _ _ _ _ _ _ _ _ (by omega) (s0) hT.2 hQ))) (fun c1 c2 c15 c16 => by simp only [if_neg c1, if_pos c2, if_pos c15, if_pos c16] at hQ; exact Sm.q (Sm.tr Sm.wm (Sm.tr Sm.rf jX9_faults)) hQ) (fun c1 => by simp only [if_pos c1] at hQ; exact Sm.q Sm.wm hQ)
set_option maxRecDepth 10000 in
theorem zX9_readPart_62 {X : gX} {N : Nat} {M : gM} {n : Nat} (ih : PgMP X N M n) : PX9_readPart_62 X N M (n + 1) := by
  intro d D mc ms Q f a0 x1 x2 hD s0 hT hQ
  subst hD
  rw [vgMP, if_neg (show ¬ (18 : Nat) = 0 by decide), if_neg (show ¬ (18 : Nat) = 1 by decide), if_neg (show ¬ (18 : Nat) = 2 by decide), if_neg (show ¬ (18 : Nat) = 3 by decide), if_neg (show ¬ (18 : Nat) = 4 by decide), if_neg (show ¬ (18 : Nat) = 5 by decide), if_neg (show ¬ (18 : Nat) = 6 by decide), if_neg (show ¬ (18 : Nat) = 7 by decide), if_neg (show ¬ (18 : Nat) = 8 by decide), if_neg (show ¬ (18 : Nat) = 9 by decide), if_neg (show ¬ (18 : Nat) = 10 by decide), if_neg (show ¬ (18 : Nat) = 11 by decide), if_neg (show ¬ (18 : Nat) = 12 by decide), if_neg (show ¬ (18 : Nat) = 13 by decide), if_neg (show ¬ (18 : Nat) = 14 by decide), if_neg (show ¬ (18 : Nat) = 15 by decide), if_neg (show ¬ (18 : Nat) = 16 by decide), if_neg (show ¬ (18 : Nat) = 17 by decide)] at hT
  rw [wgMP, if_neg (show ¬ (18 : Nat) = 0 by decide), if_neg (show ¬ (18 : Nat) = 1 by decide), if_neg (show ¬ (18 : Nat) = 2 by decide), if_neg (show ¬ (18 : Nat) = 3 by decide), if_neg (show ¬ (18 : Nat) = 4 by decide), if_neg (show ¬ (18 : Nat) = 5 by decide), if_neg (show ¬ (18 : Nat) = 6 by decide), if_neg (show ¬ (18 : Nat) = 7 by decide), if_neg (show ¬ (18 : Nat) = 8 by decide), if_neg (show ¬ (18 : Nat) = 9 by decide), if_neg (show ¬ (18 : Nat) = 10 by decide), if_neg (show ¬ (18 : Nat) = 11 by decide), if_neg (show ¬ (18 : Nat) = 12 by decide), if_neg (show ¬ (18 : Nat) = 13 by decide), if_neg (show ¬ (18 : Nat) = 14 by decide), if_neg (show ¬ (18 : Nat) = 15 by decide), if_neg (show ¬ (18 : Nat) = 16 by decide), if_neg (show ¬ (18 : Nat) = 17 by decide)] at hQ
  unfold bX9_readPart_62 at hQ
  unfold eX9_readPart_62 at hT
  obtain ⟨b3, hT⟩ := hT
  exact sX9_readPart_62 (M := (g_wm M f (g_ml M))) (d := d + (n + 1)) (Mo.sm Sm.wm s0) (Nat.zero_le _) (Nat.zero_le _) b3 (Sm.q (Sm.tr Sm.wm (Sm.tr Sm.rf jX9_must)) hQ)
theorem lpgMP {X : gX} (N : Nat) (M : gM) : ∀ n : Nat, PgMP X N M n := by
  intro n
  induction n with
  | zero => exact ⟨fun _ _ _ _ _ _ _ _ _ _ _ h _ => h.elim, fun _ _ _ _ _ _ _ _ _ _ _ h _ => h.elim, fun _ _ _ _ _ _ _ _ _ _ _ h _ => h.elim, fun _ _ _ _ _ _ _ _ _ _ _ h _ => h.elim, fun _ _ _ _ _ _ _ _ _ _ _ h _ => h.elim, fun _ _ _ _ _ _ _ _ _ _ _ h _ => h.elim, fun _ _ _ _ _ _ _ _ _ _ _ h _ => h.elim, fun _ _ _ _ _ _ _ _ _ _ _ h _ => h.elim, fun _ _ _ _ _ _ _ _ _ _ _ h _ => h.elim, fun _ _ _ _ _ _ _ _ _ _ _ h _ => h.elim, fun _ _ _ _ _ _ _ _ _ _ h _ => h.elim, fun _ _ _ _ _ _ _ _ _ _ _ h _ => h.elim, fun _ _ _ _ _ _ _ _ _ _ _ h _ => h.elim, fun _ _ _ _ _ _ _ _ _ _ _ h _ => h.elim, fun _ _ _ _ _ _ _ _ _ _ _ h _ => h.elim, fun _ _ _ _ _ _ _ _ _ _ _ h _ => h.elim, fun _ _ _ _ _ _ _ _ _ _ _ h _ => h.elim, fun _ _ _ _ _ _ _ _ _ _ _ h _ => h.elim, fun _ _ _ _ _ _ _ _ _ _ _ h _ => h.elim⟩
  | succ n ih => exact ⟨zX9_readTest_0 ih, zX9_readTest_5 ih, zX9_readTest_18 ih, zX9_readBoth_0 ih, zX9_readBoth_5 ih, zX9_readBoth_18 ih, zX9_readPlain_0 ih, zX9_readPlain_2 ih, zX9_readPlain_78 ih, zX9_readPlain_95 ih, zX9_readPlain_133 ih, zX9_readSum_0 ih, zX9_readSum_5 ih, zX9_readSum_34 ih, zX9_readTerm_0 ih, zX9_readTerm_5 ih, zX9_readTerm_46 ih, zX9_readPart_0 ih, zX9_readPart_62 ih⟩
def mX9_readTest (N K : Nat) (M : gM) (a0 : Nat) (x1 : Int32) : gM := g_wm M (wgMP N M K 0 (g_mi M) a0 x1 0).2.2 (g_ml M)
theorem jX9_readTest {N K : Nat} {M : gM} {a0 : Nat} {x1 : Int32} : Sm M (mX9_readTest N K M a0 x1) := Sm.wm
def EX9_readTest (N K : Nat) (M : gM) (a0 : Nat) (x1 : Int32) : Prop := vgMP N M K 0 (g_mi M) a0 x1 0
theorem tX9_readTest {N K : Nat} {X : gX} {d mc ms : Nat} {Q : Option Value → gM → Prop} {M : gM} {a0 : Nat} {x1 : Int32} (s0 : Mo M a0) (hE : EX9_readTest N K M a0 x1) (hQ : Q none (mX9_readTest N K M a0 x1)) : Cn X (d + K + 4) mc ms kX9_readTest [.ref a0, .int (x1)] M Q := by
  have ih := lpgMP (X := X) N M K
  exact ih.1 d _ mc ms Q (g_mi M) a0 x1 0 rfl s0 hE hQ
def mX9_readBoth (N K : Nat) (M : gM) (a0 : Nat) (x1 : Int32) : gM := g_wm M (wgMP N M K 3 (g_mi M) a0 x1 0).2.2 (g_ml M)
theorem jX9_readBoth {N K : Nat} {M : gM} {a0 : Nat} {x1 : Int32} : Sm M (mX9_readBoth N K M a0 x1) := Sm.wm
def EX9_readBoth (N K : Nat) (M : gM) (a0 : Nat) (x1 : Int32) : Prop := vgMP N M K 3 (g_mi M) a0 x1 0
theorem tX9_readBoth {N K : Nat} {X : gX} {d mc ms : Nat} {Q : Option Value → gM → Prop} {M : gM} {a0 : Nat} {x1 : Int32} (s0 : Mo M a0) (hE : EX9_readBoth N K M a0 x1) (hQ : Q none (mX9_readBoth N K M a0 x1)) : Cn X (d + K + 4) mc ms kX9_readBoth [.ref a0, .int (x1)] M Q := by
  have ih := lpgMP (X := X) N M K
  exact ih.2.2.2.1 d _ mc ms Q (g_mi M) a0 x1 0 rfl s0 hE hQ
def mX9_readPlain (N K : Nat) (M : gM) (a0 : Nat) (x1 : Int32) : gM := g_wm M (wgMP N M K 6 (g_mi M) a0 x1 0).2.2 (g_ml M)
theorem jX9_readPlain {N K : Nat} {M : gM} {a0 : Nat} {x1 : Int32} : Sm M (mX9_readPlain N K M a0 x1) := Sm.wm
def EX9_readPlain (N K : Nat) (M : gM) (a0 : Nat) (x1 : Int32) : Prop := vgMP N M K 6 (g_mi M) a0 x1 0
theorem tX9_readPlain {N K : Nat} {X : gX} {d mc ms : Nat} {Q : Option Value → gM → Prop} {M : gM} {a0 : Nat} {x1 : Int32} (s0 : Mo M a0) (hE : EX9_readPlain N K M a0 x1) (hQ : Q none (mX9_readPlain N K M a0 x1)) : Cn X (d + K + 4) mc ms kX9_readPlain [.ref a0, .int (x1)] M Q := by
  have ih := lpgMP (X := X) N M K
  exact ih.2.2.2.2.2.2.1 d _ mc ms Q (g_mi M) a0 x1 0 rfl s0 hE hQ
def mX9_readSum (N K : Nat) (M : gM) (a0 : Nat) (x1 : Int32) : gM := g_wm M (wgMP N M K 11 (g_mi M) a0 x1 0).2.2 (g_ml M)
theorem jX9_readSum {N K : Nat} {M : gM} {a0 : Nat} {x1 : Int32} : Sm M (mX9_readSum N K M a0 x1) := Sm.wm
def EX9_readSum (N K : Nat) (M : gM) (a0 : Nat) (x1 : Int32) : Prop := vgMP N M K 11 (g_mi M) a0 x1 0
theorem tX9_readSum {N K : Nat} {X : gX} {d mc ms : Nat} {Q : Option Value → gM → Prop} {M : gM} {a0 : Nat} {x1 : Int32} (s0 : Mo M a0) (hE : EX9_readSum N K M a0 x1) (hQ : Q none (mX9_readSum N K M a0 x1)) : Cn X (d + K + 4) mc ms kX9_readSum [.ref a0, .int (x1)] M Q := by
  have ih := lpgMP (X := X) N M K
  exact ih.2.2.2.2.2.2.2.2.2.2.2.1 d _ mc ms Q (g_mi M) a0 x1 0 rfl s0 hE hQ
def mX9_readTerm (N K : Nat) (M : gM) (a0 : Nat) (x1 : Int32) : gM := g_wm M (wgMP N M K 14 (g_mi M) a0 x1 0).2.2 (g_ml M)
theorem jX9_readTerm {N K : Nat} {M : gM} {a0 : Nat} {x1 : Int32} : Sm M (mX9_readTerm N K M a0 x1) := Sm.wm
def EX9_readTerm (N K : Nat) (M : gM) (a0 : Nat) (x1 : Int32) : Prop := vgMP N M K 14 (g_mi M) a0 x1 0
theorem tX9_readTerm {N K : Nat} {X : gX} {d mc ms : Nat} {Q : Option Value → gM → Prop} {M : gM} {a0 : Nat} {x1 : Int32} (s0 : Mo M a0) (hE : EX9_readTerm N K M a0 x1) (hQ : Q none (mX9_readTerm N K M a0 x1)) : Cn X (d + K + 4) mc ms kX9_readTerm [.ref a0, .int (x1)] M Q := by
  have ih := lpgMP (X := X) N M K
  exact ih.2.2.2.2.2.2.2.2.2.2.2.2.2.2.1 d _ mc ms Q (g_mi M) a0 x1 0 rfl s0 hE hQ
def mX9_readPart (N K : Nat) (M : gM) (a0 : Nat) (x1 : Int32) : gM := g_wm M (wgMP N M K 17 (g_mi M) a0 x1 0).2.2 (g_ml M)
theorem jX9_readPart {N K : Nat} {M : gM} {a0 : Nat} {x1 : Int32} : Sm M (mX9_readPart N K M a0 x1) := Sm.wm
def EX9_readPart (N K : Nat) (M : gM) (a0 : Nat) (x1 : Int32) : Prop := vgMP N M K 17 (g_mi M) a0 x1 0
theorem tX9_readPart {N K : Nat} {X : gX} {d mc ms : Nat} {Q : Option Value → gM → Prop} {M : gM} {a0 : Nat} {x1 : Int32} (s0 : Mo M a0) (hE : EX9_readPart N K M a0 x1) (hQ : Q none (mX9_readPart N K M a0 x1)) : Cn X (d + K + 4) mc ms kX9_readPart [.ref a0, .int (x1)] M Q := by
  have ih := lpgMP (X := X) N M K
  exact ih.2.2.2.2.2.2.2.2.2.2.2.2.2.2.2.2.2.1 d _ mc ms Q (g_mi M) a0 x1 0 rfl s0 hE hQ
