/-! X2_readClause  -/
set_option maxRecDepth 4000 in
theorem sX2_readClause_0 {N : Nat} {K : Nat} {X : gX} {d mc ms : Nat} {Q : Option Value → gM → Prop} {M : gM} {a0 : Nat} {x1 : Int32} (s0 : Re M a0) (b1 : ((g_mi M a0 12) = 0) → EX2_lawKind M a0) (b2 : ((g_mi M a0 12) = 0) → (¬ (fX2_lawKind M a0) = (-1)) → EX2_pass M a0) (b3 : ((g_mi M a0 12) = 0) → (¬ (fX2_lawKind M a0) = (-1)) → vp_in (x1) 12) (h4 : ((g_mi M a0 12) = 0) → (¬ (fX2_lawKind M a0) = (-1)) → ((fX2_lawKind M a0) = 4) → Go X (d + K + 4) mc ms kX2_readClause Q 80 [(0, .ref a0), (1, .int (x1))] [] (g_wi (g_wi (g_wi (mX2_pass M a0) ((a0 + 2) + 1) (x1).toNatClampNeg (fX2_lawKind M a0)) ((a0 + 2) + 2) (x1).toNatClampNeg 1) ((a0 + 2) + 3) (x1).toNatClampNeg (g_mi (g_wi (g_wi (mX2_pass M a0) ((a0 + 2) + 1) (x1).toNatClampNeg (fX2_lawKind M a0)) ((a0 + 2) + 2) (x1).toNatClampNeg 1) (a0 + 2) 7)) 0 0) (b5 : ((g_mi M a0 12) = 0) → (¬ (fX2_lawKind M a0) = (-1)) → (¬ (fX2_lawKind M a0) = 4) → (¬ (fX2_lawKind M a0) = 6) → EX2_readSum N K (g_wi (g_wi (g_wi (mX2_pass M a0) ((a0 + 2) + 1) (x1).toNatClampNeg (fX2_lawKind M a0)) ((a0 + 2) + 2) (x1).toNatClampNeg 1) ((a0 + 2) + 3) (x1).toNatClampNeg (g_mi (g_wi (g_wi (mX2_pass M a0) ((a0 + 2) + 1) (x1).toNatClampNeg (fX2_lawKind M a0)) ((a0 + 2) + 2) (x1).toNatClampNeg 1) (a0 + 2) 7)) a0 0) (h6 : ((g_mi M a0 12) = 0) → (¬ (fX2_lawKind M a0) = (-1)) → (¬ (fX2_lawKind M a0) = 4) → (¬ (fX2_lawKind M a0) = 6) → (¬ (fX2_readSum N K (g_wi (g_wi (g_wi (mX2_pass M a0) ((a0 + 2) + 1) (x1).toNatClampNeg (fX2_lawKind M a0)) ((a0 + 2) + 2) (x1).toNatClampNeg 1) ((a0 + 2) + 3) (x1).toNatClampNeg (g_mi (g_wi (g_wi (mX2_pass M a0) ((a0 + 2) + 1) (x1).toNatClampNeg (fX2_lawKind M a0)) ((a0 + 2) + 2) (x1).toNatClampNeg 1) (a0 + 2) 7)) a0 0) = 0) → Go X (d + K + 4) mc ms kX2_readClause Q 103 [(0, .ref a0), (1, .int (x1))] [] (mX2_readSum N K (g_wi (g_wi (g_wi (mX2_pass M a0) ((a0 + 2) + 1) (x1).toNatClampNeg (fX2_lawKind M a0)) ((a0 + 2) + 2) (x1).toNatClampNeg 1) ((a0 + 2) + 3) (x1).toNatClampNeg (g_mi (g_wi (g_wi (mX2_pass M a0) ((a0 + 2) + 1) (x1).toNatClampNeg (fX2_lawKind M a0)) ((a0 + 2) + 2) (x1).toNatClampNeg 1) (a0 + 2) 7)) a0 0) 0 0) (h7 : ((g_mi M a0 12) = 0) → (¬ (fX2_lawKind M a0) = (-1)) → (¬ (fX2_lawKind M a0) = 4) → (¬ (fX2_lawKind M a0) = 6) → ((fX2_readSum N K (g_wi (g_wi (g_wi (mX2_pass M a0) ((a0 + 2) + 1) (x1).toNatClampNeg (fX2_lawKind M a0)) ((a0 + 2) + 2) (x1).toNatClampNeg 1) ((a0 + 2) + 3) (x1).toNatClampNeg (g_mi (g_wi (g_wi (mX2_pass M a0) ((a0 + 2) + 1) (x1).toNatClampNeg (fX2_lawKind M a0)) ((a0 + 2) + 2) (x1).toNatClampNeg 1) (a0 + 2) 7)) a0 0) = 0) → Q (some (.int (0))) (mX2_readSum N K (g_wi (g_wi (g_wi (mX2_pass M a0) ((a0 + 2) + 1) (x1).toNatClampNeg (fX2_lawKind M a0)) ((a0 + 2) + 2) (x1).toNatClampNeg 1) ((a0 + 2) + 3) (x1).toNatClampNeg (g_mi (g_wi (g_wi (mX2_pass M a0) ((a0 + 2) + 1) (x1).toNatClampNeg (fX2_lawKind M a0)) ((a0 + 2) + 2) (x1).toNatClampNeg 1) (a0 + 2) 7)) a0 0)) (h8 : ((g_mi M a0 12) = 0) → (¬ (fX2_lawKind M a0) = (-1)) → (¬ (fX2_lawKind M a0) = 4) → ((fX2_lawKind M a0) = 6) → Go X (d + K + 4) mc ms kX2_readClause Q 80 [(0, .ref a0), (1, .int (x1))] [] (g_wi (g_wi (g_wi (mX2_pass M a0) ((a0 + 2) + 1) (x1).toNatClampNeg (fX2_lawKind M a0)) ((a0 + 2) + 2) (x1).toNatClampNeg 1) ((a0 + 2) + 3) (x1).toNatClampNeg (g_mi (g_wi (g_wi (mX2_pass M a0) ((a0 + 2) + 1) (x1).toNatClampNeg (fX2_lawKind M a0)) ((a0 + 2) + 2) (x1).toNatClampNeg 1) (a0 + 2) 7)) 0 0) (b9 : ((g_mi M a0 12) = 0) → ((fX2_lawKind M a0) = (-1)) → EX2_fail M a0) (h10 : ((g_mi M a0 12) = 0) → ((fX2_lawKind M a0) = (-1)) → Q (some (.int ((fX2_fail a0)))) (mX2_fail M a0)) (b11 : ((g_mi M a0 12) = 0) → ((fX2_lawKind M a0) = (-1)) → (fX2_fail a0) = 0 ∨ (fX2_fail a0) = 1) (b12 : (¬ (g_mi M a0 12) = 0) → EX2_orderKind M a0) (b13 : (¬ (g_mi M a0 12) = 0) → (¬ (fX2_orderKind M a0) = (-1)) → EX2_pass M a0) (b14 : (¬ (g_mi M a0 12) = 0) → (¬ (fX2_orderKind M a0) = (-1)) → vp_in (x1) 12) (h15 : (¬ (g_mi M a0 12) = 0) → (¬ (fX2_orderKind M a0) = (-1)) → ((fX2_orderKind M a0) = 4) → Go X (d + K + 4) mc ms kX2_readClause Q 80 [(0, .ref a0), (1, .int (x1))] [] (g_wi (g_wi (g_wi (mX2_pass M a0) ((a0 + 2) + 1) (x1).toNatClampNeg (fX2_orderKind M a0)) ((a0 + 2) + 2) (x1).toNatClampNeg 1) ((a0 + 2) + 3) (x1).toNatClampNeg (g_mi (g_wi (g_wi (mX2_pass M a0) ((a0 + 2) + 1) (x1).toNatClampNeg (fX2_orderKind M a0)) ((a0 + 2) + 2) (x1).toNatClampNeg 1) (a0 + 2) 7)) 0 0) (b16 : (¬ (g_mi M a0 12) = 0) → (¬ (fX2_orderKind M a0) = (-1)) → (¬ (fX2_orderKind M a0) = 4) → (¬ (fX2_orderKind M a0) = 6) → EX2_readSum N K (g_wi (g_wi (g_wi (mX2_pass M a0) ((a0 + 2) + 1) (x1).toNatClampNeg (fX2_orderKind M a0)) ((a0 + 2) + 2) (x1).toNatClampNeg 1) ((a0 + 2) + 3) (x1).toNatClampNeg (g_mi (g_wi (g_wi (mX2_pass M a0) ((a0 + 2) + 1) (x1).toNatClampNeg (fX2_orderKind M a0)) ((a0 + 2) + 2) (x1).toNatClampNeg 1) (a0 + 2) 7)) a0 0) (h17 : (¬ (g_mi M a0 12) = 0) → (¬ (fX2_orderKind M a0) = (-1)) → (¬ (fX2_orderKind M a0) = 4) → (¬ (fX2_orderKind M a0) = 6) → (¬ (fX2_readSum N K (g_wi (g_wi (g_wi (mX2_pass M a0) ((a0 + 2) + 1) (x1).toNatClampNeg (fX2_orderKind M a0)) ((a0 + 2) + 2) (x1).toNatClampNeg 1) ((a0 + 2) + 3) (x1).toNatClampNeg (g_mi (g_wi (g_wi (mX2_pass M a0) ((a0 + 2) + 1) (x1).toNatClampNeg (fX2_orderKind M a0)) ((a0 + 2) + 2) (x1).toNatClampNeg 1) (a0 + 2) 7)) a0 0) = 0) → Go X (d + K + 4) mc ms kX2_readClause Q 103 [(0, .ref a0), (1, .int (x1))] [] (mX2_readSum N K (g_wi (g_wi (g_wi (mX2_pass M a0) ((a0 + 2) + 1) (x1).toNatClampNeg (fX2_orderKind M a0)) ((a0 + 2) + 2) (x1).toNatClampNeg 1) ((a0 + 2) + 3) (x1).toNatClampNeg (g_mi (g_wi (g_wi (mX2_pass M a0) ((a0 + 2) + 1) (x1).toNatClampNeg (fX2_orderKind M a0)) ((a0 + 2) + 2) (x1).toNatClampNeg 1) (a0 + 2) 7)) a0 0) 0 0) (h18 : (¬ (g_mi M a0 12) = 0) → (¬ (fX2_orderKind M a0) = (-1)) → (¬ (fX2_orderKind M a0) = 4) → (¬ (fX2_orderKind M a0) = 6) → ((fX2_readSum N K (g_wi (g_wi (g_wi (mX2_pass M a0) ((a0 + 2) + 1) (x1).toNatClampNeg (fX2_orderKind M a0)) ((a0 + 2) + 2) (x1).toNatClampNeg 1) ((a0 + 2) + 3) (x1).toNatClampNeg (g_mi (g_wi (g_wi (mX2_pass M a0) ((a0 + 2) + 1) (x1).toNatClampNeg (fX2_orderKind M a0)) ((a0 + 2) + 2) (x1).toNatClampNeg 1) (a0 + 2) 7)) a0 0) = 0) → Q (some (.int (0))) (mX2_readSum N K (g_wi (g_wi (g_wi (mX2_pass M a0) ((a0 + 2) + 1) (x1).toNatClampNeg (fX2_orderKind M a0)) ((a0 + 2) + 2) (x1).toNatClampNeg 1) ((a0 + 2) + 3) (x1).toNatClampNeg (g_mi (g_wi (g_wi (mX2_pass M a0) ((a0 + 2) + 1) (x1).toNatClampNeg (fX2_orderKind M a0)) ((a0 + 2) + 2) (x1).toNatClampNeg 1) (a0 + 2) 7)) a0 0)) (h19 : (¬ (g_mi M a0 12) = 0) → (¬ (fX2_orderKind M a0) = (-1)) → (¬ (fX2_orderKind M a0) = 4) → ((fX2_orderKind M a0) = 6) → Go X (d + K + 4) mc ms kX2_readClause Q 80 [(0, .ref a0), (1, .int (x1))] [] (g_wi (g_wi (g_wi (mX2_pass M a0) ((a0 + 2) + 1) (x1).toNatClampNeg (fX2_orderKind M a0)) ((a0 + 2) + 2) (x1).toNatClampNeg 1) ((a0 + 2) + 3) (x1).toNatClampNeg (g_mi (g_wi (g_wi (mX2_pass M a0) ((a0 + 2) + 1) (x1).toNatClampNeg (fX2_orderKind M a0)) ((a0 + 2) + 2) (x1).toNatClampNeg 1) (a0 + 2) 7)) 0 0) (b20 : (¬ (g_mi M a0 12) = 0) → ((fX2_orderKind M a0) = (-1)) → EX2_fail M a0) (h21 : (¬ (g_mi M a0 12) = 0) → ((fX2_orderKind M a0) = (-1)) → Q (some (.int ((fX2_fail a0)))) (mX2_fail M a0)) (b22 : (¬ (g_mi M a0 12) = 0) → ((fX2_orderKind M a0) = (-1)) → (fX2_fail a0) = 0 ∨ (fX2_fail a0) = 1) : Cn X (d + K + 4) mc ms kX2_readClause [.ref a0, .int (x1)] M Q := by
  refine g_meth rfl rfl (Nat.le_of_ble_eq_true rfl) rfl ?_
  refine g_aload_n 0 1 dX2_readClause_0 rfl rfl ?_
  refine g_getI 4 dX2_readClause_1 rfl flX2_59 s0.1 ?_
  refine g_if_eq 14 7 dX2_readClause_4 rfl rfl (fun c1 => ?_) (fun c1 => ?_)
  · skip
    refine g_aload_n 0 15 dX2_readClause_14 rfl rfl ?_
    refine g_callV (mc1 := 0) (ms1 := 0) (b := a0) (rest := []) (av := []) kX2_lawKind 18 dX2_readClause_15 rfl rfl mbX2_108 imX2_lawKind seX2_lawKind gcl2.1 s0.1 (Nat.le_of_ble_eq_true rfl) (Nat.zero_le _) (Nat.zero_le _) (tX2_lawKind s0 (b1 c1) ?_)
    show Go X (d + K + 4) mc ms kX2_readClause Q 18 [(0, .ref a0), (1, .int (x1))] [.int ((fX2_lawKind M a0))] M 0 0
    refine g_istore_n 19 [(2, .int ((fX2_lawKind M a0))), (0, .ref a0), (1, .int (x1))] dX2_readClause_18 rfl (Nat.le_of_ble_eq_true rfl) rfl ?_
    refine g_iload_n 0 20 dX2_readClause_19 rfl rfl ?_
    refine g_iconst ((-1)) 21 dX2_readClause_20 rfl rfl ?_
    refine g_icmp_ne 29 24 dX2_readClause_21 rfl rfl (fun c2 => ?_) (fun c2 => ?_)
    · skip
      refine g_aload_n 1 30 dX2_readClause_29 rfl rfl ?_
      refine g_callV (mc1 := 0) (ms1 := 0) (b := a0) (rest := []) (av := []) kX2_pass 33 dX2_readClause_30 rfl rfl mbX2_111 imX2_pass seX2_pass gcl2.1 s0.1 (Nat.le_of_ble_eq_true rfl) (Nat.zero_le _) (Nat.zero_le _) (tX2_pass s0 (b2 c1 c2) ?_)
      show Go X (d + K + 4) mc ms kX2_readClause Q 33 [(2, .int ((fX2_lawKind M a0))), (0, .ref a0), (1, .int (x1))] [] (mX2_pass M a0) 0 0
      refine g_aload_n 1 34 dX2_readClause_33 rfl rfl ?_
      refine g_getR 37 (a0 + 2) dX2_readClause_34 rfl flX2_20 (Sm.k (Sm.tr Sm.rf jX2_pass) s0.1) (Sm.r (Sm.tr Sm.rf jX2_pass) s0.2.2.2.1) ?_
      refine g_getR 40 ((a0 + 2) + 1) dX2_readClause_37 rfl flX2_114 (Sm.k (Sm.tr Sm.rf jX2_pass) s0.2.2.2.2.1.1) (Sm.r (Sm.tr Sm.rf jX2_pass) s0.2.2.2.2.1.2.1) ?_
      refine g_iload_n 2 41 dX2_readClause_40 rfl rfl ?_
      refine g_iload_n 0 42 dX2_readClause_41 rfl rfl ?_
      refine h_iastore 43 (x1).toNatClampNeg dX2_readClause_42 rfl rfl (Sm.k (Sm.tr Sm.rf jX2_pass) s0.2.2.2.2.1.2.2.1) (b3 c1 c2) ?_
      refine g_aload_n 1 44 dX2_readClause_43 rfl rfl ?_
      refine g_getR 47 (a0 + 2) dX2_readClause_44 rfl flX2_20 (Sm.k (Sm.wi (Sm.tr Sm.rf jX2_pass)) s0.1) (Sm.r (Sm.wi (Sm.tr Sm.rf jX2_pass)) s0.2.2.2.1) ?_
      refine g_getR 50 ((a0 + 2) + 2) dX2_readClause_47 rfl flX2_117 (Sm.k (Sm.wi (Sm.tr Sm.rf jX2_pass)) s0.2.2.2.2.1.1) (Sm.r (Sm.wi (Sm.tr Sm.rf jX2_pass)) s0.2.2.2.2.1.2.2.2.1) ?_
      refine g_iload_n 2 51 dX2_readClause_50 rfl rfl ?_
      refine g_iconst (1) 52 dX2_readClause_51 rfl rfl ?_
      refine h_iastore 53 (x1).toNatClampNeg dX2_readClause_52 rfl rfl (Sm.k (Sm.wi (Sm.tr Sm.rf jX2_pass)) s0.2.2.2.2.1.2.2.2.2.1) (b3 c1 c2) ?_
      refine g_aload_n 1 54 dX2_readClause_53 rfl rfl ?_
      refine g_getR 57 (a0 + 2) dX2_readClause_54 rfl flX2_20 (Sm.k (Sm.wi (Sm.wi (Sm.tr Sm.rf jX2_pass))) s0.1) (Sm.r (Sm.wi (Sm.wi (Sm.tr Sm.rf jX2_pass))) s0.2.2.2.1) ?_
      refine g_getR 60 ((a0 + 2) + 3) dX2_readClause_57 rfl flX2_120 (Sm.k (Sm.wi (Sm.wi (Sm.tr Sm.rf jX2_pass))) s0.2.2.2.2.1.1) (Sm.r (Sm.wi (Sm.wi (Sm.tr Sm.rf jX2_pass))) s0.2.2.2.2.1.2.2.2.2.2.1) ?_
      refine g_iload_n 2 61 dX2_readClause_60 rfl rfl ?_
      refine g_aload_n 1 62 dX2_readClause_61 rfl rfl ?_
      refine g_getR 65 (a0 + 2) dX2_readClause_62 rfl flX2_20 (Sm.k (Sm.wi (Sm.wi (Sm.tr Sm.rf jX2_pass))) s0.1) (Sm.r (Sm.wi (Sm.wi (Sm.tr Sm.rf jX2_pass))) s0.2.2.2.1) ?_
      refine g_getI 68 dX2_readClause_65 rfl flX2_123 (Sm.k (Sm.wi (Sm.wi (Sm.tr Sm.rf jX2_pass))) s0.2.2.2.2.1.1) ?_
      refine h_iastore 69 (x1).toNatClampNeg dX2_readClause_68 rfl rfl (Sm.k (Sm.wi (Sm.wi (Sm.tr Sm.rf jX2_pass))) s0.2.2.2.2.1.2.2.2.2.2.2.1) (b3 c1 c2) ?_
      refine g_iload_n 0 70 dX2_readClause_69 rfl rfl ?_
      refine g_iconst (4) 71 dX2_readClause_70 rfl rfl ?_
      refine g_icmp_eq 80 74 dX2_readClause_71 rfl rfl (fun c3 => ?_) (fun c3 => ?_)
      · skip
        exact g_sub [1, 2] _ rfl (h4 c1 c2 c3)
      · skip
        refine g_iload_n 0 75 dX2_readClause_74 rfl rfl ?_
        refine g_bipush (6) 77 dX2_readClause_75 rfl rfl ?_
        refine g_icmp_ne 93 80 dX2_readClause_77 rfl rfl (fun c4 => ?_) (fun c4 => ?_)
        · skip
          refine g_aload_n 1 94 dX2_readClause_93 rfl rfl ?_
          refine g_iconst (0) 95 dX2_readClause_94 rfl rfl ?_
          refine g_callV (mc1 := 0) (ms1 := 0) (b := a0) (rest := []) (av := [.int (0)]) kX2_readSum 98 dX2_readClause_95 rfl rfl mbX2_127 imX2_readSum seX2_readSum gcl2.1 (Sm.k (Sm.wi (Sm.wi (Sm.wi (Sm.tr Sm.rf jX2_pass)))) s0.1) (Nat.le_of_ble_eq_true rfl) (Nat.zero_le _) (Nat.zero_le _) (tX2_readSum (N := N) (K := K) (Re.sm (Sm.wi (Sm.wi (Sm.wi (Sm.tr Sm.rf jX2_pass)))) s0) (b5 c1 c2 c3 c4) ?_)
          show Go X (d + K + 4) mc ms kX2_readClause Q 98 [(2, .int ((fX2_lawKind M a0))), (0, .ref a0), (1, .int (x1))] [.int ((fX2_readSum N K (g_wi (g_wi (g_wi (mX2_pass M a0) ((a0 + 2) + 1) (x1).toNatClampNeg (fX2_lawKind M a0)) ((a0 + 2) + 2) (x1).toNatClampNeg 1) ((a0 + 2) + 3) (x1).toNatClampNeg (g_mi (g_wi (g_wi (mX2_pass M a0) ((a0 + 2) + 1) (x1).toNatClampNeg (fX2_lawKind M a0)) ((a0 + 2) + 2) (x1).toNatClampNeg 1) (a0 + 2) 7)) a0 0))] (mX2_readSum N K (g_wi (g_wi (g_wi (mX2_pass M a0) ((a0 + 2) + 1) (x1).toNatClampNeg (fX2_lawKind M a0)) ((a0 + 2) + 2) (x1).toNatClampNeg 1) ((a0 + 2) + 3) (x1).toNatClampNeg (g_mi (g_wi (g_wi (mX2_pass M a0) ((a0 + 2) + 1) (x1).toNatClampNeg (fX2_lawKind M a0)) ((a0 + 2) + 2) (x1).toNatClampNeg 1) (a0 + 2) 7)) a0 0) 0 0
          refine g_if_ne 103 101 dX2_readClause_98 rfl rfl (fun c5 => ?_) (fun c5 => ?_)
          · skip
            exact g_sub [1, 2] _ rfl (h6 c1 c2 c3 c4 c5)
          · skip
            refine g_iconst (0) 102 dX2_readClause_101 rfl rfl ?_
            exact g_zret dX2_readClause_102 rfl (by decide) (Nat.zero_le _) (Nat.zero_le _) (h7 c1 c2 c3 c4 c5)
        · skip
          exact g_sub [1, 2] _ rfl (h8 c1 c2 c3 c4)
    · skip
      refine g_aload_n 1 25 dX2_readClause_24 rfl rfl ?_
      refine g_callV (mc1 := 0) (ms1 := 0) (b := a0) (rest := []) (av := []) kX2_fail 28 dX2_readClause_25 rfl rfl mbX2_74 imX2_fail seX2_fail gcl2.1 s0.1 (Nat.le_of_ble_eq_true rfl) (Nat.zero_le _) (Nat.zero_le _) (tX2_fail s0 (b9 c1 c2) ?_)
      show Go X (d + K + 4) mc ms kX2_readClause Q 28 [(2, .int ((fX2_lawKind M a0))), (0, .ref a0), (1, .int (x1))] [.int ((fX2_fail a0))] (mX2_fail M a0) 0 0
      exact g_zret dX2_readClause_28 rfl (b11 c1 c2) (Nat.zero_le _) (Nat.zero_le _) (h10 c1 c2)
  · skip
    refine g_aload_n 0 8 dX2_readClause_7 rfl rfl ?_
    refine g_callV (mc1 := 0) (ms1 := 0) (b := a0) (rest := []) (av := []) kX2_orderKind 11 dX2_readClause_8 rfl rfl mbX2_105 imX2_orderKind seX2_orderKind gcl2.1 s0.1 (Nat.le_of_ble_eq_true rfl) (Nat.zero_le _) (Nat.zero_le _) (tX2_orderKind s0 (b12 c1) ?_)
    show Go X (d + K + 4) mc ms kX2_readClause Q 11 [(0, .ref a0), (1, .int (x1))] [.int ((fX2_orderKind M a0))] M 0 0
    refine g_goto 18 dX2_readClause_11 rfl ?_
    refine g_istore_n 19 [(2, .int ((fX2_orderKind M a0))), (0, .ref a0), (1, .int (x1))] dX2_readClause_18 rfl (Nat.le_of_ble_eq_true rfl) rfl ?_
    refine g_iload_n 0 20 dX2_readClause_19 rfl rfl ?_
    refine g_iconst ((-1)) 21 dX2_readClause_20 rfl rfl ?_
    refine g_icmp_ne 29 24 dX2_readClause_21 rfl rfl (fun c6 => ?_) (fun c6 => ?_)
    · skip
      refine g_aload_n 1 30 dX2_readClause_29 rfl rfl ?_
      refine g_callV (mc1 := 0) (ms1 := 0) (b := a0) (rest := []) (av := []) kX2_pass 33 dX2_readClause_30 rfl rfl mbX2_111 imX2_pass seX2_pass gcl2.1 s0.1 (Nat.le_of_ble_eq_true rfl) (Nat.zero_le _) (Nat.zero_le _) (tX2_pass s0 (b13 c1 c6) ?_)
      show Go X (d + K + 4) mc ms kX2_readClause Q 33 [(2, .int ((fX2_orderKind M a0))), (0, .ref a0), (1, .int (x1))] [] (mX2_pass M a0) 0 0
      refine g_aload_n 1 34 dX2_readClause_33 rfl rfl ?_
      refine g_getR 37 (a0 + 2) dX2_readClause_34 rfl flX2_20 (Sm.k (Sm.tr Sm.rf jX2_pass) s0.1) (Sm.r (Sm.tr Sm.rf jX2_pass) s0.2.2.2.1) ?_
      refine g_getR 40 ((a0 + 2) + 1) dX2_readClause_37 rfl flX2_114 (Sm.k (Sm.tr Sm.rf jX2_pass) s0.2.2.2.2.1.1) (Sm.r (Sm.tr Sm.rf jX2_pass) s0.2.2.2.2.1.2.1) ?_
      refine g_iload_n 2 41 dX2_readClause_40 rfl rfl ?_
      refine g_iload_n 0 42 dX2_readClause_41 rfl rfl ?_
      refine h_iastore 43 (x1).toNatClampNeg dX2_readClause_42 rfl rfl (Sm.k (Sm.tr Sm.rf jX2_pass) s0.2.2.2.2.1.2.2.1) (b14 c1 c6) ?_
      refine g_aload_n 1 44 dX2_readClause_43 rfl rfl ?_
      refine g_getR 47 (a0 + 2) dX2_readClause_44 rfl flX2_20 (Sm.k (Sm.wi (Sm.tr Sm.rf jX2_pass)) s0.1) (Sm.r (Sm.wi (Sm.tr Sm.rf jX2_pass)) s0.2.2.2.1) ?_
      refine g_getR 50 ((a0 + 2) + 2) dX2_readClause_47 rfl flX2_117 (Sm.k (Sm.wi (Sm.tr Sm.rf jX2_pass)) s0.2.2.2.2.1.1) (Sm.r (Sm.wi (Sm.tr Sm.rf jX2_pass)) s0.2.2.2.2.1.2.2.2.1) ?_
      refine g_iload_n 2 51 dX2_readClause_50 rfl rfl ?_
      refine g_iconst (1) 52 dX2_readClause_51 rfl rfl ?_
      refine h_iastore 53 (x1).toNatClampNeg dX2_readClause_52 rfl rfl (Sm.k (Sm.wi (Sm.tr Sm.rf jX2_pass)) s0.2.2.2.2.1.2.2.2.2.1) (b14 c1 c6) ?_
      refine g_aload_n 1 54 dX2_readClause_53 rfl rfl ?_
      refine g_getR 57 (a0 + 2) dX2_readClause_54 rfl flX2_20 (Sm.k (Sm.wi (Sm.wi (Sm.tr Sm.rf jX2_pass))) s0.1) (Sm.r (Sm.wi (Sm.wi (Sm.tr Sm.rf jX2_pass))) s0.2.2.2.1) ?_
      refine g_getR 60 ((a0 + 2) + 3) dX2_readClause_57 rfl flX2_120 (Sm.k (Sm.wi (Sm.wi (Sm.tr Sm.rf jX2_pass))) s0.2.2.2.2.1.1) (Sm.r (Sm.wi (Sm.wi (Sm.tr Sm.rf jX2_pass))) s0.2.2.2.2.1.2.2.2.2.2.1) ?_
      refine g_iload_n 2 61 dX2_readClause_60 rfl rfl ?_
      refine g_aload_n 1 62 dX2_readClause_61 rfl rfl ?_
      refine g_getR 65 (a0 + 2) dX2_readClause_62 rfl flX2_20 (Sm.k (Sm.wi (Sm.wi (Sm.tr Sm.rf jX2_pass))) s0.1) (Sm.r (Sm.wi (Sm.wi (Sm.tr Sm.rf jX2_pass))) s0.2.2.2.1) ?_
      refine g_getI 68 dX2_readClause_65 rfl flX2_123 (Sm.k (Sm.wi (Sm.wi (Sm.tr Sm.rf jX2_pass))) s0.2.2.2.2.1.1) ?_
      refine h_iastore 69 (x1).toNatClampNeg dX2_readClause_68 rfl rfl (Sm.k (Sm.wi (Sm.wi (Sm.tr Sm.rf jX2_pass))) s0.2.2.2.2.1.2.2.2.2.2.2.1) (b14 c1 c6) ?_
      refine g_iload_n 0 70 dX2_readClause_69 rfl rfl ?_
      refine g_iconst (4) 71 dX2_readClause_70 rfl rfl ?_
      refine g_icmp_eq 80 74 dX2_readClause_71 rfl rfl (fun c7 => ?_) (fun c7 => ?_)
      · skip
        exact g_sub [1, 2] _ rfl (h15 c1 c6 c7)
      · skip
        refine g_iload_n 0 75 dX2_readClause_74 rfl rfl ?_
        refine g_bipush (6) 77 dX2_readClause_75 rfl rfl ?_
        refine g_icmp_ne 93 80 dX2_readClause_77 rfl rfl (fun c8 => ?_) (fun c8 => ?_)
        · skip
          refine g_aload_n 1 94 dX2_readClause_93 rfl rfl ?_
          refine g_iconst (0) 95 dX2_readClause_94 rfl rfl ?_
          refine g_callV (mc1 := 0) (ms1 := 0) (b := a0) (rest := []) (av := [.int (0)]) kX2_readSum 98 dX2_readClause_95 rfl rfl mbX2_127 imX2_readSum seX2_readSum gcl2.1 (Sm.k (Sm.wi (Sm.wi (Sm.wi (Sm.tr Sm.rf jX2_pass)))) s0.1) (Nat.le_of_ble_eq_true rfl) (Nat.zero_le _) (Nat.zero_le _) (tX2_readSum (N := N) (K := K) (Re.sm (Sm.wi (Sm.wi (Sm.wi (Sm.tr Sm.rf jX2_pass)))) s0) (b16 c1 c6 c7 c8) ?_)
          show Go X (d + K + 4) mc ms kX2_readClause Q 98 [(2, .int ((fX2_orderKind M a0))), (0, .ref a0), (1, .int (x1))] [.int ((fX2_readSum N K (g_wi (g_wi (g_wi (mX2_pass M a0) ((a0 + 2) + 1) (x1).toNatClampNeg (fX2_orderKind M a0)) ((a0 + 2) + 2) (x1).toNatClampNeg 1) ((a0 + 2) + 3) (x1).toNatClampNeg (g_mi (g_wi (g_wi (mX2_pass M a0) ((a0 + 2) + 1) (x1).toNatClampNeg (fX2_orderKind M a0)) ((a0 + 2) + 2) (x1).toNatClampNeg 1) (a0 + 2) 7)) a0 0))] (mX2_readSum N K (g_wi (g_wi (g_wi (mX2_pass M a0) ((a0 + 2) + 1) (x1).toNatClampNeg (fX2_orderKind M a0)) ((a0 + 2) + 2) (x1).toNatClampNeg 1) ((a0 + 2) + 3) (x1).toNatClampNeg (g_mi (g_wi (g_wi (mX2_pass M a0) ((a0 + 2) + 1) (x1).toNatClampNeg (fX2_orderKind M a0)) ((a0 + 2) + 2) (x1).toNatClampNeg 1) (a0 + 2) 7)) a0 0) 0 0
          refine g_if_ne 103 101 dX2_readClause_98 rfl rfl (fun c9 => ?_) (fun c9 => ?_)
          · skip
            exact g_sub [1, 2] _ rfl (h17 c1 c6 c7 c8 c9)
          · skip
            refine g_iconst (0) 102 dX2_readClause_101 rfl rfl ?_
            exact g_zret dX2_readClause_102 rfl (by decide) (Nat.zero_le _) (Nat.zero_le _) (h18 c1 c6 c7 c8 c9)
        · skip
          exact g_sub [1, 2] _ rfl (h19 c1 c6 c7 c8)
    · skip
      refine g_aload_n 1 25 dX2_readClause_24 rfl rfl ?_
      refine g_callV (mc1 := 0) (ms1 := 0) (b := a0) (rest := []) (av := []) kX2_fail 28 dX2_readClause_25 rfl rfl mbX2_74 imX2_fail seX2_fail gcl2.1 s0.1 (Nat.le_of_ble_eq_true rfl) (Nat.zero_le _) (Nat.zero_le _) (tX2_fail s0 (b20 c1 c6) ?_)
      show Go X (d + K + 4) mc ms kX2_readClause Q 28 [(2, .int ((fX2_orderKind M a0))), (0, .ref a0), (1, .int (x1))] [.int ((fX2_fail a0))] (mX2_fail M a0) 0 0
      exact g_zret dX2_readClause_28 rfl (b22 c1 c6) (Nat.zero_le _) (Nat.zero_le _) (h21 c1 c6)

set_option maxRecDepth 4000 in
theorem sX2_readClause_80 {K : Nat} {X : gX} {d mc ms : Nat} {Q : Option Value → gM → Prop} {M : gM} {c z : Nat} {a0 : Nat} {x1 : Int32} (s0 : Re M a0) (w1 : c ≤ mc) (w2 : z ≤ ms) (b3 : EX6_put M (a0 + 2) 12 460 1 0) (h4 : Go X (d + K + 4) mc ms kX2_readClause Q 103 [(0, .ref a0), (1, .int (x1))] [] (mX6_put M (a0 + 2) 12 460 1 0) c z) : Go X (d + K + 4) mc ms kX2_readClause Q 80 [(0, .ref a0), (1, .int (x1))] [] M c z := by
  refine g_aload_n 0 81 dX2_readClause_80 rfl rfl ?_
  refine g_getR 84 (a0 + 2) dX2_readClause_81 rfl flX2_20 s0.1 s0.2.2.2.1 ?_
  refine g_iconst (1) 85 dX2_readClause_84 rfl rfl ?_
  refine g_iconst (0) 86 dX2_readClause_85 rfl rfl ?_
  refine g_callV (mc1 := 0) (ms1 := 0) (b := (a0 + 2)) (rest := []) (av := [.int (1), .int (0)]) kX6_put 89 dX2_readClause_86 rfl rfl mbX2_124 imX6_put seX6_put gcl6.1 s0.2.2.2.2.1.1 (Nat.le_of_ble_eq_true rfl) (w1) (w2) (tX6_put s0.2.2.2.2.1 (b3) ?_)
  show Go X (d + K + 4) mc ms kX2_readClause Q 89 [(0, .ref a0), (1, .int (x1))] [.int ((fX6_put M (a0 + 2) 12 460 1 0))] (mX6_put M (a0 + 2) 12 460 1 0) c z
  refine g_pop 90 dX2_readClause_89 rfl rfl ?_
  refine g_goto 103 dX2_readClause_90 rfl ?_
  exact (h4)

set_option maxRecDepth 4000 in
theorem sX2_readClause_103 {K : Nat} {X : gX} {d mc ms : Nat} {Q : Option Value → gM → Prop} {M : gM} {c z : Nat} {a0 : Nat} {x1 : Int32} (s0 : Re M a0) (w1 : c ≤ mc) (w2 : z ≤ ms) (b3 : EX6_put M (a0 + 2) 12 460 0 0) (h4 : ((g_mi (mX6_put M (a0 + 2) 12 460 0 0) a0 12) = 0) → Go X (d + K + 4) mc ms kX2_readClause Q 144 [(0, .ref a0), (1, .int (x1))] [] (mX6_put M (a0 + 2) 12 460 0 0) c z) (b5 : (¬ (g_mi (mX6_put M (a0 + 2) 12 460 0 0) a0 12) = 0) → vp_in ((g_mi (mX6_put M (a0 + 2) 12 460 0 0) a0 10)) 401) (h6 : (¬ (g_mi (mX6_put M (a0 + 2) 12 460 0 0) a0 12) = 0) → (¬ (g_mi (mX6_put M (a0 + 2) 12 460 0 0) (a0 + 11) ((g_mi (mX6_put M (a0 + 2) 12 460 0 0) a0 10)).toNatClampNeg) = 17) → Go X (d + K + 4) mc ms kX2_readClause Q 144 [(0, .ref a0), (1, .int (x1))] [] (mX6_put M (a0 + 2) 12 460 0 0) c z) (b7 : (¬ (g_mi (mX6_put M (a0 + 2) 12 460 0 0) a0 12) = 0) → ((g_mi (mX6_put M (a0 + 2) 12 460 0 0) (a0 + 11) ((g_mi (mX6_put M (a0 + 2) 12 460 0 0) a0 10)).toNatClampNeg) = 17) → EX2_readTimes (mX6_put M (a0 + 2) 12 460 0 0) a0 x1) (h8 : (¬ (g_mi (mX6_put M (a0 + 2) 12 460 0 0) a0 12) = 0) → ((g_mi (mX6_put M (a0 + 2) 12 460 0 0) (a0 + 11) ((g_mi (mX6_put M (a0 + 2) 12 460 0 0) a0 10)).toNatClampNeg) = 17) → (¬ (fX2_readTimes (mX6_put M (a0 + 2) 12 460 0 0) a0 x1) = 0) → Go X (d + K + 4) mc ms kX2_readClause Q 144 [(0, .ref a0), (1, .int (x1))] [] (mX2_readTimes (mX6_put M (a0 + 2) 12 460 0 0) a0 x1) c z) (h9 : (¬ (g_mi (mX6_put M (a0 + 2) 12 460 0 0) a0 12) = 0) → ((g_mi (mX6_put M (a0 + 2) 12 460 0 0) (a0 + 11) ((g_mi (mX6_put M (a0 + 2) 12 460 0 0) a0 10)).toNatClampNeg) = 17) → ((fX2_readTimes (mX6_put M (a0 + 2) 12 460 0 0) a0 x1) = 0) → Q (some (.int (0))) (mX2_readTimes (mX6_put M (a0 + 2) 12 460 0 0) a0 x1)) : Go X (d + K + 4) mc ms kX2_readClause Q 103 [(0, .ref a0), (1, .int (x1))] [] M c z := by
  refine g_aload_n 0 104 dX2_readClause_103 rfl rfl ?_
  refine g_getR 107 (a0 + 2) dX2_readClause_104 rfl flX2_20 s0.1 s0.2.2.2.1 ?_
  refine g_iconst (0) 108 dX2_readClause_107 rfl rfl ?_
  refine g_iconst (0) 109 dX2_readClause_108 rfl rfl ?_
  refine g_callV (mc1 := 0) (ms1 := 0) (b := (a0 + 2)) (rest := []) (av := [.int (0), .int (0)]) kX6_put 112 dX2_readClause_109 rfl rfl mbX2_124 imX6_put seX6_put gcl6.1 s0.2.2.2.2.1.1 (Nat.le_of_ble_eq_true rfl) (w1) (w2) (tX6_put s0.2.2.2.2.1 (b3) ?_)
  show Go X (d + K + 4) mc ms kX2_readClause Q 112 [(0, .ref a0), (1, .int (x1))] [.int ((fX6_put M (a0 + 2) 12 460 0 0))] (mX6_put M (a0 + 2) 12 460 0 0) c z
  refine g_pop 113 dX2_readClause_112 rfl rfl ?_
  refine g_aload_n 0 114 dX2_readClause_113 rfl rfl ?_
  refine g_getI 117 dX2_readClause_114 rfl flX2_59 (Sm.k (Sm.tr Sm.rf jX6_put) s0.1) ?_
  refine g_if_eq 144 120 dX2_readClause_117 rfl rfl (fun c1 => ?_) (fun c1 => ?_)
  · skip
    exact (h4 c1)
  · skip
    refine g_aload_n 0 121 dX2_readClause_120 rfl rfl ?_
    refine g_getR 124 (a0 + 11) dX2_readClause_121 rfl flX2_35 (Sm.k (Sm.tr Sm.rf jX6_put) s0.1) (Sm.r (Sm.tr Sm.rf jX6_put) s0.2.2.2.2.2.2.2.2.2.1) ?_
    refine g_aload_n 0 125 dX2_readClause_124 rfl rfl ?_
    refine g_getI 128 dX2_readClause_125 rfl flX2_50 (Sm.k (Sm.tr Sm.rf jX6_put) s0.1) ?_
    refine h_iaload 129 ((g_mi (mX6_put M (a0 + 2) 12 460 0 0) a0 10)).toNatClampNeg dX2_readClause_128 rfl rfl (Sm.k (Sm.tr Sm.rf jX6_put) s0.2.2.2.2.2.2.2.2.2.2.1) (b5 c1) ?_
    refine g_bipush (17) 131 dX2_readClause_129 rfl rfl ?_
    refine g_icmp_ne 144 134 dX2_readClause_131 rfl rfl (fun c2 => ?_) (fun c2 => ?_)
    · skip
      exact (h6 c1 c2)
    · skip
      refine g_aload_n 0 135 dX2_readClause_134 rfl rfl ?_
      refine g_iload_n 1 136 dX2_readClause_135 rfl rfl ?_
      refine g_callV (mc1 := 0) (ms1 := 0) (b := a0) (rest := []) (av := [.int (x1)]) kX2_readTimes 139 dX2_readClause_136 rfl rfl mbX2_130 imX2_readTimes seX2_readTimes gcl2.1 (Sm.k (Sm.tr Sm.rf jX6_put) s0.1) (Nat.le_of_ble_eq_true rfl) (w1) (w2) (tX2_readTimes (Re.sm (Sm.tr Sm.rf jX6_put) s0) (b7 c1 c2) ?_)
      show Go X (d + K + 4) mc ms kX2_readClause Q 139 [(0, .ref a0), (1, .int (x1))] [.int ((fX2_readTimes (mX6_put M (a0 + 2) 12 460 0 0) a0 x1))] (mX2_readTimes (mX6_put M (a0 + 2) 12 460 0 0) a0 x1) c z
      refine g_if_ne 144 142 dX2_readClause_139 rfl rfl (fun c3 => ?_) (fun c3 => ?_)
      · skip
        exact (h8 c1 c2 c3)
      · skip
        refine g_iconst (0) 143 dX2_readClause_142 rfl rfl ?_
        exact g_zret dX2_readClause_143 rfl (by decide) (w1) (w2) (h9 c1 c2 c3)

set_option maxRecDepth 4000 in
theorem sX2_readClause_144 {N : Nat} {K : Nat} {X : gX} {d mc ms : Nat} {Q : Option Value → gM → Prop} {M : gM} {c z : Nat} {a0 : Nat} {x1 : Int32} (s0 : Re M a0) (b1 : vp_in (x1) 12) (b2 : vp_in ((g_mi (g_wi M ((a0 + 2) + 4) (x1).toNatClampNeg (g_mi M (a0 + 2) 7)) a0 10)) 401) (w3 : c ≤ mc) (w4 : z ≤ ms) (b5 : ((g_mi (g_wi M ((a0 + 2) + 4) (x1).toNatClampNeg (g_mi M (a0 + 2) 7)) (a0 + 11) ((g_mi (g_wi M ((a0 + 2) + 4) (x1).toNatClampNeg (g_mi M (a0 + 2) 7)) a0 10)).toNatClampNeg) = 18) → EX2_pass (g_wi M ((a0 + 2) + 4) (x1).toNatClampNeg (g_mi M (a0 + 2) 7)) a0) (b6 : ((g_mi (g_wi M ((a0 + 2) + 4) (x1).toNatClampNeg (g_mi M (a0 + 2) 7)) (a0 + 11) ((g_mi (g_wi M ((a0 + 2) + 4) (x1).toNatClampNeg (g_mi M (a0 + 2) 7)) a0 10)).toNatClampNeg) = 18) → EX2_readTest N K (mX2_pass (g_wi M ((a0 + 2) + 4) (x1).toNatClampNeg (g_mi M (a0 + 2) 7)) a0) a0 0) (h7 : ((g_mi (g_wi M ((a0 + 2) + 4) (x1).toNatClampNeg (g_mi M (a0 + 2) 7)) (a0 + 11) ((g_mi (g_wi M ((a0 + 2) + 4) (x1).toNatClampNeg (g_mi M (a0 + 2) 7)) a0 10)).toNatClampNeg) = 18) → (¬ (fX2_readTest N K (mX2_pass (g_wi M ((a0 + 2) + 4) (x1).toNatClampNeg (g_mi M (a0 + 2) 7)) a0) a0 0) = 0) → Go X (d + K + 4) mc ms kX2_readClause Q 201 [(0, .ref a0), (1, .int (x1))] [] (mX2_readTest N K (mX2_pass (g_wi M ((a0 + 2) + 4) (x1).toNatClampNeg (g_mi M (a0 + 2) 7)) a0) a0 0) c z) (h8 : ((g_mi (g_wi M ((a0 + 2) + 4) (x1).toNatClampNeg (g_mi M (a0 + 2) 7)) (a0 + 11) ((g_mi (g_wi M ((a0 + 2) + 4) (x1).toNatClampNeg (g_mi M (a0 + 2) 7)) a0 10)).toNatClampNeg) = 18) → ((fX2_readTest N K (mX2_pass (g_wi M ((a0 + 2) + 4) (x1).toNatClampNeg (g_mi M (a0 + 2) 7)) a0) a0 0) = 0) → Q (some (.int (0))) (mX2_readTest N K (mX2_pass (g_wi M ((a0 + 2) + 4) (x1).toNatClampNeg (g_mi M (a0 + 2) 7)) a0) a0 0)) (b9 : (¬ (g_mi (g_wi M ((a0 + 2) + 4) (x1).toNatClampNeg (g_mi M (a0 + 2) 7)) (a0 + 11) ((g_mi (g_wi M ((a0 + 2) + 4) (x1).toNatClampNeg (g_mi M (a0 + 2) 7)) a0 10)).toNatClampNeg) = 18) → EX6_put (g_wi M ((a0 + 2) + 4) (x1).toNatClampNeg (g_mi M (a0 + 2) 7)) (a0 + 2) 12 460 1 1) (h10 : (¬ (g_mi (g_wi M ((a0 + 2) + 4) (x1).toNatClampNeg (g_mi M (a0 + 2) 7)) (a0 + 11) ((g_mi (g_wi M ((a0 + 2) + 4) (x1).toNatClampNeg (g_mi M (a0 + 2) 7)) a0 10)).toNatClampNeg) = 18) → Go X (d + K + 4) mc ms kX2_readClause Q 201 [(0, .ref a0), (1, .int (x1))] [] (mX6_put (g_wi M ((a0 + 2) + 4) (x1).toNatClampNeg (g_mi M (a0 + 2) 7)) (a0 + 2) 12 460 1 1) c z) : Go X (d + K + 4) mc ms kX2_readClause Q 144 [(0, .ref a0), (1, .int (x1))] [] M c z := by
  refine g_aload_n 0 145 dX2_readClause_144 rfl rfl ?_
  refine g_getR 148 (a0 + 2) dX2_readClause_145 rfl flX2_20 s0.1 s0.2.2.2.1 ?_
  refine g_getR 151 ((a0 + 2) + 4) dX2_readClause_148 rfl flX2_133 s0.2.2.2.2.1.1 s0.2.2.2.2.1.2.2.2.2.2.2.2.1 ?_
  refine g_iload_n 1 152 dX2_readClause_151 rfl rfl ?_
  refine g_aload_n 0 153 dX2_readClause_152 rfl rfl ?_
  refine g_getR 156 (a0 + 2) dX2_readClause_153 rfl flX2_20 s0.1 s0.2.2.2.1 ?_
  refine g_getI 159 dX2_readClause_156 rfl flX2_123 s0.2.2.2.2.1.1 ?_
  refine h_iastore 160 (x1).toNatClampNeg dX2_readClause_159 rfl rfl s0.2.2.2.2.1.2.2.2.2.2.2.2.2.1 (b1) ?_
  refine g_aload_n 0 161 dX2_readClause_160 rfl rfl ?_
  refine g_getR 164 (a0 + 11) dX2_readClause_161 rfl flX2_35 (Sm.k (Sm.wi Sm.rf) s0.1) (Sm.r (Sm.wi Sm.rf) s0.2.2.2.2.2.2.2.2.2.1) ?_
  refine g_aload_n 0 165 dX2_readClause_164 rfl rfl ?_
  refine g_getI 168 dX2_readClause_165 rfl flX2_50 (Sm.k (Sm.wi Sm.rf) s0.1) ?_
  refine h_iaload 169 ((g_mi (g_wi M ((a0 + 2) + 4) (x1).toNatClampNeg (g_mi M (a0 + 2) 7)) a0 10)).toNatClampNeg dX2_readClause_168 rfl rfl (Sm.k (Sm.wi Sm.rf) s0.2.2.2.2.2.2.2.2.2.2.1) (b2) ?_
  refine g_bipush (18) 171 dX2_readClause_169 rfl rfl ?_
  refine g_icmp_eq 187 174 dX2_readClause_171 rfl rfl (fun c1 => ?_) (fun c1 => ?_)
  · skip
    refine g_aload_n 0 188 dX2_readClause_187 rfl rfl ?_
    refine g_callV (mc1 := 0) (ms1 := 0) (b := a0) (rest := []) (av := []) kX2_pass 191 dX2_readClause_188 rfl rfl mbX2_111 imX2_pass seX2_pass gcl2.1 (Sm.k (Sm.wi Sm.rf) s0.1) (Nat.le_of_ble_eq_true rfl) (w3) (w4) (tX2_pass (Re.sm (Sm.wi Sm.rf) s0) (b5 c1) ?_)
    show Go X (d + K + 4) mc ms kX2_readClause Q 191 [(0, .ref a0), (1, .int (x1))] [] (mX2_pass (g_wi M ((a0 + 2) + 4) (x1).toNatClampNeg (g_mi M (a0 + 2) 7)) a0) c z
    refine g_aload_n 0 192 dX2_readClause_191 rfl rfl ?_
    refine g_iconst (0) 193 dX2_readClause_192 rfl rfl ?_
    refine g_callV (mc1 := 0) (ms1 := 0) (b := a0) (rest := []) (av := [.int (0)]) kX2_readTest 196 dX2_readClause_193 rfl rfl mbX2_136 imX2_readTest seX2_readTest gcl2.1 (Sm.k (Sm.tr (Sm.wi Sm.rf) jX2_pass) s0.1) (Nat.le_of_ble_eq_true rfl) (w3) (w4) (tX2_readTest (N := N) (K := K) (Re.sm (Sm.tr (Sm.wi Sm.rf) jX2_pass) s0) (b6 c1) ?_)
    show Go X (d + K + 4) mc ms kX2_readClause Q 196 [(0, .ref a0), (1, .int (x1))] [.int ((fX2_readTest N K (mX2_pass (g_wi M ((a0 + 2) + 4) (x1).toNatClampNeg (g_mi M (a0 + 2) 7)) a0) a0 0))] (mX2_readTest N K (mX2_pass (g_wi M ((a0 + 2) + 4) (x1).toNatClampNeg (g_mi M (a0 + 2) 7)) a0) a0 0) c z
    refine g_if_ne 201 199 dX2_readClause_196 rfl rfl (fun c2 => ?_) (fun c2 => ?_)
    · skip
      exact (h7 c1 c2)
    · skip
      refine g_iconst (0) 200 dX2_readClause_199 rfl rfl ?_
      exact g_zret dX2_readClause_200 rfl (by decide) (w3) (w4) (h8 c1 c2)
  · skip
    refine g_aload_n 0 175 dX2_readClause_174 rfl rfl ?_
    refine g_getR 178 (a0 + 2) dX2_readClause_175 rfl flX2_20 (Sm.k (Sm.wi Sm.rf) s0.1) (Sm.r (Sm.wi Sm.rf) s0.2.2.2.1) ?_
    refine g_iconst (1) 179 dX2_readClause_178 rfl rfl ?_
    refine g_iconst (1) 180 dX2_readClause_179 rfl rfl ?_
    refine g_callV (mc1 := 0) (ms1 := 0) (b := (a0 + 2)) (rest := []) (av := [.int (1), .int (1)]) kX6_put 183 dX2_readClause_180 rfl rfl mbX2_124 imX6_put seX6_put gcl6.1 (Sm.k (Sm.wi Sm.rf) s0.2.2.2.2.1.1) (Nat.le_of_ble_eq_true rfl) (w3) (w4) (tX6_put (Tx.sm (Sm.wi Sm.rf) s0.2.2.2.2.1) (b9 c1) ?_)
    show Go X (d + K + 4) mc ms kX2_readClause Q 183 [(0, .ref a0), (1, .int (x1))] [.int ((fX6_put (g_wi M ((a0 + 2) + 4) (x1).toNatClampNeg (g_mi M (a0 + 2) 7)) (a0 + 2) 12 460 1 1))] (mX6_put (g_wi M ((a0 + 2) + 4) (x1).toNatClampNeg (g_mi M (a0 + 2) 7)) (a0 + 2) 12 460 1 1) c z
    refine g_pop 184 dX2_readClause_183 rfl rfl ?_
    refine g_goto 201 dX2_readClause_184 rfl ?_
    exact (h10 c1)

set_option maxRecDepth 4000 in
theorem sX2_readClause_201 {K : Nat} {X : gX} {d mc ms : Nat} {Q : Option Value → gM → Prop} {M : gM} {c z : Nat} {a0 : Nat} {x1 : Int32} (s0 : Re M a0) (w1 : c ≤ mc) (w2 : z ≤ ms) (b3 : EX6_put M (a0 + 2) 12 460 0 0) (h4 : Q (some (.int (1))) (g_wi (mX6_put M (a0 + 2) 12 460 0 0) (a0 + 2) 6 (x1 + 1))) : Go X (d + K + 4) mc ms kX2_readClause Q 201 [(0, .ref a0), (1, .int (x1))] [] M c z := by
  refine g_aload_n 0 202 dX2_readClause_201 rfl rfl ?_
  refine g_getR 205 (a0 + 2) dX2_readClause_202 rfl flX2_20 s0.1 s0.2.2.2.1 ?_
  refine g_iconst (0) 206 dX2_readClause_205 rfl rfl ?_
  refine g_iconst (0) 207 dX2_readClause_206 rfl rfl ?_
  refine g_callV (mc1 := 0) (ms1 := 0) (b := (a0 + 2)) (rest := []) (av := [.int (0), .int (0)]) kX6_put 210 dX2_readClause_207 rfl rfl mbX2_124 imX6_put seX6_put gcl6.1 s0.2.2.2.2.1.1 (Nat.le_of_ble_eq_true rfl) (w1) (w2) (tX6_put s0.2.2.2.2.1 (b3) ?_)
  show Go X (d + K + 4) mc ms kX2_readClause Q 210 [(0, .ref a0), (1, .int (x1))] [.int ((fX6_put M (a0 + 2) 12 460 0 0))] (mX6_put M (a0 + 2) 12 460 0 0) c z
  refine g_pop 211 dX2_readClause_210 rfl rfl ?_
  refine g_aload_n 0 212 dX2_readClause_211 rfl rfl ?_
  refine g_getR 215 (a0 + 2) dX2_readClause_212 rfl flX2_20 (Sm.k (Sm.tr Sm.rf jX6_put) s0.1) (Sm.r (Sm.tr Sm.rf jX6_put) s0.2.2.2.1) ?_
  refine g_iload_n 1 216 dX2_readClause_215 rfl rfl ?_
  refine g_iconst (1) 217 dX2_readClause_216 rfl rfl ?_
  refine g_iadd 218 dX2_readClause_217 rfl ?_
  refine g_putI 221 dX2_readClause_218 rfl flX2_139 (Sm.k (Sm.tr Sm.rf jX6_put) s0.2.2.2.2.1.1) ?_
  refine g_iconst (1) 222 dX2_readClause_221 rfl rfl ?_
  exact g_zret dX2_readClause_222 rfl (by decide) (w1) (w2) (h4)

def bX2_readClause_0 (N : Nat) (K : Nat) (M : gM) (a0 : Nat) (x1 : Int32) (k : Nat → (Nat → Nat → Int32) → Nat → Int32 → Int32 × (Nat → Nat → Int32)) : Int32 × (Nat → Nat → Int32) := (if (g_mi M a0 12) = 0 then (if (fX2_lawKind M a0) = (-1) then ((fX2_fail a0), g_mi (mX2_fail M a0)) else (if (fX2_lawKind M a0) = 4 then (k 0 (g_mi (g_wi (g_wi (g_wi (mX2_pass M a0) ((a0 + 2) + 1) (x1).toNatClampNeg (fX2_lawKind M a0)) ((a0 + 2) + 2) (x1).toNatClampNeg 1) ((a0 + 2) + 3) (x1).toNatClampNeg (g_mi (g_wi (g_wi (mX2_pass M a0) ((a0 + 2) + 1) (x1).toNatClampNeg (fX2_lawKind M a0)) ((a0 + 2) + 2) (x1).toNatClampNeg 1) (a0 + 2) 7))) a0 x1) else (if (fX2_lawKind M a0) = 6 then (k 0 (g_mi (g_wi (g_wi (g_wi (mX2_pass M a0) ((a0 + 2) + 1) (x1).toNatClampNeg (fX2_lawKind M a0)) ((a0 + 2) + 2) (x1).toNatClampNeg 1) ((a0 + 2) + 3) (x1).toNatClampNeg (g_mi (g_wi (g_wi (mX2_pass M a0) ((a0 + 2) + 1) (x1).toNatClampNeg (fX2_lawKind M a0)) ((a0 + 2) + 2) (x1).toNatClampNeg 1) (a0 + 2) 7))) a0 x1) else (if (fX2_readSum N K (g_wi (g_wi (g_wi (mX2_pass M a0) ((a0 + 2) + 1) (x1).toNatClampNeg (fX2_lawKind M a0)) ((a0 + 2) + 2) (x1).toNatClampNeg 1) ((a0 + 2) + 3) (x1).toNatClampNeg (g_mi (g_wi (g_wi (mX2_pass M a0) ((a0 + 2) + 1) (x1).toNatClampNeg (fX2_lawKind M a0)) ((a0 + 2) + 2) (x1).toNatClampNeg 1) (a0 + 2) 7)) a0 0) = 0 then (0, g_mi (mX2_readSum N K (g_wi (g_wi (g_wi (mX2_pass M a0) ((a0 + 2) + 1) (x1).toNatClampNeg (fX2_lawKind M a0)) ((a0 + 2) + 2) (x1).toNatClampNeg 1) ((a0 + 2) + 3) (x1).toNatClampNeg (g_mi (g_wi (g_wi (mX2_pass M a0) ((a0 + 2) + 1) (x1).toNatClampNeg (fX2_lawKind M a0)) ((a0 + 2) + 2) (x1).toNatClampNeg 1) (a0 + 2) 7)) a0 0)) else (k 1 (g_mi (mX2_readSum N K (g_wi (g_wi (g_wi (mX2_pass M a0) ((a0 + 2) + 1) (x1).toNatClampNeg (fX2_lawKind M a0)) ((a0 + 2) + 2) (x1).toNatClampNeg 1) ((a0 + 2) + 3) (x1).toNatClampNeg (g_mi (g_wi (g_wi (mX2_pass M a0) ((a0 + 2) + 1) (x1).toNatClampNeg (fX2_lawKind M a0)) ((a0 + 2) + 2) (x1).toNatClampNeg 1) (a0 + 2) 7)) a0 0)) a0 x1))))) else (if (fX2_orderKind M a0) = (-1) then ((fX2_fail a0), g_mi (mX2_fail M a0)) else (if (fX2_orderKind M a0) = 4 then (k 0 (g_mi (g_wi (g_wi (g_wi (mX2_pass M a0) ((a0 + 2) + 1) (x1).toNatClampNeg (fX2_orderKind M a0)) ((a0 + 2) + 2) (x1).toNatClampNeg 1) ((a0 + 2) + 3) (x1).toNatClampNeg (g_mi (g_wi (g_wi (mX2_pass M a0) ((a0 + 2) + 1) (x1).toNatClampNeg (fX2_orderKind M a0)) ((a0 + 2) + 2) (x1).toNatClampNeg 1) (a0 + 2) 7))) a0 x1) else (if (fX2_orderKind M a0) = 6 then (k 0 (g_mi (g_wi (g_wi (g_wi (mX2_pass M a0) ((a0 + 2) + 1) (x1).toNatClampNeg (fX2_orderKind M a0)) ((a0 + 2) + 2) (x1).toNatClampNeg 1) ((a0 + 2) + 3) (x1).toNatClampNeg (g_mi (g_wi (g_wi (mX2_pass M a0) ((a0 + 2) + 1) (x1).toNatClampNeg (fX2_orderKind M a0)) ((a0 + 2) + 2) (x1).toNatClampNeg 1) (a0 + 2) 7))) a0 x1) else (if (fX2_readSum N K (g_wi (g_wi (g_wi (mX2_pass M a0) ((a0 + 2) + 1) (x1).toNatClampNeg (fX2_orderKind M a0)) ((a0 + 2) + 2) (x1).toNatClampNeg 1) ((a0 + 2) + 3) (x1).toNatClampNeg (g_mi (g_wi (g_wi (mX2_pass M a0) ((a0 + 2) + 1) (x1).toNatClampNeg (fX2_orderKind M a0)) ((a0 + 2) + 2) (x1).toNatClampNeg 1) (a0 + 2) 7)) a0 0) = 0 then (0, g_mi (mX2_readSum N K (g_wi (g_wi (g_wi (mX2_pass M a0) ((a0 + 2) + 1) (x1).toNatClampNeg (fX2_orderKind M a0)) ((a0 + 2) + 2) (x1).toNatClampNeg 1) ((a0 + 2) + 3) (x1).toNatClampNeg (g_mi (g_wi (g_wi (mX2_pass M a0) ((a0 + 2) + 1) (x1).toNatClampNeg (fX2_orderKind M a0)) ((a0 + 2) + 2) (x1).toNatClampNeg 1) (a0 + 2) 7)) a0 0)) else (k 1 (g_mi (mX2_readSum N K (g_wi (g_wi (g_wi (mX2_pass M a0) ((a0 + 2) + 1) (x1).toNatClampNeg (fX2_orderKind M a0)) ((a0 + 2) + 2) (x1).toNatClampNeg 1) ((a0 + 2) + 3) (x1).toNatClampNeg (g_mi (g_wi (g_wi (mX2_pass M a0) ((a0 + 2) + 1) (x1).toNatClampNeg (fX2_orderKind M a0)) ((a0 + 2) + 2) (x1).toNatClampNeg 1) (a0 + 2) 7)) a0 0)) a0 x1))))))
def eX2_readClause_0 (N : Nat) (K : Nat) (M : gM) (a0 : Nat) (x1 : Int32) (k : Nat → (Nat → Nat → Int32) → Nat → Int32 → Prop) : Prop := (((g_mi M a0 12) = 0) → EX2_lawKind M a0) ∧ (((g_mi M a0 12) = 0) → (¬ (fX2_lawKind M a0) = (-1)) → EX2_pass M a0) ∧ (((g_mi M a0 12) = 0) → (¬ (fX2_lawKind M a0) = (-1)) → vp_in (x1) 12) ∧ (((g_mi M a0 12) = 0) → (¬ (fX2_lawKind M a0) = (-1)) → (¬ (fX2_lawKind M a0) = 4) → (¬ (fX2_lawKind M a0) = 6) → EX2_readSum N K (g_wi (g_wi (g_wi (mX2_pass M a0) ((a0 + 2) + 1) (x1).toNatClampNeg (fX2_lawKind M a0)) ((a0 + 2) + 2) (x1).toNatClampNeg 1) ((a0 + 2) + 3) (x1).toNatClampNeg (g_mi (g_wi (g_wi (mX2_pass M a0) ((a0 + 2) + 1) (x1).toNatClampNeg (fX2_lawKind M a0)) ((a0 + 2) + 2) (x1).toNatClampNeg 1) (a0 + 2) 7)) a0 0) ∧ (((g_mi M a0 12) = 0) → ((fX2_lawKind M a0) = (-1)) → EX2_fail M a0) ∧ (((g_mi M a0 12) = 0) → ((fX2_lawKind M a0) = (-1)) → (fX2_fail a0) = 0 ∨ (fX2_fail a0) = 1) ∧ ((¬ (g_mi M a0 12) = 0) → EX2_orderKind M a0) ∧ ((¬ (g_mi M a0 12) = 0) → (¬ (fX2_orderKind M a0) = (-1)) → EX2_pass M a0) ∧ ((¬ (g_mi M a0 12) = 0) → (¬ (fX2_orderKind M a0) = (-1)) → vp_in (x1) 12) ∧ ((¬ (g_mi M a0 12) = 0) → (¬ (fX2_orderKind M a0) = (-1)) → (¬ (fX2_orderKind M a0) = 4) → (¬ (fX2_orderKind M a0) = 6) → EX2_readSum N K (g_wi (g_wi (g_wi (mX2_pass M a0) ((a0 + 2) + 1) (x1).toNatClampNeg (fX2_orderKind M a0)) ((a0 + 2) + 2) (x1).toNatClampNeg 1) ((a0 + 2) + 3) (x1).toNatClampNeg (g_mi (g_wi (g_wi (mX2_pass M a0) ((a0 + 2) + 1) (x1).toNatClampNeg (fX2_orderKind M a0)) ((a0 + 2) + 2) (x1).toNatClampNeg 1) (a0 + 2) 7)) a0 0) ∧ ((¬ (g_mi M a0 12) = 0) → ((fX2_orderKind M a0) = (-1)) → EX2_fail M a0) ∧ ((¬ (g_mi M a0 12) = 0) → ((fX2_orderKind M a0) = (-1)) → (fX2_fail a0) = 0 ∨ (fX2_fail a0) = 1) ∧ (if (g_mi M a0 12) = 0 then (if (fX2_lawKind M a0) = (-1) then True else (if (fX2_lawKind M a0) = 4 then (k 0 (g_mi (g_wi (g_wi (g_wi (mX2_pass M a0) ((a0 + 2) + 1) (x1).toNatClampNeg (fX2_lawKind M a0)) ((a0 + 2) + 2) (x1).toNatClampNeg 1) ((a0 + 2) + 3) (x1).toNatClampNeg (g_mi (g_wi (g_wi (mX2_pass M a0) ((a0 + 2) + 1) (x1).toNatClampNeg (fX2_lawKind M a0)) ((a0 + 2) + 2) (x1).toNatClampNeg 1) (a0 + 2) 7))) a0 x1) else (if (fX2_lawKind M a0) = 6 then (k 0 (g_mi (g_wi (g_wi (g_wi (mX2_pass M a0) ((a0 + 2) + 1) (x1).toNatClampNeg (fX2_lawKind M a0)) ((a0 + 2) + 2) (x1).toNatClampNeg 1) ((a0 + 2) + 3) (x1).toNatClampNeg (g_mi (g_wi (g_wi (mX2_pass M a0) ((a0 + 2) + 1) (x1).toNatClampNeg (fX2_lawKind M a0)) ((a0 + 2) + 2) (x1).toNatClampNeg 1) (a0 + 2) 7))) a0 x1) else (if (fX2_readSum N K (g_wi (g_wi (g_wi (mX2_pass M a0) ((a0 + 2) + 1) (x1).toNatClampNeg (fX2_lawKind M a0)) ((a0 + 2) + 2) (x1).toNatClampNeg 1) ((a0 + 2) + 3) (x1).toNatClampNeg (g_mi (g_wi (g_wi (mX2_pass M a0) ((a0 + 2) + 1) (x1).toNatClampNeg (fX2_lawKind M a0)) ((a0 + 2) + 2) (x1).toNatClampNeg 1) (a0 + 2) 7)) a0 0) = 0 then True else (k 1 (g_mi (mX2_readSum N K (g_wi (g_wi (g_wi (mX2_pass M a0) ((a0 + 2) + 1) (x1).toNatClampNeg (fX2_lawKind M a0)) ((a0 + 2) + 2) (x1).toNatClampNeg 1) ((a0 + 2) + 3) (x1).toNatClampNeg (g_mi (g_wi (g_wi (mX2_pass M a0) ((a0 + 2) + 1) (x1).toNatClampNeg (fX2_lawKind M a0)) ((a0 + 2) + 2) (x1).toNatClampNeg 1) (a0 + 2) 7)) a0 0)) a0 x1))))) else (if (fX2_orderKind M a0) = (-1) then True else (if (fX2_orderKind M a0) = 4 then (k 0 (g_mi (g_wi (g_wi (g_wi (mX2_pass M a0) ((a0 + 2) + 1) (x1).toNatClampNeg (fX2_orderKind M a0)) ((a0 + 2) + 2) (x1).toNatClampNeg 1) ((a0 + 2) + 3) (x1).toNatClampNeg (g_mi (g_wi (g_wi (mX2_pass M a0) ((a0 + 2) + 1) (x1).toNatClampNeg (fX2_orderKind M a0)) ((a0 + 2) + 2) (x1).toNatClampNeg 1) (a0 + 2) 7))) a0 x1) else (if (fX2_orderKind M a0) = 6 then (k 0 (g_mi (g_wi (g_wi (g_wi (mX2_pass M a0) ((a0 + 2) + 1) (x1).toNatClampNeg (fX2_orderKind M a0)) ((a0 + 2) + 2) (x1).toNatClampNeg 1) ((a0 + 2) + 3) (x1).toNatClampNeg (g_mi (g_wi (g_wi (mX2_pass M a0) ((a0 + 2) + 1) (x1).toNatClampNeg (fX2_orderKind M a0)) ((a0 + 2) + 2) (x1).toNatClampNeg 1) (a0 + 2) 7))) a0 x1) else (if (fX2_readSum N K (g_wi (g_wi (g_wi (mX2_pass M a0) ((a0 + 2) + 1) (x1).toNatClampNeg (fX2_orderKind M a0)) ((a0 + 2) + 2) (x1).toNatClampNeg 1) ((a0 + 2) + 3) (x1).toNatClampNeg (g_mi (g_wi (g_wi (mX2_pass M a0) ((a0 + 2) + 1) (x1).toNatClampNeg (fX2_orderKind M a0)) ((a0 + 2) + 2) (x1).toNatClampNeg 1) (a0 + 2) 7)) a0 0) = 0 then True else (k 1 (g_mi (mX2_readSum N K (g_wi (g_wi (g_wi (mX2_pass M a0) ((a0 + 2) + 1) (x1).toNatClampNeg (fX2_orderKind M a0)) ((a0 + 2) + 2) (x1).toNatClampNeg 1) ((a0 + 2) + 3) (x1).toNatClampNeg (g_mi (g_wi (g_wi (mX2_pass M a0) ((a0 + 2) + 1) (x1).toNatClampNeg (fX2_orderKind M a0)) ((a0 + 2) + 2) (x1).toNatClampNeg 1) (a0 + 2) 7)) a0 0)) a0 x1))))))
def bX2_readClause_80 (N : Nat) (K : Nat) (M : gM) (f : Nat → Nat → Int32) (a0 : Nat) (x1 : Int32) (k : Nat → (Nat → Nat → Int32) → Nat → Int32 → Int32 × (Nat → Nat → Int32)) : Int32 × (Nat → Nat → Int32) := (k 1 (g_mi (mX6_put (g_wm M f (g_ml M)) (a0 + 2) 12 460 1 0)) a0 x1)
def eX2_readClause_80 (N : Nat) (K : Nat) (M : gM) (f : Nat → Nat → Int32) (a0 : Nat) (x1 : Int32) (k : Nat → (Nat → Nat → Int32) → Nat → Int32 → Prop) : Prop := (EX6_put (g_wm M f (g_ml M)) (a0 + 2) 12 460 1 0) ∧ (k 1 (g_mi (mX6_put (g_wm M f (g_ml M)) (a0 + 2) 12 460 1 0)) a0 x1)
def bX2_readClause_103 (N : Nat) (K : Nat) (M : gM) (f : Nat → Nat → Int32) (a0 : Nat) (x1 : Int32) (k : Nat → (Nat → Nat → Int32) → Nat → Int32 → Int32 × (Nat → Nat → Int32)) : Int32 × (Nat → Nat → Int32) := (if (g_mi (mX6_put (g_wm M f (g_ml M)) (a0 + 2) 12 460 0 0) a0 12) = 0 then (k 2 (g_mi (mX6_put (g_wm M f (g_ml M)) (a0 + 2) 12 460 0 0)) a0 x1) else (if (g_mi (mX6_put (g_wm M f (g_ml M)) (a0 + 2) 12 460 0 0) (a0 + 11) ((g_mi (mX6_put (g_wm M f (g_ml M)) (a0 + 2) 12 460 0 0) a0 10)).toNatClampNeg) = 17 then (if (fX2_readTimes (mX6_put (g_wm M f (g_ml M)) (a0 + 2) 12 460 0 0) a0 x1) = 0 then (0, g_mi (mX2_readTimes (mX6_put (g_wm M f (g_ml M)) (a0 + 2) 12 460 0 0) a0 x1)) else (k 2 (g_mi (mX2_readTimes (mX6_put (g_wm M f (g_ml M)) (a0 + 2) 12 460 0 0) a0 x1)) a0 x1)) else (k 2 (g_mi (mX6_put (g_wm M f (g_ml M)) (a0 + 2) 12 460 0 0)) a0 x1)))
def eX2_readClause_103 (N : Nat) (K : Nat) (M : gM) (f : Nat → Nat → Int32) (a0 : Nat) (x1 : Int32) (k : Nat → (Nat → Nat → Int32) → Nat → Int32 → Prop) : Prop := (EX6_put (g_wm M f (g_ml M)) (a0 + 2) 12 460 0 0) ∧ ((¬ (g_mi (mX6_put (g_wm M f (g_ml M)) (a0 + 2) 12 460 0 0) a0 12) = 0) → vp_in ((g_mi (mX6_put (g_wm M f (g_ml M)) (a0 + 2) 12 460 0 0) a0 10)) 401) ∧ ((¬ (g_mi (mX6_put (g_wm M f (g_ml M)) (a0 + 2) 12 460 0 0) a0 12) = 0) → ((g_mi (mX6_put (g_wm M f (g_ml M)) (a0 + 2) 12 460 0 0) (a0 + 11) ((g_mi (mX6_put (g_wm M f (g_ml M)) (a0 + 2) 12 460 0 0) a0 10)).toNatClampNeg) = 17) → EX2_readTimes (mX6_put (g_wm M f (g_ml M)) (a0 + 2) 12 460 0 0) a0 x1) ∧ (if (g_mi (mX6_put (g_wm M f (g_ml M)) (a0 + 2) 12 460 0 0) a0 12) = 0 then (k 2 (g_mi (mX6_put (g_wm M f (g_ml M)) (a0 + 2) 12 460 0 0)) a0 x1) else (if (g_mi (mX6_put (g_wm M f (g_ml M)) (a0 + 2) 12 460 0 0) (a0 + 11) ((g_mi (mX6_put (g_wm M f (g_ml M)) (a0 + 2) 12 460 0 0) a0 10)).toNatClampNeg) = 17 then (if (fX2_readTimes (mX6_put (g_wm M f (g_ml M)) (a0 + 2) 12 460 0 0) a0 x1) = 0 then True else (k 2 (g_mi (mX2_readTimes (mX6_put (g_wm M f (g_ml M)) (a0 + 2) 12 460 0 0) a0 x1)) a0 x1)) else (k 2 (g_mi (mX6_put (g_wm M f (g_ml M)) (a0 + 2) 12 460 0 0)) a0 x1)))
def bX2_readClause_144 (N : Nat) (K : Nat) (M : gM) (f : Nat → Nat → Int32) (a0 : Nat) (x1 : Int32) (k : Nat → (Nat → Nat → Int32) → Nat → Int32 → Int32 × (Nat → Nat → Int32)) : Int32 × (Nat → Nat → Int32) := (if (g_mi (g_wi (g_wm M f (g_ml M)) ((a0 + 2) + 4) (x1).toNatClampNeg (g_mi (g_wm M f (g_ml M)) (a0 + 2) 7)) (a0 + 11) ((g_mi (g_wi (g_wm M f (g_ml M)) ((a0 + 2) + 4) (x1).toNatClampNeg (g_mi (g_wm M f (g_ml M)) (a0 + 2) 7)) a0 10)).toNatClampNeg) = 18 then (if (fX2_readTest N K (mX2_pass (g_wi (g_wm M f (g_ml M)) ((a0 + 2) + 4) (x1).toNatClampNeg (g_mi (g_wm M f (g_ml M)) (a0 + 2) 7)) a0) a0 0) = 0 then (0, g_mi (mX2_readTest N K (mX2_pass (g_wi (g_wm M f (g_ml M)) ((a0 + 2) + 4) (x1).toNatClampNeg (g_mi (g_wm M f (g_ml M)) (a0 + 2) 7)) a0) a0 0)) else (k 3 (g_mi (mX2_readTest N K (mX2_pass (g_wi (g_wm M f (g_ml M)) ((a0 + 2) + 4) (x1).toNatClampNeg (g_mi (g_wm M f (g_ml M)) (a0 + 2) 7)) a0) a0 0)) a0 x1)) else (k 3 (g_mi (mX6_put (g_wi (g_wm M f (g_ml M)) ((a0 + 2) + 4) (x1).toNatClampNeg (g_mi (g_wm M f (g_ml M)) (a0 + 2) 7)) (a0 + 2) 12 460 1 1)) a0 x1))
def eX2_readClause_144 (N : Nat) (K : Nat) (M : gM) (f : Nat → Nat → Int32) (a0 : Nat) (x1 : Int32) (k : Nat → (Nat → Nat → Int32) → Nat → Int32 → Prop) : Prop := (vp_in (x1) 12) ∧ (vp_in ((g_mi (g_wi (g_wm M f (g_ml M)) ((a0 + 2) + 4) (x1).toNatClampNeg (g_mi (g_wm M f (g_ml M)) (a0 + 2) 7)) a0 10)) 401) ∧ (((g_mi (g_wi (g_wm M f (g_ml M)) ((a0 + 2) + 4) (x1).toNatClampNeg (g_mi (g_wm M f (g_ml M)) (a0 + 2) 7)) (a0 + 11) ((g_mi (g_wi (g_wm M f (g_ml M)) ((a0 + 2) + 4) (x1).toNatClampNeg (g_mi (g_wm M f (g_ml M)) (a0 + 2) 7)) a0 10)).toNatClampNeg) = 18) → EX2_pass (g_wi (g_wm M f (g_ml M)) ((a0 + 2) + 4) (x1).toNatClampNeg (g_mi (g_wm M f (g_ml M)) (a0 + 2) 7)) a0) ∧ (((g_mi (g_wi (g_wm M f (g_ml M)) ((a0 + 2) + 4) (x1).toNatClampNeg (g_mi (g_wm M f (g_ml M)) (a0 + 2) 7)) (a0 + 11) ((g_mi (g_wi (g_wm M f (g_ml M)) ((a0 + 2) + 4) (x1).toNatClampNeg (g_mi (g_wm M f (g_ml M)) (a0 + 2) 7)) a0 10)).toNatClampNeg) = 18) → EX2_readTest N K (mX2_pass (g_wi (g_wm M f (g_ml M)) ((a0 + 2) + 4) (x1).toNatClampNeg (g_mi (g_wm M f (g_ml M)) (a0 + 2) 7)) a0) a0 0) ∧ ((¬ (g_mi (g_wi (g_wm M f (g_ml M)) ((a0 + 2) + 4) (x1).toNatClampNeg (g_mi (g_wm M f (g_ml M)) (a0 + 2) 7)) (a0 + 11) ((g_mi (g_wi (g_wm M f (g_ml M)) ((a0 + 2) + 4) (x1).toNatClampNeg (g_mi (g_wm M f (g_ml M)) (a0 + 2) 7)) a0 10)).toNatClampNeg) = 18) → EX6_put (g_wi (g_wm M f (g_ml M)) ((a0 + 2) + 4) (x1).toNatClampNeg (g_mi (g_wm M f (g_ml M)) (a0 + 2) 7)) (a0 + 2) 12 460 1 1) ∧ (if (g_mi (g_wi (g_wm M f (g_ml M)) ((a0 + 2) + 4) (x1).toNatClampNeg (g_mi (g_wm M f (g_ml M)) (a0 + 2) 7)) (a0 + 11) ((g_mi (g_wi (g_wm M f (g_ml M)) ((a0 + 2) + 4) (x1).toNatClampNeg (g_mi (g_wm M f (g_ml M)) (a0 + 2) 7)) a0 10)).toNatClampNeg) = 18 then (if (fX2_readTest N K (mX2_pass (g_wi (g_wm M f (g_ml M)) ((a0 + 2) + 4) (x1).toNatClampNeg (g_mi (g_wm M f (g_ml M)) (a0 + 2) 7)) a0) a0 0) = 0 then True else (k 3 (g_mi (mX2_readTest N K (mX2_pass (g_wi (g_wm M f (g_ml M)) ((a0 + 2) + 4) (x1).toNatClampNeg (g_mi (g_wm M f (g_ml M)) (a0 + 2) 7)) a0) a0 0)) a0 x1)) else (k 3 (g_mi (mX6_put (g_wi (g_wm M f (g_ml M)) ((a0 + 2) + 4) (x1).toNatClampNeg (g_mi (g_wm M f (g_ml M)) (a0 + 2) 7)) (a0 + 2) 12 460 1 1)) a0 x1))
def bX2_readClause_201 (N : Nat) (K : Nat) (M : gM) (f : Nat → Nat → Int32) (a0 : Nat) (x1 : Int32) (k : Nat → (Nat → Nat → Int32) → Nat → Int32 → Int32 × (Nat → Nat → Int32)) : Int32 × (Nat → Nat → Int32) := (1, g_mi (g_wi (mX6_put (g_wm M f (g_ml M)) (a0 + 2) 12 460 0 0) (a0 + 2) 6 (x1 + 1)))
def eX2_readClause_201 (N : Nat) (K : Nat) (M : gM) (f : Nat → Nat → Int32) (a0 : Nat) (x1 : Int32) (k : Nat → (Nat → Nat → Int32) → Nat → Int32 → Prop) : Prop := (EX6_put (g_wm M f (g_ml M)) (a0 + 2) 12 460 0 0) ∧ True
def wX2_readClause (N : Nat) (K : Nat) (M : gM) : Nat → Nat → (Nat → Nat → Int32) → Nat → Int32 → Int32 × (Nat → Nat → Int32)
  | 0, _, f, _, _ => (0, f)
  | n + 1, h, f, a0, x1 => if h = 0 then bX2_readClause_80 N K M f a0 x1 (wX2_readClause N K M n) else if h = 1 then bX2_readClause_103 N K M f a0 x1 (wX2_readClause N K M n) else if h = 2 then bX2_readClause_144 N K M f a0 x1 (wX2_readClause N K M n) else bX2_readClause_201 N K M f a0 x1 (wX2_readClause N K M n)
def vX2_readClause (N : Nat) (K : Nat) (M : gM) : Nat → Nat → (Nat → Nat → Int32) → Nat → Int32 → Prop
  | 0, _, _, _, _ => False
  | n + 1, h, f, a0, x1 => if h = 0 then eX2_readClause_80 N K M f a0 x1 (vX2_readClause N K M n) else if h = 1 then eX2_readClause_103 N K M f a0 x1 (vX2_readClause N K M n) else if h = 2 then eX2_readClause_144 N K M f a0 x1 (vX2_readClause N K M n) else eX2_readClause_201 N K M f a0 x1 (vX2_readClause N K M n)
set_option maxRecDepth 10000 in
theorem lpX2_readClause {X : gX} {d mc ms : Nat} {Q : Option Value → gM → Prop} (N : Nat) (K : Nat) (M : gM) : ∀ n : Nat, (∀ (f : Nat → Nat → Int32) (a0 : Nat) (x1 : Int32), Re M a0 → vX2_readClause N K M n 0 f a0 x1 → Q (some (.int (wX2_readClause N K M n 0 f a0 x1).1)) (g_wm M (wX2_readClause N K M n 0 f a0 x1).2 (g_ml M)) → Go X (d + K + 4) mc ms kX2_readClause Q 80 [(0, .ref a0), (1, .int (x1))] [] (g_wm M f (g_ml M)) 0 0) ∧ (∀ (f : Nat → Nat → Int32) (a0 : Nat) (x1 : Int32), Re M a0 → vX2_readClause N K M n 1 f a0 x1 → Q (some (.int (wX2_readClause N K M n 1 f a0 x1).1)) (g_wm M (wX2_readClause N K M n 1 f a0 x1).2 (g_ml M)) → Go X (d + K + 4) mc ms kX2_readClause Q 103 [(0, .ref a0), (1, .int (x1))] [] (g_wm M f (g_ml M)) 0 0) ∧ (∀ (f : Nat → Nat → Int32) (a0 : Nat) (x1 : Int32), Re M a0 → vX2_readClause N K M n 2 f a0 x1 → Q (some (.int (wX2_readClause N K M n 2 f a0 x1).1)) (g_wm M (wX2_readClause N K M n 2 f a0 x1).2 (g_ml M)) → Go X (d + K + 4) mc ms kX2_readClause Q 144 [(0, .ref a0), (1, .int (x1))] [] (g_wm M f (g_ml M)) 0 0) ∧ (∀ (f : Nat → Nat → Int32) (a0 : Nat) (x1 : Int32), Re M a0 → vX2_readClause N K M n 3 f a0 x1 → Q (some (.int (wX2_readClause N K M n 3 f a0 x1).1)) (g_wm M (wX2_readClause N K M n 3 f a0 x1).2 (g_ml M)) → Go X (d + K + 4) mc ms kX2_readClause Q 201 [(0, .ref a0), (1, .int (x1))] [] (g_wm M f (g_ml M)) 0 0) := by
  intro n
  induction n with
  | zero => exact ⟨fun _ _ _ _ h _ => h.elim, fun _ _ _ _ h _ => h.elim, fun _ _ _ _ h _ => h.elim, fun _ _ _ _ h _ => h.elim⟩
  | succ n ih =>
    refine ⟨?_, ?_, ?_, ?_⟩
    · intro f a0 x1 s0 hT hQ
      rw [vX2_readClause, if_pos (show (0 : Nat) = 0 from rfl)] at hT
      rw [wX2_readClause, if_pos (show (0 : Nat) = 0 from rfl)] at hQ
      unfold bX2_readClause_80 at hQ
      unfold eX2_readClause_80 at hT
      obtain ⟨b3, hT⟩ := hT
      exact sX2_readClause_80 (M := (g_wm M f (g_ml M))) (Re.sm Sm.wm s0) (Nat.zero_le _) (Nat.zero_le _) b3 (Sm.g (Sm.tr Sm.wm (Sm.tr Sm.rf jX6_put)) (ih.2.1 _ _ _ (s0) hT hQ))
    · intro f a0 x1 s0 hT hQ
      rw [vX2_readClause, if_neg (show ¬ (1 : Nat) = 0 by decide), if_pos (show (1 : Nat) = 1 from rfl)] at hT
      rw [wX2_readClause, if_neg (show ¬ (1 : Nat) = 0 by decide), if_pos (show (1 : Nat) = 1 from rfl)] at hQ
      unfold bX2_readClause_103 at hQ
      unfold eX2_readClause_103 at hT
      obtain ⟨b3, b5, b7, hT⟩ := hT
      exact sX2_readClause_103 (M := (g_wm M f (g_ml M))) (Re.sm Sm.wm s0) (Nat.zero_le _) (Nat.zero_le _) b3 (fun c1 => by simp only [if_pos c1] at hQ hT; exact Sm.g (Sm.tr Sm.wm (Sm.tr Sm.rf jX6_put)) (ih.2.2.1 _ _ _ (s0) hT hQ)) b5 (fun c1 c2 => by simp only [if_neg c1, if_neg c2] at hQ hT; exact Sm.g (Sm.tr Sm.wm (Sm.tr Sm.rf jX6_put)) (ih.2.2.1 _ _ _ (s0) hT hQ)) b7 (fun c1 c2 c3 => by simp only [if_neg c1, if_pos c2, if_neg c3] at hQ hT; exact Sm.g (Sm.tr Sm.wm (Sm.tr (Sm.tr Sm.rf jX6_put) jX2_readTimes)) (ih.2.2.1 _ _ _ (s0) hT hQ)) (fun c1 c2 c3 => by simp only [if_neg c1, if_pos c2, if_pos c3] at hQ; exact Sm.q (Sm.tr Sm.wm (Sm.tr (Sm.tr Sm.rf jX6_put) jX2_readTimes)) hQ)
    · intro f a0 x1 s0 hT hQ
      rw [vX2_readClause, if_neg (show ¬ (2 : Nat) = 0 by decide), if_neg (show ¬ (2 : Nat) = 1 by decide), if_pos (show (2 : Nat) = 2 from rfl)] at hT
      rw [wX2_readClause, if_neg (show ¬ (2 : Nat) = 0 by decide), if_neg (show ¬ (2 : Nat) = 1 by decide), if_pos (show (2 : Nat) = 2 from rfl)] at hQ
      unfold bX2_readClause_144 at hQ
      unfold eX2_readClause_144 at hT
      obtain ⟨b1, b2, b5, b6, b9, hT⟩ := hT
      exact sX2_readClause_144 (M := (g_wm M f (g_ml M))) (Re.sm Sm.wm s0) b1 b2 (Nat.zero_le _) (Nat.zero_le _) b5 b6 (fun c1 c2 => by simp only [if_pos c1, if_neg c2] at hQ hT; exact Sm.g (Sm.tr Sm.wm (Sm.tr (Sm.tr (Sm.wi Sm.rf) jX2_pass) jX2_readTest)) (ih.2.2.2 _ _ _ (s0) hT hQ)) (fun c1 c2 => by simp only [if_pos c1, if_pos c2] at hQ; exact Sm.q (Sm.tr Sm.wm (Sm.tr (Sm.tr (Sm.wi Sm.rf) jX2_pass) jX2_readTest)) hQ) b9 (fun c1 => by simp only [if_neg c1] at hQ hT; exact Sm.g (Sm.tr Sm.wm (Sm.tr (Sm.wi Sm.rf) jX6_put)) (ih.2.2.2 _ _ _ (s0) hT hQ))
    · intro f a0 x1 s0 hT hQ
      rw [vX2_readClause, if_neg (show ¬ (3 : Nat) = 0 by decide), if_neg (show ¬ (3 : Nat) = 1 by decide), if_neg (show ¬ (3 : Nat) = 2 by decide)] at hT
      rw [wX2_readClause, if_neg (show ¬ (3 : Nat) = 0 by decide), if_neg (show ¬ (3 : Nat) = 1 by decide), if_neg (show ¬ (3 : Nat) = 2 by decide)] at hQ
      unfold bX2_readClause_201 at hQ
      unfold eX2_readClause_201 at hT
      obtain ⟨b3, hT⟩ := hT
      exact sX2_readClause_201 (M := (g_wm M f (g_ml M))) (Re.sm Sm.wm s0) (Nat.zero_le _) (Nat.zero_le _) b3 (Sm.q (Sm.tr Sm.wm (Sm.wi (Sm.tr Sm.rf jX6_put))) hQ)
def fX2_readClause (N : Nat) (K : Nat) (M : gM) (a0 : Nat) (x1 : Int32) : Int32 := (bX2_readClause_0 N K M a0 x1 (wX2_readClause N K M N)).1
def mX2_readClause (N : Nat) (K : Nat) (M : gM) (a0 : Nat) (x1 : Int32) : gM := g_wm M (bX2_readClause_0 N K M a0 x1 (wX2_readClause N K M N)).2 (g_ml M)
theorem jX2_readClause {N : Nat} {K : Nat} {M : gM} {a0 : Nat} {x1 : Int32} : Sm M (mX2_readClause N K M a0 x1) := Sm.wm
def EX2_readClause (N : Nat) (K : Nat) (M : gM) (a0 : Nat) (x1 : Int32) : Prop := eX2_readClause_0 N K M a0 x1 (vX2_readClause N K M N)
theorem tX2_readClause {N : Nat} {K : Nat} {X : gX} {d mc ms : Nat} {Q : Option Value → gM → Prop} {M : gM} {a0 : Nat} {x1 : Int32} (s0 : Re M a0) (hE : EX2_readClause N K M a0 x1) (hQ : Q (some (.int (fX2_readClause N K M a0 x1))) (mX2_readClause N K M a0 x1)) : Cn X (d + K + 4) mc ms kX2_readClause [.ref a0, .int (x1)] M Q := by
  unfold fX2_readClause mX2_readClause at hQ
  unfold bX2_readClause_0 at hQ
  unfold EX2_readClause eX2_readClause_0 at hE
  obtain ⟨b1, b2, b3, b5, b9, b11, b12, b13, b14, b16, b20, b22, hT⟩ := hE
  have ih := lpX2_readClause (X := X) (d := d) (mc := mc) (ms := ms) (Q := Q) N K M N
  exact sX2_readClause_0 s0 b1 b2 b3 (fun c1 c2 c3 => by simp only [if_pos c1, if_neg c2, if_pos c3] at hQ hT; exact Sm.g (Sm.wi (Sm.wi (Sm.wi (Sm.tr Sm.rf jX2_pass)))) (ih.1 _ _ _ (s0) hT hQ)) b5 (fun c1 c2 c3 c4 c5 => by simp only [if_pos c1, if_neg c2, if_neg c3, if_neg c4, if_neg c5] at hQ hT; exact Sm.g (Sm.tr (Sm.wi (Sm.wi (Sm.wi (Sm.tr Sm.rf jX2_pass)))) jX2_readSum) (ih.2.1 _ _ _ (s0) hT hQ)) (fun c1 c2 c3 c4 c5 => by simp only [if_pos c1, if_neg c2, if_neg c3, if_neg c4, if_pos c5] at hQ; exact Sm.q (Sm.tr (Sm.wi (Sm.wi (Sm.wi (Sm.tr Sm.rf jX2_pass)))) jX2_readSum) hQ) (fun c1 c2 c3 c4 => by simp only [if_pos c1, if_neg c2, if_neg c3, if_pos c4] at hQ hT; exact Sm.g (Sm.wi (Sm.wi (Sm.wi (Sm.tr Sm.rf jX2_pass)))) (ih.1 _ _ _ (s0) hT hQ)) b9 (fun c1 c2 => by simp only [if_pos c1, if_pos c2] at hQ; exact Sm.q (Sm.tr Sm.rf jX2_fail) hQ) b11 b12 b13 b14 (fun c1 c6 c7 => by simp only [if_neg c1, if_neg c6, if_pos c7] at hQ hT; exact Sm.g (Sm.wi (Sm.wi (Sm.wi (Sm.tr Sm.rf jX2_pass)))) (ih.1 _ _ _ (s0) hT hQ)) b16 (fun c1 c6 c7 c8 c9 => by simp only [if_neg c1, if_neg c6, if_neg c7, if_neg c8, if_neg c9] at hQ hT; exact Sm.g (Sm.tr (Sm.wi (Sm.wi (Sm.wi (Sm.tr Sm.rf jX2_pass)))) jX2_readSum) (ih.2.1 _ _ _ (s0) hT hQ)) (fun c1 c6 c7 c8 c9 => by simp only [if_neg c1, if_neg c6, if_neg c7, if_neg c8, if_pos c9] at hQ; exact Sm.q (Sm.tr (Sm.wi (Sm.wi (Sm.wi (Sm.tr Sm.rf jX2_pass)))) jX2_readSum) hQ) (fun c1 c6 c7 c8 => by simp only [if_neg c1, if_neg c6, if_neg c7, if_pos c8] at hQ hT; exact Sm.g (Sm.wi (Sm.wi (Sm.wi (Sm.tr Sm.rf jX2_pass)))) (ih.1 _ _ _ (s0) hT hQ)) b20 (fun c1 c6 => by simp only [if_neg c1, if_pos c6] at hQ; exact Sm.q (Sm.tr Sm.rf jX2_fail) hQ) b22
