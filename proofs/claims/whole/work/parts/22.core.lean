/-! X1_coreSize  -/
set_option maxRecDepth 4000 in
theorem sX1_coreSize_0 {N : Nat} {X : gX} {d mc ms : Nat} {Q : Option Value → gM → Prop} {M : gM} {a0 : Nat} {a1 : Nat} {x2 : Int32} {x3 : Int32} (s0 : Pe M a0) (s1 : St M a1) (b1 : EX1_lay N M a0 a1 x2 x3) (h2 : Go X (d + 2) mc ms kX1_coreSize Q 13 [(0, .ref a0), (1, .ref a1), (3, .int (x3)), (4, .int (0)), (5, .int (0))] [] (mX1_lay N M a0 a1 x2 x3) 0 0) : Cn X (d + 2) mc ms kX1_coreSize [.ref a0, .ref a1, .int (x2), .int (x3)] M Q := by
  refine g_meth rfl rfl (Nat.le_of_ble_eq_true rfl) rfl ?_
  refine g_aload_n 0 1 dX1_coreSize_0 rfl rfl ?_
  refine g_aload_n 1 2 dX1_coreSize_1 rfl rfl ?_
  refine g_iload_n 2 3 dX1_coreSize_2 rfl rfl ?_
  refine g_iload_n 3 4 dX1_coreSize_3 rfl rfl ?_
  refine g_callV (mc1 := 0) (ms1 := 0) (b := a0) (rest := []) (av := [.ref a1, .int (x2), .int (x3)]) kX1_lay 7 dX1_coreSize_4 rfl rfl mbX1_47 imX1_lay seX1_lay gcl1.1 s0.1 (Nat.le_of_ble_eq_true rfl) (Nat.zero_le _) (Nat.zero_le _) (tX1_lay (N := N) s0 s1 (b1) ?_)
  show Go X (d + 2) mc ms kX1_coreSize Q 7 [(0, .ref a0), (1, .ref a1), (2, .int (x2)), (3, .int (x3))] [] (mX1_lay N M a0 a1 x2 x3) 0 0
  refine g_iconst (0) 8 dX1_coreSize_7 rfl rfl ?_
  refine g_istore 10 [(4, .int (0)), (0, .ref a0), (1, .ref a1), (2, .int (x2)), (3, .int (x3))] dX1_coreSize_8 rfl (Nat.le_of_ble_eq_true rfl) rfl ?_
  refine g_iconst (0) 11 dX1_coreSize_10 rfl rfl ?_
  refine g_istore 13 [(5, .int (0)), (4, .int (0)), (0, .ref a0), (1, .ref a1), (2, .int (x2)), (3, .int (x3))] dX1_coreSize_11 rfl (Nat.le_of_ble_eq_true rfl) rfl ?_
  exact g_sub [2, 3, 5, 1, 0] _ rfl (h2)

set_option maxRecDepth 4000 in
theorem sX1_coreSize_13 {X : gX} {d mc ms : Nat} {Q : Option Value → gM → Prop} {M : gM} {c z : Nat} {a0 : Nat} {a1 : Nat} {x3 : Int32} {x4 : Int32} {x5 : Int32} (s0 : Pe M a0) (s1 : St M a1) (h1 : ((3 * x3) ≤ x5) → Go X (d + 2) mc ms kX1_coreSize Q 66 [(0, .ref a0), (4, .int (x4)), (5, .int ((g_mi M a1 3))), (6, .int (0))] [] M c z) (h2 : (¬ (3 * x3) ≤ x5) → (60 ≤ x5) → Go X (d + 2) mc ms kX1_coreSize Q 66 [(0, .ref a0), (4, .int (x4)), (5, .int ((g_mi M a1 3))), (6, .int (0))] [] M c z) (b3 : (¬ (3 * x3) ≤ x5) → (¬ 60 ≤ x5) → vp_in (x5) 60) (h4 : (¬ (3 * x3) ≤ x5) → (¬ 60 ≤ x5) → (¬ (g_mi M (a0 + 4) (x5).toNatClampNeg) = 1) → Go X (d + 2) mc ms kX1_coreSize Q 13 [(0, .ref a0), (1, .ref a1), (3, .int (x3)), (4, .int (x4)), (5, .int ((x5 + 1)))] [] M c z) (b5 : (¬ (3 * x3) ≤ x5) → (¬ 60 ≤ x5) → ((g_mi M (a0 + 4) (x5).toNatClampNeg) = 1) → vp_in (x4) 63) (h6 : (¬ (3 * x3) ≤ x5) → (¬ 60 ≤ x5) → ((g_mi M (a0 + 4) (x5).toNatClampNeg) = 1) → Go X (d + 2) mc ms kX1_coreSize Q 13 [(0, .ref a0), (1, .ref a1), (3, .int (x3)), (4, .int ((x4 + 1))), (5, .int ((x5 + 1)))] [] (g_wi M (a0 + 7) (x4).toNatClampNeg x5) c z) : Go X (d + 2) mc ms kX1_coreSize Q 13 [(0, .ref a0), (1, .ref a1), (3, .int (x3)), (4, .int (x4)), (5, .int (x5))] [] M c z := by
  refine g_iload 4 15 dX1_coreSize_13 rfl rfl ?_
  refine g_iconst (3) 16 dX1_coreSize_15 rfl rfl ?_
  refine g_iload_n 2 17 dX1_coreSize_16 rfl rfl ?_
  refine g_imul 18 dX1_coreSize_17 rfl ?_
  refine g_icmp_ge 57 21 dX1_coreSize_18 rfl rfl (fun c1 => ?_) (fun c1 => ?_)
  · skip
    refine g_aload_n 1 58 dX1_coreSize_57 rfl rfl ?_
    refine g_getI 61 dX1_coreSize_58 rfl flX1_37 s1.1 ?_
    refine g_istore 63 [(5, .int ((g_mi M a1 3))), (0, .ref a0), (1, .ref a1), (3, .int (x3)), (4, .int (x4))] dX1_coreSize_61 rfl (Nat.le_of_ble_eq_true rfl) rfl ?_
    refine g_iconst (0) 64 dX1_coreSize_63 rfl rfl ?_
    refine g_istore 66 [(6, .int (0)), (5, .int ((g_mi M a1 3))), (0, .ref a0), (1, .ref a1), (3, .int (x3)), (4, .int (x4))] dX1_coreSize_64 rfl (Nat.le_of_ble_eq_true rfl) rfl ?_
    exact g_sub [2, 5, 1, 0] _ rfl (h1 c1)
  · skip
    refine g_iload 4 23 dX1_coreSize_21 rfl rfl ?_
    refine g_bipush (60) 25 dX1_coreSize_23 rfl rfl ?_
    refine g_icmp_ge 57 28 dX1_coreSize_25 rfl rfl (fun c2 => ?_) (fun c2 => ?_)
    · skip
      refine g_aload_n 1 58 dX1_coreSize_57 rfl rfl ?_
      refine g_getI 61 dX1_coreSize_58 rfl flX1_37 s1.1 ?_
      refine g_istore 63 [(5, .int ((g_mi M a1 3))), (0, .ref a0), (1, .ref a1), (3, .int (x3)), (4, .int (x4))] dX1_coreSize_61 rfl (Nat.le_of_ble_eq_true rfl) rfl ?_
      refine g_iconst (0) 64 dX1_coreSize_63 rfl rfl ?_
      refine g_istore 66 [(6, .int (0)), (5, .int ((g_mi M a1 3))), (0, .ref a0), (1, .ref a1), (3, .int (x3)), (4, .int (x4))] dX1_coreSize_64 rfl (Nat.le_of_ble_eq_true rfl) rfl ?_
      exact g_sub [2, 5, 1, 0] _ rfl (h2 c1 c2)
    · skip
      refine g_aload_n 0 29 dX1_coreSize_28 rfl rfl ?_
      refine g_getR 32 (a0 + 4) dX1_coreSize_29 rfl flX1_21 s0.1 s0.2.2.2.2.2.2.2.1 ?_
      refine g_iload 4 34 dX1_coreSize_32 rfl rfl ?_
      refine h_iaload 35 (x5).toNatClampNeg dX1_coreSize_34 rfl rfl s0.2.2.2.2.2.2.2.2.1 (b3 c1 c2) ?_
      refine g_iconst (1) 36 dX1_coreSize_35 rfl rfl ?_
      refine g_icmp_ne 51 39 dX1_coreSize_36 rfl rfl (fun c3 => ?_) (fun c3 => ?_)
      · skip
        refine g_iinc _ 4 54 [(5, .int ((x5 + 1))), (0, .ref a0), (1, .ref a1), (3, .int (x3)), (4, .int (x4))] dX1_coreSize_51 rfl rfl rfl (Nat.le_of_ble_eq_true rfl) rfl ?_
        refine g_goto 13 dX1_coreSize_54 rfl ?_
        exact g_sub [1, 2, 3, 4, 0] _ rfl (h4 c1 c2 c3)
      · skip
        refine g_aload_n 0 40 dX1_coreSize_39 rfl rfl ?_
        refine g_getR 43 (a0 + 7) dX1_coreSize_40 rfl flX1_30 s0.1 s0.2.2.2.2.2.2.2.2.2.2.2.2.2.1 ?_
        refine g_iload 3 45 dX1_coreSize_43 rfl rfl ?_
        refine g_iload 4 47 dX1_coreSize_45 rfl rfl ?_
        refine h_iastore 48 (x4).toNatClampNeg dX1_coreSize_47 rfl rfl s0.2.2.2.2.2.2.2.2.2.2.2.2.2.2.1 (b5 c1 c2 c3) ?_
        refine g_iinc _ 3 51 [(4, .int ((x4 + 1))), (0, .ref a0), (1, .ref a1), (3, .int (x3)), (5, .int (x5))] dX1_coreSize_48 rfl rfl rfl (Nat.le_of_ble_eq_true rfl) rfl ?_
        refine g_iinc _ 4 54 [(5, .int ((x5 + 1))), (4, .int ((x4 + 1))), (0, .ref a0), (1, .ref a1), (3, .int (x3))] dX1_coreSize_51 rfl rfl rfl (Nat.le_of_ble_eq_true rfl) rfl ?_
        refine g_goto 13 dX1_coreSize_54 rfl ?_
        exact g_sub [2, 3, 4, 1, 0] _ rfl (h6 c1 c2 c3)

set_option maxRecDepth 4000 in
theorem sX1_coreSize_66 {N : Nat} {X : gX} {d mc ms : Nat} {Q : Option Value → gM → Prop} {M : gM} {c z : Nat} {a0 : Nat} {x4 : Int32} {x5 : Int32} {x6 : Int32} (s0 : Pe M a0) (h1 : (x4 ≤ x6) → Q (some (.int (x5))) M) (w2 : c ≤ mc) (w3 : z ≤ ms) (h4 : (¬ x4 ≤ x6) → (60 ≤ x6) → Q (some (.int (x5))) M) (b5 : (¬ x4 ≤ x6) → (¬ 60 ≤ x6) → vp_in (x6) 63) (b6 : (¬ x4 ≤ x6) → (¬ 60 ≤ x6) → vp_in ((g_mi M (a0 + 7) (x6).toNatClampNeg)) 60) (h7 : (¬ x4 ≤ x6) → (¬ 60 ≤ x6) → (¬ (g_mi M (a0 + 4) ((g_mi M (a0 + 7) (x6).toNatClampNeg)).toNatClampNeg) = 1) → Go X (d + 2) mc ms kX1_coreSize Q 66 [(0, .ref a0), (4, .int (x4)), (5, .int (x5)), (6, .int ((x6 + 1)))] [] M c z) (b8 : (¬ x4 ≤ x6) → (¬ 60 ≤ x6) → ((g_mi M (a0 + 4) ((g_mi M (a0 + 7) (x6).toNatClampNeg)).toNatClampNeg) = 1) → vp_in ((g_mi M (a0 + 7) (x6).toNatClampNeg)) 60) (b9 : (¬ x4 ≤ x6) → (¬ 60 ≤ x6) → ((g_mi M (a0 + 4) ((g_mi M (a0 + 7) (x6).toNatClampNeg)).toNatClampNeg) = 1) → EX1_letGo N M a0 (g_mi M (a0 + 5) ((g_mi M (a0 + 7) (x6).toNatClampNeg)).toNatClampNeg) x4) (h10 : (¬ x4 ≤ x6) → (¬ 60 ≤ x6) → ((g_mi M (a0 + 4) ((g_mi M (a0 + 7) (x6).toNatClampNeg)).toNatClampNeg) = 1) → Go X (d + 2) mc ms kX1_coreSize Q 66 [(0, .ref a0), (4, .int ((fX1_letGo N M a0 (g_mi M (a0 + 5) ((g_mi M (a0 + 7) (x6).toNatClampNeg)).toNatClampNeg) x4))), (5, .int ((x5 + (-1)))), (6, .int ((x6 + 1)))] [] (mX1_letGo N M a0 (g_mi M (a0 + 5) ((g_mi M (a0 + 7) (x6).toNatClampNeg)).toNatClampNeg) x4) c z) : Go X (d + 2) mc ms kX1_coreSize Q 66 [(0, .ref a0), (4, .int (x4)), (5, .int (x5)), (6, .int (x6))] [] M c z := by
  refine g_iload 3 68 dX1_coreSize_66 rfl rfl ?_
  refine g_iload 1 70 dX1_coreSize_68 rfl rfl ?_
  refine g_icmp_ge 124 73 dX1_coreSize_70 rfl rfl (fun c1 => ?_) (fun c1 => ?_)
  · skip
    refine g_iload 2 126 dX1_coreSize_124 rfl rfl ?_
    exact g_iret dX1_coreSize_126 rfl (w2) (w3) (h1 c1)
  · skip
    refine g_iload 3 75 dX1_coreSize_73 rfl rfl ?_
    refine g_bipush (60) 77 dX1_coreSize_75 rfl rfl ?_
    refine g_icmp_ge 124 80 dX1_coreSize_77 rfl rfl (fun c2 => ?_) (fun c2 => ?_)
    · skip
      refine g_iload 2 126 dX1_coreSize_124 rfl rfl ?_
      exact g_iret dX1_coreSize_126 rfl (w2) (w3) (h4 c1 c2)
    · skip
      refine g_aload_n 0 81 dX1_coreSize_80 rfl rfl ?_
      refine g_getR 84 (a0 + 7) dX1_coreSize_81 rfl flX1_30 s0.1 s0.2.2.2.2.2.2.2.2.2.2.2.2.2.1 ?_
      refine g_iload 3 86 dX1_coreSize_84 rfl rfl ?_
      refine h_iaload 87 (x6).toNatClampNeg dX1_coreSize_86 rfl rfl s0.2.2.2.2.2.2.2.2.2.2.2.2.2.2.1 (b5 c1 c2) ?_
      refine g_istore 89 [(7, .int ((g_mi M (a0 + 7) (x6).toNatClampNeg))), (0, .ref a0), (4, .int (x4)), (5, .int (x5)), (6, .int (x6))] dX1_coreSize_87 rfl (Nat.le_of_ble_eq_true rfl) rfl ?_
      refine g_aload_n 1 90 dX1_coreSize_89 rfl rfl ?_
      refine g_getR 93 (a0 + 4) dX1_coreSize_90 rfl flX1_21 s0.1 s0.2.2.2.2.2.2.2.1 ?_
      refine g_iload 0 95 dX1_coreSize_93 rfl rfl ?_
      refine h_iaload 96 ((g_mi M (a0 + 7) (x6).toNatClampNeg)).toNatClampNeg dX1_coreSize_95 rfl rfl s0.2.2.2.2.2.2.2.2.1 (b6 c1 c2) ?_
      refine g_iconst (1) 97 dX1_coreSize_96 rfl rfl ?_
      refine g_icmp_ne 118 100 dX1_coreSize_97 rfl rfl (fun c3 => ?_) (fun c3 => ?_)
      · skip
        refine g_iinc _ 4 121 [(6, .int ((x6 + 1))), (7, .int ((g_mi M (a0 + 7) (x6).toNatClampNeg))), (0, .ref a0), (4, .int (x4)), (5, .int (x5))] dX1_coreSize_118 rfl rfl rfl (Nat.le_of_ble_eq_true rfl) rfl ?_
        refine g_goto 66 dX1_coreSize_121 rfl ?_
        exact g_sub [2, 3, 4, 0] _ rfl (h7 c1 c2 c3)
      · skip
        refine g_aload_n 1 101 dX1_coreSize_100 rfl rfl ?_
        refine g_aload_n 1 102 dX1_coreSize_101 rfl rfl ?_
        refine g_getR 105 (a0 + 5) dX1_coreSize_102 rfl flX1_24 s0.1 s0.2.2.2.2.2.2.2.2.2.1 ?_
        refine g_iload 0 107 dX1_coreSize_105 rfl rfl ?_
        refine h_iaload 108 ((g_mi M (a0 + 7) (x6).toNatClampNeg)).toNatClampNeg dX1_coreSize_107 rfl rfl s0.2.2.2.2.2.2.2.2.2.2.1 (b8 c1 c2 c3) ?_
        refine g_iload 2 110 dX1_coreSize_108 rfl rfl ?_
        refine g_callV (mc1 := 0) (ms1 := 0) (b := a0) (rest := []) (av := [.int ((g_mi M (a0 + 5) ((g_mi M (a0 + 7) (x6).toNatClampNeg)).toNatClampNeg)), .int (x4)]) kX1_letGo 113 dX1_coreSize_110 rfl rfl mbX1_51 imX1_letGo seX1_letGo gcl1.1 s0.1 (Nat.le_of_ble_eq_true rfl) (w2) (w3) (tX1_letGo (N := N) s0 (b9 c1 c2 c3) ?_)
        show Go X (d + 2) mc ms kX1_coreSize Q 113 [(7, .int ((g_mi M (a0 + 7) (x6).toNatClampNeg))), (0, .ref a0), (4, .int (x4)), (5, .int (x5)), (6, .int (x6))] [.int ((fX1_letGo N M a0 (g_mi M (a0 + 5) ((g_mi M (a0 + 7) (x6).toNatClampNeg)).toNatClampNeg) x4))] (mX1_letGo N M a0 (g_mi M (a0 + 5) ((g_mi M (a0 + 7) (x6).toNatClampNeg)).toNatClampNeg) x4) c z
        refine g_istore 115 [(4, .int ((fX1_letGo N M a0 (g_mi M (a0 + 5) ((g_mi M (a0 + 7) (x6).toNatClampNeg)).toNatClampNeg) x4))), (7, .int ((g_mi M (a0 + 7) (x6).toNatClampNeg))), (0, .ref a0), (5, .int (x5)), (6, .int (x6))] dX1_coreSize_113 rfl (Nat.le_of_ble_eq_true rfl) rfl ?_
        refine g_iinc _ 3 118 [(5, .int ((x5 + (-1)))), (4, .int ((fX1_letGo N M a0 (g_mi M (a0 + 5) ((g_mi M (a0 + 7) (x6).toNatClampNeg)).toNatClampNeg) x4))), (7, .int ((g_mi M (a0 + 7) (x6).toNatClampNeg))), (0, .ref a0), (6, .int (x6))] dX1_coreSize_115 rfl rfl rfl (Nat.le_of_ble_eq_true rfl) rfl ?_
        refine g_iinc _ 4 121 [(6, .int ((x6 + 1))), (5, .int ((x5 + (-1)))), (4, .int ((fX1_letGo N M a0 (g_mi M (a0 + 5) ((g_mi M (a0 + 7) (x6).toNatClampNeg)).toNatClampNeg) x4))), (7, .int ((g_mi M (a0 + 7) (x6).toNatClampNeg))), (0, .ref a0)] dX1_coreSize_118 rfl rfl rfl (Nat.le_of_ble_eq_true rfl) rfl ?_
        refine g_goto 66 dX1_coreSize_121 rfl ?_
        exact g_sub [4, 2, 1, 0] _ rfl (h10 c1 c2 c3)

def bX1_coreSize_0 (N : Nat) (M : gM) (a0 : Nat) (a1 : Nat) (x2 : Int32) (x3 : Int32) (k : Nat → (Nat → Nat → Int32) → Nat → Nat → Int32 → Int32 → Int32 → Int32 → Int32 × (Nat → Nat → Int32)) : Int32 × (Nat → Nat → Int32) := (k 0 (g_mi (mX1_lay N M a0 a1 x2 x3)) a0 a1 x3 0 0 0)
def eX1_coreSize_0 (N : Nat) (M : gM) (a0 : Nat) (a1 : Nat) (x2 : Int32) (x3 : Int32) (k : Nat → (Nat → Nat → Int32) → Nat → Nat → Int32 → Int32 → Int32 → Int32 → Prop) : Prop := (EX1_lay N M a0 a1 x2 x3) ∧ (k 0 (g_mi (mX1_lay N M a0 a1 x2 x3)) a0 a1 x3 0 0 0)
def bX1_coreSize_13 (N : Nat) (M : gM) (f : Nat → Nat → Int32) (a0 : Nat) (a1 : Nat) (x3 : Int32) (x4 : Int32) (x5 : Int32) (k : Nat → (Nat → Nat → Int32) → Nat → Nat → Int32 → Int32 → Int32 → Int32 → Int32 × (Nat → Nat → Int32)) : Int32 × (Nat → Nat → Int32) := (if (3 * x3) ≤ x5 then (k 1 (g_mi (g_wm M f (g_ml M))) a0 0 0 x4 (g_mi (g_wm M f (g_ml M)) a1 3) 0) else (if 60 ≤ x5 then (k 1 (g_mi (g_wm M f (g_ml M))) a0 0 0 x4 (g_mi (g_wm M f (g_ml M)) a1 3) 0) else (if (g_mi (g_wm M f (g_ml M)) (a0 + 4) (x5).toNatClampNeg) = 1 then (k 0 (g_mi (g_wi (g_wm M f (g_ml M)) (a0 + 7) (x4).toNatClampNeg x5)) a0 a1 x3 (x4 + 1) (x5 + 1) 0) else (k 0 (g_mi (g_wm M f (g_ml M))) a0 a1 x3 x4 (x5 + 1) 0))))
def eX1_coreSize_13 (N : Nat) (M : gM) (f : Nat → Nat → Int32) (a0 : Nat) (a1 : Nat) (x3 : Int32) (x4 : Int32) (x5 : Int32) (k : Nat → (Nat → Nat → Int32) → Nat → Nat → Int32 → Int32 → Int32 → Int32 → Prop) : Prop := ((¬ (3 * x3) ≤ x5) → (¬ 60 ≤ x5) → vp_in (x5) 60) ∧ ((¬ (3 * x3) ≤ x5) → (¬ 60 ≤ x5) → ((g_mi (g_wm M f (g_ml M)) (a0 + 4) (x5).toNatClampNeg) = 1) → vp_in (x4) 63) ∧ (if (3 * x3) ≤ x5 then (k 1 (g_mi (g_wm M f (g_ml M))) a0 0 0 x4 (g_mi (g_wm M f (g_ml M)) a1 3) 0) else (if 60 ≤ x5 then (k 1 (g_mi (g_wm M f (g_ml M))) a0 0 0 x4 (g_mi (g_wm M f (g_ml M)) a1 3) 0) else (if (g_mi (g_wm M f (g_ml M)) (a0 + 4) (x5).toNatClampNeg) = 1 then (k 0 (g_mi (g_wi (g_wm M f (g_ml M)) (a0 + 7) (x4).toNatClampNeg x5)) a0 a1 x3 (x4 + 1) (x5 + 1) 0) else (k 0 (g_mi (g_wm M f (g_ml M))) a0 a1 x3 x4 (x5 + 1) 0))))
def bX1_coreSize_66 (N : Nat) (M : gM) (f : Nat → Nat → Int32) (a0 : Nat) (x4 : Int32) (x5 : Int32) (x6 : Int32) (k : Nat → (Nat → Nat → Int32) → Nat → Nat → Int32 → Int32 → Int32 → Int32 → Int32 × (Nat → Nat → Int32)) : Int32 × (Nat → Nat → Int32) := (if x4 ≤ x6 then (x5, g_mi (g_wm M f (g_ml M))) else (if 60 ≤ x6 then (x5, g_mi (g_wm M f (g_ml M))) else (if (g_mi (g_wm M f (g_ml M)) (a0 + 4) ((g_mi (g_wm M f (g_ml M)) (a0 + 7) (x6).toNatClampNeg)).toNatClampNeg) = 1 then (k 1 (g_mi (mX1_letGo N (g_wm M f (g_ml M)) a0 (g_mi (g_wm M f (g_ml M)) (a0 + 5) ((g_mi (g_wm M f (g_ml M)) (a0 + 7) (x6).toNatClampNeg)).toNatClampNeg) x4)) a0 0 0 (fX1_letGo N (g_wm M f (g_ml M)) a0 (g_mi (g_wm M f (g_ml M)) (a0 + 5) ((g_mi (g_wm M f (g_ml M)) (a0 + 7) (x6).toNatClampNeg)).toNatClampNeg) x4) (x5 + (-1)) (x6 + 1)) else (k 1 (g_mi (g_wm M f (g_ml M))) a0 0 0 x4 x5 (x6 + 1)))))
def eX1_coreSize_66 (N : Nat) (M : gM) (f : Nat → Nat → Int32) (a0 : Nat) (x4 : Int32) (x5 : Int32) (x6 : Int32) (k : Nat → (Nat → Nat → Int32) → Nat → Nat → Int32 → Int32 → Int32 → Int32 → Prop) : Prop := ((¬ x4 ≤ x6) → (¬ 60 ≤ x6) → vp_in (x6) 63) ∧ ((¬ x4 ≤ x6) → (¬ 60 ≤ x6) → vp_in ((g_mi (g_wm M f (g_ml M)) (a0 + 7) (x6).toNatClampNeg)) 60) ∧ ((¬ x4 ≤ x6) → (¬ 60 ≤ x6) → ((g_mi (g_wm M f (g_ml M)) (a0 + 4) ((g_mi (g_wm M f (g_ml M)) (a0 + 7) (x6).toNatClampNeg)).toNatClampNeg) = 1) → vp_in ((g_mi (g_wm M f (g_ml M)) (a0 + 7) (x6).toNatClampNeg)) 60) ∧ ((¬ x4 ≤ x6) → (¬ 60 ≤ x6) → ((g_mi (g_wm M f (g_ml M)) (a0 + 4) ((g_mi (g_wm M f (g_ml M)) (a0 + 7) (x6).toNatClampNeg)).toNatClampNeg) = 1) → EX1_letGo N (g_wm M f (g_ml M)) a0 (g_mi (g_wm M f (g_ml M)) (a0 + 5) ((g_mi (g_wm M f (g_ml M)) (a0 + 7) (x6).toNatClampNeg)).toNatClampNeg) x4) ∧ (if x4 ≤ x6 then True else (if 60 ≤ x6 then True else (if (g_mi (g_wm M f (g_ml M)) (a0 + 4) ((g_mi (g_wm M f (g_ml M)) (a0 + 7) (x6).toNatClampNeg)).toNatClampNeg) = 1 then (k 1 (g_mi (mX1_letGo N (g_wm M f (g_ml M)) a0 (g_mi (g_wm M f (g_ml M)) (a0 + 5) ((g_mi (g_wm M f (g_ml M)) (a0 + 7) (x6).toNatClampNeg)).toNatClampNeg) x4)) a0 0 0 (fX1_letGo N (g_wm M f (g_ml M)) a0 (g_mi (g_wm M f (g_ml M)) (a0 + 5) ((g_mi (g_wm M f (g_ml M)) (a0 + 7) (x6).toNatClampNeg)).toNatClampNeg) x4) (x5 + (-1)) (x6 + 1)) else (k 1 (g_mi (g_wm M f (g_ml M))) a0 0 0 x4 x5 (x6 + 1)))))
def wX1_coreSize (N : Nat) (M : gM) : Nat → Nat → (Nat → Nat → Int32) → Nat → Nat → Int32 → Int32 → Int32 → Int32 → Int32 × (Nat → Nat → Int32)
  | 0, _, f, _, _, _, _, _, _ => (0, f)
  | n + 1, h, f, a0, a1, x3, x4, x5, x6 => if h = 0 then bX1_coreSize_13 N M f a0 a1 x3 x4 x5 (wX1_coreSize N M n) else bX1_coreSize_66 N M f a0 x4 x5 x6 (wX1_coreSize N M n)
def vX1_coreSize (N : Nat) (M : gM) : Nat → Nat → (Nat → Nat → Int32) → Nat → Nat → Int32 → Int32 → Int32 → Int32 → Prop
  | 0, _, _, _, _, _, _, _, _ => False
  | n + 1, h, f, a0, a1, x3, x4, x5, x6 => if h = 0 then eX1_coreSize_13 N M f a0 a1 x3 x4 x5 (vX1_coreSize N M n) else eX1_coreSize_66 N M f a0 x4 x5 x6 (vX1_coreSize N M n)
set_option maxRecDepth 10000 in
theorem lpX1_coreSize {X : gX} {d mc ms : Nat} {Q : Option Value → gM → Prop} (N : Nat) (M : gM) : ∀ n : Nat, (∀ (f : Nat → Nat → Int32) (a0 : Nat) (a1 : Nat) (x3 : Int32) (x4 : Int32) (x5 : Int32) (x6 : Int32), Pe M a0 → St M a1 → vX1_coreSize N M n 0 f a0 a1 x3 x4 x5 x6 → Q (some (.int (wX1_coreSize N M n 0 f a0 a1 x3 x4 x5 x6).1)) (g_wm M (wX1_coreSize N M n 0 f a0 a1 x3 x4 x5 x6).2 (g_ml M)) → Go X (d + 2) mc ms kX1_coreSize Q 13 [(0, .ref a0), (1, .ref a1), (3, .int (x3)), (4, .int (x4)), (5, .int (x5))] [] (g_wm M f (g_ml M)) 0 0) ∧ (∀ (f : Nat → Nat → Int32) (a0 : Nat) (a1 : Nat) (x3 : Int32) (x4 : Int32) (x5 : Int32) (x6 : Int32), Pe M a0 → vX1_coreSize N M n 1 f a0 a1 x3 x4 x5 x6 → Q (some (.int (wX1_coreSize N M n 1 f a0 a1 x3 x4 x5 x6).1)) (g_wm M (wX1_coreSize N M n 1 f a0 a1 x3 x4 x5 x6).2 (g_ml M)) → Go X (d + 2) mc ms kX1_coreSize Q 66 [(0, .ref a0), (4, .int (x4)), (5, .int (x5)), (6, .int (x6))] [] (g_wm M f (g_ml M)) 0 0) := by
  intro n
  induction n with
  | zero => exact ⟨fun _ _ _ _ _ _ _ _ _ h _ => h.elim, fun _ _ _ _ _ _ _ _ h _ => h.elim⟩
  | succ n ih =>
    refine ⟨?_, ?_⟩
    · intro f a0 a1 x3 x4 x5 x6 s0 s1 hT hQ
      rw [vX1_coreSize, if_pos (show (0 : Nat) = 0 from rfl)] at hT
      rw [wX1_coreSize, if_pos (show (0 : Nat) = 0 from rfl)] at hQ
      unfold bX1_coreSize_13 at hQ
      unfold eX1_coreSize_13 at hT
      obtain ⟨b3, b5, hT⟩ := hT
      exact sX1_coreSize_13 (M := (g_wm M f (g_ml M))) (Pe.sm Sm.wm s0) (St.sm Sm.wm s1) (fun c1 => by simp only [if_pos c1] at hQ hT; exact Sm.g Sm.wm (ih.2 _ _ _ _ _ _ _ (s0) hT hQ)) (fun c1 c2 => by simp only [if_neg c1, if_pos c2] at hQ hT; exact Sm.g Sm.wm (ih.2 _ _ _ _ _ _ _ (s0) hT hQ)) b3 (fun c1 c2 c3 => by simp only [if_neg c1, if_neg c2, if_neg c3] at hQ hT; exact Sm.g Sm.wm (ih.1 _ _ _ _ _ _ _ (s0) (s1) hT hQ)) b5 (fun c1 c2 c3 => by simp only [if_neg c1, if_neg c2, if_pos c3] at hQ hT; exact Sm.g (Sm.tr Sm.wm (Sm.wi Sm.rf)) (ih.1 _ _ _ _ _ _ _ (s0) (s1) hT hQ))
    · intro f a0 a1 x3 x4 x5 x6 s0 hT hQ
      rw [vX1_coreSize, if_neg (show ¬ (1 : Nat) = 0 by decide)] at hT
      rw [wX1_coreSize, if_neg (show ¬ (1 : Nat) = 0 by decide)] at hQ
      unfold bX1_coreSize_66 at hQ
      unfold eX1_coreSize_66 at hT
      obtain ⟨b5, b6, b8, b9, hT⟩ := hT
      exact sX1_coreSize_66 (M := (g_wm M f (g_ml M))) (Pe.sm Sm.wm s0) (fun c1 => by simp only [if_pos c1] at hQ; exact Sm.q Sm.wm hQ) (Nat.zero_le _) (Nat.zero_le _) (fun c1 c2 => by simp only [if_neg c1, if_pos c2] at hQ; exact Sm.q Sm.wm hQ) b5 b6 (fun c1 c2 c3 => by simp only [if_neg c1, if_neg c2, if_neg c3] at hQ hT; exact Sm.g Sm.wm (ih.2 _ _ _ _ _ _ _ (s0) hT hQ)) b8 b9 (fun c1 c2 c3 => by simp only [if_neg c1, if_neg c2, if_pos c3] at hQ hT; exact Sm.g (Sm.tr Sm.wm (Sm.tr Sm.rf jX1_letGo)) (ih.2 _ _ _ _ _ _ _ (s0) hT hQ))
def fX1_coreSize (N : Nat) (M : gM) (a0 : Nat) (a1 : Nat) (x2 : Int32) (x3 : Int32) : Int32 := (bX1_coreSize_0 N M a0 a1 x2 x3 (wX1_coreSize N M N)).1
def mX1_coreSize (N : Nat) (M : gM) (a0 : Nat) (a1 : Nat) (x2 : Int32) (x3 : Int32) : gM := g_wm M (bX1_coreSize_0 N M a0 a1 x2 x3 (wX1_coreSize N M N)).2 (g_ml M)
theorem jX1_coreSize {N : Nat} {M : gM} {a0 : Nat} {a1 : Nat} {x2 : Int32} {x3 : Int32} : Sm M (mX1_coreSize N M a0 a1 x2 x3) := Sm.wm
def EX1_coreSize (N : Nat) (M : gM) (a0 : Nat) (a1 : Nat) (x2 : Int32) (x3 : Int32) : Prop := eX1_coreSize_0 N M a0 a1 x2 x3 (vX1_coreSize N M N)
theorem tX1_coreSize {N : Nat} {X : gX} {d mc ms : Nat} {Q : Option Value → gM → Prop} {M : gM} {a0 : Nat} {a1 : Nat} {x2 : Int32} {x3 : Int32} (s0 : Pe M a0) (s1 : St M a1) (hE : EX1_coreSize N M a0 a1 x2 x3) (hQ : Q (some (.int (fX1_coreSize N M a0 a1 x2 x3))) (mX1_coreSize N M a0 a1 x2 x3)) : Cn X (d + 2) mc ms kX1_coreSize [.ref a0, .ref a1, .int (x2), .int (x3)] M Q := by
  unfold fX1_coreSize mX1_coreSize at hQ
  unfold bX1_coreSize_0 at hQ
  unfold EX1_coreSize eX1_coreSize_0 at hE
  obtain ⟨b1, hT⟩ := hE
  have ih := lpX1_coreSize (X := X) (d := d) (mc := mc) (ms := ms) (Q := Q) N M N
  exact sX1_coreSize_0 s0 s1 b1 (Sm.g (Sm.tr Sm.rf jX1_lay) (ih.1 _ _ _ _ _ _ _ (s0) (s1) hT hQ))
