/-! X2_splitIntoTokens  -/
set_option maxRecDepth 4000 in
theorem sX2_splitIntoTokens_0 {X : gX} {d mc ms : Nat} {Q : Option Value → gM → Prop} {M : gM} {a0 : Nat} (s0 : Re M a0) (h1 : Go X (d + 5) mc ms kX2_splitIntoTokens Q 4 [(0, .ref a0), (1, .int (0)), (2, .int (0))] [] M 0 0) : Cn X (d + 5) mc ms kX2_splitIntoTokens [.ref a0] M Q := by
  refine g_meth rfl rfl (Nat.le_of_ble_eq_true rfl) rfl ?_
  refine g_iconst (0) 1 dX2_splitIntoTokens_0 rfl rfl ?_
  refine g_istore_n 2 [(1, .int (0)), (0, .ref a0)] dX2_splitIntoTokens_1 rfl (Nat.le_of_ble_eq_true rfl) rfl ?_
  refine g_iconst (0) 3 dX2_splitIntoTokens_2 rfl rfl ?_
  refine g_istore_n 4 [(2, .int (0)), (1, .int (0)), (0, .ref a0)] dX2_splitIntoTokens_3 rfl (Nat.le_of_ble_eq_true rfl) rfl ?_
  exact g_sub [2, 1, 0] _ rfl (h1)

set_option maxRecDepth 4000 in
theorem sX2_splitIntoTokens_4 {X : gX} {d mc ms : Nat} {Q : Option Value → gM → Prop} {M : gM} {c z : Nat} {a0 : Nat} {x1 : Int32} {x2 : Int32} (s0 : Re M a0) (b1 : ((g_mi M a0 5) ≤ x2) → vp_in (x1) 401) (h2 : ((g_mi M a0 5) ≤ x2) → Q none (g_wi (g_wi (g_wi M (a0 + 12) (x1).toNatClampNeg (g_mi M a0 5)) (a0 + 13) (x1).toNatClampNeg (-1)) (a0 + 11) (x1).toNatClampNeg 24)) (w3 : c ≤ mc) (w4 : z ≤ ms) (b5 : (¬ (g_mi M a0 5) ≤ x2) → vp_in (x2) 400) (h6 : (¬ (g_mi M a0 5) ≤ x2) → Go X (d + 5) mc ms kX2_splitIntoTokens Q 27 [(0, .ref a0), (1, .int (x1)), (2, .int (x2)), (3, .int ((x2 + 1))), (4, .int ((fX2_kindOf (g_mi M (a0 + 1) (x2).toNatClampNeg))))] [] M c z) : Go X (d + 5) mc ms kX2_splitIntoTokens Q 4 [(0, .ref a0), (1, .int (x1)), (2, .int (x2))] [] M c z := by
  refine g_iload_n 2 5 dX2_splitIntoTokens_4 rfl rfl ?_
  refine g_aload_n 0 6 dX2_splitIntoTokens_5 rfl rfl ?_
  refine g_getI 9 dX2_splitIntoTokens_6 rfl flX2_44 s0.1 ?_
  refine g_icmp_ge 154 12 dX2_splitIntoTokens_9 rfl rfl (fun c1 => ?_) (fun c1 => ?_)
  · skip
    refine g_aload_n 0 155 dX2_splitIntoTokens_154 rfl rfl ?_
    refine g_getR 158 (a0 + 12) dX2_splitIntoTokens_155 rfl flX2_38 s0.1 s0.2.2.2.2.2.2.2.2.2.2.2.1 ?_
    refine g_iload_n 1 159 dX2_splitIntoTokens_158 rfl rfl ?_
    refine g_aload_n 0 160 dX2_splitIntoTokens_159 rfl rfl ?_
    refine g_getI 163 dX2_splitIntoTokens_160 rfl flX2_44 s0.1 ?_
    refine h_iastore 164 (x1).toNatClampNeg dX2_splitIntoTokens_163 rfl rfl s0.2.2.2.2.2.2.2.2.2.2.2.2.1 (b1 c1) ?_
    refine g_aload_n 0 165 dX2_splitIntoTokens_164 rfl rfl ?_
    refine g_getR 168 (a0 + 13) dX2_splitIntoTokens_165 rfl flX2_41 (Sm.k (Sm.wi Sm.rf) s0.1) (Sm.r (Sm.wi Sm.rf) s0.2.2.2.2.2.2.2.2.2.2.2.2.2.1) ?_
    refine g_iload_n 1 169 dX2_splitIntoTokens_168 rfl rfl ?_
    refine g_iconst ((-1)) 170 dX2_splitIntoTokens_169 rfl rfl ?_
    refine h_iastore 171 (x1).toNatClampNeg dX2_splitIntoTokens_170 rfl rfl (Sm.k (Sm.wi Sm.rf) s0.2.2.2.2.2.2.2.2.2.2.2.2.2.2) (b1 c1) ?_
    refine g_aload_n 0 172 dX2_splitIntoTokens_171 rfl rfl ?_
    refine g_getR 175 (a0 + 11) dX2_splitIntoTokens_172 rfl flX2_35 (Sm.k (Sm.wi (Sm.wi Sm.rf)) s0.1) (Sm.r (Sm.wi (Sm.wi Sm.rf)) s0.2.2.2.2.2.2.2.2.2.1) ?_
    refine g_iload_n 1 176 dX2_splitIntoTokens_175 rfl rfl ?_
    refine g_bipush (24) 178 dX2_splitIntoTokens_176 rfl rfl ?_
    refine h_iastore 179 (x1).toNatClampNeg dX2_splitIntoTokens_178 rfl rfl (Sm.k (Sm.wi (Sm.wi Sm.rf)) s0.2.2.2.2.2.2.2.2.2.2.1) (b1 c1) ?_
    exact g_vret dX2_splitIntoTokens_179 rfl (w3) (w4) (h2 c1)
  · skip
    refine g_iload_n 2 13 dX2_splitIntoTokens_12 rfl rfl ?_
    refine g_iconst (1) 14 dX2_splitIntoTokens_13 rfl rfl ?_
    refine g_iadd 15 dX2_splitIntoTokens_14 rfl ?_
    refine g_istore_n 16 [(3, .int ((x2 + 1))), (0, .ref a0), (1, .int (x1)), (2, .int (x2))] dX2_splitIntoTokens_15 rfl (Nat.le_of_ble_eq_true rfl) rfl ?_
    refine g_aload_n 1 17 dX2_splitIntoTokens_16 rfl rfl ?_
    refine g_getR 20 (a0 + 1) dX2_splitIntoTokens_17 rfl flX2_9 s0.1 s0.2.1 ?_
    refine g_iload_n 3 21 dX2_splitIntoTokens_20 rfl rfl ?_
    refine h_iaload 22 (x2).toNatClampNeg dX2_splitIntoTokens_21 rfl rfl s0.2.2.1 (b5 c1) ?_
    refine g_callS (mc1 := 0) (ms1 := 0) (rest := []) (av := [.int ((g_mi M (a0 + 1) (x2).toNatClampNeg))]) kX2_kindOf 25 dX2_splitIntoTokens_22 rfl rfl mbX2_78 smX2_kindOf (Nat.le_of_ble_eq_true rfl) (w3) (w4) (tX2_kindOf  ?_)
    show Go X (d + 5) mc ms kX2_splitIntoTokens Q 25 [(3, .int ((x2 + 1))), (0, .ref a0), (1, .int (x1)), (2, .int (x2))] [.int ((fX2_kindOf (g_mi M (a0 + 1) (x2).toNatClampNeg)))] M c z
    refine g_istore 27 [(4, .int ((fX2_kindOf (g_mi M (a0 + 1) (x2).toNatClampNeg)))), (3, .int ((x2 + 1))), (0, .ref a0), (1, .int (x1)), (2, .int (x2))] dX2_splitIntoTokens_25 rfl (Nat.le_of_ble_eq_true rfl) rfl ?_
    exact g_sub [2, 3, 4, 1, 0] _ rfl (h6 c1)

set_option maxRecDepth 4000 in
theorem sX2_splitIntoTokens_27 {N : Nat} {X : gX} {d mc ms : Nat} {Q : Option Value → gM → Prop} {M : gM} {c z : Nat} {a0 : Nat} {x1 : Int32} {x2 : Int32} {x3 : Int32} {x4 : Int32} (s0 : Re M a0) (b1 : (x4 = 25) → vp_in (x2) 400) (h2 : (x4 = 25) → ((g_mi M (a0 + 1) (x2).toNatClampNeg) = 32) → Go X (d + 5) mc ms kX2_splitIntoTokens Q 4 [(0, .ref a0), (1, .int (x1)), (2, .int (x3))] [] M c z) (b3 : (x4 = 25) → (¬ (g_mi M (a0 + 1) (x2).toNatClampNeg) = 32) → vp_in (x1) 401) (b4 : (x4 = 25) → (¬ (g_mi M (a0 + 1) (x2).toNatClampNeg) = 32) → vp_in (x2) 400) (h5 : (x4 = 25) → (¬ (g_mi M (a0 + 1) (x2).toNatClampNeg) = 32) → Go X (d + 5) mc ms kX2_splitIntoTokens Q 4 [(0, .ref a0), (1, .int ((x1 + 1))), (2, .int (x3))] [] (g_wi (g_wi (g_wi M (a0 + 12) (x1).toNatClampNeg x2) (a0 + 13) (x1).toNatClampNeg (-1)) (a0 + 11) (x1).toNatClampNeg (25 + (g_mi (g_wi (g_wi M (a0 + 12) (x1).toNatClampNeg x2) (a0 + 13) (x1).toNatClampNeg (-1)) (a0 + 1) (x2).toNatClampNeg))) c z) (b6 : (¬ x4 = 25) → ((g_mi M a0 5) ≤ x3) → vp_in (x2) 400) (h7 : (¬ x4 = 25) → ((g_mi M a0 5) ≤ x3) → ((g_mi M (a0 + 1) (x2).toNatClampNeg) = 32) → Go X (d + 5) mc ms kX2_splitIntoTokens Q 4 [(0, .ref a0), (1, .int (x1)), (2, .int (x3))] [] M c z) (b8 : (¬ x4 = 25) → ((g_mi M a0 5) ≤ x3) → (¬ (g_mi M (a0 + 1) (x2).toNatClampNeg) = 32) → vp_in (x1) 401) (b9 : (¬ x4 = 25) → ((g_mi M a0 5) ≤ x3) → (¬ (g_mi M (a0 + 1) (x2).toNatClampNeg) = 32) → (¬ x4 = 23) → vp_in (x1) 401) (b10 : (¬ x4 = 25) → ((g_mi M a0 5) ≤ x3) → (¬ (g_mi M (a0 + 1) (x2).toNatClampNeg) = 32) → (¬ x4 = 23) → (¬ x4 = 22) → vp_in (x2) 400) (b11 : (¬ x4 = 25) → ((g_mi M a0 5) ≤ x3) → (¬ (g_mi M (a0 + 1) (x2).toNatClampNeg) = 32) → (¬ x4 = 23) → (¬ x4 = 22) → vp_in (x1) 401) (h12 : (¬ x4 = 25) → ((g_mi M a0 5) ≤ x3) → (¬ (g_mi M (a0 + 1) (x2).toNatClampNeg) = 32) → (¬ x4 = 23) → (¬ x4 = 22) → Go X (d + 5) mc ms kX2_splitIntoTokens Q 4 [(0, .ref a0), (1, .int ((x1 + 1))), (2, .int (x3))] [] (g_wi (g_wi (g_wi M (a0 + 12) (x1).toNatClampNeg x2) (a0 + 13) (x1).toNatClampNeg (-1)) (a0 + 11) (x1).toNatClampNeg (25 + (g_mi (g_wi (g_wi M (a0 + 12) (x1).toNatClampNeg x2) (a0 + 13) (x1).toNatClampNeg (-1)) (a0 + 1) (x2).toNatClampNeg))) c z) (w13 : c ≤ mc) (w14 : z ≤ ms) (b15 : (¬ x4 = 25) → ((g_mi M a0 5) ≤ x3) → (¬ (g_mi M (a0 + 1) (x2).toNatClampNeg) = 32) → (¬ x4 = 23) → (x4 = 22) → EX2_wordBetween N (g_wi (g_wi M (a0 + 12) (x1).toNatClampNeg x2) (a0 + 13) (x1).toNatClampNeg (-1)) a0 x2 x3) (b16 : (¬ x4 = 25) → ((g_mi M a0 5) ≤ x3) → (¬ (g_mi M (a0 + 1) (x2).toNatClampNeg) = 32) → (¬ x4 = 23) → (x4 = 22) → vp_in (x1) 401) (h17 : (¬ x4 = 25) → ((g_mi M a0 5) ≤ x3) → (¬ (g_mi M (a0 + 1) (x2).toNatClampNeg) = 32) → (¬ x4 = 23) → (x4 = 22) → Go X (d + 5) mc ms kX2_splitIntoTokens Q 4 [(0, .ref a0), (1, .int ((x1 + 1))), (2, .int (x3))] [] (g_wi (g_wi (g_wi M (a0 + 12) (x1).toNatClampNeg x2) (a0 + 13) (x1).toNatClampNeg (-1)) (a0 + 11) (x1).toNatClampNeg (fX2_wordBetween N (g_wi (g_wi M (a0 + 12) (x1).toNatClampNeg x2) (a0 + 13) (x1).toNatClampNeg (-1)) a0 x2 x3)) c z) (b18 : (¬ x4 = 25) → ((g_mi M a0 5) ≤ x3) → (¬ (g_mi M (a0 + 1) (x2).toNatClampNeg) = 32) → (x4 = 23) → EX2_numberBetween N (g_wi M (a0 + 12) (x1).toNatClampNeg x2) a0 x2 x3) (b19 : (¬ x4 = 25) → ((g_mi M a0 5) ≤ x3) → (¬ (g_mi M (a0 + 1) (x2).toNatClampNeg) = 32) → (x4 = 23) → vp_in (x1) 401) (h20 : (¬ x4 = 25) → ((g_mi M a0 5) ≤ x3) → (¬ (g_mi M (a0 + 1) (x2).toNatClampNeg) = 32) → (x4 = 23) → Go X (d + 5) mc ms kX2_splitIntoTokens Q 4 [(0, .ref a0), (1, .int ((x1 + 1))), (2, .int (x3))] [] (g_wi (g_wi (g_wi M (a0 + 12) (x1).toNatClampNeg x2) (a0 + 13) (x1).toNatClampNeg (fX2_numberBetween N (g_wi M (a0 + 12) (x1).toNatClampNeg x2) a0 x2 x3)) (a0 + 11) (x1).toNatClampNeg 23) c z) (b21 : (¬ x4 = 25) → (¬ (g_mi M a0 5) ≤ x3) → vp_in (x3) 400) (b22 : (¬ x4 = 25) → (¬ (g_mi M a0 5) ≤ x3) → (¬ (fX2_kindOf (g_mi M (a0 + 1) (x3).toNatClampNeg)) = x4) → vp_in (x2) 400) (h23 : (¬ x4 = 25) → (¬ (g_mi M a0 5) ≤ x3) → (¬ (fX2_kindOf (g_mi M (a0 + 1) (x3).toNatClampNeg)) = x4) → ((g_mi M (a0 + 1) (x2).toNatClampNeg) = 32) → Go X (d + 5) mc ms kX2_splitIntoTokens Q 4 [(0, .ref a0), (1, .int (x1)), (2, .int (x3))] [] M c z) (b24 : (¬ x4 = 25) → (¬ (g_mi M a0 5) ≤ x3) → (¬ (fX2_kindOf (g_mi M (a0 + 1) (x3).toNatClampNeg)) = x4) → (¬ (g_mi M (a0 + 1) (x2).toNatClampNeg) = 32) → vp_in (x1) 401) (b25 : (¬ x4 = 25) → (¬ (g_mi M a0 5) ≤ x3) → (¬ (fX2_kindOf (g_mi M (a0 + 1) (x3).toNatClampNeg)) = x4) → (¬ (g_mi M (a0 + 1) (x2).toNatClampNeg) = 32) → (¬ x4 = 23) → vp_in (x1) 401) (b26 : (¬ x4 = 25) → (¬ (g_mi M a0 5) ≤ x3) → (¬ (fX2_kindOf (g_mi M (a0 + 1) (x3).toNatClampNeg)) = x4) → (¬ (g_mi M (a0 + 1) (x2).toNatClampNeg) = 32) → (¬ x4 = 23) → (¬ x4 = 22) → vp_in (x2) 400) (b27 : (¬ x4 = 25) → (¬ (g_mi M a0 5) ≤ x3) → (¬ (fX2_kindOf (g_mi M (a0 + 1) (x3).toNatClampNeg)) = x4) → (¬ (g_mi M (a0 + 1) (x2).toNatClampNeg) = 32) → (¬ x4 = 23) → (¬ x4 = 22) → vp_in (x1) 401) (h28 : (¬ x4 = 25) → (¬ (g_mi M a0 5) ≤ x3) → (¬ (fX2_kindOf (g_mi M (a0 + 1) (x3).toNatClampNeg)) = x4) → (¬ (g_mi M (a0 + 1) (x2).toNatClampNeg) = 32) → (¬ x4 = 23) → (¬ x4 = 22) → Go X (d + 5) mc ms kX2_splitIntoTokens Q 4 [(0, .ref a0), (1, .int ((x1 + 1))), (2, .int (x3))] [] (g_wi (g_wi (g_wi M (a0 + 12) (x1).toNatClampNeg x2) (a0 + 13) (x1).toNatClampNeg (-1)) (a0 + 11) (x1).toNatClampNeg (25 + (g_mi (g_wi (g_wi M (a0 + 12) (x1).toNatClampNeg x2) (a0 + 13) (x1).toNatClampNeg (-1)) (a0 + 1) (x2).toNatClampNeg))) c z) (b29 : (¬ x4 = 25) → (¬ (g_mi M a0 5) ≤ x3) → (¬ (fX2_kindOf (g_mi M (a0 + 1) (x3).toNatClampNeg)) = x4) → (¬ (g_mi M (a0 + 1) (x2).toNatClampNeg) = 32) → (¬ x4 = 23) → (x4 = 22) → EX2_wordBetween N (g_wi (g_wi M (a0 + 12) (x1).toNatClampNeg x2) (a0 + 13) (x1).toNatClampNeg (-1)) a0 x2 x3) (b30 : (¬ x4 = 25) → (¬ (g_mi M a0 5) ≤ x3) → (¬ (fX2_kindOf (g_mi M (a0 + 1) (x3).toNatClampNeg)) = x4) → (¬ (g_mi M (a0 + 1) (x2).toNatClampNeg) = 32) → (¬ x4 = 23) → (x4 = 22) → vp_in (x1) 401) (h31 : (¬ x4 = 25) → (¬ (g_mi M a0 5) ≤ x3) → (¬ (fX2_kindOf (g_mi M (a0 + 1) (x3).toNatClampNeg)) = x4) → (¬ (g_mi M (a0 + 1) (x2).toNatClampNeg) = 32) → (¬ x4 = 23) → (x4 = 22) → Go X (d + 5) mc ms kX2_splitIntoTokens Q 4 [(0, .ref a0), (1, .int ((x1 + 1))), (2, .int (x3))] [] (g_wi (g_wi (g_wi M (a0 + 12) (x1).toNatClampNeg x2) (a0 + 13) (x1).toNatClampNeg (-1)) (a0 + 11) (x1).toNatClampNeg (fX2_wordBetween N (g_wi (g_wi M (a0 + 12) (x1).toNatClampNeg x2) (a0 + 13) (x1).toNatClampNeg (-1)) a0 x2 x3)) c z) (b32 : (¬ x4 = 25) → (¬ (g_mi M a0 5) ≤ x3) → (¬ (fX2_kindOf (g_mi M (a0 + 1) (x3).toNatClampNeg)) = x4) → (¬ (g_mi M (a0 + 1) (x2).toNatClampNeg) = 32) → (x4 = 23) → EX2_numberBetween N (g_wi M (a0 + 12) (x1).toNatClampNeg x2) a0 x2 x3) (b33 : (¬ x4 = 25) → (¬ (g_mi M a0 5) ≤ x3) → (¬ (fX2_kindOf (g_mi M (a0 + 1) (x3).toNatClampNeg)) = x4) → (¬ (g_mi M (a0 + 1) (x2).toNatClampNeg) = 32) → (x4 = 23) → vp_in (x1) 401) (h34 : (¬ x4 = 25) → (¬ (g_mi M a0 5) ≤ x3) → (¬ (fX2_kindOf (g_mi M (a0 + 1) (x3).toNatClampNeg)) = x4) → (¬ (g_mi M (a0 + 1) (x2).toNatClampNeg) = 32) → (x4 = 23) → Go X (d + 5) mc ms kX2_splitIntoTokens Q 4 [(0, .ref a0), (1, .int ((x1 + 1))), (2, .int (x3))] [] (g_wi (g_wi (g_wi M (a0 + 12) (x1).toNatClampNeg x2) (a0 + 13) (x1).toNatClampNeg (fX2_numberBetween N (g_wi M (a0 + 12) (x1).toNatClampNeg x2) a0 x2 x3)) (a0 + 11) (x1).toNatClampNeg 23) c z) (h35 : (¬ x4 = 25) → (¬ (g_mi M a0 5) ≤ x3) → ((fX2_kindOf (g_mi M (a0 + 1) (x3).toNatClampNeg)) = x4) → Go X (d + 5) mc ms kX2_splitIntoTokens Q 27 [(0, .ref a0), (1, .int (x1)), (2, .int (x2)), (3, .int ((x3 + 1))), (4, .int (x4))] [] M c z) : Go X (d + 5) mc ms kX2_splitIntoTokens Q 27 [(0, .ref a0), (1, .int (x1)), (2, .int (x2)), (3, .int (x3)), (4, .int (x4))] [] M c z := by
  refine g_iload 4 29 dX2_splitIntoTokens_27 rfl rfl ?_
  refine g_bipush (25) 31 dX2_splitIntoTokens_29 rfl rfl ?_
  refine g_icmp_eq 62 34 dX2_splitIntoTokens_31 rfl rfl (fun c1 => ?_) (fun c1 => ?_)
  · skip
    refine g_aload_n 0 63 dX2_splitIntoTokens_62 rfl rfl ?_
    refine g_getR 66 (a0 + 1) dX2_splitIntoTokens_63 rfl flX2_9 s0.1 s0.2.1 ?_
    refine g_iload_n 2 67 dX2_splitIntoTokens_66 rfl rfl ?_
    refine h_iaload 68 (x2).toNatClampNeg dX2_splitIntoTokens_67 rfl rfl s0.2.2.1 (b1 c1) ?_
    refine g_bipush (32) 70 dX2_splitIntoTokens_68 rfl rfl ?_
    refine g_icmp_eq 149 73 dX2_splitIntoTokens_70 rfl rfl (fun c2 => ?_) (fun c2 => ?_)
    · skip
      refine g_iload_n 3 150 dX2_splitIntoTokens_149 rfl rfl ?_
      refine g_istore_n 151 [(2, .int (x3)), (0, .ref a0), (1, .int (x1)), (3, .int (x3)), (4, .int (x4))] dX2_splitIntoTokens_150 rfl (Nat.le_of_ble_eq_true rfl) rfl ?_
      refine g_goto 4 dX2_splitIntoTokens_151 rfl ?_
      exact g_sub [1, 2, 0] _ rfl (h2 c1 c2)
    · skip
      refine g_aload_n 0 74 dX2_splitIntoTokens_73 rfl rfl ?_
      refine g_getR 77 (a0 + 12) dX2_splitIntoTokens_74 rfl flX2_38 s0.1 s0.2.2.2.2.2.2.2.2.2.2.2.1 ?_
      refine g_iload_n 1 78 dX2_splitIntoTokens_77 rfl rfl ?_
      refine g_iload_n 2 79 dX2_splitIntoTokens_78 rfl rfl ?_
      refine h_iastore 80 (x1).toNatClampNeg dX2_splitIntoTokens_79 rfl rfl s0.2.2.2.2.2.2.2.2.2.2.2.2.1 (b3 c1 c2) ?_
      refine g_aload_n 0 81 dX2_splitIntoTokens_80 rfl rfl ?_
      refine g_getR 84 (a0 + 13) dX2_splitIntoTokens_81 rfl flX2_41 (Sm.k (Sm.wi Sm.rf) s0.1) (Sm.r (Sm.wi Sm.rf) s0.2.2.2.2.2.2.2.2.2.2.2.2.2.1) ?_
      refine g_iload_n 1 85 dX2_splitIntoTokens_84 rfl rfl ?_
      refine g_iload 4 87 dX2_splitIntoTokens_85 rfl rfl ?_
      refine g_bipush (23) 89 dX2_splitIntoTokens_87 rfl rfl ?_
      refine g_icmp_ne 101 92 dX2_splitIntoTokens_89 rfl rfl (fun _ => ?_) (fun q => absurd (c1.symm.trans q) (by decide))
      refine g_iconst ((-1)) 102 dX2_splitIntoTokens_101 rfl rfl ?_
      refine h_iastore 103 (x1).toNatClampNeg dX2_splitIntoTokens_102 rfl rfl (Sm.k (Sm.wi Sm.rf) s0.2.2.2.2.2.2.2.2.2.2.2.2.2.2) (b3 c1 c2) ?_
      refine g_aload_n 0 104 dX2_splitIntoTokens_103 rfl rfl ?_
      refine g_getR 107 (a0 + 11) dX2_splitIntoTokens_104 rfl flX2_35 (Sm.k (Sm.wi (Sm.wi Sm.rf)) s0.1) (Sm.r (Sm.wi (Sm.wi Sm.rf)) s0.2.2.2.2.2.2.2.2.2.1) ?_
      refine g_iload_n 1 108 dX2_splitIntoTokens_107 rfl rfl ?_
      refine g_iload 4 110 dX2_splitIntoTokens_108 rfl rfl ?_
      refine g_bipush (22) 112 dX2_splitIntoTokens_110 rfl rfl ?_
      refine g_icmp_ne 124 115 dX2_splitIntoTokens_112 rfl rfl (fun _ => ?_) (fun q => absurd (c1.symm.trans q) (by decide))
      refine g_iload 4 126 dX2_splitIntoTokens_124 rfl rfl ?_
      refine g_bipush (23) 128 dX2_splitIntoTokens_126 rfl rfl ?_
      refine g_icmp_ne 136 131 dX2_splitIntoTokens_128 rfl rfl (fun _ => ?_) (fun q => absurd (c1.symm.trans q) (by decide))
      refine g_bipush (25) 138 dX2_splitIntoTokens_136 rfl rfl ?_
      refine g_aload_n 0 139 dX2_splitIntoTokens_138 rfl rfl ?_
      refine g_getR 142 (a0 + 1) dX2_splitIntoTokens_139 rfl flX2_9 (Sm.k (Sm.wi (Sm.wi Sm.rf)) s0.1) (Sm.r (Sm.wi (Sm.wi Sm.rf)) s0.2.1) ?_
      refine g_iload_n 2 143 dX2_splitIntoTokens_142 rfl rfl ?_
      refine h_iaload 144 (x2).toNatClampNeg dX2_splitIntoTokens_143 rfl rfl (Sm.k (Sm.wi (Sm.wi Sm.rf)) s0.2.2.1) (b4 c1 c2) ?_
      refine g_iadd 145 dX2_splitIntoTokens_144 rfl ?_
      refine h_iastore 146 (x1).toNatClampNeg dX2_splitIntoTokens_145 rfl rfl (Sm.k (Sm.wi (Sm.wi Sm.rf)) s0.2.2.2.2.2.2.2.2.2.2.1) (b3 c1 c2) ?_
      refine g_iinc _ 1 149 [(1, .int ((x1 + 1))), (0, .ref a0), (2, .int (x2)), (3, .int (x3)), (4, .int (x4))] dX2_splitIntoTokens_146 rfl rfl rfl (Nat.le_of_ble_eq_true rfl) rfl ?_
      refine g_iload_n 3 150 dX2_splitIntoTokens_149 rfl rfl ?_
      refine g_istore_n 151 [(2, .int (x3)), (1, .int ((x1 + 1))), (0, .ref a0), (3, .int (x3)), (4, .int (x4))] dX2_splitIntoTokens_150 rfl (Nat.le_of_ble_eq_true rfl) rfl ?_
      refine g_goto 4 dX2_splitIntoTokens_151 rfl ?_
      exact g_sub [2, 1, 0] _ rfl (h5 c1 c2)
  · skip
    refine g_iload_n 3 35 dX2_splitIntoTokens_34 rfl rfl ?_
    refine g_aload_n 0 36 dX2_splitIntoTokens_35 rfl rfl ?_
    refine g_getI 39 dX2_splitIntoTokens_36 rfl flX2_44 s0.1 ?_
    refine g_icmp_ge 62 42 dX2_splitIntoTokens_39 rfl rfl (fun c3 => ?_) (fun c3 => ?_)
    · skip
      refine g_aload_n 0 63 dX2_splitIntoTokens_62 rfl rfl ?_
      refine g_getR 66 (a0 + 1) dX2_splitIntoTokens_63 rfl flX2_9 s0.1 s0.2.1 ?_
      refine g_iload_n 2 67 dX2_splitIntoTokens_66 rfl rfl ?_
      refine h_iaload 68 (x2).toNatClampNeg dX2_splitIntoTokens_67 rfl rfl s0.2.2.1 (b6 c1 c3) ?_
      refine g_bipush (32) 70 dX2_splitIntoTokens_68 rfl rfl ?_
      refine g_icmp_eq 149 73 dX2_splitIntoTokens_70 rfl rfl (fun c4 => ?_) (fun c4 => ?_)
      · skip
        refine g_iload_n 3 150 dX2_splitIntoTokens_149 rfl rfl ?_
        refine g_istore_n 151 [(2, .int (x3)), (0, .ref a0), (1, .int (x1)), (3, .int (x3)), (4, .int (x4))] dX2_splitIntoTokens_150 rfl (Nat.le_of_ble_eq_true rfl) rfl ?_
        refine g_goto 4 dX2_splitIntoTokens_151 rfl ?_
        exact g_sub [1, 2, 0] _ rfl (h7 c1 c3 c4)
      · skip
        refine g_aload_n 0 74 dX2_splitIntoTokens_73 rfl rfl ?_
        refine g_getR 77 (a0 + 12) dX2_splitIntoTokens_74 rfl flX2_38 s0.1 s0.2.2.2.2.2.2.2.2.2.2.2.1 ?_
        refine g_iload_n 1 78 dX2_splitIntoTokens_77 rfl rfl ?_
        refine g_iload_n 2 79 dX2_splitIntoTokens_78 rfl rfl ?_
        refine h_iastore 80 (x1).toNatClampNeg dX2_splitIntoTokens_79 rfl rfl s0.2.2.2.2.2.2.2.2.2.2.2.2.1 (b8 c1 c3 c4) ?_
        refine g_aload_n 0 81 dX2_splitIntoTokens_80 rfl rfl ?_
        refine g_getR 84 (a0 + 13) dX2_splitIntoTokens_81 rfl flX2_41 (Sm.k (Sm.wi Sm.rf) s0.1) (Sm.r (Sm.wi Sm.rf) s0.2.2.2.2.2.2.2.2.2.2.2.2.2.1) ?_
        refine g_iload_n 1 85 dX2_splitIntoTokens_84 rfl rfl ?_
        refine g_iload 4 87 dX2_splitIntoTokens_85 rfl rfl ?_
        refine g_bipush (23) 89 dX2_splitIntoTokens_87 rfl rfl ?_
        refine g_icmp_ne 101 92 dX2_splitIntoTokens_89 rfl rfl (fun c5 => ?_) (fun c5 => ?_)
        · skip
          refine g_iconst ((-1)) 102 dX2_splitIntoTokens_101 rfl rfl ?_
          refine h_iastore 103 (x1).toNatClampNeg dX2_splitIntoTokens_102 rfl rfl (Sm.k (Sm.wi Sm.rf) s0.2.2.2.2.2.2.2.2.2.2.2.2.2.2) (b9 c1 c3 c4 c5) ?_
          refine g_aload_n 0 104 dX2_splitIntoTokens_103 rfl rfl ?_
          refine g_getR 107 (a0 + 11) dX2_splitIntoTokens_104 rfl flX2_35 (Sm.k (Sm.wi (Sm.wi Sm.rf)) s0.1) (Sm.r (Sm.wi (Sm.wi Sm.rf)) s0.2.2.2.2.2.2.2.2.2.1) ?_
          refine g_iload_n 1 108 dX2_splitIntoTokens_107 rfl rfl ?_
          refine g_iload 4 110 dX2_splitIntoTokens_108 rfl rfl ?_
          refine g_bipush (22) 112 dX2_splitIntoTokens_110 rfl rfl ?_
          refine g_icmp_ne 124 115 dX2_splitIntoTokens_112 rfl rfl (fun c6 => ?_) (fun c6 => ?_)
          · skip
            refine g_iload 4 126 dX2_splitIntoTokens_124 rfl rfl ?_
            refine g_bipush (23) 128 dX2_splitIntoTokens_126 rfl rfl ?_
            refine g_icmp_ne 136 131 dX2_splitIntoTokens_128 rfl rfl (fun _ => ?_) (fun q => absurd q c5)
            refine g_bipush (25) 138 dX2_splitIntoTokens_136 rfl rfl ?_
            refine g_aload_n 0 139 dX2_splitIntoTokens_138 rfl rfl ?_
            refine g_getR 142 (a0 + 1) dX2_splitIntoTokens_139 rfl flX2_9 (Sm.k (Sm.wi (Sm.wi Sm.rf)) s0.1) (Sm.r (Sm.wi (Sm.wi Sm.rf)) s0.2.1) ?_
            refine g_iload_n 2 143 dX2_splitIntoTokens_142 rfl rfl ?_
            refine h_iaload 144 (x2).toNatClampNeg dX2_splitIntoTokens_143 rfl rfl (Sm.k (Sm.wi (Sm.wi Sm.rf)) s0.2.2.1) (b10 c1 c3 c4 c5 c6) ?_
            refine g_iadd 145 dX2_splitIntoTokens_144 rfl ?_
            refine h_iastore 146 (x1).toNatClampNeg dX2_splitIntoTokens_145 rfl rfl (Sm.k (Sm.wi (Sm.wi Sm.rf)) s0.2.2.2.2.2.2.2.2.2.2.1) (b11 c1 c3 c4 c5 c6) ?_
            refine g_iinc _ 1 149 [(1, .int ((x1 + 1))), (0, .ref a0), (2, .int (x2)), (3, .int (x3)), (4, .int (x4))] dX2_splitIntoTokens_146 rfl rfl rfl (Nat.le_of_ble_eq_true rfl) rfl ?_
            refine g_iload_n 3 150 dX2_splitIntoTokens_149 rfl rfl ?_
            refine g_istore_n 151 [(2, .int (x3)), (1, .int ((x1 + 1))), (0, .ref a0), (3, .int (x3)), (4, .int (x4))] dX2_splitIntoTokens_150 rfl (Nat.le_of_ble_eq_true rfl) rfl ?_
            refine g_goto 4 dX2_splitIntoTokens_151 rfl ?_
            exact g_sub [2, 1, 0] _ rfl (h12 c1 c3 c4 c5 c6)
          · skip
            refine g_aload_n 0 116 dX2_splitIntoTokens_115 rfl rfl ?_
            refine g_iload_n 2 117 dX2_splitIntoTokens_116 rfl rfl ?_
            refine g_iload_n 3 118 dX2_splitIntoTokens_117 rfl rfl ?_
            refine g_callV (mc1 := 0) (ms1 := 0) (b := a0) (rest := [.int (x1), .ref (a0 + 11)]) (av := [.int (x2), .int (x3)]) kX2_wordBetween 121 dX2_splitIntoTokens_118 rfl rfl mbX2_86 imX2_wordBetween seX2_wordBetween gcl2.1 (Sm.k (Sm.wi (Sm.wi Sm.rf)) s0.1) (Nat.le_of_ble_eq_true rfl) (w13) (w14) (tX2_wordBetween (N := N) (Re.sm (Sm.wi (Sm.wi Sm.rf)) s0) (b15 c1 c3 c4 c5 c6) ?_)
            show Go X (d + 5) mc ms kX2_splitIntoTokens Q 121 [(0, .ref a0), (1, .int (x1)), (2, .int (x2)), (3, .int (x3)), (4, .int (x4))] [.int ((fX2_wordBetween N (g_wi (g_wi M (a0 + 12) (x1).toNatClampNeg x2) (a0 + 13) (x1).toNatClampNeg (-1)) a0 x2 x3)), .int (x1), .ref (a0 + 11)] (g_wi (g_wi M (a0 + 12) (x1).toNatClampNeg x2) (a0 + 13) (x1).toNatClampNeg (-1)) c z
            refine g_goto 145 dX2_splitIntoTokens_121 rfl ?_
            refine h_iastore 146 (x1).toNatClampNeg dX2_splitIntoTokens_145 rfl rfl (Sm.k (Sm.wi (Sm.wi Sm.rf)) s0.2.2.2.2.2.2.2.2.2.2.1) (b16 c1 c3 c4 c5 c6) ?_
            refine g_iinc _ 1 149 [(1, .int ((x1 + 1))), (0, .ref a0), (2, .int (x2)), (3, .int (x3)), (4, .int (x4))] dX2_splitIntoTokens_146 rfl rfl rfl (Nat.le_of_ble_eq_true rfl) rfl ?_
            refine g_iload_n 3 150 dX2_splitIntoTokens_149 rfl rfl ?_
            refine g_istore_n 151 [(2, .int (x3)), (1, .int ((x1 + 1))), (0, .ref a0), (3, .int (x3)), (4, .int (x4))] dX2_splitIntoTokens_150 rfl (Nat.le_of_ble_eq_true rfl) rfl ?_
            refine g_goto 4 dX2_splitIntoTokens_151 rfl ?_
            exact g_sub [2, 1, 0] _ rfl (h17 c1 c3 c4 c5 c6)
        · skip
          refine g_aload_n 0 93 dX2_splitIntoTokens_92 rfl rfl ?_
          refine g_iload_n 2 94 dX2_splitIntoTokens_93 rfl rfl ?_
          refine g_iload_n 3 95 dX2_splitIntoTokens_94 rfl rfl ?_
          refine g_callV (mc1 := 0) (ms1 := 0) (b := a0) (rest := [.int (x1), .ref (a0 + 13)]) (av := [.int (x2), .int (x3)]) kX2_numberBetween 98 dX2_splitIntoTokens_95 rfl rfl mbX2_82 imX2_numberBetween seX2_numberBetween gcl2.1 (Sm.k (Sm.wi Sm.rf) s0.1) (Nat.le_of_ble_eq_true rfl) (w13) (w14) (tX2_numberBetween (N := N) (Re.sm (Sm.wi Sm.rf) s0) (b18 c1 c3 c4 c5) ?_)
          show Go X (d + 5) mc ms kX2_splitIntoTokens Q 98 [(0, .ref a0), (1, .int (x1)), (2, .int (x2)), (3, .int (x3)), (4, .int (x4))] [.int ((fX2_numberBetween N (g_wi M (a0 + 12) (x1).toNatClampNeg x2) a0 x2 x3)), .int (x1), .ref (a0 + 13)] (g_wi M (a0 + 12) (x1).toNatClampNeg x2) c z
          refine g_goto 102 dX2_splitIntoTokens_98 rfl ?_
          refine h_iastore 103 (x1).toNatClampNeg dX2_splitIntoTokens_102 rfl rfl (Sm.k (Sm.wi Sm.rf) s0.2.2.2.2.2.2.2.2.2.2.2.2.2.2) (b19 c1 c3 c4 c5) ?_
          refine g_aload_n 0 104 dX2_splitIntoTokens_103 rfl rfl ?_
          refine g_getR 107 (a0 + 11) dX2_splitIntoTokens_104 rfl flX2_35 (Sm.k (Sm.wi (Sm.wi Sm.rf)) s0.1) (Sm.r (Sm.wi (Sm.wi Sm.rf)) s0.2.2.2.2.2.2.2.2.2.1) ?_
          refine g_iload_n 1 108 dX2_splitIntoTokens_107 rfl rfl ?_
          refine g_iload 4 110 dX2_splitIntoTokens_108 rfl rfl ?_
          refine g_bipush (22) 112 dX2_splitIntoTokens_110 rfl rfl ?_
          refine g_icmp_ne 124 115 dX2_splitIntoTokens_112 rfl rfl (fun _ => ?_) (fun q => absurd (c5.symm.trans q) (by decide))
          refine g_iload 4 126 dX2_splitIntoTokens_124 rfl rfl ?_
          refine g_bipush (23) 128 dX2_splitIntoTokens_126 rfl rfl ?_
          refine g_icmp_ne 136 131 dX2_splitIntoTokens_128 rfl rfl (fun q => absurd c5 q) (fun _ => ?_)
          refine g_bipush (23) 133 dX2_splitIntoTokens_131 rfl rfl ?_
          refine g_goto 145 dX2_splitIntoTokens_133 rfl ?_
          refine h_iastore 146 (x1).toNatClampNeg dX2_splitIntoTokens_145 rfl rfl (Sm.k (Sm.wi (Sm.wi Sm.rf)) s0.2.2.2.2.2.2.2.2.2.2.1) (b19 c1 c3 c4 c5) ?_
          refine g_iinc _ 1 149 [(1, .int ((x1 + 1))), (0, .ref a0), (2, .int (x2)), (3, .int (x3)), (4, .int (x4))] dX2_splitIntoTokens_146 rfl rfl rfl (Nat.le_of_ble_eq_true rfl) rfl ?_
          refine g_iload_n 3 150 dX2_splitIntoTokens_149 rfl rfl ?_
          refine g_istore_n 151 [(2, .int (x3)), (1, .int ((x1 + 1))), (0, .ref a0), (3, .int (x3)), (4, .int (x4))] dX2_splitIntoTokens_150 rfl (Nat.le_of_ble_eq_true rfl) rfl ?_
          refine g_goto 4 dX2_splitIntoTokens_151 rfl ?_
          exact g_sub [2, 1, 0] _ rfl (h20 c1 c3 c4 c5)
    · skip
      refine g_aload_n 0 43 dX2_splitIntoTokens_42 rfl rfl ?_
      refine g_getR 46 (a0 + 1) dX2_splitIntoTokens_43 rfl flX2_9 s0.1 s0.2.1 ?_
      refine g_iload_n 3 47 dX2_splitIntoTokens_46 rfl rfl ?_
      refine h_iaload 48 (x3).toNatClampNeg dX2_splitIntoTokens_47 rfl rfl s0.2.2.1 (b21 c1 c3) ?_
      refine g_callS (mc1 := 0) (ms1 := 0) (rest := []) (av := [.int ((g_mi M (a0 + 1) (x3).toNatClampNeg))]) kX2_kindOf 51 dX2_splitIntoTokens_48 rfl rfl mbX2_78 smX2_kindOf (Nat.le_of_ble_eq_true rfl) (w13) (w14) (tX2_kindOf  ?_)
      show Go X (d + 5) mc ms kX2_splitIntoTokens Q 51 [(0, .ref a0), (1, .int (x1)), (2, .int (x2)), (3, .int (x3)), (4, .int (x4))] [.int ((fX2_kindOf (g_mi M (a0 + 1) (x3).toNatClampNeg)))] M c z
      refine g_iload 4 53 dX2_splitIntoTokens_51 rfl rfl ?_
      refine g_icmp_ne 62 56 dX2_splitIntoTokens_53 rfl rfl (fun c7 => ?_) (fun c7 => ?_)
      · skip
        refine g_aload_n 0 63 dX2_splitIntoTokens_62 rfl rfl ?_
        refine g_getR 66 (a0 + 1) dX2_splitIntoTokens_63 rfl flX2_9 s0.1 s0.2.1 ?_
        refine g_iload_n 2 67 dX2_splitIntoTokens_66 rfl rfl ?_
        refine h_iaload 68 (x2).toNatClampNeg dX2_splitIntoTokens_67 rfl rfl s0.2.2.1 (b22 c1 c3 c7) ?_
        refine g_bipush (32) 70 dX2_splitIntoTokens_68 rfl rfl ?_
        refine g_icmp_eq 149 73 dX2_splitIntoTokens_70 rfl rfl (fun c8 => ?_) (fun c8 => ?_)
        · skip
          refine g_iload_n 3 150 dX2_splitIntoTokens_149 rfl rfl ?_
          refine g_istore_n 151 [(2, .int (x3)), (0, .ref a0), (1, .int (x1)), (3, .int (x3)), (4, .int (x4))] dX2_splitIntoTokens_150 rfl (Nat.le_of_ble_eq_true rfl) rfl ?_
          refine g_goto 4 dX2_splitIntoTokens_151 rfl ?_
          exact g_sub [1, 2, 0] _ rfl (h23 c1 c3 c7 c8)
        · skip
          refine g_aload_n 0 74 dX2_splitIntoTokens_73 rfl rfl ?_
          refine g_getR 77 (a0 + 12) dX2_splitIntoTokens_74 rfl flX2_38 s0.1 s0.2.2.2.2.2.2.2.2.2.2.2.1 ?_
          refine g_iload_n 1 78 dX2_splitIntoTokens_77 rfl rfl ?_
          refine g_iload_n 2 79 dX2_splitIntoTokens_78 rfl rfl ?_
          refine h_iastore 80 (x1).toNatClampNeg dX2_splitIntoTokens_79 rfl rfl s0.2.2.2.2.2.2.2.2.2.2.2.2.1 (b24 c1 c3 c7 c8) ?_
          refine g_aload_n 0 81 dX2_splitIntoTokens_80 rfl rfl ?_
          refine g_getR 84 (a0 + 13) dX2_splitIntoTokens_81 rfl flX2_41 (Sm.k (Sm.wi Sm.rf) s0.1) (Sm.r (Sm.wi Sm.rf) s0.2.2.2.2.2.2.2.2.2.2.2.2.2.1) ?_
          refine g_iload_n 1 85 dX2_splitIntoTokens_84 rfl rfl ?_
          refine g_iload 4 87 dX2_splitIntoTokens_85 rfl rfl ?_
          refine g_bipush (23) 89 dX2_splitIntoTokens_87 rfl rfl ?_
          refine g_icmp_ne 101 92 dX2_splitIntoTokens_89 rfl rfl (fun c9 => ?_) (fun c9 => ?_)
          · skip
            refine g_iconst ((-1)) 102 dX2_splitIntoTokens_101 rfl rfl ?_
            refine h_iastore 103 (x1).toNatClampNeg dX2_splitIntoTokens_102 rfl rfl (Sm.k (Sm.wi Sm.rf) s0.2.2.2.2.2.2.2.2.2.2.2.2.2.2) (b25 c1 c3 c7 c8 c9) ?_
            refine g_aload_n 0 104 dX2_splitIntoTokens_103 rfl rfl ?_
            refine g_getR 107 (a0 + 11) dX2_splitIntoTokens_104 rfl flX2_35 (Sm.k (Sm.wi (Sm.wi Sm.rf)) s0.1) (Sm.r (Sm.wi (Sm.wi Sm.rf)) s0.2.2.2.2.2.2.2.2.2.1) ?_
            refine g_iload_n 1 108 dX2_splitIntoTokens_107 rfl rfl ?_
            refine g_iload 4 110 dX2_splitIntoTokens_108 rfl rfl ?_
            refine g_bipush (22) 112 dX2_splitIntoTokens_110 rfl rfl ?_
            refine g_icmp_ne 124 115 dX2_splitIntoTokens_112 rfl rfl (fun c10 => ?_) (fun c10 => ?_)
            · skip
              refine g_iload 4 126 dX2_splitIntoTokens_124 rfl rfl ?_
              refine g_bipush (23) 128 dX2_splitIntoTokens_126 rfl rfl ?_
              refine g_icmp_ne 136 131 dX2_splitIntoTokens_128 rfl rfl (fun _ => ?_) (fun q => absurd q c9)
              refine g_bipush (25) 138 dX2_splitIntoTokens_136 rfl rfl ?_
              refine g_aload_n 0 139 dX2_splitIntoTokens_138 rfl rfl ?_
              refine g_getR 142 (a0 + 1) dX2_splitIntoTokens_139 rfl flX2_9 (Sm.k (Sm.wi (Sm.wi Sm.rf)) s0.1) (Sm.r (Sm.wi (Sm.wi Sm.rf)) s0.2.1) ?_
              refine g_iload_n 2 143 dX2_splitIntoTokens_142 rfl rfl ?_
              refine h_iaload 144 (x2).toNatClampNeg dX2_splitIntoTokens_143 rfl rfl (Sm.k (Sm.wi (Sm.wi Sm.rf)) s0.2.2.1) (b26 c1 c3 c7 c8 c9 c10) ?_
              refine g_iadd 145 dX2_splitIntoTokens_144 rfl ?_
              refine h_iastore 146 (x1).toNatClampNeg dX2_splitIntoTokens_145 rfl rfl (Sm.k (Sm.wi (Sm.wi Sm.rf)) s0.2.2.2.2.2.2.2.2.2.2.1) (b27 c1 c3 c7 c8 c9 c10) ?_
              refine g_iinc _ 1 149 [(1, .int ((x1 + 1))), (0, .ref a0), (2, .int (x2)), (3, .int (x3)), (4, .int (x4))] dX2_splitIntoTokens_146 rfl rfl rfl (Nat.le_of_ble_eq_true rfl) rfl ?_
              refine g_iload_n 3 150 dX2_splitIntoTokens_149 rfl rfl ?_
              refine g_istore_n 151 [(2, .int (x3)), (1, .int ((x1 + 1))), (0, .ref a0), (3, .int (x3)), (4, .int (x4))] dX2_splitIntoTokens_150 rfl (Nat.le_of_ble_eq_true rfl) rfl ?_
              refine g_goto 4 dX2_splitIntoTokens_151 rfl ?_
              exact g_sub [2, 1, 0] _ rfl (h28 c1 c3 c7 c8 c9 c10)
            · skip
              refine g_aload_n 0 116 dX2_splitIntoTokens_115 rfl rfl ?_
              refine g_iload_n 2 117 dX2_splitIntoTokens_116 rfl rfl ?_
              refine g_iload_n 3 118 dX2_splitIntoTokens_117 rfl rfl ?_
              refine g_callV (mc1 := 0) (ms1 := 0) (b := a0) (rest := [.int (x1), .ref (a0 + 11)]) (av := [.int (x2), .int (x3)]) kX2_wordBetween 121 dX2_splitIntoTokens_118 rfl rfl mbX2_86 imX2_wordBetween seX2_wordBetween gcl2.1 (Sm.k (Sm.wi (Sm.wi Sm.rf)) s0.1) (Nat.le_of_ble_eq_true rfl) (w13) (w14) (tX2_wordBetween (N := N) (Re.sm (Sm.wi (Sm.wi Sm.rf)) s0) (b29 c1 c3 c7 c8 c9 c10) ?_)
              show Go X (d + 5) mc ms kX2_splitIntoTokens Q 121 [(0, .ref a0), (1, .int (x1)), (2, .int (x2)), (3, .int (x3)), (4, .int (x4))] [.int ((fX2_wordBetween N (g_wi (g_wi M (a0 + 12) (x1).toNatClampNeg x2) (a0 + 13) (x1).toNatClampNeg (-1)) a0 x2 x3)), .int (x1), .ref (a0 + 11)] (g_wi (g_wi M (a0 + 12) (x1).toNatClampNeg x2) (a0 + 13) (x1).toNatClampNeg (-1)) c z
              refine g_goto 145 dX2_splitIntoTokens_121 rfl ?_
              refine h_iastore 146 (x1).toNatClampNeg dX2_splitIntoTokens_145 rfl rfl (Sm.k (Sm.wi (Sm.wi Sm.rf)) s0.2.2.2.2.2.2.2.2.2.2.1) (b30 c1 c3 c7 c8 c9 c10) ?_
              refine g_iinc _ 1 149 [(1, .int ((x1 + 1))), (0, .ref a0), (2, .int (x2)), (3, .int (x3)), (4, .int (x4))] dX2_splitIntoTokens_146 rfl rfl rfl (Nat.le_of_ble_eq_true rfl) rfl ?_
              refine g_iload_n 3 150 dX2_splitIntoTokens_149 rfl rfl ?_
              refine g_istore_n 151 [(2, .int (x3)), (1, .int ((x1 + 1))), (0, .ref a0), (3, .int (x3)), (4, .int (x4))] dX2_splitIntoTokens_150 rfl (Nat.le_of_ble_eq_true rfl) rfl ?_
              refine g_goto 4 dX2_splitIntoTokens_151 rfl ?_
              exact g_sub [2, 1, 0] _ rfl (h31 c1 c3 c7 c8 c9 c10)
          · skip
            refine g_aload_n 0 93 dX2_splitIntoTokens_92 rfl rfl ?_
            refine g_iload_n 2 94 dX2_splitIntoTokens_93 rfl rfl ?_
            refine g_iload_n 3 95 dX2_splitIntoTokens_94 rfl rfl ?_
            refine g_callV (mc1 := 0) (ms1 := 0) (b := a0) (rest := [.int (x1), .ref (a0 + 13)]) (av := [.int (x2), .int (x3)]) kX2_numberBetween 98 dX2_splitIntoTokens_95 rfl rfl mbX2_82 imX2_numberBetween seX2_numberBetween gcl2.1 (Sm.k (Sm.wi Sm.rf) s0.1) (Nat.le_of_ble_eq_true rfl) (w13) (w14) (tX2_numberBetween (N := N) (Re.sm (Sm.wi Sm.rf) s0) (b32 c1 c3 c7 c8 c9) ?_)
            show Go X (d + 5) mc ms kX2_splitIntoTokens Q 98 [(0, .ref a0), (1, .int (x1)), (2, .int (x2)), (3, .int (x3)), (4, .int (x4))] [.int ((fX2_numberBetween N (g_wi M (a0 + 12) (x1).toNatClampNeg x2) a0 x2 x3)), .int (x1), .ref (a0 + 13)] (g_wi M (a0 + 12) (x1).toNatClampNeg x2) c z
            refine g_goto 102 dX2_splitIntoTokens_98 rfl ?_
            refine h_iastore 103 (x1).toNatClampNeg dX2_splitIntoTokens_102 rfl rfl (Sm.k (Sm.wi Sm.rf) s0.2.2.2.2.2.2.2.2.2.2.2.2.2.2) (b33 c1 c3 c7 c8 c9) ?_
            refine g_aload_n 0 104 dX2_splitIntoTokens_103 rfl rfl ?_
            refine g_getR 107 (a0 + 11) dX2_splitIntoTokens_104 rfl flX2_35 (Sm.k (Sm.wi (Sm.wi Sm.rf)) s0.1) (Sm.r (Sm.wi (Sm.wi Sm.rf)) s0.2.2.2.2.2.2.2.2.2.1) ?_
            refine g_iload_n 1 108 dX2_splitIntoTokens_107 rfl rfl ?_
            refine g_iload 4 110 dX2_splitIntoTokens_108 rfl rfl ?_
            refine g_bipush (22) 112 dX2_splitIntoTokens_110 rfl rfl ?_
            refine g_icmp_ne 124 115 dX2_splitIntoTokens_112 rfl rfl (fun _ => ?_) (fun q => absurd (c9.symm.trans q) (by decide))
            refine g_iload 4 126 dX2_splitIntoTokens_124 rfl rfl ?_
            refine g_bipush (23) 128 dX2_splitIntoTokens_126 rfl rfl ?_
            refine g_icmp_ne 136 131 dX2_splitIntoTokens_128 rfl rfl (fun q => absurd c9 q) (fun _ => ?_)
            refine g_bipush (23) 133 dX2_splitIntoTokens_131 rfl rfl ?_
            refine g_goto 145 dX2_splitIntoTokens_133 rfl ?_
            refine h_iastore 146 (x1).toNatClampNeg dX2_splitIntoTokens_145 rfl rfl (Sm.k (Sm.wi (Sm.wi Sm.rf)) s0.2.2.2.2.2.2.2.2.2.2.1) (b33 c1 c3 c7 c8 c9) ?_
            refine g_iinc _ 1 149 [(1, .int ((x1 + 1))), (0, .ref a0), (2, .int (x2)), (3, .int (x3)), (4, .int (x4))] dX2_splitIntoTokens_146 rfl rfl rfl (Nat.le_of_ble_eq_true rfl) rfl ?_
            refine g_iload_n 3 150 dX2_splitIntoTokens_149 rfl rfl ?_
            refine g_istore_n 151 [(2, .int (x3)), (1, .int ((x1 + 1))), (0, .ref a0), (3, .int (x3)), (4, .int (x4))] dX2_splitIntoTokens_150 rfl (Nat.le_of_ble_eq_true rfl) rfl ?_
            refine g_goto 4 dX2_splitIntoTokens_151 rfl ?_
            exact g_sub [2, 1, 0] _ rfl (h34 c1 c3 c7 c8 c9)
      · skip
        refine g_iinc _ 3 59 [(3, .int ((x3 + 1))), (0, .ref a0), (1, .int (x1)), (2, .int (x2)), (4, .int (x4))] dX2_splitIntoTokens_56 rfl rfl rfl (Nat.le_of_ble_eq_true rfl) rfl ?_
        refine g_goto 27 dX2_splitIntoTokens_59 rfl ?_
        exact g_sub [1, 2, 3, 0, 4] _ rfl (h35 c1 c3 c7)

def bX2_splitIntoTokens_0 (N : Nat) (M : gM) (a0 : Nat) (k : Nat → (Nat → Nat → Int32) → Nat → Int32 → Int32 → Int32 → Int32 → Int32 × (Nat → Nat → Int32)) : Int32 × (Nat → Nat → Int32) := (k 0 (g_mi M) a0 0 0 0 0)
def eX2_splitIntoTokens_0 (N : Nat) (M : gM) (a0 : Nat) (k : Nat → (Nat → Nat → Int32) → Nat → Int32 → Int32 → Int32 → Int32 → Prop) : Prop := (k 0 (g_mi M) a0 0 0 0 0)
def bX2_splitIntoTokens_4 (N : Nat) (M : gM) (f : Nat → Nat → Int32) (a0 : Nat) (x1 : Int32) (x2 : Int32) (k : Nat → (Nat → Nat → Int32) → Nat → Int32 → Int32 → Int32 → Int32 → Int32 × (Nat → Nat → Int32)) : Int32 × (Nat → Nat → Int32) := (if (g_mi (g_wm M f (g_ml M)) a0 5) ≤ x2 then (0, g_mi (g_wi (g_wi (g_wi (g_wm M f (g_ml M)) (a0 + 12) (x1).toNatClampNeg (g_mi (g_wm M f (g_ml M)) a0 5)) (a0 + 13) (x1).toNatClampNeg (-1)) (a0 + 11) (x1).toNatClampNeg 24)) else (k 1 (g_mi (g_wm M f (g_ml M))) a0 x1 x2 (x2 + 1) (fX2_kindOf (g_mi (g_wm M f (g_ml M)) (a0 + 1) (x2).toNatClampNeg))))
def eX2_splitIntoTokens_4 (N : Nat) (M : gM) (f : Nat → Nat → Int32) (a0 : Nat) (x1 : Int32) (x2 : Int32) (k : Nat → (Nat → Nat → Int32) → Nat → Int32 → Int32 → Int32 → Int32 → Prop) : Prop := (((g_mi (g_wm M f (g_ml M)) a0 5) ≤ x2) → vp_in (x1) 401) ∧ ((¬ (g_mi (g_wm M f (g_ml M)) a0 5) ≤ x2) → vp_in (x2) 400) ∧ (if (g_mi (g_wm M f (g_ml M)) a0 5) ≤ x2 then True else (k 1 (g_mi (g_wm M f (g_ml M))) a0 x1 x2 (x2 + 1) (fX2_kindOf (g_mi (g_wm M f (g_ml M)) (a0 + 1) (x2).toNatClampNeg))))
def bX2_splitIntoTokens_27 (N : Nat) (M : gM) (f : Nat → Nat → Int32) (a0 : Nat) (x1 : Int32) (x2 : Int32) (x3 : Int32) (x4 : Int32) (k : Nat → (Nat → Nat → Int32) → Nat → Int32 → Int32 → Int32 → Int32 → Int32 × (Nat → Nat → Int32)) : Int32 × (Nat → Nat → Int32) := (if x4 = 25 then (if (g_mi (g_wm M f (g_ml M)) (a0 + 1) (x2).toNatClampNeg) = 32 then (k 0 (g_mi (g_wm M f (g_ml M))) a0 x1 x3 0 0) else (k 0 (g_mi (g_wi (g_wi (g_wi (g_wm M f (g_ml M)) (a0 + 12) (x1).toNatClampNeg x2) (a0 + 13) (x1).toNatClampNeg (-1)) (a0 + 11) (x1).toNatClampNeg (25 + (g_mi (g_wi (g_wi (g_wm M f (g_ml M)) (a0 + 12) (x1).toNatClampNeg x2) (a0 + 13) (x1).toNatClampNeg (-1)) (a0 + 1) (x2).toNatClampNeg)))) a0 (x1 + 1) x3 0 0)) else (if (g_mi (g_wm M f (g_ml M)) a0 5) ≤ x3 then (if (g_mi (g_wm M f (g_ml M)) (a0 + 1) (x2).toNatClampNeg) = 32 then (k 0 (g_mi (g_wm M f (g_ml M))) a0 x1 x3 0 0) else (if x4 = 23 then (k 0 (g_mi (g_wi (g_wi (g_wi (g_wm M f (g_ml M)) (a0 + 12) (x1).toNatClampNeg x2) (a0 + 13) (x1).toNatClampNeg (fX2_numberBetween N (g_wi (g_wm M f (g_ml M)) (a0 + 12) (x1).toNatClampNeg x2) a0 x2 x3)) (a0 + 11) (x1).toNatClampNeg 23)) a0 (x1 + 1) x3 0 0) else (if x4 = 22 then (k 0 (g_mi (g_wi (g_wi (g_wi (g_wm M f (g_ml M)) (a0 + 12) (x1).toNatClampNeg x2) (a0 + 13) (x1).toNatClampNeg (-1)) (a0 + 11) (x1).toNatClampNeg (fX2_wordBetween N (g_wi (g_wi (g_wm M f (g_ml M)) (a0 + 12) (x1).toNatClampNeg x2) (a0 + 13) (x1).toNatClampNeg (-1)) a0 x2 x3))) a0 (x1 + 1) x3 0 0) else (k 0 (g_mi (g_wi (g_wi (g_wi (g_wm M f (g_ml M)) (a0 + 12) (x1).toNatClampNeg x2) (a0 + 13) (x1).toNatClampNeg (-1)) (a0 + 11) (x1).toNatClampNeg (25 + (g_mi (g_wi (g_wi (g_wm M f (g_ml M)) (a0 + 12) (x1).toNatClampNeg x2) (a0 + 13) (x1).toNatClampNeg (-1)) (a0 + 1) (x2).toNatClampNeg)))) a0 (x1 + 1) x3 0 0)))) else (if (fX2_kindOf (g_mi (g_wm M f (g_ml M)) (a0 + 1) (x3).toNatClampNeg)) = x4 then (k 1 (g_mi (g_wm M f (g_ml M))) a0 x1 x2 (x3 + 1) x4) else (if (g_mi (g_wm M f (g_ml M)) (a0 + 1) (x2).toNatClampNeg) = 32 then (k 0 (g_mi (g_wm M f (g_ml M))) a0 x1 x3 0 0) else (if x4 = 23 then (k 0 (g_mi (g_wi (g_wi (g_wi (g_wm M f (g_ml M)) (a0 + 12) (x1).toNatClampNeg x2) (a0 + 13) (x1).toNatClampNeg (fX2_numberBetween N (g_wi (g_wm M f (g_ml M)) (a0 + 12) (x1).toNatClampNeg x2) a0 x2 x3)) (a0 + 11) (x1).toNatClampNeg 23)) a0 (x1 + 1) x3 0 0) else (if x4 = 22 then (k 0 (g_mi (g_wi (g_wi (g_wi (g_wm M f (g_ml M)) (a0 + 12) (x1).toNatClampNeg x2) (a0 + 13) (x1).toNatClampNeg (-1)) (a0 + 11) (x1).toNatClampNeg (fX2_wordBetween N (g_wi (g_wi (g_wm M f (g_ml M)) (a0 + 12) (x1).toNatClampNeg x2) (a0 + 13) (x1).toNatClampNeg (-1)) a0 x2 x3))) a0 (x1 + 1) x3 0 0) else (k 0 (g_mi (g_wi (g_wi (g_wi (g_wm M f (g_ml M)) (a0 + 12) (x1).toNatClampNeg x2) (a0 + 13) (x1).toNatClampNeg (-1)) (a0 + 11) (x1).toNatClampNeg (25 + (g_mi (g_wi (g_wi (g_wm M f (g_ml M)) (a0 + 12) (x1).toNatClampNeg x2) (a0 + 13) (x1).toNatClampNeg (-1)) (a0 + 1) (x2).toNatClampNeg)))) a0 (x1 + 1) x3 0 0)))))))
def eX2_splitIntoTokens_27 (N : Nat) (M : gM) (f : Nat → Nat → Int32) (a0 : Nat) (x1 : Int32) (x2 : Int32) (x3 : Int32) (x4 : Int32) (k : Nat → (Nat → Nat → Int32) → Nat → Int32 → Int32 → Int32 → Int32 → Prop) : Prop := ((x4 = 25) → vp_in (x2) 400) ∧ ((x4 = 25) → (¬ (g_mi (g_wm M f (g_ml M)) (a0 + 1) (x2).toNatClampNeg) = 32) → vp_in (x1) 401) ∧ ((x4 = 25) → (¬ (g_mi (g_wm M f (g_ml M)) (a0 + 1) (x2).toNatClampNeg) = 32) → vp_in (x2) 400) ∧ ((¬ x4 = 25) → ((g_mi (g_wm M f (g_ml M)) a0 5) ≤ x3) → vp_in (x2) 400) ∧ ((¬ x4 = 25) → ((g_mi (g_wm M f (g_ml M)) a0 5) ≤ x3) → (¬ (g_mi (g_wm M f (g_ml M)) (a0 + 1) (x2).toNatClampNeg) = 32) → vp_in (x1) 401) ∧ ((¬ x4 = 25) → ((g_mi (g_wm M f (g_ml M)) a0 5) ≤ x3) → (¬ (g_mi (g_wm M f (g_ml M)) (a0 + 1) (x2).toNatClampNeg) = 32) → (¬ x4 = 23) → vp_in (x1) 401) ∧ ((¬ x4 = 25) → ((g_mi (g_wm M f (g_ml M)) a0 5) ≤ x3) → (¬ (g_mi (g_wm M f (g_ml M)) (a0 + 1) (x2).toNatClampNeg) = 32) → (¬ x4 = 23) → (¬ x4 = 22) → vp_in (x2) 400) ∧ ((¬ x4 = 25) → ((g_mi (g_wm M f (g_ml M)) a0 5) ≤ x3) → (¬ (g_mi (g_wm M f (g_ml M)) (a0 + 1) (x2).toNatClampNeg) = 32) → (¬ x4 = 23) → (¬ x4 = 22) → vp_in (x1) 401) ∧ ((¬ x4 = 25) → ((g_mi (g_wm M f (g_ml M)) a0 5) ≤ x3) → (¬ (g_mi (g_wm M f (g_ml M)) (a0 + 1) (x2).toNatClampNeg) = 32) → (¬ x4 = 23) → (x4 = 22) → EX2_wordBetween N (g_wi (g_wi (g_wm M f (g_ml M)) (a0 + 12) (x1).toNatClampNeg x2) (a0 + 13) (x1).toNatClampNeg (-1)) a0 x2 x3) ∧ ((¬ x4 = 25) → ((g_mi (g_wm M f (g_ml M)) a0 5) ≤ x3) → (¬ (g_mi (g_wm M f (g_ml M)) (a0 + 1) (x2).toNatClampNeg) = 32) → (¬ x4 = 23) → (x4 = 22) → vp_in (x1) 401) ∧ ((¬ x4 = 25) → ((g_mi (g_wm M f (g_ml M)) a0 5) ≤ x3) → (¬ (g_mi (g_wm M f (g_ml M)) (a0 + 1) (x2).toNatClampNeg) = 32) → (x4 = 23) → EX2_numberBetween N (g_wi (g_wm M f (g_ml M)) (a0 + 12) (x1).toNatClampNeg x2) a0 x2 x3) ∧ ((¬ x4 = 25) → ((g_mi (g_wm M f (g_ml M)) a0 5) ≤ x3) → (¬ (g_mi (g_wm M f (g_ml M)) (a0 + 1) (x2).toNatClampNeg) = 32) → (x4 = 23) → vp_in (x1) 401) ∧ ((¬ x4 = 25) → (¬ (g_mi (g_wm M f (g_ml M)) a0 5) ≤ x3) → vp_in (x3) 400) ∧ ((¬ x4 = 25) → (¬ (g_mi (g_wm M f (g_ml M)) a0 5) ≤ x3) → (¬ (fX2_kindOf (g_mi (g_wm M f (g_ml M)) (a0 + 1) (x3).toNatClampNeg)) = x4) → vp_in (x2) 400) ∧ ((¬ x4 = 25) → (¬ (g_mi (g_wm M f (g_ml M)) a0 5) ≤ x3) → (¬ (fX2_kindOf (g_mi (g_wm M f (g_ml M)) (a0 + 1) (x3).toNatClampNeg)) = x4) → (¬ (g_mi (g_wm M f (g_ml M)) (a0 + 1) (x2).toNatClampNeg) = 32) → vp_in (x1) 401) ∧ ((¬ x4 = 25) → (¬ (g_mi (g_wm M f (g_ml M)) a0 5) ≤ x3) → (¬ (fX2_kindOf (g_mi (g_wm M f (g_ml M)) (a0 + 1) (x3).toNatClampNeg)) = x4) → (¬ (g_mi (g_wm M f (g_ml M)) (a0 + 1) (x2).toNatClampNeg) = 32) → (¬ x4 = 23) → vp_in (x1) 401) ∧ ((¬ x4 = 25) → (¬ (g_mi (g_wm M f (g_ml M)) a0 5) ≤ x3) → (¬ (fX2_kindOf (g_mi (g_wm M f (g_ml M)) (a0 + 1) (x3).toNatClampNeg)) = x4) → (¬ (g_mi (g_wm M f (g_ml M)) (a0 + 1) (x2).toNatClampNeg) = 32) → (¬ x4 = 23) → (¬ x4 = 22) → vp_in (x2) 400) ∧ ((¬ x4 = 25) → (¬ (g_mi (g_wm M f (g_ml M)) a0 5) ≤ x3) → (¬ (fX2_kindOf (g_mi (g_wm M f (g_ml M)) (a0 + 1) (x3).toNatClampNeg)) = x4) → (¬ (g_mi (g_wm M f (g_ml M)) (a0 + 1) (x2).toNatClampNeg) = 32) → (¬ x4 = 23) → (¬ x4 = 22) → vp_in (x1) 401) ∧ ((¬ x4 = 25) → (¬ (g_mi (g_wm M f (g_ml M)) a0 5) ≤ x3) → (¬ (fX2_kindOf (g_mi (g_wm M f (g_ml M)) (a0 + 1) (x3).toNatClampNeg)) = x4) → (¬ (g_mi (g_wm M f (g_ml M)) (a0 + 1) (x2).toNatClampNeg) = 32) → (¬ x4 = 23) → (x4 = 22) → EX2_wordBetween N (g_wi (g_wi (g_wm M f (g_ml M)) (a0 + 12) (x1).toNatClampNeg x2) (a0 + 13) (x1).toNatClampNeg (-1)) a0 x2 x3) ∧ ((¬ x4 = 25) → (¬ (g_mi (g_wm M f (g_ml M)) a0 5) ≤ x3) → (¬ (fX2_kindOf (g_mi (g_wm M f (g_ml M)) (a0 + 1) (x3).toNatClampNeg)) = x4) → (¬ (g_mi (g_wm M f (g_ml M)) (a0 + 1) (x2).toNatClampNeg) = 32) → (¬ x4 = 23) → (x4 = 22) → vp_in (x1) 401) ∧ ((¬ x4 = 25) → (¬ (g_mi (g_wm M f (g_ml M)) a0 5) ≤ x3) → (¬ (fX2_kindOf (g_mi (g_wm M f (g_ml M)) (a0 + 1) (x3).toNatClampNeg)) = x4) → (¬ (g_mi (g_wm M f (g_ml M)) (a0 + 1) (x2).toNatClampNeg) = 32) → (x4 = 23) → EX2_numberBetween N (g_wi (g_wm M f (g_ml M)) (a0 + 12) (x1).toNatClampNeg x2) a0 x2 x3) ∧ ((¬ x4 = 25) → (¬ (g_mi (g_wm M f (g_ml M)) a0 5) ≤ x3) → (¬ (fX2_kindOf (g_mi (g_wm M f (g_ml M)) (a0 + 1) (x3).toNatClampNeg)) = x4) → (¬ (g_mi (g_wm M f (g_ml M)) (a0 + 1) (x2).toNatClampNeg) = 32) → (x4 = 23) → vp_in (x1) 401) ∧ (if x4 = 25 then (if (g_mi (g_wm M f (g_ml M)) (a0 + 1) (x2).toNatClampNeg) = 32 then (k 0 (g_mi (g_wm M f (g_ml M))) a0 x1 x3 0 0) else (k 0 (g_mi (g_wi (g_wi (g_wi (g_wm M f (g_ml M)) (a0 + 12) (x1).toNatClampNeg x2) (a0 + 13) (x1).toNatClampNeg (-1)) (a0 + 11) (x1).toNatClampNeg (25 + (g_mi (g_wi (g_wi (g_wm M f (g_ml M)) (a0 + 12) (x1).toNatClampNeg x2) (a0 + 13) (x1).toNatClampNeg (-1)) (a0 + 1) (x2).toNatClampNeg)))) a0 (x1 + 1) x3 0 0)) else (if (g_mi (g_wm M f (g_ml M)) a0 5) ≤ x3 then (if (g_mi (g_wm M f (g_ml M)) (a0 + 1) (x2).toNatClampNeg) = 32 then (k 0 (g_mi (g_wm M f (g_ml M))) a0 x1 x3 0 0) else (if x4 = 23 then (k 0 (g_mi (g_wi (g_wi (g_wi (g_wm M f (g_ml M)) (a0 + 12) (x1).toNatClampNeg x2) (a0 + 13) (x1).toNatClampNeg (fX2_numberBetween N (g_wi (g_wm M f (g_ml M)) (a0 + 12) (x1).toNatClampNeg x2) a0 x2 x3)) (a0 + 11) (x1).toNatClampNeg 23)) a0 (x1 + 1) x3 0 0) else (if x4 = 22 then (k 0 (g_mi (g_wi (g_wi (g_wi (g_wm M f (g_ml M)) (a0 + 12) (x1).toNatClampNeg x2) (a0 + 13) (x1).toNatClampNeg (-1)) (a0 + 11) (x1).toNatClampNeg (fX2_wordBetween N (g_wi (g_wi (g_wm M f (g_ml M)) (a0 + 12) (x1).toNatClampNeg x2) (a0 + 13) (x1).toNatClampNeg (-1)) a0 x2 x3))) a0 (x1 + 1) x3 0 0) else (k 0 (g_mi (g_wi (g_wi (g_wi (g_wm M f (g_ml M)) (a0 + 12) (x1).toNatClampNeg x2) (a0 + 13) (x1).toNatClampNeg (-1)) (a0 + 11) (x1).toNatClampNeg (25 + (g_mi (g_wi (g_wi (g_wm M f (g_ml M)) (a0 + 12) (x1).toNatClampNeg x2) (a0 + 13) (x1).toNatClampNeg (-1)) (a0 + 1) (x2).toNatClampNeg)))) a0 (x1 + 1) x3 0 0)))) else (if (fX2_kindOf (g_mi (g_wm M f (g_ml M)) (a0 + 1) (x3).toNatClampNeg)) = x4 then (k 1 (g_mi (g_wm M f (g_ml M))) a0 x1 x2 (x3 + 1) x4) else (if (g_mi (g_wm M f (g_ml M)) (a0 + 1) (x2).toNatClampNeg) = 32 then (k 0 (g_mi (g_wm M f (g_ml M))) a0 x1 x3 0 0) else (if x4 = 23 then (k 0 (g_mi (g_wi (g_wi (g_wi (g_wm M f (g_ml M)) (a0 + 12) (x1).toNatClampNeg x2) (a0 + 13) (x1).toNatClampNeg (fX2_numberBetween N (g_wi (g_wm M f (g_ml M)) (a0 + 12) (x1).toNatClampNeg x2) a0 x2 x3)) (a0 + 11) (x1).toNatClampNeg 23)) a0 (x1 + 1) x3 0 0) else (if x4 = 22 then (k 0 (g_mi (g_wi (g_wi (g_wi (g_wm M f (g_ml M)) (a0 + 12) (x1).toNatClampNeg x2) (a0 + 13) (x1).toNatClampNeg (-1)) (a0 + 11) (x1).toNatClampNeg (fX2_wordBetween N (g_wi (g_wi (g_wm M f (g_ml M)) (a0 + 12) (x1).toNatClampNeg x2) (a0 + 13) (x1).toNatClampNeg (-1)) a0 x2 x3))) a0 (x1 + 1) x3 0 0) else (k 0 (g_mi (g_wi (g_wi (g_wi (g_wm M f (g_ml M)) (a0 + 12) (x1).toNatClampNeg x2) (a0 + 13) (x1).toNatClampNeg (-1)) (a0 + 11) (x1).toNatClampNeg (25 + (g_mi (g_wi (g_wi (g_wm M f (g_ml M)) (a0 + 12) (x1).toNatClampNeg x2) (a0 + 13) (x1).toNatClampNeg (-1)) (a0 + 1) (x2).toNatClampNeg)))) a0 (x1 + 1) x3 0 0)))))))
def wX2_splitIntoTokens (N : Nat) (M : gM) : Nat → Nat → (Nat → Nat → Int32) → Nat → Int32 → Int32 → Int32 → Int32 → Int32 × (Nat → Nat → Int32)
  | 0, _, f, _, _, _, _, _ => (0, f)
  | n + 1, h, f, a0, x1, x2, x3, x4 => if h = 0 then bX2_splitIntoTokens_4 N M f a0 x1 x2 (wX2_splitIntoTokens N M n) else bX2_splitIntoTokens_27 N M f a0 x1 x2 x3 x4 (wX2_splitIntoTokens N M n)
def vX2_splitIntoTokens (N : Nat) (M : gM) : Nat → Nat → (Nat → Nat → Int32) → Nat → Int32 → Int32 → Int32 → Int32 → Prop
  | 0, _, _, _, _, _, _, _ => False
  | n + 1, h, f, a0, x1, x2, x3, x4 => if h = 0 then eX2_splitIntoTokens_4 N M f a0 x1 x2 (vX2_splitIntoTokens N M n) else eX2_splitIntoTokens_27 N M f a0 x1 x2 x3 x4 (vX2_splitIntoTokens N M n)
set_option maxRecDepth 10000 in
theorem lpX2_splitIntoTokens {X : gX} {d mc ms : Nat} {Q : Option Value → gM → Prop} (N : Nat) (M : gM) : ∀ n : Nat, (∀ (f : Nat → Nat → Int32) (a0 : Nat) (x1 : Int32) (x2 : Int32) (x3 : Int32) (x4 : Int32), Re M a0 → vX2_splitIntoTokens N M n 0 f a0 x1 x2 x3 x4 → Q none (g_wm M (wX2_splitIntoTokens N M n 0 f a0 x1 x2 x3 x4).2 (g_ml M)) → Go X (d + 5) mc ms kX2_splitIntoTokens Q 4 [(0, .ref a0), (1, .int (x1)), (2, .int (x2))] [] (g_wm M f (g_ml M)) 0 0) ∧ (∀ (f : Nat → Nat → Int32) (a0 : Nat) (x1 : Int32) (x2 : Int32) (x3 : Int32) (x4 : Int32), Re M a0 → vX2_splitIntoTokens N M n 1 f a0 x1 x2 x3 x4 → Q none (g_wm M (wX2_splitIntoTokens N M n 1 f a0 x1 x2 x3 x4).2 (g_ml M)) → Go X (d + 5) mc ms kX2_splitIntoTokens Q 27 [(0, .ref a0), (1, .int (x1)), (2, .int (x2)), (3, .int (x3)), (4, .int (x4))] [] (g_wm M f (g_ml M)) 0 0) := by
  intro n
  induction n with
  | zero => exact ⟨fun _ _ _ _ _ _ _ h _ => h.elim, fun _ _ _ _ _ _ _ h _ => h.elim⟩
  | succ n ih =>
    refine ⟨?_, ?_⟩
    · intro f a0 x1 x2 x3 x4 s0 hT hQ
      rw [vX2_splitIntoTokens, if_pos (show (0 : Nat) = 0 from rfl)] at hT
      rw [wX2_splitIntoTokens, if_pos (show (0 : Nat) = 0 from rfl)] at hQ
      unfold bX2_splitIntoTokens_4 at hQ
      unfold eX2_splitIntoTokens_4 at hT
      obtain ⟨b1, b5, hT⟩ := hT
      exact sX2_splitIntoTokens_4 (M := (g_wm M f (g_ml M))) (Re.sm Sm.wm s0) b1 (fun c1 => by simp only [if_pos c1] at hQ; exact Sm.q (Sm.tr Sm.wm (Sm.wi (Sm.wi (Sm.wi Sm.rf)))) hQ) (Nat.zero_le _) (Nat.zero_le _) b5 (fun c1 => by simp only [if_neg c1] at hQ hT; exact Sm.g Sm.wm (ih.2 _ _ _ _ _ _ (s0) hT hQ))
    · intro f a0 x1 x2 x3 x4 s0 hT hQ
      rw [vX2_splitIntoTokens, if_neg (show ¬ (1 : Nat) = 0 by decide)] at hT
      rw [wX2_splitIntoTokens, if_neg (show ¬ (1 : Nat) = 0 by decide)] at hQ
      unfold bX2_splitIntoTokens_27 at hQ
      unfold eX2_splitIntoTokens_27 at hT
      obtain ⟨b1, b3, b4, b6, b8, b9, b10, b11, b15, b16, b18, b19, b21, b22, b24, b25, b26, b27, b29, b30, b32, b33, hT⟩ := hT
      exact sX2_splitIntoTokens_27 (M := (g_wm M f (g_ml M))) (Re.sm Sm.wm s0) b1 (fun c1 c2 => by simp only [if_pos c1, if_pos c2] at hQ hT; exact Sm.g Sm.wm (ih.1 _ _ _ _ _ _ (s0) hT hQ)) b3 b4 (fun c1 c2 => by simp only [if_pos c1, if_neg c2] at hQ hT; exact Sm.g (Sm.tr Sm.wm (Sm.wi (Sm.wi (Sm.wi Sm.rf)))) (ih.1 _ _ _ _ _ _ (s0) hT hQ)) b6 (fun c1 c3 c4 => by simp only [if_neg c1, if_pos c3, if_pos c4] at hQ hT; exact Sm.g Sm.wm (ih.1 _ _ _ _ _ _ (s0) hT hQ)) b8 b9 b10 b11 (fun c1 c3 c4 c5 c6 => by simp only [if_neg c1, if_pos c3, if_neg c4, if_neg c5, if_neg c6] at hQ hT; exact Sm.g (Sm.tr Sm.wm (Sm.wi (Sm.wi (Sm.wi Sm.rf)))) (ih.1 _ _ _ _ _ _ (s0) hT hQ)) (Nat.zero_le _) (Nat.zero_le _) b15 b16 (fun c1 c3 c4 c5 c6 => by simp only [if_neg c1, if_pos c3, if_neg c4, if_neg c5, if_pos c6] at hQ hT; exact Sm.g (Sm.tr Sm.wm (Sm.wi (Sm.wi (Sm.wi Sm.rf)))) (ih.1 _ _ _ _ _ _ (s0) hT hQ)) b18 b19 (fun c1 c3 c4 c5 => by simp only [if_neg c1, if_pos c3, if_neg c4, if_pos c5] at hQ hT; exact Sm.g (Sm.tr Sm.wm (Sm.wi (Sm.wi (Sm.wi Sm.rf)))) (ih.1 _ _ _ _ _ _ (s0) hT hQ)) b21 b22 (fun c1 c3 c7 c8 => by simp only [if_neg c1, if_neg c3, if_neg c7, if_pos c8] at hQ hT; exact Sm.g Sm.wm (ih.1 _ _ _ _ _ _ (s0) hT hQ)) b24 b25 b26 b27 (fun c1 c3 c7 c8 c9 c10 => by simp only [if_neg c1, if_neg c3, if_neg c7, if_neg c8, if_neg c9, if_neg c10] at hQ hT; exact Sm.g (Sm.tr Sm.wm (Sm.wi (Sm.wi (Sm.wi Sm.rf)))) (ih.1 _ _ _ _ _ _ (s0) hT hQ)) b29 b30 (fun c1 c3 c7 c8 c9 c10 => by simp only [if_neg c1, if_neg c3, if_neg c7, if_neg c8, if_neg c9, if_pos c10] at hQ hT; exact Sm.g (Sm.tr Sm.wm (Sm.wi (Sm.wi (Sm.wi Sm.rf)))) (ih.1 _ _ _ _ _ _ (s0) hT hQ)) b32 b33 (fun c1 c3 c7 c8 c9 => by simp only [if_neg c1, if_neg c3, if_neg c7, if_neg c8, if_pos c9] at hQ hT; exact Sm.g (Sm.tr Sm.wm (Sm.wi (Sm.wi (Sm.wi Sm.rf)))) (ih.1 _ _ _ _ _ _ (s0) hT hQ)) (fun c1 c3 c7 => by simp only [if_neg c1, if_neg c3, if_pos c7] at hQ hT; exact Sm.g Sm.wm (ih.2 _ _ _ _ _ _ (s0) hT hQ))
def mX2_splitIntoTokens (N : Nat) (M : gM) (a0 : Nat) : gM := g_wm M (bX2_splitIntoTokens_0 N M a0 (wX2_splitIntoTokens N M N)).2 (g_ml M)
theorem jX2_splitIntoTokens {N : Nat} {M : gM} {a0 : Nat} : Sm M (mX2_splitIntoTokens N M a0) := Sm.wm
def EX2_splitIntoTokens (N : Nat) (M : gM) (a0 : Nat) : Prop := eX2_splitIntoTokens_0 N M a0 (vX2_splitIntoTokens N M N)
theorem tX2_splitIntoTokens {N : Nat} {X : gX} {d mc ms : Nat} {Q : Option Value → gM → Prop} {M : gM} {a0 : Nat} (s0 : Re M a0) (hE : EX2_splitIntoTokens N M a0) (hQ : Q none (mX2_splitIntoTokens N M a0)) : Cn X (d + 5) mc ms kX2_splitIntoTokens [.ref a0] M Q := by
  unfold mX2_splitIntoTokens at hQ
  unfold bX2_splitIntoTokens_0 at hQ
  unfold EX2_splitIntoTokens eX2_splitIntoTokens_0 at hE
  have hT := hE
  have ih := lpX2_splitIntoTokens (X := X) (d := d) (mc := mc) (ms := ms) (Q := Q) N M N
  exact sX2_splitIntoTokens_0 s0 (Sm.g Sm.rf (ih.1 _ _ _ _ _ _ (s0) hT hQ))
/-! X5_solve  -/
set_option maxRecDepth 4000 in
theorem sX5_solve_0 {N : Nat} {X : gX} {d mc ms : Nat} {Q : Option Value → gM → Prop} {M : gM} {a0 : Nat} {a1 : Nat} {a2 : Nat} (s0 : Tb M a0) (s1 : St M a1) (s2 : Pe M a2) (b1 : EJ7_fill_53178 N (g_cp (g_wi (g_wi (g_wi (g_wi M a0 3 1) a0 4 (g_mi (g_wi M a0 3 1) a1 3)) a0 5 (g_mi (g_wi (g_wi M a0 3 1) a0 4 (g_mi (g_wi M a0 3 1) a1 3)) a1 4)) a0 6 (g_mi (g_wi (g_wi (g_wi M a0 3 1) a0 4 (g_mi (g_wi M a0 3 1) a1 3)) a0 5 (g_mi (g_wi (g_wi M a0 3 1) a0 4 (g_mi (g_wi M a0 3 1) a1 3)) a1 4)) a1 5)) (a1 + 1) (a0 + 1) 0 0 30) (a0 + 2) 60 3) (b2 : EJ7_fill_53178 N (mJ7_fill_53178 N (g_cp (g_wi (g_wi (g_wi (g_wi M a0 3 1) a0 4 (g_mi (g_wi M a0 3 1) a1 3)) a0 5 (g_mi (g_wi (g_wi M a0 3 1) a0 4 (g_mi (g_wi M a0 3 1) a1 3)) a1 4)) a0 6 (g_mi (g_wi (g_wi (g_wi M a0 3 1) a0 4 (g_mi (g_wi M a0 3 1) a1 3)) a0 5 (g_mi (g_wi (g_wi M a0 3 1) a0 4 (g_mi (g_wi M a0 3 1) a1 3)) a1 4)) a1 5)) (a1 + 1) (a0 + 1) 0 0 30) (a0 + 2) 60 3) (a0 + 3) 60 0) (h3 : Go X (d + 2) mc ms kX5_solve Q 67 [(0, .ref a0), (2, .ref a2), (3, .int (((g_mi (mJ7_fill_53178 N (mJ7_fill_53178 N (g_cp (g_wi (g_wi (g_wi (g_wi M a0 3 1) a0 4 (g_mi (g_wi M a0 3 1) a1 3)) a0 5 (g_mi (g_wi (g_wi M a0 3 1) a0 4 (g_mi (g_wi M a0 3 1) a1 3)) a1 4)) a0 6 (g_mi (g_wi (g_wi (g_wi M a0 3 1) a0 4 (g_mi (g_wi M a0 3 1) a1 3)) a0 5 (g_mi (g_wi (g_wi M a0 3 1) a0 4 (g_mi (g_wi M a0 3 1) a1 3)) a1 4)) a1 5)) (a1 + 1) (a0 + 1) 0 0 30) (a0 + 2) 60 3) (a0 + 3) 60 0) a2 8) - 1)))] [] (mJ7_fill_53178 N (mJ7_fill_53178 N (g_cp (g_wi (g_wi (g_wi (g_wi M a0 3 1) a0 4 (g_mi (g_wi M a0 3 1) a1 3)) a0 5 (g_mi (g_wi (g_wi M a0 3 1) a0 4 (g_mi (g_wi M a0 3 1) a1 3)) a1 4)) a0 6 (g_mi (g_wi (g_wi (g_wi M a0 3 1) a0 4 (g_mi (g_wi M a0 3 1) a1 3)) a0 5 (g_mi (g_wi (g_wi M a0 3 1) a0 4 (g_mi (g_wi M a0 3 1) a1 3)) a1 4)) a1 5)) (a1 + 1) (a0 + 1) 0 0 30) (a0 + 2) 60 3) (a0 + 3) 60 0) 0 0) : Cn X (d + 2) mc ms kX5_solve [.ref a0, .ref a1, .ref a2] M Q := by
  refine g_meth rfl rfl (Nat.le_of_ble_eq_true rfl) rfl ?_
  refine g_aload_n 0 1 dX5_solve_0 rfl rfl ?_
  refine g_iconst (1) 2 dX5_solve_1 rfl rfl ?_
  refine g_putZ 5 dX5_solve_2 rfl flX5_25 s0.1 (by decide) ?_
  refine g_aload_n 0 6 dX5_solve_5 rfl rfl ?_
  refine g_aload_n 1 7 dX5_solve_6 rfl rfl ?_
  refine g_getI 10 dX5_solve_7 rfl flX5_41 (Sm.k (Sm.wi Sm.rf) s1.1) ?_
  refine g_putI 13 dX5_solve_10 rfl flX5_35 (Sm.k (Sm.wi Sm.rf) s0.1) ?_
  refine g_aload_n 0 14 dX5_solve_13 rfl rfl ?_
  refine g_aload_n 1 15 dX5_solve_14 rfl rfl ?_
  refine g_getI 18 dX5_solve_15 rfl flX5_44 (Sm.k (Sm.wi (Sm.wi Sm.rf)) s1.1) ?_
  refine g_putI 21 dX5_solve_18 rfl flX5_21 (Sm.k (Sm.wi (Sm.wi Sm.rf)) s0.1) ?_
  refine g_aload_n 0 22 dX5_solve_21 rfl rfl ?_
  refine g_aload_n 1 23 dX5_solve_22 rfl rfl ?_
  refine g_getI 26 dX5_solve_23 rfl flX5_45 (Sm.k (Sm.wi (Sm.wi (Sm.wi Sm.rf))) s1.1) ?_
  refine g_putI 29 dX5_solve_26 rfl flX5_38 (Sm.k (Sm.wi (Sm.wi (Sm.wi Sm.rf))) s0.1) ?_
  refine g_aload_n 1 30 dX5_solve_29 rfl rfl ?_
  refine g_getR 33 (a1 + 1) dX5_solve_30 rfl flX5_46 (Sm.k (Sm.wi (Sm.wi (Sm.wi (Sm.wi Sm.rf)))) s1.1) (Sm.r (Sm.wi (Sm.wi (Sm.wi (Sm.wi Sm.rf)))) s1.2.1) ?_
  refine g_iconst (0) 34 dX5_solve_33 rfl rfl ?_
  refine g_aload_n 0 35 dX5_solve_34 rfl rfl ?_
  refine g_getR 38 (a0 + 1) dX5_solve_35 rfl flX5_9 (Sm.k (Sm.wi (Sm.wi (Sm.wi (Sm.wi Sm.rf)))) s0.1) (Sm.r (Sm.wi (Sm.wi (Sm.wi (Sm.wi Sm.rf)))) s0.2.1) ?_
  refine g_iconst (0) 39 dX5_solve_38 rfl rfl ?_
  refine g_bipush (30) 41 dX5_solve_39 rfl rfl ?_
  refine g_copy 44 dX5_solve_41 rfl q3_195 q3_180 q3_179 q1_17 (Sm.k (Sm.wi (Sm.wi (Sm.wi (Sm.wi Sm.rf)))) s1.2.2.1) (Sm.k (Sm.wi (Sm.wi (Sm.wi (Sm.wi Sm.rf)))) s0.2.2.1) (by decide) (by decide) (by decide) (by decide) (by decide) (Nat.le_of_ble_eq_true rfl) ?_
  refine g_aload_n 0 45 dX5_solve_44 rfl rfl ?_
  refine g_getR 48 (a0 + 2) dX5_solve_45 rfl flX5_15 (Sm.k (Sm.cp (Sm.wi (Sm.wi (Sm.wi (Sm.wi Sm.rf))))) s0.1) (Sm.r (Sm.cp (Sm.wi (Sm.wi (Sm.wi (Sm.wi Sm.rf))))) s0.2.2.2.1) ?_
  refine g_iconst (3) 49 dX5_solve_48 rfl rfl ?_
  refine g_callS (mc1 := 0) (ms1 := 0) (rest := []) (av := [.ref (a0 + 2), .int (3)]) kJ7_fill_53178 52 dX5_solve_49 rfl rfl mbX5_47 smJ7_fill_53178 (Nat.le_of_ble_eq_true rfl) (Nat.zero_le _) (Nat.zero_le _) (tJ7_fill_53178 (N := N) (Sm.k (Sm.cp (Sm.wi (Sm.wi (Sm.wi (Sm.wi Sm.rf))))) s0.2.2.2.2.1) (b1) ?_)
  show Go X (d + 2) mc ms kX5_solve Q 52 [(0, .ref a0), (1, .ref a1), (2, .ref a2)] [] (mJ7_fill_53178 N (g_cp (g_wi (g_wi (g_wi (g_wi M a0 3 1) a0 4 (g_mi (g_wi M a0 3 1) a1 3)) a0 5 (g_mi (g_wi (g_wi M a0 3 1) a0 4 (g_mi (g_wi M a0 3 1) a1 3)) a1 4)) a0 6 (g_mi (g_wi (g_wi (g_wi M a0 3 1) a0 4 (g_mi (g_wi M a0 3 1) a1 3)) a0 5 (g_mi (g_wi (g_wi M a0 3 1) a0 4 (g_mi (g_wi M a0 3 1) a1 3)) a1 4)) a1 5)) (a1 + 1) (a0 + 1) 0 0 30) (a0 + 2) 60 3) 0 0
  refine g_aload_n 0 53 dX5_solve_52 rfl rfl ?_
  refine g_getR 56 (a0 + 3) dX5_solve_53 rfl flX5_18 (Sm.k (Sm.tr (Sm.cp (Sm.wi (Sm.wi (Sm.wi (Sm.wi Sm.rf))))) jJ7_fill_53178) s0.1) (Sm.r (Sm.tr (Sm.cp (Sm.wi (Sm.wi (Sm.wi (Sm.wi Sm.rf))))) jJ7_fill_53178) s0.2.2.2.2.2.1) ?_
  refine g_iconst (0) 57 dX5_solve_56 rfl rfl ?_
  refine g_callS (mc1 := 0) (ms1 := 0) (rest := []) (av := [.ref (a0 + 3), .int (0)]) kJ7_fill_53178 60 dX5_solve_57 rfl rfl mbX5_47 smJ7_fill_53178 (Nat.le_of_ble_eq_true rfl) (Nat.zero_le _) (Nat.zero_le _) (tJ7_fill_53178 (N := N) (Sm.k (Sm.tr (Sm.cp (Sm.wi (Sm.wi (Sm.wi (Sm.wi Sm.rf))))) jJ7_fill_53178) s0.2.2.2.2.2.2) (b2) ?_)
  show Go X (d + 2) mc ms kX5_solve Q 60 [(0, .ref a0), (1, .ref a1), (2, .ref a2)] [] (mJ7_fill_53178 N (mJ7_fill_53178 N (g_cp (g_wi (g_wi (g_wi (g_wi M a0 3 1) a0 4 (g_mi (g_wi M a0 3 1) a1 3)) a0 5 (g_mi (g_wi (g_wi M a0 3 1) a0 4 (g_mi (g_wi M a0 3 1) a1 3)) a1 4)) a0 6 (g_mi (g_wi (g_wi (g_wi M a0 3 1) a0 4 (g_mi (g_wi M a0 3 1) a1 3)) a0 5 (g_mi (g_wi (g_wi M a0 3 1) a0 4 (g_mi (g_wi M a0 3 1) a1 3)) a1 4)) a1 5)) (a1 + 1) (a0 + 1) 0 0 30) (a0 + 2) 60 3) (a0 + 3) 60 0) 0 0
  refine g_aload_n 2 61 dX5_solve_60 rfl rfl ?_
  refine g_getI 64 dX5_solve_61 rfl flX5_53 (Sm.k (Sm.tr (Sm.tr (Sm.cp (Sm.wi (Sm.wi (Sm.wi (Sm.wi Sm.rf))))) jJ7_fill_53178) jJ7_fill_53178) s2.1) ?_
  refine g_iconst (1) 65 dX5_solve_64 rfl rfl ?_
  refine g_isub 66 dX5_solve_65 rfl ?_
  refine g_istore_n 67 [(3, .int (((g_mi (mJ7_fill_53178 N (mJ7_fill_53178 N (g_cp (g_wi (g_wi (g_wi (g_wi M a0 3 1) a0 4 (g_mi (g_wi M a0 3 1) a1 3)) a0 5 (g_mi (g_wi (g_wi M a0 3 1) a0 4 (g_mi (g_wi M a0 3 1) a1 3)) a1 4)) a0 6 (g_mi (g_wi (g_wi (g_wi M a0 3 1) a0 4 (g_mi (g_wi M a0 3 1) a1 3)) a0 5 (g_mi (g_wi (g_wi M a0 3 1) a0 4 (g_mi (g_wi M a0 3 1) a1 3)) a1 4)) a1 5)) (a1 + 1) (a0 + 1) 0 0 30) (a0 + 2) 60 3) (a0 + 3) 60 0) a2 8) - 1))), (0, .ref a0), (1, .ref a1), (2, .ref a2)] dX5_solve_66 rfl (Nat.le_of_ble_eq_true rfl) rfl ?_
  exact g_sub [1, 3, 0] _ rfl (h3)

set_option maxRecDepth 4000 in
theorem sX5_solve_67 {N : Nat} {X : gX} {d mc ms : Nat} {Q : Option Value → gM → Prop} {M : gM} {c z : Nat} {a0 : Nat} {a2 : Nat} {x3 : Int32} (s0 : Tb M a0) (s2 : Pe M a2) (h1 : (x3 < 0) → Q none M) (w2 : c ≤ mc) (w3 : z ≤ ms) (b4 : (¬ x3 < 0) → vp_in (x3) 30) (b5 : (¬ x3 < 0) → EX5_settle N M a0 (g_mi M (a2 + 3) (x3).toNatClampNeg) (g_mi M (a2 + 2) (x3).toNatClampNeg) (a2 + 1) 90) (h6 : (¬ x3 < 0) → Go X (d + 2) mc ms kX5_solve Q 67 [(0, .ref a0), (2, .ref a2), (3, .int ((x3 + (-1))))] [] (mX5_settle N M a0 (g_mi M (a2 + 3) (x3).toNatClampNeg) (g_mi M (a2 + 2) (x3).toNatClampNeg) (a2 + 1) 90) c z) : Go X (d + 2) mc ms kX5_solve Q 67 [(0, .ref a0), (2, .ref a2), (3, .int (x3))] [] M c z := by
  refine g_iload_n 2 68 dX5_solve_67 rfl rfl ?_
  refine g_if_lt 97 71 dX5_solve_68 rfl rfl (fun c1 => ?_) (fun c1 => ?_)
  · skip
    exact g_vret dX5_solve_97 rfl (w2) (w3) (h1 c1)
  · skip
    refine g_aload_n 0 72 dX5_solve_71 rfl rfl ?_
    refine g_aload_n 1 73 dX5_solve_72 rfl rfl ?_
    refine g_getR 76 (a2 + 3) dX5_solve_73 rfl flX5_58 s2.1 s2.2.2.2.2.2.1 ?_
    refine g_iload_n 2 77 dX5_solve_76 rfl rfl ?_
    refine h_iaload 78 (x3).toNatClampNeg dX5_solve_77 rfl rfl s2.2.2.2.2.2.2.1 (b4 c1) ?_
    refine g_aload_n 1 79 dX5_solve_78 rfl rfl ?_
    refine g_getR 82 (a2 + 2) dX5_solve_79 rfl flX5_61 s2.1 s2.2.2.2.1 ?_
    refine g_iload_n 2 83 dX5_solve_82 rfl rfl ?_
    refine h_iaload 84 (x3).toNatClampNeg dX5_solve_83 rfl rfl s2.2.2.2.2.1 (b4 c1) ?_
    refine g_aload_n 1 85 dX5_solve_84 rfl rfl ?_
    refine g_getR 88 (a2 + 1) dX5_solve_85 rfl flX5_64 s2.1 s2.2.1 ?_
    refine g_callV (mc1 := 0) (ms1 := 0) (b := a0) (rest := []) (av := [.int ((g_mi M (a2 + 3) (x3).toNatClampNeg)), .int ((g_mi M (a2 + 2) (x3).toNatClampNeg)), .ref (a2 + 1)]) kX5_settle 91 dX5_solve_88 rfl rfl mbX5_67 imX5_settle seX5_settle gcl5.1 s0.1 (Nat.le_of_ble_eq_true rfl) (w2) (w3) (tX5_settle (N := N) s0 s2.2.2.1 (b5 c1) ?_)
    show Go X (d + 2) mc ms kX5_solve Q 91 [(0, .ref a0), (2, .ref a2), (3, .int (x3))] [] (mX5_settle N M a0 (g_mi M (a2 + 3) (x3).toNatClampNeg) (g_mi M (a2 + 2) (x3).toNatClampNeg) (a2 + 1) 90) c z
    refine g_iinc _ 2 94 [(3, .int ((x3 + (-1)))), (0, .ref a0), (2, .ref a2)] dX5_solve_91 rfl rfl rfl (Nat.le_of_ble_eq_true rfl) rfl ?_
    refine g_goto 67 dX5_solve_94 rfl ?_
    exact g_sub [1, 2, 0] _ rfl (h6 c1)

def bX5_solve_0 (N : Nat) (M : gM) (a0 : Nat) (a1 : Nat) (a2 : Nat) (k : Nat → (Nat → Nat → Int32) → Nat → Nat → Int32 → Int32 × (Nat → Nat → Int32)) : Int32 × (Nat → Nat → Int32) := (k 0 (g_mi (mJ7_fill_53178 N (mJ7_fill_53178 N (g_cp (g_wi (g_wi (g_wi (g_wi M a0 3 1) a0 4 (g_mi (g_wi M a0 3 1) a1 3)) a0 5 (g_mi (g_wi (g_wi M a0 3 1) a0 4 (g_mi (g_wi M a0 3 1) a1 3)) a1 4)) a0 6 (g_mi (g_wi (g_wi (g_wi M a0 3 1) a0 4 (g_mi (g_wi M a0 3 1) a1 3)) a0 5 (g_mi (g_wi (g_wi M a0 3 1) a0 4 (g_mi (g_wi M a0 3 1) a1 3)) a1 4)) a1 5)) (a1 + 1) (a0 + 1) 0 0 30) (a0 + 2) 60 3) (a0 + 3) 60 0)) a0 a2 ((g_mi (mJ7_fill_53178 N (mJ7_fill_53178 N (g_cp (g_wi (g_wi (g_wi (g_wi M a0 3 1) a0 4 (g_mi (g_wi M a0 3 1) a1 3)) a0 5 (g_mi (g_wi (g_wi M a0 3 1) a0 4 (g_mi (g_wi M a0 3 1) a1 3)) a1 4)) a0 6 (g_mi (g_wi (g_wi (g_wi M a0 3 1) a0 4 (g_mi (g_wi M a0 3 1) a1 3)) a0 5 (g_mi (g_wi (g_wi M a0 3 1) a0 4 (g_mi (g_wi M a0 3 1) a1 3)) a1 4)) a1 5)) (a1 + 1) (a0 + 1) 0 0 30) (a0 + 2) 60 3) (a0 + 3) 60 0) a2 8) - 1))
def eX5_solve_0 (N : Nat) (M : gM) (a0 : Nat) (a1 : Nat) (a2 : Nat) (k : Nat → (Nat → Nat → Int32) → Nat → Nat → Int32 → Prop) : Prop := (EJ7_fill_53178 N (g_cp (g_wi (g_wi (g_wi (g_wi M a0 3 1) a0 4 (g_mi (g_wi M a0 3 1) a1 3)) a0 5 (g_mi (g_wi (g_wi M a0 3 1) a0 4 (g_mi (g_wi M a0 3 1) a1 3)) a1 4)) a0 6 (g_mi (g_wi (g_wi (g_wi M a0 3 1) a0 4 (g_mi (g_wi M a0 3 1) a1 3)) a0 5 (g_mi (g_wi (g_wi M a0 3 1) a0 4 (g_mi (g_wi M a0 3 1) a1 3)) a1 4)) a1 5)) (a1 + 1) (a0 + 1) 0 0 30) (a0 + 2) 60 3) ∧ (EJ7_fill_53178 N (mJ7_fill_53178 N (g_cp (g_wi (g_wi (g_wi (g_wi M a0 3 1) a0 4 (g_mi (g_wi M a0 3 1) a1 3)) a0 5 (g_mi (g_wi (g_wi M a0 3 1) a0 4 (g_mi (g_wi M a0 3 1) a1 3)) a1 4)) a0 6 (g_mi (g_wi (g_wi (g_wi M a0 3 1) a0 4 (g_mi (g_wi M a0 3 1) a1 3)) a0 5 (g_mi (g_wi (g_wi M a0 3 1) a0 4 (g_mi (g_wi M a0 3 1) a1 3)) a1 4)) a1 5)) (a1 + 1) (a0 + 1) 0 0 30) (a0 + 2) 60 3) (a0 + 3) 60 0) ∧ (k 0 (g_mi (mJ7_fill_53178 N (mJ7_fill_53178 N (g_cp (g_wi (g_wi (g_wi (g_wi M a0 3 1) a0 4 (g_mi (g_wi M a0 3 1) a1 3)) a0 5 (g_mi (g_wi (g_wi M a0 3 1) a0 4 (g_mi (g_wi M a0 3 1) a1 3)) a1 4)) a0 6 (g_mi (g_wi (g_wi (g_wi M a0 3 1) a0 4 (g_mi (g_wi M a0 3 1) a1 3)) a0 5 (g_mi (g_wi (g_wi M a0 3 1) a0 4 (g_mi (g_wi M a0 3 1) a1 3)) a1 4)) a1 5)) (a1 + 1) (a0 + 1) 0 0 30) (a0 + 2) 60 3) (a0 + 3) 60 0)) a0 a2 ((g_mi (mJ7_fill_53178 N (mJ7_fill_53178 N (g_cp (g_wi (g_wi (g_wi (g_wi M a0 3 1) a0 4 (g_mi (g_wi M a0 3 1) a1 3)) a0 5 (g_mi (g_wi (g_wi M a0 3 1) a0 4 (g_mi (g_wi M a0 3 1) a1 3)) a1 4)) a0 6 (g_mi (g_wi (g_wi (g_wi M a0 3 1) a0 4 (g_mi (g_wi M a0 3 1) a1 3)) a0 5 (g_mi (g_wi (g_wi M a0 3 1) a0 4 (g_mi (g_wi M a0 3 1) a1 3)) a1 4)) a1 5)) (a1 + 1) (a0 + 1) 0 0 30) (a0 + 2) 60 3) (a0 + 3) 60 0) a2 8) - 1))
def bX5_solve_67 (N : Nat) (M : gM) (f : Nat → Nat → Int32) (a0 : Nat) (a2 : Nat) (x3 : Int32) (k : Nat → (Nat → Nat → Int32) → Nat → Nat → Int32 → Int32 × (Nat → Nat → Int32)) : Int32 × (Nat → Nat → Int32) := (if x3 < 0 then (0, g_mi (g_wm M f (g_ml M))) else (k 0 (g_mi (mX5_settle N (g_wm M f (g_ml M)) a0 (g_mi (g_wm M f (g_ml M)) (a2 + 3) (x3).toNatClampNeg) (g_mi (g_wm M f (g_ml M)) (a2 + 2) (x3).toNatClampNeg) (a2 + 1) 90)) a0 a2 (x3 + (-1))))
def eX5_solve_67 (N : Nat) (M : gM) (f : Nat → Nat → Int32) (a0 : Nat) (a2 : Nat) (x3 : Int32) (k : Nat → (Nat → Nat → Int32) → Nat → Nat → Int32 → Prop) : Prop := ((¬ x3 < 0) → vp_in (x3) 30) ∧ ((¬ x3 < 0) → EX5_settle N (g_wm M f (g_ml M)) a0 (g_mi (g_wm M f (g_ml M)) (a2 + 3) (x3).toNatClampNeg) (g_mi (g_wm M f (g_ml M)) (a2 + 2) (x3).toNatClampNeg) (a2 + 1) 90) ∧ (if x3 < 0 then True else (k 0 (g_mi (mX5_settle N (g_wm M f (g_ml M)) a0 (g_mi (g_wm M f (g_ml M)) (a2 + 3) (x3).toNatClampNeg) (g_mi (g_wm M f (g_ml M)) (a2 + 2) (x3).toNatClampNeg) (a2 + 1) 90)) a0 a2 (x3 + (-1))))
def wX5_solve (N : Nat) (M : gM) : Nat → Nat → (Nat → Nat → Int32) → Nat → Nat → Int32 → Int32 × (Nat → Nat → Int32)
  | 0, _, f, _, _, _ => (0, f)
  | n + 1, h, f, a0, a2, x3 => bX5_solve_67 N M f a0 a2 x3 (wX5_solve N M n)
def vX5_solve (N : Nat) (M : gM) : Nat → Nat → (Nat → Nat → Int32) → Nat → Nat → Int32 → Prop
  | 0, _, _, _, _, _ => False
  | n + 1, h, f, a0, a2, x3 => eX5_solve_67 N M f a0 a2 x3 (vX5_solve N M n)
set_option maxRecDepth 10000 in
theorem lpX5_solve {X : gX} {d mc ms : Nat} {Q : Option Value → gM → Prop} (N : Nat) (M : gM) : ∀ n : Nat, (∀ (f : Nat → Nat → Int32) (a0 : Nat) (a2 : Nat) (x3 : Int32), Tb M a0 → Pe M a2 → vX5_solve N M n 0 f a0 a2 x3 → Q none (g_wm M (wX5_solve N M n 0 f a0 a2 x3).2 (g_ml M)) → Go X (d + 2) mc ms kX5_solve Q 67 [(0, .ref a0), (2, .ref a2), (3, .int (x3))] [] (g_wm M f (g_ml M)) 0 0) := by
  intro n
  induction n with
  | zero => exact fun _ _ _ _ _ _ h _ => h.elim
  | succ n ih =>
    intro f a0 a2 x3 s0 s2 hT hQ
    rw [vX5_solve] at hT
    rw [wX5_solve] at hQ
    unfold bX5_solve_67 at hQ
    unfold eX5_solve_67 at hT
    obtain ⟨b4, b5, hT⟩ := hT
    exact sX5_solve_67 (M := (g_wm M f (g_ml M))) (Tb.sm Sm.wm s0) (Pe.sm Sm.wm s2) (fun c1 => by simp only [if_pos c1] at hQ; exact Sm.q Sm.wm hQ) (Nat.zero_le _) (Nat.zero_le _) b4 b5 (fun c1 => by simp only [if_neg c1] at hQ hT; exact Sm.g (Sm.tr Sm.wm (Sm.tr Sm.rf jX5_settle)) (ih _ _ _ _ (s0) (s2) hT hQ))
def mX5_solve (N : Nat) (M : gM) (a0 : Nat) (a1 : Nat) (a2 : Nat) : gM := g_wm M (bX5_solve_0 N M a0 a1 a2 (wX5_solve N M N)).2 (g_ml M)
theorem jX5_solve {N : Nat} {M : gM} {a0 : Nat} {a1 : Nat} {a2 : Nat} : Sm M (mX5_solve N M a0 a1 a2) := Sm.wm
def EX5_solve (N : Nat) (M : gM) (a0 : Nat) (a1 : Nat) (a2 : Nat) : Prop := eX5_solve_0 N M a0 a1 a2 (vX5_solve N M N)
theorem tX5_solve {N : Nat} {X : gX} {d mc ms : Nat} {Q : Option Value → gM → Prop} {M : gM} {a0 : Nat} {a1 : Nat} {a2 : Nat} (s0 : Tb M a0) (s1 : St M a1) (s2 : Pe M a2) (hE : EX5_solve N M a0 a1 a2) (hQ : Q none (mX5_solve N M a0 a1 a2)) : Cn X (d + 2) mc ms kX5_solve [.ref a0, .ref a1, .ref a2] M Q := by
  unfold mX5_solve at hQ
  unfold bX5_solve_0 at hQ
  unfold EX5_solve eX5_solve_0 at hE
  obtain ⟨b1, b2, hT⟩ := hE
  have ih := lpX5_solve (X := X) (d := d) (mc := mc) (ms := ms) (Q := Q) N M N
  exact sX5_solve_0 s0 s1 s2 b1 b2 (Sm.g (Sm.tr (Sm.tr (Sm.cp (Sm.wi (Sm.wi (Sm.wi (Sm.wi Sm.rf))))) jJ7_fill_53178) jJ7_fill_53178) (ih _ _ _ _ (s0) (s2) hT hQ))
/-! X8_key  -/
set_option maxRecDepth 4000 in
theorem sX8_key_0 {N : Nat} {X : gX} {d mc ms : Nat} {Q : Option Value → gM → Prop} {M : gM} {a0 : Nat} {x1 : Int32} {x2 : Int32} (s0 : Ph M a0) (b1 : (¬ (fX8_isKey x1) = 0) → (x2 = 0) → EX3_has N M ((a0 + 1) + 1) x1) (h2 : (¬ (fX8_isKey x1) = 0) → (x2 = 0) → ((fX3_has N M ((a0 + 1) + 1) x1) = 0) → Q (some (.int (0))) M) (h3 : (¬ (fX8_isKey x1) = 0) → (x2 = 0) → (¬ (fX3_has N M ((a0 + 1) + 1) x1) = 0) → Q (some (.int (1))) M) (b4 : (¬ (fX8_isKey x1) = 0) → (¬ x2 = 0) → (x2 = 1) → EX8_lawNumbered M a0 (g_mi M (a0 + 1) 6)) (b5 : (¬ (fX8_isKey x1) = 0) → (¬ x2 = 0) → (x2 = 1) → EX4_isBarred N M (a0 + 271) (aLaw M a0 (g_mi M (a0 + 1) 6)) (kl M ((aLaw M a0 (g_mi M (a0 + 1) 6)) + 1)) (kl M ((aLaw M a0 (g_mi M (a0 + 1) 6)) + 5)) ((a0 + 1) + 1) x1) (h6 : (¬ (fX8_isKey x1) = 0) → (¬ x2 = 0) → (x2 = 1) → ((fX4_isBarred N M (a0 + 271) (aLaw M a0 (g_mi M (a0 + 1) 6)) (kl M ((aLaw M a0 (g_mi M (a0 + 1) 6)) + 1)) (kl M ((aLaw M a0 (g_mi M (a0 + 1) 6)) + 5)) ((a0 + 1) + 1) x1) = 0) → Q (some (.int (0))) (mX4_isBarred N M (a0 + 271) (aLaw M a0 (g_mi M (a0 + 1) 6)) (kl M ((aLaw M a0 (g_mi M (a0 + 1) 6)) + 1)) (kl M ((aLaw M a0 (g_mi M (a0 + 1) 6)) + 5)) ((a0 + 1) + 1) x1)) (h7 : (¬ (fX8_isKey x1) = 0) → (¬ x2 = 0) → (x2 = 1) → (¬ (fX4_isBarred N M (a0 + 271) (aLaw M a0 (g_mi M (a0 + 1) 6)) (kl M ((aLaw M a0 (g_mi M (a0 + 1) 6)) + 1)) (kl M ((aLaw M a0 (g_mi M (a0 + 1) 6)) + 5)) ((a0 + 1) + 1) x1) = 0) → Q (some (.int (1))) (mX4_isBarred N M (a0 + 271) (aLaw M a0 (g_mi M (a0 + 1) 6)) (kl M ((aLaw M a0 (g_mi M (a0 + 1) 6)) + 1)) (kl M ((aLaw M a0 (g_mi M (a0 + 1) 6)) + 5)) ((a0 + 1) + 1) x1)) (b8 : (¬ (fX8_isKey x1) = 0) → (¬ x2 = 0) → (¬ x2 = 1) → (x2 = 2) → EX8_vertexOf M x1 (x2 - 2) (g_mi M ((a0 + 1) + 1) 5) (g_mi M ((a0 + 1) + 1) 4)) (h9 : (¬ (fX8_isKey x1) = 0) → (¬ x2 = 0) → (¬ x2 = 1) → (x2 = 2) → Q (some (.int ((fX8_vertexOf x1 (x2 - 2) (g_mi M ((a0 + 1) + 1) 5) (g_mi M ((a0 + 1) + 1) 4))))) M) (b10 : (¬ (fX8_isKey x1) = 0) → (¬ x2 = 0) → (¬ x2 = 1) → (¬ x2 = 2) → (x2 = 3) → EX8_vertexOf M x1 (x2 - 2) (g_mi M ((a0 + 1) + 1) 5) (g_mi M ((a0 + 1) + 1) 4)) (h11 : (¬ (fX8_isKey x1) = 0) → (¬ x2 = 0) → (¬ x2 = 1) → (¬ x2 = 2) → (x2 = 3) → Q (some (.int ((fX8_vertexOf x1 (x2 - 2) (g_mi M ((a0 + 1) + 1) 5) (g_mi M ((a0 + 1) + 1) 4))))) M) (b12 : (¬ (fX8_isKey x1) = 0) → (¬ x2 = 0) → (¬ x2 = 1) → (¬ x2 = 2) → (¬ x2 = 3) → (x2 = 4) → EX8_vertexOf M x1 (x2 - 2) (g_mi M ((a0 + 1) + 1) 5) (g_mi M ((a0 + 1) + 1) 4)) (h13 : (¬ (fX8_isKey x1) = 0) → (¬ x2 = 0) → (¬ x2 = 1) → (¬ x2 = 2) → (¬ x2 = 3) → (x2 = 4) → Q (some (.int ((fX8_vertexOf x1 (x2 - 2) (g_mi M ((a0 + 1) + 1) 5) (g_mi M ((a0 + 1) + 1) 4))))) M) (h14 : (¬ (fX8_isKey x1) = 0) → (¬ x2 = 0) → (¬ x2 = 1) → (¬ x2 = 2) → (¬ x2 = 3) → (¬ x2 = 4) → Q (some (.int ((-1)))) M) (h15 : ((fX8_isKey x1) = 0) → Q (some (.int ((-1)))) M) : Cn X (d + 3) mc ms kX8_key [.ref a0, .int (x1), .int (x2)] M Q := by
  refine g_meth rfl rfl (Nat.le_of_ble_eq_true rfl) rfl ?_
  refine g_iload_n 1 1 dX8_key_0 rfl rfl ?_
  refine g_callS (mc1 := 0) (ms1 := 0) (rest := []) (av := [.int (x1)]) kX8_isKey 4 dX8_key_1 rfl rfl mbX8_98 smX8_isKey (Nat.le_of_ble_eq_true rfl) (Nat.zero_le _) (Nat.zero_le _) (tX8_isKey  ?_)
  show Go X (d + 3) mc ms kX8_key Q 4 [(0, .ref a0), (1, .int (x1)), (2, .int (x2))] [.int ((fX8_isKey x1))] M 0 0
  refine g_if_ne 9 7 dX8_key_4 rfl rfl (fun c1 => ?_) (fun c1 => ?_)
  · skip
    refine g_aload_n 0 10 dX8_key_9 rfl rfl ?_
    refine g_getR 13 (a0 + 1) dX8_key_10 rfl flX8_14 s0.1 s0.2.1 ?_
    refine g_getR 16 ((a0 + 1) + 1) dX8_key_13 rfl flX8_102 s0.2.2.1.1 s0.2.2.1.2.1 ?_
    refine g_astore_n 17 [(3, .ref ((a0 + 1) + 1)), (0, .ref a0), (1, .int (x1)), (2, .int (x2))] dX8_key_16 rfl (Nat.le_of_ble_eq_true rfl) rfl ?_
    refine g_iload_n 3 18 dX8_key_17 rfl rfl ?_
    by_cases c2 : x2 = 0
    · refine h_tabIn (0) 52 dX8_key_18 c2 (by decide) (by decide) rfl rfl ?_
      refine g_aload_n 0 53 dX8_key_52 rfl rfl ?_
      refine g_iload_n 2 54 dX8_key_53 rfl rfl ?_
      refine g_callV (mc1 := 0) (ms1 := 0) (b := ((a0 + 1) + 1)) (rest := []) (av := [.int (x1)]) kX3_has 57 dX8_key_54 rfl rfl mbX8_105 imX3_has seX3_has gcl3.1 s0.2.2.1.2.2.1.1 (Nat.le_of_ble_eq_true rfl) (Nat.zero_le _) (Nat.zero_le _) (tX3_has (N := N) s0.2.2.1.2.2.1 (b1 c1 c2) ?_)
      show Go X (d + 3) mc ms kX8_key Q 57 [(3, .ref ((a0 + 1) + 1)), (0, .ref a0), (1, .int (x1)), (2, .int (x2))] [.int ((fX3_has N M ((a0 + 1) + 1) x1))] M 0 0
      refine g_if_eq 64 60 dX8_key_57 rfl rfl (fun c3 => ?_) (fun c3 => ?_)
      · skip
        refine g_iconst (0) 65 dX8_key_64 rfl rfl ?_
        exact g_iret dX8_key_65 rfl (Nat.zero_le _) (Nat.zero_le _) (h2 c1 c2 c3)
      · skip
        refine g_iconst (1) 61 dX8_key_60 rfl rfl ?_
        refine g_goto 65 dX8_key_61 rfl ?_
        exact g_iret dX8_key_65 rfl (Nat.zero_le _) (Nat.zero_le _) (h3 c1 c2 c3)
    by_cases c4 : x2 = 1
    · refine h_tabIn (1) 66 dX8_key_18 c4 (by decide) (by decide) rfl rfl ?_
      refine g_aload_n 1 67 dX8_key_66 rfl rfl ?_
      refine g_getR 70 (a0 + 271) dX8_key_67 rfl flX8_45 s0.1 s0.2.2.2.2.2.2.2.2.2.2.2.2.2.1 ?_
      refine g_aload_n 1 71 dX8_key_70 rfl rfl ?_
      refine g_callV (mc1 := 0) (ms1 := 0) (b := a0) (rest := [.ref (a0 + 271)]) (av := []) kX8_lawInForce 74 dX8_key_71 rfl rfl mbX8_108 imX8_lawInForce seX8_lawInForce gcl8.1 s0.1 (Nat.le_of_ble_eq_true rfl) (Nat.zero_le _) (Nat.zero_le _) (sX8_lawInForce_0 s0 (b4 c1 c2 c4) ?_)
      show Go X (d + 3) mc ms kX8_key Q 74 [(3, .ref ((a0 + 1) + 1)), (0, .ref a0), (1, .int (x1)), (2, .int (x2))] [.ref (aLaw M a0 (g_mi M (a0 + 1) 6)), .ref (a0 + 271)] M 0 0
      refine g_aload_n 0 75 dX8_key_74 rfl rfl ?_
      refine g_iload_n 2 76 dX8_key_75 rfl rfl ?_
      refine g_callV (mc1 := 0) (ms1 := 0) (b := (a0 + 271)) (rest := []) (av := [.ref (aLaw M a0 (g_mi M (a0 + 1) 6)), .ref ((a0 + 1) + 1), .int (x1)]) kX4_isBarred 79 dX8_key_76 rfl rfl mbX8_112 imX4_isBarred seX4_isBarred gcl4.1 s0.2.2.2.2.2.2.2.2.2.2.2.2.2.2.1.1 (Nat.le_of_ble_eq_true rfl) (Nat.zero_le _) (Nat.zero_le _) (tX4_isBarred (N := N) s0.2.2.2.2.2.2.2.2.2.2.2.2.2.2.1 (b4 c1 c2 c4).2 s0.2.2.1.2.2.1 (b5 c1 c2 c4) ?_)
      show Go X (d + 3) mc ms kX8_key Q 79 [(3, .ref ((a0 + 1) + 1)), (0, .ref a0), (1, .int (x1)), (2, .int (x2))] [.int ((fX4_isBarred N M (a0 + 271) (aLaw M a0 (g_mi M (a0 + 1) 6)) (kl M ((aLaw M a0 (g_mi M (a0 + 1) 6)) + 1)) (kl M ((aLaw M a0 (g_mi M (a0 + 1) 6)) + 5)) ((a0 + 1) + 1) x1))] (mX4_isBarred N M (a0 + 271) (aLaw M a0 (g_mi M (a0 + 1) 6)) (kl M ((aLaw M a0 (g_mi M (a0 + 1) 6)) + 1)) (kl M ((aLaw M a0 (g_mi M (a0 + 1) 6)) + 5)) ((a0 + 1) + 1) x1) 0 0
      refine g_if_eq 86 82 dX8_key_79 rfl rfl (fun c5 => ?_) (fun c5 => ?_)
      · skip
        refine g_iconst (0) 87 dX8_key_86 rfl rfl ?_
        exact g_iret dX8_key_87 rfl (Nat.zero_le _) (Nat.zero_le _) (h6 c1 c2 c4 c5)
      · skip
        refine g_iconst (1) 83 dX8_key_82 rfl rfl ?_
        refine g_goto 87 dX8_key_83 rfl ?_
        exact g_iret dX8_key_87 rfl (Nat.zero_le _) (Nat.zero_le _) (h7 c1 c2 c4 c5)
    by_cases c6 : x2 = 2
    · refine h_tabIn (2) 88 dX8_key_18 c6 (by decide) (by decide) rfl rfl ?_
      refine g_iload_n 2 89 dX8_key_88 rfl rfl ?_
      refine g_iload_n 3 90 dX8_key_89 rfl rfl ?_
      refine g_iconst (2) 91 dX8_key_90 rfl rfl ?_
      refine g_isub 92 dX8_key_91 rfl ?_
      refine g_aload_n 0 93 dX8_key_92 rfl rfl ?_
      refine g_getI 96 dX8_key_93 rfl flX8_116 s0.2.2.1.2.2.1.1 ?_
      refine g_aload_n 0 97 dX8_key_96 rfl rfl ?_
      refine g_getI 100 dX8_key_97 rfl flX8_119 s0.2.2.1.2.2.1.1 ?_
      refine g_callS (mc1 := 0) (ms1 := 0) (rest := []) (av := [.int (x1), .int ((x2 - 2)), .int ((g_mi M ((a0 + 1) + 1) 5)), .int ((g_mi M ((a0 + 1) + 1) 4))]) kX8_vertexOf 103 dX8_key_100 rfl rfl mbX8_122 smX8_vertexOf (Nat.le_of_ble_eq_true rfl) (Nat.zero_le _) (Nat.zero_le _) (tX8_vertexOf (b8 c1 c2 c4 c6) ?_)
      show Go X (d + 3) mc ms kX8_key Q 103 [(3, .ref ((a0 + 1) + 1)), (0, .ref a0), (1, .int (x1)), (2, .int (x2))] [.int ((fX8_vertexOf x1 (x2 - 2) (g_mi M ((a0 + 1) + 1) 5) (g_mi M ((a0 + 1) + 1) 4)))] M 0 0
      exact g_iret dX8_key_103 rfl (Nat.zero_le _) (Nat.zero_le _) (h9 c1 c2 c4 c6)
    by_cases c7 : x2 = 3
    · refine h_tabIn (3) 88 dX8_key_18 c7 (by decide) (by decide) rfl rfl ?_
      refine g_iload_n 2 89 dX8_key_88 rfl rfl ?_
      refine g_iload_n 3 90 dX8_key_89 rfl rfl ?_
      refine g_iconst (2) 91 dX8_key_90 rfl rfl ?_
      refine g_isub 92 dX8_key_91 rfl ?_
      refine g_aload_n 0 93 dX8_key_92 rfl rfl ?_
      refine g_getI 96 dX8_key_93 rfl flX8_116 s0.2.2.1.2.2.1.1 ?_
      refine g_aload_n 0 97 dX8_key_96 rfl rfl ?_
      refine g_getI 100 dX8_key_97 rfl flX8_119 s0.2.2.1.2.2.1.1 ?_
      refine g_callS (mc1 := 0) (ms1 := 0) (rest := []) (av := [.int (x1), .int ((x2 - 2)), .int ((g_mi M ((a0 + 1) + 1) 5)), .int ((g_mi M ((a0 + 1) + 1) 4))]) kX8_vertexOf 103 dX8_key_100 rfl rfl mbX8_122 smX8_vertexOf (Nat.le_of_ble_eq_true rfl) (Nat.zero_le _) (Nat.zero_le _) (tX8_vertexOf (b10 c1 c2 c4 c6 c7) ?_)
      show Go X (d + 3) mc ms kX8_key Q 103 [(3, .ref ((a0 + 1) + 1)), (0, .ref a0), (1, .int (x1)), (2, .int (x2))] [.int ((fX8_vertexOf x1 (x2 - 2) (g_mi M ((a0 + 1) + 1) 5) (g_mi M ((a0 + 1) + 1) 4)))] M 0 0
      exact g_iret dX8_key_103 rfl (Nat.zero_le _) (Nat.zero_le _) (h11 c1 c2 c4 c6 c7)
    by_cases c8 : x2 = 4
    · refine h_tabIn (4) 88 dX8_key_18 c8 (by decide) (by decide) rfl rfl ?_
      refine g_iload_n 2 89 dX8_key_88 rfl rfl ?_
      refine g_iload_n 3 90 dX8_key_89 rfl rfl ?_
      refine g_iconst (2) 91 dX8_key_90 rfl rfl ?_
      refine g_isub 92 dX8_key_91 rfl ?_
      refine g_aload_n 0 93 dX8_key_92 rfl rfl ?_
      refine g_getI 96 dX8_key_93 rfl flX8_116 s0.2.2.1.2.2.1.1 ?_
      refine g_aload_n 0 97 dX8_key_96 rfl rfl ?_
      refine g_getI 100 dX8_key_97 rfl flX8_119 s0.2.2.1.2.2.1.1 ?_
      refine g_callS (mc1 := 0) (ms1 := 0) (rest := []) (av := [.int (x1), .int ((x2 - 2)), .int ((g_mi M ((a0 + 1) + 1) 5)), .int ((g_mi M ((a0 + 1) + 1) 4))]) kX8_vertexOf 103 dX8_key_100 rfl rfl mbX8_122 smX8_vertexOf (Nat.le_of_ble_eq_true rfl) (Nat.zero_le _) (Nat.zero_le _) (tX8_vertexOf (b12 c1 c2 c4 c6 c7 c8) ?_)
      show Go X (d + 3) mc ms kX8_key Q 103 [(3, .ref ((a0 + 1) + 1)), (0, .ref a0), (1, .int (x1)), (2, .int (x2))] [.int ((fX8_vertexOf x1 (x2 - 2) (g_mi M ((a0 + 1) + 1) 5) (g_mi M ((a0 + 1) + 1) 4)))] M 0 0
      exact g_iret dX8_key_103 rfl (Nat.zero_le _) (Nat.zero_le _) (h13 c1 c2 c4 c6 c7 c8)
    have tc2 := i_neT c2
    have tc4 := i_neT c4
    have tc6 := i_neT c6
    have tc7 := i_neT c7
    have tc8 := i_neT c8
    rw [show ((0 : Int32)).toInt = 0 from rfl] at tc2
    rw [show ((1 : Int32)).toInt = 1 from rfl] at tc4
    rw [show ((2 : Int32)).toInt = 2 from rfl] at tc6
    rw [show ((3 : Int32)).toInt = 3 from rfl] at tc7
    rw [show ((4 : Int32)).toInt = 4 from rfl] at tc8
    refine g_tableOut 104 dX8_key_18 (by omega) rfl ?_
    refine g_iconst ((-1)) 105 dX8_key_104 rfl rfl ?_
    exact g_iret dX8_key_105 rfl (Nat.zero_le _) (Nat.zero_le _) (h14 c1 c2 c4 c6 c7 c8)
  · skip
    refine g_iconst ((-1)) 8 dX8_key_7 rfl rfl ?_
    exact g_iret dX8_key_8 rfl (Nat.zero_le _) (Nat.zero_le _) (h15 c1)

def fX8_key (N : Nat) (M : gM) (a0 : Nat) (x1 : Int32) (x2 : Int32) : Int32 := (if (fX8_isKey x1) = 0 then (-1) else (if x2 = 0 then (if (fX3_has N M ((a0 + 1) + 1) x1) = 0 then 0 else 1) else (if x2 = 1 then (if (fX4_isBarred N M (a0 + 271) (aLaw M a0 (g_mi M (a0 + 1) 6)) (kl M ((aLaw M a0 (g_mi M (a0 + 1) 6)) + 1)) (kl M ((aLaw M a0 (g_mi M (a0 + 1) 6)) + 5)) ((a0 + 1) + 1) x1) = 0 then 0 else 1) else (if x2 = 2 then (fX8_vertexOf x1 (x2 - 2) (g_mi M ((a0 + 1) + 1) 5) (g_mi M ((a0 + 1) + 1) 4)) else (if x2 = 3 then (fX8_vertexOf x1 (x2 - 2) (g_mi M ((a0 + 1) + 1) 5) (g_mi M ((a0 + 1) + 1) 4)) else (if x2 = 4 then (fX8_vertexOf x1 (x2 - 2) (g_mi M ((a0 + 1) + 1) 5) (g_mi M ((a0 + 1) + 1) 4)) else (-1)))))))
def mX8_key (N : Nat) (M : gM) (a0 : Nat) (x1 : Int32) (x2 : Int32) : gM := g_wm M (if (fX8_isKey x1) = 0 then (g_mi M) else (if x2 = 0 then (if (fX3_has N M ((a0 + 1) + 1) x1) = 0 then (g_mi M) else (g_mi M)) else (if x2 = 1 then (if (fX4_isBarred N M (a0 + 271) (aLaw M a0 (g_mi M (a0 + 1) 6)) (kl M ((aLaw M a0 (g_mi M (a0 + 1) 6)) + 1)) (kl M ((aLaw M a0 (g_mi M (a0 + 1) 6)) + 5)) ((a0 + 1) + 1) x1) = 0 then (g_mi (mX4_isBarred N M (a0 + 271) (aLaw M a0 (g_mi M (a0 + 1) 6)) (kl M ((aLaw M a0 (g_mi M (a0 + 1) 6)) + 1)) (kl M ((aLaw M a0 (g_mi M (a0 + 1) 6)) + 5)) ((a0 + 1) + 1) x1)) else (g_mi (mX4_isBarred N M (a0 + 271) (aLaw M a0 (g_mi M (a0 + 1) 6)) (kl M ((aLaw M a0 (g_mi M (a0 + 1) 6)) + 1)) (kl M ((aLaw M a0 (g_mi M (a0 + 1) 6)) + 5)) ((a0 + 1) + 1) x1))) else (if x2 = 2 then (g_mi M) else (if x2 = 3 then (g_mi M) else (if x2 = 4 then (g_mi M) else (g_mi M))))))) (g_ml M)
def EX8_key (N : Nat) (M : gM) (a0 : Nat) (x1 : Int32) (x2 : Int32) : Prop := ((¬ (fX8_isKey x1) = 0) → (x2 = 0) → EX3_has N M ((a0 + 1) + 1) x1) ∧ ((¬ (fX8_isKey x1) = 0) → (¬ x2 = 0) → (x2 = 1) → EX8_lawNumbered M a0 (g_mi M (a0 + 1) 6)) ∧ ((¬ (fX8_isKey x1) = 0) → (¬ x2 = 0) → (x2 = 1) → EX4_isBarred N M (a0 + 271) (aLaw M a0 (g_mi M (a0 + 1) 6)) (kl M ((aLaw M a0 (g_mi M (a0 + 1) 6)) + 1)) (kl M ((aLaw M a0 (g_mi M (a0 + 1) 6)) + 5)) ((a0 + 1) + 1) x1) ∧ ((¬ (fX8_isKey x1) = 0) → (¬ x2 = 0) → (¬ x2 = 1) → (x2 = 2) → EX8_vertexOf M x1 (x2 - 2) (g_mi M ((a0 + 1) + 1) 5) (g_mi M ((a0 + 1) + 1) 4)) ∧ ((¬ (fX8_isKey x1) = 0) → (¬ x2 = 0) → (¬ x2 = 1) → (¬ x2 = 2) → (x2 = 3) → EX8_vertexOf M x1 (x2 - 2) (g_mi M ((a0 + 1) + 1) 5) (g_mi M ((a0 + 1) + 1) 4)) ∧ ((¬ (fX8_isKey x1) = 0) → (¬ x2 = 0) → (¬ x2 = 1) → (¬ x2 = 2) → (¬ x2 = 3) → (x2 = 4) → EX8_vertexOf M x1 (x2 - 2) (g_mi M ((a0 + 1) + 1) 5) (g_mi M ((a0 + 1) + 1) 4))
theorem jX8_key {N : Nat} {M : gM} {a0 : Nat} {x1 : Int32} {x2 : Int32} : Sm M (mX8_key N M a0 x1 x2) := Sm.wm
theorem tX8_key {N : Nat} {X : gX} {d mc ms : Nat} {Q : Option Value → gM → Prop} {M : gM} {a0 : Nat} {x1 : Int32} {x2 : Int32} (s0 : Ph M a0) (hE : EX8_key N M a0 x1 x2) (hQ : Q (some (.int (fX8_key N M a0 x1 x2))) (mX8_key N M a0 x1 x2)) : Cn X (d + 3) mc ms kX8_key [.ref a0, .int (x1), .int (x2)] M Q := by
  unfold fX8_key mX8_key at hQ
  obtain ⟨b1, b4, b5, b8, b10, b12⟩ := hE
  exact sX8_key_0 s0 b1 (fun c1 c2 c3 => by simp only [if_neg c1, if_pos c2, if_pos c3] at hQ; exact Sm.q Sm.rf hQ) (fun c1 c2 c3 => by simp only [if_neg c1, if_pos c2, if_neg c3] at hQ; exact Sm.q Sm.rf hQ) b4 b5 (fun c1 c2 c4 c5 => by simp only [if_neg c1, if_neg c2, if_pos c4, if_pos c5] at hQ; exact Sm.q (Sm.tr Sm.rf jX4_isBarred) hQ) (fun c1 c2 c4 c5 => by simp only [if_neg c1, if_neg c2, if_pos c4, if_neg c5] at hQ; exact Sm.q (Sm.tr Sm.rf jX4_isBarred) hQ) b8 (fun c1 c2 c4 c6 => by simp only [if_neg c1, if_neg c2, if_neg c4, if_pos c6] at hQ; exact Sm.q Sm.rf hQ) b10 (fun c1 c2 c4 c6 c7 => by simp only [if_neg c1, if_neg c2, if_neg c4, if_neg c6, if_pos c7] at hQ; exact Sm.q Sm.rf hQ) b12 (fun c1 c2 c4 c6 c7 c8 => by simp only [if_neg c1, if_neg c2, if_neg c4, if_neg c6, if_neg c7, if_pos c8] at hQ; exact Sm.q Sm.rf hQ) (fun c1 c2 c4 c6 c7 c8 => by simp only [if_neg c1, if_neg c2, if_neg c4, if_neg c6, if_neg c7, if_neg c8] at hQ; exact Sm.q Sm.rf hQ) (fun c1 => by simp only [if_pos c1] at hQ; exact Sm.q Sm.rf hQ)
/-! X8_vertex  -/
set_option maxRecDepth 4000 in
theorem sX8_vertex_0 {N : Nat} {X : gX} {d mc ms : Nat} {Q : Option Value → gM → Prop} {M : gM} {a0 : Nat} {x1 : Int32} {x2 : Int32} (s0 : Ph M a0) (h1 : ((fX3_hasVertex M ((a0 + 1) + 1) x1) = 0) → Q (some (.int ((-1)))) M) (h2 : (¬ (fX3_hasVertex M ((a0 + 1) + 1) x1) = 0) → (x2 < 0) → Q (some (.int ((-1)))) M) (b3 : (¬ (fX3_hasVertex M ((a0 + 1) + 1) x1) = 0) → (¬ x2 < 0) → (x2 ≤ 1) → EX3_degreeOf N M ((a0 + 1) + 1) x1) (b4 : (¬ (fX3_hasVertex M ((a0 + 1) + 1) x1) = 0) → (¬ x2 < 0) → (x2 ≤ 1) → (¬ x2 = 0) → EX8_lawNumbered M a0 (g_mi M (a0 + 1) 6)) (b5 : (¬ (fX3_hasVertex M ((a0 + 1) + 1) x1) = 0) → (¬ x2 < 0) → (x2 ≤ 1) → (¬ x2 = 0) → EX4_rankOf N M (a0 + 271) (aLaw M a0 (g_mi M (a0 + 1) 6)) (kl M ((aLaw M a0 (g_mi M (a0 + 1) 6)) + 1)) (kl M ((aLaw M a0 (g_mi M (a0 + 1) 6)) + 5)) ((a0 + 1) + 1) (g_mi M ((a0 + 1) + 1) 5) x1 (fX3_degreeOf N M ((a0 + 1) + 1) x1)) (h6 : (¬ (fX3_hasVertex M ((a0 + 1) + 1) x1) = 0) → (¬ x2 < 0) → (x2 ≤ 1) → (¬ x2 = 0) → Q (some (.int ((fX4_rankOf N M (a0 + 271) (aLaw M a0 (g_mi M (a0 + 1) 6)) (kl M ((aLaw M a0 (g_mi M (a0 + 1) 6)) + 1)) (kl M ((aLaw M a0 (g_mi M (a0 + 1) 6)) + 5)) ((a0 + 1) + 1) (g_mi M ((a0 + 1) + 1) 5) x1 (fX3_degreeOf N M ((a0 + 1) + 1) x1))))) (mX4_rankOf N M (a0 + 271) (aLaw M a0 (g_mi M (a0 + 1) 6)) (kl M ((aLaw M a0 (g_mi M (a0 + 1) 6)) + 1)) (kl M ((aLaw M a0 (g_mi M (a0 + 1) 6)) + 5)) ((a0 + 1) + 1) (g_mi M ((a0 + 1) + 1) 5) x1 (fX3_degreeOf N M ((a0 + 1) + 1) x1))) (h7 : (¬ (fX3_hasVertex M ((a0 + 1) + 1) x1) = 0) → (¬ x2 < 0) → (x2 ≤ 1) → (x2 = 0) → Q (some (.int ((fX3_degreeOf N M ((a0 + 1) + 1) x1)))) M) (h8 : (¬ (fX3_hasVertex M ((a0 + 1) + 1) x1) = 0) → (¬ x2 < 0) → (¬ x2 ≤ 1) → Q (some (.int ((-1)))) M) : Cn X (d + 3) mc ms kX8_vertex [.ref a0, .int (x1), .int (x2)] M Q := by
  refine g_meth rfl rfl (Nat.le_of_ble_eq_true rfl) rfl ?_
  refine g_aload_n 0 1 dX8_vertex_0 rfl rfl ?_
  refine g_getR 4 (a0 + 1) dX8_vertex_1 rfl flX8_14 s0.1 s0.2.1 ?_
  refine g_getR 7 ((a0 + 1) + 1) dX8_vertex_4 rfl flX8_102 s0.2.2.1.1 s0.2.2.1.2.1 ?_
  refine g_astore_n 8 [(3, .ref ((a0 + 1) + 1)), (0, .ref a0), (1, .int (x1)), (2, .int (x2))] dX8_vertex_7 rfl (Nat.le_of_ble_eq_true rfl) rfl ?_
  refine g_aload_n 0 9 dX8_vertex_8 rfl rfl ?_
  refine g_iload_n 2 10 dX8_vertex_9 rfl rfl ?_
  refine g_callV (mc1 := 0) (ms1 := 0) (b := ((a0 + 1) + 1)) (rest := []) (av := [.int (x1)]) kX3_hasVertex 13 dX8_vertex_10 rfl rfl mbX8_126 imX3_hasVertex seX3_hasVertex gcl3.1 s0.2.2.1.2.2.1.1 (Nat.le_of_ble_eq_true rfl) (Nat.zero_le _) (Nat.zero_le _) (tX3_hasVertex s0.2.2.1.2.2.1 ?_)
  show Go X (d + 3) mc ms kX8_vertex Q 13 [(3, .ref ((a0 + 1) + 1)), (0, .ref a0), (1, .int (x1)), (2, .int (x2))] [.int ((fX3_hasVertex M ((a0 + 1) + 1) x1))] M 0 0
  refine g_if_eq 25 16 dX8_vertex_13 rfl rfl (fun c1 => ?_) (fun c1 => ?_)
  · skip
    refine g_iconst ((-1)) 26 dX8_vertex_25 rfl rfl ?_
    exact g_iret dX8_vertex_26 rfl (Nat.zero_le _) (Nat.zero_le _) (h1 c1)
  · skip
    refine g_iload_n 3 17 dX8_vertex_16 rfl rfl ?_
    refine g_if_lt 25 20 dX8_vertex_17 rfl rfl (fun c2 => ?_) (fun c2 => ?_)
    · skip
      refine g_iconst ((-1)) 26 dX8_vertex_25 rfl rfl ?_
      exact g_iret dX8_vertex_26 rfl (Nat.zero_le _) (Nat.zero_le _) (h2 c1 c2)
    · skip
      refine g_iload_n 3 21 dX8_vertex_20 rfl rfl ?_
      refine g_iconst (1) 22 dX8_vertex_21 rfl rfl ?_
      refine g_icmp_le 27 25 dX8_vertex_22 rfl rfl (fun c3 => ?_) (fun c3 => ?_)
      · skip
        refine g_aload_n 0 28 dX8_vertex_27 rfl rfl ?_
        refine g_iload_n 2 29 dX8_vertex_28 rfl rfl ?_
        refine g_callV (mc1 := 0) (ms1 := 0) (b := ((a0 + 1) + 1)) (rest := []) (av := [.int (x1)]) kX3_degreeOf 32 dX8_vertex_29 rfl rfl mbX8_129 imX3_degreeOf seX3_degreeOf gcl3.1 s0.2.2.1.2.2.1.1 (Nat.le_of_ble_eq_true rfl) (Nat.zero_le _) (Nat.zero_le _) (tX3_degreeOf (N := N) s0.2.2.1.2.2.1 (b3 c1 c2 c3) ?_)
        show Go X (d + 3) mc ms kX8_vertex Q 32 [(3, .ref ((a0 + 1) + 1)), (0, .ref a0), (1, .int (x1)), (2, .int (x2))] [.int ((fX3_degreeOf N M ((a0 + 1) + 1) x1))] M 0 0
        refine g_istore 34 [(4, .int ((fX3_degreeOf N M ((a0 + 1) + 1) x1))), (3, .ref ((a0 + 1) + 1)), (0, .ref a0), (1, .int (x1)), (2, .int (x2))] dX8_vertex_32 rfl (Nat.le_of_ble_eq_true rfl) rfl ?_
        refine g_iload_n 4 35 dX8_vertex_34 rfl rfl ?_
        refine g_if_ne 43 38 dX8_vertex_35 rfl rfl (fun c4 => ?_) (fun c4 => ?_)
        · skip
          refine g_aload_n 2 44 dX8_vertex_43 rfl rfl ?_
          refine g_getR 47 (a0 + 271) dX8_vertex_44 rfl flX8_45 s0.1 s0.2.2.2.2.2.2.2.2.2.2.2.2.2.1 ?_
          refine g_aload_n 2 48 dX8_vertex_47 rfl rfl ?_
          refine g_callV (mc1 := 0) (ms1 := 0) (b := a0) (rest := [.ref (a0 + 271)]) (av := []) kX8_lawInForce 51 dX8_vertex_48 rfl rfl mbX8_108 imX8_lawInForce seX8_lawInForce gcl8.1 s0.1 (Nat.le_of_ble_eq_true rfl) (Nat.zero_le _) (Nat.zero_le _) (sX8_lawInForce_0 s0 (b4 c1 c2 c3 c4) ?_)
          show Go X (d + 3) mc ms kX8_vertex Q 51 [(4, .int ((fX3_degreeOf N M ((a0 + 1) + 1) x1))), (3, .ref ((a0 + 1) + 1)), (0, .ref a0), (1, .int (x1)), (2, .int (x2))] [.ref (aLaw M a0 (g_mi M (a0 + 1) 6)), .ref (a0 + 271)] M 0 0
          refine g_aload_n 1 52 dX8_vertex_51 rfl rfl ?_
          refine g_aload_n 1 53 dX8_vertex_52 rfl rfl ?_
          refine g_getI 56 dX8_vertex_53 rfl flX8_116 s0.2.2.1.2.2.1.1 ?_
          refine g_iload_n 3 57 dX8_vertex_56 rfl rfl ?_
          refine g_iload 0 59 dX8_vertex_57 rfl rfl ?_
          refine g_callV (mc1 := 0) (ms1 := 0) (b := (a0 + 271)) (rest := []) (av := [.ref (aLaw M a0 (g_mi M (a0 + 1) 6)), .ref ((a0 + 1) + 1), .int ((g_mi M ((a0 + 1) + 1) 5)), .int (x1), .int ((fX3_degreeOf N M ((a0 + 1) + 1) x1))]) kX4_rankOf 62 dX8_vertex_59 rfl rfl mbX8_133 imX4_rankOf seX4_rankOf gcl4.1 s0.2.2.2.2.2.2.2.2.2.2.2.2.2.2.1.1 (Nat.le_of_ble_eq_true rfl) (Nat.zero_le _) (Nat.zero_le _) (tX4_rankOf (N := N) s0.2.2.2.2.2.2.2.2.2.2.2.2.2.2.1 (b4 c1 c2 c3 c4).2 s0.2.2.1.2.2.1 (b5 c1 c2 c3 c4) ?_)
          show Go X (d + 3) mc ms kX8_vertex Q 62 [(4, .int ((fX3_degreeOf N M ((a0 + 1) + 1) x1))), (3, .ref ((a0 + 1) + 1)), (0, .ref a0), (1, .int (x1)), (2, .int (x2))] [.int ((fX4_rankOf N M (a0 + 271) (aLaw M a0 (g_mi M (a0 + 1) 6)) (kl M ((aLaw M a0 (g_mi M (a0 + 1) 6)) + 1)) (kl M ((aLaw M a0 (g_mi M (a0 + 1) 6)) + 5)) ((a0 + 1) + 1) (g_mi M ((a0 + 1) + 1) 5) x1 (fX3_degreeOf N M ((a0 + 1) + 1) x1)))] (mX4_rankOf N M (a0 + 271) (aLaw M a0 (g_mi M (a0 + 1) 6)) (kl M ((aLaw M a0 (g_mi M (a0 + 1) 6)) + 1)) (kl M ((aLaw M a0 (g_mi M (a0 + 1) 6)) + 5)) ((a0 + 1) + 1) (g_mi M ((a0 + 1) + 1) 5) x1 (fX3_degreeOf N M ((a0 + 1) + 1) x1)) 0 0
          exact g_iret dX8_vertex_62 rfl (Nat.zero_le _) (Nat.zero_le _) (h6 c1 c2 c3 c4)
        · skip
          refine g_iload 0 40 dX8_vertex_38 rfl rfl ?_
          refine g_goto 62 dX8_vertex_40 rfl ?_
          exact g_iret dX8_vertex_62 rfl (Nat.zero_le _) (Nat.zero_le _) (h7 c1 c2 c3 c4)
      · skip
        refine g_iconst ((-1)) 26 dX8_vertex_25 rfl rfl ?_
        exact g_iret dX8_vertex_26 rfl (Nat.zero_le _) (Nat.zero_le _) (h8 c1 c2 c3)

def fX8_vertex (N : Nat) (M : gM) (a0 : Nat) (x1 : Int32) (x2 : Int32) : Int32 := (if (fX3_hasVertex M ((a0 + 1) + 1) x1) = 0 then (-1) else (if x2 < 0 then (-1) else (if x2 ≤ 1 then (if x2 = 0 then (fX3_degreeOf N M ((a0 + 1) + 1) x1) else (fX4_rankOf N M (a0 + 271) (aLaw M a0 (g_mi M (a0 + 1) 6)) (kl M ((aLaw M a0 (g_mi M (a0 + 1) 6)) + 1)) (kl M ((aLaw M a0 (g_mi M (a0 + 1) 6)) + 5)) ((a0 + 1) + 1) (g_mi M ((a0 + 1) + 1) 5) x1 (fX3_degreeOf N M ((a0 + 1) + 1) x1))) else (-1))))
def mX8_vertex (N : Nat) (M : gM) (a0 : Nat) (x1 : Int32) (x2 : Int32) : gM := g_wm M (if (fX3_hasVertex M ((a0 + 1) + 1) x1) = 0 then (g_mi M) else (if x2 < 0 then (g_mi M) else (if x2 ≤ 1 then (if x2 = 0 then (g_mi M) else (g_mi (mX4_rankOf N M (a0 + 271) (aLaw M a0 (g_mi M (a0 + 1) 6)) (kl M ((aLaw M a0 (g_mi M (a0 + 1) 6)) + 1)) (kl M ((aLaw M a0 (g_mi M (a0 + 1) 6)) + 5)) ((a0 + 1) + 1) (g_mi M ((a0 + 1) + 1) 5) x1 (fX3_degreeOf N M ((a0 + 1) + 1) x1)))) else (g_mi M)))) (g_ml M)
def EX8_vertex (N : Nat) (M : gM) (a0 : Nat) (x1 : Int32) (x2 : Int32) : Prop := ((¬ (fX3_hasVertex M ((a0 + 1) + 1) x1) = 0) → (¬ x2 < 0) → (x2 ≤ 1) → EX3_degreeOf N M ((a0 + 1) + 1) x1) ∧ ((¬ (fX3_hasVertex M ((a0 + 1) + 1) x1) = 0) → (¬ x2 < 0) → (x2 ≤ 1) → (¬ x2 = 0) → EX8_lawNumbered M a0 (g_mi M (a0 + 1) 6)) ∧ ((¬ (fX3_hasVertex M ((a0 + 1) + 1) x1) = 0) → (¬ x2 < 0) → (x2 ≤ 1) → (¬ x2 = 0) → EX4_rankOf N M (a0 + 271) (aLaw M a0 (g_mi M (a0 + 1) 6)) (kl M ((aLaw M a0 (g_mi M (a0 + 1) 6)) + 1)) (kl M ((aLaw M a0 (g_mi M (a0 + 1) 6)) + 5)) ((a0 + 1) + 1) (g_mi M ((a0 + 1) + 1) 5) x1 (fX3_degreeOf N M ((a0 + 1) + 1) x1))
theorem jX8_vertex {N : Nat} {M : gM} {a0 : Nat} {x1 : Int32} {x2 : Int32} : Sm M (mX8_vertex N M a0 x1 x2) := Sm.wm
theorem tX8_vertex {N : Nat} {X : gX} {d mc ms : Nat} {Q : Option Value → gM → Prop} {M : gM} {a0 : Nat} {x1 : Int32} {x2 : Int32} (s0 : Ph M a0) (hE : EX8_vertex N M a0 x1 x2) (hQ : Q (some (.int (fX8_vertex N M a0 x1 x2))) (mX8_vertex N M a0 x1 x2)) : Cn X (d + 3) mc ms kX8_vertex [.ref a0, .int (x1), .int (x2)] M Q := by
  unfold fX8_vertex mX8_vertex at hQ
  obtain ⟨b3, b4, b5⟩ := hE
  exact sX8_vertex_0 s0 (fun c1 => by simp only [if_pos c1] at hQ; exact Sm.q Sm.rf hQ) (fun c1 c2 => by simp only [if_neg c1, if_pos c2] at hQ; exact Sm.q Sm.rf hQ) b3 b4 b5 (fun c1 c2 c3 c4 => by simp only [if_neg c1, if_neg c2, if_pos c3, if_neg c4] at hQ; exact Sm.q (Sm.tr Sm.rf jX4_rankOf) hQ) (fun c1 c2 c3 c4 => by simp only [if_neg c1, if_neg c2, if_pos c3, if_pos c4] at hQ; exact Sm.q Sm.rf hQ) (fun c1 c2 c3 => by simp only [if_neg c1, if_neg c2, if_neg c3] at hQ; exact Sm.q Sm.rf hQ)
/-! X8_peeled  -/
set_option maxRecDepth 4000 in
theorem sX8_peeled_0 {N : Nat} {X : gX} {d mc ms : Nat} {Q : Option Value → gM → Prop} {M : gM} {a0 : Nat} {x1 : Int32} {x2 : Int32} (s0 : Ph M a0) (h1 : (x1 < 0) → Q (some (.int ((-1)))) M) (h2 : (¬ x1 < 0) → ((g_mi M ((a0 + 1) + 1) 3) ≤ x1) → Q (some (.int ((-1)))) M) (h3 : (¬ x1 < 0) → (¬ (g_mi M ((a0 + 1) + 1) 3) ≤ x1) → (x2 < 0) → Q (some (.int ((-1)))) M) (b4 : (¬ x1 < 0) → (¬ (g_mi M ((a0 + 1) + 1) 3) ≤ x1) → (¬ x2 < 0) → (x2 ≤ 1) → EX8_lawNumbered M a0 (g_mi M (a0 + 1) 6)) (b5 : (¬ x1 < 0) → (¬ (g_mi M ((a0 + 1) + 1) 3) ≤ x1) → (¬ x2 < 0) → (x2 ≤ 1) → EX1_peel N M (a0 + 274) ((a0 + 1) + 1) (g_mi M ((a0 + 1) + 1) 5) (aLaw M a0 (g_mi M (a0 + 1) 6)) (kl M ((aLaw M a0 (g_mi M (a0 + 1) 6)) + 1)) (kl M ((aLaw M a0 (g_mi M (a0 + 1) 6)) + 5))) (b6 : (¬ x1 < 0) → (¬ (g_mi M ((a0 + 1) + 1) 3) ≤ x1) → (¬ x2 < 0) → (x2 ≤ 1) → (x1 < (g_mi (mX1_peel N M (a0 + 274) ((a0 + 1) + 1) (g_mi M ((a0 + 1) + 1) 5) (aLaw M a0 (g_mi M (a0 + 1) 6)) (kl M ((aLaw M a0 (g_mi M (a0 + 1) 6)) + 1)) (kl M ((aLaw M a0 (g_mi M (a0 + 1) 6)) + 5))) (a0 + 274) 8)) → (¬ x2 = 0) → vp_in (x1) 30) (h7 : (¬ x1 < 0) → (¬ (g_mi M ((a0 + 1) + 1) 3) ≤ x1) → (¬ x2 < 0) → (x2 ≤ 1) → (x1 < (g_mi (mX1_peel N M (a0 + 274) ((a0 + 1) + 1) (g_mi M ((a0 + 1) + 1) 5) (aLaw M a0 (g_mi M (a0 + 1) 6)) (kl M ((aLaw M a0 (g_mi M (a0 + 1) 6)) + 1)) (kl M ((aLaw M a0 (g_mi M (a0 + 1) 6)) + 5))) (a0 + 274) 8)) → (¬ x2 = 0) → Q (some (.int ((g_mi (mX1_peel N M (a0 + 274) ((a0 + 1) + 1) (g_mi M ((a0 + 1) + 1) 5) (aLaw M a0 (g_mi M (a0 + 1) 6)) (kl M ((aLaw M a0 (g_mi M (a0 + 1) 6)) + 1)) (kl M ((aLaw M a0 (g_mi M (a0 + 1) 6)) + 5))) ((a0 + 274) + 3) (x1).toNatClampNeg)))) (mX1_peel N M (a0 + 274) ((a0 + 1) + 1) (g_mi M ((a0 + 1) + 1) 5) (aLaw M a0 (g_mi M (a0 + 1) 6)) (kl M ((aLaw M a0 (g_mi M (a0 + 1) 6)) + 1)) (kl M ((aLaw M a0 (g_mi M (a0 + 1) 6)) + 5)))) (b8 : (¬ x1 < 0) → (¬ (g_mi M ((a0 + 1) + 1) 3) ≤ x1) → (¬ x2 < 0) → (x2 ≤ 1) → (x1 < (g_mi (mX1_peel N M (a0 + 274) ((a0 + 1) + 1) (g_mi M ((a0 + 1) + 1) 5) (aLaw M a0 (g_mi M (a0 + 1) 6)) (kl M ((aLaw M a0 (g_mi M (a0 + 1) 6)) + 1)) (kl M ((aLaw M a0 (g_mi M (a0 + 1) 6)) + 5))) (a0 + 274) 8)) → (x2 = 0) → vp_in (x1) 30) (b9 : (¬ x1 < 0) → (¬ (g_mi M ((a0 + 1) + 1) 3) ≤ x1) → (¬ x2 < 0) → (x2 ≤ 1) → (x1 < (g_mi (mX1_peel N M (a0 + 274) ((a0 + 1) + 1) (g_mi M ((a0 + 1) + 1) 5) (aLaw M a0 (g_mi M (a0 + 1) 6)) (kl M ((aLaw M a0 (g_mi M (a0 + 1) 6)) + 1)) (kl M ((aLaw M a0 (g_mi M (a0 + 1) 6)) + 5))) (a0 + 274) 8)) → (x2 = 0) → vp_in ((g_mi (mX1_peel N M (a0 + 274) ((a0 + 1) + 1) (g_mi M ((a0 + 1) + 1) 5) (aLaw M a0 (g_mi M (a0 + 1) 6)) (kl M ((aLaw M a0 (g_mi M (a0 + 1) 6)) + 1)) (kl M ((aLaw M a0 (g_mi M (a0 + 1) 6)) + 5))) ((a0 + 274) + 2) (x1).toNatClampNeg)) 30) (h10 : (¬ x1 < 0) → (¬ (g_mi M ((a0 + 1) + 1) 3) ≤ x1) → (¬ x2 < 0) → (x2 ≤ 1) → (x1 < (g_mi (mX1_peel N M (a0 + 274) ((a0 + 1) + 1) (g_mi M ((a0 + 1) + 1) 5) (aLaw M a0 (g_mi M (a0 + 1) 6)) (kl M ((aLaw M a0 (g_mi M (a0 + 1) 6)) + 1)) (kl M ((aLaw M a0 (g_mi M (a0 + 1) 6)) + 5))) (a0 + 274) 8)) → (x2 = 0) → Q (some (.int ((g_mi (mX1_peel N M (a0 + 274) ((a0 + 1) + 1) (g_mi M ((a0 + 1) + 1) 5) (aLaw M a0 (g_mi M (a0 + 1) 6)) (kl M ((aLaw M a0 (g_mi M (a0 + 1) 6)) + 1)) (kl M ((aLaw M a0 (g_mi M (a0 + 1) 6)) + 5))) (((a0 + 1) + 1) + 1) ((g_mi (mX1_peel N M (a0 + 274) ((a0 + 1) + 1) (g_mi M ((a0 + 1) + 1) 5) (aLaw M a0 (g_mi M (a0 + 1) 6)) (kl M ((aLaw M a0 (g_mi M (a0 + 1) 6)) + 1)) (kl M ((aLaw M a0 (g_mi M (a0 + 1) 6)) + 5))) ((a0 + 274) + 2) (x1).toNatClampNeg)).toNatClampNeg)))) (mX1_peel N M (a0 + 274) ((a0 + 1) + 1) (g_mi M ((a0 + 1) + 1) 5) (aLaw M a0 (g_mi M (a0 + 1) 6)) (kl M ((aLaw M a0 (g_mi M (a0 + 1) 6)) + 1)) (kl M ((aLaw M a0 (g_mi M (a0 + 1) 6)) + 5)))) (h11 : (¬ x1 < 0) → (¬ (g_mi M ((a0 + 1) + 1) 3) ≤ x1) → (¬ x2 < 0) → (x2 ≤ 1) → (¬ x1 < (g_mi (mX1_peel N M (a0 + 274) ((a0 + 1) + 1) (g_mi M ((a0 + 1) + 1) 5) (aLaw M a0 (g_mi M (a0 + 1) 6)) (kl M ((aLaw M a0 (g_mi M (a0 + 1) 6)) + 1)) (kl M ((aLaw M a0 (g_mi M (a0 + 1) 6)) + 5))) (a0 + 274) 8)) → Q (some (.int ((-1)))) (mX1_peel N M (a0 + 274) ((a0 + 1) + 1) (g_mi M ((a0 + 1) + 1) 5) (aLaw M a0 (g_mi M (a0 + 1) 6)) (kl M ((aLaw M a0 (g_mi M (a0 + 1) 6)) + 1)) (kl M ((aLaw M a0 (g_mi M (a0 + 1) 6)) + 5)))) (h12 : (¬ x1 < 0) → (¬ (g_mi M ((a0 + 1) + 1) 3) ≤ x1) → (¬ x2 < 0) → (¬ x2 ≤ 1) → Q (some (.int ((-1)))) M) : Cn X (d + 4) mc ms kX8_peeled [.ref a0, .int (x1), .int (x2)] M Q := by
  refine g_meth rfl rfl (Nat.le_of_ble_eq_true rfl) rfl ?_
  refine g_aload_n 0 1 dX8_peeled_0 rfl rfl ?_
  refine g_getR 4 (a0 + 1) dX8_peeled_1 rfl flX8_14 s0.1 s0.2.1 ?_
  refine g_getR 7 ((a0 + 1) + 1) dX8_peeled_4 rfl flX8_102 s0.2.2.1.1 s0.2.2.1.2.1 ?_
  refine g_astore_n 8 [(3, .ref ((a0 + 1) + 1)), (0, .ref a0), (1, .int (x1)), (2, .int (x2))] dX8_peeled_7 rfl (Nat.le_of_ble_eq_true rfl) rfl ?_
  refine g_iload_n 2 9 dX8_peeled_8 rfl rfl ?_
  refine g_if_lt 29 12 dX8_peeled_9 rfl rfl (fun c1 => ?_) (fun c1 => ?_)
  · skip
    refine g_iconst ((-1)) 30 dX8_peeled_29 rfl rfl ?_
    exact g_iret dX8_peeled_30 rfl (Nat.zero_le _) (Nat.zero_le _) (h1 c1)
  · skip
    refine g_iload_n 2 13 dX8_peeled_12 rfl rfl ?_
    refine g_aload_n 0 14 dX8_peeled_13 rfl rfl ?_
    refine g_getI 17 dX8_peeled_14 rfl flX8_137 s0.2.2.1.2.2.1.1 ?_
    refine g_icmp_ge 29 20 dX8_peeled_17 rfl rfl (fun c2 => ?_) (fun c2 => ?_)
    · skip
      refine g_iconst ((-1)) 30 dX8_peeled_29 rfl rfl ?_
      exact g_iret dX8_peeled_30 rfl (Nat.zero_le _) (Nat.zero_le _) (h2 c1 c2)
    · skip
      refine g_iload_n 3 21 dX8_peeled_20 rfl rfl ?_
      refine g_if_lt 29 24 dX8_peeled_21 rfl rfl (fun c3 => ?_) (fun c3 => ?_)
      · skip
        refine g_iconst ((-1)) 30 dX8_peeled_29 rfl rfl ?_
        exact g_iret dX8_peeled_30 rfl (Nat.zero_le _) (Nat.zero_le _) (h3 c1 c2 c3)
      · skip
        refine g_iload_n 3 25 dX8_peeled_24 rfl rfl ?_
        refine g_iconst (1) 26 dX8_peeled_25 rfl rfl ?_
        refine g_icmp_le 31 29 dX8_peeled_26 rfl rfl (fun c4 => ?_) (fun c4 => ?_)
        · skip
          refine g_aload_n 1 32 dX8_peeled_31 rfl rfl ?_
          refine g_getR 35 (a0 + 274) dX8_peeled_32 rfl flX8_54 s0.1 s0.2.2.2.2.2.2.2.2.2.2.2.2.2.2.2.1 ?_
          refine g_aload_n 0 36 dX8_peeled_35 rfl rfl ?_
          refine g_aload_n 0 37 dX8_peeled_36 rfl rfl ?_
          refine g_getI 40 dX8_peeled_37 rfl flX8_116 s0.2.2.1.2.2.1.1 ?_
          refine g_aload_n 1 41 dX8_peeled_40 rfl rfl ?_
          refine g_callV (mc1 := 0) (ms1 := 0) (b := a0) (rest := [.int ((g_mi M ((a0 + 1) + 1) 5)), .ref ((a0 + 1) + 1), .ref (a0 + 274)]) (av := []) kX8_lawInForce 44 dX8_peeled_41 rfl rfl mbX8_108 imX8_lawInForce seX8_lawInForce gcl8.1 s0.1 (Nat.le_of_ble_eq_true rfl) (Nat.zero_le _) (Nat.zero_le _) (sX8_lawInForce_0 s0 (b4 c1 c2 c3 c4) ?_)
          show Go X (d + 4) mc ms kX8_peeled Q 44 [(3, .ref ((a0 + 1) + 1)), (0, .ref a0), (1, .int (x1)), (2, .int (x2))] [.ref (aLaw M a0 (g_mi M (a0 + 1) 6)), .int ((g_mi M ((a0 + 1) + 1) 5)), .ref ((a0 + 1) + 1), .ref (a0 + 274)] M 0 0
          refine g_callV (mc1 := 0) (ms1 := 0) (b := (a0 + 274)) (rest := []) (av := [.ref ((a0 + 1) + 1), .int ((g_mi M ((a0 + 1) + 1) 5)), .ref (aLaw M a0 (g_mi M (a0 + 1) 6))]) kX1_peel 47 dX8_peeled_44 rfl rfl mbX8_233 imX1_peel seX1_peel gcl1.1 s0.2.2.2.2.2.2.2.2.2.2.2.2.2.2.2.2.1.1 (Nat.le_of_ble_eq_true rfl) (Nat.zero_le _) (Nat.zero_le _) (tX1_peel (N := N) s0.2.2.2.2.2.2.2.2.2.2.2.2.2.2.2.2.1 s0.2.2.1.2.2.1 (b4 c1 c2 c3 c4).2 (b5 c1 c2 c3 c4) ?_)
          show Go X (d + 4) mc ms kX8_peeled Q 47 [(3, .ref ((a0 + 1) + 1)), (0, .ref a0), (1, .int (x1)), (2, .int (x2))] [] (mX1_peel N M (a0 + 274) ((a0 + 1) + 1) (g_mi M ((a0 + 1) + 1) 5) (aLaw M a0 (g_mi M (a0 + 1) 6)) (kl M ((aLaw M a0 (g_mi M (a0 + 1) 6)) + 1)) (kl M ((aLaw M a0 (g_mi M (a0 + 1) 6)) + 5))) 0 0
          refine g_iload_n 2 48 dX8_peeled_47 rfl rfl ?_
          refine g_aload_n 1 49 dX8_peeled_48 rfl rfl ?_
          refine g_getR 52 (a0 + 274) dX8_peeled_49 rfl flX8_54 (Sm.k (Sm.tr Sm.rf jX1_peel) s0.1) (Sm.r (Sm.tr Sm.rf jX1_peel) s0.2.2.2.2.2.2.2.2.2.2.2.2.2.2.2.1) ?_
          refine g_getI 55 dX8_peeled_52 rfl flX8_237 (Sm.k (Sm.tr Sm.rf jX1_peel) s0.2.2.2.2.2.2.2.2.2.2.2.2.2.2.2.2.1.1) ?_
          refine g_icmp_lt 60 58 dX8_peeled_55 rfl rfl (fun c5 => ?_) (fun c5 => ?_)
          · skip
            refine g_iload_n 3 61 dX8_peeled_60 rfl rfl ?_
            refine g_if_ne 81 64 dX8_peeled_61 rfl rfl (fun c6 => ?_) (fun c6 => ?_)
            · skip
              refine g_aload_n 1 82 dX8_peeled_81 rfl rfl ?_
              refine g_getR 85 (a0 + 274) dX8_peeled_82 rfl flX8_54 (Sm.k (Sm.tr Sm.rf jX1_peel) s0.1) (Sm.r (Sm.tr Sm.rf jX1_peel) s0.2.2.2.2.2.2.2.2.2.2.2.2.2.2.2.1) ?_
              refine g_getR 88 ((a0 + 274) + 3) dX8_peeled_85 rfl flX8_243 (Sm.k (Sm.tr Sm.rf jX1_peel) s0.2.2.2.2.2.2.2.2.2.2.2.2.2.2.2.2.1.1) (Sm.r (Sm.tr Sm.rf jX1_peel) s0.2.2.2.2.2.2.2.2.2.2.2.2.2.2.2.2.1.2.2.2.2.2.1) ?_
              refine g_iload_n 2 89 dX8_peeled_88 rfl rfl ?_
              refine h_iaload 90 (x1).toNatClampNeg dX8_peeled_89 rfl rfl (Sm.k (Sm.tr Sm.rf jX1_peel) s0.2.2.2.2.2.2.2.2.2.2.2.2.2.2.2.2.1.2.2.2.2.2.2.1) (b6 c1 c2 c3 c4 c5 c6) ?_
              exact g_iret dX8_peeled_90 rfl (Nat.zero_le _) (Nat.zero_le _) (h7 c1 c2 c3 c4 c5 c6)
            · skip
              refine g_aload_n 0 65 dX8_peeled_64 rfl rfl ?_
              refine g_getR 68 (((a0 + 1) + 1) + 1) dX8_peeled_65 rfl flX8_140 (Sm.k (Sm.tr Sm.rf jX1_peel) s0.2.2.1.2.2.1.1) (Sm.r (Sm.tr Sm.rf jX1_peel) s0.2.2.1.2.2.1.2.1) ?_
              refine g_aload_n 1 69 dX8_peeled_68 rfl rfl ?_
              refine g_getR 72 (a0 + 274) dX8_peeled_69 rfl flX8_54 (Sm.k (Sm.tr Sm.rf jX1_peel) s0.1) (Sm.r (Sm.tr Sm.rf jX1_peel) s0.2.2.2.2.2.2.2.2.2.2.2.2.2.2.2.1) ?_
              refine g_getR 75 ((a0 + 274) + 2) dX8_peeled_72 rfl flX8_240 (Sm.k (Sm.tr Sm.rf jX1_peel) s0.2.2.2.2.2.2.2.2.2.2.2.2.2.2.2.2.1.1) (Sm.r (Sm.tr Sm.rf jX1_peel) s0.2.2.2.2.2.2.2.2.2.2.2.2.2.2.2.2.1.2.2.2.1) ?_
              refine g_iload_n 2 76 dX8_peeled_75 rfl rfl ?_
              refine h_iaload 77 (x1).toNatClampNeg dX8_peeled_76 rfl rfl (Sm.k (Sm.tr Sm.rf jX1_peel) s0.2.2.2.2.2.2.2.2.2.2.2.2.2.2.2.2.1.2.2.2.2.1) (b8 c1 c2 c3 c4 c5 c6) ?_
              refine h_iaload 78 ((g_mi (mX1_peel N M (a0 + 274) ((a0 + 1) + 1) (g_mi M ((a0 + 1) + 1) 5) (aLaw M a0 (g_mi M (a0 + 1) 6)) (kl M ((aLaw M a0 (g_mi M (a0 + 1) 6)) + 1)) (kl M ((aLaw M a0 (g_mi M (a0 + 1) 6)) + 5))) ((a0 + 274) + 2) (x1).toNatClampNeg)).toNatClampNeg dX8_peeled_77 rfl rfl (Sm.k (Sm.tr Sm.rf jX1_peel) s0.2.2.1.2.2.1.2.2.1) (b9 c1 c2 c3 c4 c5 c6) ?_
              refine g_goto 90 dX8_peeled_78 rfl ?_
              exact g_iret dX8_peeled_90 rfl (Nat.zero_le _) (Nat.zero_le _) (h10 c1 c2 c3 c4 c5 c6)
          · skip
            refine g_iconst ((-1)) 59 dX8_peeled_58 rfl rfl ?_
            exact g_iret dX8_peeled_59 rfl (Nat.zero_le _) (Nat.zero_le _) (h11 c1 c2 c3 c4 c5)
        · skip
          refine g_iconst ((-1)) 30 dX8_peeled_29 rfl rfl ?_
          exact g_iret dX8_peeled_30 rfl (Nat.zero_le _) (Nat.zero_le _) (h12 c1 c2 c3 c4)

def fX8_peeled (N : Nat) (M : gM) (a0 : Nat) (x1 : Int32) (x2 : Int32) : Int32 := (if x1 < 0 then (-1) else (if (g_mi M ((a0 + 1) + 1) 3) ≤ x1 then (-1) else (if x2 < 0 then (-1) else (if x2 ≤ 1 then (if x1 < (g_mi (mX1_peel N M (a0 + 274) ((a0 + 1) + 1) (g_mi M ((a0 + 1) + 1) 5) (aLaw M a0 (g_mi M (a0 + 1) 6)) (kl M ((aLaw M a0 (g_mi M (a0 + 1) 6)) + 1)) (kl M ((aLaw M a0 (g_mi M (a0 + 1) 6)) + 5))) (a0 + 274) 8) then (if x2 = 0 then (g_mi (mX1_peel N M (a0 + 274) ((a0 + 1) + 1) (g_mi M ((a0 + 1) + 1) 5) (aLaw M a0 (g_mi M (a0 + 1) 6)) (kl M ((aLaw M a0 (g_mi M (a0 + 1) 6)) + 1)) (kl M ((aLaw M a0 (g_mi M (a0 + 1) 6)) + 5))) (((a0 + 1) + 1) + 1) ((g_mi (mX1_peel N M (a0 + 274) ((a0 + 1) + 1) (g_mi M ((a0 + 1) + 1) 5) (aLaw M a0 (g_mi M (a0 + 1) 6)) (kl M ((aLaw M a0 (g_mi M (a0 + 1) 6)) + 1)) (kl M ((aLaw M a0 (g_mi M (a0 + 1) 6)) + 5))) ((a0 + 274) + 2) (x1).toNatClampNeg)).toNatClampNeg) else (g_mi (mX1_peel N M (a0 + 274) ((a0 + 1) + 1) (g_mi M ((a0 + 1) + 1) 5) (aLaw M a0 (g_mi M (a0 + 1) 6)) (kl M ((aLaw M a0 (g_mi M (a0 + 1) 6)) + 1)) (kl M ((aLaw M a0 (g_mi M (a0 + 1) 6)) + 5))) ((a0 + 274) + 3) (x1).toNatClampNeg)) else (-1)) else (-1)))))
def mX8_peeled (N : Nat) (M : gM) (a0 : Nat) (x1 : Int32) (x2 : Int32) : gM := g_wm M (if x1 < 0 then (g_mi M) else (if (g_mi M ((a0 + 1) + 1) 3) ≤ x1 then (g_mi M) else (if x2 < 0 then (g_mi M) else (if x2 ≤ 1 then (if x1 < (g_mi (mX1_peel N M (a0 + 274) ((a0 + 1) + 1) (g_mi M ((a0 + 1) + 1) 5) (aLaw M a0 (g_mi M (a0 + 1) 6)) (kl M ((aLaw M a0 (g_mi M (a0 + 1) 6)) + 1)) (kl M ((aLaw M a0 (g_mi M (a0 + 1) 6)) + 5))) (a0 + 274) 8) then (if x2 = 0 then (g_mi (mX1_peel N M (a0 + 274) ((a0 + 1) + 1) (g_mi M ((a0 + 1) + 1) 5) (aLaw M a0 (g_mi M (a0 + 1) 6)) (kl M ((aLaw M a0 (g_mi M (a0 + 1) 6)) + 1)) (kl M ((aLaw M a0 (g_mi M (a0 + 1) 6)) + 5)))) else (g_mi (mX1_peel N M (a0 + 274) ((a0 + 1) + 1) (g_mi M ((a0 + 1) + 1) 5) (aLaw M a0 (g_mi M (a0 + 1) 6)) (kl M ((aLaw M a0 (g_mi M (a0 + 1) 6)) + 1)) (kl M ((aLaw M a0 (g_mi M (a0 + 1) 6)) + 5))))) else (g_mi (mX1_peel N M (a0 + 274) ((a0 + 1) + 1) (g_mi M ((a0 + 1) + 1) 5) (aLaw M a0 (g_mi M (a0 + 1) 6)) (kl M ((aLaw M a0 (g_mi M (a0 + 1) 6)) + 1)) (kl M ((aLaw M a0 (g_mi M (a0 + 1) 6)) + 5))))) else (g_mi M))))) (g_ml M)
def EX8_peeled (N : Nat) (M : gM) (a0 : Nat) (x1 : Int32) (x2 : Int32) : Prop := ((¬ x1 < 0) → (¬ (g_mi M ((a0 + 1) + 1) 3) ≤ x1) → (¬ x2 < 0) → (x2 ≤ 1) → EX8_lawNumbered M a0 (g_mi M (a0 + 1) 6)) ∧ ((¬ x1 < 0) → (¬ (g_mi M ((a0 + 1) + 1) 3) ≤ x1) → (¬ x2 < 0) → (x2 ≤ 1) → EX1_peel N M (a0 + 274) ((a0 + 1) + 1) (g_mi M ((a0 + 1) + 1) 5) (aLaw M a0 (g_mi M (a0 + 1) 6)) (kl M ((aLaw M a0 (g_mi M (a0 + 1) 6)) + 1)) (kl M ((aLaw M a0 (g_mi M (a0 + 1) 6)) + 5))) ∧ ((¬ x1 < 0) → (¬ (g_mi M ((a0 + 1) + 1) 3) ≤ x1) → (¬ x2 < 0) → (x2 ≤ 1) → (x1 < (g_mi (mX1_peel N M (a0 + 274) ((a0 + 1) + 1) (g_mi M ((a0 + 1) + 1) 5) (aLaw M a0 (g_mi M (a0 + 1) 6)) (kl M ((aLaw M a0 (g_mi M (a0 + 1) 6)) + 1)) (kl M ((aLaw M a0 (g_mi M (a0 + 1) 6)) + 5))) (a0 + 274) 8)) → (¬ x2 = 0) → vp_in (x1) 30) ∧ ((¬ x1 < 0) → (¬ (g_mi M ((a0 + 1) + 1) 3) ≤ x1) → (¬ x2 < 0) → (x2 ≤ 1) → (x1 < (g_mi (mX1_peel N M (a0 + 274) ((a0 + 1) + 1) (g_mi M ((a0 + 1) + 1) 5) (aLaw M a0 (g_mi M (a0 + 1) 6)) (kl M ((aLaw M a0 (g_mi M (a0 + 1) 6)) + 1)) (kl M ((aLaw M a0 (g_mi M (a0 + 1) 6)) + 5))) (a0 + 274) 8)) → (x2 = 0) → vp_in (x1) 30) ∧ ((¬ x1 < 0) → (¬ (g_mi M ((a0 + 1) + 1) 3) ≤ x1) → (¬ x2 < 0) → (x2 ≤ 1) → (x1 < (g_mi (mX1_peel N M (a0 + 274) ((a0 + 1) + 1) (g_mi M ((a0 + 1) + 1) 5) (aLaw M a0 (g_mi M (a0 + 1) 6)) (kl M ((aLaw M a0 (g_mi M (a0 + 1) 6)) + 1)) (kl M ((aLaw M a0 (g_mi M (a0 + 1) 6)) + 5))) (a0 + 274) 8)) → (x2 = 0) → vp_in ((g_mi (mX1_peel N M (a0 + 274) ((a0 + 1) + 1) (g_mi M ((a0 + 1) + 1) 5) (aLaw M a0 (g_mi M (a0 + 1) 6)) (kl M ((aLaw M a0 (g_mi M (a0 + 1) 6)) + 1)) (kl M ((aLaw M a0 (g_mi M (a0 + 1) 6)) + 5))) ((a0 + 274) + 2) (x1).toNatClampNeg)) 30)
theorem jX8_peeled {N : Nat} {M : gM} {a0 : Nat} {x1 : Int32} {x2 : Int32} : Sm M (mX8_peeled N M a0 x1 x2) := Sm.wm
theorem tX8_peeled {N : Nat} {X : gX} {d mc ms : Nat} {Q : Option Value → gM → Prop} {M : gM} {a0 : Nat} {x1 : Int32} {x2 : Int32} (s0 : Ph M a0) (hE : EX8_peeled N M a0 x1 x2) (hQ : Q (some (.int (fX8_peeled N M a0 x1 x2))) (mX8_peeled N M a0 x1 x2)) : Cn X (d + 4) mc ms kX8_peeled [.ref a0, .int (x1), .int (x2)] M Q := by
  unfold fX8_peeled mX8_peeled at hQ
  obtain ⟨b4, b5, b6, b8, b9⟩ := hE
  exact sX8_peeled_0 s0 (fun c1 => by simp only [if_pos c1] at hQ; exact Sm.q Sm.rf hQ) (fun c1 c2 => by simp only [if_neg c1, if_pos c2] at hQ; exact Sm.q Sm.rf hQ) (fun c1 c2 c3 => by simp only [if_neg c1, if_neg c2, if_pos c3] at hQ; exact Sm.q Sm.rf hQ) b4 b5 b6 (fun c1 c2 c3 c4 c5 c6 => by simp only [if_neg c1, if_neg c2, if_neg c3, if_pos c4, if_pos c5, if_neg c6] at hQ; exact Sm.q (Sm.tr Sm.rf jX1_peel) hQ) b8 b9 (fun c1 c2 c3 c4 c5 c6 => by simp only [if_neg c1, if_neg c2, if_neg c3, if_pos c4, if_pos c5, if_pos c6] at hQ; exact Sm.q (Sm.tr Sm.rf jX1_peel) hQ) (fun c1 c2 c3 c4 c5 => by simp only [if_neg c1, if_neg c2, if_neg c3, if_pos c4, if_neg c5] at hQ; exact Sm.q (Sm.tr Sm.rf jX1_peel) hQ) (fun c1 c2 c3 c4 => by simp only [if_neg c1, if_neg c2, if_neg c3, if_neg c4] at hQ; exact Sm.q Sm.rf hQ)
/-! X8_compare  -/
set_option maxRecDepth 4000 in
theorem sX8_compare_0 {N : Nat} {X : gX} {d mc ms : Nat} {Q : Option Value → gM → Prop} {M : gM} {a0 : Nat} {x1 : Int32} {x2 : Int32} (s0 : Ph M a0) (h1 : (x1 < (-1)) → Q (some (.int ((-1)))) M) (h2 : (¬ x1 < (-1)) → ((g_mi M (a0 + 1) 5) ≤ x1) → Q (some (.int ((-1)))) M) (b3 : (¬ x1 < (-1)) → (¬ (g_mi M (a0 + 1) 5) ≤ x1) → (¬ (fX3_hasVertex M ((a0 + 1) + 1) x2) = 0) → EX8_lawNumbered M a0 x1) (b4 : (¬ x1 < (-1)) → (¬ (g_mi M (a0 + 1) 5) ≤ x1) → (¬ (fX3_hasVertex M ((a0 + 1) + 1) x2) = 0) → EX3_degreeOf N M ((a0 + 1) + 1) x2) (b5 : (¬ x1 < (-1)) → (¬ (g_mi M (a0 + 1) 5) ≤ x1) → (¬ (fX3_hasVertex M ((a0 + 1) + 1) x2) = 0) → EX4_rankOf N M (a0 + 271) (aLaw M a0 x1) (kl M ((aLaw M a0 x1) + 1)) (kl M ((aLaw M a0 x1) + 5)) ((a0 + 1) + 1) (g_mi M ((a0 + 1) + 1) 5) x2 (fX3_degreeOf N M ((a0 + 1) + 1) x2)) (h6 : (¬ x1 < (-1)) → (¬ (g_mi M (a0 + 1) 5) ≤ x1) → (¬ (fX3_hasVertex M ((a0 + 1) + 1) x2) = 0) → Q (some (.int ((fX4_rankOf N M (a0 + 271) (aLaw M a0 x1) (kl M ((aLaw M a0 x1) + 1)) (kl M ((aLaw M a0 x1) + 5)) ((a0 + 1) + 1) (g_mi M ((a0 + 1) + 1) 5) x2 (fX3_degreeOf N M ((a0 + 1) + 1) x2))))) (mX4_rankOf N M (a0 + 271) (aLaw M a0 x1) (kl M ((aLaw M a0 x1) + 1)) (kl M ((aLaw M a0 x1) + 5)) ((a0 + 1) + 1) (g_mi M ((a0 + 1) + 1) 5) x2 (fX3_degreeOf N M ((a0 + 1) + 1) x2))) (h7 : (¬ x1 < (-1)) → (¬ (g_mi M (a0 + 1) 5) ≤ x1) → ((fX3_hasVertex M ((a0 + 1) + 1) x2) = 0) → Q (some (.int ((-1)))) M) : Cn X (d + 3) mc ms kX8_compare [.ref a0, .int (x1), .int (x2)] M Q := by
  refine g_meth rfl rfl (Nat.le_of_ble_eq_true rfl) rfl ?_
  refine g_aload_n 0 1 dX8_compare_0 rfl rfl ?_
  refine g_getR 4 (a0 + 1) dX8_compare_1 rfl flX8_14 s0.1 s0.2.1 ?_
  refine g_getR 7 ((a0 + 1) + 1) dX8_compare_4 rfl flX8_102 s0.2.2.1.1 s0.2.2.1.2.1 ?_
  refine g_astore_n 8 [(3, .ref ((a0 + 1) + 1)), (0, .ref a0), (1, .int (x1)), (2, .int (x2))] dX8_compare_7 rfl (Nat.le_of_ble_eq_true rfl) rfl ?_
  refine g_iload_n 2 9 dX8_compare_8 rfl rfl ?_
  refine g_iconst ((-1)) 10 dX8_compare_9 rfl rfl ?_
  refine g_icmp_lt 32 13 dX8_compare_10 rfl rfl (fun c1 => ?_) (fun c1 => ?_)
  · skip
    refine g_iconst ((-1)) 33 dX8_compare_32 rfl rfl ?_
    exact g_iret dX8_compare_33 rfl (Nat.zero_le _) (Nat.zero_le _) (h1 c1)
  · skip
    refine g_iload_n 2 14 dX8_compare_13 rfl rfl ?_
    refine g_aload_n 1 15 dX8_compare_14 rfl rfl ?_
    refine g_getR 18 (a0 + 1) dX8_compare_15 rfl flX8_14 s0.1 s0.2.1 ?_
    refine g_getI 21 dX8_compare_18 rfl flX8_175 s0.2.2.1.1 ?_
    refine g_icmp_ge 32 24 dX8_compare_21 rfl rfl (fun c2 => ?_) (fun c2 => ?_)
    · skip
      refine g_iconst ((-1)) 33 dX8_compare_32 rfl rfl ?_
      exact g_iret dX8_compare_33 rfl (Nat.zero_le _) (Nat.zero_le _) (h2 c1 c2)
    · skip
      refine g_aload_n 0 25 dX8_compare_24 rfl rfl ?_
      refine g_iload_n 3 26 dX8_compare_25 rfl rfl ?_
      refine g_callV (mc1 := 0) (ms1 := 0) (b := ((a0 + 1) + 1)) (rest := []) (av := [.int (x2)]) kX3_hasVertex 29 dX8_compare_26 rfl rfl mbX8_126 imX3_hasVertex seX3_hasVertex gcl3.1 s0.2.2.1.2.2.1.1 (Nat.le_of_ble_eq_true rfl) (Nat.zero_le _) (Nat.zero_le _) (tX3_hasVertex s0.2.2.1.2.2.1 ?_)
      show Go X (d + 3) mc ms kX8_compare Q 29 [(3, .ref ((a0 + 1) + 1)), (0, .ref a0), (1, .int (x1)), (2, .int (x2))] [.int ((fX3_hasVertex M ((a0 + 1) + 1) x2))] M 0 0
      refine g_if_ne 34 32 dX8_compare_29 rfl rfl (fun c3 => ?_) (fun c3 => ?_)
      · skip
        refine g_aload_n 1 35 dX8_compare_34 rfl rfl ?_
        refine g_getR 38 (a0 + 271) dX8_compare_35 rfl flX8_45 s0.1 s0.2.2.2.2.2.2.2.2.2.2.2.2.2.1 ?_
        refine g_aload_n 1 39 dX8_compare_38 rfl rfl ?_
        refine g_iload_n 2 40 dX8_compare_39 rfl rfl ?_
        refine g_callV (mc1 := 0) (ms1 := 0) (b := a0) (rest := [.ref (a0 + 271)]) (av := [.int (x1)]) kX8_lawNumbered 43 dX8_compare_40 rfl rfl mbX8_316 imX8_lawNumbered seX8_lawNumbered gcl8.1 s0.1 (Nat.le_of_ble_eq_true rfl) (Nat.zero_le _) (Nat.zero_le _) (tX8_lawNumbered s0 (b3 c1 c2 c3) ?_)
        show Go X (d + 3) mc ms kX8_compare Q 43 [(3, .ref ((a0 + 1) + 1)), (0, .ref a0), (1, .int (x1)), (2, .int (x2))] [.ref (aLaw M a0 x1), .ref (a0 + 271)] M 0 0
        refine g_aload_n 0 44 dX8_compare_43 rfl rfl ?_
        refine g_aload_n 0 45 dX8_compare_44 rfl rfl ?_
        refine g_getI 48 dX8_compare_45 rfl flX8_116 s0.2.2.1.2.2.1.1 ?_
        refine g_iload_n 3 49 dX8_compare_48 rfl rfl ?_
        refine g_aload_n 0 50 dX8_compare_49 rfl rfl ?_
        refine g_iload_n 3 51 dX8_compare_50 rfl rfl ?_
        refine g_callV (mc1 := 0) (ms1 := 0) (b := ((a0 + 1) + 1)) (rest := [.int (x2), .int ((g_mi M ((a0 + 1) + 1) 5)), .ref ((a0 + 1) + 1), .ref (aLaw M a0 x1), .ref (a0 + 271)]) (av := [.int (x2)]) kX3_degreeOf 54 dX8_compare_51 rfl rfl mbX8_129 imX3_degreeOf seX3_degreeOf gcl3.1 s0.2.2.1.2.2.1.1 (Nat.le_of_ble_eq_true rfl) (Nat.zero_le _) (Nat.zero_le _) (tX3_degreeOf (N := N) s0.2.2.1.2.2.1 (b4 c1 c2 c3) ?_)
        show Go X (d + 3) mc ms kX8_compare Q 54 [(3, .ref ((a0 + 1) + 1)), (0, .ref a0), (1, .int (x1)), (2, .int (x2))] [.int ((fX3_degreeOf N M ((a0 + 1) + 1) x2)), .int (x2), .int ((g_mi M ((a0 + 1) + 1) 5)), .ref ((a0 + 1) + 1), .ref (aLaw M a0 x1), .ref (a0 + 271)] M 0 0
        refine g_callV (mc1 := 0) (ms1 := 0) (b := (a0 + 271)) (rest := []) (av := [.ref (aLaw M a0 x1), .ref ((a0 + 1) + 1), .int ((g_mi M ((a0 + 1) + 1) 5)), .int (x2), .int ((fX3_degreeOf N M ((a0 + 1) + 1) x2))]) kX4_rankOf 57 dX8_compare_54 rfl rfl mbX8_133 imX4_rankOf seX4_rankOf gcl4.1 s0.2.2.2.2.2.2.2.2.2.2.2.2.2.2.1.1 (Nat.le_of_ble_eq_true rfl) (Nat.zero_le _) (Nat.zero_le _) (tX4_rankOf (N := N) s0.2.2.2.2.2.2.2.2.2.2.2.2.2.2.1 (b3 c1 c2 c3).2 s0.2.2.1.2.2.1 (b5 c1 c2 c3) ?_)
        show Go X (d + 3) mc ms kX8_compare Q 57 [(3, .ref ((a0 + 1) + 1)), (0, .ref a0), (1, .int (x1)), (2, .int (x2))] [.int ((fX4_rankOf N M (a0 + 271) (aLaw M a0 x1) (kl M ((aLaw M a0 x1) + 1)) (kl M ((aLaw M a0 x1) + 5)) ((a0 + 1) + 1) (g_mi M ((a0 + 1) + 1) 5) x2 (fX3_degreeOf N M ((a0 + 1) + 1) x2)))] (mX4_rankOf N M (a0 + 271) (aLaw M a0 x1) (kl M ((aLaw M a0 x1) + 1)) (kl M ((aLaw M a0 x1) + 5)) ((a0 + 1) + 1) (g_mi M ((a0 + 1) + 1) 5) x2 (fX3_degreeOf N M ((a0 + 1) + 1) x2)) 0 0
        exact g_iret dX8_compare_57 rfl (Nat.zero_le _) (Nat.zero_le _) (h6 c1 c2 c3)
      · skip
        refine g_iconst ((-1)) 33 dX8_compare_32 rfl rfl ?_
        exact g_iret dX8_compare_33 rfl (Nat.zero_le _) (Nat.zero_le _) (h7 c1 c2 c3)

def fX8_compare (N : Nat) (M : gM) (a0 : Nat) (x1 : Int32) (x2 : Int32) : Int32 := (if x1 < (-1) then (-1) else (if (g_mi M (a0 + 1) 5) ≤ x1 then (-1) else (if (fX3_hasVertex M ((a0 + 1) + 1) x2) = 0 then (-1) else (fX4_rankOf N M (a0 + 271) (aLaw M a0 x1) (kl M ((aLaw M a0 x1) + 1)) (kl M ((aLaw M a0 x1) + 5)) ((a0 + 1) + 1) (g_mi M ((a0 + 1) + 1) 5) x2 (fX3_degreeOf N M ((a0 + 1) + 1) x2)))))
def mX8_compare (N : Nat) (M : gM) (a0 : Nat) (x1 : Int32) (x2 : Int32) : gM := g_wm M (if x1 < (-1) then (g_mi M) else (if (g_mi M (a0 + 1) 5) ≤ x1 then (g_mi M) else (if (fX3_hasVertex M ((a0 + 1) + 1) x2) = 0 then (g_mi M) else (g_mi (mX4_rankOf N M (a0 + 271) (aLaw M a0 x1) (kl M ((aLaw M a0 x1) + 1)) (kl M ((aLaw M a0 x1) + 5)) ((a0 + 1) + 1) (g_mi M ((a0 + 1) + 1) 5) x2 (fX3_degreeOf N M ((a0 + 1) + 1) x2)))))) (g_ml M)
def EX8_compare (N : Nat) (M : gM) (a0 : Nat) (x1 : Int32) (x2 : Int32) : Prop := ((¬ x1 < (-1)) → (¬ (g_mi M (a0 + 1) 5) ≤ x1) → (¬ (fX3_hasVertex M ((a0 + 1) + 1) x2) = 0) → EX8_lawNumbered M a0 x1) ∧ ((¬ x1 < (-1)) → (¬ (g_mi M (a0 + 1) 5) ≤ x1) → (¬ (fX3_hasVertex M ((a0 + 1) + 1) x2) = 0) → EX3_degreeOf N M ((a0 + 1) + 1) x2) ∧ ((¬ x1 < (-1)) → (¬ (g_mi M (a0 + 1) 5) ≤ x1) → (¬ (fX3_hasVertex M ((a0 + 1) + 1) x2) = 0) → EX4_rankOf N M (a0 + 271) (aLaw M a0 x1) (kl M ((aLaw M a0 x1) + 1)) (kl M ((aLaw M a0 x1) + 5)) ((a0 + 1) + 1) (g_mi M ((a0 + 1) + 1) 5) x2 (fX3_degreeOf N M ((a0 + 1) + 1) x2))
theorem jX8_compare {N : Nat} {M : gM} {a0 : Nat} {x1 : Int32} {x2 : Int32} : Sm M (mX8_compare N M a0 x1 x2) := Sm.wm
theorem tX8_compare {N : Nat} {X : gX} {d mc ms : Nat} {Q : Option Value → gM → Prop} {M : gM} {a0 : Nat} {x1 : Int32} {x2 : Int32} (s0 : Ph M a0) (hE : EX8_compare N M a0 x1 x2) (hQ : Q (some (.int (fX8_compare N M a0 x1 x2))) (mX8_compare N M a0 x1 x2)) : Cn X (d + 3) mc ms kX8_compare [.ref a0, .int (x1), .int (x2)] M Q := by
  unfold fX8_compare mX8_compare at hQ
  obtain ⟨b3, b4, b5⟩ := hE
  exact sX8_compare_0 s0 (fun c1 => by simp only [if_pos c1] at hQ; exact Sm.q Sm.rf hQ) (fun c1 c2 => by simp only [if_neg c1, if_pos c2] at hQ; exact Sm.q Sm.rf hQ) b3 b4 b5 (fun c1 c2 c3 => by simp only [if_neg c1, if_neg c2, if_neg c3] at hQ; exact Sm.q (Sm.tr Sm.rf jX4_rankOf) hQ) (fun c1 c2 c3 => by simp only [if_neg c1, if_neg c2, if_pos c3] at hQ; exact Sm.q Sm.rf hQ)
/-! X8_addTo  -/
set_option maxRecDepth 4000 in
theorem sX8_addTo_0 {N : Nat} {X : gX} {d mc ms : Nat} {Q : Option Value → gM → Prop} {M : gM} {a0 : Nat} {a1 : Nat} {x2 : Int32} (s0 : Ph M a0) (s1 : St M a1) (b1 : (¬ (fX8_isKey x2) = 0) → EX3_has N M a1 x2) (h2 : (¬ (fX8_isKey x2) = 0) → (¬ (fX3_has N M a1 x2) = 0) → Q (some (.int ((-3)))) M) (b3 : (¬ (fX8_isKey x2) = 0) → ((fX3_has N M a1 x2) = 0) → EX8_lawNumbered M a0 (g_mi M (a0 + 1) 6)) (b4 : (¬ (fX8_isKey x2) = 0) → ((fX3_has N M a1 x2) = 0) → EX4_isBarred N M (a0 + 271) (aLaw M a0 (g_mi M (a0 + 1) 6)) (kl M ((aLaw M a0 (g_mi M (a0 + 1) 6)) + 1)) (kl M ((aLaw M a0 (g_mi M (a0 + 1) 6)) + 5)) a1 x2) (b5 : (¬ (fX8_isKey x2) = 0) → ((fX3_has N M a1 x2) = 0) → ((fX4_isBarred N M (a0 + 271) (aLaw M a0 (g_mi M (a0 + 1) 6)) (kl M ((aLaw M a0 (g_mi M (a0 + 1) 6)) + 1)) (kl M ((aLaw M a0 (g_mi M (a0 + 1) 6)) + 5)) a1 x2) = 0) → ((g_mi (mX4_isBarred N M (a0 + 271) (aLaw M a0 (g_mi M (a0 + 1) 6)) (kl M ((aLaw M a0 (g_mi M (a0 + 1) 6)) + 1)) (kl M ((aLaw M a0 (g_mi M (a0 + 1) 6)) + 5)) a1 x2) a1 3) < 30) → EX3_insert N (mX4_isBarred N M (a0 + 271) (aLaw M a0 (g_mi M (a0 + 1) 6)) (kl M ((aLaw M a0 (g_mi M (a0 + 1) 6)) + 1)) (kl M ((aLaw M a0 (g_mi M (a0 + 1) 6)) + 5)) a1 x2) a1 x2) (h6 : (¬ (fX8_isKey x2) = 0) → ((fX3_has N M a1 x2) = 0) → ((fX4_isBarred N M (a0 + 271) (aLaw M a0 (g_mi M (a0 + 1) 6)) (kl M ((aLaw M a0 (g_mi M (a0 + 1) 6)) + 1)) (kl M ((aLaw M a0 (g_mi M (a0 + 1) 6)) + 5)) a1 x2) = 0) → ((g_mi (mX4_isBarred N M (a0 + 271) (aLaw M a0 (g_mi M (a0 + 1) 6)) (kl M ((aLaw M a0 (g_mi M (a0 + 1) 6)) + 1)) (kl M ((aLaw M a0 (g_mi M (a0 + 1) 6)) + 5)) a1 x2) a1 3) < 30) → Q (some (.int ((g_mi (mX3_insert N (mX4_isBarred N M (a0 + 271) (aLaw M a0 (g_mi M (a0 + 1) 6)) (kl M ((aLaw M a0 (g_mi M (a0 + 1) 6)) + 1)) (kl M ((aLaw M a0 (g_mi M (a0 + 1) 6)) + 5)) a1 x2) a1 x2) a1 3)))) (mX3_insert N (mX4_isBarred N M (a0 + 271) (aLaw M a0 (g_mi M (a0 + 1) 6)) (kl M ((aLaw M a0 (g_mi M (a0 + 1) 6)) + 1)) (kl M ((aLaw M a0 (g_mi M (a0 + 1) 6)) + 5)) a1 x2) a1 x2)) (h7 : (¬ (fX8_isKey x2) = 0) → ((fX3_has N M a1 x2) = 0) → ((fX4_isBarred N M (a0 + 271) (aLaw M a0 (g_mi M (a0 + 1) 6)) (kl M ((aLaw M a0 (g_mi M (a0 + 1) 6)) + 1)) (kl M ((aLaw M a0 (g_mi M (a0 + 1) 6)) + 5)) a1 x2) = 0) → (¬ (g_mi (mX4_isBarred N M (a0 + 271) (aLaw M a0 (g_mi M (a0 + 1) 6)) (kl M ((aLaw M a0 (g_mi M (a0 + 1) 6)) + 1)) (kl M ((aLaw M a0 (g_mi M (a0 + 1) 6)) + 5)) a1 x2) a1 3) < 30) → Q (some (.int ((-5)))) (mX4_isBarred N M (a0 + 271) (aLaw M a0 (g_mi M (a0 + 1) 6)) (kl M ((aLaw M a0 (g_mi M (a0 + 1) 6)) + 1)) (kl M ((aLaw M a0 (g_mi M (a0 + 1) 6)) + 5)) a1 x2)) (h8 : (¬ (fX8_isKey x2) = 0) → ((fX3_has N M a1 x2) = 0) → (¬ (fX4_isBarred N M (a0 + 271) (aLaw M a0 (g_mi M (a0 + 1) 6)) (kl M ((aLaw M a0 (g_mi M (a0 + 1) 6)) + 1)) (kl M ((aLaw M a0 (g_mi M (a0 + 1) 6)) + 5)) a1 x2) = 0) → Q (some (.int ((-3)))) (mX4_isBarred N M (a0 + 271) (aLaw M a0 (g_mi M (a0 + 1) 6)) (kl M ((aLaw M a0 (g_mi M (a0 + 1) 6)) + 1)) (kl M ((aLaw M a0 (g_mi M (a0 + 1) 6)) + 5)) a1 x2)) (h9 : ((fX8_isKey x2) = 0) → Q (some (.int ((-1)))) M) : Cn X (d + 3) mc ms kX8_addTo [.ref a0, .ref a1, .int (x2)] M Q := by
  refine g_meth rfl rfl (Nat.le_of_ble_eq_true rfl) rfl ?_
  refine g_iload_n 2 1 dX8_addTo_0 rfl rfl ?_
  refine g_callS (mc1 := 0) (ms1 := 0) (rest := []) (av := [.int (x2)]) kX8_isKey 4 dX8_addTo_1 rfl rfl mbX8_98 smX8_isKey (Nat.le_of_ble_eq_true rfl) (Nat.zero_le _) (Nat.zero_le _) (tX8_isKey  ?_)
  show Go X (d + 3) mc ms kX8_addTo Q 4 [(0, .ref a0), (1, .ref a1), (2, .int (x2))] [.int ((fX8_isKey x2))] M 0 0
  refine g_if_ne 9 7 dX8_addTo_4 rfl rfl (fun c1 => ?_) (fun c1 => ?_)
  · skip
    refine g_aload_n 1 10 dX8_addTo_9 rfl rfl ?_
    refine g_iload_n 2 11 dX8_addTo_10 rfl rfl ?_
    refine g_callV (mc1 := 0) (ms1 := 0) (b := a1) (rest := []) (av := [.int (x2)]) kX3_has 14 dX8_addTo_11 rfl rfl mbX8_105 imX3_has seX3_has gcl3.1 s1.1 (Nat.le_of_ble_eq_true rfl) (Nat.zero_le _) (Nat.zero_le _) (tX3_has (N := N) s1 (b1 c1) ?_)
    show Go X (d + 3) mc ms kX8_addTo Q 14 [(0, .ref a0), (1, .ref a1), (2, .int (x2))] [.int ((fX3_has N M a1 x2))] M 0 0
    refine g_if_ne 33 17 dX8_addTo_14 rfl rfl (fun c2 => ?_) (fun c2 => ?_)
    · skip
      refine g_bipush ((-3)) 35 dX8_addTo_33 rfl rfl ?_
      exact g_iret dX8_addTo_35 rfl (Nat.zero_le _) (Nat.zero_le _) (h2 c1 c2)
    · skip
      refine g_aload_n 0 18 dX8_addTo_17 rfl rfl ?_
      refine g_getR 21 (a0 + 271) dX8_addTo_18 rfl flX8_45 s0.1 s0.2.2.2.2.2.2.2.2.2.2.2.2.2.1 ?_
      refine g_aload_n 0 22 dX8_addTo_21 rfl rfl ?_
      refine g_callV (mc1 := 0) (ms1 := 0) (b := a0) (rest := [.ref (a0 + 271)]) (av := []) kX8_lawInForce 25 dX8_addTo_22 rfl rfl mbX8_108 imX8_lawInForce seX8_lawInForce gcl8.1 s0.1 (Nat.le_of_ble_eq_true rfl) (Nat.zero_le _) (Nat.zero_le _) (sX8_lawInForce_0 s0 (b3 c1 c2) ?_)
      show Go X (d + 3) mc ms kX8_addTo Q 25 [(0, .ref a0), (1, .ref a1), (2, .int (x2))] [.ref (aLaw M a0 (g_mi M (a0 + 1) 6)), .ref (a0 + 271)] M 0 0
      refine g_aload_n 1 26 dX8_addTo_25 rfl rfl ?_
      refine g_iload_n 2 27 dX8_addTo_26 rfl rfl ?_
      refine g_callV (mc1 := 0) (ms1 := 0) (b := (a0 + 271)) (rest := []) (av := [.ref (aLaw M a0 (g_mi M (a0 + 1) 6)), .ref a1, .int (x2)]) kX4_isBarred 30 dX8_addTo_27 rfl rfl mbX8_112 imX4_isBarred seX4_isBarred gcl4.1 s0.2.2.2.2.2.2.2.2.2.2.2.2.2.2.1.1 (Nat.le_of_ble_eq_true rfl) (Nat.zero_le _) (Nat.zero_le _) (tX4_isBarred (N := N) s0.2.2.2.2.2.2.2.2.2.2.2.2.2.2.1 (b3 c1 c2).2 s1 (b4 c1 c2) ?_)
      show Go X (d + 3) mc ms kX8_addTo Q 30 [(0, .ref a0), (1, .ref a1), (2, .int (x2))] [.int ((fX4_isBarred N M (a0 + 271) (aLaw M a0 (g_mi M (a0 + 1) 6)) (kl M ((aLaw M a0 (g_mi M (a0 + 1) 6)) + 1)) (kl M ((aLaw M a0 (g_mi M (a0 + 1) 6)) + 5)) a1 x2))] (mX4_isBarred N M (a0 + 271) (aLaw M a0 (g_mi M (a0 + 1) 6)) (kl M ((aLaw M a0 (g_mi M (a0 + 1) 6)) + 1)) (kl M ((aLaw M a0 (g_mi M (a0 + 1) 6)) + 5)) a1 x2) 0 0
      refine g_if_eq 36 33 dX8_addTo_30 rfl rfl (fun c3 => ?_) (fun c3 => ?_)
      · skip
        refine g_aload_n 1 37 dX8_addTo_36 rfl rfl ?_
        refine g_getI 40 dX8_addTo_37 rfl flX8_137 (Sm.k (Sm.tr Sm.rf jX4_isBarred) s1.1) ?_
        refine g_bipush (30) 42 dX8_addTo_40 rfl rfl ?_
        refine g_icmp_lt 48 45 dX8_addTo_42 rfl rfl (fun c4 => ?_) (fun c4 => ?_)
        · skip
          refine g_aload_n 1 49 dX8_addTo_48 rfl rfl ?_
          refine g_iload_n 2 50 dX8_addTo_49 rfl rfl ?_
          refine g_callV (mc1 := 0) (ms1 := 0) (b := a1) (rest := []) (av := [.int (x2)]) kX3_insert 53 dX8_addTo_50 rfl rfl mbX8_359 imX3_insert seX3_insert gcl3.1 (Sm.k (Sm.tr Sm.rf jX4_isBarred) s1.1) (Nat.le_of_ble_eq_true rfl) (Nat.zero_le _) (Nat.zero_le _) (tX3_insert (N := N) (St.sm (Sm.tr Sm.rf jX4_isBarred) s1) (b5 c1 c2 c3 c4) ?_)
          show Go X (d + 3) mc ms kX8_addTo Q 53 [(0, .ref a0), (1, .ref a1), (2, .int (x2))] [] (mX3_insert N (mX4_isBarred N M (a0 + 271) (aLaw M a0 (g_mi M (a0 + 1) 6)) (kl M ((aLaw M a0 (g_mi M (a0 + 1) 6)) + 1)) (kl M ((aLaw M a0 (g_mi M (a0 + 1) 6)) + 5)) a1 x2) a1 x2) 0 0
          refine g_aload_n 1 54 dX8_addTo_53 rfl rfl ?_
          refine g_getI 57 dX8_addTo_54 rfl flX8_137 (Sm.k (Sm.tr (Sm.tr Sm.rf jX4_isBarred) jX3_insert) s1.1) ?_
          exact g_iret dX8_addTo_57 rfl (Nat.zero_le _) (Nat.zero_le _) (h6 c1 c2 c3 c4)
        · skip
          refine g_bipush ((-5)) 47 dX8_addTo_45 rfl rfl ?_
          exact g_iret dX8_addTo_47 rfl (Nat.zero_le _) (Nat.zero_le _) (h7 c1 c2 c3 c4)
      · skip
        refine g_bipush ((-3)) 35 dX8_addTo_33 rfl rfl ?_
        exact g_iret dX8_addTo_35 rfl (Nat.zero_le _) (Nat.zero_le _) (h8 c1 c2 c3)
  · skip
    refine g_iconst ((-1)) 8 dX8_addTo_7 rfl rfl ?_
    exact g_iret dX8_addTo_8 rfl (Nat.zero_le _) (Nat.zero_le _) (h9 c1)

def fX8_addTo (N : Nat) (M : gM) (a0 : Nat) (a1 : Nat) (x2 : Int32) : Int32 := (if (fX8_isKey x2) = 0 then (-1) else (if (fX3_has N M a1 x2) = 0 then (if (fX4_isBarred N M (a0 + 271) (aLaw M a0 (g_mi M (a0 + 1) 6)) (kl M ((aLaw M a0 (g_mi M (a0 + 1) 6)) + 1)) (kl M ((aLaw M a0 (g_mi M (a0 + 1) 6)) + 5)) a1 x2) = 0 then (if (g_mi (mX4_isBarred N M (a0 + 271) (aLaw M a0 (g_mi M (a0 + 1) 6)) (kl M ((aLaw M a0 (g_mi M (a0 + 1) 6)) + 1)) (kl M ((aLaw M a0 (g_mi M (a0 + 1) 6)) + 5)) a1 x2) a1 3) < 30 then (g_mi (mX3_insert N (mX4_isBarred N M (a0 + 271) (aLaw M a0 (g_mi M (a0 + 1) 6)) (kl M ((aLaw M a0 (g_mi M (a0 + 1) 6)) + 1)) (kl M ((aLaw M a0 (g_mi M (a0 + 1) 6)) + 5)) a1 x2) a1 x2) a1 3) else (-5)) else (-3)) else (-3)))
def mX8_addTo (N : Nat) (M : gM) (a0 : Nat) (a1 : Nat) (x2 : Int32) : gM := g_wm M (if (fX8_isKey x2) = 0 then (g_mi M) else (if (fX3_has N M a1 x2) = 0 then (if (fX4_isBarred N M (a0 + 271) (aLaw M a0 (g_mi M (a0 + 1) 6)) (kl M ((aLaw M a0 (g_mi M (a0 + 1) 6)) + 1)) (kl M ((aLaw M a0 (g_mi M (a0 + 1) 6)) + 5)) a1 x2) = 0 then (if (g_mi (mX4_isBarred N M (a0 + 271) (aLaw M a0 (g_mi M (a0 + 1) 6)) (kl M ((aLaw M a0 (g_mi M (a0 + 1) 6)) + 1)) (kl M ((aLaw M a0 (g_mi M (a0 + 1) 6)) + 5)) a1 x2) a1 3) < 30 then (g_mi (mX3_insert N (mX4_isBarred N M (a0 + 271) (aLaw M a0 (g_mi M (a0 + 1) 6)) (kl M ((aLaw M a0 (g_mi M (a0 + 1) 6)) + 1)) (kl M ((aLaw M a0 (g_mi M (a0 + 1) 6)) + 5)) a1 x2) a1 x2)) else (g_mi (mX4_isBarred N M (a0 + 271) (aLaw M a0 (g_mi M (a0 + 1) 6)) (kl M ((aLaw M a0 (g_mi M (a0 + 1) 6)) + 1)) (kl M ((aLaw M a0 (g_mi M (a0 + 1) 6)) + 5)) a1 x2))) else (g_mi (mX4_isBarred N M (a0 + 271) (aLaw M a0 (g_mi M (a0 + 1) 6)) (kl M ((aLaw M a0 (g_mi M (a0 + 1) 6)) + 1)) (kl M ((aLaw M a0 (g_mi M (a0 + 1) 6)) + 5)) a1 x2))) else (g_mi M))) (g_ml M)
def EX8_addTo (N : Nat) (M : gM) (a0 : Nat) (a1 : Nat) (x2 : Int32) : Prop := ((¬ (fX8_isKey x2) = 0) → EX3_has N M a1 x2) ∧ ((¬ (fX8_isKey x2) = 0) → ((fX3_has N M a1 x2) = 0) → EX8_lawNumbered M a0 (g_mi M (a0 + 1) 6)) ∧ ((¬ (fX8_isKey x2) = 0) → ((fX3_has N M a1 x2) = 0) → EX4_isBarred N M (a0 + 271) (aLaw M a0 (g_mi M (a0 + 1) 6)) (kl M ((aLaw M a0 (g_mi M (a0 + 1) 6)) + 1)) (kl M ((aLaw M a0 (g_mi M (a0 + 1) 6)) + 5)) a1 x2) ∧ ((¬ (fX8_isKey x2) = 0) → ((fX3_has N M a1 x2) = 0) → ((fX4_isBarred N M (a0 + 271) (aLaw M a0 (g_mi M (a0 + 1) 6)) (kl M ((aLaw M a0 (g_mi M (a0 + 1) 6)) + 1)) (kl M ((aLaw M a0 (g_mi M (a0 + 1) 6)) + 5)) a1 x2) = 0) → ((g_mi (mX4_isBarred N M (a0 + 271) (aLaw M a0 (g_mi M (a0 + 1) 6)) (kl M ((aLaw M a0 (g_mi M (a0 + 1) 6)) + 1)) (kl M ((aLaw M a0 (g_mi M (a0 + 1) 6)) + 5)) a1 x2) a1 3) < 30) → EX3_insert N (mX4_isBarred N M (a0 + 271) (aLaw M a0 (g_mi M (a0 + 1) 6)) (kl M ((aLaw M a0 (g_mi M (a0 + 1) 6)) + 1)) (kl M ((aLaw M a0 (g_mi M (a0 + 1) 6)) + 5)) a1 x2) a1 x2)
theorem jX8_addTo {N : Nat} {M : gM} {a0 : Nat} {a1 : Nat} {x2 : Int32} : Sm M (mX8_addTo N M a0 a1 x2) := Sm.wm
theorem tX8_addTo {N : Nat} {X : gX} {d mc ms : Nat} {Q : Option Value → gM → Prop} {M : gM} {a0 : Nat} {a1 : Nat} {x2 : Int32} (s0 : Ph M a0) (s1 : St M a1) (hE : EX8_addTo N M a0 a1 x2) (hQ : Q (some (.int (fX8_addTo N M a0 a1 x2))) (mX8_addTo N M a0 a1 x2)) : Cn X (d + 3) mc ms kX8_addTo [.ref a0, .ref a1, .int (x2)] M Q := by
  unfold fX8_addTo mX8_addTo at hQ
  obtain ⟨b1, b3, b4, b5⟩ := hE
  exact sX8_addTo_0 s0 s1 b1 (fun c1 c2 => by simp only [if_neg c1, if_neg c2] at hQ; exact Sm.q Sm.rf hQ) b3 b4 b5 (fun c1 c2 c3 c4 => by simp only [if_neg c1, if_pos c2, if_pos c3, if_pos c4] at hQ; exact Sm.q (Sm.tr (Sm.tr Sm.rf jX4_isBarred) jX3_insert) hQ) (fun c1 c2 c3 c4 => by simp only [if_neg c1, if_pos c2, if_pos c3, if_neg c4] at hQ; exact Sm.q (Sm.tr Sm.rf jX4_isBarred) hQ) (fun c1 c2 c3 => by simp only [if_neg c1, if_pos c2, if_neg c3] at hQ; exact Sm.q (Sm.tr Sm.rf jX4_isBarred) hQ) (fun c1 => by simp only [if_pos c1] at hQ; exact Sm.q Sm.rf hQ)
/-! X8_buildOn  -/
set_option maxRecDepth 4000 in
theorem sX8_buildOn_0 {X : gX} {d mc ms : Nat} {Q : Option Value → gM → Prop} {M : gM} {a0 : Nat} {a1 : Nat} (s0 : Ph M a0) (s1 : St M a1) (h1 : Go X (d + 4) mc ms kX8_buildOn Q 2 [(0, .ref a0), (1, .ref a1), (2, .int (0))] [] M 0 0) : Cn X (d + 4) mc ms kX8_buildOn [.ref a0, .ref a1] M Q := by
  refine g_meth rfl rfl (Nat.le_of_ble_eq_true rfl) rfl ?_
  refine g_iconst (0) 1 dX8_buildOn_0 rfl rfl ?_
  refine g_istore_n 2 [(2, .int (0)), (0, .ref a0), (1, .ref a1)] dX8_buildOn_1 rfl (Nat.le_of_ble_eq_true rfl) rfl ?_
  exact g_sub [1, 2, 0] _ rfl (h1)

set_option maxRecDepth 4000 in
theorem sX8_buildOn_2 {N : Nat} {X : gX} {d mc ms : Nat} {Q : Option Value → gM → Prop} {M : gM} {c z : Nat} {a0 : Nat} {a1 : Nat} {x2 : Int32} (s0 : Ph M a0) (s1 : St M a1) (h1 : (256 ≤ x2) → Q (some (.int ((-3)))) M) (w2 : c ≤ mc) (w3 : z ≤ ms) (b4 : (¬ 256 ≤ x2) → EX1_leavesNone N M (a0 + 274) a1 (i_rm ((g_mi M a1 5) + x2) 256) (g_mi M a1 4)) (b5 : (¬ 256 ≤ x2) → (¬ (fX1_leavesNone N M (a0 + 274) a1 (i_rm ((g_mi M a1 5) + x2) 256) (g_mi M a1 4)) = 0) → EX8_lawNumbered (mX1_leavesNone N M (a0 + 274) a1 (i_rm ((g_mi M a1 5) + x2) 256) (g_mi M a1 4)) a0 (g_mi (mX1_leavesNone N M (a0 + 274) a1 (i_rm ((g_mi M a1 5) + x2) 256) (g_mi M a1 4)) (a0 + 1) 6)) (b6 : (¬ 256 ≤ x2) → (¬ (fX1_leavesNone N M (a0 + 274) a1 (i_rm ((g_mi M a1 5) + x2) 256) (g_mi M a1 4)) = 0) → EX1_peel N (mX1_leavesNone N M (a0 + 274) a1 (i_rm ((g_mi M a1 5) + x2) 256) (g_mi M a1 4)) (a0 + 274) a1 (i_rm ((g_mi M a1 5) + x2) 256) (aLaw (mX1_leavesNone N M (a0 + 274) a1 (i_rm ((g_mi M a1 5) + x2) 256) (g_mi M a1 4)) a0 (g_mi (mX1_leavesNone N M (a0 + 274) a1 (i_rm ((g_mi M a1 5) + x2) 256) (g_mi M a1 4)) (a0 + 1) 6)) (kl (mX1_leavesNone N M (a0 + 274) a1 (i_rm ((g_mi M a1 5) + x2) 256) (g_mi M a1 4)) ((aLaw (mX1_leavesNone N M (a0 + 274) a1 (i_rm ((g_mi M a1 5) + x2) 256) (g_mi M a1 4)) a0 (g_mi (mX1_leavesNone N M (a0 + 274) a1 (i_rm ((g_mi M a1 5) + x2) 256) (g_mi M a1 4)) (a0 + 1) 6)) + 1)) (kl (mX1_leavesNone N M (a0 + 274) a1 (i_rm ((g_mi M a1 5) + x2) 256) (g_mi M a1 4)) ((aLaw (mX1_leavesNone N M (a0 + 274) a1 (i_rm ((g_mi M a1 5) + x2) 256) (g_mi M a1 4)) a0 (g_mi (mX1_leavesNone N M (a0 + 274) a1 (i_rm ((g_mi M a1 5) + x2) 256) (g_mi M a1 4)) (a0 + 1) 6)) + 5))) (b7 : (¬ 256 ≤ x2) → (¬ (fX1_leavesNone N M (a0 + 274) a1 (i_rm ((g_mi M a1 5) + x2) 256) (g_mi M a1 4)) = 0) → EX5_solve N (g_wi (mX1_peel N (mX1_leavesNone N M (a0 + 274) a1 (i_rm ((g_mi M a1 5) + x2) 256) (g_mi M a1 4)) (a0 + 274) a1 (i_rm ((g_mi M a1 5) + x2) 256) (aLaw (mX1_leavesNone N M (a0 + 274) a1 (i_rm ((g_mi M a1 5) + x2) 256) (g_mi M a1 4)) a0 (g_mi (mX1_leavesNone N M (a0 + 274) a1 (i_rm ((g_mi M a1 5) + x2) 256) (g_mi M a1 4)) (a0 + 1) 6)) (kl (mX1_leavesNone N M (a0 + 274) a1 (i_rm ((g_mi M a1 5) + x2) 256) (g_mi M a1 4)) ((aLaw (mX1_leavesNone N M (a0 + 274) a1 (i_rm ((g_mi M a1 5) + x2) 256) (g_mi M a1 4)) a0 (g_mi (mX1_leavesNone N M (a0 + 274) a1 (i_rm ((g_mi M a1 5) + x2) 256) (g_mi M a1 4)) (a0 + 1) 6)) + 1)) (kl (mX1_leavesNone N M (a0 + 274) a1 (i_rm ((g_mi M a1 5) + x2) 256) (g_mi M a1 4)) ((aLaw (mX1_leavesNone N M (a0 + 274) a1 (i_rm ((g_mi M a1 5) + x2) 256) (g_mi M a1 4)) a0 (g_mi (mX1_leavesNone N M (a0 + 274) a1 (i_rm ((g_mi M a1 5) + x2) 256) (g_mi M a1 4)) (a0 + 1) 6)) + 5))) a1 5 (i_rm ((g_mi M a1 5) + x2) 256)) (a1 + 3) a1 (a0 + 274)) (h8 : (¬ 256 ≤ x2) → (¬ (fX1_leavesNone N M (a0 + 274) a1 (i_rm ((g_mi M a1 5) + x2) 256) (g_mi M a1 4)) = 0) → Q (some (.int (x2))) (g_wi (mX5_solve N (g_wi (mX1_peel N (mX1_leavesNone N M (a0 + 274) a1 (i_rm ((g_mi M a1 5) + x2) 256) (g_mi M a1 4)) (a0 + 274) a1 (i_rm ((g_mi M a1 5) + x2) 256) (aLaw (mX1_leavesNone N M (a0 + 274) a1 (i_rm ((g_mi M a1 5) + x2) 256) (g_mi M a1 4)) a0 (g_mi (mX1_leavesNone N M (a0 + 274) a1 (i_rm ((g_mi M a1 5) + x2) 256) (g_mi M a1 4)) (a0 + 1) 6)) (kl (mX1_leavesNone N M (a0 + 274) a1 (i_rm ((g_mi M a1 5) + x2) 256) (g_mi M a1 4)) ((aLaw (mX1_leavesNone N M (a0 + 274) a1 (i_rm ((g_mi M a1 5) + x2) 256) (g_mi M a1 4)) a0 (g_mi (mX1_leavesNone N M (a0 + 274) a1 (i_rm ((g_mi M a1 5) + x2) 256) (g_mi M a1 4)) (a0 + 1) 6)) + 1)) (kl (mX1_leavesNone N M (a0 + 274) a1 (i_rm ((g_mi M a1 5) + x2) 256) (g_mi M a1 4)) ((aLaw (mX1_leavesNone N M (a0 + 274) a1 (i_rm ((g_mi M a1 5) + x2) 256) (g_mi M a1 4)) a0 (g_mi (mX1_leavesNone N M (a0 + 274) a1 (i_rm ((g_mi M a1 5) + x2) 256) (g_mi M a1 4)) (a0 + 1) 6)) + 5))) a1 5 (i_rm ((g_mi M a1 5) + x2) 256)) (a1 + 3) a1 (a0 + 274)) (a1 + 2) 0 (i_min ((g_mi (mX5_solve N (g_wi (mX1_peel N (mX1_leavesNone N M (a0 + 274) a1 (i_rm ((g_mi M a1 5) + x2) 256) (g_mi M a1 4)) (a0 + 274) a1 (i_rm ((g_mi M a1 5) + x2) 256) (aLaw (mX1_leavesNone N M (a0 + 274) a1 (i_rm ((g_mi M a1 5) + x2) 256) (g_mi M a1 4)) a0 (g_mi (mX1_leavesNone N M (a0 + 274) a1 (i_rm ((g_mi M a1 5) + x2) 256) (g_mi M a1 4)) (a0 + 1) 6)) (kl (mX1_leavesNone N M (a0 + 274) a1 (i_rm ((g_mi M a1 5) + x2) 256) (g_mi M a1 4)) ((aLaw (mX1_leavesNone N M (a0 + 274) a1 (i_rm ((g_mi M a1 5) + x2) 256) (g_mi M a1 4)) a0 (g_mi (mX1_leavesNone N M (a0 + 274) a1 (i_rm ((g_mi M a1 5) + x2) 256) (g_mi M a1 4)) (a0 + 1) 6)) + 1)) (kl (mX1_leavesNone N M (a0 + 274) a1 (i_rm ((g_mi M a1 5) + x2) 256) (g_mi M a1 4)) ((aLaw (mX1_leavesNone N M (a0 + 274) a1 (i_rm ((g_mi M a1 5) + x2) 256) (g_mi M a1 4)) a0 (g_mi (mX1_leavesNone N M (a0 + 274) a1 (i_rm ((g_mi M a1 5) + x2) 256) (g_mi M a1 4)) (a0 + 1) 6)) + 5))) a1 5 (i_rm ((g_mi M a1 5) + x2) 256)) (a1 + 3) a1 (a0 + 274)) (a1 + 2) 0) + 1) 999))) (h9 : (¬ 256 ≤ x2) → ((fX1_leavesNone N M (a0 + 274) a1 (i_rm ((g_mi M a1 5) + x2) 256) (g_mi M a1 4)) = 0) → Go X (d + 4) mc ms kX8_buildOn Q 2 [(0, .ref a0), (1, .ref a1), (2, .int ((x2 + 1)))] [] (mX1_leavesNone N M (a0 + 274) a1 (i_rm ((g_mi M a1 5) + x2) 256) (g_mi M a1 4)) c z) : Go X (d + 4) mc ms kX8_buildOn Q 2 [(0, .ref a0), (1, .ref a1), (2, .int (x2))] [] M c z := by
  refine g_iload_n 2 3 dX8_buildOn_2 rfl rfl ?_
  refine g_sipush (256) 6 dX8_buildOn_3 rfl rfl ?_
  refine g_icmp_ge 97 9 dX8_buildOn_6 rfl rfl (fun c1 => ?_) (fun c1 => ?_)
  · skip
    refine g_bipush ((-3)) 99 dX8_buildOn_97 rfl rfl ?_
    exact g_iret dX8_buildOn_99 rfl (w2) (w3) (h1 c1)
  · skip
    refine g_aload_n 1 10 dX8_buildOn_9 rfl rfl ?_
    refine g_getI 13 dX8_buildOn_10 rfl flX8_116 s1.1 ?_
    refine g_iload_n 2 14 dX8_buildOn_13 rfl rfl ?_
    refine g_iadd 15 dX8_buildOn_14 rfl ?_
    refine g_sipush (256) 18 dX8_buildOn_15 rfl rfl ?_
    refine h_irem 19 dX8_buildOn_18 rfl (by decide) ?_
    refine g_istore_n 20 [(3, .int ((i_rm ((g_mi M a1 5) + x2) 256))), (0, .ref a0), (1, .ref a1), (2, .int (x2))] dX8_buildOn_19 rfl (Nat.le_of_ble_eq_true rfl) rfl ?_
    refine g_aload_n 1 21 dX8_buildOn_20 rfl rfl ?_
    refine g_getR 24 (a0 + 274) dX8_buildOn_21 rfl flX8_54 s0.1 s0.2.2.2.2.2.2.2.2.2.2.2.2.2.2.2.1 ?_
    refine g_aload_n 2 25 dX8_buildOn_24 rfl rfl ?_
    refine g_iload_n 0 26 dX8_buildOn_25 rfl rfl ?_
    refine g_aload_n 2 27 dX8_buildOn_26 rfl rfl ?_
    refine g_getI 30 dX8_buildOn_27 rfl flX8_119 s1.1 ?_
    refine g_callV (mc1 := 0) (ms1 := 0) (b := (a0 + 274)) (rest := []) (av := [.ref a1, .int ((i_rm ((g_mi M a1 5) + x2) 256)), .int ((g_mi M a1 4))]) kX1_leavesNone 33 dX8_buildOn_30 rfl rfl mbX8_246 imX1_leavesNone seX1_leavesNone gcl1.1 s0.2.2.2.2.2.2.2.2.2.2.2.2.2.2.2.2.1.1 (Nat.le_of_ble_eq_true rfl) (w2) (w3) (tX1_leavesNone (N := N) s0.2.2.2.2.2.2.2.2.2.2.2.2.2.2.2.2.1 s1 (b4 c1) ?_)
    show Go X (d + 4) mc ms kX8_buildOn Q 33 [(3, .int ((i_rm ((g_mi M a1 5) + x2) 256))), (0, .ref a0), (1, .ref a1), (2, .int (x2))] [.int ((fX1_leavesNone N M (a0 + 274) a1 (i_rm ((g_mi M a1 5) + x2) 256) (g_mi M a1 4)))] (mX1_leavesNone N M (a0 + 274) a1 (i_rm ((g_mi M a1 5) + x2) 256) (g_mi M a1 4)) c z
    refine g_if_ne 39 36 dX8_buildOn_33 rfl rfl (fun c2 => ?_) (fun c2 => ?_)
    · skip
      refine g_aload_n 1 40 dX8_buildOn_39 rfl rfl ?_
      refine g_getR 43 (a0 + 274) dX8_buildOn_40 rfl flX8_54 (Sm.k (Sm.tr Sm.rf jX1_leavesNone) s0.1) (Sm.r (Sm.tr Sm.rf jX1_leavesNone) s0.2.2.2.2.2.2.2.2.2.2.2.2.2.2.2.1) ?_
      refine g_aload_n 2 44 dX8_buildOn_43 rfl rfl ?_
      refine g_iload_n 0 45 dX8_buildOn_44 rfl rfl ?_
      refine g_aload_n 1 46 dX8_buildOn_45 rfl rfl ?_
      refine g_callV (mc1 := 0) (ms1 := 0) (b := a0) (rest := [.int ((i_rm ((g_mi M a1 5) + x2) 256)), .ref a1, .ref (a0 + 274)]) (av := []) kX8_lawInForce 49 dX8_buildOn_46 rfl rfl mbX8_108 imX8_lawInForce seX8_lawInForce gcl8.1 (Sm.k (Sm.tr Sm.rf jX1_leavesNone) s0.1) (Nat.le_of_ble_eq_true rfl) (w2) (w3) (sX8_lawInForce_0 (Ph.sm (Sm.tr Sm.rf jX1_leavesNone) s0) (b5 c1 c2) ?_)
      show Go X (d + 4) mc ms kX8_buildOn Q 49 [(3, .int ((i_rm ((g_mi M a1 5) + x2) 256))), (0, .ref a0), (1, .ref a1), (2, .int (x2))] [.ref (aLaw (mX1_leavesNone N M (a0 + 274) a1 (i_rm ((g_mi M a1 5) + x2) 256) (g_mi M a1 4)) a0 (g_mi (mX1_leavesNone N M (a0 + 274) a1 (i_rm ((g_mi M a1 5) + x2) 256) (g_mi M a1 4)) (a0 + 1) 6)), .int ((i_rm ((g_mi M a1 5) + x2) 256)), .ref a1, .ref (a0 + 274)] (mX1_leavesNone N M (a0 + 274) a1 (i_rm ((g_mi M a1 5) + x2) 256) (g_mi M a1 4)) c z
      refine g_callV (mc1 := 0) (ms1 := 0) (b := (a0 + 274)) (rest := []) (av := [.ref a1, .int ((i_rm ((g_mi M a1 5) + x2) 256)), .ref (aLaw (mX1_leavesNone N M (a0 + 274) a1 (i_rm ((g_mi M a1 5) + x2) 256) (g_mi M a1 4)) a0 (g_mi (mX1_leavesNone N M (a0 + 274) a1 (i_rm ((g_mi M a1 5) + x2) 256) (g_mi M a1 4)) (a0 + 1) 6))]) kX1_peel 52 dX8_buildOn_49 rfl rfl mbX8_233 imX1_peel seX1_peel gcl1.1 (Sm.k (Sm.tr Sm.rf jX1_leavesNone) s0.2.2.2.2.2.2.2.2.2.2.2.2.2.2.2.2.1.1) (Nat.le_of_ble_eq_true rfl) (w2) (w3) (tX1_peel (N := N) (Pe.sm (Sm.tr Sm.rf jX1_leavesNone) s0.2.2.2.2.2.2.2.2.2.2.2.2.2.2.2.2.1) (St.sm (Sm.tr Sm.rf jX1_leavesNone) s1) (Tx.sm (Sm.tr Sm.rf jX1_leavesNone) (Tx.sm (Sm.sy (Sm.tr Sm.rf jX1_leavesNone)) (b5 c1 c2).2)) (b6 c1 c2) ?_)
      show Go X (d + 4) mc ms kX8_buildOn Q 52 [(3, .int ((i_rm ((g_mi M a1 5) + x2) 256))), (0, .ref a0), (1, .ref a1), (2, .int (x2))] [] (mX1_peel N (mX1_leavesNone N M (a0 + 274) a1 (i_rm ((g_mi M a1 5) + x2) 256) (g_mi M a1 4)) (a0 + 274) a1 (i_rm ((g_mi M a1 5) + x2) 256) (aLaw (mX1_leavesNone N M (a0 + 274) a1 (i_rm ((g_mi M a1 5) + x2) 256) (g_mi M a1 4)) a0 (g_mi (mX1_leavesNone N M (a0 + 274) a1 (i_rm ((g_mi M a1 5) + x2) 256) (g_mi M a1 4)) (a0 + 1) 6)) (kl (mX1_leavesNone N M (a0 + 274) a1 (i_rm ((g_mi M a1 5) + x2) 256) (g_mi M a1 4)) ((aLaw (mX1_leavesNone N M (a0 + 274) a1 (i_rm ((g_mi M a1 5) + x2) 256) (g_mi M a1 4)) a0 (g_mi (mX1_leavesNone N M (a0 + 274) a1 (i_rm ((g_mi M a1 5) + x2) 256) (g_mi M a1 4)) (a0 + 1) 6)) + 1)) (kl (mX1_leavesNone N M (a0 + 274) a1 (i_rm ((g_mi M a1 5) + x2) 256) (g_mi M a1 4)) ((aLaw (mX1_leavesNone N M (a0 + 274) a1 (i_rm ((g_mi M a1 5) + x2) 256) (g_mi M a1 4)) a0 (g_mi (mX1_leavesNone N M (a0 + 274) a1 (i_rm ((g_mi M a1 5) + x2) 256) (g_mi M a1 4)) (a0 + 1) 6)) + 5))) c z
      refine g_aload_n 2 53 dX8_buildOn_52 rfl rfl ?_
      refine g_iload_n 0 54 dX8_buildOn_53 rfl rfl ?_
      refine g_putI 57 dX8_buildOn_54 rfl flX8_116 (Sm.k (Sm.tr (Sm.tr Sm.rf jX1_leavesNone) jX1_peel) s1.1) ?_
      refine g_aload_n 2 58 dX8_buildOn_57 rfl rfl ?_
      refine g_getR 61 (a1 + 3) dX8_buildOn_58 rfl flX8_250 (Sm.k (Sm.wi (Sm.tr (Sm.tr Sm.rf jX1_leavesNone) jX1_peel)) s1.1) (Sm.r (Sm.wi (Sm.tr (Sm.tr Sm.rf jX1_leavesNone) jX1_peel)) s1.2.2.2.2.2.1) ?_
      refine g_aload_n 2 62 dX8_buildOn_61 rfl rfl ?_
      refine g_aload_n 1 63 dX8_buildOn_62 rfl rfl ?_
      refine g_getR 66 (a0 + 274) dX8_buildOn_63 rfl flX8_54 (Sm.k (Sm.wi (Sm.tr (Sm.tr Sm.rf jX1_leavesNone) jX1_peel)) s0.1) (Sm.r (Sm.wi (Sm.tr (Sm.tr Sm.rf jX1_leavesNone) jX1_peel)) s0.2.2.2.2.2.2.2.2.2.2.2.2.2.2.2.1) ?_
      refine g_callV (mc1 := 0) (ms1 := 0) (b := (a1 + 3)) (rest := []) (av := [.ref a1, .ref (a0 + 274)]) kX5_solve 69 dX8_buildOn_66 rfl rfl mbX8_365 imX5_solve seX5_solve gcl5.1 (Sm.k (Sm.wi (Sm.tr (Sm.tr Sm.rf jX1_leavesNone) jX1_peel)) s1.2.2.2.2.2.2.1) (Nat.le_of_ble_eq_true rfl) (w2) (w3) (tX5_solve (N := N) (Tb.sm (Sm.wi (Sm.tr (Sm.tr Sm.rf jX1_leavesNone) jX1_peel)) s1.2.2.2.2.2.2) (St.sm (Sm.wi (Sm.tr (Sm.tr Sm.rf jX1_leavesNone) jX1_peel)) s1) (Pe.sm (Sm.wi (Sm.tr (Sm.tr Sm.rf jX1_leavesNone) jX1_peel)) s0.2.2.2.2.2.2.2.2.2.2.2.2.2.2.2.2.1) (b7 c1 c2) ?_)
      show Go X (d + 4) mc ms kX8_buildOn Q 69 [(3, .int ((i_rm ((g_mi M a1 5) + x2) 256))), (0, .ref a0), (1, .ref a1), (2, .int (x2))] [] (mX5_solve N (g_wi (mX1_peel N (mX1_leavesNone N M (a0 + 274) a1 (i_rm ((g_mi M a1 5) + x2) 256) (g_mi M a1 4)) (a0 + 274) a1 (i_rm ((g_mi M a1 5) + x2) 256) (aLaw (mX1_leavesNone N M (a0 + 274) a1 (i_rm ((g_mi M a1 5) + x2) 256) (g_mi M a1 4)) a0 (g_mi (mX1_leavesNone N M (a0 + 274) a1 (i_rm ((g_mi M a1 5) + x2) 256) (g_mi M a1 4)) (a0 + 1) 6)) (kl (mX1_leavesNone N M (a0 + 274) a1 (i_rm ((g_mi M a1 5) + x2) 256) (g_mi M a1 4)) ((aLaw (mX1_leavesNone N M (a0 + 274) a1 (i_rm ((g_mi M a1 5) + x2) 256) (g_mi M a1 4)) a0 (g_mi (mX1_leavesNone N M (a0 + 274) a1 (i_rm ((g_mi M a1 5) + x2) 256) (g_mi M a1 4)) (a0 + 1) 6)) + 1)) (kl (mX1_leavesNone N M (a0 + 274) a1 (i_rm ((g_mi M a1 5) + x2) 256) (g_mi M a1 4)) ((aLaw (mX1_leavesNone N M (a0 + 274) a1 (i_rm ((g_mi M a1 5) + x2) 256) (g_mi M a1 4)) a0 (g_mi (mX1_leavesNone N M (a0 + 274) a1 (i_rm ((g_mi M a1 5) + x2) 256) (g_mi M a1 4)) (a0 + 1) 6)) + 5))) a1 5 (i_rm ((g_mi M a1 5) + x2) 256)) (a1 + 3) a1 (a0 + 274)) c z
      refine g_aload_n 2 70 dX8_buildOn_69 rfl rfl ?_
      refine g_getR 73 (a1 + 2) dX8_buildOn_70 rfl flX8_149 (Sm.k (Sm.tr (Sm.wi (Sm.tr (Sm.tr Sm.rf jX1_leavesNone) jX1_peel)) jX5_solve) s1.1) (Sm.r (Sm.tr (Sm.wi (Sm.tr (Sm.tr Sm.rf jX1_leavesNone) jX1_peel)) jX5_solve) s1.2.2.2.1) ?_
      refine g_iconst (0) 74 dX8_buildOn_73 rfl rfl ?_
      refine g_aload_n 2 75 dX8_buildOn_74 rfl rfl ?_
      refine g_getR 78 (a1 + 2) dX8_buildOn_75 rfl flX8_149 (Sm.k (Sm.tr (Sm.wi (Sm.tr (Sm.tr Sm.rf jX1_leavesNone) jX1_peel)) jX5_solve) s1.1) (Sm.r (Sm.tr (Sm.wi (Sm.tr (Sm.tr Sm.rf jX1_leavesNone) jX1_peel)) jX5_solve) s1.2.2.2.1) ?_
      refine g_iconst (0) 79 dX8_buildOn_78 rfl rfl ?_
      refine h_iaload 80 0 dX8_buildOn_79 rfl rfl (Sm.k (Sm.tr (Sm.wi (Sm.tr (Sm.tr Sm.rf jX1_leavesNone) jX1_peel)) jX5_solve) s1.2.2.2.2.1) (vp_lit rfl) ?_
      refine g_iconst (1) 81 dX8_buildOn_80 rfl rfl ?_
      refine g_iadd 82 dX8_buildOn_81 rfl ?_
      refine g_sipush (999) 85 dX8_buildOn_82 rfl rfl ?_
      refine h_min 88 dX8_buildOn_85 rfl mbX8_369 smJ9_min_7cf53 (Nat.le_of_ble_eq_true rfl) (w2) (w3) ?_
      refine h_iastore 89 0 dX8_buildOn_88 rfl rfl (Sm.k (Sm.tr (Sm.wi (Sm.tr (Sm.tr Sm.rf jX1_leavesNone) jX1_peel)) jX5_solve) s1.2.2.2.2.1) (vp_lit rfl) ?_
      refine g_iload_n 3 90 dX8_buildOn_89 rfl rfl ?_
      exact g_iret dX8_buildOn_90 rfl (w2) (w3) (h8 c1 c2)
    · skip
      refine g_goto 91 dX8_buildOn_36 rfl ?_
      refine g_iinc _ 3 94 [(2, .int ((x2 + 1))), (3, .int ((i_rm ((g_mi M a1 5) + x2) 256))), (0, .ref a0), (1, .ref a1)] dX8_buildOn_91 rfl rfl rfl (Nat.le_of_ble_eq_true rfl) rfl ?_
      refine g_goto 2 dX8_buildOn_94 rfl ?_
      exact g_sub [2, 3, 0] _ rfl (h9 c1 c2)

def bX8_buildOn_0 (N : Nat) (M : gM) (a0 : Nat) (a1 : Nat) (k : Nat → (Nat → Nat → Int32) → Nat → Nat → Int32 → Int32 × (Nat → Nat → Int32)) : Int32 × (Nat → Nat → Int32) := (k 0 (g_mi M) a0 a1 0)
def eX8_buildOn_0 (N : Nat) (M : gM) (a0 : Nat) (a1 : Nat) (k : Nat → (Nat → Nat → Int32) → Nat → Nat → Int32 → Prop) : Prop := (k 0 (g_mi M) a0 a1 0)
def bX8_buildOn_2 (N : Nat) (M : gM) (f : Nat → Nat → Int32) (a0 : Nat) (a1 : Nat) (x2 : Int32) (k : Nat → (Nat → Nat → Int32) → Nat → Nat → Int32 → Int32 × (Nat → Nat → Int32)) : Int32 × (Nat → Nat → Int32) := (if 256 ≤ x2 then ((-3), g_mi (g_wm M f (g_ml M))) else (if (fX1_leavesNone N (g_wm M f (g_ml M)) (a0 + 274) a1 (i_rm ((g_mi (g_wm M f (g_ml M)) a1 5) + x2) 256) (g_mi (g_wm M f (g_ml M)) a1 4)) = 0 then (k 0 (g_mi (mX1_leavesNone N (g_wm M f (g_ml M)) (a0 + 274) a1 (i_rm ((g_mi (g_wm M f (g_ml M)) a1 5) + x2) 256) (g_mi (g_wm M f (g_ml M)) a1 4))) a0 a1 (x2 + 1)) else (x2, g_mi (g_wi (mX5_solve N (g_wi (mX1_peel N (mX1_leavesNone N (g_wm M f (g_ml M)) (a0 + 274) a1 (i_rm ((g_mi (g_wm M f (g_ml M)) a1 5) + x2) 256) (g_mi (g_wm M f (g_ml M)) a1 4)) (a0 + 274) a1 (i_rm ((g_mi (g_wm M f (g_ml M)) a1 5) + x2) 256) (aLaw (mX1_leavesNone N (g_wm M f (g_ml M)) (a0 + 274) a1 (i_rm ((g_mi (g_wm M f (g_ml M)) a1 5) + x2) 256) (g_mi (g_wm M f (g_ml M)) a1 4)) a0 (g_mi (mX1_leavesNone N (g_wm M f (g_ml M)) (a0 + 274) a1 (i_rm ((g_mi (g_wm M f (g_ml M)) a1 5) + x2) 256) (g_mi (g_wm M f (g_ml M)) a1 4)) (a0 + 1) 6)) (kl (mX1_leavesNone N (g_wm M f (g_ml M)) (a0 + 274) a1 (i_rm ((g_mi (g_wm M f (g_ml M)) a1 5) + x2) 256) (g_mi (g_wm M f (g_ml M)) a1 4)) ((aLaw (mX1_leavesNone N (g_wm M f (g_ml M)) (a0 + 274) a1 (i_rm ((g_mi (g_wm M f (g_ml M)) a1 5) + x2) 256) (g_mi (g_wm M f (g_ml M)) a1 4)) a0 (g_mi (mX1_leavesNone N (g_wm M f (g_ml M)) (a0 + 274) a1 (i_rm ((g_mi (g_wm M f (g_ml M)) a1 5) + x2) 256) (g_mi (g_wm M f (g_ml M)) a1 4)) (a0 + 1) 6)) + 1)) (kl (mX1_leavesNone N (g_wm M f (g_ml M)) (a0 + 274) a1 (i_rm ((g_mi (g_wm M f (g_ml M)) a1 5) + x2) 256) (g_mi (g_wm M f (g_ml M)) a1 4)) ((aLaw (mX1_leavesNone N (g_wm M f (g_ml M)) (a0 + 274) a1 (i_rm ((g_mi (g_wm M f (g_ml M)) a1 5) + x2) 256) (g_mi (g_wm M f (g_ml M)) a1 4)) a0 (g_mi (mX1_leavesNone N (g_wm M f (g_ml M)) (a0 + 274) a1 (i_rm ((g_mi (g_wm M f (g_ml M)) a1 5) + x2) 256) (g_mi (g_wm M f (g_ml M)) a1 4)) (a0 + 1) 6)) + 5))) a1 5 (i_rm ((g_mi (g_wm M f (g_ml M)) a1 5) + x2) 256)) (a1 + 3) a1 (a0 + 274)) (a1 + 2) 0 (i_min ((g_mi (mX5_solve N (g_wi (mX1_peel N (mX1_leavesNone N (g_wm M f (g_ml M)) (a0 + 274) a1 (i_rm ((g_mi (g_wm M f (g_ml M)) a1 5) + x2) 256) (g_mi (g_wm M f (g_ml M)) a1 4)) (a0 + 274) a1 (i_rm ((g_mi (g_wm M f (g_ml M)) a1 5) + x2) 256) (aLaw (mX1_leavesNone N (g_wm M f (g_ml M)) (a0 + 274) a1 (i_rm ((g_mi (g_wm M f (g_ml M)) a1 5) + x2) 256) (g_mi (g_wm M f (g_ml M)) a1 4)) a0 (g_mi (mX1_leavesNone N (g_wm M f (g_ml M)) (a0 + 274) a1 (i_rm ((g_mi (g_wm M f (g_ml M)) a1 5) + x2) 256) (g_mi (g_wm M f (g_ml M)) a1 4)) (a0 + 1) 6)) (kl (mX1_leavesNone N (g_wm M f (g_ml M)) (a0 + 274) a1 (i_rm ((g_mi (g_wm M f (g_ml M)) a1 5) + x2) 256) (g_mi (g_wm M f (g_ml M)) a1 4)) ((aLaw (mX1_leavesNone N (g_wm M f (g_ml M)) (a0 + 274) a1 (i_rm ((g_mi (g_wm M f (g_ml M)) a1 5) + x2) 256) (g_mi (g_wm M f (g_ml M)) a1 4)) a0 (g_mi (mX1_leavesNone N (g_wm M f (g_ml M)) (a0 + 274) a1 (i_rm ((g_mi (g_wm M f (g_ml M)) a1 5) + x2) 256) (g_mi (g_wm M f (g_ml M)) a1 4)) (a0 + 1) 6)) + 1)) (kl (mX1_leavesNone N (g_wm M f (g_ml M)) (a0 + 274) a1 (i_rm ((g_mi (g_wm M f (g_ml M)) a1 5) + x2) 256) (g_mi (g_wm M f (g_ml M)) a1 4)) ((aLaw (mX1_leavesNone N (g_wm M f (g_ml M)) (a0 + 274) a1 (i_rm ((g_mi (g_wm M f (g_ml M)) a1 5) + x2) 256) (g_mi (g_wm M f (g_ml M)) a1 4)) a0 (g_mi (mX1_leavesNone N (g_wm M f (g_ml M)) (a0 + 274) a1 (i_rm ((g_mi (g_wm M f (g_ml M)) a1 5) + x2) 256) (g_mi (g_wm M f (g_ml M)) a1 4)) (a0 + 1) 6)) + 5))) a1 5 (i_rm ((g_mi (g_wm M f (g_ml M)) a1 5) + x2) 256)) (a1 + 3) a1 (a0 + 274)) (a1 + 2) 0) + 1) 999)))))
def eX8_buildOn_2 (N : Nat) (M : gM) (f : Nat → Nat → Int32) (a0 : Nat) (a1 : Nat) (x2 : Int32) (k : Nat → (Nat → Nat → Int32) → Nat → Nat → Int32 → Prop) : Prop := ((¬ 256 ≤ x2) → EX1_leavesNone N (g_wm M f (g_ml M)) (a0 + 274) a1 (i_rm ((g_mi (g_wm M f (g_ml M)) a1 5) + x2) 256) (g_mi (g_wm M f (g_ml M)) a1 4)) ∧ ((¬ 256 ≤ x2) → (¬ (fX1_leavesNone N (g_wm M f (g_ml M)) (a0 + 274) a1 (i_rm ((g_mi (g_wm M f (g_ml M)) a1 5) + x2) 256) (g_mi (g_wm M f (g_ml M)) a1 4)) = 0) → EX8_lawNumbered (mX1_leavesNone N (g_wm M f (g_ml M)) (a0 + 274) a1 (i_rm ((g_mi (g_wm M f (g_ml M)) a1 5) + x2) 256) (g_mi (g_wm M f (g_ml M)) a1 4)) a0 (g_mi (mX1_leavesNone N (g_wm M f (g_ml M)) (a0 + 274) a1 (i_rm ((g_mi (g_wm M f (g_ml M)) a1 5) + x2) 256) (g_mi (g_wm M f (g_ml M)) a1 4)) (a0 + 1) 6)) ∧ ((¬ 256 ≤ x2) → (¬ (fX1_leavesNone N (g_wm M f (g_ml M)) (a0 + 274) a1 (i_rm ((g_mi (g_wm M f (g_ml M)) a1 5) + x2) 256) (g_mi (g_wm M f (g_ml M)) a1 4)) = 0) → EX1_peel N (mX1_leavesNone N (g_wm M f (g_ml M)) (a0 + 274) a1 (i_rm ((g_mi (g_wm M f (g_ml M)) a1 5) + x2) 256) (g_mi (g_wm M f (g_ml M)) a1 4)) (a0 + 274) a1 (i_rm ((g_mi (g_wm M f (g_ml M)) a1 5) + x2) 256) (aLaw (mX1_leavesNone N (g_wm M f (g_ml M)) (a0 + 274) a1 (i_rm ((g_mi (g_wm M f (g_ml M)) a1 5) + x2) 256) (g_mi (g_wm M f (g_ml M)) a1 4)) a0 (g_mi (mX1_leavesNone N (g_wm M f (g_ml M)) (a0 + 274) a1 (i_rm ((g_mi (g_wm M f (g_ml M)) a1 5) + x2) 256) (g_mi (g_wm M f (g_ml M)) a1 4)) (a0 + 1) 6)) (kl (mX1_leavesNone N (g_wm M f (g_ml M)) (a0 + 274) a1 (i_rm ((g_mi (g_wm M f (g_ml M)) a1 5) + x2) 256) (g_mi (g_wm M f (g_ml M)) a1 4)) ((aLaw (mX1_leavesNone N (g_wm M f (g_ml M)) (a0 + 274) a1 (i_rm ((g_mi (g_wm M f (g_ml M)) a1 5) + x2) 256) (g_mi (g_wm M f (g_ml M)) a1 4)) a0 (g_mi (mX1_leavesNone N (g_wm M f (g_ml M)) (a0 + 274) a1 (i_rm ((g_mi (g_wm M f (g_ml M)) a1 5) + x2) 256) (g_mi (g_wm M f (g_ml M)) a1 4)) (a0 + 1) 6)) + 1)) (kl (mX1_leavesNone N (g_wm M f (g_ml M)) (a0 + 274) a1 (i_rm ((g_mi (g_wm M f (g_ml M)) a1 5) + x2) 256) (g_mi (g_wm M f (g_ml M)) a1 4)) ((aLaw (mX1_leavesNone N (g_wm M f (g_ml M)) (a0 + 274) a1 (i_rm ((g_mi (g_wm M f (g_ml M)) a1 5) + x2) 256) (g_mi (g_wm M f (g_ml M)) a1 4)) a0 (g_mi (mX1_leavesNone N (g_wm M f (g_ml M)) (a0 + 274) a1 (i_rm ((g_mi (g_wm M f (g_ml M)) a1 5) + x2) 256) (g_mi (g_wm M f (g_ml M)) a1 4)) (a0 + 1) 6)) + 5))) ∧ ((¬ 256 ≤ x2) → (¬ (fX1_leavesNone N (g_wm M f (g_ml M)) (a0 + 274) a1 (i_rm ((g_mi (g_wm M f (g_ml M)) a1 5) + x2) 256) (g_mi (g_wm M f (g_ml M)) a1 4)) = 0) → EX5_solve N (g_wi (mX1_peel N (mX1_leavesNone N (g_wm M f (g_ml M)) (a0 + 274) a1 (i_rm ((g_mi (g_wm M f (g_ml M)) a1 5) + x2) 256) (g_mi (g_wm M f (g_ml M)) a1 4)) (a0 + 274) a1 (i_rm ((g_mi (g_wm M f (g_ml M)) a1 5) + x2) 256) (aLaw (mX1_leavesNone N (g_wm M f (g_ml M)) (a0 + 274) a1 (i_rm ((g_mi (g_wm M f (g_ml M)) a1 5) + x2) 256) (g_mi (g_wm M f (g_ml M)) a1 4)) a0 (g_mi (mX1_leavesNone N (g_wm M f (g_ml M)) (a0 + 274) a1 (i_rm ((g_mi (g_wm M f (g_ml M)) a1 5) + x2) 256) (g_mi (g_wm M f (g_ml M)) a1 4)) (a0 + 1) 6)) (kl (mX1_leavesNone N (g_wm M f (g_ml M)) (a0 + 274) a1 (i_rm ((g_mi (g_wm M f (g_ml M)) a1 5) + x2) 256) (g_mi (g_wm M f (g_ml M)) a1 4)) ((aLaw (mX1_leavesNone N (g_wm M f (g_ml M)) (a0 + 274) a1 (i_rm ((g_mi (g_wm M f (g_ml M)) a1 5) + x2) 256) (g_mi (g_wm M f (g_ml M)) a1 4)) a0 (g_mi (mX1_leavesNone N (g_wm M f (g_ml M)) (a0 + 274) a1 (i_rm ((g_mi (g_wm M f (g_ml M)) a1 5) + x2) 256) (g_mi (g_wm M f (g_ml M)) a1 4)) (a0 + 1) 6)) + 1)) (kl (mX1_leavesNone N (g_wm M f (g_ml M)) (a0 + 274) a1 (i_rm ((g_mi (g_wm M f (g_ml M)) a1 5) + x2) 256) (g_mi (g_wm M f (g_ml M)) a1 4)) ((aLaw (mX1_leavesNone N (g_wm M f (g_ml M)) (a0 + 274) a1 (i_rm ((g_mi (g_wm M f (g_ml M)) a1 5) + x2) 256) (g_mi (g_wm M f (g_ml M)) a1 4)) a0 (g_mi (mX1_leavesNone N (g_wm M f (g_ml M)) (a0 + 274) a1 (i_rm ((g_mi (g_wm M f (g_ml M)) a1 5) + x2) 256) (g_mi (g_wm M f (g_ml M)) a1 4)) (a0 + 1) 6)) + 5))) a1 5 (i_rm ((g_mi (g_wm M f (g_ml M)) a1 5) + x2) 256)) (a1 + 3) a1 (a0 + 274)) ∧ (if 256 ≤ x2 then True else (if (fX1_leavesNone N (g_wm M f (g_ml M)) (a0 + 274) a1 (i_rm ((g_mi (g_wm M f (g_ml M)) a1 5) + x2) 256) (g_mi (g_wm M f (g_ml M)) a1 4)) = 0 then (k 0 (g_mi (mX1_leavesNone N (g_wm M f (g_ml M)) (a0 + 274) a1 (i_rm ((g_mi (g_wm M f (g_ml M)) a1 5) + x2) 256) (g_mi (g_wm M f (g_ml M)) a1 4))) a0 a1 (x2 + 1)) else True))
def wX8_buildOn (N : Nat) (M : gM) : Nat → Nat → (Nat → Nat → Int32) → Nat → Nat → Int32 → Int32 × (Nat → Nat → Int32)
  | 0, _, f, _, _, _ => (0, f)
  | n + 1, h, f, a0, a1, x2 => bX8_buildOn_2 N M f a0 a1 x2 (wX8_buildOn N M n)
def vX8_buildOn (N : Nat) (M : gM) : Nat → Nat → (Nat → Nat → Int32) → Nat → Nat → Int32 → Prop
  | 0, _, _, _, _, _ => False
  | n + 1, h, f, a0, a1, x2 => eX8_buildOn_2 N M f a0 a1 x2 (vX8_buildOn N M n)
set_option maxRecDepth 10000 in
theorem lpX8_buildOn {X : gX} {d mc ms : Nat} {Q : Option Value → gM → Prop} (N : Nat) (M : gM) : ∀ n : Nat, (∀ (f : Nat → Nat → Int32) (a0 : Nat) (a1 : Nat) (x2 : Int32), Ph M a0 → St M a1 → vX8_buildOn N M n 0 f a0 a1 x2 → Q (some (.int (wX8_buildOn N M n 0 f a0 a1 x2).1)) (g_wm M (wX8_buildOn N M n 0 f a0 a1 x2).2 (g_ml M)) → Go X (d + 4) mc ms kX8_buildOn Q 2 [(0, .ref a0), (1, .ref a1), (2, .int (x2))] [] (g_wm M f (g_ml M)) 0 0) := by
  intro n
  induction n with
  | zero => exact fun _ _ _ _ _ _ h _ => h.elim
  | succ n ih =>
    intro f a0 a1 x2 s0 s1 hT hQ
    rw [vX8_buildOn] at hT
    rw [wX8_buildOn] at hQ
    unfold bX8_buildOn_2 at hQ
    unfold eX8_buildOn_2 at hT
    obtain ⟨b4, b5, b6, b7, hT⟩ := hT
    exact sX8_buildOn_2 (M := (g_wm M f (g_ml M))) (Ph.sm Sm.wm s0) (St.sm Sm.wm s1) (fun c1 => by simp only [if_pos c1] at hQ; exact Sm.q Sm.wm hQ) (Nat.zero_le _) (Nat.zero_le _) b4 b5 b6 b7 (fun c1 c2 => by simp only [if_neg c1, if_neg c2] at hQ; exact Sm.q (Sm.tr Sm.wm (Sm.wi (Sm.tr (Sm.wi (Sm.tr (Sm.tr Sm.rf jX1_leavesNone) jX1_peel)) jX5_solve))) hQ) (fun c1 c2 => by simp only [if_neg c1, if_pos c2] at hQ hT; exact Sm.g (Sm.tr Sm.wm (Sm.tr Sm.rf jX1_leavesNone)) (ih _ _ _ _ (s0) (s1) hT hQ))
def fX8_buildOn (N : Nat) (M : gM) (a0 : Nat) (a1 : Nat) : Int32 := (bX8_buildOn_0 N M a0 a1 (wX8_buildOn N M N)).1
def mX8_buildOn (N : Nat) (M : gM) (a0 : Nat) (a1 : Nat) : gM := g_wm M (bX8_buildOn_0 N M a0 a1 (wX8_buildOn N M N)).2 (g_ml M)
theorem jX8_buildOn {N : Nat} {M : gM} {a0 : Nat} {a1 : Nat} : Sm M (mX8_buildOn N M a0 a1) := Sm.wm
def EX8_buildOn (N : Nat) (M : gM) (a0 : Nat) (a1 : Nat) : Prop := eX8_buildOn_0 N M a0 a1 (vX8_buildOn N M N)
theorem tX8_buildOn {N : Nat} {X : gX} {d mc ms : Nat} {Q : Option Value → gM → Prop} {M : gM} {a0 : Nat} {a1 : Nat} (s0 : Ph M a0) (s1 : St M a1) (hE : EX8_buildOn N M a0 a1) (hQ : Q (some (.int (fX8_buildOn N M a0 a1))) (mX8_buildOn N M a0 a1)) : Cn X (d + 4) mc ms kX8_buildOn [.ref a0, .ref a1] M Q := by
  unfold fX8_buildOn mX8_buildOn at hQ
  unfold bX8_buildOn_0 at hQ
  unfold EX8_buildOn eX8_buildOn_0 at hE
  have hT := hE
  have ih := lpX8_buildOn (X := X) (d := d) (mc := mc) (ms := ms) (Q := Q) N M N
  exact sX8_buildOn_0 s0 s1 (Sm.g Sm.rf (ih _ _ _ _ (s0) (s1) hT hQ))
/-! X2_read  -/
set_option maxRecDepth 4000 in
theorem sX2_read_0 {N : Nat} {K : Nat} {X : gX} {d mc ms : Nat} {Q : Option Value → gM → Prop} {M : gM} {a0 : Nat} {x1 : Int32} (s0 : Re M a0) (b1 : EX2_splitIntoTokens N M a0) (b2 : x1 = 0 ∨ x1 = 1) (h3 : Go X (d + K + 6) mc ms kX2_read Q 43 [(0, .ref a0), (2, .int (0))] [] (mX6_clear (g_wi (g_wi (g_wi (g_wi (g_wi (g_wi (mX2_splitIntoTokens N M a0) a0 5 0) a0 6 (-1)) a0 10 0) a0 11 0) a0 4 0) a0 12 x1) (a0 + 2) 12 460) 0 0) : Cn X (d + K + 6) mc ms kX2_read [.ref a0, .int (x1)] M Q := by
  refine g_meth rfl rfl (Nat.le_of_ble_eq_true rfl) rfl ?_
  refine g_aload_n 0 1 dX2_read_0 rfl rfl ?_
  refine g_callV (mc1 := 0) (ms1 := 0) (b := a0) (rest := []) (av := []) kX2_splitIntoTokens 4 dX2_read_1 rfl rfl mbX2_47 imX2_splitIntoTokens seX2_splitIntoTokens gcl2.1 s0.1 (Nat.le_of_ble_eq_true rfl) (Nat.zero_le _) (Nat.zero_le _) (tX2_splitIntoTokens (N := N) s0 (b1) ?_)
  show Go X (d + K + 6) mc ms kX2_read Q 4 [(0, .ref a0), (1, .int (x1))] [] (mX2_splitIntoTokens N M a0) 0 0
  refine g_aload_n 0 5 dX2_read_4 rfl rfl ?_
  refine g_iconst (0) 6 dX2_read_5 rfl rfl ?_
  refine g_putI 9 dX2_read_6 rfl flX2_44 (Sm.k (Sm.tr Sm.rf jX2_splitIntoTokens) s0.1) ?_
  refine g_aload_n 0 10 dX2_read_9 rfl rfl ?_
  refine g_iconst ((-1)) 11 dX2_read_10 rfl rfl ?_
  refine g_putI 14 dX2_read_11 rfl flX2_31 (Sm.k (Sm.wi (Sm.tr Sm.rf jX2_splitIntoTokens)) s0.1) ?_
  refine g_aload_n 0 15 dX2_read_14 rfl rfl ?_
  refine g_iconst (0) 16 dX2_read_15 rfl rfl ?_
  refine g_putI 19 dX2_read_16 rfl flX2_50 (Sm.k (Sm.wi (Sm.wi (Sm.tr Sm.rf jX2_splitIntoTokens))) s0.1) ?_
  refine g_aload_n 0 20 dX2_read_19 rfl rfl ?_
  refine g_iconst (0) 21 dX2_read_20 rfl rfl ?_
  refine g_putI 24 dX2_read_21 rfl flX2_53 (Sm.k (Sm.wi (Sm.wi (Sm.wi (Sm.tr Sm.rf jX2_splitIntoTokens)))) s0.1) ?_
  refine g_aload_n 0 25 dX2_read_24 rfl rfl ?_
  refine g_iconst (0) 26 dX2_read_25 rfl rfl ?_
  refine g_putI 29 dX2_read_26 rfl flX2_56 (Sm.k (Sm.wi (Sm.wi (Sm.wi (Sm.wi (Sm.tr Sm.rf jX2_splitIntoTokens))))) s0.1) ?_
  refine g_aload_n 0 30 dX2_read_29 rfl rfl ?_
  refine g_iload_n 1 31 dX2_read_30 rfl rfl ?_
  refine g_putZ 34 dX2_read_31 rfl flX2_59 (Sm.k (Sm.wi (Sm.wi (Sm.wi (Sm.wi (Sm.wi (Sm.tr Sm.rf jX2_splitIntoTokens)))))) s0.1) (b2) ?_
  refine g_aload_n 0 35 dX2_read_34 rfl rfl ?_
  refine g_getR 38 (a0 + 2) dX2_read_35 rfl flX2_20 (Sm.k (Sm.wi (Sm.wi (Sm.wi (Sm.wi (Sm.wi (Sm.wi (Sm.tr Sm.rf jX2_splitIntoTokens))))))) s0.1) (Sm.r (Sm.wi (Sm.wi (Sm.wi (Sm.wi (Sm.wi (Sm.wi (Sm.tr Sm.rf jX2_splitIntoTokens))))))) s0.2.2.2.1) ?_
  refine g_callV (mc1 := 0) (ms1 := 0) (b := (a0 + 2)) (rest := []) (av := []) kX6_clear 41 dX2_read_38 rfl rfl mbX2_63 imX6_clear seX6_clear gcl6.1 (Sm.k (Sm.wi (Sm.wi (Sm.wi (Sm.wi (Sm.wi (Sm.wi (Sm.tr Sm.rf jX2_splitIntoTokens))))))) s0.2.2.2.2.1.1) (Nat.le_of_ble_eq_true rfl) (Nat.zero_le _) (Nat.zero_le _) (tX6_clear (Tx.sm (Sm.wi (Sm.wi (Sm.wi (Sm.wi (Sm.wi (Sm.wi (Sm.tr Sm.rf jX2_splitIntoTokens))))))) s0.2.2.2.2.1) ?_)
  show Go X (d + K + 6) mc ms kX2_read Q 41 [(0, .ref a0), (1, .int (x1))] [] (mX6_clear (g_wi (g_wi (g_wi (g_wi (g_wi (g_wi (mX2_splitIntoTokens N M a0) a0 5 0) a0 6 (-1)) a0 10 0) a0 11 0) a0 4 0) a0 12 x1) (a0 + 2) 12 460) 0 0
  refine g_iconst (0) 42 dX2_read_41 rfl rfl ?_
  refine g_istore_n 43 [(2, .int (0)), (0, .ref a0), (1, .int (x1))] dX2_read_42 rfl (Nat.le_of_ble_eq_true rfl) rfl ?_
  exact g_sub [1, 0] _ rfl (h3)

set_option maxRecDepth 4000 in
theorem sX2_read_43 {N : Nat} {K : Nat} {X : gX} {d mc ms : Nat} {Q : Option Value → gM → Prop} {M : gM} {c z : Nat} {a0 : Nat} {x2 : Int32} (s0 : Re M a0) (w1 : c ≤ mc) (w2 : z ≤ ms) (b3 : (12 ≤ x2) → EX2_fail M a0) (h4 : (12 ≤ x2) → Q (some (.int ((fX2_fail a0)))) (mX2_fail M a0)) (b5 : (12 ≤ x2) → (fX2_fail a0) = 0 ∨ (fX2_fail a0) = 1) (b6 : (¬ 12 ≤ x2) → EX2_readClause N K M a0 x2) (b7 : (¬ 12 ≤ x2) → (¬ (fX2_readClause N K M a0 x2) = 0) → vp_in ((g_mi (mX2_readClause N K M a0 x2) a0 10)) 401) (b8 : (¬ 12 ≤ x2) → (¬ (fX2_readClause N K M a0 x2) = 0) → (¬ (g_mi (mX2_readClause N K M a0 x2) (a0 + 11) ((g_mi (mX2_readClause N K M a0 x2) a0 10)).toNatClampNeg) = 24) → EX2_passMark (mX2_readClause N K M a0 x2) a0 59) (h9 : (¬ 12 ≤ x2) → (¬ (fX2_readClause N K M a0 x2) = 0) → (¬ (g_mi (mX2_readClause N K M a0 x2) (a0 + 11) ((g_mi (mX2_readClause N K M a0 x2) a0 10)).toNatClampNeg) = 24) → (¬ (fX2_passMark (mX2_readClause N K M a0 x2) a0 59) = 0) → Go X (d + K + 6) mc ms kX2_read Q 43 [(0, .ref a0), (2, .int ((x2 + 1)))] [] (mX2_passMark (mX2_readClause N K M a0 x2) a0 59) c z) (h10 : (¬ 12 ≤ x2) → (¬ (fX2_readClause N K M a0 x2) = 0) → (¬ (g_mi (mX2_readClause N K M a0 x2) (a0 + 11) ((g_mi (mX2_readClause N K M a0 x2) a0 10)).toNatClampNeg) = 24) → ((fX2_passMark (mX2_readClause N K M a0 x2) a0 59) = 0) → Q (some (.int (0))) (mX2_passMark (mX2_readClause N K M a0 x2) a0 59)) (h11 : (¬ 12 ≤ x2) → (¬ (fX2_readClause N K M a0 x2) = 0) → ((g_mi (mX2_readClause N K M a0 x2) (a0 + 11) ((g_mi (mX2_readClause N K M a0 x2) a0 10)).toNatClampNeg) = 24) → Q (some (.int (1))) (mX2_readClause N K M a0 x2)) (h12 : (¬ 12 ≤ x2) → ((fX2_readClause N K M a0 x2) = 0) → Q (some (.int (0))) (mX2_readClause N K M a0 x2)) : Go X (d + K + 6) mc ms kX2_read Q 43 [(0, .ref a0), (2, .int (x2))] [] M c z := by
  refine g_iload_n 1 44 dX2_read_43 rfl rfl ?_
  refine g_bipush (12) 46 dX2_read_44 rfl rfl ?_
  refine g_icmp_ge 92 49 dX2_read_46 rfl rfl (fun c1 => ?_) (fun c1 => ?_)
  · skip
    refine g_aload_n 0 93 dX2_read_92 rfl rfl ?_
    refine g_callV (mc1 := 0) (ms1 := 0) (b := a0) (rest := []) (av := []) kX2_fail 96 dX2_read_93 rfl rfl mbX2_74 imX2_fail seX2_fail gcl2.1 s0.1 (Nat.le_of_ble_eq_true rfl) (w1) (w2) (tX2_fail s0 (b3 c1) ?_)
    show Go X (d + K + 6) mc ms kX2_read Q 96 [(0, .ref a0), (2, .int (x2))] [.int ((fX2_fail a0))] (mX2_fail M a0) c z
    exact g_zret dX2_read_96 rfl (b5 c1) (w1) (w2) (h4 c1)
  · skip
    refine g_aload_n 0 50 dX2_read_49 rfl rfl ?_
    refine g_iload_n 1 51 dX2_read_50 rfl rfl ?_
    refine g_callV (mc1 := 0) (ms1 := 0) (b := a0) (rest := []) (av := [.int (x2)]) kX2_readClause 54 dX2_read_51 rfl rfl mbX2_66 imX2_readClause seX2_readClause gcl2.1 s0.1 (Nat.le_of_ble_eq_true rfl) (w1) (w2) (Cn.cd (show d + 1 + K + 4 = d + K + 5 by omega) (tX2_readClause (d := d + 1) (N := N) (K := K) s0 (b6 c1) ?_))
    show Go X (d + K + 6) mc ms kX2_read Q 54 [(0, .ref a0), (2, .int (x2))] [.int ((fX2_readClause N K M a0 x2))] (mX2_readClause N K M a0 x2) c z
    refine g_if_ne 59 57 dX2_read_54 rfl rfl (fun c2 => ?_) (fun c2 => ?_)
    · skip
      refine g_aload_n 0 60 dX2_read_59 rfl rfl ?_
      refine g_getR 63 (a0 + 11) dX2_read_60 rfl flX2_35 (Sm.k (Sm.tr Sm.rf jX2_readClause) s0.1) (Sm.r (Sm.tr Sm.rf jX2_readClause) s0.2.2.2.2.2.2.2.2.2.1) ?_
      refine g_aload_n 0 64 dX2_read_63 rfl rfl ?_
      refine g_getI 67 dX2_read_64 rfl flX2_50 (Sm.k (Sm.tr Sm.rf jX2_readClause) s0.1) ?_
      refine h_iaload 68 ((g_mi (mX2_readClause N K M a0 x2) a0 10)).toNatClampNeg dX2_read_67 rfl rfl (Sm.k (Sm.tr Sm.rf jX2_readClause) s0.2.2.2.2.2.2.2.2.2.2.1) (b7 c1 c2) ?_
      refine g_bipush (24) 70 dX2_read_68 rfl rfl ?_
      refine g_icmp_ne 75 73 dX2_read_70 rfl rfl (fun c3 => ?_) (fun c3 => ?_)
      · skip
        refine g_aload_n 0 76 dX2_read_75 rfl rfl ?_
        refine g_bipush (59) 78 dX2_read_76 rfl rfl ?_
        refine g_callV (mc1 := 0) (ms1 := 0) (b := a0) (rest := []) (av := [.int (59)]) kX2_passMark 81 dX2_read_78 rfl rfl mbX2_70 imX2_passMark seX2_passMark gcl2.1 (Sm.k (Sm.tr Sm.rf jX2_readClause) s0.1) (Nat.le_of_ble_eq_true rfl) (w1) (w2) (tX2_passMark (Re.sm (Sm.tr Sm.rf jX2_readClause) s0) (b8 c1 c2 c3) ?_)
        show Go X (d + K + 6) mc ms kX2_read Q 81 [(0, .ref a0), (2, .int (x2))] [.int ((fX2_passMark (mX2_readClause N K M a0 x2) a0 59))] (mX2_passMark (mX2_readClause N K M a0 x2) a0 59) c z
        refine g_if_ne 86 84 dX2_read_81 rfl rfl (fun c4 => ?_) (fun c4 => ?_)
        · skip
          refine g_iinc _ 1 89 [(2, .int ((x2 + 1))), (0, .ref a0)] dX2_read_86 rfl rfl rfl (Nat.le_of_ble_eq_true rfl) rfl ?_
          refine g_goto 43 dX2_read_89 rfl ?_
          exact g_sub [1, 0] _ rfl (h9 c1 c2 c3 c4)
        · skip
          refine g_iconst (0) 85 dX2_read_84 rfl rfl ?_
          exact g_zret dX2_read_85 rfl (by decide) (w1) (w2) (h10 c1 c2 c3 c4)
      · skip
        refine g_iconst (1) 74 dX2_read_73 rfl rfl ?_
        exact g_zret dX2_read_74 rfl (by decide) (w1) (w2) (h11 c1 c2 c3)
    · skip
      refine g_iconst (0) 58 dX2_read_57 rfl rfl ?_
      exact g_zret dX2_read_58 rfl (by decide) (w1) (w2) (h12 c1 c2)

def bX2_read_0 (N : Nat) (K : Nat) (M : gM) (a0 : Nat) (x1 : Int32) (k : Nat → (Nat → Nat → Int32) → Nat → Int32 → Int32 × (Nat → Nat → Int32)) : Int32 × (Nat → Nat → Int32) := (k 0 (g_mi (mX6_clear (g_wi (g_wi (g_wi (g_wi (g_wi (g_wi (mX2_splitIntoTokens N M a0) a0 5 0) a0 6 (-1)) a0 10 0) a0 11 0) a0 4 0) a0 12 x1) (a0 + 2) 12 460)) a0 0)
def eX2_read_0 (N : Nat) (K : Nat) (M : gM) (a0 : Nat) (x1 : Int32) (k : Nat → (Nat → Nat → Int32) → Nat → Int32 → Prop) : Prop := (EX2_splitIntoTokens N M a0) ∧ (x1 = 0 ∨ x1 = 1) ∧ (k 0 (g_mi (mX6_clear (g_wi (g_wi (g_wi (g_wi (g_wi (g_wi (mX2_splitIntoTokens N M a0) a0 5 0) a0 6 (-1)) a0 10 0) a0 11 0) a0 4 0) a0 12 x1) (a0 + 2) 12 460)) a0 0)
def bX2_read_43 (N : Nat) (K : Nat) (M : gM) (f : Nat → Nat → Int32) (a0 : Nat) (x2 : Int32) (k : Nat → (Nat → Nat → Int32) → Nat → Int32 → Int32 × (Nat → Nat → Int32)) : Int32 × (Nat → Nat → Int32) := (if 12 ≤ x2 then ((fX2_fail a0), g_mi (mX2_fail (g_wm M f (g_ml M)) a0)) else (if (fX2_readClause N K (g_wm M f (g_ml M)) a0 x2) = 0 then (0, g_mi (mX2_readClause N K (g_wm M f (g_ml M)) a0 x2)) else (if (g_mi (mX2_readClause N K (g_wm M f (g_ml M)) a0 x2) (a0 + 11) ((g_mi (mX2_readClause N K (g_wm M f (g_ml M)) a0 x2) a0 10)).toNatClampNeg) = 24 then (1, g_mi (mX2_readClause N K (g_wm M f (g_ml M)) a0 x2)) else (if (fX2_passMark (mX2_readClause N K (g_wm M f (g_ml M)) a0 x2) a0 59) = 0 then (0, g_mi (mX2_passMark (mX2_readClause N K (g_wm M f (g_ml M)) a0 x2) a0 59)) else (k 0 (g_mi (mX2_passMark (mX2_readClause N K (g_wm M f (g_ml M)) a0 x2) a0 59)) a0 (x2 + 1))))))
def eX2_read_43 (N : Nat) (K : Nat) (M : gM) (f : Nat → Nat → Int32) (a0 : Nat) (x2 : Int32) (k : Nat → (Nat → Nat → Int32) → Nat → Int32 → Prop) : Prop := ((12 ≤ x2) → EX2_fail (g_wm M f (g_ml M)) a0) ∧ ((12 ≤ x2) → (fX2_fail a0) = 0 ∨ (fX2_fail a0) = 1) ∧ ((¬ 12 ≤ x2) → EX2_readClause N K (g_wm M f (g_ml M)) a0 x2) ∧ ((¬ 12 ≤ x2) → (¬ (fX2_readClause N K (g_wm M f (g_ml M)) a0 x2) = 0) → vp_in ((g_mi (mX2_readClause N K (g_wm M f (g_ml M)) a0 x2) a0 10)) 401) ∧ ((¬ 12 ≤ x2) → (¬ (fX2_readClause N K (g_wm M f (g_ml M)) a0 x2) = 0) → (¬ (g_mi (mX2_readClause N K (g_wm M f (g_ml M)) a0 x2) (a0 + 11) ((g_mi (mX2_readClause N K (g_wm M f (g_ml M)) a0 x2) a0 10)).toNatClampNeg) = 24) → EX2_passMark (mX2_readClause N K (g_wm M f (g_ml M)) a0 x2) a0 59) ∧ (if 12 ≤ x2 then True else (if (fX2_readClause N K (g_wm M f (g_ml M)) a0 x2) = 0 then True else (if (g_mi (mX2_readClause N K (g_wm M f (g_ml M)) a0 x2) (a0 + 11) ((g_mi (mX2_readClause N K (g_wm M f (g_ml M)) a0 x2) a0 10)).toNatClampNeg) = 24 then True else (if (fX2_passMark (mX2_readClause N K (g_wm M f (g_ml M)) a0 x2) a0 59) = 0 then True else (k 0 (g_mi (mX2_passMark (mX2_readClause N K (g_wm M f (g_ml M)) a0 x2) a0 59)) a0 (x2 + 1))))))
def wX2_read (N : Nat) (K : Nat) (M : gM) : Nat → Nat → (Nat → Nat → Int32) → Nat → Int32 → Int32 × (Nat → Nat → Int32)
  | 0, _, f, _, _ => (0, f)
  | n + 1, h, f, a0, x2 => bX2_read_43 N K M f a0 x2 (wX2_read N K M n)
def vX2_read (N : Nat) (K : Nat) (M : gM) : Nat → Nat → (Nat → Nat → Int32) → Nat → Int32 → Prop
  | 0, _, _, _, _ => False
  | n + 1, h, f, a0, x2 => eX2_read_43 N K M f a0 x2 (vX2_read N K M n)
set_option maxRecDepth 10000 in
theorem lpX2_read {X : gX} {d mc ms : Nat} {Q : Option Value → gM → Prop} (N : Nat) (K : Nat) (M : gM) : ∀ n : Nat, (∀ (f : Nat → Nat → Int32) (a0 : Nat) (x2 : Int32), Re M a0 → vX2_read N K M n 0 f a0 x2 → Q (some (.int (wX2_read N K M n 0 f a0 x2).1)) (g_wm M (wX2_read N K M n 0 f a0 x2).2 (g_ml M)) → Go X (d + K + 6) mc ms kX2_read Q 43 [(0, .ref a0), (2, .int (x2))] [] (g_wm M f (g_ml M)) 0 0) := by
  intro n
  induction n with
  | zero => exact fun _ _ _ _ h _ => h.elim
  | succ n ih =>
    intro f a0 x2 s0 hT hQ
    rw [vX2_read] at hT
    rw [wX2_read] at hQ
    unfold bX2_read_43 at hQ
    unfold eX2_read_43 at hT
    obtain ⟨b3, b5, b6, b7, b8, hT⟩ := hT
    exact sX2_read_43 (M := (g_wm M f (g_ml M))) (Re.sm Sm.wm s0) (Nat.zero_le _) (Nat.zero_le _) b3 (fun c1 => by simp only [if_pos c1] at hQ; exact Sm.q (Sm.tr Sm.wm (Sm.tr Sm.rf jX2_fail)) hQ) b5 b6 b7 b8 (fun c1 c2 c3 c4 => by simp only [if_neg c1, if_neg c2, if_neg c3, if_neg c4] at hQ hT; exact Sm.g (Sm.tr Sm.wm (Sm.tr (Sm.tr Sm.rf jX2_readClause) jX2_passMark)) (ih _ _ _ (s0) hT hQ)) (fun c1 c2 c3 c4 => by simp only [if_neg c1, if_neg c2, if_neg c3, if_pos c4] at hQ; exact Sm.q (Sm.tr Sm.wm (Sm.tr (Sm.tr Sm.rf jX2_readClause) jX2_passMark)) hQ) (fun c1 c2 c3 => by simp only [if_neg c1, if_neg c2, if_pos c3] at hQ; exact Sm.q (Sm.tr Sm.wm (Sm.tr Sm.rf jX2_readClause)) hQ) (fun c1 c2 => by simp only [if_neg c1, if_pos c2] at hQ; exact Sm.q (Sm.tr Sm.wm (Sm.tr Sm.rf jX2_readClause)) hQ)
def fX2_read (N : Nat) (K : Nat) (M : gM) (a0 : Nat) (x1 : Int32) : Int32 := (bX2_read_0 N K M a0 x1 (wX2_read N K M N)).1
def mX2_read (N : Nat) (K : Nat) (M : gM) (a0 : Nat) (x1 : Int32) : gM := g_wm M (bX2_read_0 N K M a0 x1 (wX2_read N K M N)).2 (g_ml M)
theorem jX2_read {N : Nat} {K : Nat} {M : gM} {a0 : Nat} {x1 : Int32} : Sm M (mX2_read N K M a0 x1) := Sm.wm
def EX2_read (N : Nat) (K : Nat) (M : gM) (a0 : Nat) (x1 : Int32) : Prop := eX2_read_0 N K M a0 x1 (vX2_read N K M N)
theorem tX2_read {N : Nat} {K : Nat} {X : gX} {d mc ms : Nat} {Q : Option Value → gM → Prop} {M : gM} {a0 : Nat} {x1 : Int32} (s0 : Re M a0) (hE : EX2_read N K M a0 x1) (hQ : Q (some (.int (fX2_read N K M a0 x1))) (mX2_read N K M a0 x1)) : Cn X (d + K + 6) mc ms kX2_read [.ref a0, .int (x1)] M Q := by
  unfold fX2_read mX2_read at hQ
  unfold bX2_read_0 at hQ
  unfold EX2_read eX2_read_0 at hE
  obtain ⟨b1, b2, hT⟩ := hE
  have ih := lpX2_read (X := X) (d := d) (mc := mc) (ms := ms) (Q := Q) N K M N
  exact sX2_read_0 s0 b1 b2 (Sm.g (Sm.tr (Sm.wi (Sm.wi (Sm.wi (Sm.wi (Sm.wi (Sm.wi (Sm.tr Sm.rf jX2_splitIntoTokens))))))) jX6_clear) (ih _ _ _ (s0) hT hQ))
/-! X8_row  -/
set_option maxRecDepth 4000 in
theorem sX8_row_0 {X : gX} {d mc ms : Nat} {Q : Option Value → gM → Prop} {M : gM} {a0 : Nat} (s0 : Ph M a0) (h1 : (¬ (g_mi M (a0 + 282) 5) = 0) → Go X (d + 4) mc ms kX8_row Q 28 [(0, .ref a0), (1, .int ((g_mi M (a0 + 282) 5))), (2, .int (0)), (3, .int (0))] [] (g_wi M a0 15 0) 0 0) (h2 : ((g_mi M (a0 + 282) 5) = 0) → Q (some (.int ((fX8_refuse a0 (-6))))) (mX8_refuse M a0 (-6))) : Cn X (d + 4) mc ms kX8_row [.ref a0] M Q := by
  refine g_meth rfl rfl (Nat.le_of_ble_eq_true rfl) rfl ?_
  refine g_aload_n 0 1 dX8_row_0 rfl rfl ?_
  refine g_getR 4 (a0 + 282) dX8_row_1 rfl flX8_61 s0.1 s0.2.2.2.2.2.2.2.2.2.2.2.2.2.2.2.2.2.1 ?_
  refine g_getI 7 dX8_row_4 rfl flX8_158 s0.2.2.2.2.2.2.2.2.2.2.2.2.2.2.2.2.2.2.1.1 ?_
  refine g_istore_n 8 [(1, .int ((g_mi M (a0 + 282) 5))), (0, .ref a0)] dX8_row_7 rfl (Nat.le_of_ble_eq_true rfl) rfl ?_
  refine g_iload_n 0 9 dX8_row_8 rfl rfl ?_
  refine g_if_ne 19 12 dX8_row_9 rfl rfl (fun c1 => ?_) (fun c1 => ?_)
  · skip
    refine g_iconst (0) 20 dX8_row_19 rfl rfl ?_
    refine g_istore_n 21 [(2, .int (0)), (1, .int ((g_mi M (a0 + 282) 5))), (0, .ref a0)] dX8_row_20 rfl (Nat.le_of_ble_eq_true rfl) rfl ?_
    refine g_aload_n 2 22 dX8_row_21 rfl rfl ?_
    refine g_iconst (0) 23 dX8_row_22 rfl rfl ?_
    refine g_putI 26 dX8_row_23 rfl flX8_165 s0.1 ?_
    refine g_iconst (0) 27 dX8_row_26 rfl rfl ?_
    refine g_istore_n 28 [(3, .int (0)), (2, .int (0)), (1, .int ((g_mi M (a0 + 282) 5))), (0, .ref a0)] dX8_row_27 rfl (Nat.le_of_ble_eq_true rfl) rfl ?_
    exact g_sub [3, 2, 1, 0] _ rfl (h1 c1)
  · skip
    refine g_aload_n 1 13 dX8_row_12 rfl rfl ?_
    refine g_bipush ((-6)) 15 dX8_row_13 rfl rfl ?_
    refine g_callV (mc1 := 0) (ms1 := 0) (b := a0) (rest := []) (av := [.int ((-6))]) kX8_refuse 18 dX8_row_15 rfl rfl mbX8_146 imX8_refuse seX8_refuse gcl8.1 s0.1 (Nat.le_of_ble_eq_true rfl) (Nat.zero_le _) (Nat.zero_le _) (tX8_refuse s0 ?_)
    show Go X (d + 4) mc ms kX8_row Q 18 [(1, .int ((g_mi M (a0 + 282) 5))), (0, .ref a0)] [.int ((fX8_refuse a0 (-6)))] (mX8_refuse M a0 (-6)) 0 0
    exact g_iret dX8_row_18 rfl (Nat.zero_le _) (Nat.zero_le _) (h2 c1)

set_option maxRecDepth 4000 in
theorem sX8_row_28 {N : Nat} {X : gX} {d mc ms : Nat} {Q : Option Value → gM → Prop} {M : gM} {c z : Nat} {a0 : Nat} {x1 : Int32} {x2 : Int32} {x3 : Int32} (s0 : Ph M a0) (w1 : c ≤ mc) (w2 : z ≤ ms) (h3 : (x1 ≤ x3) → Q (some (.int ((fX8_accept a0 x2)))) (mX8_accept (mX0_clear (g_wi M (a0 + 282) 5 0) (a0 + 13)) a0 x2)) (h4 : (¬ x1 ≤ x3) → (x1 ≤ (x3 + 1)) → Go X (d + 4) mc ms kX8_row Q 28 [(0, .ref a0), (1, .int (x1)), (2, .int (x2)), (3, .int ((x3 + 2)))] [] (g_wi M a0 15 ((g_mi M a0 15) + 1)) c z) (b5 : (¬ x1 ≤ x3) → (¬ x1 ≤ (x3 + 1)) → vp_in (x3) 400) (b6 : (¬ x1 ≤ x3) → (¬ x1 ≤ (x3 + 1)) → vp_in ((x3 + 1)) 400) (b7 : (¬ x1 ≤ x3) → (¬ x1 ≤ (x3 + 1)) → EX8_addTo N M a0 ((a0 + 1) + 1) (((g_mi M ((a0 + 282) + 1) (x3).toNatClampNeg) * 4) + (g_mi M ((a0 + 282) + 1) ((x3 + 1)).toNatClampNeg))) (h8 : (¬ x1 ≤ x3) → (¬ x1 ≤ (x3 + 1)) → ((fX8_addTo N M a0 ((a0 + 1) + 1) (((g_mi M ((a0 + 282) + 1) (x3).toNatClampNeg) * 4) + (g_mi M ((a0 + 282) + 1) ((x3 + 1)).toNatClampNeg))) < 0) → Go X (d + 4) mc ms kX8_row Q 28 [(0, .ref a0), (1, .int (x1)), (2, .int (x2)), (3, .int ((x3 + 2)))] [] (g_wi (mX8_addTo N M a0 ((a0 + 1) + 1) (((g_mi M ((a0 + 282) + 1) (x3).toNatClampNeg) * 4) + (g_mi M ((a0 + 282) + 1) ((x3 + 1)).toNatClampNeg))) a0 15 ((g_mi (mX8_addTo N M a0 ((a0 + 1) + 1) (((g_mi M ((a0 + 282) + 1) (x3).toNatClampNeg) * 4) + (g_mi M ((a0 + 282) + 1) ((x3 + 1)).toNatClampNeg))) a0 15) + 1)) c z) (h9 : (¬ x1 ≤ x3) → (¬ x1 ≤ (x3 + 1)) → (¬ (fX8_addTo N M a0 ((a0 + 1) + 1) (((g_mi M ((a0 + 282) + 1) (x3).toNatClampNeg) * 4) + (g_mi M ((a0 + 282) + 1) ((x3 + 1)).toNatClampNeg))) < 0) → Go X (d + 4) mc ms kX8_row Q 28 [(0, .ref a0), (1, .int (x1)), (2, .int ((x2 + 1))), (3, .int ((x3 + 2)))] [] (mX8_addTo N M a0 ((a0 + 1) + 1) (((g_mi M ((a0 + 282) + 1) (x3).toNatClampNeg) * 4) + (g_mi M ((a0 + 282) + 1) ((x3 + 1)).toNatClampNeg))) c z) : Go X (d + 4) mc ms kX8_row Q 28 [(0, .ref a0), (1, .int (x1)), (2, .int (x2)), (3, .int (x3))] [] M c z := by
  refine g_iload_n 3 29 dX8_row_28 rfl rfl ?_
  refine g_iload_n 1 30 dX8_row_29 rfl rfl ?_
  refine g_icmp_ge 111 33 dX8_row_30 rfl rfl (fun c1 => ?_) (fun c1 => ?_)
  · skip
    refine g_aload_n 0 112 dX8_row_111 rfl rfl ?_
    refine g_getR 115 (a0 + 282) dX8_row_112 rfl flX8_61 s0.1 s0.2.2.2.2.2.2.2.2.2.2.2.2.2.2.2.2.2.1 ?_
    refine g_iconst (0) 116 dX8_row_115 rfl rfl ?_
    refine g_putI 119 dX8_row_116 rfl flX8_158 s0.2.2.2.2.2.2.2.2.2.2.2.2.2.2.2.2.2.2.1.1 ?_
    refine g_aload_n 0 120 dX8_row_119 rfl rfl ?_
    refine g_getR 123 (a0 + 13) dX8_row_120 rfl flX8_25 (Sm.k (Sm.wi Sm.rf) s0.1) (Sm.r (Sm.wi Sm.rf) s0.2.2.2.2.2.1) ?_
    refine g_callV (mc1 := 0) (ms1 := 0) (b := (a0 + 13)) (rest := []) (av := []) kX0_clear 126 dX8_row_123 rfl rfl mbX8_152 imX0_clear seX0_clear gcl0.1 (Sm.k (Sm.wi Sm.rf) s0.2.2.2.2.2.2.1.1) (Nat.le_of_ble_eq_true rfl) (w1) (w2) (tX0_clear (Hi.sm (Sm.wi Sm.rf) s0.2.2.2.2.2.2.1) ?_)
    show Go X (d + 4) mc ms kX8_row Q 126 [(0, .ref a0), (1, .int (x1)), (2, .int (x2)), (3, .int (x3))] [] (mX0_clear (g_wi M (a0 + 282) 5 0) (a0 + 13)) c z
    refine g_aload_n 0 127 dX8_row_126 rfl rfl ?_
    refine g_iload_n 2 128 dX8_row_127 rfl rfl ?_
    refine g_callV (mc1 := 0) (ms1 := 0) (b := a0) (rest := []) (av := [.int (x2)]) kX8_accept 131 dX8_row_128 rfl rfl mbX8_155 imX8_accept seX8_accept gcl8.1 (Sm.k (Sm.tr (Sm.wi Sm.rf) jX0_clear) s0.1) (Nat.le_of_ble_eq_true rfl) (w1) (w2) (tX8_accept (Ph.sm (Sm.tr (Sm.wi Sm.rf) jX0_clear) s0) ?_)
    show Go X (d + 4) mc ms kX8_row Q 131 [(0, .ref a0), (1, .int (x1)), (2, .int (x2)), (3, .int (x3))] [.int ((fX8_accept a0 x2))] (mX8_accept (mX0_clear (g_wi M (a0 + 282) 5 0) (a0 + 13)) a0 x2) c z
    exact g_iret dX8_row_131 rfl (w1) (w2) (h3 c1)
  · skip
    refine g_iload_n 3 34 dX8_row_33 rfl rfl ?_
    refine g_iconst (1) 35 dX8_row_34 rfl rfl ?_
    refine g_iadd 36 dX8_row_35 rfl ?_
    refine g_iload_n 1 37 dX8_row_36 rfl rfl ?_
    refine g_icmp_ge 44 40 dX8_row_37 rfl rfl (fun c2 => ?_) (fun c2 => ?_)
    · skip
      refine g_iconst (0) 45 dX8_row_44 rfl rfl ?_
      refine g_istore 47 [(4, .int (0)), (0, .ref a0), (1, .int (x1)), (2, .int (x2)), (3, .int (x3))] dX8_row_45 rfl (Nat.le_of_ble_eq_true rfl) rfl ?_
      refine g_iload 0 49 dX8_row_47 rfl rfl ?_
      refine g_if_eq 95 52 dX8_row_49 rfl rfl (fun _ => ?_) (fun q => absurd q (by decide))
      refine g_aload_n 1 96 dX8_row_95 rfl rfl ?_
      refine g_dup 97 dX8_row_96 rfl rfl ?_
      refine g_getI 100 dX8_row_97 rfl flX8_165 s0.1 ?_
      refine g_iconst (1) 101 dX8_row_100 rfl rfl ?_
      refine g_iadd 102 dX8_row_101 rfl ?_
      refine g_putI 105 dX8_row_102 rfl flX8_165 s0.1 ?_
      refine g_iinc _ 4 108 [(3, .int ((x3 + 2))), (4, .int (0)), (0, .ref a0), (1, .int (x1)), (2, .int (x2))] dX8_row_105 rfl rfl rfl (Nat.le_of_ble_eq_true rfl) rfl ?_
      refine g_goto 28 dX8_row_108 rfl ?_
      exact g_sub [2, 3, 4, 0] _ rfl (h4 c1 c2)
    · skip
      refine g_iconst (1) 41 dX8_row_40 rfl rfl ?_
      refine g_goto 45 dX8_row_41 rfl ?_
      refine g_istore 47 [(4, .int (1)), (0, .ref a0), (1, .int (x1)), (2, .int (x2)), (3, .int (x3))] dX8_row_45 rfl (Nat.le_of_ble_eq_true rfl) rfl ?_
      refine g_iload 0 49 dX8_row_47 rfl rfl ?_
      refine g_if_eq 95 52 dX8_row_49 rfl rfl (fun q => absurd q (by decide)) (fun _ => ?_)
      refine g_aload_n 1 53 dX8_row_52 rfl rfl ?_
      refine g_aload_n 1 54 dX8_row_53 rfl rfl ?_
      refine g_getR 57 (a0 + 1) dX8_row_54 rfl flX8_14 s0.1 s0.2.1 ?_
      refine g_getR 60 ((a0 + 1) + 1) dX8_row_57 rfl flX8_102 s0.2.2.1.1 s0.2.2.1.2.1 ?_
      refine g_aload_n 1 61 dX8_row_60 rfl rfl ?_
      refine g_getR 64 (a0 + 282) dX8_row_61 rfl flX8_61 s0.1 s0.2.2.2.2.2.2.2.2.2.2.2.2.2.2.2.2.2.1 ?_
      refine g_getR 67 ((a0 + 282) + 1) dX8_row_64 rfl flX8_168 s0.2.2.2.2.2.2.2.2.2.2.2.2.2.2.2.2.2.2.1.1 s0.2.2.2.2.2.2.2.2.2.2.2.2.2.2.2.2.2.2.1.2.1 ?_
      refine g_iload_n 4 68 dX8_row_67 rfl rfl ?_
      refine h_iaload 69 (x3).toNatClampNeg dX8_row_68 rfl rfl s0.2.2.2.2.2.2.2.2.2.2.2.2.2.2.2.2.2.2.1.2.2.1 (b5 c1 c2) ?_
      refine g_iconst (4) 70 dX8_row_69 rfl rfl ?_
      refine g_imul 71 dX8_row_70 rfl ?_
      refine g_aload_n 1 72 dX8_row_71 rfl rfl ?_
      refine g_getR 75 (a0 + 282) dX8_row_72 rfl flX8_61 s0.1 s0.2.2.2.2.2.2.2.2.2.2.2.2.2.2.2.2.2.1 ?_
      refine g_getR 78 ((a0 + 282) + 1) dX8_row_75 rfl flX8_168 s0.2.2.2.2.2.2.2.2.2.2.2.2.2.2.2.2.2.2.1.1 s0.2.2.2.2.2.2.2.2.2.2.2.2.2.2.2.2.2.2.1.2.1 ?_
      refine g_iload_n 4 79 dX8_row_78 rfl rfl ?_
      refine g_iconst (1) 80 dX8_row_79 rfl rfl ?_
      refine g_iadd 81 dX8_row_80 rfl ?_
      refine h_iaload 82 ((x3 + 1)).toNatClampNeg dX8_row_81 rfl rfl s0.2.2.2.2.2.2.2.2.2.2.2.2.2.2.2.2.2.2.1.2.2.1 (b6 c1 c2) ?_
      refine g_iadd 83 dX8_row_82 rfl ?_
      refine g_callV (mc1 := 0) (ms1 := 0) (b := a0) (rest := []) (av := [.ref ((a0 + 1) + 1), .int ((((g_mi M ((a0 + 282) + 1) (x3).toNatClampNeg) * 4) + (g_mi M ((a0 + 282) + 1) ((x3 + 1)).toNatClampNeg)))]) kX8_addTo 86 dX8_row_83 rfl rfl mbX8_171 imX8_addTo seX8_addTo gcl8.1 s0.1 (Nat.le_of_ble_eq_true rfl) (w1) (w2) (tX8_addTo (N := N) s0 s0.2.2.1.2.2.1 (b7 c1 c2) ?_)
      show Go X (d + 4) mc ms kX8_row Q 86 [(4, .int (1)), (0, .ref a0), (1, .int (x1)), (2, .int (x2)), (3, .int (x3))] [.int ((fX8_addTo N M a0 ((a0 + 1) + 1) (((g_mi M ((a0 + 282) + 1) (x3).toNatClampNeg) * 4) + (g_mi M ((a0 + 282) + 1) ((x3 + 1)).toNatClampNeg))))] (mX8_addTo N M a0 ((a0 + 1) + 1) (((g_mi M ((a0 + 282) + 1) (x3).toNatClampNeg) * 4) + (g_mi M ((a0 + 282) + 1) ((x3 + 1)).toNatClampNeg))) c z
      refine g_if_lt 95 89 dX8_row_86 rfl rfl (fun c3 => ?_) (fun c3 => ?_)
      · skip
        refine g_aload_n 1 96 dX8_row_95 rfl rfl ?_
        refine g_dup 97 dX8_row_96 rfl rfl ?_
        refine g_getI 100 dX8_row_97 rfl flX8_165 (Sm.k (Sm.tr Sm.rf jX8_addTo) s0.1) ?_
        refine g_iconst (1) 101 dX8_row_100 rfl rfl ?_
        refine g_iadd 102 dX8_row_101 rfl ?_
        refine g_putI 105 dX8_row_102 rfl flX8_165 (Sm.k (Sm.tr Sm.rf jX8_addTo) s0.1) ?_
        refine g_iinc _ 4 108 [(3, .int ((x3 + 2))), (4, .int (1)), (0, .ref a0), (1, .int (x1)), (2, .int (x2))] dX8_row_105 rfl rfl rfl (Nat.le_of_ble_eq_true rfl) rfl ?_
        refine g_goto 28 dX8_row_108 rfl ?_
        exact g_sub [2, 3, 4, 0] _ rfl (h8 c1 c2 c3)
      · skip
        refine g_iinc _ 3 92 [(2, .int ((x2 + 1))), (4, .int (1)), (0, .ref a0), (1, .int (x1)), (3, .int (x3))] dX8_row_89 rfl rfl rfl (Nat.le_of_ble_eq_true rfl) rfl ?_
        refine g_goto 105 dX8_row_92 rfl ?_
        refine g_iinc _ 4 108 [(3, .int ((x3 + 2))), (2, .int ((x2 + 1))), (4, .int (1)), (0, .ref a0), (1, .int (x1))] dX8_row_105 rfl rfl rfl (Nat.le_of_ble_eq_true rfl) rfl ?_
        refine g_goto 28 dX8_row_108 rfl ?_
        exact g_sub [3, 4, 1, 0] _ rfl (h9 c1 c2 c3)

def bX8_row_0 (N : Nat) (M : gM) (a0 : Nat) (k : Nat → (Nat → Nat → Int32) → Nat → Int32 → Int32 → Int32 → Int32 × (Nat → Nat → Int32)) : Int32 × (Nat → Nat → Int32) := (if (g_mi M (a0 + 282) 5) = 0 then ((fX8_refuse a0 (-6)), g_mi (mX8_refuse M a0 (-6))) else (k 0 (g_mi (g_wi M a0 15 0)) a0 (g_mi M (a0 + 282) 5) 0 0))
def eX8_row_0 (N : Nat) (M : gM) (a0 : Nat) (k : Nat → (Nat → Nat → Int32) → Nat → Int32 → Int32 → Int32 → Prop) : Prop := (if (g_mi M (a0 + 282) 5) = 0 then True else (k 0 (g_mi (g_wi M a0 15 0)) a0 (g_mi M (a0 + 282) 5) 0 0))
def bX8_row_28 (N : Nat) (M : gM) (f : Nat → Nat → Int32) (a0 : Nat) (x1 : Int32) (x2 : Int32) (x3 : Int32) (k : Nat → (Nat → Nat → Int32) → Nat → Int32 → Int32 → Int32 → Int32 × (Nat → Nat → Int32)) : Int32 × (Nat → Nat → Int32) := (if x1 ≤ x3 then ((fX8_accept a0 x2), g_mi (mX8_accept (mX0_clear (g_wi (g_wm M f (g_ml M)) (a0 + 282) 5 0) (a0 + 13)) a0 x2)) else (if x1 ≤ (x3 + 1) then (k 0 (g_mi (g_wi (g_wm M f (g_ml M)) a0 15 ((g_mi (g_wm M f (g_ml M)) a0 15) + 1))) a0 x1 x2 (x3 + 2)) else (if (fX8_addTo N (g_wm M f (g_ml M)) a0 ((a0 + 1) + 1) (((g_mi (g_wm M f (g_ml M)) ((a0 + 282) + 1) (x3).toNatClampNeg) * 4) + (g_mi (g_wm M f (g_ml M)) ((a0 + 282) + 1) ((x3 + 1)).toNatClampNeg))) < 0 then (k 0 (g_mi (g_wi (mX8_addTo N (g_wm M f (g_ml M)) a0 ((a0 + 1) + 1) (((g_mi (g_wm M f (g_ml M)) ((a0 + 282) + 1) (x3).toNatClampNeg) * 4) + (g_mi (g_wm M f (g_ml M)) ((a0 + 282) + 1) ((x3 + 1)).toNatClampNeg))) a0 15 ((g_mi (mX8_addTo N (g_wm M f (g_ml M)) a0 ((a0 + 1) + 1) (((g_mi (g_wm M f (g_ml M)) ((a0 + 282) + 1) (x3).toNatClampNeg) * 4) + (g_mi (g_wm M f (g_ml M)) ((a0 + 282) + 1) ((x3 + 1)).toNatClampNeg))) a0 15) + 1))) a0 x1 x2 (x3 + 2)) else (k 0 (g_mi (mX8_addTo N (g_wm M f (g_ml M)) a0 ((a0 + 1) + 1) (((g_mi (g_wm M f (g_ml M)) ((a0 + 282) + 1) (x3).toNatClampNeg) * 4) + (g_mi (g_wm M f (g_ml M)) ((a0 + 282) + 1) ((x3 + 1)).toNatClampNeg)))) a0 x1 (x2 + 1) (x3 + 2)))))
def eX8_row_28 (N : Nat) (M : gM) (f : Nat → Nat → Int32) (a0 : Nat) (x1 : Int32) (x2 : Int32) (x3 : Int32) (k : Nat → (Nat → Nat → Int32) → Nat → Int32 → Int32 → Int32 → Prop) : Prop := ((¬ x1 ≤ x3) → (¬ x1 ≤ (x3 + 1)) → vp_in (x3) 400) ∧ ((¬ x1 ≤ x3) → (¬ x1 ≤ (x3 + 1)) → vp_in ((x3 + 1)) 400) ∧ ((¬ x1 ≤ x3) → (¬ x1 ≤ (x3 + 1)) → EX8_addTo N (g_wm M f (g_ml M)) a0 ((a0 + 1) + 1) (((g_mi (g_wm M f (g_ml M)) ((a0 + 282) + 1) (x3).toNatClampNeg) * 4) + (g_mi (g_wm M f (g_ml M)) ((a0 + 282) + 1) ((x3 + 1)).toNatClampNeg))) ∧ (if x1 ≤ x3 then True else (if x1 ≤ (x3 + 1) then (k 0 (g_mi (g_wi (g_wm M f (g_ml M)) a0 15 ((g_mi (g_wm M f (g_ml M)) a0 15) + 1))) a0 x1 x2 (x3 + 2)) else (if (fX8_addTo N (g_wm M f (g_ml M)) a0 ((a0 + 1) + 1) (((g_mi (g_wm M f (g_ml M)) ((a0 + 282) + 1) (x3).toNatClampNeg) * 4) + (g_mi (g_wm M f (g_ml M)) ((a0 + 282) + 1) ((x3 + 1)).toNatClampNeg))) < 0 then (k 0 (g_mi (g_wi (mX8_addTo N (g_wm M f (g_ml M)) a0 ((a0 + 1) + 1) (((g_mi (g_wm M f (g_ml M)) ((a0 + 282) + 1) (x3).toNatClampNeg) * 4) + (g_mi (g_wm M f (g_ml M)) ((a0 + 282) + 1) ((x3 + 1)).toNatClampNeg))) a0 15 ((g_mi (mX8_addTo N (g_wm M f (g_ml M)) a0 ((a0 + 1) + 1) (((g_mi (g_wm M f (g_ml M)) ((a0 + 282) + 1) (x3).toNatClampNeg) * 4) + (g_mi (g_wm M f (g_ml M)) ((a0 + 282) + 1) ((x3 + 1)).toNatClampNeg))) a0 15) + 1))) a0 x1 x2 (x3 + 2)) else (k 0 (g_mi (mX8_addTo N (g_wm M f (g_ml M)) a0 ((a0 + 1) + 1) (((g_mi (g_wm M f (g_ml M)) ((a0 + 282) + 1) (x3).toNatClampNeg) * 4) + (g_mi (g_wm M f (g_ml M)) ((a0 + 282) + 1) ((x3 + 1)).toNatClampNeg)))) a0 x1 (x2 + 1) (x3 + 2)))))
def wX8_row (N : Nat) (M : gM) : Nat → Nat → (Nat → Nat → Int32) → Nat → Int32 → Int32 → Int32 → Int32 × (Nat → Nat → Int32)
  | 0, _, f, _, _, _, _ => (0, f)
  | n + 1, h, f, a0, x1, x2, x3 => bX8_row_28 N M f a0 x1 x2 x3 (wX8_row N M n)
def vX8_row (N : Nat) (M : gM) : Nat → Nat → (Nat → Nat → Int32) → Nat → Int32 → Int32 → Int32 → Prop
  | 0, _, _, _, _, _, _ => False
  | n + 1, h, f, a0, x1, x2, x3 => eX8_row_28 N M f a0 x1 x2 x3 (vX8_row N M n)
set_option maxRecDepth 10000 in
theorem lpX8_row {X : gX} {d mc ms : Nat} {Q : Option Value → gM → Prop} (N : Nat) (M : gM) : ∀ n : Nat, (∀ (f : Nat → Nat → Int32) (a0 : Nat) (x1 : Int32) (x2 : Int32) (x3 : Int32), Ph M a0 → vX8_row N M n 0 f a0 x1 x2 x3 → Q (some (.int (wX8_row N M n 0 f a0 x1 x2 x3).1)) (g_wm M (wX8_row N M n 0 f a0 x1 x2 x3).2 (g_ml M)) → Go X (d + 4) mc ms kX8_row Q 28 [(0, .ref a0), (1, .int (x1)), (2, .int (x2)), (3, .int (x3))] [] (g_wm M f (g_ml M)) 0 0) := by
  intro n
  induction n with
  | zero => exact fun _ _ _ _ _ _ h _ => h.elim
  | succ n ih =>
    intro f a0 x1 x2 x3 s0 hT hQ
    rw [vX8_row] at hT
    rw [wX8_row] at hQ
    unfold bX8_row_28 at hQ
    unfold eX8_row_28 at hT
    obtain ⟨b5, b6, b7, hT⟩ := hT
    exact sX8_row_28 (M := (g_wm M f (g_ml M))) (Ph.sm Sm.wm s0) (Nat.zero_le _) (Nat.zero_le _) (fun c1 => by simp only [if_pos c1] at hQ; exact Sm.q (Sm.tr Sm.wm (Sm.tr (Sm.tr (Sm.wi Sm.rf) jX0_clear) jX8_accept)) hQ) (fun c1 c2 => by simp only [if_neg c1, if_pos c2] at hQ hT; exact Sm.g (Sm.tr Sm.wm (Sm.wi Sm.rf)) (ih _ _ _ _ _ (s0) hT hQ)) b5 b6 b7 (fun c1 c2 c3 => by simp only [if_neg c1, if_neg c2, if_pos c3] at hQ hT; exact Sm.g (Sm.tr Sm.wm (Sm.wi (Sm.tr Sm.rf jX8_addTo))) (ih _ _ _ _ _ (s0) hT hQ)) (fun c1 c2 c3 => by simp only [if_neg c1, if_neg c2, if_neg c3] at hQ hT; exact Sm.g (Sm.tr Sm.wm (Sm.tr Sm.rf jX8_addTo)) (ih _ _ _ _ _ (s0) hT hQ))
def fX8_row (N : Nat) (M : gM) (a0 : Nat) : Int32 := (bX8_row_0 N M a0 (wX8_row N M N)).1
def mX8_row (N : Nat) (M : gM) (a0 : Nat) : gM := g_wm M (bX8_row_0 N M a0 (wX8_row N M N)).2 (g_ml M)
theorem jX8_row {N : Nat} {M : gM} {a0 : Nat} : Sm M (mX8_row N M a0) := Sm.wm
def EX8_row (N : Nat) (M : gM) (a0 : Nat) : Prop := eX8_row_0 N M a0 (vX8_row N M N)
theorem tX8_row {N : Nat} {X : gX} {d mc ms : Nat} {Q : Option Value → gM → Prop} {M : gM} {a0 : Nat} (s0 : Ph M a0) (hE : EX8_row N M a0) (hQ : Q (some (.int (fX8_row N M a0))) (mX8_row N M a0)) : Cn X (d + 4) mc ms kX8_row [.ref a0] M Q := by
  unfold fX8_row mX8_row at hQ
  unfold bX8_row_0 at hQ
  unfold EX8_row eX8_row_0 at hE
  have hT := hE
  have ih := lpX8_row (X := X) (d := d) (mc := mc) (ms := ms) (Q := Q) N M N
  exact sX8_row_0 s0 (fun c1 => by simp only [if_neg c1] at hQ hT; exact Sm.g (Sm.wi Sm.rf) (ih _ _ _ _ _ (s0) hT hQ)) (fun c1 => by simp only [if_pos c1] at hQ; exact Sm.q (Sm.tr Sm.rf jX8_refuse) hQ)
/-! X8_carryOut  -/
set_option maxRecDepth 4000 in
theorem sX8_carryOut_0 {N : Nat} {X : gX} {d mc ms : Nat} {Q : Option Value → gM → Prop} {M : gM} {a0 : Nat} {a1 : Nat} {x2 : Int32} {x3 : Int32} (s0 : Ph M a0) (s1 : St M a1) (b1 : (x2 = 0) → EX8_addTo N M a0 a1 x3) (h2 : (x2 = 0) → Q (some (.int ((fX8_addTo N M a0 a1 x3)))) (mX8_addTo N M a0 a1 x3)) (b3 : (¬ x2 = 0) → (x2 = 1) → EX8_takeFrom N M a1 x3) (h4 : (¬ x2 = 0) → (x2 = 1) → Q (some (.int ((fX8_takeFrom N M a1 x3)))) (mX8_takeFrom N M a1 x3)) (h5 : (¬ x2 = 0) → (¬ x2 = 1) → (x2 = 2) → Q (some (.int ((fX8_setSide M a1 x3)))) (mX8_setSide M a1 x3)) (h6 : (¬ x2 = 0) → (¬ x2 = 1) → (¬ x2 = 2) → (x2 = 3) → Q (some (.int ((fX8_setSeed M a1 x3)))) (mX8_setSeed M a1 x3)) (b7 : (¬ x2 = 0) → (¬ x2 = 1) → (¬ x2 = 2) → (¬ x2 = 3) → EX8_buildOn N M a0 a1) (h8 : (¬ x2 = 0) → (¬ x2 = 1) → (¬ x2 = 2) → (¬ x2 = 3) → Q (some (.int ((fX8_buildOn N M a0 a1)))) (mX8_buildOn N M a0 a1)) : Cn X (d + 5) mc ms kX8_carryOut [.ref a0, .ref a1, .int (x2), .int (x3)] M Q := by
  refine g_meth rfl rfl (Nat.le_of_ble_eq_true rfl) rfl ?_
  refine g_iload_n 2 1 dX8_carryOut_0 rfl rfl ?_
  by_cases c1 : x2 = 0
  · refine h_tabIn (0) 32 dX8_carryOut_1 c1 (by decide) (by decide) rfl rfl ?_
    refine g_aload_n 0 33 dX8_carryOut_32 rfl rfl ?_
    refine g_aload_n 1 34 dX8_carryOut_33 rfl rfl ?_
    refine g_iload_n 3 35 dX8_carryOut_34 rfl rfl ?_
    refine g_callV (mc1 := 0) (ms1 := 0) (b := a0) (rest := []) (av := [.ref a1, .int (x3)]) kX8_addTo 38 dX8_carryOut_35 rfl rfl mbX8_171 imX8_addTo seX8_addTo gcl8.1 s0.1 (Nat.le_of_ble_eq_true rfl) (Nat.zero_le _) (Nat.zero_le _) (tX8_addTo (N := N) s0 s1 (b1 c1) ?_)
    show Go X (d + 5) mc ms kX8_carryOut Q 38 [(0, .ref a0), (1, .ref a1), (2, .int (x2)), (3, .int (x3))] [.int ((fX8_addTo N M a0 a1 x3))] (mX8_addTo N M a0 a1 x3) 0 0
    exact g_iret dX8_carryOut_38 rfl (Nat.zero_le _) (Nat.zero_le _) (h2 c1)
  by_cases c2 : x2 = 1
  · refine h_tabIn (1) 39 dX8_carryOut_1 c2 (by decide) (by decide) rfl rfl ?_
    refine g_aload_n 1 40 dX8_carryOut_39 rfl rfl ?_
    refine g_iload_n 3 41 dX8_carryOut_40 rfl rfl ?_
    refine g_callS (mc1 := 0) (ms1 := 0) (rest := []) (av := [.ref a1, .int (x3)]) kX8_takeFrom 44 dX8_carryOut_41 rfl rfl mbX8_347 smX8_takeFrom (Nat.le_of_ble_eq_true rfl) (Nat.zero_le _) (Nat.zero_le _) (tX8_takeFrom (N := N) s1 (b3 c1 c2) ?_)
    show Go X (d + 5) mc ms kX8_carryOut Q 44 [(0, .ref a0), (1, .ref a1), (2, .int (x2)), (3, .int (x3))] [.int ((fX8_takeFrom N M a1 x3))] (mX8_takeFrom N M a1 x3) 0 0
    exact g_iret dX8_carryOut_44 rfl (Nat.zero_le _) (Nat.zero_le _) (h4 c1 c2)
  by_cases c3 : x2 = 2
  · refine h_tabIn (2) 45 dX8_carryOut_1 c3 (by decide) (by decide) rfl rfl ?_
    refine g_aload_n 1 46 dX8_carryOut_45 rfl rfl ?_
    refine g_iload_n 3 47 dX8_carryOut_46 rfl rfl ?_
    refine g_callS (mc1 := 0) (ms1 := 0) (rest := []) (av := [.ref a1, .int (x3)]) kX8_setSide 50 dX8_carryOut_47 rfl rfl mbX8_350 smX8_setSide (Nat.le_of_ble_eq_true rfl) (Nat.zero_le _) (Nat.zero_le _) (tX8_setSide s1 ?_)
    show Go X (d + 5) mc ms kX8_carryOut Q 50 [(0, .ref a0), (1, .ref a1), (2, .int (x2)), (3, .int (x3))] [.int ((fX8_setSide M a1 x3))] (mX8_setSide M a1 x3) 0 0
    exact g_iret dX8_carryOut_50 rfl (Nat.zero_le _) (Nat.zero_le _) (h5 c1 c2 c3)
  by_cases c4 : x2 = 3
  · refine h_tabIn (3) 51 dX8_carryOut_1 c4 (by decide) (by decide) rfl rfl ?_
    refine g_aload_n 1 52 dX8_carryOut_51 rfl rfl ?_
    refine g_iload_n 3 53 dX8_carryOut_52 rfl rfl ?_
    refine g_callS (mc1 := 0) (ms1 := 0) (rest := []) (av := [.ref a1, .int (x3)]) kX8_setSeed 56 dX8_carryOut_53 rfl rfl mbX8_353 smX8_setSeed (Nat.le_of_ble_eq_true rfl) (Nat.zero_le _) (Nat.zero_le _) (tX8_setSeed s1 ?_)
    show Go X (d + 5) mc ms kX8_carryOut Q 56 [(0, .ref a0), (1, .ref a1), (2, .int (x2)), (3, .int (x3))] [.int ((fX8_setSeed M a1 x3))] (mX8_setSeed M a1 x3) 0 0
    exact g_iret dX8_carryOut_56 rfl (Nat.zero_le _) (Nat.zero_le _) (h6 c1 c2 c3 c4)
  have tc1 := i_neT c1
  have tc2 := i_neT c2
  have tc3 := i_neT c3
  have tc4 := i_neT c4
  rw [show ((0 : Int32)).toInt = 0 from rfl] at tc1
  rw [show ((1 : Int32)).toInt = 1 from rfl] at tc2
  rw [show ((2 : Int32)).toInt = 2 from rfl] at tc3
  rw [show ((3 : Int32)).toInt = 3 from rfl] at tc4
  refine g_tableOut 57 dX8_carryOut_1 (by omega) rfl ?_
  refine g_aload_n 0 58 dX8_carryOut_57 rfl rfl ?_
  refine g_aload_n 1 59 dX8_carryOut_58 rfl rfl ?_
  refine g_callV (mc1 := 0) (ms1 := 0) (b := a0) (rest := []) (av := [.ref a1]) kX8_buildOn 62 dX8_carryOut_59 rfl rfl mbX8_356 imX8_buildOn seX8_buildOn gcl8.1 s0.1 (Nat.le_of_ble_eq_true rfl) (Nat.zero_le _) (Nat.zero_le _) (tX8_buildOn (N := N) s0 s1 (b7 c1 c2 c3 c4) ?_)
  show Go X (d + 5) mc ms kX8_carryOut Q 62 [(0, .ref a0), (1, .ref a1), (2, .int (x2)), (3, .int (x3))] [.int ((fX8_buildOn N M a0 a1))] (mX8_buildOn N M a0 a1) 0 0
  exact g_iret dX8_carryOut_62 rfl (Nat.zero_le _) (Nat.zero_le _) (h8 c1 c2 c3 c4)

def fX8_carryOut (N : Nat) (M : gM) (a0 : Nat) (a1 : Nat) (x2 : Int32) (x3 : Int32) : Int32 := (if x2 = 0 then (fX8_addTo N M a0 a1 x3) else (if x2 = 1 then (fX8_takeFrom N M a1 x3) else (if x2 = 2 then (fX8_setSide M a1 x3) else (if x2 = 3 then (fX8_setSeed M a1 x3) else (fX8_buildOn N M a0 a1)))))
def mX8_carryOut (N : Nat) (M : gM) (a0 : Nat) (a1 : Nat) (x2 : Int32) (x3 : Int32) : gM := g_wm M (if x2 = 0 then (g_mi (mX8_addTo N M a0 a1 x3)) else (if x2 = 1 then (g_mi (mX8_takeFrom N M a1 x3)) else (if x2 = 2 then (g_mi (mX8_setSide M a1 x3)) else (if x2 = 3 then (g_mi (mX8_setSeed M a1 x3)) else (g_mi (mX8_buildOn N M a0 a1)))))) (g_ml M)
def EX8_carryOut (N : Nat) (M : gM) (a0 : Nat) (a1 : Nat) (x2 : Int32) (x3 : Int32) : Prop := ((x2 = 0) → EX8_addTo N M a0 a1 x3) ∧ ((¬ x2 = 0) → (x2 = 1) → EX8_takeFrom N M a1 x3) ∧ ((¬ x2 = 0) → (¬ x2 = 1) → (¬ x2 = 2) → (¬ x2 = 3) → EX8_buildOn N M a0 a1)
theorem jX8_carryOut {N : Nat} {M : gM} {a0 : Nat} {a1 : Nat} {x2 : Int32} {x3 : Int32} : Sm M (mX8_carryOut N M a0 a1 x2 x3) := Sm.wm
theorem tX8_carryOut {N : Nat} {X : gX} {d mc ms : Nat} {Q : Option Value → gM → Prop} {M : gM} {a0 : Nat} {a1 : Nat} {x2 : Int32} {x3 : Int32} (s0 : Ph M a0) (s1 : St M a1) (hE : EX8_carryOut N M a0 a1 x2 x3) (hQ : Q (some (.int (fX8_carryOut N M a0 a1 x2 x3))) (mX8_carryOut N M a0 a1 x2 x3)) : Cn X (d + 5) mc ms kX8_carryOut [.ref a0, .ref a1, .int (x2), .int (x3)] M Q := by
  unfold fX8_carryOut mX8_carryOut at hQ
  obtain ⟨b1, b3, b7⟩ := hE
  exact sX8_carryOut_0 s0 s1 b1 (fun c1 => by simp only [if_pos c1] at hQ; exact Sm.q (Sm.tr Sm.rf jX8_addTo) hQ) b3 (fun c1 c2 => by simp only [if_neg c1, if_pos c2] at hQ; exact Sm.q (Sm.tr Sm.rf jX8_takeFrom) hQ) (fun c1 c2 c3 => by simp only [if_neg c1, if_neg c2, if_pos c3] at hQ; exact Sm.q (Sm.tr Sm.rf jX8_setSide) hQ) (fun c1 c2 c3 c4 => by simp only [if_neg c1, if_neg c2, if_neg c3, if_pos c4] at hQ; exact Sm.q (Sm.tr Sm.rf jX8_setSeed) hQ) b7 (fun c1 c2 c3 c4 => by simp only [if_neg c1, if_neg c2, if_neg c3, if_neg c4] at hQ; exact Sm.q (Sm.tr Sm.rf jX8_buildOn) hQ)
/-! X8_runOnce  -/
set_option maxRecDepth 4000 in
theorem sX8_runOnce_0 {N : Nat} {X : gX} {d mc ms : Nat} {Q : Option Value → gM → Prop} {M : gM} {a0 : Nat} {a1 : Nat} {n1 m1 : Nat} {x2 : Int32} {x3 : Int32} {x4 : Int32} (s0 : Ph M a0) (s1 : Tx M a1 n1 m1) (b1 : EX8_tellOrders N M a0 x3 x4) (b2 : vp_in (x2) n1) (b3 : EX4_valueOf N (mX8_tellOrders N M a0 x3 x4) (a0 + 271) a1 n1 m1 (g_mi (mX8_tellOrders N M a0 x3 x4) (a1 + 4) (x2).toNatClampNeg)) (b4 : ((fX4_valueOf N (mX8_tellOrders N M a0 x3 x4) (a0 + 271) a1 n1 m1 (g_mi (mX8_tellOrders N M a0 x3 x4) (a1 + 4) (x2).toNatClampNeg)) = 1) → vp_in (x2) n1) (b5 : ((fX4_valueOf N (mX8_tellOrders N M a0 x3 x4) (a0 + 271) a1 n1 m1 (g_mi (mX8_tellOrders N M a0 x3 x4) (a1 + 4) (x2).toNatClampNeg)) = 1) → EX4_valueOf N (mX4_valueOf N (mX8_tellOrders N M a0 x3 x4) (a0 + 271) a1 n1 m1 (g_mi (mX8_tellOrders N M a0 x3 x4) (a1 + 4) (x2).toNatClampNeg)) (a0 + 271) a1 n1 m1 (g_mi (mX4_valueOf N (mX8_tellOrders N M a0 x3 x4) (a0 + 271) a1 n1 m1 (g_mi (mX8_tellOrders N M a0 x3 x4) (a1 + 4) (x2).toNatClampNeg)) (a1 + 3) (x2).toNatClampNeg)) (b6 : ((fX4_valueOf N (mX8_tellOrders N M a0 x3 x4) (a0 + 271) a1 n1 m1 (g_mi (mX8_tellOrders N M a0 x3 x4) (a1 + 4) (x2).toNatClampNeg)) = 1) → (¬ (fX4_valueOf N (mX4_valueOf N (mX8_tellOrders N M a0 x3 x4) (a0 + 271) a1 n1 m1 (g_mi (mX8_tellOrders N M a0 x3 x4) (a1 + 4) (x2).toNatClampNeg)) (a0 + 271) a1 n1 m1 (g_mi (mX4_valueOf N (mX8_tellOrders N M a0 x3 x4) (a0 + 271) a1 n1 m1 (g_mi (mX8_tellOrders N M a0 x3 x4) (a1 + 4) (x2).toNatClampNeg)) (a1 + 3) (x2).toNatClampNeg)) = (-2147483648)) → EX0_draft (mX4_valueOf N (mX4_valueOf N (mX8_tellOrders N M a0 x3 x4) (a0 + 271) a1 n1 m1 (g_mi (mX8_tellOrders N M a0 x3 x4) (a1 + 4) (x2).toNatClampNeg)) (a0 + 271) a1 n1 m1 (g_mi (mX4_valueOf N (mX8_tellOrders N M a0 x3 x4) (a0 + 271) a1 n1 m1 (g_mi (mX8_tellOrders N M a0 x3 x4) (a1 + 4) (x2).toNatClampNeg)) (a1 + 3) (x2).toNatClampNeg)) (a0 + 135) ((a0 + 1) + 1)) (b7 : ((fX4_valueOf N (mX8_tellOrders N M a0 x3 x4) (a0 + 271) a1 n1 m1 (g_mi (mX8_tellOrders N M a0 x3 x4) (a1 + 4) (x2).toNatClampNeg)) = 1) → (¬ (fX4_valueOf N (mX4_valueOf N (mX8_tellOrders N M a0 x3 x4) (a0 + 271) a1 n1 m1 (g_mi (mX8_tellOrders N M a0 x3 x4) (a1 + 4) (x2).toNatClampNeg)) (a0 + 271) a1 n1 m1 (g_mi (mX4_valueOf N (mX8_tellOrders N M a0 x3 x4) (a0 + 271) a1 n1 m1 (g_mi (mX8_tellOrders N M a0 x3 x4) (a1 + 4) (x2).toNatClampNeg)) (a1 + 3) (x2).toNatClampNeg)) = (-2147483648)) → vp_in (x2) n1) (b8 : ((fX4_valueOf N (mX8_tellOrders N M a0 x3 x4) (a0 + 271) a1 n1 m1 (g_mi (mX8_tellOrders N M a0 x3 x4) (a1 + 4) (x2).toNatClampNeg)) = 1) → (¬ (fX4_valueOf N (mX4_valueOf N (mX8_tellOrders N M a0 x3 x4) (a0 + 271) a1 n1 m1 (g_mi (mX8_tellOrders N M a0 x3 x4) (a1 + 4) (x2).toNatClampNeg)) (a0 + 271) a1 n1 m1 (g_mi (mX4_valueOf N (mX8_tellOrders N M a0 x3 x4) (a0 + 271) a1 n1 m1 (g_mi (mX8_tellOrders N M a0 x3 x4) (a1 + 4) (x2).toNatClampNeg)) (a1 + 3) (x2).toNatClampNeg)) = (-2147483648)) → EX8_carryOut N (mX0_draft (mX4_valueOf N (mX4_valueOf N (mX8_tellOrders N M a0 x3 x4) (a0 + 271) a1 n1 m1 (g_mi (mX8_tellOrders N M a0 x3 x4) (a1 + 4) (x2).toNatClampNeg)) (a0 + 271) a1 n1 m1 (g_mi (mX4_valueOf N (mX8_tellOrders N M a0 x3 x4) (a0 + 271) a1 n1 m1 (g_mi (mX8_tellOrders N M a0 x3 x4) (a1 + 4) (x2).toNatClampNeg)) (a1 + 3) (x2).toNatClampNeg)) (a0 + 135) ((a0 + 1) + 1)) a0 ((a0 + 1) + 1) (g_mi (mX0_draft (mX4_valueOf N (mX4_valueOf N (mX8_tellOrders N M a0 x3 x4) (a0 + 271) a1 n1 m1 (g_mi (mX8_tellOrders N M a0 x3 x4) (a1 + 4) (x2).toNatClampNeg)) (a0 + 271) a1 n1 m1 (g_mi (mX4_valueOf N (mX8_tellOrders N M a0 x3 x4) (a0 + 271) a1 n1 m1 (g_mi (mX8_tellOrders N M a0 x3 x4) (a1 + 4) (x2).toNatClampNeg)) (a1 + 3) (x2).toNatClampNeg)) (a0 + 135) ((a0 + 1) + 1)) (a1 + 1) (x2).toNatClampNeg) (fX4_valueOf N (mX4_valueOf N (mX8_tellOrders N M a0 x3 x4) (a0 + 271) a1 n1 m1 (g_mi (mX8_tellOrders N M a0 x3 x4) (a1 + 4) (x2).toNatClampNeg)) (a0 + 271) a1 n1 m1 (g_mi (mX4_valueOf N (mX8_tellOrders N M a0 x3 x4) (a0 + 271) a1 n1 m1 (g_mi (mX8_tellOrders N M a0 x3 x4) (a1 + 4) (x2).toNatClampNeg)) (a1 + 3) (x2).toNatClampNeg))) (h9 : ((fX4_valueOf N (mX8_tellOrders N M a0 x3 x4) (a0 + 271) a1 n1 m1 (g_mi (mX8_tellOrders N M a0 x3 x4) (a1 + 4) (x2).toNatClampNeg)) = 1) → (¬ (fX4_valueOf N (mX4_valueOf N (mX8_tellOrders N M a0 x3 x4) (a0 + 271) a1 n1 m1 (g_mi (mX8_tellOrders N M a0 x3 x4) (a1 + 4) (x2).toNatClampNeg)) (a0 + 271) a1 n1 m1 (g_mi (mX4_valueOf N (mX8_tellOrders N M a0 x3 x4) (a0 + 271) a1 n1 m1 (g_mi (mX8_tellOrders N M a0 x3 x4) (a1 + 4) (x2).toNatClampNeg)) (a1 + 3) (x2).toNatClampNeg)) = (-2147483648)) → ((fX8_carryOut N (mX0_draft (mX4_valueOf N (mX4_valueOf N (mX8_tellOrders N M a0 x3 x4) (a0 + 271) a1 n1 m1 (g_mi (mX8_tellOrders N M a0 x3 x4) (a1 + 4) (x2).toNatClampNeg)) (a0 + 271) a1 n1 m1 (g_mi (mX4_valueOf N (mX8_tellOrders N M a0 x3 x4) (a0 + 271) a1 n1 m1 (g_mi (mX8_tellOrders N M a0 x3 x4) (a1 + 4) (x2).toNatClampNeg)) (a1 + 3) (x2).toNatClampNeg)) (a0 + 135) ((a0 + 1) + 1)) a0 ((a0 + 1) + 1) (g_mi (mX0_draft (mX4_valueOf N (mX4_valueOf N (mX8_tellOrders N M a0 x3 x4) (a0 + 271) a1 n1 m1 (g_mi (mX8_tellOrders N M a0 x3 x4) (a1 + 4) (x2).toNatClampNeg)) (a0 + 271) a1 n1 m1 (g_mi (mX4_valueOf N (mX8_tellOrders N M a0 x3 x4) (a0 + 271) a1 n1 m1 (g_mi (mX8_tellOrders N M a0 x3 x4) (a1 + 4) (x2).toNatClampNeg)) (a1 + 3) (x2).toNatClampNeg)) (a0 + 135) ((a0 + 1) + 1)) (a1 + 1) (x2).toNatClampNeg) (fX4_valueOf N (mX4_valueOf N (mX8_tellOrders N M a0 x3 x4) (a0 + 271) a1 n1 m1 (g_mi (mX8_tellOrders N M a0 x3 x4) (a1 + 4) (x2).toNatClampNeg)) (a0 + 271) a1 n1 m1 (g_mi (mX4_valueOf N (mX8_tellOrders N M a0 x3 x4) (a0 + 271) a1 n1 m1 (g_mi (mX8_tellOrders N M a0 x3 x4) (a1 + 4) (x2).toNatClampNeg)) (a1 + 3) (x2).toNatClampNeg))) < 0) → Q (some (.int ((fX8_carryOut N (mX0_draft (mX4_valueOf N (mX4_valueOf N (mX8_tellOrders N M a0 x3 x4) (a0 + 271) a1 n1 m1 (g_mi (mX8_tellOrders N M a0 x3 x4) (a1 + 4) (x2).toNatClampNeg)) (a0 + 271) a1 n1 m1 (g_mi (mX4_valueOf N (mX8_tellOrders N M a0 x3 x4) (a0 + 271) a1 n1 m1 (g_mi (mX8_tellOrders N M a0 x3 x4) (a1 + 4) (x2).toNatClampNeg)) (a1 + 3) (x2).toNatClampNeg)) (a0 + 135) ((a0 + 1) + 1)) a0 ((a0 + 1) + 1) (g_mi (mX0_draft (mX4_valueOf N (mX4_valueOf N (mX8_tellOrders N M a0 x3 x4) (a0 + 271) a1 n1 m1 (g_mi (mX8_tellOrders N M a0 x3 x4) (a1 + 4) (x2).toNatClampNeg)) (a0 + 271) a1 n1 m1 (g_mi (mX4_valueOf N (mX8_tellOrders N M a0 x3 x4) (a0 + 271) a1 n1 m1 (g_mi (mX8_tellOrders N M a0 x3 x4) (a1 + 4) (x2).toNatClampNeg)) (a1 + 3) (x2).toNatClampNeg)) (a0 + 135) ((a0 + 1) + 1)) (a1 + 1) (x2).toNatClampNeg) (fX4_valueOf N (mX4_valueOf N (mX8_tellOrders N M a0 x3 x4) (a0 + 271) a1 n1 m1 (g_mi (mX8_tellOrders N M a0 x3 x4) (a1 + 4) (x2).toNatClampNeg)) (a0 + 271) a1 n1 m1 (g_mi (mX4_valueOf N (mX8_tellOrders N M a0 x3 x4) (a0 + 271) a1 n1 m1 (g_mi (mX8_tellOrders N M a0 x3 x4) (a1 + 4) (x2).toNatClampNeg)) (a1 + 3) (x2).toNatClampNeg)))))) (mX8_carryOut N (mX0_draft (mX4_valueOf N (mX4_valueOf N (mX8_tellOrders N M a0 x3 x4) (a0 + 271) a1 n1 m1 (g_mi (mX8_tellOrders N M a0 x3 x4) (a1 + 4) (x2).toNatClampNeg)) (a0 + 271) a1 n1 m1 (g_mi (mX4_valueOf N (mX8_tellOrders N M a0 x3 x4) (a0 + 271) a1 n1 m1 (g_mi (mX8_tellOrders N M a0 x3 x4) (a1 + 4) (x2).toNatClampNeg)) (a1 + 3) (x2).toNatClampNeg)) (a0 + 135) ((a0 + 1) + 1)) a0 ((a0 + 1) + 1) (g_mi (mX0_draft (mX4_valueOf N (mX4_valueOf N (mX8_tellOrders N M a0 x3 x4) (a0 + 271) a1 n1 m1 (g_mi (mX8_tellOrders N M a0 x3 x4) (a1 + 4) (x2).toNatClampNeg)) (a0 + 271) a1 n1 m1 (g_mi (mX4_valueOf N (mX8_tellOrders N M a0 x3 x4) (a0 + 271) a1 n1 m1 (g_mi (mX8_tellOrders N M a0 x3 x4) (a1 + 4) (x2).toNatClampNeg)) (a1 + 3) (x2).toNatClampNeg)) (a0 + 135) ((a0 + 1) + 1)) (a1 + 1) (x2).toNatClampNeg) (fX4_valueOf N (mX4_valueOf N (mX8_tellOrders N M a0 x3 x4) (a0 + 271) a1 n1 m1 (g_mi (mX8_tellOrders N M a0 x3 x4) (a1 + 4) (x2).toNatClampNeg)) (a0 + 271) a1 n1 m1 (g_mi (mX4_valueOf N (mX8_tellOrders N M a0 x3 x4) (a0 + 271) a1 n1 m1 (g_mi (mX8_tellOrders N M a0 x3 x4) (a1 + 4) (x2).toNatClampNeg)) (a1 + 3) (x2).toNatClampNeg)))) (b10 : ((fX4_valueOf N (mX8_tellOrders N M a0 x3 x4) (a0 + 271) a1 n1 m1 (g_mi (mX8_tellOrders N M a0 x3 x4) (a1 + 4) (x2).toNatClampNeg)) = 1) → (¬ (fX4_valueOf N (mX4_valueOf N (mX8_tellOrders N M a0 x3 x4) (a0 + 271) a1 n1 m1 (g_mi (mX8_tellOrders N M a0 x3 x4) (a1 + 4) (x2).toNatClampNeg)) (a0 + 271) a1 n1 m1 (g_mi (mX4_valueOf N (mX8_tellOrders N M a0 x3 x4) (a0 + 271) a1 n1 m1 (g_mi (mX8_tellOrders N M a0 x3 x4) (a1 + 4) (x2).toNatClampNeg)) (a1 + 3) (x2).toNatClampNeg)) = (-2147483648)) → (¬ (fX8_carryOut N (mX0_draft (mX4_valueOf N (mX4_valueOf N (mX8_tellOrders N M a0 x3 x4) (a0 + 271) a1 n1 m1 (g_mi (mX8_tellOrders N M a0 x3 x4) (a1 + 4) (x2).toNatClampNeg)) (a0 + 271) a1 n1 m1 (g_mi (mX4_valueOf N (mX8_tellOrders N M a0 x3 x4) (a0 + 271) a1 n1 m1 (g_mi (mX8_tellOrders N M a0 x3 x4) (a1 + 4) (x2).toNatClampNeg)) (a1 + 3) (x2).toNatClampNeg)) (a0 + 135) ((a0 + 1) + 1)) a0 ((a0 + 1) + 1) (g_mi (mX0_draft (mX4_valueOf N (mX4_valueOf N (mX8_tellOrders N M a0 x3 x4) (a0 + 271) a1 n1 m1 (g_mi (mX8_tellOrders N M a0 x3 x4) (a1 + 4) (x2).toNatClampNeg)) (a0 + 271) a1 n1 m1 (g_mi (mX4_valueOf N (mX8_tellOrders N M a0 x3 x4) (a0 + 271) a1 n1 m1 (g_mi (mX8_tellOrders N M a0 x3 x4) (a1 + 4) (x2).toNatClampNeg)) (a1 + 3) (x2).toNatClampNeg)) (a0 + 135) ((a0 + 1) + 1)) (a1 + 1) (x2).toNatClampNeg) (fX4_valueOf N (mX4_valueOf N (mX8_tellOrders N M a0 x3 x4) (a0 + 271) a1 n1 m1 (g_mi (mX8_tellOrders N M a0 x3 x4) (a1 + 4) (x2).toNatClampNeg)) (a0 + 271) a1 n1 m1 (g_mi (mX4_valueOf N (mX8_tellOrders N M a0 x3 x4) (a0 + 271) a1 n1 m1 (g_mi (mX8_tellOrders N M a0 x3 x4) (a1 + 4) (x2).toNatClampNeg)) (a1 + 3) (x2).toNatClampNeg))) < 0) → vp_in (x2) n1) (b11 : ((fX4_valueOf N (mX8_tellOrders N M a0 x3 x4) (a0 + 271) a1 n1 m1 (g_mi (mX8_tellOrders N M a0 x3 x4) (a1 + 4) (x2).toNatClampNeg)) = 1) → (¬ (fX4_valueOf N (mX4_valueOf N (mX8_tellOrders N M a0 x3 x4) (a0 + 271) a1 n1 m1 (g_mi (mX8_tellOrders N M a0 x3 x4) (a1 + 4) (x2).toNatClampNeg)) (a0 + 271) a1 n1 m1 (g_mi (mX4_valueOf N (mX8_tellOrders N M a0 x3 x4) (a0 + 271) a1 n1 m1 (g_mi (mX8_tellOrders N M a0 x3 x4) (a1 + 4) (x2).toNatClampNeg)) (a1 + 3) (x2).toNatClampNeg)) = (-2147483648)) → (¬ (fX8_carryOut N (mX0_draft (mX4_valueOf N (mX4_valueOf N (mX8_tellOrders N M a0 x3 x4) (a0 + 271) a1 n1 m1 (g_mi (mX8_tellOrders N M a0 x3 x4) (a1 + 4) (x2).toNatClampNeg)) (a0 + 271) a1 n1 m1 (g_mi (mX4_valueOf N (mX8_tellOrders N M a0 x3 x4) (a0 + 271) a1 n1 m1 (g_mi (mX8_tellOrders N M a0 x3 x4) (a1 + 4) (x2).toNatClampNeg)) (a1 + 3) (x2).toNatClampNeg)) (a0 + 135) ((a0 + 1) + 1)) a0 ((a0 + 1) + 1) (g_mi (mX0_draft (mX4_valueOf N (mX4_valueOf N (mX8_tellOrders N M a0 x3 x4) (a0 + 271) a1 n1 m1 (g_mi (mX8_tellOrders N M a0 x3 x4) (a1 + 4) (x2).toNatClampNeg)) (a0 + 271) a1 n1 m1 (g_mi (mX4_valueOf N (mX8_tellOrders N M a0 x3 x4) (a0 + 271) a1 n1 m1 (g_mi (mX8_tellOrders N M a0 x3 x4) (a1 + 4) (x2).toNatClampNeg)) (a1 + 3) (x2).toNatClampNeg)) (a0 + 135) ((a0 + 1) + 1)) (a1 + 1) (x2).toNatClampNeg) (fX4_valueOf N (mX4_valueOf N (mX8_tellOrders N M a0 x3 x4) (a0 + 271) a1 n1 m1 (g_mi (mX8_tellOrders N M a0 x3 x4) (a1 + 4) (x2).toNatClampNeg)) (a0 + 271) a1 n1 m1 (g_mi (mX4_valueOf N (mX8_tellOrders N M a0 x3 x4) (a0 + 271) a1 n1 m1 (g_mi (mX8_tellOrders N M a0 x3 x4) (a1 + 4) (x2).toNatClampNeg)) (a1 + 3) (x2).toNatClampNeg))) < 0) → EX0_keep (mX8_carryOut N (mX0_draft (mX4_valueOf N (mX4_valueOf N (mX8_tellOrders N M a0 x3 x4) (a0 + 271) a1 n1 m1 (g_mi (mX8_tellOrders N M a0 x3 x4) (a1 + 4) (x2).toNatClampNeg)) (a0 + 271) a1 n1 m1 (g_mi (mX4_valueOf N (mX8_tellOrders N M a0 x3 x4) (a0 + 271) a1 n1 m1 (g_mi (mX8_tellOrders N M a0 x3 x4) (a1 + 4) (x2).toNatClampNeg)) (a1 + 3) (x2).toNatClampNeg)) (a0 + 135) ((a0 + 1) + 1)) a0 ((a0 + 1) + 1) (g_mi (mX0_draft (mX4_valueOf N (mX4_valueOf N (mX8_tellOrders N M a0 x3 x4) (a0 + 271) a1 n1 m1 (g_mi (mX8_tellOrders N M a0 x3 x4) (a1 + 4) (x2).toNatClampNeg)) (a0 + 271) a1 n1 m1 (g_mi (mX4_valueOf N (mX8_tellOrders N M a0 x3 x4) (a0 + 271) a1 n1 m1 (g_mi (mX8_tellOrders N M a0 x3 x4) (a1 + 4) (x2).toNatClampNeg)) (a1 + 3) (x2).toNatClampNeg)) (a0 + 135) ((a0 + 1) + 1)) (a1 + 1) (x2).toNatClampNeg) (fX4_valueOf N (mX4_valueOf N (mX8_tellOrders N M a0 x3 x4) (a0 + 271) a1 n1 m1 (g_mi (mX8_tellOrders N M a0 x3 x4) (a1 + 4) (x2).toNatClampNeg)) (a0 + 271) a1 n1 m1 (g_mi (mX4_valueOf N (mX8_tellOrders N M a0 x3 x4) (a0 + 271) a1 n1 m1 (g_mi (mX8_tellOrders N M a0 x3 x4) (a1 + 4) (x2).toNatClampNeg)) (a1 + 3) (x2).toNatClampNeg))) (a0 + 135) (g_mi (mX8_carryOut N (mX0_draft (mX4_valueOf N (mX4_valueOf N (mX8_tellOrders N M a0 x3 x4) (a0 + 271) a1 n1 m1 (g_mi (mX8_tellOrders N M a0 x3 x4) (a1 + 4) (x2).toNatClampNeg)) (a0 + 271) a1 n1 m1 (g_mi (mX4_valueOf N (mX8_tellOrders N M a0 x3 x4) (a0 + 271) a1 n1 m1 (g_mi (mX8_tellOrders N M a0 x3 x4) (a1 + 4) (x2).toNatClampNeg)) (a1 + 3) (x2).toNatClampNeg)) (a0 + 135) ((a0 + 1) + 1)) a0 ((a0 + 1) + 1) (g_mi (mX0_draft (mX4_valueOf N (mX4_valueOf N (mX8_tellOrders N M a0 x3 x4) (a0 + 271) a1 n1 m1 (g_mi (mX8_tellOrders N M a0 x3 x4) (a1 + 4) (x2).toNatClampNeg)) (a0 + 271) a1 n1 m1 (g_mi (mX4_valueOf N (mX8_tellOrders N M a0 x3 x4) (a0 + 271) a1 n1 m1 (g_mi (mX8_tellOrders N M a0 x3 x4) (a1 + 4) (x2).toNatClampNeg)) (a1 + 3) (x2).toNatClampNeg)) (a0 + 135) ((a0 + 1) + 1)) (a1 + 1) (x2).toNatClampNeg) (fX4_valueOf N (mX4_valueOf N (mX8_tellOrders N M a0 x3 x4) (a0 + 271) a1 n1 m1 (g_mi (mX8_tellOrders N M a0 x3 x4) (a1 + 4) (x2).toNatClampNeg)) (a0 + 271) a1 n1 m1 (g_mi (mX4_valueOf N (mX8_tellOrders N M a0 x3 x4) (a0 + 271) a1 n1 m1 (g_mi (mX8_tellOrders N M a0 x3 x4) (a1 + 4) (x2).toNatClampNeg)) (a1 + 3) (x2).toNatClampNeg))) (a1 + 1) (x2).toNatClampNeg)) (h12 : ((fX4_valueOf N (mX8_tellOrders N M a0 x3 x4) (a0 + 271) a1 n1 m1 (g_mi (mX8_tellOrders N M a0 x3 x4) (a1 + 4) (x2).toNatClampNeg)) = 1) → (¬ (fX4_valueOf N (mX4_valueOf N (mX8_tellOrders N M a0 x3 x4) (a0 + 271) a1 n1 m1 (g_mi (mX8_tellOrders N M a0 x3 x4) (a1 + 4) (x2).toNatClampNeg)) (a0 + 271) a1 n1 m1 (g_mi (mX4_valueOf N (mX8_tellOrders N M a0 x3 x4) (a0 + 271) a1 n1 m1 (g_mi (mX8_tellOrders N M a0 x3 x4) (a1 + 4) (x2).toNatClampNeg)) (a1 + 3) (x2).toNatClampNeg)) = (-2147483648)) → (¬ (fX8_carryOut N (mX0_draft (mX4_valueOf N (mX4_valueOf N (mX8_tellOrders N M a0 x3 x4) (a0 + 271) a1 n1 m1 (g_mi (mX8_tellOrders N M a0 x3 x4) (a1 + 4) (x2).toNatClampNeg)) (a0 + 271) a1 n1 m1 (g_mi (mX4_valueOf N (mX8_tellOrders N M a0 x3 x4) (a0 + 271) a1 n1 m1 (g_mi (mX8_tellOrders N M a0 x3 x4) (a1 + 4) (x2).toNatClampNeg)) (a1 + 3) (x2).toNatClampNeg)) (a0 + 135) ((a0 + 1) + 1)) a0 ((a0 + 1) + 1) (g_mi (mX0_draft (mX4_valueOf N (mX4_valueOf N (mX8_tellOrders N M a0 x3 x4) (a0 + 271) a1 n1 m1 (g_mi (mX8_tellOrders N M a0 x3 x4) (a1 + 4) (x2).toNatClampNeg)) (a0 + 271) a1 n1 m1 (g_mi (mX4_valueOf N (mX8_tellOrders N M a0 x3 x4) (a0 + 271) a1 n1 m1 (g_mi (mX8_tellOrders N M a0 x3 x4) (a1 + 4) (x2).toNatClampNeg)) (a1 + 3) (x2).toNatClampNeg)) (a0 + 135) ((a0 + 1) + 1)) (a1 + 1) (x2).toNatClampNeg) (fX4_valueOf N (mX4_valueOf N (mX8_tellOrders N M a0 x3 x4) (a0 + 271) a1 n1 m1 (g_mi (mX8_tellOrders N M a0 x3 x4) (a1 + 4) (x2).toNatClampNeg)) (a0 + 271) a1 n1 m1 (g_mi (mX4_valueOf N (mX8_tellOrders N M a0 x3 x4) (a0 + 271) a1 n1 m1 (g_mi (mX8_tellOrders N M a0 x3 x4) (a1 + 4) (x2).toNatClampNeg)) (a1 + 3) (x2).toNatClampNeg))) < 0) → Q (some (.int ((fX8_carryOut N (mX0_draft (mX4_valueOf N (mX4_valueOf N (mX8_tellOrders N M a0 x3 x4) (a0 + 271) a1 n1 m1 (g_mi (mX8_tellOrders N M a0 x3 x4) (a1 + 4) (x2).toNatClampNeg)) (a0 + 271) a1 n1 m1 (g_mi (mX4_valueOf N (mX8_tellOrders N M a0 x3 x4) (a0 + 271) a1 n1 m1 (g_mi (mX8_tellOrders N M a0 x3 x4) (a1 + 4) (x2).toNatClampNeg)) (a1 + 3) (x2).toNatClampNeg)) (a0 + 135) ((a0 + 1) + 1)) a0 ((a0 + 1) + 1) (g_mi (mX0_draft (mX4_valueOf N (mX4_valueOf N (mX8_tellOrders N M a0 x3 x4) (a0 + 271) a1 n1 m1 (g_mi (mX8_tellOrders N M a0 x3 x4) (a1 + 4) (x2).toNatClampNeg)) (a0 + 271) a1 n1 m1 (g_mi (mX4_valueOf N (mX8_tellOrders N M a0 x3 x4) (a0 + 271) a1 n1 m1 (g_mi (mX8_tellOrders N M a0 x3 x4) (a1 + 4) (x2).toNatClampNeg)) (a1 + 3) (x2).toNatClampNeg)) (a0 + 135) ((a0 + 1) + 1)) (a1 + 1) (x2).toNatClampNeg) (fX4_valueOf N (mX4_valueOf N (mX8_tellOrders N M a0 x3 x4) (a0 + 271) a1 n1 m1 (g_mi (mX8_tellOrders N M a0 x3 x4) (a1 + 4) (x2).toNatClampNeg)) (a0 + 271) a1 n1 m1 (g_mi (mX4_valueOf N (mX8_tellOrders N M a0 x3 x4) (a0 + 271) a1 n1 m1 (g_mi (mX8_tellOrders N M a0 x3 x4) (a1 + 4) (x2).toNatClampNeg)) (a1 + 3) (x2).toNatClampNeg)))))) (mX0_keep (mX8_carryOut N (mX0_draft (mX4_valueOf N (mX4_valueOf N (mX8_tellOrders N M a0 x3 x4) (a0 + 271) a1 n1 m1 (g_mi (mX8_tellOrders N M a0 x3 x4) (a1 + 4) (x2).toNatClampNeg)) (a0 + 271) a1 n1 m1 (g_mi (mX4_valueOf N (mX8_tellOrders N M a0 x3 x4) (a0 + 271) a1 n1 m1 (g_mi (mX8_tellOrders N M a0 x3 x4) (a1 + 4) (x2).toNatClampNeg)) (a1 + 3) (x2).toNatClampNeg)) (a0 + 135) ((a0 + 1) + 1)) a0 ((a0 + 1) + 1) (g_mi (mX0_draft (mX4_valueOf N (mX4_valueOf N (mX8_tellOrders N M a0 x3 x4) (a0 + 271) a1 n1 m1 (g_mi (mX8_tellOrders N M a0 x3 x4) (a1 + 4) (x2).toNatClampNeg)) (a0 + 271) a1 n1 m1 (g_mi (mX4_valueOf N (mX8_tellOrders N M a0 x3 x4) (a0 + 271) a1 n1 m1 (g_mi (mX8_tellOrders N M a0 x3 x4) (a1 + 4) (x2).toNatClampNeg)) (a1 + 3) (x2).toNatClampNeg)) (a0 + 135) ((a0 + 1) + 1)) (a1 + 1) (x2).toNatClampNeg) (fX4_valueOf N (mX4_valueOf N (mX8_tellOrders N M a0 x3 x4) (a0 + 271) a1 n1 m1 (g_mi (mX8_tellOrders N M a0 x3 x4) (a1 + 4) (x2).toNatClampNeg)) (a0 + 271) a1 n1 m1 (g_mi (mX4_valueOf N (mX8_tellOrders N M a0 x3 x4) (a0 + 271) a1 n1 m1 (g_mi (mX8_tellOrders N M a0 x3 x4) (a1 + 4) (x2).toNatClampNeg)) (a1 + 3) (x2).toNatClampNeg))) (a0 + 135) (g_mi (mX8_carryOut N (mX0_draft (mX4_valueOf N (mX4_valueOf N (mX8_tellOrders N M a0 x3 x4) (a0 + 271) a1 n1 m1 (g_mi (mX8_tellOrders N M a0 x3 x4) (a1 + 4) (x2).toNatClampNeg)) (a0 + 271) a1 n1 m1 (g_mi (mX4_valueOf N (mX8_tellOrders N M a0 x3 x4) (a0 + 271) a1 n1 m1 (g_mi (mX8_tellOrders N M a0 x3 x4) (a1 + 4) (x2).toNatClampNeg)) (a1 + 3) (x2).toNatClampNeg)) (a0 + 135) ((a0 + 1) + 1)) a0 ((a0 + 1) + 1) (g_mi (mX0_draft (mX4_valueOf N (mX4_valueOf N (mX8_tellOrders N M a0 x3 x4) (a0 + 271) a1 n1 m1 (g_mi (mX8_tellOrders N M a0 x3 x4) (a1 + 4) (x2).toNatClampNeg)) (a0 + 271) a1 n1 m1 (g_mi (mX4_valueOf N (mX8_tellOrders N M a0 x3 x4) (a0 + 271) a1 n1 m1 (g_mi (mX8_tellOrders N M a0 x3 x4) (a1 + 4) (x2).toNatClampNeg)) (a1 + 3) (x2).toNatClampNeg)) (a0 + 135) ((a0 + 1) + 1)) (a1 + 1) (x2).toNatClampNeg) (fX4_valueOf N (mX4_valueOf N (mX8_tellOrders N M a0 x3 x4) (a0 + 271) a1 n1 m1 (g_mi (mX8_tellOrders N M a0 x3 x4) (a1 + 4) (x2).toNatClampNeg)) (a0 + 271) a1 n1 m1 (g_mi (mX4_valueOf N (mX8_tellOrders N M a0 x3 x4) (a0 + 271) a1 n1 m1 (g_mi (mX8_tellOrders N M a0 x3 x4) (a1 + 4) (x2).toNatClampNeg)) (a1 + 3) (x2).toNatClampNeg))) (a1 + 1) (x2).toNatClampNeg))) (h13 : ((fX4_valueOf N (mX8_tellOrders N M a0 x3 x4) (a0 + 271) a1 n1 m1 (g_mi (mX8_tellOrders N M a0 x3 x4) (a1 + 4) (x2).toNatClampNeg)) = 1) → ((fX4_valueOf N (mX4_valueOf N (mX8_tellOrders N M a0 x3 x4) (a0 + 271) a1 n1 m1 (g_mi (mX8_tellOrders N M a0 x3 x4) (a1 + 4) (x2).toNatClampNeg)) (a0 + 271) a1 n1 m1 (g_mi (mX4_valueOf N (mX8_tellOrders N M a0 x3 x4) (a0 + 271) a1 n1 m1 (g_mi (mX8_tellOrders N M a0 x3 x4) (a1 + 4) (x2).toNatClampNeg)) (a1 + 3) (x2).toNatClampNeg)) = (-2147483648)) → Q (some (.int ((-3)))) (mX4_valueOf N (mX4_valueOf N (mX8_tellOrders N M a0 x3 x4) (a0 + 271) a1 n1 m1 (g_mi (mX8_tellOrders N M a0 x3 x4) (a1 + 4) (x2).toNatClampNeg)) (a0 + 271) a1 n1 m1 (g_mi (mX4_valueOf N (mX8_tellOrders N M a0 x3 x4) (a0 + 271) a1 n1 m1 (g_mi (mX8_tellOrders N M a0 x3 x4) (a1 + 4) (x2).toNatClampNeg)) (a1 + 3) (x2).toNatClampNeg))) (h14 : (¬ (fX4_valueOf N (mX8_tellOrders N M a0 x3 x4) (a0 + 271) a1 n1 m1 (g_mi (mX8_tellOrders N M a0 x3 x4) (a1 + 4) (x2).toNatClampNeg)) = 1) → Q (some (.int ((-2147483648)))) (mX4_valueOf N (mX8_tellOrders N M a0 x3 x4) (a0 + 271) a1 n1 m1 (g_mi (mX8_tellOrders N M a0 x3 x4) (a1 + 4) (x2).toNatClampNeg))) : Cn X (d + 6) mc ms kX8_runOnce [.ref a0, .ref a1, .int (x2), .int (x3), .int (x4)] M Q := by
  refine g_meth rfl rfl (Nat.le_of_ble_eq_true rfl) rfl ?_
  refine g_aload_n 0 1 dX8_runOnce_0 rfl rfl ?_
  refine g_getR 4 (a0 + 1) dX8_runOnce_1 rfl flX8_14 s0.1 s0.2.1 ?_
  refine g_getR 7 ((a0 + 1) + 1) dX8_runOnce_4 rfl flX8_102 s0.2.2.1.1 s0.2.2.1.2.1 ?_
  refine g_astore 9 [(5, .ref ((a0 + 1) + 1)), (0, .ref a0), (1, .ref a1), (2, .int (x2)), (3, .int (x3)), (4, .int (x4))] dX8_runOnce_7 rfl (Nat.le_of_ble_eq_true rfl) rfl ?_
  refine g_aload_n 1 10 dX8_runOnce_9 rfl rfl ?_
  refine g_iload_n 4 11 dX8_runOnce_10 rfl rfl ?_
  refine g_iload 5 13 dX8_runOnce_11 rfl rfl ?_
  refine g_callV (mc1 := 0) (ms1 := 0) (b := a0) (rest := []) (av := [.int (x3), .int (x4)]) kX8_tellOrders 16 dX8_runOnce_13 rfl rfl mbX8_372 imX8_tellOrders seX8_tellOrders gcl8.1 s0.1 (Nat.le_of_ble_eq_true rfl) (Nat.zero_le _) (Nat.zero_le _) (tX8_tellOrders (N := N) s0 (b1) ?_)
  show Go X (d + 6) mc ms kX8_runOnce Q 16 [(5, .ref ((a0 + 1) + 1)), (0, .ref a0), (1, .ref a1), (2, .int (x2)), (3, .int (x3)), (4, .int (x4))] [] (mX8_tellOrders N M a0 x3 x4) 0 0
  refine g_aload_n 1 17 dX8_runOnce_16 rfl rfl ?_
  refine g_getR 20 (a0 + 271) dX8_runOnce_17 rfl flX8_45 (Sm.k (Sm.tr Sm.rf jX8_tellOrders) s0.1) (Sm.r (Sm.tr Sm.rf jX8_tellOrders) s0.2.2.2.2.2.2.2.2.2.2.2.2.2.1) ?_
  refine g_aload_n 2 21 dX8_runOnce_20 rfl rfl ?_
  refine g_aload_n 2 22 dX8_runOnce_21 rfl rfl ?_
  refine g_getR 25 (a1 + 4) dX8_runOnce_22 rfl flX8_375 (Sm.k (Sm.tr Sm.rf jX8_tellOrders) s1.1) (Sm.r (Sm.tr Sm.rf jX8_tellOrders) s1.2.2.2.2.2.2.2.1) ?_
  refine g_iload_n 3 26 dX8_runOnce_25 rfl rfl ?_
  refine h_iaload 27 (x2).toNatClampNeg dX8_runOnce_26 rfl rfl (Sm.k (Sm.tr Sm.rf jX8_tellOrders) s1.2.2.2.2.2.2.2.2.1) (b2) ?_
  refine g_callV (mc1 := 0) (ms1 := 0) (b := (a0 + 271)) (rest := []) (av := [.ref a1, .int ((g_mi (mX8_tellOrders N M a0 x3 x4) (a1 + 4) (x2).toNatClampNeg))]) kX4_valueOf 30 dX8_runOnce_27 rfl rfl mbX8_378 imX4_valueOf seX4_valueOf gcl4.1 (Sm.k (Sm.tr Sm.rf jX8_tellOrders) s0.2.2.2.2.2.2.2.2.2.2.2.2.2.2.1.1) (Nat.le_of_ble_eq_true rfl) (Nat.zero_le _) (Nat.zero_le _) (tX4_valueOf (N := N) (Su.sm (Sm.tr Sm.rf jX8_tellOrders) s0.2.2.2.2.2.2.2.2.2.2.2.2.2.2.1) (Tx.sm (Sm.tr Sm.rf jX8_tellOrders) s1) (b3) ?_)
  show Go X (d + 6) mc ms kX8_runOnce Q 30 [(5, .ref ((a0 + 1) + 1)), (0, .ref a0), (1, .ref a1), (2, .int (x2)), (3, .int (x3)), (4, .int (x4))] [.int ((fX4_valueOf N (mX8_tellOrders N M a0 x3 x4) (a0 + 271) a1 n1 m1 (g_mi (mX8_tellOrders N M a0 x3 x4) (a1 + 4) (x2).toNatClampNeg)))] (mX4_valueOf N (mX8_tellOrders N M a0 x3 x4) (a0 + 271) a1 n1 m1 (g_mi (mX8_tellOrders N M a0 x3 x4) (a1 + 4) (x2).toNatClampNeg)) 0 0
  refine g_iconst (1) 31 dX8_runOnce_30 rfl rfl ?_
  refine g_icmp_eq 37 34 dX8_runOnce_31 rfl rfl (fun c1 => ?_) (fun c1 => ?_)
  · skip
    refine g_aload_n 1 38 dX8_runOnce_37 rfl rfl ?_
    refine g_getR 41 (a0 + 271) dX8_runOnce_38 rfl flX8_45 (Sm.k (Sm.tr (Sm.tr Sm.rf jX8_tellOrders) jX4_valueOf) s0.1) (Sm.r (Sm.tr (Sm.tr Sm.rf jX8_tellOrders) jX4_valueOf) s0.2.2.2.2.2.2.2.2.2.2.2.2.2.1) ?_
    refine g_aload_n 2 42 dX8_runOnce_41 rfl rfl ?_
    refine g_aload_n 2 43 dX8_runOnce_42 rfl rfl ?_
    refine g_getR 46 (a1 + 3) dX8_runOnce_43 rfl flX8_382 (Sm.k (Sm.tr (Sm.tr Sm.rf jX8_tellOrders) jX4_valueOf) s1.1) (Sm.r (Sm.tr (Sm.tr Sm.rf jX8_tellOrders) jX4_valueOf) s1.2.2.2.2.2.1) ?_
    refine g_iload_n 3 47 dX8_runOnce_46 rfl rfl ?_
    refine h_iaload 48 (x2).toNatClampNeg dX8_runOnce_47 rfl rfl (Sm.k (Sm.tr (Sm.tr Sm.rf jX8_tellOrders) jX4_valueOf) s1.2.2.2.2.2.2.1) (b4 c1) ?_
    refine g_callV (mc1 := 0) (ms1 := 0) (b := (a0 + 271)) (rest := []) (av := [.ref a1, .int ((g_mi (mX4_valueOf N (mX8_tellOrders N M a0 x3 x4) (a0 + 271) a1 n1 m1 (g_mi (mX8_tellOrders N M a0 x3 x4) (a1 + 4) (x2).toNatClampNeg)) (a1 + 3) (x2).toNatClampNeg))]) kX4_valueOf 51 dX8_runOnce_48 rfl rfl mbX8_378 imX4_valueOf seX4_valueOf gcl4.1 (Sm.k (Sm.tr (Sm.tr Sm.rf jX8_tellOrders) jX4_valueOf) s0.2.2.2.2.2.2.2.2.2.2.2.2.2.2.1.1) (Nat.le_of_ble_eq_true rfl) (Nat.zero_le _) (Nat.zero_le _) (tX4_valueOf (N := N) (Su.sm (Sm.tr (Sm.tr Sm.rf jX8_tellOrders) jX4_valueOf) s0.2.2.2.2.2.2.2.2.2.2.2.2.2.2.1) (Tx.sm (Sm.tr (Sm.tr Sm.rf jX8_tellOrders) jX4_valueOf) s1) (b5 c1) ?_)
    show Go X (d + 6) mc ms kX8_runOnce Q 51 [(5, .ref ((a0 + 1) + 1)), (0, .ref a0), (1, .ref a1), (2, .int (x2)), (3, .int (x3)), (4, .int (x4))] [.int ((fX4_valueOf N (mX4_valueOf N (mX8_tellOrders N M a0 x3 x4) (a0 + 271) a1 n1 m1 (g_mi (mX8_tellOrders N M a0 x3 x4) (a1 + 4) (x2).toNatClampNeg)) (a0 + 271) a1 n1 m1 (g_mi (mX4_valueOf N (mX8_tellOrders N M a0 x3 x4) (a0 + 271) a1 n1 m1 (g_mi (mX8_tellOrders N M a0 x3 x4) (a1 + 4) (x2).toNatClampNeg)) (a1 + 3) (x2).toNatClampNeg)))] (mX4_valueOf N (mX4_valueOf N (mX8_tellOrders N M a0 x3 x4) (a0 + 271) a1 n1 m1 (g_mi (mX8_tellOrders N M a0 x3 x4) (a1 + 4) (x2).toNatClampNeg)) (a0 + 271) a1 n1 m1 (g_mi (mX4_valueOf N (mX8_tellOrders N M a0 x3 x4) (a0 + 271) a1 n1 m1 (g_mi (mX8_tellOrders N M a0 x3 x4) (a1 + 4) (x2).toNatClampNeg)) (a1 + 3) (x2).toNatClampNeg)) 0 0
    refine g_istore 53 [(6, .int ((fX4_valueOf N (mX4_valueOf N (mX8_tellOrders N M a0 x3 x4) (a0 + 271) a1 n1 m1 (g_mi (mX8_tellOrders N M a0 x3 x4) (a1 + 4) (x2).toNatClampNeg)) (a0 + 271) a1 n1 m1 (g_mi (mX4_valueOf N (mX8_tellOrders N M a0 x3 x4) (a0 + 271) a1 n1 m1 (g_mi (mX8_tellOrders N M a0 x3 x4) (a1 + 4) (x2).toNatClampNeg)) (a1 + 3) (x2).toNatClampNeg)))), (5, .ref ((a0 + 1) + 1)), (0, .ref a0), (1, .ref a1), (2, .int (x2)), (3, .int (x3)), (4, .int (x4))] dX8_runOnce_51 rfl (Nat.le_of_ble_eq_true rfl) rfl ?_
    refine g_iload 0 55 dX8_runOnce_53 rfl rfl ?_
    refine g_ldc ((-2147483648)) 57 dX8_runOnce_55 rfl q3_218 ?_
    refine g_icmp_ne 63 60 dX8_runOnce_57 rfl rfl (fun c2 => ?_) (fun c2 => ?_)
    · skip
      refine g_aload_n 2 64 dX8_runOnce_63 rfl rfl ?_
      refine g_getR 67 (a0 + 135) dX8_runOnce_64 rfl flX8_29 (Sm.k (Sm.tr (Sm.tr (Sm.tr Sm.rf jX8_tellOrders) jX4_valueOf) jX4_valueOf) s0.1) (Sm.r (Sm.tr (Sm.tr (Sm.tr Sm.rf jX8_tellOrders) jX4_valueOf) jX4_valueOf) s0.2.2.2.2.2.2.2.1) ?_
      refine g_aload 1 69 dX8_runOnce_67 rfl rfl ?_
      refine g_callV (mc1 := 0) (ms1 := 0) (b := (a0 + 135)) (rest := []) (av := [.ref ((a0 + 1) + 1)]) kX0_draft 72 dX8_runOnce_69 rfl rfl mbX8_341 imX0_draft seX0_draft gcl0.1 (Sm.k (Sm.tr (Sm.tr (Sm.tr Sm.rf jX8_tellOrders) jX4_valueOf) jX4_valueOf) s0.2.2.2.2.2.2.2.2.1.1) (Nat.le_of_ble_eq_true rfl) (Nat.zero_le _) (Nat.zero_le _) (tX0_draft (Hi.sm (Sm.tr (Sm.tr (Sm.tr Sm.rf jX8_tellOrders) jX4_valueOf) jX4_valueOf) s0.2.2.2.2.2.2.2.2.1) (St.sm (Sm.tr (Sm.tr (Sm.tr Sm.rf jX8_tellOrders) jX4_valueOf) jX4_valueOf) s0.2.2.1.2.2.1) (b6 c1 c2) ?_)
      show Go X (d + 6) mc ms kX8_runOnce Q 72 [(6, .int ((fX4_valueOf N (mX4_valueOf N (mX8_tellOrders N M a0 x3 x4) (a0 + 271) a1 n1 m1 (g_mi (mX8_tellOrders N M a0 x3 x4) (a1 + 4) (x2).toNatClampNeg)) (a0 + 271) a1 n1 m1 (g_mi (mX4_valueOf N (mX8_tellOrders N M a0 x3 x4) (a0 + 271) a1 n1 m1 (g_mi (mX8_tellOrders N M a0 x3 x4) (a1 + 4) (x2).toNatClampNeg)) (a1 + 3) (x2).toNatClampNeg)))), (5, .ref ((a0 + 1) + 1)), (0, .ref a0), (1, .ref a1), (2, .int (x2)), (3, .int (x3)), (4, .int (x4))] [] (mX0_draft (mX4_valueOf N (mX4_valueOf N (mX8_tellOrders N M a0 x3 x4) (a0 + 271) a1 n1 m1 (g_mi (mX8_tellOrders N M a0 x3 x4) (a1 + 4) (x2).toNatClampNeg)) (a0 + 271) a1 n1 m1 (g_mi (mX4_valueOf N (mX8_tellOrders N M a0 x3 x4) (a0 + 271) a1 n1 m1 (g_mi (mX8_tellOrders N M a0 x3 x4) (a1 + 4) (x2).toNatClampNeg)) (a1 + 3) (x2).toNatClampNeg)) (a0 + 135) ((a0 + 1) + 1)) 0 0
      refine g_aload_n 2 73 dX8_runOnce_72 rfl rfl ?_
      refine g_aload 1 75 dX8_runOnce_73 rfl rfl ?_
      refine g_aload_n 3 76 dX8_runOnce_75 rfl rfl ?_
      refine g_getR 79 (a1 + 1) dX8_runOnce_76 rfl flX8_205 (Sm.k (Sm.tr (Sm.tr (Sm.tr (Sm.tr Sm.rf jX8_tellOrders) jX4_valueOf) jX4_valueOf) jX0_draft) s1.1) (Sm.r (Sm.tr (Sm.tr (Sm.tr (Sm.tr Sm.rf jX8_tellOrders) jX4_valueOf) jX4_valueOf) jX0_draft) s1.2.1) ?_
      refine g_iload_n 4 80 dX8_runOnce_79 rfl rfl ?_
      refine h_iaload 81 (x2).toNatClampNeg dX8_runOnce_80 rfl rfl (Sm.k (Sm.tr (Sm.tr (Sm.tr (Sm.tr Sm.rf jX8_tellOrders) jX4_valueOf) jX4_valueOf) jX0_draft) s1.2.2.1) (b7 c1 c2) ?_
      refine g_iload 0 83 dX8_runOnce_81 rfl rfl ?_
      refine g_callV (mc1 := 0) (ms1 := 0) (b := a0) (rest := []) (av := [.ref ((a0 + 1) + 1), .int ((g_mi (mX0_draft (mX4_valueOf N (mX4_valueOf N (mX8_tellOrders N M a0 x3 x4) (a0 + 271) a1 n1 m1 (g_mi (mX8_tellOrders N M a0 x3 x4) (a1 + 4) (x2).toNatClampNeg)) (a0 + 271) a1 n1 m1 (g_mi (mX4_valueOf N (mX8_tellOrders N M a0 x3 x4) (a0 + 271) a1 n1 m1 (g_mi (mX8_tellOrders N M a0 x3 x4) (a1 + 4) (x2).toNatClampNeg)) (a1 + 3) (x2).toNatClampNeg)) (a0 + 135) ((a0 + 1) + 1)) (a1 + 1) (x2).toNatClampNeg)), .int ((fX4_valueOf N (mX4_valueOf N (mX8_tellOrders N M a0 x3 x4) (a0 + 271) a1 n1 m1 (g_mi (mX8_tellOrders N M a0 x3 x4) (a1 + 4) (x2).toNatClampNeg)) (a0 + 271) a1 n1 m1 (g_mi (mX4_valueOf N (mX8_tellOrders N M a0 x3 x4) (a0 + 271) a1 n1 m1 (g_mi (mX8_tellOrders N M a0 x3 x4) (a1 + 4) (x2).toNatClampNeg)) (a1 + 3) (x2).toNatClampNeg)))]) kX8_carryOut 86 dX8_runOnce_83 rfl rfl mbX8_324 imX8_carryOut seX8_carryOut gcl8.1 (Sm.k (Sm.tr (Sm.tr (Sm.tr (Sm.tr Sm.rf jX8_tellOrders) jX4_valueOf) jX4_valueOf) jX0_draft) s0.1) (Nat.le_of_ble_eq_true rfl) (Nat.zero_le _) (Nat.zero_le _) (tX8_carryOut (N := N) (Ph.sm (Sm.tr (Sm.tr (Sm.tr (Sm.tr Sm.rf jX8_tellOrders) jX4_valueOf) jX4_valueOf) jX0_draft) s0) (St.sm (Sm.tr (Sm.tr (Sm.tr (Sm.tr Sm.rf jX8_tellOrders) jX4_valueOf) jX4_valueOf) jX0_draft) s0.2.2.1.2.2.1) (b8 c1 c2) ?_)
      show Go X (d + 6) mc ms kX8_runOnce Q 86 [(6, .int ((fX4_valueOf N (mX4_valueOf N (mX8_tellOrders N M a0 x3 x4) (a0 + 271) a1 n1 m1 (g_mi (mX8_tellOrders N M a0 x3 x4) (a1 + 4) (x2).toNatClampNeg)) (a0 + 271) a1 n1 m1 (g_mi (mX4_valueOf N (mX8_tellOrders N M a0 x3 x4) (a0 + 271) a1 n1 m1 (g_mi (mX8_tellOrders N M a0 x3 x4) (a1 + 4) (x2).toNatClampNeg)) (a1 + 3) (x2).toNatClampNeg)))), (5, .ref ((a0 + 1) + 1)), (0, .ref a0), (1, .ref a1), (2, .int (x2)), (3, .int (x3)), (4, .int (x4))] [.int ((fX8_carryOut N (mX0_draft (mX4_valueOf N (mX4_valueOf N (mX8_tellOrders N M a0 x3 x4) (a0 + 271) a1 n1 m1 (g_mi (mX8_tellOrders N M a0 x3 x4) (a1 + 4) (x2).toNatClampNeg)) (a0 + 271) a1 n1 m1 (g_mi (mX4_valueOf N (mX8_tellOrders N M a0 x3 x4) (a0 + 271) a1 n1 m1 (g_mi (mX8_tellOrders N M a0 x3 x4) (a1 + 4) (x2).toNatClampNeg)) (a1 + 3) (x2).toNatClampNeg)) (a0 + 135) ((a0 + 1) + 1)) a0 ((a0 + 1) + 1) (g_mi (mX0_draft (mX4_valueOf N (mX4_valueOf N (mX8_tellOrders N M a0 x3 x4) (a0 + 271) a1 n1 m1 (g_mi (mX8_tellOrders N M a0 x3 x4) (a1 + 4) (x2).toNatClampNeg)) (a0 + 271) a1 n1 m1 (g_mi (mX4_valueOf N (mX8_tellOrders N M a0 x3 x4) (a0 + 271) a1 n1 m1 (g_mi (mX8_tellOrders N M a0 x3 x4) (a1 + 4) (x2).toNatClampNeg)) (a1 + 3) (x2).toNatClampNeg)) (a0 + 135) ((a0 + 1) + 1)) (a1 + 1) (x2).toNatClampNeg) (fX4_valueOf N (mX4_valueOf N (mX8_tellOrders N M a0 x3 x4) (a0 + 271) a1 n1 m1 (g_mi (mX8_tellOrders N M a0 x3 x4) (a1 + 4) (x2).toNatClampNeg)) (a0 + 271) a1 n1 m1 (g_mi (mX4_valueOf N (mX8_tellOrders N M a0 x3 x4) (a0 + 271) a1 n1 m1 (g_mi (mX8_tellOrders N M a0 x3 x4) (a1 + 4) (x2).toNatClampNeg)) (a1 + 3) (x2).toNatClampNeg))))] (mX8_carryOut N (mX0_draft (mX4_valueOf N (mX4_valueOf N (mX8_tellOrders N M a0 x3 x4) (a0 + 271) a1 n1 m1 (g_mi (mX8_tellOrders N M a0 x3 x4) (a1 + 4) (x2).toNatClampNeg)) (a0 + 271) a1 n1 m1 (g_mi (mX4_valueOf N (mX8_tellOrders N M a0 x3 x4) (a0 + 271) a1 n1 m1 (g_mi (mX8_tellOrders N M a0 x3 x4) (a1 + 4) (x2).toNatClampNeg)) (a1 + 3) (x2).toNatClampNeg)) (a0 + 135) ((a0 + 1) + 1)) a0 ((a0 + 1) + 1) (g_mi (mX0_draft (mX4_valueOf N (mX4_valueOf N (mX8_tellOrders N M a0 x3 x4) (a0 + 271) a1 n1 m1 (g_mi (mX8_tellOrders N M a0 x3 x4) (a1 + 4) (x2).toNatClampNeg)) (a0 + 271) a1 n1 m1 (g_mi (mX4_valueOf N (mX8_tellOrders N M a0 x3 x4) (a0 + 271) a1 n1 m1 (g_mi (mX8_tellOrders N M a0 x3 x4) (a1 + 4) (x2).toNatClampNeg)) (a1 + 3) (x2).toNatClampNeg)) (a0 + 135) ((a0 + 1) + 1)) (a1 + 1) (x2).toNatClampNeg) (fX4_valueOf N (mX4_valueOf N (mX8_tellOrders N M a0 x3 x4) (a0 + 271) a1 n1 m1 (g_mi (mX8_tellOrders N M a0 x3 x4) (a1 + 4) (x2).toNatClampNeg)) (a0 + 271) a1 n1 m1 (g_mi (mX4_valueOf N (mX8_tellOrders N M a0 x3 x4) (a0 + 271) a1 n1 m1 (g_mi (mX8_tellOrders N M a0 x3 x4) (a1 + 4) (x2).toNatClampNeg)) (a1 + 3) (x2).toNatClampNeg))) 0 0
      refine g_istore 88 [(7, .int ((fX8_carryOut N (mX0_draft (mX4_valueOf N (mX4_valueOf N (mX8_tellOrders N M a0 x3 x4) (a0 + 271) a1 n1 m1 (g_mi (mX8_tellOrders N M a0 x3 x4) (a1 + 4) (x2).toNatClampNeg)) (a0 + 271) a1 n1 m1 (g_mi (mX4_valueOf N (mX8_tellOrders N M a0 x3 x4) (a0 + 271) a1 n1 m1 (g_mi (mX8_tellOrders N M a0 x3 x4) (a1 + 4) (x2).toNatClampNeg)) (a1 + 3) (x2).toNatClampNeg)) (a0 + 135) ((a0 + 1) + 1)) a0 ((a0 + 1) + 1) (g_mi (mX0_draft (mX4_valueOf N (mX4_valueOf N (mX8_tellOrders N M a0 x3 x4) (a0 + 271) a1 n1 m1 (g_mi (mX8_tellOrders N M a0 x3 x4) (a1 + 4) (x2).toNatClampNeg)) (a0 + 271) a1 n1 m1 (g_mi (mX4_valueOf N (mX8_tellOrders N M a0 x3 x4) (a0 + 271) a1 n1 m1 (g_mi (mX8_tellOrders N M a0 x3 x4) (a1 + 4) (x2).toNatClampNeg)) (a1 + 3) (x2).toNatClampNeg)) (a0 + 135) ((a0 + 1) + 1)) (a1 + 1) (x2).toNatClampNeg) (fX4_valueOf N (mX4_valueOf N (mX8_tellOrders N M a0 x3 x4) (a0 + 271) a1 n1 m1 (g_mi (mX8_tellOrders N M a0 x3 x4) (a1 + 4) (x2).toNatClampNeg)) (a0 + 271) a1 n1 m1 (g_mi (mX4_valueOf N (mX8_tellOrders N M a0 x3 x4) (a0 + 271) a1 n1 m1 (g_mi (mX8_tellOrders N M a0 x3 x4) (a1 + 4) (x2).toNatClampNeg)) (a1 + 3) (x2).toNatClampNeg))))), (6, .int ((fX4_valueOf N (mX4_valueOf N (mX8_tellOrders N M a0 x3 x4) (a0 + 271) a1 n1 m1 (g_mi (mX8_tellOrders N M a0 x3 x4) (a1 + 4) (x2).toNatClampNeg)) (a0 + 271) a1 n1 m1 (g_mi (mX4_valueOf N (mX8_tellOrders N M a0 x3 x4) (a0 + 271) a1 n1 m1 (g_mi (mX8_tellOrders N M a0 x3 x4) (a1 + 4) (x2).toNatClampNeg)) (a1 + 3) (x2).toNatClampNeg)))), (5, .ref ((a0 + 1) + 1)), (0, .ref a0), (1, .ref a1), (2, .int (x2)), (3, .int (x3)), (4, .int (x4))] dX8_runOnce_86 rfl (Nat.le_of_ble_eq_true rfl) rfl ?_
      refine g_iload 0 90 dX8_runOnce_88 rfl rfl ?_
      refine g_if_lt 106 93 dX8_runOnce_90 rfl rfl (fun c3 => ?_) (fun c3 => ?_)
      · skip
        refine g_iload 0 108 dX8_runOnce_106 rfl rfl ?_
        exact g_iret dX8_runOnce_108 rfl (Nat.zero_le _) (Nat.zero_le _) (h9 c1 c2 c3)
      · skip
        refine g_aload_n 3 94 dX8_runOnce_93 rfl rfl ?_
        refine g_getR 97 (a0 + 135) dX8_runOnce_94 rfl flX8_29 (Sm.k (Sm.tr (Sm.tr (Sm.tr (Sm.tr (Sm.tr Sm.rf jX8_tellOrders) jX4_valueOf) jX4_valueOf) jX0_draft) jX8_carryOut) s0.1) (Sm.r (Sm.tr (Sm.tr (Sm.tr (Sm.tr (Sm.tr Sm.rf jX8_tellOrders) jX4_valueOf) jX4_valueOf) jX0_draft) jX8_carryOut) s0.2.2.2.2.2.2.2.1) ?_
        refine g_aload_n 4 98 dX8_runOnce_97 rfl rfl ?_
        refine g_getR 101 (a1 + 1) dX8_runOnce_98 rfl flX8_205 (Sm.k (Sm.tr (Sm.tr (Sm.tr (Sm.tr (Sm.tr Sm.rf jX8_tellOrders) jX4_valueOf) jX4_valueOf) jX0_draft) jX8_carryOut) s1.1) (Sm.r (Sm.tr (Sm.tr (Sm.tr (Sm.tr (Sm.tr Sm.rf jX8_tellOrders) jX4_valueOf) jX4_valueOf) jX0_draft) jX8_carryOut) s1.2.1) ?_
        refine g_iload_n 5 102 dX8_runOnce_101 rfl rfl ?_
        refine h_iaload 103 (x2).toNatClampNeg dX8_runOnce_102 rfl rfl (Sm.k (Sm.tr (Sm.tr (Sm.tr (Sm.tr (Sm.tr Sm.rf jX8_tellOrders) jX4_valueOf) jX4_valueOf) jX0_draft) jX8_carryOut) s1.2.2.1) (b10 c1 c2 c3) ?_
        refine g_callV (mc1 := 0) (ms1 := 0) (b := (a0 + 135)) (rest := []) (av := [.int ((g_mi (mX8_carryOut N (mX0_draft (mX4_valueOf N (mX4_valueOf N (mX8_tellOrders N M a0 x3 x4) (a0 + 271) a1 n1 m1 (g_mi (mX8_tellOrders N M a0 x3 x4) (a1 + 4) (x2).toNatClampNeg)) (a0 + 271) a1 n1 m1 (g_mi (mX4_valueOf N (mX8_tellOrders N M a0 x3 x4) (a0 + 271) a1 n1 m1 (g_mi (mX8_tellOrders N M a0 x3 x4) (a1 + 4) (x2).toNatClampNeg)) (a1 + 3) (x2).toNatClampNeg)) (a0 + 135) ((a0 + 1) + 1)) a0 ((a0 + 1) + 1) (g_mi (mX0_draft (mX4_valueOf N (mX4_valueOf N (mX8_tellOrders N M a0 x3 x4) (a0 + 271) a1 n1 m1 (g_mi (mX8_tellOrders N M a0 x3 x4) (a1 + 4) (x2).toNatClampNeg)) (a0 + 271) a1 n1 m1 (g_mi (mX4_valueOf N (mX8_tellOrders N M a0 x3 x4) (a0 + 271) a1 n1 m1 (g_mi (mX8_tellOrders N M a0 x3 x4) (a1 + 4) (x2).toNatClampNeg)) (a1 + 3) (x2).toNatClampNeg)) (a0 + 135) ((a0 + 1) + 1)) (a1 + 1) (x2).toNatClampNeg) (fX4_valueOf N (mX4_valueOf N (mX8_tellOrders N M a0 x3 x4) (a0 + 271) a1 n1 m1 (g_mi (mX8_tellOrders N M a0 x3 x4) (a1 + 4) (x2).toNatClampNeg)) (a0 + 271) a1 n1 m1 (g_mi (mX4_valueOf N (mX8_tellOrders N M a0 x3 x4) (a0 + 271) a1 n1 m1 (g_mi (mX8_tellOrders N M a0 x3 x4) (a1 + 4) (x2).toNatClampNeg)) (a1 + 3) (x2).toNatClampNeg))) (a1 + 1) (x2).toNatClampNeg))]) kX0_keep 106 dX8_runOnce_103 rfl rfl mbX8_344 imX0_keep seX0_keep gcl0.1 (Sm.k (Sm.tr (Sm.tr (Sm.tr (Sm.tr (Sm.tr Sm.rf jX8_tellOrders) jX4_valueOf) jX4_valueOf) jX0_draft) jX8_carryOut) s0.2.2.2.2.2.2.2.2.1.1) (Nat.le_of_ble_eq_true rfl) (Nat.zero_le _) (Nat.zero_le _) (tX0_keep (Hi.sm (Sm.tr (Sm.tr (Sm.tr (Sm.tr (Sm.tr Sm.rf jX8_tellOrders) jX4_valueOf) jX4_valueOf) jX0_draft) jX8_carryOut) s0.2.2.2.2.2.2.2.2.1) (b11 c1 c2 c3) ?_)
        show Go X (d + 6) mc ms kX8_runOnce Q 106 [(7, .int ((fX8_carryOut N (mX0_draft (mX4_valueOf N (mX4_valueOf N (mX8_tellOrders N M a0 x3 x4) (a0 + 271) a1 n1 m1 (g_mi (mX8_tellOrders N M a0 x3 x4) (a1 + 4) (x2).toNatClampNeg)) (a0 + 271) a1 n1 m1 (g_mi (mX4_valueOf N (mX8_tellOrders N M a0 x3 x4) (a0 + 271) a1 n1 m1 (g_mi (mX8_tellOrders N M a0 x3 x4) (a1 + 4) (x2).toNatClampNeg)) (a1 + 3) (x2).toNatClampNeg)) (a0 + 135) ((a0 + 1) + 1)) a0 ((a0 + 1) + 1) (g_mi (mX0_draft (mX4_valueOf N (mX4_valueOf N (mX8_tellOrders N M a0 x3 x4) (a0 + 271) a1 n1 m1 (g_mi (mX8_tellOrders N M a0 x3 x4) (a1 + 4) (x2).toNatClampNeg)) (a0 + 271) a1 n1 m1 (g_mi (mX4_valueOf N (mX8_tellOrders N M a0 x3 x4) (a0 + 271) a1 n1 m1 (g_mi (mX8_tellOrders N M a0 x3 x4) (a1 + 4) (x2).toNatClampNeg)) (a1 + 3) (x2).toNatClampNeg)) (a0 + 135) ((a0 + 1) + 1)) (a1 + 1) (x2).toNatClampNeg) (fX4_valueOf N (mX4_valueOf N (mX8_tellOrders N M a0 x3 x4) (a0 + 271) a1 n1 m1 (g_mi (mX8_tellOrders N M a0 x3 x4) (a1 + 4) (x2).toNatClampNeg)) (a0 + 271) a1 n1 m1 (g_mi (mX4_valueOf N (mX8_tellOrders N M a0 x3 x4) (a0 + 271) a1 n1 m1 (g_mi (mX8_tellOrders N M a0 x3 x4) (a1 + 4) (x2).toNatClampNeg)) (a1 + 3) (x2).toNatClampNeg))))), (6, .int ((fX4_valueOf N (mX4_valueOf N (mX8_tellOrders N M a0 x3 x4) (a0 + 271) a1 n1 m1 (g_mi (mX8_tellOrders N M a0 x3 x4) (a1 + 4) (x2).toNatClampNeg)) (a0 + 271) a1 n1 m1 (g_mi (mX4_valueOf N (mX8_tellOrders N M a0 x3 x4) (a0 + 271) a1 n1 m1 (g_mi (mX8_tellOrders N M a0 x3 x4) (a1 + 4) (x2).toNatClampNeg)) (a1 + 3) (x2).toNatClampNeg)))), (5, .ref ((a0 + 1) + 1)), (0, .ref a0), (1, .ref a1), (2, .int (x2)), (3, .int (x3)), (4, .int (x4))] [] (mX0_keep (mX8_carryOut N (mX0_draft (mX4_valueOf N (mX4_valueOf N (mX8_tellOrders N M a0 x3 x4) (a0 + 271) a1 n1 m1 (g_mi (mX8_tellOrders N M a0 x3 x4) (a1 + 4) (x2).toNatClampNeg)) (a0 + 271) a1 n1 m1 (g_mi (mX4_valueOf N (mX8_tellOrders N M a0 x3 x4) (a0 + 271) a1 n1 m1 (g_mi (mX8_tellOrders N M a0 x3 x4) (a1 + 4) (x2).toNatClampNeg)) (a1 + 3) (x2).toNatClampNeg)) (a0 + 135) ((a0 + 1) + 1)) a0 ((a0 + 1) + 1) (g_mi (mX0_draft (mX4_valueOf N (mX4_valueOf N (mX8_tellOrders N M a0 x3 x4) (a0 + 271) a1 n1 m1 (g_mi (mX8_tellOrders N M a0 x3 x4) (a1 + 4) (x2).toNatClampNeg)) (a0 + 271) a1 n1 m1 (g_mi (mX4_valueOf N (mX8_tellOrders N M a0 x3 x4) (a0 + 271) a1 n1 m1 (g_mi (mX8_tellOrders N M a0 x3 x4) (a1 + 4) (x2).toNatClampNeg)) (a1 + 3) (x2).toNatClampNeg)) (a0 + 135) ((a0 + 1) + 1)) (a1 + 1) (x2).toNatClampNeg) (fX4_valueOf N (mX4_valueOf N (mX8_tellOrders N M a0 x3 x4) (a0 + 271) a1 n1 m1 (g_mi (mX8_tellOrders N M a0 x3 x4) (a1 + 4) (x2).toNatClampNeg)) (a0 + 271) a1 n1 m1 (g_mi (mX4_valueOf N (mX8_tellOrders N M a0 x3 x4) (a0 + 271) a1 n1 m1 (g_mi (mX8_tellOrders N M a0 x3 x4) (a1 + 4) (x2).toNatClampNeg)) (a1 + 3) (x2).toNatClampNeg))) (a0 + 135) (g_mi (mX8_carryOut N (mX0_draft (mX4_valueOf N (mX4_valueOf N (mX8_tellOrders N M a0 x3 x4) (a0 + 271) a1 n1 m1 (g_mi (mX8_tellOrders N M a0 x3 x4) (a1 + 4) (x2).toNatClampNeg)) (a0 + 271) a1 n1 m1 (g_mi (mX4_valueOf N (mX8_tellOrders N M a0 x3 x4) (a0 + 271) a1 n1 m1 (g_mi (mX8_tellOrders N M a0 x3 x4) (a1 + 4) (x2).toNatClampNeg)) (a1 + 3) (x2).toNatClampNeg)) (a0 + 135) ((a0 + 1) + 1)) a0 ((a0 + 1) + 1) (g_mi (mX0_draft (mX4_valueOf N (mX4_valueOf N (mX8_tellOrders N M a0 x3 x4) (a0 + 271) a1 n1 m1 (g_mi (mX8_tellOrders N M a0 x3 x4) (a1 + 4) (x2).toNatClampNeg)) (a0 + 271) a1 n1 m1 (g_mi (mX4_valueOf N (mX8_tellOrders N M a0 x3 x4) (a0 + 271) a1 n1 m1 (g_mi (mX8_tellOrders N M a0 x3 x4) (a1 + 4) (x2).toNatClampNeg)) (a1 + 3) (x2).toNatClampNeg)) (a0 + 135) ((a0 + 1) + 1)) (a1 + 1) (x2).toNatClampNeg) (fX4_valueOf N (mX4_valueOf N (mX8_tellOrders N M a0 x3 x4) (a0 + 271) a1 n1 m1 (g_mi (mX8_tellOrders N M a0 x3 x4) (a1 + 4) (x2).toNatClampNeg)) (a0 + 271) a1 n1 m1 (g_mi (mX4_valueOf N (mX8_tellOrders N M a0 x3 x4) (a0 + 271) a1 n1 m1 (g_mi (mX8_tellOrders N M a0 x3 x4) (a1 + 4) (x2).toNatClampNeg)) (a1 + 3) (x2).toNatClampNeg))) (a1 + 1) (x2).toNatClampNeg)) 0 0
        refine g_iload 0 108 dX8_runOnce_106 rfl rfl ?_
        exact g_iret dX8_runOnce_108 rfl (Nat.zero_le _) (Nat.zero_le _) (h12 c1 c2 c3)
    · skip
      refine g_bipush ((-3)) 62 dX8_runOnce_60 rfl rfl ?_
      exact g_iret dX8_runOnce_62 rfl (Nat.zero_le _) (Nat.zero_le _) (h13 c1 c2)
  · skip
    refine g_ldc ((-2147483648)) 36 dX8_runOnce_34 rfl q3_218 ?_
    exact g_iret dX8_runOnce_36 rfl (Nat.zero_le _) (Nat.zero_le _) (h14 c1)

def fX8_runOnce (N : Nat) (M : gM) (a0 : Nat) (a1 : Nat) (n1 : Nat) (m1 : Nat) (x2 : Int32) (x3 : Int32) (x4 : Int32) : Int32 := (if (fX4_valueOf N (mX8_tellOrders N M a0 x3 x4) (a0 + 271) a1 n1 m1 (g_mi (mX8_tellOrders N M a0 x3 x4) (a1 + 4) (x2).toNatClampNeg)) = 1 then (if (fX4_valueOf N (mX4_valueOf N (mX8_tellOrders N M a0 x3 x4) (a0 + 271) a1 n1 m1 (g_mi (mX8_tellOrders N M a0 x3 x4) (a1 + 4) (x2).toNatClampNeg)) (a0 + 271) a1 n1 m1 (g_mi (mX4_valueOf N (mX8_tellOrders N M a0 x3 x4) (a0 + 271) a1 n1 m1 (g_mi (mX8_tellOrders N M a0 x3 x4) (a1 + 4) (x2).toNatClampNeg)) (a1 + 3) (x2).toNatClampNeg)) = (-2147483648) then (-3) else (if (fX8_carryOut N (mX0_draft (mX4_valueOf N (mX4_valueOf N (mX8_tellOrders N M a0 x3 x4) (a0 + 271) a1 n1 m1 (g_mi (mX8_tellOrders N M a0 x3 x4) (a1 + 4) (x2).toNatClampNeg)) (a0 + 271) a1 n1 m1 (g_mi (mX4_valueOf N (mX8_tellOrders N M a0 x3 x4) (a0 + 271) a1 n1 m1 (g_mi (mX8_tellOrders N M a0 x3 x4) (a1 + 4) (x2).toNatClampNeg)) (a1 + 3) (x2).toNatClampNeg)) (a0 + 135) ((a0 + 1) + 1)) a0 ((a0 + 1) + 1) (g_mi (mX0_draft (mX4_valueOf N (mX4_valueOf N (mX8_tellOrders N M a0 x3 x4) (a0 + 271) a1 n1 m1 (g_mi (mX8_tellOrders N M a0 x3 x4) (a1 + 4) (x2).toNatClampNeg)) (a0 + 271) a1 n1 m1 (g_mi (mX4_valueOf N (mX8_tellOrders N M a0 x3 x4) (a0 + 271) a1 n1 m1 (g_mi (mX8_tellOrders N M a0 x3 x4) (a1 + 4) (x2).toNatClampNeg)) (a1 + 3) (x2).toNatClampNeg)) (a0 + 135) ((a0 + 1) + 1)) (a1 + 1) (x2).toNatClampNeg) (fX4_valueOf N (mX4_valueOf N (mX8_tellOrders N M a0 x3 x4) (a0 + 271) a1 n1 m1 (g_mi (mX8_tellOrders N M a0 x3 x4) (a1 + 4) (x2).toNatClampNeg)) (a0 + 271) a1 n1 m1 (g_mi (mX4_valueOf N (mX8_tellOrders N M a0 x3 x4) (a0 + 271) a1 n1 m1 (g_mi (mX8_tellOrders N M a0 x3 x4) (a1 + 4) (x2).toNatClampNeg)) (a1 + 3) (x2).toNatClampNeg))) < 0 then (fX8_carryOut N (mX0_draft (mX4_valueOf N (mX4_valueOf N (mX8_tellOrders N M a0 x3 x4) (a0 + 271) a1 n1 m1 (g_mi (mX8_tellOrders N M a0 x3 x4) (a1 + 4) (x2).toNatClampNeg)) (a0 + 271) a1 n1 m1 (g_mi (mX4_valueOf N (mX8_tellOrders N M a0 x3 x4) (a0 + 271) a1 n1 m1 (g_mi (mX8_tellOrders N M a0 x3 x4) (a1 + 4) (x2).toNatClampNeg)) (a1 + 3) (x2).toNatClampNeg)) (a0 + 135) ((a0 + 1) + 1)) a0 ((a0 + 1) + 1) (g_mi (mX0_draft (mX4_valueOf N (mX4_valueOf N (mX8_tellOrders N M a0 x3 x4) (a0 + 271) a1 n1 m1 (g_mi (mX8_tellOrders N M a0 x3 x4) (a1 + 4) (x2).toNatClampNeg)) (a0 + 271) a1 n1 m1 (g_mi (mX4_valueOf N (mX8_tellOrders N M a0 x3 x4) (a0 + 271) a1 n1 m1 (g_mi (mX8_tellOrders N M a0 x3 x4) (a1 + 4) (x2).toNatClampNeg)) (a1 + 3) (x2).toNatClampNeg)) (a0 + 135) ((a0 + 1) + 1)) (a1 + 1) (x2).toNatClampNeg) (fX4_valueOf N (mX4_valueOf N (mX8_tellOrders N M a0 x3 x4) (a0 + 271) a1 n1 m1 (g_mi (mX8_tellOrders N M a0 x3 x4) (a1 + 4) (x2).toNatClampNeg)) (a0 + 271) a1 n1 m1 (g_mi (mX4_valueOf N (mX8_tellOrders N M a0 x3 x4) (a0 + 271) a1 n1 m1 (g_mi (mX8_tellOrders N M a0 x3 x4) (a1 + 4) (x2).toNatClampNeg)) (a1 + 3) (x2).toNatClampNeg))) else (fX8_carryOut N (mX0_draft (mX4_valueOf N (mX4_valueOf N (mX8_tellOrders N M a0 x3 x4) (a0 + 271) a1 n1 m1 (g_mi (mX8_tellOrders N M a0 x3 x4) (a1 + 4) (x2).toNatClampNeg)) (a0 + 271) a1 n1 m1 (g_mi (mX4_valueOf N (mX8_tellOrders N M a0 x3 x4) (a0 + 271) a1 n1 m1 (g_mi (mX8_tellOrders N M a0 x3 x4) (a1 + 4) (x2).toNatClampNeg)) (a1 + 3) (x2).toNatClampNeg)) (a0 + 135) ((a0 + 1) + 1)) a0 ((a0 + 1) + 1) (g_mi (mX0_draft (mX4_valueOf N (mX4_valueOf N (mX8_tellOrders N M a0 x3 x4) (a0 + 271) a1 n1 m1 (g_mi (mX8_tellOrders N M a0 x3 x4) (a1 + 4) (x2).toNatClampNeg)) (a0 + 271) a1 n1 m1 (g_mi (mX4_valueOf N (mX8_tellOrders N M a0 x3 x4) (a0 + 271) a1 n1 m1 (g_mi (mX8_tellOrders N M a0 x3 x4) (a1 + 4) (x2).toNatClampNeg)) (a1 + 3) (x2).toNatClampNeg)) (a0 + 135) ((a0 + 1) + 1)) (a1 + 1) (x2).toNatClampNeg) (fX4_valueOf N (mX4_valueOf N (mX8_tellOrders N M a0 x3 x4) (a0 + 271) a1 n1 m1 (g_mi (mX8_tellOrders N M a0 x3 x4) (a1 + 4) (x2).toNatClampNeg)) (a0 + 271) a1 n1 m1 (g_mi (mX4_valueOf N (mX8_tellOrders N M a0 x3 x4) (a0 + 271) a1 n1 m1 (g_mi (mX8_tellOrders N M a0 x3 x4) (a1 + 4) (x2).toNatClampNeg)) (a1 + 3) (x2).toNatClampNeg))))) else (-2147483648))
def mX8_runOnce (N : Nat) (M : gM) (a0 : Nat) (a1 : Nat) (n1 : Nat) (m1 : Nat) (x2 : Int32) (x3 : Int32) (x4 : Int32) : gM := g_wm M (if (fX4_valueOf N (mX8_tellOrders N M a0 x3 x4) (a0 + 271) a1 n1 m1 (g_mi (mX8_tellOrders N M a0 x3 x4) (a1 + 4) (x2).toNatClampNeg)) = 1 then (if (fX4_valueOf N (mX4_valueOf N (mX8_tellOrders N M a0 x3 x4) (a0 + 271) a1 n1 m1 (g_mi (mX8_tellOrders N M a0 x3 x4) (a1 + 4) (x2).toNatClampNeg)) (a0 + 271) a1 n1 m1 (g_mi (mX4_valueOf N (mX8_tellOrders N M a0 x3 x4) (a0 + 271) a1 n1 m1 (g_mi (mX8_tellOrders N M a0 x3 x4) (a1 + 4) (x2).toNatClampNeg)) (a1 + 3) (x2).toNatClampNeg)) = (-2147483648) then (g_mi (mX4_valueOf N (mX4_valueOf N (mX8_tellOrders N M a0 x3 x4) (a0 + 271) a1 n1 m1 (g_mi (mX8_tellOrders N M a0 x3 x4) (a1 + 4) (x2).toNatClampNeg)) (a0 + 271) a1 n1 m1 (g_mi (mX4_valueOf N (mX8_tellOrders N M a0 x3 x4) (a0 + 271) a1 n1 m1 (g_mi (mX8_tellOrders N M a0 x3 x4) (a1 + 4) (x2).toNatClampNeg)) (a1 + 3) (x2).toNatClampNeg))) else (if (fX8_carryOut N (mX0_draft (mX4_valueOf N (mX4_valueOf N (mX8_tellOrders N M a0 x3 x4) (a0 + 271) a1 n1 m1 (g_mi (mX8_tellOrders N M a0 x3 x4) (a1 + 4) (x2).toNatClampNeg)) (a0 + 271) a1 n1 m1 (g_mi (mX4_valueOf N (mX8_tellOrders N M a0 x3 x4) (a0 + 271) a1 n1 m1 (g_mi (mX8_tellOrders N M a0 x3 x4) (a1 + 4) (x2).toNatClampNeg)) (a1 + 3) (x2).toNatClampNeg)) (a0 + 135) ((a0 + 1) + 1)) a0 ((a0 + 1) + 1) (g_mi (mX0_draft (mX4_valueOf N (mX4_valueOf N (mX8_tellOrders N M a0 x3 x4) (a0 + 271) a1 n1 m1 (g_mi (mX8_tellOrders N M a0 x3 x4) (a1 + 4) (x2).toNatClampNeg)) (a0 + 271) a1 n1 m1 (g_mi (mX4_valueOf N (mX8_tellOrders N M a0 x3 x4) (a0 + 271) a1 n1 m1 (g_mi (mX8_tellOrders N M a0 x3 x4) (a1 + 4) (x2).toNatClampNeg)) (a1 + 3) (x2).toNatClampNeg)) (a0 + 135) ((a0 + 1) + 1)) (a1 + 1) (x2).toNatClampNeg) (fX4_valueOf N (mX4_valueOf N (mX8_tellOrders N M a0 x3 x4) (a0 + 271) a1 n1 m1 (g_mi (mX8_tellOrders N M a0 x3 x4) (a1 + 4) (x2).toNatClampNeg)) (a0 + 271) a1 n1 m1 (g_mi (mX4_valueOf N (mX8_tellOrders N M a0 x3 x4) (a0 + 271) a1 n1 m1 (g_mi (mX8_tellOrders N M a0 x3 x4) (a1 + 4) (x2).toNatClampNeg)) (a1 + 3) (x2).toNatClampNeg))) < 0 then (g_mi (mX8_carryOut N (mX0_draft (mX4_valueOf N (mX4_valueOf N (mX8_tellOrders N M a0 x3 x4) (a0 + 271) a1 n1 m1 (g_mi (mX8_tellOrders N M a0 x3 x4) (a1 + 4) (x2).toNatClampNeg)) (a0 + 271) a1 n1 m1 (g_mi (mX4_valueOf N (mX8_tellOrders N M a0 x3 x4) (a0 + 271) a1 n1 m1 (g_mi (mX8_tellOrders N M a0 x3 x4) (a1 + 4) (x2).toNatClampNeg)) (a1 + 3) (x2).toNatClampNeg)) (a0 + 135) ((a0 + 1) + 1)) a0 ((a0 + 1) + 1) (g_mi (mX0_draft (mX4_valueOf N (mX4_valueOf N (mX8_tellOrders N M a0 x3 x4) (a0 + 271) a1 n1 m1 (g_mi (mX8_tellOrders N M a0 x3 x4) (a1 + 4) (x2).toNatClampNeg)) (a0 + 271) a1 n1 m1 (g_mi (mX4_valueOf N (mX8_tellOrders N M a0 x3 x4) (a0 + 271) a1 n1 m1 (g_mi (mX8_tellOrders N M a0 x3 x4) (a1 + 4) (x2).toNatClampNeg)) (a1 + 3) (x2).toNatClampNeg)) (a0 + 135) ((a0 + 1) + 1)) (a1 + 1) (x2).toNatClampNeg) (fX4_valueOf N (mX4_valueOf N (mX8_tellOrders N M a0 x3 x4) (a0 + 271) a1 n1 m1 (g_mi (mX8_tellOrders N M a0 x3 x4) (a1 + 4) (x2).toNatClampNeg)) (a0 + 271) a1 n1 m1 (g_mi (mX4_valueOf N (mX8_tellOrders N M a0 x3 x4) (a0 + 271) a1 n1 m1 (g_mi (mX8_tellOrders N M a0 x3 x4) (a1 + 4) (x2).toNatClampNeg)) (a1 + 3) (x2).toNatClampNeg)))) else (g_mi (mX0_keep (mX8_carryOut N (mX0_draft (mX4_valueOf N (mX4_valueOf N (mX8_tellOrders N M a0 x3 x4) (a0 + 271) a1 n1 m1 (g_mi (mX8_tellOrders N M a0 x3 x4) (a1 + 4) (x2).toNatClampNeg)) (a0 + 271) a1 n1 m1 (g_mi (mX4_valueOf N (mX8_tellOrders N M a0 x3 x4) (a0 + 271) a1 n1 m1 (g_mi (mX8_tellOrders N M a0 x3 x4) (a1 + 4) (x2).toNatClampNeg)) (a1 + 3) (x2).toNatClampNeg)) (a0 + 135) ((a0 + 1) + 1)) a0 ((a0 + 1) + 1) (g_mi (mX0_draft (mX4_valueOf N (mX4_valueOf N (mX8_tellOrders N M a0 x3 x4) (a0 + 271) a1 n1 m1 (g_mi (mX8_tellOrders N M a0 x3 x4) (a1 + 4) (x2).toNatClampNeg)) (a0 + 271) a1 n1 m1 (g_mi (mX4_valueOf N (mX8_tellOrders N M a0 x3 x4) (a0 + 271) a1 n1 m1 (g_mi (mX8_tellOrders N M a0 x3 x4) (a1 + 4) (x2).toNatClampNeg)) (a1 + 3) (x2).toNatClampNeg)) (a0 + 135) ((a0 + 1) + 1)) (a1 + 1) (x2).toNatClampNeg) (fX4_valueOf N (mX4_valueOf N (mX8_tellOrders N M a0 x3 x4) (a0 + 271) a1 n1 m1 (g_mi (mX8_tellOrders N M a0 x3 x4) (a1 + 4) (x2).toNatClampNeg)) (a0 + 271) a1 n1 m1 (g_mi (mX4_valueOf N (mX8_tellOrders N M a0 x3 x4) (a0 + 271) a1 n1 m1 (g_mi (mX8_tellOrders N M a0 x3 x4) (a1 + 4) (x2).toNatClampNeg)) (a1 + 3) (x2).toNatClampNeg))) (a0 + 135) (g_mi (mX8_carryOut N (mX0_draft (mX4_valueOf N (mX4_valueOf N (mX8_tellOrders N M a0 x3 x4) (a0 + 271) a1 n1 m1 (g_mi (mX8_tellOrders N M a0 x3 x4) (a1 + 4) (x2).toNatClampNeg)) (a0 + 271) a1 n1 m1 (g_mi (mX4_valueOf N (mX8_tellOrders N M a0 x3 x4) (a0 + 271) a1 n1 m1 (g_mi (mX8_tellOrders N M a0 x3 x4) (a1 + 4) (x2).toNatClampNeg)) (a1 + 3) (x2).toNatClampNeg)) (a0 + 135) ((a0 + 1) + 1)) a0 ((a0 + 1) + 1) (g_mi (mX0_draft (mX4_valueOf N (mX4_valueOf N (mX8_tellOrders N M a0 x3 x4) (a0 + 271) a1 n1 m1 (g_mi (mX8_tellOrders N M a0 x3 x4) (a1 + 4) (x2).toNatClampNeg)) (a0 + 271) a1 n1 m1 (g_mi (mX4_valueOf N (mX8_tellOrders N M a0 x3 x4) (a0 + 271) a1 n1 m1 (g_mi (mX8_tellOrders N M a0 x3 x4) (a1 + 4) (x2).toNatClampNeg)) (a1 + 3) (x2).toNatClampNeg)) (a0 + 135) ((a0 + 1) + 1)) (a1 + 1) (x2).toNatClampNeg) (fX4_valueOf N (mX4_valueOf N (mX8_tellOrders N M a0 x3 x4) (a0 + 271) a1 n1 m1 (g_mi (mX8_tellOrders N M a0 x3 x4) (a1 + 4) (x2).toNatClampNeg)) (a0 + 271) a1 n1 m1 (g_mi (mX4_valueOf N (mX8_tellOrders N M a0 x3 x4) (a0 + 271) a1 n1 m1 (g_mi (mX8_tellOrders N M a0 x3 x4) (a1 + 4) (x2).toNatClampNeg)) (a1 + 3) (x2).toNatClampNeg))) (a1 + 1) (x2).toNatClampNeg))))) else (g_mi (mX4_valueOf N (mX8_tellOrders N M a0 x3 x4) (a0 + 271) a1 n1 m1 (g_mi (mX8_tellOrders N M a0 x3 x4) (a1 + 4) (x2).toNatClampNeg)))) (g_ml M)
def EX8_runOnce (N : Nat) (M : gM) (a0 : Nat) (a1 : Nat) (n1 : Nat) (m1 : Nat) (x2 : Int32) (x3 : Int32) (x4 : Int32) : Prop := (EX8_tellOrders N M a0 x3 x4) ∧ (vp_in (x2) n1) ∧ (EX4_valueOf N (mX8_tellOrders N M a0 x3 x4) (a0 + 271) a1 n1 m1 (g_mi (mX8_tellOrders N M a0 x3 x4) (a1 + 4) (x2).toNatClampNeg)) ∧ (((fX4_valueOf N (mX8_tellOrders N M a0 x3 x4) (a0 + 271) a1 n1 m1 (g_mi (mX8_tellOrders N M a0 x3 x4) (a1 + 4) (x2).toNatClampNeg)) = 1) → vp_in (x2) n1) ∧ (((fX4_valueOf N (mX8_tellOrders N M a0 x3 x4) (a0 + 271) a1 n1 m1 (g_mi (mX8_tellOrders N M a0 x3 x4) (a1 + 4) (x2).toNatClampNeg)) = 1) → EX4_valueOf N (mX4_valueOf N (mX8_tellOrders N M a0 x3 x4) (a0 + 271) a1 n1 m1 (g_mi (mX8_tellOrders N M a0 x3 x4) (a1 + 4) (x2).toNatClampNeg)) (a0 + 271) a1 n1 m1 (g_mi (mX4_valueOf N (mX8_tellOrders N M a0 x3 x4) (a0 + 271) a1 n1 m1 (g_mi (mX8_tellOrders N M a0 x3 x4) (a1 + 4) (x2).toNatClampNeg)) (a1 + 3) (x2).toNatClampNeg)) ∧ (((fX4_valueOf N (mX8_tellOrders N M a0 x3 x4) (a0 + 271) a1 n1 m1 (g_mi (mX8_tellOrders N M a0 x3 x4) (a1 + 4) (x2).toNatClampNeg)) = 1) → (¬ (fX4_valueOf N (mX4_valueOf N (mX8_tellOrders N M a0 x3 x4) (a0 + 271) a1 n1 m1 (g_mi (mX8_tellOrders N M a0 x3 x4) (a1 + 4) (x2).toNatClampNeg)) (a0 + 271) a1 n1 m1 (g_mi (mX4_valueOf N (mX8_tellOrders N M a0 x3 x4) (a0 + 271) a1 n1 m1 (g_mi (mX8_tellOrders N M a0 x3 x4) (a1 + 4) (x2).toNatClampNeg)) (a1 + 3) (x2).toNatClampNeg)) = (-2147483648)) → EX0_draft (mX4_valueOf N (mX4_valueOf N (mX8_tellOrders N M a0 x3 x4) (a0 + 271) a1 n1 m1 (g_mi (mX8_tellOrders N M a0 x3 x4) (a1 + 4) (x2).toNatClampNeg)) (a0 + 271) a1 n1 m1 (g_mi (mX4_valueOf N (mX8_tellOrders N M a0 x3 x4) (a0 + 271) a1 n1 m1 (g_mi (mX8_tellOrders N M a0 x3 x4) (a1 + 4) (x2).toNatClampNeg)) (a1 + 3) (x2).toNatClampNeg)) (a0 + 135) ((a0 + 1) + 1)) ∧ (((fX4_valueOf N (mX8_tellOrders N M a0 x3 x4) (a0 + 271) a1 n1 m1 (g_mi (mX8_tellOrders N M a0 x3 x4) (a1 + 4) (x2).toNatClampNeg)) = 1) → (¬ (fX4_valueOf N (mX4_valueOf N (mX8_tellOrders N M a0 x3 x4) (a0 + 271) a1 n1 m1 (g_mi (mX8_tellOrders N M a0 x3 x4) (a1 + 4) (x2).toNatClampNeg)) (a0 + 271) a1 n1 m1 (g_mi (mX4_valueOf N (mX8_tellOrders N M a0 x3 x4) (a0 + 271) a1 n1 m1 (g_mi (mX8_tellOrders N M a0 x3 x4) (a1 + 4) (x2).toNatClampNeg)) (a1 + 3) (x2).toNatClampNeg)) = (-2147483648)) → vp_in (x2) n1) ∧ (((fX4_valueOf N (mX8_tellOrders N M a0 x3 x4) (a0 + 271) a1 n1 m1 (g_mi (mX8_tellOrders N M a0 x3 x4) (a1 + 4) (x2).toNatClampNeg)) = 1) → (¬ (fX4_valueOf N (mX4_valueOf N (mX8_tellOrders N M a0 x3 x4) (a0 + 271) a1 n1 m1 (g_mi (mX8_tellOrders N M a0 x3 x4) (a1 + 4) (x2).toNatClampNeg)) (a0 + 271) a1 n1 m1 (g_mi (mX4_valueOf N (mX8_tellOrders N M a0 x3 x4) (a0 + 271) a1 n1 m1 (g_mi (mX8_tellOrders N M a0 x3 x4) (a1 + 4) (x2).toNatClampNeg)) (a1 + 3) (x2).toNatClampNeg)) = (-2147483648)) → EX8_carryOut N (mX0_draft (mX4_valueOf N (mX4_valueOf N (mX8_tellOrders N M a0 x3 x4) (a0 + 271) a1 n1 m1 (g_mi (mX8_tellOrders N M a0 x3 x4) (a1 + 4) (x2).toNatClampNeg)) (a0 + 271) a1 n1 m1 (g_mi (mX4_valueOf N (mX8_tellOrders N M a0 x3 x4) (a0 + 271) a1 n1 m1 (g_mi (mX8_tellOrders N M a0 x3 x4) (a1 + 4) (x2).toNatClampNeg)) (a1 + 3) (x2).toNatClampNeg)) (a0 + 135) ((a0 + 1) + 1)) a0 ((a0 + 1) + 1) (g_mi (mX0_draft (mX4_valueOf N (mX4_valueOf N (mX8_tellOrders N M a0 x3 x4) (a0 + 271) a1 n1 m1 (g_mi (mX8_tellOrders N M a0 x3 x4) (a1 + 4) (x2).toNatClampNeg)) (a0 + 271) a1 n1 m1 (g_mi (mX4_valueOf N (mX8_tellOrders N M a0 x3 x4) (a0 + 271) a1 n1 m1 (g_mi (mX8_tellOrders N M a0 x3 x4) (a1 + 4) (x2).toNatClampNeg)) (a1 + 3) (x2).toNatClampNeg)) (a0 + 135) ((a0 + 1) + 1)) (a1 + 1) (x2).toNatClampNeg) (fX4_valueOf N (mX4_valueOf N (mX8_tellOrders N M a0 x3 x4) (a0 + 271) a1 n1 m1 (g_mi (mX8_tellOrders N M a0 x3 x4) (a1 + 4) (x2).toNatClampNeg)) (a0 + 271) a1 n1 m1 (g_mi (mX4_valueOf N (mX8_tellOrders N M a0 x3 x4) (a0 + 271) a1 n1 m1 (g_mi (mX8_tellOrders N M a0 x3 x4) (a1 + 4) (x2).toNatClampNeg)) (a1 + 3) (x2).toNatClampNeg))) ∧ (((fX4_valueOf N (mX8_tellOrders N M a0 x3 x4) (a0 + 271) a1 n1 m1 (g_mi (mX8_tellOrders N M a0 x3 x4) (a1 + 4) (x2).toNatClampNeg)) = 1) → (¬ (fX4_valueOf N (mX4_valueOf N (mX8_tellOrders N M a0 x3 x4) (a0 + 271) a1 n1 m1 (g_mi (mX8_tellOrders N M a0 x3 x4) (a1 + 4) (x2).toNatClampNeg)) (a0 + 271) a1 n1 m1 (g_mi (mX4_valueOf N (mX8_tellOrders N M a0 x3 x4) (a0 + 271) a1 n1 m1 (g_mi (mX8_tellOrders N M a0 x3 x4) (a1 + 4) (x2).toNatClampNeg)) (a1 + 3) (x2).toNatClampNeg)) = (-2147483648)) → (¬ (fX8_carryOut N (mX0_draft (mX4_valueOf N (mX4_valueOf N (mX8_tellOrders N M a0 x3 x4) (a0 + 271) a1 n1 m1 (g_mi (mX8_tellOrders N M a0 x3 x4) (a1 + 4) (x2).toNatClampNeg)) (a0 + 271) a1 n1 m1 (g_mi (mX4_valueOf N (mX8_tellOrders N M a0 x3 x4) (a0 + 271) a1 n1 m1 (g_mi (mX8_tellOrders N M a0 x3 x4) (a1 + 4) (x2).toNatClampNeg)) (a1 + 3) (x2).toNatClampNeg)) (a0 + 135) ((a0 + 1) + 1)) a0 ((a0 + 1) + 1) (g_mi (mX0_draft (mX4_valueOf N (mX4_valueOf N (mX8_tellOrders N M a0 x3 x4) (a0 + 271) a1 n1 m1 (g_mi (mX8_tellOrders N M a0 x3 x4) (a1 + 4) (x2).toNatClampNeg)) (a0 + 271) a1 n1 m1 (g_mi (mX4_valueOf N (mX8_tellOrders N M a0 x3 x4) (a0 + 271) a1 n1 m1 (g_mi (mX8_tellOrders N M a0 x3 x4) (a1 + 4) (x2).toNatClampNeg)) (a1 + 3) (x2).toNatClampNeg)) (a0 + 135) ((a0 + 1) + 1)) (a1 + 1) (x2).toNatClampNeg) (fX4_valueOf N (mX4_valueOf N (mX8_tellOrders N M a0 x3 x4) (a0 + 271) a1 n1 m1 (g_mi (mX8_tellOrders N M a0 x3 x4) (a1 + 4) (x2).toNatClampNeg)) (a0 + 271) a1 n1 m1 (g_mi (mX4_valueOf N (mX8_tellOrders N M a0 x3 x4) (a0 + 271) a1 n1 m1 (g_mi (mX8_tellOrders N M a0 x3 x4) (a1 + 4) (x2).toNatClampNeg)) (a1 + 3) (x2).toNatClampNeg))) < 0) → vp_in (x2) n1) ∧ (((fX4_valueOf N (mX8_tellOrders N M a0 x3 x4) (a0 + 271) a1 n1 m1 (g_mi (mX8_tellOrders N M a0 x3 x4) (a1 + 4) (x2).toNatClampNeg)) = 1) → (¬ (fX4_valueOf N (mX4_valueOf N (mX8_tellOrders N M a0 x3 x4) (a0 + 271) a1 n1 m1 (g_mi (mX8_tellOrders N M a0 x3 x4) (a1 + 4) (x2).toNatClampNeg)) (a0 + 271) a1 n1 m1 (g_mi (mX4_valueOf N (mX8_tellOrders N M a0 x3 x4) (a0 + 271) a1 n1 m1 (g_mi (mX8_tellOrders N M a0 x3 x4) (a1 + 4) (x2).toNatClampNeg)) (a1 + 3) (x2).toNatClampNeg)) = (-2147483648)) → (¬ (fX8_carryOut N (mX0_draft (mX4_valueOf N (mX4_valueOf N (mX8_tellOrders N M a0 x3 x4) (a0 + 271) a1 n1 m1 (g_mi (mX8_tellOrders N M a0 x3 x4) (a1 + 4) (x2).toNatClampNeg)) (a0 + 271) a1 n1 m1 (g_mi (mX4_valueOf N (mX8_tellOrders N M a0 x3 x4) (a0 + 271) a1 n1 m1 (g_mi (mX8_tellOrders N M a0 x3 x4) (a1 + 4) (x2).toNatClampNeg)) (a1 + 3) (x2).toNatClampNeg)) (a0 + 135) ((a0 + 1) + 1)) a0 ((a0 + 1) + 1) (g_mi (mX0_draft (mX4_valueOf N (mX4_valueOf N (mX8_tellOrders N M a0 x3 x4) (a0 + 271) a1 n1 m1 (g_mi (mX8_tellOrders N M a0 x3 x4) (a1 + 4) (x2).toNatClampNeg)) (a0 + 271) a1 n1 m1 (g_mi (mX4_valueOf N (mX8_tellOrders N M a0 x3 x4) (a0 + 271) a1 n1 m1 (g_mi (mX8_tellOrders N M a0 x3 x4) (a1 + 4) (x2).toNatClampNeg)) (a1 + 3) (x2).toNatClampNeg)) (a0 + 135) ((a0 + 1) + 1)) (a1 + 1) (x2).toNatClampNeg) (fX4_valueOf N (mX4_valueOf N (mX8_tellOrders N M a0 x3 x4) (a0 + 271) a1 n1 m1 (g_mi (mX8_tellOrders N M a0 x3 x4) (a1 + 4) (x2).toNatClampNeg)) (a0 + 271) a1 n1 m1 (g_mi (mX4_valueOf N (mX8_tellOrders N M a0 x3 x4) (a0 + 271) a1 n1 m1 (g_mi (mX8_tellOrders N M a0 x3 x4) (a1 + 4) (x2).toNatClampNeg)) (a1 + 3) (x2).toNatClampNeg))) < 0) → EX0_keep (mX8_carryOut N (mX0_draft (mX4_valueOf N (mX4_valueOf N (mX8_tellOrders N M a0 x3 x4) (a0 + 271) a1 n1 m1 (g_mi (mX8_tellOrders N M a0 x3 x4) (a1 + 4) (x2).toNatClampNeg)) (a0 + 271) a1 n1 m1 (g_mi (mX4_valueOf N (mX8_tellOrders N M a0 x3 x4) (a0 + 271) a1 n1 m1 (g_mi (mX8_tellOrders N M a0 x3 x4) (a1 + 4) (x2).toNatClampNeg)) (a1 + 3) (x2).toNatClampNeg)) (a0 + 135) ((a0 + 1) + 1)) a0 ((a0 + 1) + 1) (g_mi (mX0_draft (mX4_valueOf N (mX4_valueOf N (mX8_tellOrders N M a0 x3 x4) (a0 + 271) a1 n1 m1 (g_mi (mX8_tellOrders N M a0 x3 x4) (a1 + 4) (x2).toNatClampNeg)) (a0 + 271) a1 n1 m1 (g_mi (mX4_valueOf N (mX8_tellOrders N M a0 x3 x4) (a0 + 271) a1 n1 m1 (g_mi (mX8_tellOrders N M a0 x3 x4) (a1 + 4) (x2).toNatClampNeg)) (a1 + 3) (x2).toNatClampNeg)) (a0 + 135) ((a0 + 1) + 1)) (a1 + 1) (x2).toNatClampNeg) (fX4_valueOf N (mX4_valueOf N (mX8_tellOrders N M a0 x3 x4) (a0 + 271) a1 n1 m1 (g_mi (mX8_tellOrders N M a0 x3 x4) (a1 + 4) (x2).toNatClampNeg)) (a0 + 271) a1 n1 m1 (g_mi (mX4_valueOf N (mX8_tellOrders N M a0 x3 x4) (a0 + 271) a1 n1 m1 (g_mi (mX8_tellOrders N M a0 x3 x4) (a1 + 4) (x2).toNatClampNeg)) (a1 + 3) (x2).toNatClampNeg))) (a0 + 135) (g_mi (mX8_carryOut N (mX0_draft (mX4_valueOf N (mX4_valueOf N (mX8_tellOrders N M a0 x3 x4) (a0 + 271) a1 n1 m1 (g_mi (mX8_tellOrders N M a0 x3 x4) (a1 + 4) (x2).toNatClampNeg)) (a0 + 271) a1 n1 m1 (g_mi (mX4_valueOf N (mX8_tellOrders N M a0 x3 x4) (a0 + 271) a1 n1 m1 (g_mi (mX8_tellOrders N M a0 x3 x4) (a1 + 4) (x2).toNatClampNeg)) (a1 + 3) (x2).toNatClampNeg)) (a0 + 135) ((a0 + 1) + 1)) a0 ((a0 + 1) + 1) (g_mi (mX0_draft (mX4_valueOf N (mX4_valueOf N (mX8_tellOrders N M a0 x3 x4) (a0 + 271) a1 n1 m1 (g_mi (mX8_tellOrders N M a0 x3 x4) (a1 + 4) (x2).toNatClampNeg)) (a0 + 271) a1 n1 m1 (g_mi (mX4_valueOf N (mX8_tellOrders N M a0 x3 x4) (a0 + 271) a1 n1 m1 (g_mi (mX8_tellOrders N M a0 x3 x4) (a1 + 4) (x2).toNatClampNeg)) (a1 + 3) (x2).toNatClampNeg)) (a0 + 135) ((a0 + 1) + 1)) (a1 + 1) (x2).toNatClampNeg) (fX4_valueOf N (mX4_valueOf N (mX8_tellOrders N M a0 x3 x4) (a0 + 271) a1 n1 m1 (g_mi (mX8_tellOrders N M a0 x3 x4) (a1 + 4) (x2).toNatClampNeg)) (a0 + 271) a1 n1 m1 (g_mi (mX4_valueOf N (mX8_tellOrders N M a0 x3 x4) (a0 + 271) a1 n1 m1 (g_mi (mX8_tellOrders N M a0 x3 x4) (a1 + 4) (x2).toNatClampNeg)) (a1 + 3) (x2).toNatClampNeg))) (a1 + 1) (x2).toNatClampNeg))
theorem jX8_runOnce {N : Nat} {M : gM} {a0 : Nat} {a1 : Nat} {n1 : Nat} {m1 : Nat} {x2 : Int32} {x3 : Int32} {x4 : Int32} : Sm M (mX8_runOnce N M a0 a1 n1 m1 x2 x3 x4) := Sm.wm
theorem tX8_runOnce {N : Nat} {X : gX} {d mc ms : Nat} {Q : Option Value → gM → Prop} {M : gM} {a0 : Nat} {a1 : Nat} {n1 m1 : Nat} {x2 : Int32} {x3 : Int32} {x4 : Int32} (s0 : Ph M a0) (s1 : Tx M a1 n1 m1) (hE : EX8_runOnce N M a0 a1 n1 m1 x2 x3 x4) (hQ : Q (some (.int (fX8_runOnce N M a0 a1 n1 m1 x2 x3 x4))) (mX8_runOnce N M a0 a1 n1 m1 x2 x3 x4)) : Cn X (d + 6) mc ms kX8_runOnce [.ref a0, .ref a1, .int (x2), .int (x3), .int (x4)] M Q := by
  unfold fX8_runOnce mX8_runOnce at hQ
  obtain ⟨b1, b2, b3, b4, b5, b6, b7, b8, b10, b11⟩ := hE
  exact sX8_runOnce_0 s0 s1 b1 b2 b3 b4 b5 b6 b7 b8 (fun c1 c2 c3 => by simp only [if_pos c1, if_neg c2, if_pos c3] at hQ; exact Sm.q (Sm.tr (Sm.tr (Sm.tr (Sm.tr (Sm.tr Sm.rf jX8_tellOrders) jX4_valueOf) jX4_valueOf) jX0_draft) jX8_carryOut) hQ) b10 b11 (fun c1 c2 c3 => by simp only [if_pos c1, if_neg c2, if_neg c3] at hQ; exact Sm.q (Sm.tr (Sm.tr (Sm.tr (Sm.tr (Sm.tr (Sm.tr Sm.rf jX8_tellOrders) jX4_valueOf) jX4_valueOf) jX0_draft) jX8_carryOut) jX0_keep) hQ) (fun c1 c2 => by simp only [if_pos c1, if_pos c2] at hQ; exact Sm.q (Sm.tr (Sm.tr (Sm.tr Sm.rf jX8_tellOrders) jX4_valueOf) jX4_valueOf) hQ) (fun c1 => by simp only [if_neg c1] at hQ; exact Sm.q (Sm.tr (Sm.tr Sm.rf jX8_tellOrders) jX4_valueOf) hQ)
/-! X8_orders  -/
set_option maxRecDepth 4000 in
theorem sX8_orders_0 {N : Nat} {K : Nat} {X : gX} {d mc ms : Nat} {Q : Option Value → gM → Prop} {M : gM} {a0 : Nat} (s0 : Ph M a0) (b1 : EX2_read N K (g_wi M a0 14 (-1)) (a0 + 282) 1) (b2 : (¬ (fX2_read N K (g_wi M a0 14 (-1)) (a0 + 282) 1) = 0) → EX3_copyFrom (mX2_read N K (g_wi M a0 14 (-1)) (a0 + 282) 1) (a0 + 257) ((a0 + 1) + 1)) (h3 : (¬ (fX2_read N K (g_wi M a0 14 (-1)) (a0 + 282) 1) = 0) → Go X (d + K + 7) mc ms kX8_orders Q 59 [(0, .ref a0), (1, .ref ((a0 + 282) + 2)), (2, .int (0)), (3, .int ((-1))), (4, .int (0))] [] (mX0_clear (mX3_copyFrom (mX2_read N K (g_wi M a0 14 (-1)) (a0 + 282) 1) (a0 + 257) ((a0 + 1) + 1)) (a0 + 135)) 0 0) (h4 : ((fX2_read N K (g_wi M a0 14 (-1)) (a0 + 282) 1) = 0) → Q (some (.int ((fX8_refuse a0 (-6))))) (mX8_refuse (mX2_read N K (g_wi M a0 14 (-1)) (a0 + 282) 1) a0 (-6))) : Cn X (d + K + 7) mc ms kX8_orders [.ref a0] M Q := by
  refine g_meth rfl rfl (Nat.le_of_ble_eq_true rfl) rfl ?_
  refine g_aload_n 0 1 dX8_orders_0 rfl rfl ?_
  refine g_iconst ((-1)) 2 dX8_orders_1 rfl rfl ?_
  refine g_putI 5 dX8_orders_2 rfl flX8_88 s0.1 ?_
  refine g_aload_n 0 6 dX8_orders_5 rfl rfl ?_
  refine g_getR 9 (a0 + 282) dX8_orders_6 rfl flX8_61 (Sm.k (Sm.wi Sm.rf) s0.1) (Sm.r (Sm.wi Sm.rf) s0.2.2.2.2.2.2.2.2.2.2.2.2.2.2.2.2.2.1) ?_
  refine g_iconst (1) 10 dX8_orders_9 rfl rfl ?_
  refine g_callV (mc1 := 0) (ms1 := 0) (b := (a0 + 282)) (rest := []) (av := [.int (1)]) kX2_read 13 dX8_orders_10 rfl rfl mbX8_178 imX2_read seX2_read gcl2.1 (Sm.k (Sm.wi Sm.rf) s0.2.2.2.2.2.2.2.2.2.2.2.2.2.2.2.2.2.2.1.1) (Nat.le_of_ble_eq_true rfl) (Nat.zero_le _) (Nat.zero_le _) (tX2_read (N := N) (K := K) (Re.sm (Sm.wi Sm.rf) s0.2.2.2.2.2.2.2.2.2.2.2.2.2.2.2.2.2.2.1) (b1) ?_)
  show Go X (d + K + 7) mc ms kX8_orders Q 13 [(0, .ref a0)] [.int ((fX2_read N K (g_wi M a0 14 (-1)) (a0 + 282) 1))] (mX2_read N K (g_wi M a0 14 (-1)) (a0 + 282) 1) 0 0
  refine g_if_ne 23 16 dX8_orders_13 rfl rfl (fun c1 => ?_) (fun c1 => ?_)
  · skip
    refine g_aload_n 0 24 dX8_orders_23 rfl rfl ?_
    refine g_getR 27 (a0 + 282) dX8_orders_24 rfl flX8_61 (Sm.k (Sm.tr (Sm.wi Sm.rf) jX2_read) s0.1) (Sm.r (Sm.tr (Sm.wi Sm.rf) jX2_read) s0.2.2.2.2.2.2.2.2.2.2.2.2.2.2.2.2.2.1) ?_
    refine g_getR 30 ((a0 + 282) + 2) dX8_orders_27 rfl flX8_186 (Sm.k (Sm.tr (Sm.wi Sm.rf) jX2_read) s0.2.2.2.2.2.2.2.2.2.2.2.2.2.2.2.2.2.2.1.1) (Sm.r (Sm.tr (Sm.wi Sm.rf) jX2_read) s0.2.2.2.2.2.2.2.2.2.2.2.2.2.2.2.2.2.2.1.2.2.2.1) ?_
    refine g_astore_n 31 [(1, .ref ((a0 + 282) + 2)), (0, .ref a0)] dX8_orders_30 rfl (Nat.le_of_ble_eq_true rfl) rfl ?_
    refine g_aload_n 1 32 dX8_orders_31 rfl rfl ?_
    refine g_getR 35 (a0 + 257) dX8_orders_32 rfl flX8_35 (Sm.k (Sm.tr (Sm.wi Sm.rf) jX2_read) s0.1) (Sm.r (Sm.tr (Sm.wi Sm.rf) jX2_read) s0.2.2.2.2.2.2.2.2.2.1) ?_
    refine g_aload_n 1 36 dX8_orders_35 rfl rfl ?_
    refine g_getR 39 (a0 + 1) dX8_orders_36 rfl flX8_14 (Sm.k (Sm.tr (Sm.wi Sm.rf) jX2_read) s0.1) (Sm.r (Sm.tr (Sm.wi Sm.rf) jX2_read) s0.2.1) ?_
    refine g_getR 42 ((a0 + 1) + 1) dX8_orders_39 rfl flX8_102 (Sm.k (Sm.tr (Sm.wi Sm.rf) jX2_read) s0.2.2.1.1) (Sm.r (Sm.tr (Sm.wi Sm.rf) jX2_read) s0.2.2.1.2.1) ?_
    refine g_callV (mc1 := 0) (ms1 := 0) (b := (a0 + 257)) (rest := []) (av := [.ref ((a0 + 1) + 1)]) kX3_copyFrom 45 dX8_orders_42 rfl rfl mbX8_192 imX3_copyFrom seX3_copyFrom gcl3.1 (Sm.k (Sm.tr (Sm.wi Sm.rf) jX2_read) s0.2.2.2.2.2.2.2.2.2.2.1.1) (Nat.le_of_ble_eq_true rfl) (Nat.zero_le _) (Nat.zero_le _) (tX3_copyFrom (St.sm (Sm.tr (Sm.wi Sm.rf) jX2_read) s0.2.2.2.2.2.2.2.2.2.2.1) (St.sm (Sm.tr (Sm.wi Sm.rf) jX2_read) s0.2.2.1.2.2.1) (b2 c1) ?_)
    show Go X (d + K + 7) mc ms kX8_orders Q 45 [(1, .ref ((a0 + 282) + 2)), (0, .ref a0)] [] (mX3_copyFrom (mX2_read N K (g_wi M a0 14 (-1)) (a0 + 282) 1) (a0 + 257) ((a0 + 1) + 1)) 0 0
    refine g_aload_n 1 46 dX8_orders_45 rfl rfl ?_
    refine g_getR 49 (a0 + 135) dX8_orders_46 rfl flX8_29 (Sm.k (Sm.tr (Sm.tr (Sm.wi Sm.rf) jX2_read) jX3_copyFrom) s0.1) (Sm.r (Sm.tr (Sm.tr (Sm.wi Sm.rf) jX2_read) jX3_copyFrom) s0.2.2.2.2.2.2.2.1) ?_
    refine g_callV (mc1 := 0) (ms1 := 0) (b := (a0 + 135)) (rest := []) (av := []) kX0_clear 52 dX8_orders_49 rfl rfl mbX8_152 imX0_clear seX0_clear gcl0.1 (Sm.k (Sm.tr (Sm.tr (Sm.wi Sm.rf) jX2_read) jX3_copyFrom) s0.2.2.2.2.2.2.2.2.1.1) (Nat.le_of_ble_eq_true rfl) (Nat.zero_le _) (Nat.zero_le _) (tX0_clear (Hi.sm (Sm.tr (Sm.tr (Sm.wi Sm.rf) jX2_read) jX3_copyFrom) s0.2.2.2.2.2.2.2.2.1) ?_)
    show Go X (d + K + 7) mc ms kX8_orders Q 52 [(1, .ref ((a0 + 282) + 2)), (0, .ref a0)] [] (mX0_clear (mX3_copyFrom (mX2_read N K (g_wi M a0 14 (-1)) (a0 + 282) 1) (a0 + 257) ((a0 + 1) + 1)) (a0 + 135)) 0 0
    refine g_iconst (0) 53 dX8_orders_52 rfl rfl ?_
    refine g_istore_n 54 [(2, .int (0)), (1, .ref ((a0 + 282) + 2)), (0, .ref a0)] dX8_orders_53 rfl (Nat.le_of_ble_eq_true rfl) rfl ?_
    refine g_iconst ((-1)) 55 dX8_orders_54 rfl rfl ?_
    refine g_istore_n 56 [(3, .int ((-1))), (2, .int (0)), (1, .ref ((a0 + 282) + 2)), (0, .ref a0)] dX8_orders_55 rfl (Nat.le_of_ble_eq_true rfl) rfl ?_
    refine g_iconst (0) 57 dX8_orders_56 rfl rfl ?_
    refine g_istore 59 [(4, .int (0)), (3, .int ((-1))), (2, .int (0)), (1, .ref ((a0 + 282) + 2)), (0, .ref a0)] dX8_orders_57 rfl (Nat.le_of_ble_eq_true rfl) rfl ?_
    exact g_sub [4, 3, 2, 1, 0] _ rfl (h3 c1)
  · skip
    refine g_aload_n 0 17 dX8_orders_16 rfl rfl ?_
    refine g_bipush ((-6)) 19 dX8_orders_17 rfl rfl ?_
    refine g_callV (mc1 := 0) (ms1 := 0) (b := a0) (rest := []) (av := [.int ((-6))]) kX8_refuse 22 dX8_orders_19 rfl rfl mbX8_146 imX8_refuse seX8_refuse gcl8.1 (Sm.k (Sm.tr (Sm.wi Sm.rf) jX2_read) s0.1) (Nat.le_of_ble_eq_true rfl) (Nat.zero_le _) (Nat.zero_le _) (tX8_refuse (Ph.sm (Sm.tr (Sm.wi Sm.rf) jX2_read) s0) ?_)
    show Go X (d + K + 7) mc ms kX8_orders Q 22 [(0, .ref a0)] [.int ((fX8_refuse a0 (-6)))] (mX8_refuse (mX2_read N K (g_wi M a0 14 (-1)) (a0 + 282) 1) a0 (-6)) 0 0
    exact g_iret dX8_orders_22 rfl (Nat.zero_le _) (Nat.zero_le _) (h4 c1)

set_option maxRecDepth 4000 in
theorem sX8_orders_59 {N : Nat} {K : Nat} {X : gX} {d mc ms : Nat} {Q : Option Value → gM → Prop} {M : gM} {c z : Nat} {a0 : Nat} {a1 : Nat} {n1 m1 : Nat} {x2 : Int32} {x3 : Int32} {x4 : Int32} (s0 : Ph M a0) (s1 : Tx M a1 n1 m1) (w1 : c ≤ mc) (w2 : z ≤ ms) (b3 : ((g_mi M a1 6) ≤ x4) → EX0_appendAll N M (a0 + 13) (a0 + 135)) (h4 : ((g_mi M a1 6) ≤ x4) → Q (some (.int ((fX8_accept a0 x2)))) (mX8_accept (mX0_appendAll N M (a0 + 13) (a0 + 135)) a0 x2)) (h5 : (¬ (g_mi M a1 6) ≤ x4) → Go X (d + K + 7) mc ms kX8_orders Q 71 [(0, .ref a0), (1, .ref a1), (2, .int (x2)), (3, .int (x3)), (4, .int (x4)), (5, .int (0))] [] M c z) : Go X (d + K + 7) mc ms kX8_orders Q 59 [(0, .ref a0), (1, .ref a1), (2, .int (x2)), (3, .int (x3)), (4, .int (x4))] [] M c z := by
  refine g_iload 4 61 dX8_orders_59 rfl rfl ?_
  refine g_aload_n 1 62 dX8_orders_61 rfl rfl ?_
  refine g_getI 65 dX8_orders_62 rfl flX8_196 s1.1 ?_
  refine g_icmp_ge 165 68 dX8_orders_65 rfl rfl (fun c1 => ?_) (fun c1 => ?_)
  · skip
    refine g_aload_n 0 166 dX8_orders_165 rfl rfl ?_
    refine g_getR 169 (a0 + 13) dX8_orders_166 rfl flX8_25 s0.1 s0.2.2.2.2.2.1 ?_
    refine g_aload_n 0 170 dX8_orders_169 rfl rfl ?_
    refine g_getR 173 (a0 + 135) dX8_orders_170 rfl flX8_29 s0.1 s0.2.2.2.2.2.2.2.1 ?_
    refine g_callV (mc1 := 0) (ms1 := 0) (b := (a0 + 13)) (rest := []) (av := [.ref (a0 + 135)]) kX0_appendAll 176 dX8_orders_173 rfl rfl mbX8_208 imX0_appendAll seX0_appendAll gcl0.1 s0.2.2.2.2.2.2.1.1 (Nat.le_of_ble_eq_true rfl) (w1) (w2) (tX0_appendAll (N := N) s0.2.2.2.2.2.2.1 s0.2.2.2.2.2.2.2.2.1 (b3 c1) ?_)
    show Go X (d + K + 7) mc ms kX8_orders Q 176 [(0, .ref a0), (1, .ref a1), (2, .int (x2)), (3, .int (x3)), (4, .int (x4))] [] (mX0_appendAll N M (a0 + 13) (a0 + 135)) c z
    refine g_aload_n 0 177 dX8_orders_176 rfl rfl ?_
    refine g_iload_n 2 178 dX8_orders_177 rfl rfl ?_
    refine g_callV (mc1 := 0) (ms1 := 0) (b := a0) (rest := []) (av := [.int (x2)]) kX8_accept 181 dX8_orders_178 rfl rfl mbX8_155 imX8_accept seX8_accept gcl8.1 (Sm.k (Sm.tr Sm.rf jX0_appendAll) s0.1) (Nat.le_of_ble_eq_true rfl) (w1) (w2) (tX8_accept (Ph.sm (Sm.tr Sm.rf jX0_appendAll) s0) ?_)
    show Go X (d + K + 7) mc ms kX8_orders Q 181 [(0, .ref a0), (1, .ref a1), (2, .int (x2)), (3, .int (x3)), (4, .int (x4))] [.int ((fX8_accept a0 x2))] (mX8_accept (mX0_appendAll N M (a0 + 13) (a0 + 135)) a0 x2) c z
    exact g_iret dX8_orders_181 rfl (w1) (w2) (h4 c1)
  · skip
    refine g_iconst (0) 69 dX8_orders_68 rfl rfl ?_
    refine g_istore 71 [(5, .int (0)), (0, .ref a0), (1, .ref a1), (2, .int (x2)), (3, .int (x3)), (4, .int (x4))] dX8_orders_69 rfl (Nat.le_of_ble_eq_true rfl) rfl ?_
    exact g_sub [1, 2, 3, 4, 5, 0] _ rfl (h5 c1)

set_option maxRecDepth 4000 in
theorem sX8_orders_71 {N : Nat} {K : Nat} {X : gX} {d mc ms : Nat} {Q : Option Value → gM → Prop} {M : gM} {c z : Nat} {a0 : Nat} {a1 : Nat} {n1 m1 : Nat} {x2 : Int32} {x3 : Int32} {x4 : Int32} {x5 : Int32} (s0 : Ph M a0) (s1 : Tx M a1 n1 m1) (b1 : vp_in (x4) n1) (h2 : ((g_mi M (a1 + 2) (x4).toNatClampNeg) ≤ x5) → Go X (d + K + 7) mc ms kX8_orders Q 59 [(0, .ref a0), (1, .ref a1), (2, .int (x2)), (3, .int (x3)), (4, .int ((x4 + 1)))] [] M c z) (w3 : c ≤ mc) (w4 : z ≤ ms) (b5 : (¬ (g_mi M (a1 + 2) (x4).toNatClampNeg) ≤ x5) → EX8_runOnce N M a0 a1 n1 m1 x4 x2 x3) (b6 : (¬ (g_mi M (a1 + 2) (x4).toNatClampNeg) ≤ x5) → (¬ (fX8_runOnce N M a0 a1 n1 m1 x4 x2 x3) = (-2147483648)) → (0 ≤ (fX8_runOnce N M a0 a1 n1 m1 x4 x2 x3)) → vp_in (x4) n1) (h7 : (¬ (g_mi M (a1 + 2) (x4).toNatClampNeg) ≤ x5) → (¬ (fX8_runOnce N M a0 a1 n1 m1 x4 x2 x3) = (-2147483648)) → (0 ≤ (fX8_runOnce N M a0 a1 n1 m1 x4 x2 x3)) → (¬ (g_mi (mX8_runOnce N M a0 a1 n1 m1 x4 x2 x3) (a1 + 1) (x4).toNatClampNeg) = 4) → Go X (d + K + 7) mc ms kX8_orders Q 71 [(0, .ref a0), (1, .ref a1), (2, .int ((x2 + 1))), (3, .int (x3)), (4, .int (x4)), (5, .int ((x5 + 1)))] [] (mX8_runOnce N M a0 a1 n1 m1 x4 x2 x3) c z) (h8 : (¬ (g_mi M (a1 + 2) (x4).toNatClampNeg) ≤ x5) → (¬ (fX8_runOnce N M a0 a1 n1 m1 x4 x2 x3) = (-2147483648)) → (0 ≤ (fX8_runOnce N M a0 a1 n1 m1 x4 x2 x3)) → ((g_mi (mX8_runOnce N M a0 a1 n1 m1 x4 x2 x3) (a1 + 1) (x4).toNatClampNeg) = 4) → Go X (d + K + 7) mc ms kX8_orders Q 71 [(0, .ref a0), (1, .ref a1), (2, .int ((x2 + 1))), (3, .int ((fX8_runOnce N M a0 a1 n1 m1 x4 x2 x3))), (4, .int (x4)), (5, .int ((x5 + 1)))] [] (mX8_runOnce N M a0 a1 n1 m1 x4 x2 x3) c z) (b9 : (¬ (g_mi M (a1 + 2) (x4).toNatClampNeg) ≤ x5) → (¬ (fX8_runOnce N M a0 a1 n1 m1 x4 x2 x3) = (-2147483648)) → (¬ 0 ≤ (fX8_runOnce N M a0 a1 n1 m1 x4 x2 x3)) → EX3_copyFrom (mX8_runOnce N M a0 a1 n1 m1 x4 x2 x3) ((a0 + 1) + 1) (a0 + 257)) (h10 : (¬ (g_mi M (a1 + 2) (x4).toNatClampNeg) ≤ x5) → (¬ (fX8_runOnce N M a0 a1 n1 m1 x4 x2 x3) = (-2147483648)) → (¬ 0 ≤ (fX8_runOnce N M a0 a1 n1 m1 x4 x2 x3)) → Q (some (.int ((fX8_refuse a0 (-3))))) (mX8_refuse (g_wi (mX3_copyFrom (mX8_runOnce N M a0 a1 n1 m1 x4 x2 x3) ((a0 + 1) + 1) (a0 + 257)) a0 14 x4) a0 (-3))) (h11 : (¬ (g_mi M (a1 + 2) (x4).toNatClampNeg) ≤ x5) → ((fX8_runOnce N M a0 a1 n1 m1 x4 x2 x3) = (-2147483648)) → Go X (d + K + 7) mc ms kX8_orders Q 71 [(0, .ref a0), (1, .ref a1), (2, .int (x2)), (3, .int (x3)), (4, .int (x4)), (5, .int ((x5 + 1)))] [] (mX8_runOnce N M a0 a1 n1 m1 x4 x2 x3) c z) : Go X (d + K + 7) mc ms kX8_orders Q 71 [(0, .ref a0), (1, .ref a1), (2, .int (x2)), (3, .int (x3)), (4, .int (x4)), (5, .int (x5))] [] M c z := by
  refine g_iload 5 73 dX8_orders_71 rfl rfl ?_
  refine g_aload_n 1 74 dX8_orders_73 rfl rfl ?_
  refine g_getR 77 (a1 + 2) dX8_orders_74 rfl flX8_197 s1.1 s1.2.2.2.1 ?_
  refine g_iload 4 79 dX8_orders_77 rfl rfl ?_
  refine h_iaload 80 (x4).toNatClampNeg dX8_orders_79 rfl rfl s1.2.2.2.2.1 (b1) ?_
  refine g_icmp_ge 159 83 dX8_orders_80 rfl rfl (fun c1 => ?_) (fun c1 => ?_)
  · skip
    refine g_iinc _ 4 162 [(4, .int ((x4 + 1))), (0, .ref a0), (1, .ref a1), (2, .int (x2)), (3, .int (x3)), (5, .int (x5))] dX8_orders_159 rfl rfl rfl (Nat.le_of_ble_eq_true rfl) rfl ?_
    refine g_goto 59 dX8_orders_162 rfl ?_
    exact g_sub [1, 2, 3, 4, 0] _ rfl (h2 c1)
  · skip
    refine g_aload_n 0 84 dX8_orders_83 rfl rfl ?_
    refine g_aload_n 1 85 dX8_orders_84 rfl rfl ?_
    refine g_iload 4 87 dX8_orders_85 rfl rfl ?_
    refine g_iload_n 2 88 dX8_orders_87 rfl rfl ?_
    refine g_iload_n 3 89 dX8_orders_88 rfl rfl ?_
    refine g_callV (mc1 := 0) (ms1 := 0) (b := a0) (rest := []) (av := [.ref a1, .int (x4), .int (x2), .int (x3)]) kX8_runOnce 92 dX8_orders_89 rfl rfl mbX8_200 imX8_runOnce seX8_runOnce gcl8.1 s0.1 (Nat.le_of_ble_eq_true rfl) (w3) (w4) (tX8_runOnce (N := N) s0 s1 (b5 c1) ?_)
    show Go X (d + K + 7) mc ms kX8_orders Q 92 [(0, .ref a0), (1, .ref a1), (2, .int (x2)), (3, .int (x3)), (4, .int (x4)), (5, .int (x5))] [.int ((fX8_runOnce N M a0 a1 n1 m1 x4 x2 x3))] (mX8_runOnce N M a0 a1 n1 m1 x4 x2 x3) c z
    refine g_istore 94 [(6, .int ((fX8_runOnce N M a0 a1 n1 m1 x4 x2 x3))), (0, .ref a0), (1, .ref a1), (2, .int (x2)), (3, .int (x3)), (4, .int (x4)), (5, .int (x5))] dX8_orders_92 rfl (Nat.le_of_ble_eq_true rfl) rfl ?_
    refine g_iload 0 96 dX8_orders_94 rfl rfl ?_
    refine g_ldc ((-2147483648)) 98 dX8_orders_96 rfl q3_218 ?_
    refine g_icmp_ne 104 101 dX8_orders_98 rfl rfl (fun c2 => ?_) (fun c2 => ?_)
    · skip
      refine g_iload 0 106 dX8_orders_104 rfl rfl ?_
      refine g_if_ge 136 109 dX8_orders_106 rfl rfl (fun c3 => ?_) (fun c3 => ?_)
      · skip
        refine g_iinc _ 3 139 [(2, .int ((x2 + 1))), (6, .int ((fX8_runOnce N M a0 a1 n1 m1 x4 x2 x3))), (0, .ref a0), (1, .ref a1), (3, .int (x3)), (4, .int (x4)), (5, .int (x5))] dX8_orders_136 rfl rfl rfl (Nat.le_of_ble_eq_true rfl) rfl ?_
        refine g_aload_n 3 140 dX8_orders_139 rfl rfl ?_
        refine g_getR 143 (a1 + 1) dX8_orders_140 rfl flX8_205 (Sm.k (Sm.tr Sm.rf jX8_runOnce) s1.1) (Sm.r (Sm.tr Sm.rf jX8_runOnce) s1.2.1) ?_
        refine g_iload 5 145 dX8_orders_143 rfl rfl ?_
        refine h_iaload 146 (x4).toNatClampNeg dX8_orders_145 rfl rfl (Sm.k (Sm.tr Sm.rf jX8_runOnce) s1.2.2.1) (b6 c1 c2 c3) ?_
        refine g_iconst (4) 147 dX8_orders_146 rfl rfl ?_
        refine g_icmp_ne 153 150 dX8_orders_147 rfl rfl (fun c4 => ?_) (fun c4 => ?_)
        · skip
          refine g_iinc _ 6 156 [(5, .int ((x5 + 1))), (2, .int ((x2 + 1))), (6, .int ((fX8_runOnce N M a0 a1 n1 m1 x4 x2 x3))), (0, .ref a0), (1, .ref a1), (3, .int (x3)), (4, .int (x4))] dX8_orders_153 rfl rfl rfl (Nat.le_of_ble_eq_true rfl) rfl ?_
          refine g_goto 71 dX8_orders_156 rfl ?_
          exact g_sub [3, 4, 1, 5, 6, 0] _ rfl (h7 c1 c2 c3 c4)
        · skip
          refine g_iload 1 152 dX8_orders_150 rfl rfl ?_
          refine g_istore_n 153 [(3, .int ((fX8_runOnce N M a0 a1 n1 m1 x4 x2 x3))), (2, .int ((x2 + 1))), (6, .int ((fX8_runOnce N M a0 a1 n1 m1 x4 x2 x3))), (0, .ref a0), (1, .ref a1), (4, .int (x4)), (5, .int (x5))] dX8_orders_152 rfl (Nat.le_of_ble_eq_true rfl) rfl ?_
          refine g_iinc _ 6 156 [(5, .int ((x5 + 1))), (3, .int ((fX8_runOnce N M a0 a1 n1 m1 x4 x2 x3))), (2, .int ((x2 + 1))), (6, .int ((fX8_runOnce N M a0 a1 n1 m1 x4 x2 x3))), (0, .ref a0), (1, .ref a1), (4, .int (x4))] dX8_orders_153 rfl rfl rfl (Nat.le_of_ble_eq_true rfl) rfl ?_
          refine g_goto 71 dX8_orders_156 rfl ?_
          exact g_sub [4, 5, 2, 1, 6, 0] _ rfl (h8 c1 c2 c3 c4)
      · skip
        refine g_aload_n 1 110 dX8_orders_109 rfl rfl ?_
        refine g_getR 113 (a0 + 1) dX8_orders_110 rfl flX8_14 (Sm.k (Sm.tr Sm.rf jX8_runOnce) s0.1) (Sm.r (Sm.tr Sm.rf jX8_runOnce) s0.2.1) ?_
        refine g_getR 116 ((a0 + 1) + 1) dX8_orders_113 rfl flX8_102 (Sm.k (Sm.tr Sm.rf jX8_runOnce) s0.2.2.1.1) (Sm.r (Sm.tr Sm.rf jX8_runOnce) s0.2.2.1.2.1) ?_
        refine g_aload_n 1 117 dX8_orders_116 rfl rfl ?_
        refine g_getR 120 (a0 + 257) dX8_orders_117 rfl flX8_35 (Sm.k (Sm.tr Sm.rf jX8_runOnce) s0.1) (Sm.r (Sm.tr Sm.rf jX8_runOnce) s0.2.2.2.2.2.2.2.2.2.1) ?_
        refine g_callV (mc1 := 0) (ms1 := 0) (b := ((a0 + 1) + 1)) (rest := []) (av := [.ref (a0 + 257)]) kX3_copyFrom 123 dX8_orders_120 rfl rfl mbX8_192 imX3_copyFrom seX3_copyFrom gcl3.1 (Sm.k (Sm.tr Sm.rf jX8_runOnce) s0.2.2.1.2.2.1.1) (Nat.le_of_ble_eq_true rfl) (w3) (w4) (tX3_copyFrom (St.sm (Sm.tr Sm.rf jX8_runOnce) s0.2.2.1.2.2.1) (St.sm (Sm.tr Sm.rf jX8_runOnce) s0.2.2.2.2.2.2.2.2.2.2.1) (b9 c1 c2 c3) ?_)
        show Go X (d + K + 7) mc ms kX8_orders Q 123 [(6, .int ((fX8_runOnce N M a0 a1 n1 m1 x4 x2 x3))), (0, .ref a0), (1, .ref a1), (2, .int (x2)), (3, .int (x3)), (4, .int (x4)), (5, .int (x5))] [] (mX3_copyFrom (mX8_runOnce N M a0 a1 n1 m1 x4 x2 x3) ((a0 + 1) + 1) (a0 + 257)) c z
        refine g_aload_n 1 124 dX8_orders_123 rfl rfl ?_
        refine g_iload 5 126 dX8_orders_124 rfl rfl ?_
        refine g_putI 129 dX8_orders_126 rfl flX8_88 (Sm.k (Sm.tr (Sm.tr Sm.rf jX8_runOnce) jX3_copyFrom) s0.1) ?_
        refine g_aload_n 1 130 dX8_orders_129 rfl rfl ?_
        refine g_bipush ((-3)) 132 dX8_orders_130 rfl rfl ?_
        refine g_callV (mc1 := 0) (ms1 := 0) (b := a0) (rest := []) (av := [.int ((-3))]) kX8_refuse 135 dX8_orders_132 rfl rfl mbX8_146 imX8_refuse seX8_refuse gcl8.1 (Sm.k (Sm.wi (Sm.tr (Sm.tr Sm.rf jX8_runOnce) jX3_copyFrom)) s0.1) (Nat.le_of_ble_eq_true rfl) (w3) (w4) (tX8_refuse (Ph.sm (Sm.wi (Sm.tr (Sm.tr Sm.rf jX8_runOnce) jX3_copyFrom)) s0) ?_)
        show Go X (d + K + 7) mc ms kX8_orders Q 135 [(6, .int ((fX8_runOnce N M a0 a1 n1 m1 x4 x2 x3))), (0, .ref a0), (1, .ref a1), (2, .int (x2)), (3, .int (x3)), (4, .int (x4)), (5, .int (x5))] [.int ((fX8_refuse a0 (-3)))] (mX8_refuse (g_wi (mX3_copyFrom (mX8_runOnce N M a0 a1 n1 m1 x4 x2 x3) ((a0 + 1) + 1) (a0 + 257)) a0 14 x4) a0 (-3)) c z
        exact g_iret dX8_orders_135 rfl (w3) (w4) (h10 c1 c2 c3)
    · skip
      refine g_goto 153 dX8_orders_101 rfl ?_
      refine g_iinc _ 6 156 [(5, .int ((x5 + 1))), (6, .int ((fX8_runOnce N M a0 a1 n1 m1 x4 x2 x3))), (0, .ref a0), (1, .ref a1), (2, .int (x2)), (3, .int (x3)), (4, .int (x4))] dX8_orders_153 rfl rfl rfl (Nat.le_of_ble_eq_true rfl) rfl ?_
      refine g_goto 71 dX8_orders_156 rfl ?_
      exact g_sub [2, 3, 4, 5, 6, 0] _ rfl (h11 c1 c2)

def bX8_orders_0 (N : Nat) (K : Nat) (M : gM) (a0 : Nat) (k : Nat → (Nat → Nat → Int32) → Nat → Nat → Nat → Nat → Int32 → Int32 → Int32 → Int32 → Int32 × (Nat → Nat → Int32)) : Int32 × (Nat → Nat → Int32) := (if (fX2_read N K (g_wi M a0 14 (-1)) (a0 + 282) 1) = 0 then ((fX8_refuse a0 (-6)), g_mi (mX8_refuse (mX2_read N K (g_wi M a0 14 (-1)) (a0 + 282) 1) a0 (-6))) else (k 0 (g_mi (mX0_clear (mX3_copyFrom (mX2_read N K (g_wi M a0 14 (-1)) (a0 + 282) 1) (a0 + 257) ((a0 + 1) + 1)) (a0 + 135))) a0 ((a0 + 282) + 2) 12 460 0 (-1) 0 0))
def eX8_orders_0 (N : Nat) (K : Nat) (M : gM) (a0 : Nat) (k : Nat → (Nat → Nat → Int32) → Nat → Nat → Nat → Nat → Int32 → Int32 → Int32 → Int32 → Prop) : Prop := (EX2_read N K (g_wi M a0 14 (-1)) (a0 + 282) 1) ∧ ((¬ (fX2_read N K (g_wi M a0 14 (-1)) (a0 + 282) 1) = 0) → EX3_copyFrom (mX2_read N K (g_wi M a0 14 (-1)) (a0 + 282) 1) (a0 + 257) ((a0 + 1) + 1)) ∧ (if (fX2_read N K (g_wi M a0 14 (-1)) (a0 + 282) 1) = 0 then True else (k 0 (g_mi (mX0_clear (mX3_copyFrom (mX2_read N K (g_wi M a0 14 (-1)) (a0 + 282) 1) (a0 + 257) ((a0 + 1) + 1)) (a0 + 135))) a0 ((a0 + 282) + 2) 12 460 0 (-1) 0 0))
def bX8_orders_59 (N : Nat) (K : Nat) (M : gM) (f : Nat → Nat → Int32) (a0 : Nat) (a1 : Nat) (n1 : Nat) (m1 : Nat) (x2 : Int32) (x3 : Int32) (x4 : Int32) (k : Nat → (Nat → Nat → Int32) → Nat → Nat → Nat → Nat → Int32 → Int32 → Int32 → Int32 → Int32 × (Nat → Nat → Int32)) : Int32 × (Nat → Nat → Int32) := (if (g_mi (g_wm M f (g_ml M)) a1 6) ≤ x4 then ((fX8_accept a0 x2), g_mi (mX8_accept (mX0_appendAll N (g_wm M f (g_ml M)) (a0 + 13) (a0 + 135)) a0 x2)) else (k 1 (g_mi (g_wm M f (g_ml M))) a0 a1 n1 m1 x2 x3 x4 0))
def eX8_orders_59 (N : Nat) (K : Nat) (M : gM) (f : Nat → Nat → Int32) (a0 : Nat) (a1 : Nat) (n1 : Nat) (m1 : Nat) (x2 : Int32) (x3 : Int32) (x4 : Int32) (k : Nat → (Nat → Nat → Int32) → Nat → Nat → Nat → Nat → Int32 → Int32 → Int32 → Int32 → Prop) : Prop := (((g_mi (g_wm M f (g_ml M)) a1 6) ≤ x4) → EX0_appendAll N (g_wm M f (g_ml M)) (a0 + 13) (a0 + 135)) ∧ (if (g_mi (g_wm M f (g_ml M)) a1 6) ≤ x4 then True else (k 1 (g_mi (g_wm M f (g_ml M))) a0 a1 n1 m1 x2 x3 x4 0))
def bX8_orders_71 (N : Nat) (K : Nat) (M : gM) (f : Nat → Nat → Int32) (a0 : Nat) (a1 : Nat) (n1 : Nat) (m1 : Nat) (x2 : Int32) (x3 : Int32) (x4 : Int32) (x5 : Int32) (k : Nat → (Nat → Nat → Int32) → Nat → Nat → Nat → Nat → Int32 → Int32 → Int32 → Int32 → Int32 × (Nat → Nat → Int32)) : Int32 × (Nat → Nat → Int32) := (if (g_mi (g_wm M f (g_ml M)) (a1 + 2) (x4).toNatClampNeg) ≤ x5 then (k 0 (g_mi (g_wm M f (g_ml M))) a0 a1 n1 m1 x2 x3 (x4 + 1) 0) else (if (fX8_runOnce N (g_wm M f (g_ml M)) a0 a1 n1 m1 x4 x2 x3) = (-2147483648) then (k 1 (g_mi (mX8_runOnce N (g_wm M f (g_ml M)) a0 a1 n1 m1 x4 x2 x3)) a0 a1 n1 m1 x2 x3 x4 (x5 + 1)) else (if 0 ≤ (fX8_runOnce N (g_wm M f (g_ml M)) a0 a1 n1 m1 x4 x2 x3) then (if (g_mi (mX8_runOnce N (g_wm M f (g_ml M)) a0 a1 n1 m1 x4 x2 x3) (a1 + 1) (x4).toNatClampNeg) = 4 then (k 1 (g_mi (mX8_runOnce N (g_wm M f (g_ml M)) a0 a1 n1 m1 x4 x2 x3)) a0 a1 n1 m1 (x2 + 1) (fX8_runOnce N (g_wm M f (g_ml M)) a0 a1 n1 m1 x4 x2 x3) x4 (x5 + 1)) else (k 1 (g_mi (mX8_runOnce N (g_wm M f (g_ml M)) a0 a1 n1 m1 x4 x2 x3)) a0 a1 n1 m1 (x2 + 1) x3 x4 (x5 + 1))) else ((fX8_refuse a0 (-3)), g_mi (mX8_refuse (g_wi (mX3_copyFrom (mX8_runOnce N (g_wm M f (g_ml M)) a0 a1 n1 m1 x4 x2 x3) ((a0 + 1) + 1) (a0 + 257)) a0 14 x4) a0 (-3))))))
def eX8_orders_71 (N : Nat) (K : Nat) (M : gM) (f : Nat → Nat → Int32) (a0 : Nat) (a1 : Nat) (n1 : Nat) (m1 : Nat) (x2 : Int32) (x3 : Int32) (x4 : Int32) (x5 : Int32) (k : Nat → (Nat → Nat → Int32) → Nat → Nat → Nat → Nat → Int32 → Int32 → Int32 → Int32 → Prop) : Prop := (vp_in (x4) n1) ∧ ((¬ (g_mi (g_wm M f (g_ml M)) (a1 + 2) (x4).toNatClampNeg) ≤ x5) → EX8_runOnce N (g_wm M f (g_ml M)) a0 a1 n1 m1 x4 x2 x3) ∧ ((¬ (g_mi (g_wm M f (g_ml M)) (a1 + 2) (x4).toNatClampNeg) ≤ x5) → (¬ (fX8_runOnce N (g_wm M f (g_ml M)) a0 a1 n1 m1 x4 x2 x3) = (-2147483648)) → (0 ≤ (fX8_runOnce N (g_wm M f (g_ml M)) a0 a1 n1 m1 x4 x2 x3)) → vp_in (x4) n1) ∧ ((¬ (g_mi (g_wm M f (g_ml M)) (a1 + 2) (x4).toNatClampNeg) ≤ x5) → (¬ (fX8_runOnce N (g_wm M f (g_ml M)) a0 a1 n1 m1 x4 x2 x3) = (-2147483648)) → (¬ 0 ≤ (fX8_runOnce N (g_wm M f (g_ml M)) a0 a1 n1 m1 x4 x2 x3)) → EX3_copyFrom (mX8_runOnce N (g_wm M f (g_ml M)) a0 a1 n1 m1 x4 x2 x3) ((a0 + 1) + 1) (a0 + 257)) ∧ (if (g_mi (g_wm M f (g_ml M)) (a1 + 2) (x4).toNatClampNeg) ≤ x5 then (k 0 (g_mi (g_wm M f (g_ml M))) a0 a1 n1 m1 x2 x3 (x4 + 1) 0) else (if (fX8_runOnce N (g_wm M f (g_ml M)) a0 a1 n1 m1 x4 x2 x3) = (-2147483648) then (k 1 (g_mi (mX8_runOnce N (g_wm M f (g_ml M)) a0 a1 n1 m1 x4 x2 x3)) a0 a1 n1 m1 x2 x3 x4 (x5 + 1)) else (if 0 ≤ (fX8_runOnce N (g_wm M f (g_ml M)) a0 a1 n1 m1 x4 x2 x3) then (if (g_mi (mX8_runOnce N (g_wm M f (g_ml M)) a0 a1 n1 m1 x4 x2 x3) (a1 + 1) (x4).toNatClampNeg) = 4 then (k 1 (g_mi (mX8_runOnce N (g_wm M f (g_ml M)) a0 a1 n1 m1 x4 x2 x3)) a0 a1 n1 m1 (x2 + 1) (fX8_runOnce N (g_wm M f (g_ml M)) a0 a1 n1 m1 x4 x2 x3) x4 (x5 + 1)) else (k 1 (g_mi (mX8_runOnce N (g_wm M f (g_ml M)) a0 a1 n1 m1 x4 x2 x3)) a0 a1 n1 m1 (x2 + 1) x3 x4 (x5 + 1))) else True)))
def wX8_orders (N : Nat) (K : Nat) (M : gM) : Nat → Nat → (Nat → Nat → Int32) → Nat → Nat → Nat → Nat → Int32 → Int32 → Int32 → Int32 → Int32 × (Nat → Nat → Int32)
  | 0, _, f, _, _, _, _, _, _, _, _ => (0, f)
  | n + 1, h, f, a0, a1, n1, m1, x2, x3, x4, x5 => if h = 0 then bX8_orders_59 N K M f a0 a1 n1 m1 x2 x3 x4 (wX8_orders N K M n) else bX8_orders_71 N K M f a0 a1 n1 m1 x2 x3 x4 x5 (wX8_orders N K M n)
def vX8_orders (N : Nat) (K : Nat) (M : gM) : Nat → Nat → (Nat → Nat → Int32) → Nat → Nat → Nat → Nat → Int32 → Int32 → Int32 → Int32 → Prop
  | 0, _, _, _, _, _, _, _, _, _, _ => False
  | n + 1, h, f, a0, a1, n1, m1, x2, x3, x4, x5 => if h = 0 then eX8_orders_59 N K M f a0 a1 n1 m1 x2 x3 x4 (vX8_orders N K M n) else eX8_orders_71 N K M f a0 a1 n1 m1 x2 x3 x4 x5 (vX8_orders N K M n)
set_option maxRecDepth 10000 in
theorem lpX8_orders {X : gX} {d mc ms : Nat} {Q : Option Value → gM → Prop} (N : Nat) (K : Nat) (M : gM) : ∀ n : Nat, (∀ (f : Nat → Nat → Int32) (a0 : Nat) (a1 : Nat) (n1 : Nat) (m1 : Nat) (x2 : Int32) (x3 : Int32) (x4 : Int32) (x5 : Int32), Ph M a0 → Tx M a1 n1 m1 → vX8_orders N K M n 0 f a0 a1 n1 m1 x2 x3 x4 x5 → Q (some (.int (wX8_orders N K M n 0 f a0 a1 n1 m1 x2 x3 x4 x5).1)) (g_wm M (wX8_orders N K M n 0 f a0 a1 n1 m1 x2 x3 x4 x5).2 (g_ml M)) → Go X (d + K + 7) mc ms kX8_orders Q 59 [(0, .ref a0), (1, .ref a1), (2, .int (x2)), (3, .int (x3)), (4, .int (x4))] [] (g_wm M f (g_ml M)) 0 0) ∧ (∀ (f : Nat → Nat → Int32) (a0 : Nat) (a1 : Nat) (n1 : Nat) (m1 : Nat) (x2 : Int32) (x3 : Int32) (x4 : Int32) (x5 : Int32), Ph M a0 → Tx M a1 n1 m1 → vX8_orders N K M n 1 f a0 a1 n1 m1 x2 x3 x4 x5 → Q (some (.int (wX8_orders N K M n 1 f a0 a1 n1 m1 x2 x3 x4 x5).1)) (g_wm M (wX8_orders N K M n 1 f a0 a1 n1 m1 x2 x3 x4 x5).2 (g_ml M)) → Go X (d + K + 7) mc ms kX8_orders Q 71 [(0, .ref a0), (1, .ref a1), (2, .int (x2)), (3, .int (x3)), (4, .int (x4)), (5, .int (x5))] [] (g_wm M f (g_ml M)) 0 0) := by
  intro n
  induction n with
  | zero => exact ⟨fun _ _ _ _ _ _ _ _ _ _ _ h _ => h.elim, fun _ _ _ _ _ _ _ _ _ _ _ h _ => h.elim⟩
  | succ n ih =>
    refine ⟨?_, ?_⟩
    · intro f a0 a1 n1 m1 x2 x3 x4 x5 s0 s1 hT hQ
      rw [vX8_orders, if_pos (show (0 : Nat) = 0 from rfl)] at hT
      rw [wX8_orders, if_pos (show (0 : Nat) = 0 from rfl)] at hQ
      unfold bX8_orders_59 at hQ
      unfold eX8_orders_59 at hT
      obtain ⟨b3, hT⟩ := hT
      exact sX8_orders_59 (M := (g_wm M f (g_ml M))) (Ph.sm Sm.wm s0) (Tx.sm Sm.wm s1) (Nat.zero_le _) (Nat.zero_le _) b3 (fun c1 => by simp only [if_pos c1] at hQ; exact Sm.q (Sm.tr Sm.wm (Sm.tr (Sm.tr Sm.rf jX0_appendAll) jX8_accept)) hQ) (fun c1 => by simp only [if_neg c1] at hQ hT; exact Sm.g Sm.wm (ih.2 _ _ _ _ _ _ _ _ _ (s0) (s1) hT hQ))
    · intro f a0 a1 n1 m1 x2 x3 x4 x5 s0 s1 hT hQ
      rw [vX8_orders, if_neg (show ¬ (1 : Nat) = 0 by decide)] at hT
      rw [wX8_orders, if_neg (show ¬ (1 : Nat) = 0 by decide)] at hQ
      unfold bX8_orders_71 at hQ
      unfold eX8_orders_71 at hT
      obtain ⟨b1, b5, b6, b9, hT⟩ := hT
      exact sX8_orders_71 (M := (g_wm M f (g_ml M))) (Ph.sm Sm.wm s0) (Tx.sm Sm.wm s1) b1 (fun c1 => by simp only [if_pos c1] at hQ hT; exact Sm.g Sm.wm (ih.1 _ _ _ _ _ _ _ _ _ (s0) (s1) hT hQ)) (Nat.zero_le _) (Nat.zero_le _) b5 b6 (fun c1 c2 c3 c4 => by simp only [if_neg c1, if_neg c2, if_pos c3, if_neg c4] at hQ hT; exact Sm.g (Sm.tr Sm.wm (Sm.tr Sm.rf jX8_runOnce)) (ih.2 _ _ _ _ _ _ _ _ _ (s0) (s1) hT hQ)) (fun c1 c2 c3 c4 => by simp only [if_neg c1, if_neg c2, if_pos c3, if_pos c4] at hQ hT; exact Sm.g (Sm.tr Sm.wm (Sm.tr Sm.rf jX8_runOnce)) (ih.2 _ _ _ _ _ _ _ _ _ (s0) (s1) hT hQ)) b9 (fun c1 c2 c3 => by simp only [if_neg c1, if_neg c2, if_neg c3] at hQ; exact Sm.q (Sm.tr Sm.wm (Sm.tr (Sm.wi (Sm.tr (Sm.tr Sm.rf jX8_runOnce) jX3_copyFrom)) jX8_refuse)) hQ) (fun c1 c2 => by simp only [if_neg c1, if_pos c2] at hQ hT; exact Sm.g (Sm.tr Sm.wm (Sm.tr Sm.rf jX8_runOnce)) (ih.2 _ _ _ _ _ _ _ _ _ (s0) (s1) hT hQ))
def fX8_orders (N : Nat) (K : Nat) (M : gM) (a0 : Nat) : Int32 := (bX8_orders_0 N K M a0 (wX8_orders N K M N)).1
def mX8_orders (N : Nat) (K : Nat) (M : gM) (a0 : Nat) : gM := g_wm M (bX8_orders_0 N K M a0 (wX8_orders N K M N)).2 (g_ml M)
theorem jX8_orders {N : Nat} {K : Nat} {M : gM} {a0 : Nat} : Sm M (mX8_orders N K M a0) := Sm.wm
def EX8_orders (N : Nat) (K : Nat) (M : gM) (a0 : Nat) : Prop := eX8_orders_0 N K M a0 (vX8_orders N K M N)
theorem tX8_orders {N : Nat} {K : Nat} {X : gX} {d mc ms : Nat} {Q : Option Value → gM → Prop} {M : gM} {a0 : Nat} (s0 : Ph M a0) (hE : EX8_orders N K M a0) (hQ : Q (some (.int (fX8_orders N K M a0))) (mX8_orders N K M a0)) : Cn X (d + K + 7) mc ms kX8_orders [.ref a0] M Q := by
  unfold fX8_orders mX8_orders at hQ
  unfold bX8_orders_0 at hQ
  unfold EX8_orders eX8_orders_0 at hE
  obtain ⟨b1, b2, hT⟩ := hE
  have ih := lpX8_orders (X := X) (d := d) (mc := mc) (ms := ms) (Q := Q) N K M N
  exact sX8_orders_0 s0 b1 b2 (fun c1 => by simp only [if_neg c1] at hQ hT; exact Sm.g (Sm.tr (Sm.tr (Sm.tr (Sm.wi Sm.rf) jX2_read) jX3_copyFrom) jX0_clear) (ih.1 _ _ _ _ _ _ _ _ _ (s0) (s0.2.2.2.2.2.2.2.2.2.2.2.2.2.2.2.2.2.2.1.2.2.2.2.1) hT hQ)) (fun c1 => by simp only [if_pos c1] at hQ; exact Sm.q (Sm.tr (Sm.tr (Sm.wi Sm.rf) jX2_read) jX8_refuse) hQ)
/-! X8_years  -/
set_option maxRecDepth 4000 in
theorem sX8_years_0 {X : gX} {d mc ms : Nat} {Q : Option Value → gM → Prop} {M : gM} {a0 : Nat} {x1 : Int32} {x2 : Int32} (s0 : Ph M a0) (h1 : (x1 < 0) → Q (some (.int ((fX8_refuse a0 (-1))))) (mX8_refuse M a0 (-1))) (h2 : (¬ x1 < 0) → (1000000 < x1) → Q (some (.int ((fX8_refuse a0 (-1))))) (mX8_refuse M a0 (-1))) (h3 : (¬ x1 < 0) → (¬ 1000000 < x1) → (x2 < 1) → Q (some (.int ((fX8_refuse a0 (-1))))) (mX8_refuse M a0 (-1))) (b4 : (¬ x1 < 0) → (¬ 1000000 < x1) → (¬ x2 < 1) → (x2 ≤ 60) → EX3_copyFrom M (a0 + 264) ((a0 + 1) + 1)) (h5 : (¬ x1 < 0) → (¬ 1000000 < x1) → (¬ x2 < 1) → (x2 ≤ 60) → Go X (d + 6) mc ms kX8_years Q 47 [(0, .ref a0), (2, .int (x2)), (3, .int (x1)), (4, .int (0))] [] (mX3_copyFrom M (a0 + 264) ((a0 + 1) + 1)) 0 0) (h6 : (¬ x1 < 0) → (¬ 1000000 < x1) → (¬ x2 < 1) → (¬ x2 ≤ 60) → Q (some (.int ((fX8_refuse a0 (-1))))) (mX8_refuse M a0 (-1))) : Cn X (d + 6) mc ms kX8_years [.ref a0, .int (x1), .int (x2)] M Q := by
  refine g_meth rfl rfl (Nat.le_of_ble_eq_true rfl) rfl ?_
  refine g_iload_n 1 1 dX8_years_0 rfl rfl ?_
  refine g_if_lt 22 4 dX8_years_1 rfl rfl (fun c1 => ?_) (fun c1 => ?_)
  · skip
    refine g_aload_n 0 23 dX8_years_22 rfl rfl ?_
    refine g_iconst ((-1)) 24 dX8_years_23 rfl rfl ?_
    refine g_callV (mc1 := 0) (ms1 := 0) (b := a0) (rest := []) (av := [.int ((-1))]) kX8_refuse 27 dX8_years_24 rfl rfl mbX8_146 imX8_refuse seX8_refuse gcl8.1 s0.1 (Nat.le_of_ble_eq_true rfl) (Nat.zero_le _) (Nat.zero_le _) (tX8_refuse s0 ?_)
    show Go X (d + 6) mc ms kX8_years Q 27 [(0, .ref a0), (1, .int (x1)), (2, .int (x2))] [.int ((fX8_refuse a0 (-1)))] (mX8_refuse M a0 (-1)) 0 0
    exact g_iret dX8_years_27 rfl (Nat.zero_le _) (Nat.zero_le _) (h1 c1)
  · skip
    refine g_iload_n 1 5 dX8_years_4 rfl rfl ?_
    refine g_ldcw (1000000) 8 dX8_years_5 rfl q4_200 ?_
    refine g_icmp_gt 22 11 dX8_years_8 rfl rfl (fun c2 => ?_) (fun c2 => ?_)
    · skip
      refine g_aload_n 0 23 dX8_years_22 rfl rfl ?_
      refine g_iconst ((-1)) 24 dX8_years_23 rfl rfl ?_
      refine g_callV (mc1 := 0) (ms1 := 0) (b := a0) (rest := []) (av := [.int ((-1))]) kX8_refuse 27 dX8_years_24 rfl rfl mbX8_146 imX8_refuse seX8_refuse gcl8.1 s0.1 (Nat.le_of_ble_eq_true rfl) (Nat.zero_le _) (Nat.zero_le _) (tX8_refuse s0 ?_)
      show Go X (d + 6) mc ms kX8_years Q 27 [(0, .ref a0), (1, .int (x1)), (2, .int (x2))] [.int ((fX8_refuse a0 (-1)))] (mX8_refuse M a0 (-1)) 0 0
      exact g_iret dX8_years_27 rfl (Nat.zero_le _) (Nat.zero_le _) (h2 c1 c2)
    · skip
      refine g_iload_n 2 12 dX8_years_11 rfl rfl ?_
      refine g_iconst (1) 13 dX8_years_12 rfl rfl ?_
      refine g_icmp_lt 22 16 dX8_years_13 rfl rfl (fun c3 => ?_) (fun c3 => ?_)
      · skip
        refine g_aload_n 0 23 dX8_years_22 rfl rfl ?_
        refine g_iconst ((-1)) 24 dX8_years_23 rfl rfl ?_
        refine g_callV (mc1 := 0) (ms1 := 0) (b := a0) (rest := []) (av := [.int ((-1))]) kX8_refuse 27 dX8_years_24 rfl rfl mbX8_146 imX8_refuse seX8_refuse gcl8.1 s0.1 (Nat.le_of_ble_eq_true rfl) (Nat.zero_le _) (Nat.zero_le _) (tX8_refuse s0 ?_)
        show Go X (d + 6) mc ms kX8_years Q 27 [(0, .ref a0), (1, .int (x1)), (2, .int (x2))] [.int ((fX8_refuse a0 (-1)))] (mX8_refuse M a0 (-1)) 0 0
        exact g_iret dX8_years_27 rfl (Nat.zero_le _) (Nat.zero_le _) (h3 c1 c2 c3)
      · skip
        refine g_iload_n 2 17 dX8_years_16 rfl rfl ?_
        refine g_bipush (60) 19 dX8_years_17 rfl rfl ?_
        refine g_icmp_le 28 22 dX8_years_19 rfl rfl (fun c4 => ?_) (fun c4 => ?_)
        · skip
          refine g_aload_n 0 29 dX8_years_28 rfl rfl ?_
          refine g_getR 32 (a0 + 264) dX8_years_29 rfl flX8_39 s0.1 s0.2.2.2.2.2.2.2.2.2.2.2.1 ?_
          refine g_aload_n 0 33 dX8_years_32 rfl rfl ?_
          refine g_getR 36 (a0 + 1) dX8_years_33 rfl flX8_14 s0.1 s0.2.1 ?_
          refine g_getR 39 ((a0 + 1) + 1) dX8_years_36 rfl flX8_102 s0.2.2.1.1 s0.2.2.1.2.1 ?_
          refine g_callV (mc1 := 0) (ms1 := 0) (b := (a0 + 264)) (rest := []) (av := [.ref ((a0 + 1) + 1)]) kX3_copyFrom 42 dX8_years_39 rfl rfl mbX8_192 imX3_copyFrom seX3_copyFrom gcl3.1 s0.2.2.2.2.2.2.2.2.2.2.2.2.1.1 (Nat.le_of_ble_eq_true rfl) (Nat.zero_le _) (Nat.zero_le _) (tX3_copyFrom s0.2.2.2.2.2.2.2.2.2.2.2.2.1 s0.2.2.1.2.2.1 (b4 c1 c2 c3 c4) ?_)
          show Go X (d + 6) mc ms kX8_years Q 42 [(0, .ref a0), (1, .int (x1)), (2, .int (x2))] [] (mX3_copyFrom M (a0 + 264) ((a0 + 1) + 1)) 0 0
          refine g_iload_n 1 43 dX8_years_42 rfl rfl ?_
          refine g_istore_n 44 [(3, .int (x1)), (0, .ref a0), (1, .int (x1)), (2, .int (x2))] dX8_years_43 rfl (Nat.le_of_ble_eq_true rfl) rfl ?_
          refine g_iconst (0) 45 dX8_years_44 rfl rfl ?_
          refine g_istore 47 [(4, .int (0)), (3, .int (x1)), (0, .ref a0), (1, .int (x1)), (2, .int (x2))] dX8_years_45 rfl (Nat.le_of_ble_eq_true rfl) rfl ?_
          exact g_sub [2, 4, 1, 0] _ rfl (h5 c1 c2 c3 c4)
        · skip
          refine g_aload_n 0 23 dX8_years_22 rfl rfl ?_
          refine g_iconst ((-1)) 24 dX8_years_23 rfl rfl ?_
          refine g_callV (mc1 := 0) (ms1 := 0) (b := a0) (rest := []) (av := [.int ((-1))]) kX8_refuse 27 dX8_years_24 rfl rfl mbX8_146 imX8_refuse seX8_refuse gcl8.1 s0.1 (Nat.le_of_ble_eq_true rfl) (Nat.zero_le _) (Nat.zero_le _) (tX8_refuse s0 ?_)
          show Go X (d + 6) mc ms kX8_years Q 27 [(0, .ref a0), (1, .int (x1)), (2, .int (x2))] [.int ((fX8_refuse a0 (-1)))] (mX8_refuse M a0 (-1)) 0 0
          exact g_iret dX8_years_27 rfl (Nat.zero_le _) (Nat.zero_le _) (h6 c1 c2 c3 c4)

set_option maxRecDepth 4000 in
theorem sX8_years_47 {N : Nat} {X : gX} {d mc ms : Nat} {Q : Option Value → gM → Prop} {M : gM} {c z : Nat} {a0 : Nat} {x2 : Int32} {x3 : Int32} {x4 : Int32} (s0 : Ph M a0) (h1 : (x2 ≤ x4) → Go X (d + 6) mc ms kX8_years Q 116 [(0, .ref a0), (4, .int (0))] [] M c z) (w2 : c ≤ mc) (w3 : z ≤ ms) (b4 : (¬ x2 ≤ x4) → (5 ≤ (i_rm (fX8_nextDrawing (fX8_nextDrawing x3)) 8)) → (¬ (i_rm (fX8_nextDrawing (fX8_nextDrawing x3)) 8) = 5) → EX8_carryOut N M a0 (a0 + 264) 4 (i_rm (fX8_nextDrawing x3) 40)) (h5 : (¬ x2 ≤ x4) → (5 ≤ (i_rm (fX8_nextDrawing (fX8_nextDrawing x3)) 8)) → (¬ (i_rm (fX8_nextDrawing (fX8_nextDrawing x3)) 8) = 5) → Go X (d + 6) mc ms kX8_years Q 47 [(0, .ref a0), (2, .int (x2)), (3, .int ((fX8_nextDrawing (fX8_nextDrawing x3)))), (4, .int ((x4 + 1)))] [] (mX8_carryOut N M a0 (a0 + 264) 4 (i_rm (fX8_nextDrawing x3) 40)) c z) (b6 : (¬ x2 ≤ x4) → (5 ≤ (i_rm (fX8_nextDrawing (fX8_nextDrawing x3)) 8)) → ((i_rm (fX8_nextDrawing (fX8_nextDrawing x3)) 8) = 5) → EX8_carryOut N M a0 (a0 + 264) 1 (i_rm (fX8_nextDrawing x3) 40)) (h7 : (¬ x2 ≤ x4) → (5 ≤ (i_rm (fX8_nextDrawing (fX8_nextDrawing x3)) 8)) → ((i_rm (fX8_nextDrawing (fX8_nextDrawing x3)) 8) = 5) → Go X (d + 6) mc ms kX8_years Q 47 [(0, .ref a0), (2, .int (x2)), (3, .int ((fX8_nextDrawing (fX8_nextDrawing x3)))), (4, .int ((x4 + 1)))] [] (mX8_carryOut N M a0 (a0 + 264) 1 (i_rm (fX8_nextDrawing x3) 40)) c z) (b8 : (¬ x2 ≤ x4) → (¬ 5 ≤ (i_rm (fX8_nextDrawing (fX8_nextDrawing x3)) 8)) → EX8_carryOut N M a0 (a0 + 264) 0 (i_rm (fX8_nextDrawing x3) 40)) (h9 : (¬ x2 ≤ x4) → (¬ 5 ≤ (i_rm (fX8_nextDrawing (fX8_nextDrawing x3)) 8)) → Go X (d + 6) mc ms kX8_years Q 47 [(0, .ref a0), (2, .int (x2)), (3, .int ((fX8_nextDrawing (fX8_nextDrawing x3)))), (4, .int ((x4 + 1)))] [] (mX8_carryOut N M a0 (a0 + 264) 0 (i_rm (fX8_nextDrawing x3) 40)) c z) : Go X (d + 6) mc ms kX8_years Q 47 [(0, .ref a0), (2, .int (x2)), (3, .int (x3)), (4, .int (x4))] [] M c z := by
  refine g_iload 3 49 dX8_years_47 rfl rfl ?_
  refine g_iload_n 1 50 dX8_years_49 rfl rfl ?_
  refine g_icmp_ge 113 53 dX8_years_50 rfl rfl (fun c1 => ?_) (fun c1 => ?_)
  · skip
    refine g_iconst (0) 114 dX8_years_113 rfl rfl ?_
    refine g_istore 116 [(4, .int (0)), (0, .ref a0), (2, .int (x2)), (3, .int (x3))] dX8_years_114 rfl (Nat.le_of_ble_eq_true rfl) rfl ?_
    exact g_sub [1, 0] _ rfl (h1 c1)
  · skip
    refine g_iload_n 2 54 dX8_years_53 rfl rfl ?_
    refine g_callS (mc1 := 0) (ms1 := 0) (rest := []) (av := [.int (x3)]) kX8_nextDrawing 57 dX8_years_54 rfl rfl mbX8_321 smX8_nextDrawing (Nat.le_of_ble_eq_true rfl) (w2) (w3) (tX8_nextDrawing  ?_)
    show Go X (d + 6) mc ms kX8_years Q 57 [(0, .ref a0), (2, .int (x2)), (3, .int (x3)), (4, .int (x4))] [.int ((fX8_nextDrawing x3))] M c z
    refine g_istore_n 58 [(3, .int ((fX8_nextDrawing x3))), (0, .ref a0), (2, .int (x2)), (4, .int (x4))] dX8_years_57 rfl (Nat.le_of_ble_eq_true rfl) rfl ?_
    refine g_iload_n 0 59 dX8_years_58 rfl rfl ?_
    refine g_bipush (40) 61 dX8_years_59 rfl rfl ?_
    refine h_irem 62 dX8_years_61 rfl (by decide) ?_
    refine g_istore 64 [(5, .int ((i_rm (fX8_nextDrawing x3) 40))), (3, .int ((fX8_nextDrawing x3))), (0, .ref a0), (2, .int (x2)), (4, .int (x4))] dX8_years_62 rfl (Nat.le_of_ble_eq_true rfl) rfl ?_
    refine g_iload_n 1 65 dX8_years_64 rfl rfl ?_
    refine g_callS (mc1 := 0) (ms1 := 0) (rest := []) (av := [.int ((fX8_nextDrawing x3))]) kX8_nextDrawing 68 dX8_years_65 rfl rfl mbX8_321 smX8_nextDrawing (Nat.le_of_ble_eq_true rfl) (w2) (w3) (tX8_nextDrawing  ?_)
    show Go X (d + 6) mc ms kX8_years Q 68 [(5, .int ((i_rm (fX8_nextDrawing x3) 40))), (3, .int ((fX8_nextDrawing x3))), (0, .ref a0), (2, .int (x2)), (4, .int (x4))] [.int ((fX8_nextDrawing (fX8_nextDrawing x3)))] M c z
    refine g_istore_n 69 [(3, .int ((fX8_nextDrawing (fX8_nextDrawing x3)))), (5, .int ((i_rm (fX8_nextDrawing x3) 40))), (0, .ref a0), (2, .int (x2)), (4, .int (x4))] dX8_years_68 rfl (Nat.le_of_ble_eq_true rfl) rfl ?_
    refine g_iload_n 0 70 dX8_years_69 rfl rfl ?_
    refine g_bipush (8) 72 dX8_years_70 rfl rfl ?_
    refine h_irem 73 dX8_years_72 rfl (by decide) ?_
    refine g_istore 75 [(6, .int ((i_rm (fX8_nextDrawing (fX8_nextDrawing x3)) 8))), (3, .int ((fX8_nextDrawing (fX8_nextDrawing x3)))), (5, .int ((i_rm (fX8_nextDrawing x3) 40))), (0, .ref a0), (2, .int (x2)), (4, .int (x4))] dX8_years_73 rfl (Nat.le_of_ble_eq_true rfl) rfl ?_
    refine g_aload_n 3 76 dX8_years_75 rfl rfl ?_
    refine g_aload_n 3 77 dX8_years_76 rfl rfl ?_
    refine g_getR 80 (a0 + 264) dX8_years_77 rfl flX8_39 s0.1 s0.2.2.2.2.2.2.2.2.2.2.2.1 ?_
    refine g_iload 0 82 dX8_years_80 rfl rfl ?_
    refine g_iconst (5) 83 dX8_years_82 rfl rfl ?_
    refine g_icmp_ge 90 86 dX8_years_83 rfl rfl (fun c2 => ?_) (fun c2 => ?_)
    · skip
      refine g_iload 0 92 dX8_years_90 rfl rfl ?_
      refine g_iconst (5) 93 dX8_years_92 rfl rfl ?_
      refine g_icmp_ne 100 96 dX8_years_93 rfl rfl (fun c3 => ?_) (fun c3 => ?_)
      · skip
        refine g_iconst (4) 101 dX8_years_100 rfl rfl ?_
        refine g_iload 2 103 dX8_years_101 rfl rfl ?_
        refine g_callV (mc1 := 0) (ms1 := 0) (b := a0) (rest := []) (av := [.ref (a0 + 264), .int (4), .int ((i_rm (fX8_nextDrawing x3) 40))]) kX8_carryOut 106 dX8_years_103 rfl rfl mbX8_324 imX8_carryOut seX8_carryOut gcl8.1 s0.1 (Nat.le_of_ble_eq_true rfl) (w2) (w3) (tX8_carryOut (N := N) s0 s0.2.2.2.2.2.2.2.2.2.2.2.2.1 (b4 c1 c2 c3) ?_)
        show Go X (d + 6) mc ms kX8_years Q 106 [(6, .int ((i_rm (fX8_nextDrawing (fX8_nextDrawing x3)) 8))), (3, .int ((fX8_nextDrawing (fX8_nextDrawing x3)))), (5, .int ((i_rm (fX8_nextDrawing x3) 40))), (0, .ref a0), (2, .int (x2)), (4, .int (x4))] [.int ((fX8_carryOut N M a0 (a0 + 264) 4 (i_rm (fX8_nextDrawing x3) 40)))] (mX8_carryOut N M a0 (a0 + 264) 4 (i_rm (fX8_nextDrawing x3) 40)) c z
        refine g_pop 107 dX8_years_106 rfl rfl ?_
        refine g_iinc _ 5 110 [(4, .int ((x4 + 1))), (6, .int ((i_rm (fX8_nextDrawing (fX8_nextDrawing x3)) 8))), (3, .int ((fX8_nextDrawing (fX8_nextDrawing x3)))), (5, .int ((i_rm (fX8_nextDrawing x3) 40))), (0, .ref a0), (2, .int (x2))] dX8_years_107 rfl rfl rfl (Nat.le_of_ble_eq_true rfl) rfl ?_
        refine g_goto 47 dX8_years_110 rfl ?_
        exact g_sub [4, 5, 2, 0] _ rfl (h5 c1 c2 c3)
      · skip
        refine g_iconst (1) 97 dX8_years_96 rfl rfl ?_
        refine g_goto 101 dX8_years_97 rfl ?_
        refine g_iload 2 103 dX8_years_101 rfl rfl ?_
        refine g_callV (mc1 := 0) (ms1 := 0) (b := a0) (rest := []) (av := [.ref (a0 + 264), .int (1), .int ((i_rm (fX8_nextDrawing x3) 40))]) kX8_carryOut 106 dX8_years_103 rfl rfl mbX8_324 imX8_carryOut seX8_carryOut gcl8.1 s0.1 (Nat.le_of_ble_eq_true rfl) (w2) (w3) (tX8_carryOut (N := N) s0 s0.2.2.2.2.2.2.2.2.2.2.2.2.1 (b6 c1 c2 c3) ?_)
        show Go X (d + 6) mc ms kX8_years Q 106 [(6, .int ((i_rm (fX8_nextDrawing (fX8_nextDrawing x3)) 8))), (3, .int ((fX8_nextDrawing (fX8_nextDrawing x3)))), (5, .int ((i_rm (fX8_nextDrawing x3) 40))), (0, .ref a0), (2, .int (x2)), (4, .int (x4))] [.int ((fX8_carryOut N M a0 (a0 + 264) 1 (i_rm (fX8_nextDrawing x3) 40)))] (mX8_carryOut N M a0 (a0 + 264) 1 (i_rm (fX8_nextDrawing x3) 40)) c z
        refine g_pop 107 dX8_years_106 rfl rfl ?_
        refine g_iinc _ 5 110 [(4, .int ((x4 + 1))), (6, .int ((i_rm (fX8_nextDrawing (fX8_nextDrawing x3)) 8))), (3, .int ((fX8_nextDrawing (fX8_nextDrawing x3)))), (5, .int ((i_rm (fX8_nextDrawing x3) 40))), (0, .ref a0), (2, .int (x2))] dX8_years_107 rfl rfl rfl (Nat.le_of_ble_eq_true rfl) rfl ?_
        refine g_goto 47 dX8_years_110 rfl ?_
        exact g_sub [4, 5, 2, 0] _ rfl (h7 c1 c2 c3)
    · skip
      refine g_iconst (0) 87 dX8_years_86 rfl rfl ?_
      refine g_goto 101 dX8_years_87 rfl ?_
      refine g_iload 2 103 dX8_years_101 rfl rfl ?_
      refine g_callV (mc1 := 0) (ms1 := 0) (b := a0) (rest := []) (av := [.ref (a0 + 264), .int (0), .int ((i_rm (fX8_nextDrawing x3) 40))]) kX8_carryOut 106 dX8_years_103 rfl rfl mbX8_324 imX8_carryOut seX8_carryOut gcl8.1 s0.1 (Nat.le_of_ble_eq_true rfl) (w2) (w3) (tX8_carryOut (N := N) s0 s0.2.2.2.2.2.2.2.2.2.2.2.2.1 (b8 c1 c2) ?_)
      show Go X (d + 6) mc ms kX8_years Q 106 [(6, .int ((i_rm (fX8_nextDrawing (fX8_nextDrawing x3)) 8))), (3, .int ((fX8_nextDrawing (fX8_nextDrawing x3)))), (5, .int ((i_rm (fX8_nextDrawing x3) 40))), (0, .ref a0), (2, .int (x2)), (4, .int (x4))] [.int ((fX8_carryOut N M a0 (a0 + 264) 0 (i_rm (fX8_nextDrawing x3) 40)))] (mX8_carryOut N M a0 (a0 + 264) 0 (i_rm (fX8_nextDrawing x3) 40)) c z
      refine g_pop 107 dX8_years_106 rfl rfl ?_
      refine g_iinc _ 5 110 [(4, .int ((x4 + 1))), (6, .int ((i_rm (fX8_nextDrawing (fX8_nextDrawing x3)) 8))), (3, .int ((fX8_nextDrawing (fX8_nextDrawing x3)))), (5, .int ((i_rm (fX8_nextDrawing x3) 40))), (0, .ref a0), (2, .int (x2))] dX8_years_107 rfl rfl rfl (Nat.le_of_ble_eq_true rfl) rfl ?_
      refine g_goto 47 dX8_years_110 rfl ?_
      exact g_sub [4, 5, 2, 0] _ rfl (h9 c1 c2)

set_option maxRecDepth 4000 in
theorem sX8_years_116 {N : Nat} {X : gX} {d mc ms : Nat} {Q : Option Value → gM → Prop} {M : gM} {c z : Nat} {a0 : Nat} {x4 : Int32} (s0 : Ph M a0) (w1 : c ≤ mc) (w2 : z ≤ ms) (h3 : (40 ≤ x4) → Q (some (.int ((fX8_accept a0 (g_mi M (a0 + 264) 3))))) (mX8_accept M a0 (g_mi M (a0 + 264) 3))) (b4 : (¬ 40 ≤ x4) → EX5_numberOf N M ((a0 + 264) + 3) x4) (b5 : (¬ 40 ≤ x4) → vp_in (x4) 40) (h6 : (¬ 40 ≤ x4) → Go X (d + 6) mc ms kX8_years Q 116 [(0, .ref a0), (4, .int ((x4 + 1)))] [] (g_wi M (a0 + 303) (x4).toNatClampNeg (fX5_numberOf N M ((a0 + 264) + 3) x4)) c z) : Go X (d + 6) mc ms kX8_years Q 116 [(0, .ref a0), (4, .int (x4))] [] M c z := by
  refine g_iload 1 118 dX8_years_116 rfl rfl ?_
  refine g_bipush (40) 120 dX8_years_118 rfl rfl ?_
  refine g_icmp_ge 148 123 dX8_years_120 rfl rfl (fun c1 => ?_) (fun c1 => ?_)
  · skip
    refine g_aload_n 0 149 dX8_years_148 rfl rfl ?_
    refine g_aload_n 0 150 dX8_years_149 rfl rfl ?_
    refine g_getR 153 (a0 + 264) dX8_years_150 rfl flX8_39 s0.1 s0.2.2.2.2.2.2.2.2.2.2.2.1 ?_
    refine g_getI 156 dX8_years_153 rfl flX8_137 s0.2.2.2.2.2.2.2.2.2.2.2.2.1.1 ?_
    refine g_callV (mc1 := 0) (ms1 := 0) (b := a0) (rest := []) (av := [.int ((g_mi M (a0 + 264) 3))]) kX8_accept 159 dX8_years_156 rfl rfl mbX8_155 imX8_accept seX8_accept gcl8.1 s0.1 (Nat.le_of_ble_eq_true rfl) (w1) (w2) (tX8_accept s0 ?_)
    show Go X (d + 6) mc ms kX8_years Q 159 [(0, .ref a0), (4, .int (x4))] [.int ((fX8_accept a0 (g_mi M (a0 + 264) 3)))] (mX8_accept M a0 (g_mi M (a0 + 264) 3)) c z
    exact g_iret dX8_years_159 rfl (w1) (w2) (h3 c1)
  · skip
    refine g_aload_n 0 124 dX8_years_123 rfl rfl ?_
    refine g_getR 127 (a0 + 303) dX8_years_124 rfl flX8_74 s0.1 s0.2.2.2.2.2.2.2.2.2.2.2.2.2.2.2.2.2.2.2.2.2.1 ?_
    refine g_iload 1 129 dX8_years_127 rfl rfl ?_
    refine g_aload_n 0 130 dX8_years_129 rfl rfl ?_
    refine g_getR 133 (a0 + 264) dX8_years_130 rfl flX8_39 s0.1 s0.2.2.2.2.2.2.2.2.2.2.2.1 ?_
    refine g_getR 136 ((a0 + 264) + 3) dX8_years_133 rfl flX8_250 s0.2.2.2.2.2.2.2.2.2.2.2.2.1.1 s0.2.2.2.2.2.2.2.2.2.2.2.2.1.2.2.2.2.2.1 ?_
    refine g_iload 1 138 dX8_years_136 rfl rfl ?_
    refine g_callV (mc1 := 0) (ms1 := 0) (b := ((a0 + 264) + 3)) (rest := [.int (x4), .ref (a0 + 303)]) (av := [.int (x4)]) kX5_numberOf 141 dX8_years_138 rfl rfl mbX8_263 imX5_numberOf seX5_numberOf gcl5.1 s0.2.2.2.2.2.2.2.2.2.2.2.2.1.2.2.2.2.2.2.1 (Nat.le_of_ble_eq_true rfl) (w1) (w2) (tX5_numberOf (N := N) s0.2.2.2.2.2.2.2.2.2.2.2.2.1.2.2.2.2.2.2 (b4 c1) ?_)
    show Go X (d + 6) mc ms kX8_years Q 141 [(0, .ref a0), (4, .int (x4))] [.int ((fX5_numberOf N M ((a0 + 264) + 3) x4)), .int (x4), .ref (a0 + 303)] M c z
    refine h_iastore 142 (x4).toNatClampNeg dX8_years_141 rfl rfl s0.2.2.2.2.2.2.2.2.2.2.2.2.2.2.2.2.2.2.2.2.2.2.1 (b5 c1) ?_
    refine g_iinc _ 1 145 [(4, .int ((x4 + 1))), (0, .ref a0)] dX8_years_142 rfl rfl rfl (Nat.le_of_ble_eq_true rfl) rfl ?_
    refine g_goto 116 dX8_years_145 rfl ?_
    exact g_sub [1, 0] _ rfl (h6 c1)

def bX8_years_0 (N : Nat) (M : gM) (a0 : Nat) (x1 : Int32) (x2 : Int32) (k : Nat → (Nat → Nat → Int32) → Nat → Int32 → Int32 → Int32 → Int32 × (Nat → Nat → Int32)) : Int32 × (Nat → Nat → Int32) := (if x1 < 0 then ((fX8_refuse a0 (-1)), g_mi (mX8_refuse M a0 (-1))) else (if 1000000 < x1 then ((fX8_refuse a0 (-1)), g_mi (mX8_refuse M a0 (-1))) else (if x2 < 1 then ((fX8_refuse a0 (-1)), g_mi (mX8_refuse M a0 (-1))) else (if x2 ≤ 60 then (k 0 (g_mi (mX3_copyFrom M (a0 + 264) ((a0 + 1) + 1))) a0 x2 x1 0) else ((fX8_refuse a0 (-1)), g_mi (mX8_refuse M a0 (-1)))))))
def eX8_years_0 (N : Nat) (M : gM) (a0 : Nat) (x1 : Int32) (x2 : Int32) (k : Nat → (Nat → Nat → Int32) → Nat → Int32 → Int32 → Int32 → Prop) : Prop := ((¬ x1 < 0) → (¬ 1000000 < x1) → (¬ x2 < 1) → (x2 ≤ 60) → EX3_copyFrom M (a0 + 264) ((a0 + 1) + 1)) ∧ (if x1 < 0 then True else (if 1000000 < x1 then True else (if x2 < 1 then True else (if x2 ≤ 60 then (k 0 (g_mi (mX3_copyFrom M (a0 + 264) ((a0 + 1) + 1))) a0 x2 x1 0) else True))))
def bX8_years_47 (N : Nat) (M : gM) (f : Nat → Nat → Int32) (a0 : Nat) (x2 : Int32) (x3 : Int32) (x4 : Int32) (k : Nat → (Nat → Nat → Int32) → Nat → Int32 → Int32 → Int32 → Int32 × (Nat → Nat → Int32)) : Int32 × (Nat → Nat → Int32) := (if x2 ≤ x4 then (k 1 (g_mi (g_wm M f (g_ml M))) a0 0 0 0) else (if 5 ≤ (i_rm (fX8_nextDrawing (fX8_nextDrawing x3)) 8) then (if (i_rm (fX8_nextDrawing (fX8_nextDrawing x3)) 8) = 5 then (k 0 (g_mi (mX8_carryOut N (g_wm M f (g_ml M)) a0 (a0 + 264) 1 (i_rm (fX8_nextDrawing x3) 40))) a0 x2 (fX8_nextDrawing (fX8_nextDrawing x3)) (x4 + 1)) else (k 0 (g_mi (mX8_carryOut N (g_wm M f (g_ml M)) a0 (a0 + 264) 4 (i_rm (fX8_nextDrawing x3) 40))) a0 x2 (fX8_nextDrawing (fX8_nextDrawing x3)) (x4 + 1))) else (k 0 (g_mi (mX8_carryOut N (g_wm M f (g_ml M)) a0 (a0 + 264) 0 (i_rm (fX8_nextDrawing x3) 40))) a0 x2 (fX8_nextDrawing (fX8_nextDrawing x3)) (x4 + 1))))
def eX8_years_47 (N : Nat) (M : gM) (f : Nat → Nat → Int32) (a0 : Nat) (x2 : Int32) (x3 : Int32) (x4 : Int32) (k : Nat → (Nat → Nat → Int32) → Nat → Int32 → Int32 → Int32 → Prop) : Prop := ((¬ x2 ≤ x4) → (5 ≤ (i_rm (fX8_nextDrawing (fX8_nextDrawing x3)) 8)) → (¬ (i_rm (fX8_nextDrawing (fX8_nextDrawing x3)) 8) = 5) → EX8_carryOut N (g_wm M f (g_ml M)) a0 (a0 + 264) 4 (i_rm (fX8_nextDrawing x3) 40)) ∧ ((¬ x2 ≤ x4) → (5 ≤ (i_rm (fX8_nextDrawing (fX8_nextDrawing x3)) 8)) → ((i_rm (fX8_nextDrawing (fX8_nextDrawing x3)) 8) = 5) → EX8_carryOut N (g_wm M f (g_ml M)) a0 (a0 + 264) 1 (i_rm (fX8_nextDrawing x3) 40)) ∧ ((¬ x2 ≤ x4) → (¬ 5 ≤ (i_rm (fX8_nextDrawing (fX8_nextDrawing x3)) 8)) → EX8_carryOut N (g_wm M f (g_ml M)) a0 (a0 + 264) 0 (i_rm (fX8_nextDrawing x3) 40)) ∧ (if x2 ≤ x4 then (k 1 (g_mi (g_wm M f (g_ml M))) a0 0 0 0) else (if 5 ≤ (i_rm (fX8_nextDrawing (fX8_nextDrawing x3)) 8) then (if (i_rm (fX8_nextDrawing (fX8_nextDrawing x3)) 8) = 5 then (k 0 (g_mi (mX8_carryOut N (g_wm M f (g_ml M)) a0 (a0 + 264) 1 (i_rm (fX8_nextDrawing x3) 40))) a0 x2 (fX8_nextDrawing (fX8_nextDrawing x3)) (x4 + 1)) else (k 0 (g_mi (mX8_carryOut N (g_wm M f (g_ml M)) a0 (a0 + 264) 4 (i_rm (fX8_nextDrawing x3) 40))) a0 x2 (fX8_nextDrawing (fX8_nextDrawing x3)) (x4 + 1))) else (k 0 (g_mi (mX8_carryOut N (g_wm M f (g_ml M)) a0 (a0 + 264) 0 (i_rm (fX8_nextDrawing x3) 40))) a0 x2 (fX8_nextDrawing (fX8_nextDrawing x3)) (x4 + 1))))
def bX8_years_116 (N : Nat) (M : gM) (f : Nat → Nat → Int32) (a0 : Nat) (x4 : Int32) (k : Nat → (Nat → Nat → Int32) → Nat → Int32 → Int32 → Int32 → Int32 × (Nat → Nat → Int32)) : Int32 × (Nat → Nat → Int32) := (if 40 ≤ x4 then ((fX8_accept a0 (g_mi (g_wm M f (g_ml M)) (a0 + 264) 3)), g_mi (mX8_accept (g_wm M f (g_ml M)) a0 (g_mi (g_wm M f (g_ml M)) (a0 + 264) 3))) else (k 1 (g_mi (g_wi (g_wm M f (g_ml M)) (a0 + 303) (x4).toNatClampNeg (fX5_numberOf N (g_wm M f (g_ml M)) ((a0 + 264) + 3) x4))) a0 0 0 (x4 + 1)))
def eX8_years_116 (N : Nat) (M : gM) (f : Nat → Nat → Int32) (a0 : Nat) (x4 : Int32) (k : Nat → (Nat → Nat → Int32) → Nat → Int32 → Int32 → Int32 → Prop) : Prop := ((¬ 40 ≤ x4) → EX5_numberOf N (g_wm M f (g_ml M)) ((a0 + 264) + 3) x4) ∧ ((¬ 40 ≤ x4) → vp_in (x4) 40) ∧ (if 40 ≤ x4 then True else (k 1 (g_mi (g_wi (g_wm M f (g_ml M)) (a0 + 303) (x4).toNatClampNeg (fX5_numberOf N (g_wm M f (g_ml M)) ((a0 + 264) + 3) x4))) a0 0 0 (x4 + 1)))
def wX8_years (N : Nat) (M : gM) : Nat → Nat → (Nat → Nat → Int32) → Nat → Int32 → Int32 → Int32 → Int32 × (Nat → Nat → Int32)
  | 0, _, f, _, _, _, _ => (0, f)
  | n + 1, h, f, a0, x2, x3, x4 => if h = 0 then bX8_years_47 N M f a0 x2 x3 x4 (wX8_years N M n) else bX8_years_116 N M f a0 x4 (wX8_years N M n)
def vX8_years (N : Nat) (M : gM) : Nat → Nat → (Nat → Nat → Int32) → Nat → Int32 → Int32 → Int32 → Prop
  | 0, _, _, _, _, _, _ => False
  | n + 1, h, f, a0, x2, x3, x4 => if h = 0 then eX8_years_47 N M f a0 x2 x3 x4 (vX8_years N M n) else eX8_years_116 N M f a0 x4 (vX8_years N M n)
set_option maxRecDepth 10000 in
theorem lpX8_years {X : gX} {d mc ms : Nat} {Q : Option Value → gM → Prop} (N : Nat) (M : gM) : ∀ n : Nat, (∀ (f : Nat → Nat → Int32) (a0 : Nat) (x2 : Int32) (x3 : Int32) (x4 : Int32), Ph M a0 → vX8_years N M n 0 f a0 x2 x3 x4 → Q (some (.int (wX8_years N M n 0 f a0 x2 x3 x4).1)) (g_wm M (wX8_years N M n 0 f a0 x2 x3 x4).2 (g_ml M)) → Go X (d + 6) mc ms kX8_years Q 47 [(0, .ref a0), (2, .int (x2)), (3, .int (x3)), (4, .int (x4))] [] (g_wm M f (g_ml M)) 0 0) ∧ (∀ (f : Nat → Nat → Int32) (a0 : Nat) (x2 : Int32) (x3 : Int32) (x4 : Int32), Ph M a0 → vX8_years N M n 1 f a0 x2 x3 x4 → Q (some (.int (wX8_years N M n 1 f a0 x2 x3 x4).1)) (g_wm M (wX8_years N M n 1 f a0 x2 x3 x4).2 (g_ml M)) → Go X (d + 6) mc ms kX8_years Q 116 [(0, .ref a0), (4, .int (x4))] [] (g_wm M f (g_ml M)) 0 0) := by
  intro n
  induction n with
  | zero => exact ⟨fun _ _ _ _ _ _ h _ => h.elim, fun _ _ _ _ _ _ h _ => h.elim⟩
  | succ n ih =>
    refine ⟨?_, ?_⟩
    · intro f a0 x2 x3 x4 s0 hT hQ
      rw [vX8_years, if_pos (show (0 : Nat) = 0 from rfl)] at hT
      rw [wX8_years, if_pos (show (0 : Nat) = 0 from rfl)] at hQ
      unfold bX8_years_47 at hQ
      unfold eX8_years_47 at hT
      obtain ⟨b4, b6, b8, hT⟩ := hT
      exact sX8_years_47 (M := (g_wm M f (g_ml M))) (Ph.sm Sm.wm s0) (fun c1 => by simp only [if_pos c1] at hQ hT; exact Sm.g Sm.wm (ih.2 _ _ _ _ _ (s0) hT hQ)) (Nat.zero_le _) (Nat.zero_le _) b4 (fun c1 c2 c3 => by simp only [if_neg c1, if_pos c2, if_neg c3] at hQ hT; exact Sm.g (Sm.tr Sm.wm (Sm.tr Sm.rf jX8_carryOut)) (ih.1 _ _ _ _ _ (s0) hT hQ)) b6 (fun c1 c2 c3 => by simp only [if_neg c1, if_pos c2, if_pos c3] at hQ hT; exact Sm.g (Sm.tr Sm.wm (Sm.tr Sm.rf jX8_carryOut)) (ih.1 _ _ _ _ _ (s0) hT hQ)) b8 (fun c1 c2 => by simp only [if_neg c1, if_neg c2] at hQ hT; exact Sm.g (Sm.tr Sm.wm (Sm.tr Sm.rf jX8_carryOut)) (ih.1 _ _ _ _ _ (s0) hT hQ))
    · intro f a0 x2 x3 x4 s0 hT hQ
      rw [vX8_years, if_neg (show ¬ (1 : Nat) = 0 by decide)] at hT
      rw [wX8_years, if_neg (show ¬ (1 : Nat) = 0 by decide)] at hQ
      unfold bX8_years_116 at hQ
      unfold eX8_years_116 at hT
      obtain ⟨b4, b5, hT⟩ := hT
      exact sX8_years_116 (M := (g_wm M f (g_ml M))) (Ph.sm Sm.wm s0) (Nat.zero_le _) (Nat.zero_le _) (fun c1 => by simp only [if_pos c1] at hQ; exact Sm.q (Sm.tr Sm.wm (Sm.tr Sm.rf jX8_accept)) hQ) b4 b5 (fun c1 => by simp only [if_neg c1] at hQ hT; exact Sm.g (Sm.tr Sm.wm (Sm.wi Sm.rf)) (ih.2 _ _ _ _ _ (s0) hT hQ))
def fX8_years (N : Nat) (M : gM) (a0 : Nat) (x1 : Int32) (x2 : Int32) : Int32 := (bX8_years_0 N M a0 x1 x2 (wX8_years N M N)).1
def mX8_years (N : Nat) (M : gM) (a0 : Nat) (x1 : Int32) (x2 : Int32) : gM := g_wm M (bX8_years_0 N M a0 x1 x2 (wX8_years N M N)).2 (g_ml M)
theorem jX8_years {N : Nat} {M : gM} {a0 : Nat} {x1 : Int32} {x2 : Int32} : Sm M (mX8_years N M a0 x1 x2) := Sm.wm
def EX8_years (N : Nat) (M : gM) (a0 : Nat) (x1 : Int32) (x2 : Int32) : Prop := eX8_years_0 N M a0 x1 x2 (vX8_years N M N)
theorem tX8_years {N : Nat} {X : gX} {d mc ms : Nat} {Q : Option Value → gM → Prop} {M : gM} {a0 : Nat} {x1 : Int32} {x2 : Int32} (s0 : Ph M a0) (hE : EX8_years N M a0 x1 x2) (hQ : Q (some (.int (fX8_years N M a0 x1 x2))) (mX8_years N M a0 x1 x2)) : Cn X (d + 6) mc ms kX8_years [.ref a0, .int (x1), .int (x2)] M Q := by
  unfold fX8_years mX8_years at hQ
  unfold bX8_years_0 at hQ
  unfold EX8_years eX8_years_0 at hE
  obtain ⟨b4, hT⟩ := hE
  have ih := lpX8_years (X := X) (d := d) (mc := mc) (ms := ms) (Q := Q) N M N
  exact sX8_years_0 s0 (fun c1 => by simp only [if_pos c1] at hQ; exact Sm.q (Sm.tr Sm.rf jX8_refuse) hQ) (fun c1 c2 => by simp only [if_neg c1, if_pos c2] at hQ; exact Sm.q (Sm.tr Sm.rf jX8_refuse) hQ) (fun c1 c2 c3 => by simp only [if_neg c1, if_neg c2, if_pos c3] at hQ; exact Sm.q (Sm.tr Sm.rf jX8_refuse) hQ) b4 (fun c1 c2 c3 c4 => by simp only [if_neg c1, if_neg c2, if_neg c3, if_pos c4] at hQ hT; exact Sm.g (Sm.tr Sm.rf jX3_copyFrom) (ih.1 _ _ _ _ _ (s0) hT hQ)) (fun c1 c2 c3 c4 => by simp only [if_neg c1, if_neg c2, if_neg c3, if_neg c4] at hQ; exact Sm.q (Sm.tr Sm.rf jX8_refuse) hQ)
/-! X8_change  -/
set_option maxRecDepth 4000 in
theorem sX8_change_0 {N : Nat} {X : gX} {d mc ms : Nat} {Q : Option Value → gM → Prop} {M : gM} {a0 : Nat} {x1 : Int32} {x2 : Int32} (s0 : Ph M a0) (b1 : EX0_draft M (a0 + 13) ((a0 + 1) + 1)) (b2 : EX8_carryOut N (mX0_draft M (a0 + 13) ((a0 + 1) + 1)) a0 ((a0 + 1) + 1) x1 x2) (b3 : (0 ≤ (fX8_carryOut N (mX0_draft M (a0 + 13) ((a0 + 1) + 1)) a0 ((a0 + 1) + 1) x1 x2)) → EX0_keep (mX8_carryOut N (mX0_draft M (a0 + 13) ((a0 + 1) + 1)) a0 ((a0 + 1) + 1) x1 x2) (a0 + 13) x1) (h4 : (0 ≤ (fX8_carryOut N (mX0_draft M (a0 + 13) ((a0 + 1) + 1)) a0 ((a0 + 1) + 1) x1 x2)) → Q (some (.int ((fX8_accept a0 (fX8_carryOut N (mX0_draft M (a0 + 13) ((a0 + 1) + 1)) a0 ((a0 + 1) + 1) x1 x2))))) (mX8_accept (mX0_keep (mX8_carryOut N (mX0_draft M (a0 + 13) ((a0 + 1) + 1)) a0 ((a0 + 1) + 1) x1 x2) (a0 + 13) x1) a0 (fX8_carryOut N (mX0_draft M (a0 + 13) ((a0 + 1) + 1)) a0 ((a0 + 1) + 1) x1 x2))) (h5 : (¬ 0 ≤ (fX8_carryOut N (mX0_draft M (a0 + 13) ((a0 + 1) + 1)) a0 ((a0 + 1) + 1) x1 x2)) → Q (some (.int ((fX8_refuse a0 (fX8_carryOut N (mX0_draft M (a0 + 13) ((a0 + 1) + 1)) a0 ((a0 + 1) + 1) x1 x2))))) (mX8_refuse (mX8_carryOut N (mX0_draft M (a0 + 13) ((a0 + 1) + 1)) a0 ((a0 + 1) + 1) x1 x2) a0 (fX8_carryOut N (mX0_draft M (a0 + 13) ((a0 + 1) + 1)) a0 ((a0 + 1) + 1) x1 x2))) : Cn X (d + 6) mc ms kX8_change [.ref a0, .int (x1), .int (x2)] M Q := by
  refine g_meth rfl rfl (Nat.le_of_ble_eq_true rfl) rfl ?_
  refine g_aload_n 0 1 dX8_change_0 rfl rfl ?_
  refine g_getR 4 (a0 + 13) dX8_change_1 rfl flX8_25 s0.1 s0.2.2.2.2.2.1 ?_
  refine g_aload_n 0 5 dX8_change_4 rfl rfl ?_
  refine g_getR 8 (a0 + 1) dX8_change_5 rfl flX8_14 s0.1 s0.2.1 ?_
  refine g_getR 11 ((a0 + 1) + 1) dX8_change_8 rfl flX8_102 s0.2.2.1.1 s0.2.2.1.2.1 ?_
  refine g_callV (mc1 := 0) (ms1 := 0) (b := (a0 + 13)) (rest := []) (av := [.ref ((a0 + 1) + 1)]) kX0_draft 14 dX8_change_11 rfl rfl mbX8_341 imX0_draft seX0_draft gcl0.1 s0.2.2.2.2.2.2.1.1 (Nat.le_of_ble_eq_true rfl) (Nat.zero_le _) (Nat.zero_le _) (tX0_draft s0.2.2.2.2.2.2.1 s0.2.2.1.2.2.1 (b1) ?_)
  show Go X (d + 6) mc ms kX8_change Q 14 [(0, .ref a0), (1, .int (x1)), (2, .int (x2))] [] (mX0_draft M (a0 + 13) ((a0 + 1) + 1)) 0 0
  refine g_aload_n 0 15 dX8_change_14 rfl rfl ?_
  refine g_aload_n 0 16 dX8_change_15 rfl rfl ?_
  refine g_getR 19 (a0 + 1) dX8_change_16 rfl flX8_14 (Sm.k (Sm.tr Sm.rf jX0_draft) s0.1) (Sm.r (Sm.tr Sm.rf jX0_draft) s0.2.1) ?_
  refine g_getR 22 ((a0 + 1) + 1) dX8_change_19 rfl flX8_102 (Sm.k (Sm.tr Sm.rf jX0_draft) s0.2.2.1.1) (Sm.r (Sm.tr Sm.rf jX0_draft) s0.2.2.1.2.1) ?_
  refine g_iload_n 1 23 dX8_change_22 rfl rfl ?_
  refine g_iload_n 2 24 dX8_change_23 rfl rfl ?_
  refine g_callV (mc1 := 0) (ms1 := 0) (b := a0) (rest := []) (av := [.ref ((a0 + 1) + 1), .int (x1), .int (x2)]) kX8_carryOut 27 dX8_change_24 rfl rfl mbX8_324 imX8_carryOut seX8_carryOut gcl8.1 (Sm.k (Sm.tr Sm.rf jX0_draft) s0.1) (Nat.le_of_ble_eq_true rfl) (Nat.zero_le _) (Nat.zero_le _) (tX8_carryOut (N := N) (Ph.sm (Sm.tr Sm.rf jX0_draft) s0) (St.sm (Sm.tr Sm.rf jX0_draft) s0.2.2.1.2.2.1) (b2) ?_)
  show Go X (d + 6) mc ms kX8_change Q 27 [(0, .ref a0), (1, .int (x1)), (2, .int (x2))] [.int ((fX8_carryOut N (mX0_draft M (a0 + 13) ((a0 + 1) + 1)) a0 ((a0 + 1) + 1) x1 x2))] (mX8_carryOut N (mX0_draft M (a0 + 13) ((a0 + 1) + 1)) a0 ((a0 + 1) + 1) x1 x2) 0 0
  refine g_istore_n 28 [(3, .int ((fX8_carryOut N (mX0_draft M (a0 + 13) ((a0 + 1) + 1)) a0 ((a0 + 1) + 1) x1 x2))), (0, .ref a0), (1, .int (x1)), (2, .int (x2))] dX8_change_27 rfl (Nat.le_of_ble_eq_true rfl) rfl ?_
  refine g_iload_n 0 29 dX8_change_28 rfl rfl ?_
  refine g_if_ge 38 32 dX8_change_29 rfl rfl (fun c1 => ?_) (fun c1 => ?_)
  · skip
    refine g_aload_n 1 39 dX8_change_38 rfl rfl ?_
    refine g_getR 42 (a0 + 13) dX8_change_39 rfl flX8_25 (Sm.k (Sm.tr (Sm.tr Sm.rf jX0_draft) jX8_carryOut) s0.1) (Sm.r (Sm.tr (Sm.tr Sm.rf jX0_draft) jX8_carryOut) s0.2.2.2.2.2.1) ?_
    refine g_iload_n 2 43 dX8_change_42 rfl rfl ?_
    refine g_callV (mc1 := 0) (ms1 := 0) (b := (a0 + 13)) (rest := []) (av := [.int (x1)]) kX0_keep 46 dX8_change_43 rfl rfl mbX8_344 imX0_keep seX0_keep gcl0.1 (Sm.k (Sm.tr (Sm.tr Sm.rf jX0_draft) jX8_carryOut) s0.2.2.2.2.2.2.1.1) (Nat.le_of_ble_eq_true rfl) (Nat.zero_le _) (Nat.zero_le _) (tX0_keep (Hi.sm (Sm.tr (Sm.tr Sm.rf jX0_draft) jX8_carryOut) s0.2.2.2.2.2.2.1) (b3 c1) ?_)
    show Go X (d + 6) mc ms kX8_change Q 46 [(3, .int ((fX8_carryOut N (mX0_draft M (a0 + 13) ((a0 + 1) + 1)) a0 ((a0 + 1) + 1) x1 x2))), (0, .ref a0), (1, .int (x1)), (2, .int (x2))] [] (mX0_keep (mX8_carryOut N (mX0_draft M (a0 + 13) ((a0 + 1) + 1)) a0 ((a0 + 1) + 1) x1 x2) (a0 + 13) x1) 0 0
    refine g_aload_n 1 47 dX8_change_46 rfl rfl ?_
    refine g_iload_n 0 48 dX8_change_47 rfl rfl ?_
    refine g_callV (mc1 := 0) (ms1 := 0) (b := a0) (rest := []) (av := [.int ((fX8_carryOut N (mX0_draft M (a0 + 13) ((a0 + 1) + 1)) a0 ((a0 + 1) + 1) x1 x2))]) kX8_accept 51 dX8_change_48 rfl rfl mbX8_155 imX8_accept seX8_accept gcl8.1 (Sm.k (Sm.tr (Sm.tr (Sm.tr Sm.rf jX0_draft) jX8_carryOut) jX0_keep) s0.1) (Nat.le_of_ble_eq_true rfl) (Nat.zero_le _) (Nat.zero_le _) (tX8_accept (Ph.sm (Sm.tr (Sm.tr (Sm.tr Sm.rf jX0_draft) jX8_carryOut) jX0_keep) s0) ?_)
    show Go X (d + 6) mc ms kX8_change Q 51 [(3, .int ((fX8_carryOut N (mX0_draft M (a0 + 13) ((a0 + 1) + 1)) a0 ((a0 + 1) + 1) x1 x2))), (0, .ref a0), (1, .int (x1)), (2, .int (x2))] [.int ((fX8_accept a0 (fX8_carryOut N (mX0_draft M (a0 + 13) ((a0 + 1) + 1)) a0 ((a0 + 1) + 1) x1 x2)))] (mX8_accept (mX0_keep (mX8_carryOut N (mX0_draft M (a0 + 13) ((a0 + 1) + 1)) a0 ((a0 + 1) + 1) x1 x2) (a0 + 13) x1) a0 (fX8_carryOut N (mX0_draft M (a0 + 13) ((a0 + 1) + 1)) a0 ((a0 + 1) + 1) x1 x2)) 0 0
    exact g_iret dX8_change_51 rfl (Nat.zero_le _) (Nat.zero_le _) (h4 c1)
  · skip
    refine g_aload_n 1 33 dX8_change_32 rfl rfl ?_
    refine g_iload_n 0 34 dX8_change_33 rfl rfl ?_
    refine g_callV (mc1 := 0) (ms1 := 0) (b := a0) (rest := []) (av := [.int ((fX8_carryOut N (mX0_draft M (a0 + 13) ((a0 + 1) + 1)) a0 ((a0 + 1) + 1) x1 x2))]) kX8_refuse 37 dX8_change_34 rfl rfl mbX8_146 imX8_refuse seX8_refuse gcl8.1 (Sm.k (Sm.tr (Sm.tr Sm.rf jX0_draft) jX8_carryOut) s0.1) (Nat.le_of_ble_eq_true rfl) (Nat.zero_le _) (Nat.zero_le _) (tX8_refuse (Ph.sm (Sm.tr (Sm.tr Sm.rf jX0_draft) jX8_carryOut) s0) ?_)
    show Go X (d + 6) mc ms kX8_change Q 37 [(3, .int ((fX8_carryOut N (mX0_draft M (a0 + 13) ((a0 + 1) + 1)) a0 ((a0 + 1) + 1) x1 x2))), (0, .ref a0), (1, .int (x1)), (2, .int (x2))] [.int ((fX8_refuse a0 (fX8_carryOut N (mX0_draft M (a0 + 13) ((a0 + 1) + 1)) a0 ((a0 + 1) + 1) x1 x2)))] (mX8_refuse (mX8_carryOut N (mX0_draft M (a0 + 13) ((a0 + 1) + 1)) a0 ((a0 + 1) + 1) x1 x2) a0 (fX8_carryOut N (mX0_draft M (a0 + 13) ((a0 + 1) + 1)) a0 ((a0 + 1) + 1) x1 x2)) 0 0
    exact g_iret dX8_change_37 rfl (Nat.zero_le _) (Nat.zero_le _) (h5 c1)

def fX8_change (N : Nat) (M : gM) (a0 : Nat) (x1 : Int32) (x2 : Int32) : Int32 := (if 0 ≤ (fX8_carryOut N (mX0_draft M (a0 + 13) ((a0 + 1) + 1)) a0 ((a0 + 1) + 1) x1 x2) then (fX8_accept a0 (fX8_carryOut N (mX0_draft M (a0 + 13) ((a0 + 1) + 1)) a0 ((a0 + 1) + 1) x1 x2)) else (fX8_refuse a0 (fX8_carryOut N (mX0_draft M (a0 + 13) ((a0 + 1) + 1)) a0 ((a0 + 1) + 1) x1 x2)))
def mX8_change (N : Nat) (M : gM) (a0 : Nat) (x1 : Int32) (x2 : Int32) : gM := g_wm M (if 0 ≤ (fX8_carryOut N (mX0_draft M (a0 + 13) ((a0 + 1) + 1)) a0 ((a0 + 1) + 1) x1 x2) then (g_mi (mX8_accept (mX0_keep (mX8_carryOut N (mX0_draft M (a0 + 13) ((a0 + 1) + 1)) a0 ((a0 + 1) + 1) x1 x2) (a0 + 13) x1) a0 (fX8_carryOut N (mX0_draft M (a0 + 13) ((a0 + 1) + 1)) a0 ((a0 + 1) + 1) x1 x2))) else (g_mi (mX8_refuse (mX8_carryOut N (mX0_draft M (a0 + 13) ((a0 + 1) + 1)) a0 ((a0 + 1) + 1) x1 x2) a0 (fX8_carryOut N (mX0_draft M (a0 + 13) ((a0 + 1) + 1)) a0 ((a0 + 1) + 1) x1 x2)))) (g_ml M)
def EX8_change (N : Nat) (M : gM) (a0 : Nat) (x1 : Int32) (x2 : Int32) : Prop := (EX0_draft M (a0 + 13) ((a0 + 1) + 1)) ∧ (EX8_carryOut N (mX0_draft M (a0 + 13) ((a0 + 1) + 1)) a0 ((a0 + 1) + 1) x1 x2) ∧ ((0 ≤ (fX8_carryOut N (mX0_draft M (a0 + 13) ((a0 + 1) + 1)) a0 ((a0 + 1) + 1) x1 x2)) → EX0_keep (mX8_carryOut N (mX0_draft M (a0 + 13) ((a0 + 1) + 1)) a0 ((a0 + 1) + 1) x1 x2) (a0 + 13) x1)
theorem jX8_change {N : Nat} {M : gM} {a0 : Nat} {x1 : Int32} {x2 : Int32} : Sm M (mX8_change N M a0 x1 x2) := Sm.wm
theorem tX8_change {N : Nat} {X : gX} {d mc ms : Nat} {Q : Option Value → gM → Prop} {M : gM} {a0 : Nat} {x1 : Int32} {x2 : Int32} (s0 : Ph M a0) (hE : EX8_change N M a0 x1 x2) (hQ : Q (some (.int (fX8_change N M a0 x1 x2))) (mX8_change N M a0 x1 x2)) : Cn X (d + 6) mc ms kX8_change [.ref a0, .int (x1), .int (x2)] M Q := by
  unfold fX8_change mX8_change at hQ
  obtain ⟨b1, b2, b3⟩ := hE
  exact sX8_change_0 s0 b1 b2 b3 (fun c1 => by simp only [if_pos c1] at hQ; exact Sm.q (Sm.tr (Sm.tr (Sm.tr (Sm.tr Sm.rf jX0_draft) jX8_carryOut) jX0_keep) jX8_accept) hQ) (fun c1 => by simp only [if_neg c1] at hQ; exact Sm.q (Sm.tr (Sm.tr (Sm.tr Sm.rf jX0_draft) jX8_carryOut) jX8_refuse) hQ)
/-! X8_add  -/
set_option maxRecDepth 4000 in
theorem sX8_add_0 {N : Nat} {X : gX} {d mc ms : Nat} {Q : Option Value → gM → Prop} {M : gM} {a0 : Nat} {x1 : Int32} (s0 : Ph M a0) (b1 : EX8_change N M a0 0 x1) (h2 : Q (some (.int ((fX8_change N M a0 0 x1)))) (mX8_change N M a0 0 x1)) : Cn X (d + 7) mc ms kX8_add [.ref a0, .int (x1)] M Q := by
  refine g_meth rfl rfl (Nat.le_of_ble_eq_true rfl) rfl ?_
  refine g_aload_n 0 1 dX8_add_0 rfl rfl ?_
  refine g_iconst (0) 2 dX8_add_1 rfl rfl ?_
  refine g_iload_n 1 3 dX8_add_2 rfl rfl ?_
  refine g_callV (mc1 := 0) (ms1 := 0) (b := a0) (rest := []) (av := [.int (0), .int (x1)]) kX8_change 6 dX8_add_3 rfl rfl mbX8_218 imX8_change seX8_change gcl8.1 s0.1 (Nat.le_of_ble_eq_true rfl) (Nat.zero_le _) (Nat.zero_le _) (tX8_change (N := N) s0 (b1) ?_)
  show Go X (d + 7) mc ms kX8_add Q 6 [(0, .ref a0), (1, .int (x1))] [.int ((fX8_change N M a0 0 x1))] (mX8_change N M a0 0 x1) 0 0
  exact g_iret dX8_add_6 rfl (Nat.zero_le _) (Nat.zero_le _) (h2)

def fX8_add (N : Nat) (M : gM) (a0 : Nat) (x1 : Int32) : Int32 := (fX8_change N M a0 0 x1)
def mX8_add (N : Nat) (M : gM) (a0 : Nat) (x1 : Int32) : gM := (mX8_change N M a0 0 x1)
def EX8_add (N : Nat) (M : gM) (a0 : Nat) (x1 : Int32) : Prop := (EX8_change N M a0 0 x1)
theorem jX8_add {N : Nat} {M : gM} {a0 : Nat} {x1 : Int32} : Sm M (mX8_add N M a0 x1) := (Sm.tr Sm.rf jX8_change)
theorem tX8_add {N : Nat} {X : gX} {d mc ms : Nat} {Q : Option Value → gM → Prop} {M : gM} {a0 : Nat} {x1 : Int32} (s0 : Ph M a0) (hE : EX8_add N M a0 x1) (hQ : Q (some (.int (fX8_add N M a0 x1))) (mX8_add N M a0 x1)) : Cn X (d + 7) mc ms kX8_add [.ref a0, .int (x1)] M Q := by
  unfold fX8_add mX8_add at hQ
  have b1 := hE
  exact sX8_add_0 s0 b1 hQ
/-! X8_take  -/
set_option maxRecDepth 4000 in
theorem sX8_take_0 {N : Nat} {X : gX} {d mc ms : Nat} {Q : Option Value → gM → Prop} {M : gM} {a0 : Nat} {x1 : Int32} (s0 : Ph M a0) (b1 : EX8_change N M a0 1 x1) (h2 : Q (some (.int ((fX8_change N M a0 1 x1)))) (mX8_change N M a0 1 x1)) : Cn X (d + 7) mc ms kX8_take [.ref a0, .int (x1)] M Q := by
  refine g_meth rfl rfl (Nat.le_of_ble_eq_true rfl) rfl ?_
  refine g_aload_n 0 1 dX8_take_0 rfl rfl ?_
  refine g_iconst (1) 2 dX8_take_1 rfl rfl ?_
  refine g_iload_n 1 3 dX8_take_2 rfl rfl ?_
  refine g_callV (mc1 := 0) (ms1 := 0) (b := a0) (rest := []) (av := [.int (1), .int (x1)]) kX8_change 6 dX8_take_3 rfl rfl mbX8_218 imX8_change seX8_change gcl8.1 s0.1 (Nat.le_of_ble_eq_true rfl) (Nat.zero_le _) (Nat.zero_le _) (tX8_change (N := N) s0 (b1) ?_)
  show Go X (d + 7) mc ms kX8_take Q 6 [(0, .ref a0), (1, .int (x1))] [.int ((fX8_change N M a0 1 x1))] (mX8_change N M a0 1 x1) 0 0
  exact g_iret dX8_take_6 rfl (Nat.zero_le _) (Nat.zero_le _) (h2)

def fX8_take (N : Nat) (M : gM) (a0 : Nat) (x1 : Int32) : Int32 := (fX8_change N M a0 1 x1)
def mX8_take (N : Nat) (M : gM) (a0 : Nat) (x1 : Int32) : gM := (mX8_change N M a0 1 x1)
def EX8_take (N : Nat) (M : gM) (a0 : Nat) (x1 : Int32) : Prop := (EX8_change N M a0 1 x1)
theorem jX8_take {N : Nat} {M : gM} {a0 : Nat} {x1 : Int32} : Sm M (mX8_take N M a0 x1) := (Sm.tr Sm.rf jX8_change)
theorem tX8_take {N : Nat} {X : gX} {d mc ms : Nat} {Q : Option Value → gM → Prop} {M : gM} {a0 : Nat} {x1 : Int32} (s0 : Ph M a0) (hE : EX8_take N M a0 x1) (hQ : Q (some (.int (fX8_take N M a0 x1))) (mX8_take N M a0 x1)) : Cn X (d + 7) mc ms kX8_take [.ref a0, .int (x1)] M Q := by
  unfold fX8_take mX8_take at hQ
  have b1 := hE
  exact sX8_take_0 s0 b1 hQ
/-! X8_side  -/
set_option maxRecDepth 4000 in
theorem sX8_side_0 {N : Nat} {X : gX} {d mc ms : Nat} {Q : Option Value → gM → Prop} {M : gM} {a0 : Nat} {x1 : Int32} (s0 : Ph M a0) (b1 : EX8_change N M a0 2 x1) (h2 : Q (some (.int ((fX8_change N M a0 2 x1)))) (mX8_change N M a0 2 x1)) : Cn X (d + 7) mc ms kX8_side [.ref a0, .int (x1)] M Q := by
  refine g_meth rfl rfl (Nat.le_of_ble_eq_true rfl) rfl ?_
  refine g_aload_n 0 1 dX8_side_0 rfl rfl ?_
  refine g_iconst (2) 2 dX8_side_1 rfl rfl ?_
  refine g_iload_n 1 3 dX8_side_2 rfl rfl ?_
  refine g_callV (mc1 := 0) (ms1 := 0) (b := a0) (rest := []) (av := [.int (2), .int (x1)]) kX8_change 6 dX8_side_3 rfl rfl mbX8_218 imX8_change seX8_change gcl8.1 s0.1 (Nat.le_of_ble_eq_true rfl) (Nat.zero_le _) (Nat.zero_le _) (tX8_change (N := N) s0 (b1) ?_)
  show Go X (d + 7) mc ms kX8_side Q 6 [(0, .ref a0), (1, .int (x1))] [.int ((fX8_change N M a0 2 x1))] (mX8_change N M a0 2 x1) 0 0
  exact g_iret dX8_side_6 rfl (Nat.zero_le _) (Nat.zero_le _) (h2)

def fX8_side (N : Nat) (M : gM) (a0 : Nat) (x1 : Int32) : Int32 := (fX8_change N M a0 2 x1)
def mX8_side (N : Nat) (M : gM) (a0 : Nat) (x1 : Int32) : gM := (mX8_change N M a0 2 x1)
def EX8_side (N : Nat) (M : gM) (a0 : Nat) (x1 : Int32) : Prop := (EX8_change N M a0 2 x1)
theorem jX8_side {N : Nat} {M : gM} {a0 : Nat} {x1 : Int32} : Sm M (mX8_side N M a0 x1) := (Sm.tr Sm.rf jX8_change)
theorem tX8_side {N : Nat} {X : gX} {d mc ms : Nat} {Q : Option Value → gM → Prop} {M : gM} {a0 : Nat} {x1 : Int32} (s0 : Ph M a0) (hE : EX8_side N M a0 x1) (hQ : Q (some (.int (fX8_side N M a0 x1))) (mX8_side N M a0 x1)) : Cn X (d + 7) mc ms kX8_side [.ref a0, .int (x1)] M Q := by
  unfold fX8_side mX8_side at hQ
  have b1 := hE
  exact sX8_side_0 s0 b1 hQ
/-! X8_seed  -/
set_option maxRecDepth 4000 in
theorem sX8_seed_0 {N : Nat} {X : gX} {d mc ms : Nat} {Q : Option Value → gM → Prop} {M : gM} {a0 : Nat} {x1 : Int32} (s0 : Ph M a0) (b1 : EX8_change N M a0 3 x1) (h2 : Q (some (.int ((fX8_change N M a0 3 x1)))) (mX8_change N M a0 3 x1)) : Cn X (d + 7) mc ms kX8_seed [.ref a0, .int (x1)] M Q := by
  refine g_meth rfl rfl (Nat.le_of_ble_eq_true rfl) rfl ?_
  refine g_aload_n 0 1 dX8_seed_0 rfl rfl ?_
  refine g_iconst (3) 2 dX8_seed_1 rfl rfl ?_
  refine g_iload_n 1 3 dX8_seed_2 rfl rfl ?_
  refine g_callV (mc1 := 0) (ms1 := 0) (b := a0) (rest := []) (av := [.int (3), .int (x1)]) kX8_change 6 dX8_seed_3 rfl rfl mbX8_218 imX8_change seX8_change gcl8.1 s0.1 (Nat.le_of_ble_eq_true rfl) (Nat.zero_le _) (Nat.zero_le _) (tX8_change (N := N) s0 (b1) ?_)
  show Go X (d + 7) mc ms kX8_seed Q 6 [(0, .ref a0), (1, .int (x1))] [.int ((fX8_change N M a0 3 x1))] (mX8_change N M a0 3 x1) 0 0
  exact g_iret dX8_seed_6 rfl (Nat.zero_le _) (Nat.zero_le _) (h2)

def fX8_seed (N : Nat) (M : gM) (a0 : Nat) (x1 : Int32) : Int32 := (fX8_change N M a0 3 x1)
def mX8_seed (N : Nat) (M : gM) (a0 : Nat) (x1 : Int32) : gM := (mX8_change N M a0 3 x1)
def EX8_seed (N : Nat) (M : gM) (a0 : Nat) (x1 : Int32) : Prop := (EX8_change N M a0 3 x1)
theorem jX8_seed {N : Nat} {M : gM} {a0 : Nat} {x1 : Int32} : Sm M (mX8_seed N M a0 x1) := (Sm.tr Sm.rf jX8_change)
theorem tX8_seed {N : Nat} {X : gX} {d mc ms : Nat} {Q : Option Value → gM → Prop} {M : gM} {a0 : Nat} {x1 : Int32} (s0 : Ph M a0) (hE : EX8_seed N M a0 x1) (hQ : Q (some (.int (fX8_seed N M a0 x1))) (mX8_seed N M a0 x1)) : Cn X (d + 7) mc ms kX8_seed [.ref a0, .int (x1)] M Q := by
  unfold fX8_seed mX8_seed at hQ
  have b1 := hE
  exact sX8_seed_0 s0 b1 hQ
/-! X8_build  -/
set_option maxRecDepth 4000 in
theorem sX8_build_0 {N : Nat} {X : gX} {d mc ms : Nat} {Q : Option Value → gM → Prop} {M : gM} {a0 : Nat} (s0 : Ph M a0) (b1 : EX8_change N M a0 4 0) (h2 : Q (some (.int ((fX8_change N M a0 4 0)))) (mX8_change N M a0 4 0)) : Cn X (d + 7) mc ms kX8_build [.ref a0] M Q := by
  refine g_meth rfl rfl (Nat.le_of_ble_eq_true rfl) rfl ?_
  refine g_aload_n 0 1 dX8_build_0 rfl rfl ?_
  refine g_iconst (4) 2 dX8_build_1 rfl rfl ?_
  refine g_iconst (0) 3 dX8_build_2 rfl rfl ?_
  refine g_callV (mc1 := 0) (ms1 := 0) (b := a0) (rest := []) (av := [.int (4), .int (0)]) kX8_change 6 dX8_build_3 rfl rfl mbX8_218 imX8_change seX8_change gcl8.1 s0.1 (Nat.le_of_ble_eq_true rfl) (Nat.zero_le _) (Nat.zero_le _) (tX8_change (N := N) s0 (b1) ?_)
  show Go X (d + 7) mc ms kX8_build Q 6 [(0, .ref a0)] [.int ((fX8_change N M a0 4 0))] (mX8_change N M a0 4 0) 0 0
  exact g_iret dX8_build_6 rfl (Nat.zero_le _) (Nat.zero_le _) (h2)

def fX8_build (N : Nat) (M : gM) (a0 : Nat) : Int32 := (fX8_change N M a0 4 0)
def mX8_build (N : Nat) (M : gM) (a0 : Nat) : gM := (mX8_change N M a0 4 0)
def EX8_build (N : Nat) (M : gM) (a0 : Nat) : Prop := (EX8_change N M a0 4 0)
theorem jX8_build {N : Nat} {M : gM} {a0 : Nat} : Sm M (mX8_build N M a0) := (Sm.tr Sm.rf jX8_change)
theorem tX8_build {N : Nat} {X : gX} {d mc ms : Nat} {Q : Option Value → gM → Prop} {M : gM} {a0 : Nat} (s0 : Ph M a0) (hE : EX8_build N M a0) (hQ : Q (some (.int (fX8_build N M a0))) (mX8_build N M a0)) : Cn X (d + 7) mc ms kX8_build [.ref a0] M Q := by
  unfold fX8_build mX8_build at hQ
  have b1 := hE
  exact sX8_build_0 s0 b1 hQ
