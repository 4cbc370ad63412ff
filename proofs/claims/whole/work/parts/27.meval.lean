/-! group gME: X9_testOf,X9_bothOf,X9_plainOf,X9_positiveOf,X9_sumOf,X9_termOf,X9_partOf -/
set_option maxRecDepth 4000 in
theorem sX9_testOf_0 {X : gX} {d mc ms : Nat} {Q : Option Value → gM → Prop} {M : gM} {a0 : Nat} {x1 : Int32} (s0 : Mo M a0) (h1 : Cn X (d + 5) 0 0 kX9_bothOf [.ref a0, .int (x1)] M (fun v M1 => Go X (d + 6) mc ms kX9_testOf Q 5 [(0, .ref a0), (1, .int (x1))] (v.toList ++ []) M1 0 0)) : Cn X (d + 6) mc ms kX9_testOf [.ref a0, .int (x1)] M Q := by
  refine g_meth rfl rfl (Nat.le_of_ble_eq_true rfl) rfl ?_
  refine g_aload_n 0 1 dX9_testOf_0 rfl rfl ?_
  refine g_iload_n 1 2 dX9_testOf_1 rfl rfl ?_
  exact g_callV (mc1 := 0) (ms1 := 0) (b := a0) (rest := []) (av := [.int (x1)]) kX9_bothOf 5 dX9_testOf_2 rfl rfl mbX9_314 imX9_bothOf seX9_bothOf gcl9.1 s0.1 (Nat.le_of_ble_eq_true rfl) (Nat.zero_le _) (Nat.zero_le _) (h1)

set_option maxRecDepth 4000 in
theorem sX9_testOf_5 {X : gX} {d mc ms : Nat} {Q : Option Value → gM → Prop} {M : gM} {c z : Nat} {a0 : Nat} {x1 : Int32} {xs0 : Int32} (s0 : Mo M a0) (h1 : Go X (d + 6) mc ms kX9_testOf Q 6 [(0, .ref a0), (1, .int (x1)), (2, .int (xs0))] [] M c z) : Go X (d + 6) mc ms kX9_testOf Q 5 [(0, .ref a0), (1, .int (x1))] [.int (xs0)] M c z := by
  refine g_istore_n 6 [(2, .int (xs0)), (0, .ref a0), (1, .int (x1))] dX9_testOf_5 rfl (Nat.le_of_ble_eq_true rfl) rfl ?_
  exact g_sub [1, 2, 0] _ rfl (h1)

set_option maxRecDepth 4000 in
theorem sX9_testOf_6 {X : gX} {d mc ms : Nat} {Q : Option Value → gM → Prop} {M : gM} {c z : Nat} {a0 : Nat} {x1 : Int32} {x2 : Int32} (s0 : Mo M a0) (w1 : c ≤ mc) (w2 : z ≤ ms) (b3 : EX9_passes0 M a0 4) (h4 : ((fX9_passes0 M a0 4) = 0) → Q (some (.int (x2))) (mX9_passes0 M a0 4)) (b5 : ((fX9_passes0 M a0 4) = 0) → x2 = 0 ∨ x2 = 1) (h6 : (¬ (fX9_passes0 M a0 4) = 0) → (x1 = 0) → Cn X (d + 5) 0 0 kX9_bothOf [.ref a0, .int (0)] (mX9_passes0 M a0 4) (fun v M1 => Go X (d + 6) mc ms kX9_testOf Q 31 [(0, .ref a0), (1, .int (x1)), (2, .int (x2))] (v.toList ++ []) M1 c z)) (h7 : (¬ (fX9_passes0 M a0 4) = 0) → (¬ x1 = 0) → (¬ x2 = 0) → Cn X (d + 5) 0 0 kX9_bothOf [.ref a0, .int (0)] (mX9_passes0 M a0 4) (fun v M1 => Go X (d + 6) mc ms kX9_testOf Q 31 [(0, .ref a0), (1, .int (x1)), (2, .int (x2))] (v.toList ++ []) M1 c z)) (h8 : (¬ (fX9_passes0 M a0 4) = 0) → (¬ x1 = 0) → (x2 = 0) → Cn X (d + 5) 0 0 kX9_bothOf [.ref a0, .int (1)] (mX9_passes0 M a0 4) (fun v M1 => Go X (d + 6) mc ms kX9_testOf Q 31 [(0, .ref a0), (1, .int (x1)), (2, .int (x2))] (v.toList ++ []) M1 c z)) : Go X (d + 6) mc ms kX9_testOf Q 6 [(0, .ref a0), (1, .int (x1)), (2, .int (x2))] [] M c z := by
  refine g_aload_n 0 7 dX9_testOf_6 rfl rfl ?_
  refine g_iconst (4) 8 dX9_testOf_7 rfl rfl ?_
  refine g_callV (mc1 := 0) (ms1 := 0) (b := a0) (rest := []) (av := [.int (4)]) kX9_passes0 11 dX9_testOf_8 rfl rfl mbX9_293 imX9_passes0 seX9_passes0 gcl9.1 s0.1 (Nat.le_of_ble_eq_true rfl) (w1) (w2) (tX9_passes0 s0 (b3) ?_)
  show Go X (d + 6) mc ms kX9_testOf Q 11 [(0, .ref a0), (1, .int (x1)), (2, .int (x2))] [.int ((fX9_passes0 M a0 4))] (mX9_passes0 M a0 4) c z
  refine g_if_eq 49 14 dX9_testOf_11 rfl rfl (fun c1 => ?_) (fun c1 => ?_)
  · skip
    refine g_iload_n 2 50 dX9_testOf_49 rfl rfl ?_
    exact g_zret dX9_testOf_50 rfl (b5 c1) (w1) (w2) (h4 c1)
  · skip
    refine g_aload_n 0 15 dX9_testOf_14 rfl rfl ?_
    refine g_iload_n 1 16 dX9_testOf_15 rfl rfl ?_
    refine g_if_eq 27 19 dX9_testOf_16 rfl rfl (fun c2 => ?_) (fun c2 => ?_)
    · skip
      refine g_iconst (0) 28 dX9_testOf_27 rfl rfl ?_
      exact g_callV (mc1 := 0) (ms1 := 0) (b := a0) (rest := []) (av := [.int (0)]) kX9_bothOf 31 dX9_testOf_28 rfl rfl mbX9_314 imX9_bothOf seX9_bothOf gcl9.1 (Sm.k (Sm.tr Sm.rf jX9_passes0) s0.1) (Nat.le_of_ble_eq_true rfl) (w1) (w2) (h6 c1 c2)
    · skip
      refine g_iload_n 2 20 dX9_testOf_19 rfl rfl ?_
      refine g_if_ne 27 23 dX9_testOf_20 rfl rfl (fun c3 => ?_) (fun c3 => ?_)
      · skip
        refine g_iconst (0) 28 dX9_testOf_27 rfl rfl ?_
        exact g_callV (mc1 := 0) (ms1 := 0) (b := a0) (rest := []) (av := [.int (0)]) kX9_bothOf 31 dX9_testOf_28 rfl rfl mbX9_314 imX9_bothOf seX9_bothOf gcl9.1 (Sm.k (Sm.tr Sm.rf jX9_passes0) s0.1) (Nat.le_of_ble_eq_true rfl) (w1) (w2) (h7 c1 c2 c3)
      · skip
        refine g_iconst (1) 24 dX9_testOf_23 rfl rfl ?_
        refine g_goto 28 dX9_testOf_24 rfl ?_
        exact g_callV (mc1 := 0) (ms1 := 0) (b := a0) (rest := []) (av := [.int (1)]) kX9_bothOf 31 dX9_testOf_28 rfl rfl mbX9_314 imX9_bothOf seX9_bothOf gcl9.1 (Sm.k (Sm.tr Sm.rf jX9_passes0) s0.1) (Nat.le_of_ble_eq_true rfl) (w1) (w2) (h8 c1 c2 c3)

set_option maxRecDepth 4000 in
theorem sX9_testOf_31 {X : gX} {d mc ms : Nat} {Q : Option Value → gM → Prop} {M : gM} {c z : Nat} {a0 : Nat} {x1 : Int32} {x2 : Int32} {xs0 : Int32} (s0 : Mo M a0) (h1 : (¬ x2 = 0) → Go X (d + 6) mc ms kX9_testOf Q 6 [(0, .ref a0), (1, .int (x1)), (2, .int (1))] [] M c z) (h2 : (x2 = 0) → (xs0 = 0) → Go X (d + 6) mc ms kX9_testOf Q 6 [(0, .ref a0), (1, .int (x1)), (2, .int (0))] [] M c z) (h3 : (x2 = 0) → (¬ xs0 = 0) → Go X (d + 6) mc ms kX9_testOf Q 6 [(0, .ref a0), (1, .int (x1)), (2, .int (1))] [] M c z) : Go X (d + 6) mc ms kX9_testOf Q 31 [(0, .ref a0), (1, .int (x1)), (2, .int (x2))] [.int (xs0)] M c z := by
  refine g_istore_n 32 [(3, .int (xs0)), (0, .ref a0), (1, .int (x1)), (2, .int (x2))] dX9_testOf_31 rfl (Nat.le_of_ble_eq_true rfl) rfl ?_
  refine g_iload_n 3 33 dX9_testOf_32 rfl rfl ?_
  refine g_if_ne 40 36 dX9_testOf_33 rfl rfl (fun c1 => ?_) (fun c1 => ?_)
  · skip
    refine g_iconst (1) 41 dX9_testOf_40 rfl rfl ?_
    refine g_goto 45 dX9_testOf_41 rfl ?_
    refine g_istore_n 46 [(2, .int (1)), (3, .int (xs0)), (0, .ref a0), (1, .int (x1))] dX9_testOf_45 rfl (Nat.le_of_ble_eq_true rfl) rfl ?_
    refine g_goto 6 dX9_testOf_46 rfl ?_
    exact g_sub [2, 3, 0] _ rfl (h1 c1)
  · skip
    refine g_iload_n 0 37 dX9_testOf_36 rfl rfl ?_
    refine g_if_eq 44 40 dX9_testOf_37 rfl rfl (fun c2 => ?_) (fun c2 => ?_)
    · skip
      refine g_iconst (0) 45 dX9_testOf_44 rfl rfl ?_
      refine g_istore_n 46 [(2, .int (0)), (3, .int (xs0)), (0, .ref a0), (1, .int (x1))] dX9_testOf_45 rfl (Nat.le_of_ble_eq_true rfl) rfl ?_
      refine g_goto 6 dX9_testOf_46 rfl ?_
      exact g_sub [2, 3, 0] _ rfl (h2 c1 c2)
    · skip
      refine g_iconst (1) 41 dX9_testOf_40 rfl rfl ?_
      refine g_goto 45 dX9_testOf_41 rfl ?_
      refine g_istore_n 46 [(2, .int (1)), (3, .int (xs0)), (0, .ref a0), (1, .int (x1))] dX9_testOf_45 rfl (Nat.le_of_ble_eq_true rfl) rfl ?_
      refine g_goto 6 dX9_testOf_46 rfl ?_
      exact g_sub [2, 3, 0] _ rfl (h3 c1 c2)

set_option maxRecDepth 4000 in
theorem sX9_bothOf_0 {X : gX} {d mc ms : Nat} {Q : Option Value → gM → Prop} {M : gM} {a0 : Nat} {x1 : Int32} (s0 : Mo M a0) (h1 : Cn X (d + 5) 0 0 kX9_plainOf [.ref a0, .int (x1)] M (fun v M1 => Go X (d + 6) mc ms kX9_bothOf Q 5 [(0, .ref a0), (1, .int (x1))] (v.toList ++ []) M1 0 0)) : Cn X (d + 6) mc ms kX9_bothOf [.ref a0, .int (x1)] M Q := by
  refine g_meth rfl rfl (Nat.le_of_ble_eq_true rfl) rfl ?_
  refine g_aload_n 0 1 dX9_bothOf_0 rfl rfl ?_
  refine g_iload_n 1 2 dX9_bothOf_1 rfl rfl ?_
  exact g_callV (mc1 := 0) (ms1 := 0) (b := a0) (rest := []) (av := [.int (x1)]) kX9_plainOf 5 dX9_bothOf_2 rfl rfl mbX9_317 imX9_plainOf seX9_plainOf gcl9.1 s0.1 (Nat.le_of_ble_eq_true rfl) (Nat.zero_le _) (Nat.zero_le _) (h1)

set_option maxRecDepth 4000 in
theorem sX9_bothOf_5 {X : gX} {d mc ms : Nat} {Q : Option Value → gM → Prop} {M : gM} {c z : Nat} {a0 : Nat} {x1 : Int32} {xs0 : Int32} (s0 : Mo M a0) (h1 : Go X (d + 6) mc ms kX9_bothOf Q 6 [(0, .ref a0), (1, .int (x1)), (2, .int (xs0))] [] M c z) : Go X (d + 6) mc ms kX9_bothOf Q 5 [(0, .ref a0), (1, .int (x1))] [.int (xs0)] M c z := by
  refine g_istore_n 6 [(2, .int (xs0)), (0, .ref a0), (1, .int (x1))] dX9_bothOf_5 rfl (Nat.le_of_ble_eq_true rfl) rfl ?_
  exact g_sub [1, 2, 0] _ rfl (h1)

set_option maxRecDepth 4000 in
theorem sX9_bothOf_6 {X : gX} {d mc ms : Nat} {Q : Option Value → gM → Prop} {M : gM} {c z : Nat} {a0 : Nat} {x1 : Int32} {x2 : Int32} (s0 : Mo M a0) (w1 : c ≤ mc) (w2 : z ≤ ms) (b3 : EX9_passes0 M a0 5) (h4 : ((fX9_passes0 M a0 5) = 0) → Q (some (.int (x2))) (mX9_passes0 M a0 5)) (b5 : ((fX9_passes0 M a0 5) = 0) → x2 = 0 ∨ x2 = 1) (h6 : (¬ (fX9_passes0 M a0 5) = 0) → (x1 = 0) → Cn X (d + 5) 0 0 kX9_plainOf [.ref a0, .int (0)] (mX9_passes0 M a0 5) (fun v M1 => Go X (d + 6) mc ms kX9_bothOf Q 31 [(0, .ref a0), (1, .int (x1)), (2, .int (x2))] (v.toList ++ []) M1 c z)) (h7 : (¬ (fX9_passes0 M a0 5) = 0) → (¬ x1 = 0) → (x2 = 0) → Cn X (d + 5) 0 0 kX9_plainOf [.ref a0, .int (0)] (mX9_passes0 M a0 5) (fun v M1 => Go X (d + 6) mc ms kX9_bothOf Q 31 [(0, .ref a0), (1, .int (x1)), (2, .int (x2))] (v.toList ++ []) M1 c z)) (h8 : (¬ (fX9_passes0 M a0 5) = 0) → (¬ x1 = 0) → (¬ x2 = 0) → Cn X (d + 5) 0 0 kX9_plainOf [.ref a0, .int (1)] (mX9_passes0 M a0 5) (fun v M1 => Go X (d + 6) mc ms kX9_bothOf Q 31 [(0, .ref a0), (1, .int (x1)), (2, .int (x2))] (v.toList ++ []) M1 c z)) : Go X (d + 6) mc ms kX9_bothOf Q 6 [(0, .ref a0), (1, .int (x1)), (2, .int (x2))] [] M c z := by
  refine g_aload_n 0 7 dX9_bothOf_6 rfl rfl ?_
  refine g_iconst (5) 8 dX9_bothOf_7 rfl rfl ?_
  refine g_callV (mc1 := 0) (ms1 := 0) (b := a0) (rest := []) (av := [.int (5)]) kX9_passes0 11 dX9_bothOf_8 rfl rfl mbX9_293 imX9_passes0 seX9_passes0 gcl9.1 s0.1 (Nat.le_of_ble_eq_true rfl) (w1) (w2) (tX9_passes0 s0 (b3) ?_)
  show Go X (d + 6) mc ms kX9_bothOf Q 11 [(0, .ref a0), (1, .int (x1)), (2, .int (x2))] [.int ((fX9_passes0 M a0 5))] (mX9_passes0 M a0 5) c z
  refine g_if_eq 49 14 dX9_bothOf_11 rfl rfl (fun c1 => ?_) (fun c1 => ?_)
  · skip
    refine g_iload_n 2 50 dX9_bothOf_49 rfl rfl ?_
    exact g_zret dX9_bothOf_50 rfl (b5 c1) (w1) (w2) (h4 c1)
  · skip
    refine g_aload_n 0 15 dX9_bothOf_14 rfl rfl ?_
    refine g_iload_n 1 16 dX9_bothOf_15 rfl rfl ?_
    refine g_if_eq 27 19 dX9_bothOf_16 rfl rfl (fun c2 => ?_) (fun c2 => ?_)
    · skip
      refine g_iconst (0) 28 dX9_bothOf_27 rfl rfl ?_
      exact g_callV (mc1 := 0) (ms1 := 0) (b := a0) (rest := []) (av := [.int (0)]) kX9_plainOf 31 dX9_bothOf_28 rfl rfl mbX9_317 imX9_plainOf seX9_plainOf gcl9.1 (Sm.k (Sm.tr Sm.rf jX9_passes0) s0.1) (Nat.le_of_ble_eq_true rfl) (w1) (w2) (h6 c1 c2)
    · skip
      refine g_iload_n 2 20 dX9_bothOf_19 rfl rfl ?_
      refine g_if_eq 27 23 dX9_bothOf_20 rfl rfl (fun c3 => ?_) (fun c3 => ?_)
      · skip
        refine g_iconst (0) 28 dX9_bothOf_27 rfl rfl ?_
        exact g_callV (mc1 := 0) (ms1 := 0) (b := a0) (rest := []) (av := [.int (0)]) kX9_plainOf 31 dX9_bothOf_28 rfl rfl mbX9_317 imX9_plainOf seX9_plainOf gcl9.1 (Sm.k (Sm.tr Sm.rf jX9_passes0) s0.1) (Nat.le_of_ble_eq_true rfl) (w1) (w2) (h7 c1 c2 c3)
      · skip
        refine g_iconst (1) 24 dX9_bothOf_23 rfl rfl ?_
        refine g_goto 28 dX9_bothOf_24 rfl ?_
        exact g_callV (mc1 := 0) (ms1 := 0) (b := a0) (rest := []) (av := [.int (1)]) kX9_plainOf 31 dX9_bothOf_28 rfl rfl mbX9_317 imX9_plainOf seX9_plainOf gcl9.1 (Sm.k (Sm.tr Sm.rf jX9_passes0) s0.1) (Nat.le_of_ble_eq_true rfl) (w1) (w2) (h8 c1 c2 c3)

set_option maxRecDepth 4000 in
theorem sX9_bothOf_31 {X : gX} {d mc ms : Nat} {Q : Option Value → gM → Prop} {M : gM} {c z : Nat} {a0 : Nat} {x1 : Int32} {x2 : Int32} {xs0 : Int32} (s0 : Mo M a0) (h1 : (x2 = 0) → Go X (d + 6) mc ms kX9_bothOf Q 6 [(0, .ref a0), (1, .int (x1)), (2, .int (0))] [] M c z) (h2 : (¬ x2 = 0) → (xs0 = 0) → Go X (d + 6) mc ms kX9_bothOf Q 6 [(0, .ref a0), (1, .int (x1)), (2, .int (0))] [] M c z) (h3 : (¬ x2 = 0) → (¬ xs0 = 0) → Go X (d + 6) mc ms kX9_bothOf Q 6 [(0, .ref a0), (1, .int (x1)), (2, .int (1))] [] M c z) : Go X (d + 6) mc ms kX9_bothOf Q 31 [(0, .ref a0), (1, .int (x1)), (2, .int (x2))] [.int (xs0)] M c z := by
  refine g_istore_n 32 [(3, .int (xs0)), (0, .ref a0), (1, .int (x1)), (2, .int (x2))] dX9_bothOf_31 rfl (Nat.le_of_ble_eq_true rfl) rfl ?_
  refine g_iload_n 3 33 dX9_bothOf_32 rfl rfl ?_
  refine g_if_eq 44 36 dX9_bothOf_33 rfl rfl (fun c1 => ?_) (fun c1 => ?_)
  · skip
    refine g_iconst (0) 45 dX9_bothOf_44 rfl rfl ?_
    refine g_istore_n 46 [(2, .int (0)), (3, .int (xs0)), (0, .ref a0), (1, .int (x1))] dX9_bothOf_45 rfl (Nat.le_of_ble_eq_true rfl) rfl ?_
    refine g_goto 6 dX9_bothOf_46 rfl ?_
    exact g_sub [2, 3, 0] _ rfl (h1 c1)
  · skip
    refine g_iload_n 0 37 dX9_bothOf_36 rfl rfl ?_
    refine g_if_eq 44 40 dX9_bothOf_37 rfl rfl (fun c2 => ?_) (fun c2 => ?_)
    · skip
      refine g_iconst (0) 45 dX9_bothOf_44 rfl rfl ?_
      refine g_istore_n 46 [(2, .int (0)), (3, .int (xs0)), (0, .ref a0), (1, .int (x1))] dX9_bothOf_45 rfl (Nat.le_of_ble_eq_true rfl) rfl ?_
      refine g_goto 6 dX9_bothOf_46 rfl ?_
      exact g_sub [2, 3, 0] _ rfl (h2 c1 c2)
    · skip
      refine g_iconst (1) 41 dX9_bothOf_40 rfl rfl ?_
      refine g_goto 45 dX9_bothOf_41 rfl ?_
      refine g_istore_n 46 [(2, .int (1)), (3, .int (xs0)), (0, .ref a0), (1, .int (x1))] dX9_bothOf_45 rfl (Nat.le_of_ble_eq_true rfl) rfl ?_
      refine g_goto 6 dX9_bothOf_46 rfl ?_
      exact g_sub [2, 3, 0] _ rfl (h3 c1 c2)

set_option maxRecDepth 4000 in
theorem sX9_plainOf_0 {X : gX} {d mc ms : Nat} {Q : Option Value → gM → Prop} {M : gM} {a0 : Nat} {x1 : Int32} (s0 : Mo M a0) (h1 : Go X (d + 6) mc ms kX9_plainOf Q 2 [(0, .ref a0), (1, .int (x1)), (2, .int (0))] [] M 0 0) : Cn X (d + 6) mc ms kX9_plainOf [.ref a0, .int (x1)] M Q := by
  refine g_meth rfl rfl (Nat.le_of_ble_eq_true rfl) rfl ?_
  refine g_iconst (0) 1 dX9_plainOf_0 rfl rfl ?_
  refine g_istore_n 2 [(2, .int (0)), (0, .ref a0), (1, .int (x1))] dX9_plainOf_1 rfl (Nat.le_of_ble_eq_true rfl) rfl ?_
  exact g_sub [1, 2, 0] _ rfl (h1)

set_option maxRecDepth 4000 in
theorem sX9_plainOf_2 {X : gX} {d mc ms : Nat} {Q : Option Value → gM → Prop} {M : gM} {c z : Nat} {a0 : Nat} {x1 : Int32} {x2 : Int32} (s0 : Mo M a0) (w1 : c ≤ mc) (w2 : z ≤ ms) (b3 : EX9_passes0 M a0 6) (h4 : ((fX9_passes0 M a0 6) = 0) → Cn X (d + 5) 0 0 kX9_positiveOf [.ref a0, .int (x1)] (mX9_passes0 M a0 6) (fun v M1 => Go X (d + 6) mc ms kX9_plainOf Q 29 [(2, .int (x2))] (v.toList ++ []) M1 c z)) (h5 : (¬ (fX9_passes0 M a0 6) = 0) → (¬ x2 = 0) → Go X (d + 6) mc ms kX9_plainOf Q 2 [(0, .ref a0), (1, .int (x1)), (2, .int (0))] [] (mX9_passes0 M a0 6) c z) (h6 : (¬ (fX9_passes0 M a0 6) = 0) → (x2 = 0) → Go X (d + 6) mc ms kX9_plainOf Q 2 [(0, .ref a0), (1, .int (x1)), (2, .int (1))] [] (mX9_passes0 M a0 6) c z) : Go X (d + 6) mc ms kX9_plainOf Q 2 [(0, .ref a0), (1, .int (x1)), (2, .int (x2))] [] M c z := by
  refine g_aload_n 0 3 dX9_plainOf_2 rfl rfl ?_
  refine g_bipush (6) 5 dX9_plainOf_3 rfl rfl ?_
  refine g_callV (mc1 := 0) (ms1 := 0) (b := a0) (rest := []) (av := [.int (6)]) kX9_passes0 8 dX9_plainOf_5 rfl rfl mbX9_293 imX9_passes0 seX9_passes0 gcl9.1 s0.1 (Nat.le_of_ble_eq_true rfl) (w1) (w2) (tX9_passes0 s0 (b3) ?_)
  show Go X (d + 6) mc ms kX9_plainOf Q 8 [(0, .ref a0), (1, .int (x1)), (2, .int (x2))] [.int ((fX9_passes0 M a0 6))] (mX9_passes0 M a0 6) c z
  refine g_if_eq 24 11 dX9_plainOf_8 rfl rfl (fun c1 => ?_) (fun c1 => ?_)
  · skip
    refine g_aload_n 0 25 dX9_plainOf_24 rfl rfl ?_
    refine g_iload_n 1 26 dX9_plainOf_25 rfl rfl ?_
    refine g_sub [2] [(2, .int (x2))] rfl ?_
    exact g_callV (mc1 := 0) (ms1 := 0) (b := a0) (rest := []) (av := [.int (x1)]) kX9_positiveOf 29 dX9_plainOf_26 rfl rfl mbX9_320 imX9_positiveOf seX9_positiveOf gcl9.1 (Sm.k (Sm.tr Sm.rf jX9_passes0) s0.1) (Nat.le_of_ble_eq_true rfl) (w1) (w2) (h4 c1)
  · skip
    refine g_iload_n 2 12 dX9_plainOf_11 rfl rfl ?_
    refine g_if_ne 19 15 dX9_plainOf_12 rfl rfl (fun c2 => ?_) (fun c2 => ?_)
    · skip
      refine g_iconst (0) 20 dX9_plainOf_19 rfl rfl ?_
      refine g_istore_n 21 [(2, .int (0)), (0, .ref a0), (1, .int (x1))] dX9_plainOf_20 rfl (Nat.le_of_ble_eq_true rfl) rfl ?_
      refine g_goto 2 dX9_plainOf_21 rfl ?_
      exact g_sub [1, 2, 0] _ rfl (h5 c1 c2)
    · skip
      refine g_iconst (1) 16 dX9_plainOf_15 rfl rfl ?_
      refine g_goto 20 dX9_plainOf_16 rfl ?_
      refine g_istore_n 21 [(2, .int (1)), (0, .ref a0), (1, .int (x1))] dX9_plainOf_20 rfl (Nat.le_of_ble_eq_true rfl) rfl ?_
      refine g_goto 2 dX9_plainOf_21 rfl ?_
      exact g_sub [1, 2, 0] _ rfl (h6 c1 c2)

set_option maxRecDepth 4000 in
theorem sX9_plainOf_29 {X : gX} {d mc ms : Nat} {Q : Option Value → gM → Prop} {M : gM} {c z : Nat} {x2 : Int32} {xs0 : Int32} (h1 : (xs0 = x2) → Q (some (.int (0))) M) (w2 : c ≤ mc) (w3 : z ≤ ms) (h4 : (¬ xs0 = x2) → Q (some (.int (1))) M) : Go X (d + 6) mc ms kX9_plainOf Q 29 [(2, .int (x2))] [.int (xs0)] M c z := by
  refine g_iload_n 0 30 dX9_plainOf_29 rfl rfl ?_
  refine g_icmp_eq 37 33 dX9_plainOf_30 rfl rfl (fun c1 => ?_) (fun c1 => ?_)
  · skip
    refine g_iconst (0) 38 dX9_plainOf_37 rfl rfl ?_
    exact g_zret dX9_plainOf_38 rfl (by decide) (w2) (w3) (h1 c1)
  · skip
    refine g_iconst (1) 34 dX9_plainOf_33 rfl rfl ?_
    refine g_goto 38 dX9_plainOf_34 rfl ?_
    exact g_zret dX9_plainOf_38 rfl (by decide) (w2) (w3) (h4 c1)

set_option maxRecDepth 4000 in
theorem sX9_positiveOf_0 {X : gX} {d mc ms : Nat} {Q : Option Value → gM → Prop} {M : gM} {a0 : Nat} {x1 : Int32} (s0 : Mo M a0) (b1 : EX9_passes0 M a0 (fX9_sign 40)) (h2 : ((fX9_passes0 M a0 (fX9_sign 40)) = 0) → Cn X (d + 5) 0 0 kX9_sumOf [.ref a0, .int (x1)] (mX9_passes0 M a0 (fX9_sign 40)) (fun v M1 => Go X (d + 6) mc ms kX9_positiveOf Q 35 [(0, .ref a0), (1, .int (x1))] (v.toList ++ []) M1 0 0)) (h3 : (¬ (fX9_passes0 M a0 (fX9_sign 40)) = 0) → Cn X (d + 5) 0 0 kX9_testOf [.ref a0, .int (x1)] (mX9_passes0 M a0 (fX9_sign 40)) (fun v M1 => Go X (d + 6) mc ms kX9_positiveOf Q 17 [(0, .ref a0)] (v.toList ++ []) M1 0 0)) : Cn X (d + 6) mc ms kX9_positiveOf [.ref a0, .int (x1)] M Q := by
  refine g_meth rfl rfl (Nat.le_of_ble_eq_true rfl) rfl ?_
  refine g_aload_n 0 1 dX9_positiveOf_0 rfl rfl ?_
  refine g_bipush (40) 3 dX9_positiveOf_1 rfl rfl ?_
  refine g_callS (mc1 := 0) (ms1 := 0) (rest := [.ref a0]) (av := [.int (40)]) kX9_sign 6 dX9_positiveOf_3 rfl rfl mbX9_228 smX9_sign (Nat.le_of_ble_eq_true rfl) (Nat.zero_le _) (Nat.zero_le _) (tX9_sign  ?_)
  show Go X (d + 6) mc ms kX9_positiveOf Q 6 [(0, .ref a0), (1, .int (x1))] [.int ((fX9_sign 40)), .ref a0] M 0 0
  refine g_callV (mc1 := 0) (ms1 := 0) (b := a0) (rest := []) (av := [.int ((fX9_sign 40))]) kX9_passes0 9 dX9_positiveOf_6 rfl rfl mbX9_293 imX9_passes0 seX9_passes0 gcl9.1 s0.1 (Nat.le_of_ble_eq_true rfl) (Nat.zero_le _) (Nat.zero_le _) (tX9_passes0 s0 (b1) ?_)
  show Go X (d + 6) mc ms kX9_positiveOf Q 9 [(0, .ref a0), (1, .int (x1))] [.int ((fX9_passes0 M a0 (fX9_sign 40)))] (mX9_passes0 M a0 (fX9_sign 40)) 0 0
  refine g_if_eq 30 12 dX9_positiveOf_9 rfl rfl (fun c1 => ?_) (fun c1 => ?_)
  · skip
    refine g_aload_n 0 31 dX9_positiveOf_30 rfl rfl ?_
    refine g_iload_n 1 32 dX9_positiveOf_31 rfl rfl ?_
    exact g_callV (mc1 := 0) (ms1 := 0) (b := a0) (rest := []) (av := [.int (x1)]) kX9_sumOf 35 dX9_positiveOf_32 rfl rfl mbX9_296 imX9_sumOf seX9_sumOf gcl9.1 (Sm.k (Sm.tr Sm.rf jX9_passes0) s0.1) (Nat.le_of_ble_eq_true rfl) (Nat.zero_le _) (Nat.zero_le _) (h2 c1)
  · skip
    refine g_aload_n 0 13 dX9_positiveOf_12 rfl rfl ?_
    refine g_iload_n 1 14 dX9_positiveOf_13 rfl rfl ?_
    refine g_sub [0] [(0, .ref a0)] rfl ?_
    exact g_callV (mc1 := 0) (ms1 := 0) (b := a0) (rest := []) (av := [.int (x1)]) kX9_testOf 17 dX9_positiveOf_14 rfl rfl mbX9_323 imX9_testOf seX9_testOf gcl9.1 (Sm.k (Sm.tr Sm.rf jX9_passes0) s0.1) (Nat.le_of_ble_eq_true rfl) (Nat.zero_le _) (Nat.zero_le _) (h3 c1)

set_option maxRecDepth 4000 in
theorem sX9_positiveOf_17 {X : gX} {d mc ms : Nat} {Q : Option Value → gM → Prop} {M : gM} {c z : Nat} {a0 : Nat} {xs0 : Int32} (s0 : Mo M a0) (h1 : Q (some (.int (xs0))) (g_wi M a0 22 ((g_mi M a0 22) + 1))) (b2 : xs0 = 0 ∨ xs0 = 1) (w3 : c ≤ mc) (w4 : z ≤ ms) : Go X (d + 6) mc ms kX9_positiveOf Q 17 [(0, .ref a0)] [.int (xs0)] M c z := by
  refine g_istore_n 18 [(2, .int (xs0)), (0, .ref a0)] dX9_positiveOf_17 rfl (Nat.le_of_ble_eq_true rfl) rfl ?_
  refine g_aload_n 1 19 dX9_positiveOf_18 rfl rfl ?_
  refine g_dup 20 dX9_positiveOf_19 rfl rfl ?_
  refine g_getI 23 dX9_positiveOf_20 rfl flX9_269 s0.1 ?_
  refine g_iconst (1) 24 dX9_positiveOf_23 rfl rfl ?_
  refine g_iadd 25 dX9_positiveOf_24 rfl ?_
  refine g_putI 28 dX9_positiveOf_25 rfl flX9_269 s0.1 ?_
  refine g_iload_n 0 29 dX9_positiveOf_28 rfl rfl ?_
  exact g_zret dX9_positiveOf_29 rfl (b2) (w3) (w4) (h1)

set_option maxRecDepth 4000 in
theorem sX9_positiveOf_35 {X : gX} {d mc ms : Nat} {Q : Option Value → gM → Prop} {M : gM} {c z : Nat} {a0 : Nat} {x1 : Int32} {ys0 : Int64} (s0 : Mo M a0) (w1 : c ≤ mc) (w2 : z ≤ ms) (b3 : EX9_codeAt M a0 (g_mi M a0 22)) (h4 : Cn X (d + 5) 0 0 kX9_sumOf [.ref a0, .int (x1)] (g_wi M a0 22 ((g_mi M a0 22) + 1)) (fun v M1 => Go X (d + 6) mc ms kX9_positiveOf Q 61 [(0, .ref a0), (1, .int (x1)), (2, .long (ys0)), (4, .int ((fX9_codeAt M a0 (g_mi M a0 22))))] (v.toList ++ []) M1 c z)) : Go X (d + 6) mc ms kX9_positiveOf Q 35 [(0, .ref a0), (1, .int (x1))] [.long (ys0)] M c z := by
  refine g_lstore_n 36 [(2, .long (ys0)), (0, .ref a0), (1, .int (x1))] dX9_positiveOf_35 rfl (Nat.le_of_ble_eq_true rfl) rfl ?_
  refine g_aload_n 1 37 dX9_positiveOf_36 rfl rfl ?_
  refine g_aload_n 1 38 dX9_positiveOf_37 rfl rfl ?_
  refine g_getI 41 dX9_positiveOf_38 rfl flX9_269 s0.1 ?_
  refine g_callV (mc1 := 0) (ms1 := 0) (b := a0) (rest := []) (av := [.int ((g_mi M a0 22))]) kX9_codeAt 44 dX9_positiveOf_41 rfl rfl mbX9_272 imX9_codeAt seX9_codeAt gcl9.1 s0.1 (Nat.le_of_ble_eq_true rfl) (w1) (w2) (tX9_codeAt s0 (b3) ?_)
  show Go X (d + 6) mc ms kX9_positiveOf Q 44 [(2, .long (ys0)), (0, .ref a0), (1, .int (x1))] [.int ((fX9_codeAt M a0 (g_mi M a0 22)))] M c z
  refine g_istore 46 [(4, .int ((fX9_codeAt M a0 (g_mi M a0 22)))), (2, .long (ys0)), (0, .ref a0), (1, .int (x1))] dX9_positiveOf_44 rfl (Nat.le_of_ble_eq_true rfl) rfl ?_
  refine g_aload_n 2 47 dX9_positiveOf_46 rfl rfl ?_
  refine g_dup 48 dX9_positiveOf_47 rfl rfl ?_
  refine g_getI 51 dX9_positiveOf_48 rfl flX9_269 s0.1 ?_
  refine g_iconst (1) 52 dX9_positiveOf_51 rfl rfl ?_
  refine g_iadd 53 dX9_positiveOf_52 rfl ?_
  refine g_putI 56 dX9_positiveOf_53 rfl flX9_269 s0.1 ?_
  refine g_aload_n 2 57 dX9_positiveOf_56 rfl rfl ?_
  refine g_iload_n 3 58 dX9_positiveOf_57 rfl rfl ?_
  refine g_sub [2, 3, 1, 0] [(0, .ref a0), (1, .int (x1)), (2, .long (ys0)), (4, .int ((fX9_codeAt M a0 (g_mi M a0 22))))] rfl ?_
  exact g_callV (mc1 := 0) (ms1 := 0) (b := a0) (rest := []) (av := [.int (x1)]) kX9_sumOf 61 dX9_positiveOf_58 rfl rfl mbX9_296 imX9_sumOf seX9_sumOf gcl9.1 (Sm.k (Sm.wi Sm.rf) s0.1) (Nat.le_of_ble_eq_true rfl) (w1) (w2) (h4)

set_option maxRecDepth 4000 in
theorem sX9_positiveOf_61 {X : gX} {d mc ms : Nat} {Q : Option Value → gM → Prop} {M : gM} {c z : Nat} {a0 : Nat} {x1 : Int32} {y2 : Int64} {x4 : Int32} {ys0 : Int64} (s0 : Mo M a0) (h1 : (x1 = 0) → Q (some (.int (0))) M) (w2 : c ≤ mc) (w3 : z ≤ ms) (h4 : (¬ x1 = 0) → (¬ (g_mi M a0 24) = 0) → Q (some (.int (0))) M) (h5 : (¬ x1 = 0) → ((g_mi M a0 24) = 0) → (¬ x4 = (fX9_sign 60)) → (¬ x4 = (fX9_sign 62)) → (¬ (lg_cmp y2 ys0) = 0) → Q (some (.int (0))) M) (h6 : (¬ x1 = 0) → ((g_mi M a0 24) = 0) → (¬ x4 = (fX9_sign 60)) → (¬ x4 = (fX9_sign 62)) → ((lg_cmp y2 ys0) = 0) → Q (some (.int (1))) M) (h7 : (¬ x1 = 0) → ((g_mi M a0 24) = 0) → (¬ x4 = (fX9_sign 60)) → (x4 = (fX9_sign 62)) → ((lg_cmp y2 ys0) ≤ 0) → Q (some (.int (0))) M) (h8 : (¬ x1 = 0) → ((g_mi M a0 24) = 0) → (¬ x4 = (fX9_sign 60)) → (x4 = (fX9_sign 62)) → (¬ (lg_cmp y2 ys0) ≤ 0) → Q (some (.int (1))) M) (h9 : (¬ x1 = 0) → ((g_mi M a0 24) = 0) → (x4 = (fX9_sign 60)) → (0 ≤ (lg_cmp y2 ys0)) → Q (some (.int (0))) M) (h10 : (¬ x1 = 0) → ((g_mi M a0 24) = 0) → (x4 = (fX9_sign 60)) → (¬ 0 ≤ (lg_cmp y2 ys0)) → Q (some (.int (1))) M) : Go X (d + 6) mc ms kX9_positiveOf Q 61 [(0, .ref a0), (1, .int (x1)), (2, .long (y2)), (4, .int (x4))] [.long (ys0)] M c z := by
  refine g_lstore 63 [(5, .long (ys0)), (0, .ref a0), (1, .int (x1)), (2, .long (y2)), (4, .int (x4))] dX9_positiveOf_61 rfl (Nat.le_of_ble_eq_true rfl) rfl ?_
  refine g_iload_n 2 64 dX9_positiveOf_63 rfl rfl ?_
  refine g_if_eq 125 67 dX9_positiveOf_64 rfl rfl (fun c1 => ?_) (fun c1 => ?_)
  · skip
    refine g_iconst (0) 126 dX9_positiveOf_125 rfl rfl ?_
    exact g_zret dX9_positiveOf_126 rfl (by decide) (w2) (w3) (h1 c1)
  · skip
    refine g_aload_n 1 68 dX9_positiveOf_67 rfl rfl ?_
    refine g_getI 71 dX9_positiveOf_68 rfl flX9_279 s0.1 ?_
    refine g_if_ne 125 74 dX9_positiveOf_71 rfl rfl (fun c2 => ?_) (fun c2 => ?_)
    · skip
      refine g_iconst (0) 126 dX9_positiveOf_125 rfl rfl ?_
      exact g_zret dX9_positiveOf_126 rfl (by decide) (w2) (w3) (h4 c1 c2)
    · skip
      refine g_iload 4 76 dX9_positiveOf_74 rfl rfl ?_
      refine g_bipush (60) 78 dX9_positiveOf_76 rfl rfl ?_
      refine g_callS (mc1 := 0) (ms1 := 0) (rest := [.int (x4)]) (av := [.int (60)]) kX9_sign 81 dX9_positiveOf_78 rfl rfl mbX9_228 smX9_sign (Nat.le_of_ble_eq_true rfl) (w2) (w3) (tX9_sign  ?_)
      show Go X (d + 6) mc ms kX9_positiveOf Q 81 [(5, .long (ys0)), (0, .ref a0), (1, .int (x1)), (2, .long (y2)), (4, .int (x4))] [.int ((fX9_sign 60)), .int (x4)] M c z
      refine g_icmp_ne 94 84 dX9_positiveOf_81 rfl rfl (fun c3 => ?_) (fun c3 => ?_)
      · skip
        refine g_iload 4 96 dX9_positiveOf_94 rfl rfl ?_
        refine g_bipush (62) 98 dX9_positiveOf_96 rfl rfl ?_
        refine g_callS (mc1 := 0) (ms1 := 0) (rest := [.int (x4)]) (av := [.int (62)]) kX9_sign 101 dX9_positiveOf_98 rfl rfl mbX9_228 smX9_sign (Nat.le_of_ble_eq_true rfl) (w2) (w3) (tX9_sign  ?_)
        show Go X (d + 6) mc ms kX9_positiveOf Q 101 [(5, .long (ys0)), (0, .ref a0), (1, .int (x1)), (2, .long (y2)), (4, .int (x4))] [.int ((fX9_sign 62)), .int (x4)] M c z
        refine g_icmp_ne 114 104 dX9_positiveOf_101 rfl rfl (fun c4 => ?_) (fun c4 => ?_)
        · skip
          refine g_lload_n 3 115 dX9_positiveOf_114 rfl rfl ?_
          refine g_lload 0 117 dX9_positiveOf_115 rfl rfl ?_
          refine g_lcmp 118 dX9_positiveOf_117 rfl ?_
          refine g_if_ne 125 121 dX9_positiveOf_118 rfl rfl (fun c5 => ?_) (fun c5 => ?_)
          · skip
            refine g_iconst (0) 126 dX9_positiveOf_125 rfl rfl ?_
            exact g_zret dX9_positiveOf_126 rfl (by decide) (w2) (w3) (h5 c1 c2 c3 c4 c5)
          · skip
            refine g_iconst (1) 122 dX9_positiveOf_121 rfl rfl ?_
            refine g_goto 126 dX9_positiveOf_122 rfl ?_
            exact g_zret dX9_positiveOf_126 rfl (by decide) (w2) (w3) (h6 c1 c2 c3 c4 c5)
        · skip
          refine g_lload_n 3 105 dX9_positiveOf_104 rfl rfl ?_
          refine g_lload 0 107 dX9_positiveOf_105 rfl rfl ?_
          refine g_lcmp 108 dX9_positiveOf_107 rfl ?_
          refine g_if_le 125 111 dX9_positiveOf_108 rfl rfl (fun c6 => ?_) (fun c6 => ?_)
          · skip
            refine g_iconst (0) 126 dX9_positiveOf_125 rfl rfl ?_
            exact g_zret dX9_positiveOf_126 rfl (by decide) (w2) (w3) (h7 c1 c2 c3 c4 c6)
          · skip
            refine g_goto 121 dX9_positiveOf_111 rfl ?_
            refine g_iconst (1) 122 dX9_positiveOf_121 rfl rfl ?_
            refine g_goto 126 dX9_positiveOf_122 rfl ?_
            exact g_zret dX9_positiveOf_126 rfl (by decide) (w2) (w3) (h8 c1 c2 c3 c4 c6)
      · skip
        refine g_lload_n 3 85 dX9_positiveOf_84 rfl rfl ?_
        refine g_lload 0 87 dX9_positiveOf_85 rfl rfl ?_
        refine g_lcmp 88 dX9_positiveOf_87 rfl ?_
        refine g_if_ge 125 91 dX9_positiveOf_88 rfl rfl (fun c7 => ?_) (fun c7 => ?_)
        · skip
          refine g_iconst (0) 126 dX9_positiveOf_125 rfl rfl ?_
          exact g_zret dX9_positiveOf_126 rfl (by decide) (w2) (w3) (h9 c1 c2 c3 c7)
        · skip
          refine g_goto 121 dX9_positiveOf_91 rfl ?_
          refine g_iconst (1) 122 dX9_positiveOf_121 rfl rfl ?_
          refine g_goto 126 dX9_positiveOf_122 rfl ?_
          exact g_zret dX9_positiveOf_126 rfl (by decide) (w2) (w3) (h10 c1 c2 c3 c7)

set_option maxRecDepth 4000 in
theorem sX9_sumOf_0 {X : gX} {d mc ms : Nat} {Q : Option Value → gM → Prop} {M : gM} {a0 : Nat} {x1 : Int32} (s0 : Mo M a0) (h1 : Cn X (d + 5) 0 0 kX9_termOf [.ref a0, .int (x1)] M (fun v M1 => Go X (d + 6) mc ms kX9_sumOf Q 5 [(0, .ref a0), (1, .int (x1))] (v.toList ++ []) M1 0 0)) : Cn X (d + 6) mc ms kX9_sumOf [.ref a0, .int (x1)] M Q := by
  refine g_meth rfl rfl (Nat.le_of_ble_eq_true rfl) rfl ?_
  refine g_aload_n 0 1 dX9_sumOf_0 rfl rfl ?_
  refine g_iload_n 1 2 dX9_sumOf_1 rfl rfl ?_
  exact g_callV (mc1 := 0) (ms1 := 0) (b := a0) (rest := []) (av := [.int (x1)]) kX9_termOf 5 dX9_sumOf_2 rfl rfl mbX9_282 imX9_termOf seX9_termOf gcl9.1 s0.1 (Nat.le_of_ble_eq_true rfl) (Nat.zero_le _) (Nat.zero_le _) (h1)

set_option maxRecDepth 4000 in
theorem sX9_sumOf_5 {X : gX} {d mc ms : Nat} {Q : Option Value → gM → Prop} {M : gM} {c z : Nat} {a0 : Nat} {x1 : Int32} {ys0 : Int64} (s0 : Mo M a0) (h1 : Go X (d + 6) mc ms kX9_sumOf Q 6 [(0, .ref a0), (1, .int (x1)), (2, .long (ys0))] [] M c z) : Go X (d + 6) mc ms kX9_sumOf Q 5 [(0, .ref a0), (1, .int (x1))] [.long (ys0)] M c z := by
  refine g_lstore_n 6 [(2, .long (ys0)), (0, .ref a0), (1, .int (x1))] dX9_sumOf_5 rfl (Nat.le_of_ble_eq_true rfl) rfl ?_
  exact g_sub [1, 2, 0] _ rfl (h1)

set_option maxRecDepth 4000 in
theorem sX9_sumOf_6 {X : gX} {d mc ms : Nat} {Q : Option Value → gM → Prop} {M : gM} {c z : Nat} {a0 : Nat} {x1 : Int32} {y2 : Int64} (s0 : Mo M a0) (w1 : c ≤ mc) (w2 : z ≤ ms) (b3 : EX9_codeAt M a0 (g_mi M a0 22)) (b4 : ((fX9_codeAt M a0 (g_mi M a0 22)) = (fX9_sign 43)) → EX9_codeAt M a0 (g_mi M a0 22)) (h5 : ((fX9_codeAt M a0 (g_mi M a0 22)) = (fX9_sign 43)) → Cn X (d + 5) 0 0 kX9_termOf [.ref a0, .int (x1)] (g_wi M a0 22 ((g_mi M a0 22) + 1)) (fun v M1 => Go X (d + 6) mc ms kX9_sumOf Q 76 [(0, .ref a0), (1, .int (x1)), (2, .long (y2)), (4, .int (1))] (v.toList ++ []) M1 c z)) (b6 : (¬ (fX9_codeAt M a0 (g_mi M a0 22)) = (fX9_sign 43)) → EX9_codeAt M a0 (g_mi M a0 22)) (h7 : (¬ (fX9_codeAt M a0 (g_mi M a0 22)) = (fX9_sign 43)) → (¬ (fX9_codeAt M a0 (g_mi M a0 22)) = (fX9_sign 45)) → Q (some (.long (y2))) M) (b8 : (¬ (fX9_codeAt M a0 (g_mi M a0 22)) = (fX9_sign 43)) → ((fX9_codeAt M a0 (g_mi M a0 22)) = (fX9_sign 45)) → EX9_codeAt M a0 (g_mi M a0 22)) (h9 : (¬ (fX9_codeAt M a0 (g_mi M a0 22)) = (fX9_sign 43)) → ((fX9_codeAt M a0 (g_mi M a0 22)) = (fX9_sign 45)) → Cn X (d + 5) 0 0 kX9_termOf [.ref a0, .int (x1)] (g_wi M a0 22 ((g_mi M a0 22) + 1)) (fun v M1 => Go X (d + 6) mc ms kX9_sumOf Q 76 [(0, .ref a0), (1, .int (x1)), (2, .long (y2)), (4, .int (0))] (v.toList ++ []) M1 c z)) : Go X (d + 6) mc ms kX9_sumOf Q 6 [(0, .ref a0), (1, .int (x1)), (2, .long (y2))] [] M c z := by
  refine g_aload_n 0 7 dX9_sumOf_6 rfl rfl ?_
  refine g_aload_n 0 8 dX9_sumOf_7 rfl rfl ?_
  refine g_getI 11 dX9_sumOf_8 rfl flX9_269 s0.1 ?_
  refine g_callV (mc1 := 0) (ms1 := 0) (b := a0) (rest := []) (av := [.int ((g_mi M a0 22))]) kX9_codeAt 14 dX9_sumOf_11 rfl rfl mbX9_272 imX9_codeAt seX9_codeAt gcl9.1 s0.1 (Nat.le_of_ble_eq_true rfl) (w1) (w2) (tX9_codeAt s0 (b3) ?_)
  show Go X (d + 6) mc ms kX9_sumOf Q 14 [(0, .ref a0), (1, .int (x1)), (2, .long (y2))] [.int ((fX9_codeAt M a0 (g_mi M a0 22)))] M c z
  refine g_bipush (43) 16 dX9_sumOf_14 rfl rfl ?_
  refine g_callS (mc1 := 0) (ms1 := 0) (rest := [.int ((fX9_codeAt M a0 (g_mi M a0 22)))]) (av := [.int (43)]) kX9_sign 19 dX9_sumOf_16 rfl rfl mbX9_228 smX9_sign (Nat.le_of_ble_eq_true rfl) (w1) (w2) (tX9_sign  ?_)
  show Go X (d + 6) mc ms kX9_sumOf Q 19 [(0, .ref a0), (1, .int (x1)), (2, .long (y2))] [.int ((fX9_sign 43)), .int ((fX9_codeAt M a0 (g_mi M a0 22)))] M c z
  refine g_icmp_eq 38 22 dX9_sumOf_19 rfl rfl (fun c1 => ?_) (fun c1 => ?_)
  · skip
    refine g_aload_n 0 39 dX9_sumOf_38 rfl rfl ?_
    refine g_aload_n 0 40 dX9_sumOf_39 rfl rfl ?_
    refine g_getI 43 dX9_sumOf_40 rfl flX9_269 s0.1 ?_
    refine g_callV (mc1 := 0) (ms1 := 0) (b := a0) (rest := []) (av := [.int ((g_mi M a0 22))]) kX9_codeAt 46 dX9_sumOf_43 rfl rfl mbX9_272 imX9_codeAt seX9_codeAt gcl9.1 s0.1 (Nat.le_of_ble_eq_true rfl) (w1) (w2) (tX9_codeAt s0 (b4 c1) ?_)
    show Go X (d + 6) mc ms kX9_sumOf Q 46 [(0, .ref a0), (1, .int (x1)), (2, .long (y2))] [.int ((fX9_codeAt M a0 (g_mi M a0 22)))] M c z
    refine g_bipush (43) 48 dX9_sumOf_46 rfl rfl ?_
    refine g_callS (mc1 := 0) (ms1 := 0) (rest := [.int ((fX9_codeAt M a0 (g_mi M a0 22)))]) (av := [.int (43)]) kX9_sign 51 dX9_sumOf_48 rfl rfl mbX9_228 smX9_sign (Nat.le_of_ble_eq_true rfl) (w1) (w2) (tX9_sign  ?_)
    show Go X (d + 6) mc ms kX9_sumOf Q 51 [(0, .ref a0), (1, .int (x1)), (2, .long (y2))] [.int ((fX9_sign 43)), .int ((fX9_codeAt M a0 (g_mi M a0 22)))] M c z
    refine g_icmp_ne 58 54 dX9_sumOf_51 rfl rfl (fun q => absurd c1 q) (fun _ => ?_)
    refine g_iconst (1) 55 dX9_sumOf_54 rfl rfl ?_
    refine g_goto 59 dX9_sumOf_55 rfl ?_
    refine g_istore 61 [(4, .int (1)), (0, .ref a0), (1, .int (x1)), (2, .long (y2))] dX9_sumOf_59 rfl (Nat.le_of_ble_eq_true rfl) rfl ?_
    refine g_aload_n 1 62 dX9_sumOf_61 rfl rfl ?_
    refine g_dup 63 dX9_sumOf_62 rfl rfl ?_
    refine g_getI 66 dX9_sumOf_63 rfl flX9_269 s0.1 ?_
    refine g_iconst (1) 67 dX9_sumOf_66 rfl rfl ?_
    refine g_iadd 68 dX9_sumOf_67 rfl ?_
    refine g_putI 71 dX9_sumOf_68 rfl flX9_269 s0.1 ?_
    refine g_aload_n 1 72 dX9_sumOf_71 rfl rfl ?_
    refine g_iload_n 2 73 dX9_sumOf_72 rfl rfl ?_
    refine g_sub [1, 2, 3, 0] [(0, .ref a0), (1, .int (x1)), (2, .long (y2)), (4, .int (1))] rfl ?_
    exact g_callV (mc1 := 0) (ms1 := 0) (b := a0) (rest := []) (av := [.int (x1)]) kX9_termOf 76 dX9_sumOf_73 rfl rfl mbX9_282 imX9_termOf seX9_termOf gcl9.1 (Sm.k (Sm.wi Sm.rf) s0.1) (Nat.le_of_ble_eq_true rfl) (w1) (w2) (h5 c1)
  · skip
    refine g_aload_n 0 23 dX9_sumOf_22 rfl rfl ?_
    refine g_aload_n 0 24 dX9_sumOf_23 rfl rfl ?_
    refine g_getI 27 dX9_sumOf_24 rfl flX9_269 s0.1 ?_
    refine g_callV (mc1 := 0) (ms1 := 0) (b := a0) (rest := []) (av := [.int ((g_mi M a0 22))]) kX9_codeAt 30 dX9_sumOf_27 rfl rfl mbX9_272 imX9_codeAt seX9_codeAt gcl9.1 s0.1 (Nat.le_of_ble_eq_true rfl) (w1) (w2) (tX9_codeAt s0 (b6 c1) ?_)
    show Go X (d + 6) mc ms kX9_sumOf Q 30 [(0, .ref a0), (1, .int (x1)), (2, .long (y2))] [.int ((fX9_codeAt M a0 (g_mi M a0 22)))] M c z
    refine g_bipush (45) 32 dX9_sumOf_30 rfl rfl ?_
    refine g_callS (mc1 := 0) (ms1 := 0) (rest := [.int ((fX9_codeAt M a0 (g_mi M a0 22)))]) (av := [.int (45)]) kX9_sign 35 dX9_sumOf_32 rfl rfl mbX9_228 smX9_sign (Nat.le_of_ble_eq_true rfl) (w1) (w2) (tX9_sign  ?_)
    show Go X (d + 6) mc ms kX9_sumOf Q 35 [(0, .ref a0), (1, .int (x1)), (2, .long (y2))] [.int ((fX9_sign 45)), .int ((fX9_codeAt M a0 (g_mi M a0 22)))] M c z
    refine g_icmp_ne 103 38 dX9_sumOf_35 rfl rfl (fun c2 => ?_) (fun c2 => ?_)
    · skip
      refine g_lload_n 2 104 dX9_sumOf_103 rfl rfl ?_
      exact g_lret dX9_sumOf_104 rfl (w1) (w2) (h7 c1 c2)
    · skip
      refine g_aload_n 0 39 dX9_sumOf_38 rfl rfl ?_
      refine g_aload_n 0 40 dX9_sumOf_39 rfl rfl ?_
      refine g_getI 43 dX9_sumOf_40 rfl flX9_269 s0.1 ?_
      refine g_callV (mc1 := 0) (ms1 := 0) (b := a0) (rest := []) (av := [.int ((g_mi M a0 22))]) kX9_codeAt 46 dX9_sumOf_43 rfl rfl mbX9_272 imX9_codeAt seX9_codeAt gcl9.1 s0.1 (Nat.le_of_ble_eq_true rfl) (w1) (w2) (tX9_codeAt s0 (b8 c1 c2) ?_)
      show Go X (d + 6) mc ms kX9_sumOf Q 46 [(0, .ref a0), (1, .int (x1)), (2, .long (y2))] [.int ((fX9_codeAt M a0 (g_mi M a0 22)))] M c z
      refine g_bipush (43) 48 dX9_sumOf_46 rfl rfl ?_
      refine g_callS (mc1 := 0) (ms1 := 0) (rest := [.int ((fX9_codeAt M a0 (g_mi M a0 22)))]) (av := [.int (43)]) kX9_sign 51 dX9_sumOf_48 rfl rfl mbX9_228 smX9_sign (Nat.le_of_ble_eq_true rfl) (w1) (w2) (tX9_sign  ?_)
      show Go X (d + 6) mc ms kX9_sumOf Q 51 [(0, .ref a0), (1, .int (x1)), (2, .long (y2))] [.int ((fX9_sign 43)), .int ((fX9_codeAt M a0 (g_mi M a0 22)))] M c z
      refine g_icmp_ne 58 54 dX9_sumOf_51 rfl rfl (fun _ => ?_) (fun q => absurd q c1)
      refine g_iconst (0) 59 dX9_sumOf_58 rfl rfl ?_
      refine g_istore 61 [(4, .int (0)), (0, .ref a0), (1, .int (x1)), (2, .long (y2))] dX9_sumOf_59 rfl (Nat.le_of_ble_eq_true rfl) rfl ?_
      refine g_aload_n 1 62 dX9_sumOf_61 rfl rfl ?_
      refine g_dup 63 dX9_sumOf_62 rfl rfl ?_
      refine g_getI 66 dX9_sumOf_63 rfl flX9_269 s0.1 ?_
      refine g_iconst (1) 67 dX9_sumOf_66 rfl rfl ?_
      refine g_iadd 68 dX9_sumOf_67 rfl ?_
      refine g_putI 71 dX9_sumOf_68 rfl flX9_269 s0.1 ?_
      refine g_aload_n 1 72 dX9_sumOf_71 rfl rfl ?_
      refine g_iload_n 2 73 dX9_sumOf_72 rfl rfl ?_
      refine g_sub [1, 2, 3, 0] [(0, .ref a0), (1, .int (x1)), (2, .long (y2)), (4, .int (0))] rfl ?_
      exact g_callV (mc1 := 0) (ms1 := 0) (b := a0) (rest := []) (av := [.int (x1)]) kX9_termOf 76 dX9_sumOf_73 rfl rfl mbX9_282 imX9_termOf seX9_termOf gcl9.1 (Sm.k (Sm.wi Sm.rf) s0.1) (Nat.le_of_ble_eq_true rfl) (w1) (w2) (h9 c1 c2)

set_option maxRecDepth 4000 in
theorem sX9_sumOf_76 {X : gX} {d mc ms : Nat} {Q : Option Value → gM → Prop} {M : gM} {c z : Nat} {a0 : Nat} {x1 : Int32} {y2 : Int64} {x4 : Int32} {ys0 : Int64} (s0 : Mo M a0) (w1 : c ≤ mc) (w2 : z ≤ ms) (h3 : (x4 = 0) → Go X (d + 6) mc ms kX9_sumOf Q 6 [(0, .ref a0), (1, .int (x1)), (2, .long ((fX9_bounded M a0 (y2 - ys0) x1)))] [] (mX9_bounded M a0 (y2 - ys0) x1) c z) (h4 : (¬ x4 = 0) → Go X (d + 6) mc ms kX9_sumOf Q 6 [(0, .ref a0), (1, .int (x1)), (2, .long ((fX9_bounded M a0 (y2 + ys0) x1)))] [] (mX9_bounded M a0 (y2 + ys0) x1) c z) : Go X (d + 6) mc ms kX9_sumOf Q 76 [(0, .ref a0), (1, .int (x1)), (2, .long (y2)), (4, .int (x4))] [.long (ys0)] M c z := by
  refine g_lstore 78 [(5, .long (ys0)), (0, .ref a0), (1, .int (x1)), (2, .long (y2)), (4, .int (x4))] dX9_sumOf_76 rfl (Nat.le_of_ble_eq_true rfl) rfl ?_
  refine g_aload_n 1 79 dX9_sumOf_78 rfl rfl ?_
  refine g_iload 4 81 dX9_sumOf_79 rfl rfl ?_
  refine g_if_eq 91 84 dX9_sumOf_81 rfl rfl (fun c1 => ?_) (fun c1 => ?_)
  · skip
    refine g_lload_n 3 92 dX9_sumOf_91 rfl rfl ?_
    refine g_lload 0 94 dX9_sumOf_92 rfl rfl ?_
    refine g_lsub 95 dX9_sumOf_94 rfl ?_
    refine g_iload_n 2 96 dX9_sumOf_95 rfl rfl ?_
    refine g_callV (mc1 := 0) (ms1 := 0) (b := a0) (rest := []) (av := [.long ((y2 - ys0)), .int (x1)]) kX9_bounded 99 dX9_sumOf_96 rfl rfl mbX9_286 imX9_bounded seX9_bounded gcl9.1 s0.1 (Nat.le_of_ble_eq_true rfl) (w1) (w2) (tX9_bounded s0 ?_)
    show Go X (d + 6) mc ms kX9_sumOf Q 99 [(5, .long (ys0)), (0, .ref a0), (1, .int (x1)), (2, .long (y2)), (4, .int (x4))] [.long ((fX9_bounded M a0 (y2 - ys0) x1))] (mX9_bounded M a0 (y2 - ys0) x1) c z
    refine g_lstore_n 100 [(2, .long ((fX9_bounded M a0 (y2 - ys0) x1))), (5, .long (ys0)), (0, .ref a0), (1, .int (x1)), (4, .int (x4))] dX9_sumOf_99 rfl (Nat.le_of_ble_eq_true rfl) rfl ?_
    refine g_goto 6 dX9_sumOf_100 rfl ?_
    exact g_sub [2, 3, 0] _ rfl (h3 c1)
  · skip
    refine g_lload_n 3 85 dX9_sumOf_84 rfl rfl ?_
    refine g_lload 0 87 dX9_sumOf_85 rfl rfl ?_
    refine g_ladd 88 dX9_sumOf_87 rfl ?_
    refine g_goto 95 dX9_sumOf_88 rfl ?_
    refine g_iload_n 2 96 dX9_sumOf_95 rfl rfl ?_
    refine g_callV (mc1 := 0) (ms1 := 0) (b := a0) (rest := []) (av := [.long ((y2 + ys0)), .int (x1)]) kX9_bounded 99 dX9_sumOf_96 rfl rfl mbX9_286 imX9_bounded seX9_bounded gcl9.1 s0.1 (Nat.le_of_ble_eq_true rfl) (w1) (w2) (tX9_bounded s0 ?_)
    show Go X (d + 6) mc ms kX9_sumOf Q 99 [(5, .long (ys0)), (0, .ref a0), (1, .int (x1)), (2, .long (y2)), (4, .int (x4))] [.long ((fX9_bounded M a0 (y2 + ys0) x1))] (mX9_bounded M a0 (y2 + ys0) x1) c z
    refine g_lstore_n 100 [(2, .long ((fX9_bounded M a0 (y2 + ys0) x1))), (5, .long (ys0)), (0, .ref a0), (1, .int (x1)), (4, .int (x4))] dX9_sumOf_99 rfl (Nat.le_of_ble_eq_true rfl) rfl ?_
    refine g_goto 6 dX9_sumOf_100 rfl ?_
    exact g_sub [2, 3, 0] _ rfl (h4 c1)

set_option maxRecDepth 4000 in
theorem sX9_termOf_0 {X : gX} {d mc ms : Nat} {Q : Option Value → gM → Prop} {M : gM} {a0 : Nat} {x1 : Int32} (s0 : Mo M a0) (h1 : Cn X (d + 5) 0 0 kX9_partOf [.ref a0, .int (x1)] M (fun v M1 => Go X (d + 6) mc ms kX9_termOf Q 5 [(0, .ref a0), (1, .int (x1))] (v.toList ++ []) M1 0 0)) : Cn X (d + 6) mc ms kX9_termOf [.ref a0, .int (x1)] M Q := by
  refine g_meth rfl rfl (Nat.le_of_ble_eq_true rfl) rfl ?_
  refine g_aload_n 0 1 dX9_termOf_0 rfl rfl ?_
  refine g_iload_n 1 2 dX9_termOf_1 rfl rfl ?_
  exact g_callV (mc1 := 0) (ms1 := 0) (b := a0) (rest := []) (av := [.int (x1)]) kX9_partOf 5 dX9_termOf_2 rfl rfl mbX9_290 imX9_partOf seX9_partOf gcl9.1 s0.1 (Nat.le_of_ble_eq_true rfl) (Nat.zero_le _) (Nat.zero_le _) (h1)

set_option maxRecDepth 4000 in
theorem sX9_termOf_5 {X : gX} {d mc ms : Nat} {Q : Option Value → gM → Prop} {M : gM} {c z : Nat} {a0 : Nat} {x1 : Int32} {ys0 : Int64} (s0 : Mo M a0) (h1 : Go X (d + 6) mc ms kX9_termOf Q 6 [(0, .ref a0), (1, .int (x1)), (2, .long (ys0))] [] M c z) : Go X (d + 6) mc ms kX9_termOf Q 5 [(0, .ref a0), (1, .int (x1))] [.long (ys0)] M c z := by
  refine g_lstore_n 6 [(2, .long (ys0)), (0, .ref a0), (1, .int (x1))] dX9_termOf_5 rfl (Nat.le_of_ble_eq_true rfl) rfl ?_
  exact g_sub [1, 2, 0] _ rfl (h1)

set_option maxRecDepth 4000 in
theorem sX9_termOf_6 {X : gX} {d mc ms : Nat} {Q : Option Value → gM → Prop} {M : gM} {c z : Nat} {a0 : Nat} {x1 : Int32} {y2 : Int64} (s0 : Mo M a0) (w1 : c ≤ mc) (w2 : z ≤ ms) (b3 : EX9_codeAt M a0 (g_mi M a0 22)) (b4 : ((fX9_codeAt M a0 (g_mi M a0 22)) = (fX9_sign 42)) → EX9_codeAt M a0 (g_mi M a0 22)) (h5 : ((fX9_codeAt M a0 (g_mi M a0 22)) = (fX9_sign 42)) → Cn X (d + 5) 0 0 kX9_partOf [.ref a0, .int (x1)] (g_wi M a0 22 ((g_mi M a0 22) + 1)) (fun v M1 => Go X (d + 6) mc ms kX9_termOf Q 79 [(0, .ref a0), (1, .int (x1)), (2, .long (y2)), (4, .int ((fX9_codeAt M a0 (g_mi M a0 22))))] (v.toList ++ []) M1 c z)) (b6 : (¬ (fX9_codeAt M a0 (g_mi M a0 22)) = (fX9_sign 42)) → EX9_codeAt M a0 (g_mi M a0 22)) (b7 : (¬ (fX9_codeAt M a0 (g_mi M a0 22)) = (fX9_sign 42)) → ((fX9_codeAt M a0 (g_mi M a0 22)) = (fX9_sign 47)) → EX9_codeAt M a0 (g_mi M a0 22)) (h8 : (¬ (fX9_codeAt M a0 (g_mi M a0 22)) = (fX9_sign 42)) → ((fX9_codeAt M a0 (g_mi M a0 22)) = (fX9_sign 47)) → Cn X (d + 5) 0 0 kX9_partOf [.ref a0, .int (x1)] (g_wi M a0 22 ((g_mi M a0 22) + 1)) (fun v M1 => Go X (d + 6) mc ms kX9_termOf Q 79 [(0, .ref a0), (1, .int (x1)), (2, .long (y2)), (4, .int ((fX9_codeAt M a0 (g_mi M a0 22))))] (v.toList ++ []) M1 c z)) (b9 : (¬ (fX9_codeAt M a0 (g_mi M a0 22)) = (fX9_sign 42)) → (¬ (fX9_codeAt M a0 (g_mi M a0 22)) = (fX9_sign 47)) → EX9_codeAt M a0 (g_mi M a0 22)) (h10 : (¬ (fX9_codeAt M a0 (g_mi M a0 22)) = (fX9_sign 42)) → (¬ (fX9_codeAt M a0 (g_mi M a0 22)) = (fX9_sign 47)) → (¬ (fX9_codeAt M a0 (g_mi M a0 22)) = (fX9_sign 37)) → Q (some (.long (y2))) M) (b11 : (¬ (fX9_codeAt M a0 (g_mi M a0 22)) = (fX9_sign 42)) → (¬ (fX9_codeAt M a0 (g_mi M a0 22)) = (fX9_sign 47)) → ((fX9_codeAt M a0 (g_mi M a0 22)) = (fX9_sign 37)) → EX9_codeAt M a0 (g_mi M a0 22)) (h12 : (¬ (fX9_codeAt M a0 (g_mi M a0 22)) = (fX9_sign 42)) → (¬ (fX9_codeAt M a0 (g_mi M a0 22)) = (fX9_sign 47)) → ((fX9_codeAt M a0 (g_mi M a0 22)) = (fX9_sign 37)) → Cn X (d + 5) 0 0 kX9_partOf [.ref a0, .int (x1)] (g_wi M a0 22 ((g_mi M a0 22) + 1)) (fun v M1 => Go X (d + 6) mc ms kX9_termOf Q 79 [(0, .ref a0), (1, .int (x1)), (2, .long (y2)), (4, .int ((fX9_codeAt M a0 (g_mi M a0 22))))] (v.toList ++ []) M1 c z)) : Go X (d + 6) mc ms kX9_termOf Q 6 [(0, .ref a0), (1, .int (x1)), (2, .long (y2))] [] M c z := by
  refine g_aload_n 0 7 dX9_termOf_6 rfl rfl ?_
  refine g_aload_n 0 8 dX9_termOf_7 rfl rfl ?_
  refine g_getI 11 dX9_termOf_8 rfl flX9_269 s0.1 ?_
  refine g_callV (mc1 := 0) (ms1 := 0) (b := a0) (rest := []) (av := [.int ((g_mi M a0 22))]) kX9_codeAt 14 dX9_termOf_11 rfl rfl mbX9_272 imX9_codeAt seX9_codeAt gcl9.1 s0.1 (Nat.le_of_ble_eq_true rfl) (w1) (w2) (tX9_codeAt s0 (b3) ?_)
  show Go X (d + 6) mc ms kX9_termOf Q 14 [(0, .ref a0), (1, .int (x1)), (2, .long (y2))] [.int ((fX9_codeAt M a0 (g_mi M a0 22)))] M c z
  refine g_bipush (42) 16 dX9_termOf_14 rfl rfl ?_
  refine g_callS (mc1 := 0) (ms1 := 0) (rest := [.int ((fX9_codeAt M a0 (g_mi M a0 22)))]) (av := [.int (42)]) kX9_sign 19 dX9_termOf_16 rfl rfl mbX9_228 smX9_sign (Nat.le_of_ble_eq_true rfl) (w1) (w2) (tX9_sign  ?_)
  show Go X (d + 6) mc ms kX9_termOf Q 19 [(0, .ref a0), (1, .int (x1)), (2, .long (y2))] [.int ((fX9_sign 42)), .int ((fX9_codeAt M a0 (g_mi M a0 22)))] M c z
  refine g_icmp_eq 54 22 dX9_termOf_19 rfl rfl (fun c1 => ?_) (fun c1 => ?_)
  · skip
    refine g_aload_n 0 55 dX9_termOf_54 rfl rfl ?_
    refine g_aload_n 0 56 dX9_termOf_55 rfl rfl ?_
    refine g_getI 59 dX9_termOf_56 rfl flX9_269 s0.1 ?_
    refine g_callV (mc1 := 0) (ms1 := 0) (b := a0) (rest := []) (av := [.int ((g_mi M a0 22))]) kX9_codeAt 62 dX9_termOf_59 rfl rfl mbX9_272 imX9_codeAt seX9_codeAt gcl9.1 s0.1 (Nat.le_of_ble_eq_true rfl) (w1) (w2) (tX9_codeAt s0 (b4 c1) ?_)
    show Go X (d + 6) mc ms kX9_termOf Q 62 [(0, .ref a0), (1, .int (x1)), (2, .long (y2))] [.int ((fX9_codeAt M a0 (g_mi M a0 22)))] M c z
    refine g_istore 64 [(4, .int ((fX9_codeAt M a0 (g_mi M a0 22)))), (0, .ref a0), (1, .int (x1)), (2, .long (y2))] dX9_termOf_62 rfl (Nat.le_of_ble_eq_true rfl) rfl ?_
    refine g_aload_n 1 65 dX9_termOf_64 rfl rfl ?_
    refine g_dup 66 dX9_termOf_65 rfl rfl ?_
    refine g_getI 69 dX9_termOf_66 rfl flX9_269 s0.1 ?_
    refine g_iconst (1) 70 dX9_termOf_69 rfl rfl ?_
    refine g_iadd 71 dX9_termOf_70 rfl ?_
    refine g_putI 74 dX9_termOf_71 rfl flX9_269 s0.1 ?_
    refine g_aload_n 1 75 dX9_termOf_74 rfl rfl ?_
    refine g_iload_n 2 76 dX9_termOf_75 rfl rfl ?_
    refine g_sub [1, 2, 3, 0] [(0, .ref a0), (1, .int (x1)), (2, .long (y2)), (4, .int ((fX9_codeAt M a0 (g_mi M a0 22))))] rfl ?_
    exact g_callV (mc1 := 0) (ms1 := 0) (b := a0) (rest := []) (av := [.int (x1)]) kX9_partOf 79 dX9_termOf_76 rfl rfl mbX9_290 imX9_partOf seX9_partOf gcl9.1 (Sm.k (Sm.wi Sm.rf) s0.1) (Nat.le_of_ble_eq_true rfl) (w1) (w2) (h5 c1)
  · skip
    refine g_aload_n 0 23 dX9_termOf_22 rfl rfl ?_
    refine g_aload_n 0 24 dX9_termOf_23 rfl rfl ?_
    refine g_getI 27 dX9_termOf_24 rfl flX9_269 s0.1 ?_
    refine g_callV (mc1 := 0) (ms1 := 0) (b := a0) (rest := []) (av := [.int ((g_mi M a0 22))]) kX9_codeAt 30 dX9_termOf_27 rfl rfl mbX9_272 imX9_codeAt seX9_codeAt gcl9.1 s0.1 (Nat.le_of_ble_eq_true rfl) (w1) (w2) (tX9_codeAt s0 (b6 c1) ?_)
    show Go X (d + 6) mc ms kX9_termOf Q 30 [(0, .ref a0), (1, .int (x1)), (2, .long (y2))] [.int ((fX9_codeAt M a0 (g_mi M a0 22)))] M c z
    refine g_bipush (47) 32 dX9_termOf_30 rfl rfl ?_
    refine g_callS (mc1 := 0) (ms1 := 0) (rest := [.int ((fX9_codeAt M a0 (g_mi M a0 22)))]) (av := [.int (47)]) kX9_sign 35 dX9_termOf_32 rfl rfl mbX9_228 smX9_sign (Nat.le_of_ble_eq_true rfl) (w1) (w2) (tX9_sign  ?_)
    show Go X (d + 6) mc ms kX9_termOf Q 35 [(0, .ref a0), (1, .int (x1)), (2, .long (y2))] [.int ((fX9_sign 47)), .int ((fX9_codeAt M a0 (g_mi M a0 22)))] M c z
    refine g_icmp_eq 54 38 dX9_termOf_35 rfl rfl (fun c2 => ?_) (fun c2 => ?_)
    · skip
      refine g_aload_n 0 55 dX9_termOf_54 rfl rfl ?_
      refine g_aload_n 0 56 dX9_termOf_55 rfl rfl ?_
      refine g_getI 59 dX9_termOf_56 rfl flX9_269 s0.1 ?_
      refine g_callV (mc1 := 0) (ms1 := 0) (b := a0) (rest := []) (av := [.int ((g_mi M a0 22))]) kX9_codeAt 62 dX9_termOf_59 rfl rfl mbX9_272 imX9_codeAt seX9_codeAt gcl9.1 s0.1 (Nat.le_of_ble_eq_true rfl) (w1) (w2) (tX9_codeAt s0 (b7 c1 c2) ?_)
      show Go X (d + 6) mc ms kX9_termOf Q 62 [(0, .ref a0), (1, .int (x1)), (2, .long (y2))] [.int ((fX9_codeAt M a0 (g_mi M a0 22)))] M c z
      refine g_istore 64 [(4, .int ((fX9_codeAt M a0 (g_mi M a0 22)))), (0, .ref a0), (1, .int (x1)), (2, .long (y2))] dX9_termOf_62 rfl (Nat.le_of_ble_eq_true rfl) rfl ?_
      refine g_aload_n 1 65 dX9_termOf_64 rfl rfl ?_
      refine g_dup 66 dX9_termOf_65 rfl rfl ?_
      refine g_getI 69 dX9_termOf_66 rfl flX9_269 s0.1 ?_
      refine g_iconst (1) 70 dX9_termOf_69 rfl rfl ?_
      refine g_iadd 71 dX9_termOf_70 rfl ?_
      refine g_putI 74 dX9_termOf_71 rfl flX9_269 s0.1 ?_
      refine g_aload_n 1 75 dX9_termOf_74 rfl rfl ?_
      refine g_iload_n 2 76 dX9_termOf_75 rfl rfl ?_
      refine g_sub [1, 2, 3, 0] [(0, .ref a0), (1, .int (x1)), (2, .long (y2)), (4, .int ((fX9_codeAt M a0 (g_mi M a0 22))))] rfl ?_
      exact g_callV (mc1 := 0) (ms1 := 0) (b := a0) (rest := []) (av := [.int (x1)]) kX9_partOf 79 dX9_termOf_76 rfl rfl mbX9_290 imX9_partOf seX9_partOf gcl9.1 (Sm.k (Sm.wi Sm.rf) s0.1) (Nat.le_of_ble_eq_true rfl) (w1) (w2) (h8 c1 c2)
    · skip
      refine g_aload_n 0 39 dX9_termOf_38 rfl rfl ?_
      refine g_aload_n 0 40 dX9_termOf_39 rfl rfl ?_
      refine g_getI 43 dX9_termOf_40 rfl flX9_269 s0.1 ?_
      refine g_callV (mc1 := 0) (ms1 := 0) (b := a0) (rest := []) (av := [.int ((g_mi M a0 22))]) kX9_codeAt 46 dX9_termOf_43 rfl rfl mbX9_272 imX9_codeAt seX9_codeAt gcl9.1 s0.1 (Nat.le_of_ble_eq_true rfl) (w1) (w2) (tX9_codeAt s0 (b9 c1 c2) ?_)
      show Go X (d + 6) mc ms kX9_termOf Q 46 [(0, .ref a0), (1, .int (x1)), (2, .long (y2))] [.int ((fX9_codeAt M a0 (g_mi M a0 22)))] M c z
      refine g_bipush (37) 48 dX9_termOf_46 rfl rfl ?_
      refine g_callS (mc1 := 0) (ms1 := 0) (rest := [.int ((fX9_codeAt M a0 (g_mi M a0 22)))]) (av := [.int (37)]) kX9_sign 51 dX9_termOf_48 rfl rfl mbX9_228 smX9_sign (Nat.le_of_ble_eq_true rfl) (w1) (w2) (tX9_sign  ?_)
      show Go X (d + 6) mc ms kX9_termOf Q 51 [(0, .ref a0), (1, .int (x1)), (2, .long (y2))] [.int ((fX9_sign 37)), .int ((fX9_codeAt M a0 (g_mi M a0 22)))] M c z
      refine g_icmp_ne 168 54 dX9_termOf_51 rfl rfl (fun c3 => ?_) (fun c3 => ?_)
      · skip
        refine g_lload_n 2 169 dX9_termOf_168 rfl rfl ?_
        exact g_lret dX9_termOf_169 rfl (w1) (w2) (h10 c1 c2 c3)
      · skip
        refine g_aload_n 0 55 dX9_termOf_54 rfl rfl ?_
        refine g_aload_n 0 56 dX9_termOf_55 rfl rfl ?_
        refine g_getI 59 dX9_termOf_56 rfl flX9_269 s0.1 ?_
        refine g_callV (mc1 := 0) (ms1 := 0) (b := a0) (rest := []) (av := [.int ((g_mi M a0 22))]) kX9_codeAt 62 dX9_termOf_59 rfl rfl mbX9_272 imX9_codeAt seX9_codeAt gcl9.1 s0.1 (Nat.le_of_ble_eq_true rfl) (w1) (w2) (tX9_codeAt s0 (b11 c1 c2 c3) ?_)
        show Go X (d + 6) mc ms kX9_termOf Q 62 [(0, .ref a0), (1, .int (x1)), (2, .long (y2))] [.int ((fX9_codeAt M a0 (g_mi M a0 22)))] M c z
        refine g_istore 64 [(4, .int ((fX9_codeAt M a0 (g_mi M a0 22)))), (0, .ref a0), (1, .int (x1)), (2, .long (y2))] dX9_termOf_62 rfl (Nat.le_of_ble_eq_true rfl) rfl ?_
        refine g_aload_n 1 65 dX9_termOf_64 rfl rfl ?_
        refine g_dup 66 dX9_termOf_65 rfl rfl ?_
        refine g_getI 69 dX9_termOf_66 rfl flX9_269 s0.1 ?_
        refine g_iconst (1) 70 dX9_termOf_69 rfl rfl ?_
        refine g_iadd 71 dX9_termOf_70 rfl ?_
        refine g_putI 74 dX9_termOf_71 rfl flX9_269 s0.1 ?_
        refine g_aload_n 1 75 dX9_termOf_74 rfl rfl ?_
        refine g_iload_n 2 76 dX9_termOf_75 rfl rfl ?_
        refine g_sub [1, 2, 3, 0] [(0, .ref a0), (1, .int (x1)), (2, .long (y2)), (4, .int ((fX9_codeAt M a0 (g_mi M a0 22))))] rfl ?_
        exact g_callV (mc1 := 0) (ms1 := 0) (b := a0) (rest := []) (av := [.int (x1)]) kX9_partOf 79 dX9_termOf_76 rfl rfl mbX9_290 imX9_partOf seX9_partOf gcl9.1 (Sm.k (Sm.wi Sm.rf) s0.1) (Nat.le_of_ble_eq_true rfl) (w1) (w2) (h12 c1 c2 c3)

set_option maxRecDepth 4000 in
theorem sX9_termOf_79 {X : gX} {d mc ms : Nat} {Q : Option Value → gM → Prop} {M : gM} {c z : Nat} {a0 : Nat} {x1 : Int32} {y2 : Int64} {x4 : Int32} {ys0 : Int64} (s0 : Mo M a0) (w1 : c ≤ mc) (w2 : z ≤ ms) (h3 : (x4 = (fX9_sign 42)) → Go X (d + 6) mc ms kX9_termOf Q 6 [(0, .ref a0), (1, .int (x1)), (2, .long ((fX9_bounded M a0 (y2 * ys0) x1)))] [] (mX9_bounded M a0 (y2 * ys0) x1) c z) (b4 : (¬ x4 = (fX9_sign 42)) → (¬ (lg_cmp ys0 0) = 0) → (¬ x4 = (fX9_sign 47)) → ¬ (ys0 : Int64) = 0) (h5 : (¬ x4 = (fX9_sign 42)) → (¬ (lg_cmp ys0 0) = 0) → (¬ x4 = (fX9_sign 47)) → Go X (d + 6) mc ms kX9_termOf Q 6 [(0, .ref a0), (1, .int (x1)), (2, .long ((fX9_bounded M a0 (l_rm y2 ys0) x1)))] [] (mX9_bounded M a0 (l_rm y2 ys0) x1) c z) (b6 : (¬ x4 = (fX9_sign 42)) → (¬ (lg_cmp ys0 0) = 0) → (x4 = (fX9_sign 47)) → ¬ (ys0 : Int64) = 0) (h7 : (¬ x4 = (fX9_sign 42)) → (¬ (lg_cmp ys0 0) = 0) → (x4 = (fX9_sign 47)) → Go X (d + 6) mc ms kX9_termOf Q 6 [(0, .ref a0), (1, .int (x1)), (2, .long ((fX9_bounded M a0 (y2 / ys0) x1)))] [] (mX9_bounded M a0 (y2 / ys0) x1) c z) (h8 : (¬ x4 = (fX9_sign 42)) → ((lg_cmp ys0 0) = 0) → (¬ (g_mi M a0 24) = 0) → (¬ x4 = (fX9_sign 47)) → Go X (d + 6) mc ms kX9_termOf Q 6 [(0, .ref a0), (1, .int (x1)), (2, .long ((fX9_bounded (g_wi M a0 24 1) a0 (l_rm y2 1) x1)))] [] (mX9_bounded (g_wi M a0 24 1) a0 (l_rm y2 1) x1) c z) (h9 : (¬ x4 = (fX9_sign 42)) → ((lg_cmp ys0 0) = 0) → (¬ (g_mi M a0 24) = 0) → (x4 = (fX9_sign 47)) → Go X (d + 6) mc ms kX9_termOf Q 6 [(0, .ref a0), (1, .int (x1)), (2, .long ((fX9_bounded (g_wi M a0 24 1) a0 (y2 / 1) x1)))] [] (mX9_bounded (g_wi M a0 24 1) a0 (y2 / 1) x1) c z) (h10 : (¬ x4 = (fX9_sign 42)) → ((lg_cmp ys0 0) = 0) → ((g_mi M a0 24) = 0) → (x1 = 0) → (¬ x4 = (fX9_sign 47)) → Go X (d + 6) mc ms kX9_termOf Q 6 [(0, .ref a0), (1, .int (x1)), (2, .long ((fX9_bounded (g_wi M a0 24 0) a0 (l_rm y2 1) x1)))] [] (mX9_bounded (g_wi M a0 24 0) a0 (l_rm y2 1) x1) c z) (h11 : (¬ x4 = (fX9_sign 42)) → ((lg_cmp ys0 0) = 0) → ((g_mi M a0 24) = 0) → (x1 = 0) → (x4 = (fX9_sign 47)) → Go X (d + 6) mc ms kX9_termOf Q 6 [(0, .ref a0), (1, .int (x1)), (2, .long ((fX9_bounded (g_wi M a0 24 0) a0 (y2 / 1) x1)))] [] (mX9_bounded (g_wi M a0 24 0) a0 (y2 / 1) x1) c z) (h12 : (¬ x4 = (fX9_sign 42)) → ((lg_cmp ys0 0) = 0) → ((g_mi M a0 24) = 0) → (¬ x1 = 0) → (¬ x4 = (fX9_sign 47)) → Go X (d + 6) mc ms kX9_termOf Q 6 [(0, .ref a0), (1, .int (x1)), (2, .long ((fX9_bounded (g_wi M a0 24 1) a0 (l_rm y2 1) x1)))] [] (mX9_bounded (g_wi M a0 24 1) a0 (l_rm y2 1) x1) c z) (h13 : (¬ x4 = (fX9_sign 42)) → ((lg_cmp ys0 0) = 0) → ((g_mi M a0 24) = 0) → (¬ x1 = 0) → (x4 = (fX9_sign 47)) → Go X (d + 6) mc ms kX9_termOf Q 6 [(0, .ref a0), (1, .int (x1)), (2, .long ((fX9_bounded (g_wi M a0 24 1) a0 (y2 / 1) x1)))] [] (mX9_bounded (g_wi M a0 24 1) a0 (y2 / 1) x1) c z) : Go X (d + 6) mc ms kX9_termOf Q 79 [(0, .ref a0), (1, .int (x1)), (2, .long (y2)), (4, .int (x4))] [.long (ys0)] M c z := by
  refine g_lstore 81 [(5, .long (ys0)), (0, .ref a0), (1, .int (x1)), (2, .long (y2)), (4, .int (x4))] dX9_termOf_79 rfl (Nat.le_of_ble_eq_true rfl) rfl ?_
  refine g_iload 4 83 dX9_termOf_81 rfl rfl ?_
  refine g_bipush (42) 85 dX9_termOf_83 rfl rfl ?_
  refine g_callS (mc1 := 0) (ms1 := 0) (rest := [.int (x4)]) (av := [.int (42)]) kX9_sign 88 dX9_termOf_85 rfl rfl mbX9_228 smX9_sign (Nat.le_of_ble_eq_true rfl) (w1) (w2) (tX9_sign  ?_)
  show Go X (d + 6) mc ms kX9_termOf Q 88 [(5, .long (ys0)), (0, .ref a0), (1, .int (x1)), (2, .long (y2)), (4, .int (x4))] [.int ((fX9_sign 42)), .int (x4)] M c z
  refine g_icmp_eq 121 91 dX9_termOf_88 rfl rfl (fun c1 => ?_) (fun c1 => ?_)
  · skip
    refine g_aload_n 1 122 dX9_termOf_121 rfl rfl ?_
    refine g_iload 4 124 dX9_termOf_122 rfl rfl ?_
    refine g_bipush (42) 126 dX9_termOf_124 rfl rfl ?_
    refine g_callS (mc1 := 0) (ms1 := 0) (rest := [.int (x4), .ref a0]) (av := [.int (42)]) kX9_sign 129 dX9_termOf_126 rfl rfl mbX9_228 smX9_sign (Nat.le_of_ble_eq_true rfl) (w1) (w2) (tX9_sign  ?_)
    show Go X (d + 6) mc ms kX9_termOf Q 129 [(5, .long (ys0)), (0, .ref a0), (1, .int (x1)), (2, .long (y2)), (4, .int (x4))] [.int ((fX9_sign 42)), .int (x4), .ref a0] M c z
    refine g_icmp_ne 139 132 dX9_termOf_129 rfl rfl (fun q => absurd c1 q) (fun _ => ?_)
    refine g_lload_n 3 133 dX9_termOf_132 rfl rfl ?_
    refine g_lload 0 135 dX9_termOf_133 rfl rfl ?_
    refine g_lmul 136 dX9_termOf_135 rfl ?_
    refine g_goto 160 dX9_termOf_136 rfl ?_
    refine g_iload_n 2 161 dX9_termOf_160 rfl rfl ?_
    refine g_callV (mc1 := 0) (ms1 := 0) (b := a0) (rest := []) (av := [.long ((y2 * ys0)), .int (x1)]) kX9_bounded 164 dX9_termOf_161 rfl rfl mbX9_286 imX9_bounded seX9_bounded gcl9.1 s0.1 (Nat.le_of_ble_eq_true rfl) (w1) (w2) (tX9_bounded s0 ?_)
    show Go X (d + 6) mc ms kX9_termOf Q 164 [(5, .long (ys0)), (0, .ref a0), (1, .int (x1)), (2, .long (y2)), (4, .int (x4))] [.long ((fX9_bounded M a0 (y2 * ys0) x1))] (mX9_bounded M a0 (y2 * ys0) x1) c z
    refine g_lstore_n 165 [(2, .long ((fX9_bounded M a0 (y2 * ys0) x1))), (5, .long (ys0)), (0, .ref a0), (1, .int (x1)), (4, .int (x4))] dX9_termOf_164 rfl (Nat.le_of_ble_eq_true rfl) rfl ?_
    refine g_goto 6 dX9_termOf_165 rfl ?_
    exact g_sub [2, 3, 0] _ rfl (h3 c1)
  · skip
    refine g_lload 0 93 dX9_termOf_91 rfl rfl ?_
    refine g_lconst (0) 94 dX9_termOf_93 rfl rfl ?_
    refine g_lcmp 95 dX9_termOf_94 rfl ?_
    refine g_if_ne 121 98 dX9_termOf_95 rfl rfl (fun c2 => ?_) (fun c2 => ?_)
    · skip
      refine g_aload_n 1 122 dX9_termOf_121 rfl rfl ?_
      refine g_iload 4 124 dX9_termOf_122 rfl rfl ?_
      refine g_bipush (42) 126 dX9_termOf_124 rfl rfl ?_
      refine g_callS (mc1 := 0) (ms1 := 0) (rest := [.int (x4), .ref a0]) (av := [.int (42)]) kX9_sign 129 dX9_termOf_126 rfl rfl mbX9_228 smX9_sign (Nat.le_of_ble_eq_true rfl) (w1) (w2) (tX9_sign  ?_)
      show Go X (d + 6) mc ms kX9_termOf Q 129 [(5, .long (ys0)), (0, .ref a0), (1, .int (x1)), (2, .long (y2)), (4, .int (x4))] [.int ((fX9_sign 42)), .int (x4), .ref a0] M c z
      refine g_icmp_ne 139 132 dX9_termOf_129 rfl rfl (fun _ => ?_) (fun q => absurd q c1)
      refine g_iload 4 141 dX9_termOf_139 rfl rfl ?_
      refine g_bipush (47) 143 dX9_termOf_141 rfl rfl ?_
      refine g_callS (mc1 := 0) (ms1 := 0) (rest := [.int (x4), .ref a0]) (av := [.int (47)]) kX9_sign 146 dX9_termOf_143 rfl rfl mbX9_228 smX9_sign (Nat.le_of_ble_eq_true rfl) (w1) (w2) (tX9_sign  ?_)
      show Go X (d + 6) mc ms kX9_termOf Q 146 [(5, .long (ys0)), (0, .ref a0), (1, .int (x1)), (2, .long (y2)), (4, .int (x4))] [.int ((fX9_sign 47)), .int (x4), .ref a0] M c z
      refine g_icmp_ne 156 149 dX9_termOf_146 rfl rfl (fun c3 => ?_) (fun c3 => ?_)
      · skip
        refine g_lload_n 3 157 dX9_termOf_156 rfl rfl ?_
        refine g_lload 0 159 dX9_termOf_157 rfl rfl ?_
        refine h_lrem 160 dX9_termOf_159 rfl (b4 c1 c2 c3) ?_
        refine g_iload_n 2 161 dX9_termOf_160 rfl rfl ?_
        refine g_callV (mc1 := 0) (ms1 := 0) (b := a0) (rest := []) (av := [.long ((l_rm y2 ys0)), .int (x1)]) kX9_bounded 164 dX9_termOf_161 rfl rfl mbX9_286 imX9_bounded seX9_bounded gcl9.1 s0.1 (Nat.le_of_ble_eq_true rfl) (w1) (w2) (tX9_bounded s0 ?_)
        show Go X (d + 6) mc ms kX9_termOf Q 164 [(5, .long (ys0)), (0, .ref a0), (1, .int (x1)), (2, .long (y2)), (4, .int (x4))] [.long ((fX9_bounded M a0 (l_rm y2 ys0) x1))] (mX9_bounded M a0 (l_rm y2 ys0) x1) c z
        refine g_lstore_n 165 [(2, .long ((fX9_bounded M a0 (l_rm y2 ys0) x1))), (5, .long (ys0)), (0, .ref a0), (1, .int (x1)), (4, .int (x4))] dX9_termOf_164 rfl (Nat.le_of_ble_eq_true rfl) rfl ?_
        refine g_goto 6 dX9_termOf_165 rfl ?_
        exact g_sub [2, 3, 0] _ rfl (h5 c1 c2 c3)
      · skip
        refine g_lload_n 3 150 dX9_termOf_149 rfl rfl ?_
        refine g_lload 0 152 dX9_termOf_150 rfl rfl ?_
        refine g_ldiv 153 dX9_termOf_152 rfl (b6 c1 c2 c3) ?_
        refine g_goto 160 dX9_termOf_153 rfl ?_
        refine g_iload_n 2 161 dX9_termOf_160 rfl rfl ?_
        refine g_callV (mc1 := 0) (ms1 := 0) (b := a0) (rest := []) (av := [.long ((y2 / ys0)), .int (x1)]) kX9_bounded 164 dX9_termOf_161 rfl rfl mbX9_286 imX9_bounded seX9_bounded gcl9.1 s0.1 (Nat.le_of_ble_eq_true rfl) (w1) (w2) (tX9_bounded s0 ?_)
        show Go X (d + 6) mc ms kX9_termOf Q 164 [(5, .long (ys0)), (0, .ref a0), (1, .int (x1)), (2, .long (y2)), (4, .int (x4))] [.long ((fX9_bounded M a0 (y2 / ys0) x1))] (mX9_bounded M a0 (y2 / ys0) x1) c z
        refine g_lstore_n 165 [(2, .long ((fX9_bounded M a0 (y2 / ys0) x1))), (5, .long (ys0)), (0, .ref a0), (1, .int (x1)), (4, .int (x4))] dX9_termOf_164 rfl (Nat.le_of_ble_eq_true rfl) rfl ?_
        refine g_goto 6 dX9_termOf_165 rfl ?_
        exact g_sub [2, 3, 0] _ rfl (h7 c1 c2 c3)
    · skip
      refine g_aload_n 1 99 dX9_termOf_98 rfl rfl ?_
      refine g_aload_n 1 100 dX9_termOf_99 rfl rfl ?_
      refine g_getI 103 dX9_termOf_100 rfl flX9_279 s0.1 ?_
      refine g_if_ne 110 106 dX9_termOf_103 rfl rfl (fun c4 => ?_) (fun c4 => ?_)
      · skip
        refine g_iconst (1) 111 dX9_termOf_110 rfl rfl ?_
        refine g_goto 115 dX9_termOf_111 rfl ?_
        refine g_putZ 118 dX9_termOf_115 rfl flX9_279 s0.1 (by decide) ?_
        refine g_lconst (1) 119 dX9_termOf_118 rfl rfl ?_
        refine g_lstore 121 [(5, .long (1)), (0, .ref a0), (1, .int (x1)), (2, .long (y2)), (4, .int (x4))] dX9_termOf_119 rfl (Nat.le_of_ble_eq_true rfl) rfl ?_
        refine g_aload_n 1 122 dX9_termOf_121 rfl rfl ?_
        refine g_iload 4 124 dX9_termOf_122 rfl rfl ?_
        refine g_bipush (42) 126 dX9_termOf_124 rfl rfl ?_
        refine g_callS (mc1 := 0) (ms1 := 0) (rest := [.int (x4), .ref a0]) (av := [.int (42)]) kX9_sign 129 dX9_termOf_126 rfl rfl mbX9_228 smX9_sign (Nat.le_of_ble_eq_true rfl) (w1) (w2) (tX9_sign  ?_)
        show Go X (d + 6) mc ms kX9_termOf Q 129 [(5, .long (1)), (0, .ref a0), (1, .int (x1)), (2, .long (y2)), (4, .int (x4))] [.int ((fX9_sign 42)), .int (x4), .ref a0] (g_wi M a0 24 1) c z
        refine g_icmp_ne 139 132 dX9_termOf_129 rfl rfl (fun _ => ?_) (fun q => absurd q c1)
        refine g_iload 4 141 dX9_termOf_139 rfl rfl ?_
        refine g_bipush (47) 143 dX9_termOf_141 rfl rfl ?_
        refine g_callS (mc1 := 0) (ms1 := 0) (rest := [.int (x4), .ref a0]) (av := [.int (47)]) kX9_sign 146 dX9_termOf_143 rfl rfl mbX9_228 smX9_sign (Nat.le_of_ble_eq_true rfl) (w1) (w2) (tX9_sign  ?_)
        show Go X (d + 6) mc ms kX9_termOf Q 146 [(5, .long (1)), (0, .ref a0), (1, .int (x1)), (2, .long (y2)), (4, .int (x4))] [.int ((fX9_sign 47)), .int (x4), .ref a0] (g_wi M a0 24 1) c z
        refine g_icmp_ne 156 149 dX9_termOf_146 rfl rfl (fun c5 => ?_) (fun c5 => ?_)
        · skip
          refine g_lload_n 3 157 dX9_termOf_156 rfl rfl ?_
          refine g_lload 0 159 dX9_termOf_157 rfl rfl ?_
          refine h_lrem 160 dX9_termOf_159 rfl (by decide) ?_
          refine g_iload_n 2 161 dX9_termOf_160 rfl rfl ?_
          refine g_callV (mc1 := 0) (ms1 := 0) (b := a0) (rest := []) (av := [.long ((l_rm y2 1)), .int (x1)]) kX9_bounded 164 dX9_termOf_161 rfl rfl mbX9_286 imX9_bounded seX9_bounded gcl9.1 (Sm.k (Sm.wi Sm.rf) s0.1) (Nat.le_of_ble_eq_true rfl) (w1) (w2) (tX9_bounded (Mo.sm (Sm.wi Sm.rf) s0) ?_)
          show Go X (d + 6) mc ms kX9_termOf Q 164 [(5, .long (1)), (0, .ref a0), (1, .int (x1)), (2, .long (y2)), (4, .int (x4))] [.long ((fX9_bounded (g_wi M a0 24 1) a0 (l_rm y2 1) x1))] (mX9_bounded (g_wi M a0 24 1) a0 (l_rm y2 1) x1) c z
          refine g_lstore_n 165 [(2, .long ((fX9_bounded (g_wi M a0 24 1) a0 (l_rm y2 1) x1))), (5, .long (1)), (0, .ref a0), (1, .int (x1)), (4, .int (x4))] dX9_termOf_164 rfl (Nat.le_of_ble_eq_true rfl) rfl ?_
          refine g_goto 6 dX9_termOf_165 rfl ?_
          exact g_sub [2, 3, 0] _ rfl (h8 c1 c2 c4 c5)
        · skip
          refine g_lload_n 3 150 dX9_termOf_149 rfl rfl ?_
          refine g_lload 0 152 dX9_termOf_150 rfl rfl ?_
          refine g_ldiv 153 dX9_termOf_152 rfl (by decide) ?_
          refine g_goto 160 dX9_termOf_153 rfl ?_
          refine g_iload_n 2 161 dX9_termOf_160 rfl rfl ?_
          refine g_callV (mc1 := 0) (ms1 := 0) (b := a0) (rest := []) (av := [.long ((y2 / 1)), .int (x1)]) kX9_bounded 164 dX9_termOf_161 rfl rfl mbX9_286 imX9_bounded seX9_bounded gcl9.1 (Sm.k (Sm.wi Sm.rf) s0.1) (Nat.le_of_ble_eq_true rfl) (w1) (w2) (tX9_bounded (Mo.sm (Sm.wi Sm.rf) s0) ?_)
          show Go X (d + 6) mc ms kX9_termOf Q 164 [(5, .long (1)), (0, .ref a0), (1, .int (x1)), (2, .long (y2)), (4, .int (x4))] [.long ((fX9_bounded (g_wi M a0 24 1) a0 (y2 / 1) x1))] (mX9_bounded (g_wi M a0 24 1) a0 (y2 / 1) x1) c z
          refine g_lstore_n 165 [(2, .long ((fX9_bounded (g_wi M a0 24 1) a0 (y2 / 1) x1))), (5, .long (1)), (0, .ref a0), (1, .int (x1)), (4, .int (x4))] dX9_termOf_164 rfl (Nat.le_of_ble_eq_true rfl) rfl ?_
          refine g_goto 6 dX9_termOf_165 rfl ?_
          exact g_sub [2, 3, 0] _ rfl (h9 c1 c2 c4 c5)
      · skip
        refine g_iload_n 2 107 dX9_termOf_106 rfl rfl ?_
        refine g_if_eq 114 110 dX9_termOf_107 rfl rfl (fun c6 => ?_) (fun c6 => ?_)
        · skip
          refine g_iconst (0) 115 dX9_termOf_114 rfl rfl ?_
          refine g_putZ 118 dX9_termOf_115 rfl flX9_279 s0.1 (by decide) ?_
          refine g_lconst (1) 119 dX9_termOf_118 rfl rfl ?_
          refine g_lstore 121 [(5, .long (1)), (0, .ref a0), (1, .int (x1)), (2, .long (y2)), (4, .int (x4))] dX9_termOf_119 rfl (Nat.le_of_ble_eq_true rfl) rfl ?_
          refine g_aload_n 1 122 dX9_termOf_121 rfl rfl ?_
          refine g_iload 4 124 dX9_termOf_122 rfl rfl ?_
          refine g_bipush (42) 126 dX9_termOf_124 rfl rfl ?_
          refine g_callS (mc1 := 0) (ms1 := 0) (rest := [.int (x4), .ref a0]) (av := [.int (42)]) kX9_sign 129 dX9_termOf_126 rfl rfl mbX9_228 smX9_sign (Nat.le_of_ble_eq_true rfl) (w1) (w2) (tX9_sign  ?_)
          show Go X (d + 6) mc ms kX9_termOf Q 129 [(5, .long (1)), (0, .ref a0), (1, .int (x1)), (2, .long (y2)), (4, .int (x4))] [.int ((fX9_sign 42)), .int (x4), .ref a0] (g_wi M a0 24 0) c z
          refine g_icmp_ne 139 132 dX9_termOf_129 rfl rfl (fun _ => ?_) (fun q => absurd q c1)
          refine g_iload 4 141 dX9_termOf_139 rfl rfl ?_
          refine g_bipush (47) 143 dX9_termOf_141 rfl rfl ?_
          refine g_callS (mc1 := 0) (ms1 := 0) (rest := [.int (x4), .ref a0]) (av := [.int (47)]) kX9_sign 146 dX9_termOf_143 rfl rfl mbX9_228 smX9_sign (Nat.le_of_ble_eq_true rfl) (w1) (w2) (tX9_sign  ?_)
          show Go X (d + 6) mc ms kX9_termOf Q 146 [(5, .long (1)), (0, .ref a0), (1, .int (x1)), (2, .long (y2)), (4, .int (x4))] [.int ((fX9_sign 47)), .int (x4), .ref a0] (g_wi M a0 24 0) c z
          refine g_icmp_ne 156 149 dX9_termOf_146 rfl rfl (fun c7 => ?_) (fun c7 => ?_)
          · skip
            refine g_lload_n 3 157 dX9_termOf_156 rfl rfl ?_
            refine g_lload 0 159 dX9_termOf_157 rfl rfl ?_
            refine h_lrem 160 dX9_termOf_159 rfl (by decide) ?_
            refine g_iload_n 2 161 dX9_termOf_160 rfl rfl ?_
            refine g_callV (mc1 := 0) (ms1 := 0) (b := a0) (rest := []) (av := [.long ((l_rm y2 1)), .int (x1)]) kX9_bounded 164 dX9_termOf_161 rfl rfl mbX9_286 imX9_bounded seX9_bounded gcl9.1 (Sm.k (Sm.wi Sm.rf) s0.1) (Nat.le_of_ble_eq_true rfl) (w1) (w2) (tX9_bounded (Mo.sm (Sm.wi Sm.rf) s0) ?_)
            show Go X (d + 6) mc ms kX9_termOf Q 164 [(5, .long (1)), (0, .ref a0), (1, .int (x1)), (2, .long (y2)), (4, .int (x4))] [.long ((fX9_bounded (g_wi M a0 24 0) a0 (l_rm y2 1) x1))] (mX9_bounded (g_wi M a0 24 0) a0 (l_rm y2 1) x1) c z
            refine g_lstore_n 165 [(2, .long ((fX9_bounded (g_wi M a0 24 0) a0 (l_rm y2 1) x1))), (5, .long (1)), (0, .ref a0), (1, .int (x1)), (4, .int (x4))] dX9_termOf_164 rfl (Nat.le_of_ble_eq_true rfl) rfl ?_
            refine g_goto 6 dX9_termOf_165 rfl ?_
            exact g_sub [2, 3, 0] _ rfl (h10 c1 c2 c4 c6 c7)
          · skip
            refine g_lload_n 3 150 dX9_termOf_149 rfl rfl ?_
            refine g_lload 0 152 dX9_termOf_150 rfl rfl ?_
            refine g_ldiv 153 dX9_termOf_152 rfl (by decide) ?_
            refine g_goto 160 dX9_termOf_153 rfl ?_
            refine g_iload_n 2 161 dX9_termOf_160 rfl rfl ?_
            refine g_callV (mc1 := 0) (ms1 := 0) (b := a0) (rest := []) (av := [.long ((y2 / 1)), .int (x1)]) kX9_bounded 164 dX9_termOf_161 rfl rfl mbX9_286 imX9_bounded seX9_bounded gcl9.1 (Sm.k (Sm.wi Sm.rf) s0.1) (Nat.le_of_ble_eq_true rfl) (w1) (w2) (tX9_bounded (Mo.sm (Sm.wi Sm.rf) s0) ?_)
            show Go X (d + 6) mc ms kX9_termOf Q 164 [(5, .long (1)), (0, .ref a0), (1, .int (x1)), (2, .long (y2)), (4, .int (x4))] [.long ((fX9_bounded (g_wi M a0 24 0) a0 (y2 / 1) x1))] (mX9_bounded (g_wi M a0 24 0) a0 (y2 / 1) x1) c z
            refine g_lstore_n 165 [(2, .long ((fX9_bounded (g_wi M a0 24 0) a0 (y2 / 1) x1))), (5, .long (1)), (0, .ref a0), (1, .int (x1)), (4, .int (x4))] dX9_termOf_164 rfl (Nat.le_of_ble_eq_true rfl) rfl ?_
            refine g_goto 6 dX9_termOf_165 rfl ?_
            exact g_sub [2, 3, 0] _ rfl (h11 c1 c2 c4 c6 c7)
        · skip
          refine g_iconst (1) 111 dX9_termOf_110 rfl rfl ?_
          refine g_goto 115 dX9_termOf_111 rfl ?_
          refine g_putZ 118 dX9_termOf_115 rfl flX9_279 s0.1 (by decide) ?_
          refine g_lconst (1) 119 dX9_termOf_118 rfl rfl ?_
          refine g_lstore 121 [(5, .long (1)), (0, .ref a0), (1, .int (x1)), (2, .long (y2)), (4, .int (x4))] dX9_termOf_119 rfl (Nat.le_of_ble_eq_true rfl) rfl ?_
          refine g_aload_n 1 122 dX9_termOf_121 rfl rfl ?_
          refine g_iload 4 124 dX9_termOf_122 rfl rfl ?_
          refine g_bipush (42) 126 dX9_termOf_124 rfl rfl ?_
          refine g_callS (mc1 := 0) (ms1 := 0) (rest := [.int (x4), .ref a0]) (av := [.int (42)]) kX9_sign 129 dX9_termOf_126 rfl rfl mbX9_228 smX9_sign (Nat.le_of_ble_eq_true rfl) (w1) (w2) (tX9_sign  ?_)
          show Go X (d + 6) mc ms kX9_termOf Q 129 [(5, .long (1)), (0, .ref a0), (1, .int (x1)), (2, .long (y2)), (4, .int (x4))] [.int ((fX9_sign 42)), .int (x4), .ref a0] (g_wi M a0 24 1) c z
          refine g_icmp_ne 139 132 dX9_termOf_129 rfl rfl (fun _ => ?_) (fun q => absurd q c1)
          refine g_iload 4 141 dX9_termOf_139 rfl rfl ?_
          refine g_bipush (47) 143 dX9_termOf_141 rfl rfl ?_
          refine g_callS (mc1 := 0) (ms1 := 0) (rest := [.int (x4), .ref a0]) (av := [.int (47)]) kX9_sign 146 dX9_termOf_143 rfl rfl mbX9_228 smX9_sign (Nat.le_of_ble_eq_true rfl) (w1) (w2) (tX9_sign  ?_)
          show Go X (d + 6) mc ms kX9_termOf Q 146 [(5, .long (1)), (0, .ref a0), (1, .int (x1)), (2, .long (y2)), (4, .int (x4))] [.int ((fX9_sign 47)), .int (x4), .ref a0] (g_wi M a0 24 1) c z
          refine g_icmp_ne 156 149 dX9_termOf_146 rfl rfl (fun c8 => ?_) (fun c8 => ?_)
          · skip
            refine g_lload_n 3 157 dX9_termOf_156 rfl rfl ?_
            refine g_lload 0 159 dX9_termOf_157 rfl rfl ?_
            refine h_lrem 160 dX9_termOf_159 rfl (by decide) ?_
            refine g_iload_n 2 161 dX9_termOf_160 rfl rfl ?_
            refine g_callV (mc1 := 0) (ms1 := 0) (b := a0) (rest := []) (av := [.long ((l_rm y2 1)), .int (x1)]) kX9_bounded 164 dX9_termOf_161 rfl rfl mbX9_286 imX9_bounded seX9_bounded gcl9.1 (Sm.k (Sm.wi Sm.rf) s0.1) (Nat.le_of_ble_eq_true rfl) (w1) (w2) (tX9_bounded (Mo.sm (Sm.wi Sm.rf) s0) ?_)
            show Go X (d + 6) mc ms kX9_termOf Q 164 [(5, .long (1)), (0, .ref a0), (1, .int (x1)), (2, .long (y2)), (4, .int (x4))] [.long ((fX9_bounded (g_wi M a0 24 1) a0 (l_rm y2 1) x1))] (mX9_bounded (g_wi M a0 24 1) a0 (l_rm y2 1) x1) c z
            refine g_lstore_n 165 [(2, .long ((fX9_bounded (g_wi M a0 24 1) a0 (l_rm y2 1) x1))), (5, .long (1)), (0, .ref a0), (1, .int (x1)), (4, .int (x4))] dX9_termOf_164 rfl (Nat.le_of_ble_eq_true rfl) rfl ?_
            refine g_goto 6 dX9_termOf_165 rfl ?_
            exact g_sub [2, 3, 0] _ rfl (h12 c1 c2 c4 c6 c8)
          · skip
            refine g_lload_n 3 150 dX9_termOf_149 rfl rfl ?_
            refine g_lload 0 152 dX9_termOf_150 rfl rfl ?_
            refine g_ldiv 153 dX9_termOf_152 rfl (by decide) ?_
            refine g_goto 160 dX9_termOf_153 rfl ?_
            refine g_iload_n 2 161 dX9_termOf_160 rfl rfl ?_
            refine g_callV (mc1 := 0) (ms1 := 0) (b := a0) (rest := []) (av := [.long ((y2 / 1)), .int (x1)]) kX9_bounded 164 dX9_termOf_161 rfl rfl mbX9_286 imX9_bounded seX9_bounded gcl9.1 (Sm.k (Sm.wi Sm.rf) s0.1) (Nat.le_of_ble_eq_true rfl) (w1) (w2) (tX9_bounded (Mo.sm (Sm.wi Sm.rf) s0) ?_)
            show Go X (d + 6) mc ms kX9_termOf Q 164 [(5, .long (1)), (0, .ref a0), (1, .int (x1)), (2, .long (y2)), (4, .int (x4))] [.long ((fX9_bounded (g_wi M a0 24 1) a0 (y2 / 1) x1))] (mX9_bounded (g_wi M a0 24 1) a0 (y2 / 1) x1) c z
            refine g_lstore_n 165 [(2, .long ((fX9_bounded (g_wi M a0 24 1) a0 (y2 / 1) x1))), (5, .long (1)), (0, .ref a0), (1, .int (x1)), (4, .int (x4))] dX9_termOf_164 rfl (Nat.le_of_ble_eq_true rfl) rfl ?_
            refine g_goto 6 dX9_termOf_165 rfl ?_
            exact g_sub [2, 3, 0] _ rfl (h13 c1 c2 c4 c6 c8)

set_option maxRecDepth 4000 in
theorem sX9_partOf_0 {N : Nat} {X : gX} {d mc ms : Nat} {Q : Option Value → gM → Prop} {M : gM} {a0 : Nat} {x1 : Int32} (s0 : Mo M a0) (b1 : EX9_passes0 M a0 (fX9_sign 91)) (b2 : ((fX9_passes0 M a0 (fX9_sign 91)) = 0) → EX9_codeAt (mX9_passes0 M a0 (fX9_sign 91)) a0 (g_mi (mX9_passes0 M a0 (fX9_sign 91)) a0 22)) (h3 : ((fX9_passes0 M a0 (fX9_sign 91)) = 0) → ((g_mi (g_wi (mX9_passes0 M a0 (fX9_sign 91)) a0 22 ((g_mi (mX9_passes0 M a0 (fX9_sign 91)) a0 22) + 1)) a0 25) = 0) → (x1 = 0) → Q (some (.long (0))) (g_wi (mX9_passes0 M a0 (fX9_sign 91)) a0 22 ((g_mi (mX9_passes0 M a0 (fX9_sign 91)) a0 22) + 1))) (b4 : ((fX9_passes0 M a0 (fX9_sign 91)) = 0) → ((g_mi (g_wi (mX9_passes0 M a0 (fX9_sign 91)) a0 22 ((g_mi (mX9_passes0 M a0 (fX9_sign 91)) a0 22) + 1)) a0 25) = 0) → (¬ x1 = 0) → ((g_mi (g_wi (mX9_passes0 M a0 (fX9_sign 91)) a0 22 ((g_mi (mX9_passes0 M a0 (fX9_sign 91)) a0 22) + 1)) a0 24) = 0) → (¬ (fX9_codeAt (mX9_passes0 M a0 (fX9_sign 91)) a0 (g_mi (mX9_passes0 M a0 (fX9_sign 91)) a0 22)) = 50) → vp_in (((fX9_codeAt (mX9_passes0 M a0 (fX9_sign 91)) a0 (g_mi (mX9_passes0 M a0 (fX9_sign 91)) a0 22)) - 7)) 7) (h5 : ((fX9_passes0 M a0 (fX9_sign 91)) = 0) → ((g_mi (g_wi (mX9_passes0 M a0 (fX9_sign 91)) a0 22 ((g_mi (mX9_passes0 M a0 (fX9_sign 91)) a0 22) + 1)) a0 25) = 0) → (¬ x1 = 0) → ((g_mi (g_wi (mX9_passes0 M a0 (fX9_sign 91)) a0 22 ((g_mi (mX9_passes0 M a0 (fX9_sign 91)) a0 22) + 1)) a0 24) = 0) → (¬ (fX9_codeAt (mX9_passes0 M a0 (fX9_sign 91)) a0 (g_mi (mX9_passes0 M a0 (fX9_sign 91)) a0 22)) = 50) → Q (some (.long ((((g_mi (g_wi (mX9_passes0 M a0 (fX9_sign 91)) a0 22 ((g_mi (mX9_passes0 M a0 (fX9_sign 91)) a0 22) + 1)) (a0 + 12) (((fX9_codeAt (mX9_passes0 M a0 (fX9_sign 91)) a0 (g_mi (mX9_passes0 M a0 (fX9_sign 91)) a0 22)) - 7)).toNatClampNeg) : Int32).toInt64)))) (g_wi (mX9_passes0 M a0 (fX9_sign 91)) a0 22 ((g_mi (mX9_passes0 M a0 (fX9_sign 91)) a0 22) + 1))) (b6 : ((fX9_passes0 M a0 (fX9_sign 91)) = 0) → ((g_mi (g_wi (mX9_passes0 M a0 (fX9_sign 91)) a0 22 ((g_mi (mX9_passes0 M a0 (fX9_sign 91)) a0 22) + 1)) a0 25) = 0) → (¬ x1 = 0) → ((g_mi (g_wi (mX9_passes0 M a0 (fX9_sign 91)) a0 22 ((g_mi (mX9_passes0 M a0 (fX9_sign 91)) a0 22) + 1)) a0 24) = 0) → ((fX9_codeAt (mX9_passes0 M a0 (fX9_sign 91)) a0 (g_mi (mX9_passes0 M a0 (fX9_sign 91)) a0 22)) = 50) → vp_in (((3012 + (g_mi (g_wi (mX9_passes0 M a0 (fX9_sign 91)) a0 22 ((g_mi (mX9_passes0 M a0 (fX9_sign 91)) a0 22) + 1)) a0 22)) - 1)) 5812) (h7 : ((fX9_passes0 M a0 (fX9_sign 91)) = 0) → ((g_mi (g_wi (mX9_passes0 M a0 (fX9_sign 91)) a0 22 ((g_mi (mX9_passes0 M a0 (fX9_sign 91)) a0 22) + 1)) a0 25) = 0) → (¬ x1 = 0) → ((g_mi (g_wi (mX9_passes0 M a0 (fX9_sign 91)) a0 22 ((g_mi (mX9_passes0 M a0 (fX9_sign 91)) a0 22) + 1)) a0 24) = 0) → ((fX9_codeAt (mX9_passes0 M a0 (fX9_sign 91)) a0 (g_mi (mX9_passes0 M a0 (fX9_sign 91)) a0 22)) = 50) → Q (some (.long ((((g_mi (g_wi (mX9_passes0 M a0 (fX9_sign 91)) a0 22 ((g_mi (mX9_passes0 M a0 (fX9_sign 91)) a0 22) + 1)) (a0 + 2) (((3012 + (g_mi (g_wi (mX9_passes0 M a0 (fX9_sign 91)) a0 22 ((g_mi (mX9_passes0 M a0 (fX9_sign 91)) a0 22) + 1)) a0 22)) - 1)).toNatClampNeg) : Int32).toInt64)))) (g_wi (mX9_passes0 M a0 (fX9_sign 91)) a0 22 ((g_mi (mX9_passes0 M a0 (fX9_sign 91)) a0 22) + 1))) (h8 : ((fX9_passes0 M a0 (fX9_sign 91)) = 0) → ((g_mi (g_wi (mX9_passes0 M a0 (fX9_sign 91)) a0 22 ((g_mi (mX9_passes0 M a0 (fX9_sign 91)) a0 22) + 1)) a0 25) = 0) → (¬ x1 = 0) → (¬ (g_mi (g_wi (mX9_passes0 M a0 (fX9_sign 91)) a0 22 ((g_mi (mX9_passes0 M a0 (fX9_sign 91)) a0 22) + 1)) a0 24) = 0) → Q (some (.long (0))) (g_wi (mX9_passes0 M a0 (fX9_sign 91)) a0 22 ((g_mi (mX9_passes0 M a0 (fX9_sign 91)) a0 22) + 1))) (b9 : ((fX9_passes0 M a0 (fX9_sign 91)) = 0) → (¬ (g_mi (g_wi (mX9_passes0 M a0 (fX9_sign 91)) a0 22 ((g_mi (mX9_passes0 M a0 (fX9_sign 91)) a0 22) + 1)) a0 25) = 0) → ((fX9_codeAt (mX9_passes0 M a0 (fX9_sign 91)) a0 (g_mi (mX9_passes0 M a0 (fX9_sign 91)) a0 22)) = 12) → vp_in ((3012 + (g_mi (g_wi (mX9_passes0 M a0 (fX9_sign 91)) a0 22 ((g_mi (mX9_passes0 M a0 (fX9_sign 91)) a0 22) + 1)) a0 22))) 5812) (h10 : ((fX9_passes0 M a0 (fX9_sign 91)) = 0) → (¬ (g_mi (g_wi (mX9_passes0 M a0 (fX9_sign 91)) a0 22 ((g_mi (mX9_passes0 M a0 (fX9_sign 91)) a0 22) + 1)) a0 25) = 0) → ((fX9_codeAt (mX9_passes0 M a0 (fX9_sign 91)) a0 (g_mi (mX9_passes0 M a0 (fX9_sign 91)) a0 22)) = 12) → (x1 = 0) → Q (some (.long (0))) (g_wi (g_wi (mX9_passes0 M a0 (fX9_sign 91)) a0 22 ((g_mi (mX9_passes0 M a0 (fX9_sign 91)) a0 22) + 1)) a0 22 ((g_mi (g_wi (mX9_passes0 M a0 (fX9_sign 91)) a0 22 ((g_mi (mX9_passes0 M a0 (fX9_sign 91)) a0 22) + 1)) a0 22) + 1))) (b11 : ((fX9_passes0 M a0 (fX9_sign 91)) = 0) → (¬ (g_mi (g_wi (mX9_passes0 M a0 (fX9_sign 91)) a0 22 ((g_mi (mX9_passes0 M a0 (fX9_sign 91)) a0 22) + 1)) a0 25) = 0) → ((fX9_codeAt (mX9_passes0 M a0 (fX9_sign 91)) a0 (g_mi (mX9_passes0 M a0 (fX9_sign 91)) a0 22)) = 12) → (¬ x1 = 0) → ((g_mi (g_wi (g_wi (mX9_passes0 M a0 (fX9_sign 91)) a0 22 ((g_mi (mX9_passes0 M a0 (fX9_sign 91)) a0 22) + 1)) a0 22 ((g_mi (g_wi (mX9_passes0 M a0 (fX9_sign 91)) a0 22 ((g_mi (mX9_passes0 M a0 (fX9_sign 91)) a0 22) + 1)) a0 22) + 1)) a0 24) = 0) → ((g_mi (g_wi (g_wi (mX9_passes0 M a0 (fX9_sign 91)) a0 22 ((g_mi (mX9_passes0 M a0 (fX9_sign 91)) a0 22) + 1)) a0 22 ((g_mi (g_wi (mX9_passes0 M a0 (fX9_sign 91)) a0 22 ((g_mi (mX9_passes0 M a0 (fX9_sign 91)) a0 22) + 1)) a0 22) + 1)) a0 25) = 0) → vp_in (((fX9_codeAt (mX9_passes0 M a0 (fX9_sign 91)) a0 (g_mi (mX9_passes0 M a0 (fX9_sign 91)) a0 22)) - 7)) 7) (h12 : ((fX9_passes0 M a0 (fX9_sign 91)) = 0) → (¬ (g_mi (g_wi (mX9_passes0 M a0 (fX9_sign 91)) a0 22 ((g_mi (mX9_passes0 M a0 (fX9_sign 91)) a0 22) + 1)) a0 25) = 0) → ((fX9_codeAt (mX9_passes0 M a0 (fX9_sign 91)) a0 (g_mi (mX9_passes0 M a0 (fX9_sign 91)) a0 22)) = 12) → (¬ x1 = 0) → ((g_mi (g_wi (g_wi (mX9_passes0 M a0 (fX9_sign 91)) a0 22 ((g_mi (mX9_passes0 M a0 (fX9_sign 91)) a0 22) + 1)) a0 22 ((g_mi (g_wi (mX9_passes0 M a0 (fX9_sign 91)) a0 22 ((g_mi (mX9_passes0 M a0 (fX9_sign 91)) a0 22) + 1)) a0 22) + 1)) a0 24) = 0) → ((g_mi (g_wi (g_wi (mX9_passes0 M a0 (fX9_sign 91)) a0 22 ((g_mi (mX9_passes0 M a0 (fX9_sign 91)) a0 22) + 1)) a0 22 ((g_mi (g_wi (mX9_passes0 M a0 (fX9_sign 91)) a0 22 ((g_mi (mX9_passes0 M a0 (fX9_sign 91)) a0 22) + 1)) a0 22) + 1)) a0 25) = 0) → Q (some (.long ((((g_mi (g_wi (g_wi (mX9_passes0 M a0 (fX9_sign 91)) a0 22 ((g_mi (mX9_passes0 M a0 (fX9_sign 91)) a0 22) + 1)) a0 22 ((g_mi (g_wi (mX9_passes0 M a0 (fX9_sign 91)) a0 22 ((g_mi (mX9_passes0 M a0 (fX9_sign 91)) a0 22) + 1)) a0 22) + 1)) (a0 + 12) (((fX9_codeAt (mX9_passes0 M a0 (fX9_sign 91)) a0 (g_mi (mX9_passes0 M a0 (fX9_sign 91)) a0 22)) - 7)).toNatClampNeg) : Int32).toInt64)))) (g_wi (g_wi (mX9_passes0 M a0 (fX9_sign 91)) a0 22 ((g_mi (mX9_passes0 M a0 (fX9_sign 91)) a0 22) + 1)) a0 22 ((g_mi (g_wi (mX9_passes0 M a0 (fX9_sign 91)) a0 22 ((g_mi (mX9_passes0 M a0 (fX9_sign 91)) a0 22) + 1)) a0 22) + 1))) (b13 : ((fX9_passes0 M a0 (fX9_sign 91)) = 0) → (¬ (g_mi (g_wi (mX9_passes0 M a0 (fX9_sign 91)) a0 22 ((g_mi (mX9_passes0 M a0 (fX9_sign 91)) a0 22) + 1)) a0 25) = 0) → ((fX9_codeAt (mX9_passes0 M a0 (fX9_sign 91)) a0 (g_mi (mX9_passes0 M a0 (fX9_sign 91)) a0 22)) = 12) → (¬ x1 = 0) → ((g_mi (g_wi (g_wi (mX9_passes0 M a0 (fX9_sign 91)) a0 22 ((g_mi (mX9_passes0 M a0 (fX9_sign 91)) a0 22) + 1)) a0 22 ((g_mi (g_wi (mX9_passes0 M a0 (fX9_sign 91)) a0 22 ((g_mi (mX9_passes0 M a0 (fX9_sign 91)) a0 22) + 1)) a0 22) + 1)) a0 24) = 0) → (¬ (g_mi (g_wi (g_wi (mX9_passes0 M a0 (fX9_sign 91)) a0 22 ((g_mi (mX9_passes0 M a0 (fX9_sign 91)) a0 22) + 1)) a0 22 ((g_mi (g_wi (mX9_passes0 M a0 (fX9_sign 91)) a0 22 ((g_mi (mX9_passes0 M a0 (fX9_sign 91)) a0 22) + 1)) a0 22) + 1)) a0 25) = 0) → EX9_orderValue N (g_wi (g_wi (mX9_passes0 M a0 (fX9_sign 91)) a0 22 ((g_mi (mX9_passes0 M a0 (fX9_sign 91)) a0 22) + 1)) a0 22 ((g_mi (g_wi (mX9_passes0 M a0 (fX9_sign 91)) a0 22 ((g_mi (mX9_passes0 M a0 (fX9_sign 91)) a0 22) + 1)) a0 22) + 1)) a0 (fX9_codeAt (mX9_passes0 M a0 (fX9_sign 91)) a0 (g_mi (mX9_passes0 M a0 (fX9_sign 91)) a0 22)) (g_mi (g_wi (mX9_passes0 M a0 (fX9_sign 91)) a0 22 ((g_mi (mX9_passes0 M a0 (fX9_sign 91)) a0 22) + 1)) (a0 + 2) ((3012 + (g_mi (g_wi (mX9_passes0 M a0 (fX9_sign 91)) a0 22 ((g_mi (mX9_passes0 M a0 (fX9_sign 91)) a0 22) + 1)) a0 22))).toNatClampNeg)) (h14 : ((fX9_passes0 M a0 (fX9_sign 91)) = 0) → (¬ (g_mi (g_wi (mX9_passes0 M a0 (fX9_sign 91)) a0 22 ((g_mi (mX9_passes0 M a0 (fX9_sign 91)) a0 22) + 1)) a0 25) = 0) → ((fX9_codeAt (mX9_passes0 M a0 (fX9_sign 91)) a0 (g_mi (mX9_passes0 M a0 (fX9_sign 91)) a0 22)) = 12) → (¬ x1 = 0) → ((g_mi (g_wi (g_wi (mX9_passes0 M a0 (fX9_sign 91)) a0 22 ((g_mi (mX9_passes0 M a0 (fX9_sign 91)) a0 22) + 1)) a0 22 ((g_mi (g_wi (mX9_passes0 M a0 (fX9_sign 91)) a0 22 ((g_mi (mX9_passes0 M a0 (fX9_sign 91)) a0 22) + 1)) a0 22) + 1)) a0 24) = 0) → (¬ (g_mi (g_wi (g_wi (mX9_passes0 M a0 (fX9_sign 91)) a0 22 ((g_mi (mX9_passes0 M a0 (fX9_sign 91)) a0 22) + 1)) a0 22 ((g_mi (g_wi (mX9_passes0 M a0 (fX9_sign 91)) a0 22 ((g_mi (mX9_passes0 M a0 (fX9_sign 91)) a0 22) + 1)) a0 22) + 1)) a0 25) = 0) → Q (some (.long ((((fX9_orderValue N (g_wi (g_wi (mX9_passes0 M a0 (fX9_sign 91)) a0 22 ((g_mi (mX9_passes0 M a0 (fX9_sign 91)) a0 22) + 1)) a0 22 ((g_mi (g_wi (mX9_passes0 M a0 (fX9_sign 91)) a0 22 ((g_mi (mX9_passes0 M a0 (fX9_sign 91)) a0 22) + 1)) a0 22) + 1)) a0 (fX9_codeAt (mX9_passes0 M a0 (fX9_sign 91)) a0 (g_mi (mX9_passes0 M a0 (fX9_sign 91)) a0 22)) (g_mi (g_wi (mX9_passes0 M a0 (fX9_sign 91)) a0 22 ((g_mi (mX9_passes0 M a0 (fX9_sign 91)) a0 22) + 1)) (a0 + 2) ((3012 + (g_mi (g_wi (mX9_passes0 M a0 (fX9_sign 91)) a0 22 ((g_mi (mX9_passes0 M a0 (fX9_sign 91)) a0 22) + 1)) a0 22))).toNatClampNeg)) : Int32).toInt64)))) (g_wi (g_wi (mX9_passes0 M a0 (fX9_sign 91)) a0 22 ((g_mi (mX9_passes0 M a0 (fX9_sign 91)) a0 22) + 1)) a0 22 ((g_mi (g_wi (mX9_passes0 M a0 (fX9_sign 91)) a0 22 ((g_mi (mX9_passes0 M a0 (fX9_sign 91)) a0 22) + 1)) a0 22) + 1))) (h15 : ((fX9_passes0 M a0 (fX9_sign 91)) = 0) → (¬ (g_mi (g_wi (mX9_passes0 M a0 (fX9_sign 91)) a0 22 ((g_mi (mX9_passes0 M a0 (fX9_sign 91)) a0 22) + 1)) a0 25) = 0) → ((fX9_codeAt (mX9_passes0 M a0 (fX9_sign 91)) a0 (g_mi (mX9_passes0 M a0 (fX9_sign 91)) a0 22)) = 12) → (¬ x1 = 0) → (¬ (g_mi (g_wi (g_wi (mX9_passes0 M a0 (fX9_sign 91)) a0 22 ((g_mi (mX9_passes0 M a0 (fX9_sign 91)) a0 22) + 1)) a0 22 ((g_mi (g_wi (mX9_passes0 M a0 (fX9_sign 91)) a0 22 ((g_mi (mX9_passes0 M a0 (fX9_sign 91)) a0 22) + 1)) a0 22) + 1)) a0 24) = 0) → Q (some (.long (0))) (g_wi (g_wi (mX9_passes0 M a0 (fX9_sign 91)) a0 22 ((g_mi (mX9_passes0 M a0 (fX9_sign 91)) a0 22) + 1)) a0 22 ((g_mi (g_wi (mX9_passes0 M a0 (fX9_sign 91)) a0 22 ((g_mi (mX9_passes0 M a0 (fX9_sign 91)) a0 22) + 1)) a0 22) + 1))) (h16 : ((fX9_passes0 M a0 (fX9_sign 91)) = 0) → (¬ (g_mi (g_wi (mX9_passes0 M a0 (fX9_sign 91)) a0 22 ((g_mi (mX9_passes0 M a0 (fX9_sign 91)) a0 22) + 1)) a0 25) = 0) → (¬ (fX9_codeAt (mX9_passes0 M a0 (fX9_sign 91)) a0 (g_mi (mX9_passes0 M a0 (fX9_sign 91)) a0 22)) = 12) → (¬ (fX9_codeAt (mX9_passes0 M a0 (fX9_sign 91)) a0 (g_mi (mX9_passes0 M a0 (fX9_sign 91)) a0 22)) = 17) → (x1 = 0) → Q (some (.long (0))) (g_wi (mX9_passes0 M a0 (fX9_sign 91)) a0 22 ((g_mi (mX9_passes0 M a0 (fX9_sign 91)) a0 22) + 1))) (b17 : ((fX9_passes0 M a0 (fX9_sign 91)) = 0) → (¬ (g_mi (g_wi (mX9_passes0 M a0 (fX9_sign 91)) a0 22 ((g_mi (mX9_passes0 M a0 (fX9_sign 91)) a0 22) + 1)) a0 25) = 0) → (¬ (fX9_codeAt (mX9_passes0 M a0 (fX9_sign 91)) a0 (g_mi (mX9_passes0 M a0 (fX9_sign 91)) a0 22)) = 12) → (¬ (fX9_codeAt (mX9_passes0 M a0 (fX9_sign 91)) a0 (g_mi (mX9_passes0 M a0 (fX9_sign 91)) a0 22)) = 17) → (¬ x1 = 0) → ((g_mi (g_wi (mX9_passes0 M a0 (fX9_sign 91)) a0 22 ((g_mi (mX9_passes0 M a0 (fX9_sign 91)) a0 22) + 1)) a0 24) = 0) → (¬ (fX9_codeAt (mX9_passes0 M a0 (fX9_sign 91)) a0 (g_mi (mX9_passes0 M a0 (fX9_sign 91)) a0 22)) = 50) → EX9_orderValue N (g_wi (mX9_passes0 M a0 (fX9_sign 91)) a0 22 ((g_mi (mX9_passes0 M a0 (fX9_sign 91)) a0 22) + 1)) a0 (fX9_codeAt (mX9_passes0 M a0 (fX9_sign 91)) a0 (g_mi (mX9_passes0 M a0 (fX9_sign 91)) a0 22)) 0) (h18 : ((fX9_passes0 M a0 (fX9_sign 91)) = 0) → (¬ (g_mi (g_wi (mX9_passes0 M a0 (fX9_sign 91)) a0 22 ((g_mi (mX9_passes0 M a0 (fX9_sign 91)) a0 22) + 1)) a0 25) = 0) → (¬ (fX9_codeAt (mX9_passes0 M a0 (fX9_sign 91)) a0 (g_mi (mX9_passes0 M a0 (fX9_sign 91)) a0 22)) = 12) → (¬ (fX9_codeAt (mX9_passes0 M a0 (fX9_sign 91)) a0 (g_mi (mX9_passes0 M a0 (fX9_sign 91)) a0 22)) = 17) → (¬ x1 = 0) → ((g_mi (g_wi (mX9_passes0 M a0 (fX9_sign 91)) a0 22 ((g_mi (mX9_passes0 M a0 (fX9_sign 91)) a0 22) + 1)) a0 24) = 0) → (¬ (fX9_codeAt (mX9_passes0 M a0 (fX9_sign 91)) a0 (g_mi (mX9_passes0 M a0 (fX9_sign 91)) a0 22)) = 50) → Q (some (.long ((((fX9_orderValue N (g_wi (mX9_passes0 M a0 (fX9_sign 91)) a0 22 ((g_mi (mX9_passes0 M a0 (fX9_sign 91)) a0 22) + 1)) a0 (fX9_codeAt (mX9_passes0 M a0 (fX9_sign 91)) a0 (g_mi (mX9_passes0 M a0 (fX9_sign 91)) a0 22)) 0) : Int32).toInt64)))) (g_wi (mX9_passes0 M a0 (fX9_sign 91)) a0 22 ((g_mi (mX9_passes0 M a0 (fX9_sign 91)) a0 22) + 1))) (b19 : ((fX9_passes0 M a0 (fX9_sign 91)) = 0) → (¬ (g_mi (g_wi (mX9_passes0 M a0 (fX9_sign 91)) a0 22 ((g_mi (mX9_passes0 M a0 (fX9_sign 91)) a0 22) + 1)) a0 25) = 0) → (¬ (fX9_codeAt (mX9_passes0 M a0 (fX9_sign 91)) a0 (g_mi (mX9_passes0 M a0 (fX9_sign 91)) a0 22)) = 12) → (¬ (fX9_codeAt (mX9_passes0 M a0 (fX9_sign 91)) a0 (g_mi (mX9_passes0 M a0 (fX9_sign 91)) a0 22)) = 17) → (¬ x1 = 0) → ((g_mi (g_wi (mX9_passes0 M a0 (fX9_sign 91)) a0 22 ((g_mi (mX9_passes0 M a0 (fX9_sign 91)) a0 22) + 1)) a0 24) = 0) → ((fX9_codeAt (mX9_passes0 M a0 (fX9_sign 91)) a0 (g_mi (mX9_passes0 M a0 (fX9_sign 91)) a0 22)) = 50) → vp_in (((3012 + (g_mi (g_wi (mX9_passes0 M a0 (fX9_sign 91)) a0 22 ((g_mi (mX9_passes0 M a0 (fX9_sign 91)) a0 22) + 1)) a0 22)) - 1)) 5812) (h20 : ((fX9_passes0 M a0 (fX9_sign 91)) = 0) → (¬ (g_mi (g_wi (mX9_passes0 M a0 (fX9_sign 91)) a0 22 ((g_mi (mX9_passes0 M a0 (fX9_sign 91)) a0 22) + 1)) a0 25) = 0) → (¬ (fX9_codeAt (mX9_passes0 M a0 (fX9_sign 91)) a0 (g_mi (mX9_passes0 M a0 (fX9_sign 91)) a0 22)) = 12) → (¬ (fX9_codeAt (mX9_passes0 M a0 (fX9_sign 91)) a0 (g_mi (mX9_passes0 M a0 (fX9_sign 91)) a0 22)) = 17) → (¬ x1 = 0) → ((g_mi (g_wi (mX9_passes0 M a0 (fX9_sign 91)) a0 22 ((g_mi (mX9_passes0 M a0 (fX9_sign 91)) a0 22) + 1)) a0 24) = 0) → ((fX9_codeAt (mX9_passes0 M a0 (fX9_sign 91)) a0 (g_mi (mX9_passes0 M a0 (fX9_sign 91)) a0 22)) = 50) → Q (some (.long ((((g_mi (g_wi (mX9_passes0 M a0 (fX9_sign 91)) a0 22 ((g_mi (mX9_passes0 M a0 (fX9_sign 91)) a0 22) + 1)) (a0 + 2) (((3012 + (g_mi (g_wi (mX9_passes0 M a0 (fX9_sign 91)) a0 22 ((g_mi (mX9_passes0 M a0 (fX9_sign 91)) a0 22) + 1)) a0 22)) - 1)).toNatClampNeg) : Int32).toInt64)))) (g_wi (mX9_passes0 M a0 (fX9_sign 91)) a0 22 ((g_mi (mX9_passes0 M a0 (fX9_sign 91)) a0 22) + 1))) (h21 : ((fX9_passes0 M a0 (fX9_sign 91)) = 0) → (¬ (g_mi (g_wi (mX9_passes0 M a0 (fX9_sign 91)) a0 22 ((g_mi (mX9_passes0 M a0 (fX9_sign 91)) a0 22) + 1)) a0 25) = 0) → (¬ (fX9_codeAt (mX9_passes0 M a0 (fX9_sign 91)) a0 (g_mi (mX9_passes0 M a0 (fX9_sign 91)) a0 22)) = 12) → (¬ (fX9_codeAt (mX9_passes0 M a0 (fX9_sign 91)) a0 (g_mi (mX9_passes0 M a0 (fX9_sign 91)) a0 22)) = 17) → (¬ x1 = 0) → (¬ (g_mi (g_wi (mX9_passes0 M a0 (fX9_sign 91)) a0 22 ((g_mi (mX9_passes0 M a0 (fX9_sign 91)) a0 22) + 1)) a0 24) = 0) → Q (some (.long (0))) (g_wi (mX9_passes0 M a0 (fX9_sign 91)) a0 22 ((g_mi (mX9_passes0 M a0 (fX9_sign 91)) a0 22) + 1))) (b22 : ((fX9_passes0 M a0 (fX9_sign 91)) = 0) → (¬ (g_mi (g_wi (mX9_passes0 M a0 (fX9_sign 91)) a0 22 ((g_mi (mX9_passes0 M a0 (fX9_sign 91)) a0 22) + 1)) a0 25) = 0) → (¬ (fX9_codeAt (mX9_passes0 M a0 (fX9_sign 91)) a0 (g_mi (mX9_passes0 M a0 (fX9_sign 91)) a0 22)) = 12) → ((fX9_codeAt (mX9_passes0 M a0 (fX9_sign 91)) a0 (g_mi (mX9_passes0 M a0 (fX9_sign 91)) a0 22)) = 17) → vp_in ((3012 + (g_mi (g_wi (mX9_passes0 M a0 (fX9_sign 91)) a0 22 ((g_mi (mX9_passes0 M a0 (fX9_sign 91)) a0 22) + 1)) a0 22))) 5812) (h23 : ((fX9_passes0 M a0 (fX9_sign 91)) = 0) → (¬ (g_mi (g_wi (mX9_passes0 M a0 (fX9_sign 91)) a0 22 ((g_mi (mX9_passes0 M a0 (fX9_sign 91)) a0 22) + 1)) a0 25) = 0) → (¬ (fX9_codeAt (mX9_passes0 M a0 (fX9_sign 91)) a0 (g_mi (mX9_passes0 M a0 (fX9_sign 91)) a0 22)) = 12) → ((fX9_codeAt (mX9_passes0 M a0 (fX9_sign 91)) a0 (g_mi (mX9_passes0 M a0 (fX9_sign 91)) a0 22)) = 17) → (x1 = 0) → Q (some (.long (0))) (g_wi (g_wi (mX9_passes0 M a0 (fX9_sign 91)) a0 22 ((g_mi (mX9_passes0 M a0 (fX9_sign 91)) a0 22) + 1)) a0 22 ((g_mi (g_wi (mX9_passes0 M a0 (fX9_sign 91)) a0 22 ((g_mi (mX9_passes0 M a0 (fX9_sign 91)) a0 22) + 1)) a0 22) + 1))) (b24 : ((fX9_passes0 M a0 (fX9_sign 91)) = 0) → (¬ (g_mi (g_wi (mX9_passes0 M a0 (fX9_sign 91)) a0 22 ((g_mi (mX9_passes0 M a0 (fX9_sign 91)) a0 22) + 1)) a0 25) = 0) → (¬ (fX9_codeAt (mX9_passes0 M a0 (fX9_sign 91)) a0 (g_mi (mX9_passes0 M a0 (fX9_sign 91)) a0 22)) = 12) → ((fX9_codeAt (mX9_passes0 M a0 (fX9_sign 91)) a0 (g_mi (mX9_passes0 M a0 (fX9_sign 91)) a0 22)) = 17) → (¬ x1 = 0) → ((g_mi (g_wi (g_wi (mX9_passes0 M a0 (fX9_sign 91)) a0 22 ((g_mi (mX9_passes0 M a0 (fX9_sign 91)) a0 22) + 1)) a0 22 ((g_mi (g_wi (mX9_passes0 M a0 (fX9_sign 91)) a0 22 ((g_mi (mX9_passes0 M a0 (fX9_sign 91)) a0 22) + 1)) a0 22) + 1)) a0 24) = 0) → ((g_mi (g_wi (g_wi (mX9_passes0 M a0 (fX9_sign 91)) a0 22 ((g_mi (mX9_passes0 M a0 (fX9_sign 91)) a0 22) + 1)) a0 22 ((g_mi (g_wi (mX9_passes0 M a0 (fX9_sign 91)) a0 22 ((g_mi (mX9_passes0 M a0 (fX9_sign 91)) a0 22) + 1)) a0 22) + 1)) a0 25) = 0) → vp_in (((fX9_codeAt (mX9_passes0 M a0 (fX9_sign 91)) a0 (g_mi (mX9_passes0 M a0 (fX9_sign 91)) a0 22)) - 7)) 7) (h25 : ((fX9_passes0 M a0 (fX9_sign 91)) = 0) → (¬ (g_mi (g_wi (mX9_passes0 M a0 (fX9_sign 91)) a0 22 ((g_mi (mX9_passes0 M a0 (fX9_sign 91)) a0 22) + 1)) a0 25) = 0) → (¬ (fX9_codeAt (mX9_passes0 M a0 (fX9_sign 91)) a0 (g_mi (mX9_passes0 M a0 (fX9_sign 91)) a0 22)) = 12) → ((fX9_codeAt (mX9_passes0 M a0 (fX9_sign 91)) a0 (g_mi (mX9_passes0 M a0 (fX9_sign 91)) a0 22)) = 17) → (¬ x1 = 0) → ((g_mi (g_wi (g_wi (mX9_passes0 M a0 (fX9_sign 91)) a0 22 ((g_mi (mX9_passes0 M a0 (fX9_sign 91)) a0 22) + 1)) a0 22 ((g_mi (g_wi (mX9_passes0 M a0 (fX9_sign 91)) a0 22 ((g_mi (mX9_passes0 M a0 (fX9_sign 91)) a0 22) + 1)) a0 22) + 1)) a0 24) = 0) → ((g_mi (g_wi (g_wi (mX9_passes0 M a0 (fX9_sign 91)) a0 22 ((g_mi (mX9_passes0 M a0 (fX9_sign 91)) a0 22) + 1)) a0 22 ((g_mi (g_wi (mX9_passes0 M a0 (fX9_sign 91)) a0 22 ((g_mi (mX9_passes0 M a0 (fX9_sign 91)) a0 22) + 1)) a0 22) + 1)) a0 25) = 0) → Q (some (.long ((((g_mi (g_wi (g_wi (mX9_passes0 M a0 (fX9_sign 91)) a0 22 ((g_mi (mX9_passes0 M a0 (fX9_sign 91)) a0 22) + 1)) a0 22 ((g_mi (g_wi (mX9_passes0 M a0 (fX9_sign 91)) a0 22 ((g_mi (mX9_passes0 M a0 (fX9_sign 91)) a0 22) + 1)) a0 22) + 1)) (a0 + 12) (((fX9_codeAt (mX9_passes0 M a0 (fX9_sign 91)) a0 (g_mi (mX9_passes0 M a0 (fX9_sign 91)) a0 22)) - 7)).toNatClampNeg) : Int32).toInt64)))) (g_wi (g_wi (mX9_passes0 M a0 (fX9_sign 91)) a0 22 ((g_mi (mX9_passes0 M a0 (fX9_sign 91)) a0 22) + 1)) a0 22 ((g_mi (g_wi (mX9_passes0 M a0 (fX9_sign 91)) a0 22 ((g_mi (mX9_passes0 M a0 (fX9_sign 91)) a0 22) + 1)) a0 22) + 1))) (b26 : ((fX9_passes0 M a0 (fX9_sign 91)) = 0) → (¬ (g_mi (g_wi (mX9_passes0 M a0 (fX9_sign 91)) a0 22 ((g_mi (mX9_passes0 M a0 (fX9_sign 91)) a0 22) + 1)) a0 25) = 0) → (¬ (fX9_codeAt (mX9_passes0 M a0 (fX9_sign 91)) a0 (g_mi (mX9_passes0 M a0 (fX9_sign 91)) a0 22)) = 12) → ((fX9_codeAt (mX9_passes0 M a0 (fX9_sign 91)) a0 (g_mi (mX9_passes0 M a0 (fX9_sign 91)) a0 22)) = 17) → (¬ x1 = 0) → ((g_mi (g_wi (g_wi (mX9_passes0 M a0 (fX9_sign 91)) a0 22 ((g_mi (mX9_passes0 M a0 (fX9_sign 91)) a0 22) + 1)) a0 22 ((g_mi (g_wi (mX9_passes0 M a0 (fX9_sign 91)) a0 22 ((g_mi (mX9_passes0 M a0 (fX9_sign 91)) a0 22) + 1)) a0 22) + 1)) a0 24) = 0) → (¬ (g_mi (g_wi (g_wi (mX9_passes0 M a0 (fX9_sign 91)) a0 22 ((g_mi (mX9_passes0 M a0 (fX9_sign 91)) a0 22) + 1)) a0 22 ((g_mi (g_wi (mX9_passes0 M a0 (fX9_sign 91)) a0 22 ((g_mi (mX9_passes0 M a0 (fX9_sign 91)) a0 22) + 1)) a0 22) + 1)) a0 25) = 0) → EX9_orderValue N (g_wi (g_wi (mX9_passes0 M a0 (fX9_sign 91)) a0 22 ((g_mi (mX9_passes0 M a0 (fX9_sign 91)) a0 22) + 1)) a0 22 ((g_mi (g_wi (mX9_passes0 M a0 (fX9_sign 91)) a0 22 ((g_mi (mX9_passes0 M a0 (fX9_sign 91)) a0 22) + 1)) a0 22) + 1)) a0 (fX9_codeAt (mX9_passes0 M a0 (fX9_sign 91)) a0 (g_mi (mX9_passes0 M a0 (fX9_sign 91)) a0 22)) (g_mi (g_wi (mX9_passes0 M a0 (fX9_sign 91)) a0 22 ((g_mi (mX9_passes0 M a0 (fX9_sign 91)) a0 22) + 1)) (a0 + 2) ((3012 + (g_mi (g_wi (mX9_passes0 M a0 (fX9_sign 91)) a0 22 ((g_mi (mX9_passes0 M a0 (fX9_sign 91)) a0 22) + 1)) a0 22))).toNatClampNeg)) (h27 : ((fX9_passes0 M a0 (fX9_sign 91)) = 0) → (¬ (g_mi (g_wi (mX9_passes0 M a0 (fX9_sign 91)) a0 22 ((g_mi (mX9_passes0 M a0 (fX9_sign 91)) a0 22) + 1)) a0 25) = 0) → (¬ (fX9_codeAt (mX9_passes0 M a0 (fX9_sign 91)) a0 (g_mi (mX9_passes0 M a0 (fX9_sign 91)) a0 22)) = 12) → ((fX9_codeAt (mX9_passes0 M a0 (fX9_sign 91)) a0 (g_mi (mX9_passes0 M a0 (fX9_sign 91)) a0 22)) = 17) → (¬ x1 = 0) → ((g_mi (g_wi (g_wi (mX9_passes0 M a0 (fX9_sign 91)) a0 22 ((g_mi (mX9_passes0 M a0 (fX9_sign 91)) a0 22) + 1)) a0 22 ((g_mi (g_wi (mX9_passes0 M a0 (fX9_sign 91)) a0 22 ((g_mi (mX9_passes0 M a0 (fX9_sign 91)) a0 22) + 1)) a0 22) + 1)) a0 24) = 0) → (¬ (g_mi (g_wi (g_wi (mX9_passes0 M a0 (fX9_sign 91)) a0 22 ((g_mi (mX9_passes0 M a0 (fX9_sign 91)) a0 22) + 1)) a0 22 ((g_mi (g_wi (mX9_passes0 M a0 (fX9_sign 91)) a0 22 ((g_mi (mX9_passes0 M a0 (fX9_sign 91)) a0 22) + 1)) a0 22) + 1)) a0 25) = 0) → Q (some (.long ((((fX9_orderValue N (g_wi (g_wi (mX9_passes0 M a0 (fX9_sign 91)) a0 22 ((g_mi (mX9_passes0 M a0 (fX9_sign 91)) a0 22) + 1)) a0 22 ((g_mi (g_wi (mX9_passes0 M a0 (fX9_sign 91)) a0 22 ((g_mi (mX9_passes0 M a0 (fX9_sign 91)) a0 22) + 1)) a0 22) + 1)) a0 (fX9_codeAt (mX9_passes0 M a0 (fX9_sign 91)) a0 (g_mi (mX9_passes0 M a0 (fX9_sign 91)) a0 22)) (g_mi (g_wi (mX9_passes0 M a0 (fX9_sign 91)) a0 22 ((g_mi (mX9_passes0 M a0 (fX9_sign 91)) a0 22) + 1)) (a0 + 2) ((3012 + (g_mi (g_wi (mX9_passes0 M a0 (fX9_sign 91)) a0 22 ((g_mi (mX9_passes0 M a0 (fX9_sign 91)) a0 22) + 1)) a0 22))).toNatClampNeg)) : Int32).toInt64)))) (g_wi (g_wi (mX9_passes0 M a0 (fX9_sign 91)) a0 22 ((g_mi (mX9_passes0 M a0 (fX9_sign 91)) a0 22) + 1)) a0 22 ((g_mi (g_wi (mX9_passes0 M a0 (fX9_sign 91)) a0 22 ((g_mi (mX9_passes0 M a0 (fX9_sign 91)) a0 22) + 1)) a0 22) + 1))) (h28 : ((fX9_passes0 M a0 (fX9_sign 91)) = 0) → (¬ (g_mi (g_wi (mX9_passes0 M a0 (fX9_sign 91)) a0 22 ((g_mi (mX9_passes0 M a0 (fX9_sign 91)) a0 22) + 1)) a0 25) = 0) → (¬ (fX9_codeAt (mX9_passes0 M a0 (fX9_sign 91)) a0 (g_mi (mX9_passes0 M a0 (fX9_sign 91)) a0 22)) = 12) → ((fX9_codeAt (mX9_passes0 M a0 (fX9_sign 91)) a0 (g_mi (mX9_passes0 M a0 (fX9_sign 91)) a0 22)) = 17) → (¬ x1 = 0) → (¬ (g_mi (g_wi (g_wi (mX9_passes0 M a0 (fX9_sign 91)) a0 22 ((g_mi (mX9_passes0 M a0 (fX9_sign 91)) a0 22) + 1)) a0 22 ((g_mi (g_wi (mX9_passes0 M a0 (fX9_sign 91)) a0 22 ((g_mi (mX9_passes0 M a0 (fX9_sign 91)) a0 22) + 1)) a0 22) + 1)) a0 24) = 0) → Q (some (.long (0))) (g_wi (g_wi (mX9_passes0 M a0 (fX9_sign 91)) a0 22 ((g_mi (mX9_passes0 M a0 (fX9_sign 91)) a0 22) + 1)) a0 22 ((g_mi (g_wi (mX9_passes0 M a0 (fX9_sign 91)) a0 22 ((g_mi (mX9_passes0 M a0 (fX9_sign 91)) a0 22) + 1)) a0 22) + 1))) (h29 : (¬ (fX9_passes0 M a0 (fX9_sign 91)) = 0) → Cn X (d + 5) 0 0 kX9_sumOf [.ref a0, .int (x1)] (mX9_passes0 M a0 (fX9_sign 91)) (fun v M1 => Go X (d + 6) mc ms kX9_partOf Q 17 [(0, .ref a0)] (v.toList ++ []) M1 0 0)) : Cn X (d + 6) mc ms kX9_partOf [.ref a0, .int (x1)] M Q := by
  refine g_meth rfl rfl (Nat.le_of_ble_eq_true rfl) rfl ?_
  refine g_aload_n 0 1 dX9_partOf_0 rfl rfl ?_
  refine g_bipush (91) 3 dX9_partOf_1 rfl rfl ?_
  refine g_callS (mc1 := 0) (ms1 := 0) (rest := [.ref a0]) (av := [.int (91)]) kX9_sign 6 dX9_partOf_3 rfl rfl mbX9_228 smX9_sign (Nat.le_of_ble_eq_true rfl) (Nat.zero_le _) (Nat.zero_le _) (tX9_sign  ?_)
  show Go X (d + 6) mc ms kX9_partOf Q 6 [(0, .ref a0), (1, .int (x1))] [.int ((fX9_sign 91)), .ref a0] M 0 0
  refine g_callV (mc1 := 0) (ms1 := 0) (b := a0) (rest := []) (av := [.int ((fX9_sign 91))]) kX9_passes0 9 dX9_partOf_6 rfl rfl mbX9_293 imX9_passes0 seX9_passes0 gcl9.1 s0.1 (Nat.le_of_ble_eq_true rfl) (Nat.zero_le _) (Nat.zero_le _) (tX9_passes0 s0 (b1) ?_)
  show Go X (d + 6) mc ms kX9_partOf Q 9 [(0, .ref a0), (1, .int (x1))] [.int ((fX9_passes0 M a0 (fX9_sign 91)))] (mX9_passes0 M a0 (fX9_sign 91)) 0 0
  refine g_if_eq 30 12 dX9_partOf_9 rfl rfl (fun c1 => ?_) (fun c1 => ?_)
  · skip
    refine g_aload_n 0 31 dX9_partOf_30 rfl rfl ?_
    refine g_aload_n 0 32 dX9_partOf_31 rfl rfl ?_
    refine g_getI 35 dX9_partOf_32 rfl flX9_269 (Sm.k (Sm.tr Sm.rf jX9_passes0) s0.1) ?_
    refine g_callV (mc1 := 0) (ms1 := 0) (b := a0) (rest := []) (av := [.int ((g_mi (mX9_passes0 M a0 (fX9_sign 91)) a0 22))]) kX9_codeAt 38 dX9_partOf_35 rfl rfl mbX9_272 imX9_codeAt seX9_codeAt gcl9.1 (Sm.k (Sm.tr Sm.rf jX9_passes0) s0.1) (Nat.le_of_ble_eq_true rfl) (Nat.zero_le _) (Nat.zero_le _) (tX9_codeAt (Mo.sm (Sm.tr Sm.rf jX9_passes0) s0) (b2 c1) ?_)
    show Go X (d + 6) mc ms kX9_partOf Q 38 [(0, .ref a0), (1, .int (x1))] [.int ((fX9_codeAt (mX9_passes0 M a0 (fX9_sign 91)) a0 (g_mi (mX9_passes0 M a0 (fX9_sign 91)) a0 22)))] (mX9_passes0 M a0 (fX9_sign 91)) 0 0
    refine g_istore_n 39 [(2, .int ((fX9_codeAt (mX9_passes0 M a0 (fX9_sign 91)) a0 (g_mi (mX9_passes0 M a0 (fX9_sign 91)) a0 22)))), (0, .ref a0), (1, .int (x1))] dX9_partOf_38 rfl (Nat.le_of_ble_eq_true rfl) rfl ?_
    refine g_iconst (0) 40 dX9_partOf_39 rfl rfl ?_
    refine g_istore_n 41 [(3, .int (0)), (2, .int ((fX9_codeAt (mX9_passes0 M a0 (fX9_sign 91)) a0 (g_mi (mX9_passes0 M a0 (fX9_sign 91)) a0 22)))), (0, .ref a0), (1, .int (x1))] dX9_partOf_40 rfl (Nat.le_of_ble_eq_true rfl) rfl ?_
    refine g_aload_n 2 42 dX9_partOf_41 rfl rfl ?_
    refine g_dup 43 dX9_partOf_42 rfl rfl ?_
    refine g_getI 46 dX9_partOf_43 rfl flX9_269 (Sm.k (Sm.tr Sm.rf jX9_passes0) s0.1) ?_
    refine g_iconst (1) 47 dX9_partOf_46 rfl rfl ?_
    refine g_iadd 48 dX9_partOf_47 rfl ?_
    refine g_putI 51 dX9_partOf_48 rfl flX9_269 (Sm.k (Sm.tr Sm.rf jX9_passes0) s0.1) ?_
    refine g_aload_n 2 52 dX9_partOf_51 rfl rfl ?_
    refine g_getI 55 dX9_partOf_52 rfl flX9_299 (Sm.k (Sm.wi (Sm.tr Sm.rf jX9_passes0)) s0.1) ?_
    refine g_if_eq 94 58 dX9_partOf_55 rfl rfl (fun c2 => ?_) (fun c2 => ?_)
    · skip
      refine g_iload_n 3 95 dX9_partOf_94 rfl rfl ?_
      refine g_if_eq 105 98 dX9_partOf_95 rfl rfl (fun c3 => ?_) (fun c3 => ?_)
      · skip
        refine g_lconst (0) 106 dX9_partOf_105 rfl rfl ?_
        exact g_lret dX9_partOf_106 rfl (Nat.zero_le _) (Nat.zero_le _) (h3 c1 c2 c3)
      · skip
        refine g_aload_n 2 99 dX9_partOf_98 rfl rfl ?_
        refine g_getI 102 dX9_partOf_99 rfl flX9_279 (Sm.k (Sm.wi (Sm.tr Sm.rf jX9_passes0)) s0.1) ?_
        refine g_if_eq 107 105 dX9_partOf_102 rfl rfl (fun c4 => ?_) (fun c4 => ?_)
        · skip
          refine g_iload_n 1 108 dX9_partOf_107 rfl rfl ?_
          refine g_bipush (50) 110 dX9_partOf_108 rfl rfl ?_
          refine g_icmp_ne 130 113 dX9_partOf_110 rfl rfl (fun c5 => ?_) (fun c5 => ?_)
          · skip
            refine g_aload_n 2 131 dX9_partOf_130 rfl rfl ?_
            refine g_getI 134 dX9_partOf_131 rfl flX9_299 (Sm.k (Sm.wi (Sm.tr Sm.rf jX9_passes0)) s0.1) ?_
            refine g_if_eq 147 137 dX9_partOf_134 rfl rfl (fun _ => ?_) (fun q => absurd c2 q)
            refine g_aload_n 2 148 dX9_partOf_147 rfl rfl ?_
            refine g_getR 151 (a0 + 12) dX9_partOf_148 rfl flX9_63 (Sm.k (Sm.wi (Sm.tr Sm.rf jX9_passes0)) s0.1) (Sm.r (Sm.wi (Sm.tr Sm.rf jX9_passes0)) s0.2.2.2.2.2.2.2.2.2.2.2.2.2.2.2.2.2.2.2.2.2.2.2.1) ?_
            refine g_iload_n 1 152 dX9_partOf_151 rfl rfl ?_
            refine g_bipush (7) 154 dX9_partOf_152 rfl rfl ?_
            refine g_isub 155 dX9_partOf_154 rfl ?_
            refine h_iaload 156 (((fX9_codeAt (mX9_passes0 M a0 (fX9_sign 91)) a0 (g_mi (mX9_passes0 M a0 (fX9_sign 91)) a0 22)) - 7)).toNatClampNeg dX9_partOf_155 rfl rfl (Sm.k (Sm.wi (Sm.tr Sm.rf jX9_passes0)) s0.2.2.2.2.2.2.2.2.2.2.2.2.2.2.2.2.2.2.2.2.2.2.2.2.1) (b4 c1 c2 c3 c4 c5) ?_
            refine g_i2l 157 dX9_partOf_156 rfl ?_
            exact g_lret dX9_partOf_157 rfl (Nat.zero_le _) (Nat.zero_le _) (h5 c1 c2 c3 c4 c5)
          · skip
            refine g_aload_n 2 114 dX9_partOf_113 rfl rfl ?_
            refine g_getR 117 (a0 + 2) dX9_partOf_114 rfl flX9_28 (Sm.k (Sm.wi (Sm.tr Sm.rf jX9_passes0)) s0.1) (Sm.r (Sm.wi (Sm.tr Sm.rf jX9_passes0)) s0.2.2.2.1) ?_
            refine g_sipush (3012) 120 dX9_partOf_117 rfl rfl ?_
            refine g_aload_n 2 121 dX9_partOf_120 rfl rfl ?_
            refine g_getI 124 dX9_partOf_121 rfl flX9_269 (Sm.k (Sm.wi (Sm.tr Sm.rf jX9_passes0)) s0.1) ?_
            refine g_iadd 125 dX9_partOf_124 rfl ?_
            refine g_iconst (1) 126 dX9_partOf_125 rfl rfl ?_
            refine g_isub 127 dX9_partOf_126 rfl ?_
            refine h_iaload 128 (((3012 + (g_mi (g_wi (mX9_passes0 M a0 (fX9_sign 91)) a0 22 ((g_mi (mX9_passes0 M a0 (fX9_sign 91)) a0 22) + 1)) a0 22)) - 1)).toNatClampNeg dX9_partOf_127 rfl rfl (Sm.k (Sm.wi (Sm.tr Sm.rf jX9_passes0)) s0.2.2.2.2.1) (b6 c1 c2 c3 c4 c5) ?_
            refine g_i2l 129 dX9_partOf_128 rfl ?_
            exact g_lret dX9_partOf_129 rfl (Nat.zero_le _) (Nat.zero_le _) (h7 c1 c2 c3 c4 c5)
        · skip
          refine g_lconst (0) 106 dX9_partOf_105 rfl rfl ?_
          exact g_lret dX9_partOf_106 rfl (Nat.zero_le _) (Nat.zero_le _) (h8 c1 c2 c3 c4)
    · skip
      refine g_iload_n 1 59 dX9_partOf_58 rfl rfl ?_
      refine g_bipush (12) 61 dX9_partOf_59 rfl rfl ?_
      refine g_icmp_eq 70 64 dX9_partOf_61 rfl rfl (fun c6 => ?_) (fun c6 => ?_)
      · skip
        refine g_aload_n 2 71 dX9_partOf_70 rfl rfl ?_
        refine g_getR 74 (a0 + 2) dX9_partOf_71 rfl flX9_28 (Sm.k (Sm.wi (Sm.tr Sm.rf jX9_passes0)) s0.1) (Sm.r (Sm.wi (Sm.tr Sm.rf jX9_passes0)) s0.2.2.2.1) ?_
        refine g_sipush (3012) 77 dX9_partOf_74 rfl rfl ?_
        refine g_aload_n 2 78 dX9_partOf_77 rfl rfl ?_
        refine g_getI 81 dX9_partOf_78 rfl flX9_269 (Sm.k (Sm.wi (Sm.tr Sm.rf jX9_passes0)) s0.1) ?_
        refine g_iadd 82 dX9_partOf_81 rfl ?_
        refine h_iaload 83 ((3012 + (g_mi (g_wi (mX9_passes0 M a0 (fX9_sign 91)) a0 22 ((g_mi (mX9_passes0 M a0 (fX9_sign 91)) a0 22) + 1)) a0 22))).toNatClampNeg dX9_partOf_82 rfl rfl (Sm.k (Sm.wi (Sm.tr Sm.rf jX9_passes0)) s0.2.2.2.2.1) (b9 c1 c2 c6) ?_
        refine g_istore_n 84 [(3, .int ((g_mi (g_wi (mX9_passes0 M a0 (fX9_sign 91)) a0 22 ((g_mi (mX9_passes0 M a0 (fX9_sign 91)) a0 22) + 1)) (a0 + 2) ((3012 + (g_mi (g_wi (mX9_passes0 M a0 (fX9_sign 91)) a0 22 ((g_mi (mX9_passes0 M a0 (fX9_sign 91)) a0 22) + 1)) a0 22))).toNatClampNeg))), (2, .int ((fX9_codeAt (mX9_passes0 M a0 (fX9_sign 91)) a0 (g_mi (mX9_passes0 M a0 (fX9_sign 91)) a0 22)))), (0, .ref a0), (1, .int (x1))] dX9_partOf_83 rfl (Nat.le_of_ble_eq_true rfl) rfl ?_
        refine g_aload_n 2 85 dX9_partOf_84 rfl rfl ?_
        refine g_dup 86 dX9_partOf_85 rfl rfl ?_
        refine g_getI 89 dX9_partOf_86 rfl flX9_269 (Sm.k (Sm.wi (Sm.tr Sm.rf jX9_passes0)) s0.1) ?_
        refine g_iconst (1) 90 dX9_partOf_89 rfl rfl ?_
        refine g_iadd 91 dX9_partOf_90 rfl ?_
        refine g_putI 94 dX9_partOf_91 rfl flX9_269 (Sm.k (Sm.wi (Sm.tr Sm.rf jX9_passes0)) s0.1) ?_
        refine g_iload_n 3 95 dX9_partOf_94 rfl rfl ?_
        refine g_if_eq 105 98 dX9_partOf_95 rfl rfl (fun c7 => ?_) (fun c7 => ?_)
        · skip
          refine g_lconst (0) 106 dX9_partOf_105 rfl rfl ?_
          exact g_lret dX9_partOf_106 rfl (Nat.zero_le _) (Nat.zero_le _) (h10 c1 c2 c6 c7)
        · skip
          refine g_aload_n 2 99 dX9_partOf_98 rfl rfl ?_
          refine g_getI 102 dX9_partOf_99 rfl flX9_279 (Sm.k (Sm.wi (Sm.wi (Sm.tr Sm.rf jX9_passes0))) s0.1) ?_
          refine g_if_eq 107 105 dX9_partOf_102 rfl rfl (fun c8 => ?_) (fun c8 => ?_)
          · skip
            refine g_iload_n 1 108 dX9_partOf_107 rfl rfl ?_
            refine g_bipush (50) 110 dX9_partOf_108 rfl rfl ?_
            refine g_icmp_ne 130 113 dX9_partOf_110 rfl rfl (fun _ => ?_) (fun q => absurd (c6.symm.trans q) (by decide))
            refine g_aload_n 2 131 dX9_partOf_130 rfl rfl ?_
            refine g_getI 134 dX9_partOf_131 rfl flX9_299 (Sm.k (Sm.wi (Sm.wi (Sm.tr Sm.rf jX9_passes0))) s0.1) ?_
            refine g_if_eq 147 137 dX9_partOf_134 rfl rfl (fun c9 => ?_) (fun c9 => ?_)
            · skip
              refine g_aload_n 2 148 dX9_partOf_147 rfl rfl ?_
              refine g_getR 151 (a0 + 12) dX9_partOf_148 rfl flX9_63 (Sm.k (Sm.wi (Sm.wi (Sm.tr Sm.rf jX9_passes0))) s0.1) (Sm.r (Sm.wi (Sm.wi (Sm.tr Sm.rf jX9_passes0))) s0.2.2.2.2.2.2.2.2.2.2.2.2.2.2.2.2.2.2.2.2.2.2.2.1) ?_
              refine g_iload_n 1 152 dX9_partOf_151 rfl rfl ?_
              refine g_bipush (7) 154 dX9_partOf_152 rfl rfl ?_
              refine g_isub 155 dX9_partOf_154 rfl ?_
              refine h_iaload 156 (((fX9_codeAt (mX9_passes0 M a0 (fX9_sign 91)) a0 (g_mi (mX9_passes0 M a0 (fX9_sign 91)) a0 22)) - 7)).toNatClampNeg dX9_partOf_155 rfl rfl (Sm.k (Sm.wi (Sm.wi (Sm.tr Sm.rf jX9_passes0))) s0.2.2.2.2.2.2.2.2.2.2.2.2.2.2.2.2.2.2.2.2.2.2.2.2.1) (b11 c1 c2 c6 c7 c8 c9) ?_
              refine g_i2l 157 dX9_partOf_156 rfl ?_
              exact g_lret dX9_partOf_157 rfl (Nat.zero_le _) (Nat.zero_le _) (h12 c1 c2 c6 c7 c8 c9)
            · skip
              refine g_aload_n 2 138 dX9_partOf_137 rfl rfl ?_
              refine g_iload_n 1 139 dX9_partOf_138 rfl rfl ?_
              refine g_iload_n 0 140 dX9_partOf_139 rfl rfl ?_
              refine g_callV (mc1 := 0) (ms1 := 0) (b := a0) (rest := []) (av := [.int ((fX9_codeAt (mX9_passes0 M a0 (fX9_sign 91)) a0 (g_mi (mX9_passes0 M a0 (fX9_sign 91)) a0 22))), .int ((g_mi (g_wi (mX9_passes0 M a0 (fX9_sign 91)) a0 22 ((g_mi (mX9_passes0 M a0 (fX9_sign 91)) a0 22) + 1)) (a0 + 2) ((3012 + (g_mi (g_wi (mX9_passes0 M a0 (fX9_sign 91)) a0 22 ((g_mi (mX9_passes0 M a0 (fX9_sign 91)) a0 22) + 1)) a0 22))).toNatClampNeg))]) kX9_orderValue 143 dX9_partOf_140 rfl rfl mbX9_302 imX9_orderValue seX9_orderValue gcl9.1 (Sm.k (Sm.wi (Sm.wi (Sm.tr Sm.rf jX9_passes0))) s0.1) (Nat.le_of_ble_eq_true rfl) (Nat.zero_le _) (Nat.zero_le _) (tX9_orderValue (N := N) (Mo.sm (Sm.wi (Sm.wi (Sm.tr Sm.rf jX9_passes0))) s0) (b13 c1 c2 c6 c7 c8 c9) ?_)
              show Go X (d + 6) mc ms kX9_partOf Q 143 [(3, .int ((g_mi (g_wi (mX9_passes0 M a0 (fX9_sign 91)) a0 22 ((g_mi (mX9_passes0 M a0 (fX9_sign 91)) a0 22) + 1)) (a0 + 2) ((3012 + (g_mi (g_wi (mX9_passes0 M a0 (fX9_sign 91)) a0 22 ((g_mi (mX9_passes0 M a0 (fX9_sign 91)) a0 22) + 1)) a0 22))).toNatClampNeg))), (2, .int ((fX9_codeAt (mX9_passes0 M a0 (fX9_sign 91)) a0 (g_mi (mX9_passes0 M a0 (fX9_sign 91)) a0 22)))), (0, .ref a0), (1, .int (x1))] [.int ((fX9_orderValue N (g_wi (g_wi (mX9_passes0 M a0 (fX9_sign 91)) a0 22 ((g_mi (mX9_passes0 M a0 (fX9_sign 91)) a0 22) + 1)) a0 22 ((g_mi (g_wi (mX9_passes0 M a0 (fX9_sign 91)) a0 22 ((g_mi (mX9_passes0 M a0 (fX9_sign 91)) a0 22) + 1)) a0 22) + 1)) a0 (fX9_codeAt (mX9_passes0 M a0 (fX9_sign 91)) a0 (g_mi (mX9_passes0 M a0 (fX9_sign 91)) a0 22)) (g_mi (g_wi (mX9_passes0 M a0 (fX9_sign 91)) a0 22 ((g_mi (mX9_passes0 M a0 (fX9_sign 91)) a0 22) + 1)) (a0 + 2) ((3012 + (g_mi (g_wi (mX9_passes0 M a0 (fX9_sign 91)) a0 22 ((g_mi (mX9_passes0 M a0 (fX9_sign 91)) a0 22) + 1)) a0 22))).toNatClampNeg)))] (g_wi (g_wi (mX9_passes0 M a0 (fX9_sign 91)) a0 22 ((g_mi (mX9_passes0 M a0 (fX9_sign 91)) a0 22) + 1)) a0 22 ((g_mi (g_wi (mX9_passes0 M a0 (fX9_sign 91)) a0 22 ((g_mi (mX9_passes0 M a0 (fX9_sign 91)) a0 22) + 1)) a0 22) + 1)) 0 0
              refine g_i2l 144 dX9_partOf_143 rfl ?_
              refine g_goto 157 dX9_partOf_144 rfl ?_
              exact g_lret dX9_partOf_157 rfl (Nat.zero_le _) (Nat.zero_le _) (h14 c1 c2 c6 c7 c8 c9)
          · skip
            refine g_lconst (0) 106 dX9_partOf_105 rfl rfl ?_
            exact g_lret dX9_partOf_106 rfl (Nat.zero_le _) (Nat.zero_le _) (h15 c1 c2 c6 c7 c8)
      · skip
        refine g_iload_n 1 65 dX9_partOf_64 rfl rfl ?_
        refine g_bipush (17) 67 dX9_partOf_65 rfl rfl ?_
        refine g_icmp_ne 94 70 dX9_partOf_67 rfl rfl (fun c10 => ?_) (fun c10 => ?_)
        · skip
          refine g_iload_n 3 95 dX9_partOf_94 rfl rfl ?_
          refine g_if_eq 105 98 dX9_partOf_95 rfl rfl (fun c11 => ?_) (fun c11 => ?_)
          · skip
            refine g_lconst (0) 106 dX9_partOf_105 rfl rfl ?_
            exact g_lret dX9_partOf_106 rfl (Nat.zero_le _) (Nat.zero_le _) (h16 c1 c2 c6 c10 c11)
          · skip
            refine g_aload_n 2 99 dX9_partOf_98 rfl rfl ?_
            refine g_getI 102 dX9_partOf_99 rfl flX9_279 (Sm.k (Sm.wi (Sm.tr Sm.rf jX9_passes0)) s0.1) ?_
            refine g_if_eq 107 105 dX9_partOf_102 rfl rfl (fun c12 => ?_) (fun c12 => ?_)
            · skip
              refine g_iload_n 1 108 dX9_partOf_107 rfl rfl ?_
              refine g_bipush (50) 110 dX9_partOf_108 rfl rfl ?_
              refine g_icmp_ne 130 113 dX9_partOf_110 rfl rfl (fun c13 => ?_) (fun c13 => ?_)
              · skip
                refine g_aload_n 2 131 dX9_partOf_130 rfl rfl ?_
                refine g_getI 134 dX9_partOf_131 rfl flX9_299 (Sm.k (Sm.wi (Sm.tr Sm.rf jX9_passes0)) s0.1) ?_
                refine g_if_eq 147 137 dX9_partOf_134 rfl rfl (fun q => absurd q c2) (fun _ => ?_)
                refine g_aload_n 2 138 dX9_partOf_137 rfl rfl ?_
                refine g_iload_n 1 139 dX9_partOf_138 rfl rfl ?_
                refine g_iload_n 0 140 dX9_partOf_139 rfl rfl ?_
                refine g_callV (mc1 := 0) (ms1 := 0) (b := a0) (rest := []) (av := [.int ((fX9_codeAt (mX9_passes0 M a0 (fX9_sign 91)) a0 (g_mi (mX9_passes0 M a0 (fX9_sign 91)) a0 22))), .int (0)]) kX9_orderValue 143 dX9_partOf_140 rfl rfl mbX9_302 imX9_orderValue seX9_orderValue gcl9.1 (Sm.k (Sm.wi (Sm.tr Sm.rf jX9_passes0)) s0.1) (Nat.le_of_ble_eq_true rfl) (Nat.zero_le _) (Nat.zero_le _) (tX9_orderValue (N := N) (Mo.sm (Sm.wi (Sm.tr Sm.rf jX9_passes0)) s0) (b17 c1 c2 c6 c10 c11 c12 c13) ?_)
                show Go X (d + 6) mc ms kX9_partOf Q 143 [(3, .int (0)), (2, .int ((fX9_codeAt (mX9_passes0 M a0 (fX9_sign 91)) a0 (g_mi (mX9_passes0 M a0 (fX9_sign 91)) a0 22)))), (0, .ref a0), (1, .int (x1))] [.int ((fX9_orderValue N (g_wi (mX9_passes0 M a0 (fX9_sign 91)) a0 22 ((g_mi (mX9_passes0 M a0 (fX9_sign 91)) a0 22) + 1)) a0 (fX9_codeAt (mX9_passes0 M a0 (fX9_sign 91)) a0 (g_mi (mX9_passes0 M a0 (fX9_sign 91)) a0 22)) 0))] (g_wi (mX9_passes0 M a0 (fX9_sign 91)) a0 22 ((g_mi (mX9_passes0 M a0 (fX9_sign 91)) a0 22) + 1)) 0 0
                refine g_i2l 144 dX9_partOf_143 rfl ?_
                refine g_goto 157 dX9_partOf_144 rfl ?_
                exact g_lret dX9_partOf_157 rfl (Nat.zero_le _) (Nat.zero_le _) (h18 c1 c2 c6 c10 c11 c12 c13)
              · skip
                refine g_aload_n 2 114 dX9_partOf_113 rfl rfl ?_
                refine g_getR 117 (a0 + 2) dX9_partOf_114 rfl flX9_28 (Sm.k (Sm.wi (Sm.tr Sm.rf jX9_passes0)) s0.1) (Sm.r (Sm.wi (Sm.tr Sm.rf jX9_passes0)) s0.2.2.2.1) ?_
                refine g_sipush (3012) 120 dX9_partOf_117 rfl rfl ?_
                refine g_aload_n 2 121 dX9_partOf_120 rfl rfl ?_
                refine g_getI 124 dX9_partOf_121 rfl flX9_269 (Sm.k (Sm.wi (Sm.tr Sm.rf jX9_passes0)) s0.1) ?_
                refine g_iadd 125 dX9_partOf_124 rfl ?_
                refine g_iconst (1) 126 dX9_partOf_125 rfl rfl ?_
                refine g_isub 127 dX9_partOf_126 rfl ?_
                refine h_iaload 128 (((3012 + (g_mi (g_wi (mX9_passes0 M a0 (fX9_sign 91)) a0 22 ((g_mi (mX9_passes0 M a0 (fX9_sign 91)) a0 22) + 1)) a0 22)) - 1)).toNatClampNeg dX9_partOf_127 rfl rfl (Sm.k (Sm.wi (Sm.tr Sm.rf jX9_passes0)) s0.2.2.2.2.1) (b19 c1 c2 c6 c10 c11 c12 c13) ?_
                refine g_i2l 129 dX9_partOf_128 rfl ?_
                exact g_lret dX9_partOf_129 rfl (Nat.zero_le _) (Nat.zero_le _) (h20 c1 c2 c6 c10 c11 c12 c13)
            · skip
              refine g_lconst (0) 106 dX9_partOf_105 rfl rfl ?_
              exact g_lret dX9_partOf_106 rfl (Nat.zero_le _) (Nat.zero_le _) (h21 c1 c2 c6 c10 c11 c12)
        · skip
          refine g_aload_n 2 71 dX9_partOf_70 rfl rfl ?_
          refine g_getR 74 (a0 + 2) dX9_partOf_71 rfl flX9_28 (Sm.k (Sm.wi (Sm.tr Sm.rf jX9_passes0)) s0.1) (Sm.r (Sm.wi (Sm.tr Sm.rf jX9_passes0)) s0.2.2.2.1) ?_
          refine g_sipush (3012) 77 dX9_partOf_74 rfl rfl ?_
          refine g_aload_n 2 78 dX9_partOf_77 rfl rfl ?_
          refine g_getI 81 dX9_partOf_78 rfl flX9_269 (Sm.k (Sm.wi (Sm.tr Sm.rf jX9_passes0)) s0.1) ?_
          refine g_iadd 82 dX9_partOf_81 rfl ?_
          refine h_iaload 83 ((3012 + (g_mi (g_wi (mX9_passes0 M a0 (fX9_sign 91)) a0 22 ((g_mi (mX9_passes0 M a0 (fX9_sign 91)) a0 22) + 1)) a0 22))).toNatClampNeg dX9_partOf_82 rfl rfl (Sm.k (Sm.wi (Sm.tr Sm.rf jX9_passes0)) s0.2.2.2.2.1) (b22 c1 c2 c6 c10) ?_
          refine g_istore_n 84 [(3, .int ((g_mi (g_wi (mX9_passes0 M a0 (fX9_sign 91)) a0 22 ((g_mi (mX9_passes0 M a0 (fX9_sign 91)) a0 22) + 1)) (a0 + 2) ((3012 + (g_mi (g_wi (mX9_passes0 M a0 (fX9_sign 91)) a0 22 ((g_mi (mX9_passes0 M a0 (fX9_sign 91)) a0 22) + 1)) a0 22))).toNatClampNeg))), (2, .int ((fX9_codeAt (mX9_passes0 M a0 (fX9_sign 91)) a0 (g_mi (mX9_passes0 M a0 (fX9_sign 91)) a0 22)))), (0, .ref a0), (1, .int (x1))] dX9_partOf_83 rfl (Nat.le_of_ble_eq_true rfl) rfl ?_
          refine g_aload_n 2 85 dX9_partOf_84 rfl rfl ?_
          refine g_dup 86 dX9_partOf_85 rfl rfl ?_
          refine g_getI 89 dX9_partOf_86 rfl flX9_269 (Sm.k (Sm.wi (Sm.tr Sm.rf jX9_passes0)) s0.1) ?_
          refine g_iconst (1) 90 dX9_partOf_89 rfl rfl ?_
          refine g_iadd 91 dX9_partOf_90 rfl ?_
          refine g_putI 94 dX9_partOf_91 rfl flX9_269 (Sm.k (Sm.wi (Sm.tr Sm.rf jX9_passes0)) s0.1) ?_
          refine g_iload_n 3 95 dX9_partOf_94 rfl rfl ?_
          refine g_if_eq 105 98 dX9_partOf_95 rfl rfl (fun c14 => ?_) (fun c14 => ?_)
          · skip
            refine g_lconst (0) 106 dX9_partOf_105 rfl rfl ?_
            exact g_lret dX9_partOf_106 rfl (Nat.zero_le _) (Nat.zero_le _) (h23 c1 c2 c6 c10 c14)
          · skip
            refine g_aload_n 2 99 dX9_partOf_98 rfl rfl ?_
            refine g_getI 102 dX9_partOf_99 rfl flX9_279 (Sm.k (Sm.wi (Sm.wi (Sm.tr Sm.rf jX9_passes0))) s0.1) ?_
            refine g_if_eq 107 105 dX9_partOf_102 rfl rfl (fun c15 => ?_) (fun c15 => ?_)
            · skip
              refine g_iload_n 1 108 dX9_partOf_107 rfl rfl ?_
              refine g_bipush (50) 110 dX9_partOf_108 rfl rfl ?_
              refine g_icmp_ne 130 113 dX9_partOf_110 rfl rfl (fun _ => ?_) (fun q => absurd (c10.symm.trans q) (by decide))
              refine g_aload_n 2 131 dX9_partOf_130 rfl rfl ?_
              refine g_getI 134 dX9_partOf_131 rfl flX9_299 (Sm.k (Sm.wi (Sm.wi (Sm.tr Sm.rf jX9_passes0))) s0.1) ?_
              refine g_if_eq 147 137 dX9_partOf_134 rfl rfl (fun c16 => ?_) (fun c16 => ?_)
              · skip
                refine g_aload_n 2 148 dX9_partOf_147 rfl rfl ?_
                refine g_getR 151 (a0 + 12) dX9_partOf_148 rfl flX9_63 (Sm.k (Sm.wi (Sm.wi (Sm.tr Sm.rf jX9_passes0))) s0.1) (Sm.r (Sm.wi (Sm.wi (Sm.tr Sm.rf jX9_passes0))) s0.2.2.2.2.2.2.2.2.2.2.2.2.2.2.2.2.2.2.2.2.2.2.2.1) ?_
                refine g_iload_n 1 152 dX9_partOf_151 rfl rfl ?_
                refine g_bipush (7) 154 dX9_partOf_152 rfl rfl ?_
                refine g_isub 155 dX9_partOf_154 rfl ?_
                refine h_iaload 156 (((fX9_codeAt (mX9_passes0 M a0 (fX9_sign 91)) a0 (g_mi (mX9_passes0 M a0 (fX9_sign 91)) a0 22)) - 7)).toNatClampNeg dX9_partOf_155 rfl rfl (Sm.k (Sm.wi (Sm.wi (Sm.tr Sm.rf jX9_passes0))) s0.2.2.2.2.2.2.2.2.2.2.2.2.2.2.2.2.2.2.2.2.2.2.2.2.1) (b24 c1 c2 c6 c10 c14 c15 c16) ?_
                refine g_i2l 157 dX9_partOf_156 rfl ?_
                exact g_lret dX9_partOf_157 rfl (Nat.zero_le _) (Nat.zero_le _) (h25 c1 c2 c6 c10 c14 c15 c16)
              · skip
                refine g_aload_n 2 138 dX9_partOf_137 rfl rfl ?_
                refine g_iload_n 1 139 dX9_partOf_138 rfl rfl ?_
                refine g_iload_n 0 140 dX9_partOf_139 rfl rfl ?_
                refine g_callV (mc1 := 0) (ms1 := 0) (b := a0) (rest := []) (av := [.int ((fX9_codeAt (mX9_passes0 M a0 (fX9_sign 91)) a0 (g_mi (mX9_passes0 M a0 (fX9_sign 91)) a0 22))), .int ((g_mi (g_wi (mX9_passes0 M a0 (fX9_sign 91)) a0 22 ((g_mi (mX9_passes0 M a0 (fX9_sign 91)) a0 22) + 1)) (a0 + 2) ((3012 + (g_mi (g_wi (mX9_passes0 M a0 (fX9_sign 91)) a0 22 ((g_mi (mX9_passes0 M a0 (fX9_sign 91)) a0 22) + 1)) a0 22))).toNatClampNeg))]) kX9_orderValue 143 dX9_partOf_140 rfl rfl mbX9_302 imX9_orderValue seX9_orderValue gcl9.1 (Sm.k (Sm.wi (Sm.wi (Sm.tr Sm.rf jX9_passes0))) s0.1) (Nat.le_of_ble_eq_true rfl) (Nat.zero_le _) (Nat.zero_le _) (tX9_orderValue (N := N) (Mo.sm (Sm.wi (Sm.wi (Sm.tr Sm.rf jX9_passes0))) s0) (b26 c1 c2 c6 c10 c14 c15 c16) ?_)
                show Go X (d + 6) mc ms kX9_partOf Q 143 [(3, .int ((g_mi (g_wi (mX9_passes0 M a0 (fX9_sign 91)) a0 22 ((g_mi (mX9_passes0 M a0 (fX9_sign 91)) a0 22) + 1)) (a0 + 2) ((3012 + (g_mi (g_wi (mX9_passes0 M a0 (fX9_sign 91)) a0 22 ((g_mi (mX9_passes0 M a0 (fX9_sign 91)) a0 22) + 1)) a0 22))).toNatClampNeg))), (2, .int ((fX9_codeAt (mX9_passes0 M a0 (fX9_sign 91)) a0 (g_mi (mX9_passes0 M a0 (fX9_sign 91)) a0 22)))), (0, .ref a0), (1, .int (x1))] [.int ((fX9_orderValue N (g_wi (g_wi (mX9_passes0 M a0 (fX9_sign 91)) a0 22 ((g_mi (mX9_passes0 M a0 (fX9_sign 91)) a0 22) + 1)) a0 22 ((g_mi (g_wi (mX9_passes0 M a0 (fX9_sign 91)) a0 22 ((g_mi (mX9_passes0 M a0 (fX9_sign 91)) a0 22) + 1)) a0 22) + 1)) a0 (fX9_codeAt (mX9_passes0 M a0 (fX9_sign 91)) a0 (g_mi (mX9_passes0 M a0 (fX9_sign 91)) a0 22)) (g_mi (g_wi (mX9_passes0 M a0 (fX9_sign 91)) a0 22 ((g_mi (mX9_passes0 M a0 (fX9_sign 91)) a0 22) + 1)) (a0 + 2) ((3012 + (g_mi (g_wi (mX9_passes0 M a0 (fX9_sign 91)) a0 22 ((g_mi (mX9_passes0 M a0 (fX9_sign 91)) a0 22) + 1)) a0 22))).toNatClampNeg)))] (g_wi (g_wi (mX9_passes0 M a0 (fX9_sign 91)) a0 22 ((g_mi (mX9_passes0 M a0 (fX9_sign 91)) a0 22) + 1)) a0 22 ((g_mi (g_wi (mX9_passes0 M a0 (fX9_sign 91)) a0 22 ((g_mi (mX9_passes0 M a0 (fX9_sign 91)) a0 22) + 1)) a0 22) + 1)) 0 0
                refine g_i2l 144 dX9_partOf_143 rfl ?_
                refine g_goto 157 dX9_partOf_144 rfl ?_
                exact g_lret dX9_partOf_157 rfl (Nat.zero_le _) (Nat.zero_le _) (h27 c1 c2 c6 c10 c14 c15 c16)
            · skip
              refine g_lconst (0) 106 dX9_partOf_105 rfl rfl ?_
              exact g_lret dX9_partOf_106 rfl (Nat.zero_le _) (Nat.zero_le _) (h28 c1 c2 c6 c10 c14 c15)
  · skip
    refine g_aload_n 0 13 dX9_partOf_12 rfl rfl ?_
    refine g_iload_n 1 14 dX9_partOf_13 rfl rfl ?_
    refine g_sub [0] [(0, .ref a0)] rfl ?_
    exact g_callV (mc1 := 0) (ms1 := 0) (b := a0) (rest := []) (av := [.int (x1)]) kX9_sumOf 17 dX9_partOf_14 rfl rfl mbX9_296 imX9_sumOf seX9_sumOf gcl9.1 (Sm.k (Sm.tr Sm.rf jX9_passes0) s0.1) (Nat.le_of_ble_eq_true rfl) (Nat.zero_le _) (Nat.zero_le _) (h29 c1)

set_option maxRecDepth 4000 in
theorem sX9_partOf_17 {X : gX} {d mc ms : Nat} {Q : Option Value → gM → Prop} {M : gM} {c z : Nat} {a0 : Nat} {ys0 : Int64} (s0 : Mo M a0) (h1 : Q (some (.long (ys0))) (g_wi M a0 22 ((g_mi M a0 22) + 1))) (w2 : c ≤ mc) (w3 : z ≤ ms) : Go X (d + 6) mc ms kX9_partOf Q 17 [(0, .ref a0)] [.long (ys0)] M c z := by
  refine g_lstore_n 18 [(2, .long (ys0)), (0, .ref a0)] dX9_partOf_17 rfl (Nat.le_of_ble_eq_true rfl) rfl ?_
  refine g_aload_n 1 19 dX9_partOf_18 rfl rfl ?_
  refine g_dup 20 dX9_partOf_19 rfl rfl ?_
  refine g_getI 23 dX9_partOf_20 rfl flX9_269 s0.1 ?_
  refine g_iconst (1) 24 dX9_partOf_23 rfl rfl ?_
  refine g_iadd 25 dX9_partOf_24 rfl ?_
  refine g_putI 28 dX9_partOf_25 rfl flX9_269 s0.1 ?_
  refine g_lload_n 0 29 dX9_partOf_28 rfl rfl ?_
  exact g_lret dX9_partOf_29 rfl (w2) (w3) (h1)

def bX9_testOf_0 (N : Nat) (M : gM) (f : Nat → Nat → Int32) (a0 : Nat) (x1 : Int32) (kw : Nat → (Nat → Nat → Int32) → Nat → Int32 → Int32 → Int32 → Int64 → Int64 → Int32 → Int32 × Int64 × (Nat → Nat → Int32)) : Int32 × Int64 × (Nat → Nat → Int32) := (kw 1 (kw 4 (g_mi (g_wm M f (g_ml M))) a0 x1 0 0 0 0 0).2.2 a0 x1 (kw 4 (g_mi (g_wm M f (g_ml M))) a0 x1 0 0 0 0 0).1 0 0 0 0)
def eX9_testOf_0 (N : Nat) (M : gM) (f : Nat → Nat → Int32) (a0 : Nat) (x1 : Int32) (kw : Nat → (Nat → Nat → Int32) → Nat → Int32 → Int32 → Int32 → Int64 → Int64 → Int32 → Int32 × Int64 × (Nat → Nat → Int32)) (kv : Nat → (Nat → Nat → Int32) → Nat → Int32 → Int32 → Int32 → Int64 → Int64 → Int32 → Prop) : Prop := (kv 4 (g_mi (g_wm M f (g_ml M))) a0 x1 0 0 0 0 0 ∧ (kv 1 (kw 4 (g_mi (g_wm M f (g_ml M))) a0 x1 0 0 0 0 0).2.2 a0 x1 (kw 4 (g_mi (g_wm M f (g_ml M))) a0 x1 0 0 0 0 0).1 0 0 0 0))
def bX9_testOf_5 (N : Nat) (M : gM) (f : Nat → Nat → Int32) (a0 : Nat) (x1 : Int32) (xs0 : Int32) (kw : Nat → (Nat → Nat → Int32) → Nat → Int32 → Int32 → Int32 → Int64 → Int64 → Int32 → Int32 × Int64 × (Nat → Nat → Int32)) : Int32 × Int64 × (Nat → Nat → Int32) := (kw 2 (g_mi (g_wm M f (g_ml M))) a0 x1 0 xs0 0 0 0)
def eX9_testOf_5 (N : Nat) (M : gM) (f : Nat → Nat → Int32) (a0 : Nat) (x1 : Int32) (xs0 : Int32) (kw : Nat → (Nat → Nat → Int32) → Nat → Int32 → Int32 → Int32 → Int64 → Int64 → Int32 → Int32 × Int64 × (Nat → Nat → Int32)) (kv : Nat → (Nat → Nat → Int32) → Nat → Int32 → Int32 → Int32 → Int64 → Int64 → Int32 → Prop) : Prop := (kv 2 (g_mi (g_wm M f (g_ml M))) a0 x1 0 xs0 0 0 0)
def bX9_testOf_6 (N : Nat) (M : gM) (f : Nat → Nat → Int32) (a0 : Nat) (x1 : Int32) (x2 : Int32) (kw : Nat → (Nat → Nat → Int32) → Nat → Int32 → Int32 → Int32 → Int64 → Int64 → Int32 → Int32 × Int64 × (Nat → Nat → Int32)) : Int32 × Int64 × (Nat → Nat → Int32) := (if (fX9_passes0 (g_wm M f (g_ml M)) a0 4) = 0 then (x2, 0, g_mi (mX9_passes0 (g_wm M f (g_ml M)) a0 4)) else (if x1 = 0 then (kw 3 (kw 4 (g_mi (mX9_passes0 (g_wm M f (g_ml M)) a0 4)) a0 0 0 0 0 0 0).2.2 a0 x1 (kw 4 (g_mi (mX9_passes0 (g_wm M f (g_ml M)) a0 4)) a0 0 0 0 0 0 0).1 x2 0 0 0) else (if x2 = 0 then (kw 3 (kw 4 (g_mi (mX9_passes0 (g_wm M f (g_ml M)) a0 4)) a0 1 0 0 0 0 0).2.2 a0 x1 (kw 4 (g_mi (mX9_passes0 (g_wm M f (g_ml M)) a0 4)) a0 1 0 0 0 0 0).1 x2 0 0 0) else (kw 3 (kw 4 (g_mi (mX9_passes0 (g_wm M f (g_ml M)) a0 4)) a0 0 0 0 0 0 0).2.2 a0 x1 (kw 4 (g_mi (mX9_passes0 (g_wm M f (g_ml M)) a0 4)) a0 0 0 0 0 0 0).1 x2 0 0 0))))
def eX9_testOf_6 (N : Nat) (M : gM) (f : Nat → Nat → Int32) (a0 : Nat) (x1 : Int32) (x2 : Int32) (kw : Nat → (Nat → Nat → Int32) → Nat → Int32 → Int32 → Int32 → Int64 → Int64 → Int32 → Int32 × Int64 × (Nat → Nat → Int32)) (kv : Nat → (Nat → Nat → Int32) → Nat → Int32 → Int32 → Int32 → Int64 → Int64 → Int32 → Prop) : Prop := (EX9_passes0 (g_wm M f (g_ml M)) a0 4) ∧ (((fX9_passes0 (g_wm M f (g_ml M)) a0 4) = 0) → x2 = 0 ∨ x2 = 1) ∧ (if (fX9_passes0 (g_wm M f (g_ml M)) a0 4) = 0 then True else (if x1 = 0 then (kv 4 (g_mi (mX9_passes0 (g_wm M f (g_ml M)) a0 4)) a0 0 0 0 0 0 0 ∧ (kv 3 (kw 4 (g_mi (mX9_passes0 (g_wm M f (g_ml M)) a0 4)) a0 0 0 0 0 0 0).2.2 a0 x1 (kw 4 (g_mi (mX9_passes0 (g_wm M f (g_ml M)) a0 4)) a0 0 0 0 0 0 0).1 x2 0 0 0)) else (if x2 = 0 then (kv 4 (g_mi (mX9_passes0 (g_wm M f (g_ml M)) a0 4)) a0 1 0 0 0 0 0 ∧ (kv 3 (kw 4 (g_mi (mX9_passes0 (g_wm M f (g_ml M)) a0 4)) a0 1 0 0 0 0 0).2.2 a0 x1 (kw 4 (g_mi (mX9_passes0 (g_wm M f (g_ml M)) a0 4)) a0 1 0 0 0 0 0).1 x2 0 0 0)) else (kv 4 (g_mi (mX9_passes0 (g_wm M f (g_ml M)) a0 4)) a0 0 0 0 0 0 0 ∧ (kv 3 (kw 4 (g_mi (mX9_passes0 (g_wm M f (g_ml M)) a0 4)) a0 0 0 0 0 0 0).2.2 a0 x1 (kw 4 (g_mi (mX9_passes0 (g_wm M f (g_ml M)) a0 4)) a0 0 0 0 0 0 0).1 x2 0 0 0)))))
def bX9_testOf_31 (N : Nat) (M : gM) (f : Nat → Nat → Int32) (a0 : Nat) (x1 : Int32) (x2 : Int32) (xs0 : Int32) (kw : Nat → (Nat → Nat → Int32) → Nat → Int32 → Int32 → Int32 → Int64 → Int64 → Int32 → Int32 × Int64 × (Nat → Nat → Int32)) : Int32 × Int64 × (Nat → Nat → Int32) := (if x2 = 0 then (if xs0 = 0 then (kw 2 (g_mi (g_wm M f (g_ml M))) a0 x1 0 0 0 0 0) else (kw 2 (g_mi (g_wm M f (g_ml M))) a0 x1 0 1 0 0 0)) else (kw 2 (g_mi (g_wm M f (g_ml M))) a0 x1 0 1 0 0 0))
def eX9_testOf_31 (N : Nat) (M : gM) (f : Nat → Nat → Int32) (a0 : Nat) (x1 : Int32) (x2 : Int32) (xs0 : Int32) (kw : Nat → (Nat → Nat → Int32) → Nat → Int32 → Int32 → Int32 → Int64 → Int64 → Int32 → Int32 × Int64 × (Nat → Nat → Int32)) (kv : Nat → (Nat → Nat → Int32) → Nat → Int32 → Int32 → Int32 → Int64 → Int64 → Int32 → Prop) : Prop := (if x2 = 0 then (if xs0 = 0 then (kv 2 (g_mi (g_wm M f (g_ml M))) a0 x1 0 0 0 0 0) else (kv 2 (g_mi (g_wm M f (g_ml M))) a0 x1 0 1 0 0 0)) else (kv 2 (g_mi (g_wm M f (g_ml M))) a0 x1 0 1 0 0 0))
def bX9_bothOf_0 (N : Nat) (M : gM) (f : Nat → Nat → Int32) (a0 : Nat) (x1 : Int32) (kw : Nat → (Nat → Nat → Int32) → Nat → Int32 → Int32 → Int32 → Int64 → Int64 → Int32 → Int32 × Int64 × (Nat → Nat → Int32)) : Int32 × Int64 × (Nat → Nat → Int32) := (kw 5 (kw 8 (g_mi (g_wm M f (g_ml M))) a0 x1 0 0 0 0 0).2.2 a0 x1 (kw 8 (g_mi (g_wm M f (g_ml M))) a0 x1 0 0 0 0 0).1 0 0 0 0)
def eX9_bothOf_0 (N : Nat) (M : gM) (f : Nat → Nat → Int32) (a0 : Nat) (x1 : Int32) (kw : Nat → (Nat → Nat → Int32) → Nat → Int32 → Int32 → Int32 → Int64 → Int64 → Int32 → Int32 × Int64 × (Nat → Nat → Int32)) (kv : Nat → (Nat → Nat → Int32) → Nat → Int32 → Int32 → Int32 → Int64 → Int64 → Int32 → Prop) : Prop := (kv 8 (g_mi (g_wm M f (g_ml M))) a0 x1 0 0 0 0 0 ∧ (kv 5 (kw 8 (g_mi (g_wm M f (g_ml M))) a0 x1 0 0 0 0 0).2.2 a0 x1 (kw 8 (g_mi (g_wm M f (g_ml M))) a0 x1 0 0 0 0 0).1 0 0 0 0))
def bX9_bothOf_5 (N : Nat) (M : gM) (f : Nat → Nat → Int32) (a0 : Nat) (x1 : Int32) (xs0 : Int32) (kw : Nat → (Nat → Nat → Int32) → Nat → Int32 → Int32 → Int32 → Int64 → Int64 → Int32 → Int32 × Int64 × (Nat → Nat → Int32)) : Int32 × Int64 × (Nat → Nat → Int32) := (kw 6 (g_mi (g_wm M f (g_ml M))) a0 x1 0 xs0 0 0 0)
def eX9_bothOf_5 (N : Nat) (M : gM) (f : Nat → Nat → Int32) (a0 : Nat) (x1 : Int32) (xs0 : Int32) (kw : Nat → (Nat → Nat → Int32) → Nat → Int32 → Int32 → Int32 → Int64 → Int64 → Int32 → Int32 × Int64 × (Nat → Nat → Int32)) (kv : Nat → (Nat → Nat → Int32) → Nat → Int32 → Int32 → Int32 → Int64 → Int64 → Int32 → Prop) : Prop := (kv 6 (g_mi (g_wm M f (g_ml M))) a0 x1 0 xs0 0 0 0)
def bX9_bothOf_6 (N : Nat) (M : gM) (f : Nat → Nat → Int32) (a0 : Nat) (x1 : Int32) (x2 : Int32) (kw : Nat → (Nat → Nat → Int32) → Nat → Int32 → Int32 → Int32 → Int64 → Int64 → Int32 → Int32 × Int64 × (Nat → Nat → Int32)) : Int32 × Int64 × (Nat → Nat → Int32) := (if (fX9_passes0 (g_wm M f (g_ml M)) a0 5) = 0 then (x2, 0, g_mi (mX9_passes0 (g_wm M f (g_ml M)) a0 5)) else (if x1 = 0 then (kw 7 (kw 8 (g_mi (mX9_passes0 (g_wm M f (g_ml M)) a0 5)) a0 0 0 0 0 0 0).2.2 a0 x1 (kw 8 (g_mi (mX9_passes0 (g_wm M f (g_ml M)) a0 5)) a0 0 0 0 0 0 0).1 x2 0 0 0) else (if x2 = 0 then (kw 7 (kw 8 (g_mi (mX9_passes0 (g_wm M f (g_ml M)) a0 5)) a0 0 0 0 0 0 0).2.2 a0 x1 (kw 8 (g_mi (mX9_passes0 (g_wm M f (g_ml M)) a0 5)) a0 0 0 0 0 0 0).1 x2 0 0 0) else (kw 7 (kw 8 (g_mi (mX9_passes0 (g_wm M f (g_ml M)) a0 5)) a0 1 0 0 0 0 0).2.2 a0 x1 (kw 8 (g_mi (mX9_passes0 (g_wm M f (g_ml M)) a0 5)) a0 1 0 0 0 0 0).1 x2 0 0 0))))
def eX9_bothOf_6 (N : Nat) (M : gM) (f : Nat → Nat → Int32) (a0 : Nat) (x1 : Int32) (x2 : Int32) (kw : Nat → (Nat → Nat → Int32) → Nat → Int32 → Int32 → Int32 → Int64 → Int64 → Int32 → Int32 × Int64 × (Nat → Nat → Int32)) (kv : Nat → (Nat → Nat → Int32) → Nat → Int32 → Int32 → Int32 → Int64 → Int64 → Int32 → Prop) : Prop := (EX9_passes0 (g_wm M f (g_ml M)) a0 5) ∧ (((fX9_passes0 (g_wm M f (g_ml M)) a0 5) = 0) → x2 = 0 ∨ x2 = 1) ∧ (if (fX9_passes0 (g_wm M f (g_ml M)) a0 5) = 0 then True else (if x1 = 0 then (kv 8 (g_mi (mX9_passes0 (g_wm M f (g_ml M)) a0 5)) a0 0 0 0 0 0 0 ∧ (kv 7 (kw 8 (g_mi (mX9_passes0 (g_wm M f (g_ml M)) a0 5)) a0 0 0 0 0 0 0).2.2 a0 x1 (kw 8 (g_mi (mX9_passes0 (g_wm M f (g_ml M)) a0 5)) a0 0 0 0 0 0 0).1 x2 0 0 0)) else (if x2 = 0 then (kv 8 (g_mi (mX9_passes0 (g_wm M f (g_ml M)) a0 5)) a0 0 0 0 0 0 0 ∧ (kv 7 (kw 8 (g_mi (mX9_passes0 (g_wm M f (g_ml M)) a0 5)) a0 0 0 0 0 0 0).2.2 a0 x1 (kw 8 (g_mi (mX9_passes0 (g_wm M f (g_ml M)) a0 5)) a0 0 0 0 0 0 0).1 x2 0 0 0)) else (kv 8 (g_mi (mX9_passes0 (g_wm M f (g_ml M)) a0 5)) a0 1 0 0 0 0 0 ∧ (kv 7 (kw 8 (g_mi (mX9_passes0 (g_wm M f (g_ml M)) a0 5)) a0 1 0 0 0 0 0).2.2 a0 x1 (kw 8 (g_mi (mX9_passes0 (g_wm M f (g_ml M)) a0 5)) a0 1 0 0 0 0 0).1 x2 0 0 0)))))
def bX9_bothOf_31 (N : Nat) (M : gM) (f : Nat → Nat → Int32) (a0 : Nat) (x1 : Int32) (x2 : Int32) (xs0 : Int32) (kw : Nat → (Nat → Nat → Int32) → Nat → Int32 → Int32 → Int32 → Int64 → Int64 → Int32 → Int32 × Int64 × (Nat → Nat → Int32)) : Int32 × Int64 × (Nat → Nat → Int32) := (if x2 = 0 then (kw 6 (g_mi (g_wm M f (g_ml M))) a0 x1 0 0 0 0 0) else (if xs0 = 0 then (kw 6 (g_mi (g_wm M f (g_ml M))) a0 x1 0 0 0 0 0) else (kw 6 (g_mi (g_wm M f (g_ml M))) a0 x1 0 1 0 0 0)))
def eX9_bothOf_31 (N : Nat) (M : gM) (f : Nat → Nat → Int32) (a0 : Nat) (x1 : Int32) (x2 : Int32) (xs0 : Int32) (kw : Nat → (Nat → Nat → Int32) → Nat → Int32 → Int32 → Int32 → Int64 → Int64 → Int32 → Int32 × Int64 × (Nat → Nat → Int32)) (kv : Nat → (Nat → Nat → Int32) → Nat → Int32 → Int32 → Int32 → Int64 → Int64 → Int32 → Prop) : Prop := (if x2 = 0 then (kv 6 (g_mi (g_wm M f (g_ml M))) a0 x1 0 0 0 0 0) else (if xs0 = 0 then (kv 6 (g_mi (g_wm M f (g_ml M))) a0 x1 0 0 0 0 0) else (kv 6 (g_mi (g_wm M f (g_ml M))) a0 x1 0 1 0 0 0)))
def bX9_plainOf_0 (N : Nat) (M : gM) (f : Nat → Nat → Int32) (a0 : Nat) (x1 : Int32) (kw : Nat → (Nat → Nat → Int32) → Nat → Int32 → Int32 → Int32 → Int64 → Int64 → Int32 → Int32 × Int64 × (Nat → Nat → Int32)) : Int32 × Int64 × (Nat → Nat → Int32) := (kw 9 (g_mi (g_wm M f (g_ml M))) a0 x1 0 0 0 0 0)
def eX9_plainOf_0 (N : Nat) (M : gM) (f : Nat → Nat → Int32) (a0 : Nat) (x1 : Int32) (kw : Nat → (Nat → Nat → Int32) → Nat → Int32 → Int32 → Int32 → Int64 → Int64 → Int32 → Int32 × Int64 × (Nat → Nat → Int32)) (kv : Nat → (Nat → Nat → Int32) → Nat → Int32 → Int32 → Int32 → Int64 → Int64 → Int32 → Prop) : Prop := (kv 9 (g_mi (g_wm M f (g_ml M))) a0 x1 0 0 0 0 0)
def bX9_plainOf_2 (N : Nat) (M : gM) (f : Nat → Nat → Int32) (a0 : Nat) (x1 : Int32) (x2 : Int32) (kw : Nat → (Nat → Nat → Int32) → Nat → Int32 → Int32 → Int32 → Int64 → Int64 → Int32 → Int32 × Int64 × (Nat → Nat → Int32)) : Int32 × Int64 × (Nat → Nat → Int32) := (if (fX9_passes0 (g_wm M f (g_ml M)) a0 6) = 0 then (kw 10 (kw 11 (g_mi (mX9_passes0 (g_wm M f (g_ml M)) a0 6)) a0 x1 0 0 0 0 0).2.2 0 0 (kw 11 (g_mi (mX9_passes0 (g_wm M f (g_ml M)) a0 6)) a0 x1 0 0 0 0 0).1 x2 0 0 0) else (if x2 = 0 then (kw 9 (g_mi (mX9_passes0 (g_wm M f (g_ml M)) a0 6)) a0 x1 0 1 0 0 0) else (kw 9 (g_mi (mX9_passes0 (g_wm M f (g_ml M)) a0 6)) a0 x1 0 0 0 0 0)))
def eX9_plainOf_2 (N : Nat) (M : gM) (f : Nat → Nat → Int32) (a0 : Nat) (x1 : Int32) (x2 : Int32) (kw : Nat → (Nat → Nat → Int32) → Nat → Int32 → Int32 → Int32 → Int64 → Int64 → Int32 → Int32 × Int64 × (Nat → Nat → Int32)) (kv : Nat → (Nat → Nat → Int32) → Nat → Int32 → Int32 → Int32 → Int64 → Int64 → Int32 → Prop) : Prop := (EX9_passes0 (g_wm M f (g_ml M)) a0 6) ∧ (if (fX9_passes0 (g_wm M f (g_ml M)) a0 6) = 0 then (kv 11 (g_mi (mX9_passes0 (g_wm M f (g_ml M)) a0 6)) a0 x1 0 0 0 0 0 ∧ (kv 10 (kw 11 (g_mi (mX9_passes0 (g_wm M f (g_ml M)) a0 6)) a0 x1 0 0 0 0 0).2.2 0 0 (kw 11 (g_mi (mX9_passes0 (g_wm M f (g_ml M)) a0 6)) a0 x1 0 0 0 0 0).1 x2 0 0 0)) else (if x2 = 0 then (kv 9 (g_mi (mX9_passes0 (g_wm M f (g_ml M)) a0 6)) a0 x1 0 1 0 0 0) else (kv 9 (g_mi (mX9_passes0 (g_wm M f (g_ml M)) a0 6)) a0 x1 0 0 0 0 0)))
def bX9_plainOf_29 (N : Nat) (M : gM) (f : Nat → Nat → Int32) (x2 : Int32) (xs0 : Int32) (kw : Nat → (Nat → Nat → Int32) → Nat → Int32 → Int32 → Int32 → Int64 → Int64 → Int32 → Int32 × Int64 × (Nat → Nat → Int32)) : Int32 × Int64 × (Nat → Nat → Int32) := (if xs0 = x2 then (0, 0, g_mi (g_wm M f (g_ml M))) else (1, 0, g_mi (g_wm M f (g_ml M))))
def eX9_plainOf_29 (N : Nat) (M : gM) (f : Nat → Nat → Int32) (x2 : Int32) (xs0 : Int32) (kw : Nat → (Nat → Nat → Int32) → Nat → Int32 → Int32 → Int32 → Int64 → Int64 → Int32 → Int32 × Int64 × (Nat → Nat → Int32)) (kv : Nat → (Nat → Nat → Int32) → Nat → Int32 → Int32 → Int32 → Int64 → Int64 → Int32 → Prop) : Prop := (if xs0 = x2 then True else True)
def bX9_positiveOf_0 (N : Nat) (M : gM) (f : Nat → Nat → Int32) (a0 : Nat) (x1 : Int32) (kw : Nat → (Nat → Nat → Int32) → Nat → Int32 → Int32 → Int32 → Int64 → Int64 → Int32 → Int32 × Int64 × (Nat → Nat → Int32)) : Int32 × Int64 × (Nat → Nat → Int32) := (if (fX9_passes0 (g_wm M f (g_ml M)) a0 (fX9_sign 40)) = 0 then (kw 13 (kw 15 (g_mi (mX9_passes0 (g_wm M f (g_ml M)) a0 (fX9_sign 40))) a0 x1 0 0 0 0 0).2.2 a0 x1 0 0 (kw 15 (g_mi (mX9_passes0 (g_wm M f (g_ml M)) a0 (fX9_sign 40))) a0 x1 0 0 0 0 0).2.1 0 0) else (kw 12 (kw 0 (g_mi (mX9_passes0 (g_wm M f (g_ml M)) a0 (fX9_sign 40))) a0 x1 0 0 0 0 0).2.2 a0 0 (kw 0 (g_mi (mX9_passes0 (g_wm M f (g_ml M)) a0 (fX9_sign 40))) a0 x1 0 0 0 0 0).1 0 0 0 0))
def eX9_positiveOf_0 (N : Nat) (M : gM) (f : Nat → Nat → Int32) (a0 : Nat) (x1 : Int32) (kw : Nat → (Nat → Nat → Int32) → Nat → Int32 → Int32 → Int32 → Int64 → Int64 → Int32 → Int32 × Int64 × (Nat → Nat → Int32)) (kv : Nat → (Nat → Nat → Int32) → Nat → Int32 → Int32 → Int32 → Int64 → Int64 → Int32 → Prop) : Prop := (EX9_passes0 (g_wm M f (g_ml M)) a0 (fX9_sign 40)) ∧ (if (fX9_passes0 (g_wm M f (g_ml M)) a0 (fX9_sign 40)) = 0 then (kv 15 (g_mi (mX9_passes0 (g_wm M f (g_ml M)) a0 (fX9_sign 40))) a0 x1 0 0 0 0 0 ∧ (kv 13 (kw 15 (g_mi (mX9_passes0 (g_wm M f (g_ml M)) a0 (fX9_sign 40))) a0 x1 0 0 0 0 0).2.2 a0 x1 0 0 (kw 15 (g_mi (mX9_passes0 (g_wm M f (g_ml M)) a0 (fX9_sign 40))) a0 x1 0 0 0 0 0).2.1 0 0)) else (kv 0 (g_mi (mX9_passes0 (g_wm M f (g_ml M)) a0 (fX9_sign 40))) a0 x1 0 0 0 0 0 ∧ (kv 12 (kw 0 (g_mi (mX9_passes0 (g_wm M f (g_ml M)) a0 (fX9_sign 40))) a0 x1 0 0 0 0 0).2.2 a0 0 (kw 0 (g_mi (mX9_passes0 (g_wm M f (g_ml M)) a0 (fX9_sign 40))) a0 x1 0 0 0 0 0).1 0 0 0 0)))
def bX9_positiveOf_17 (N : Nat) (M : gM) (f : Nat → Nat → Int32) (a0 : Nat) (xs0 : Int32) (kw : Nat → (Nat → Nat → Int32) → Nat → Int32 → Int32 → Int32 → Int64 → Int64 → Int32 → Int32 × Int64 × (Nat → Nat → Int32)) : Int32 × Int64 × (Nat → Nat → Int32) := (xs0, 0, g_mi (g_wi (g_wm M f (g_ml M)) a0 22 ((g_mi (g_wm M f (g_ml M)) a0 22) + 1)))
def eX9_positiveOf_17 (N : Nat) (M : gM) (f : Nat → Nat → Int32) (a0 : Nat) (xs0 : Int32) (kw : Nat → (Nat → Nat → Int32) → Nat → Int32 → Int32 → Int32 → Int64 → Int64 → Int32 → Int32 × Int64 × (Nat → Nat → Int32)) (kv : Nat → (Nat → Nat → Int32) → Nat → Int32 → Int32 → Int32 → Int64 → Int64 → Int32 → Prop) : Prop := (xs0 = 0 ∨ xs0 = 1) ∧ True
def bX9_positiveOf_35 (N : Nat) (M : gM) (f : Nat → Nat → Int32) (a0 : Nat) (x1 : Int32) (ys0 : Int64) (kw : Nat → (Nat → Nat → Int32) → Nat → Int32 → Int32 → Int32 → Int64 → Int64 → Int32 → Int32 × Int64 × (Nat → Nat → Int32)) : Int32 × Int64 × (Nat → Nat → Int32) := (kw 14 (kw 15 (g_mi (g_wi (g_wm M f (g_ml M)) a0 22 ((g_mi (g_wm M f (g_ml M)) a0 22) + 1))) a0 x1 0 0 0 0 0).2.2 a0 x1 0 0 (kw 15 (g_mi (g_wi (g_wm M f (g_ml M)) a0 22 ((g_mi (g_wm M f (g_ml M)) a0 22) + 1))) a0 x1 0 0 0 0 0).2.1 ys0 (fX9_codeAt (g_wm M f (g_ml M)) a0 (g_mi (g_wm M f (g_ml M)) a0 22)))
def eX9_positiveOf_35 (N : Nat) (M : gM) (f : Nat → Nat → Int32) (a0 : Nat) (x1 : Int32) (ys0 : Int64) (kw : Nat → (Nat → Nat → Int32) → Nat → Int32 → Int32 → Int32 → Int64 → Int64 → Int32 → Int32 × Int64 × (Nat → Nat → Int32)) (kv : Nat → (Nat → Nat → Int32) → Nat → Int32 → Int32 → Int32 → Int64 → Int64 → Int32 → Prop) : Prop := (EX9_codeAt (g_wm M f (g_ml M)) a0 (g_mi (g_wm M f (g_ml M)) a0 22)) ∧ (kv 15 (g_mi (g_wi (g_wm M f (g_ml M)) a0 22 ((g_mi (g_wm M f (g_ml M)) a0 22) + 1))) a0 x1 0 0 0 0 0 ∧ (kv 14 (kw 15 (g_mi (g_wi (g_wm M f (g_ml M)) a0 22 ((g_mi (g_wm M f (g_ml M)) a0 22) + 1))) a0 x1 0 0 0 0 0).2.2 a0 x1 0 0 (kw 15 (g_mi (g_wi (g_wm M f (g_ml M)) a0 22 ((g_mi (g_wm M f (g_ml M)) a0 22) + 1))) a0 x1 0 0 0 0 0).2.1 ys0 (fX9_codeAt (g_wm M f (g_ml M)) a0 (g_mi (g_wm M f (g_ml M)) a0 22))))
def bX9_positiveOf_61 (N : Nat) (M : gM) (f : Nat → Nat → Int32) (a0 : Nat) (x1 : Int32) (y2 : Int64) (x4 : Int32) (ys0 : Int64) (kw : Nat → (Nat → Nat → Int32) → Nat → Int32 → Int32 → Int32 → Int64 → Int64 → Int32 → Int32 × Int64 × (Nat → Nat → Int32)) : Int32 × Int64 × (Nat → Nat → Int32) := (if x1 = 0 then (0, 0, g_mi (g_wm M f (g_ml M))) else (if (g_mi (g_wm M f (g_ml M)) a0 24) = 0 then (if x4 = (fX9_sign 60) then (if 0 ≤ (lg_cmp y2 ys0) then (0, 0, g_mi (g_wm M f (g_ml M))) else (1, 0, g_mi (g_wm M f (g_ml M)))) else (if x4 = (fX9_sign 62) then (if (lg_cmp y2 ys0) ≤ 0 then (0, 0, g_mi (g_wm M f (g_ml M))) else (1, 0, g_mi (g_wm M f (g_ml M)))) else (if (lg_cmp y2 ys0) = 0 then (1, 0, g_mi (g_wm M f (g_ml M))) else (0, 0, g_mi (g_wm M f (g_ml M)))))) else (0, 0, g_mi (g_wm M f (g_ml M)))))
def eX9_positiveOf_61 (N : Nat) (M : gM) (f : Nat → Nat → Int32) (a0 : Nat) (x1 : Int32) (y2 : Int64) (x4 : Int32) (ys0 : Int64) (kw : Nat → (Nat → Nat → Int32) → Nat → Int32 → Int32 → Int32 → Int64 → Int64 → Int32 → Int32 × Int64 × (Nat → Nat → Int32)) (kv : Nat → (Nat → Nat → Int32) → Nat → Int32 → Int32 → Int32 → Int64 → Int64 → Int32 → Prop) : Prop := (if x1 = 0 then True else (if (g_mi (g_wm M f (g_ml M)) a0 24) = 0 then (if x4 = (fX9_sign 60) then (if 0 ≤ (lg_cmp y2 ys0) then True else True) else (if x4 = (fX9_sign 62) then (if (lg_cmp y2 ys0) ≤ 0 then True else True) else (if (lg_cmp y2 ys0) = 0 then True else True))) else True))
def bX9_sumOf_0 (N : Nat) (M : gM) (f : Nat → Nat → Int32) (a0 : Nat) (x1 : Int32) (kw : Nat → (Nat → Nat → Int32) → Nat → Int32 → Int32 → Int32 → Int64 → Int64 → Int32 → Int32 × Int64 × (Nat → Nat → Int32)) : Int32 × Int64 × (Nat → Nat → Int32) := (kw 16 (kw 19 (g_mi (g_wm M f (g_ml M))) a0 x1 0 0 0 0 0).2.2 a0 x1 0 0 (kw 19 (g_mi (g_wm M f (g_ml M))) a0 x1 0 0 0 0 0).2.1 0 0)
def eX9_sumOf_0 (N : Nat) (M : gM) (f : Nat → Nat → Int32) (a0 : Nat) (x1 : Int32) (kw : Nat → (Nat → Nat → Int32) → Nat → Int32 → Int32 → Int32 → Int64 → Int64 → Int32 → Int32 × Int64 × (Nat → Nat → Int32)) (kv : Nat → (Nat → Nat → Int32) → Nat → Int32 → Int32 → Int32 → Int64 → Int64 → Int32 → Prop) : Prop := (kv 19 (g_mi (g_wm M f (g_ml M))) a0 x1 0 0 0 0 0 ∧ (kv 16 (kw 19 (g_mi (g_wm M f (g_ml M))) a0 x1 0 0 0 0 0).2.2 a0 x1 0 0 (kw 19 (g_mi (g_wm M f (g_ml M))) a0 x1 0 0 0 0 0).2.1 0 0))
def bX9_sumOf_5 (N : Nat) (M : gM) (f : Nat → Nat → Int32) (a0 : Nat) (x1 : Int32) (ys0 : Int64) (kw : Nat → (Nat → Nat → Int32) → Nat → Int32 → Int32 → Int32 → Int64 → Int64 → Int32 → Int32 × Int64 × (Nat → Nat → Int32)) : Int32 × Int64 × (Nat → Nat → Int32) := (kw 17 (g_mi (g_wm M f (g_ml M))) a0 x1 0 0 0 ys0 0)
def eX9_sumOf_5 (N : Nat) (M : gM) (f : Nat → Nat → Int32) (a0 : Nat) (x1 : Int32) (ys0 : Int64) (kw : Nat → (Nat → Nat → Int32) → Nat → Int32 → Int32 → Int32 → Int64 → Int64 → Int32 → Int32 × Int64 × (Nat → Nat → Int32)) (kv : Nat → (Nat → Nat → Int32) → Nat → Int32 → Int32 → Int32 → Int64 → Int64 → Int32 → Prop) : Prop := (kv 17 (g_mi (g_wm M f (g_ml M))) a0 x1 0 0 0 ys0 0)
def bX9_sumOf_6 (N : Nat) (M : gM) (f : Nat → Nat → Int32) (a0 : Nat) (x1 : Int32) (y2 : Int64) (kw : Nat → (Nat → Nat → Int32) → Nat → Int32 → Int32 → Int32 → Int64 → Int64 → Int32 → Int32 × Int64 × (Nat → Nat → Int32)) : Int32 × Int64 × (Nat → Nat → Int32) := (if (fX9_codeAt (g_wm M f (g_ml M)) a0 (g_mi (g_wm M f (g_ml M)) a0 22)) = (fX9_sign 43) then (kw 18 (kw 19 (g_mi (g_wi (g_wm M f (g_ml M)) a0 22 ((g_mi (g_wm M f (g_ml M)) a0 22) + 1))) a0 x1 0 0 0 0 0).2.2 a0 x1 0 0 (kw 19 (g_mi (g_wi (g_wm M f (g_ml M)) a0 22 ((g_mi (g_wm M f (g_ml M)) a0 22) + 1))) a0 x1 0 0 0 0 0).2.1 y2 1) else (if (fX9_codeAt (g_wm M f (g_ml M)) a0 (g_mi (g_wm M f (g_ml M)) a0 22)) = (fX9_sign 45) then (kw 18 (kw 19 (g_mi (g_wi (g_wm M f (g_ml M)) a0 22 ((g_mi (g_wm M f (g_ml M)) a0 22) + 1))) a0 x1 0 0 0 0 0).2.2 a0 x1 0 0 (kw 19 (g_mi (g_wi (g_wm M f (g_ml M)) a0 22 ((g_mi (g_wm M f (g_ml M)) a0 22) + 1))) a0 x1 0 0 0 0 0).2.1 y2 0) else (0, y2, g_mi (g_wm M f (g_ml M)))))
def eX9_sumOf_6 (N : Nat) (M : gM) (f : Nat → Nat → Int32) (a0 : Nat) (x1 : Int32) (y2 : Int64) (kw : Nat → (Nat → Nat → Int32) → Nat → Int32 → Int32 → Int32 → Int64 → Int64 → Int32 → Int32 × Int64 × (Nat → Nat → Int32)) (kv : Nat → (Nat → Nat → Int32) → Nat → Int32 → Int32 → Int32 → Int64 → Int64 → Int32 → Prop) : Prop := (EX9_codeAt (g_wm M f (g_ml M)) a0 (g_mi (g_wm M f (g_ml M)) a0 22)) ∧ (((fX9_codeAt (g_wm M f (g_ml M)) a0 (g_mi (g_wm M f (g_ml M)) a0 22)) = (fX9_sign 43)) → EX9_codeAt (g_wm M f (g_ml M)) a0 (g_mi (g_wm M f (g_ml M)) a0 22)) ∧ ((¬ (fX9_codeAt (g_wm M f (g_ml M)) a0 (g_mi (g_wm M f (g_ml M)) a0 22)) = (fX9_sign 43)) → EX9_codeAt (g_wm M f (g_ml M)) a0 (g_mi (g_wm M f (g_ml M)) a0 22)) ∧ ((¬ (fX9_codeAt (g_wm M f (g_ml M)) a0 (g_mi (g_wm M f (g_ml M)) a0 22)) = (fX9_sign 43)) → ((fX9_codeAt (g_wm M f (g_ml M)) a0 (g_mi (g_wm M f (g_ml M)) a0 22)) = (fX9_sign 45)) → EX9_codeAt (g_wm M f (g_ml M)) a0 (g_mi (g_wm M f (g_ml M)) a0 22)) ∧ (if (fX9_codeAt (g_wm M f (g_ml M)) a0 (g_mi (g_wm M f (g_ml M)) a0 22)) = (fX9_sign 43) then (kv 19 (g_mi (g_wi (g_wm M f (g_ml M)) a0 22 ((g_mi (g_wm M f (g_ml M)) a0 22) + 1))) a0 x1 0 0 0 0 0 ∧ (kv 18 (kw 19 (g_mi (g_wi (g_wm M f (g_ml M)) a0 22 ((g_mi (g_wm M f (g_ml M)) a0 22) + 1))) a0 x1 0 0 0 0 0).2.2 a0 x1 0 0 (kw 19 (g_mi (g_wi (g_wm M f (g_ml M)) a0 22 ((g_mi (g_wm M f (g_ml M)) a0 22) + 1))) a0 x1 0 0 0 0 0).2.1 y2 1)) else (if (fX9_codeAt (g_wm M f (g_ml M)) a0 (g_mi (g_wm M f (g_ml M)) a0 22)) = (fX9_sign 45) then (kv 19 (g_mi (g_wi (g_wm M f (g_ml M)) a0 22 ((g_mi (g_wm M f (g_ml M)) a0 22) + 1))) a0 x1 0 0 0 0 0 ∧ (kv 18 (kw 19 (g_mi (g_wi (g_wm M f (g_ml M)) a0 22 ((g_mi (g_wm M f (g_ml M)) a0 22) + 1))) a0 x1 0 0 0 0 0).2.2 a0 x1 0 0 (kw 19 (g_mi (g_wi (g_wm M f (g_ml M)) a0 22 ((g_mi (g_wm M f (g_ml M)) a0 22) + 1))) a0 x1 0 0 0 0 0).2.1 y2 0)) else True))
def bX9_sumOf_76 (N : Nat) (M : gM) (f : Nat → Nat → Int32) (a0 : Nat) (x1 : Int32) (y2 : Int64) (x4 : Int32) (ys0 : Int64) (kw : Nat → (Nat → Nat → Int32) → Nat → Int32 → Int32 → Int32 → Int64 → Int64 → Int32 → Int32 × Int64 × (Nat → Nat → Int32)) : Int32 × Int64 × (Nat → Nat → Int32) := (if x4 = 0 then (kw 17 (g_mi (mX9_bounded (g_wm M f (g_ml M)) a0 (y2 - ys0) x1)) a0 x1 0 0 0 (fX9_bounded (g_wm M f (g_ml M)) a0 (y2 - ys0) x1) 0) else (kw 17 (g_mi (mX9_bounded (g_wm M f (g_ml M)) a0 (y2 + ys0) x1)) a0 x1 0 0 0 (fX9_bounded (g_wm M f (g_ml M)) a0 (y2 + ys0) x1) 0))
def eX9_sumOf_76 (N : Nat) (M : gM) (f : Nat → Nat → Int32) (a0 : Nat) (x1 : Int32) (y2 : Int64) (x4 : Int32) (ys0 : Int64) (kw : Nat → (Nat → Nat → Int32) → Nat → Int32 → Int32 → Int32 → Int64 → Int64 → Int32 → Int32 × Int64 × (Nat → Nat → Int32)) (kv : Nat → (Nat → Nat → Int32) → Nat → Int32 → Int32 → Int32 → Int64 → Int64 → Int32 → Prop) : Prop := (if x4 = 0 then (kv 17 (g_mi (mX9_bounded (g_wm M f (g_ml M)) a0 (y2 - ys0) x1)) a0 x1 0 0 0 (fX9_bounded (g_wm M f (g_ml M)) a0 (y2 - ys0) x1) 0) else (kv 17 (g_mi (mX9_bounded (g_wm M f (g_ml M)) a0 (y2 + ys0) x1)) a0 x1 0 0 0 (fX9_bounded (g_wm M f (g_ml M)) a0 (y2 + ys0) x1) 0))
def bX9_termOf_0 (N : Nat) (M : gM) (f : Nat → Nat → Int32) (a0 : Nat) (x1 : Int32) (kw : Nat → (Nat → Nat → Int32) → Nat → Int32 → Int32 → Int32 → Int64 → Int64 → Int32 → Int32 × Int64 × (Nat → Nat → Int32)) : Int32 × Int64 × (Nat → Nat → Int32) := (kw 20 (kw 23 (g_mi (g_wm M f (g_ml M))) a0 x1 0 0 0 0 0).2.2 a0 x1 0 0 (kw 23 (g_mi (g_wm M f (g_ml M))) a0 x1 0 0 0 0 0).2.1 0 0)
def eX9_termOf_0 (N : Nat) (M : gM) (f : Nat → Nat → Int32) (a0 : Nat) (x1 : Int32) (kw : Nat → (Nat → Nat → Int32) → Nat → Int32 → Int32 → Int32 → Int64 → Int64 → Int32 → Int32 × Int64 × (Nat → Nat → Int32)) (kv : Nat → (Nat → Nat → Int32) → Nat → Int32 → Int32 → Int32 → Int64 → Int64 → Int32 → Prop) : Prop := (kv 23 (g_mi (g_wm M f (g_ml M))) a0 x1 0 0 0 0 0 ∧ (kv 20 (kw 23 (g_mi (g_wm M f (g_ml M))) a0 x1 0 0 0 0 0).2.2 a0 x1 0 0 (kw 23 (g_mi (g_wm M f (g_ml M))) a0 x1 0 0 0 0 0).2.1 0 0))
def bX9_termOf_5 (N : Nat) (M : gM) (f : Nat → Nat → Int32) (a0 : Nat) (x1 : Int32) (ys0 : Int64) (kw : Nat → (Nat → Nat → Int32) → Nat → Int32 → Int32 → Int32 → Int64 → Int64 → Int32 → Int32 × Int64 × (Nat → Nat → Int32)) : Int32 × Int64 × (Nat → Nat → Int32) := (kw 21 (g_mi (g_wm M f (g_ml M))) a0 x1 0 0 0 ys0 0)
def eX9_termOf_5 (N : Nat) (M : gM) (f : Nat → Nat → Int32) (a0 : Nat) (x1 : Int32) (ys0 : Int64) (kw : Nat → (Nat → Nat → Int32) → Nat → Int32 → Int32 → Int32 → Int64 → Int64 → Int32 → Int32 × Int64 × (Nat → Nat → Int32)) (kv : Nat → (Nat → Nat → Int32) → Nat → Int32 → Int32 → Int32 → Int64 → Int64 → Int32 → Prop) : Prop := (kv 21 (g_mi (g_wm M f (g_ml M))) a0 x1 0 0 0 ys0 0)
def bX9_termOf_6 (N : Nat) (M : gM) (f : Nat → Nat → Int32) (a0 : Nat) (x1 : Int32) (y2 : Int64) (kw : Nat → (Nat → Nat → Int32) → Nat → Int32 → Int32 → Int32 → Int64 → Int64 → Int32 → Int32 × Int64 × (Nat → Nat → Int32)) : Int32 × Int64 × (Nat → Nat → Int32) := (if (fX9_codeAt (g_wm M f (g_ml M)) a0 (g_mi (g_wm M f (g_ml M)) a0 22)) = (fX9_sign 42) then (kw 22 (kw 23 (g_mi (g_wi (g_wm M f (g_ml M)) a0 22 ((g_mi (g_wm M f (g_ml M)) a0 22) + 1))) a0 x1 0 0 0 0 0).2.2 a0 x1 0 0 (kw 23 (g_mi (g_wi (g_wm M f (g_ml M)) a0 22 ((g_mi (g_wm M f (g_ml M)) a0 22) + 1))) a0 x1 0 0 0 0 0).2.1 y2 (fX9_codeAt (g_wm M f (g_ml M)) a0 (g_mi (g_wm M f (g_ml M)) a0 22))) else (if (fX9_codeAt (g_wm M f (g_ml M)) a0 (g_mi (g_wm M f (g_ml M)) a0 22)) = (fX9_sign 47) then (kw 22 (kw 23 (g_mi (g_wi (g_wm M f (g_ml M)) a0 22 ((g_mi (g_wm M f (g_ml M)) a0 22) + 1))) a0 x1 0 0 0 0 0).2.2 a0 x1 0 0 (kw 23 (g_mi (g_wi (g_wm M f (g_ml M)) a0 22 ((g_mi (g_wm M f (g_ml M)) a0 22) + 1))) a0 x1 0 0 0 0 0).2.1 y2 (fX9_codeAt (g_wm M f (g_ml M)) a0 (g_mi (g_wm M f (g_ml M)) a0 22))) else (if (fX9_codeAt (g_wm M f (g_ml M)) a0 (g_mi (g_wm M f (g_ml M)) a0 22)) = (fX9_sign 37) then (kw 22 (kw 23 (g_mi (g_wi (g_wm M f (g_ml M)) a0 22 ((g_mi (g_wm M f (g_ml M)) a0 22) + 1))) a0 x1 0 0 0 0 0).2.2 a0 x1 0 0 (kw 23 (g_mi (g_wi (g_wm M f (g_ml M)) a0 22 ((g_mi (g_wm M f (g_ml M)) a0 22) + 1))) a0 x1 0 0 0 0 0).2.1 y2 (fX9_codeAt (g_wm M f (g_ml M)) a0 (g_mi (g_wm M f (g_ml M)) a0 22))) else (0, y2, g_mi (g_wm M f (g_ml M))))))
def eX9_termOf_6 (N : Nat) (M : gM) (f : Nat → Nat → Int32) (a0 : Nat) (x1 : Int32) (y2 : Int64) (kw : Nat → (Nat → Nat → Int32) → Nat → Int32 → Int32 → Int32 → Int64 → Int64 → Int32 → Int32 × Int64 × (Nat → Nat → Int32)) (kv : Nat → (Nat → Nat → Int32) → Nat → Int32 → Int32 → Int32 → Int64 → Int64 → Int32 → Prop) : Prop := (EX9_codeAt (g_wm M f (g_ml M)) a0 (g_mi (g_wm M f (g_ml M)) a0 22)) ∧ (((fX9_codeAt (g_wm M f (g_ml M)) a0 (g_mi (g_wm M f (g_ml M)) a0 22)) = (fX9_sign 42)) → EX9_codeAt (g_wm M f (g_ml M)) a0 (g_mi (g_wm M f (g_ml M)) a0 22)) ∧ ((¬ (fX9_codeAt (g_wm M f (g_ml M)) a0 (g_mi (g_wm M f (g_ml M)) a0 22)) = (fX9_sign 42)) → EX9_codeAt (g_wm M f (g_ml M)) a0 (g_mi (g_wm M f (g_ml M)) a0 22)) ∧ ((¬ (fX9_codeAt (g_wm M f (g_ml M)) a0 (g_mi (g_wm M f (g_ml M)) a0 22)) = (fX9_sign 42)) → ((fX9_codeAt (g_wm M f (g_ml M)) a0 (g_mi (g_wm M f (g_ml M)) a0 22)) = (fX9_sign 47)) → EX9_codeAt (g_wm M f (g_ml M)) a0 (g_mi (g_wm M f (g_ml M)) a0 22)) ∧ ((¬ (fX9_codeAt (g_wm M f (g_ml M)) a0 (g_mi (g_wm M f (g_ml M)) a0 22)) = (fX9_sign 42)) → (¬ (fX9_codeAt (g_wm M f (g_ml M)) a0 (g_mi (g_wm M f (g_ml M)) a0 22)) = (fX9_sign 47)) → EX9_codeAt (g_wm M f (g_ml M)) a0 (g_mi (g_wm M f (g_ml M)) a0 22)) ∧ ((¬ (fX9_codeAt (g_wm M f (g_ml M)) a0 (g_mi (g_wm M f (g_ml M)) a0 22)) = (fX9_sign 42)) → (¬ (fX9_codeAt (g_wm M f (g_ml M)) a0 (g_mi (g_wm M f (g_ml M)) a0 22)) = (fX9_sign 47)) → ((fX9_codeAt (g_wm M f (g_ml M)) a0 (g_mi (g_wm M f (g_ml M)) a0 22)) = (fX9_sign 37)) → EX9_codeAt (g_wm M f (g_ml M)) a0 (g_mi (g_wm M f (g_ml M)) a0 22)) ∧ (if (fX9_codeAt (g_wm M f (g_ml M)) a0 (g_mi (g_wm M f (g_ml M)) a0 22)) = (fX9_sign 42) then (kv 23 (g_mi (g_wi (g_wm M f (g_ml M)) a0 22 ((g_mi (g_wm M f (g_ml M)) a0 22) + 1))) a0 x1 0 0 0 0 0 ∧ (kv 22 (kw 23 (g_mi (g_wi (g_wm M f (g_ml M)) a0 22 ((g_mi (g_wm M f (g_ml M)) a0 22) + 1))) a0 x1 0 0 0 0 0).2.2 a0 x1 0 0 (kw 23 (g_mi (g_wi (g_wm M f (g_ml M)) a0 22 ((g_mi (g_wm M f (g_ml M)) a0 22) + 1))) a0 x1 0 0 0 0 0).2.1 y2 (fX9_codeAt (g_wm M f (g_ml M)) a0 (g_mi (g_wm M f (g_ml M)) a0 22)))) else (if (fX9_codeAt (g_wm M f (g_ml M)) a0 (g_mi (g_wm M f (g_ml M)) a0 22)) = (fX9_sign 47) then (kv 23 (g_mi (g_wi (g_wm M f (g_ml M)) a0 22 ((g_mi (g_wm M f (g_ml M)) a0 22) + 1))) a0 x1 0 0 0 0 0 ∧ (kv 22 (kw 23 (g_mi (g_wi (g_wm M f (g_ml M)) a0 22 ((g_mi (g_wm M f (g_ml M)) a0 22) + 1))) a0 x1 0 0 0 0 0).2.2 a0 x1 0 0 (kw 23 (g_mi (g_wi (g_wm M f (g_ml M)) a0 22 ((g_mi (g_wm M f (g_ml M)) a0 22) + 1))) a0 x1 0 0 0 0 0).2.1 y2 (fX9_codeAt (g_wm M f (g_ml M)) a0 (g_mi (g_wm M f (g_ml M)) a0 22)))) else (if (fX9_codeAt (g_wm M f (g_ml M)) a0 (g_mi (g_wm M f (g_ml M)) a0 22)) = (fX9_sign 37) then (kv 23 (g_mi (g_wi (g_wm M f (g_ml M)) a0 22 ((g_mi (g_wm M f (g_ml M)) a0 22) + 1))) a0 x1 0 0 0 0 0 ∧ (kv 22 (kw 23 (g_mi (g_wi (g_wm M f (g_ml M)) a0 22 ((g_mi (g_wm M f (g_ml M)) a0 22) + 1))) a0 x1 0 0 0 0 0).2.2 a0 x1 0 0 (kw 23 (g_mi (g_wi (g_wm M f (g_ml M)) a0 22 ((g_mi (g_wm M f (g_ml M)) a0 22) + 1))) a0 x1 0 0 0 0 0).2.1 y2 (fX9_codeAt (g_wm M f (g_ml M)) a0 (g_mi (g_wm M f (g_ml M)) a0 22)))) else True)))
def bX9_termOf_79 (N : Nat) (M : gM) (f : Nat → Nat → Int32) (a0 : Nat) (x1 : Int32) (y2 : Int64) (x4 : Int32) (ys0 : Int64) (kw : Nat → (Nat → Nat → Int32) → Nat → Int32 → Int32 → Int32 → Int64 → Int64 → Int32 → Int32 × Int64 × (Nat → Nat → Int32)) : Int32 × Int64 × (Nat → Nat → Int32) := (if x4 = (fX9_sign 42) then (kw 21 (g_mi (mX9_bounded (g_wm M f (g_ml M)) a0 (y2 * ys0) x1)) a0 x1 0 0 0 (fX9_bounded (g_wm M f (g_ml M)) a0 (y2 * ys0) x1) 0) else (if (lg_cmp ys0 0) = 0 then (if (g_mi (g_wm M f (g_ml M)) a0 24) = 0 then (if x1 = 0 then (if x4 = (fX9_sign 47) then (kw 21 (g_mi (mX9_bounded (g_wi (g_wm M f (g_ml M)) a0 24 0) a0 (y2 / 1) x1)) a0 x1 0 0 0 (fX9_bounded (g_wi (g_wm M f (g_ml M)) a0 24 0) a0 (y2 / 1) x1) 0) else (kw 21 (g_mi (mX9_bounded (g_wi (g_wm M f (g_ml M)) a0 24 0) a0 (l_rm y2 1) x1)) a0 x1 0 0 0 (fX9_bounded (g_wi (g_wm M f (g_ml M)) a0 24 0) a0 (l_rm y2 1) x1) 0)) else (if x4 = (fX9_sign 47) then (kw 21 (g_mi (mX9_bounded (g_wi (g_wm M f (g_ml M)) a0 24 1) a0 (y2 / 1) x1)) a0 x1 0 0 0 (fX9_bounded (g_wi (g_wm M f (g_ml M)) a0 24 1) a0 (y2 / 1) x1) 0) else (kw 21 (g_mi (mX9_bounded (g_wi (g_wm M f (g_ml M)) a0 24 1) a0 (l_rm y2 1) x1)) a0 x1 0 0 0 (fX9_bounded (g_wi (g_wm M f (g_ml M)) a0 24 1) a0 (l_rm y2 1) x1) 0))) else (if x4 = (fX9_sign 47) then (kw 21 (g_mi (mX9_bounded (g_wi (g_wm M f (g_ml M)) a0 24 1) a0 (y2 / 1) x1)) a0 x1 0 0 0 (fX9_bounded (g_wi (g_wm M f (g_ml M)) a0 24 1) a0 (y2 / 1) x1) 0) else (kw 21 (g_mi (mX9_bounded (g_wi (g_wm M f (g_ml M)) a0 24 1) a0 (l_rm y2 1) x1)) a0 x1 0 0 0 (fX9_bounded (g_wi (g_wm M f (g_ml M)) a0 24 1) a0 (l_rm y2 1) x1) 0))) else (if x4 = (fX9_sign 47) then (kw 21 (g_mi (mX9_bounded (g_wm M f (g_ml M)) a0 (y2 / ys0) x1)) a0 x1 0 0 0 (fX9_bounded (g_wm M f (g_ml M)) a0 (y2 / ys0) x1) 0) else (kw 21 (g_mi (mX9_bounded (g_wm M f (g_ml M)) a0 (l_rm y2 ys0) x1)) a0 x1 0 0 0 (fX9_bounded (g_wm M f (g_ml M)) a0 (l_rm y2 ys0) x1) 0))))
def eX9_termOf_79 (N : Nat) (M : gM) (f : Nat → Nat → Int32) (a0 : Nat) (x1 : Int32) (y2 : Int64) (x4 : Int32) (ys0 : Int64) (kw : Nat → (Nat → Nat → Int32) → Nat → Int32 → Int32 → Int32 → Int64 → Int64 → Int32 → Int32 × Int64 × (Nat → Nat → Int32)) (kv : Nat → (Nat → Nat → Int32) → Nat → Int32 → Int32 → Int32 → Int64 → Int64 → Int32 → Prop) : Prop := ((¬ x4 = (fX9_sign 42)) → (¬ (lg_cmp ys0 0) = 0) → (¬ x4 = (fX9_sign 47)) → ¬ (ys0 : Int64) = 0) ∧ ((¬ x4 = (fX9_sign 42)) → (¬ (lg_cmp ys0 0) = 0) → (x4 = (fX9_sign 47)) → ¬ (ys0 : Int64) = 0) ∧ (if x4 = (fX9_sign 42) then (kv 21 (g_mi (mX9_bounded (g_wm M f (g_ml M)) a0 (y2 * ys0) x1)) a0 x1 0 0 0 (fX9_bounded (g_wm M f (g_ml M)) a0 (y2 * ys0) x1) 0) else (if (lg_cmp ys0 0) = 0 then (if (g_mi (g_wm M f (g_ml M)) a0 24) = 0 then (if x1 = 0 then (if x4 = (fX9_sign 47) then (kv 21 (g_mi (mX9_bounded (g_wi (g_wm M f (g_ml M)) a0 24 0) a0 (y2 / 1) x1)) a0 x1 0 0 0 (fX9_bounded (g_wi (g_wm M f (g_ml M)) a0 24 0) a0 (y2 / 1) x1) 0) else (kv 21 (g_mi (mX9_bounded (g_wi (g_wm M f (g_ml M)) a0 24 0) a0 (l_rm y2 1) x1)) a0 x1 0 0 0 (fX9_bounded (g_wi (g_wm M f (g_ml M)) a0 24 0) a0 (l_rm y2 1) x1) 0)) else (if x4 = (fX9_sign 47) then (kv 21 (g_mi (mX9_bounded (g_wi (g_wm M f (g_ml M)) a0 24 1) a0 (y2 / 1) x1)) a0 x1 0 0 0 (fX9_bounded (g_wi (g_wm M f (g_ml M)) a0 24 1) a0 (y2 / 1) x1) 0) else (kv 21 (g_mi (mX9_bounded (g_wi (g_wm M f (g_ml M)) a0 24 1) a0 (l_rm y2 1) x1)) a0 x1 0 0 0 (fX9_bounded (g_wi (g_wm M f (g_ml M)) a0 24 1) a0 (l_rm y2 1) x1) 0))) else (if x4 = (fX9_sign 47) then (kv 21 (g_mi (mX9_bounded (g_wi (g_wm M f (g_ml M)) a0 24 1) a0 (y2 / 1) x1)) a0 x1 0 0 0 (fX9_bounded (g_wi (g_wm M f (g_ml M)) a0 24 1) a0 (y2 / 1) x1) 0) else (kv 21 (g_mi (mX9_bounded (g_wi (g_wm M f (g_ml M)) a0 24 1) a0 (l_rm y2 1) x1)) a0 x1 0 0 0 (fX9_bounded (g_wi (g_wm M f (g_ml M)) a0 24 1) a0 (l_rm y2 1) x1) 0))) else (if x4 = (fX9_sign 47) then (kv 21 (g_mi (mX9_bounded (g_wm M f (g_ml M)) a0 (y2 / ys0) x1)) a0 x1 0 0 0 (fX9_bounded (g_wm M f (g_ml M)) a0 (y2 / ys0) x1) 0) else (kv 21 (g_mi (mX9_bounded (g_wm M f (g_ml M)) a0 (l_rm y2 ys0) x1)) a0 x1 0 0 0 (fX9_bounded (g_wm M f (g_ml M)) a0 (l_rm y2 ys0) x1) 0))))
def bX9_partOf_0 (N : Nat) (M : gM) (f : Nat → Nat → Int32) (a0 : Nat) (x1 : Int32) (kw : Nat → (Nat → Nat → Int32) → Nat → Int32 → Int32 → Int32 → Int64 → Int64 → Int32 → Int32 × Int64 × (Nat → Nat → Int32)) : Int32 × Int64 × (Nat → Nat → Int32) := (if (fX9_passes0 (g_wm M f (g_ml M)) a0 (fX9_sign 91)) = 0 then (if (g_mi (g_wi (mX9_passes0 (g_wm M f (g_ml M)) a0 (fX9_sign 91)) a0 22 ((g_mi (mX9_passes0 (g_wm M f (g_ml M)) a0 (fX9_sign 91)) a0 22) + 1)) a0 25) = 0 then (if x1 = 0 then (0, 0, g_mi (g_wi (mX9_passes0 (g_wm M f (g_ml M)) a0 (fX9_sign 91)) a0 22 ((g_mi (mX9_passes0 (g_wm M f (g_ml M)) a0 (fX9_sign 91)) a0 22) + 1))) else (if (g_mi (g_wi (mX9_passes0 (g_wm M f (g_ml M)) a0 (fX9_sign 91)) a0 22 ((g_mi (mX9_passes0 (g_wm M f (g_ml M)) a0 (fX9_sign 91)) a0 22) + 1)) a0 24) = 0 then (if (fX9_codeAt (mX9_passes0 (g_wm M f (g_ml M)) a0 (fX9_sign 91)) a0 (g_mi (mX9_passes0 (g_wm M f (g_ml M)) a0 (fX9_sign 91)) a0 22)) = 50 then (0, (((g_mi (g_wi (mX9_passes0 (g_wm M f (g_ml M)) a0 (fX9_sign 91)) a0 22 ((g_mi (mX9_passes0 (g_wm M f (g_ml M)) a0 (fX9_sign 91)) a0 22) + 1)) (a0 + 2) (((3012 + (g_mi (g_wi (mX9_passes0 (g_wm M f (g_ml M)) a0 (fX9_sign 91)) a0 22 ((g_mi (mX9_passes0 (g_wm M f (g_ml M)) a0 (fX9_sign 91)) a0 22) + 1)) a0 22)) - 1)).toNatClampNeg) : Int32).toInt64), g_mi (g_wi (mX9_passes0 (g_wm M f (g_ml M)) a0 (fX9_sign 91)) a0 22 ((g_mi (mX9_passes0 (g_wm M f (g_ml M)) a0 (fX9_sign 91)) a0 22) + 1))) else (0, (((g_mi (g_wi (mX9_passes0 (g_wm M f (g_ml M)) a0 (fX9_sign 91)) a0 22 ((g_mi (mX9_passes0 (g_wm M f (g_ml M)) a0 (fX9_sign 91)) a0 22) + 1)) (a0 + 12) (((fX9_codeAt (mX9_passes0 (g_wm M f (g_ml M)) a0 (fX9_sign 91)) a0 (g_mi (mX9_passes0 (g_wm M f (g_ml M)) a0 (fX9_sign 91)) a0 22)) - 7)).toNatClampNeg) : Int32).toInt64), g_mi (g_wi (mX9_passes0 (g_wm M f (g_ml M)) a0 (fX9_sign 91)) a0 22 ((g_mi (mX9_passes0 (g_wm M f (g_ml M)) a0 (fX9_sign 91)) a0 22) + 1)))) else (0, 0, g_mi (g_wi (mX9_passes0 (g_wm M f (g_ml M)) a0 (fX9_sign 91)) a0 22 ((g_mi (mX9_passes0 (g_wm M f (g_ml M)) a0 (fX9_sign 91)) a0 22) + 1))))) else (if (fX9_codeAt (mX9_passes0 (g_wm M f (g_ml M)) a0 (fX9_sign 91)) a0 (g_mi (mX9_passes0 (g_wm M f (g_ml M)) a0 (fX9_sign 91)) a0 22)) = 12 then (if x1 = 0 then (0, 0, g_mi (g_wi (g_wi (mX9_passes0 (g_wm M f (g_ml M)) a0 (fX9_sign 91)) a0 22 ((g_mi (mX9_passes0 (g_wm M f (g_ml M)) a0 (fX9_sign 91)) a0 22) + 1)) a0 22 ((g_mi (g_wi (mX9_passes0 (g_wm M f (g_ml M)) a0 (fX9_sign 91)) a0 22 ((g_mi (mX9_passes0 (g_wm M f (g_ml M)) a0 (fX9_sign 91)) a0 22) + 1)) a0 22) + 1))) else (if (g_mi (g_wi (g_wi (mX9_passes0 (g_wm M f (g_ml M)) a0 (fX9_sign 91)) a0 22 ((g_mi (mX9_passes0 (g_wm M f (g_ml M)) a0 (fX9_sign 91)) a0 22) + 1)) a0 22 ((g_mi (g_wi (mX9_passes0 (g_wm M f (g_ml M)) a0 (fX9_sign 91)) a0 22 ((g_mi (mX9_passes0 (g_wm M f (g_ml M)) a0 (fX9_sign 91)) a0 22) + 1)) a0 22) + 1)) a0 24) = 0 then (if (g_mi (g_wi (g_wi (mX9_passes0 (g_wm M f (g_ml M)) a0 (fX9_sign 91)) a0 22 ((g_mi (mX9_passes0 (g_wm M f (g_ml M)) a0 (fX9_sign 91)) a0 22) + 1)) a0 22 ((g_mi (g_wi (mX9_passes0 (g_wm M f (g_ml M)) a0 (fX9_sign 91)) a0 22 ((g_mi (mX9_passes0 (g_wm M f (g_ml M)) a0 (fX9_sign 91)) a0 22) + 1)) a0 22) + 1)) a0 25) = 0 then (0, (((g_mi (g_wi (g_wi (mX9_passes0 (g_wm M f (g_ml M)) a0 (fX9_sign 91)) a0 22 ((g_mi (mX9_passes0 (g_wm M f (g_ml M)) a0 (fX9_sign 91)) a0 22) + 1)) a0 22 ((g_mi (g_wi (mX9_passes0 (g_wm M f (g_ml M)) a0 (fX9_sign 91)) a0 22 ((g_mi (mX9_passes0 (g_wm M f (g_ml M)) a0 (fX9_sign 91)) a0 22) + 1)) a0 22) + 1)) (a0 + 12) (((fX9_codeAt (mX9_passes0 (g_wm M f (g_ml M)) a0 (fX9_sign 91)) a0 (g_mi (mX9_passes0 (g_wm M f (g_ml M)) a0 (fX9_sign 91)) a0 22)) - 7)).toNatClampNeg) : Int32).toInt64), g_mi (g_wi (g_wi (mX9_passes0 (g_wm M f (g_ml M)) a0 (fX9_sign 91)) a0 22 ((g_mi (mX9_passes0 (g_wm M f (g_ml M)) a0 (fX9_sign 91)) a0 22) + 1)) a0 22 ((g_mi (g_wi (mX9_passes0 (g_wm M f (g_ml M)) a0 (fX9_sign 91)) a0 22 ((g_mi (mX9_passes0 (g_wm M f (g_ml M)) a0 (fX9_sign 91)) a0 22) + 1)) a0 22) + 1))) else (0, (((fX9_orderValue N (g_wi (g_wi (mX9_passes0 (g_wm M f (g_ml M)) a0 (fX9_sign 91)) a0 22 ((g_mi (mX9_passes0 (g_wm M f (g_ml M)) a0 (fX9_sign 91)) a0 22) + 1)) a0 22 ((g_mi (g_wi (mX9_passes0 (g_wm M f (g_ml M)) a0 (fX9_sign 91)) a0 22 ((g_mi (mX9_passes0 (g_wm M f (g_ml M)) a0 (fX9_sign 91)) a0 22) + 1)) a0 22) + 1)) a0 (fX9_codeAt (mX9_passes0 (g_wm M f (g_ml M)) a0 (fX9_sign 91)) a0 (g_mi (mX9_passes0 (g_wm M f (g_ml M)) a0 (fX9_sign 91)) a0 22)) (g_mi (g_wi (mX9_passes0 (g_wm M f (g_ml M)) a0 (fX9_sign 91)) a0 22 ((g_mi (mX9_passes0 (g_wm M f (g_ml M)) a0 (fX9_sign 91)) a0 22) + 1)) (a0 + 2) ((3012 + (g_mi (g_wi (mX9_passes0 (g_wm M f (g_ml M)) a0 (fX9_sign 91)) a0 22 ((g_mi (mX9_passes0 (g_wm M f (g_ml M)) a0 (fX9_sign 91)) a0 22) + 1)) a0 22))).toNatClampNeg)) : Int32).toInt64), g_mi (g_wi (g_wi (mX9_passes0 (g_wm M f (g_ml M)) a0 (fX9_sign 91)) a0 22 ((g_mi (mX9_passes0 (g_wm M f (g_ml M)) a0 (fX9_sign 91)) a0 22) + 1)) a0 22 ((g_mi (g_wi (mX9_passes0 (g_wm M f (g_ml M)) a0 (fX9_sign 91)) a0 22 ((g_mi (mX9_passes0 (g_wm M f (g_ml M)) a0 (fX9_sign 91)) a0 22) + 1)) a0 22) + 1)))) else (0, 0, g_mi (g_wi (g_wi (mX9_passes0 (g_wm M f (g_ml M)) a0 (fX9_sign 91)) a0 22 ((g_mi (mX9_passes0 (g_wm M f (g_ml M)) a0 (fX9_sign 91)) a0 22) + 1)) a0 22 ((g_mi (g_wi (mX9_passes0 (g_wm M f (g_ml M)) a0 (fX9_sign 91)) a0 22 ((g_mi (mX9_passes0 (g_wm M f (g_ml M)) a0 (fX9_sign 91)) a0 22) + 1)) a0 22) + 1))))) else (if (fX9_codeAt (mX9_passes0 (g_wm M f (g_ml M)) a0 (fX9_sign 91)) a0 (g_mi (mX9_passes0 (g_wm M f (g_ml M)) a0 (fX9_sign 91)) a0 22)) = 17 then (if x1 = 0 then (0, 0, g_mi (g_wi (g_wi (mX9_passes0 (g_wm M f (g_ml M)) a0 (fX9_sign 91)) a0 22 ((g_mi (mX9_passes0 (g_wm M f (g_ml M)) a0 (fX9_sign 91)) a0 22) + 1)) a0 22 ((g_mi (g_wi (mX9_passes0 (g_wm M f (g_ml M)) a0 (fX9_sign 91)) a0 22 ((g_mi (mX9_passes0 (g_wm M f (g_ml M)) a0 (fX9_sign 91)) a0 22) + 1)) a0 22) + 1))) else (if (g_mi (g_wi (g_wi (mX9_passes0 (g_wm M f (g_ml M)) a0 (fX9_sign 91)) a0 22 ((g_mi (mX9_passes0 (g_wm M f (g_ml M)) a0 (fX9_sign 91)) a0 22) + 1)) a0 22 ((g_mi (g_wi (mX9_passes0 (g_wm M f (g_ml M)) a0 (fX9_sign 91)) a0 22 ((g_mi (mX9_passes0 (g_wm M f (g_ml M)) a0 (fX9_sign 91)) a0 22) + 1)) a0 22) + 1)) a0 24) = 0 then (if (g_mi (g_wi (g_wi (mX9_passes0 (g_wm M f (g_ml M)) a0 (fX9_sign 91)) a0 22 ((g_mi (mX9_passes0 (g_wm M f (g_ml M)) a0 (fX9_sign 91)) a0 22) + 1)) a0 22 ((g_mi (g_wi (mX9_passes0 (g_wm M f (g_ml M)) a0 (fX9_sign 91)) a0 22 ((g_mi (mX9_passes0 (g_wm M f (g_ml M)) a0 (fX9_sign 91)) a0 22) + 1)) a0 22) + 1)) a0 25) = 0 then (0, (((g_mi (g_wi (g_wi (mX9_passes0 (g_wm M f (g_ml M)) a0 (fX9_sign 91)) a0 22 ((g_mi (mX9_passes0 (g_wm M f (g_ml M)) a0 (fX9_sign 91)) a0 22) + 1)) a0 22 ((g_mi (g_wi (mX9_passes0 (g_wm M f (g_ml M)) a0 (fX9_sign 91)) a0 22 ((g_mi (mX9_passes0 (g_wm M f (g_ml M)) a0 (fX9_sign 91)) a0 22) + 1)) a0 22) + 1)) (a0 + 12) (((fX9_codeAt (mX9_passes0 (g_wm M f (g_ml M)) a0 (fX9_sign 91)) a0 (g_mi (mX9_passes0 (g_wm M f (g_ml M)) a0 (fX9_sign 91)) a0 22)) - 7)).toNatClampNeg) : Int32).toInt64), g_mi (g_wi (g_wi (mX9_passes0 (g_wm M f (g_ml M)) a0 (fX9_sign 91)) a0 22 ((g_mi (mX9_passes0 (g_wm M f (g_ml M)) a0 (fX9_sign 91)) a0 22) + 1)) a0 22 ((g_mi (g_wi (mX9_passes0 (g_wm M f (g_ml M)) a0 (fX9_sign 91)) a0 22 ((g_mi (mX9_passes0 (g_wm M f (g_ml M)) a0 (fX9_sign 91)) a0 22) + 1)) a0 22) + 1))) else (0, (((fX9_orderValue N (g_wi (g_wi (mX9_passes0 (g_wm M f (g_ml M)) a0 (fX9_sign 91)) a0 22 ((g_mi (mX9_passes0 (g_wm M f (g_ml M)) a0 (fX9_sign 91)) a0 22) + 1)) a0 22 ((g_mi (g_wi (mX9_passes0 (g_wm M f (g_ml M)) a0 (fX9_sign 91)) a0 22 ((g_mi (mX9_passes0 (g_wm M f (g_ml M)) a0 (fX9_sign 91)) a0 22) + 1)) a0 22) + 1)) a0 (fX9_codeAt (mX9_passes0 (g_wm M f (g_ml M)) a0 (fX9_sign 91)) a0 (g_mi (mX9_passes0 (g_wm M f (g_ml M)) a0 (fX9_sign 91)) a0 22)) (g_mi (g_wi (mX9_passes0 (g_wm M f (g_ml M)) a0 (fX9_sign 91)) a0 22 ((g_mi (mX9_passes0 (g_wm M f (g_ml M)) a0 (fX9_sign 91)) a0 22) + 1)) (a0 + 2) ((3012 + (g_mi (g_wi (mX9_passes0 (g_wm M f (g_ml M)) a0 (fX9_sign 91)) a0 22 ((g_mi (mX9_passes0 (g_wm M f (g_ml M)) a0 (fX9_sign 91)) a0 22) + 1)) a0 22))).toNatClampNeg)) : Int32).toInt64), g_mi (g_wi (g_wi (mX9_passes0 (g_wm M f (g_ml M)) a0 (fX9_sign 91)) a0 22 ((g_mi (mX9_passes0 (g_wm M f (g_ml M)) a0 (fX9_sign 91)) a0 22) + 1)) a0 22 ((g_mi (g_wi (mX9_passes0 (g_wm M f (g_ml M)) a0 (fX9_sign 91)) a0 22 ((g_mi (mX9_passes0 (g_wm M f (g_ml M)) a0 (fX9_sign 91)) a0 22) + 1)) a0 22) + 1)))) else (0, 0, g_mi (g_wi (g_wi (mX9_passes0 (g_wm M f (g_ml M)) a0 (fX9_sign 91)) a0 22 ((g_mi (mX9_passes0 (g_wm M f (g_ml M)) a0 (fX9_sign 91)) a0 22) + 1)) a0 22 ((g_mi (g_wi (mX9_passes0 (g_wm M f (g_ml M)) a0 (fX9_sign 91)) a0 22 ((g_mi (mX9_passes0 (g_wm M f (g_ml M)) a0 (fX9_sign 91)) a0 22) + 1)) a0 22) + 1))))) else (if x1 = 0 then (0, 0, g_mi (g_wi (mX9_passes0 (g_wm M f (g_ml M)) a0 (fX9_sign 91)) a0 22 ((g_mi (mX9_passes0 (g_wm M f (g_ml M)) a0 (fX9_sign 91)) a0 22) + 1))) else (if (g_mi (g_wi (mX9_passes0 (g_wm M f (g_ml M)) a0 (fX9_sign 91)) a0 22 ((g_mi (mX9_passes0 (g_wm M f (g_ml M)) a0 (fX9_sign 91)) a0 22) + 1)) a0 24) = 0 then (if (fX9_codeAt (mX9_passes0 (g_wm M f (g_ml M)) a0 (fX9_sign 91)) a0 (g_mi (mX9_passes0 (g_wm M f (g_ml M)) a0 (fX9_sign 91)) a0 22)) = 50 then (0, (((g_mi (g_wi (mX9_passes0 (g_wm M f (g_ml M)) a0 (fX9_sign 91)) a0 22 ((g_mi (mX9_passes0 (g_wm M f (g_ml M)) a0 (fX9_sign 91)) a0 22) + 1)) (a0 + 2) (((3012 + (g_mi (g_wi (mX9_passes0 (g_wm M f (g_ml M)) a0 (fX9_sign 91)) a0 22 ((g_mi (mX9_passes0 (g_wm M f (g_ml M)) a0 (fX9_sign 91)) a0 22) + 1)) a0 22)) - 1)).toNatClampNeg) : Int32).toInt64), g_mi (g_wi (mX9_passes0 (g_wm M f (g_ml M)) a0 (fX9_sign 91)) a0 22 ((g_mi (mX9_passes0 (g_wm M f (g_ml M)) a0 (fX9_sign 91)) a0 22) + 1))) else (0, (((fX9_orderValue N (g_wi (mX9_passes0 (g_wm M f (g_ml M)) a0 (fX9_sign 91)) a0 22 ((g_mi (mX9_passes0 (g_wm M f (g_ml M)) a0 (fX9_sign 91)) a0 22) + 1)) a0 (fX9_codeAt (mX9_passes0 (g_wm M f (g_ml M)) a0 (fX9_sign 91)) a0 (g_mi (mX9_passes0 (g_wm M f (g_ml M)) a0 (fX9_sign 91)) a0 22)) 0) : Int32).toInt64), g_mi (g_wi (mX9_passes0 (g_wm M f (g_ml M)) a0 (fX9_sign 91)) a0 22 ((g_mi (mX9_passes0 (g_wm M f (g_ml M)) a0 (fX9_sign 91)) a0 22) + 1)))) else (0, 0, g_mi (g_wi (mX9_passes0 (g_wm M f (g_ml M)) a0 (fX9_sign 91)) a0 22 ((g_mi (mX9_passes0 (g_wm M f (g_ml M)) a0 (fX9_sign 91)) a0 22) + 1)))))))) else (kw 24 (kw 15 (g_mi (mX9_passes0 (g_wm M f (g_ml M)) a0 (fX9_sign 91))) a0 x1 0 0 0 0 0).2.2 a0 0 0 0 (kw 15 (g_mi (mX9_passes0 (g_wm M f (g_ml M)) a0 (fX9_sign 91))) a0 x1 0 0 0 0 0).2.1 0 0))
def eX9_partOf_0 (N : Nat) (M : gM) (f : Nat → Nat → Int32) (a0 : Nat) (x1 : Int32) (kw : Nat → (Nat → Nat → Int32) → Nat → Int32 → Int32 → Int32 → Int64 → Int64 → Int32 → Int32 × Int64 × (Nat → Nat → Int32)) (kv : Nat → (Nat → Nat → Int32) → Nat → Int32 → Int32 → Int32 → Int64 → Int64 → Int32 → Prop) : Prop := (EX9_passes0 (g_wm M f (g_ml M)) a0 (fX9_sign 91)) ∧ (((fX9_passes0 (g_wm M f (g_ml M)) a0 (fX9_sign 91)) = 0) → EX9_codeAt (mX9_passes0 (g_wm M f (g_ml M)) a0 (fX9_sign 91)) a0 (g_mi (mX9_passes0 (g_wm M f (g_ml M)) a0 (fX9_sign 91)) a0 22)) ∧ (((fX9_passes0 (g_wm M f (g_ml M)) a0 (fX9_sign 91)) = 0) → ((g_mi (g_wi (mX9_passes0 (g_wm M f (g_ml M)) a0 (fX9_sign 91)) a0 22 ((g_mi (mX9_passes0 (g_wm M f (g_ml M)) a0 (fX9_sign 91)) a0 22) + 1)) a0 25) = 0) → (¬ x1 = 0) → ((g_mi (g_wi (mX9_passes0 (g_wm M f (g_ml M)) a0 (fX9_sign 91)) a0 22 ((g_mi (mX9_passes0 (g_wm M f (g_ml M)) a0 (fX9_sign 91)) a0 22) + 1)) a0 24) = 0) → (¬ (fX9_codeAt (mX9_passes0 (g_wm M f (g_ml M)) a0 (fX9_sign 91)) a0 (g_mi (mX9_passes0 (g_wm M f (g_ml M)) a0 (fX9_sign 91)) a0 22)) = 50) → vp_in (((fX9_codeAt (mX9_passes0 (g_wm M f (g_ml M)) a0 (fX9_sign 91)) a0 (g_mi (mX9_passes0 (g_wm M f (g_ml M)) a0 (fX9_sign 91)) a0 22)) - 7)) 7) ∧ (((fX9_passes0 (g_wm M f (g_ml M)) a0 (fX9_sign 91)) = 0) → ((g_mi (g_wi (mX9_passes0 (g_wm M f (g_ml M)) a0 (fX9_sign 91)) a0 22 ((g_mi (mX9_passes0 (g_wm M f (g_ml M)) a0 (fX9_sign 91)) a0 22) + 1)) a0 25) = 0) → (¬ x1 = 0) → ((g_mi (g_wi (mX9_passes0 (g_wm M f (g_ml M)) a0 (fX9_sign 91)) a0 22 ((g_mi (mX9_passes0 (g_wm M f (g_ml M)) a0 (fX9_sign 91)) a0 22) + 1)) a0 24) = 0) → ((fX9_codeAt (mX9_passes0 (g_wm M f (g_ml M)) a0 (fX9_sign 91)) a0 (g_mi (mX9_passes0 (g_wm M f (g_ml M)) a0 (fX9_sign 91)) a0 22)) = 50) → vp_in (((3012 + (g_mi (g_wi (mX9_passes0 (g_wm M f (g_ml M)) a0 (fX9_sign 91)) a0 22 ((g_mi (mX9_passes0 (g_wm M f (g_ml M)) a0 (fX9_sign 91)) a0 22) + 1)) a0 22)) - 1)) 5812) ∧ (((fX9_passes0 (g_wm M f (g_ml M)) a0 (fX9_sign 91)) = 0) → (¬ (g_mi (g_wi (mX9_passes0 (g_wm M f (g_ml M)) a0 (fX9_sign 91)) a0 22 ((g_mi (mX9_passes0 (g_wm M f (g_ml M)) a0 (fX9_sign 91)) a0 22) + 1)) a0 25) = 0) → ((fX9_codeAt (mX9_passes0 (g_wm M f (g_ml M)) a0 (fX9_sign 91)) a0 (g_mi (mX9_passes0 (g_wm M f (g_ml M)) a0 (fX9_sign 91)) a0 22)) = 12) → vp_in ((3012 + (g_mi (g_wi (mX9_passes0 (g_wm M f (g_ml M)) a0 (fX9_sign 91)) a0 22 ((g_mi (mX9_passes0 (g_wm M f (g_ml M)) a0 (fX9_sign 91)) a0 22) + 1)) a0 22))) 5812) ∧ (((fX9_passes0 (g_wm M f (g_ml M)) a0 (fX9_sign 91)) = 0) → (¬ (g_mi (g_wi (mX9_passes0 (g_wm M f (g_ml M)) a0 (fX9_sign 91)) a0 22 ((g_mi (mX9_passes0 (g_wm M f (g_ml M)) a0 (fX9_sign 91)) a0 22) + 1)) a0 25) = 0) → ((fX9_codeAt (mX9_passes0 (g_wm M f (g_ml M)) a0 (fX9_sign 91)) a0 (g_mi (mX9_passes0 (g_wm M f (g_ml M)) a0 (fX9_sign 91)) a0 22)) = 12) → (¬ x1 = 0) → ((g_mi (g_wi (g_wi (mX9_passes0 (g_wm M f (g_ml M)) a0 (fX9_sign 91)) a0 22 ((g_mi (mX9_passes0 (g_wm M f (g_ml M)) a0 (fX9_sign 91)) a0 22) + 1)) a0 22 ((g_mi (g_wi (mX9_passes0 (g_wm M f (g_ml M)) a0 (fX9_sign 91)) a0 22 ((g_mi (mX9_passes0 (g_wm M f (g_ml M)) a0 (fX9_sign 91)) a0 22) + 1)) a0 22) + 1)) a0 24) = 0) → ((g_mi (g_wi (g_wi (mX9_passes0 (g_wm M f (g_ml M)) a0 (fX9_sign 91)) a0 22 ((g_mi (mX9_passes0 (g_wm M f (g_ml M)) a0 (fX9_sign 91)) a0 22) + 1)) a0 22 ((g_mi (g_wi (mX9_passes0 (g_wm M f (g_ml M)) a0 (fX9_sign 91)) a0 22 ((g_mi (mX9_passes0 (g_wm M f (g_ml M)) a0 (fX9_sign 91)) a0 22) + 1)) a0 22) + 1)) a0 25) = 0) → vp_in (((fX9_codeAt (mX9_passes0 (g_wm M f (g_ml M)) a0 (fX9_sign 91)) a0 (g_mi (mX9_passes0 (g_wm M f (g_ml M)) a0 (fX9_sign 91)) a0 22)) - 7)) 7) ∧ (((fX9_passes0 (g_wm M f (g_ml M)) a0 (fX9_sign 91)) = 0) → (¬ (g_mi (g_wi (mX9_passes0 (g_wm M f (g_ml M)) a0 (fX9_sign 91)) a0 22 ((g_mi (mX9_passes0 (g_wm M f (g_ml M)) a0 (fX9_sign 91)) a0 22) + 1)) a0 25) = 0) → ((fX9_codeAt (mX9_passes0 (g_wm M f (g_ml M)) a0 (fX9_sign 91)) a0 (g_mi (mX9_passes0 (g_wm M f (g_ml M)) a0 (fX9_sign 91)) a0 22)) = 12) → (¬ x1 = 0) → ((g_mi (g_wi (g_wi (mX9_passes0 (g_wm M f (g_ml M)) a0 (fX9_sign 91)) a0 22 ((g_mi (mX9_passes0 (g_wm M f (g_ml M)) a0 (fX9_sign 91)) a0 22) + 1)) a0 22 ((g_mi (g_wi (mX9_passes0 (g_wm M f (g_ml M)) a0 (fX9_sign 91)) a0 22 ((g_mi (mX9_passes0 (g_wm M f (g_ml M)) a0 (fX9_sign 91)) a0 22) + 1)) a0 22) + 1)) a0 24) = 0) → (¬ (g_mi (g_wi (g_wi (mX9_passes0 (g_wm M f (g_ml M)) a0 (fX9_sign 91)) a0 22 ((g_mi (mX9_passes0 (g_wm M f (g_ml M)) a0 (fX9_sign 91)) a0 22) + 1)) a0 22 ((g_mi (g_wi (mX9_passes0 (g_wm M f (g_ml M)) a0 (fX9_sign 91)) a0 22 ((g_mi (mX9_passes0 (g_wm M f (g_ml M)) a0 (fX9_sign 91)) a0 22) + 1)) a0 22) + 1)) a0 25) = 0) → EX9_orderValue N (g_wi (g_wi (mX9_passes0 (g_wm M f (g_ml M)) a0 (fX9_sign 91)) a0 22 ((g_mi (mX9_passes0 (g_wm M f (g_ml M)) a0 (fX9_sign 91)) a0 22) + 1)) a0 22 ((g_mi (g_wi (mX9_passes0 (g_wm M f (g_ml M)) a0 (fX9_sign 91)) a0 22 ((g_mi (mX9_passes0 (g_wm M f (g_ml M)) a0 (fX9_sign 91)) a0 22) + 1)) a0 22) + 1)) a0 (fX9_codeAt (mX9_passes0 (g_wm M f (g_ml M)) a0 (fX9_sign 91)) a0 (g_mi (mX9_passes0 (g_wm M f (g_ml M)) a0 (fX9_sign 91)) a0 22)) (g_mi (g_wi (mX9_passes0 (g_wm M f (g_ml M)) a0 (fX9_sign 91)) a0 22 ((g_mi (mX9_passes0 (g_wm M f (g_ml M)) a0 (fX9_sign 91)) a0 22) + 1)) (a0 + 2) ((3012 + (g_mi (g_wi (mX9_passes0 (g_wm M f (g_ml M)) a0 (fX9_sign 91)) a0 22 ((g_mi (mX9_passes0 (g_wm M f (g_ml M)) a0 (fX9_sign 91)) a0 22) + 1)) a0 22))).toNatClampNeg)) ∧ (((fX9_passes0 (g_wm M f (g_ml M)) a0 (fX9_sign 91)) = 0) → (¬ (g_mi (g_wi (mX9_passes0 (g_wm M f (g_ml M)) a0 (fX9_sign 91)) a0 22 ((g_mi (mX9_passes0 (g_wm M f (g_ml M)) a0 (fX9_sign 91)) a0 22) + 1)) a0 25) = 0) → (¬ (fX9_codeAt (mX9_passes0 (g_wm M f (g_ml M)) a0 (fX9_sign 91)) a0 (g_mi (mX9_passes0 (g_wm M f (g_ml M)) a0 (fX9_sign 91)) a0 22)) = 12) → (¬ (fX9_codeAt (mX9_passes0 (g_wm M f (g_ml M)) a0 (fX9_sign 91)) a0 (g_mi (mX9_passes0 (g_wm M f (g_ml M)) a0 (fX9_sign 91)) a0 22)) = 17) → (¬ x1 = 0) → ((g_mi (g_wi (mX9_passes0 (g_wm M f (g_ml M)) a0 (fX9_sign 91)) a0 22 ((g_mi (mX9_passes0 (g_wm M f (g_ml M)) a0 (fX9_sign 91)) a0 22) + 1)) a0 24) = 0) → (¬ (fX9_codeAt (mX9_passes0 (g_wm M f (g_ml M)) a0 (fX9_sign 91)) a0 (g_mi (mX9_passes0 (g_wm M f (g_ml M)) a0 (fX9_sign 91)) a0 22)) = 50) → EX9_orderValue N (g_wi (mX9_passes0 (g_wm M f (g_ml M)) a0 (fX9_sign 91)) a0 22 ((g_mi (mX9_passes0 (g_wm M f (g_ml M)) a0 (fX9_sign 91)) a0 22) + 1)) a0 (fX9_codeAt (mX9_passes0 (g_wm M f (g_ml M)) a0 (fX9_sign 91)) a0 (g_mi (mX9_passes0 (g_wm M f (g_ml M)) a0 (fX9_sign 91)) a0 22)) 0) ∧ (((fX9_passes0 (g_wm M f (g_ml M)) a0 (fX9_sign 91)) = 0) → (¬ (g_mi (g_wi (mX9_passes0 (g_wm M f (g_ml M)) a0 (fX9_sign 91)) a0 22 ((g_mi (mX9_passes0 (g_wm M f (g_ml M)) a0 (fX9_sign 91)) a0 22) + 1)) a0 25) = 0) → (¬ (fX9_codeAt (mX9_passes0 (g_wm M f (g_ml M)) a0 (fX9_sign 91)) a0 (g_mi (mX9_passes0 (g_wm M f (g_ml M)) a0 (fX9_sign 91)) a0 22)) = 12) → (¬ (fX9_codeAt (mX9_passes0 (g_wm M f (g_ml M)) a0 (fX9_sign 91)) a0 (g_mi (mX9_passes0 (g_wm M f (g_ml M)) a0 (fX9_sign 91)) a0 22)) = 17) → (¬ x1 = 0) → ((g_mi (g_wi (mX9_passes0 (g_wm M f (g_ml M)) a0 (fX9_sign 91)) a0 22 ((g_mi (mX9_passes0 (g_wm M f (g_ml M)) a0 (fX9_sign 91)) a0 22) + 1)) a0 24) = 0) → ((fX9_codeAt (mX9_passes0 (g_wm M f (g_ml M)) a0 (fX9_sign 91)) a0 (g_mi (mX9_passes0 (g_wm M f (g_ml M)) a0 (fX9_sign 91)) a0 22)) = 50) → vp_in (((3012 + (g_mi (g_wi (mX9_passes0 (g_wm M f (g_ml M)) a0 (fX9_sign 91)) a0 22 ((g_mi (mX9_passes0 (g_wm M f (g_ml M)) a0 (fX9_sign 91)) a0 22) + 1)) a0 22)) - 1)) 5812) ∧ (((fX9_passes0 (g_wm M f (g_ml M)) a0 (fX9_sign 91)) = 0) → (¬ (g_mi (g_wi (mX9_passes0 (g_wm M f (g_ml M)) a0 (fX9_sign 91)) a0 22 ((g_mi (mX9_passes0 (g_wm M f (g_ml M)) a0 (fX9_sign 91)) a0 22) + 1)) a0 25) = 0) → (¬ (fX9_codeAt (mX9_passes0 (g_wm M f (g_ml M)) a0 (fX9_sign 91)) a0 (g_mi (mX9_passes0 (g_wm M f (g_ml M)) a0 (fX9_sign 91)) a0 22)) = 12) → ((fX9_codeAt (mX9_passes0 (g_wm M f (g_ml M)) a0 (fX9_sign 91)) a0 (g_mi (mX9_passes0 (g_wm M f (g_ml M)) a0 (fX9_sign 91)) a0 22)) = 17) → vp_in ((3012 + (g_mi (g_wi (mX9_passes0 (g_wm M f (g_ml M)) a0 (fX9_sign 91)) a0 22 ((g_mi (mX9_passes0 (g_wm M f (g_ml M)) a0 (fX9_sign 91)) a0 22) + 1)) a0 22))) 5812) ∧ (((fX9_passes0 (g_wm M f (g_ml M)) a0 (fX9_sign 91)) = 0) → (¬ (g_mi (g_wi (mX9_passes0 (g_wm M f (g_ml M)) a0 (fX9_sign 91)) a0 22 ((g_mi (mX9_passes0 (g_wm M f (g_ml M)) a0 (fX9_sign 91)) a0 22) + 1)) a0 25) = 0) → (¬ (fX9_codeAt (mX9_passes0 (g_wm M f (g_ml M)) a0 (fX9_sign 91)) a0 (g_mi (mX9_passes0 (g_wm M f (g_ml M)) a0 (fX9_sign 91)) a0 22)) = 12) → ((fX9_codeAt (mX9_passes0 (g_wm M f (g_ml M)) a0 (fX9_sign 91)) a0 (g_mi (mX9_passes0 (g_wm M f (g_ml M)) a0 (fX9_sign 91)) a0 22)) = 17) → (¬ x1 = 0) → ((g_mi (g_wi (g_wi (mX9_passes0 (g_wm M f (g_ml M)) a0 (fX9_sign 91)) a0 22 ((g_mi (mX9_passes0 (g_wm M f (g_ml M)) a0 (fX9_sign 91)) a0 22) + 1)) a0 22 ((g_mi (g_wi (mX9_passes0 (g_wm M f (g_ml M)) a0 (fX9_sign 91)) a0 22 ((g_mi (mX9_passes0 (g_wm M f (g_ml M)) a0 (fX9_sign 91)) a0 22) + 1)) a0 22) + 1)) a0 24) = 0) → ((g_mi (g_wi (g_wi (mX9_passes0 (g_wm M f (g_ml M)) a0 (fX9_sign 91)) a0 22 ((g_mi (mX9_passes0 (g_wm M f (g_ml M)) a0 (fX9_sign 91)) a0 22) + 1)) a0 22 ((g_mi (g_wi (mX9_passes0 (g_wm M f (g_ml M)) a0 (fX9_sign 91)) a0 22 ((g_mi (mX9_passes0 (g_wm M f (g_ml M)) a0 (fX9_sign 91)) a0 22) + 1)) a0 22) + 1)) a0 25) = 0) → vp_in (((fX9_codeAt (mX9_passes0 (g_wm M f (g_ml M)) a0 (fX9_sign 91)) a0 (g_mi (mX9_passes0 (g_wm M f (g_ml M)) a0 (fX9_sign 91)) a0 22)) - 7)) 7) ∧ (((fX9_passes0 (g_wm M f (g_ml M)) a0 (fX9_sign 91)) = 0) → (¬ (g_mi (g_wi (mX9_passes0 (g_wm M f (g_ml M)) a0 (fX9_sign 91)) a0 22 ((g_mi (mX9_passes0 (g_wm M f (g_ml M)) a0 (fX9_sign 91)) a0 22) + 1)) a0 25) = 0) → (¬ (fX9_codeAt (mX9_passes0 (g_wm M f (g_ml M)) a0 (fX9_sign 91)) a0 (g_mi (mX9_passes0 (g_wm M f (g_ml M)) a0 (fX9_sign 91)) a0 22)) = 12) → ((fX9_codeAt (mX9_passes0 (g_wm M f (g_ml M)) a0 (fX9_sign 91)) a0 (g_mi (mX9_passes0 (g_wm M f (g_ml M)) a0 (fX9_sign 91)) a0 22)) = 17) → (¬ x1 = 0) → ((g_mi (g_wi (g_wi (mX9_passes0 (g_wm M f (g_ml M)) a0 (fX9_sign 91)) a0 22 ((g_mi (mX9_passes0 (g_wm M f (g_ml M)) a0 (fX9_sign 91)) a0 22) + 1)) a0 22 ((g_mi (g_wi (mX9_passes0 (g_wm M f (g_ml M)) a0 (fX9_sign 91)) a0 22 ((g_mi (mX9_passes0 (g_wm M f (g_ml M)) a0 (fX9_sign 91)) a0 22) + 1)) a0 22) + 1)) a0 24) = 0) → (¬ (g_mi (g_wi (g_wi (mX9_passes0 (g_wm M f (g_ml M)) a0 (fX9_sign 91)) a0 22 ((g_mi (mX9_passes0 (g_wm M f (g_ml M)) a0 (fX9_sign 91)) a0 22) + 1)) a0 22 ((g_mi (g_wi (mX9_passes0 (g_wm M f (g_ml M)) a0 (fX9_sign 91)) a0 22 ((g_mi (mX9_passes0 (g_wm M f (g_ml M)) a0 (fX9_sign 91)) a0 22) + 1)) a0 22) + 1)) a0 25) = 0) → EX9_orderValue N (g_wi (g_wi (mX9_passes0 (g_wm M f (g_ml M)) a0 (fX9_sign 91)) a0 22 ((g_mi (mX9_passes0 (g_wm M f (g_ml M)) a0 (fX9_sign 91)) a0 22) + 1)) a0 22 ((g_mi (g_wi (mX9_passes0 (g_wm M f (g_ml M)) a0 (fX9_sign 91)) a0 22 ((g_mi (mX9_passes0 (g_wm M f (g_ml M)) a0 (fX9_sign 91)) a0 22) + 1)) a0 22) + 1)) a0 (fX9_codeAt (mX9_passes0 (g_wm M f (g_ml M)) a0 (fX9_sign 91)) a0 (g_mi (mX9_passes0 (g_wm M f (g_ml M)) a0 (fX9_sign 91)) a0 22)) (g_mi (g_wi (mX9_passes0 (g_wm M f (g_ml M)) a0 (fX9_sign 91)) a0 22 ((g_mi (mX9_passes0 (g_wm M f (g_ml M)) a0 (fX9_sign 91)) a0 22) + 1)) (a0 + 2) ((3012 + (g_mi (g_wi (mX9_passes0 (g_wm M f (g_ml M)) a0 (fX9_sign 91)) a0 22 ((g_mi (mX9_passes0 (g_wm M f (g_ml M)) a0 (fX9_sign 91)) a0 22) + 1)) a0 22))).toNatClampNeg)) ∧ (if (fX9_passes0 (g_wm M f (g_ml M)) a0 (fX9_sign 91)) = 0 then (if (g_mi (g_wi (mX9_passes0 (g_wm M f (g_ml M)) a0 (fX9_sign 91)) a0 22 ((g_mi (mX9_passes0 (g_wm M f (g_ml M)) a0 (fX9_sign 91)) a0 22) + 1)) a0 25) = 0 then (if x1 = 0 then True else (if (g_mi (g_wi (mX9_passes0 (g_wm M f (g_ml M)) a0 (fX9_sign 91)) a0 22 ((g_mi (mX9_passes0 (g_wm M f (g_ml M)) a0 (fX9_sign 91)) a0 22) + 1)) a0 24) = 0 then (if (fX9_codeAt (mX9_passes0 (g_wm M f (g_ml M)) a0 (fX9_sign 91)) a0 (g_mi (mX9_passes0 (g_wm M f (g_ml M)) a0 (fX9_sign 91)) a0 22)) = 50 then True else True) else True)) else (if (fX9_codeAt (mX9_passes0 (g_wm M f (g_ml M)) a0 (fX9_sign 91)) a0 (g_mi (mX9_passes0 (g_wm M f (g_ml M)) a0 (fX9_sign 91)) a0 22)) = 12 then (if x1 = 0 then True else (if (g_mi (g_wi (g_wi (mX9_passes0 (g_wm M f (g_ml M)) a0 (fX9_sign 91)) a0 22 ((g_mi (mX9_passes0 (g_wm M f (g_ml M)) a0 (fX9_sign 91)) a0 22) + 1)) a0 22 ((g_mi (g_wi (mX9_passes0 (g_wm M f (g_ml M)) a0 (fX9_sign 91)) a0 22 ((g_mi (mX9_passes0 (g_wm M f (g_ml M)) a0 (fX9_sign 91)) a0 22) + 1)) a0 22) + 1)) a0 24) = 0 then (if (g_mi (g_wi (g_wi (mX9_passes0 (g_wm M f (g_ml M)) a0 (fX9_sign 91)) a0 22 ((g_mi (mX9_passes0 (g_wm M f (g_ml M)) a0 (fX9_sign 91)) a0 22) + 1)) a0 22 ((g_mi (g_wi (mX9_passes0 (g_wm M f (g_ml M)) a0 (fX9_sign 91)) a0 22 ((g_mi (mX9_passes0 (g_wm M f (g_ml M)) a0 (fX9_sign 91)) a0 22) + 1)) a0 22) + 1)) a0 25) = 0 then True else True) else True)) else (if (fX9_codeAt (mX9_passes0 (g_wm M f (g_ml M)) a0 (fX9_sign 91)) a0 (g_mi (mX9_passes0 (g_wm M f (g_ml M)) a0 (fX9_sign 91)) a0 22)) = 17 then (if x1 = 0 then True else (if (g_mi (g_wi (g_wi (mX9_passes0 (g_wm M f (g_ml M)) a0 (fX9_sign 91)) a0 22 ((g_mi (mX9_passes0 (g_wm M f (g_ml M)) a0 (fX9_sign 91)) a0 22) + 1)) a0 22 ((g_mi (g_wi (mX9_passes0 (g_wm M f (g_ml M)) a0 (fX9_sign 91)) a0 22 ((g_mi (mX9_passes0 (g_wm M f (g_ml M)) a0 (fX9_sign 91)) a0 22) + 1)) a0 22) + 1)) a0 24) = 0 then (if (g_mi (g_wi (g_wi (mX9_passes0 (g_wm M f (g_ml M)) a0 (fX9_sign 91)) a0 22 ((g_mi (mX9_passes0 (g_wm M f (g_ml M)) a0 (fX9_sign 91)) a0 22) + 1)) a0 22 ((g_mi (g_wi (mX9_passes0 (g_wm M f (g_ml M)) a0 (fX9_sign 91)) a0 22 ((g_mi (mX9_passes0 (g_wm M f (g_ml M)) a0 (fX9_sign 91)) a0 22) + 1)) a0 22) + 1)) a0 25) = 0 then True else True) else True)) else (if x1 = 0 then True else (if (g_mi (g_wi (mX9_passes0 (g_wm M f (g_ml M)) a0 (fX9_sign 91)) a0 22 ((g_mi (mX9_passes0 (g_wm M f (g_ml M)) a0 (fX9_sign 91)) a0 22) + 1)) a0 24) = 0 then (if (fX9_codeAt (mX9_passes0 (g_wm M f (g_ml M)) a0 (fX9_sign 91)) a0 (g_mi (mX9_passes0 (g_wm M f (g_ml M)) a0 (fX9_sign 91)) a0 22)) = 50 then True else True) else True))))) else (kv 15 (g_mi (mX9_passes0 (g_wm M f (g_ml M)) a0 (fX9_sign 91))) a0 x1 0 0 0 0 0 ∧ (kv 24 (kw 15 (g_mi (mX9_passes0 (g_wm M f (g_ml M)) a0 (fX9_sign 91))) a0 x1 0 0 0 0 0).2.2 a0 0 0 0 (kw 15 (g_mi (mX9_passes0 (g_wm M f (g_ml M)) a0 (fX9_sign 91))) a0 x1 0 0 0 0 0).2.1 0 0)))
def bX9_partOf_17 (N : Nat) (M : gM) (f : Nat → Nat → Int32) (a0 : Nat) (ys0 : Int64) (kw : Nat → (Nat → Nat → Int32) → Nat → Int32 → Int32 → Int32 → Int64 → Int64 → Int32 → Int32 × Int64 × (Nat → Nat → Int32)) : Int32 × Int64 × (Nat → Nat → Int32) := (0, ys0, g_mi (g_wi (g_wm M f (g_ml M)) a0 22 ((g_mi (g_wm M f (g_ml M)) a0 22) + 1)))
def eX9_partOf_17 (N : Nat) (M : gM) (f : Nat → Nat → Int32) (a0 : Nat) (ys0 : Int64) (kw : Nat → (Nat → Nat → Int32) → Nat → Int32 → Int32 → Int32 → Int64 → Int64 → Int32 → Int32 × Int64 × (Nat → Nat → Int32)) (kv : Nat → (Nat → Nat → Int32) → Nat → Int32 → Int32 → Int32 → Int64 → Int64 → Int32 → Prop) : Prop := True
def wgME (N : Nat) (M : gM) : Nat → Nat → (Nat → Nat → Int32) → Nat → Int32 → Int32 → Int32 → Int64 → Int64 → Int32 → Int32 × Int64 × (Nat → Nat → Int32)
  | 0, _, f, _, _, _, _, _, _, _ => (0, 0, f)
  | n + 1, h, f, a0, x1, xs0, x2, ys0, y2, x4 => if h = 0 then bX9_testOf_0 N M f a0 x1 (wgME N M n) else if h = 1 then bX9_testOf_5 N M f a0 x1 xs0 (wgME N M n) else if h = 2 then bX9_testOf_6 N M f a0 x1 x2 (wgME N M n) else if h = 3 then bX9_testOf_31 N M f a0 x1 x2 xs0 (wgME N M n) else if h = 4 then bX9_bothOf_0 N M f a0 x1 (wgME N M n) else if h = 5 then bX9_bothOf_5 N M f a0 x1 xs0 (wgME N M n) else if h = 6 then bX9_bothOf_6 N M f a0 x1 x2 (wgME N M n) else if h = 7 then bX9_bothOf_31 N M f a0 x1 x2 xs0 (wgME N M n) else if h = 8 then bX9_plainOf_0 N M f a0 x1 (wgME N M n) else if h = 9 then bX9_plainOf_2 N M f a0 x1 x2 (wgME N M n) else if h = 10 then bX9_plainOf_29 N M f x2 xs0 (wgME N M n) else if h = 11 then bX9_positiveOf_0 N M f a0 x1 (wgME N M n) else if h = 12 then bX9_positiveOf_17 N M f a0 xs0 (wgME N M n) else if h = 13 then bX9_positiveOf_35 N M f a0 x1 ys0 (wgME N M n) else if h = 14 then bX9_positiveOf_61 N M f a0 x1 y2 x4 ys0 (wgME N M n) else if h = 15 then bX9_sumOf_0 N M f a0 x1 (wgME N M n) else if h = 16 then bX9_sumOf_5 N M f a0 x1 ys0 (wgME N M n) else if h = 17 then bX9_sumOf_6 N M f a0 x1 y2 (wgME N M n) else if h = 18 then bX9_sumOf_76 N M f a0 x1 y2 x4 ys0 (wgME N M n) else if h = 19 then bX9_termOf_0 N M f a0 x1 (wgME N M n) else if h = 20 then bX9_termOf_5 N M f a0 x1 ys0 (wgME N M n) else if h = 21 then bX9_termOf_6 N M f a0 x1 y2 (wgME N M n) else if h = 22 then bX9_termOf_79 N M f a0 x1 y2 x4 ys0 (wgME N M n) else if h = 23 then bX9_partOf_0 N M f a0 x1 (wgME N M n) else bX9_partOf_17 N M f a0 ys0 (wgME N M n)
def vgME (N : Nat) (M : gM) : Nat → Nat → (Nat → Nat → Int32) → Nat → Int32 → Int32 → Int32 → Int64 → Int64 → Int32 → Prop
  | 0, _, _, _, _, _, _, _, _, _ => False
  | n + 1, h, f, a0, x1, xs0, x2, ys0, y2, x4 => if h = 0 then eX9_testOf_0 N M f a0 x1 (wgME N M n) (vgME N M n) else if h = 1 then eX9_testOf_5 N M f a0 x1 xs0 (wgME N M n) (vgME N M n) else if h = 2 then eX9_testOf_6 N M f a0 x1 x2 (wgME N M n) (vgME N M n) else if h = 3 then eX9_testOf_31 N M f a0 x1 x2 xs0 (wgME N M n) (vgME N M n) else if h = 4 then eX9_bothOf_0 N M f a0 x1 (wgME N M n) (vgME N M n) else if h = 5 then eX9_bothOf_5 N M f a0 x1 xs0 (wgME N M n) (vgME N M n) else if h = 6 then eX9_bothOf_6 N M f a0 x1 x2 (wgME N M n) (vgME N M n) else if h = 7 then eX9_bothOf_31 N M f a0 x1 x2 xs0 (wgME N M n) (vgME N M n) else if h = 8 then eX9_plainOf_0 N M f a0 x1 (wgME N M n) (vgME N M n) else if h = 9 then eX9_plainOf_2 N M f a0 x1 x2 (wgME N M n) (vgME N M n) else if h = 10 then eX9_plainOf_29 N M f x2 xs0 (wgME N M n) (vgME N M n) else if h = 11 then eX9_positiveOf_0 N M f a0 x1 (wgME N M n) (vgME N M n) else if h = 12 then eX9_positiveOf_17 N M f a0 xs0 (wgME N M n) (vgME N M n) else if h = 13 then eX9_positiveOf_35 N M f a0 x1 ys0 (wgME N M n) (vgME N M n) else if h = 14 then eX9_positiveOf_61 N M f a0 x1 y2 x4 ys0 (wgME N M n) (vgME N M n) else if h = 15 then eX9_sumOf_0 N M f a0 x1 (wgME N M n) (vgME N M n) else if h = 16 then eX9_sumOf_5 N M f a0 x1 ys0 (wgME N M n) (vgME N M n) else if h = 17 then eX9_sumOf_6 N M f a0 x1 y2 (wgME N M n) (vgME N M n) else if h = 18 then eX9_sumOf_76 N M f a0 x1 y2 x4 ys0 (wgME N M n) (vgME N M n) else if h = 19 then eX9_termOf_0 N M f a0 x1 (wgME N M n) (vgME N M n) else if h = 20 then eX9_termOf_5 N M f a0 x1 ys0 (wgME N M n) (vgME N M n) else if h = 21 then eX9_termOf_6 N M f a0 x1 y2 (wgME N M n) (vgME N M n) else if h = 22 then eX9_termOf_79 N M f a0 x1 y2 x4 ys0 (wgME N M n) (vgME N M n) else if h = 23 then eX9_partOf_0 N M f a0 x1 (wgME N M n) (vgME N M n) else eX9_partOf_17 N M f a0 ys0 (wgME N M n) (vgME N M n)
def PX9_testOf_0 (X : gX) (N : Nat) (M : gM) (n : Nat) : Prop := ∀ (d D mc ms : Nat) (Q : Option Value → gM → Prop) (f : Nat → Nat → Int32) (a0 : Nat) (x1 : Int32) (xs0 : Int32) (x2 : Int32) (ys0 : Int64) (y2 : Int64) (x4 : Int32), D = d + n + 6 → Mo M a0 → vgME N M n 0 f a0 x1 xs0 x2 ys0 y2 x4 → Q (some (.int (wgME N M n 0 f a0 x1 xs0 x2 ys0 y2 x4).1)) (g_wm M (wgME N M n 0 f a0 x1 xs0 x2 ys0 y2 x4).2.2 (g_ml M)) → Cn X D mc ms kX9_testOf [.ref a0, .int (x1)] (g_wm M f (g_ml M)) Q
def PX9_testOf_5 (X : gX) (N : Nat) (M : gM) (n : Nat) : Prop := ∀ (d D mc ms : Nat) (Q : Option Value → gM → Prop) (f : Nat → Nat → Int32) (a0 : Nat) (x1 : Int32) (xs0 : Int32) (x2 : Int32) (ys0 : Int64) (y2 : Int64) (x4 : Int32), D = d + n + 6 → Mo M a0 → vgME N M n 1 f a0 x1 xs0 x2 ys0 y2 x4 → Q (some (.int (wgME N M n 1 f a0 x1 xs0 x2 ys0 y2 x4).1)) (g_wm M (wgME N M n 1 f a0 x1 xs0 x2 ys0 y2 x4).2.2 (g_ml M)) → Go X D mc ms kX9_testOf Q 5 [(0, .ref a0), (1, .int (x1))] [.int (xs0)] (g_wm M f (g_ml M)) 0 0
def PX9_testOf_6 (X : gX) (N : Nat) (M : gM) (n : Nat) : Prop := ∀ (d D mc ms : Nat) (Q : Option Value → gM → Prop) (f : Nat → Nat → Int32) (a0 : Nat) (x1 : Int32) (xs0 : Int32) (x2 : Int32) (ys0 : Int64) (y2 : Int64) (x4 : Int32), D = d + n + 6 → Mo M a0 → vgME N M n 2 f a0 x1 xs0 x2 ys0 y2 x4 → Q (some (.int (wgME N M n 2 f a0 x1 xs0 x2 ys0 y2 x4).1)) (g_wm M (wgME N M n 2 f a0 x1 xs0 x2 ys0 y2 x4).2.2 (g_ml M)) → Go X D mc ms kX9_testOf Q 6 [(0, .ref a0), (1, .int (x1)), (2, .int (x2))] [] (g_wm M f (g_ml M)) 0 0
def PX9_testOf_31 (X : gX) (N : Nat) (M : gM) (n : Nat) : Prop := ∀ (d D mc ms : Nat) (Q : Option Value → gM → Prop) (f : Nat → Nat → Int32) (a0 : Nat) (x1 : Int32) (xs0 : Int32) (x2 : Int32) (ys0 : Int64) (y2 : Int64) (x4 : Int32), D = d + n + 6 → Mo M a0 → vgME N M n 3 f a0 x1 xs0 x2 ys0 y2 x4 → Q (some (.int (wgME N M n 3 f a0 x1 xs0 x2 ys0 y2 x4).1)) (g_wm M (wgME N M n 3 f a0 x1 xs0 x2 ys0 y2 x4).2.2 (g_ml M)) → Go X D mc ms kX9_testOf Q 31 [(0, .ref a0), (1, .int (x1)), (2, .int (x2))] [.int (xs0)] (g_wm M f (g_ml M)) 0 0
def PX9_bothOf_0 (X : gX) (N : Nat) (M : gM) (n : Nat) : Prop := ∀ (d D mc ms : Nat) (Q : Option Value → gM → Prop) (f : Nat → Nat → Int32) (a0 : Nat) (x1 : Int32) (xs0 : Int32) (x2 : Int32) (ys0 : Int64) (y2 : Int64) (x4 : Int32), D = d + n + 6 → Mo M a0 → vgME N M n 4 f a0 x1 xs0 x2 ys0 y2 x4 → Q (some (.int (wgME N M n 4 f a0 x1 xs0 x2 ys0 y2 x4).1)) (g_wm M (wgME N M n 4 f a0 x1 xs0 x2 ys0 y2 x4).2.2 (g_ml M)) → Cn X D mc ms kX9_bothOf [.ref a0, .int (x1)] (g_wm M f (g_ml M)) Q
def PX9_bothOf_5 (X : gX) (N : Nat) (M : gM) (n : Nat) : Prop := ∀ (d D mc ms : Nat) (Q : Option Value → gM → Prop) (f : Nat → Nat → Int32) (a0 : Nat) (x1 : Int32) (xs0 : Int32) (x2 : Int32) (ys0 : Int64) (y2 : Int64) (x4 : Int32), D = d + n + 6 → Mo M a0 → vgME N M n 5 f a0 x1 xs0 x2 ys0 y2 x4 → Q (some (.int (wgME N M n 5 f a0 x1 xs0 x2 ys0 y2 x4).1)) (g_wm M (wgME N M n 5 f a0 x1 xs0 x2 ys0 y2 x4).2.2 (g_ml M)) → Go X D mc ms kX9_bothOf Q 5 [(0, .ref a0), (1, .int (x1))] [.int (xs0)] (g_wm M f (g_ml M)) 0 0
def PX9_bothOf_6 (X : gX) (N : Nat) (M : gM) (n : Nat) : Prop := ∀ (d D mc ms : Nat) (Q : Option Value → gM → Prop) (f : Nat → Nat → Int32) (a0 : Nat) (x1 : Int32) (xs0 : Int32) (x2 : Int32) (ys0 : Int64) (y2 : Int64) (x4 : Int32), D = d + n + 6 → Mo M a0 → vgME N M n 6 f a0 x1 xs0 x2 ys0 y2 x4 → Q (some (.int (wgME N M n 6 f a0 x1 xs0 x2 ys0 y2 x4).1)) (g_wm M (wgME N M n 6 f a0 x1 xs0 x2 ys0 y2 x4).2.2 (g_ml M)) → Go X D mc ms kX9_bothOf Q 6 [(0, .ref a0), (1, .int (x1)), (2, .int (x2))] [] (g_wm M f (g_ml M)) 0 0
def PX9_bothOf_31 (X : gX) (N : Nat) (M : gM) (n : Nat) : Prop := ∀ (d D mc ms : Nat) (Q : Option Value → gM → Prop) (f : Nat → Nat → Int32) (a0 : Nat) (x1 : Int32) (xs0 : Int32) (x2 : Int32) (ys0 : Int64) (y2 : Int64) (x4 : Int32), D = d + n + 6 → Mo M a0 → vgME N M n 7 f a0 x1 xs0 x2 ys0 y2 x4 → Q (some (.int (wgME N M n 7 f a0 x1 xs0 x2 ys0 y2 x4).1)) (g_wm M (wgME N M n 7 f a0 x1 xs0 x2 ys0 y2 x4).2.2 (g_ml M)) → Go X D mc ms kX9_bothOf Q 31 [(0, .ref a0), (1, .int (x1)), (2, .int (x2))] [.int (xs0)] (g_wm M f (g_ml M)) 0 0
def PX9_plainOf_0 (X : gX) (N : Nat) (M : gM) (n : Nat) : Prop := ∀ (d D mc ms : Nat) (Q : Option Value → gM → Prop) (f : Nat → Nat → Int32) (a0 : Nat) (x1 : Int32) (xs0 : Int32) (x2 : Int32) (ys0 : Int64) (y2 : Int64) (x4 : Int32), D = d + n + 6 → Mo M a0 → vgME N M n 8 f a0 x1 xs0 x2 ys0 y2 x4 → Q (some (.int (wgME N M n 8 f a0 x1 xs0 x2 ys0 y2 x4).1)) (g_wm M (wgME N M n 8 f a0 x1 xs0 x2 ys0 y2 x4).2.2 (g_ml M)) → Cn X D mc ms kX9_plainOf [.ref a0, .int (x1)] (g_wm M f (g_ml M)) Q
def PX9_plainOf_2 (X : gX) (N : Nat) (M : gM) (n : Nat) : Prop := ∀ (d D mc ms : Nat) (Q : Option Value → gM → Prop) (f : Nat → Nat → Int32) (a0 : Nat) (x1 : Int32) (xs0 : Int32) (x2 : Int32) (ys0 : Int64) (y2 : Int64) (x4 : Int32), D = d + n + 6 → Mo M a0 → vgME N M n 9 f a0 x1 xs0 x2 ys0 y2 x4 → Q (some (.int (wgME N M n 9 f a0 x1 xs0 x2 ys0 y2 x4).1)) (g_wm M (wgME N M n 9 f a0 x1 xs0 x2 ys0 y2 x4).2.2 (g_ml M)) → Go X D mc ms kX9_plainOf Q 2 [(0, .ref a0), (1, .int (x1)), (2, .int (x2))] [] (g_wm M f (g_ml M)) 0 0
def PX9_plainOf_29 (X : gX) (N : Nat) (M : gM) (n : Nat) : Prop := ∀ (d D mc ms : Nat) (Q : Option Value → gM → Prop) (f : Nat → Nat → Int32) (a0 : Nat) (x1 : Int32) (xs0 : Int32) (x2 : Int32) (ys0 : Int64) (y2 : Int64) (x4 : Int32), D = d + n + 6 → vgME N M n 10 f a0 x1 xs0 x2 ys0 y2 x4 → Q (some (.int (wgME N M n 10 f a0 x1 xs0 x2 ys0 y2 x4).1)) (g_wm M (wgME N M n 10 f a0 x1 xs0 x2 ys0 y2 x4).2.2 (g_ml M)) → Go X D mc ms kX9_plainOf Q 29 [(2, .int (x2))] [.int (xs0)] (g_wm M f (g_ml M)) 0 0
def PX9_positiveOf_0 (X : gX) (N : Nat) (M : gM) (n : Nat) : Prop := ∀ (d D mc ms : Nat) (Q : Option Value → gM → Prop) (f : Nat → Nat → Int32) (a0 : Nat) (x1 : Int32) (xs0 : Int32) (x2 : Int32) (ys0 : Int64) (y2 : Int64) (x4 : Int32), D = d + n + 6 → Mo M a0 → vgME N M n 11 f a0 x1 xs0 x2 ys0 y2 x4 → Q (some (.int (wgME N M n 11 f a0 x1 xs0 x2 ys0 y2 x4).1)) (g_wm M (wgME N M n 11 f a0 x1 xs0 x2 ys0 y2 x4).2.2 (g_ml M)) → Cn X D mc ms kX9_positiveOf [.ref a0, .int (x1)] (g_wm M f (g_ml M)) Q
def PX9_positiveOf_17 (X : gX) (N : Nat) (M : gM) (n : Nat) : Prop := ∀ (d D mc ms : Nat) (Q : Option Value → gM → Prop) (f : Nat → Nat → Int32) (a0 : Nat) (x1 : Int32) (xs0 : Int32) (x2 : Int32) (ys0 : Int64) (y2 : Int64) (x4 : Int32), D = d + n + 6 → Mo M a0 → vgME N M n 12 f a0 x1 xs0 x2 ys0 y2 x4 → Q (some (.int (wgME N M n 12 f a0 x1 xs0 x2 ys0 y2 x4).1)) (g_wm M (wgME N M n 12 f a0 x1 xs0 x2 ys0 y2 x4).2.2 (g_ml M)) → Go X D mc ms kX9_positiveOf Q 17 [(0, .ref a0)] [.int (xs0)] (g_wm M f (g_ml M)) 0 0
def PX9_positiveOf_35 (X : gX) (N : Nat) (M : gM) (n : Nat) : Prop := ∀ (d D mc ms : Nat) (Q : Option Value → gM → Prop) (f : Nat → Nat → Int32) (a0 : Nat) (x1 : Int32) (xs0 : Int32) (x2 : Int32) (ys0 : Int64) (y2 : Int64) (x4 : Int32), D = d + n + 6 → Mo M a0 → vgME N M n 13 f a0 x1 xs0 x2 ys0 y2 x4 → Q (some (.int (wgME N M n 13 f a0 x1 xs0 x2 ys0 y2 x4).1)) (g_wm M (wgME N M n 13 f a0 x1 xs0 x2 ys0 y2 x4).2.2 (g_ml M)) → Go X D mc ms kX9_positiveOf Q 35 [(0, .ref a0), (1, .int (x1))] [.long (ys0)] (g_wm M f (g_ml M)) 0 0
def PX9_positiveOf_61 (X : gX) (N : Nat) (M : gM) (n : Nat) : Prop := ∀ (d D mc ms : Nat) (Q : Option Value → gM → Prop) (f : Nat → Nat → Int32) (a0 : Nat) (x1 : Int32) (xs0 : Int32) (x2 : Int32) (ys0 : Int64) (y2 : Int64) (x4 : Int32), D = d + n + 6 → Mo M a0 → vgME N M n 14 f a0 x1 xs0 x2 ys0 y2 x4 → Q (some (.int (wgME N M n 14 f a0 x1 xs0 x2 ys0 y2 x4).1)) (g_wm M (wgME N M n 14 f a0 x1 xs0 x2 ys0 y2 x4).2.2 (g_ml M)) → Go X D mc ms kX9_positiveOf Q 61 [(0, .ref a0), (1, .int (x1)), (2, .long (y2)), (4, .int (x4))] [.long (ys0)] (g_wm M f (g_ml M)) 0 0
def PX9_sumOf_0 (X : gX) (N : Nat) (M : gM) (n : Nat) : Prop := ∀ (d D mc ms : Nat) (Q : Option Value → gM → Prop) (f : Nat → Nat → Int32) (a0 : Nat) (x1 : Int32) (xs0 : Int32) (x2 : Int32) (ys0 : Int64) (y2 : Int64) (x4 : Int32), D = d + n + 6 → Mo M a0 → vgME N M n 15 f a0 x1 xs0 x2 ys0 y2 x4 → Q (some (.long (wgME N M n 15 f a0 x1 xs0 x2 ys0 y2 x4).2.1)) (g_wm M (wgME N M n 15 f a0 x1 xs0 x2 ys0 y2 x4).2.2 (g_ml M)) → Cn X D mc ms kX9_sumOf [.ref a0, .int (x1)] (g_wm M f (g_ml M)) Q
def PX9_sumOf_5 (X : gX) (N : Nat) (M : gM) (n : Nat) : Prop := ∀ (d D mc ms : Nat) (Q : Option Value → gM → Prop) (f : Nat → Nat → Int32) (a0 : Nat) (x1 : Int32) (xs0 : Int32) (x2 : Int32) (ys0 : Int64) (y2 : Int64) (x4 : Int32), D = d + n + 6 → Mo M a0 → vgME N M n 16 f a0 x1 xs0 x2 ys0 y2 x4 → Q (some (.long (wgME N M n 16 f a0 x1 xs0 x2 ys0 y2 x4).2.1)) (g_wm M (wgME N M n 16 f a0 x1 xs0 x2 ys0 y2 x4).2.2 (g_ml M)) → Go X D mc ms kX9_sumOf Q 5 [(0, .ref a0), (1, .int (x1))] [.long (ys0)] (g_wm M f (g_ml M)) 0 0
def PX9_sumOf_6 (X : gX) (N : Nat) (M : gM) (n : Nat) : Prop := ∀ (d D mc ms : Nat) (Q : Option Value → gM → Prop) (f : Nat → Nat → Int32) (a0 : Nat) (x1 : Int32) (xs0 : Int32) (x2 : Int32) (ys0 : Int64) (y2 : Int64) (x4 : Int32), D = d + n + 6 → Mo M a0 → vgME N M n 17 f a0 x1 xs0 x2 ys0 y2 x4 → Q (some (.long (wgME N M n 17 f a0 x1 xs0 x2 ys0 y2 x4).2.1)) (g_wm M (wgME N M n 17 f a0 x1 xs0 x2 ys0 y2 x4).2.2 (g_ml M)) → Go X D mc ms kX9_sumOf Q 6 [(0, .ref a0), (1, .int (x1)), (2, .long (y2))] [] (g_wm M f (g_ml M)) 0 0
def PX9_sumOf_76 (X : gX) (N : Nat) (M : gM) (n : Nat) : Prop := ∀ (d D mc ms : Nat) (Q : Option Value → gM → Prop) (f : Nat → Nat → Int32) (a0 : Nat) (x1 : Int32) (xs0 : Int32) (x2 : Int32) (ys0 : Int64) (y2 : Int64) (x4 : Int32), D = d + n + 6 → Mo M a0 → vgME N M n 18 f a0 x1 xs0 x2 ys0 y2 x4 → Q (some (.long (wgME N M n 18 f a0 x1 xs0 x2 ys0 y2 x4).2.1)) (g_wm M (wgME N M n 18 f a0 x1 xs0 x2 ys0 y2 x4).2.2 (g_ml M)) → Go X D mc ms kX9_sumOf Q 76 [(0, .ref a0), (1, .int (x1)), (2, .long (y2)), (4, .int (x4))] [.long (ys0)] (g_wm M f (g_ml M)) 0 0
def PX9_termOf_0 (X : gX) (N : Nat) (M : gM) (n : Nat) : Prop := ∀ (d D mc ms : Nat) (Q : Option Value → gM → Prop) (f : Nat → Nat → Int32) (a0 : Nat) (x1 : Int32) (xs0 : Int32) (x2 : Int32) (ys0 : Int64) (y2 : Int64) (x4 : Int32), D = d + n + 6 → Mo M a0 → vgME N M n 19 f a0 x1 xs0 x2 ys0 y2 x4 → Q (some (.long (wgME N M n 19 f a0 x1 xs0 x2 ys0 y2 x4).2.1)) (g_wm M (wgME N M n 19 f a0 x1 xs0 x2 ys0 y2 x4).2.2 (g_ml M)) → Cn X D mc ms kX9_termOf [.ref a0, .int (x1)] (g_wm M f (g_ml M)) Q
def PX9_termOf_5 (X : gX) (N : Nat) (M : gM) (n : Nat) : Prop := ∀ (d D mc ms : Nat) (Q : Option Value → gM → Prop) (f : Nat → Nat → Int32) (a0 : Nat) (x1 : Int32) (xs0 : Int32) (x2 : Int32) (ys0 : Int64) (y2 : Int64) (x4 : Int32), D = d + n + 6 → Mo M a0 → vgME N M n 20 f a0 x1 xs0 x2 ys0 y2 x4 → Q (some (.long (wgME N M n 20 f a0 x1 xs0 x2 ys0 y2 x4).2.1)) (g_wm M (wgME N M n 20 f a0 x1 xs0 x2 ys0 y2 x4).2.2 (g_ml M)) → Go X D mc ms kX9_termOf Q 5 [(0, .ref a0), (1, .int (x1))] [.long (ys0)] (g_wm M f (g_ml M)) 0 0
def PX9_termOf_6 (X : gX) (N : Nat) (M : gM) (n : Nat) : Prop := ∀ (d D mc ms : Nat) (Q : Option Value → gM → Prop) (f : Nat → Nat → Int32) (a0 : Nat) (x1 : Int32) (xs0 : Int32) (x2 : Int32) (ys0 : Int64) (y2 : Int64) (x4 : Int32), D = d + n + 6 → Mo M a0 → vgME N M n 21 f a0 x1 xs0 x2 ys0 y2 x4 → Q (some (.long (wgME N M n 21 f a0 x1 xs0 x2 ys0 y2 x4).2.1)) (g_wm M (wgME N M n 21 f a0 x1 xs0 x2 ys0 y2 x4).2.2 (g_ml M)) → Go X D mc ms kX9_termOf Q 6 [(0, .ref a0), (1, .int (x1)), (2, .long (y2))] [] (g_wm M f (g_ml M)) 0 0
def PX9_termOf_79 (X : gX) (N : Nat) (M : gM) (n : Nat) : Prop := ∀ (d D mc ms : Nat) (Q : Option Value → gM → Prop) (f : Nat → Nat → Int32) (a0 : Nat) (x1 : Int32) (xs0 : Int32) (x2 : Int32) (ys0 : Int64) (y2 : Int64) (x4 : Int32), D = d + n + 6 → Mo M a0 → vgME N M n 22 f a0 x1 xs0 x2 ys0 y2 x4 → Q (some (.long (wgME N M n 22 f a0 x1 xs0 x2 ys0 y2 x4).2.1)) (g_wm M (wgME N M n 22 f a0 x1 xs0 x2 ys0 y2 x4).2.2 (g_ml M)) → Go X D mc ms kX9_termOf Q 79 [(0, .ref a0), (1, .int (x1)), (2, .long (y2)), (4, .int (x4))] [.long (ys0)] (g_wm M f (g_ml M)) 0 0
def PX9_partOf_0 (X : gX) (N : Nat) (M : gM) (n : Nat) : Prop := ∀ (d D mc ms : Nat) (Q : Option Value → gM → Prop) (f : Nat → Nat → Int32) (a0 : Nat) (x1 : Int32) (xs0 : Int32) (x2 : Int32) (ys0 : Int64) (y2 : Int64) (x4 : Int32), D = d + n + 6 → Mo M a0 → vgME N M n 23 f a0 x1 xs0 x2 ys0 y2 x4 → Q (some (.long (wgME N M n 23 f a0 x1 xs0 x2 ys0 y2 x4).2.1)) (g_wm M (wgME N M n 23 f a0 x1 xs0 x2 ys0 y2 x4).2.2 (g_ml M)) → Cn X D mc ms kX9_partOf [.ref a0, .int (x1)] (g_wm M f (g_ml M)) Q
def PX9_partOf_17 (X : gX) (N : Nat) (M : gM) (n : Nat) : Prop := ∀ (d D mc ms : Nat) (Q : Option Value → gM → Prop) (f : Nat → Nat → Int32) (a0 : Nat) (x1 : Int32) (xs0 : Int32) (x2 : Int32) (ys0 : Int64) (y2 : Int64) (x4 : Int32), D = d + n + 6 → Mo M a0 → vgME N M n 24 f a0 x1 xs0 x2 ys0 y2 x4 → Q (some (.long (wgME N M n 24 f a0 x1 xs0 x2 ys0 y2 x4).2.1)) (g_wm M (wgME N M n 24 f a0 x1 xs0 x2 ys0 y2 x4).2.2 (g_ml M)) → Go X D mc ms kX9_partOf Q 17 [(0, .ref a0)] [.long (ys0)] (g_wm M f (g_ml M)) 0 0
def PgME (X : gX) (N : Nat) (M : gM) (n : Nat) : Prop := PX9_testOf_0 X N M n ∧ PX9_testOf_5 X N M n ∧ PX9_testOf_6 X N M n ∧ PX9_testOf_31 X N M n ∧ PX9_bothOf_0 X N M n ∧ PX9_bothOf_5 X N M n ∧ PX9_bothOf_6 X N M n ∧ PX9_bothOf_31 X N M n ∧ PX9_plainOf_0 X N M n ∧ PX9_plainOf_2 X N M n ∧ PX9_plainOf_29 X N M n ∧ PX9_positiveOf_0 X N M n ∧ PX9_positiveOf_17 X N M n ∧ PX9_positiveOf_35 X N M n ∧ PX9_positiveOf_61 X N M n ∧ PX9_sumOf_0 X N M n ∧ PX9_sumOf_5 X N M n ∧ PX9_sumOf_6 X N M n ∧ PX9_sumOf_76 X N M n ∧ PX9_termOf_0 X N M n ∧ PX9_termOf_5 X N M n ∧ PX9_termOf_6 X N M n ∧ PX9_termOf_79 X N M n ∧ PX9_partOf_0 X N M n ∧ PX9_partOf_17 X N M n
set_option maxRecDepth 10000 in
theorem zX9_testOf_0 {X : gX} {N : Nat} {M : gM} {n : Nat} (ih : PgME X N M n) : PX9_testOf_0 X N M (n + 1) := by
  intro d D mc ms Q f a0 x1 xs0 x2 ys0 y2 x4 hD s0 hT hQ
  subst hD
  rw [vgME, if_pos (show (0 : Nat) = 0 from rfl)] at hT
  rw [wgME, if_pos (show (0 : Nat) = 0 from rfl)] at hQ
  unfold bX9_testOf_0 at hQ
  unfold eX9_testOf_0 at hT
  exact sX9_testOf_0 (M := (g_wm M f (g_ml M))) (d := d + (n + 1)) (Mo.sm Sm.wm s0) (Sm.c Sm.wm (ih.2.2.2.2.1 d _ 0 0 _ _ _ _ _ _ _ _ _ (by omega) (s0) hT.1 (ih.2.1 (d + 1) _ _ _ _ _ _ _ _ _ _ _ _ (by omega) (s0) hT.2 hQ)))
set_option maxRecDepth 10000 in
theorem zX9_testOf_5 {X : gX} {N : Nat} {M : gM} {n : Nat} (ih : PgME X N M n) : PX9_testOf_5 X N M (n + 1) := by
  intro d D mc ms Q f a0 x1 xs0 x2 ys0 y2 x4 hD s0 hT hQ
  subst hD
  rw [vgME, if_neg (show ¬ (1 : Nat) = 0 by decide), if_pos (show (1 : Nat) = 1 from rfl)] at hT
  rw [wgME, if_neg (show ¬ (1 : Nat) = 0 by decide), if_pos (show (1 : Nat) = 1 from rfl)] at hQ
  unfold bX9_testOf_5 at hQ
  unfold eX9_testOf_5 at hT
  exact sX9_testOf_5 (M := (g_wm M f (g_ml M))) (d := d + (n + 1)) (Mo.sm Sm.wm s0) (Sm.g Sm.wm (ih.2.2.1 (d + 1) _ _ _ _ _ _ _ _ _ _ _ _ (by omega) (s0) hT hQ))
set_option maxRecDepth 10000 in
theorem zX9_testOf_6 {X : gX} {N : Nat} {M : gM} {n : Nat} (ih : PgME X N M n) : PX9_testOf_6 X N M (n + 1) := by
  intro d D mc ms Q f a0 x1 xs0 x2 ys0 y2 x4 hD s0 hT hQ
  subst hD
  rw [vgME, if_neg (show ¬ (2 : Nat) = 0 by decide), if_neg (show ¬ (2 : Nat) = 1 by decide), if_pos (show (2 : Nat) = 2 from rfl)] at hT
  rw [wgME, if_neg (show ¬ (2 : Nat) = 0 by decide), if_neg (show ¬ (2 : Nat) = 1 by decide), if_pos (show (2 : Nat) = 2 from rfl)] at hQ
  unfold bX9_testOf_6 at hQ
  unfold eX9_testOf_6 at hT
  obtain ⟨b3, b5, hT⟩ := hT
  exact sX9_testOf_6 (M := (g_wm M f (g_ml M))) (d := d + (n + 1)) (Mo.sm Sm.wm s0) (Nat.zero_le _) (Nat.zero_le _) b3 (fun c1 => by simp only [if_pos c1] at hQ; exact Sm.q (Sm.tr Sm.wm (Sm.tr Sm.rf jX9_passes0)) hQ) b5 (fun c1 c2 => by simp only [if_neg c1, if_pos c2] at hQ hT; exact Sm.c (Sm.tr Sm.wm (Sm.tr Sm.rf jX9_passes0)) (ih.2.2.2.2.1 d _ 0 0 _ _ _ _ _ _ _ _ _ (by omega) (s0) hT.1 (ih.2.2.2.1 (d + 1) _ _ _ _ _ _ _ _ _ _ _ _ (by omega) (s0) hT.2 hQ))) (fun c1 c2 c3 => by simp only [if_neg c1, if_neg c2, if_neg c3] at hQ hT; exact Sm.c (Sm.tr Sm.wm (Sm.tr Sm.rf jX9_passes0)) (ih.2.2.2.2.1 d _ 0 0 _ _ _ _ _ _ _ _ _ (by omega) (s0) hT.1 (ih.2.2.2.1 (d + 1) _ _ _ _ _ _ _ _ _ _ _ _ (by omega) (s0) hT.2 hQ))) (fun c1 c2 c3 => by simp only [if_neg c1, if_neg c2, if_pos c3] at hQ hT; exact Sm.c (Sm.tr Sm.wm (Sm.tr Sm.rf jX9_passes0)) (ih.2.2.2.2.1 d _ 0 0 _ _ _ _ _ _ _ _ _ (by omega) (s0) hT.1 (ih.2.2.2.1 (d + 1) _ _ _ _ _ _ _ _ _ _ _ _ (by omega) (s0) hT.2 hQ)))
set_option maxRecDepth 10000 in
theorem zX9_testOf_31 {X : gX} {N : Nat} {M : gM} {n : Nat} (ih : PgME X N M n) : PX9_testOf_31 X N M (n + 1) := by
  intro d D mc ms Q f a0 x1 xs0 x2 ys0 y2 x4 hD s0 hT hQ
  subst hD
  rw [vgME, if_neg (show ¬ (3 : Nat) = 0 by decide), if_neg (show ¬ (3 : Nat) = 1 by decide), if_neg (show ¬ (3 : Nat) = 2 by decide), if_pos (show (3 : Nat) = 3 from rfl)] at hT
  rw [wgME, if_neg (show ¬ (3 : Nat) = 0 by decide), if_neg (show ¬ (3 : Nat) = 1 by decide), if_neg (show ¬ (3 : Nat) = 2 by decide), if_pos (show (3 : Nat) = 3 from rfl)] at hQ
  unfold bX9_testOf_31 at hQ
  unfold eX9_testOf_31 at hT
  exact sX9_testOf_31 (M := (g_wm M f (g_ml M))) (d := d + (n + 1)) (Mo.sm Sm.wm s0) (fun c1 => by simp only [if_neg c1] at hQ hT; exact Sm.g Sm.wm (ih.2.2.1 (d + 1) _ _ _ _ _ _ _ _ _ _ _ _ (by omega) (s0) hT hQ)) (fun c1 c2 => by simp only [if_pos c1, if_pos c2] at hQ hT; exact Sm.g Sm.wm (ih.2.2.1 (d + 1) _ _ _ _ _ _ _ _ _ _ _ _ (by omega) (s0) hT hQ)) (fun c1 c2 => by simp only [if_pos c1, if_neg c2] at hQ hT; exact Sm.g Sm.wm (ih.2.2.1 (d + 1) _ _ _ _ _ _ _ _ _ _ _ _ (by omega) (s0) hT hQ))
set_option maxRecDepth 10000 in
theorem zX9_bothOf_0 {X : gX} {N : Nat} {M : gM} {n : Nat} (ih : PgME X N M n) : PX9_bothOf_0 X N M (n + 1) := by
  intro d D mc ms Q f a0 x1 xs0 x2 ys0 y2 x4 hD s0 hT hQ
  subst hD
  rw [vgME, if_neg (show ¬ (4 : Nat) = 0 by decide), if_neg (show ¬ (4 : Nat) = 1 by decide), if_neg (show ¬ (4 : Nat) = 2 by decide), if_neg (show ¬ (4 : Nat) = 3 by decide), if_pos (show (4 : Nat) = 4 from rfl)] at hT
  rw [wgME, if_neg (show ¬ (4 : Nat) = 0 by decide), if_neg (show ¬ (4 : Nat) = 1 by decide), if_neg (show ¬ (4 : Nat) = 2 by decide), if_neg (show ¬ (4 : Nat) = 3 by decide), if_pos (show (4 : Nat) = 4 from rfl)] at hQ
  unfold bX9_bothOf_0 at hQ
  unfold eX9_bothOf_0 at hT
  exact sX9_bothOf_0 (M := (g_wm M f (g_ml M))) (d := d + (n + 1)) (Mo.sm Sm.wm s0) (Sm.c Sm.wm (ih.2.2.2.2.2.2.2.2.1 d _ 0 0 _ _ _ _ _ _ _ _ _ (by omega) (s0) hT.1 (ih.2.2.2.2.2.1 (d + 1) _ _ _ _ _ _ _ _ _ _ _ _ (by omega) (s0) hT.2 hQ)))
set_option maxRecDepth 10000 in
theorem zX9_bothOf_5 {X : gX} {N : Nat} {M : gM} {n : Nat} (ih : PgME X N M n) : PX9_bothOf_5 X N M (n + 1) := by
  intro d D mc ms Q f a0 x1 xs0 x2 ys0 y2 x4 hD s0 hT hQ
  subst hD
  rw [vgME, if_neg (show ¬ (5 : Nat) = 0 by decide), if_neg (show ¬ (5 : Nat) = 1 by decide), if_neg (show ¬ (5 : Nat) = 2 by decide), if_neg (show ¬ (5 : Nat) = 3 by decide), if_neg (show ¬ (5 : Nat) = 4 by decide), if_pos (show (5 : Nat) = 5 from rfl)] at hT
  rw [wgME, if_neg (show ¬ (5 : Nat) = 0 by decide), if_neg (show ¬ (5 : Nat) = 1 by decide), if_neg (show ¬ (5 : Nat) = 2 by decide), if_neg (show ¬ (5 : Nat) = 3 by decide), if_neg (show ¬ (5 : Nat) = 4 by decide), if_pos (show (5 : Nat) = 5 from rfl)] at hQ
  unfold bX9_bothOf_5 at hQ
  unfold eX9_bothOf_5 at hT
  exact sX9_bothOf_5 (M := (g_wm M f (g_ml M))) (d := d + (n + 1)) (Mo.sm Sm.wm s0) (Sm.g Sm.wm (ih.2.2.2.2.2.2.1 (d + 1) _ _ _ _ _ _ _ _ _ _ _ _ (by omega) (s0) hT hQ))
set_option maxRecDepth 10000 in
theorem zX9_bothOf_6 {X : gX} {N : Nat} {M : gM} {n : Nat} (ih : PgME X N M n) : PX9_bothOf_6 X N M (n + 1) := by
  intro d D mc ms Q f a0 x1 xs0 x2 ys0 y2 x4 hD s0 hT hQ
  subst hD
  rw [vgME, if_neg (show ¬ (6 : Nat) = 0 by decide), if_neg (show ¬ (6 : Nat) = 1 by decide), if_neg (show ¬ (6 : Nat) = 2 by decide), if_neg (show ¬ (6 : Nat) = 3 by decide), if_neg (show ¬ (6 : Nat) = 4 by decide), if_neg (show ¬ (6 : Nat) = 5 by decide), if_pos (show (6 : Nat) = 6 from rfl)] at hT
  rw [wgME, if_neg (show ¬ (6 : Nat) = 0 by decide), if_neg (show ¬ (6 : Nat) = 1 by decide), if_neg (show ¬ (6 : Nat) = 2 by decide), if_neg (show ¬ (6 : Nat) = 3 by decide), if_neg (show ¬ (6 : Nat) = 4 by decide), if_neg (show ¬ (6 : Nat) = 5 by decide), if_pos (show (6 : Nat) = 6 from rfl)] at hQ
  unfold bX9_bothOf_6 at hQ
  unfold eX9_bothOf_6 at hT
  obtain ⟨b3, b5, hT⟩ := hT
  exact sX9_bothOf_6 (M := (g_wm M f (g_ml M))) (d := d + (n + 1)) (Mo.sm Sm.wm s0) (Nat.zero_le _) (Nat.zero_le _) b3 (fun c1 => by simp only [if_pos c1] at hQ; exact Sm.q (Sm.tr Sm.wm (Sm.tr Sm.rf jX9_passes0)) hQ) b5 (fun c1 c2 => by simp only [if_neg c1, if_pos c2] at hQ hT; exact Sm.c (Sm.tr Sm.wm (Sm.tr Sm.rf jX9_passes0)) (ih.2.2.2.2.2.2.2.2.1 d _ 0 0 _ _ _ _ _ _ _ _ _ (by omega) (s0) hT.1 (ih.2.2.2.2.2.2.2.1 (d + 1) _ _ _ _ _ _ _ _ _ _ _ _ (by omega) (s0) hT.2 hQ))) (fun c1 c2 c3 => by simp only [if_neg c1, if_neg c2, if_pos c3] at hQ hT; exact Sm.c (Sm.tr Sm.wm (Sm.tr Sm.rf jX9_passes0)) (ih.2.2.2.2.2.2.2.2.1 d _ 0 0 _ _ _ _ _ _ _ _ _ (by omega) (s0) hT.1 (ih.2.2.2.2.2.2.2.1 (d + 1) _ _ _ _ _ _ _ _ _ _ _ _ (by omega) (s0) hT.2 hQ))) (fun c1 c2 c3 => by simp only [if_neg c1, if_neg c2, if_neg c3] at hQ hT; exact Sm.c (Sm.tr Sm.wm (Sm.tr Sm.rf jX9_passes0)) (ih.2.2.2.2.2.2.2.2.1 d _ 0 0 _ _ _ _ _ _ _ _ _ (by omega) (s0) hT.1 (ih.2.2.2.2.2.2.2.1 (d + 1) _ _ _ _ _ _ _ _ _ _ _ _ (by omega) (s0) hT.2 hQ)))
set_option maxRecDepth 10000 in
theorem zX9_bothOf_31 {X : gX} {N : Nat} {M : gM} {n : Nat} (ih : PgME X N M n) : PX9_bothOf_31 X N M (n + 1) := by
  intro d D mc ms Q f a0 x1 xs0 x2 ys0 y2 x4 hD s0 hT hQ
  subst hD
  rw [vgME, if_neg (show ¬ (7 : Nat) = 0 by decide), if_neg (show ¬ (7 : Nat) = 1 by decide), if_neg (show ¬ (7 : Nat) = 2 by decide), if_neg (show ¬ (7 : Nat) = 3 by decide), if_neg (show ¬ (7 : Nat) = 4 by decide), if_neg (show ¬ (7 : Nat) = 5 by decide), if_neg (show ¬ (7 : Nat) = 6 by decide), if_pos (show (7 : Nat) = 7 from rfl)] at hT
  rw [wgME, if_neg (show ¬ (7 : Nat) = 0 by decide), if_neg (show ¬ (7 : Nat) = 1 by decide), if_neg (show ¬ (7 : Nat) = 2 by decide), if_neg (show ¬ (7 : Nat) = 3 by decide), if_neg (show ¬ (7 : Nat) = 4 by decide), if_neg (show ¬ (7 : Nat) = 5 by decide), if_neg (show ¬ (7 : Nat) = 6 by decide), if_pos (show (7 : Nat) = 7 from rfl)] at hQ
  unfold bX9_bothOf_31 at hQ
  unfold eX9_bothOf_31 at hT
  exact sX9_bothOf_31 (M := (g_wm M f (g_ml M))) (d := d + (n + 1)) (Mo.sm Sm.wm s0) (fun c1 => by simp only [if_pos c1] at hQ hT; exact Sm.g Sm.wm (ih.2.2.2.2.2.2.1 (d + 1) _ _ _ _ _ _ _ _ _ _ _ _ (by omega) (s0) hT hQ)) (fun c1 c2 => by simp only [if_neg c1, if_pos c2] at hQ hT; exact Sm.g Sm.wm (ih.2.2.2.2.2.2.1 (d + 1) _ _ _ _ _ _ _ _ _ _ _ _ (by omega) (s0) hT hQ)) (fun c1 c2 => by simp only [if_neg c1, if_neg c2] at hQ hT; exact Sm.g Sm.wm (ih.2.2.2.2.2.2.1 (d + 1) _ _ _ _ _ _ _ _ _ _ _ _ (by omega) (s0) hT hQ))
set_option maxRecDepth 10000 in
theorem zX9_plainOf_0 {X : gX} {N : Nat} {M : gM} {n : Nat} (ih : PgME X N M n) : PX9_plainOf_0 X N M (n + 1) := by
  intro d D mc ms Q f a0 x1 xs0 x2 ys0 y2 x4 hD s0 hT hQ
  subst hD
  rw [vgME, if_neg (show ¬ (8 : Nat) = 0 by decide), if_neg (show ¬ (8 : Nat) = 1 by decide), if_neg (show ¬ (8 : Nat) = 2 by decide), if_neg (show ¬ (8 : Nat) = 3 by decide), if_neg (show ¬ (8 : Nat) = 4 by decide), if_neg (show ¬ (8 : Nat) = 5 by decide), if_neg (show ¬ (8 : Nat) = 6 by decide), if_neg (show ¬ (8 : Nat) = 7 by decide), if_pos (show (8 : Nat) = 8 from rfl)] at hT
  rw [wgME, if_neg (show ¬ (8 : Nat) = 0 by decide), if_neg (show ¬ (8 : Nat) = 1 by decide), if_neg (show ¬ (8 : Nat) = 2 by decide), if_neg (show ¬ (8 : Nat) = 3 by decide), if_neg (show ¬ (8 : Nat) = 4 by decide), if_neg (show ¬ (8 : Nat) = 5 by decide), if_neg (show ¬ (8 : Nat) = 6 by decide), if_neg (show ¬ (8 : Nat) = 7 by decide), if_pos (show (8 : Nat) = 8 from rfl)] at hQ
  unfold bX9_plainOf_0 at hQ
  unfold eX9_plainOf_0 at hT
  exact sX9_plainOf_0 (M := (g_wm M f (g_ml M))) (d := d + (n + 1)) (Mo.sm Sm.wm s0) (Sm.g Sm.wm (ih.2.2.2.2.2.2.2.2.2.1 (d + 1) _ _ _ _ _ _ _ _ _ _ _ _ (by omega) (s0) hT hQ))
set_option maxRecDepth 10000 in
theorem zX9_plainOf_2 {X : gX} {N : Nat} {M : gM} {n : Nat} (ih : PgME X N M n) : PX9_plainOf_2 X N M (n + 1) := by
  intro d D mc ms Q f a0 x1 xs0 x2 ys0 y2 x4 hD s0 hT hQ
  subst hD
  rw [vgME, if_neg (show ¬ (9 : Nat) = 0 by decide), if_neg (show ¬ (9 : Nat) = 1 by decide), if_neg (show ¬ (9 : Nat) = 2 by decide), if_neg (show ¬ (9 : Nat) = 3 by decide), if_neg (show ¬ (9 : Nat) = 4 by decide), if_neg (show ¬ (9 : Nat) = 5 by decide), if_neg (show ¬ (9 : Nat) = 6 by decide), if_neg (show ¬ (9 : Nat) = 7 by decide), if_neg (show ¬ (9 : Nat) = 8 by decide), if_pos (show (9 : Nat) = 9 from rfl)] at hT
  rw [wgME, if_neg (show ¬ (9 : Nat) = 0 by decide), if_neg (show ¬ (9 : Nat) = 1 by decide), if_neg (show ¬ (9 : Nat) = 2 by decide), if_neg (show ¬ (9 : Nat) = 3 by decide), if_neg (show ¬ (9 : Nat) = 4 by decide), if_neg (show ¬ (9 : Nat) = 5 by decide), if_neg (show ¬ (9 : Nat) = 6 by decide), if_neg (show ¬ (9 : Nat) = 7 by decide), if_neg (show ¬ (9 : Nat) = 8 by decide), if_pos (show (9 : Nat) = 9 from rfl)] at hQ
  unfold bX9_plainOf_2 at hQ
  unfold eX9_plainOf_2 at hT
  obtain ⟨b3, hT⟩ := hT
  exact sX9_plainOf_2 (M := (g_wm M f (g_ml M))) (d := d + (n + 1)) (Mo.sm Sm.wm s0) (Nat.zero_le _) (Nat.zero_le _) b3 (fun c1 => by simp only [if_pos c1] at hQ hT; exact Sm.c (Sm.tr Sm.wm (Sm.tr Sm.rf jX9_passes0)) (ih.2.2.2.2.2.2.2.2.2.2.2.1 d _ 0 0 _ _ _ _ _ _ _ _ _ (by omega) (s0) hT.1 (ih.2.2.2.2.2.2.2.2.2.2.1 (d + 1) _ _ _ _ _ _ _ _ _ _ _ _ (by omega)  hT.2 hQ))) (fun c1 c2 => by simp only [if_neg c1, if_neg c2] at hQ hT; exact Sm.g (Sm.tr Sm.wm (Sm.tr Sm.rf jX9_passes0)) (ih.2.2.2.2.2.2.2.2.2.1 (d + 1) _ _ _ _ _ _ _ _ _ _ _ _ (by omega) (s0) hT hQ)) (fun c1 c2 => by simp only [if_neg c1, if_pos c2] at hQ hT; exact Sm.g (Sm.tr Sm.wm (Sm.tr Sm.rf jX9_passes0)) (ih.2.2.2.2.2.2.2.2.2.1 (d + 1) _ _ _ _ _ _ _ _ _ _ _ _ (by omega) (s0) hT hQ))
set_option maxRecDepth 10000 in
theorem zX9_plainOf_29 {X : gX} {N : Nat} {M : gM} {n : Nat} (ih : PgME X N M n) : PX9_plainOf_29 X N M (n + 1) := by
  intro d D mc ms Q f a0 x1 xs0 x2 ys0 y2 x4 hD  hT hQ
  subst hD
  rw [vgME, if_neg (show ¬ (10 : Nat) = 0 by decide), if_neg (show ¬ (10 : Nat) = 1 by decide), if_neg (show ¬ (10 : Nat) = 2 by decide), if_neg (show ¬ (10 : Nat) = 3 by decide), if_neg (show ¬ (10 : Nat) = 4 by decide), if_neg (show ¬ (10 : Nat) = 5 by decide), if_neg (show ¬ (10 : Nat) = 6 by decide), if_neg (show ¬ (10 : Nat) = 7 by decide), if_neg (show ¬ (10 : Nat) = 8 by decide), if_neg (show ¬ (10 : Nat) = 9 by decide), if_pos (show (10 : Nat) = 10 from rfl)] at hT
  rw [wgME, if_neg (show ¬ (10 : Nat) = 0 by decide), if_neg (show ¬ (10 : Nat) = 1 by decide), if_neg (show ¬ (10 : Nat) = 2 by decide), if_neg (show ¬ (10 : Nat) = 3 by decide), if_neg (show ¬ (10 : Nat) = 4 by decide), if_neg (show ¬ (10 : Nat) = 5 by decide), if_neg (show ¬ (10 : Nat) = 6 by decide), if_neg (show ¬ (10 : Nat) = 7 by decide), if_neg (show ¬ (10 : Nat) = 8 by decide), if_neg (show ¬ (10 : Nat) = 9 by decide), if_pos (show (10 : Nat) = 10 from rfl)] at hQ
  unfold bX9_plainOf_29 at hQ
  unfold eX9_plainOf_29 at hT
  exact sX9_plainOf_29 (M := (g_wm M f (g_ml M))) (d := d + (n + 1)) (fun c1 => by simp only [if_pos c1] at hQ; exact Sm.q Sm.wm hQ) (Nat.zero_le _) (Nat.zero_le _) (fun c1 => by simp only [if_neg c1] at hQ; exact Sm.q Sm.wm hQ)
set_option maxRecDepth 10000 in
theorem zX9_positiveOf_0 {X : gX} {N : Nat} {M : gM} {n : Nat} (ih : PgME X N M n) : PX9_positiveOf_0 X N M (n + 1) := by
  intro d D mc ms Q f a0 x1 xs0 x2 ys0 y2 x4 hD s0 hT hQ
  subst hD
  rw [vgME, if_neg (show ¬ (11 : Nat) = 0 by decide), if_neg (show ¬ (11 : Nat) = 1 by decide), if_neg (show ¬ (11 : Nat) = 2 by decide), if_neg (show ¬ (11 : Nat) = 3 by decide), if_neg (show ¬ (11 : Nat) = 4 by decide), if_neg (show ¬ (11 : Nat) = 5 by decide), if_neg (show ¬ (11 : Nat) = 6 by decide), if_neg (show ¬ (11 : Nat) = 7 by decide), if_neg (show ¬ (11 : Nat) = 8 by decide), if_neg (show ¬ (11 : Nat) = 9 by decide), if_neg (show ¬ (11 : Nat) = 10 by decide), if_pos (show (11 : Nat) = 11 from rfl)] at hT
  rw [wgME, if_neg (show ¬ (11 : Nat) = 0 by decide), if_neg (show ¬ (11 : Nat) = 1 by decide), if_neg (show ¬ (11 : Nat) = 2 by decide), if_neg (show ¬ (11 : Nat) = 3 by decide), if_neg (show ¬ (11 : Nat) = 4 by decide), if_neg (show ¬ (11 : Nat) = 5 by decide), if_neg (show ¬ (11 : Nat) = 6 by decide), if_neg (show ¬ (11 : Nat) = 7 by decide), if_neg (show ¬ (11 : Nat) = 8 by decide), if_neg (show ¬ (11 : Nat) = 9 by decide), if_neg (show ¬ (11 : Nat) = 10 by decide), if_pos (show (11 : Nat) = 11 from rfl)] at hQ
  unfold bX9_positiveOf_0 at hQ
  unfold eX9_positiveOf_0 at hT
  obtain ⟨b1, hT⟩ := hT
  exact sX9_positiveOf_0 (M := (g_wm M f (g_ml M))) (d := d + (n + 1)) (Mo.sm Sm.wm s0) b1 (fun c1 => by simp only [if_pos c1] at hQ hT; exact Sm.c (Sm.tr Sm.wm (Sm.tr Sm.rf jX9_passes0)) (ih.2.2.2.2.2.2.2.2.2.2.2.2.2.2.2.1 d _ 0 0 _ _ _ _ _ _ _ _ _ (by omega) (s0) hT.1 (ih.2.2.2.2.2.2.2.2.2.2.2.2.2.1 (d + 1) _ _ _ _ _ _ _ _ _ _ _ _ (by omega) (s0) hT.2 hQ))) (fun c1 => by simp only [if_neg c1] at hQ hT; exact Sm.c (Sm.tr Sm.wm (Sm.tr Sm.rf jX9_passes0)) (ih.1 d _ 0 0 _ _ _ _ _ _ _ _ _ (by omega) (s0) hT.1 (ih.2.2.2.2.2.2.2.2.2.2.2.2.1 (d + 1) _ _ _ _ _ _ _ _ _ _ _ _ (by omega) (s0) hT.2 hQ)))
set_option maxRecDepth 10000 in
theorem zX9_positiveOf_17 {X : gX} {N : Nat} {M : gM} {n : Nat} (ih : PgME X N M n) : PX9_positiveOf_17 X N M (n + 1) := by
  intro d D mc ms Q f a0 x1 xs0 x2 ys0 y2 x4 hD s0 hT hQ
  subst hD
  rw [vgME, if_neg (show ¬ (12 : Nat) = 0 by decide), if_neg (show ¬ (12 : Nat) = 1 by decide), if_neg (show ¬ (12 : Nat) = 2 by decide), if_neg (show ¬ (12 : Nat) = 3 by decide), if_neg (show ¬ (12 : Nat) = 4 by decide), if_neg (show ¬ (12 : Nat) = 5 by decide), if_neg (show ¬ (12 : Nat) = 6 by decide), if_neg (show ¬ (12 : Nat) = 7 by decide), if_neg (show ¬ (12 : Nat) = 8 by decide), if_neg (show ¬ (12 : Nat) = 9 by decide), if_neg (show ¬ (12 : Nat) = 10 by decide), if_neg (show ¬ (12 : Nat) = 11 by decide), if_pos (show (12 : Nat) = 12 from rfl)] at hT
  rw [wgME, if_neg (show ¬ (12 : Nat) = 0 by decide), if_neg (show ¬ (12 : Nat) = 1 by decide), if_neg (show ¬ (12 : Nat) = 2 by decide), if_neg (show ¬ (12 : Nat) = 3 by decide), if_neg (show ¬ (12 : Nat) = 4 by decide), if_neg (show ¬ (12 : Nat) = 5 by decide), if_neg (show ¬ (12 : Nat) = 6 by decide), if_neg (show ¬ (12 : Nat) = 7 by decide), if_neg (show ¬ (12 : Nat) = 8 by decide), if_neg (show ¬ (12 : Nat) = 9 by decide), if_neg (show ¬ (12 : Nat) = 10 by decide), if_neg (show ¬ (12 : Nat) = 11 by decide), if_pos (show (12 : Nat) = 12 from rfl)] at hQ
  unfold bX9_positiveOf_17 at hQ
  unfold eX9_positiveOf_17 at hT
  obtain ⟨b2, hT⟩ := hT
  exact sX9_positiveOf_17 (M := (g_wm M f (g_ml M))) (d := d + (n + 1)) (Mo.sm Sm.wm s0) (Sm.q (Sm.tr Sm.wm (Sm.wi Sm.rf)) hQ) b2 (Nat.zero_le _) (Nat.zero_le _)
set_option maxRecDepth 10000 in
theorem zX9_positiveOf_35 {X : gX} {N : Nat} {M : gM} {n : Nat} (ih : PgME X N M n) : PX9_positiveOf_35 X N M (n + 1) := by
  intro d D mc ms Q f a0 x1 xs0 x2 ys0 y2 x4 hD s0 hT hQ
  subst hD
  rw [vgME, if_neg (show ¬ (13 : Nat) = 0 by decide), if_neg (show ¬ (13 : Nat) = 1 by decide), if_neg (show ¬ (13 : Nat) = 2 by decide), if_neg (show ¬ (13 : Nat) = 3 by decide), if_neg (show ¬ (13 : Nat) = 4 by decide), if_neg (show ¬ (13 : Nat) = 5 by decide), if_neg (show ¬ (13 : Nat) = 6 by decide), if_neg (show ¬ (13 : Nat) = 7 by decide), if_neg (show ¬ (13 : Nat) = 8 by decide), if_neg (show ¬ (13 : Nat) = 9 by decide), if_neg (show ¬ (13 : Nat) = 10 by decide), if_neg (show ¬ (13 : Nat) = 11 by decide), if_neg (show ¬ (13 : Nat) = 12 by decide), if_pos (show (13 : Nat) = 13 from rfl)] at hT
  rw [wgME, if_neg (show ¬ (13 : Nat) = 0 by decide), if_neg (show ¬ (13 : Nat) = 1 by decide), if_neg (show ¬ (13 : Nat) = 2 by decide), if_neg (show ¬ (13 : Nat) = 3 by decide), if_neg (show ¬ (13 : Nat) = 4 by decide), if_neg (show ¬ (13 : Nat) = 5 by decide), if_neg (show ¬ (13 : Nat) = 6 by decide), if_neg (show ¬ (13 : Nat) = 7 by decide), if_neg (show ¬ (13 : Nat) = 8 by decide), if_neg (show ¬ (13 : Nat) = 9 by decide), if_neg (show ¬ (13 : Nat) = 10 by decide), if_neg (show ¬ (13 : Nat) = 11 by decide), if_neg (show ¬ (13 : Nat) = 12 by decide), if_pos (show (13 : Nat) = 13 from rfl)] at hQ
  unfold bX9_positiveOf_35 at hQ
  unfold eX9_positiveOf_35 at hT
  obtain ⟨b3, hT⟩ := hT
  exact sX9_positiveOf_35 (M := (g_wm M f (g_ml M))) (d := d + (n + 1)) (Mo.sm Sm.wm s0) (Nat.zero_le _) (Nat.zero_le _) b3 (Sm.c (Sm.tr Sm.wm (Sm.wi Sm.rf)) (ih.2.2.2.2.2.2.2.2.2.2.2.2.2.2.2.1 d _ 0 0 _ _ _ _ _ _ _ _ _ (by omega) (s0) hT.1 (ih.2.2.2.2.2.2.2.2.2.2.2.2.2.2.1 (d + 1) _ _ _ _ _ _ _ _ _ _ _ _ (by omega) (s0) hT.2 hQ)))
set_option maxRecDepth 10000 in
theorem zX9_positiveOf_61 {X : gX} {N : Nat} {M : gM} {n : Nat} (ih : PgME X N M n) : PX9_positiveOf_61 X N M (n + 1) := by
  intro d D mc ms Q f a0 x1 xs0 x2 ys0 y2 x4 hD s0 hT hQ
  subst hD
  rw [vgME, if_neg (show ¬ (14 : Nat) = 0 by decide), if_neg (show ¬ (14 : Nat) = 1 by decide), if_neg (show ¬ (14 : Nat) = 2 by decide), if_neg (show ¬ (14 : Nat) = 3 by decide), if_neg (show ¬ (14 : Nat) = 4 by decide), if_neg (show ¬ (14 : Nat) = 5 by decide), if_neg (show ¬ (14 : Nat) = 6 by decide), if_neg (show ¬ (14 : Nat) = 7 by decide), if_neg (show ¬ (14 : Nat) = 8 by decide), if_neg (show ¬ (14 : Nat) = 9 by decide), if_neg (show ¬ (14 : Nat) = 10 by decide), if_neg (show ¬ (14 : Nat) = 11 by decide), if_neg (show ¬ (14 : Nat) = 12 by decide), if_neg (show ¬ (14 : Nat) = 13 by decide), if_pos (show (14 : Nat) = 14 from rfl)] at hT
  rw [wgME, if_neg (show ¬ (14 : Nat) = 0 by decide), if_neg (show ¬ (14 : Nat) = 1 by decide), if_neg (show ¬ (14 : Nat) = 2 by decide), if_neg (show ¬ (14 : Nat) = 3 by decide), if_neg (show ¬ (14 : Nat) = 4 by decide), if_neg (show ¬ (14 : Nat) = 5 by decide), if_neg (show ¬ (14 : Nat) = 6 by decide), if_neg (show ¬ (14 : Nat) = 7 by decide), if_neg (show ¬ (14 : Nat) = 8 by decide), if_neg (show ¬ (14 : Nat) = 9 by decide), if_neg (show ¬ (14 : Nat) = 10 by decide), if_neg (show ¬ (14 : Nat) = 11 by decide), if_neg (show ¬ (14 : Nat) = 12 by decide), if_neg (show ¬ (14 : Nat) = 13 by decide), if_pos (show (14 : Nat) = 14 from rfl)] at hQ
  unfold bX9_positiveOf_61 at hQ
  unfold eX9_positiveOf_61 at hT
  exact sX9_positiveOf_61 (M := (g_wm M f (g_ml M))) (d := d + (n + 1)) (Mo.sm Sm.wm s0) (fun c1 => by simp only [if_pos c1] at hQ; exact Sm.q Sm.wm hQ) (Nat.zero_le _) (Nat.zero_le _) (fun c1 c2 => by simp only [if_neg c1, if_neg c2] at hQ; exact Sm.q Sm.wm hQ) (fun c1 c2 c3 c4 c5 => by simp only [if_neg c1, if_pos c2, if_neg c3, if_neg c4, if_neg c5] at hQ; exact Sm.q Sm.wm hQ) (fun c1 c2 c3 c4 c5 => by simp only [if_neg c1, if_pos c2, if_neg c3, if_neg c4, if_pos c5] at hQ; exact Sm.q Sm.wm hQ) (fun c1 c2 c3 c4 c6 => by simp only [if_neg c1, if_pos c2, if_neg c3, if_pos c4, if_pos c6] at hQ; exact Sm.q Sm.wm hQ) (fun c1 c2 c3 c4 c6 => by simp only [if_neg c1, if_pos c2, if_neg c3, if_pos c4, if_neg c6] at hQ; exact Sm.q Sm.wm hQ) (fun c1 c2 c3 c7 => by simp only [if_neg c1, if_pos c2, if_pos c3, if_pos c7] at hQ; exact Sm.q Sm.wm hQ) (fun c1 c2 c3 c7 => by simp only [if_neg c1, if_pos c2, if_pos c3, if_neg c7] at hQ; exact Sm.q Sm.wm hQ)
set_option maxRecDepth 10000 in
theorem zX9_sumOf_0 {X : gX} {N : Nat} {M : gM} {n : Nat} (ih : PgME X N M n) : PX9_sumOf_0 X N M (n + 1) := by
  intro d D mc ms Q f a0 x1 xs0 x2 ys0 y2 x4 hD s0 hT hQ
  subst hD
  rw [vgME, if_neg (show ¬ (15 : Nat) = 0 by decide), if_neg (show ¬ (15 : Nat) = 1 by decide), if_neg (show ¬ (15 : Nat) = 2 by decide), if_neg (show ¬ (15 : Nat) = 3 by decide), if_neg (show ¬ (15 : Nat) = 4 by decide), if_neg (show ¬ (15 : Nat) = 5 by decide), if_neg (show ¬ (15 : Nat) = 6 by decide), if_neg (show ¬ (15 : Nat) = 7 by decide), if_neg (show ¬ (15 : Nat) = 8 by decide), if_neg (show ¬ (15 : Nat) = 9 by decide), if_neg (show ¬ (15 : Nat) = 10 by decide), if_neg (show ¬ (15 : Nat) = 11 by decide), if_neg (show ¬ (15 : Nat) = 12 by decide), if_neg (show ¬ (15 : Nat) = 13 by decide), if_neg (show ¬ (15 : Nat) = 14 by decide), if_pos (show (15 : Nat) = 15 from rfl)] at hT
  rw [wgME, if_neg (show ¬ (15 : Nat) = 0 by decide), if_neg (show ¬ (15 : Nat) = 1 by decide), if_neg (show ¬ (15 : Nat) = 2 by decide), if_neg (show ¬ (15 : Nat) = 3 by decide), if_neg (show ¬ (15 : Nat) = 4 by decide), if_neg (show ¬ (15 : Nat) = 5 by decide), if_neg (show ¬ (15 : Nat) = 6 by decide), if_neg (show ¬ (15 : Nat) = 7 by decide), if_neg (show ¬ (15 : Nat) = 8 by decide), if_neg (show ¬ (15 : Nat) = 9 by decide), if_neg (show ¬ (15 : Nat) = 10 by decide), if_neg (show ¬ (15 : Nat) = 11 by decide), if_neg (show ¬ (15 : Nat) = 12 by decide), if_neg (show ¬ (15 : Nat) = 13 by decide), if_neg (show ¬ (15 : Nat) = 14 by decide), if_pos (show (15 : Nat) = 15 from rfl)] at hQ
  unfold bX9_sumOf_0 at hQ
  unfold eX9_sumOf_0 at hT
  exact sX9_sumOf_0 (M := (g_wm M f (g_ml M))) (d := d + (n + 1)) (Mo.sm Sm.wm s0) (Sm.c Sm.wm (ih.2.2.2.2.2.2.2.2.2.2.2.2.2.2.2.2.2.2.2.1 d _ 0 0 _ _ _ _ _ _ _ _ _ (by omega) (s0) hT.1 (ih.2.2.2.2.2.2.2.2.2.2.2.2.2.2.2.2.1 (d + 1) _ _ _ _ _ _ _ _ _ _ _ _ (by omega) (s0) hT.2 hQ)))
set_option maxRecDepth 10000 in
theorem zX9_sumOf_5 {X : gX} {N : Nat} {M : gM} {n : Nat} (ih : PgME X N M n) : PX9_sumOf_5 X N M (n + 1) := by
  intro d D mc ms Q f a0 x1 xs0 x2 ys0 y2 x4 hD s0 hT hQ
  subst hD
  rw [vgME, if_neg (show ¬ (16 : Nat) = 0 by decide), if_neg (show ¬ (16 : Nat) = 1 by decide), if_neg (show ¬ (16 : Nat) = 2 by decide), if_neg (show ¬ (16 : Nat) = 3 by decide), if_neg (show ¬ (16 : Nat) = 4 by decide), if_neg (show ¬ (16 : Nat) = 5 by decide), if_neg (show ¬ (16 : Nat) = 6 by decide), if_neg (show ¬ (16 : Nat) = 7 by decide), if_neg (show ¬ (16 : Nat) = 8 by decide), if_neg (show ¬ (16 : Nat) = 9 by decide), if_neg (show ¬ (16 : Nat) = 10 by decide), if_neg (show ¬ (16 : Nat) = 11 by decide), if_neg (show ¬ (16 : Nat) = 12 by decide), if_neg (show ¬ (16 : Nat) = 13 by decide), if_neg (show ¬ (16 : Nat) = 14 by decide), if_neg (show ¬ (16 : Nat) = 15 by decide), if_pos (show (16 : Nat) = 16 from rfl)] at hT
  rw [wgME, if_neg (show ¬ (16 : Nat) = 0 by decide), if_neg (show ¬ (16 : Nat) = 1 by decide), if_neg (show ¬ (16 : Nat) = 2 by decide), if_neg (show ¬ (16 : Nat) = 3 by decide), if_neg (show ¬ (16 : Nat) = 4 by decide), if_neg (show ¬ (16 : Nat) = 5 by decide), if_neg (show ¬ (16 : Nat) = 6 by decide), if_neg (show ¬ (16 : Nat) = 7 by decide), if_neg (show ¬ (16 : Nat) = 8 by decide), if_neg (show ¬ (16 : Nat) = 9 by decide), if_neg (show ¬ (16 : Nat) = 10 by decide), if_neg (show ¬ (16 : Nat) = 11 by decide), if_neg (show ¬ (16 : Nat) = 12 by decide), if_neg (show ¬ (16 : Nat) = 13 by decide), if_neg (show ¬ (16 : Nat) = 14 by decide), if_neg (show ¬ (16 : Nat) = 15 by decide), if_pos (show (16 : Nat) = 16 from rfl)] at hQ
  unfold bX9_sumOf_5 at hQ
  unfold eX9_sumOf_5 at hT
  exact sX9_sumOf_5 (M := (g_wm M f (g_ml M))) (d := d + (n + 1)) (Mo.sm Sm.wm s0) (Sm.g Sm.wm (ih.2.2.2.2.2.2.2.2.2.2.2.2.2.2.2.2.2.1 (d + 1) _ _ _ _ _ _ _ _ _ _ _ _ (by omega) (s0) hT hQ))
set_option maxRecDepth 10000 in
theorem zX9_sumOf_6 {X : gX} {N : Nat} {M : gM} {n : Nat} (ih : PgME X N M n) : PX9_sumOf_6 X N M (n + 1) := by
  intro d D mc ms Q f a0 x1 xs0 x2 ys0 y2 x4 hD s0 hT hQ
  subst hD
  rw [vgME, if_neg (show ¬ (17 : Nat) = 0 by decide), if_neg (show ¬ (17 : Nat) = 1 by decide), if_neg (show ¬ (17 : Nat) = 2 by decide), if_neg (show ¬ (17 : Nat) = 3 by decide), if_neg (show ¬ (17 : Nat) = 4 by decide), if_neg (show ¬ (17 : Nat) = 5 by decide), if_neg (show ¬ (17 : Nat) = 6 by decide), if_neg (show ¬ (17 : Nat) = 7 by decide), if_neg (show ¬ (17 : Nat) = 8 by decide), if_neg (show ¬ (17 : Nat) = 9 by decide), if_neg (show ¬ (17 : Nat) = 10 by decide), if_neg (show ¬ (17 : Nat) = 11 by decide), if_neg (show ¬ (17 : Nat) = 12 by decide), if_neg (show ¬ (17 : Nat) = 13 by decide), if_neg (show ¬ (17 : Nat) = 14 by decide), if_neg (show ¬ (17 : Nat) = 15 by decide), if_neg (show ¬ (17 : Nat) = 16 by decide), if_pos (show (17 : Nat) = 17 from rfl)] at hT
  rw [wgME, if_neg (show ¬ (17 : Nat) = 0 by decide), if_neg (show ¬ (17 : Nat) = 1 by decide), if_neg (show ¬ (17 : Nat) = 2 by decide), if_neg (show ¬ (17 : Nat) = 3 by decide), if_neg (show ¬ (17 : Nat) = 4 by decide), if_neg (show ¬ (17 : Nat) = 5 by decide), if_neg (show ¬ (17 : Nat) = 6 by decide), if_neg (show ¬ (17 : Nat) = 7 by decide), if_neg (show ¬ (17 : Nat) = 8 by decide), if_neg (show ¬ (17 : Nat) = 9 by decide), if_neg (show ¬ (17 : Nat) = 10 by decide), if_neg (show ¬ (17 : Nat) = 11 by decide), if_neg (show ¬ (17 : Nat) = 12 by decide), if_neg (show ¬ (17 : Nat) = 13 by decide), if_neg (show ¬ (17 : Nat) = 14 by decide), if_neg (show ¬ (17 : Nat) = 15 by decide), if_neg (show ¬ (17 : Nat) = 16 by decide), if_pos (show (17 : Nat) = 17 from rfl)] at hQ
  unfold bX9_sumOf_6 at hQ
  unfold eX9_sumOf_6 at hT
  obtain ⟨b3, b4, b6, b8, hT⟩ := hT
  exact sX9_sumOf_6 (M := (g_wm M f (g_ml M))) (d := d + (n + 1)) (Mo.sm Sm.wm s0) (Nat.zero_le _) (Nat.zero_le _) b3 b4 (fun c1 => by simp only [if_pos c1] at hQ hT; exact Sm.c (Sm.tr Sm.wm (Sm.wi Sm.rf)) (ih.2.2.2.2.2.2.2.2.2.2.2.2.2.2.2.2.2.2.2.1 d _ 0 0 _ _ _ _ _ _ _ _ _ (by omega) (s0) hT.1 (ih.2.2.2.2.2.2.2.2.2.2.2.2.2.2.2.2.2.2.1 (d + 1) _ _ _ _ _ _ _ _ _ _ _ _ (by omega) (s0) hT.2 hQ))) b6 (fun c1 c2 => by simp only [if_neg c1, if_neg c2] at hQ; exact Sm.q Sm.wm hQ) b8 (fun c1 c2 => by simp only [if_neg c1, if_pos c2] at hQ hT; exact Sm.c (Sm.tr Sm.wm (Sm.wi Sm.rf)) (ih.2.2.2.2.2.2.2.2.2.2.2.2.2.2.2.2.2.2.2.1 d _ 0 0 _ _ _ _ _ _ _ _ _ (by omega) (s0) hT.1 (ih.2.2.2.2.2.2.2.2.2.2.2.2.2.2.2.2.2.2.1 (d + 1) _ _ _ _ _ _ _ _ _ _ _ _ (by omega) (s0) hT.2 hQ)))
set_option maxRecDepth 10000 in
theorem zX9_sumOf_76 {X : gX} {N : Nat} {M : gM} {n : Nat} (ih : PgME X N M n) : PX9_sumOf_76 X N M (n + 1) := by
  intro d D mc ms Q f a0 x1 xs0 x2 ys0 y2 x4 hD s0 hT hQ
  subst hD
  rw [vgME, if_neg (show ¬ (18 : Nat) = 0 by decide), if_neg (show ¬ (18 : Nat) = 1 by decide), if_neg (show ¬ (18 : Nat) = 2 by decide), if_neg (show ¬ (18 : Nat) = 3 by decide), if_neg (show ¬ (18 : Nat) = 4 by decide), if_neg (show ¬ (18 : Nat) = 5 by decide), if_neg (show ¬ (18 : Nat) = 6 by decide), if_neg (show ¬ (18 : Nat) = 7 by decide), if_neg (show ¬ (18 : Nat) = 8 by decide), if_neg (show ¬ (18 : Nat) = 9 by decide), if_neg (show ¬ (18 : Nat) = 10 by decide), if_neg (show ¬ (18 : Nat) = 11 by decide), if_neg (show ¬ (18 : Nat) = 12 by decide), if_neg (show ¬ (18 : Nat) = 13 by decide), if_neg (show ¬ (18 : Nat) = 14 by decide), if_neg (show ¬ (18 : Nat) = 15 by decide), if_neg (show ¬ (18 : Nat) = 16 by decide), if_neg (show ¬ (18 : Nat) = 17 by decide), if_pos (show (18 : Nat) = 18 from rfl)] at hT
  rw [wgME, if_neg (show ¬ (18 : Nat) = 0 by decide), if_neg (show ¬ (18 : Nat) = 1 by decide), if_neg (show ¬ (18 : Nat) = 2 by decide), if_neg (show ¬ (18 : Nat) = 3 by decide), if_neg (show ¬ (18 : Nat) = 4 by decide), if_neg (show ¬ (18 : Nat) = 5 by decide), if_neg (show ¬ (18 : Nat) = 6 by decide), if_neg (show ¬ (18 : Nat) = 7 by decide), if_neg (show ¬ (18 : Nat) = 8 by decide), if_neg (show ¬ (18 : Nat) = 9 by decide), if_neg (show ¬ (18 : Nat) = 10 by decide), if_neg (show ¬ (18 : Nat) = 11 by decide), if_neg (show ¬ (18 : Nat) = 12 by decide), if_neg (show ¬ (18 : Nat) = 13 by decide), if_neg (show ¬ (18 : Nat) = 14 by decide), if_neg (show ¬ (18 : Nat) = 15 by decide), if_neg (show ¬ (18 : Nat) = 16 by decide), if_neg (show ¬ (18 : Nat) = 17 by decide), if_pos (show (18 : Nat) = 18 from rfl)] at hQ
  unfold bX9_sumOf_76 at hQ
  unfold eX9_sumOf_76 at hT
  exact sX9_sumOf_76 (M := (g_wm M f (g_ml M))) (d := d + (n + 1)) (Mo.sm Sm.wm s0) (Nat.zero_le _) (Nat.zero_le _) (fun c1 => by simp only [if_pos c1] at hQ hT; exact Sm.g (Sm.tr Sm.wm (Sm.tr Sm.rf jX9_bounded)) (ih.2.2.2.2.2.2.2.2.2.2.2.2.2.2.2.2.2.1 (d + 1) _ _ _ _ _ _ _ _ _ _ _ _ (by omega) (s0) hT hQ)) (fun c1 => by simp only [if_neg c1] at hQ hT; exact Sm.g (Sm.tr Sm.wm (Sm.tr Sm.rf jX9_bounded)) (ih.2.2.2.2.2.2.2.2.2.2.2.2.2.2.2.2.2.1 (d + 1) _ _ _ _ _ _ _ _ _ _ _ _ (by omega) (s0) hT hQ))
set_option maxRecDepth 10000 in
theorem zX9_termOf_0 {X : gX} {N : Nat} {M : gM} {n : Nat} (ih : PgME X N M n) : PX9_termOf_0 X N M (n + 1) := by
  intro d D mc ms Q f a0 x1 xs0 x2 ys0 y2 x4 hD s0 hT hQ
  subst hD
  rw [vgME, if_neg (show ¬ (19 : Nat) = 0 by decide), if_neg (show ¬ (19 : Nat) = 1 by decide), if_neg (show ¬ (19 : Nat) = 2 by decide), if_neg (show ¬ (19 : Nat) = 3 by decide), if_neg (show ¬ (19 : Nat) = 4 by decide), if_neg (show ¬ (19 : Nat) = 5 by decide), if_neg (show ¬ (19 : Nat) = 6 by decide), if_neg (show ¬ (19 : Nat) = 7 by decide), if_neg (show ¬ (19 : Nat) = 8 by decide), if_neg (show ¬ (19 : Nat) = 9 by decide), if_neg (show ¬ (19 : Nat) = 10 by decide), if_neg (show ¬ (19 : Nat) = 11 by decide), if_neg (show ¬ (19 : Nat) = 12 by decide), if_neg (show ¬ (19 : Nat) = 13 by decide), if_neg (show ¬ (19 : Nat) = 14 by decide), if_neg (show ¬ (19 : Nat) = 15 by decide), if_neg (show ¬ (19 : Nat) = 16 by decide), if_neg (show ¬ (19 : Nat) = 17 by decide), if_neg (show ¬ (19 : Nat) = 18 by decide), if_pos (show (19 : Nat) = 19 from rfl)] at hT
  rw [wgME, if_neg (show ¬ (19 : Nat) = 0 by decide), if_neg (show ¬ (19 : Nat) = 1 by decide), if_neg (show ¬ (19 : Nat) = 2 by decide), if_neg (show ¬ (19 : Nat) = 3 by decide), if_neg (show ¬ (19 : Nat) = 4 by decide), if_neg (show ¬ (19 : Nat) = 5 by decide), if_neg (show ¬ (19 : Nat) = 6 by decide), if_neg (show ¬ (19 : Nat) = 7 by decide), if_neg (show ¬ (19 : Nat) = 8 by decide), if_neg (show ¬ (19 : Nat) = 9 by decide), if_neg (show ¬ (19 : Nat) = 10 by decide), if_neg (show ¬ (19 : Nat) = 11 by decide), if_neg (show ¬ (19 : Nat) = 12 by decide), if_neg (show ¬ (19 : Nat) = 13 by decide), if_neg (show ¬ (19 : Nat) = 14 by decide), if_neg (show ¬ (19 : Nat) = 15 by decide), if_neg (show ¬ (19 : Nat) = 16 by decide), if_neg (show ¬ (19 : Nat) = 17 by decide), if_neg (show ¬ (19 : Nat) = 18 by decide), if_pos (show (19 : Nat) = 19 from rfl)] at hQ
  unfold bX9_termOf_0 at hQ
  unfold eX9_termOf_0 at hT
  exact sX9_termOf_0 (M := (g_wm M f (g_ml M))) (d := d + (n + 1)) (Mo.sm Sm.wm s0) (Sm.c Sm.wm (ih.2.2.2.2.2.2.2.2.2.2.2.2.2.2.2.2.2.2.2.2.2.2.2.1 d _ 0 0 _ _ _ _ _ _ _ _ _ (by omega) (s0) hT.1 (ih.2.2.2.2.2.2.2.2.2.2.2.2.2.2.2.2.2.2.2.2.1 (d + 1) _ _ _ _ _ _ _ _ _ _ _ _ (by omega) (s0) hT.2 hQ)))
set_option maxRecDepth 10000 in
theorem zX9_termOf_5 {X : gX} {N : Nat} {M : gM} {n : Nat} (ih : PgME X N M n) : PX9_termOf_5 X N M (n + 1) := by
  intro d D mc ms Q f a0 x1 xs0 x2 ys0 y2 x4 hD s0 hT hQ
  subst hD
  rw [vgME, if_neg (show ¬ (20 : Nat) = 0 by decide), if_neg (show ¬ (20 : Nat) = 1 by decide), if_neg (show ¬ (20 : Nat) = 2 by decide), if_neg (show ¬ (20 : Nat) = 3 by decide), if_neg (show ¬ (20 : Nat) = 4 by decide), if_neg (show ¬ (20 : Nat) = 5 by decide), if_neg (show ¬ (20 : Nat) = 6 by decide), if_neg (show ¬ (20 : Nat) = 7 by decide), if_neg (show ¬ (20 : Nat) = 8 by decide), if_neg (show ¬ (20 : Nat) = 9 by decide), if_neg (show ¬ (20 : Nat) = 10 by decide), if_neg (show ¬ (20 : Nat) = 11 by decide), if_neg (show ¬ (20 : Nat) = 12 by decide), if_neg (show ¬ (20 : Nat) = 13 by decide), if_neg (show ¬ (20 : Nat) = 14 by decide), if_neg (show ¬ (20 : Nat) = 15 by decide), if_neg (show ¬ (20 : Nat) = 16 by decide), if_neg (show ¬ (20 : Nat) = 17 by decide), if_neg (show ¬ (20 : Nat) = 18 by decide), if_neg (show ¬ (20 : Nat) = 19 by decide), if_pos (show (20 : Nat) = 20 from rfl)] at hT
  rw [wgME, if_neg (show ¬ (20 : Nat) = 0 by decide), if_neg (show ¬ (20 : Nat) = 1 by decide), if_neg (show ¬ (20 : Nat) = 2 by decide), if_neg (show ¬ (20 : Nat) = 3 by decide), if_neg (show ¬ (20 : Nat) = 4 by decide), if_neg (show ¬ (20 : Nat) = 5 by decide), if_neg (show ¬ (20 : Nat) = 6 by decide), if_neg (show ¬ (20 : Nat) = 7 by decide), if_neg (show ¬ (20 : Nat) = 8 by decide), if_neg (show ¬ (20 : Nat) = 9 by decide), if_neg (show ¬ (20 : Nat) = 10 by decide), if_neg (show ¬ (20 : Nat) = 11 by decide), if_neg (show ¬ (20 : Nat) = 12 by decide), if_neg (show ¬ (20 : Nat) = 13 by decide), if_neg (show ¬ (20 : Nat) = 14 by decide), if_neg (show ¬ (20 : Nat) = 15 by decide), if_neg (show ¬ (20 : Nat) = 16 by decide), if_neg (show ¬ (20 : Nat) = 17 by decide), if_neg (show ¬ (20 : Nat) = 18 by decide), if_neg (show ¬ (20 : Nat) = 19 by decide), if_pos (show (20 : Nat) = 20 from rfl)] at hQ
  unfold bX9_termOf_5 at hQ
  unfold eX9_termOf_5 at hT
  exact sX9_termOf_5 (M := (g_wm M f (g_ml M))) (d := d + (n + 1)) (Mo.sm Sm.wm s0) (Sm.g Sm.wm (ih.2.2.2.2.2.2.2.2.2.2.2.2.2.2.2.2.2.2.2.2.2.1 (d + 1) _ _ _ _ _ _ _ _ _ _ _ _ (by omega) (s0) hT hQ))
set_option maxRecDepth 10000 in
theorem zX9_termOf_6 {X : gX} {N : Nat} {M : gM} {n : Nat} (ih : PgME X N M n) : PX9_termOf_6 X N M (n + 1) := by
  intro d D mc ms Q f a0 x1 xs0 x2 ys0 y2 x4 hD s0 hT hQ
  subst hD
  rw [vgME, if_neg (show ¬ (21 : Nat) = 0 by decide), if_neg (show ¬ (21 : Nat) = 1 by decide), if_neg (show ¬ (21 : Nat) = 2 by decide), if_neg (show ¬ (21 : Nat) = 3 by decide), if_neg (show ¬ (21 : Nat) = 4 by decide), if_neg (show ¬ (21 : Nat) = 5 by decide), if_neg (show ¬ (21 : Nat) = 6 by decide), if_neg (show ¬ (21 : Nat) = 7 by decide), if_neg (show ¬ (21 : Nat) = 8 by decide), if_neg (show ¬ (21 : Nat) = 9 by decide), if_neg (show ¬ (21 : Nat) = 10 by decide), if_neg (show ¬ (21 : Nat) = 11 by decide), if_neg (show ¬ (21 : Nat) = 12 by decide), if_neg (show ¬ (21 : Nat) = 13 by decide), if_neg (show ¬ (21 : Nat) = 14 by decide), if_neg (show ¬ (21 : Nat) = 15 by decide), if_neg (show ¬ (21 : Nat) = 16 by decide), if_neg (show ¬ (21 : Nat) = 17 by decide), if_neg (show ¬ (21 : Nat) = 18 by decide), if_neg (show ¬ (21 : Nat) = 19 by decide), if_neg (show ¬ (21 : Nat) = 20 by decide), if_pos (show (21 : Nat) = 21 from rfl)] at hT
  rw [wgME, if_neg (show ¬ (21 : Nat) = 0 by decide), if_neg (show ¬ (21 : Nat) = 1 by decide), if_neg (show ¬ (21 : Nat) = 2 by decide), if_neg (show ¬ (21 : Nat) = 3 by decide), if_neg (show ¬ (21 : Nat) = 4 by decide), if_neg (show ¬ (21 : Nat) = 5 by decide), if_neg (show ¬ (21 : Nat) = 6 by decide), if_neg (show ¬ (21 : Nat) = 7 by decide), if_neg (show ¬ (21 : Nat) = 8 by decide), if_neg (show ¬ (21 : Nat) = 9 by decide), if_neg (show ¬ (21 : Nat) = 10 by decide), if_neg (show ¬ (21 : Nat) = 11 by decide), if_neg (show ¬ (21 : Nat) = 12 by decide), if_neg (show ¬ (21 : Nat) = 13 by decide), if_neg (show ¬ (21 : Nat) = 14 by decide), if_neg (show ¬ (21 : Nat) = 15 by decide), if_neg (show ¬ (21 : Nat) = 16 by decide), if_neg (show ¬ (21 : Nat) = 17 by decide), if_neg (show ¬ (21 : Nat) = 18 by decide), if_neg (show ¬ (21 : Nat) = 19 by decide), if_neg (show ¬ (21 : Nat) = 20 by decide), if_pos (show (21 : Nat) = 21 from rfl)] at hQ
  unfold bX9_termOf_6 at hQ
  unfold eX9_termOf_6 at hT
  obtain ⟨b3, b4, b6, b7, b9, b11, hT⟩ := hT
  exact sX9_termOf_6 (M := (g_wm M f (g_ml M))) (d := d + (n + 1)) (Mo.sm Sm.wm s0) (Nat.zero_le _) (Nat.zero_le _) b3 b4 (fun c1 => by simp only [if_pos c1] at hQ hT; exact Sm.c (Sm.tr Sm.wm (Sm.wi Sm.rf)) (ih.2.2.2.2.2.2.2.2.2.2.2.2.2.2.2.2.2.2.2.2.2.2.2.1 d _ 0 0 _ _ _ _ _ _ _ _ _ (by omega) (s0) hT.1 (ih.2.2.2.2.2.2.2.2.2.2.2.2.2.2.2.2.2.2.2.2.2.2.1 (d + 1) _ _ _ _ _ _ _ _ _ _ _ _ (by omega) (s0) hT.2 hQ))) b6 b7 (fun c1 c2 => by simp only [if_neg c1, if_pos c2] at hQ hT; exact Sm.c (Sm.tr Sm.wm (Sm.wi Sm.rf)) (ih.2.2.2.2.2.2.2.2.2.2.2.2.2.2.2.2.2.2.2.2.2.2.2.1 d _ 0 0 _ _ _ _ _ _ _ _ _ (by omega) (s0) hT.1 (ih.2.2.2.2.2.2.2.2.2.2.2.2.2.2.2.2.2.2.2.2.2.2.1 (d + 1) _ _ _ _ _ _ _ _ _ _ _ _ (by omega) (s0) hT.2 hQ))) b9 (fun c1 c2 c3 => by simp only [if_neg c1, if_neg c2, if_neg c3] at hQ; exact Sm.q Sm.wm hQ) b11 (fun c1 c2 c3 => by simp only [if_neg c1, if_neg c2, if_pos c3] at hQ hT; exact Sm.c (Sm.tr Sm.wm (Sm.wi Sm.rf)) (ih.2.2.2.2.2.2.2.2.2.2.2.2.2.2.2.2.2.2.2.2.2.2.2.1 d _ 0 0 _ _ _ _ _ _ _ _ _ (by omega) (s0) hT.1 (ih.2.2.2.2.2.2.2.2.2.2.2.2.2.2.2.2.2.2.2.2.2.2.1 (d + 1) _ _ _ _ _ _ _ _ _ _ _ _ (by omega) (s0) hT.2 hQ)))
set_option maxRecDepth 10000 in
theorem zX9_termOf_79 {X : gX} {N : Nat} {M : gM} {n : Nat} (ih : PgME X N M n) : PX9_termOf_79 X N M (n + 1) := by
  intro d D mc ms Q f a0 x1 xs0 x2 ys0 y2 x4 hD s0 hT hQ
  subst hD
  rw [vgME, if_neg (show ¬ (22 : Nat) = 0 by decide), if_neg (show ¬ (22 : Nat) = 1 by decide), if_neg (show ¬ (22 : Nat) = 2 by decide), if_neg (show ¬ (22 : Nat) = 3 by decide), if_neg (show ¬ (22 : Nat) = 4 by decide), if_neg (show ¬ (22 : Nat) = 5 by decide), if_neg (show ¬ (22 : Nat) = 6 by decide), if_neg (show ¬ (22 : Nat) = 7 by decide), if_neg (show ¬ (22 : Nat) = 8 by decide), if_neg (show ¬ (22 : Nat) = 9 by decide), if_neg (show ¬ (22 : Nat) = 10 by decide), if_neg (show ¬ (22 : Nat) = 11 by decide), if_neg (show ¬ (22 : Nat) = 12 by decide), if_neg (show ¬ (22 : Nat) = 13 by decide), if_neg (show ¬ (22 : Nat) = 14 by decide), if_neg (show ¬ (22 : Nat) = 15 by decide), if_neg (show ¬ (22 : Nat) = 16 by decide), if_neg (show ¬ (22 : Nat) = 17 by decide), if_neg (show ¬ (22 : Nat) = 18 by decide), if_neg (show ¬ (22 : Nat) = 19 by decide), if_neg (show ¬ (22 : Nat) = 20 by decide), if_neg (show ¬ (22 : Nat) = 21 by decide), if_pos (show (22 : Nat) = 22 from rfl)] at hT
  rw [wgME, if_neg (show ¬ (22 : Nat) = 0 by decide), if_neg (show ¬ (22 : Nat) = 1 by decide), if_neg (show ¬ (22 : Nat) = 2 by decide), if_neg (show ¬ (22 : Nat) = 3 by decide), if_neg (show ¬ (22 : Nat) = 4 by decide), if_neg (show ¬ (22 : Nat) = 5 by decide), if_neg (show ¬ (22 : Nat) = 6 by decide), if_neg (show ¬ (22 : Nat) = 7 by decide), if_neg (show ¬ (22 : Nat) = 8 by decide), if_neg (show ¬ (22 : Nat) = 9 by decide), if_neg (show ¬ (22 : Nat) = 10 by decide), if_neg (show ¬ (22 : Nat) = 11 by decide), if_neg (show ¬ (22 : Nat) = 12 by decide), if_neg (show ¬ (22 : Nat) = 13 by decide), if_neg (show ¬ (22 : Nat) = 14 by decide), if_neg (show ¬ (22 : Nat) = 15 by decide), if_neg (show ¬ (22 : Nat) = 16 by decide), if_neg (show ¬ (22 : Nat) = 17 by decide), if_neg (show ¬ (22 : Nat) = 18 by decide), if_neg (show ¬ (22 : Nat) = 19 by decide), if_neg (show ¬ (22 : Nat) = 20 by decide), if_neg (show ¬ (22 : Nat) = 21 by decide), if_pos (show (22 : Nat) = 22 from rfl)] at hQ
  unfold bX9_termOf_79 at hQ
  unfold eX9_termOf_79 at hT
  obtain ⟨b4, b6, hT⟩ := hT
  exact sX9_termOf_79 (M := (g_wm M f (g_ml M))) (d := d + (n + 1)) (Mo.sm Sm.wm s0) (Nat.zero_le _) (Nat.zero_le _) (fun c1 => by simp only [if_pos c1] at hQ hT; exact Sm.g (Sm.tr Sm.wm (Sm.tr Sm.rf jX9_bounded)) (ih.2.2.2.2.2.2.2.2.2.2.2.2.2.2.2.2.2.2.2.2.2.1 (d + 1) _ _ _ _ _ _ _ _ _ _ _ _ (by omega) (s0) hT hQ)) b4 (fun c1 c2 c3 => by simp only [if_neg c1, if_neg c2, if_neg c3] at hQ hT; exact Sm.g (Sm.tr Sm.wm (Sm.tr Sm.rf jX9_bounded)) (ih.2.2.2.2.2.2.2.2.2.2.2.2.2.2.2.2.2.2.2.2.2.1 (d + 1) _ _ _ _ _ _ _ _ _ _ _ _ (by omega) (s0) hT hQ)) b6 (fun c1 c2 c3 => by simp only [if_neg c1, if_neg c2, if_pos c3] at hQ hT; exact Sm.g (Sm.tr Sm.wm (Sm.tr Sm.rf jX9_bounded)) (ih.2.2.2.2.2.2.2.2.2.2.2.2.2.2.2.2.2.2.2.2.2.1 (d + 1) _ _ _ _ _ _ _ _ _ _ _ _ (by omega) (s0) hT hQ)) (fun c1 c2 c4 c5 => by simp only [if_neg c1, if_pos c2, if_neg c4, if_neg c5] at hQ hT; exact Sm.g (Sm.tr Sm.wm (Sm.tr (Sm.wi Sm.rf) jX9_bounded)) (ih.2.2.2.2.2.2.2.2.2.2.2.2.2.2.2.2.2.2.2.2.2.1 (d + 1) _ _ _ _ _ _ _ _ _ _ _ _ (by omega) (s0) hT hQ)) (fun c1 c2 c4 c5 => by simp only [if_neg c1, if_pos c2, if_neg c4, if_pos c5] at hQ hT; exact Sm.g (Sm.tr Sm.wm (Sm.tr (Sm.wi Sm.rf) jX9_bounded)) (ih.2.2.2.2.2.2.2.2.2.2.2.2.2.2.2.2.2.2.2.2.2.1 (d + 1) _ _ _ _ _ _ _ _ _ _ _ _ (by omega) (s0) hT hQ)) (fun c1 c2 c4 c6 c7 => by simp only [if_neg c1, if_pos c2, if_pos c4, if_pos c6, if_neg c7] at hQ hT; exact Sm.g (Sm.tr Sm.wm (Sm.tr (Sm.wi Sm.rf) jX9_bounded)) (ih.2.2.2.2.2.2.2.2.2.2.2.2.2.2.2.2.2.2.2.2.2.1 (d + 1) _ _ _ _ _ _ _ _ _ _ _ _ (by omega) (s0) hT hQ)) (fun c1 c2 c4 c6 c7 => by simp only [if_neg c1, if_pos c2, if_pos c4, if_pos c6, if_pos c7] at hQ hT; exact Sm.g (Sm.tr Sm.wm (Sm.tr (Sm.wi Sm.rf) jX9_bounded)) (ih.2.2.2.2.2.2.2.2.2.2.2.2.2.2.2.2.2.2.2.2.2.1 (d + 1) _ _ _ _ _ _ _ _ _ _ _ _ (by omega) (s0) hT hQ)) (fun c1 c2 c4 c6 c8 => by simp only [if_neg c1, if_pos c2, if_pos c4, if_neg c6, if_neg c8] at hQ hT; exact Sm.g (Sm.tr Sm.wm (Sm.tr (Sm.wi Sm.rf) jX9_bounded)) (ih.2.2.2.2.2.2.2.2.2.2.2.2.2.2.2.2.2.2.2.2.2.1 (d + 1) _ _ _ _ _ _ _ _ _ _ _ _ (by omega) (s0) hT hQ)) (fun c1 c2 c4 c6 c8 => by simp only [if_neg c1, if_pos c2, if_pos c4, if_neg c6, if_pos c8] at hQ hT; exact Sm.g (Sm.tr Sm.wm (Sm.tr (Sm.wi Sm.rf) jX9_bounded)) (ih.2.2.2.2.2.2.2.2.2.2.2.2.2.2.2.2.2.2.2.2.2.1 (d + 1) _ _ _ _ _ _ _ _ _ _ _ _ (by omega) (s0) hT hQ))
set_option maxRecDepth 10000 in
theorem zX9_partOf_0 {X : gX} {N : Nat} {M : gM} {n : Nat} (ih : PgME X N M n) : PX9_partOf_0 X N M (n + 1) := by
  intro d D mc ms Q f a0 x1 xs0 x2 ys0 y2 x4 hD s0 hT hQ
  subst hD
  rw [vgME, if_neg (show ¬ (23 : Nat) = 0 by decide), if_neg (show ¬ (23 : Nat) = 1 by decide), if_neg (show ¬ (23 : Nat) = 2 by decide), if_neg (show ¬ (23 : Nat) = 3 by decide), if_neg (show ¬ (23 : Nat) = 4 by decide), if_neg (show ¬ (23 : Nat) = 5 by decide), if_neg (show ¬ (23 : Nat) = 6 by decide), if_neg (show ¬ (23 : Nat) = 7 by decide), if_neg (show ¬ (23 : Nat) = 8 by decide), if_neg (show ¬ (23 : Nat) = 9 by decide), if_neg (show ¬ (23 : Nat) = 10 by decide), if_neg (show ¬ (23 : Nat) = 11 by decide), if_neg (show ¬ (23 : Nat) = 12 by decide), if_neg (show ¬ (23 : Nat) = 13 by decide), if_neg (show ¬ (23 : Nat) = 14 by decide), if_neg (show ¬ (23 : Nat) = 15 by decide), if_neg (show ¬ (23 : Nat) = 16 by decide), if_neg (show ¬ (23 : Nat) = 17 by decide), if_neg (show ¬ (23 : Nat) = 18 by decide), if_neg (show ¬ (23 : Nat) = 19 by decide), if_neg (show ¬ (23 : Nat) = 20 by decide), if_neg (show ¬ (23 : Nat) = 21 by decide), if_neg (show ¬ (23 : Nat) = 22 by decide), if_pos (show (23 : Nat) = 23 from rfl)] at hT
  rw [wgME, if_neg (show ¬ (23 : Nat) = 0 by decide), if_neg (show ¬ (23 : Nat) = 1 by decide), if_neg (show ¬ (23 : Nat) = 2 by decide), if_neg (show ¬ (23 : Nat) = 3 by decide), if_neg (show ¬ (23 : Nat) = 4 by decide), if_neg (show ¬ (23 : Nat) = 5 by decide), if_neg (show ¬ (23 : Nat) = 6 by decide), if_neg (show ¬ (23 : Nat) = 7 by decide), if_neg (show ¬ (23 : Nat) = 8 by decide), if_neg (show ¬ (23 : Nat) = 9 by decide), if_neg (show ¬ (23 : Nat) = 10 by decide), if_neg (show ¬ (23 : Nat) = 11 by decide), if_neg (show ¬ (23 : Nat) = 12 by decide), if_neg (show ¬ (23 : Nat) = 13 by decide), if_neg (show ¬ (23 : Nat) = 14 by decide), if_neg (show ¬ (23 : Nat) = 15 by decide), if_neg (show ¬ (23 : Nat) = 16 by decide), if_neg (show ¬ (23 : Nat) = 17 by decide), if_neg (show ¬ (23 : Nat) = 18 by decide), if_neg (show ¬ (23 : Nat) = 19 by decide), if_neg (show ¬ (23 : Nat) = 20 by decide), if_neg (show ¬ (23 : Nat) = 21 by decide), if_neg (show ¬ (23 : Nat) = 22 by decide), if_pos (show (23 : Nat) = 23 from rfl)] at hQ
  unfold bX9_partOf_0 at hQ
  unfold eX9_partOf_0 at hT
  obtain ⟨b1, b2, b4, b6, b9, b11, b13, b17, b19, b22, b24, b26, hT⟩ := hT
  exact sX9_partOf_0 (M := (g_wm M f (g_ml M))) (d := d + (n + 1)) (Mo.sm Sm.wm s0) b1 b2 (fun c1 c2 c3 => by simp only [if_pos c1, if_pos c2, if_pos c3] at hQ; exact Sm.q (Sm.tr Sm.wm (Sm.wi (Sm.tr Sm.rf jX9_passes0))) hQ) b4 (fun c1 c2 c3 c4 c5 => by simp only [if_pos c1, if_pos c2, if_neg c3, if_pos c4, if_neg c5] at hQ; exact Sm.q (Sm.tr Sm.wm (Sm.wi (Sm.tr Sm.rf jX9_passes0))) hQ) b6 (fun c1 c2 c3 c4 c5 => by simp only [if_pos c1, if_pos c2, if_neg c3, if_pos c4, if_pos c5] at hQ; exact Sm.q (Sm.tr Sm.wm (Sm.wi (Sm.tr Sm.rf jX9_passes0))) hQ) (fun c1 c2 c3 c4 => by simp only [if_pos c1, if_pos c2, if_neg c3, if_neg c4] at hQ; exact Sm.q (Sm.tr Sm.wm (Sm.wi (Sm.tr Sm.rf jX9_passes0))) hQ) b9 (fun c1 c2 c6 c7 => by simp only [if_pos c1, if_neg c2, if_pos c6, if_pos c7] at hQ; exact Sm.q (Sm.tr Sm.wm (Sm.wi (Sm.wi (Sm.tr Sm.rf jX9_passes0)))) hQ) b11 (fun c1 c2 c6 c7 c8 c9 => by simp only [if_pos c1, if_neg c2, if_pos c6, if_neg c7, if_pos c8, if_pos c9] at hQ; exact Sm.q (Sm.tr Sm.wm (Sm.wi (Sm.wi (Sm.tr Sm.rf jX9_passes0)))) hQ) b13 (fun c1 c2 c6 c7 c8 c9 => by simp only [if_pos c1, if_neg c2, if_pos c6, if_neg c7, if_pos c8, if_neg c9] at hQ; exact Sm.q (Sm.tr Sm.wm (Sm.wi (Sm.wi (Sm.tr Sm.rf jX9_passes0)))) hQ) (fun c1 c2 c6 c7 c8 => by simp only [if_pos c1, if_neg c2, if_pos c6, if_neg c7, if_neg c8] at hQ; exact Sm.q (Sm.tr Sm.wm (Sm.wi (Sm.wi (Sm.tr Sm.rf jX9_passes0)))) hQ) (fun c1 c2 c6 c10 c11 => by simp only [if_pos c1, if_neg c2, if_neg c6, if_neg c10, if_pos c11] at hQ; exact Sm.q (Sm.tr Sm.wm (Sm.wi (Sm.tr Sm.rf jX9_passes0))) hQ) b17 (fun c1 c2 c6 c10 c11 c12 c13 => by simp only [if_pos c1, if_neg c2, if_neg c6, if_neg c10, if_neg c11, if_pos c12, if_neg c13] at hQ; exact Sm.q (Sm.tr Sm.wm (Sm.wi (Sm.tr Sm.rf jX9_passes0))) hQ) b19 (fun c1 c2 c6 c10 c11 c12 c13 => by simp only [if_pos c1, if_neg c2, if_neg c6, if_neg c10, if_neg c11, if_pos c12, if_pos c13] at hQ; exact Sm.q (Sm.tr Sm.wm (Sm.wi (Sm.tr Sm.rf jX9_passes0))) hQ) (fun c1 c2 c6 c10 c11 c12 => by simp only [if_pos c1, if_neg c2, if_neg c6, if_neg c10, if_neg c11, if_neg c12] at hQ; exact Sm.q (Sm.tr Sm.wm (Sm.wi (Sm.tr Sm.rf jX9_passes0))) hQ) b22 (fun c1 c2 c6 c10 c14 => by simp only [if_pos c1, if_neg c2, if_neg c6, if_pos c10, if_pos c14] at hQ; exact Sm.q (Sm.tr Sm.wm (Sm.wi (Sm.wi (Sm.tr Sm.rf jX9_passes0)))) hQ) b24 (fun c1 c2 c6 c10 c14 c15 c16 => by simp only [if_pos c1, if_neg c2, if_neg c6, if_pos c10, if_neg c14, if_pos c15, if_pos c16] at hQ; exact Sm.q (Sm.tr Sm.wm (Sm.wi (Sm.wi (Sm.tr Sm.rf jX9_passes0)))) hQ) b26 (fun c1 c2 c6 c10 c14 c15 c16 => by simp only [if_pos c1, if_neg c2, if_neg c6, if_pos c10, if_neg c14, if_pos c15, if_neg c16] at hQ; exact Sm.q (Sm.tr Sm.wm (Sm.wi (Sm.wi (Sm.tr Sm.rf jX9_passes0)))) hQ) (fun c1 c2 c6 c10 c14 c15 => by simp only [if_pos c1, if_neg c2, if_neg c6, if_pos c10, if_neg c14, if_neg c15] at hQ; exact Sm.q (Sm.tr Sm.wm (Sm.wi (Sm.wi (Sm.tr Sm.rf jX9_passes0)))) hQ) (fun c1 => by simp only [if_neg c1] at hQ hT; exact Sm.c (Sm.tr Sm.wm (Sm.tr Sm.rf jX9_passes0)) (ih.2.2.2.2.2.2.2.2.2.2.2.2.2.2.2.1 d _ 0 0 _ _ _ _ _ _ _ _ _ (by omega) (s0) hT.1 (ih.2.2.2.2.2.2.2.2.2.2.2.2.2.2.2.2.2.2.2.2.2.2.2.2 (d + 1) _ _ _ _ _ _ _ _ _ _ _ _ (by omega) (s0) hT.2 hQ)))
set_option maxRecDepth 10000 in
theorem zX9_partOf_17 {X : gX} {N : Nat} {M : gM} {n : Nat} (ih : PgME X N M n) : PX9_partOf_17 X N M (n + 1) := by
  intro d D mc ms Q f a0 x1 xs0 x2 ys0 y2 x4 hD s0 hT hQ
  subst hD
  rw [vgME, if_neg (show ¬ (24 : Nat) = 0 by decide), if_neg (show ¬ (24 : Nat) = 1 by decide), if_neg (show ¬ (24 : Nat) = 2 by decide), if_neg (show ¬ (24 : Nat) = 3 by decide), if_neg (show ¬ (24 : Nat) = 4 by decide), if_neg (show ¬ (24 : Nat) = 5 by decide), if_neg (show ¬ (24 : Nat) = 6 by decide), if_neg (show ¬ (24 : Nat) = 7 by decide), if_neg (show ¬ (24 : Nat) = 8 by decide), if_neg (show ¬ (24 : Nat) = 9 by decide), if_neg (show ¬ (24 : Nat) = 10 by decide), if_neg (show ¬ (24 : Nat) = 11 by decide), if_neg (show ¬ (24 : Nat) = 12 by decide), if_neg (show ¬ (24 : Nat) = 13 by decide), if_neg (show ¬ (24 : Nat) = 14 by decide), if_neg (show ¬ (24 : Nat) = 15 by decide), if_neg (show ¬ (24 : Nat) = 16 by decide), if_neg (show ¬ (24 : Nat) = 17 by decide), if_neg (show ¬ (24 : Nat) = 18 by decide), if_neg (show ¬ (24 : Nat) = 19 by decide), if_neg (show ¬ (24 : Nat) = 20 by decide), if_neg (show ¬ (24 : Nat) = 21 by decide), if_neg (show ¬ (24 : Nat) = 22 by decide), if_neg (show ¬ (24 : Nat) = 23 by decide)] at hT
  rw [wgME, if_neg (show ¬ (24 : Nat) = 0 by decide), if_neg (show ¬ (24 : Nat) = 1 by decide), if_neg (show ¬ (24 : Nat) = 2 by decide), if_neg (show ¬ (24 : Nat) = 3 by decide), if_neg (show ¬ (24 : Nat) = 4 by decide), if_neg (show ¬ (24 : Nat) = 5 by decide), if_neg (show ¬ (24 : Nat) = 6 by decide), if_neg (show ¬ (24 : Nat) = 7 by decide), if_neg (show ¬ (24 : Nat) = 8 by decide), if_neg (show ¬ (24 : Nat) = 9 by decide), if_neg (show ¬ (24 : Nat) = 10 by decide), if_neg (show ¬ (24 : Nat) = 11 by decide), if_neg (show ¬ (24 : Nat) = 12 by decide), if_neg (show ¬ (24 : Nat) = 13 by decide), if_neg (show ¬ (24 : Nat) = 14 by decide), if_neg (show ¬ (24 : Nat) = 15 by decide), if_neg (show ¬ (24 : Nat) = 16 by decide), if_neg (show ¬ (24 : Nat) = 17 by decide), if_neg (show ¬ (24 : Nat) = 18 by decide), if_neg (show ¬ (24 : Nat) = 19 by decide), if_neg (show ¬ (24 : Nat) = 20 by decide), if_neg (show ¬ (24 : Nat) = 21 by decide), if_neg (show ¬ (24 : Nat) = 22 by decide), if_neg (show ¬ (24 : Nat) = 23 by decide)] at hQ
  unfold bX9_partOf_17 at hQ
  unfold eX9_partOf_17 at hT
  exact sX9_partOf_17 (M := (g_wm M f (g_ml M))) (d := d + (n + 1)) (Mo.sm Sm.wm s0) (Sm.q (Sm.tr Sm.wm (Sm.wi Sm.rf)) hQ) (Nat.zero_le _) (Nat.zero_le _)
theorem lpgME {X : gX} (N : Nat) (M : gM) : ∀ n : Nat, PgME X N M n := by
  intro n
  induction n with
  | zero => exact ⟨fun _ _ _ _ _ _ _ _ _ _ _ _ _ _ _ h _ => h.elim, fun _ _ _ _ _ _ _ _ _ _ _ _ _ _ _ h _ => h.elim, fun _ _ _ _ _ _ _ _ _ _ _ _ _ _ _ h _ => h.elim, fun _ _ _ _ _ _ _ _ _ _ _ _ _ _ _ h _ => h.elim, fun _ _ _ _ _ _ _ _ _ _ _ _ _ _ _ h _ => h.elim, fun _ _ _ _ _ _ _ _ _ _ _ _ _ _ _ h _ => h.elim, fun _ _ _ _ _ _ _ _ _ _ _ _ _ _ _ h _ => h.elim, fun _ _ _ _ _ _ _ _ _ _ _ _ _ _ _ h _ => h.elim, fun _ _ _ _ _ _ _ _ _ _ _ _ _ _ _ h _ => h.elim, fun _ _ _ _ _ _ _ _ _ _ _ _ _ _ _ h _ => h.elim, fun _ _ _ _ _ _ _ _ _ _ _ _ _ _ h _ => h.elim, fun _ _ _ _ _ _ _ _ _ _ _ _ _ _ _ h _ => h.elim, fun _ _ _ _ _ _ _ _ _ _ _ _ _ _ _ h _ => h.elim, fun _ _ _ _ _ _ _ _ _ _ _ _ _ _ _ h _ => h.elim, fun _ _ _ _ _ _ _ _ _ _ _ _ _ _ _ h _ => h.elim, fun _ _ _ _ _ _ _ _ _ _ _ _ _ _ _ h _ => h.elim, fun _ _ _ _ _ _ _ _ _ _ _ _ _ _ _ h _ => h.elim, fun _ _ _ _ _ _ _ _ _ _ _ _ _ _ _ h _ => h.elim, fun _ _ _ _ _ _ _ _ _ _ _ _ _ _ _ h _ => h.elim, fun _ _ _ _ _ _ _ _ _ _ _ _ _ _ _ h _ => h.elim, fun _ _ _ _ _ _ _ _ _ _ _ _ _ _ _ h _ => h.elim, fun _ _ _ _ _ _ _ _ _ _ _ _ _ _ _ h _ => h.elim, fun _ _ _ _ _ _ _ _ _ _ _ _ _ _ _ h _ => h.elim, fun _ _ _ _ _ _ _ _ _ _ _ _ _ _ _ h _ => h.elim, fun _ _ _ _ _ _ _ _ _ _ _ _ _ _ _ h _ => h.elim⟩
  | succ n ih => exact ⟨zX9_testOf_0 ih, zX9_testOf_5 ih, zX9_testOf_6 ih, zX9_testOf_31 ih, zX9_bothOf_0 ih, zX9_bothOf_5 ih, zX9_bothOf_6 ih, zX9_bothOf_31 ih, zX9_plainOf_0 ih, zX9_plainOf_2 ih, zX9_plainOf_29 ih, zX9_positiveOf_0 ih, zX9_positiveOf_17 ih, zX9_positiveOf_35 ih, zX9_positiveOf_61 ih, zX9_sumOf_0 ih, zX9_sumOf_5 ih, zX9_sumOf_6 ih, zX9_sumOf_76 ih, zX9_termOf_0 ih, zX9_termOf_5 ih, zX9_termOf_6 ih, zX9_termOf_79 ih, zX9_partOf_0 ih, zX9_partOf_17 ih⟩
def fX9_testOf (N K : Nat) (M : gM) (a0 : Nat) (x1 : Int32) : Int32 := (wgME N M K 0 (g_mi M) a0 x1 0 0 0 0 0).1
def mX9_testOf (N K : Nat) (M : gM) (a0 : Nat) (x1 : Int32) : gM := g_wm M (wgME N M K 0 (g_mi M) a0 x1 0 0 0 0 0).2.2 (g_ml M)
theorem jX9_testOf {N K : Nat} {M : gM} {a0 : Nat} {x1 : Int32} : Sm M (mX9_testOf N K M a0 x1) := Sm.wm
def EX9_testOf (N K : Nat) (M : gM) (a0 : Nat) (x1 : Int32) : Prop := vgME N M K 0 (g_mi M) a0 x1 0 0 0 0 0
theorem tX9_testOf {N K : Nat} {X : gX} {d mc ms : Nat} {Q : Option Value → gM → Prop} {M : gM} {a0 : Nat} {x1 : Int32} (s0 : Mo M a0) (hE : EX9_testOf N K M a0 x1) (hQ : Q (some (.int (fX9_testOf N K M a0 x1))) (mX9_testOf N K M a0 x1)) : Cn X (d + K + 6) mc ms kX9_testOf [.ref a0, .int (x1)] M Q := by
  have ih := lpgME (X := X) N M K
  exact ih.1 d _ mc ms Q (g_mi M) a0 x1 0 0 0 0 0 rfl s0 hE hQ
def fX9_bothOf (N K : Nat) (M : gM) (a0 : Nat) (x1 : Int32) : Int32 := (wgME N M K 4 (g_mi M) a0 x1 0 0 0 0 0).1
def mX9_bothOf (N K : Nat) (M : gM) (a0 : Nat) (x1 : Int32) : gM := g_wm M (wgME N M K 4 (g_mi M) a0 x1 0 0 0 0 0).2.2 (g_ml M)
theorem jX9_bothOf {N K : Nat} {M : gM} {a0 : Nat} {x1 : Int32} : Sm M (mX9_bothOf N K M a0 x1) := Sm.wm
def EX9_bothOf (N K : Nat) (M : gM) (a0 : Nat) (x1 : Int32) : Prop := vgME N M K 4 (g_mi M) a0 x1 0 0 0 0 0
theorem tX9_bothOf {N K : Nat} {X : gX} {d mc ms : Nat} {Q : Option Value → gM → Prop} {M : gM} {a0 : Nat} {x1 : Int32} (s0 : Mo M a0) (hE : EX9_bothOf N K M a0 x1) (hQ : Q (some (.int (fX9_bothOf N K M a0 x1))) (mX9_bothOf N K M a0 x1)) : Cn X (d + K + 6) mc ms kX9_bothOf [.ref a0, .int (x1)] M Q := by
  have ih := lpgME (X := X) N M K
  exact ih.2.2.2.2.1 d _ mc ms Q (g_mi M) a0 x1 0 0 0 0 0 rfl s0 hE hQ
def fX9_plainOf (N K : Nat) (M : gM) (a0 : Nat) (x1 : Int32) : Int32 := (wgME N M K 8 (g_mi M) a0 x1 0 0 0 0 0).1
def mX9_plainOf (N K : Nat) (M : gM) (a0 : Nat) (x1 : Int32) : gM := g_wm M (wgME N M K 8 (g_mi M) a0 x1 0 0 0 0 0).2.2 (g_ml M)
theorem jX9_plainOf {N K : Nat} {M : gM} {a0 : Nat} {x1 : Int32} : Sm M (mX9_plainOf N K M a0 x1) := Sm.wm
def EX9_plainOf (N K : Nat) (M : gM) (a0 : Nat) (x1 : Int32) : Prop := vgME N M K 8 (g_mi M) a0 x1 0 0 0 0 0
theorem tX9_plainOf {N K : Nat} {X : gX} {d mc ms : Nat} {Q : Option Value → gM → Prop} {M : gM} {a0 : Nat} {x1 : Int32} (s0 : Mo M a0) (hE : EX9_plainOf N K M a0 x1) (hQ : Q (some (.int (fX9_plainOf N K M a0 x1))) (mX9_plainOf N K M a0 x1)) : Cn X (d + K + 6) mc ms kX9_plainOf [.ref a0, .int (x1)] M Q := by
  have ih := lpgME (X := X) N M K
  exact ih.2.2.2.2.2.2.2.2.1 d _ mc ms Q (g_mi M) a0 x1 0 0 0 0 0 rfl s0 hE hQ
def fX9_positiveOf (N K : Nat) (M : gM) (a0 : Nat) (x1 : Int32) : Int32 := (wgME N M K 11 (g_mi M) a0 x1 0 0 0 0 0).1
def mX9_positiveOf (N K : Nat) (M : gM) (a0 : Nat) (x1 : Int32) : gM := g_wm M (wgME N M K 11 (g_mi M) a0 x1 0 0 0 0 0).2.2 (g_ml M)
theorem jX9_positiveOf {N K : Nat} {M : gM} {a0 : Nat} {x1 : Int32} : Sm M (mX9_positiveOf N K M a0 x1) := Sm.wm
def EX9_positiveOf (N K : Nat) (M : gM) (a0 : Nat) (x1 : Int32) : Prop := vgME N M K 11 (g_mi M) a0 x1 0 0 0 0 0
theorem tX9_positiveOf {N K : Nat} {X : gX} {d mc ms : Nat} {Q : Option Value → gM → Prop} {M : gM} {a0 : Nat} {x1 : Int32} (s0 : Mo M a0) (hE : EX9_positiveOf N K M a0 x1) (hQ : Q (some (.int (fX9_positiveOf N K M a0 x1))) (mX9_positiveOf N K M a0 x1)) : Cn X (d + K + 6) mc ms kX9_positiveOf [.ref a0, .int (x1)] M Q := by
  have ih := lpgME (X := X) N M K
  exact ih.2.2.2.2.2.2.2.2.2.2.2.1 d _ mc ms Q (g_mi M) a0 x1 0 0 0 0 0 rfl s0 hE hQ
def fX9_sumOf (N K : Nat) (M : gM) (a0 : Nat) (x1 : Int32) : Int64 := (wgME N M K 15 (g_mi M) a0 x1 0 0 0 0 0).2.1
def mX9_sumOf (N K : Nat) (M : gM) (a0 : Nat) (x1 : Int32) : gM := g_wm M (wgME N M K 15 (g_mi M) a0 x1 0 0 0 0 0).2.2 (g_ml M)
theorem jX9_sumOf {N K : Nat} {M : gM} {a0 : Nat} {x1 : Int32} : Sm M (mX9_sumOf N K M a0 x1) := Sm.wm
def EX9_sumOf (N K : Nat) (M : gM) (a0 : Nat) (x1 : Int32) : Prop := vgME N M K 15 (g_mi M) a0 x1 0 0 0 0 0
theorem tX9_sumOf {N K : Nat} {X : gX} {d mc ms : Nat} {Q : Option Value → gM → Prop} {M : gM} {a0 : Nat} {x1 : Int32} (s0 : Mo M a0) (hE : EX9_sumOf N K M a0 x1) (hQ : Q (some (.long (fX9_sumOf N K M a0 x1))) (mX9_sumOf N K M a0 x1)) : Cn X (d + K + 6) mc ms kX9_sumOf [.ref a0, .int (x1)] M Q := by
  have ih := lpgME (X := X) N M K
  exact ih.2.2.2.2.2.2.2.2.2.2.2.2.2.2.2.1 d _ mc ms Q (g_mi M) a0 x1 0 0 0 0 0 rfl s0 hE hQ
def fX9_termOf (N K : Nat) (M : gM) (a0 : Nat) (x1 : Int32) : Int64 := (wgME N M K 19 (g_mi M) a0 x1 0 0 0 0 0).2.1
def mX9_termOf (N K : Nat) (M : gM) (a0 : Nat) (x1 : Int32) : gM := g_wm M (wgME N M K 19 (g_mi M) a0 x1 0 0 0 0 0).2.2 (g_ml M)
theorem jX9_termOf {N K : Nat} {M : gM} {a0 : Nat} {x1 : Int32} : Sm M (mX9_termOf N K M a0 x1) := Sm.wm
def EX9_termOf (N K : Nat) (M : gM) (a0 : Nat) (x1 : Int32) : Prop := vgME N M K 19 (g_mi M) a0 x1 0 0 0 0 0
theorem tX9_termOf {N K : Nat} {X : gX} {d mc ms : Nat} {Q : Option Value → gM → Prop} {M : gM} {a0 : Nat} {x1 : Int32} (s0 : Mo M a0) (hE : EX9_termOf N K M a0 x1) (hQ : Q (some (.long (fX9_termOf N K M a0 x1))) (mX9_termOf N K M a0 x1)) : Cn X (d + K + 6) mc ms kX9_termOf [.ref a0, .int (x1)] M Q := by
  have ih := lpgME (X := X) N M K
  exact ih.2.2.2.2.2.2.2.2.2.2.2.2.2.2.2.2.2.2.2.1 d _ mc ms Q (g_mi M) a0 x1 0 0 0 0 0 rfl s0 hE hQ
def fX9_partOf (N K : Nat) (M : gM) (a0 : Nat) (x1 : Int32) : Int64 := (wgME N M K 23 (g_mi M) a0 x1 0 0 0 0 0).2.1
def mX9_partOf (N K : Nat) (M : gM) (a0 : Nat) (x1 : Int32) : gM := g_wm M (wgME N M K 23 (g_mi M) a0 x1 0 0 0 0 0).2.2 (g_ml M)
theorem jX9_partOf {N K : Nat} {M : gM} {a0 : Nat} {x1 : Int32} : Sm M (mX9_partOf N K M a0 x1) := Sm.wm
def EX9_partOf (N K : Nat) (M : gM) (a0 : Nat) (x1 : Int32) : Prop := vgME N M K 23 (g_mi M) a0 x1 0 0 0 0 0
theorem tX9_partOf {N K : Nat} {X : gX} {d mc ms : Nat} {Q : Option Value → gM → Prop} {M : gM} {a0 : Nat} {x1 : Int32} (s0 : Mo M a0) (hE : EX9_partOf N K M a0 x1) (hQ : Q (some (.long (fX9_partOf N K M a0 x1))) (mX9_partOf N K M a0 x1)) : Cn X (d + K + 6) mc ms kX9_partOf [.ref a0, .int (x1)] M Q := by
  have ih := lpgME (X := X) N M K
  exact ih.2.2.2.2.2.2.2.2.2.2.2.2.2.2.2.2.2.2.2.2.2.2.2.1 d _ mc ms Q (g_mi M) a0 x1 0 0 0 0 0 rfl s0 hE hQ
