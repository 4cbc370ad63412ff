/-! X0_keep  -/
set_option maxRecDepth 4000 in
theorem sX0_keep_0 {X : gX} {d mc ms : Nat} {Q : Option Value → gM → Prop} {M : gM} {a0 : Nat} {x1 : Int32} (s0 : Hi M a0) (b1 : vp_in ((fX0_slot M a0 (g_mi M a0 3))) 17) (h2 : (16 ≤ (g_mi (g_wi M (a0 + 2) ((fX0_slot M a0 (g_mi M a0 3))).toNatClampNeg x1) a0 3)) → Q none (g_wi (g_wi M (a0 + 2) ((fX0_slot M a0 (g_mi M a0 3))).toNatClampNeg x1) a0 2 (fX0_slot (g_wi M (a0 + 2) ((fX0_slot M a0 (g_mi M a0 3))).toNatClampNeg x1) a0 1))) (h3 : (¬ 16 ≤ (g_mi (g_wi M (a0 + 2) ((fX0_slot M a0 (g_mi M a0 3))).toNatClampNeg x1) a0 3)) → Q none (g_wi (g_wi M (a0 + 2) ((fX0_slot M a0 (g_mi M a0 3))).toNatClampNeg x1) a0 3 ((g_mi (g_wi M (a0 + 2) ((fX0_slot M a0 (g_mi M a0 3))).toNatClampNeg x1) a0 3) + 1))) : Cn X (d + 1) mc ms kX0_keep [.ref a0, .int (x1)] M Q := by
  refine g_meth rfl rfl (Nat.le_of_ble_eq_true rfl) rfl ?_
  refine g_aload_n 0 1 dX0_keep_0 rfl rfl ?_
  refine g_getR 4 (a0 + 2) dX0_keep_1 rfl flX0_17 s0.1 s0.2.2.2.1 ?_
  refine g_aload_n 0 5 dX0_keep_4 rfl rfl ?_
  refine g_aload_n 0 6 dX0_keep_5 rfl rfl ?_
  refine g_getI 9 dX0_keep_6 rfl flX0_22 s0.1 ?_
  refine g_callV (mc1 := 0) (ms1 := 0) (b := a0) (rest := [.ref (a0 + 2)]) (av := [.int ((g_mi M a0 3))]) kX0_slot 12 dX0_keep_9 rfl rfl mbX0_26 imX0_slot seX0_slot gcl0.1 s0.1 (Nat.le_of_ble_eq_true rfl) (Nat.zero_le _) (Nat.zero_le _) (tX0_slot s0 ?_)
  show Go X (d + 1) mc ms kX0_keep Q 12 [(0, .ref a0), (1, .int (x1))] [.int ((fX0_slot M a0 (g_mi M a0 3))), .ref (a0 + 2)] M 0 0
  refine g_iload_n 1 13 dX0_keep_12 rfl rfl ?_
  refine h_iastore 14 ((fX0_slot M a0 (g_mi M a0 3))).toNatClampNeg dX0_keep_13 rfl rfl s0.2.2.2.2.1 (b1) ?_
  refine g_aload_n 0 15 dX0_keep_14 rfl rfl ?_
  refine g_getI 18 dX0_keep_15 rfl flX0_22 (Sm.k (Sm.wi Sm.rf) s0.1) ?_
  refine g_bipush (16) 20 dX0_keep_18 rfl rfl ?_
  refine g_icmp_ge 36 23 dX0_keep_20 rfl rfl (fun c1 => ?_) (fun c1 => ?_)
  · skip
    refine g_aload_n 0 37 dX0_keep_36 rfl rfl ?_
    refine g_aload_n 0 38 dX0_keep_37 rfl rfl ?_
    refine g_iconst (1) 39 dX0_keep_38 rfl rfl ?_
    refine g_callV (mc1 := 0) (ms1 := 0) (b := a0) (rest := [.ref a0]) (av := [.int (1)]) kX0_slot 42 dX0_keep_39 rfl rfl mbX0_26 imX0_slot seX0_slot gcl0.1 (Sm.k (Sm.wi Sm.rf) s0.1) (Nat.le_of_ble_eq_true rfl) (Nat.zero_le _) (Nat.zero_le _) (tX0_slot (Hi.sm (Sm.wi Sm.rf) s0) ?_)
    show Go X (d + 1) mc ms kX0_keep Q 42 [(0, .ref a0), (1, .int (x1))] [.int ((fX0_slot (g_wi M (a0 + 2) ((fX0_slot M a0 (g_mi M a0 3))).toNatClampNeg x1) a0 1)), .ref a0] (g_wi M (a0 + 2) ((fX0_slot M a0 (g_mi M a0 3))).toNatClampNeg x1) 0 0
    refine g_putI 45 dX0_keep_42 rfl flX0_34 (Sm.k (Sm.wi Sm.rf) s0.1) ?_
    exact g_vret dX0_keep_45 rfl (Nat.zero_le _) (Nat.zero_le _) (h2 c1)
  · skip
    refine g_aload_n 0 24 dX0_keep_23 rfl rfl ?_
    refine g_dup 25 dX0_keep_24 rfl rfl ?_
    refine g_getI 28 dX0_keep_25 rfl flX0_22 (Sm.k (Sm.wi Sm.rf) s0.1) ?_
    refine g_iconst (1) 29 dX0_keep_28 rfl rfl ?_
    refine g_iadd 30 dX0_keep_29 rfl ?_
    refine g_putI 33 dX0_keep_30 rfl flX0_22 (Sm.k (Sm.wi Sm.rf) s0.1) ?_
    refine g_goto 45 dX0_keep_33 rfl ?_
    exact g_vret dX0_keep_45 rfl (Nat.zero_le _) (Nat.zero_le _) (h3 c1)

def mX0_keep (M : gM) (a0 : Nat) (x1 : Int32) : gM := g_wm M (if 16 ≤ (g_mi (g_wi M (a0 + 2) ((fX0_slot M a0 (g_mi M a0 3))).toNatClampNeg x1) a0 3) then (g_mi (g_wi (g_wi M (a0 + 2) ((fX0_slot M a0 (g_mi M a0 3))).toNatClampNeg x1) a0 2 (fX0_slot (g_wi M (a0 + 2) ((fX0_slot M a0 (g_mi M a0 3))).toNatClampNeg x1) a0 1))) else (g_mi (g_wi (g_wi M (a0 + 2) ((fX0_slot M a0 (g_mi M a0 3))).toNatClampNeg x1) a0 3 ((g_mi (g_wi M (a0 + 2) ((fX0_slot M a0 (g_mi M a0 3))).toNatClampNeg x1) a0 3) + 1)))) (g_ml M)
def EX0_keep (M : gM) (a0 : Nat) (x1 : Int32) : Prop := (vp_in ((fX0_slot M a0 (g_mi M a0 3))) 17)
theorem jX0_keep {M : gM} {a0 : Nat} {x1 : Int32} : Sm M (mX0_keep M a0 x1) := Sm.wm
theorem tX0_keep {X : gX} {d mc ms : Nat} {Q : Option Value → gM → Prop} {M : gM} {a0 : Nat} {x1 : Int32} (s0 : Hi M a0) (hE : EX0_keep M a0 x1) (hQ : Q none (mX0_keep M a0 x1)) : Cn X (d + 1) mc ms kX0_keep [.ref a0, .int (x1)] M Q := by
  unfold mX0_keep at hQ
  have b1 := hE
  exact sX0_keep_0 s0 b1 (fun c1 => by simp only [if_pos c1] at hQ; exact Sm.q (Sm.wi (Sm.wi Sm.rf)) hQ) (fun c1 => by simp only [if_neg c1] at hQ; exact Sm.q (Sm.wi (Sm.wi Sm.rf)) hQ)
/-! X1_leavesNone  -/
set_option maxRecDepth 4000 in
theorem sX1_leavesNone_0 {N : Nat} {X : gX} {d mc ms : Nat} {Q : Option Value → gM → Prop} {M : gM} {a0 : Nat} {a1 : Nat} {x2 : Int32} {x3 : Int32} (s0 : Pe M a0) (s1 : St M a1) (h1 : ((3 * x3) < (g_mi M a1 3)) → Q (some (.int (0))) M) (b2 : (¬ (3 * x3) < (g_mi M a1 3)) → EX1_coreSize N M a0 a1 x2 x3) (h3 : (¬ (3 * x3) < (g_mi M a1 3)) → (¬ (fX1_coreSize N M a0 a1 x2 x3) = 0) → Q (some (.int (0))) (mX1_coreSize N M a0 a1 x2 x3)) (h4 : (¬ (3 * x3) < (g_mi M a1 3)) → ((fX1_coreSize N M a0 a1 x2 x3) = 0) → Q (some (.int (1))) (mX1_coreSize N M a0 a1 x2 x3)) : Cn X (d + 3) mc ms kX1_leavesNone [.ref a0, .ref a1, .int (x2), .int (x3)] M Q := by
  refine g_meth rfl rfl (Nat.le_of_ble_eq_true rfl) rfl ?_
  refine g_aload_n 1 1 dX1_leavesNone_0 rfl rfl ?_
  refine g_getI 4 dX1_leavesNone_1 rfl flX1_37 s1.1 ?_
  refine g_iconst (3) 5 dX1_leavesNone_4 rfl rfl ?_
  refine g_iload_n 3 6 dX1_leavesNone_5 rfl rfl ?_
  refine g_imul 7 dX1_leavesNone_6 rfl ?_
  refine g_icmp_gt 24 10 dX1_leavesNone_7 rfl rfl (fun c1 => ?_) (fun c1 => ?_)
  · skip
    refine g_iconst (0) 25 dX1_leavesNone_24 rfl rfl ?_
    exact g_zret dX1_leavesNone_25 rfl (by decide) (Nat.zero_le _) (Nat.zero_le _) (h1 c1)
  · skip
    refine g_aload_n 0 11 dX1_leavesNone_10 rfl rfl ?_
    refine g_aload_n 1 12 dX1_leavesNone_11 rfl rfl ?_
    refine g_iload_n 2 13 dX1_leavesNone_12 rfl rfl ?_
    refine g_iload_n 3 14 dX1_leavesNone_13 rfl rfl ?_
    refine g_callV (mc1 := 0) (ms1 := 0) (b := a0) (rest := []) (av := [.ref a1, .int (x2), .int (x3)]) kX1_coreSize 17 dX1_leavesNone_14 rfl rfl mbX1_43 imX1_coreSize seX1_coreSize gcl1.1 s0.1 (Nat.le_of_ble_eq_true rfl) (Nat.zero_le _) (Nat.zero_le _) (tX1_coreSize (N := N) s0 s1 (b2 c1) ?_)
    show Go X (d + 3) mc ms kX1_leavesNone Q 17 [(0, .ref a0), (1, .ref a1), (2, .int (x2)), (3, .int (x3))] [.int ((fX1_coreSize N M a0 a1 x2 x3))] (mX1_coreSize N M a0 a1 x2 x3) 0 0
    refine g_if_ne 24 20 dX1_leavesNone_17 rfl rfl (fun c2 => ?_) (fun c2 => ?_)
    · skip
      refine g_iconst (0) 25 dX1_leavesNone_24 rfl rfl ?_
      exact g_zret dX1_leavesNone_25 rfl (by decide) (Nat.zero_le _) (Nat.zero_le _) (h3 c1 c2)
    · skip
      refine g_iconst (1) 21 dX1_leavesNone_20 rfl rfl ?_
      refine g_goto 25 dX1_leavesNone_21 rfl ?_
      exact g_zret dX1_leavesNone_25 rfl (by decide) (Nat.zero_le _) (Nat.zero_le _) (h4 c1 c2)

def fX1_leavesNone (N : Nat) (M : gM) (a0 : Nat) (a1 : Nat) (x2 : Int32) (x3 : Int32) : Int32 := (if (3 * x3) < (g_mi M a1 3) then 0 else (if (fX1_coreSize N M a0 a1 x2 x3) = 0 then 1 else 0))
def mX1_leavesNone (N : Nat) (M : gM) (a0 : Nat) (a1 : Nat) (x2 : Int32) (x3 : Int32) : gM := g_wm M (if (3 * x3) < (g_mi M a1 3) then (g_mi M) else (if (fX1_coreSize N M a0 a1 x2 x3) = 0 then (g_mi (mX1_coreSize N M a0 a1 x2 x3)) else (g_mi (mX1_coreSize N M a0 a1 x2 x3)))) (g_ml M)
def EX1_leavesNone (N : Nat) (M : gM) (a0 : Nat) (a1 : Nat) (x2 : Int32) (x3 : Int32) : Prop := ((¬ (3 * x3) < (g_mi M a1 3)) → EX1_coreSize N M a0 a1 x2 x3)
theorem jX1_leavesNone {N : Nat} {M : gM} {a0 : Nat} {a1 : Nat} {x2 : Int32} {x3 : Int32} : Sm M (mX1_leavesNone N M a0 a1 x2 x3) := Sm.wm
theorem tX1_leavesNone {N : Nat} {X : gX} {d mc ms : Nat} {Q : Option Value → gM → Prop} {M : gM} {a0 : Nat} {a1 : Nat} {x2 : Int32} {x3 : Int32} (s0 : Pe M a0) (s1 : St M a1) (hE : EX1_leavesNone N M a0 a1 x2 x3) (hQ : Q (some (.int (fX1_leavesNone N M a0 a1 x2 x3))) (mX1_leavesNone N M a0 a1 x2 x3)) : Cn X (d + 3) mc ms kX1_leavesNone [.ref a0, .ref a1, .int (x2), .int (x3)] M Q := by
  unfold fX1_leavesNone mX1_leavesNone at hQ
  have b2 := hE
  exact sX1_leavesNone_0 s0 s1 (fun c1 => by simp only [if_pos c1] at hQ; exact Sm.q Sm.rf hQ) b2 (fun c1 c2 => by simp only [if_neg c1, if_neg c2] at hQ; exact Sm.q (Sm.tr Sm.rf jX1_coreSize) hQ) (fun c1 c2 => by simp only [if_neg c1, if_pos c2] at hQ; exact Sm.q (Sm.tr Sm.rf jX1_coreSize) hQ)
/-! X2_append  -/
set_option maxRecDepth 4000 in
theorem sX2_append_0 {X : gX} {d mc ms : Nat} {Q : Option Value → gM → Prop} {M : gM} {a0 : Nat} {x1 : Int32} (s0 : Re M a0) (h1 : Go X d mc ms kX2_append Q 3 [(0, .ref a0), (1, .int (x1)), (2, .int (24))] [] M 0 0) : Cn X d mc ms kX2_append [.ref a0, .int (x1)] M Q := by
  refine g_meth rfl rfl (Nat.le_of_ble_eq_true rfl) rfl ?_
  refine g_bipush (24) 2 dX2_append_0 rfl rfl ?_
  refine g_istore_n 3 [(2, .int (24)), (0, .ref a0), (1, .int (x1))] dX2_append_2 rfl (Nat.le_of_ble_eq_true rfl) rfl ?_
  exact g_sub [1, 2, 0] _ rfl (h1)

set_option maxRecDepth 4000 in
theorem sX2_append_3 {X : gX} {d mc ms : Nat} {Q : Option Value → gM → Prop} {M : gM} {c z : Nat} {a0 : Nat} {x1 : Int32} {x2 : Int32} (s0 : Re M a0) (h1 : (x2 < 0) → Q none M) (w2 : c ≤ mc) (w3 : z ≤ ms) (h4 : (¬ x2 < 0) → (400 ≤ (g_mi M a0 5)) → Q none M) (b5 : (¬ x2 < 0) → (¬ 400 ≤ (g_mi M a0 5)) → vp_in ((g_mi M a0 5)) 400) (h6 : (¬ x2 < 0) → (¬ 400 ≤ (g_mi M a0 5)) → Go X d mc ms kX2_append Q 3 [(0, .ref a0), (1, .int (x1)), (2, .int ((x2 + (-8))))] [] (g_wi (g_wi M (a0 + 1) ((g_mi M a0 5)).toNatClampNeg (((((x1 : Int32).toUInt32 >>> ((x2 : Int32).toUInt32 &&& Int32.toUInt32 31)).toInt32)) &&& 255)) a0 5 ((g_mi (g_wi M (a0 + 1) ((g_mi M a0 5)).toNatClampNeg (((((x1 : Int32).toUInt32 >>> ((x2 : Int32).toUInt32 &&& Int32.toUInt32 31)).toInt32)) &&& 255)) a0 5) + 1)) c z) : Go X d mc ms kX2_append Q 3 [(0, .ref a0), (1, .int (x1)), (2, .int (x2))] [] M c z := by
  refine g_iload_n 2 4 dX2_append_3 rfl rfl ?_
  refine g_if_lt 49 7 dX2_append_4 rfl rfl (fun c1 => ?_) (fun c1 => ?_)
  · skip
    exact g_vret dX2_append_49 rfl (w2) (w3) (h1 c1)
  · skip
    refine g_aload_n 0 8 dX2_append_7 rfl rfl ?_
    refine g_getI 11 dX2_append_8 rfl flX2_44 s0.1 ?_
    refine g_sipush (400) 14 dX2_append_11 rfl rfl ?_
    refine g_icmp_ge 49 17 dX2_append_14 rfl rfl (fun c2 => ?_) (fun c2 => ?_)
    · skip
      exact g_vret dX2_append_49 rfl (w2) (w3) (h4 c1 c2)
    · skip
      refine g_aload_n 0 18 dX2_append_17 rfl rfl ?_
      refine g_getR 21 (a0 + 1) dX2_append_18 rfl flX2_9 s0.1 s0.2.1 ?_
      refine g_aload_n 0 22 dX2_append_21 rfl rfl ?_
      refine g_getI 25 dX2_append_22 rfl flX2_44 s0.1 ?_
      refine g_iload_n 1 26 dX2_append_25 rfl rfl ?_
      refine g_iload_n 2 27 dX2_append_26 rfl rfl ?_
      refine g_iushr 28 dX2_append_27 rfl ?_
      refine g_sipush (255) 31 dX2_append_28 rfl rfl ?_
      refine g_iand 32 dX2_append_31 rfl ?_
      refine h_iastore 33 ((g_mi M a0 5)).toNatClampNeg dX2_append_32 rfl rfl s0.2.2.1 (b5 c1 c2) ?_
      refine g_aload_n 0 34 dX2_append_33 rfl rfl ?_
      refine g_dup 35 dX2_append_34 rfl rfl ?_
      refine g_getI 38 dX2_append_35 rfl flX2_44 (Sm.k (Sm.wi Sm.rf) s0.1) ?_
      refine g_iconst (1) 39 dX2_append_38 rfl rfl ?_
      refine g_iadd 40 dX2_append_39 rfl ?_
      refine g_putI 43 dX2_append_40 rfl flX2_44 (Sm.k (Sm.wi Sm.rf) s0.1) ?_
      refine g_iinc _ 2 46 [(2, .int ((x2 + (-8)))), (0, .ref a0), (1, .int (x1))] dX2_append_43 rfl rfl rfl (Nat.le_of_ble_eq_true rfl) rfl ?_
      refine g_goto 3 dX2_append_46 rfl ?_
      exact g_sub [1, 2, 0] _ rfl (h6 c1 c2)

def bX2_append_0 (N : Nat) (M : gM) (a0 : Nat) (x1 : Int32) (k : Nat → (Nat → Nat → Int32) → Nat → Int32 → Int32 → Int32 × (Nat → Nat → Int32)) : Int32 × (Nat → Nat → Int32) := (k 0 (g_mi M) a0 x1 24)
def eX2_append_0 (N : Nat) (M : gM) (a0 : Nat) (x1 : Int32) (k : Nat → (Nat → Nat → Int32) → Nat → Int32 → Int32 → Prop) : Prop := (k 0 (g_mi M) a0 x1 24)
def bX2_append_3 (N : Nat) (M : gM) (f : Nat → Nat → Int32) (a0 : Nat) (x1 : Int32) (x2 : Int32) (k : Nat → (Nat → Nat → Int32) → Nat → Int32 → Int32 → Int32 × (Nat → Nat → Int32)) : Int32 × (Nat → Nat → Int32) := (if x2 < 0 then (0, g_mi (g_wm M f (g_ml M))) else (if 400 ≤ (g_mi (g_wm M f (g_ml M)) a0 5) then (0, g_mi (g_wm M f (g_ml M))) else (k 0 (g_mi (g_wi (g_wi (g_wm M f (g_ml M)) (a0 + 1) ((g_mi (g_wm M f (g_ml M)) a0 5)).toNatClampNeg (((((x1 : Int32).toUInt32 >>> ((x2 : Int32).toUInt32 &&& Int32.toUInt32 31)).toInt32)) &&& 255)) a0 5 ((g_mi (g_wi (g_wm M f (g_ml M)) (a0 + 1) ((g_mi (g_wm M f (g_ml M)) a0 5)).toNatClampNeg (((((x1 : Int32).toUInt32 >>> ((x2 : Int32).toUInt32 &&& Int32.toUInt32 31)).toInt32)) &&& 255)) a0 5) + 1))) a0 x1 (x2 + (-8)))))
def eX2_append_3 (N : Nat) (M : gM) (f : Nat → Nat → Int32) (a0 : Nat) (x1 : Int32) (x2 : Int32) (k : Nat → (Nat → Nat → Int32) → Nat → Int32 → Int32 → Prop) : Prop := ((¬ x2 < 0) → (¬ 400 ≤ (g_mi (g_wm M f (g_ml M)) a0 5)) → vp_in ((g_mi (g_wm M f (g_ml M)) a0 5)) 400) ∧ (if x2 < 0 then True else (if 400 ≤ (g_mi (g_wm M f (g_ml M)) a0 5) then True else (k 0 (g_mi (g_wi (g_wi (g_wm M f (g_ml M)) (a0 + 1) ((g_mi (g_wm M f (g_ml M)) a0 5)).toNatClampNeg (((((x1 : Int32).toUInt32 >>> ((x2 : Int32).toUInt32 &&& Int32.toUInt32 31)).toInt32)) &&& 255)) a0 5 ((g_mi (g_wi (g_wm M f (g_ml M)) (a0 + 1) ((g_mi (g_wm M f (g_ml M)) a0 5)).toNatClampNeg (((((x1 : Int32).toUInt32 >>> ((x2 : Int32).toUInt32 &&& Int32.toUInt32 31)).toInt32)) &&& 255)) a0 5) + 1))) a0 x1 (x2 + (-8)))))
def wX2_append (N : Nat) (M : gM) : Nat → Nat → (Nat → Nat → Int32) → Nat → Int32 → Int32 → Int32 × (Nat → Nat → Int32)
  | 0, _, f, _, _, _ => (0, f)
  | n + 1, h, f, a0, x1, x2 => bX2_append_3 N M f a0 x1 x2 (wX2_append N M n)
def vX2_append (N : Nat) (M : gM) : Nat → Nat → (Nat → Nat → Int32) → Nat → Int32 → Int32 → Prop
  | 0, _, _, _, _, _ => False
  | n + 1, h, f, a0, x1, x2 => eX2_append_3 N M f a0 x1 x2 (vX2_append N M n)
set_option maxRecDepth 10000 in
theorem lpX2_append {X : gX} {d mc ms : Nat} {Q : Option Value → gM → Prop} (N : Nat) (M : gM) : ∀ n : Nat, (∀ (f : Nat → Nat → Int32) (a0 : Nat) (x1 : Int32) (x2 : Int32), Re M a0 → vX2_append N M n 0 f a0 x1 x2 → Q none (g_wm M (wX2_append N M n 0 f a0 x1 x2).2 (g_ml M)) → Go X d mc ms kX2_append Q 3 [(0, .ref a0), (1, .int (x1)), (2, .int (x2))] [] (g_wm M f (g_ml M)) 0 0) := by
  intro n
  induction n with
  | zero => exact fun _ _ _ _ _ h _ => h.elim
  | succ n ih =>
    intro f a0 x1 x2 s0 hT hQ
    rw [vX2_append] at hT
    rw [wX2_append] at hQ
    unfold bX2_append_3 at hQ
    unfold eX2_append_3 at hT
    obtain ⟨b5, hT⟩ := hT
    exact sX2_append_3 (M := (g_wm M f (g_ml M))) (Re.sm Sm.wm s0) (fun c1 => by simp only [if_pos c1] at hQ; exact Sm.q Sm.wm hQ) (Nat.zero_le _) (Nat.zero_le _) (fun c1 c2 => by simp only [if_neg c1, if_pos c2] at hQ; exact Sm.q Sm.wm hQ) b5 (fun c1 c2 => by simp only [if_neg c1, if_neg c2] at hQ hT; exact Sm.g (Sm.tr Sm.wm (Sm.wi (Sm.wi Sm.rf))) (ih _ _ _ _ (s0) hT hQ))
def mX2_append (N : Nat) (M : gM) (a0 : Nat) (x1 : Int32) : gM := g_wm M (bX2_append_0 N M a0 x1 (wX2_append N M N)).2 (g_ml M)
theorem jX2_append {N : Nat} {M : gM} {a0 : Nat} {x1 : Int32} : Sm M (mX2_append N M a0 x1) := Sm.wm
def EX2_append (N : Nat) (M : gM) (a0 : Nat) (x1 : Int32) : Prop := eX2_append_0 N M a0 x1 (vX2_append N M N)
theorem tX2_append {N : Nat} {X : gX} {d mc ms : Nat} {Q : Option Value → gM → Prop} {M : gM} {a0 : Nat} {x1 : Int32} (s0 : Re M a0) (hE : EX2_append N M a0 x1) (hQ : Q none (mX2_append N M a0 x1)) : Cn X d mc ms kX2_append [.ref a0, .int (x1)] M Q := by
  unfold mX2_append at hQ
  unfold bX2_append_0 at hQ
  unfold EX2_append eX2_append_0 at hE
  have hT := hE
  have ih := lpX2_append (X := X) (d := d) (mc := mc) (ms := ms) (Q := Q) N M N
  exact sX2_append_0 s0 (Sm.g Sm.rf (ih _ _ _ _ (s0) hT hQ))
/-! X2_numberBetween  -/
set_option maxRecDepth 4000 in
theorem sX2_numberBetween_0 {X : gX} {d mc ms : Nat} {Q : Option Value → gM → Prop} {M : gM} {a0 : Nat} {x1 : Int32} {x2 : Int32} (s0 : Re M a0) (h1 : Go X (d + 1) mc ms kX2_numberBetween Q 5 [(0, .ref a0), (2, .int (x2)), (3, .int (0)), (4, .int (x1))] [] M 0 0) : Cn X (d + 1) mc ms kX2_numberBetween [.ref a0, .int (x1), .int (x2)] M Q := by
  refine g_meth rfl rfl (Nat.le_of_ble_eq_true rfl) rfl ?_
  refine g_iconst (0) 1 dX2_numberBetween_0 rfl rfl ?_
  refine g_istore_n 2 [(3, .int (0)), (0, .ref a0), (1, .int (x1)), (2, .int (x2))] dX2_numberBetween_1 rfl (Nat.le_of_ble_eq_true rfl) rfl ?_
  refine g_iload_n 2 3 dX2_numberBetween_2 rfl rfl ?_
  refine g_istore 5 [(4, .int (x1)), (3, .int (0)), (0, .ref a0), (1, .int (x1)), (2, .int (x2))] dX2_numberBetween_3 rfl (Nat.le_of_ble_eq_true rfl) rfl ?_
  exact g_sub [2, 4, 1, 0] _ rfl (h1)

set_option maxRecDepth 4000 in
theorem sX2_numberBetween_5 {X : gX} {d mc ms : Nat} {Q : Option Value → gM → Prop} {M : gM} {c z : Nat} {a0 : Nat} {x2 : Int32} {x3 : Int32} {x4 : Int32} (s0 : Re M a0) (h1 : (x2 ≤ x4) → Q (some (.int (x3))) M) (w2 : c ≤ mc) (w3 : z ≤ ms) (b4 : (¬ x2 ≤ x4) → vp_in (x4) 400) (h5 : (¬ x2 ≤ x4) → Go X (d + 1) mc ms kX2_numberBetween Q 5 [(0, .ref a0), (2, .int (x2)), (3, .int ((i_min (((x3 * 10) + (g_mi M (a0 + 1) (x4).toNatClampNeg)) - 48) 1001))), (4, .int ((x4 + 1)))] [] M c z) : Go X (d + 1) mc ms kX2_numberBetween Q 5 [(0, .ref a0), (2, .int (x2)), (3, .int (x3)), (4, .int (x4))] [] M c z := by
  refine g_iload 3 7 dX2_numberBetween_5 rfl rfl ?_
  refine g_iload_n 1 8 dX2_numberBetween_7 rfl rfl ?_
  refine g_icmp_ge 39 11 dX2_numberBetween_8 rfl rfl (fun c1 => ?_) (fun c1 => ?_)
  · skip
    refine g_iload_n 2 40 dX2_numberBetween_39 rfl rfl ?_
    exact g_iret dX2_numberBetween_40 rfl (w2) (w3) (h1 c1)
  · skip
    refine g_iload_n 2 12 dX2_numberBetween_11 rfl rfl ?_
    refine g_bipush (10) 14 dX2_numberBetween_12 rfl rfl ?_
    refine g_imul 15 dX2_numberBetween_14 rfl ?_
    refine g_aload_n 0 16 dX2_numberBetween_15 rfl rfl ?_
    refine g_getR 19 (a0 + 1) dX2_numberBetween_16 rfl flX2_9 s0.1 s0.2.1 ?_
    refine g_iload 3 21 dX2_numberBetween_19 rfl rfl ?_
    refine h_iaload 22 (x4).toNatClampNeg dX2_numberBetween_21 rfl rfl s0.2.2.1 (b4 c1) ?_
    refine g_iadd 23 dX2_numberBetween_22 rfl ?_
    refine g_bipush (48) 25 dX2_numberBetween_23 rfl rfl ?_
    refine g_isub 26 dX2_numberBetween_25 rfl ?_
    refine g_sipush (1001) 29 dX2_numberBetween_26 rfl rfl ?_
    refine h_min 32 dX2_numberBetween_29 rfl mbX2_100 smJ9_min_7cf53 (Nat.le_of_ble_eq_true rfl) (w2) (w3) ?_
    refine g_istore_n 33 [(3, .int ((i_min (((x3 * 10) + (g_mi M (a0 + 1) (x4).toNatClampNeg)) - 48) 1001))), (0, .ref a0), (2, .int (x2)), (4, .int (x4))] dX2_numberBetween_32 rfl (Nat.le_of_ble_eq_true rfl) rfl ?_
    refine g_iinc _ 3 36 [(4, .int ((x4 + 1))), (3, .int ((i_min (((x3 * 10) + (g_mi M (a0 + 1) (x4).toNatClampNeg)) - 48) 1001))), (0, .ref a0), (2, .int (x2))] dX2_numberBetween_33 rfl rfl rfl (Nat.le_of_ble_eq_true rfl) rfl ?_
    refine g_goto 5 dX2_numberBetween_36 rfl ?_
    exact g_sub [2, 3, 1, 0] _ rfl (h5 c1)

def bX2_numberBetween_0 (N : Nat) (M : gM) (a0 : Nat) (x1 : Int32) (x2 : Int32) (k : Nat → Nat → Int32 → Int32 → Int32 → Int32) : Int32 := (k 0 a0 x2 0 x1)
def eX2_numberBetween_0 (N : Nat) (M : gM) (a0 : Nat) (x1 : Int32) (x2 : Int32) (k : Nat → Nat → Int32 → Int32 → Int32 → Prop) : Prop := (k 0 a0 x2 0 x1)
def bX2_numberBetween_5 (N : Nat) (M : gM) (a0 : Nat) (x2 : Int32) (x3 : Int32) (x4 : Int32) (k : Nat → Nat → Int32 → Int32 → Int32 → Int32) : Int32 := (if x2 ≤ x4 then x3 else (k 0 a0 x2 (i_min (((x3 * 10) + (g_mi M (a0 + 1) (x4).toNatClampNeg)) - 48) 1001) (x4 + 1)))
def eX2_numberBetween_5 (N : Nat) (M : gM) (a0 : Nat) (x2 : Int32) (x3 : Int32) (x4 : Int32) (k : Nat → Nat → Int32 → Int32 → Int32 → Prop) : Prop := ((¬ x2 ≤ x4) → vp_in (x4) 400) ∧ (if x2 ≤ x4 then True else (k 0 a0 x2 (i_min (((x3 * 10) + (g_mi M (a0 + 1) (x4).toNatClampNeg)) - 48) 1001) (x4 + 1)))
def wX2_numberBetween (N : Nat) (M : gM) : Nat → Nat → Nat → Int32 → Int32 → Int32 → Int32
  | 0, _, _, _, _, _ => 0
  | n + 1, h, a0, x2, x3, x4 => bX2_numberBetween_5 N M a0 x2 x3 x4 (wX2_numberBetween N M n)
def vX2_numberBetween (N : Nat) (M : gM) : Nat → Nat → Nat → Int32 → Int32 → Int32 → Prop
  | 0, _, _, _, _, _ => False
  | n + 1, h, a0, x2, x3, x4 => eX2_numberBetween_5 N M a0 x2 x3 x4 (vX2_numberBetween N M n)
set_option maxRecDepth 10000 in
theorem lpX2_numberBetween {X : gX} {d mc ms : Nat} {Q : Option Value → gM → Prop} (N : Nat) (M : gM) : ∀ n : Nat, (∀ (a0 : Nat) (x2 : Int32) (x3 : Int32) (x4 : Int32), Re M a0 → vX2_numberBetween N M n 0 a0 x2 x3 x4 → Q (some (.int (wX2_numberBetween N M n 0 a0 x2 x3 x4))) M → Go X (d + 1) mc ms kX2_numberBetween Q 5 [(0, .ref a0), (2, .int (x2)), (3, .int (x3)), (4, .int (x4))] [] M 0 0) := by
  intro n
  induction n with
  | zero => exact fun _ _ _ _ _ h _ => h.elim
  | succ n ih =>
    intro a0 x2 x3 x4 s0 hT hQ
    rw [vX2_numberBetween] at hT
    rw [wX2_numberBetween] at hQ
    unfold bX2_numberBetween_5 at hQ
    unfold eX2_numberBetween_5 at hT
    obtain ⟨b4, hT⟩ := hT
    exact sX2_numberBetween_5 (M := M) s0 (fun c1 => by simp only [if_pos c1] at hQ; exact hQ) (Nat.zero_le _) (Nat.zero_le _) b4 (fun c1 => by simp only [if_neg c1] at hQ hT; exact ih _ _ _ _ (s0) hT hQ)
def fX2_numberBetween (N : Nat) (M : gM) (a0 : Nat) (x1 : Int32) (x2 : Int32) : Int32 := (bX2_numberBetween_0 N M a0 x1 x2 (wX2_numberBetween N M N))
def EX2_numberBetween (N : Nat) (M : gM) (a0 : Nat) (x1 : Int32) (x2 : Int32) : Prop := eX2_numberBetween_0 N M a0 x1 x2 (vX2_numberBetween N M N)
theorem tX2_numberBetween {N : Nat} {X : gX} {d mc ms : Nat} {Q : Option Value → gM → Prop} {M : gM} {a0 : Nat} {x1 : Int32} {x2 : Int32} (s0 : Re M a0) (hE : EX2_numberBetween N M a0 x1 x2) (hQ : Q (some (.int (fX2_numberBetween N M a0 x1 x2))) M) : Cn X (d + 1) mc ms kX2_numberBetween [.ref a0, .int (x1), .int (x2)] M Q := by
  unfold fX2_numberBetween at hQ
  unfold bX2_numberBetween_0 at hQ
  unfold EX2_numberBetween eX2_numberBetween_0 at hE
  have hT := hE
  have ih := lpX2_numberBetween (X := X) (d := d) (mc := mc) (ms := ms) (Q := Q) N M N
  exact sX2_numberBetween_0 s0 (ih _ _ _ _ (s0) hT hQ)
/-! X2_readTimes  -/
set_option maxRecDepth 4000 in
theorem sX2_readTimes_0 {X : gX} {d mc ms : Nat} {Q : Option Value → gM → Prop} {M : gM} {a0 : Nat} {x1 : Int32} (s0 : Re M a0) (b1 : EX2_pass M a0) (b2 : vp_in ((g_mi (mX2_pass M a0) a0 10)) 401) (b3 : ((g_mi (mX2_pass M a0) (a0 + 13) ((g_mi (mX2_pass M a0) a0 10)).toNatClampNeg) < 1) → EX2_fail (mX2_pass M a0) a0) (h4 : ((g_mi (mX2_pass M a0) (a0 + 13) ((g_mi (mX2_pass M a0) a0 10)).toNatClampNeg) < 1) → Q (some (.int ((fX2_fail a0)))) (mX2_fail (mX2_pass M a0) a0)) (b5 : ((g_mi (mX2_pass M a0) (a0 + 13) ((g_mi (mX2_pass M a0) a0 10)).toNatClampNeg) < 1) → (fX2_fail a0) = 0 ∨ (fX2_fail a0) = 1) (b6 : (¬ (g_mi (mX2_pass M a0) (a0 + 13) ((g_mi (mX2_pass M a0) a0 10)).toNatClampNeg) < 1) → vp_in ((g_mi (mX2_pass M a0) a0 10)) 401) (b7 : (¬ (g_mi (mX2_pass M a0) (a0 + 13) ((g_mi (mX2_pass M a0) a0 10)).toNatClampNeg) < 1) → ((g_mi (mX2_pass M a0) (a0 + 13) ((g_mi (mX2_pass M a0) a0 10)).toNatClampNeg) ≤ 20) → vp_in ((g_mi (mX2_pass M a0) a0 10)) 401) (b8 : (¬ (g_mi (mX2_pass M a0) (a0 + 13) ((g_mi (mX2_pass M a0) a0 10)).toNatClampNeg) < 1) → ((g_mi (mX2_pass M a0) (a0 + 13) ((g_mi (mX2_pass M a0) a0 10)).toNatClampNeg) ≤ 20) → vp_in (x1) 12) (b9 : (¬ (g_mi (mX2_pass M a0) (a0 + 13) ((g_mi (mX2_pass M a0) a0 10)).toNatClampNeg) < 1) → ((g_mi (mX2_pass M a0) (a0 + 13) ((g_mi (mX2_pass M a0) a0 10)).toNatClampNeg) ≤ 20) → EX2_pass (g_wi (mX2_pass M a0) ((a0 + 2) + 2) (x1).toNatClampNeg (g_mi (mX2_pass M a0) (a0 + 13) ((g_mi (mX2_pass M a0) a0 10)).toNatClampNeg)) a0) (h10 : (¬ (g_mi (mX2_pass M a0) (a0 + 13) ((g_mi (mX2_pass M a0) a0 10)).toNatClampNeg) < 1) → ((g_mi (mX2_pass M a0) (a0 + 13) ((g_mi (mX2_pass M a0) a0 10)).toNatClampNeg) ≤ 20) → Q (some (.int (1))) (mX2_pass (g_wi (mX2_pass M a0) ((a0 + 2) + 2) (x1).toNatClampNeg (g_mi (mX2_pass M a0) (a0 + 13) ((g_mi (mX2_pass M a0) a0 10)).toNatClampNeg)) a0)) (b11 : (¬ (g_mi (mX2_pass M a0) (a0 + 13) ((g_mi (mX2_pass M a0) a0 10)).toNatClampNeg) < 1) → (¬ (g_mi (mX2_pass M a0) (a0 + 13) ((g_mi (mX2_pass M a0) a0 10)).toNatClampNeg) ≤ 20) → EX2_fail (mX2_pass M a0) a0) (h12 : (¬ (g_mi (mX2_pass M a0) (a0 + 13) ((g_mi (mX2_pass M a0) a0 10)).toNatClampNeg) < 1) → (¬ (g_mi (mX2_pass M a0) (a0 + 13) ((g_mi (mX2_pass M a0) a0 10)).toNatClampNeg) ≤ 20) → Q (some (.int ((fX2_fail a0)))) (mX2_fail (mX2_pass M a0) a0)) (b13 : (¬ (g_mi (mX2_pass M a0) (a0 + 13) ((g_mi (mX2_pass M a0) a0 10)).toNatClampNeg) < 1) → (¬ (g_mi (mX2_pass M a0) (a0 + 13) ((g_mi (mX2_pass M a0) a0 10)).toNatClampNeg) ≤ 20) → (fX2_fail a0) = 0 ∨ (fX2_fail a0) = 1) : Cn X (d + 1) mc ms kX2_readTimes [.ref a0, .int (x1)] M Q := by
  refine g_meth rfl rfl (Nat.le_of_ble_eq_true rfl) rfl ?_
  refine g_aload_n 0 1 dX2_readTimes_0 rfl rfl ?_
  refine g_callV (mc1 := 0) (ms1 := 0) (b := a0) (rest := []) (av := []) kX2_pass 4 dX2_readTimes_1 rfl rfl mbX2_111 imX2_pass seX2_pass gcl2.1 s0.1 (Nat.le_of_ble_eq_true rfl) (Nat.zero_le _) (Nat.zero_le _) (tX2_pass s0 (b1) ?_)
  show Go X (d + 1) mc ms kX2_readTimes Q 4 [(0, .ref a0), (1, .int (x1))] [] (mX2_pass M a0) 0 0
  refine g_aload_n 0 5 dX2_readTimes_4 rfl rfl ?_
  refine g_getR 8 (a0 + 13) dX2_readTimes_5 rfl flX2_41 (Sm.k (Sm.tr Sm.rf jX2_pass) s0.1) (Sm.r (Sm.tr Sm.rf jX2_pass) s0.2.2.2.2.2.2.2.2.2.2.2.2.2.1) ?_
  refine g_aload_n 0 9 dX2_readTimes_8 rfl rfl ?_
  refine g_getI 12 dX2_readTimes_9 rfl flX2_50 (Sm.k (Sm.tr Sm.rf jX2_pass) s0.1) ?_
  refine h_iaload 13 ((g_mi (mX2_pass M a0) a0 10)).toNatClampNeg dX2_readTimes_12 rfl rfl (Sm.k (Sm.tr Sm.rf jX2_pass) s0.2.2.2.2.2.2.2.2.2.2.2.2.2.2) (b2) ?_
  refine g_iconst (1) 14 dX2_readTimes_13 rfl rfl ?_
  refine g_icmp_lt 31 17 dX2_readTimes_14 rfl rfl (fun c1 => ?_) (fun c1 => ?_)
  · skip
    refine g_aload_n 0 32 dX2_readTimes_31 rfl rfl ?_
    refine g_callV (mc1 := 0) (ms1 := 0) (b := a0) (rest := []) (av := []) kX2_fail 35 dX2_readTimes_32 rfl rfl mbX2_74 imX2_fail seX2_fail gcl2.1 (Sm.k (Sm.tr Sm.rf jX2_pass) s0.1) (Nat.le_of_ble_eq_true rfl) (Nat.zero_le _) (Nat.zero_le _) (tX2_fail (Re.sm (Sm.tr Sm.rf jX2_pass) s0) (b3 c1) ?_)
    show Go X (d + 1) mc ms kX2_readTimes Q 35 [(0, .ref a0), (1, .int (x1))] [.int ((fX2_fail a0))] (mX2_fail (mX2_pass M a0) a0) 0 0
    exact g_zret dX2_readTimes_35 rfl (b5 c1) (Nat.zero_le _) (Nat.zero_le _) (h4 c1)
  · skip
    refine g_aload_n 0 18 dX2_readTimes_17 rfl rfl ?_
    refine g_getR 21 (a0 + 13) dX2_readTimes_18 rfl flX2_41 (Sm.k (Sm.tr Sm.rf jX2_pass) s0.1) (Sm.r (Sm.tr Sm.rf jX2_pass) s0.2.2.2.2.2.2.2.2.2.2.2.2.2.1) ?_
    refine g_aload_n 0 22 dX2_readTimes_21 rfl rfl ?_
    refine g_getI 25 dX2_readTimes_22 rfl flX2_50 (Sm.k (Sm.tr Sm.rf jX2_pass) s0.1) ?_
    refine h_iaload 26 ((g_mi (mX2_pass M a0) a0 10)).toNatClampNeg dX2_readTimes_25 rfl rfl (Sm.k (Sm.tr Sm.rf jX2_pass) s0.2.2.2.2.2.2.2.2.2.2.2.2.2.2) (b6 c1) ?_
    refine g_bipush (20) 28 dX2_readTimes_26 rfl rfl ?_
    refine g_icmp_le 36 31 dX2_readTimes_28 rfl rfl (fun c2 => ?_) (fun c2 => ?_)
    · skip
      refine g_aload_n 0 37 dX2_readTimes_36 rfl rfl ?_
      refine g_getR 40 (a0 + 2) dX2_readTimes_37 rfl flX2_20 (Sm.k (Sm.tr Sm.rf jX2_pass) s0.1) (Sm.r (Sm.tr Sm.rf jX2_pass) s0.2.2.2.1) ?_
      refine g_getR 43 ((a0 + 2) + 2) dX2_readTimes_40 rfl flX2_117 (Sm.k (Sm.tr Sm.rf jX2_pass) s0.2.2.2.2.1.1) (Sm.r (Sm.tr Sm.rf jX2_pass) s0.2.2.2.2.1.2.2.2.1) ?_
      refine g_iload_n 1 44 dX2_readTimes_43 rfl rfl ?_
      refine g_aload_n 0 45 dX2_readTimes_44 rfl rfl ?_
      refine g_getR 48 (a0 + 13) dX2_readTimes_45 rfl flX2_41 (Sm.k (Sm.tr Sm.rf jX2_pass) s0.1) (Sm.r (Sm.tr Sm.rf jX2_pass) s0.2.2.2.2.2.2.2.2.2.2.2.2.2.1) ?_
      refine g_aload_n 0 49 dX2_readTimes_48 rfl rfl ?_
      refine g_getI 52 dX2_readTimes_49 rfl flX2_50 (Sm.k (Sm.tr Sm.rf jX2_pass) s0.1) ?_
      refine h_iaload 53 ((g_mi (mX2_pass M a0) a0 10)).toNatClampNeg dX2_readTimes_52 rfl rfl (Sm.k (Sm.tr Sm.rf jX2_pass) s0.2.2.2.2.2.2.2.2.2.2.2.2.2.2) (b7 c1 c2) ?_
      refine h_iastore 54 (x1).toNatClampNeg dX2_readTimes_53 rfl rfl (Sm.k (Sm.tr Sm.rf jX2_pass) s0.2.2.2.2.1.2.2.2.2.1) (b8 c1 c2) ?_
      refine g_aload_n 0 55 dX2_readTimes_54 rfl rfl ?_
      refine g_callV (mc1 := 0) (ms1 := 0) (b := a0) (rest := []) (av := []) kX2_pass 58 dX2_readTimes_55 rfl rfl mbX2_111 imX2_pass seX2_pass gcl2.1 (Sm.k (Sm.wi (Sm.tr Sm.rf jX2_pass)) s0.1) (Nat.le_of_ble_eq_true rfl) (Nat.zero_le _) (Nat.zero_le _) (tX2_pass (Re.sm (Sm.wi (Sm.tr Sm.rf jX2_pass)) s0) (b9 c1 c2) ?_)
      show Go X (d + 1) mc ms kX2_readTimes Q 58 [(0, .ref a0), (1, .int (x1))] [] (mX2_pass (g_wi (mX2_pass M a0) ((a0 + 2) + 2) (x1).toNatClampNeg (g_mi (mX2_pass M a0) (a0 + 13) ((g_mi (mX2_pass M a0) a0 10)).toNatClampNeg)) a0) 0 0
      refine g_iconst (1) 59 dX2_readTimes_58 rfl rfl ?_
      exact g_zret dX2_readTimes_59 rfl (by decide) (Nat.zero_le _) (Nat.zero_le _) (h10 c1 c2)
    · skip
      refine g_aload_n 0 32 dX2_readTimes_31 rfl rfl ?_
      refine g_callV (mc1 := 0) (ms1 := 0) (b := a0) (rest := []) (av := []) kX2_fail 35 dX2_readTimes_32 rfl rfl mbX2_74 imX2_fail seX2_fail gcl2.1 (Sm.k (Sm.tr Sm.rf jX2_pass) s0.1) (Nat.le_of_ble_eq_true rfl) (Nat.zero_le _) (Nat.zero_le _) (tX2_fail (Re.sm (Sm.tr Sm.rf jX2_pass) s0) (b11 c1 c2) ?_)
      show Go X (d + 1) mc ms kX2_readTimes Q 35 [(0, .ref a0), (1, .int (x1))] [.int ((fX2_fail a0))] (mX2_fail (mX2_pass M a0) a0) 0 0
      exact g_zret dX2_readTimes_35 rfl (b13 c1 c2) (Nat.zero_le _) (Nat.zero_le _) (h12 c1 c2)

def fX2_readTimes (M : gM) (a0 : Nat) (x1 : Int32) : Int32 := (if (g_mi (mX2_pass M a0) (a0 + 13) ((g_mi (mX2_pass M a0) a0 10)).toNatClampNeg) < 1 then (fX2_fail a0) else (if (g_mi (mX2_pass M a0) (a0 + 13) ((g_mi (mX2_pass M a0) a0 10)).toNatClampNeg) ≤ 20 then 1 else (fX2_fail a0)))
def mX2_readTimes (M : gM) (a0 : Nat) (x1 : Int32) : gM := g_wm M (if (g_mi (mX2_pass M a0) (a0 + 13) ((g_mi (mX2_pass M a0) a0 10)).toNatClampNeg) < 1 then (g_mi (mX2_fail (mX2_pass M a0) a0)) else (if (g_mi (mX2_pass M a0) (a0 + 13) ((g_mi (mX2_pass M a0) a0 10)).toNatClampNeg) ≤ 20 then (g_mi (mX2_pass (g_wi (mX2_pass M a0) ((a0 + 2) + 2) (x1).toNatClampNeg (g_mi (mX2_pass M a0) (a0 + 13) ((g_mi (mX2_pass M a0) a0 10)).toNatClampNeg)) a0)) else (g_mi (mX2_fail (mX2_pass M a0) a0)))) (g_ml M)
def EX2_readTimes (M : gM) (a0 : Nat) (x1 : Int32) : Prop := (EX2_pass M a0) ∧ (vp_in ((g_mi (mX2_pass M a0) a0 10)) 401) ∧ (((g_mi (mX2_pass M a0) (a0 + 13) ((g_mi (mX2_pass M a0) a0 10)).toNatClampNeg) < 1) → EX2_fail (mX2_pass M a0) a0) ∧ (((g_mi (mX2_pass M a0) (a0 + 13) ((g_mi (mX2_pass M a0) a0 10)).toNatClampNeg) < 1) → (fX2_fail a0) = 0 ∨ (fX2_fail a0) = 1) ∧ ((¬ (g_mi (mX2_pass M a0) (a0 + 13) ((g_mi (mX2_pass M a0) a0 10)).toNatClampNeg) < 1) → vp_in ((g_mi (mX2_pass M a0) a0 10)) 401) ∧ ((¬ (g_mi (mX2_pass M a0) (a0 + 13) ((g_mi (mX2_pass M a0) a0 10)).toNatClampNeg) < 1) → ((g_mi (mX2_pass M a0) (a0 + 13) ((g_mi (mX2_pass M a0) a0 10)).toNatClampNeg) ≤ 20) → vp_in ((g_mi (mX2_pass M a0) a0 10)) 401) ∧ ((¬ (g_mi (mX2_pass M a0) (a0 + 13) ((g_mi (mX2_pass M a0) a0 10)).toNatClampNeg) < 1) → ((g_mi (mX2_pass M a0) (a0 + 13) ((g_mi (mX2_pass M a0) a0 10)).toNatClampNeg) ≤ 20) → vp_in (x1) 12) ∧ ((¬ (g_mi (mX2_pass M a0) (a0 + 13) ((g_mi (mX2_pass M a0) a0 10)).toNatClampNeg) < 1) → ((g_mi (mX2_pass M a0) (a0 + 13) ((g_mi (mX2_pass M a0) a0 10)).toNatClampNeg) ≤ 20) → EX2_pass (g_wi (mX2_pass M a0) ((a0 + 2) + 2) (x1).toNatClampNeg (g_mi (mX2_pass M a0) (a0 + 13) ((g_mi (mX2_pass M a0) a0 10)).toNatClampNeg)) a0) ∧ ((¬ (g_mi (mX2_pass M a0) (a0 + 13) ((g_mi (mX2_pass M a0) a0 10)).toNatClampNeg) < 1) → (¬ (g_mi (mX2_pass M a0) (a0 + 13) ((g_mi (mX2_pass M a0) a0 10)).toNatClampNeg) ≤ 20) → EX2_fail (mX2_pass M a0) a0) ∧ ((¬ (g_mi (mX2_pass M a0) (a0 + 13) ((g_mi (mX2_pass M a0) a0 10)).toNatClampNeg) < 1) → (¬ (g_mi (mX2_pass M a0) (a0 + 13) ((g_mi (mX2_pass M a0) a0 10)).toNatClampNeg) ≤ 20) → (fX2_fail a0) = 0 ∨ (fX2_fail a0) = 1)
theorem jX2_readTimes {M : gM} {a0 : Nat} {x1 : Int32} : Sm M (mX2_readTimes M a0 x1) := Sm.wm
theorem tX2_readTimes {X : gX} {d mc ms : Nat} {Q : Option Value → gM → Prop} {M : gM} {a0 : Nat} {x1 : Int32} (s0 : Re M a0) (hE : EX2_readTimes M a0 x1) (hQ : Q (some (.int (fX2_readTimes M a0 x1))) (mX2_readTimes M a0 x1)) : Cn X (d + 1) mc ms kX2_readTimes [.ref a0, .int (x1)] M Q := by
  unfold fX2_readTimes mX2_readTimes at hQ
  obtain ⟨b1, b2, b3, b5, b6, b7, b8, b9, b11, b13⟩ := hE
  exact sX2_readTimes_0 s0 b1 b2 b3 (fun c1 => by simp only [if_pos c1] at hQ; exact Sm.q (Sm.tr (Sm.tr Sm.rf jX2_pass) jX2_fail) hQ) b5 b6 b7 b8 b9 (fun c1 c2 => by simp only [if_neg c1, if_pos c2] at hQ; exact Sm.q (Sm.tr (Sm.wi (Sm.tr Sm.rf jX2_pass)) jX2_pass) hQ) b11 (fun c1 c2 => by simp only [if_neg c1, if_neg c2] at hQ; exact Sm.q (Sm.tr (Sm.tr Sm.rf jX2_pass) jX2_fail) hQ) b13
/-! X2_readLookup  -/
set_option maxRecDepth 4000 in
theorem sX2_readLookup_0 {X : gX} {d mc ms : Nat} {Q : Option Value → gM → Prop} {M : gM} {a0 : Nat} {x1 : Int32} (s0 : Re M a0) (b1 : EX2_pass M a0) (b2 : (x1 = 0) → vp_in ((g_mi (mX2_pass M a0) a0 10)) 401) (b3 : (x1 = 0) → ((g_mi (mX2_pass M a0) (a0 + 13) ((g_mi (mX2_pass M a0) a0 10)).toNatClampNeg) < 0) → EX2_fail (mX2_pass M a0) a0) (h4 : (x1 = 0) → ((g_mi (mX2_pass M a0) (a0 + 13) ((g_mi (mX2_pass M a0) a0 10)).toNatClampNeg) < 0) → Q (some (.int ((fX2_fail a0)))) (mX2_fail (mX2_pass M a0) a0)) (b5 : (x1 = 0) → ((g_mi (mX2_pass M a0) (a0 + 13) ((g_mi (mX2_pass M a0) a0 10)).toNatClampNeg) < 0) → (fX2_fail a0) = 0 ∨ (fX2_fail a0) = 1) (b6 : (x1 = 0) → (¬ (g_mi (mX2_pass M a0) (a0 + 13) ((g_mi (mX2_pass M a0) a0 10)).toNatClampNeg) < 0) → vp_in ((g_mi (mX2_pass M a0) a0 10)) 401) (b7 : (x1 = 0) → (¬ (g_mi (mX2_pass M a0) (a0 + 13) ((g_mi (mX2_pass M a0) a0 10)).toNatClampNeg) < 0) → (999 < (g_mi (mX2_pass M a0) (a0 + 13) ((g_mi (mX2_pass M a0) a0 10)).toNatClampNeg)) → EX2_fail (mX2_pass M a0) a0) (h8 : (x1 = 0) → (¬ (g_mi (mX2_pass M a0) (a0 + 13) ((g_mi (mX2_pass M a0) a0 10)).toNatClampNeg) < 0) → (999 < (g_mi (mX2_pass M a0) (a0 + 13) ((g_mi (mX2_pass M a0) a0 10)).toNatClampNeg)) → Q (some (.int ((fX2_fail a0)))) (mX2_fail (mX2_pass M a0) a0)) (b9 : (x1 = 0) → (¬ (g_mi (mX2_pass M a0) (a0 + 13) ((g_mi (mX2_pass M a0) a0 10)).toNatClampNeg) < 0) → (999 < (g_mi (mX2_pass M a0) (a0 + 13) ((g_mi (mX2_pass M a0) a0 10)).toNatClampNeg)) → (fX2_fail a0) = 0 ∨ (fX2_fail a0) = 1) (b10 : (x1 = 0) → (¬ (g_mi (mX2_pass M a0) (a0 + 13) ((g_mi (mX2_pass M a0) a0 10)).toNatClampNeg) < 0) → (¬ 999 < (g_mi (mX2_pass M a0) (a0 + 13) ((g_mi (mX2_pass M a0) a0 10)).toNatClampNeg)) → ((g_mi (mX2_pass M a0) a0 4) < 50) → vp_in ((g_mi (mX2_pass M a0) a0 10)) 401) (b11 : (x1 = 0) → (¬ (g_mi (mX2_pass M a0) (a0 + 13) ((g_mi (mX2_pass M a0) a0 10)).toNatClampNeg) < 0) → (¬ 999 < (g_mi (mX2_pass M a0) (a0 + 13) ((g_mi (mX2_pass M a0) a0 10)).toNatClampNeg)) → ((g_mi (mX2_pass M a0) a0 4) < 50) → vp_in ((g_mi (mX2_pass M a0) a0 4)) 50) (b12 : (x1 = 0) → (¬ (g_mi (mX2_pass M a0) (a0 + 13) ((g_mi (mX2_pass M a0) a0 10)).toNatClampNeg) < 0) → (¬ 999 < (g_mi (mX2_pass M a0) (a0 + 13) ((g_mi (mX2_pass M a0) a0 10)).toNatClampNeg)) → ((g_mi (mX2_pass M a0) a0 4) < 50) → vp_in ((g_mi (g_wi (mX2_pass M a0) (a0 + 9) ((g_mi (mX2_pass M a0) a0 4)).toNatClampNeg (g_mi (mX2_pass M a0) (a0 + 13) ((g_mi (mX2_pass M a0) a0 10)).toNatClampNeg)) a0 4)) 50) (b13 : (x1 = 0) → (¬ (g_mi (mX2_pass M a0) (a0 + 13) ((g_mi (mX2_pass M a0) a0 10)).toNatClampNeg) < 0) → (¬ 999 < (g_mi (mX2_pass M a0) (a0 + 13) ((g_mi (mX2_pass M a0) a0 10)).toNatClampNeg)) → ((g_mi (mX2_pass M a0) a0 4) < 50) → x1 = 0 ∨ x1 = 1) (b14 : (x1 = 0) → (¬ (g_mi (mX2_pass M a0) (a0 + 13) ((g_mi (mX2_pass M a0) a0 10)).toNatClampNeg) < 0) → (¬ 999 < (g_mi (mX2_pass M a0) (a0 + 13) ((g_mi (mX2_pass M a0) a0 10)).toNatClampNeg)) → ((g_mi (mX2_pass M a0) a0 4) < 50) → EX6_put (g_wi (g_wi (mX2_pass M a0) (a0 + 9) ((g_mi (mX2_pass M a0) a0 4)).toNatClampNeg (g_mi (mX2_pass M a0) (a0 + 13) ((g_mi (mX2_pass M a0) a0 10)).toNatClampNeg)) (a0 + 10) ((g_mi (g_wi (mX2_pass M a0) (a0 + 9) ((g_mi (mX2_pass M a0) a0 4)).toNatClampNeg (g_mi (mX2_pass M a0) (a0 + 13) ((g_mi (mX2_pass M a0) a0 10)).toNatClampNeg)) a0 4)).toNatClampNeg x1) (a0 + 2) 12 460 2 (10 + (g_mi (g_wi (g_wi (mX2_pass M a0) (a0 + 9) ((g_mi (mX2_pass M a0) a0 4)).toNatClampNeg (g_mi (mX2_pass M a0) (a0 + 13) ((g_mi (mX2_pass M a0) a0 10)).toNatClampNeg)) (a0 + 10) ((g_mi (g_wi (mX2_pass M a0) (a0 + 9) ((g_mi (mX2_pass M a0) a0 4)).toNatClampNeg (g_mi (mX2_pass M a0) (a0 + 13) ((g_mi (mX2_pass M a0) a0 10)).toNatClampNeg)) a0 4)).toNatClampNeg x1) a0 4))) (b15 : (x1 = 0) → (¬ (g_mi (mX2_pass M a0) (a0 + 13) ((g_mi (mX2_pass M a0) a0 10)).toNatClampNeg) < 0) → (¬ 999 < (g_mi (mX2_pass M a0) (a0 + 13) ((g_mi (mX2_pass M a0) a0 10)).toNatClampNeg)) → ((g_mi (mX2_pass M a0) a0 4) < 50) → EX2_pass (g_wi (mX6_put (g_wi (g_wi (mX2_pass M a0) (a0 + 9) ((g_mi (mX2_pass M a0) a0 4)).toNatClampNeg (g_mi (mX2_pass M a0) (a0 + 13) ((g_mi (mX2_pass M a0) a0 10)).toNatClampNeg)) (a0 + 10) ((g_mi (g_wi (mX2_pass M a0) (a0 + 9) ((g_mi (mX2_pass M a0) a0 4)).toNatClampNeg (g_mi (mX2_pass M a0) (a0 + 13) ((g_mi (mX2_pass M a0) a0 10)).toNatClampNeg)) a0 4)).toNatClampNeg x1) (a0 + 2) 12 460 2 (10 + (g_mi (g_wi (g_wi (mX2_pass M a0) (a0 + 9) ((g_mi (mX2_pass M a0) a0 4)).toNatClampNeg (g_mi (mX2_pass M a0) (a0 + 13) ((g_mi (mX2_pass M a0) a0 10)).toNatClampNeg)) (a0 + 10) ((g_mi (g_wi (mX2_pass M a0) (a0 + 9) ((g_mi (mX2_pass M a0) a0 4)).toNatClampNeg (g_mi (mX2_pass M a0) (a0 + 13) ((g_mi (mX2_pass M a0) a0 10)).toNatClampNeg)) a0 4)).toNatClampNeg x1) a0 4))) a0 4 ((g_mi (mX6_put (g_wi (g_wi (mX2_pass M a0) (a0 + 9) ((g_mi (mX2_pass M a0) a0 4)).toNatClampNeg (g_mi (mX2_pass M a0) (a0 + 13) ((g_mi (mX2_pass M a0) a0 10)).toNatClampNeg)) (a0 + 10) ((g_mi (g_wi (mX2_pass M a0) (a0 + 9) ((g_mi (mX2_pass M a0) a0 4)).toNatClampNeg (g_mi (mX2_pass M a0) (a0 + 13) ((g_mi (mX2_pass M a0) a0 10)).toNatClampNeg)) a0 4)).toNatClampNeg x1) (a0 + 2) 12 460 2 (10 + (g_mi (g_wi (g_wi (mX2_pass M a0) (a0 + 9) ((g_mi (mX2_pass M a0) a0 4)).toNatClampNeg (g_mi (mX2_pass M a0) (a0 + 13) ((g_mi (mX2_pass M a0) a0 10)).toNatClampNeg)) (a0 + 10) ((g_mi (g_wi (mX2_pass M a0) (a0 + 9) ((g_mi (mX2_pass M a0) a0 4)).toNatClampNeg (g_mi (mX2_pass M a0) (a0 + 13) ((g_mi (mX2_pass M a0) a0 10)).toNatClampNeg)) a0 4)).toNatClampNeg x1) a0 4))) a0 4) + 1)) a0) (h16 : (x1 = 0) → (¬ (g_mi (mX2_pass M a0) (a0 + 13) ((g_mi (mX2_pass M a0) a0 10)).toNatClampNeg) < 0) → (¬ 999 < (g_mi (mX2_pass M a0) (a0 + 13) ((g_mi (mX2_pass M a0) a0 10)).toNatClampNeg)) → ((g_mi (mX2_pass M a0) a0 4) < 50) → Q (some (.int (1))) (mX2_pass (g_wi (mX6_put (g_wi (g_wi (mX2_pass M a0) (a0 + 9) ((g_mi (mX2_pass M a0) a0 4)).toNatClampNeg (g_mi (mX2_pass M a0) (a0 + 13) ((g_mi (mX2_pass M a0) a0 10)).toNatClampNeg)) (a0 + 10) ((g_mi (g_wi (mX2_pass M a0) (a0 + 9) ((g_mi (mX2_pass M a0) a0 4)).toNatClampNeg (g_mi (mX2_pass M a0) (a0 + 13) ((g_mi (mX2_pass M a0) a0 10)).toNatClampNeg)) a0 4)).toNatClampNeg x1) (a0 + 2) 12 460 2 (10 + (g_mi (g_wi (g_wi (mX2_pass M a0) (a0 + 9) ((g_mi (mX2_pass M a0) a0 4)).toNatClampNeg (g_mi (mX2_pass M a0) (a0 + 13) ((g_mi (mX2_pass M a0) a0 10)).toNatClampNeg)) (a0 + 10) ((g_mi (g_wi (mX2_pass M a0) (a0 + 9) ((g_mi (mX2_pass M a0) a0 4)).toNatClampNeg (g_mi (mX2_pass M a0) (a0 + 13) ((g_mi (mX2_pass M a0) a0 10)).toNatClampNeg)) a0 4)).toNatClampNeg x1) a0 4))) a0 4 ((g_mi (mX6_put (g_wi (g_wi (mX2_pass M a0) (a0 + 9) ((g_mi (mX2_pass M a0) a0 4)).toNatClampNeg (g_mi (mX2_pass M a0) (a0 + 13) ((g_mi (mX2_pass M a0) a0 10)).toNatClampNeg)) (a0 + 10) ((g_mi (g_wi (mX2_pass M a0) (a0 + 9) ((g_mi (mX2_pass M a0) a0 4)).toNatClampNeg (g_mi (mX2_pass M a0) (a0 + 13) ((g_mi (mX2_pass M a0) a0 10)).toNatClampNeg)) a0 4)).toNatClampNeg x1) (a0 + 2) 12 460 2 (10 + (g_mi (g_wi (g_wi (mX2_pass M a0) (a0 + 9) ((g_mi (mX2_pass M a0) a0 4)).toNatClampNeg (g_mi (mX2_pass M a0) (a0 + 13) ((g_mi (mX2_pass M a0) a0 10)).toNatClampNeg)) (a0 + 10) ((g_mi (g_wi (mX2_pass M a0) (a0 + 9) ((g_mi (mX2_pass M a0) a0 4)).toNatClampNeg (g_mi (mX2_pass M a0) (a0 + 13) ((g_mi (mX2_pass M a0) a0 10)).toNatClampNeg)) a0 4)).toNatClampNeg x1) a0 4))) a0 4) + 1)) a0)) (b17 : (x1 = 0) → (¬ (g_mi (mX2_pass M a0) (a0 + 13) ((g_mi (mX2_pass M a0) a0 10)).toNatClampNeg) < 0) → (¬ 999 < (g_mi (mX2_pass M a0) (a0 + 13) ((g_mi (mX2_pass M a0) a0 10)).toNatClampNeg)) → (¬ (g_mi (mX2_pass M a0) a0 4) < 50) → EX2_fail (mX2_pass M a0) a0) (h18 : (x1 = 0) → (¬ (g_mi (mX2_pass M a0) (a0 + 13) ((g_mi (mX2_pass M a0) a0 10)).toNatClampNeg) < 0) → (¬ 999 < (g_mi (mX2_pass M a0) (a0 + 13) ((g_mi (mX2_pass M a0) a0 10)).toNatClampNeg)) → (¬ (g_mi (mX2_pass M a0) a0 4) < 50) → Q (some (.int ((fX2_fail a0)))) (mX2_fail (mX2_pass M a0) a0)) (b19 : (x1 = 0) → (¬ (g_mi (mX2_pass M a0) (a0 + 13) ((g_mi (mX2_pass M a0) a0 10)).toNatClampNeg) < 0) → (¬ 999 < (g_mi (mX2_pass M a0) (a0 + 13) ((g_mi (mX2_pass M a0) a0 10)).toNatClampNeg)) → (¬ (g_mi (mX2_pass M a0) a0 4) < 50) → (fX2_fail a0) = 0 ∨ (fX2_fail a0) = 1) (b20 : (¬ x1 = 0) → vp_in ((g_mi (mX2_pass M a0) a0 10)) 401) (b21 : (¬ x1 = 0) → ((g_mi (mX2_pass M a0) (a0 + 13) ((g_mi (mX2_pass M a0) a0 10)).toNatClampNeg) < 0) → EX2_fail (mX2_pass M a0) a0) (h22 : (¬ x1 = 0) → ((g_mi (mX2_pass M a0) (a0 + 13) ((g_mi (mX2_pass M a0) a0 10)).toNatClampNeg) < 0) → Q (some (.int ((fX2_fail a0)))) (mX2_fail (mX2_pass M a0) a0)) (b23 : (¬ x1 = 0) → ((g_mi (mX2_pass M a0) (a0 + 13) ((g_mi (mX2_pass M a0) a0 10)).toNatClampNeg) < 0) → (fX2_fail a0) = 0 ∨ (fX2_fail a0) = 1) (b24 : (¬ x1 = 0) → (¬ (g_mi (mX2_pass M a0) (a0 + 13) ((g_mi (mX2_pass M a0) a0 10)).toNatClampNeg) < 0) → vp_in ((g_mi (mX2_pass M a0) a0 10)) 401) (b25 : (¬ x1 = 0) → (¬ (g_mi (mX2_pass M a0) (a0 + 13) ((g_mi (mX2_pass M a0) a0 10)).toNatClampNeg) < 0) → (59 < (g_mi (mX2_pass M a0) (a0 + 13) ((g_mi (mX2_pass M a0) a0 10)).toNatClampNeg)) → EX2_fail (mX2_pass M a0) a0) (h26 : (¬ x1 = 0) → (¬ (g_mi (mX2_pass M a0) (a0 + 13) ((g_mi (mX2_pass M a0) a0 10)).toNatClampNeg) < 0) → (59 < (g_mi (mX2_pass M a0) (a0 + 13) ((g_mi (mX2_pass M a0) a0 10)).toNatClampNeg)) → Q (some (.int ((fX2_fail a0)))) (mX2_fail (mX2_pass M a0) a0)) (b27 : (¬ x1 = 0) → (¬ (g_mi (mX2_pass M a0) (a0 + 13) ((g_mi (mX2_pass M a0) a0 10)).toNatClampNeg) < 0) → (59 < (g_mi (mX2_pass M a0) (a0 + 13) ((g_mi (mX2_pass M a0) a0 10)).toNatClampNeg)) → (fX2_fail a0) = 0 ∨ (fX2_fail a0) = 1) (b28 : (¬ x1 = 0) → (¬ (g_mi (mX2_pass M a0) (a0 + 13) ((g_mi (mX2_pass M a0) a0 10)).toNatClampNeg) < 0) → (¬ 59 < (g_mi (mX2_pass M a0) (a0 + 13) ((g_mi (mX2_pass M a0) a0 10)).toNatClampNeg)) → ((g_mi (mX2_pass M a0) a0 4) < 50) → vp_in ((g_mi (mX2_pass M a0) a0 10)) 401) (b29 : (¬ x1 = 0) → (¬ (g_mi (mX2_pass M a0) (a0 + 13) ((g_mi (mX2_pass M a0) a0 10)).toNatClampNeg) < 0) → (¬ 59 < (g_mi (mX2_pass M a0) (a0 + 13) ((g_mi (mX2_pass M a0) a0 10)).toNatClampNeg)) → ((g_mi (mX2_pass M a0) a0 4) < 50) → vp_in ((g_mi (mX2_pass M a0) a0 4)) 50) (b30 : (¬ x1 = 0) → (¬ (g_mi (mX2_pass M a0) (a0 + 13) ((g_mi (mX2_pass M a0) a0 10)).toNatClampNeg) < 0) → (¬ 59 < (g_mi (mX2_pass M a0) (a0 + 13) ((g_mi (mX2_pass M a0) a0 10)).toNatClampNeg)) → ((g_mi (mX2_pass M a0) a0 4) < 50) → vp_in ((g_mi (g_wi (mX2_pass M a0) (a0 + 9) ((g_mi (mX2_pass M a0) a0 4)).toNatClampNeg (g_mi (mX2_pass M a0) (a0 + 13) ((g_mi (mX2_pass M a0) a0 10)).toNatClampNeg)) a0 4)) 50) (b31 : (¬ x1 = 0) → (¬ (g_mi (mX2_pass M a0) (a0 + 13) ((g_mi (mX2_pass M a0) a0 10)).toNatClampNeg) < 0) → (¬ 59 < (g_mi (mX2_pass M a0) (a0 + 13) ((g_mi (mX2_pass M a0) a0 10)).toNatClampNeg)) → ((g_mi (mX2_pass M a0) a0 4) < 50) → x1 = 0 ∨ x1 = 1) (b32 : (¬ x1 = 0) → (¬ (g_mi (mX2_pass M a0) (a0 + 13) ((g_mi (mX2_pass M a0) a0 10)).toNatClampNeg) < 0) → (¬ 59 < (g_mi (mX2_pass M a0) (a0 + 13) ((g_mi (mX2_pass M a0) a0 10)).toNatClampNeg)) → ((g_mi (mX2_pass M a0) a0 4) < 50) → EX6_put (g_wi (g_wi (mX2_pass M a0) (a0 + 9) ((g_mi (mX2_pass M a0) a0 4)).toNatClampNeg (g_mi (mX2_pass M a0) (a0 + 13) ((g_mi (mX2_pass M a0) a0 10)).toNatClampNeg)) (a0 + 10) ((g_mi (g_wi (mX2_pass M a0) (a0 + 9) ((g_mi (mX2_pass M a0) a0 4)).toNatClampNeg (g_mi (mX2_pass M a0) (a0 + 13) ((g_mi (mX2_pass M a0) a0 10)).toNatClampNeg)) a0 4)).toNatClampNeg x1) (a0 + 2) 12 460 2 (10 + (g_mi (g_wi (g_wi (mX2_pass M a0) (a0 + 9) ((g_mi (mX2_pass M a0) a0 4)).toNatClampNeg (g_mi (mX2_pass M a0) (a0 + 13) ((g_mi (mX2_pass M a0) a0 10)).toNatClampNeg)) (a0 + 10) ((g_mi (g_wi (mX2_pass M a0) (a0 + 9) ((g_mi (mX2_pass M a0) a0 4)).toNatClampNeg (g_mi (mX2_pass M a0) (a0 + 13) ((g_mi (mX2_pass M a0) a0 10)).toNatClampNeg)) a0 4)).toNatClampNeg x1) a0 4))) (b33 : (¬ x1 = 0) → (¬ (g_mi (mX2_pass M a0) (a0 + 13) ((g_mi (mX2_pass M a0) a0 10)).toNatClampNeg) < 0) → (¬ 59 < (g_mi (mX2_pass M a0) (a0 + 13) ((g_mi (mX2_pass M a0) a0 10)).toNatClampNeg)) → ((g_mi (mX2_pass M a0) a0 4) < 50) → EX2_pass (g_wi (mX6_put (g_wi (g_wi (mX2_pass M a0) (a0 + 9) ((g_mi (mX2_pass M a0) a0 4)).toNatClampNeg (g_mi (mX2_pass M a0) (a0 + 13) ((g_mi (mX2_pass M a0) a0 10)).toNatClampNeg)) (a0 + 10) ((g_mi (g_wi (mX2_pass M a0) (a0 + 9) ((g_mi (mX2_pass M a0) a0 4)).toNatClampNeg (g_mi (mX2_pass M a0) (a0 + 13) ((g_mi (mX2_pass M a0) a0 10)).toNatClampNeg)) a0 4)).toNatClampNeg x1) (a0 + 2) 12 460 2 (10 + (g_mi (g_wi (g_wi (mX2_pass M a0) (a0 + 9) ((g_mi (mX2_pass M a0) a0 4)).toNatClampNeg (g_mi (mX2_pass M a0) (a0 + 13) ((g_mi (mX2_pass M a0) a0 10)).toNatClampNeg)) (a0 + 10) ((g_mi (g_wi (mX2_pass M a0) (a0 + 9) ((g_mi (mX2_pass M a0) a0 4)).toNatClampNeg (g_mi (mX2_pass M a0) (a0 + 13) ((g_mi (mX2_pass M a0) a0 10)).toNatClampNeg)) a0 4)).toNatClampNeg x1) a0 4))) a0 4 ((g_mi (mX6_put (g_wi (g_wi (mX2_pass M a0) (a0 + 9) ((g_mi (mX2_pass M a0) a0 4)).toNatClampNeg (g_mi (mX2_pass M a0) (a0 + 13) ((g_mi (mX2_pass M a0) a0 10)).toNatClampNeg)) (a0 + 10) ((g_mi (g_wi (mX2_pass M a0) (a0 + 9) ((g_mi (mX2_pass M a0) a0 4)).toNatClampNeg (g_mi (mX2_pass M a0) (a0 + 13) ((g_mi (mX2_pass M a0) a0 10)).toNatClampNeg)) a0 4)).toNatClampNeg x1) (a0 + 2) 12 460 2 (10 + (g_mi (g_wi (g_wi (mX2_pass M a0) (a0 + 9) ((g_mi (mX2_pass M a0) a0 4)).toNatClampNeg (g_mi (mX2_pass M a0) (a0 + 13) ((g_mi (mX2_pass M a0) a0 10)).toNatClampNeg)) (a0 + 10) ((g_mi (g_wi (mX2_pass M a0) (a0 + 9) ((g_mi (mX2_pass M a0) a0 4)).toNatClampNeg (g_mi (mX2_pass M a0) (a0 + 13) ((g_mi (mX2_pass M a0) a0 10)).toNatClampNeg)) a0 4)).toNatClampNeg x1) a0 4))) a0 4) + 1)) a0) (h34 : (¬ x1 = 0) → (¬ (g_mi (mX2_pass M a0) (a0 + 13) ((g_mi (mX2_pass M a0) a0 10)).toNatClampNeg) < 0) → (¬ 59 < (g_mi (mX2_pass M a0) (a0 + 13) ((g_mi (mX2_pass M a0) a0 10)).toNatClampNeg)) → ((g_mi (mX2_pass M a0) a0 4) < 50) → Q (some (.int (1))) (mX2_pass (g_wi (mX6_put (g_wi (g_wi (mX2_pass M a0) (a0 + 9) ((g_mi (mX2_pass M a0) a0 4)).toNatClampNeg (g_mi (mX2_pass M a0) (a0 + 13) ((g_mi (mX2_pass M a0) a0 10)).toNatClampNeg)) (a0 + 10) ((g_mi (g_wi (mX2_pass M a0) (a0 + 9) ((g_mi (mX2_pass M a0) a0 4)).toNatClampNeg (g_mi (mX2_pass M a0) (a0 + 13) ((g_mi (mX2_pass M a0) a0 10)).toNatClampNeg)) a0 4)).toNatClampNeg x1) (a0 + 2) 12 460 2 (10 + (g_mi (g_wi (g_wi (mX2_pass M a0) (a0 + 9) ((g_mi (mX2_pass M a0) a0 4)).toNatClampNeg (g_mi (mX2_pass M a0) (a0 + 13) ((g_mi (mX2_pass M a0) a0 10)).toNatClampNeg)) (a0 + 10) ((g_mi (g_wi (mX2_pass M a0) (a0 + 9) ((g_mi (mX2_pass M a0) a0 4)).toNatClampNeg (g_mi (mX2_pass M a0) (a0 + 13) ((g_mi (mX2_pass M a0) a0 10)).toNatClampNeg)) a0 4)).toNatClampNeg x1) a0 4))) a0 4 ((g_mi (mX6_put (g_wi (g_wi (mX2_pass M a0) (a0 + 9) ((g_mi (mX2_pass M a0) a0 4)).toNatClampNeg (g_mi (mX2_pass M a0) (a0 + 13) ((g_mi (mX2_pass M a0) a0 10)).toNatClampNeg)) (a0 + 10) ((g_mi (g_wi (mX2_pass M a0) (a0 + 9) ((g_mi (mX2_pass M a0) a0 4)).toNatClampNeg (g_mi (mX2_pass M a0) (a0 + 13) ((g_mi (mX2_pass M a0) a0 10)).toNatClampNeg)) a0 4)).toNatClampNeg x1) (a0 + 2) 12 460 2 (10 + (g_mi (g_wi (g_wi (mX2_pass M a0) (a0 + 9) ((g_mi (mX2_pass M a0) a0 4)).toNatClampNeg (g_mi (mX2_pass M a0) (a0 + 13) ((g_mi (mX2_pass M a0) a0 10)).toNatClampNeg)) (a0 + 10) ((g_mi (g_wi (mX2_pass M a0) (a0 + 9) ((g_mi (mX2_pass M a0) a0 4)).toNatClampNeg (g_mi (mX2_pass M a0) (a0 + 13) ((g_mi (mX2_pass M a0) a0 10)).toNatClampNeg)) a0 4)).toNatClampNeg x1) a0 4))) a0 4) + 1)) a0)) (b35 : (¬ x1 = 0) → (¬ (g_mi (mX2_pass M a0) (a0 + 13) ((g_mi (mX2_pass M a0) a0 10)).toNatClampNeg) < 0) → (¬ 59 < (g_mi (mX2_pass M a0) (a0 + 13) ((g_mi (mX2_pass M a0) a0 10)).toNatClampNeg)) → (¬ (g_mi (mX2_pass M a0) a0 4) < 50) → EX2_fail (mX2_pass M a0) a0) (h36 : (¬ x1 = 0) → (¬ (g_mi (mX2_pass M a0) (a0 + 13) ((g_mi (mX2_pass M a0) a0 10)).toNatClampNeg) < 0) → (¬ 59 < (g_mi (mX2_pass M a0) (a0 + 13) ((g_mi (mX2_pass M a0) a0 10)).toNatClampNeg)) → (¬ (g_mi (mX2_pass M a0) a0 4) < 50) → Q (some (.int ((fX2_fail a0)))) (mX2_fail (mX2_pass M a0) a0)) (b37 : (¬ x1 = 0) → (¬ (g_mi (mX2_pass M a0) (a0 + 13) ((g_mi (mX2_pass M a0) a0 10)).toNatClampNeg) < 0) → (¬ 59 < (g_mi (mX2_pass M a0) (a0 + 13) ((g_mi (mX2_pass M a0) a0 10)).toNatClampNeg)) → (¬ (g_mi (mX2_pass M a0) a0 4) < 50) → (fX2_fail a0) = 0 ∨ (fX2_fail a0) = 1) : Cn X (d + 1) mc ms kX2_readLookup [.ref a0, .int (x1)] M Q := by
  refine g_meth rfl rfl (Nat.le_of_ble_eq_true rfl) rfl ?_
  refine g_aload_n 0 1 dX2_readLookup_0 rfl rfl ?_
  refine g_callV (mc1 := 0) (ms1 := 0) (b := a0) (rest := []) (av := []) kX2_pass 4 dX2_readLookup_1 rfl rfl mbX2_111 imX2_pass seX2_pass gcl2.1 s0.1 (Nat.le_of_ble_eq_true rfl) (Nat.zero_le _) (Nat.zero_le _) (tX2_pass s0 (b1) ?_)
  show Go X (d + 1) mc ms kX2_readLookup Q 4 [(0, .ref a0), (1, .int (x1))] [] (mX2_pass M a0) 0 0
  refine g_iload_n 1 5 dX2_readLookup_4 rfl rfl ?_
  refine g_if_eq 13 8 dX2_readLookup_5 rfl rfl (fun c1 => ?_) (fun c1 => ?_)
  · skip
    refine g_sipush (999) 16 dX2_readLookup_13 rfl rfl ?_
    refine g_istore_n 17 [(2, .int (999)), (0, .ref a0), (1, .int (x1))] dX2_readLookup_16 rfl (Nat.le_of_ble_eq_true rfl) rfl ?_
    refine g_aload_n 1 18 dX2_readLookup_17 rfl rfl ?_
    refine g_getR 21 (a0 + 13) dX2_readLookup_18 rfl flX2_41 (Sm.k (Sm.tr Sm.rf jX2_pass) s0.1) (Sm.r (Sm.tr Sm.rf jX2_pass) s0.2.2.2.2.2.2.2.2.2.2.2.2.2.1) ?_
    refine g_aload_n 1 22 dX2_readLookup_21 rfl rfl ?_
    refine g_getI 25 dX2_readLookup_22 rfl flX2_50 (Sm.k (Sm.tr Sm.rf jX2_pass) s0.1) ?_
    refine h_iaload 26 ((g_mi (mX2_pass M a0) a0 10)).toNatClampNeg dX2_readLookup_25 rfl rfl (Sm.k (Sm.tr Sm.rf jX2_pass) s0.2.2.2.2.2.2.2.2.2.2.2.2.2.2) (b2 c1) ?_
    refine g_if_lt 51 29 dX2_readLookup_26 rfl rfl (fun c2 => ?_) (fun c2 => ?_)
    · skip
      refine g_aload_n 1 52 dX2_readLookup_51 rfl rfl ?_
      refine g_callV (mc1 := 0) (ms1 := 0) (b := a0) (rest := []) (av := []) kX2_fail 55 dX2_readLookup_52 rfl rfl mbX2_74 imX2_fail seX2_fail gcl2.1 (Sm.k (Sm.tr Sm.rf jX2_pass) s0.1) (Nat.le_of_ble_eq_true rfl) (Nat.zero_le _) (Nat.zero_le _) (tX2_fail (Re.sm (Sm.tr Sm.rf jX2_pass) s0) (b3 c1 c2) ?_)
      show Go X (d + 1) mc ms kX2_readLookup Q 55 [(2, .int (999)), (0, .ref a0), (1, .int (x1))] [.int ((fX2_fail a0))] (mX2_fail (mX2_pass M a0) a0) 0 0
      exact g_zret dX2_readLookup_55 rfl (b5 c1 c2) (Nat.zero_le _) (Nat.zero_le _) (h4 c1 c2)
    · skip
      refine g_aload_n 1 30 dX2_readLookup_29 rfl rfl ?_
      refine g_getR 33 (a0 + 13) dX2_readLookup_30 rfl flX2_41 (Sm.k (Sm.tr Sm.rf jX2_pass) s0.1) (Sm.r (Sm.tr Sm.rf jX2_pass) s0.2.2.2.2.2.2.2.2.2.2.2.2.2.1) ?_
      refine g_aload_n 1 34 dX2_readLookup_33 rfl rfl ?_
      refine g_getI 37 dX2_readLookup_34 rfl flX2_50 (Sm.k (Sm.tr Sm.rf jX2_pass) s0.1) ?_
      refine h_iaload 38 ((g_mi (mX2_pass M a0) a0 10)).toNatClampNeg dX2_readLookup_37 rfl rfl (Sm.k (Sm.tr Sm.rf jX2_pass) s0.2.2.2.2.2.2.2.2.2.2.2.2.2.2) (b6 c1 c2) ?_
      refine g_iload_n 0 39 dX2_readLookup_38 rfl rfl ?_
      refine g_icmp_gt 51 42 dX2_readLookup_39 rfl rfl (fun c3 => ?_) (fun c3 => ?_)
      · skip
        refine g_aload_n 1 52 dX2_readLookup_51 rfl rfl ?_
        refine g_callV (mc1 := 0) (ms1 := 0) (b := a0) (rest := []) (av := []) kX2_fail 55 dX2_readLookup_52 rfl rfl mbX2_74 imX2_fail seX2_fail gcl2.1 (Sm.k (Sm.tr Sm.rf jX2_pass) s0.1) (Nat.le_of_ble_eq_true rfl) (Nat.zero_le _) (Nat.zero_le _) (tX2_fail (Re.sm (Sm.tr Sm.rf jX2_pass) s0) (b7 c1 c2 c3) ?_)
        show Go X (d + 1) mc ms kX2_readLookup Q 55 [(2, .int (999)), (0, .ref a0), (1, .int (x1))] [.int ((fX2_fail a0))] (mX2_fail (mX2_pass M a0) a0) 0 0
        exact g_zret dX2_readLookup_55 rfl (b9 c1 c2 c3) (Nat.zero_le _) (Nat.zero_le _) (h8 c1 c2 c3)
      · skip
        refine g_aload_n 1 43 dX2_readLookup_42 rfl rfl ?_
        refine g_getI 46 dX2_readLookup_43 rfl flX2_56 (Sm.k (Sm.tr Sm.rf jX2_pass) s0.1) ?_
        refine g_bipush (50) 48 dX2_readLookup_46 rfl rfl ?_
        refine g_icmp_lt 56 51 dX2_readLookup_48 rfl rfl (fun c4 => ?_) (fun c4 => ?_)
        · skip
          refine g_aload_n 1 57 dX2_readLookup_56 rfl rfl ?_
          refine g_getR 60 (a0 + 9) dX2_readLookup_57 rfl flX2_24 (Sm.k (Sm.tr Sm.rf jX2_pass) s0.1) (Sm.r (Sm.tr Sm.rf jX2_pass) s0.2.2.2.2.2.1) ?_
          refine g_aload_n 1 61 dX2_readLookup_60 rfl rfl ?_
          refine g_getI 64 dX2_readLookup_61 rfl flX2_56 (Sm.k (Sm.tr Sm.rf jX2_pass) s0.1) ?_
          refine g_aload_n 1 65 dX2_readLookup_64 rfl rfl ?_
          refine g_getR 68 (a0 + 13) dX2_readLookup_65 rfl flX2_41 (Sm.k (Sm.tr Sm.rf jX2_pass) s0.1) (Sm.r (Sm.tr Sm.rf jX2_pass) s0.2.2.2.2.2.2.2.2.2.2.2.2.2.1) ?_
          refine g_aload_n 1 69 dX2_readLookup_68 rfl rfl ?_
          refine g_getI 72 dX2_readLookup_69 rfl flX2_50 (Sm.k (Sm.tr Sm.rf jX2_pass) s0.1) ?_
          refine h_iaload 73 ((g_mi (mX2_pass M a0) a0 10)).toNatClampNeg dX2_readLookup_72 rfl rfl (Sm.k (Sm.tr Sm.rf jX2_pass) s0.2.2.2.2.2.2.2.2.2.2.2.2.2.2) (b10 c1 c2 c3 c4) ?_
          refine h_iastore 74 ((g_mi (mX2_pass M a0) a0 4)).toNatClampNeg dX2_readLookup_73 rfl rfl (Sm.k (Sm.tr Sm.rf jX2_pass) s0.2.2.2.2.2.2.1) (b11 c1 c2 c3 c4) ?_
          refine g_aload_n 1 75 dX2_readLookup_74 rfl rfl ?_
          refine g_getR 78 (a0 + 10) dX2_readLookup_75 rfl flX2_27 (Sm.k (Sm.wi (Sm.tr Sm.rf jX2_pass)) s0.1) (Sm.r (Sm.wi (Sm.tr Sm.rf jX2_pass)) s0.2.2.2.2.2.2.2.1) ?_
          refine g_aload_n 1 79 dX2_readLookup_78 rfl rfl ?_
          refine g_getI 82 dX2_readLookup_79 rfl flX2_56 (Sm.k (Sm.wi (Sm.tr Sm.rf jX2_pass)) s0.1) ?_
          refine g_iload_n 2 83 dX2_readLookup_82 rfl rfl ?_
          refine h_zastore 84 ((g_mi (g_wi (mX2_pass M a0) (a0 + 9) ((g_mi (mX2_pass M a0) a0 4)).toNatClampNeg (g_mi (mX2_pass M a0) (a0 + 13) ((g_mi (mX2_pass M a0) a0 10)).toNatClampNeg)) a0 4)).toNatClampNeg dX2_readLookup_83 rfl rfl (Sm.k (Sm.wi (Sm.tr Sm.rf jX2_pass)) s0.2.2.2.2.2.2.2.2.1) (b12 c1 c2 c3 c4) (b13 c1 c2 c3 c4) ?_
          refine g_aload_n 1 85 dX2_readLookup_84 rfl rfl ?_
          refine g_getR 88 (a0 + 2) dX2_readLookup_85 rfl flX2_20 (Sm.k (Sm.wi (Sm.wi (Sm.tr Sm.rf jX2_pass))) s0.1) (Sm.r (Sm.wi (Sm.wi (Sm.tr Sm.rf jX2_pass))) s0.2.2.2.1) ?_
          refine g_iconst (2) 89 dX2_readLookup_88 rfl rfl ?_
          refine g_bipush (10) 91 dX2_readLookup_89 rfl rfl ?_
          refine g_aload_n 1 92 dX2_readLookup_91 rfl rfl ?_
          refine g_getI 95 dX2_readLookup_92 rfl flX2_56 (Sm.k (Sm.wi (Sm.wi (Sm.tr Sm.rf jX2_pass))) s0.1) ?_
          refine g_iadd 96 dX2_readLookup_95 rfl ?_
          refine g_callV (mc1 := 0) (ms1 := 0) (b := (a0 + 2)) (rest := []) (av := [.int (2), .int ((10 + (g_mi (g_wi (g_wi (mX2_pass M a0) (a0 + 9) ((g_mi (mX2_pass M a0) a0 4)).toNatClampNeg (g_mi (mX2_pass M a0) (a0 + 13) ((g_mi (mX2_pass M a0) a0 10)).toNatClampNeg)) (a0 + 10) ((g_mi (g_wi (mX2_pass M a0) (a0 + 9) ((g_mi (mX2_pass M a0) a0 4)).toNatClampNeg (g_mi (mX2_pass M a0) (a0 + 13) ((g_mi (mX2_pass M a0) a0 10)).toNatClampNeg)) a0 4)).toNatClampNeg x1) a0 4)))]) kX6_put 99 dX2_readLookup_96 rfl rfl mbX2_124 imX6_put seX6_put gcl6.1 (Sm.k (Sm.wi (Sm.wi (Sm.tr Sm.rf jX2_pass))) s0.2.2.2.2.1.1) (Nat.le_of_ble_eq_true rfl) (Nat.zero_le _) (Nat.zero_le _) (tX6_put (Tx.sm (Sm.wi (Sm.wi (Sm.tr Sm.rf jX2_pass))) s0.2.2.2.2.1) (b14 c1 c2 c3 c4) ?_)
          show Go X (d + 1) mc ms kX2_readLookup Q 99 [(2, .int (999)), (0, .ref a0), (1, .int (x1))] [.int ((fX6_put (g_wi (g_wi (mX2_pass M a0) (a0 + 9) ((g_mi (mX2_pass M a0) a0 4)).toNatClampNeg (g_mi (mX2_pass M a0) (a0 + 13) ((g_mi (mX2_pass M a0) a0 10)).toNatClampNeg)) (a0 + 10) ((g_mi (g_wi (mX2_pass M a0) (a0 + 9) ((g_mi (mX2_pass M a0) a0 4)).toNatClampNeg (g_mi (mX2_pass M a0) (a0 + 13) ((g_mi (mX2_pass M a0) a0 10)).toNatClampNeg)) a0 4)).toNatClampNeg x1) (a0 + 2) 12 460 2 (10 + (g_mi (g_wi (g_wi (mX2_pass M a0) (a0 + 9) ((g_mi (mX2_pass M a0) a0 4)).toNatClampNeg (g_mi (mX2_pass M a0) (a0 + 13) ((g_mi (mX2_pass M a0) a0 10)).toNatClampNeg)) (a0 + 10) ((g_mi (g_wi (mX2_pass M a0) (a0 + 9) ((g_mi (mX2_pass M a0) a0 4)).toNatClampNeg (g_mi (mX2_pass M a0) (a0 + 13) ((g_mi (mX2_pass M a0) a0 10)).toNatClampNeg)) a0 4)).toNatClampNeg x1) a0 4))))] (mX6_put (g_wi (g_wi (mX2_pass M a0) (a0 + 9) ((g_mi (mX2_pass M a0) a0 4)).toNatClampNeg (g_mi (mX2_pass M a0) (a0 + 13) ((g_mi (mX2_pass M a0) a0 10)).toNatClampNeg)) (a0 + 10) ((g_mi (g_wi (mX2_pass M a0) (a0 + 9) ((g_mi (mX2_pass M a0) a0 4)).toNatClampNeg (g_mi (mX2_pass M a0) (a0 + 13) ((g_mi (mX2_pass M a0) a0 10)).toNatClampNeg)) a0 4)).toNatClampNeg x1) (a0 + 2) 12 460 2 (10 + (g_mi (g_wi (g_wi (mX2_pass M a0) (a0 + 9) ((g_mi (mX2_pass M a0) a0 4)).toNatClampNeg (g_mi (mX2_pass M a0) (a0 + 13) ((g_mi (mX2_pass M a0) a0 10)).toNatClampNeg)) (a0 + 10) ((g_mi (g_wi (mX2_pass M a0) (a0 + 9) ((g_mi (mX2_pass M a0) a0 4)).toNatClampNeg (g_mi (mX2_pass M a0) (a0 + 13) ((g_mi (mX2_pass M a0) a0 10)).toNatClampNeg)) a0 4)).toNatClampNeg x1) a0 4))) 0 0
          refine g_pop 100 dX2_readLookup_99 rfl rfl ?_
          refine g_aload_n 1 101 dX2_readLookup_100 rfl rfl ?_
          refine g_dup 102 dX2_readLookup_101 rfl rfl ?_
          refine g_getI 105 dX2_readLookup_102 rfl flX2_56 (Sm.k (Sm.tr (Sm.wi (Sm.wi (Sm.tr Sm.rf jX2_pass))) jX6_put) s0.1) ?_
          refine g_iconst (1) 106 dX2_readLookup_105 rfl rfl ?_
          refine g_iadd 107 dX2_readLookup_106 rfl ?_
          refine g_putI 110 dX2_readLookup_107 rfl flX2_56 (Sm.k (Sm.tr (Sm.wi (Sm.wi (Sm.tr Sm.rf jX2_pass))) jX6_put) s0.1) ?_
          refine g_aload_n 1 111 dX2_readLookup_110 rfl rfl ?_
          refine g_callV (mc1 := 0) (ms1 := 0) (b := a0) (rest := []) (av := []) kX2_pass 114 dX2_readLookup_111 rfl rfl mbX2_111 imX2_pass seX2_pass gcl2.1 (Sm.k (Sm.wi (Sm.tr (Sm.wi (Sm.wi (Sm.tr Sm.rf jX2_pass))) jX6_put)) s0.1) (Nat.le_of_ble_eq_true rfl) (Nat.zero_le _) (Nat.zero_le _) (tX2_pass (Re.sm (Sm.wi (Sm.tr (Sm.wi (Sm.wi (Sm.tr Sm.rf jX2_pass))) jX6_put)) s0) (b15 c1 c2 c3 c4) ?_)
          show Go X (d + 1) mc ms kX2_readLookup Q 114 [(2, .int (999)), (0, .ref a0), (1, .int (x1))] [] (mX2_pass (g_wi (mX6_put (g_wi (g_wi (mX2_pass M a0) (a0 + 9) ((g_mi (mX2_pass M a0) a0 4)).toNatClampNeg (g_mi (mX2_pass M a0) (a0 + 13) ((g_mi (mX2_pass M a0) a0 10)).toNatClampNeg)) (a0 + 10) ((g_mi (g_wi (mX2_pass M a0) (a0 + 9) ((g_mi (mX2_pass M a0) a0 4)).toNatClampNeg (g_mi (mX2_pass M a0) (a0 + 13) ((g_mi (mX2_pass M a0) a0 10)).toNatClampNeg)) a0 4)).toNatClampNeg x1) (a0 + 2) 12 460 2 (10 + (g_mi (g_wi (g_wi (mX2_pass M a0) (a0 + 9) ((g_mi (mX2_pass M a0) a0 4)).toNatClampNeg (g_mi (mX2_pass M a0) (a0 + 13) ((g_mi (mX2_pass M a0) a0 10)).toNatClampNeg)) (a0 + 10) ((g_mi (g_wi (mX2_pass M a0) (a0 + 9) ((g_mi (mX2_pass M a0) a0 4)).toNatClampNeg (g_mi (mX2_pass M a0) (a0 + 13) ((g_mi (mX2_pass M a0) a0 10)).toNatClampNeg)) a0 4)).toNatClampNeg x1) a0 4))) a0 4 ((g_mi (mX6_put (g_wi (g_wi (mX2_pass M a0) (a0 + 9) ((g_mi (mX2_pass M a0) a0 4)).toNatClampNeg (g_mi (mX2_pass M a0) (a0 + 13) ((g_mi (mX2_pass M a0) a0 10)).toNatClampNeg)) (a0 + 10) ((g_mi (g_wi (mX2_pass M a0) (a0 + 9) ((g_mi (mX2_pass M a0) a0 4)).toNatClampNeg (g_mi (mX2_pass M a0) (a0 + 13) ((g_mi (mX2_pass M a0) a0 10)).toNatClampNeg)) a0 4)).toNatClampNeg x1) (a0 + 2) 12 460 2 (10 + (g_mi (g_wi (g_wi (mX2_pass M a0) (a0 + 9) ((g_mi (mX2_pass M a0) a0 4)).toNatClampNeg (g_mi (mX2_pass M a0) (a0 + 13) ((g_mi (mX2_pass M a0) a0 10)).toNatClampNeg)) (a0 + 10) ((g_mi (g_wi (mX2_pass M a0) (a0 + 9) ((g_mi (mX2_pass M a0) a0 4)).toNatClampNeg (g_mi (mX2_pass M a0) (a0 + 13) ((g_mi (mX2_pass M a0) a0 10)).toNatClampNeg)) a0 4)).toNatClampNeg x1) a0 4))) a0 4) + 1)) a0) 0 0
          refine g_iconst (1) 115 dX2_readLookup_114 rfl rfl ?_
          exact g_zret dX2_readLookup_115 rfl (by decide) (Nat.zero_le _) (Nat.zero_le _) (h16 c1 c2 c3 c4)
        · skip
          refine g_aload_n 1 52 dX2_readLookup_51 rfl rfl ?_
          refine g_callV (mc1 := 0) (ms1 := 0) (b := a0) (rest := []) (av := []) kX2_fail 55 dX2_readLookup_52 rfl rfl mbX2_74 imX2_fail seX2_fail gcl2.1 (Sm.k (Sm.tr Sm.rf jX2_pass) s0.1) (Nat.le_of_ble_eq_true rfl) (Nat.zero_le _) (Nat.zero_le _) (tX2_fail (Re.sm (Sm.tr Sm.rf jX2_pass) s0) (b17 c1 c2 c3 c4) ?_)
          show Go X (d + 1) mc ms kX2_readLookup Q 55 [(2, .int (999)), (0, .ref a0), (1, .int (x1))] [.int ((fX2_fail a0))] (mX2_fail (mX2_pass M a0) a0) 0 0
          exact g_zret dX2_readLookup_55 rfl (b19 c1 c2 c3 c4) (Nat.zero_le _) (Nat.zero_le _) (h18 c1 c2 c3 c4)
  · skip
    refine g_bipush (59) 10 dX2_readLookup_8 rfl rfl ?_
    refine g_goto 16 dX2_readLookup_10 rfl ?_
    refine g_istore_n 17 [(2, .int (59)), (0, .ref a0), (1, .int (x1))] dX2_readLookup_16 rfl (Nat.le_of_ble_eq_true rfl) rfl ?_
    refine g_aload_n 1 18 dX2_readLookup_17 rfl rfl ?_
    refine g_getR 21 (a0 + 13) dX2_readLookup_18 rfl flX2_41 (Sm.k (Sm.tr Sm.rf jX2_pass) s0.1) (Sm.r (Sm.tr Sm.rf jX2_pass) s0.2.2.2.2.2.2.2.2.2.2.2.2.2.1) ?_
    refine g_aload_n 1 22 dX2_readLookup_21 rfl rfl ?_
    refine g_getI 25 dX2_readLookup_22 rfl flX2_50 (Sm.k (Sm.tr Sm.rf jX2_pass) s0.1) ?_
    refine h_iaload 26 ((g_mi (mX2_pass M a0) a0 10)).toNatClampNeg dX2_readLookup_25 rfl rfl (Sm.k (Sm.tr Sm.rf jX2_pass) s0.2.2.2.2.2.2.2.2.2.2.2.2.2.2) (b20 c1) ?_
    refine g_if_lt 51 29 dX2_readLookup_26 rfl rfl (fun c5 => ?_) (fun c5 => ?_)
    · skip
      refine g_aload_n 1 52 dX2_readLookup_51 rfl rfl ?_
      refine g_callV (mc1 := 0) (ms1 := 0) (b := a0) (rest := []) (av := []) kX2_fail 55 dX2_readLookup_52 rfl rfl mbX2_74 imX2_fail seX2_fail gcl2.1 (Sm.k (Sm.tr Sm.rf jX2_pass) s0.1) (Nat.le_of_ble_eq_true rfl) (Nat.zero_le _) (Nat.zero_le _) (tX2_fail (Re.sm (Sm.tr Sm.rf jX2_pass) s0) (b21 c1 c5) ?_)
      show Go X (d + 1) mc ms kX2_readLookup Q 55 [(2, .int (59)), (0, .ref a0), (1, .int (x1))] [.int ((fX2_fail a0))] (mX2_fail (mX2_pass M a0) a0) 0 0
      exact g_zret dX2_readLookup_55 rfl (b23 c1 c5) (Nat.zero_le _) (Nat.zero_le _) (h22 c1 c5)
    · skip
      refine g_aload_n 1 30 dX2_readLookup_29 rfl rfl ?_
      refine g_getR 33 (a0 + 13) dX2_readLookup_30 rfl flX2_41 (Sm.k (Sm.tr Sm.rf jX2_pass) s0.1) (Sm.r (Sm.tr Sm.rf jX2_pass) s0.2.2.2.2.2.2.2.2.2.2.2.2.2.1) ?_
      refine g_aload_n 1 34 dX2_readLookup_33 rfl rfl ?_
      refine g_getI 37 dX2_readLookup_34 rfl flX2_50 (Sm.k (Sm.tr Sm.rf jX2_pass) s0.1) ?_
      refine h_iaload 38 ((g_mi (mX2_pass M a0) a0 10)).toNatClampNeg dX2_readLookup_37 rfl rfl (Sm.k (Sm.tr Sm.rf jX2_pass) s0.2.2.2.2.2.2.2.2.2.2.2.2.2.2) (b24 c1 c5) ?_
      refine g_iload_n 0 39 dX2_readLookup_38 rfl rfl ?_
      refine g_icmp_gt 51 42 dX2_readLookup_39 rfl rfl (fun c6 => ?_) (fun c6 => ?_)
      · skip
        refine g_aload_n 1 52 dX2_readLookup_51 rfl rfl ?_
        refine g_callV (mc1 := 0) (ms1 := 0) (b := a0) (rest := []) (av := []) kX2_fail 55 dX2_readLookup_52 rfl rfl mbX2_74 imX2_fail seX2_fail gcl2.1 (Sm.k (Sm.tr Sm.rf jX2_pass) s0.1) (Nat.le_of_ble_eq_true rfl) (Nat.zero_le _) (Nat.zero_le _) (tX2_fail (Re.sm (Sm.tr Sm.rf jX2_pass) s0) (b25 c1 c5 c6) ?_)
        show Go X (d + 1) mc ms kX2_readLookup Q 55 [(2, .int (59)), (0, .ref a0), (1, .int (x1))] [.int ((fX2_fail a0))] (mX2_fail (mX2_pass M a0) a0) 0 0
        exact g_zret dX2_readLookup_55 rfl (b27 c1 c5 c6) (Nat.zero_le _) (Nat.zero_le _) (h26 c1 c5 c6)
      · skip
        refine g_aload_n 1 43 dX2_readLookup_42 rfl rfl ?_
        refine g_getI 46 dX2_readLookup_43 rfl flX2_56 (Sm.k (Sm.tr Sm.rf jX2_pass) s0.1) ?_
        refine g_bipush (50) 48 dX2_readLookup_46 rfl rfl ?_
        refine g_icmp_lt 56 51 dX2_readLookup_48 rfl rfl (fun c7 => ?_) (fun c7 => ?_)
        · skip
          refine g_aload_n 1 57 dX2_readLookup_56 rfl rfl ?_
          refine g_getR 60 (a0 + 9) dX2_readLookup_57 rfl flX2_24 (Sm.k (Sm.tr Sm.rf jX2_pass) s0.1) (Sm.r (Sm.tr Sm.rf jX2_pass) s0.2.2.2.2.2.1) ?_
          refine g_aload_n 1 61 dX2_readLookup_60 rfl rfl ?_
          refine g_getI 64 dX2_readLookup_61 rfl flX2_56 (Sm.k (Sm.tr Sm.rf jX2_pass) s0.1) ?_
          refine g_aload_n 1 65 dX2_readLookup_64 rfl rfl ?_
          refine g_getR 68 (a0 + 13) dX2_readLookup_65 rfl flX2_41 (Sm.k (Sm.tr Sm.rf jX2_pass) s0.1) (Sm.r (Sm.tr Sm.rf jX2_pass) s0.2.2.2.2.2.2.2.2.2.2.2.2.2.1) ?_
          refine g_aload_n 1 69 dX2_readLookup_68 rfl rfl ?_
          refine g_getI 72 dX2_readLookup_69 rfl flX2_50 (Sm.k (Sm.tr Sm.rf jX2_pass) s0.1) ?_
          refine h_iaload 73 ((g_mi (mX2_pass M a0) a0 10)).toNatClampNeg dX2_readLookup_72 rfl rfl (Sm.k (Sm.tr Sm.rf jX2_pass) s0.2.2.2.2.2.2.2.2.2.2.2.2.2.2) (b28 c1 c5 c6 c7) ?_
          refine h_iastore 74 ((g_mi (mX2_pass M a0) a0 4)).toNatClampNeg dX2_readLookup_73 rfl rfl (Sm.k (Sm.tr Sm.rf jX2_pass) s0.2.2.2.2.2.2.1) (b29 c1 c5 c6 c7) ?_
          refine g_aload_n 1 75 dX2_readLookup_74 rfl rfl ?_
          refine g_getR 78 (a0 + 10) dX2_readLookup_75 rfl flX2_27 (Sm.k (Sm.wi (Sm.tr Sm.rf jX2_pass)) s0.1) (Sm.r (Sm.wi (Sm.tr Sm.rf jX2_pass)) s0.2.2.2.2.2.2.2.1) ?_
          refine g_aload_n 1 79 dX2_readLookup_78 rfl rfl ?_
          refine g_getI 82 dX2_readLookup_79 rfl flX2_56 (Sm.k (Sm.wi (Sm.tr Sm.rf jX2_pass)) s0.1) ?_
          refine g_iload_n 2 83 dX2_readLookup_82 rfl rfl ?_
          refine h_zastore 84 ((g_mi (g_wi (mX2_pass M a0) (a0 + 9) ((g_mi (mX2_pass M a0) a0 4)).toNatClampNeg (g_mi (mX2_pass M a0) (a0 + 13) ((g_mi (mX2_pass M a0) a0 10)).toNatClampNeg)) a0 4)).toNatClampNeg dX2_readLookup_83 rfl rfl (Sm.k (Sm.wi (Sm.tr Sm.rf jX2_pass)) s0.2.2.2.2.2.2.2.2.1) (b30 c1 c5 c6 c7) (b31 c1 c5 c6 c7) ?_
          refine g_aload_n 1 85 dX2_readLookup_84 rfl rfl ?_
          refine g_getR 88 (a0 + 2) dX2_readLookup_85 rfl flX2_20 (Sm.k (Sm.wi (Sm.wi (Sm.tr Sm.rf jX2_pass))) s0.1) (Sm.r (Sm.wi (Sm.wi (Sm.tr Sm.rf jX2_pass))) s0.2.2.2.1) ?_
          refine g_iconst (2) 89 dX2_readLookup_88 rfl rfl ?_
          refine g_bipush (10) 91 dX2_readLookup_89 rfl rfl ?_
          refine g_aload_n 1 92 dX2_readLookup_91 rfl rfl ?_
          refine g_getI 95 dX2_readLookup_92 rfl flX2_56 (Sm.k (Sm.wi (Sm.wi (Sm.tr Sm.rf jX2_pass))) s0.1) ?_
          refine g_iadd 96 dX2_readLookup_95 rfl ?_
          refine g_callV (mc1 := 0) (ms1 := 0) (b := (a0 + 2)) (rest := []) (av := [.int (2), .int ((10 + (g_mi (g_wi (g_wi (mX2_pass M a0) (a0 + 9) ((g_mi (mX2_pass M a0) a0 4)).toNatClampNeg (g_mi (mX2_pass M a0) (a0 + 13) ((g_mi (mX2_pass M a0) a0 10)).toNatClampNeg)) (a0 + 10) ((g_mi (g_wi (mX2_pass M a0) (a0 + 9) ((g_mi (mX2_pass M a0) a0 4)).toNatClampNeg (g_mi (mX2_pass M a0) (a0 + 13) ((g_mi (mX2_pass M a0) a0 10)).toNatClampNeg)) a0 4)).toNatClampNeg x1) a0 4)))]) kX6_put 99 dX2_readLookup_96 rfl rfl mbX2_124 imX6_put seX6_put gcl6.1 (Sm.k (Sm.wi (Sm.wi (Sm.tr Sm.rf jX2_pass))) s0.2.2.2.2.1.1) (Nat.le_of_ble_eq_true rfl) (Nat.zero_le _) (Nat.zero_le _) (tX6_put (Tx.sm (Sm.wi (Sm.wi (Sm.tr Sm.rf jX2_pass))) s0.2.2.2.2.1) (b32 c1 c5 c6 c7) ?_)
          show Go X (d + 1) mc ms kX2_readLookup Q 99 [(2, .int (59)), (0, .ref a0), (1, .int (x1))] [.int ((fX6_put (g_wi (g_wi (mX2_pass M a0) (a0 + 9) ((g_mi (mX2_pass M a0) a0 4)).toNatClampNeg (g_mi (mX2_pass M a0) (a0 + 13) ((g_mi (mX2_pass M a0) a0 10)).toNatClampNeg)) (a0 + 10) ((g_mi (g_wi (mX2_pass M a0) (a0 + 9) ((g_mi (mX2_pass M a0) a0 4)).toNatClampNeg (g_mi (mX2_pass M a0) (a0 + 13) ((g_mi (mX2_pass M a0) a0 10)).toNatClampNeg)) a0 4)).toNatClampNeg x1) (a0 + 2) 12 460 2 (10 + (g_mi (g_wi (g_wi (mX2_pass M a0) (a0 + 9) ((g_mi (mX2_pass M a0) a0 4)).toNatClampNeg (g_mi (mX2_pass M a0) (a0 + 13) ((g_mi (mX2_pass M a0) a0 10)).toNatClampNeg)) (a0 + 10) ((g_mi (g_wi (mX2_pass M a0) (a0 + 9) ((g_mi (mX2_pass M a0) a0 4)).toNatClampNeg (g_mi (mX2_pass M a0) (a0 + 13) ((g_mi (mX2_pass M a0) a0 10)).toNatClampNeg)) a0 4)).toNatClampNeg x1) a0 4))))] (mX6_put (g_wi (g_wi (mX2_pass M a0) (a0 + 9) ((g_mi (mX2_pass M a0) a0 4)).toNatClampNeg (g_mi (mX2_pass M a0) (a0 + 13) ((g_mi (mX2_pass M a0) a0 10)).toNatClampNeg)) (a0 + 10) ((g_mi (g_wi (mX2_pass M a0) (a0 + 9) ((g_mi (mX2_pass M a0) a0 4)).toNatClampNeg (g_mi (mX2_pass M a0) (a0 + 13) ((g_mi (mX2_pass M a0) a0 10)).toNatClampNeg)) a0 4)).toNatClampNeg x1) (a0 + 2) 12 460 2 (10 + (g_mi (g_wi (g_wi (mX2_pass M a0) (a0 + 9) ((g_mi (mX2_pass M a0) a0 4)).toNatClampNeg (g_mi (mX2_pass M a0) (a0 + 13) ((g_mi (mX2_pass M a0) a0 10)).toNatClampNeg)) (a0 + 10) ((g_mi (g_wi (mX2_pass M a0) (a0 + 9) ((g_mi (mX2_pass M a0) a0 4)).toNatClampNeg (g_mi (mX2_pass M a0) (a0 + 13) ((g_mi (mX2_pass M a0) a0 10)).toNatClampNeg)) a0 4)).toNatClampNeg x1) a0 4))) 0 0
          refine g_pop 100 dX2_readLookup_99 rfl rfl ?_
          refine g_aload_n 1 101 dX2_readLookup_100 rfl rfl ?_
          refine g_dup 102 dX2_readLookup_101 rfl rfl ?_
          refine g_getI 105 dX2_readLookup_102 rfl flX2_56 (Sm.k (Sm.tr (Sm.wi (Sm.wi (Sm.tr Sm.rf jX2_pass))) jX6_put) s0.1) ?_
          refine g_iconst (1) 106 dX2_readLookup_105 rfl rfl ?_
          refine g_iadd 107 dX2_readLookup_106 rfl ?_
          refine g_putI 110 dX2_readLookup_107 rfl flX2_56 (Sm.k (Sm.tr (Sm.wi (Sm.wi (Sm.tr Sm.rf jX2_pass))) jX6_put) s0.1) ?_
          refine g_aload_n 1 111 dX2_readLookup_110 rfl rfl ?_
          refine g_callV (mc1 := 0) (ms1 := 0) (b := a0) (rest := []) (av := []) kX2_pass 114 dX2_readLookup_111 rfl rfl mbX2_111 imX2_pass seX2_pass gcl2.1 (Sm.k (Sm.wi (Sm.tr (Sm.wi (Sm.wi (Sm.tr Sm.rf jX2_pass))) jX6_put)) s0.1) (Nat.le_of_ble_eq_true rfl) (Nat.zero_le _) (Nat.zero_le _) (tX2_pass (Re.sm (Sm.wi (Sm.tr (Sm.wi (Sm.wi (Sm.tr Sm.rf jX2_pass))) jX6_put)) s0) (b33 c1 c5 c6 c7) ?_)
          show Go X (d + 1) mc ms kX2_readLookup Q 114 [(2, .int (59)), (0, .ref a0), (1, .int (x1))] [] (mX2_pass (g_wi (mX6_put (g_wi (g_wi (mX2_pass M a0) (a0 + 9) ((g_mi (mX2_pass M a0) a0 4)).toNatClampNeg (g_mi (mX2_pass M a0) (a0 + 13) ((g_mi (mX2_pass M a0) a0 10)).toNatClampNeg)) (a0 + 10) ((g_mi (g_wi (mX2_pass M a0) (a0 + 9) ((g_mi (mX2_pass M a0) a0 4)).toNatClampNeg (g_mi (mX2_pass M a0) (a0 + 13) ((g_mi (mX2_pass M a0) a0 10)).toNatClampNeg)) a0 4)).toNatClampNeg x1) (a0 + 2) 12 460 2 (10 + (g_mi (g_wi (g_wi (mX2_pass M a0) (a0 + 9) ((g_mi (mX2_pass M a0) a0 4)).toNatClampNeg (g_mi (mX2_pass M a0) (a0 + 13) ((g_mi (mX2_pass M a0) a0 10)).toNatClampNeg)) (a0 + 10) ((g_mi (g_wi (mX2_pass M a0) (a0 + 9) ((g_mi (mX2_pass M a0) a0 4)).toNatClampNeg (g_mi (mX2_pass M a0) (a0 + 13) ((g_mi (mX2_pass M a0) a0 10)).toNatClampNeg)) a0 4)).toNatClampNeg x1) a0 4))) a0 4 ((g_mi (mX6_put (g_wi (g_wi (mX2_pass M a0) (a0 + 9) ((g_mi (mX2_pass M a0) a0 4)).toNatClampNeg (g_mi (mX2_pass M a0) (a0 + 13) ((g_mi (mX2_pass M a0) a0 10)).toNatClampNeg)) (a0 + 10) ((g_mi (g_wi (mX2_pass M a0) (a0 + 9) ((g_mi (mX2_pass M a0) a0 4)).toNatClampNeg (g_mi (mX2_pass M a0) (a0 + 13) ((g_mi (mX2_pass M a0) a0 10)).toNatClampNeg)) a0 4)).toNatClampNeg x1) (a0 + 2) 12 460 2 (10 + (g_mi (g_wi (g_wi (mX2_pass M a0) (a0 + 9) ((g_mi (mX2_pass M a0) a0 4)).toNatClampNeg (g_mi (mX2_pass M a0) (a0 + 13) ((g_mi (mX2_pass M a0) a0 10)).toNatClampNeg)) (a0 + 10) ((g_mi (g_wi (mX2_pass M a0) (a0 + 9) ((g_mi (mX2_pass M a0) a0 4)).toNatClampNeg (g_mi (mX2_pass M a0) (a0 + 13) ((g_mi (mX2_pass M a0) a0 10)).toNatClampNeg)) a0 4)).toNatClampNeg x1) a0 4))) a0 4) + 1)) a0) 0 0
          refine g_iconst (1) 115 dX2_readLookup_114 rfl rfl ?_
          exact g_zret dX2_readLookup_115 rfl (by decide) (Nat.zero_le _) (Nat.zero_le _) (h34 c1 c5 c6 c7)
        · skip
          refine g_aload_n 1 52 dX2_readLookup_51 rfl rfl ?_
          refine g_callV (mc1 := 0) (ms1 := 0) (b := a0) (rest := []) (av := []) kX2_fail 55 dX2_readLookup_52 rfl rfl mbX2_74 imX2_fail seX2_fail gcl2.1 (Sm.k (Sm.tr Sm.rf jX2_pass) s0.1) (Nat.le_of_ble_eq_true rfl) (Nat.zero_le _) (Nat.zero_le _) (tX2_fail (Re.sm (Sm.tr Sm.rf jX2_pass) s0) (b35 c1 c5 c6 c7) ?_)
          show Go X (d + 1) mc ms kX2_readLookup Q 55 [(2, .int (59)), (0, .ref a0), (1, .int (x1))] [.int ((fX2_fail a0))] (mX2_fail (mX2_pass M a0) a0) 0 0
          exact g_zret dX2_readLookup_55 rfl (b37 c1 c5 c6 c7) (Nat.zero_le _) (Nat.zero_le _) (h36 c1 c5 c6 c7)

def fX2_readLookup (M : gM) (a0 : Nat) (x1 : Int32) : Int32 := (if x1 = 0 then (if (g_mi (mX2_pass M a0) (a0 + 13) ((g_mi (mX2_pass M a0) a0 10)).toNatClampNeg) < 0 then (fX2_fail a0) else (if 999 < (g_mi (mX2_pass M a0) (a0 + 13) ((g_mi (mX2_pass M a0) a0 10)).toNatClampNeg) then (fX2_fail a0) else (if (g_mi (mX2_pass M a0) a0 4) < 50 then 1 else (fX2_fail a0)))) else (if (g_mi (mX2_pass M a0) (a0 + 13) ((g_mi (mX2_pass M a0) a0 10)).toNatClampNeg) < 0 then (fX2_fail a0) else (if 59 < (g_mi (mX2_pass M a0) (a0 + 13) ((g_mi (mX2_pass M a0) a0 10)).toNatClampNeg) then (fX2_fail a0) else (if (g_mi (mX2_pass M a0) a0 4) < 50 then 1 else (fX2_fail a0)))))
def mX2_readLookup (M : gM) (a0 : Nat) (x1 : Int32) : gM := g_wm M (if x1 = 0 then (if (g_mi (mX2_pass M a0) (a0 + 13) ((g_mi (mX2_pass M a0) a0 10)).toNatClampNeg) < 0 then (g_mi (mX2_fail (mX2_pass M a0) a0)) else (if 999 < (g_mi (mX2_pass M a0) (a0 + 13) ((g_mi (mX2_pass M a0) a0 10)).toNatClampNeg) then (g_mi (mX2_fail (mX2_pass M a0) a0)) else (if (g_mi (mX2_pass M a0) a0 4) < 50 then (g_mi (mX2_pass (g_wi (mX6_put (g_wi (g_wi (mX2_pass M a0) (a0 + 9) ((g_mi (mX2_pass M a0) a0 4)).toNatClampNeg (g_mi (mX2_pass M a0) (a0 + 13) ((g_mi (mX2_pass M a0) a0 10)).toNatClampNeg)) (a0 + 10) ((g_mi (g_wi (mX2_pass M a0) (a0 + 9) ((g_mi (mX2_pass M a0) a0 4)).toNatClampNeg (g_mi (mX2_pass M a0) (a0 + 13) ((g_mi (mX2_pass M a0) a0 10)).toNatClampNeg)) a0 4)).toNatClampNeg x1) (a0 + 2) 12 460 2 (10 + (g_mi (g_wi (g_wi (mX2_pass M a0) (a0 + 9) ((g_mi (mX2_pass M a0) a0 4)).toNatClampNeg (g_mi (mX2_pass M a0) (a0 + 13) ((g_mi (mX2_pass M a0) a0 10)).toNatClampNeg)) (a0 + 10) ((g_mi (g_wi (mX2_pass M a0) (a0 + 9) ((g_mi (mX2_pass M a0) a0 4)).toNatClampNeg (g_mi (mX2_pass M a0) (a0 + 13) ((g_mi (mX2_pass M a0) a0 10)).toNatClampNeg)) a0 4)).toNatClampNeg x1) a0 4))) a0 4 ((g_mi (mX6_put (g_wi (g_wi (mX2_pass M a0) (a0 + 9) ((g_mi (mX2_pass M a0) a0 4)).toNatClampNeg (g_mi (mX2_pass M a0) (a0 + 13) ((g_mi (mX2_pass M a0) a0 10)).toNatClampNeg)) (a0 + 10) ((g_mi (g_wi (mX2_pass M a0) (a0 + 9) ((g_mi (mX2_pass M a0) a0 4)).toNatClampNeg (g_mi (mX2_pass M a0) (a0 + 13) ((g_mi (mX2_pass M a0) a0 10)).toNatClampNeg)) a0 4)).toNatClampNeg x1) (a0 + 2) 12 460 2 (10 + (g_mi (g_wi (g_wi (mX2_pass M a0) (a0 + 9) ((g_mi (mX2_pass M a0) a0 4)).toNatClampNeg (g_mi (mX2_pass M a0) (a0 + 13) ((g_mi (mX2_pass M a0) a0 10)).toNatClampNeg)) (a0 + 10) ((g_mi (g_wi (mX2_pass M a0) (a0 + 9) ((g_mi (mX2_pass M a0) a0 4)).toNatClampNeg (g_mi (mX2_pass M a0) (a0 + 13) ((g_mi (mX2_pass M a0) a0 10)).toNatClampNeg)) a0 4)).toNatClampNeg x1) a0 4))) a0 4) + 1)) a0)) else (g_mi (mX2_fail (mX2_pass M a0) a0))))) else (if (g_mi (mX2_pass M a0) (a0 + 13) ((g_mi (mX2_pass M a0) a0 10)).toNatClampNeg) < 0 then (g_mi (mX2_fail (mX2_pass M a0) a0)) else (if 59 < (g_mi (mX2_pass M a0) (a0 + 13) ((g_mi (mX2_pass M a0) a0 10)).toNatClampNeg) then (g_mi (mX2_fail (mX2_pass M a0) a0)) else (if (g_mi (mX2_pass M a0) a0 4) < 50 then (g_mi (mX2_pass (g_wi (mX6_put (g_wi (g_wi (mX2_pass M a0) (a0 + 9) ((g_mi (mX2_pass M a0) a0 4)).toNatClampNeg (g_mi (mX2_pass M a0) (a0 + 13) ((g_mi (mX2_pass M a0) a0 10)).toNatClampNeg)) (a0 + 10) ((g_mi (g_wi (mX2_pass M a0) (a0 + 9) ((g_mi (mX2_pass M a0) a0 4)).toNatClampNeg (g_mi (mX2_pass M a0) (a0 + 13) ((g_mi (mX2_pass M a0) a0 10)).toNatClampNeg)) a0 4)).toNatClampNeg x1) (a0 + 2) 12 460 2 (10 + (g_mi (g_wi (g_wi (mX2_pass M a0) (a0 + 9) ((g_mi (mX2_pass M a0) a0 4)).toNatClampNeg (g_mi (mX2_pass M a0) (a0 + 13) ((g_mi (mX2_pass M a0) a0 10)).toNatClampNeg)) (a0 + 10) ((g_mi (g_wi (mX2_pass M a0) (a0 + 9) ((g_mi (mX2_pass M a0) a0 4)).toNatClampNeg (g_mi (mX2_pass M a0) (a0 + 13) ((g_mi (mX2_pass M a0) a0 10)).toNatClampNeg)) a0 4)).toNatClampNeg x1) a0 4))) a0 4 ((g_mi (mX6_put (g_wi (g_wi (mX2_pass M a0) (a0 + 9) ((g_mi (mX2_pass M a0) a0 4)).toNatClampNeg (g_mi (mX2_pass M a0) (a0 + 13) ((g_mi (mX2_pass M a0) a0 10)).toNatClampNeg)) (a0 + 10) ((g_mi (g_wi (mX2_pass M a0) (a0 + 9) ((g_mi (mX2_pass M a0) a0 4)).toNatClampNeg (g_mi (mX2_pass M a0) (a0 + 13) ((g_mi (mX2_pass M a0) a0 10)).toNatClampNeg)) a0 4)).toNatClampNeg x1) (a0 + 2) 12 460 2 (10 + (g_mi (g_wi (g_wi (mX2_pass M a0) (a0 + 9) ((g_mi (mX2_pass M a0) a0 4)).toNatClampNeg (g_mi (mX2_pass M a0) (a0 + 13) ((g_mi (mX2_pass M a0) a0 10)).toNatClampNeg)) (a0 + 10) ((g_mi (g_wi (mX2_pass M a0) (a0 + 9) ((g_mi (mX2_pass M a0) a0 4)).toNatClampNeg (g_mi (mX2_pass M a0) (a0 + 13) ((g_mi (mX2_pass M a0) a0 10)).toNatClampNeg)) a0 4)).toNatClampNeg x1) a0 4))) a0 4) + 1)) a0)) else (g_mi (mX2_fail (mX2_pass M a0) a0)))))) (g_ml M)
def EX2_readLookup (M : gM) (a0 : Nat) (x1 : Int32) : Prop := (EX2_pass M a0) ∧ ((x1 = 0) → vp_in ((g_mi (mX2_pass M a0) a0 10)) 401) ∧ ((x1 = 0) → ((g_mi (mX2_pass M a0) (a0 + 13) ((g_mi (mX2_pass M a0) a0 10)).toNatClampNeg) < 0) → EX2_fail (mX2_pass M a0) a0) ∧ ((x1 = 0) → ((g_mi (mX2_pass M a0) (a0 + 13) ((g_mi (mX2_pass M a0) a0 10)).toNatClampNeg) < 0) → (fX2_fail a0) = 0 ∨ (fX2_fail a0) = 1) ∧ ((x1 = 0) → (¬ (g_mi (mX2_pass M a0) (a0 + 13) ((g_mi (mX2_pass M a0) a0 10)).toNatClampNeg) < 0) → vp_in ((g_mi (mX2_pass M a0) a0 10)) 401) ∧ ((x1 = 0) → (¬ (g_mi (mX2_pass M a0) (a0 + 13) ((g_mi (mX2_pass M a0) a0 10)).toNatClampNeg) < 0) → (999 < (g_mi (mX2_pass M a0) (a0 + 13) ((g_mi (mX2_pass M a0) a0 10)).toNatClampNeg)) → EX2_fail (mX2_pass M a0) a0) ∧ ((x1 = 0) → (¬ (g_mi (mX2_pass M a0) (a0 + 13) ((g_mi (mX2_pass M a0) a0 10)).toNatClampNeg) < 0) → (999 < (g_mi (mX2_pass M a0) (a0 + 13) ((g_mi (mX2_pass M a0) a0 10)).toNatClampNeg)) → (fX2_fail a0) = 0 ∨ (fX2_fail a0) = 1) ∧ ((x1 = 0) → (¬ (g_mi (mX2_pass M a0) (a0 + 13) ((g_mi (mX2_pass M a0) a0 10)).toNatClampNeg) < 0) → (¬ 999 < (g_mi (mX2_pass M a0) (a0 + 13) ((g_mi (mX2_pass M a0) a0 10)).toNatClampNeg)) → ((g_mi (mX2_pass M a0) a0 4) < 50) → vp_in ((g_mi (mX2_pass M a0) a0 10)) 401) ∧ ((x1 = 0) → (¬ (g_mi (mX2_pass M a0) (a0 + 13) ((g_mi (mX2_pass M a0) a0 10)).toNatClampNeg) < 0) → (¬ 999 < (g_mi (mX2_pass M a0) (a0 + 13) ((g_mi (mX2_pass M a0) a0 10)).toNatClampNeg)) → ((g_mi (mX2_pass M a0) a0 4) < 50) → vp_in ((g_mi (mX2_pass M a0) a0 4)) 50) ∧ ((x1 = 0) → (¬ (g_mi (mX2_pass M a0) (a0 + 13) ((g_mi (mX2_pass M a0) a0 10)).toNatClampNeg) < 0) → (¬ 999 < (g_mi (mX2_pass M a0) (a0 + 13) ((g_mi (mX2_pass M a0) a0 10)).toNatClampNeg)) → ((g_mi (mX2_pass M a0) a0 4) < 50) → vp_in ((g_mi (g_wi (mX2_pass M a0) (a0 + 9) ((g_mi (mX2_pass M a0) a0 4)).toNatClampNeg (g_mi (mX2_pass M a0) (a0 + 13) ((g_mi (mX2_pass M a0) a0 10)).toNatClampNeg)) a0 4)) 50) ∧ ((x1 = 0) → (¬ (g_mi (mX2_pass M a0) (a0 + 13) ((g_mi (mX2_pass M a0) a0 10)).toNatClampNeg) < 0) → (¬ 999 < (g_mi (mX2_pass M a0) (a0 + 13) ((g_mi (mX2_pass M a0) a0 10)).toNatClampNeg)) → ((g_mi (mX2_pass M a0) a0 4) < 50) → x1 = 0 ∨ x1 = 1) ∧ ((x1 = 0) → (¬ (g_mi (mX2_pass M a0) (a0 + 13) ((g_mi (mX2_pass M a0) a0 10)).toNatClampNeg) < 0) → (¬ 999 < (g_mi (mX2_pass M a0) (a0 + 13) ((g_mi (mX2_pass M a0) a0 10)).toNatClampNeg)) → ((g_mi (mX2_pass M a0) a0 4) < 50) → EX6_put (g_wi (g_wi (mX2_pass M a0) (a0 + 9) ((g_mi (mX2_pass M a0) a0 4)).toNatClampNeg (g_mi (mX2_pass M a0) (a0 + 13) ((g_mi (mX2_pass M a0) a0 10)).toNatClampNeg)) (a0 + 10) ((g_mi (g_wi (mX2_pass M a0) (a0 + 9) ((g_mi (mX2_pass M a0) a0 4)).toNatClampNeg (g_mi (mX2_pass M a0) (a0 + 13) ((g_mi (mX2_pass M a0) a0 10)).toNatClampNeg)) a0 4)).toNatClampNeg x1) (a0 + 2) 12 460 2 (10 + (g_mi (g_wi (g_wi (mX2_pass M a0) (a0 + 9) ((g_mi (mX2_pass M a0) a0 4)).toNatClampNeg (g_mi (mX2_pass M a0) (a0 + 13) ((g_mi (mX2_pass M a0) a0 10)).toNatClampNeg)) (a0 + 10) ((g_mi (g_wi (mX2_pass M a0) (a0 + 9) ((g_mi (mX2_pass M a0) a0 4)).toNatClampNeg (g_mi (mX2_pass M a0) (a0 + 13) ((g_mi (mX2_pass M a0) a0 10)).toNatClampNeg)) a0 4)).toNatClampNeg x1) a0 4))) ∧ ((x1 = 0) → (¬ (g_mi (mX2_pass M a0) (a0 + 13) ((g_mi (mX2_pass M a0) a0 10)).toNatClampNeg) < 0) → (¬ 999 < (g_mi (mX2_pass M a0) (a0 + 13) ((g_mi (mX2_pass M a0) a0 10)).toNatClampNeg)) → ((g_mi (mX2_pass M a0) a0 4) < 50) → EX2_pass (g_wi (mX6_put (g_wi (g_wi (mX2_pass M a0) (a0 + 9) ((g_mi (mX2_pass M a0) a0 4)).toNatClampNeg (g_mi (mX2_pass M a0) (a0 + 13) ((g_mi (mX2_pass M a0) a0 10)).toNatClampNeg)) (a0 + 10) ((g_mi (g_wi (mX2_pass M a0) (a0 + 9) ((g_mi (mX2_pass M a0) a0 4)).toNatClampNeg (g_mi (mX2_pass M a0) (a0 + 13) ((g_mi (mX2_pass M a0) a0 10)).toNatClampNeg)) a0 4)).toNatClampNeg x1) (a0 + 2) 12 460 2 (10 + (g_mi (g_wi (g_wi (mX2_pass M a0) (a0 + 9) ((g_mi (mX2_pass M a0) a0 4)).toNatClampNeg (g_mi (mX2_pass M a0) (a0 + 13) ((g_mi (mX2_pass M a0) a0 10)).toNatClampNeg)) (a0 + 10) ((g_mi (g_wi (mX2_pass M a0) (a0 + 9) ((g_mi (mX2_pass M a0) a0 4)).toNatClampNeg (g_mi (mX2_pass M a0) (a0 + 13) ((g_mi (mX2_pass M a0) a0 10)).toNatClampNeg)) a0 4)).toNatClampNeg x1) a0 4))) a0 4 ((g_mi (mX6_put (g_wi (g_wi (mX2_pass M a0) (a0 + 9) ((g_mi (mX2_pass M a0) a0 4)).toNatClampNeg (g_mi (mX2_pass M a0) (a0 + 13) ((g_mi (mX2_pass M a0) a0 10)).toNatClampNeg)) (a0 + 10) ((g_mi (g_wi (mX2_pass M a0) (a0 + 9) ((g_mi (mX2_pass M a0) a0 4)).toNatClampNeg (g_mi (mX2_pass M a0) (a0 + 13) ((g_mi (mX2_pass M a0) a0 10)).toNatClampNeg)) a0 4)).toNatClampNeg x1) (a0 + 2) 12 460 2 (10 + (g_mi (g_wi (g_wi (mX2_pass M a0) (a0 + 9) ((g_mi (mX2_pass M a0) a0 4)).toNatClampNeg (g_mi (mX2_pass M a0) (a0 + 13) ((g_mi (mX2_pass M a0) a0 10)).toNatClampNeg)) (a0 + 10) ((g_mi (g_wi (mX2_pass M a0) (a0 + 9) ((g_mi (mX2_pass M a0) a0 4)).toNatClampNeg (g_mi (mX2_pass M a0) (a0 + 13) ((g_mi (mX2_pass M a0) a0 10)).toNatClampNeg)) a0 4)).toNatClampNeg x1) a0 4))) a0 4) + 1)) a0) ∧ ((x1 = 0) → (¬ (g_mi (mX2_pass M a0) (a0 + 13) ((g_mi (mX2_pass M a0) a0 10)).toNatClampNeg) < 0) → (¬ 999 < (g_mi (mX2_pass M a0) (a0 + 13) ((g_mi (mX2_pass M a0) a0 10)).toNatClampNeg)) → (¬ (g_mi (mX2_pass M a0) a0 4) < 50) → EX2_fail (mX2_pass M a0) a0) ∧ ((x1 = 0) → (¬ (g_mi (mX2_pass M a0) (a0 + 13) ((g_mi (mX2_pass M a0) a0 10)).toNatClampNeg) < 0) → (¬ 999 < (g_mi (mX2_pass M a0) (a0 + 13) ((g_mi (mX2_pass M a0) a0 10)).toNatClampNeg)) → (¬ (g_mi (mX2_pass M a0) a0 4) < 50) → (fX2_fail a0) = 0 ∨ (fX2_fail a0) = 1) ∧ ((¬ x1 = 0) → vp_in ((g_mi (mX2_pass M a0) a0 10)) 401) ∧ ((¬ x1 = 0) → ((g_mi (mX2_pass M a0) (a0 + 13) ((g_mi (mX2_pass M a0) a0 10)).toNatClampNeg) < 0) → EX2_fail (mX2_pass M a0) a0) ∧ ((¬ x1 = 0) → ((g_mi (mX2_pass M a0) (a0 + 13) ((g_mi (mX2_pass M a0) a0 10)).toNatClampNeg) < 0) → (fX2_fail a0) = 0 ∨ (fX2_fail a0) = 1) ∧ ((¬ x1 = 0) → (¬ (g_mi (mX2_pass M a0) (a0 + 13) ((g_mi (mX2_pass M a0) a0 10)).toNatClampNeg) < 0) → vp_in ((g_mi (mX2_pass M a0) a0 10)) 401) ∧ ((¬ x1 = 0) → (¬ (g_mi (mX2_pass M a0) (a0 + 13) ((g_mi (mX2_pass M a0) a0 10)).toNatClampNeg) < 0) → (59 < (g_mi (mX2_pass M a0) (a0 + 13) ((g_mi (mX2_pass M a0) a0 10)).toNatClampNeg)) → EX2_fail (mX2_pass M a0) a0) ∧ ((¬ x1 = 0) → (¬ (g_mi (mX2_pass M a0) (a0 + 13) ((g_mi (mX2_pass M a0) a0 10)).toNatClampNeg) < 0) → (59 < (g_mi (mX2_pass M a0) (a0 + 13) ((g_mi (mX2_pass M a0) a0 10)).toNatClampNeg)) → (fX2_fail a0) = 0 ∨ (fX2_fail a0) = 1) ∧ ((¬ x1 = 0) → (¬ (g_mi (mX2_pass M a0) (a0 + 13) ((g_mi (mX2_pass M a0) a0 10)).toNatClampNeg) < 0) → (¬ 59 < (g_mi (mX2_pass M a0) (a0 + 13) ((g_mi (mX2_pass M a0) a0 10)).toNatClampNeg)) → ((g_mi (mX2_pass M a0) a0 4) < 50) → vp_in ((g_mi (mX2_pass M a0) a0 10)) 401) ∧ ((¬ x1 = 0) → (¬ (g_mi (mX2_pass M a0) (a0 + 13) ((g_mi (mX2_pass M a0) a0 10)).toNatClampNeg) < 0) → (¬ 59 < (g_mi (mX2_pass M a0) (a0 + 13) ((g_mi (mX2_pass M a0) a0 10)).toNatClampNeg)) → ((g_mi (mX2_pass M a0) a0 4) < 50) → vp_in ((g_mi (mX2_pass M a0) a0 4)) 50) ∧ ((¬ x1 = 0) → (¬ (g_mi (mX2_pass M a0) (a0 + 13) ((g_mi (mX2_pass M a0) a0 10)).toNatClampNeg) < 0) → (¬ 59 < (g_mi (mX2_pass M a0) (a0 + 13) ((g_mi (mX2_pass M a0) a0 10)).toNatClampNeg)) → ((g_mi (mX2_pass M a0) a0 4) < 50) → vp_in ((g_mi (g_wi (mX2_pass M a0) (a0 + 9) ((g_mi (mX2_pass M a0) a0 4)).toNatClampNeg (g_mi (mX2_pass M a0) (a0 + 13) ((g_mi (mX2_pass M a0) a0 10)).toNatClampNeg)) a0 4)) 50) ∧ ((¬ x1 = 0) → (¬ (g_mi (mX2_pass M a0) (a0 + 13) ((g_mi (mX2_pass M a0) a0 10)).toNatClampNeg) < 0) → (¬ 59 < (g_mi (mX2_pass M a0) (a0 + 13) ((g_mi (mX2_pass M a0) a0 10)).toNatClampNeg)) → ((g_mi (mX2_pass M a0) a0 4) < 50) → x1 = 0 ∨ x1 = 1) ∧ ((¬ x1 = 0) → (¬ (g_mi (mX2_pass M a0) (a0 + 13) ((g_mi (mX2_pass M a0) a0 10)).toNatClampNeg) < 0) → (¬ 59 < (g_mi (mX2_pass M a0) (a0 + 13) ((g_mi (mX2_pass M a0) a0 10)).toNatClampNeg)) → ((g_mi (mX2_pass M a0) a0 4) < 50) → EX6_put (g_wi (g_wi (mX2_pass M a0) (a0 + 9) ((g_mi (mX2_pass M a0) a0 4)).toNatClampNeg (g_mi (mX2_pass M a0) (a0 + 13) ((g_mi (mX2_pass M a0) a0 10)).toNatClampNeg)) (a0 + 10) ((g_mi (g_wi (mX2_pass M a0) (a0 + 9) ((g_mi (mX2_pass M a0) a0 4)).toNatClampNeg (g_mi (mX2_pass M a0) (a0 + 13) ((g_mi (mX2_pass M a0) a0 10)).toNatClampNeg)) a0 4)).toNatClampNeg x1) (a0 + 2) 12 460 2 (10 + (g_mi (g_wi (g_wi (mX2_pass M a0) (a0 + 9) ((g_mi (mX2_pass M a0) a0 4)).toNatClampNeg (g_mi (mX2_pass M a0) (a0 + 13) ((g_mi (mX2_pass M a0) a0 10)).toNatClampNeg)) (a0 + 10) ((g_mi (g_wi (mX2_pass M a0) (a0 + 9) ((g_mi (mX2_pass M a0) a0 4)).toNatClampNeg (g_mi (mX2_pass M a0) (a0 + 13) ((g_mi (mX2_pass M a0) a0 10)).toNatClampNeg)) a0 4)).toNatClampNeg x1) a0 4))) ∧ ((¬ x1 = 0) → (¬ (g_mi (mX2_pass M a0) (a0 + 13) ((g_mi (mX2_pass M a0) a0 10)).toNatClampNeg) < 0) → (¬ 59 < (g_mi (mX2_pass M a0) (a0 + 13) ((g_mi (mX2_pass M a0) a0 10)).toNatClampNeg)) → ((g_mi (mX2_pass M a0) a0 4) < 50) → EX2_pass (g_wi (mX6_put (g_wi (g_wi (mX2_pass M a0) (a0 + 9) ((g_mi (mX2_pass M a0) a0 4)).toNatClampNeg (g_mi (mX2_pass M a0) (a0 + 13) ((g_mi (mX2_pass M a0) a0 10)).toNatClampNeg)) (a0 + 10) ((g_mi (g_wi (mX2_pass M a0) (a0 + 9) ((g_mi (mX2_pass M a0) a0 4)).toNatClampNeg (g_mi (mX2_pass M a0) (a0 + 13) ((g_mi (mX2_pass M a0) a0 10)).toNatClampNeg)) a0 4)).toNatClampNeg x1) (a0 + 2) 12 460 2 (10 + (g_mi (g_wi (g_wi (mX2_pass M a0) (a0 + 9) ((g_mi (mX2_pass M a0) a0 4)).toNatClampNeg (g_mi (mX2_pass M a0) (a0 + 13) ((g_mi (mX2_pass M a0) a0 10)).toNatClampNeg)) (a0 + 10) ((g_mi (g_wi (mX2_pass M a0) (a0 + 9) ((g_mi (mX2_pass M a0) a0 4)).toNatClampNeg (g_mi (mX2_pass M a0) (a0 + 13) ((g_mi (mX2_pass M a0) a0 10)).toNatClampNeg)) a0 4)).toNatClampNeg x1) a0 4))) a0 4 ((g_mi (mX6_put (g_wi (g_wi (mX2_pass M a0) (a0 + 9) ((g_mi (mX2_pass M a0) a0 4)).toNatClampNeg (g_mi (mX2_pass M a0) (a0 + 13) ((g_mi (mX2_pass M a0) a0 10)).toNatClampNeg)) (a0 + 10) ((g_mi (g_wi (mX2_pass M a0) (a0 + 9) ((g_mi (mX2_pass M a0) a0 4)).toNatClampNeg (g_mi (mX2_pass M a0) (a0 + 13) ((g_mi (mX2_pass M a0) a0 10)).toNatClampNeg)) a0 4)).toNatClampNeg x1) (a0 + 2) 12 460 2 (10 + (g_mi (g_wi (g_wi (mX2_pass M a0) (a0 + 9) ((g_mi (mX2_pass M a0) a0 4)).toNatClampNeg (g_mi (mX2_pass M a0) (a0 + 13) ((g_mi (mX2_pass M a0) a0 10)).toNatClampNeg)) (a0 + 10) ((g_mi (g_wi (mX2_pass M a0) (a0 + 9) ((g_mi (mX2_pass M a0) a0 4)).toNatClampNeg (g_mi (mX2_pass M a0) (a0 + 13) ((g_mi (mX2_pass M a0) a0 10)).toNatClampNeg)) a0 4)).toNatClampNeg x1) a0 4))) a0 4) + 1)) a0) ∧ ((¬ x1 = 0) → (¬ (g_mi (mX2_pass M a0) (a0 + 13) ((g_mi (mX2_pass M a0) a0 10)).toNatClampNeg) < 0) → (¬ 59 < (g_mi (mX2_pass M a0) (a0 + 13) ((g_mi (mX2_pass M a0) a0 10)).toNatClampNeg)) → (¬ (g_mi (mX2_pass M a0) a0 4) < 50) → EX2_fail (mX2_pass M a0) a0) ∧ ((¬ x1 = 0) → (¬ (g_mi (mX2_pass M a0) (a0 + 13) ((g_mi (mX2_pass M a0) a0 10)).toNatClampNeg) < 0) → (¬ 59 < (g_mi (mX2_pass M a0) (a0 + 13) ((g_mi (mX2_pass M a0) a0 10)).toNatClampNeg)) → (¬ (g_mi (mX2_pass M a0) a0 4) < 50) → (fX2_fail a0) = 0 ∨ (fX2_fail a0) = 1)
theorem jX2_readLookup {M : gM} {a0 : Nat} {x1 : Int32} : Sm M (mX2_readLookup M a0 x1) := Sm.wm
theorem tX2_readLookup {X : gX} {d mc ms : Nat} {Q : Option Value → gM → Prop} {M : gM} {a0 : Nat} {x1 : Int32} (s0 : Re M a0) (hE : EX2_readLookup M a0 x1) (hQ : Q (some (.int (fX2_readLookup M a0 x1))) (mX2_readLookup M a0 x1)) : Cn X (d + 1) mc ms kX2_readLookup [.ref a0, .int (x1)] M Q := by
  unfold fX2_readLookup mX2_readLookup at hQ
  obtain ⟨b1, b2, b3, b5, b6, b7, b9, b10, b11, b12, b13, b14, b15, b17, b19, b20, b21, b23, b24, b25, b27, b28, b29, b30, b31, b32, b33, b35, b37⟩ := hE
  exact sX2_readLookup_0 s0 b1 b2 b3 (fun c1 c2 => by simp only [if_pos c1, if_pos c2] at hQ; exact Sm.q (Sm.tr (Sm.tr Sm.rf jX2_pass) jX2_fail) hQ) b5 b6 b7 (fun c1 c2 c3 => by simp only [if_pos c1, if_neg c2, if_pos c3] at hQ; exact Sm.q (Sm.tr (Sm.tr Sm.rf jX2_pass) jX2_fail) hQ) b9 b10 b11 b12 b13 b14 b15 (fun c1 c2 c3 c4 => by simp only [if_pos c1, if_neg c2, if_neg c3, if_pos c4] at hQ; exact Sm.q (Sm.tr (Sm.wi (Sm.tr (Sm.wi (Sm.wi (Sm.tr Sm.rf jX2_pass))) jX6_put)) jX2_pass) hQ) b17 (fun c1 c2 c3 c4 => by simp only [if_pos c1, if_neg c2, if_neg c3, if_neg c4] at hQ; exact Sm.q (Sm.tr (Sm.tr Sm.rf jX2_pass) jX2_fail) hQ) b19 b20 b21 (fun c1 c5 => by simp only [if_neg c1, if_pos c5] at hQ; exact Sm.q (Sm.tr (Sm.tr Sm.rf jX2_pass) jX2_fail) hQ) b23 b24 b25 (fun c1 c5 c6 => by simp only [if_neg c1, if_neg c5, if_pos c6] at hQ; exact Sm.q (Sm.tr (Sm.tr Sm.rf jX2_pass) jX2_fail) hQ) b27 b28 b29 b30 b31 b32 b33 (fun c1 c5 c6 c7 => by simp only [if_neg c1, if_neg c5, if_neg c6, if_pos c7] at hQ; exact Sm.q (Sm.tr (Sm.wi (Sm.tr (Sm.wi (Sm.wi (Sm.tr Sm.rf jX2_pass))) jX6_put)) jX2_pass) hQ) b35 (fun c1 c5 c6 c7 => by simp only [if_neg c1, if_neg c5, if_neg c6, if_neg c7] at hQ; exact Sm.q (Sm.tr (Sm.tr Sm.rf jX2_pass) jX2_fail) hQ) b37
/-! X4_valueOf  -/
set_option maxRecDepth 4000 in
theorem sX4_valueOf_0 {X : gX} {d mc ms : Nat} {Q : Option Value → gM → Prop} {M : gM} {a0 : Nat} {a1 : Nat} {n1 m1 : Nat} {x2 : Int32} (s0 : Su M a0) (s1 : Tx M a1 n1 m1) (h1 : Go X (d + 1) mc ms kX4_valueOf Q 8 [(0, .ref a0), (1, .ref a1), (3, .int (0)), (4, .int (x2)), (5, .int (0))] [] M 0 0) : Cn X (d + 1) mc ms kX4_valueOf [.ref a0, .ref a1, .int (x2)] M Q := by
  refine g_meth rfl rfl (Nat.le_of_ble_eq_true rfl) rfl ?_
  refine g_iconst (0) 1 dX4_valueOf_0 rfl rfl ?_
  refine g_istore_n 2 [(3, .int (0)), (0, .ref a0), (1, .ref a1), (2, .int (x2))] dX4_valueOf_1 rfl (Nat.le_of_ble_eq_true rfl) rfl ?_
  refine g_iload_n 3 3 dX4_valueOf_2 rfl rfl ?_
  refine g_istore 5 [(4, .int (x2)), (3, .int (0)), (0, .ref a0), (1, .ref a1), (2, .int (x2))] dX4_valueOf_3 rfl (Nat.le_of_ble_eq_true rfl) rfl ?_
  refine g_iconst (0) 6 dX4_valueOf_5 rfl rfl ?_
  refine g_istore 8 [(5, .int (0)), (4, .int (x2)), (3, .int (0)), (0, .ref a0), (1, .ref a1), (2, .int (x2))] dX4_valueOf_6 rfl (Nat.le_of_ble_eq_true rfl) rfl ?_
  exact g_sub [3, 4, 2, 1, 0] _ rfl (h1)

set_option maxRecDepth 4000 in
theorem sX4_valueOf_8 {X : gX} {d mc ms : Nat} {Q : Option Value → gM → Prop} {M : gM} {c z : Nat} {a0 : Nat} {a1 : Nat} {n1 m1 : Nat} {x3 : Int32} {x4 : Int32} {x5 : Int32} (s0 : Su M a0) (s1 : Tx M a1 n1 m1) (h1 : (460 ≤ x5) → (¬ x3 = 1) → Q (some (.int ((-2147483648)))) M) (w2 : c ≤ mc) (w3 : z ≤ ms) (h4 : (460 ≤ x5) → (x3 = 1) → Q (some (.int ((g_mi M (a0 + 2) 0)))) M) (h5 : (¬ 460 ≤ x5) → (x4 < 0) → (¬ x3 = 1) → Q (some (.int ((-2147483648)))) M) (h6 : (¬ 460 ≤ x5) → (x4 < 0) → (x3 = 1) → Q (some (.int ((g_mi M (a0 + 2) 0)))) M) (h7 : (¬ 460 ≤ x5) → (¬ x4 < 0) → ((g_mi M a1 7) ≤ x4) → (¬ x3 = 1) → Q (some (.int ((-2147483648)))) M) (h8 : (¬ 460 ≤ x5) → (¬ x4 < 0) → ((g_mi M a1 7) ≤ x4) → (x3 = 1) → Q (some (.int ((g_mi M (a0 + 2) 0)))) M) (b9 : (¬ 460 ≤ x5) → (¬ x4 < 0) → (¬ (g_mi M a1 7) ≤ x4) → vp_in (x4) m1) (h10 : (¬ 460 ≤ x5) → (¬ x4 < 0) → (¬ (g_mi M a1 7) ≤ x4) → (¬ (g_mi M (a1 + 5) (x4).toNatClampNeg) = 0) → ((g_mi M (a1 + 5) (x4).toNatClampNeg) = 1) → (51 ≤ x3) → Q (some (.int ((-2147483648)))) M) (h11 : (¬ 460 ≤ x5) → (¬ x4 < 0) → (¬ (g_mi M a1 7) ≤ x4) → (¬ (g_mi M (a1 + 5) (x4).toNatClampNeg) = 0) → ((g_mi M (a1 + 5) (x4).toNatClampNeg) = 1) → (¬ 51 ≤ x3) → ((g_mi M (a1 + 6) (x4).toNatClampNeg) < 0) → Q (some (.int ((-2147483648)))) M) (b12 : (¬ 460 ≤ x5) → (¬ x4 < 0) → (¬ (g_mi M a1 7) ≤ x4) → (¬ (g_mi M (a1 + 5) (x4).toNatClampNeg) = 0) → ((g_mi M (a1 + 5) (x4).toNatClampNeg) = 1) → (¬ 51 ≤ x3) → (¬ (g_mi M (a1 + 6) (x4).toNatClampNeg) < 0) → vp_in (x3) 51) (h13 : (¬ 460 ≤ x5) → (¬ x4 < 0) → (¬ (g_mi M a1 7) ≤ x4) → (¬ (g_mi M (a1 + 5) (x4).toNatClampNeg) = 0) → ((g_mi M (a1 + 5) (x4).toNatClampNeg) = 1) → (¬ 51 ≤ x3) → (¬ (g_mi M (a1 + 6) (x4).toNatClampNeg) < 0) → Go X (d + 1) mc ms kX4_valueOf Q 8 [(0, .ref a0), (1, .ref a1), (3, .int ((x3 + 1))), (4, .int ((x4 + 1))), (5, .int ((x5 + 1)))] [] (g_wi M (a0 + 2) (x3).toNatClampNeg (g_mi M (a1 + 6) (x4).toNatClampNeg)) c z) (b14 : (¬ 460 ≤ x5) → (¬ x4 < 0) → (¬ (g_mi M a1 7) ≤ x4) → (¬ (g_mi M (a1 + 5) (x4).toNatClampNeg) = 0) → (¬ (g_mi M (a1 + 5) (x4).toNatClampNeg) = 1) → (¬ (g_mi M (a1 + 5) (x4).toNatClampNeg) = 2) → (1 ≤ x3) → (¬ (g_mi M (a1 + 5) (x4).toNatClampNeg) = 3) → ((g_mi M (a1 + 5) (x4).toNatClampNeg) = 4) → vp_in ((x3 - 1)) 51) (h15 : (¬ 460 ≤ x5) → (¬ x4 < 0) → (¬ (g_mi M a1 7) ≤ x4) → (¬ (g_mi M (a1 + 5) (x4).toNatClampNeg) = 0) → (¬ (g_mi M (a1 + 5) (x4).toNatClampNeg) = 1) → (¬ (g_mi M (a1 + 5) (x4).toNatClampNeg) = 2) → (1 ≤ x3) → (¬ (g_mi M (a1 + 5) (x4).toNatClampNeg) = 3) → ((g_mi M (a1 + 5) (x4).toNatClampNeg) = 4) → (¬ (g_mi M (a0 + 2) ((x3 - 1)).toNatClampNeg) = 0) → Go X (d + 1) mc ms kX4_valueOf Q 8 [(0, .ref a0), (1, .ref a1), (3, .int ((x3 + (-1)))), (4, .int ((x4 + 1))), (5, .int ((x5 + 1)))] [] M c z) (h16 : (¬ 460 ≤ x5) → (¬ x4 < 0) → (¬ (g_mi M a1 7) ≤ x4) → (¬ (g_mi M (a1 + 5) (x4).toNatClampNeg) = 0) → (¬ (g_mi M (a1 + 5) (x4).toNatClampNeg) = 1) → (¬ (g_mi M (a1 + 5) (x4).toNatClampNeg) = 2) → (1 ≤ x3) → (¬ (g_mi M (a1 + 5) (x4).toNatClampNeg) = 3) → ((g_mi M (a1 + 5) (x4).toNatClampNeg) = 4) → ((g_mi M (a0 + 2) ((x3 - 1)).toNatClampNeg) = 0) → Go X (d + 1) mc ms kX4_valueOf Q 8 [(0, .ref a0), (1, .ref a1), (3, .int (x3)), (4, .int ((g_mi M (a1 + 6) (x4).toNatClampNeg))), (5, .int ((x5 + 1)))] [] M c z) (b17 : (¬ 460 ≤ x5) → (¬ x4 < 0) → (¬ (g_mi M a1 7) ≤ x4) → (¬ (g_mi M (a1 + 5) (x4).toNatClampNeg) = 0) → (¬ (g_mi M (a1 + 5) (x4).toNatClampNeg) = 1) → (¬ (g_mi M (a1 + 5) (x4).toNatClampNeg) = 2) → (1 ≤ x3) → (¬ (g_mi M (a1 + 5) (x4).toNatClampNeg) = 3) → (¬ (g_mi M (a1 + 5) (x4).toNatClampNeg) = 4) → (¬ (g_mi M (a1 + 5) (x4).toNatClampNeg) = 5) → (1 ≤ (x3 + (-1))) → vp_in (((x3 + (-1)) - 1)) 51) (b18 : (¬ 460 ≤ x5) → (¬ x4 < 0) → (¬ (g_mi M a1 7) ≤ x4) → (¬ (g_mi M (a1 + 5) (x4).toNatClampNeg) = 0) → (¬ (g_mi M (a1 + 5) (x4).toNatClampNeg) = 1) → (¬ (g_mi M (a1 + 5) (x4).toNatClampNeg) = 2) → (1 ≤ x3) → (¬ (g_mi M (a1 + 5) (x4).toNatClampNeg) = 3) → (¬ (g_mi M (a1 + 5) (x4).toNatClampNeg) = 4) → (¬ (g_mi M (a1 + 5) (x4).toNatClampNeg) = 5) → (1 ≤ (x3 + (-1))) → vp_in ((x3 + (-1))) 51) (b19 : (¬ 460 ≤ x5) → (¬ x4 < 0) → (¬ (g_mi M a1 7) ≤ x4) → (¬ (g_mi M (a1 + 5) (x4).toNatClampNeg) = 0) → (¬ (g_mi M (a1 + 5) (x4).toNatClampNeg) = 1) → (¬ (g_mi M (a1 + 5) (x4).toNatClampNeg) = 2) → (1 ≤ x3) → (¬ (g_mi M (a1 + 5) (x4).toNatClampNeg) = 3) → (¬ (g_mi M (a1 + 5) (x4).toNatClampNeg) = 4) → (¬ (g_mi M (a1 + 5) (x4).toNatClampNeg) = 5) → (1 ≤ (x3 + (-1))) → EX4_combined M (g_mi M (a1 + 5) (x4).toNatClampNeg) (g_mi M (a0 + 2) (((x3 + (-1)) - 1)).toNatClampNeg) (g_mi M (a0 + 2) ((x3 + (-1))).toNatClampNeg)) (b20 : (¬ 460 ≤ x5) → (¬ x4 < 0) → (¬ (g_mi M a1 7) ≤ x4) → (¬ (g_mi M (a1 + 5) (x4).toNatClampNeg) = 0) → (¬ (g_mi M (a1 + 5) (x4).toNatClampNeg) = 1) → (¬ (g_mi M (a1 + 5) (x4).toNatClampNeg) = 2) → (1 ≤ x3) → (¬ (g_mi M (a1 + 5) (x4).toNatClampNeg) = 3) → (¬ (g_mi M (a1 + 5) (x4).toNatClampNeg) = 4) → (¬ (g_mi M (a1 + 5) (x4).toNatClampNeg) = 5) → (1 ≤ (x3 + (-1))) → (¬ (fX4_combined (g_mi M (a1 + 5) (x4).toNatClampNeg) (g_mi M (a0 + 2) (((x3 + (-1)) - 1)).toNatClampNeg) (g_mi M (a0 + 2) ((x3 + (-1))).toNatClampNeg)) = (-2147483648)) → vp_in (((x3 + (-1)) - 1)) 51) (h21 : (¬ 460 ≤ x5) → (¬ x4 < 0) → (¬ (g_mi M a1 7) ≤ x4) → (¬ (g_mi M (a1 + 5) (x4).toNatClampNeg) = 0) → (¬ (g_mi M (a1 + 5) (x4).toNatClampNeg) = 1) → (¬ (g_mi M (a1 + 5) (x4).toNatClampNeg) = 2) → (1 ≤ x3) → (¬ (g_mi M (a1 + 5) (x4).toNatClampNeg) = 3) → (¬ (g_mi M (a1 + 5) (x4).toNatClampNeg) = 4) → (¬ (g_mi M (a1 + 5) (x4).toNatClampNeg) = 5) → (1 ≤ (x3 + (-1))) → (¬ (fX4_combined (g_mi M (a1 + 5) (x4).toNatClampNeg) (g_mi M (a0 + 2) (((x3 + (-1)) - 1)).toNatClampNeg) (g_mi M (a0 + 2) ((x3 + (-1))).toNatClampNeg)) = (-2147483648)) → Go X (d + 1) mc ms kX4_valueOf Q 8 [(0, .ref a0), (1, .ref a1), (3, .int ((x3 + (-1)))), (4, .int ((x4 + 1))), (5, .int ((x5 + 1)))] [] (g_wi M (a0 + 2) (((x3 + (-1)) - 1)).toNatClampNeg (fX4_combined (g_mi M (a1 + 5) (x4).toNatClampNeg) (g_mi M (a0 + 2) (((x3 + (-1)) - 1)).toNatClampNeg) (g_mi M (a0 + 2) ((x3 + (-1))).toNatClampNeg))) c z) (h22 : (¬ 460 ≤ x5) → (¬ x4 < 0) → (¬ (g_mi M a1 7) ≤ x4) → (¬ (g_mi M (a1 + 5) (x4).toNatClampNeg) = 0) → (¬ (g_mi M (a1 + 5) (x4).toNatClampNeg) = 1) → (¬ (g_mi M (a1 + 5) (x4).toNatClampNeg) = 2) → (1 ≤ x3) → (¬ (g_mi M (a1 + 5) (x4).toNatClampNeg) = 3) → (¬ (g_mi M (a1 + 5) (x4).toNatClampNeg) = 4) → (¬ (g_mi M (a1 + 5) (x4).toNatClampNeg) = 5) → (1 ≤ (x3 + (-1))) → ((fX4_combined (g_mi M (a1 + 5) (x4).toNatClampNeg) (g_mi M (a0 + 2) (((x3 + (-1)) - 1)).toNatClampNeg) (g_mi M (a0 + 2) ((x3 + (-1))).toNatClampNeg)) = (-2147483648)) → Q (some (.int ((-2147483648)))) M) (h23 : (¬ 460 ≤ x5) → (¬ x4 < 0) → (¬ (g_mi M a1 7) ≤ x4) → (¬ (g_mi M (a1 + 5) (x4).toNatClampNeg) = 0) → (¬ (g_mi M (a1 + 5) (x4).toNatClampNeg) = 1) → (¬ (g_mi M (a1 + 5) (x4).toNatClampNeg) = 2) → (1 ≤ x3) → (¬ (g_mi M (a1 + 5) (x4).toNatClampNeg) = 3) → (¬ (g_mi M (a1 + 5) (x4).toNatClampNeg) = 4) → (¬ (g_mi M (a1 + 5) (x4).toNatClampNeg) = 5) → (¬ 1 ≤ (x3 + (-1))) → Q (some (.int ((-2147483648)))) M) (b24 : (¬ 460 ≤ x5) → (¬ x4 < 0) → (¬ (g_mi M a1 7) ≤ x4) → (¬ (g_mi M (a1 + 5) (x4).toNatClampNeg) = 0) → (¬ (g_mi M (a1 + 5) (x4).toNatClampNeg) = 1) → (¬ (g_mi M (a1 + 5) (x4).toNatClampNeg) = 2) → (1 ≤ x3) → (¬ (g_mi M (a1 + 5) (x4).toNatClampNeg) = 3) → (¬ (g_mi M (a1 + 5) (x4).toNatClampNeg) = 4) → ((g_mi M (a1 + 5) (x4).toNatClampNeg) = 5) → vp_in ((x3 - 1)) 51) (h25 : (¬ 460 ≤ x5) → (¬ x4 < 0) → (¬ (g_mi M a1 7) ≤ x4) → (¬ (g_mi M (a1 + 5) (x4).toNatClampNeg) = 0) → (¬ (g_mi M (a1 + 5) (x4).toNatClampNeg) = 1) → (¬ (g_mi M (a1 + 5) (x4).toNatClampNeg) = 2) → (1 ≤ x3) → (¬ (g_mi M (a1 + 5) (x4).toNatClampNeg) = 3) → (¬ (g_mi M (a1 + 5) (x4).toNatClampNeg) = 4) → ((g_mi M (a1 + 5) (x4).toNatClampNeg) = 5) → (¬ (g_mi M (a0 + 2) ((x3 - 1)).toNatClampNeg) = 1) → Go X (d + 1) mc ms kX4_valueOf Q 8 [(0, .ref a0), (1, .ref a1), (3, .int ((x3 + (-1)))), (4, .int ((x4 + 1))), (5, .int ((x5 + 1)))] [] M c z) (h26 : (¬ 460 ≤ x5) → (¬ x4 < 0) → (¬ (g_mi M a1 7) ≤ x4) → (¬ (g_mi M (a1 + 5) (x4).toNatClampNeg) = 0) → (¬ (g_mi M (a1 + 5) (x4).toNatClampNeg) = 1) → (¬ (g_mi M (a1 + 5) (x4).toNatClampNeg) = 2) → (1 ≤ x3) → (¬ (g_mi M (a1 + 5) (x4).toNatClampNeg) = 3) → (¬ (g_mi M (a1 + 5) (x4).toNatClampNeg) = 4) → ((g_mi M (a1 + 5) (x4).toNatClampNeg) = 5) → ((g_mi M (a0 + 2) ((x3 - 1)).toNatClampNeg) = 1) → Go X (d + 1) mc ms kX4_valueOf Q 8 [(0, .ref a0), (1, .ref a1), (3, .int (x3)), (4, .int ((g_mi M (a1 + 6) (x4).toNatClampNeg))), (5, .int ((x5 + 1)))] [] M c z) (b27 : (¬ 460 ≤ x5) → (¬ x4 < 0) → (¬ (g_mi M a1 7) ≤ x4) → (¬ (g_mi M (a1 + 5) (x4).toNatClampNeg) = 0) → (¬ (g_mi M (a1 + 5) (x4).toNatClampNeg) = 1) → (¬ (g_mi M (a1 + 5) (x4).toNatClampNeg) = 2) → (1 ≤ x3) → ((g_mi M (a1 + 5) (x4).toNatClampNeg) = 3) → vp_in ((x3 - 1)) 51) (h28 : (¬ 460 ≤ x5) → (¬ x4 < 0) → (¬ (g_mi M a1 7) ≤ x4) → (¬ (g_mi M (a1 + 5) (x4).toNatClampNeg) = 0) → (¬ (g_mi M (a1 + 5) (x4).toNatClampNeg) = 1) → (¬ (g_mi M (a1 + 5) (x4).toNatClampNeg) = 2) → (1 ≤ x3) → ((g_mi M (a1 + 5) (x4).toNatClampNeg) = 3) → Go X (d + 1) mc ms kX4_valueOf Q 8 [(0, .ref a0), (1, .ref a1), (3, .int (x3)), (4, .int ((x4 + 1))), (5, .int ((x5 + 1)))] [] (g_wi M (a0 + 2) ((x3 - 1)).toNatClampNeg (1 - (g_mi M (a0 + 2) ((x3 - 1)).toNatClampNeg))) c z) (h29 : (¬ 460 ≤ x5) → (¬ x4 < 0) → (¬ (g_mi M a1 7) ≤ x4) → (¬ (g_mi M (a1 + 5) (x4).toNatClampNeg) = 0) → (¬ (g_mi M (a1 + 5) (x4).toNatClampNeg) = 1) → (¬ (g_mi M (a1 + 5) (x4).toNatClampNeg) = 2) → (¬ 1 ≤ x3) → Q (some (.int ((-2147483648)))) M) (h30 : (¬ 460 ≤ x5) → (¬ x4 < 0) → (¬ (g_mi M a1 7) ≤ x4) → (¬ (g_mi M (a1 + 5) (x4).toNatClampNeg) = 0) → (¬ (g_mi M (a1 + 5) (x4).toNatClampNeg) = 1) → ((g_mi M (a1 + 5) (x4).toNatClampNeg) = 2) → (51 ≤ x3) → Q (some (.int ((-2147483648)))) M) (h31 : (¬ 460 ≤ x5) → (¬ x4 < 0) → (¬ (g_mi M a1 7) ≤ x4) → (¬ (g_mi M (a1 + 5) (x4).toNatClampNeg) = 0) → (¬ (g_mi M (a1 + 5) (x4).toNatClampNeg) = 1) → ((g_mi M (a1 + 5) (x4).toNatClampNeg) = 2) → (¬ 51 ≤ x3) → ((g_mi M (a1 + 6) (x4).toNatClampNeg) < 0) → Q (some (.int ((-2147483648)))) M) (b32 : (¬ 460 ≤ x5) → (¬ x4 < 0) → (¬ (g_mi M a1 7) ≤ x4) → (¬ (g_mi M (a1 + 5) (x4).toNatClampNeg) = 0) → (¬ (g_mi M (a1 + 5) (x4).toNatClampNeg) = 1) → ((g_mi M (a1 + 5) (x4).toNatClampNeg) = 2) → (¬ 51 ≤ x3) → (¬ (g_mi M (a1 + 6) (x4).toNatClampNeg) < 0) → ((g_mi M (a1 + 6) (x4).toNatClampNeg) < 60) → vp_in ((g_mi M (a1 + 6) (x4).toNatClampNeg)) 60) (b33 : (¬ 460 ≤ x5) → (¬ x4 < 0) → (¬ (g_mi M a1 7) ≤ x4) → (¬ (g_mi M (a1 + 5) (x4).toNatClampNeg) = 0) → (¬ (g_mi M (a1 + 5) (x4).toNatClampNeg) = 1) → ((g_mi M (a1 + 5) (x4).toNatClampNeg) = 2) → (¬ 51 ≤ x3) → (¬ (g_mi M (a1 + 6) (x4).toNatClampNeg) < 0) → ((g_mi M (a1 + 6) (x4).toNatClampNeg) < 60) → vp_in (x3) 51) (h34 : (¬ 460 ≤ x5) → (¬ x4 < 0) → (¬ (g_mi M a1 7) ≤ x4) → (¬ (g_mi M (a1 + 5) (x4).toNatClampNeg) = 0) → (¬ (g_mi M (a1 + 5) (x4).toNatClampNeg) = 1) → ((g_mi M (a1 + 5) (x4).toNatClampNeg) = 2) → (¬ 51 ≤ x3) → (¬ (g_mi M (a1 + 6) (x4).toNatClampNeg) < 0) → ((g_mi M (a1 + 6) (x4).toNatClampNeg) < 60) → Go X (d + 1) mc ms kX4_valueOf Q 8 [(0, .ref a0), (1, .ref a1), (3, .int ((x3 + 1))), (4, .int ((x4 + 1))), (5, .int ((x5 + 1)))] [] (g_wi M (a0 + 2) (x3).toNatClampNeg (g_mi M (a0 + 1) ((g_mi M (a1 + 6) (x4).toNatClampNeg)).toNatClampNeg)) c z) (h35 : (¬ 460 ≤ x5) → (¬ x4 < 0) → (¬ (g_mi M a1 7) ≤ x4) → (¬ (g_mi M (a1 + 5) (x4).toNatClampNeg) = 0) → (¬ (g_mi M (a1 + 5) (x4).toNatClampNeg) = 1) → ((g_mi M (a1 + 5) (x4).toNatClampNeg) = 2) → (¬ 51 ≤ x3) → (¬ (g_mi M (a1 + 6) (x4).toNatClampNeg) < 0) → (¬ (g_mi M (a1 + 6) (x4).toNatClampNeg) < 60) → Q (some (.int ((-2147483648)))) M) (h36 : (¬ 460 ≤ x5) → (¬ x4 < 0) → (¬ (g_mi M a1 7) ≤ x4) → ((g_mi M (a1 + 5) (x4).toNatClampNeg) = 0) → (¬ x3 = 1) → Q (some (.int ((-2147483648)))) M) (h37 : (¬ 460 ≤ x5) → (¬ x4 < 0) → (¬ (g_mi M a1 7) ≤ x4) → ((g_mi M (a1 + 5) (x4).toNatClampNeg) = 0) → (x3 = 1) → Q (some (.int ((g_mi M (a0 + 2) 0)))) M) : Go X (d + 1) mc ms kX4_valueOf Q 8 [(0, .ref a0), (1, .ref a1), (3, .int (x3)), (4, .int (x4)), (5, .int (x5))] [] M c z := by
  refine g_iload 4 10 dX4_valueOf_8 rfl rfl ?_
  refine g_sipush (460) 13 dX4_valueOf_10 rfl rfl ?_
  refine g_icmp_ge 276 16 dX4_valueOf_13 rfl rfl (fun c1 => ?_) (fun c1 => ?_)
  · skip
    refine g_iload_n 2 277 dX4_valueOf_276 rfl rfl ?_
    refine g_iconst (1) 278 dX4_valueOf_277 rfl rfl ?_
    refine g_icmp_ne 290 281 dX4_valueOf_278 rfl rfl (fun c2 => ?_) (fun c2 => ?_)
    · skip
      refine g_ldc ((-2147483648)) 292 dX4_valueOf_290 rfl q2_181 ?_
      exact g_iret dX4_valueOf_292 rfl (w2) (w3) (h1 c1 c2)
    · skip
      refine g_aload_n 0 282 dX4_valueOf_281 rfl rfl ?_
      refine g_getR 285 (a0 + 2) dX4_valueOf_282 rfl flX4_15 s0.1 s0.2.2.2.1 ?_
      refine g_iconst (0) 286 dX4_valueOf_285 rfl rfl ?_
      refine h_iaload 287 0 dX4_valueOf_286 rfl rfl s0.2.2.2.2 (vp_lit rfl) ?_
      refine g_goto 292 dX4_valueOf_287 rfl ?_
      exact g_iret dX4_valueOf_292 rfl (w2) (w3) (h4 c1 c2)
  · skip
    refine g_iload 3 18 dX4_valueOf_16 rfl rfl ?_
    refine g_if_lt 276 21 dX4_valueOf_18 rfl rfl (fun c3 => ?_) (fun c3 => ?_)
    · skip
      refine g_iload_n 2 277 dX4_valueOf_276 rfl rfl ?_
      refine g_iconst (1) 278 dX4_valueOf_277 rfl rfl ?_
      refine g_icmp_ne 290 281 dX4_valueOf_278 rfl rfl (fun c4 => ?_) (fun c4 => ?_)
      · skip
        refine g_ldc ((-2147483648)) 292 dX4_valueOf_290 rfl q2_181 ?_
        exact g_iret dX4_valueOf_292 rfl (w2) (w3) (h5 c1 c3 c4)
      · skip
        refine g_aload_n 0 282 dX4_valueOf_281 rfl rfl ?_
        refine g_getR 285 (a0 + 2) dX4_valueOf_282 rfl flX4_15 s0.1 s0.2.2.2.1 ?_
        refine g_iconst (0) 286 dX4_valueOf_285 rfl rfl ?_
        refine h_iaload 287 0 dX4_valueOf_286 rfl rfl s0.2.2.2.2 (vp_lit rfl) ?_
        refine g_goto 292 dX4_valueOf_287 rfl ?_
        exact g_iret dX4_valueOf_292 rfl (w2) (w3) (h6 c1 c3 c4)
    · skip
      refine g_iload 3 23 dX4_valueOf_21 rfl rfl ?_
      refine g_aload_n 1 24 dX4_valueOf_23 rfl rfl ?_
      refine g_getI 27 dX4_valueOf_24 rfl flX4_53 s1.1 ?_
      refine g_icmp_ge 276 30 dX4_valueOf_27 rfl rfl (fun c5 => ?_) (fun c5 => ?_)
      · skip
        refine g_iload_n 2 277 dX4_valueOf_276 rfl rfl ?_
        refine g_iconst (1) 278 dX4_valueOf_277 rfl rfl ?_
        refine g_icmp_ne 290 281 dX4_valueOf_278 rfl rfl (fun c6 => ?_) (fun c6 => ?_)
        · skip
          refine g_ldc ((-2147483648)) 292 dX4_valueOf_290 rfl q2_181 ?_
          exact g_iret dX4_valueOf_292 rfl (w2) (w3) (h7 c1 c3 c5 c6)
        · skip
          refine g_aload_n 0 282 dX4_valueOf_281 rfl rfl ?_
          refine g_getR 285 (a0 + 2) dX4_valueOf_282 rfl flX4_15 s0.1 s0.2.2.2.1 ?_
          refine g_iconst (0) 286 dX4_valueOf_285 rfl rfl ?_
          refine h_iaload 287 0 dX4_valueOf_286 rfl rfl s0.2.2.2.2 (vp_lit rfl) ?_
          refine g_goto 292 dX4_valueOf_287 rfl ?_
          exact g_iret dX4_valueOf_292 rfl (w2) (w3) (h8 c1 c3 c5 c6)
      · skip
        refine g_aload_n 1 31 dX4_valueOf_30 rfl rfl ?_
        refine g_getR 34 (a1 + 5) dX4_valueOf_31 rfl flX4_56 s1.1 s1.2.2.2.2.2.2.2.2.2.1 ?_
        refine g_iload 3 36 dX4_valueOf_34 rfl rfl ?_
        refine h_iaload 37 (x4).toNatClampNeg dX4_valueOf_36 rfl rfl s1.2.2.2.2.2.2.2.2.2.2.1 (b9 c1 c3 c5) ?_
        refine g_istore 39 [(6, .int ((g_mi M (a1 + 5) (x4).toNatClampNeg))), (0, .ref a0), (1, .ref a1), (3, .int (x3)), (4, .int (x4)), (5, .int (x5))] dX4_valueOf_37 rfl (Nat.le_of_ble_eq_true rfl) rfl ?_
        refine g_aload_n 2 40 dX4_valueOf_39 rfl rfl ?_
        refine g_getR 43 (a1 + 6) dX4_valueOf_40 rfl flX4_59 s1.1 s1.2.2.2.2.2.2.2.2.2.2.2.1 ?_
        refine g_iload 4 45 dX4_valueOf_43 rfl rfl ?_
        refine h_iaload 46 (x4).toNatClampNeg dX4_valueOf_45 rfl rfl s1.2.2.2.2.2.2.2.2.2.2.2.2 (b9 c1 c3 c5) ?_
        refine g_istore 48 [(7, .int ((g_mi M (a1 + 6) (x4).toNatClampNeg))), (6, .int ((g_mi M (a1 + 5) (x4).toNatClampNeg))), (0, .ref a0), (1, .ref a1), (3, .int (x3)), (4, .int (x4)), (5, .int (x5))] dX4_valueOf_46 rfl (Nat.le_of_ble_eq_true rfl) rfl ?_
        refine g_iinc _ 5 51 [(4, .int ((x4 + 1))), (7, .int ((g_mi M (a1 + 6) (x4).toNatClampNeg))), (6, .int ((g_mi M (a1 + 5) (x4).toNatClampNeg))), (0, .ref a0), (1, .ref a1), (3, .int (x3)), (5, .int (x5))] dX4_valueOf_48 rfl rfl rfl (Nat.le_of_ble_eq_true rfl) rfl ?_
        refine g_iload 2 53 dX4_valueOf_51 rfl rfl ?_
        refine g_if_ne 59 56 dX4_valueOf_53 rfl rfl (fun c7 => ?_) (fun c7 => ?_)
        · skip
          refine g_iload 2 61 dX4_valueOf_59 rfl rfl ?_
          refine g_iconst (1) 62 dX4_valueOf_61 rfl rfl ?_
          refine g_icmp_eq 71 65 dX4_valueOf_62 rfl rfl (fun c8 => ?_) (fun c8 => ?_)
          · skip
            refine g_iload_n 5 72 dX4_valueOf_71 rfl rfl ?_
            refine g_aload_n 3 73 dX4_valueOf_72 rfl rfl ?_
            refine g_getR 76 (a0 + 2) dX4_valueOf_73 rfl flX4_15 s0.1 s0.2.2.2.1 ?_
            refine g_alen (t := 0) 77 dX4_valueOf_76 rfl s0.2.2.2.2 (by decide) rfl ?_
            refine g_icmp_ge 101 80 dX4_valueOf_77 rfl rfl (fun c9 => ?_) (fun c9 => ?_)
            · skip
              refine g_ldc ((-2147483648)) 103 dX4_valueOf_101 rfl q2_181 ?_
              exact g_iret dX4_valueOf_103 rfl (w2) (w3) (h10 c1 c3 c5 c7 c8 c9)
            · skip
              refine g_iload 1 82 dX4_valueOf_80 rfl rfl ?_
              refine g_if_lt 101 85 dX4_valueOf_82 rfl rfl (fun c10 => ?_) (fun c10 => ?_)
              · skip
                refine g_ldc ((-2147483648)) 103 dX4_valueOf_101 rfl q2_181 ?_
                exact g_iret dX4_valueOf_103 rfl (w2) (w3) (h11 c1 c3 c5 c7 c8 c9 c10)
              · skip
                refine g_iload 2 87 dX4_valueOf_85 rfl rfl ?_
                refine g_iconst (2) 88 dX4_valueOf_87 rfl rfl ?_
                refine g_icmp_ne 104 91 dX4_valueOf_88 rfl rfl (fun _ => ?_) (fun q => absurd (c8.symm.trans q) (by decide))
                refine g_aload_n 3 105 dX4_valueOf_104 rfl rfl ?_
                refine g_getR 108 (a0 + 2) dX4_valueOf_105 rfl flX4_15 s0.1 s0.2.2.2.1 ?_
                refine g_iload_n 5 109 dX4_valueOf_108 rfl rfl ?_
                refine g_iload 2 111 dX4_valueOf_109 rfl rfl ?_
                refine g_iconst (1) 112 dX4_valueOf_111 rfl rfl ?_
                refine g_icmp_ne 120 115 dX4_valueOf_112 rfl rfl (fun q => absurd c8 q) (fun _ => ?_)
                refine g_iload 1 117 dX4_valueOf_115 rfl rfl ?_
                refine g_goto 127 dX4_valueOf_117 rfl ?_
                refine h_iastore 128 (x3).toNatClampNeg dX4_valueOf_127 rfl rfl s0.2.2.2.2 (b12 c1 c3 c5 c7 c8 c9 c10) ?_
                refine g_iinc _ 5 131 [(3, .int ((x3 + 1))), (4, .int ((x4 + 1))), (7, .int ((g_mi M (a1 + 6) (x4).toNatClampNeg))), (6, .int ((g_mi M (a1 + 5) (x4).toNatClampNeg))), (0, .ref a0), (1, .ref a1), (5, .int (x5))] dX4_valueOf_128 rfl rfl rfl (Nat.le_of_ble_eq_true rfl) rfl ?_
                refine g_goto 270 dX4_valueOf_131 rfl ?_
                refine g_iinc _ 6 273 [(5, .int ((x5 + 1))), (3, .int ((x3 + 1))), (4, .int ((x4 + 1))), (7, .int ((g_mi M (a1 + 6) (x4).toNatClampNeg))), (6, .int ((g_mi M (a1 + 5) (x4).toNatClampNeg))), (0, .ref a0), (1, .ref a1)] dX4_valueOf_270 rfl rfl rfl (Nat.le_of_ble_eq_true rfl) rfl ?_
                refine g_goto 8 dX4_valueOf_273 rfl ?_
                exact g_sub [5, 6, 1, 2, 0] _ rfl (h13 c1 c3 c5 c7 c8 c9 c10)
          · skip
            refine g_iload 2 67 dX4_valueOf_65 rfl rfl ?_
            refine g_iconst (2) 68 dX4_valueOf_67 rfl rfl ?_
            refine g_icmp_ne 134 71 dX4_valueOf_68 rfl rfl (fun c11 => ?_) (fun c11 => ?_)
            · skip
              refine g_iload_n 5 135 dX4_valueOf_134 rfl rfl ?_
              refine g_iconst (1) 136 dX4_valueOf_135 rfl rfl ?_
              refine g_icmp_ge 142 139 dX4_valueOf_136 rfl rfl (fun c12 => ?_) (fun c12 => ?_)
              · skip
                refine g_iload 2 144 dX4_valueOf_142 rfl rfl ?_
                refine g_iconst (3) 145 dX4_valueOf_144 rfl rfl ?_
                refine g_icmp_ne 169 148 dX4_valueOf_145 rfl rfl (fun c13 => ?_) (fun c13 => ?_)
                · skip
                  refine g_iload 2 171 dX4_valueOf_169 rfl rfl ?_
                  refine g_iconst (4) 172 dX4_valueOf_171 rfl rfl ?_
                  refine g_icmp_eq 181 175 dX4_valueOf_172 rfl rfl (fun c14 => ?_) (fun c14 => ?_)
                  · skip
                    refine g_aload_n 3 182 dX4_valueOf_181 rfl rfl ?_
                    refine g_getR 185 (a0 + 2) dX4_valueOf_182 rfl flX4_15 s0.1 s0.2.2.2.1 ?_
                    refine g_iload_n 5 186 dX4_valueOf_185 rfl rfl ?_
                    refine g_iconst (1) 187 dX4_valueOf_186 rfl rfl ?_
                    refine g_isub 188 dX4_valueOf_187 rfl ?_
                    refine h_iaload 189 ((x3 - 1)).toNatClampNeg dX4_valueOf_188 rfl rfl s0.2.2.2.2 (b14 c1 c3 c5 c7 c8 c11 c12 c13 c14) ?_
                    refine g_iload 2 191 dX4_valueOf_189 rfl rfl ?_
                    refine g_iconst (5) 192 dX4_valueOf_191 rfl rfl ?_
                    refine g_icmp_ne 199 195 dX4_valueOf_192 rfl rfl (fun _ => ?_) (fun q => absurd (c14.symm.trans q) (by decide))
                    refine g_iconst (0) 200 dX4_valueOf_199 rfl rfl ?_
                    refine g_icmp_ne 210 203 dX4_valueOf_200 rfl rfl (fun c15 => ?_) (fun c15 => ?_)
                    · skip
                      refine g_iinc _ 5 213 [(3, .int ((x3 + (-1)))), (4, .int ((x4 + 1))), (7, .int ((g_mi M (a1 + 6) (x4).toNatClampNeg))), (6, .int ((g_mi M (a1 + 5) (x4).toNatClampNeg))), (0, .ref a0), (1, .ref a1), (5, .int (x5))] dX4_valueOf_210 rfl rfl rfl (Nat.le_of_ble_eq_true rfl) rfl ?_
                      refine g_goto 270 dX4_valueOf_213 rfl ?_
                      refine g_iinc _ 6 273 [(5, .int ((x5 + 1))), (3, .int ((x3 + (-1)))), (4, .int ((x4 + 1))), (7, .int ((g_mi M (a1 + 6) (x4).toNatClampNeg))), (6, .int ((g_mi M (a1 + 5) (x4).toNatClampNeg))), (0, .ref a0), (1, .ref a1)] dX4_valueOf_270 rfl rfl rfl (Nat.le_of_ble_eq_true rfl) rfl ?_
                      refine g_goto 8 dX4_valueOf_273 rfl ?_
                      exact g_sub [5, 6, 1, 2, 0] _ rfl (h15 c1 c3 c5 c7 c8 c11 c12 c13 c14 c15)
                    · skip
                      refine g_iload 1 205 dX4_valueOf_203 rfl rfl ?_
                      refine g_istore 207 [(4, .int ((g_mi M (a1 + 6) (x4).toNatClampNeg))), (7, .int ((g_mi M (a1 + 6) (x4).toNatClampNeg))), (6, .int ((g_mi M (a1 + 5) (x4).toNatClampNeg))), (0, .ref a0), (1, .ref a1), (3, .int (x3)), (5, .int (x5))] dX4_valueOf_205 rfl (Nat.le_of_ble_eq_true rfl) rfl ?_
                      refine g_goto 270 dX4_valueOf_207 rfl ?_
                      refine g_iinc _ 6 273 [(5, .int ((x5 + 1))), (4, .int ((g_mi M (a1 + 6) (x4).toNatClampNeg))), (7, .int ((g_mi M (a1 + 6) (x4).toNatClampNeg))), (6, .int ((g_mi M (a1 + 5) (x4).toNatClampNeg))), (0, .ref a0), (1, .ref a1), (3, .int (x3))] dX4_valueOf_270 rfl rfl rfl (Nat.le_of_ble_eq_true rfl) rfl ?_
                      refine g_goto 8 dX4_valueOf_273 rfl ?_
                      exact g_sub [4, 5, 6, 1, 0] _ rfl (h16 c1 c3 c5 c7 c8 c11 c12 c13 c14 c15)
                  · skip
                    refine g_iload 2 177 dX4_valueOf_175 rfl rfl ?_
                    refine g_iconst (5) 178 dX4_valueOf_177 rfl rfl ?_
                    refine g_icmp_ne 216 181 dX4_valueOf_178 rfl rfl (fun c16 => ?_) (fun c16 => ?_)
                    · skip
                      refine g_iinc _ 5 219 [(3, .int ((x3 + (-1)))), (4, .int ((x4 + 1))), (7, .int ((g_mi M (a1 + 6) (x4).toNatClampNeg))), (6, .int ((g_mi M (a1 + 5) (x4).toNatClampNeg))), (0, .ref a0), (1, .ref a1), (5, .int (x5))] dX4_valueOf_216 rfl rfl rfl (Nat.le_of_ble_eq_true rfl) rfl ?_
                      refine g_iload_n 0 220 dX4_valueOf_219 rfl rfl ?_
                      refine g_iconst (1) 221 dX4_valueOf_220 rfl rfl ?_
                      refine g_icmp_ge 229 224 dX4_valueOf_221 rfl rfl (fun c17 => ?_) (fun c17 => ?_)
                      · skip
                        refine g_iload 3 231 dX4_valueOf_229 rfl rfl ?_
                        refine g_aload_n 4 232 dX4_valueOf_231 rfl rfl ?_
                        refine g_getR 235 (a0 + 2) dX4_valueOf_232 rfl flX4_15 s0.1 s0.2.2.2.1 ?_
                        refine g_iload_n 0 236 dX4_valueOf_235 rfl rfl ?_
                        refine g_iconst (1) 237 dX4_valueOf_236 rfl rfl ?_
                        refine g_isub 238 dX4_valueOf_237 rfl ?_
                        refine h_iaload 239 (((x3 + (-1)) - 1)).toNatClampNeg dX4_valueOf_238 rfl rfl s0.2.2.2.2 (b17 c1 c3 c5 c7 c8 c11 c12 c13 c14 c16 c17) ?_
                        refine g_aload_n 4 240 dX4_valueOf_239 rfl rfl ?_
                        refine g_getR 243 (a0 + 2) dX4_valueOf_240 rfl flX4_15 s0.1 s0.2.2.2.1 ?_
                        refine g_iload_n 0 244 dX4_valueOf_243 rfl rfl ?_
                        refine h_iaload 245 ((x3 + (-1))).toNatClampNeg dX4_valueOf_244 rfl rfl s0.2.2.2.2 (b18 c1 c3 c5 c7 c8 c11 c12 c13 c14 c16 c17) ?_
                        refine g_callS (mc1 := 0) (ms1 := 0) (rest := []) (av := [.int ((g_mi M (a1 + 5) (x4).toNatClampNeg)), .int ((g_mi M (a0 + 2) (((x3 + (-1)) - 1)).toNatClampNeg)), .int ((g_mi M (a0 + 2) ((x3 + (-1))).toNatClampNeg))]) kX4_combined 248 dX4_valueOf_245 rfl rfl mbX4_62 smX4_combined (Nat.le_of_ble_eq_true rfl) (w2) (w3) (tX4_combined (b19 c1 c3 c5 c7 c8 c11 c12 c13 c14 c16 c17) ?_)
                        show Go X (d + 1) mc ms kX4_valueOf Q 248 [(3, .int ((x3 + (-1)))), (4, .int ((x4 + 1))), (7, .int ((g_mi M (a1 + 6) (x4).toNatClampNeg))), (6, .int ((g_mi M (a1 + 5) (x4).toNatClampNeg))), (0, .ref a0), (1, .ref a1), (5, .int (x5))] [.int ((fX4_combined (g_mi M (a1 + 5) (x4).toNatClampNeg) (g_mi M (a0 + 2) (((x3 + (-1)) - 1)).toNatClampNeg) (g_mi M (a0 + 2) ((x3 + (-1))).toNatClampNeg)))] M c z
                        refine g_istore 250 [(8, .int ((fX4_combined (g_mi M (a1 + 5) (x4).toNatClampNeg) (g_mi M (a0 + 2) (((x3 + (-1)) - 1)).toNatClampNeg) (g_mi M (a0 + 2) ((x3 + (-1))).toNatClampNeg)))), (3, .int ((x3 + (-1)))), (4, .int ((x4 + 1))), (7, .int ((g_mi M (a1 + 6) (x4).toNatClampNeg))), (6, .int ((g_mi M (a1 + 5) (x4).toNatClampNeg))), (0, .ref a0), (1, .ref a1), (5, .int (x5))] dX4_valueOf_248 rfl (Nat.le_of_ble_eq_true rfl) rfl ?_
                        refine g_iload 0 252 dX4_valueOf_250 rfl rfl ?_
                        refine g_ldc ((-2147483648)) 254 dX4_valueOf_252 rfl q2_181 ?_
                        refine g_icmp_ne 260 257 dX4_valueOf_254 rfl rfl (fun c18 => ?_) (fun c18 => ?_)
                        · skip
                          refine g_aload_n 5 261 dX4_valueOf_260 rfl rfl ?_
                          refine g_getR 264 (a0 + 2) dX4_valueOf_261 rfl flX4_15 s0.1 s0.2.2.2.1 ?_
                          refine g_iload_n 1 265 dX4_valueOf_264 rfl rfl ?_
                          refine g_iconst (1) 266 dX4_valueOf_265 rfl rfl ?_
                          refine g_isub 267 dX4_valueOf_266 rfl ?_
                          refine g_iload 0 269 dX4_valueOf_267 rfl rfl ?_
                          refine h_iastore 270 (((x3 + (-1)) - 1)).toNatClampNeg dX4_valueOf_269 rfl rfl s0.2.2.2.2 (b20 c1 c3 c5 c7 c8 c11 c12 c13 c14 c16 c17 c18) ?_
                          refine g_iinc _ 7 273 [(5, .int ((x5 + 1))), (8, .int ((fX4_combined (g_mi M (a1 + 5) (x4).toNatClampNeg) (g_mi M (a0 + 2) (((x3 + (-1)) - 1)).toNatClampNeg) (g_mi M (a0 + 2) ((x3 + (-1))).toNatClampNeg)))), (3, .int ((x3 + (-1)))), (4, .int ((x4 + 1))), (7, .int ((g_mi M (a1 + 6) (x4).toNatClampNeg))), (6, .int ((g_mi M (a1 + 5) (x4).toNatClampNeg))), (0, .ref a0), (1, .ref a1)] dX4_valueOf_270 rfl rfl rfl (Nat.le_of_ble_eq_true rfl) rfl ?_
                          refine g_goto 8 dX4_valueOf_273 rfl ?_
                          exact g_sub [6, 7, 2, 3, 0] _ rfl (h21 c1 c3 c5 c7 c8 c11 c12 c13 c14 c16 c17 c18)
                        · skip
                          refine g_ldc ((-2147483648)) 259 dX4_valueOf_257 rfl q2_181 ?_
                          exact g_iret dX4_valueOf_259 rfl (w2) (w3) (h22 c1 c3 c5 c7 c8 c11 c12 c13 c14 c16 c17 c18)
                      · skip
                        refine g_ldc ((-2147483648)) 226 dX4_valueOf_224 rfl q2_181 ?_
                        refine g_goto 248 dX4_valueOf_226 rfl ?_
                        refine g_istore 250 [(8, .int ((-2147483648))), (3, .int ((x3 + (-1)))), (4, .int ((x4 + 1))), (7, .int ((g_mi M (a1 + 6) (x4).toNatClampNeg))), (6, .int ((g_mi M (a1 + 5) (x4).toNatClampNeg))), (0, .ref a0), (1, .ref a1), (5, .int (x5))] dX4_valueOf_248 rfl (Nat.le_of_ble_eq_true rfl) rfl ?_
                        refine g_iload 0 252 dX4_valueOf_250 rfl rfl ?_
                        refine g_ldc ((-2147483648)) 254 dX4_valueOf_252 rfl q2_181 ?_
                        refine g_icmp_ne 260 257 dX4_valueOf_254 rfl rfl (fun q => absurd q (by decide)) (fun _ => ?_)
                        refine g_ldc ((-2147483648)) 259 dX4_valueOf_257 rfl q2_181 ?_
                        exact g_iret dX4_valueOf_259 rfl (w2) (w3) (h23 c1 c3 c5 c7 c8 c11 c12 c13 c14 c16 c17)
                    · skip
                      refine g_aload_n 3 182 dX4_valueOf_181 rfl rfl ?_
                      refine g_getR 185 (a0 + 2) dX4_valueOf_182 rfl flX4_15 s0.1 s0.2.2.2.1 ?_
                      refine g_iload_n 5 186 dX4_valueOf_185 rfl rfl ?_
                      refine g_iconst (1) 187 dX4_valueOf_186 rfl rfl ?_
                      refine g_isub 188 dX4_valueOf_187 rfl ?_
                      refine h_iaload 189 ((x3 - 1)).toNatClampNeg dX4_valueOf_188 rfl rfl s0.2.2.2.2 (b24 c1 c3 c5 c7 c8 c11 c12 c13 c14 c16) ?_
                      refine g_iload 2 191 dX4_valueOf_189 rfl rfl ?_
                      refine g_iconst (5) 192 dX4_valueOf_191 rfl rfl ?_
                      refine g_icmp_ne 199 195 dX4_valueOf_192 rfl rfl (fun q => absurd c16 q) (fun _ => ?_)
                      refine g_iconst (1) 196 dX4_valueOf_195 rfl rfl ?_
                      refine g_goto 200 dX4_valueOf_196 rfl ?_
                      refine g_icmp_ne 210 203 dX4_valueOf_200 rfl rfl (fun c19 => ?_) (fun c19 => ?_)
                      · skip
                        refine g_iinc _ 5 213 [(3, .int ((x3 + (-1)))), (4, .int ((x4 + 1))), (7, .int ((g_mi M (a1 + 6) (x4).toNatClampNeg))), (6, .int ((g_mi M (a1 + 5) (x4).toNatClampNeg))), (0, .ref a0), (1, .ref a1), (5, .int (x5))] dX4_valueOf_210 rfl rfl rfl (Nat.le_of_ble_eq_true rfl) rfl ?_
                        refine g_goto 270 dX4_valueOf_213 rfl ?_
                        refine g_iinc _ 6 273 [(5, .int ((x5 + 1))), (3, .int ((x3 + (-1)))), (4, .int ((x4 + 1))), (7, .int ((g_mi M (a1 + 6) (x4).toNatClampNeg))), (6, .int ((g_mi M (a1 + 5) (x4).toNatClampNeg))), (0, .ref a0), (1, .ref a1)] dX4_valueOf_270 rfl rfl rfl (Nat.le_of_ble_eq_true rfl) rfl ?_
                        refine g_goto 8 dX4_valueOf_273 rfl ?_
                        exact g_sub [5, 6, 1, 2, 0] _ rfl (h25 c1 c3 c5 c7 c8 c11 c12 c13 c14 c16 c19)
                      · skip
                        refine g_iload 1 205 dX4_valueOf_203 rfl rfl ?_
                        refine g_istore 207 [(4, .int ((g_mi M (a1 + 6) (x4).toNatClampNeg))), (7, .int ((g_mi M (a1 + 6) (x4).toNatClampNeg))), (6, .int ((g_mi M (a1 + 5) (x4).toNatClampNeg))), (0, .ref a0), (1, .ref a1), (3, .int (x3)), (5, .int (x5))] dX4_valueOf_205 rfl (Nat.le_of_ble_eq_true rfl) rfl ?_
                        refine g_goto 270 dX4_valueOf_207 rfl ?_
                        refine g_iinc _ 6 273 [(5, .int ((x5 + 1))), (4, .int ((g_mi M (a1 + 6) (x4).toNatClampNeg))), (7, .int ((g_mi M (a1 + 6) (x4).toNatClampNeg))), (6, .int ((g_mi M (a1 + 5) (x4).toNatClampNeg))), (0, .ref a0), (1, .ref a1), (3, .int (x3))] dX4_valueOf_270 rfl rfl rfl (Nat.le_of_ble_eq_true rfl) rfl ?_
                        refine g_goto 8 dX4_valueOf_273 rfl ?_
                        exact g_sub [4, 5, 6, 1, 0] _ rfl (h26 c1 c3 c5 c7 c8 c11 c12 c13 c14 c16 c19)
                · skip
                  refine g_aload_n 3 149 dX4_valueOf_148 rfl rfl ?_
                  refine g_getR 152 (a0 + 2) dX4_valueOf_149 rfl flX4_15 s0.1 s0.2.2.2.1 ?_
                  refine g_iload_n 5 153 dX4_valueOf_152 rfl rfl ?_
                  refine g_iconst (1) 154 dX4_valueOf_153 rfl rfl ?_
                  refine g_isub 155 dX4_valueOf_154 rfl ?_
                  refine g_iconst (1) 156 dX4_valueOf_155 rfl rfl ?_
                  refine g_aload_n 3 157 dX4_valueOf_156 rfl rfl ?_
                  refine g_getR 160 (a0 + 2) dX4_valueOf_157 rfl flX4_15 s0.1 s0.2.2.2.1 ?_
                  refine g_iload_n 5 161 dX4_valueOf_160 rfl rfl ?_
                  refine g_iconst (1) 162 dX4_valueOf_161 rfl rfl ?_
                  refine g_isub 163 dX4_valueOf_162 rfl ?_
                  refine h_iaload 164 ((x3 - 1)).toNatClampNeg dX4_valueOf_163 rfl rfl s0.2.2.2.2 (b27 c1 c3 c5 c7 c8 c11 c12 c13) ?_
                  refine g_isub 165 dX4_valueOf_164 rfl ?_
                  refine h_iastore 166 ((x3 - 1)).toNatClampNeg dX4_valueOf_165 rfl rfl s0.2.2.2.2 (b27 c1 c3 c5 c7 c8 c11 c12 c13) ?_
                  refine g_goto 270 dX4_valueOf_166 rfl ?_
                  refine g_iinc _ 6 273 [(5, .int ((x5 + 1))), (4, .int ((x4 + 1))), (7, .int ((g_mi M (a1 + 6) (x4).toNatClampNeg))), (6, .int ((g_mi M (a1 + 5) (x4).toNatClampNeg))), (0, .ref a0), (1, .ref a1), (3, .int (x3))] dX4_valueOf_270 rfl rfl rfl (Nat.le_of_ble_eq_true rfl) rfl ?_
                  refine g_goto 8 dX4_valueOf_273 rfl ?_
                  exact g_sub [4, 5, 6, 1, 0] _ rfl (h28 c1 c3 c5 c7 c8 c11 c12 c13)
              · skip
                refine g_ldc ((-2147483648)) 141 dX4_valueOf_139 rfl q2_181 ?_
                exact g_iret dX4_valueOf_141 rfl (w2) (w3) (h29 c1 c3 c5 c7 c8 c11 c12)
            · skip
              refine g_iload_n 5 72 dX4_valueOf_71 rfl rfl ?_
              refine g_aload_n 3 73 dX4_valueOf_72 rfl rfl ?_
              refine g_getR 76 (a0 + 2) dX4_valueOf_73 rfl flX4_15 s0.1 s0.2.2.2.1 ?_
              refine g_alen (t := 0) 77 dX4_valueOf_76 rfl s0.2.2.2.2 (by decide) rfl ?_
              refine g_icmp_ge 101 80 dX4_valueOf_77 rfl rfl (fun c20 => ?_) (fun c20 => ?_)
              · skip
                refine g_ldc ((-2147483648)) 103 dX4_valueOf_101 rfl q2_181 ?_
                exact g_iret dX4_valueOf_103 rfl (w2) (w3) (h30 c1 c3 c5 c7 c8 c11 c20)
              · skip
                refine g_iload 1 82 dX4_valueOf_80 rfl rfl ?_
                refine g_if_lt 101 85 dX4_valueOf_82 rfl rfl (fun c21 => ?_) (fun c21 => ?_)
                · skip
                  refine g_ldc ((-2147483648)) 103 dX4_valueOf_101 rfl q2_181 ?_
                  exact g_iret dX4_valueOf_103 rfl (w2) (w3) (h31 c1 c3 c5 c7 c8 c11 c20 c21)
                · skip
                  refine g_iload 2 87 dX4_valueOf_85 rfl rfl ?_
                  refine g_iconst (2) 88 dX4_valueOf_87 rfl rfl ?_
                  refine g_icmp_ne 104 91 dX4_valueOf_88 rfl rfl (fun q => absurd c11 q) (fun _ => ?_)
                  refine g_iload 1 93 dX4_valueOf_91 rfl rfl ?_
                  refine g_aload_n 3 94 dX4_valueOf_93 rfl rfl ?_
                  refine g_getR 97 (a0 + 1) dX4_valueOf_94 rfl flX4_9 s0.1 s0.2.1 ?_
                  refine g_alen (t := 0) 98 dX4_valueOf_97 rfl s0.2.2.1 (by decide) rfl ?_
                  refine g_icmp_lt 104 101 dX4_valueOf_98 rfl rfl (fun c22 => ?_) (fun c22 => ?_)
                  · skip
                    refine g_aload_n 3 105 dX4_valueOf_104 rfl rfl ?_
                    refine g_getR 108 (a0 + 2) dX4_valueOf_105 rfl flX4_15 s0.1 s0.2.2.2.1 ?_
                    refine g_iload_n 5 109 dX4_valueOf_108 rfl rfl ?_
                    refine g_iload 2 111 dX4_valueOf_109 rfl rfl ?_
                    refine g_iconst (1) 112 dX4_valueOf_111 rfl rfl ?_
                    refine g_icmp_ne 120 115 dX4_valueOf_112 rfl rfl (fun _ => ?_) (fun q => absurd q c8)
                    refine g_aload_n 3 121 dX4_valueOf_120 rfl rfl ?_
                    refine g_getR 124 (a0 + 1) dX4_valueOf_121 rfl flX4_9 s0.1 s0.2.1 ?_
                    refine g_iload 1 126 dX4_valueOf_124 rfl rfl ?_
                    refine h_iaload 127 ((g_mi M (a1 + 6) (x4).toNatClampNeg)).toNatClampNeg dX4_valueOf_126 rfl rfl s0.2.2.1 (b32 c1 c3 c5 c7 c8 c11 c20 c21 c22) ?_
                    refine h_iastore 128 (x3).toNatClampNeg dX4_valueOf_127 rfl rfl s0.2.2.2.2 (b33 c1 c3 c5 c7 c8 c11 c20 c21 c22) ?_
                    refine g_iinc _ 5 131 [(3, .int ((x3 + 1))), (4, .int ((x4 + 1))), (7, .int ((g_mi M (a1 + 6) (x4).toNatClampNeg))), (6, .int ((g_mi M (a1 + 5) (x4).toNatClampNeg))), (0, .ref a0), (1, .ref a1), (5, .int (x5))] dX4_valueOf_128 rfl rfl rfl (Nat.le_of_ble_eq_true rfl) rfl ?_
                    refine g_goto 270 dX4_valueOf_131 rfl ?_
                    refine g_iinc _ 6 273 [(5, .int ((x5 + 1))), (3, .int ((x3 + 1))), (4, .int ((x4 + 1))), (7, .int ((g_mi M (a1 + 6) (x4).toNatClampNeg))), (6, .int ((g_mi M (a1 + 5) (x4).toNatClampNeg))), (0, .ref a0), (1, .ref a1)] dX4_valueOf_270 rfl rfl rfl (Nat.le_of_ble_eq_true rfl) rfl ?_
                    refine g_goto 8 dX4_valueOf_273 rfl ?_
                    exact g_sub [5, 6, 1, 2, 0] _ rfl (h34 c1 c3 c5 c7 c8 c11 c20 c21 c22)
                  · skip
                    refine g_ldc ((-2147483648)) 103 dX4_valueOf_101 rfl q2_181 ?_
                    exact g_iret dX4_valueOf_103 rfl (w2) (w3) (h35 c1 c3 c5 c7 c8 c11 c20 c21 c22)
        · skip
          refine g_goto 276 dX4_valueOf_56 rfl ?_
          refine g_iload_n 5 277 dX4_valueOf_276 rfl rfl ?_
          refine g_iconst (1) 278 dX4_valueOf_277 rfl rfl ?_
          refine g_icmp_ne 290 281 dX4_valueOf_278 rfl rfl (fun c23 => ?_) (fun c23 => ?_)
          · skip
            refine g_ldc ((-2147483648)) 292 dX4_valueOf_290 rfl q2_181 ?_
            exact g_iret dX4_valueOf_292 rfl (w2) (w3) (h36 c1 c3 c5 c7 c23)
          · skip
            refine g_aload_n 3 282 dX4_valueOf_281 rfl rfl ?_
            refine g_getR 285 (a0 + 2) dX4_valueOf_282 rfl flX4_15 s0.1 s0.2.2.2.1 ?_
            refine g_iconst (0) 286 dX4_valueOf_285 rfl rfl ?_
            refine h_iaload 287 0 dX4_valueOf_286 rfl rfl s0.2.2.2.2 (vp_lit rfl) ?_
            refine g_goto 292 dX4_valueOf_287 rfl ?_
            exact g_iret dX4_valueOf_292 rfl (w2) (w3) (h37 c1 c3 c5 c7 c23)

def bX4_valueOf_0 (N : Nat) (M : gM) (a0 : Nat) (a1 : Nat) (n1 : Nat) (m1 : Nat) (x2 : Int32) (k : Nat → (Nat → Nat → Int32) → Nat → Nat → Nat → Nat → Int32 → Int32 → Int32 → Int32 × (Nat → Nat → Int32)) : Int32 × (Nat → Nat → Int32) := (k 0 (g_mi M) a0 a1 n1 m1 0 x2 0)
def eX4_valueOf_0 (N : Nat) (M : gM) (a0 : Nat) (a1 : Nat) (n1 : Nat) (m1 : Nat) (x2 : Int32) (k : Nat → (Nat → Nat → Int32) → Nat → Nat → Nat → Nat → Int32 → Int32 → Int32 → Prop) : Prop := (k 0 (g_mi M) a0 a1 n1 m1 0 x2 0)
def bX4_valueOf_8 (N : Nat) (M : gM) (f : Nat → Nat → Int32) (a0 : Nat) (a1 : Nat) (n1 : Nat) (m1 : Nat) (x3 : Int32) (x4 : Int32) (x5 : Int32) (k : Nat → (Nat → Nat → Int32) → Nat → Nat → Nat → Nat → Int32 → Int32 → Int32 → Int32 × (Nat → Nat → Int32)) : Int32 × (Nat → Nat → Int32) := (if 460 ≤ x5 then (if x3 = 1 then ((g_mi (g_wm M f (g_ml M)) (a0 + 2) 0), g_mi (g_wm M f (g_ml M))) else ((-2147483648), g_mi (g_wm M f (g_ml M)))) else (if x4 < 0 then (if x3 = 1 then ((g_mi (g_wm M f (g_ml M)) (a0 + 2) 0), g_mi (g_wm M f (g_ml M))) else ((-2147483648), g_mi (g_wm M f (g_ml M)))) else (if (g_mi (g_wm M f (g_ml M)) a1 7) ≤ x4 then (if x3 = 1 then ((g_mi (g_wm M f (g_ml M)) (a0 + 2) 0), g_mi (g_wm M f (g_ml M))) else ((-2147483648), g_mi (g_wm M f (g_ml M)))) else (if (g_mi (g_wm M f (g_ml M)) (a1 + 5) (x4).toNatClampNeg) = 0 then (if x3 = 1 then ((g_mi (g_wm M f (g_ml M)) (a0 + 2) 0), g_mi (g_wm M f (g_ml M))) else ((-2147483648), g_mi (g_wm M f (g_ml M)))) else (if (g_mi (g_wm M f (g_ml M)) (a1 + 5) (x4).toNatClampNeg) = 1 then (if 51 ≤ x3 then ((-2147483648), g_mi (g_wm M f (g_ml M))) else (if (g_mi (g_wm M f (g_ml M)) (a1 + 6) (x4).toNatClampNeg) < 0 then ((-2147483648), g_mi (g_wm M f (g_ml M))) else (k 0 (g_mi (g_wi (g_wm M f (g_ml M)) (a0 + 2) (x3).toNatClampNeg (g_mi (g_wm M f (g_ml M)) (a1 + 6) (x4).toNatClampNeg))) a0 a1 n1 m1 (x3 + 1) (x4 + 1) (x5 + 1)))) else (if (g_mi (g_wm M f (g_ml M)) (a1 + 5) (x4).toNatClampNeg) = 2 then (if 51 ≤ x3 then ((-2147483648), g_mi (g_wm M f (g_ml M))) else (if (g_mi (g_wm M f (g_ml M)) (a1 + 6) (x4).toNatClampNeg) < 0 then ((-2147483648), g_mi (g_wm M f (g_ml M))) else (if (g_mi (g_wm M f (g_ml M)) (a1 + 6) (x4).toNatClampNeg) < 60 then (k 0 (g_mi (g_wi (g_wm M f (g_ml M)) (a0 + 2) (x3).toNatClampNeg (g_mi (g_wm M f (g_ml M)) (a0 + 1) ((g_mi (g_wm M f (g_ml M)) (a1 + 6) (x4).toNatClampNeg)).toNatClampNeg))) a0 a1 n1 m1 (x3 + 1) (x4 + 1) (x5 + 1)) else ((-2147483648), g_mi (g_wm M f (g_ml M)))))) else (if 1 ≤ x3 then (if (g_mi (g_wm M f (g_ml M)) (a1 + 5) (x4).toNatClampNeg) = 3 then (k 0 (g_mi (g_wi (g_wm M f (g_ml M)) (a0 + 2) ((x3 - 1)).toNatClampNeg (1 - (g_mi (g_wm M f (g_ml M)) (a0 + 2) ((x3 - 1)).toNatClampNeg)))) a0 a1 n1 m1 x3 (x4 + 1) (x5 + 1)) else (if (g_mi (g_wm M f (g_ml M)) (a1 + 5) (x4).toNatClampNeg) = 4 then (if (g_mi (g_wm M f (g_ml M)) (a0 + 2) ((x3 - 1)).toNatClampNeg) = 0 then (k 0 (g_mi (g_wm M f (g_ml M))) a0 a1 n1 m1 x3 (g_mi (g_wm M f (g_ml M)) (a1 + 6) (x4).toNatClampNeg) (x5 + 1)) else (k 0 (g_mi (g_wm M f (g_ml M))) a0 a1 n1 m1 (x3 + (-1)) (x4 + 1) (x5 + 1))) else (if (g_mi (g_wm M f (g_ml M)) (a1 + 5) (x4).toNatClampNeg) = 5 then (if (g_mi (g_wm M f (g_ml M)) (a0 + 2) ((x3 - 1)).toNatClampNeg) = 1 then (k 0 (g_mi (g_wm M f (g_ml M))) a0 a1 n1 m1 x3 (g_mi (g_wm M f (g_ml M)) (a1 + 6) (x4).toNatClampNeg) (x5 + 1)) else (k 0 (g_mi (g_wm M f (g_ml M))) a0 a1 n1 m1 (x3 + (-1)) (x4 + 1) (x5 + 1))) else (if 1 ≤ (x3 + (-1)) then (if (fX4_combined (g_mi (g_wm M f (g_ml M)) (a1 + 5) (x4).toNatClampNeg) (g_mi (g_wm M f (g_ml M)) (a0 + 2) (((x3 + (-1)) - 1)).toNatClampNeg) (g_mi (g_wm M f (g_ml M)) (a0 + 2) ((x3 + (-1))).toNatClampNeg)) = (-2147483648) then ((-2147483648), g_mi (g_wm M f (g_ml M))) else (k 0 (g_mi (g_wi (g_wm M f (g_ml M)) (a0 + 2) (((x3 + (-1)) - 1)).toNatClampNeg (fX4_combined (g_mi (g_wm M f (g_ml M)) (a1 + 5) (x4).toNatClampNeg) (g_mi (g_wm M f (g_ml M)) (a0 + 2) (((x3 + (-1)) - 1)).toNatClampNeg) (g_mi (g_wm M f (g_ml M)) (a0 + 2) ((x3 + (-1))).toNatClampNeg)))) a0 a1 n1 m1 (x3 + (-1)) (x4 + 1) (x5 + 1))) else ((-2147483648), g_mi (g_wm M f (g_ml M))))))) else ((-2147483648), g_mi (g_wm M f (g_ml M))))))))))
def eX4_valueOf_8 (N : Nat) (M : gM) (f : Nat → Nat → Int32) (a0 : Nat) (a1 : Nat) (n1 : Nat) (m1 : Nat) (x3 : Int32) (x4 : Int32) (x5 : Int32) (k : Nat → (Nat → Nat → Int32) → Nat → Nat → Nat → Nat → Int32 → Int32 → Int32 → Prop) : Prop := ((¬ 460 ≤ x5) → (¬ x4 < 0) → (¬ (g_mi (g_wm M f (g_ml M)) a1 7) ≤ x4) → vp_in (x4) m1) ∧ ((¬ 460 ≤ x5) → (¬ x4 < 0) → (¬ (g_mi (g_wm M f (g_ml M)) a1 7) ≤ x4) → (¬ (g_mi (g_wm M f (g_ml M)) (a1 + 5) (x4).toNatClampNeg) = 0) → ((g_mi (g_wm M f (g_ml M)) (a1 + 5) (x4).toNatClampNeg) = 1) → (¬ 51 ≤ x3) → (¬ (g_mi (g_wm M f (g_ml M)) (a1 + 6) (x4).toNatClampNeg) < 0) → vp_in (x3) 51) ∧ ((¬ 460 ≤ x5) → (¬ x4 < 0) → (¬ (g_mi (g_wm M f (g_ml M)) a1 7) ≤ x4) → (¬ (g_mi (g_wm M f (g_ml M)) (a1 + 5) (x4).toNatClampNeg) = 0) → (¬ (g_mi (g_wm M f (g_ml M)) (a1 + 5) (x4).toNatClampNeg) = 1) → (¬ (g_mi (g_wm M f (g_ml M)) (a1 + 5) (x4).toNatClampNeg) = 2) → (1 ≤ x3) → (¬ (g_mi (g_wm M f (g_ml M)) (a1 + 5) (x4).toNatClampNeg) = 3) → ((g_mi (g_wm M f (g_ml M)) (a1 + 5) (x4).toNatClampNeg) = 4) → vp_in ((x3 - 1)) 51) ∧ ((¬ 460 ≤ x5) → (¬ x4 < 0) → (¬ (g_mi (g_wm M f (g_ml M)) a1 7) ≤ x4) → (¬ (g_mi (g_wm M f (g_ml M)) (a1 + 5) (x4).toNatClampNeg) = 0) → (¬ (g_mi (g_wm M f (g_ml M)) (a1 + 5) (x4).toNatClampNeg) = 1) → (¬ (g_mi (g_wm M f (g_ml M)) (a1 + 5) (x4).toNatClampNeg) = 2) → (1 ≤ x3) → (¬ (g_mi (g_wm M f (g_ml M)) (a1 + 5) (x4).toNatClampNeg) = 3) → (¬ (g_mi (g_wm M f (g_ml M)) (a1 + 5) (x4).toNatClampNeg) = 4) → (¬ (g_mi (g_wm M f (g_ml M)) (a1 + 5) (x4).toNatClampNeg) = 5) → (1 ≤ (x3 + (-1))) → vp_in (((x3 + (-1)) - 1)) 51) ∧ ((¬ 460 ≤ x5) → (¬ x4 < 0) → (¬ (g_mi (g_wm M f (g_ml M)) a1 7) ≤ x4) → (¬ (g_mi (g_wm M f (g_ml M)) (a1 + 5) (x4).toNatClampNeg) = 0) → (¬ (g_mi (g_wm M f (g_ml M)) (a1 + 5) (x4).toNatClampNeg) = 1) → (¬ (g_mi (g_wm M f (g_ml M)) (a1 + 5) (x4).toNatClampNeg) = 2) → (1 ≤ x3) → (¬ (g_mi (g_wm M f (g_ml M)) (a1 + 5) (x4).toNatClampNeg) = 3) → (¬ (g_mi (g_wm M f (g_ml M)) (a1 + 5) (x4).toNatClampNeg) = 4) → (¬ (g_mi (g_wm M f (g_ml M)) (a1 + 5) (x4).toNatClampNeg) = 5) → (1 ≤ (x3 + (-1))) → vp_in ((x3 + (-1))) 51) ∧ ((¬ 460 ≤ x5) → (¬ x4 < 0) → (¬ (g_mi (g_wm M f (g_ml M)) a1 7) ≤ x4) → (¬ (g_mi (g_wm M f (g_ml M)) (a1 + 5) (x4).toNatClampNeg) = 0) → (¬ (g_mi (g_wm M f (g_ml M)) (a1 + 5) (x4).toNatClampNeg) = 1) → (¬ (g_mi (g_wm M f (g_ml M)) (a1 + 5) (x4).toNatClampNeg) = 2) → (1 ≤ x3) → (¬ (g_mi (g_wm M f (g_ml M)) (a1 + 5) (x4).toNatClampNeg) = 3) → (¬ (g_mi (g_wm M f (g_ml M)) (a1 + 5) (x4).toNatClampNeg) = 4) → (¬ (g_mi (g_wm M f (g_ml M)) (a1 + 5) (x4).toNatClampNeg) = 5) → (1 ≤ (x3 + (-1))) → EX4_combined (g_wm M f (g_ml M)) (g_mi (g_wm M f (g_ml M)) (a1 + 5) (x4).toNatClampNeg) (g_mi (g_wm M f (g_ml M)) (a0 + 2) (((x3 + (-1)) - 1)).toNatClampNeg) (g_mi (g_wm M f (g_ml M)) (a0 + 2) ((x3 + (-1))).toNatClampNeg)) ∧ ((¬ 460 ≤ x5) → (¬ x4 < 0) → (¬ (g_mi (g_wm M f (g_ml M)) a1 7) ≤ x4) → (¬ (g_mi (g_wm M f (g_ml M)) (a1 + 5) (x4).toNatClampNeg) = 0) → (¬ (g_mi (g_wm M f (g_ml M)) (a1 + 5) (x4).toNatClampNeg) = 1) → (¬ (g_mi (g_wm M f (g_ml M)) (a1 + 5) (x4).toNatClampNeg) = 2) → (1 ≤ x3) → (¬ (g_mi (g_wm M f (g_ml M)) (a1 + 5) (x4).toNatClampNeg) = 3) → (¬ (g_mi (g_wm M f (g_ml M)) (a1 + 5) (x4).toNatClampNeg) = 4) → (¬ (g_mi (g_wm M f (g_ml M)) (a1 + 5) (x4).toNatClampNeg) = 5) → (1 ≤ (x3 + (-1))) → (¬ (fX4_combined (g_mi (g_wm M f (g_ml M)) (a1 + 5) (x4).toNatClampNeg) (g_mi (g_wm M f (g_ml M)) (a0 + 2) (((x3 + (-1)) - 1)).toNatClampNeg) (g_mi (g_wm M f (g_ml M)) (a0 + 2) ((x3 + (-1))).toNatClampNeg)) = (-2147483648)) → vp_in (((x3 + (-1)) - 1)) 51) ∧ ((¬ 460 ≤ x5) → (¬ x4 < 0) → (¬ (g_mi (g_wm M f (g_ml M)) a1 7) ≤ x4) → (¬ (g_mi (g_wm M f (g_ml M)) (a1 + 5) (x4).toNatClampNeg) = 0) → (¬ (g_mi (g_wm M f (g_ml M)) (a1 + 5) (x4).toNatClampNeg) = 1) → (¬ (g_mi (g_wm M f (g_ml M)) (a1 + 5) (x4).toNatClampNeg) = 2) → (1 ≤ x3) → (¬ (g_mi (g_wm M f (g_ml M)) (a1 + 5) (x4).toNatClampNeg) = 3) → (¬ (g_mi (g_wm M f (g_ml M)) (a1 + 5) (x4).toNatClampNeg) = 4) → ((g_mi (g_wm M f (g_ml M)) (a1 + 5) (x4).toNatClampNeg) = 5) → vp_in ((x3 - 1)) 51) ∧ ((¬ 460 ≤ x5) → (¬ x4 < 0) → (¬ (g_mi (g_wm M f (g_ml M)) a1 7) ≤ x4) → (¬ (g_mi (g_wm M f (g_ml M)) (a1 + 5) (x4).toNatClampNeg) = 0) → (¬ (g_mi (g_wm M f (g_ml M)) (a1 + 5) (x4).toNatClampNeg) = 1) → (¬ (g_mi (g_wm M f (g_ml M)) (a1 + 5) (x4).toNatClampNeg) = 2) → (1 ≤ x3) → ((g_mi (g_wm M f (g_ml M)) (a1 + 5) (x4).toNatClampNeg) = 3) → vp_in ((x3 - 1)) 51) ∧ ((¬ 460 ≤ x5) → (¬ x4 < 0) → (¬ (g_mi (g_wm M f (g_ml M)) a1 7) ≤ x4) → (¬ (g_mi (g_wm M f (g_ml M)) (a1 + 5) (x4).toNatClampNeg) = 0) → (¬ (g_mi (g_wm M f (g_ml M)) (a1 + 5) (x4).toNatClampNeg) = 1) → ((g_mi (g_wm M f (g_ml M)) (a1 + 5) (x4).toNatClampNeg) = 2) → (¬ 51 ≤ x3) → (¬ (g_mi (g_wm M f (g_ml M)) (a1 + 6) (x4).toNatClampNeg) < 0) → ((g_mi (g_wm M f (g_ml M)) (a1 + 6) (x4).toNatClampNeg) < 60) → vp_in ((g_mi (g_wm M f (g_ml M)) (a1 + 6) (x4).toNatClampNeg)) 60) ∧ ((¬ 460 ≤ x5) → (¬ x4 < 0) → (¬ (g_mi (g_wm M f (g_ml M)) a1 7) ≤ x4) → (¬ (g_mi (g_wm M f (g_ml M)) (a1 + 5) (x4).toNatClampNeg) = 0) → (¬ (g_mi (g_wm M f (g_ml M)) (a1 + 5) (x4).toNatClampNeg) = 1) → ((g_mi (g_wm M f (g_ml M)) (a1 + 5) (x4).toNatClampNeg) = 2) → (¬ 51 ≤ x3) → (¬ (g_mi (g_wm M f (g_ml M)) (a1 + 6) (x4).toNatClampNeg) < 0) → ((g_mi (g_wm M f (g_ml M)) (a1 + 6) (x4).toNatClampNeg) < 60) → vp_in (x3) 51) ∧ (if 460 ≤ x5 then (if x3 = 1 then True else True) else (if x4 < 0 then (if x3 = 1 then True else True) else (if (g_mi (g_wm M f (g_ml M)) a1 7) ≤ x4 then (if x3 = 1 then True else True) else (if (g_mi (g_wm M f (g_ml M)) (a1 + 5) (x4).toNatClampNeg) = 0 then (if x3 = 1 then True else True) else (if (g_mi (g_wm M f (g_ml M)) (a1 + 5) (x4).toNatClampNeg) = 1 then (if 51 ≤ x3 then True else (if (g_mi (g_wm M f (g_ml M)) (a1 + 6) (x4).toNatClampNeg) < 0 then True else (k 0 (g_mi (g_wi (g_wm M f (g_ml M)) (a0 + 2) (x3).toNatClampNeg (g_mi (g_wm M f (g_ml M)) (a1 + 6) (x4).toNatClampNeg))) a0 a1 n1 m1 (x3 + 1) (x4 + 1) (x5 + 1)))) else (if (g_mi (g_wm M f (g_ml M)) (a1 + 5) (x4).toNatClampNeg) = 2 then (if 51 ≤ x3 then True else (if (g_mi (g_wm M f (g_ml M)) (a1 + 6) (x4).toNatClampNeg) < 0 then True else (if (g_mi (g_wm M f (g_ml M)) (a1 + 6) (x4).toNatClampNeg) < 60 then (k 0 (g_mi (g_wi (g_wm M f (g_ml M)) (a0 + 2) (x3).toNatClampNeg (g_mi (g_wm M f (g_ml M)) (a0 + 1) ((g_mi (g_wm M f (g_ml M)) (a1 + 6) (x4).toNatClampNeg)).toNatClampNeg))) a0 a1 n1 m1 (x3 + 1) (x4 + 1) (x5 + 1)) else True))) else (if 1 ≤ x3 then (if (g_mi (g_wm M f (g_ml M)) (a1 + 5) (x4).toNatClampNeg) = 3 then (k 0 (g_mi (g_wi (g_wm M f (g_ml M)) (a0 + 2) ((x3 - 1)).toNatClampNeg (1 - (g_mi (g_wm M f (g_ml M)) (a0 + 2) ((x3 - 1)).toNatClampNeg)))) a0 a1 n1 m1 x3 (x4 + 1) (x5 + 1)) else (if (g_mi (g_wm M f (g_ml M)) (a1 + 5) (x4).toNatClampNeg) = 4 then (if (g_mi (g_wm M f (g_ml M)) (a0 + 2) ((x3 - 1)).toNatClampNeg) = 0 then (k 0 (g_mi (g_wm M f (g_ml M))) a0 a1 n1 m1 x3 (g_mi (g_wm M f (g_ml M)) (a1 + 6) (x4).toNatClampNeg) (x5 + 1)) else (k 0 (g_mi (g_wm M f (g_ml M))) a0 a1 n1 m1 (x3 + (-1)) (x4 + 1) (x5 + 1))) else (if (g_mi (g_wm M f (g_ml M)) (a1 + 5) (x4).toNatClampNeg) = 5 then (if (g_mi (g_wm M f (g_ml M)) (a0 + 2) ((x3 - 1)).toNatClampNeg) = 1 then (k 0 (g_mi (g_wm M f (g_ml M))) a0 a1 n1 m1 x3 (g_mi (g_wm M f (g_ml M)) (a1 + 6) (x4).toNatClampNeg) (x5 + 1)) else (k 0 (g_mi (g_wm M f (g_ml M))) a0 a1 n1 m1 (x3 + (-1)) (x4 + 1) (x5 + 1))) else (if 1 ≤ (x3 + (-1)) then (if (fX4_combined (g_mi (g_wm M f (g_ml M)) (a1 + 5) (x4).toNatClampNeg) (g_mi (g_wm M f (g_ml M)) (a0 + 2) (((x3 + (-1)) - 1)).toNatClampNeg) (g_mi (g_wm M f (g_ml M)) (a0 + 2) ((x3 + (-1))).toNatClampNeg)) = (-2147483648) then True else (k 0 (g_mi (g_wi (g_wm M f (g_ml M)) (a0 + 2) (((x3 + (-1)) - 1)).toNatClampNeg (fX4_combined (g_mi (g_wm M f (g_ml M)) (a1 + 5) (x4).toNatClampNeg) (g_mi (g_wm M f (g_ml M)) (a0 + 2) (((x3 + (-1)) - 1)).toNatClampNeg) (g_mi (g_wm M f (g_ml M)) (a0 + 2) ((x3 + (-1))).toNatClampNeg)))) a0 a1 n1 m1 (x3 + (-1)) (x4 + 1) (x5 + 1))) else True)))) else True)))))))
def wX4_valueOf (N : Nat) (M : gM) : Nat → Nat → (Nat → Nat → Int32) → Nat → Nat → Nat → Nat → Int32 → Int32 → Int32 → Int32 × (Nat → Nat → Int32)
  | 0, _, f, _, _, _, _, _, _, _ => (0, f)
  | n + 1, h, f, a0, a1, n1, m1, x3, x4, x5 => bX4_valueOf_8 N M f a0 a1 n1 m1 x3 x4 x5 (wX4_valueOf N M n)
def vX4_valueOf (N : Nat) (M : gM) : Nat → Nat → (Nat → Nat → Int32) → Nat → Nat → Nat → Nat → Int32 → Int32 → Int32 → Prop
  | 0, _, _, _, _, _, _, _, _, _ => False
  | n + 1, h, f, a0, a1, n1, m1, x3, x4, x5 => eX4_valueOf_8 N M f a0 a1 n1 m1 x3 x4 x5 (vX4_valueOf N M n)
set_option maxRecDepth 10000 in
theorem lpX4_valueOf {X : gX} {d mc ms : Nat} {Q : Option Value → gM → Prop} (N : Nat) (M : gM) : ∀ n : Nat, (∀ (f : Nat → Nat → Int32) (a0 : Nat) (a1 : Nat) (n1 : Nat) (m1 : Nat) (x3 : Int32) (x4 : Int32) (x5 : Int32), Su M a0 → Tx M a1 n1 m1 → vX4_valueOf N M n 0 f a0 a1 n1 m1 x3 x4 x5 → Q (some (.int (wX4_valueOf N M n 0 f a0 a1 n1 m1 x3 x4 x5).1)) (g_wm M (wX4_valueOf N M n 0 f a0 a1 n1 m1 x3 x4 x5).2 (g_ml M)) → Go X (d + 1) mc ms kX4_valueOf Q 8 [(0, .ref a0), (1, .ref a1), (3, .int (x3)), (4, .int (x4)), (5, .int (x5))] [] (g_wm M f (g_ml M)) 0 0) := by
  intro n
  induction n with
  | zero => exact fun _ _ _ _ _ _ _ _ _ _ h _ => h.elim
  | succ n ih =>
    intro f a0 a1 n1 m1 x3 x4 x5 s0 s1 hT hQ
    rw [vX4_valueOf] at hT
    rw [wX4_valueOf] at hQ
    unfold bX4_valueOf_8 at hQ
    unfold eX4_valueOf_8 at hT
    obtain ⟨b9, b12, b14, b17, b18, b19, b20, b24, b27, b32, b33, hT⟩ := hT
    exact sX4_valueOf_8 (M := (g_wm M f (g_ml M))) (Su.sm Sm.wm s0) (Tx.sm Sm.wm s1) (fun c1 c2 => by simp only [if_pos c1, if_neg c2] at hQ; exact Sm.q Sm.wm hQ) (Nat.zero_le _) (Nat.zero_le _) (fun c1 c2 => by simp only [if_pos c1, if_pos c2] at hQ; exact Sm.q Sm.wm hQ) (fun c1 c3 c4 => by simp only [if_neg c1, if_pos c3, if_neg c4] at hQ; exact Sm.q Sm.wm hQ) (fun c1 c3 c4 => by simp only [if_neg c1, if_pos c3, if_pos c4] at hQ; exact Sm.q Sm.wm hQ) (fun c1 c3 c5 c6 => by simp only [if_neg c1, if_neg c3, if_pos c5, if_neg c6] at hQ; exact Sm.q Sm.wm hQ) (fun c1 c3 c5 c6 => by simp only [if_neg c1, if_neg c3, if_pos c5, if_pos c6] at hQ; exact Sm.q Sm.wm hQ) b9 (fun c1 c3 c5 c7 c8 c9 => by simp only [if_neg c1, if_neg c3, if_neg c5, if_neg c7, if_pos c8, if_pos c9] at hQ; exact Sm.q Sm.wm hQ) (fun c1 c3 c5 c7 c8 c9 c10 => by simp only [if_neg c1, if_neg c3, if_neg c5, if_neg c7, if_pos c8, if_neg c9, if_pos c10] at hQ; exact Sm.q Sm.wm hQ) b12 (fun c1 c3 c5 c7 c8 c9 c10 => by simp only [if_neg c1, if_neg c3, if_neg c5, if_neg c7, if_pos c8, if_neg c9, if_neg c10] at hQ hT; exact Sm.g (Sm.tr Sm.wm (Sm.wi Sm.rf)) (ih _ _ _ _ _ _ _ _ (s0) (s1) hT hQ)) b14 (fun c1 c3 c5 c7 c8 c11 c12 c13 c14 c15 => by simp only [if_neg c1, if_neg c3, if_neg c5, if_neg c7, if_neg c8, if_neg c11, if_pos c12, if_neg c13, if_pos c14, if_neg c15] at hQ hT; exact Sm.g Sm.wm (ih _ _ _ _ _ _ _ _ (s0) (s1) hT hQ)) (fun c1 c3 c5 c7 c8 c11 c12 c13 c14 c15 => by simp only [if_neg c1, if_neg c3, if_neg c5, if_neg c7, if_neg c8, if_neg c11, if_pos c12, if_neg c13, if_pos c14, if_pos c15] at hQ hT; exact Sm.g Sm.wm (ih _ _ _ _ _ _ _ _ (s0) (s1) hT hQ)) b17 b18 b19 b20 (fun c1 c3 c5 c7 c8 c11 c12 c13 c14 c16 c17 c18 => by simp only [if_neg c1, if_neg c3, if_neg c5, if_neg c7, if_neg c8, if_neg c11, if_pos c12, if_neg c13, if_neg c14, if_neg c16, if_pos c17, if_neg c18] at hQ hT; exact Sm.g (Sm.tr Sm.wm (Sm.wi Sm.rf)) (ih _ _ _ _ _ _ _ _ (s0) (s1) hT hQ)) (fun c1 c3 c5 c7 c8 c11 c12 c13 c14 c16 c17 c18 => by simp only [if_neg c1, if_neg c3, if_neg c5, if_neg c7, if_neg c8, if_neg c11, if_pos c12, if_neg c13, if_neg c14, if_neg c16, if_pos c17, if_pos c18] at hQ; exact Sm.q Sm.wm hQ) (fun c1 c3 c5 c7 c8 c11 c12 c13 c14 c16 c17 => by simp only [if_neg c1, if_neg c3, if_neg c5, if_neg c7, if_neg c8, if_neg c11, if_pos c12, if_neg c13, if_neg c14, if_neg c16, if_neg c17] at hQ; exact Sm.q Sm.wm hQ) b24 (fun c1 c3 c5 c7 c8 c11 c12 c13 c14 c16 c19 => by simp only [if_neg c1, if_neg c3, if_neg c5, if_neg c7, if_neg c8, if_neg c11, if_pos c12, if_neg c13, if_neg c14, if_pos c16, if_neg c19] at hQ hT; exact Sm.g Sm.wm (ih _ _ _ _ _ _ _ _ (s0) (s1) hT hQ)) (fun c1 c3 c5 c7 c8 c11 c12 c13 c14 c16 c19 => by simp only [if_neg c1, if_neg c3, if_neg c5, if_neg c7, if_neg c8, if_neg c11, if_pos c12, if_neg c13, if_neg c14, if_pos c16, if_pos c19] at hQ hT; exact Sm.g Sm.wm (ih _ _ _ _ _ _ _ _ (s0) (s1) hT hQ)) b27 (fun c1 c3 c5 c7 c8 c11 c12 c13 => by simp only [if_neg c1, if_neg c3, if_neg c5, if_neg c7, if_neg c8, if_neg c11, if_pos c12, if_pos c13] at hQ hT; exact Sm.g (Sm.tr Sm.wm (Sm.wi Sm.rf)) (ih _ _ _ _ _ _ _ _ (s0) (s1) hT hQ)) (fun c1 c3 c5 c7 c8 c11 c12 => by simp only [if_neg c1, if_neg c3, if_neg c5, if_neg c7, if_neg c8, if_neg c11, if_neg c12] at hQ; exact Sm.q Sm.wm hQ) (fun c1 c3 c5 c7 c8 c11 c20 => by simp only [if_neg c1, if_neg c3, if_neg c5, if_neg c7, if_neg c8, if_pos c11, if_pos c20] at hQ; exact Sm.q Sm.wm hQ) (fun c1 c3 c5 c7 c8 c11 c20 c21 => by simp only [if_neg c1, if_neg c3, if_neg c5, if_neg c7, if_neg c8, if_pos c11, if_neg c20, if_pos c21] at hQ; exact Sm.q Sm.wm hQ) b32 b33 (fun c1 c3 c5 c7 c8 c11 c20 c21 c22 => by simp only [if_neg c1, if_neg c3, if_neg c5, if_neg c7, if_neg c8, if_pos c11, if_neg c20, if_neg c21, if_pos c22] at hQ hT; exact Sm.g (Sm.tr Sm.wm (Sm.wi Sm.rf)) (ih _ _ _ _ _ _ _ _ (s0) (s1) hT hQ)) (fun c1 c3 c5 c7 c8 c11 c20 c21 c22 => by simp only [if_neg c1, if_neg c3, if_neg c5, if_neg c7, if_neg c8, if_pos c11, if_neg c20, if_neg c21, if_neg c22] at hQ; exact Sm.q Sm.wm hQ) (fun c1 c3 c5 c7 c23 => by simp only [if_neg c1, if_neg c3, if_neg c5, if_pos c7, if_neg c23] at hQ; exact Sm.q Sm.wm hQ) (fun c1 c3 c5 c7 c23 => by simp only [if_neg c1, if_neg c3, if_neg c5, if_pos c7, if_pos c23] at hQ; exact Sm.q Sm.wm hQ)
def fX4_valueOf (N : Nat) (M : gM) (a0 : Nat) (a1 : Nat) (n1 : Nat) (m1 : Nat) (x2 : Int32) : Int32 := (bX4_valueOf_0 N M a0 a1 n1 m1 x2 (wX4_valueOf N M N)).1
def mX4_valueOf (N : Nat) (M : gM) (a0 : Nat) (a1 : Nat) (n1 : Nat) (m1 : Nat) (x2 : Int32) : gM := g_wm M (bX4_valueOf_0 N M a0 a1 n1 m1 x2 (wX4_valueOf N M N)).2 (g_ml M)
theorem jX4_valueOf {N : Nat} {M : gM} {a0 : Nat} {a1 : Nat} {n1 : Nat} {m1 : Nat} {x2 : Int32} : Sm M (mX4_valueOf N M a0 a1 n1 m1 x2) := Sm.wm
def EX4_valueOf (N : Nat) (M : gM) (a0 : Nat) (a1 : Nat) (n1 : Nat) (m1 : Nat) (x2 : Int32) : Prop := eX4_valueOf_0 N M a0 a1 n1 m1 x2 (vX4_valueOf N M N)
theorem tX4_valueOf {N : Nat} {X : gX} {d mc ms : Nat} {Q : Option Value → gM → Prop} {M : gM} {a0 : Nat} {a1 : Nat} {n1 m1 : Nat} {x2 : Int32} (s0 : Su M a0) (s1 : Tx M a1 n1 m1) (hE : EX4_valueOf N M a0 a1 n1 m1 x2) (hQ : Q (some (.int (fX4_valueOf N M a0 a1 n1 m1 x2))) (mX4_valueOf N M a0 a1 n1 m1 x2)) : Cn X (d + 1) mc ms kX4_valueOf [.ref a0, .ref a1, .int (x2)] M Q := by
  unfold fX4_valueOf mX4_valueOf at hQ
  unfold bX4_valueOf_0 at hQ
  unfold EX4_valueOf eX4_valueOf_0 at hE
  have hT := hE
  have ih := lpX4_valueOf (X := X) (d := d) (mc := mc) (ms := ms) (Q := Q) N M N
  exact sX4_valueOf_0 s0 s1 (Sm.g Sm.rf (ih _ _ _ _ _ _ _ _ (s0) (s1) hT hQ))
/-! X5_copyFrom  -/
set_option maxRecDepth 4000 in
theorem sX5_copyFrom_0 {X : gX} {d mc ms : Nat} {Q : Option Value → gM → Prop} {M : gM} {a0 : Nat} {a1 : Nat} (s0 : Tb M a0) (s1 : Tb M a1) (b1 : (g_mi M a1 3) = 0 ∨ (g_mi M a1 3) = 1) (h2 : (¬ (g_mi (g_wi M a0 3 (g_mi M a1 3)) a0 3) = 0) → Q none (g_wi (g_wi (g_wi (g_cp (g_cp (g_cp (g_wi M a0 3 (g_mi M a1 3)) (a1 + 1) (a0 + 1) 0 0 30) (a1 + 2) (a0 + 2) 0 0 60) (a1 + 3) (a0 + 3) 0 0 60) a0 4 (g_mi (g_cp (g_cp (g_cp (g_wi M a0 3 (g_mi M a1 3)) (a1 + 1) (a0 + 1) 0 0 30) (a1 + 2) (a0 + 2) 0 0 60) (a1 + 3) (a0 + 3) 0 0 60) a1 4)) a0 5 (g_mi (g_wi (g_cp (g_cp (g_cp (g_wi M a0 3 (g_mi M a1 3)) (a1 + 1) (a0 + 1) 0 0 30) (a1 + 2) (a0 + 2) 0 0 60) (a1 + 3) (a0 + 3) 0 0 60) a0 4 (g_mi (g_cp (g_cp (g_cp (g_wi M a0 3 (g_mi M a1 3)) (a1 + 1) (a0 + 1) 0 0 30) (a1 + 2) (a0 + 2) 0 0 60) (a1 + 3) (a0 + 3) 0 0 60) a1 4)) a1 5)) a0 6 (g_mi (g_wi (g_wi (g_cp (g_cp (g_cp (g_wi M a0 3 (g_mi M a1 3)) (a1 + 1) (a0 + 1) 0 0 30) (a1 + 2) (a0 + 2) 0 0 60) (a1 + 3) (a0 + 3) 0 0 60) a0 4 (g_mi (g_cp (g_cp (g_cp (g_wi M a0 3 (g_mi M a1 3)) (a1 + 1) (a0 + 1) 0 0 30) (a1 + 2) (a0 + 2) 0 0 60) (a1 + 3) (a0 + 3) 0 0 60) a1 4)) a0 5 (g_mi (g_wi (g_cp (g_cp (g_cp (g_wi M a0 3 (g_mi M a1 3)) (a1 + 1) (a0 + 1) 0 0 30) (a1 + 2) (a0 + 2) 0 0 60) (a1 + 3) (a0 + 3) 0 0 60) a0 4 (g_mi (g_cp (g_cp (g_cp (g_wi M a0 3 (g_mi M a1 3)) (a1 + 1) (a0 + 1) 0 0 30) (a1 + 2) (a0 + 2) 0 0 60) (a1 + 3) (a0 + 3) 0 0 60) a1 4)) a1 5)) a1 6))) (h3 : ((g_mi (g_wi M a0 3 (g_mi M a1 3)) a0 3) = 0) → Q none (g_wi M a0 3 (g_mi M a1 3))) : Cn X (d + 1) mc ms kX5_copyFrom [.ref a0, .ref a1] M Q := by
  refine g_meth rfl rfl (Nat.le_of_ble_eq_true rfl) rfl ?_
  refine g_aload_n 0 1 dX5_copyFrom_0 rfl rfl ?_
  refine g_aload_n 1 2 dX5_copyFrom_1 rfl rfl ?_
  refine g_getI 5 dX5_copyFrom_2 rfl flX5_25 s1.1 ?_
  refine g_putZ 8 dX5_copyFrom_5 rfl flX5_25 s0.1 (b1) ?_
  refine g_aload_n 0 9 dX5_copyFrom_8 rfl rfl ?_
  refine g_getI 12 dX5_copyFrom_9 rfl flX5_25 (Sm.k (Sm.wi Sm.rf) s0.1) ?_
  refine g_if_ne 16 15 dX5_copyFrom_12 rfl rfl (fun c1 => ?_) (fun c1 => ?_)
  · skip
    refine g_aload_n 1 17 dX5_copyFrom_16 rfl rfl ?_
    refine g_getR 20 (a1 + 1) dX5_copyFrom_17 rfl flX5_9 (Sm.k (Sm.wi Sm.rf) s1.1) (Sm.r (Sm.wi Sm.rf) s1.2.1) ?_
    refine g_iconst (0) 21 dX5_copyFrom_20 rfl rfl ?_
    refine g_aload_n 0 22 dX5_copyFrom_21 rfl rfl ?_
    refine g_getR 25 (a0 + 1) dX5_copyFrom_22 rfl flX5_9 (Sm.k (Sm.wi Sm.rf) s0.1) (Sm.r (Sm.wi Sm.rf) s0.2.1) ?_
    refine g_iconst (0) 26 dX5_copyFrom_25 rfl rfl ?_
    refine g_bipush (30) 28 dX5_copyFrom_26 rfl rfl ?_
    refine g_copy 31 dX5_copyFrom_28 rfl q3_195 q3_180 q3_179 q1_17 (Sm.k (Sm.wi Sm.rf) s1.2.2.1) (Sm.k (Sm.wi Sm.rf) s0.2.2.1) (by decide) (by decide) (by decide) (by decide) (by decide) (Nat.le_of_ble_eq_true rfl) ?_
    refine g_aload_n 1 32 dX5_copyFrom_31 rfl rfl ?_
    refine g_getR 35 (a1 + 2) dX5_copyFrom_32 rfl flX5_15 (Sm.k (Sm.cp (Sm.wi Sm.rf)) s1.1) (Sm.r (Sm.cp (Sm.wi Sm.rf)) s1.2.2.2.1) ?_
    refine g_iconst (0) 36 dX5_copyFrom_35 rfl rfl ?_
    refine g_aload_n 0 37 dX5_copyFrom_36 rfl rfl ?_
    refine g_getR 40 (a0 + 2) dX5_copyFrom_37 rfl flX5_15 (Sm.k (Sm.cp (Sm.wi Sm.rf)) s0.1) (Sm.r (Sm.cp (Sm.wi Sm.rf)) s0.2.2.2.1) ?_
    refine g_iconst (0) 41 dX5_copyFrom_40 rfl rfl ?_
    refine g_bipush (60) 43 dX5_copyFrom_41 rfl rfl ?_
    refine g_copy 46 dX5_copyFrom_43 rfl q3_195 q3_180 q3_179 q1_17 (Sm.k (Sm.cp (Sm.wi Sm.rf)) s1.2.2.2.2.1) (Sm.k (Sm.cp (Sm.wi Sm.rf)) s0.2.2.2.2.1) (by decide) (by decide) (by decide) (by decide) (by decide) (Nat.le_of_ble_eq_true rfl) ?_
    refine g_aload_n 1 47 dX5_copyFrom_46 rfl rfl ?_
    refine g_getR 50 (a1 + 3) dX5_copyFrom_47 rfl flX5_18 (Sm.k (Sm.cp (Sm.cp (Sm.wi Sm.rf))) s1.1) (Sm.r (Sm.cp (Sm.cp (Sm.wi Sm.rf))) s1.2.2.2.2.2.1) ?_
    refine g_iconst (0) 51 dX5_copyFrom_50 rfl rfl ?_
    refine g_aload_n 0 52 dX5_copyFrom_51 rfl rfl ?_
    refine g_getR 55 (a0 + 3) dX5_copyFrom_52 rfl flX5_18 (Sm.k (Sm.cp (Sm.cp (Sm.wi Sm.rf))) s0.1) (Sm.r (Sm.cp (Sm.cp (Sm.wi Sm.rf))) s0.2.2.2.2.2.1) ?_
    refine g_iconst (0) 56 dX5_copyFrom_55 rfl rfl ?_
    refine g_bipush (60) 58 dX5_copyFrom_56 rfl rfl ?_
    refine g_copy 61 dX5_copyFrom_58 rfl q3_195 q3_180 q3_179 q1_17 (Sm.k (Sm.cp (Sm.cp (Sm.wi Sm.rf))) s1.2.2.2.2.2.2) (Sm.k (Sm.cp (Sm.cp (Sm.wi Sm.rf))) s0.2.2.2.2.2.2) (by decide) (by decide) (by decide) (by decide) (by decide) (Nat.le_of_ble_eq_true rfl) ?_
    refine g_aload_n 0 62 dX5_copyFrom_61 rfl rfl ?_
    refine g_aload_n 1 63 dX5_copyFrom_62 rfl rfl ?_
    refine g_getI 66 dX5_copyFrom_63 rfl flX5_35 (Sm.k (Sm.cp (Sm.cp (Sm.cp (Sm.wi Sm.rf)))) s1.1) ?_
    refine g_putI 69 dX5_copyFrom_66 rfl flX5_35 (Sm.k (Sm.cp (Sm.cp (Sm.cp (Sm.wi Sm.rf)))) s0.1) ?_
    refine g_aload_n 0 70 dX5_copyFrom_69 rfl rfl ?_
    refine g_aload_n 1 71 dX5_copyFrom_70 rfl rfl ?_
    refine g_getI 74 dX5_copyFrom_71 rfl flX5_21 (Sm.k (Sm.wi (Sm.cp (Sm.cp (Sm.cp (Sm.wi Sm.rf))))) s1.1) ?_
    refine g_putI 77 dX5_copyFrom_74 rfl flX5_21 (Sm.k (Sm.wi (Sm.cp (Sm.cp (Sm.cp (Sm.wi Sm.rf))))) s0.1) ?_
    refine g_aload_n 0 78 dX5_copyFrom_77 rfl rfl ?_
    refine g_aload_n 1 79 dX5_copyFrom_78 rfl rfl ?_
    refine g_getI 82 dX5_copyFrom_79 rfl flX5_38 (Sm.k (Sm.wi (Sm.wi (Sm.cp (Sm.cp (Sm.cp (Sm.wi Sm.rf)))))) s1.1) ?_
    refine g_putI 85 dX5_copyFrom_82 rfl flX5_38 (Sm.k (Sm.wi (Sm.wi (Sm.cp (Sm.cp (Sm.cp (Sm.wi Sm.rf)))))) s0.1) ?_
    exact g_vret dX5_copyFrom_85 rfl (Nat.zero_le _) (Nat.zero_le _) (h2 c1)
  · skip
    exact g_vret dX5_copyFrom_15 rfl (Nat.zero_le _) (Nat.zero_le _) (h3 c1)

def mX5_copyFrom (M : gM) (a0 : Nat) (a1 : Nat) : gM := g_wm M (if (g_mi (g_wi M a0 3 (g_mi M a1 3)) a0 3) = 0 then (g_mi (g_wi M a0 3 (g_mi M a1 3))) else (g_mi (g_wi (g_wi (g_wi (g_cp (g_cp (g_cp (g_wi M a0 3 (g_mi M a1 3)) (a1 + 1) (a0 + 1) 0 0 30) (a1 + 2) (a0 + 2) 0 0 60) (a1 + 3) (a0 + 3) 0 0 60) a0 4 (g_mi (g_cp (g_cp (g_cp (g_wi M a0 3 (g_mi M a1 3)) (a1 + 1) (a0 + 1) 0 0 30) (a1 + 2) (a0 + 2) 0 0 60) (a1 + 3) (a0 + 3) 0 0 60) a1 4)) a0 5 (g_mi (g_wi (g_cp (g_cp (g_cp (g_wi M a0 3 (g_mi M a1 3)) (a1 + 1) (a0 + 1) 0 0 30) (a1 + 2) (a0 + 2) 0 0 60) (a1 + 3) (a0 + 3) 0 0 60) a0 4 (g_mi (g_cp (g_cp (g_cp (g_wi M a0 3 (g_mi M a1 3)) (a1 + 1) (a0 + 1) 0 0 30) (a1 + 2) (a0 + 2) 0 0 60) (a1 + 3) (a0 + 3) 0 0 60) a1 4)) a1 5)) a0 6 (g_mi (g_wi (g_wi (g_cp (g_cp (g_cp (g_wi M a0 3 (g_mi M a1 3)) (a1 + 1) (a0 + 1) 0 0 30) (a1 + 2) (a0 + 2) 0 0 60) (a1 + 3) (a0 + 3) 0 0 60) a0 4 (g_mi (g_cp (g_cp (g_cp (g_wi M a0 3 (g_mi M a1 3)) (a1 + 1) (a0 + 1) 0 0 30) (a1 + 2) (a0 + 2) 0 0 60) (a1 + 3) (a0 + 3) 0 0 60) a1 4)) a0 5 (g_mi (g_wi (g_cp (g_cp (g_cp (g_wi M a0 3 (g_mi M a1 3)) (a1 + 1) (a0 + 1) 0 0 30) (a1 + 2) (a0 + 2) 0 0 60) (a1 + 3) (a0 + 3) 0 0 60) a0 4 (g_mi (g_cp (g_cp (g_cp (g_wi M a0 3 (g_mi M a1 3)) (a1 + 1) (a0 + 1) 0 0 30) (a1 + 2) (a0 + 2) 0 0 60) (a1 + 3) (a0 + 3) 0 0 60) a1 4)) a1 5)) a1 6)))) (g_ml M)
def EX5_copyFrom (M : gM) (a0 : Nat) (a1 : Nat) : Prop := ((g_mi M a1 3) = 0 ∨ (g_mi M a1 3) = 1)
theorem jX5_copyFrom {M : gM} {a0 : Nat} {a1 : Nat} : Sm M (mX5_copyFrom M a0 a1) := Sm.wm
theorem tX5_copyFrom {X : gX} {d mc ms : Nat} {Q : Option Value → gM → Prop} {M : gM} {a0 : Nat} {a1 : Nat} (s0 : Tb M a0) (s1 : Tb M a1) (hE : EX5_copyFrom M a0 a1) (hQ : Q none (mX5_copyFrom M a0 a1)) : Cn X (d + 1) mc ms kX5_copyFrom [.ref a0, .ref a1] M Q := by
  unfold mX5_copyFrom at hQ
  have b1 := hE
  exact sX5_copyFrom_0 s0 s1 b1 (fun c1 => by simp only [if_neg c1] at hQ; exact Sm.q (Sm.wi (Sm.wi (Sm.wi (Sm.cp (Sm.cp (Sm.cp (Sm.wi Sm.rf))))))) hQ) (fun c1 => by simp only [if_pos c1] at hQ; exact Sm.q (Sm.wi Sm.rf) hQ)
/-! X8_there  -/
set_option maxRecDepth 4000 in
theorem sX8_there_0 {X : gX} {d mc ms : Nat} {Q : Option Value → gM → Prop} {M : gM} {a0 : Nat} {x1 : Int32} (s0 : Ph M a0) (h1 : (x1 < 0) → Q (some (.int ((-1)))) M) (h2 : (¬ x1 < 0) → ((g_mi M ((a0 + 1) + 1) 3) ≤ x1) → Q (some (.int ((-1)))) M) (b3 : (¬ x1 < 0) → (¬ (g_mi M ((a0 + 1) + 1) 3) ≤ x1) → vp_in (x1) 30) (h4 : (¬ x1 < 0) → (¬ (g_mi M ((a0 + 1) + 1) 3) ≤ x1) → Q (some (.int ((g_mi M (((a0 + 1) + 1) + 1) (x1).toNatClampNeg)))) M) : Cn X d mc ms kX8_there [.ref a0, .int (x1)] M Q := by
  refine g_meth rfl rfl (Nat.le_of_ble_eq_true rfl) rfl ?_
  refine g_aload_n 0 1 dX8_there_0 rfl rfl ?_
  refine g_getR 4 (a0 + 1) dX8_there_1 rfl flX8_14 s0.1 s0.2.1 ?_
  refine g_getR 7 ((a0 + 1) + 1) dX8_there_4 rfl flX8_102 s0.2.2.1.1 s0.2.2.1.2.1 ?_
  refine g_astore_n 8 [(2, .ref ((a0 + 1) + 1)), (0, .ref a0), (1, .int (x1))] dX8_there_7 rfl (Nat.le_of_ble_eq_true rfl) rfl ?_
  refine g_iload_n 2 9 dX8_there_8 rfl rfl ?_
  refine g_if_lt 29 12 dX8_there_9 rfl rfl (fun c1 => ?_) (fun c1 => ?_)
  · skip
    refine g_iconst ((-1)) 30 dX8_there_29 rfl rfl ?_
    exact g_iret dX8_there_30 rfl (Nat.zero_le _) (Nat.zero_le _) (h1 c1)
  · skip
    refine g_iload_n 2 13 dX8_there_12 rfl rfl ?_
    refine g_aload_n 0 14 dX8_there_13 rfl rfl ?_
    refine g_getI 17 dX8_there_14 rfl flX8_137 s0.2.2.1.2.2.1.1 ?_
    refine g_icmp_ge 29 20 dX8_there_17 rfl rfl (fun c2 => ?_) (fun c2 => ?_)
    · skip
      refine g_iconst ((-1)) 30 dX8_there_29 rfl rfl ?_
      exact g_iret dX8_there_30 rfl (Nat.zero_le _) (Nat.zero_le _) (h2 c1 c2)
    · skip
      refine g_aload_n 0 21 dX8_there_20 rfl rfl ?_
      refine g_getR 24 (((a0 + 1) + 1) + 1) dX8_there_21 rfl flX8_140 s0.2.2.1.2.2.1.1 s0.2.2.1.2.2.1.2.1 ?_
      refine g_iload_n 2 25 dX8_there_24 rfl rfl ?_
      refine h_iaload 26 (x1).toNatClampNeg dX8_there_25 rfl rfl s0.2.2.1.2.2.1.2.2.1 (b3 c1 c2) ?_
      refine g_goto 30 dX8_there_26 rfl ?_
      exact g_iret dX8_there_30 rfl (Nat.zero_le _) (Nat.zero_le _) (h4 c1 c2)

def fX8_there (M : gM) (a0 : Nat) (x1 : Int32) : Int32 := (if x1 < 0 then (-1) else (if (g_mi M ((a0 + 1) + 1) 3) ≤ x1 then (-1) else (g_mi M (((a0 + 1) + 1) + 1) (x1).toNatClampNeg)))
def EX8_there (M : gM) (a0 : Nat) (x1 : Int32) : Prop := ((¬ x1 < 0) → (¬ (g_mi M ((a0 + 1) + 1) 3) ≤ x1) → vp_in (x1) 30)
theorem tX8_there {X : gX} {d mc ms : Nat} {Q : Option Value → gM → Prop} {M : gM} {a0 : Nat} {x1 : Int32} (s0 : Ph M a0) (hE : EX8_there M a0 x1) (hQ : Q (some (.int (fX8_there M a0 x1))) M) : Cn X d mc ms kX8_there [.ref a0, .int (x1)] M Q := by
  unfold fX8_there at hQ
  have b3 := hE
  exact sX8_there_0 s0 (fun c1 => by simp only [if_pos c1] at hQ; exact hQ) (fun c1 c2 => by simp only [if_neg c1, if_pos c2] at hQ; exact hQ) b3 (fun c1 c2 => by simp only [if_neg c1, if_neg c2] at hQ; exact hQ)
/-! X8_ceiling  -/
set_option maxRecDepth 4000 in
theorem sX8_ceiling_0 {N : Nat} {X : gX} {d mc ms : Nat} {Q : Option Value → gM → Prop} {M : gM} {a0 : Nat} {x1 : Int32} (s0 : Ph M a0) (b1 : EX3_lowerThan N M ((a0 + 1) + 1) x1) (h2 : ((g_mi M ((a0 + 1) + 1) 3) ≤ (fX3_lowerThan N M ((a0 + 1) + 1) x1)) → Q (some (.int ((-1)))) M) (b3 : (¬ (g_mi M ((a0 + 1) + 1) 3) ≤ (fX3_lowerThan N M ((a0 + 1) + 1) x1)) → vp_in ((fX3_lowerThan N M ((a0 + 1) + 1) x1)) 30) (h4 : (¬ (g_mi M ((a0 + 1) + 1) 3) ≤ (fX3_lowerThan N M ((a0 + 1) + 1) x1)) → Q (some (.int ((g_mi M (((a0 + 1) + 1) + 1) ((fX3_lowerThan N M ((a0 + 1) + 1) x1)).toNatClampNeg)))) M) : Cn X (d + 1) mc ms kX8_ceiling [.ref a0, .int (x1)] M Q := by
  refine g_meth rfl rfl (Nat.le_of_ble_eq_true rfl) rfl ?_
  refine g_aload_n 0 1 dX8_ceiling_0 rfl rfl ?_
  refine g_getR 4 (a0 + 1) dX8_ceiling_1 rfl flX8_14 s0.1 s0.2.1 ?_
  refine g_getR 7 ((a0 + 1) + 1) dX8_ceiling_4 rfl flX8_102 s0.2.2.1.1 s0.2.2.1.2.1 ?_
  refine g_astore_n 8 [(2, .ref ((a0 + 1) + 1)), (0, .ref a0), (1, .int (x1))] dX8_ceiling_7 rfl (Nat.le_of_ble_eq_true rfl) rfl ?_
  refine g_aload_n 0 9 dX8_ceiling_8 rfl rfl ?_
  refine g_iload_n 2 10 dX8_ceiling_9 rfl rfl ?_
  refine g_callV (mc1 := 0) (ms1 := 0) (b := ((a0 + 1) + 1)) (rest := []) (av := [.int (x1)]) kX3_lowerThan 13 dX8_ceiling_10 rfl rfl mbX8_143 imX3_lowerThan seX3_lowerThan gcl3.1 s0.2.2.1.2.2.1.1 (Nat.le_of_ble_eq_true rfl) (Nat.zero_le _) (Nat.zero_le _) (tX3_lowerThan (N := N) s0.2.2.1.2.2.1 (b1) ?_)
  show Go X (d + 1) mc ms kX8_ceiling Q 13 [(2, .ref ((a0 + 1) + 1)), (0, .ref a0), (1, .int (x1))] [.int ((fX3_lowerThan N M ((a0 + 1) + 1) x1))] M 0 0
  refine g_istore_n 14 [(3, .int ((fX3_lowerThan N M ((a0 + 1) + 1) x1))), (2, .ref ((a0 + 1) + 1)), (0, .ref a0), (1, .int (x1))] dX8_ceiling_13 rfl (Nat.le_of_ble_eq_true rfl) rfl ?_
  refine g_iload_n 0 15 dX8_ceiling_14 rfl rfl ?_
  refine g_aload_n 1 16 dX8_ceiling_15 rfl rfl ?_
  refine g_getI 19 dX8_ceiling_16 rfl flX8_137 s0.2.2.1.2.2.1.1 ?_
  refine g_icmp_ge 31 22 dX8_ceiling_19 rfl rfl (fun c1 => ?_) (fun c1 => ?_)
  · skip
    refine g_iconst ((-1)) 32 dX8_ceiling_31 rfl rfl ?_
    exact g_iret dX8_ceiling_32 rfl (Nat.zero_le _) (Nat.zero_le _) (h2 c1)
  · skip
    refine g_aload_n 1 23 dX8_ceiling_22 rfl rfl ?_
    refine g_getR 26 (((a0 + 1) + 1) + 1) dX8_ceiling_23 rfl flX8_140 s0.2.2.1.2.2.1.1 s0.2.2.1.2.2.1.2.1 ?_
    refine g_iload_n 0 27 dX8_ceiling_26 rfl rfl ?_
    refine h_iaload 28 ((fX3_lowerThan N M ((a0 + 1) + 1) x1)).toNatClampNeg dX8_ceiling_27 rfl rfl s0.2.2.1.2.2.1.2.2.1 (b3 c1) ?_
    refine g_goto 32 dX8_ceiling_28 rfl ?_
    exact g_iret dX8_ceiling_32 rfl (Nat.zero_le _) (Nat.zero_le _) (h4 c1)

def fX8_ceiling (N : Nat) (M : gM) (a0 : Nat) (x1 : Int32) : Int32 := (if (g_mi M ((a0 + 1) + 1) 3) ≤ (fX3_lowerThan N M ((a0 + 1) + 1) x1) then (-1) else (g_mi M (((a0 + 1) + 1) + 1) ((fX3_lowerThan N M ((a0 + 1) + 1) x1)).toNatClampNeg))
def EX8_ceiling (N : Nat) (M : gM) (a0 : Nat) (x1 : Int32) : Prop := (EX3_lowerThan N M ((a0 + 1) + 1) x1) ∧ ((¬ (g_mi M ((a0 + 1) + 1) 3) ≤ (fX3_lowerThan N M ((a0 + 1) + 1) x1)) → vp_in ((fX3_lowerThan N M ((a0 + 1) + 1) x1)) 30)
theorem tX8_ceiling {N : Nat} {X : gX} {d mc ms : Nat} {Q : Option Value → gM → Prop} {M : gM} {a0 : Nat} {x1 : Int32} (s0 : Ph M a0) (hE : EX8_ceiling N M a0 x1) (hQ : Q (some (.int (fX8_ceiling N M a0 x1))) M) : Cn X (d + 1) mc ms kX8_ceiling [.ref a0, .int (x1)] M Q := by
  unfold fX8_ceiling at hQ
  obtain ⟨b1, b3⟩ := hE
  exact sX8_ceiling_0 s0 b1 (fun c1 => by simp only [if_pos c1] at hQ; exact hQ) b3 (fun c1 => by simp only [if_neg c1] at hQ; exact hQ)
/-! X8_terms  -/
set_option maxRecDepth 4000 in
theorem sX8_terms_0 {X : gX} {d mc ms : Nat} {Q : Option Value → gM → Prop} {M : gM} {a0 : Nat} {x1 : Int32} {x2 : Int32} (s0 : Ph M a0) (h1 : (¬ x1 = 0) → (¬ x1 = 1) → (¬ x1 = 2) → (x2 < 0) → Q (some (.int ((fX8_refuse a0 (-1))))) (mX8_refuse M a0 (-1))) (b2 : (¬ x1 = 0) → (¬ x1 = 1) → (¬ x1 = 2) → (¬ x2 < 0) → (x2 ≤ (-1)) → vp_in (x1) 3) (h3 : (¬ x1 = 0) → (¬ x1 = 1) → (¬ x1 = 2) → (¬ x2 < 0) → (x2 ≤ (-1)) → Q (some (.int ((fX8_accept a0 (g_mi M (((a0 + 1) + 1) + 2) (x1).toNatClampNeg))))) (mX8_accept (mX0_clear (g_wi M (((a0 + 1) + 1) + 2) (x1).toNatClampNeg x2) (a0 + 13)) a0 (g_mi M (((a0 + 1) + 1) + 2) (x1).toNatClampNeg))) (h4 : (¬ x1 = 0) → (¬ x1 = 1) → (¬ x1 = 2) → (¬ x2 < 0) → (¬ x2 ≤ (-1)) → Q (some (.int ((fX8_refuse a0 (-1))))) (mX8_refuse M a0 (-1))) (h5 : (¬ x1 = 0) → (¬ x1 = 1) → (x1 = 2) → (x2 < 0) → Q (some (.int ((fX8_refuse a0 (-1))))) (mX8_refuse M a0 (-1))) (b6 : (¬ x1 = 0) → (¬ x1 = 1) → (x1 = 2) → (¬ x2 < 0) → (x2 ≤ 9) → vp_in (x1) 3) (h7 : (¬ x1 = 0) → (¬ x1 = 1) → (x1 = 2) → (¬ x2 < 0) → (x2 ≤ 9) → Q (some (.int ((fX8_accept a0 (g_mi M (((a0 + 1) + 1) + 2) (x1).toNatClampNeg))))) (mX8_accept (mX0_clear (g_wi M (((a0 + 1) + 1) + 2) (x1).toNatClampNeg x2) (a0 + 13)) a0 (g_mi M (((a0 + 1) + 1) + 2) (x1).toNatClampNeg))) (h8 : (¬ x1 = 0) → (¬ x1 = 1) → (x1 = 2) → (¬ x2 < 0) → (¬ x2 ≤ 9) → Q (some (.int ((fX8_refuse a0 (-1))))) (mX8_refuse M a0 (-1))) (h9 : (¬ x1 = 0) → (x1 = 1) → (x2 < 0) → Q (some (.int ((fX8_refuse a0 (-1))))) (mX8_refuse M a0 (-1))) (b10 : (¬ x1 = 0) → (x1 = 1) → (¬ x2 < 0) → (x2 ≤ 10) → vp_in (x1) 3) (h11 : (¬ x1 = 0) → (x1 = 1) → (¬ x2 < 0) → (x2 ≤ 10) → Q (some (.int ((fX8_accept a0 (g_mi M (((a0 + 1) + 1) + 2) (x1).toNatClampNeg))))) (mX8_accept (mX0_clear (g_wi M (((a0 + 1) + 1) + 2) (x1).toNatClampNeg x2) (a0 + 13)) a0 (g_mi M (((a0 + 1) + 1) + 2) (x1).toNatClampNeg))) (h12 : (¬ x1 = 0) → (x1 = 1) → (¬ x2 < 0) → (¬ x2 ≤ 10) → Q (some (.int ((fX8_refuse a0 (-1))))) (mX8_refuse M a0 (-1))) (h13 : (x1 = 0) → (x2 < 0) → Q (some (.int ((fX8_refuse a0 (-1))))) (mX8_refuse M a0 (-1))) (b14 : (x1 = 0) → (¬ x2 < 0) → (x2 ≤ 999) → vp_in (x1) 3) (h15 : (x1 = 0) → (¬ x2 < 0) → (x2 ≤ 999) → Q (some (.int ((fX8_accept a0 (g_mi M (((a0 + 1) + 1) + 2) (x1).toNatClampNeg))))) (mX8_accept (mX0_clear (g_wi M (((a0 + 1) + 1) + 2) (x1).toNatClampNeg x2) (a0 + 13)) a0 (g_mi M (((a0 + 1) + 1) + 2) (x1).toNatClampNeg))) (h16 : (x1 = 0) → (¬ x2 < 0) → (¬ x2 ≤ 999) → Q (some (.int ((fX8_refuse a0 (-1))))) (mX8_refuse M a0 (-1))) : Cn X (d + 1) mc ms kX8_terms [.ref a0, .int (x1), .int (x2)] M Q := by
  refine g_meth rfl rfl (Nat.le_of_ble_eq_true rfl) rfl ?_
  refine g_iload_n 1 1 dX8_terms_0 rfl rfl ?_
  refine g_if_ne 10 4 dX8_terms_1 rfl rfl (fun c1 => ?_) (fun c1 => ?_)
  · skip
    refine g_iload_n 1 11 dX8_terms_10 rfl rfl ?_
    refine g_iconst (1) 12 dX8_terms_11 rfl rfl ?_
    refine g_icmp_ne 20 15 dX8_terms_12 rfl rfl (fun c2 => ?_) (fun c2 => ?_)
    · skip
      refine g_iload_n 1 21 dX8_terms_20 rfl rfl ?_
      refine g_iconst (2) 22 dX8_terms_21 rfl rfl ?_
      refine g_icmp_ne 30 25 dX8_terms_22 rfl rfl (fun c3 => ?_) (fun c3 => ?_)
      · skip
        refine g_iconst ((-1)) 31 dX8_terms_30 rfl rfl ?_
        refine g_istore_n 32 [(3, .int ((-1))), (0, .ref a0), (1, .int (x1)), (2, .int (x2))] dX8_terms_31 rfl (Nat.le_of_ble_eq_true rfl) rfl ?_
        refine g_iload_n 3 33 dX8_terms_32 rfl rfl ?_
        refine g_if_lt 41 36 dX8_terms_33 rfl rfl (fun c4 => ?_) (fun c4 => ?_)
        · skip
          refine g_aload_n 1 42 dX8_terms_41 rfl rfl ?_
          refine g_iconst ((-1)) 43 dX8_terms_42 rfl rfl ?_
          refine g_callV (mc1 := 0) (ms1 := 0) (b := a0) (rest := []) (av := [.int ((-1))]) kX8_refuse 46 dX8_terms_43 rfl rfl mbX8_146 imX8_refuse seX8_refuse gcl8.1 s0.1 (Nat.le_of_ble_eq_true rfl) (Nat.zero_le _) (Nat.zero_le _) (tX8_refuse s0 ?_)
          show Go X (d + 1) mc ms kX8_terms Q 46 [(3, .int ((-1))), (0, .ref a0), (1, .int (x1)), (2, .int (x2))] [.int ((fX8_refuse a0 (-1)))] (mX8_refuse M a0 (-1)) 0 0
          exact g_iret dX8_terms_46 rfl (Nat.zero_le _) (Nat.zero_le _) (h1 c1 c2 c3 c4)
        · skip
          refine g_iload_n 3 37 dX8_terms_36 rfl rfl ?_
          refine g_iload_n 0 38 dX8_terms_37 rfl rfl ?_
          refine g_icmp_le 47 41 dX8_terms_38 rfl rfl (fun c5 => ?_) (fun c5 => ?_)
          · skip
            refine g_aload_n 1 48 dX8_terms_47 rfl rfl ?_
            refine g_getR 51 (a0 + 1) dX8_terms_48 rfl flX8_14 s0.1 s0.2.1 ?_
            refine g_getR 54 ((a0 + 1) + 1) dX8_terms_51 rfl flX8_102 s0.2.2.1.1 s0.2.2.1.2.1 ?_
            refine g_getR 57 (((a0 + 1) + 1) + 2) dX8_terms_54 rfl flX8_149 s0.2.2.1.2.2.1.1 s0.2.2.1.2.2.1.2.2.2.1 ?_
            refine g_iload_n 2 58 dX8_terms_57 rfl rfl ?_
            refine h_iaload 59 (x1).toNatClampNeg dX8_terms_58 rfl rfl s0.2.2.1.2.2.1.2.2.2.2.1 (b2 c1 c2 c3 c4 c5) ?_
            refine g_istore 61 [(4, .int ((g_mi M (((a0 + 1) + 1) + 2) (x1).toNatClampNeg))), (3, .int ((-1))), (0, .ref a0), (1, .int (x1)), (2, .int (x2))] dX8_terms_59 rfl (Nat.le_of_ble_eq_true rfl) rfl ?_
            refine g_aload_n 2 62 dX8_terms_61 rfl rfl ?_
            refine g_getR 65 (a0 + 1) dX8_terms_62 rfl flX8_14 s0.1 s0.2.1 ?_
            refine g_getR 68 ((a0 + 1) + 1) dX8_terms_65 rfl flX8_102 s0.2.2.1.1 s0.2.2.1.2.1 ?_
            refine g_getR 71 (((a0 + 1) + 1) + 2) dX8_terms_68 rfl flX8_149 s0.2.2.1.2.2.1.1 s0.2.2.1.2.2.1.2.2.2.1 ?_
            refine g_iload_n 3 72 dX8_terms_71 rfl rfl ?_
            refine g_iload_n 4 73 dX8_terms_72 rfl rfl ?_
            refine h_iastore 74 (x1).toNatClampNeg dX8_terms_73 rfl rfl s0.2.2.1.2.2.1.2.2.2.2.1 (b2 c1 c2 c3 c4 c5) ?_
            refine g_aload_n 2 75 dX8_terms_74 rfl rfl ?_
            refine g_getR 78 (a0 + 13) dX8_terms_75 rfl flX8_25 (Sm.k (Sm.wi Sm.rf) s0.1) (Sm.r (Sm.wi Sm.rf) s0.2.2.2.2.2.1) ?_
            refine g_callV (mc1 := 0) (ms1 := 0) (b := (a0 + 13)) (rest := []) (av := []) kX0_clear 81 dX8_terms_78 rfl rfl mbX8_152 imX0_clear seX0_clear gcl0.1 (Sm.k (Sm.wi Sm.rf) s0.2.2.2.2.2.2.1.1) (Nat.le_of_ble_eq_true rfl) (Nat.zero_le _) (Nat.zero_le _) (tX0_clear (Hi.sm (Sm.wi Sm.rf) s0.2.2.2.2.2.2.1) ?_)
            show Go X (d + 1) mc ms kX8_terms Q 81 [(4, .int ((g_mi M (((a0 + 1) + 1) + 2) (x1).toNatClampNeg))), (3, .int ((-1))), (0, .ref a0), (1, .int (x1)), (2, .int (x2))] [] (mX0_clear (g_wi M (((a0 + 1) + 1) + 2) (x1).toNatClampNeg x2) (a0 + 13)) 0 0
            refine g_aload_n 2 82 dX8_terms_81 rfl rfl ?_
            refine g_iload 0 84 dX8_terms_82 rfl rfl ?_
            refine g_callV (mc1 := 0) (ms1 := 0) (b := a0) (rest := []) (av := [.int ((g_mi M (((a0 + 1) + 1) + 2) (x1).toNatClampNeg))]) kX8_accept 87 dX8_terms_84 rfl rfl mbX8_155 imX8_accept seX8_accept gcl8.1 (Sm.k (Sm.tr (Sm.wi Sm.rf) jX0_clear) s0.1) (Nat.le_of_ble_eq_true rfl) (Nat.zero_le _) (Nat.zero_le _) (tX8_accept (Ph.sm (Sm.tr (Sm.wi Sm.rf) jX0_clear) s0) ?_)
            show Go X (d + 1) mc ms kX8_terms Q 87 [(4, .int ((g_mi M (((a0 + 1) + 1) + 2) (x1).toNatClampNeg))), (3, .int ((-1))), (0, .ref a0), (1, .int (x1)), (2, .int (x2))] [.int ((fX8_accept a0 (g_mi M (((a0 + 1) + 1) + 2) (x1).toNatClampNeg)))] (mX8_accept (mX0_clear (g_wi M (((a0 + 1) + 1) + 2) (x1).toNatClampNeg x2) (a0 + 13)) a0 (g_mi M (((a0 + 1) + 1) + 2) (x1).toNatClampNeg)) 0 0
            exact g_iret dX8_terms_87 rfl (Nat.zero_le _) (Nat.zero_le _) (h3 c1 c2 c3 c4 c5)
          · skip
            refine g_aload_n 1 42 dX8_terms_41 rfl rfl ?_
            refine g_iconst ((-1)) 43 dX8_terms_42 rfl rfl ?_
            refine g_callV (mc1 := 0) (ms1 := 0) (b := a0) (rest := []) (av := [.int ((-1))]) kX8_refuse 46 dX8_terms_43 rfl rfl mbX8_146 imX8_refuse seX8_refuse gcl8.1 s0.1 (Nat.le_of_ble_eq_true rfl) (Nat.zero_le _) (Nat.zero_le _) (tX8_refuse s0 ?_)
            show Go X (d + 1) mc ms kX8_terms Q 46 [(3, .int ((-1))), (0, .ref a0), (1, .int (x1)), (2, .int (x2))] [.int ((fX8_refuse a0 (-1)))] (mX8_refuse M a0 (-1)) 0 0
            exact g_iret dX8_terms_46 rfl (Nat.zero_le _) (Nat.zero_le _) (h4 c1 c2 c3 c4 c5)
      · skip
        refine g_bipush (9) 27 dX8_terms_25 rfl rfl ?_
        refine g_goto 31 dX8_terms_27 rfl ?_
        refine g_istore_n 32 [(3, .int (9)), (0, .ref a0), (1, .int (x1)), (2, .int (x2))] dX8_terms_31 rfl (Nat.le_of_ble_eq_true rfl) rfl ?_
        refine g_iload_n 3 33 dX8_terms_32 rfl rfl ?_
        refine g_if_lt 41 36 dX8_terms_33 rfl rfl (fun c6 => ?_) (fun c6 => ?_)
        · skip
          refine g_aload_n 1 42 dX8_terms_41 rfl rfl ?_
          refine g_iconst ((-1)) 43 dX8_terms_42 rfl rfl ?_
          refine g_callV (mc1 := 0) (ms1 := 0) (b := a0) (rest := []) (av := [.int ((-1))]) kX8_refuse 46 dX8_terms_43 rfl rfl mbX8_146 imX8_refuse seX8_refuse gcl8.1 s0.1 (Nat.le_of_ble_eq_true rfl) (Nat.zero_le _) (Nat.zero_le _) (tX8_refuse s0 ?_)
          show Go X (d + 1) mc ms kX8_terms Q 46 [(3, .int (9)), (0, .ref a0), (1, .int (x1)), (2, .int (x2))] [.int ((fX8_refuse a0 (-1)))] (mX8_refuse M a0 (-1)) 0 0
          exact g_iret dX8_terms_46 rfl (Nat.zero_le _) (Nat.zero_le _) (h5 c1 c2 c3 c6)
        · skip
          refine g_iload_n 3 37 dX8_terms_36 rfl rfl ?_
          refine g_iload_n 0 38 dX8_terms_37 rfl rfl ?_
          refine g_icmp_le 47 41 dX8_terms_38 rfl rfl (fun c7 => ?_) (fun c7 => ?_)
          · skip
            refine g_aload_n 1 48 dX8_terms_47 rfl rfl ?_
            refine g_getR 51 (a0 + 1) dX8_terms_48 rfl flX8_14 s0.1 s0.2.1 ?_
            refine g_getR 54 ((a0 + 1) + 1) dX8_terms_51 rfl flX8_102 s0.2.2.1.1 s0.2.2.1.2.1 ?_
            refine g_getR 57 (((a0 + 1) + 1) + 2) dX8_terms_54 rfl flX8_149 s0.2.2.1.2.2.1.1 s0.2.2.1.2.2.1.2.2.2.1 ?_
            refine g_iload_n 2 58 dX8_terms_57 rfl rfl ?_
            refine h_iaload 59 (x1).toNatClampNeg dX8_terms_58 rfl rfl s0.2.2.1.2.2.1.2.2.2.2.1 (b6 c1 c2 c3 c6 c7) ?_
            refine g_istore 61 [(4, .int ((g_mi M (((a0 + 1) + 1) + 2) (x1).toNatClampNeg))), (3, .int (9)), (0, .ref a0), (1, .int (x1)), (2, .int (x2))] dX8_terms_59 rfl (Nat.le_of_ble_eq_true rfl) rfl ?_
            refine g_aload_n 2 62 dX8_terms_61 rfl rfl ?_
            refine g_getR 65 (a0 + 1) dX8_terms_62 rfl flX8_14 s0.1 s0.2.1 ?_
            refine g_getR 68 ((a0 + 1) + 1) dX8_terms_65 rfl flX8_102 s0.2.2.1.1 s0.2.2.1.2.1 ?_
            refine g_getR 71 (((a0 + 1) + 1) + 2) dX8_terms_68 rfl flX8_149 s0.2.2.1.2.2.1.1 s0.2.2.1.2.2.1.2.2.2.1 ?_
            refine g_iload_n 3 72 dX8_terms_71 rfl rfl ?_
            refine g_iload_n 4 73 dX8_terms_72 rfl rfl ?_
            refine h_iastore 74 (x1).toNatClampNeg dX8_terms_73 rfl rfl s0.2.2.1.2.2.1.2.2.2.2.1 (b6 c1 c2 c3 c6 c7) ?_
            refine g_aload_n 2 75 dX8_terms_74 rfl rfl ?_
            refine g_getR 78 (a0 + 13) dX8_terms_75 rfl flX8_25 (Sm.k (Sm.wi Sm.rf) s0.1) (Sm.r (Sm.wi Sm.rf) s0.2.2.2.2.2.1) ?_
            refine g_callV (mc1 := 0) (ms1 := 0) (b := (a0 + 13)) (rest := []) (av := []) kX0_clear 81 dX8_terms_78 rfl rfl mbX8_152 imX0_clear seX0_clear gcl0.1 (Sm.k (Sm.wi Sm.rf) s0.2.2.2.2.2.2.1.1) (Nat.le_of_ble_eq_true rfl) (Nat.zero_le _) (Nat.zero_le _) (tX0_clear (Hi.sm (Sm.wi Sm.rf) s0.2.2.2.2.2.2.1) ?_)
            show Go X (d + 1) mc ms kX8_terms Q 81 [(4, .int ((g_mi M (((a0 + 1) + 1) + 2) (x1).toNatClampNeg))), (3, .int (9)), (0, .ref a0), (1, .int (x1)), (2, .int (x2))] [] (mX0_clear (g_wi M (((a0 + 1) + 1) + 2) (x1).toNatClampNeg x2) (a0 + 13)) 0 0
            refine g_aload_n 2 82 dX8_terms_81 rfl rfl ?_
            refine g_iload 0 84 dX8_terms_82 rfl rfl ?_
            refine g_callV (mc1 := 0) (ms1 := 0) (b := a0) (rest := []) (av := [.int ((g_mi M (((a0 + 1) + 1) + 2) (x1).toNatClampNeg))]) kX8_accept 87 dX8_terms_84 rfl rfl mbX8_155 imX8_accept seX8_accept gcl8.1 (Sm.k (Sm.tr (Sm.wi Sm.rf) jX0_clear) s0.1) (Nat.le_of_ble_eq_true rfl) (Nat.zero_le _) (Nat.zero_le _) (tX8_accept (Ph.sm (Sm.tr (Sm.wi Sm.rf) jX0_clear) s0) ?_)
            show Go X (d + 1) mc ms kX8_terms Q 87 [(4, .int ((g_mi M (((a0 + 1) + 1) + 2) (x1).toNatClampNeg))), (3, .int (9)), (0, .ref a0), (1, .int (x1)), (2, .int (x2))] [.int ((fX8_accept a0 (g_mi M (((a0 + 1) + 1) + 2) (x1).toNatClampNeg)))] (mX8_accept (mX0_clear (g_wi M (((a0 + 1) + 1) + 2) (x1).toNatClampNeg x2) (a0 + 13)) a0 (g_mi M (((a0 + 1) + 1) + 2) (x1).toNatClampNeg)) 0 0
            exact g_iret dX8_terms_87 rfl (Nat.zero_le _) (Nat.zero_le _) (h7 c1 c2 c3 c6 c7)
          · skip
            refine g_aload_n 1 42 dX8_terms_41 rfl rfl ?_
            refine g_iconst ((-1)) 43 dX8_terms_42 rfl rfl ?_
            refine g_callV (mc1 := 0) (ms1 := 0) (b := a0) (rest := []) (av := [.int ((-1))]) kX8_refuse 46 dX8_terms_43 rfl rfl mbX8_146 imX8_refuse seX8_refuse gcl8.1 s0.1 (Nat.le_of_ble_eq_true rfl) (Nat.zero_le _) (Nat.zero_le _) (tX8_refuse s0 ?_)
            show Go X (d + 1) mc ms kX8_terms Q 46 [(3, .int (9)), (0, .ref a0), (1, .int (x1)), (2, .int (x2))] [.int ((fX8_refuse a0 (-1)))] (mX8_refuse M a0 (-1)) 0 0
            exact g_iret dX8_terms_46 rfl (Nat.zero_le _) (Nat.zero_le _) (h8 c1 c2 c3 c6 c7)
    · skip
      refine g_bipush (10) 17 dX8_terms_15 rfl rfl ?_
      refine g_goto 31 dX8_terms_17 rfl ?_
      refine g_istore_n 32 [(3, .int (10)), (0, .ref a0), (1, .int (x1)), (2, .int (x2))] dX8_terms_31 rfl (Nat.le_of_ble_eq_true rfl) rfl ?_
      refine g_iload_n 3 33 dX8_terms_32 rfl rfl ?_
      refine g_if_lt 41 36 dX8_terms_33 rfl rfl (fun c8 => ?_) (fun c8 => ?_)
      · skip
        refine g_aload_n 1 42 dX8_terms_41 rfl rfl ?_
        refine g_iconst ((-1)) 43 dX8_terms_42 rfl rfl ?_
        refine g_callV (mc1 := 0) (ms1 := 0) (b := a0) (rest := []) (av := [.int ((-1))]) kX8_refuse 46 dX8_terms_43 rfl rfl mbX8_146 imX8_refuse seX8_refuse gcl8.1 s0.1 (Nat.le_of_ble_eq_true rfl) (Nat.zero_le _) (Nat.zero_le _) (tX8_refuse s0 ?_)
        show Go X (d + 1) mc ms kX8_terms Q 46 [(3, .int (10)), (0, .ref a0), (1, .int (x1)), (2, .int (x2))] [.int ((fX8_refuse a0 (-1)))] (mX8_refuse M a0 (-1)) 0 0
        exact g_iret dX8_terms_46 rfl (Nat.zero_le _) (Nat.zero_le _) (h9 c1 c2 c8)
      · skip
        refine g_iload_n 3 37 dX8_terms_36 rfl rfl ?_
        refine g_iload_n 0 38 dX8_terms_37 rfl rfl ?_
        refine g_icmp_le 47 41 dX8_terms_38 rfl rfl (fun c9 => ?_) (fun c9 => ?_)
        · skip
          refine g_aload_n 1 48 dX8_terms_47 rfl rfl ?_
          refine g_getR 51 (a0 + 1) dX8_terms_48 rfl flX8_14 s0.1 s0.2.1 ?_
          refine g_getR 54 ((a0 + 1) + 1) dX8_terms_51 rfl flX8_102 s0.2.2.1.1 s0.2.2.1.2.1 ?_
          refine g_getR 57 (((a0 + 1) + 1) + 2) dX8_terms_54 rfl flX8_149 s0.2.2.1.2.2.1.1 s0.2.2.1.2.2.1.2.2.2.1 ?_
          refine g_iload_n 2 58 dX8_terms_57 rfl rfl ?_
          refine h_iaload 59 (x1).toNatClampNeg dX8_terms_58 rfl rfl s0.2.2.1.2.2.1.2.2.2.2.1 (b10 c1 c2 c8 c9) ?_
          refine g_istore 61 [(4, .int ((g_mi M (((a0 + 1) + 1) + 2) (x1).toNatClampNeg))), (3, .int (10)), (0, .ref a0), (1, .int (x1)), (2, .int (x2))] dX8_terms_59 rfl (Nat.le_of_ble_eq_true rfl) rfl ?_
          refine g_aload_n 2 62 dX8_terms_61 rfl rfl ?_
          refine g_getR 65 (a0 + 1) dX8_terms_62 rfl flX8_14 s0.1 s0.2.1 ?_
          refine g_getR 68 ((a0 + 1) + 1) dX8_terms_65 rfl flX8_102 s0.2.2.1.1 s0.2.2.1.2.1 ?_
          refine g_getR 71 (((a0 + 1) + 1) + 2) dX8_terms_68 rfl flX8_149 s0.2.2.1.2.2.1.1 s0.2.2.1.2.2.1.2.2.2.1 ?_
          refine g_iload_n 3 72 dX8_terms_71 rfl rfl ?_
          refine g_iload_n 4 73 dX8_terms_72 rfl rfl ?_
          refine h_iastore 74 (x1).toNatClampNeg dX8_terms_73 rfl rfl s0.2.2.1.2.2.1.2.2.2.2.1 (b10 c1 c2 c8 c9) ?_
          refine g_aload_n 2 75 dX8_terms_74 rfl rfl ?_
          refine g_getR 78 (a0 + 13) dX8_terms_75 rfl flX8_25 (Sm.k (Sm.wi Sm.rf) s0.1) (Sm.r (Sm.wi Sm.rf) s0.2.2.2.2.2.1) ?_
          refine g_callV (mc1 := 0) (ms1 := 0) (b := (a0 + 13)) (rest := []) (av := []) kX0_clear 81 dX8_terms_78 rfl rfl mbX8_152 imX0_clear seX0_clear gcl0.1 (Sm.k (Sm.wi Sm.rf) s0.2.2.2.2.2.2.1.1) (Nat.le_of_ble_eq_true rfl) (Nat.zero_le _) (Nat.zero_le _) (tX0_clear (Hi.sm (Sm.wi Sm.rf) s0.2.2.2.2.2.2.1) ?_)
          show Go X (d + 1) mc ms kX8_terms Q 81 [(4, .int ((g_mi M (((a0 + 1) + 1) + 2) (x1).toNatClampNeg))), (3, .int (10)), (0, .ref a0), (1, .int (x1)), (2, .int (x2))] [] (mX0_clear (g_wi M (((a0 + 1) + 1) + 2) (x1).toNatClampNeg x2) (a0 + 13)) 0 0
          refine g_aload_n 2 82 dX8_terms_81 rfl rfl ?_
          refine g_iload 0 84 dX8_terms_82 rfl rfl ?_
          refine g_callV (mc1 := 0) (ms1 := 0) (b := a0) (rest := []) (av := [.int ((g_mi M (((a0 + 1) + 1) + 2) (x1).toNatClampNeg))]) kX8_accept 87 dX8_terms_84 rfl rfl mbX8_155 imX8_accept seX8_accept gcl8.1 (Sm.k (Sm.tr (Sm.wi Sm.rf) jX0_clear) s0.1) (Nat.le_of_ble_eq_true rfl) (Nat.zero_le _) (Nat.zero_le _) (tX8_accept (Ph.sm (Sm.tr (Sm.wi Sm.rf) jX0_clear) s0) ?_)
          show Go X (d + 1) mc ms kX8_terms Q 87 [(4, .int ((g_mi M (((a0 + 1) + 1) + 2) (x1).toNatClampNeg))), (3, .int (10)), (0, .ref a0), (1, .int (x1)), (2, .int (x2))] [.int ((fX8_accept a0 (g_mi M (((a0 + 1) + 1) + 2) (x1).toNatClampNeg)))] (mX8_accept (mX0_clear (g_wi M (((a0 + 1) + 1) + 2) (x1).toNatClampNeg x2) (a0 + 13)) a0 (g_mi M (((a0 + 1) + 1) + 2) (x1).toNatClampNeg)) 0 0
          exact g_iret dX8_terms_87 rfl (Nat.zero_le _) (Nat.zero_le _) (h11 c1 c2 c8 c9)
        · skip
          refine g_aload_n 1 42 dX8_terms_41 rfl rfl ?_
          refine g_iconst ((-1)) 43 dX8_terms_42 rfl rfl ?_
          refine g_callV (mc1 := 0) (ms1 := 0) (b := a0) (rest := []) (av := [.int ((-1))]) kX8_refuse 46 dX8_terms_43 rfl rfl mbX8_146 imX8_refuse seX8_refuse gcl8.1 s0.1 (Nat.le_of_ble_eq_true rfl) (Nat.zero_le _) (Nat.zero_le _) (tX8_refuse s0 ?_)
          show Go X (d + 1) mc ms kX8_terms Q 46 [(3, .int (10)), (0, .ref a0), (1, .int (x1)), (2, .int (x2))] [.int ((fX8_refuse a0 (-1)))] (mX8_refuse M a0 (-1)) 0 0
          exact g_iret dX8_terms_46 rfl (Nat.zero_le _) (Nat.zero_le _) (h12 c1 c2 c8 c9)
  · skip
    refine g_sipush (999) 7 dX8_terms_4 rfl rfl ?_
    refine g_goto 31 dX8_terms_7 rfl ?_
    refine g_istore_n 32 [(3, .int (999)), (0, .ref a0), (1, .int (x1)), (2, .int (x2))] dX8_terms_31 rfl (Nat.le_of_ble_eq_true rfl) rfl ?_
    refine g_iload_n 3 33 dX8_terms_32 rfl rfl ?_
    refine g_if_lt 41 36 dX8_terms_33 rfl rfl (fun c10 => ?_) (fun c10 => ?_)
    · skip
      refine g_aload_n 1 42 dX8_terms_41 rfl rfl ?_
      refine g_iconst ((-1)) 43 dX8_terms_42 rfl rfl ?_
      refine g_callV (mc1 := 0) (ms1 := 0) (b := a0) (rest := []) (av := [.int ((-1))]) kX8_refuse 46 dX8_terms_43 rfl rfl mbX8_146 imX8_refuse seX8_refuse gcl8.1 s0.1 (Nat.le_of_ble_eq_true rfl) (Nat.zero_le _) (Nat.zero_le _) (tX8_refuse s0 ?_)
      show Go X (d + 1) mc ms kX8_terms Q 46 [(3, .int (999)), (0, .ref a0), (1, .int (x1)), (2, .int (x2))] [.int ((fX8_refuse a0 (-1)))] (mX8_refuse M a0 (-1)) 0 0
      exact g_iret dX8_terms_46 rfl (Nat.zero_le _) (Nat.zero_le _) (h13 c1 c10)
    · skip
      refine g_iload_n 3 37 dX8_terms_36 rfl rfl ?_
      refine g_iload_n 0 38 dX8_terms_37 rfl rfl ?_
      refine g_icmp_le 47 41 dX8_terms_38 rfl rfl (fun c11 => ?_) (fun c11 => ?_)
      · skip
        refine g_aload_n 1 48 dX8_terms_47 rfl rfl ?_
        refine g_getR 51 (a0 + 1) dX8_terms_48 rfl flX8_14 s0.1 s0.2.1 ?_
        refine g_getR 54 ((a0 + 1) + 1) dX8_terms_51 rfl flX8_102 s0.2.2.1.1 s0.2.2.1.2.1 ?_
        refine g_getR 57 (((a0 + 1) + 1) + 2) dX8_terms_54 rfl flX8_149 s0.2.2.1.2.2.1.1 s0.2.2.1.2.2.1.2.2.2.1 ?_
        refine g_iload_n 2 58 dX8_terms_57 rfl rfl ?_
        refine h_iaload 59 (x1).toNatClampNeg dX8_terms_58 rfl rfl s0.2.2.1.2.2.1.2.2.2.2.1 (b14 c1 c10 c11) ?_
        refine g_istore 61 [(4, .int ((g_mi M (((a0 + 1) + 1) + 2) (x1).toNatClampNeg))), (3, .int (999)), (0, .ref a0), (1, .int (x1)), (2, .int (x2))] dX8_terms_59 rfl (Nat.le_of_ble_eq_true rfl) rfl ?_
        refine g_aload_n 2 62 dX8_terms_61 rfl rfl ?_
        refine g_getR 65 (a0 + 1) dX8_terms_62 rfl flX8_14 s0.1 s0.2.1 ?_
        refine g_getR 68 ((a0 + 1) + 1) dX8_terms_65 rfl flX8_102 s0.2.2.1.1 s0.2.2.1.2.1 ?_
        refine g_getR 71 (((a0 + 1) + 1) + 2) dX8_terms_68 rfl flX8_149 s0.2.2.1.2.2.1.1 s0.2.2.1.2.2.1.2.2.2.1 ?_
        refine g_iload_n 3 72 dX8_terms_71 rfl rfl ?_
        refine g_iload_n 4 73 dX8_terms_72 rfl rfl ?_
        refine h_iastore 74 (x1).toNatClampNeg dX8_terms_73 rfl rfl s0.2.2.1.2.2.1.2.2.2.2.1 (b14 c1 c10 c11) ?_
        refine g_aload_n 2 75 dX8_terms_74 rfl rfl ?_
        refine g_getR 78 (a0 + 13) dX8_terms_75 rfl flX8_25 (Sm.k (Sm.wi Sm.rf) s0.1) (Sm.r (Sm.wi Sm.rf) s0.2.2.2.2.2.1) ?_
        refine g_callV (mc1 := 0) (ms1 := 0) (b := (a0 + 13)) (rest := []) (av := []) kX0_clear 81 dX8_terms_78 rfl rfl mbX8_152 imX0_clear seX0_clear gcl0.1 (Sm.k (Sm.wi Sm.rf) s0.2.2.2.2.2.2.1.1) (Nat.le_of_ble_eq_true rfl) (Nat.zero_le _) (Nat.zero_le _) (tX0_clear (Hi.sm (Sm.wi Sm.rf) s0.2.2.2.2.2.2.1) ?_)
        show Go X (d + 1) mc ms kX8_terms Q 81 [(4, .int ((g_mi M (((a0 + 1) + 1) + 2) (x1).toNatClampNeg))), (3, .int (999)), (0, .ref a0), (1, .int (x1)), (2, .int (x2))] [] (mX0_clear (g_wi M (((a0 + 1) + 1) + 2) (x1).toNatClampNeg x2) (a0 + 13)) 0 0
        refine g_aload_n 2 82 dX8_terms_81 rfl rfl ?_
        refine g_iload 0 84 dX8_terms_82 rfl rfl ?_
        refine g_callV (mc1 := 0) (ms1 := 0) (b := a0) (rest := []) (av := [.int ((g_mi M (((a0 + 1) + 1) + 2) (x1).toNatClampNeg))]) kX8_accept 87 dX8_terms_84 rfl rfl mbX8_155 imX8_accept seX8_accept gcl8.1 (Sm.k (Sm.tr (Sm.wi Sm.rf) jX0_clear) s0.1) (Nat.le_of_ble_eq_true rfl) (Nat.zero_le _) (Nat.zero_le _) (tX8_accept (Ph.sm (Sm.tr (Sm.wi Sm.rf) jX0_clear) s0) ?_)
        show Go X (d + 1) mc ms kX8_terms Q 87 [(4, .int ((g_mi M (((a0 + 1) + 1) + 2) (x1).toNatClampNeg))), (3, .int (999)), (0, .ref a0), (1, .int (x1)), (2, .int (x2))] [.int ((fX8_accept a0 (g_mi M (((a0 + 1) + 1) + 2) (x1).toNatClampNeg)))] (mX8_accept (mX0_clear (g_wi M (((a0 + 1) + 1) + 2) (x1).toNatClampNeg x2) (a0 + 13)) a0 (g_mi M (((a0 + 1) + 1) + 2) (x1).toNatClampNeg)) 0 0
        exact g_iret dX8_terms_87 rfl (Nat.zero_le _) (Nat.zero_le _) (h15 c1 c10 c11)
      · skip
        refine g_aload_n 1 42 dX8_terms_41 rfl rfl ?_
        refine g_iconst ((-1)) 43 dX8_terms_42 rfl rfl ?_
        refine g_callV (mc1 := 0) (ms1 := 0) (b := a0) (rest := []) (av := [.int ((-1))]) kX8_refuse 46 dX8_terms_43 rfl rfl mbX8_146 imX8_refuse seX8_refuse gcl8.1 s0.1 (Nat.le_of_ble_eq_true rfl) (Nat.zero_le _) (Nat.zero_le _) (tX8_refuse s0 ?_)
        show Go X (d + 1) mc ms kX8_terms Q 46 [(3, .int (999)), (0, .ref a0), (1, .int (x1)), (2, .int (x2))] [.int ((fX8_refuse a0 (-1)))] (mX8_refuse M a0 (-1)) 0 0
        exact g_iret dX8_terms_46 rfl (Nat.zero_le _) (Nat.zero_le _) (h16 c1 c10 c11)

def fX8_terms (M : gM) (a0 : Nat) (x1 : Int32) (x2 : Int32) : Int32 := (if x1 = 0 then (if x2 < 0 then (fX8_refuse a0 (-1)) else (if x2 ≤ 999 then (fX8_accept a0 (g_mi M (((a0 + 1) + 1) + 2) (x1).toNatClampNeg)) else (fX8_refuse a0 (-1)))) else (if x1 = 1 then (if x2 < 0 then (fX8_refuse a0 (-1)) else (if x2 ≤ 10 then (fX8_accept a0 (g_mi M (((a0 + 1) + 1) + 2) (x1).toNatClampNeg)) else (fX8_refuse a0 (-1)))) else (if x1 = 2 then (if x2 < 0 then (fX8_refuse a0 (-1)) else (if x2 ≤ 9 then (fX8_accept a0 (g_mi M (((a0 + 1) + 1) + 2) (x1).toNatClampNeg)) else (fX8_refuse a0 (-1)))) else (if x2 < 0 then (fX8_refuse a0 (-1)) else (if x2 ≤ (-1) then (fX8_accept a0 (g_mi M (((a0 + 1) + 1) + 2) (x1).toNatClampNeg)) else (fX8_refuse a0 (-1)))))))
def mX8_terms (M : gM) (a0 : Nat) (x1 : Int32) (x2 : Int32) : gM := g_wm M (if x1 = 0 then (if x2 < 0 then (g_mi (mX8_refuse M a0 (-1))) else (if x2 ≤ 999 then (g_mi (mX8_accept (mX0_clear (g_wi M (((a0 + 1) + 1) + 2) (x1).toNatClampNeg x2) (a0 + 13)) a0 (g_mi M (((a0 + 1) + 1) + 2) (x1).toNatClampNeg))) else (g_mi (mX8_refuse M a0 (-1))))) else (if x1 = 1 then (if x2 < 0 then (g_mi (mX8_refuse M a0 (-1))) else (if x2 ≤ 10 then (g_mi (mX8_accept (mX0_clear (g_wi M (((a0 + 1) + 1) + 2) (x1).toNatClampNeg x2) (a0 + 13)) a0 (g_mi M (((a0 + 1) + 1) + 2) (x1).toNatClampNeg))) else (g_mi (mX8_refuse M a0 (-1))))) else (if x1 = 2 then (if x2 < 0 then (g_mi (mX8_refuse M a0 (-1))) else (if x2 ≤ 9 then (g_mi (mX8_accept (mX0_clear (g_wi M (((a0 + 1) + 1) + 2) (x1).toNatClampNeg x2) (a0 + 13)) a0 (g_mi M (((a0 + 1) + 1) + 2) (x1).toNatClampNeg))) else (g_mi (mX8_refuse M a0 (-1))))) else (if x2 < 0 then (g_mi (mX8_refuse M a0 (-1))) else (if x2 ≤ (-1) then (g_mi (mX8_accept (mX0_clear (g_wi M (((a0 + 1) + 1) + 2) (x1).toNatClampNeg x2) (a0 + 13)) a0 (g_mi M (((a0 + 1) + 1) + 2) (x1).toNatClampNeg))) else (g_mi (mX8_refuse M a0 (-1)))))))) (g_ml M)
def EX8_terms (M : gM) (a0 : Nat) (x1 : Int32) (x2 : Int32) : Prop := ((¬ x1 = 0) → (¬ x1 = 1) → (¬ x1 = 2) → (¬ x2 < 0) → (x2 ≤ (-1)) → vp_in (x1) 3) ∧ ((¬ x1 = 0) → (¬ x1 = 1) → (x1 = 2) → (¬ x2 < 0) → (x2 ≤ 9) → vp_in (x1) 3) ∧ ((¬ x1 = 0) → (x1 = 1) → (¬ x2 < 0) → (x2 ≤ 10) → vp_in (x1) 3) ∧ ((x1 = 0) → (¬ x2 < 0) → (x2 ≤ 999) → vp_in (x1) 3)
theorem jX8_terms {M : gM} {a0 : Nat} {x1 : Int32} {x2 : Int32} : Sm M (mX8_terms M a0 x1 x2) := Sm.wm
theorem tX8_terms {X : gX} {d mc ms : Nat} {Q : Option Value → gM → Prop} {M : gM} {a0 : Nat} {x1 : Int32} {x2 : Int32} (s0 : Ph M a0) (hE : EX8_terms M a0 x1 x2) (hQ : Q (some (.int (fX8_terms M a0 x1 x2))) (mX8_terms M a0 x1 x2)) : Cn X (d + 1) mc ms kX8_terms [.ref a0, .int (x1), .int (x2)] M Q := by
  unfold fX8_terms mX8_terms at hQ
  obtain ⟨b2, b6, b10, b14⟩ := hE
  exact sX8_terms_0 s0 (fun c1 c2 c3 c4 => by simp only [if_neg c1, if_neg c2, if_neg c3, if_pos c4] at hQ; exact Sm.q (Sm.tr Sm.rf jX8_refuse) hQ) b2 (fun c1 c2 c3 c4 c5 => by simp only [if_neg c1, if_neg c2, if_neg c3, if_neg c4, if_pos c5] at hQ; exact Sm.q (Sm.tr (Sm.tr (Sm.wi Sm.rf) jX0_clear) jX8_accept) hQ) (fun c1 c2 c3 c4 c5 => by simp only [if_neg c1, if_neg c2, if_neg c3, if_neg c4, if_neg c5] at hQ; exact Sm.q (Sm.tr Sm.rf jX8_refuse) hQ) (fun c1 c2 c3 c6 => by simp only [if_neg c1, if_neg c2, if_pos c3, if_pos c6] at hQ; exact Sm.q (Sm.tr Sm.rf jX8_refuse) hQ) b6 (fun c1 c2 c3 c6 c7 => by simp only [if_neg c1, if_neg c2, if_pos c3, if_neg c6, if_pos c7] at hQ; exact Sm.q (Sm.tr (Sm.tr (Sm.wi Sm.rf) jX0_clear) jX8_accept) hQ) (fun c1 c2 c3 c6 c7 => by simp only [if_neg c1, if_neg c2, if_pos c3, if_neg c6, if_neg c7] at hQ; exact Sm.q (Sm.tr Sm.rf jX8_refuse) hQ) (fun c1 c2 c8 => by simp only [if_neg c1, if_pos c2, if_pos c8] at hQ; exact Sm.q (Sm.tr Sm.rf jX8_refuse) hQ) b10 (fun c1 c2 c8 c9 => by simp only [if_neg c1, if_pos c2, if_neg c8, if_pos c9] at hQ; exact Sm.q (Sm.tr (Sm.tr (Sm.wi Sm.rf) jX0_clear) jX8_accept) hQ) (fun c1 c2 c8 c9 => by simp only [if_neg c1, if_pos c2, if_neg c8, if_neg c9] at hQ; exact Sm.q (Sm.tr Sm.rf jX8_refuse) hQ) (fun c1 c10 => by simp only [if_pos c1, if_pos c10] at hQ; exact Sm.q (Sm.tr Sm.rf jX8_refuse) hQ) b14 (fun c1 c10 c11 => by simp only [if_pos c1, if_neg c10, if_pos c11] at hQ; exact Sm.q (Sm.tr (Sm.tr (Sm.wi Sm.rf) jX0_clear) jX8_accept) hQ) (fun c1 c10 c11 => by simp only [if_pos c1, if_neg c10, if_neg c11] at hQ; exact Sm.q (Sm.tr Sm.rf jX8_refuse) hQ)
/-! X8_feed  -/
set_option maxRecDepth 4000 in
theorem sX8_feed_0 {N : Nat} {X : gX} {d mc ms : Nat} {Q : Option Value → gM → Prop} {M : gM} {a0 : Nat} {x1 : Int32} {x2 : Int32} {x3 : Int32} {x4 : Int32} {x5 : Int32} (s0 : Ph M a0) (b1 : (((g_mi M (a0 + 282) 5) + 20) ≤ 400) → EX2_append N M (a0 + 282) x1) (b2 : (((g_mi M (a0 + 282) 5) + 20) ≤ 400) → EX2_append N (mX2_append N M (a0 + 282) x1) (a0 + 282) x2) (b3 : (((g_mi M (a0 + 282) 5) + 20) ≤ 400) → EX2_append N (mX2_append N (mX2_append N M (a0 + 282) x1) (a0 + 282) x2) (a0 + 282) x3) (b4 : (((g_mi M (a0 + 282) 5) + 20) ≤ 400) → EX2_append N (mX2_append N (mX2_append N (mX2_append N M (a0 + 282) x1) (a0 + 282) x2) (a0 + 282) x3) (a0 + 282) x4) (b5 : (((g_mi M (a0 + 282) 5) + 20) ≤ 400) → EX2_append N (mX2_append N (mX2_append N (mX2_append N (mX2_append N M (a0 + 282) x1) (a0 + 282) x2) (a0 + 282) x3) (a0 + 282) x4) (a0 + 282) x5) (h6 : (((g_mi M (a0 + 282) 5) + 20) ≤ 400) → Q (some (.int ((g_mi (mX2_append N (mX2_append N (mX2_append N (mX2_append N (mX2_append N M (a0 + 282) x1) (a0 + 282) x2) (a0 + 282) x3) (a0 + 282) x4) (a0 + 282) x5) (a0 + 282) 5)))) (mX2_append N (mX2_append N (mX2_append N (mX2_append N (mX2_append N M (a0 + 282) x1) (a0 + 282) x2) (a0 + 282) x3) (a0 + 282) x4) (a0 + 282) x5)) (h7 : (¬ ((g_mi M (a0 + 282) 5) + 20) ≤ 400) → Q (some (.int ((-1)))) M) : Cn X (d + 1) mc ms kX8_feed [.ref a0, .int (x1), .int (x2), .int (x3), .int (x4), .int (x5)] M Q := by
  refine g_meth rfl rfl (Nat.le_of_ble_eq_true rfl) rfl ?_
  refine g_aload_n 0 1 dX8_feed_0 rfl rfl ?_
  refine g_getR 4 (a0 + 282) dX8_feed_1 rfl flX8_61 s0.1 s0.2.2.2.2.2.2.2.2.2.2.2.2.2.2.2.2.2.1 ?_
  refine g_getI 7 dX8_feed_4 rfl flX8_158 s0.2.2.2.2.2.2.2.2.2.2.2.2.2.2.2.2.2.2.1.1 ?_
  refine g_bipush (20) 9 dX8_feed_7 rfl rfl ?_
  refine g_iadd 10 dX8_feed_9 rfl ?_
  refine g_sipush (400) 13 dX8_feed_10 rfl rfl ?_
  refine g_icmp_le 18 16 dX8_feed_13 rfl rfl (fun c1 => ?_) (fun c1 => ?_)
  · skip
    refine g_aload_n 0 19 dX8_feed_18 rfl rfl ?_
    refine g_getR 22 (a0 + 282) dX8_feed_19 rfl flX8_61 s0.1 s0.2.2.2.2.2.2.2.2.2.2.2.2.2.2.2.2.2.1 ?_
    refine g_iload_n 1 23 dX8_feed_22 rfl rfl ?_
    refine g_callV (mc1 := 0) (ms1 := 0) (b := (a0 + 282)) (rest := []) (av := [.int (x1)]) kX2_append 26 dX8_feed_23 rfl rfl mbX8_161 imX2_append seX2_append gcl2.1 s0.2.2.2.2.2.2.2.2.2.2.2.2.2.2.2.2.2.2.1.1 (Nat.le_of_ble_eq_true rfl) (Nat.zero_le _) (Nat.zero_le _) (tX2_append (N := N) s0.2.2.2.2.2.2.2.2.2.2.2.2.2.2.2.2.2.2.1 (b1 c1) ?_)
    show Go X (d + 1) mc ms kX8_feed Q 26 [(0, .ref a0), (1, .int (x1)), (2, .int (x2)), (3, .int (x3)), (4, .int (x4)), (5, .int (x5))] [] (mX2_append N M (a0 + 282) x1) 0 0
    refine g_aload_n 0 27 dX8_feed_26 rfl rfl ?_
    refine g_getR 30 (a0 + 282) dX8_feed_27 rfl flX8_61 (Sm.k (Sm.tr Sm.rf jX2_append) s0.1) (Sm.r (Sm.tr Sm.rf jX2_append) s0.2.2.2.2.2.2.2.2.2.2.2.2.2.2.2.2.2.1) ?_
    refine g_iload_n 2 31 dX8_feed_30 rfl rfl ?_
    refine g_callV (mc1 := 0) (ms1 := 0) (b := (a0 + 282)) (rest := []) (av := [.int (x2)]) kX2_append 34 dX8_feed_31 rfl rfl mbX8_161 imX2_append seX2_append gcl2.1 (Sm.k (Sm.tr Sm.rf jX2_append) s0.2.2.2.2.2.2.2.2.2.2.2.2.2.2.2.2.2.2.1.1) (Nat.le_of_ble_eq_true rfl) (Nat.zero_le _) (Nat.zero_le _) (tX2_append (N := N) (Re.sm (Sm.tr Sm.rf jX2_append) s0.2.2.2.2.2.2.2.2.2.2.2.2.2.2.2.2.2.2.1) (b2 c1) ?_)
    show Go X (d + 1) mc ms kX8_feed Q 34 [(0, .ref a0), (1, .int (x1)), (2, .int (x2)), (3, .int (x3)), (4, .int (x4)), (5, .int (x5))] [] (mX2_append N (mX2_append N M (a0 + 282) x1) (a0 + 282) x2) 0 0
    refine g_aload_n 0 35 dX8_feed_34 rfl rfl ?_
    refine g_getR 38 (a0 + 282) dX8_feed_35 rfl flX8_61 (Sm.k (Sm.tr (Sm.tr Sm.rf jX2_append) jX2_append) s0.1) (Sm.r (Sm.tr (Sm.tr Sm.rf jX2_append) jX2_append) s0.2.2.2.2.2.2.2.2.2.2.2.2.2.2.2.2.2.1) ?_
    refine g_iload_n 3 39 dX8_feed_38 rfl rfl ?_
    refine g_callV (mc1 := 0) (ms1 := 0) (b := (a0 + 282)) (rest := []) (av := [.int (x3)]) kX2_append 42 dX8_feed_39 rfl rfl mbX8_161 imX2_append seX2_append gcl2.1 (Sm.k (Sm.tr (Sm.tr Sm.rf jX2_append) jX2_append) s0.2.2.2.2.2.2.2.2.2.2.2.2.2.2.2.2.2.2.1.1) (Nat.le_of_ble_eq_true rfl) (Nat.zero_le _) (Nat.zero_le _) (tX2_append (N := N) (Re.sm (Sm.tr (Sm.tr Sm.rf jX2_append) jX2_append) s0.2.2.2.2.2.2.2.2.2.2.2.2.2.2.2.2.2.2.1) (b3 c1) ?_)
    show Go X (d + 1) mc ms kX8_feed Q 42 [(0, .ref a0), (1, .int (x1)), (2, .int (x2)), (3, .int (x3)), (4, .int (x4)), (5, .int (x5))] [] (mX2_append N (mX2_append N (mX2_append N M (a0 + 282) x1) (a0 + 282) x2) (a0 + 282) x3) 0 0
    refine g_aload_n 0 43 dX8_feed_42 rfl rfl ?_
    refine g_getR 46 (a0 + 282) dX8_feed_43 rfl flX8_61 (Sm.k (Sm.tr (Sm.tr (Sm.tr Sm.rf jX2_append) jX2_append) jX2_append) s0.1) (Sm.r (Sm.tr (Sm.tr (Sm.tr Sm.rf jX2_append) jX2_append) jX2_append) s0.2.2.2.2.2.2.2.2.2.2.2.2.2.2.2.2.2.1) ?_
    refine g_iload 4 48 dX8_feed_46 rfl rfl ?_
    refine g_callV (mc1 := 0) (ms1 := 0) (b := (a0 + 282)) (rest := []) (av := [.int (x4)]) kX2_append 51 dX8_feed_48 rfl rfl mbX8_161 imX2_append seX2_append gcl2.1 (Sm.k (Sm.tr (Sm.tr (Sm.tr Sm.rf jX2_append) jX2_append) jX2_append) s0.2.2.2.2.2.2.2.2.2.2.2.2.2.2.2.2.2.2.1.1) (Nat.le_of_ble_eq_true rfl) (Nat.zero_le _) (Nat.zero_le _) (tX2_append (N := N) (Re.sm (Sm.tr (Sm.tr (Sm.tr Sm.rf jX2_append) jX2_append) jX2_append) s0.2.2.2.2.2.2.2.2.2.2.2.2.2.2.2.2.2.2.1) (b4 c1) ?_)
    show Go X (d + 1) mc ms kX8_feed Q 51 [(0, .ref a0), (1, .int (x1)), (2, .int (x2)), (3, .int (x3)), (4, .int (x4)), (5, .int (x5))] [] (mX2_append N (mX2_append N (mX2_append N (mX2_append N M (a0 + 282) x1) (a0 + 282) x2) (a0 + 282) x3) (a0 + 282) x4) 0 0
    refine g_aload_n 0 52 dX8_feed_51 rfl rfl ?_
    refine g_getR 55 (a0 + 282) dX8_feed_52 rfl flX8_61 (Sm.k (Sm.tr (Sm.tr (Sm.tr (Sm.tr Sm.rf jX2_append) jX2_append) jX2_append) jX2_append) s0.1) (Sm.r (Sm.tr (Sm.tr (Sm.tr (Sm.tr Sm.rf jX2_append) jX2_append) jX2_append) jX2_append) s0.2.2.2.2.2.2.2.2.2.2.2.2.2.2.2.2.2.1) ?_
    refine g_iload 5 57 dX8_feed_55 rfl rfl ?_
    refine g_callV (mc1 := 0) (ms1 := 0) (b := (a0 + 282)) (rest := []) (av := [.int (x5)]) kX2_append 60 dX8_feed_57 rfl rfl mbX8_161 imX2_append seX2_append gcl2.1 (Sm.k (Sm.tr (Sm.tr (Sm.tr (Sm.tr Sm.rf jX2_append) jX2_append) jX2_append) jX2_append) s0.2.2.2.2.2.2.2.2.2.2.2.2.2.2.2.2.2.2.1.1) (Nat.le_of_ble_eq_true rfl) (Nat.zero_le _) (Nat.zero_le _) (tX2_append (N := N) (Re.sm (Sm.tr (Sm.tr (Sm.tr (Sm.tr Sm.rf jX2_append) jX2_append) jX2_append) jX2_append) s0.2.2.2.2.2.2.2.2.2.2.2.2.2.2.2.2.2.2.1) (b5 c1) ?_)
    show Go X (d + 1) mc ms kX8_feed Q 60 [(0, .ref a0), (1, .int (x1)), (2, .int (x2)), (3, .int (x3)), (4, .int (x4)), (5, .int (x5))] [] (mX2_append N (mX2_append N (mX2_append N (mX2_append N (mX2_append N M (a0 + 282) x1) (a0 + 282) x2) (a0 + 282) x3) (a0 + 282) x4) (a0 + 282) x5) 0 0
    refine g_aload_n 0 61 dX8_feed_60 rfl rfl ?_
    refine g_getR 64 (a0 + 282) dX8_feed_61 rfl flX8_61 (Sm.k (Sm.tr (Sm.tr (Sm.tr (Sm.tr (Sm.tr Sm.rf jX2_append) jX2_append) jX2_append) jX2_append) jX2_append) s0.1) (Sm.r (Sm.tr (Sm.tr (Sm.tr (Sm.tr (Sm.tr Sm.rf jX2_append) jX2_append) jX2_append) jX2_append) jX2_append) s0.2.2.2.2.2.2.2.2.2.2.2.2.2.2.2.2.2.1) ?_
    refine g_getI 67 dX8_feed_64 rfl flX8_158 (Sm.k (Sm.tr (Sm.tr (Sm.tr (Sm.tr (Sm.tr Sm.rf jX2_append) jX2_append) jX2_append) jX2_append) jX2_append) s0.2.2.2.2.2.2.2.2.2.2.2.2.2.2.2.2.2.2.1.1) ?_
    exact g_iret dX8_feed_67 rfl (Nat.zero_le _) (Nat.zero_le _) (h6 c1)
  · skip
    refine g_iconst ((-1)) 17 dX8_feed_16 rfl rfl ?_
    exact g_iret dX8_feed_17 rfl (Nat.zero_le _) (Nat.zero_le _) (h7 c1)

def fX8_feed (N : Nat) (M : gM) (a0 : Nat) (x1 : Int32) (x2 : Int32) (x3 : Int32) (x4 : Int32) (x5 : Int32) : Int32 := (if ((g_mi M (a0 + 282) 5) + 20) ≤ 400 then (g_mi (mX2_append N (mX2_append N (mX2_append N (mX2_append N (mX2_append N M (a0 + 282) x1) (a0 + 282) x2) (a0 + 282) x3) (a0 + 282) x4) (a0 + 282) x5) (a0 + 282) 5) else (-1))
def mX8_feed (N : Nat) (M : gM) (a0 : Nat) (x1 : Int32) (x2 : Int32) (x3 : Int32) (x4 : Int32) (x5 : Int32) : gM := g_wm M (if ((g_mi M (a0 + 282) 5) + 20) ≤ 400 then (g_mi (mX2_append N (mX2_append N (mX2_append N (mX2_append N (mX2_append N M (a0 + 282) x1) (a0 + 282) x2) (a0 + 282) x3) (a0 + 282) x4) (a0 + 282) x5)) else (g_mi M)) (g_ml M)
def EX8_feed (N : Nat) (M : gM) (a0 : Nat) (x1 : Int32) (x2 : Int32) (x3 : Int32) (x4 : Int32) (x5 : Int32) : Prop := ((((g_mi M (a0 + 282) 5) + 20) ≤ 400) → EX2_append N M (a0 + 282) x1) ∧ ((((g_mi M (a0 + 282) 5) + 20) ≤ 400) → EX2_append N (mX2_append N M (a0 + 282) x1) (a0 + 282) x2) ∧ ((((g_mi M (a0 + 282) 5) + 20) ≤ 400) → EX2_append N (mX2_append N (mX2_append N M (a0 + 282) x1) (a0 + 282) x2) (a0 + 282) x3) ∧ ((((g_mi M (a0 + 282) 5) + 20) ≤ 400) → EX2_append N (mX2_append N (mX2_append N (mX2_append N M (a0 + 282) x1) (a0 + 282) x2) (a0 + 282) x3) (a0 + 282) x4) ∧ ((((g_mi M (a0 + 282) 5) + 20) ≤ 400) → EX2_append N (mX2_append N (mX2_append N (mX2_append N (mX2_append N M (a0 + 282) x1) (a0 + 282) x2) (a0 + 282) x3) (a0 + 282) x4) (a0 + 282) x5)
theorem jX8_feed {N : Nat} {M : gM} {a0 : Nat} {x1 : Int32} {x2 : Int32} {x3 : Int32} {x4 : Int32} {x5 : Int32} : Sm M (mX8_feed N M a0 x1 x2 x3 x4 x5) := Sm.wm
theorem tX8_feed {N : Nat} {X : gX} {d mc ms : Nat} {Q : Option Value → gM → Prop} {M : gM} {a0 : Nat} {x1 : Int32} {x2 : Int32} {x3 : Int32} {x4 : Int32} {x5 : Int32} (s0 : Ph M a0) (hE : EX8_feed N M a0 x1 x2 x3 x4 x5) (hQ : Q (some (.int (fX8_feed N M a0 x1 x2 x3 x4 x5))) (mX8_feed N M a0 x1 x2 x3 x4 x5)) : Cn X (d + 1) mc ms kX8_feed [.ref a0, .int (x1), .int (x2), .int (x3), .int (x4), .int (x5)] M Q := by
  unfold fX8_feed mX8_feed at hQ
  obtain ⟨b1, b2, b3, b4, b5⟩ := hE
  exact sX8_feed_0 s0 b1 b2 b3 b4 b5 (fun c1 => by simp only [if_pos c1] at hQ; exact Sm.q (Sm.tr (Sm.tr (Sm.tr (Sm.tr (Sm.tr Sm.rf jX2_append) jX2_append) jX2_append) jX2_append) jX2_append) hQ) (fun c1 => by simp only [if_neg c1] at hQ; exact Sm.q Sm.rf hQ)
/-! X8_end  -/
set_option maxRecDepth 4000 in
theorem sX8_end_0 {X : gX} {d mc ms : Nat} {Q : Option Value → gM → Prop} {M : gM} {a0 : Nat} {x1 : Int32} (s0 : Ph M a0) (h1 : (x1 < 0) → Q (some (.int ((-1)))) M) (h2 : (¬ x1 < 0) → (x1 ≤ (g_mi M (a0 + 282) 5)) → Q (some (.int (x1))) (g_wi M (a0 + 282) 5 x1)) (h3 : (¬ x1 < 0) → (¬ x1 ≤ (g_mi M (a0 + 282) 5)) → Q (some (.int ((-1)))) M) : Cn X d mc ms kX8_end [.ref a0, .int (x1)] M Q := by
  refine g_meth rfl rfl (Nat.le_of_ble_eq_true rfl) rfl ?_
  refine g_iload_n 1 1 dX8_end_0 rfl rfl ?_
  refine g_if_lt 15 4 dX8_end_1 rfl rfl (fun c1 => ?_) (fun c1 => ?_)
  · skip
    refine g_iconst ((-1)) 16 dX8_end_15 rfl rfl ?_
    exact g_iret dX8_end_16 rfl (Nat.zero_le _) (Nat.zero_le _) (h1 c1)
  · skip
    refine g_iload_n 1 5 dX8_end_4 rfl rfl ?_
    refine g_aload_n 0 6 dX8_end_5 rfl rfl ?_
    refine g_getR 9 (a0 + 282) dX8_end_6 rfl flX8_61 s0.1 s0.2.2.2.2.2.2.2.2.2.2.2.2.2.2.2.2.2.1 ?_
    refine g_getI 12 dX8_end_9 rfl flX8_158 s0.2.2.2.2.2.2.2.2.2.2.2.2.2.2.2.2.2.2.1.1 ?_
    refine g_icmp_le 17 15 dX8_end_12 rfl rfl (fun c2 => ?_) (fun c2 => ?_)
    · skip
      refine g_aload_n 0 18 dX8_end_17 rfl rfl ?_
      refine g_getR 21 (a0 + 282) dX8_end_18 rfl flX8_61 s0.1 s0.2.2.2.2.2.2.2.2.2.2.2.2.2.2.2.2.2.1 ?_
      refine g_iload_n 1 22 dX8_end_21 rfl rfl ?_
      refine g_putI 25 dX8_end_22 rfl flX8_158 s0.2.2.2.2.2.2.2.2.2.2.2.2.2.2.2.2.2.2.1.1 ?_
      refine g_iload_n 1 26 dX8_end_25 rfl rfl ?_
      exact g_iret dX8_end_26 rfl (Nat.zero_le _) (Nat.zero_le _) (h2 c1 c2)
    · skip
      refine g_iconst ((-1)) 16 dX8_end_15 rfl rfl ?_
      exact g_iret dX8_end_16 rfl (Nat.zero_le _) (Nat.zero_le _) (h3 c1 c2)

def fX8_end (M : gM) (a0 : Nat) (x1 : Int32) : Int32 := (if x1 < 0 then (-1) else (if x1 ≤ (g_mi M (a0 + 282) 5) then x1 else (-1)))
def mX8_end (M : gM) (a0 : Nat) (x1 : Int32) : gM := g_wm M (if x1 < 0 then (g_mi M) else (if x1 ≤ (g_mi M (a0 + 282) 5) then (g_mi (g_wi M (a0 + 282) 5 x1)) else (g_mi M))) (g_ml M)
theorem jX8_end {M : gM} {a0 : Nat} {x1 : Int32} : Sm M (mX8_end M a0 x1) := Sm.wm
theorem tX8_end {X : gX} {d mc ms : Nat} {Q : Option Value → gM → Prop} {M : gM} {a0 : Nat} {x1 : Int32} (s0 : Ph M a0) (hQ : Q (some (.int (fX8_end M a0 x1))) (mX8_end M a0 x1)) : Cn X d mc ms kX8_end [.ref a0, .int (x1)] M Q := by
  unfold fX8_end mX8_end at hQ
  exact sX8_end_0 s0 (fun c1 => by simp only [if_pos c1] at hQ; exact Sm.q Sm.rf hQ) (fun c1 c2 => by simp only [if_neg c1, if_pos c2] at hQ; exact Sm.q (Sm.wi Sm.rf) hQ) (fun c1 c2 => by simp only [if_neg c1, if_neg c2] at hQ; exact Sm.q Sm.rf hQ)
/-! X8_blanks  -/
set_option maxRecDepth 4000 in
theorem sX8_blanks_0 {X : gX} {d mc ms : Nat} {Q : Option Value → gM → Prop} {M : gM} {a0 : Nat} (s0 : Ph M a0) (h1 : Q (some (.int ((g_mi M a0 15)))) M) : Cn X d mc ms kX8_blanks [.ref a0] M Q := by
  refine g_meth rfl rfl (Nat.le_of_ble_eq_true rfl) rfl ?_
  refine g_aload_n 0 1 dX8_blanks_0 rfl rfl ?_
  refine g_getI 4 dX8_blanks_1 rfl flX8_165 s0.1 ?_
  exact g_iret dX8_blanks_4 rfl (Nat.zero_le _) (Nat.zero_le _) (h1)

def fX8_blanks (M : gM) (a0 : Nat) : Int32 := (g_mi M a0 15)
theorem tX8_blanks {X : gX} {d mc ms : Nat} {Q : Option Value → gM → Prop} {M : gM} {a0 : Nat} (s0 : Ph M a0) (hQ : Q (some (.int (fX8_blanks M a0))) M) : Cn X d mc ms kX8_blanks [.ref a0] M Q := by
  unfold fX8_blanks at hQ
  exact sX8_blanks_0 s0 hQ
/-! X8_fault  -/
set_option maxRecDepth 4000 in
theorem sX8_fault_0 {X : gX} {d mc ms : Nat} {Q : Option Value → gM → Prop} {M : gM} {a0 : Nat} (s0 : Ph M a0) (h1 : Q (some (.int ((g_mi M (a0 + 282) 6)))) M) : Cn X d mc ms kX8_fault [.ref a0] M Q := by
  refine g_meth rfl rfl (Nat.le_of_ble_eq_true rfl) rfl ?_
  refine g_aload_n 0 1 dX8_fault_0 rfl rfl ?_
  refine g_getR 4 (a0 + 282) dX8_fault_1 rfl flX8_61 s0.1 s0.2.2.2.2.2.2.2.2.2.2.2.2.2.2.2.2.2.1 ?_
  refine g_getI 7 dX8_fault_4 rfl flX8_212 s0.2.2.2.2.2.2.2.2.2.2.2.2.2.2.2.2.2.2.1.1 ?_
  exact g_iret dX8_fault_7 rfl (Nat.zero_le _) (Nat.zero_le _) (h1)

def fX8_fault (M : gM) (a0 : Nat) : Int32 := (g_mi M (a0 + 282) 6)
theorem tX8_fault {X : gX} {d mc ms : Nat} {Q : Option Value → gM → Prop} {M : gM} {a0 : Nat} (s0 : Ph M a0) (hQ : Q (some (.int (fX8_fault M a0))) M) : Cn X d mc ms kX8_fault [.ref a0] M Q := by
  unfold fX8_fault at hQ
  exact sX8_fault_0 s0 hQ
/-! X8_stopped  -/
set_option maxRecDepth 4000 in
theorem sX8_stopped_0 {X : gX} {d mc ms : Nat} {Q : Option Value → gM → Prop} {M : gM} {a0 : Nat} (s0 : Ph M a0) (h1 : Q (some (.int ((g_mi M a0 14)))) M) : Cn X d mc ms kX8_stopped [.ref a0] M Q := by
  refine g_meth rfl rfl (Nat.le_of_ble_eq_true rfl) rfl ?_
  refine g_aload_n 0 1 dX8_stopped_0 rfl rfl ?_
  refine g_getI 4 dX8_stopped_1 rfl flX8_88 s0.1 ?_
  exact g_iret dX8_stopped_4 rfl (Nat.zero_le _) (Nat.zero_le _) (h1)

def fX8_stopped (M : gM) (a0 : Nat) : Int32 := (g_mi M a0 14)
theorem tX8_stopped {X : gX} {d mc ms : Nat} {Q : Option Value → gM → Prop} {M : gM} {a0 : Nat} (s0 : Ph M a0) (hQ : Q (some (.int (fX8_stopped M a0))) M) : Cn X d mc ms kX8_stopped [.ref a0] M Q := by
  unfold fX8_stopped at hQ
  exact sX8_stopped_0 s0 hQ
/-! X8_force  -/
set_option maxRecDepth 4000 in
theorem sX8_force_0 {X : gX} {d mc ms : Nat} {Q : Option Value → gM → Prop} {M : gM} {a0 : Nat} {x1 : Int32} (s0 : Ph M a0) (h1 : (x1 < (-1)) → Q (some (.int ((fX8_refuse a0 (-2))))) (mX8_refuse M a0 (-2))) (h2 : (¬ x1 < (-1)) → (x1 < (g_mi M (a0 + 1) 5)) → Q (some (.int ((fX8_accept a0 (g_mi M (a0 + 1) 6))))) (mX8_accept (g_wi M (a0 + 1) 6 x1) a0 (g_mi M (a0 + 1) 6))) (h3 : (¬ x1 < (-1)) → (¬ x1 < (g_mi M (a0 + 1) 5)) → Q (some (.int ((fX8_refuse a0 (-2))))) (mX8_refuse M a0 (-2))) : Cn X (d + 1) mc ms kX8_force [.ref a0, .int (x1)] M Q := by
  refine g_meth rfl rfl (Nat.le_of_ble_eq_true rfl) rfl ?_
  refine g_iload_n 1 1 dX8_force_0 rfl rfl ?_
  refine g_iconst ((-1)) 2 dX8_force_1 rfl rfl ?_
  refine g_icmp_lt 16 5 dX8_force_2 rfl rfl (fun c1 => ?_) (fun c1 => ?_)
  · skip
    refine g_aload_n 0 17 dX8_force_16 rfl rfl ?_
    refine g_bipush ((-2)) 19 dX8_force_17 rfl rfl ?_
    refine g_callV (mc1 := 0) (ms1 := 0) (b := a0) (rest := []) (av := [.int ((-2))]) kX8_refuse 22 dX8_force_19 rfl rfl mbX8_146 imX8_refuse seX8_refuse gcl8.1 s0.1 (Nat.le_of_ble_eq_true rfl) (Nat.zero_le _) (Nat.zero_le _) (tX8_refuse s0 ?_)
    show Go X (d + 1) mc ms kX8_force Q 22 [(0, .ref a0), (1, .int (x1))] [.int ((fX8_refuse a0 (-2)))] (mX8_refuse M a0 (-2)) 0 0
    exact g_iret dX8_force_22 rfl (Nat.zero_le _) (Nat.zero_le _) (h1 c1)
  · skip
    refine g_iload_n 1 6 dX8_force_5 rfl rfl ?_
    refine g_aload_n 0 7 dX8_force_6 rfl rfl ?_
    refine g_getR 10 (a0 + 1) dX8_force_7 rfl flX8_14 s0.1 s0.2.1 ?_
    refine g_getI 13 dX8_force_10 rfl flX8_175 s0.2.2.1.1 ?_
    refine g_icmp_lt 23 16 dX8_force_13 rfl rfl (fun c2 => ?_) (fun c2 => ?_)
    · skip
      refine g_aload_n 0 24 dX8_force_23 rfl rfl ?_
      refine g_getR 27 (a0 + 1) dX8_force_24 rfl flX8_14 s0.1 s0.2.1 ?_
      refine g_getI 30 dX8_force_27 rfl flX8_215 s0.2.2.1.1 ?_
      refine g_istore_n 31 [(2, .int ((g_mi M (a0 + 1) 6))), (0, .ref a0), (1, .int (x1))] dX8_force_30 rfl (Nat.le_of_ble_eq_true rfl) rfl ?_
      refine g_aload_n 1 32 dX8_force_31 rfl rfl ?_
      refine g_getR 35 (a0 + 1) dX8_force_32 rfl flX8_14 s0.1 s0.2.1 ?_
      refine g_iload_n 2 36 dX8_force_35 rfl rfl ?_
      refine g_putI 39 dX8_force_36 rfl flX8_215 s0.2.2.1.1 ?_
      refine g_aload_n 1 40 dX8_force_39 rfl rfl ?_
      refine g_iload_n 0 41 dX8_force_40 rfl rfl ?_
      refine g_callV (mc1 := 0) (ms1 := 0) (b := a0) (rest := []) (av := [.int ((g_mi M (a0 + 1) 6))]) kX8_accept 44 dX8_force_41 rfl rfl mbX8_155 imX8_accept seX8_accept gcl8.1 (Sm.k (Sm.wi Sm.rf) s0.1) (Nat.le_of_ble_eq_true rfl) (Nat.zero_le _) (Nat.zero_le _) (tX8_accept (Ph.sm (Sm.wi Sm.rf) s0) ?_)
      show Go X (d + 1) mc ms kX8_force Q 44 [(2, .int ((g_mi M (a0 + 1) 6))), (0, .ref a0), (1, .int (x1))] [.int ((fX8_accept a0 (g_mi M (a0 + 1) 6)))] (mX8_accept (g_wi M (a0 + 1) 6 x1) a0 (g_mi M (a0 + 1) 6)) 0 0
      exact g_iret dX8_force_44 rfl (Nat.zero_le _) (Nat.zero_le _) (h2 c1 c2)
    · skip
      refine g_aload_n 0 17 dX8_force_16 rfl rfl ?_
      refine g_bipush ((-2)) 19 dX8_force_17 rfl rfl ?_
      refine g_callV (mc1 := 0) (ms1 := 0) (b := a0) (rest := []) (av := [.int ((-2))]) kX8_refuse 22 dX8_force_19 rfl rfl mbX8_146 imX8_refuse seX8_refuse gcl8.1 s0.1 (Nat.le_of_ble_eq_true rfl) (Nat.zero_le _) (Nat.zero_le _) (tX8_refuse s0 ?_)
      show Go X (d + 1) mc ms kX8_force Q 22 [(0, .ref a0), (1, .int (x1))] [.int ((fX8_refuse a0 (-2)))] (mX8_refuse M a0 (-2)) 0 0
      exact g_iret dX8_force_22 rfl (Nat.zero_le _) (Nat.zero_le _) (h3 c1 c2)

def fX8_force (M : gM) (a0 : Nat) (x1 : Int32) : Int32 := (if x1 < (-1) then (fX8_refuse a0 (-2)) else (if x1 < (g_mi M (a0 + 1) 5) then (fX8_accept a0 (g_mi M (a0 + 1) 6)) else (fX8_refuse a0 (-2))))
def mX8_force (M : gM) (a0 : Nat) (x1 : Int32) : gM := g_wm M (if x1 < (-1) then (g_mi (mX8_refuse M a0 (-2))) else (if x1 < (g_mi M (a0 + 1) 5) then (g_mi (mX8_accept (g_wi M (a0 + 1) 6 x1) a0 (g_mi M (a0 + 1) 6))) else (g_mi (mX8_refuse M a0 (-2))))) (g_ml M)
theorem jX8_force {M : gM} {a0 : Nat} {x1 : Int32} : Sm M (mX8_force M a0 x1) := Sm.wm
theorem tX8_force {X : gX} {d mc ms : Nat} {Q : Option Value → gM → Prop} {M : gM} {a0 : Nat} {x1 : Int32} (s0 : Ph M a0) (hQ : Q (some (.int (fX8_force M a0 x1))) (mX8_force M a0 x1)) : Cn X (d + 1) mc ms kX8_force [.ref a0, .int (x1)] M Q := by
  unfold fX8_force mX8_force at hQ
  exact sX8_force_0 s0 (fun c1 => by simp only [if_pos c1] at hQ; exact Sm.q (Sm.tr Sm.rf jX8_refuse) hQ) (fun c1 c2 => by simp only [if_neg c1, if_pos c2] at hQ; exact Sm.q (Sm.tr (Sm.wi Sm.rf) jX8_accept) hQ) (fun c1 c2 => by simp only [if_neg c1, if_neg c2] at hQ; exact Sm.q (Sm.tr Sm.rf jX8_refuse) hQ)
/-! X8_core  -/
set_option maxRecDepth 4000 in
theorem sX8_core_0 {N : Nat} {X : gX} {d mc ms : Nat} {Q : Option Value → gM → Prop} {M : gM} {a0 : Nat} {x1 : Int32} (s0 : Ph M a0) (h1 : ((fX8_isSeed x1) = 0) → Q (some (.int ((-1)))) M) (b2 : (¬ (fX8_isSeed x1) = 0) → EX1_coreSize N M (a0 + 274) ((a0 + 1) + 1) x1 (g_mi M ((a0 + 1) + 1) 4)) (h3 : (¬ (fX8_isSeed x1) = 0) → Q (some (.int ((fX1_coreSize N M (a0 + 274) ((a0 + 1) + 1) x1 (g_mi M ((a0 + 1) + 1) 4))))) (mX1_coreSize N M (a0 + 274) ((a0 + 1) + 1) x1 (g_mi M ((a0 + 1) + 1) 4))) : Cn X (d + 3) mc ms kX8_core [.ref a0, .int (x1)] M Q := by
  refine g_meth rfl rfl (Nat.le_of_ble_eq_true rfl) rfl ?_
  refine g_iload_n 1 1 dX8_core_0 rfl rfl ?_
  refine g_callS (mc1 := 0) (ms1 := 0) (rest := []) (av := [.int (x1)]) kX8_isSeed 4 dX8_core_1 rfl rfl mbX8_226 smX8_isSeed (Nat.le_of_ble_eq_true rfl) (Nat.zero_le _) (Nat.zero_le _) (tX8_isSeed  ?_)
  show Go X (d + 3) mc ms kX8_core Q 4 [(0, .ref a0), (1, .int (x1))] [.int ((fX8_isSeed x1))] M 0 0
  refine g_if_eq 35 7 dX8_core_4 rfl rfl (fun c1 => ?_) (fun c1 => ?_)
  · skip
    refine g_iconst ((-1)) 36 dX8_core_35 rfl rfl ?_
    exact g_iret dX8_core_36 rfl (Nat.zero_le _) (Nat.zero_le _) (h1 c1)
  · skip
    refine g_aload_n 0 8 dX8_core_7 rfl rfl ?_
    refine g_getR 11 (a0 + 274) dX8_core_8 rfl flX8_54 s0.1 s0.2.2.2.2.2.2.2.2.2.2.2.2.2.2.2.1 ?_
    refine g_aload_n 0 12 dX8_core_11 rfl rfl ?_
    refine g_getR 15 (a0 + 1) dX8_core_12 rfl flX8_14 s0.1 s0.2.1 ?_
    refine g_getR 18 ((a0 + 1) + 1) dX8_core_15 rfl flX8_102 s0.2.2.1.1 s0.2.2.1.2.1 ?_
    refine g_iload_n 1 19 dX8_core_18 rfl rfl ?_
    refine g_aload_n 0 20 dX8_core_19 rfl rfl ?_
    refine g_getR 23 (a0 + 1) dX8_core_20 rfl flX8_14 s0.1 s0.2.1 ?_
    refine g_getR 26 ((a0 + 1) + 1) dX8_core_23 rfl flX8_102 s0.2.2.1.1 s0.2.2.1.2.1 ?_
    refine g_getI 29 dX8_core_26 rfl flX8_119 s0.2.2.1.2.2.1.1 ?_
    refine g_callV (mc1 := 0) (ms1 := 0) (b := (a0 + 274)) (rest := []) (av := [.ref ((a0 + 1) + 1), .int (x1), .int ((g_mi M ((a0 + 1) + 1) 4))]) kX1_coreSize 32 dX8_core_29 rfl rfl mbX8_229 imX1_coreSize seX1_coreSize gcl1.1 s0.2.2.2.2.2.2.2.2.2.2.2.2.2.2.2.2.1.1 (Nat.le_of_ble_eq_true rfl) (Nat.zero_le _) (Nat.zero_le _) (tX1_coreSize (N := N) s0.2.2.2.2.2.2.2.2.2.2.2.2.2.2.2.2.1 s0.2.2.1.2.2.1 (b2 c1) ?_)
    show Go X (d + 3) mc ms kX8_core Q 32 [(0, .ref a0), (1, .int (x1))] [.int ((fX1_coreSize N M (a0 + 274) ((a0 + 1) + 1) x1 (g_mi M ((a0 + 1) + 1) 4)))] (mX1_coreSize N M (a0 + 274) ((a0 + 1) + 1) x1 (g_mi M ((a0 + 1) + 1) 4)) 0 0
    refine g_goto 36 dX8_core_32 rfl ?_
    exact g_iret dX8_core_36 rfl (Nat.zero_le _) (Nat.zero_le _) (h3 c1)

def fX8_core (N : Nat) (M : gM) (a0 : Nat) (x1 : Int32) : Int32 := (if (fX8_isSeed x1) = 0 then (-1) else (fX1_coreSize N M (a0 + 274) ((a0 + 1) + 1) x1 (g_mi M ((a0 + 1) + 1) 4)))
def mX8_core (N : Nat) (M : gM) (a0 : Nat) (x1 : Int32) : gM := g_wm M (if (fX8_isSeed x1) = 0 then (g_mi M) else (g_mi (mX1_coreSize N M (a0 + 274) ((a0 + 1) + 1) x1 (g_mi M ((a0 + 1) + 1) 4)))) (g_ml M)
def EX8_core (N : Nat) (M : gM) (a0 : Nat) (x1 : Int32) : Prop := ((¬ (fX8_isSeed x1) = 0) → EX1_coreSize N M (a0 + 274) ((a0 + 1) + 1) x1 (g_mi M ((a0 + 1) + 1) 4))
theorem jX8_core {N : Nat} {M : gM} {a0 : Nat} {x1 : Int32} : Sm M (mX8_core N M a0 x1) := Sm.wm
theorem tX8_core {N : Nat} {X : gX} {d mc ms : Nat} {Q : Option Value → gM → Prop} {M : gM} {a0 : Nat} {x1 : Int32} (s0 : Ph M a0) (hE : EX8_core N M a0 x1) (hQ : Q (some (.int (fX8_core N M a0 x1))) (mX8_core N M a0 x1)) : Cn X (d + 3) mc ms kX8_core [.ref a0, .int (x1)] M Q := by
  unfold fX8_core mX8_core at hQ
  have b2 := hE
  exact sX8_core_0 s0 (fun c1 => by simp only [if_pos c1] at hQ; exact Sm.q Sm.rf hQ) b2 (fun c1 => by simp only [if_neg c1] at hQ; exact Sm.q (Sm.tr Sm.rf jX1_coreSize) hQ)
/-! X8_good  -/
set_option maxRecDepth 4000 in
theorem sX8_good_0 {X : gX} {d mc ms : Nat} {Q : Option Value → gM → Prop} {M : gM} {a0 : Nat} {x1 : Int32} (s0 : Ph M a0) (h1 : ((-1) ≤ x1) → Go X (d + 4) mc ms kX8_good Q 11 [(0, .ref a0), (1, .int (x1)), (2, .int (0)), (3, .int (0))] [] M 0 0) (h2 : (¬ (-1) ≤ x1) → Q (some (.int ((-1)))) M) : Cn X (d + 4) mc ms kX8_good [.ref a0, .int (x1)] M Q := by
  refine g_meth rfl rfl (Nat.le_of_ble_eq_true rfl) rfl ?_
  refine g_iload_n 1 1 dX8_good_0 rfl rfl ?_
  refine g_iconst ((-1)) 2 dX8_good_1 rfl rfl ?_
  refine g_icmp_ge 7 5 dX8_good_2 rfl rfl (fun c1 => ?_) (fun c1 => ?_)
  · skip
    refine g_iconst (0) 8 dX8_good_7 rfl rfl ?_
    refine g_istore_n 9 [(2, .int (0)), (0, .ref a0), (1, .int (x1))] dX8_good_8 rfl (Nat.le_of_ble_eq_true rfl) rfl ?_
    refine g_iconst (0) 10 dX8_good_9 rfl rfl ?_
    refine g_istore_n 11 [(3, .int (0)), (2, .int (0)), (0, .ref a0), (1, .int (x1))] dX8_good_10 rfl (Nat.le_of_ble_eq_true rfl) rfl ?_
    exact g_sub [2, 3, 1, 0] _ rfl (h1 c1)
  · skip
    refine g_iconst ((-1)) 6 dX8_good_5 rfl rfl ?_
    exact g_iret dX8_good_6 rfl (Nat.zero_le _) (Nat.zero_le _) (h2 c1)

set_option maxRecDepth 4000 in
theorem sX8_good_11 {N : Nat} {X : gX} {d mc ms : Nat} {Q : Option Value → gM → Prop} {M : gM} {c z : Nat} {a0 : Nat} {x1 : Int32} {x2 : Int32} {x3 : Int32} (s0 : Ph M a0) (h1 : (256 ≤ x3) → (¬ x1 = (-1)) → Q (some (.int ((-1)))) M) (w2 : c ≤ mc) (w3 : z ≤ ms) (h4 : (256 ≤ x3) → (x1 = (-1)) → Q (some (.int (x2))) M) (b5 : (¬ 256 ≤ x3) → EX1_leavesNone N M (a0 + 274) ((a0 + 1) + 1) x3 (g_mi M ((a0 + 1) + 1) 4)) (h6 : (¬ 256 ≤ x3) → (¬ (fX1_leavesNone N M (a0 + 274) ((a0 + 1) + 1) x3 (g_mi M ((a0 + 1) + 1) 4)) = 0) → (¬ x2 = x1) → Go X (d + 4) mc ms kX8_good Q 11 [(0, .ref a0), (1, .int (x1)), (2, .int ((x2 + 1))), (3, .int ((x3 + 1)))] [] (mX1_leavesNone N M (a0 + 274) ((a0 + 1) + 1) x3 (g_mi M ((a0 + 1) + 1) 4)) c z) (h7 : (¬ 256 ≤ x3) → (¬ (fX1_leavesNone N M (a0 + 274) ((a0 + 1) + 1) x3 (g_mi M ((a0 + 1) + 1) 4)) = 0) → (x2 = x1) → Q (some (.int (x3))) (mX1_leavesNone N M (a0 + 274) ((a0 + 1) + 1) x3 (g_mi M ((a0 + 1) + 1) 4))) (h8 : (¬ 256 ≤ x3) → ((fX1_leavesNone N M (a0 + 274) ((a0 + 1) + 1) x3 (g_mi M ((a0 + 1) + 1) 4)) = 0) → Go X (d + 4) mc ms kX8_good Q 11 [(0, .ref a0), (1, .int (x1)), (2, .int (x2)), (3, .int ((x3 + 1)))] [] (mX1_leavesNone N M (a0 + 274) ((a0 + 1) + 1) x3 (g_mi M ((a0 + 1) + 1) 4)) c z) : Go X (d + 4) mc ms kX8_good Q 11 [(0, .ref a0), (1, .int (x1)), (2, .int (x2)), (3, .int (x3))] [] M c z := by
  refine g_iload_n 3 12 dX8_good_11 rfl rfl ?_
  refine g_sipush (256) 15 dX8_good_12 rfl rfl ?_
  refine g_icmp_ge 65 18 dX8_good_15 rfl rfl (fun c1 => ?_) (fun c1 => ?_)
  · skip
    refine g_iload_n 1 66 dX8_good_65 rfl rfl ?_
    refine g_iconst ((-1)) 67 dX8_good_66 rfl rfl ?_
    refine g_icmp_ne 74 70 dX8_good_67 rfl rfl (fun c2 => ?_) (fun c2 => ?_)
    · skip
      refine g_iconst ((-1)) 75 dX8_good_74 rfl rfl ?_
      exact g_iret dX8_good_75 rfl (w2) (w3) (h1 c1 c2)
    · skip
      refine g_iload_n 2 71 dX8_good_70 rfl rfl ?_
      refine g_goto 75 dX8_good_71 rfl ?_
      exact g_iret dX8_good_75 rfl (w2) (w3) (h4 c1 c2)
  · skip
    refine g_aload_n 0 19 dX8_good_18 rfl rfl ?_
    refine g_getR 22 (a0 + 274) dX8_good_19 rfl flX8_54 s0.1 s0.2.2.2.2.2.2.2.2.2.2.2.2.2.2.2.1 ?_
    refine g_aload_n 0 23 dX8_good_22 rfl rfl ?_
    refine g_getR 26 (a0 + 1) dX8_good_23 rfl flX8_14 s0.1 s0.2.1 ?_
    refine g_getR 29 ((a0 + 1) + 1) dX8_good_26 rfl flX8_102 s0.2.2.1.1 s0.2.2.1.2.1 ?_
    refine g_iload_n 3 30 dX8_good_29 rfl rfl ?_
    refine g_aload_n 0 31 dX8_good_30 rfl rfl ?_
    refine g_getR 34 (a0 + 1) dX8_good_31 rfl flX8_14 s0.1 s0.2.1 ?_
    refine g_getR 37 ((a0 + 1) + 1) dX8_good_34 rfl flX8_102 s0.2.2.1.1 s0.2.2.1.2.1 ?_
    refine g_getI 40 dX8_good_37 rfl flX8_119 s0.2.2.1.2.2.1.1 ?_
    refine g_callV (mc1 := 0) (ms1 := 0) (b := (a0 + 274)) (rest := []) (av := [.ref ((a0 + 1) + 1), .int (x3), .int ((g_mi M ((a0 + 1) + 1) 4))]) kX1_leavesNone 43 dX8_good_40 rfl rfl mbX8_246 imX1_leavesNone seX1_leavesNone gcl1.1 s0.2.2.2.2.2.2.2.2.2.2.2.2.2.2.2.2.1.1 (Nat.le_of_ble_eq_true rfl) (w2) (w3) (tX1_leavesNone (N := N) s0.2.2.2.2.2.2.2.2.2.2.2.2.2.2.2.2.1 s0.2.2.1.2.2.1 (b5 c1) ?_)
    show Go X (d + 4) mc ms kX8_good Q 43 [(0, .ref a0), (1, .int (x1)), (2, .int (x2)), (3, .int (x3))] [.int ((fX1_leavesNone N M (a0 + 274) ((a0 + 1) + 1) x3 (g_mi M ((a0 + 1) + 1) 4)))] (mX1_leavesNone N M (a0 + 274) ((a0 + 1) + 1) x3 (g_mi M ((a0 + 1) + 1) 4)) c z
    refine g_if_ne 49 46 dX8_good_43 rfl rfl (fun c3 => ?_) (fun c3 => ?_)
    · skip
      refine g_iload_n 2 50 dX8_good_49 rfl rfl ?_
      refine g_iload_n 1 51 dX8_good_50 rfl rfl ?_
      refine g_icmp_ne 56 54 dX8_good_51 rfl rfl (fun c4 => ?_) (fun c4 => ?_)
      · skip
        refine g_iinc _ 2 59 [(2, .int ((x2 + 1))), (0, .ref a0), (1, .int (x1)), (3, .int (x3))] dX8_good_56 rfl rfl rfl (Nat.le_of_ble_eq_true rfl) rfl ?_
        refine g_iinc _ 3 62 [(3, .int ((x3 + 1))), (2, .int ((x2 + 1))), (0, .ref a0), (1, .int (x1))] dX8_good_59 rfl rfl rfl (Nat.le_of_ble_eq_true rfl) rfl ?_
        refine g_goto 11 dX8_good_62 rfl ?_
        exact g_sub [2, 3, 1, 0] _ rfl (h6 c1 c3 c4)
      · skip
        refine g_iload_n 3 55 dX8_good_54 rfl rfl ?_
        exact g_iret dX8_good_55 rfl (w2) (w3) (h7 c1 c3 c4)
    · skip
      refine g_goto 59 dX8_good_46 rfl ?_
      refine g_iinc _ 3 62 [(3, .int ((x3 + 1))), (0, .ref a0), (1, .int (x1)), (2, .int (x2))] dX8_good_59 rfl rfl rfl (Nat.le_of_ble_eq_true rfl) rfl ?_
      refine g_goto 11 dX8_good_62 rfl ?_
      exact g_sub [1, 2, 3, 0] _ rfl (h8 c1 c3)

def bX8_good_0 (N : Nat) (M : gM) (a0 : Nat) (x1 : Int32) (k : Nat → (Nat → Nat → Int32) → Nat → Int32 → Int32 → Int32 → Int32 × (Nat → Nat → Int32)) : Int32 × (Nat → Nat → Int32) := (if (-1) ≤ x1 then (k 0 (g_mi M) a0 x1 0 0) else ((-1), g_mi M))
def eX8_good_0 (N : Nat) (M : gM) (a0 : Nat) (x1 : Int32) (k : Nat → (Nat → Nat → Int32) → Nat → Int32 → Int32 → Int32 → Prop) : Prop := (if (-1) ≤ x1 then (k 0 (g_mi M) a0 x1 0 0) else True)
def bX8_good_11 (N : Nat) (M : gM) (f : Nat → Nat → Int32) (a0 : Nat) (x1 : Int32) (x2 : Int32) (x3 : Int32) (k : Nat → (Nat → Nat → Int32) → Nat → Int32 → Int32 → Int32 → Int32 × (Nat → Nat → Int32)) : Int32 × (Nat → Nat → Int32) := (if 256 ≤ x3 then (if x1 = (-1) then (x2, g_mi (g_wm M f (g_ml M))) else ((-1), g_mi (g_wm M f (g_ml M)))) else (if (fX1_leavesNone N (g_wm M f (g_ml M)) (a0 + 274) ((a0 + 1) + 1) x3 (g_mi (g_wm M f (g_ml M)) ((a0 + 1) + 1) 4)) = 0 then (k 0 (g_mi (mX1_leavesNone N (g_wm M f (g_ml M)) (a0 + 274) ((a0 + 1) + 1) x3 (g_mi (g_wm M f (g_ml M)) ((a0 + 1) + 1) 4))) a0 x1 x2 (x3 + 1)) else (if x2 = x1 then (x3, g_mi (mX1_leavesNone N (g_wm M f (g_ml M)) (a0 + 274) ((a0 + 1) + 1) x3 (g_mi (g_wm M f (g_ml M)) ((a0 + 1) + 1) 4))) else (k 0 (g_mi (mX1_leavesNone N (g_wm M f (g_ml M)) (a0 + 274) ((a0 + 1) + 1) x3 (g_mi (g_wm M f (g_ml M)) ((a0 + 1) + 1) 4))) a0 x1 (x2 + 1) (x3 + 1)))))
def eX8_good_11 (N : Nat) (M : gM) (f : Nat → Nat → Int32) (a0 : Nat) (x1 : Int32) (x2 : Int32) (x3 : Int32) (k : Nat → (Nat → Nat → Int32) → Nat → Int32 → Int32 → Int32 → Prop) : Prop := ((¬ 256 ≤ x3) → EX1_leavesNone N (g_wm M f (g_ml M)) (a0 + 274) ((a0 + 1) + 1) x3 (g_mi (g_wm M f (g_ml M)) ((a0 + 1) + 1) 4)) ∧ (if 256 ≤ x3 then (if x1 = (-1) then True else True) else (if (fX1_leavesNone N (g_wm M f (g_ml M)) (a0 + 274) ((a0 + 1) + 1) x3 (g_mi (g_wm M f (g_ml M)) ((a0 + 1) + 1) 4)) = 0 then (k 0 (g_mi (mX1_leavesNone N (g_wm M f (g_ml M)) (a0 + 274) ((a0 + 1) + 1) x3 (g_mi (g_wm M f (g_ml M)) ((a0 + 1) + 1) 4))) a0 x1 x2 (x3 + 1)) else (if x2 = x1 then True else (k 0 (g_mi (mX1_leavesNone N (g_wm M f (g_ml M)) (a0 + 274) ((a0 + 1) + 1) x3 (g_mi (g_wm M f (g_ml M)) ((a0 + 1) + 1) 4))) a0 x1 (x2 + 1) (x3 + 1)))))
def wX8_good (N : Nat) (M : gM) : Nat → Nat → (Nat → Nat → Int32) → Nat → Int32 → Int32 → Int32 → Int32 × (Nat → Nat → Int32)
  | 0, _, f, _, _, _, _ => (0, f)
  | n + 1, h, f, a0, x1, x2, x3 => bX8_good_11 N M f a0 x1 x2 x3 (wX8_good N M n)
def vX8_good (N : Nat) (M : gM) : Nat → Nat → (Nat → Nat → Int32) → Nat → Int32 → Int32 → Int32 → Prop
  | 0, _, _, _, _, _, _ => False
  | n + 1, h, f, a0, x1, x2, x3 => eX8_good_11 N M f a0 x1 x2 x3 (vX8_good N M n)
set_option maxRecDepth 10000 in
theorem lpX8_good {X : gX} {d mc ms : Nat} {Q : Option Value → gM → Prop} (N : Nat) (M : gM) : ∀ n : Nat, (∀ (f : Nat → Nat → Int32) (a0 : Nat) (x1 : Int32) (x2 : Int32) (x3 : Int32), Ph M a0 → vX8_good N M n 0 f a0 x1 x2 x3 → Q (some (.int (wX8_good N M n 0 f a0 x1 x2 x3).1)) (g_wm M (wX8_good N M n 0 f a0 x1 x2 x3).2 (g_ml M)) → Go X (d + 4) mc ms kX8_good Q 11 [(0, .ref a0), (1, .int (x1)), (2, .int (x2)), (3, .int (x3))] [] (g_wm M f (g_ml M)) 0 0) := by
  intro n
  induction n with
  | zero => exact fun _ _ _ _ _ _ h _ => h.elim
  | succ n ih =>
    intro f a0 x1 x2 x3 s0 hT hQ
    rw [vX8_good] at hT
    rw [wX8_good] at hQ
    unfold bX8_good_11 at hQ
    unfold eX8_good_11 at hT
    obtain ⟨b5, hT⟩ := hT
    exact sX8_good_11 (M := (g_wm M f (g_ml M))) (Ph.sm Sm.wm s0) (fun c1 c2 => by simp only [if_pos c1, if_neg c2] at hQ; exact Sm.q Sm.wm hQ) (Nat.zero_le _) (Nat.zero_le _) (fun c1 c2 => by simp only [if_pos c1, if_pos c2] at hQ; exact Sm.q Sm.wm hQ) b5 (fun c1 c3 c4 => by simp only [if_neg c1, if_neg c3, if_neg c4] at hQ hT; exact Sm.g (Sm.tr Sm.wm (Sm.tr Sm.rf jX1_leavesNone)) (ih _ _ _ _ _ (s0) hT hQ)) (fun c1 c3 c4 => by simp only [if_neg c1, if_neg c3, if_pos c4] at hQ; exact Sm.q (Sm.tr Sm.wm (Sm.tr Sm.rf jX1_leavesNone)) hQ) (fun c1 c3 => by simp only [if_neg c1, if_pos c3] at hQ hT; exact Sm.g (Sm.tr Sm.wm (Sm.tr Sm.rf jX1_leavesNone)) (ih _ _ _ _ _ (s0) hT hQ))
def fX8_good (N : Nat) (M : gM) (a0 : Nat) (x1 : Int32) : Int32 := (bX8_good_0 N M a0 x1 (wX8_good N M N)).1
def mX8_good (N : Nat) (M : gM) (a0 : Nat) (x1 : Int32) : gM := g_wm M (bX8_good_0 N M a0 x1 (wX8_good N M N)).2 (g_ml M)
theorem jX8_good {N : Nat} {M : gM} {a0 : Nat} {x1 : Int32} : Sm M (mX8_good N M a0 x1) := Sm.wm
def EX8_good (N : Nat) (M : gM) (a0 : Nat) (x1 : Int32) : Prop := eX8_good_0 N M a0 x1 (vX8_good N M N)
theorem tX8_good {N : Nat} {X : gX} {d mc ms : Nat} {Q : Option Value → gM → Prop} {M : gM} {a0 : Nat} {x1 : Int32} (s0 : Ph M a0) (hE : EX8_good N M a0 x1) (hQ : Q (some (.int (fX8_good N M a0 x1))) (mX8_good N M a0 x1)) : Cn X (d + 4) mc ms kX8_good [.ref a0, .int (x1)] M Q := by
  unfold fX8_good mX8_good at hQ
  unfold bX8_good_0 at hQ
  unfold EX8_good eX8_good_0 at hE
  have hT := hE
  have ih := lpX8_good (X := X) (d := d) (mc := mc) (ms := ms) (Q := Q) N M N
  exact sX8_good_0 s0 (fun c1 => by simp only [if_pos c1] at hQ hT; exact Sm.g Sm.rf (ih _ _ _ _ _ (s0) hT hQ)) (fun c1 => by simp only [if_neg c1] at hQ; exact Sm.q Sm.rf hQ)
/-! X8_leastSide  -/
set_option maxRecDepth 4000 in
theorem sX8_leastSide_0 {X : gX} {d mc ms : Nat} {Q : Option Value → gM → Prop} {M : gM} {a0 : Nat} (s0 : Ph M a0) (h1 : Go X (d + 4) mc ms kX8_leastSide Q 2 [(0, .ref a0), (1, .int (2))] [] M 0 0) : Cn X (d + 4) mc ms kX8_leastSide [.ref a0] M Q := by
  refine g_meth rfl rfl (Nat.le_of_ble_eq_true rfl) rfl ?_
  refine g_iconst (2) 1 dX8_leastSide_0 rfl rfl ?_
  refine g_istore_n 2 [(1, .int (2)), (0, .ref a0)] dX8_leastSide_1 rfl (Nat.le_of_ble_eq_true rfl) rfl ?_
  exact g_sub [1, 0] _ rfl (h1)

set_option maxRecDepth 4000 in
theorem sX8_leastSide_2 {X : gX} {d mc ms : Nat} {Q : Option Value → gM → Prop} {M : gM} {c z : Nat} {a0 : Nat} {x1 : Int32} (s0 : Ph M a0) (h1 : (20 < x1) → Q (some (.int ((-1)))) M) (w2 : c ≤ mc) (w3 : z ≤ ms) (h4 : (¬ 20 < x1) → Go X (d + 4) mc ms kX8_leastSide Q 10 [(0, .ref a0), (1, .int (x1)), (2, .int (0))] [] M c z) : Go X (d + 4) mc ms kX8_leastSide Q 2 [(0, .ref a0), (1, .int (x1))] [] M c z := by
  refine g_iload_n 1 3 dX8_leastSide_2 rfl rfl ?_
  refine g_bipush (20) 5 dX8_leastSide_3 rfl rfl ?_
  refine g_icmp_gt 49 8 dX8_leastSide_5 rfl rfl (fun c1 => ?_) (fun c1 => ?_)
  · skip
    refine g_iconst ((-1)) 50 dX8_leastSide_49 rfl rfl ?_
    exact g_iret dX8_leastSide_50 rfl (w2) (w3) (h1 c1)
  · skip
    refine g_iconst (0) 9 dX8_leastSide_8 rfl rfl ?_
    refine g_istore_n 10 [(2, .int (0)), (0, .ref a0), (1, .int (x1))] dX8_leastSide_9 rfl (Nat.le_of_ble_eq_true rfl) rfl ?_
    exact g_sub [1, 2, 0] _ rfl (h4 c1)

set_option maxRecDepth 4000 in
theorem sX8_leastSide_10 {N : Nat} {X : gX} {d mc ms : Nat} {Q : Option Value → gM → Prop} {M : gM} {c z : Nat} {a0 : Nat} {x1 : Int32} {x2 : Int32} (s0 : Ph M a0) (h1 : (16 ≤ x2) → Go X (d + 4) mc ms kX8_leastSide Q 2 [(0, .ref a0), (1, .int ((x1 + 1)))] [] M c z) (w2 : c ≤ mc) (w3 : z ≤ ms) (b4 : (¬ 16 ≤ x2) → EX1_leavesNone N M (a0 + 274) ((a0 + 1) + 1) x2 x1) (h5 : (¬ 16 ≤ x2) → ((fX1_leavesNone N M (a0 + 274) ((a0 + 1) + 1) x2 x1) = 0) → Go X (d + 4) mc ms kX8_leastSide Q 10 [(0, .ref a0), (1, .int (x1)), (2, .int ((x2 + 1)))] [] (mX1_leavesNone N M (a0 + 274) ((a0 + 1) + 1) x2 x1) c z) (h6 : (¬ 16 ≤ x2) → (¬ (fX1_leavesNone N M (a0 + 274) ((a0 + 1) + 1) x2 x1) = 0) → Q (some (.int (x1))) (mX1_leavesNone N M (a0 + 274) ((a0 + 1) + 1) x2 x1)) : Go X (d + 4) mc ms kX8_leastSide Q 10 [(0, .ref a0), (1, .int (x1)), (2, .int (x2))] [] M c z := by
  refine g_iload_n 2 11 dX8_leastSide_10 rfl rfl ?_
  refine g_bipush (16) 13 dX8_leastSide_11 rfl rfl ?_
  refine g_icmp_ge 43 16 dX8_leastSide_13 rfl rfl (fun c1 => ?_) (fun c1 => ?_)
  · skip
    refine g_iinc _ 1 46 [(1, .int ((x1 + 1))), (0, .ref a0), (2, .int (x2))] dX8_leastSide_43 rfl rfl rfl (Nat.le_of_ble_eq_true rfl) rfl ?_
    refine g_goto 2 dX8_leastSide_46 rfl ?_
    exact g_sub [1, 0] _ rfl (h1 c1)
  · skip
    refine g_aload_n 0 17 dX8_leastSide_16 rfl rfl ?_
    refine g_getR 20 (a0 + 274) dX8_leastSide_17 rfl flX8_54 s0.1 s0.2.2.2.2.2.2.2.2.2.2.2.2.2.2.2.1 ?_
    refine g_aload_n 0 21 dX8_leastSide_20 rfl rfl ?_
    refine g_getR 24 (a0 + 1) dX8_leastSide_21 rfl flX8_14 s0.1 s0.2.1 ?_
    refine g_getR 27 ((a0 + 1) + 1) dX8_leastSide_24 rfl flX8_102 s0.2.2.1.1 s0.2.2.1.2.1 ?_
    refine g_iload_n 2 28 dX8_leastSide_27 rfl rfl ?_
    refine g_iload_n 1 29 dX8_leastSide_28 rfl rfl ?_
    refine g_callV (mc1 := 0) (ms1 := 0) (b := (a0 + 274)) (rest := []) (av := [.ref ((a0 + 1) + 1), .int (x2), .int (x1)]) kX1_leavesNone 32 dX8_leastSide_29 rfl rfl mbX8_246 imX1_leavesNone seX1_leavesNone gcl1.1 s0.2.2.2.2.2.2.2.2.2.2.2.2.2.2.2.2.1.1 (Nat.le_of_ble_eq_true rfl) (w2) (w3) (tX1_leavesNone (N := N) s0.2.2.2.2.2.2.2.2.2.2.2.2.2.2.2.2.1 s0.2.2.1.2.2.1 (b4 c1) ?_)
    show Go X (d + 4) mc ms kX8_leastSide Q 32 [(0, .ref a0), (1, .int (x1)), (2, .int (x2))] [.int ((fX1_leavesNone N M (a0 + 274) ((a0 + 1) + 1) x2 x1))] (mX1_leavesNone N M (a0 + 274) ((a0 + 1) + 1) x2 x1) c z
    refine g_if_eq 37 35 dX8_leastSide_32 rfl rfl (fun c2 => ?_) (fun c2 => ?_)
    · skip
      refine g_iinc _ 2 40 [(2, .int ((x2 + 1))), (0, .ref a0), (1, .int (x1))] dX8_leastSide_37 rfl rfl rfl (Nat.le_of_ble_eq_true rfl) rfl ?_
      refine g_goto 10 dX8_leastSide_40 rfl ?_
      exact g_sub [1, 2, 0] _ rfl (h5 c1 c2)
    · skip
      refine g_iload_n 1 36 dX8_leastSide_35 rfl rfl ?_
      exact g_iret dX8_leastSide_36 rfl (w2) (w3) (h6 c1 c2)

def bX8_leastSide_0 (N : Nat) (M : gM) (a0 : Nat) (k : Nat → (Nat → Nat → Int32) → Nat → Int32 → Int32 → Int32 × (Nat → Nat → Int32)) : Int32 × (Nat → Nat → Int32) := (k 0 (g_mi M) a0 2 0)
def eX8_leastSide_0 (N : Nat) (M : gM) (a0 : Nat) (k : Nat → (Nat → Nat → Int32) → Nat → Int32 → Int32 → Prop) : Prop := (k 0 (g_mi M) a0 2 0)
def bX8_leastSide_2 (N : Nat) (M : gM) (f : Nat → Nat → Int32) (a0 : Nat) (x1 : Int32) (k : Nat → (Nat → Nat → Int32) → Nat → Int32 → Int32 → Int32 × (Nat → Nat → Int32)) : Int32 × (Nat → Nat → Int32) := (if 20 < x1 then ((-1), g_mi (g_wm M f (g_ml M))) else (k 1 (g_mi (g_wm M f (g_ml M))) a0 x1 0))
def eX8_leastSide_2 (N : Nat) (M : gM) (f : Nat → Nat → Int32) (a0 : Nat) (x1 : Int32) (k : Nat → (Nat → Nat → Int32) → Nat → Int32 → Int32 → Prop) : Prop := (if 20 < x1 then True else (k 1 (g_mi (g_wm M f (g_ml M))) a0 x1 0))
def bX8_leastSide_10 (N : Nat) (M : gM) (f : Nat → Nat → Int32) (a0 : Nat) (x1 : Int32) (x2 : Int32) (k : Nat → (Nat → Nat → Int32) → Nat → Int32 → Int32 → Int32 × (Nat → Nat → Int32)) : Int32 × (Nat → Nat → Int32) := (if 16 ≤ x2 then (k 0 (g_mi (g_wm M f (g_ml M))) a0 (x1 + 1) 0) else (if (fX1_leavesNone N (g_wm M f (g_ml M)) (a0 + 274) ((a0 + 1) + 1) x2 x1) = 0 then (k 1 (g_mi (mX1_leavesNone N (g_wm M f (g_ml M)) (a0 + 274) ((a0 + 1) + 1) x2 x1)) a0 x1 (x2 + 1)) else (x1, g_mi (mX1_leavesNone N (g_wm M f (g_ml M)) (a0 + 274) ((a0 + 1) + 1) x2 x1))))
def eX8_leastSide_10 (N : Nat) (M : gM) (f : Nat → Nat → Int32) (a0 : Nat) (x1 : Int32) (x2 : Int32) (k : Nat → (Nat → Nat → Int32) → Nat → Int32 → Int32 → Prop) : Prop := ((¬ 16 ≤ x2) → EX1_leavesNone N (g_wm M f (g_ml M)) (a0 + 274) ((a0 + 1) + 1) x2 x1) ∧ (if 16 ≤ x2 then (k 0 (g_mi (g_wm M f (g_ml M))) a0 (x1 + 1) 0) else (if (fX1_leavesNone N (g_wm M f (g_ml M)) (a0 + 274) ((a0 + 1) + 1) x2 x1) = 0 then (k 1 (g_mi (mX1_leavesNone N (g_wm M f (g_ml M)) (a0 + 274) ((a0 + 1) + 1) x2 x1)) a0 x1 (x2 + 1)) else True))
def wX8_leastSide (N : Nat) (M : gM) : Nat → Nat → (Nat → Nat → Int32) → Nat → Int32 → Int32 → Int32 × (Nat → Nat → Int32)
  | 0, _, f, _, _, _ => (0, f)
  | n + 1, h, f, a0, x1, x2 => if h = 0 then bX8_leastSide_2 N M f a0 x1 (wX8_leastSide N M n) else bX8_leastSide_10 N M f a0 x1 x2 (wX8_leastSide N M n)
def vX8_leastSide (N : Nat) (M : gM) : Nat → Nat → (Nat → Nat → Int32) → Nat → Int32 → Int32 → Prop
  | 0, _, _, _, _, _ => False
  | n + 1, h, f, a0, x1, x2 => if h = 0 then eX8_leastSide_2 N M f a0 x1 (vX8_leastSide N M n) else eX8_leastSide_10 N M f a0 x1 x2 (vX8_leastSide N M n)
set_option maxRecDepth 10000 in
theorem lpX8_leastSide {X : gX} {d mc ms : Nat} {Q : Option Value → gM → Prop} (N : Nat) (M : gM) : ∀ n : Nat, (∀ (f : Nat → Nat → Int32) (a0 : Nat) (x1 : Int32) (x2 : Int32), Ph M a0 → vX8_leastSide N M n 0 f a0 x1 x2 → Q (some (.int (wX8_leastSide N M n 0 f a0 x1 x2).1)) (g_wm M (wX8_leastSide N M n 0 f a0 x1 x2).2 (g_ml M)) → Go X (d + 4) mc ms kX8_leastSide Q 2 [(0, .ref a0), (1, .int (x1))] [] (g_wm M f (g_ml M)) 0 0) ∧ (∀ (f : Nat → Nat → Int32) (a0 : Nat) (x1 : Int32) (x2 : Int32), Ph M a0 → vX8_leastSide N M n 1 f a0 x1 x2 → Q (some (.int (wX8_leastSide N M n 1 f a0 x1 x2).1)) (g_wm M (wX8_leastSide N M n 1 f a0 x1 x2).2 (g_ml M)) → Go X (d + 4) mc ms kX8_leastSide Q 10 [(0, .ref a0), (1, .int (x1)), (2, .int (x2))] [] (g_wm M f (g_ml M)) 0 0) := by
  intro n
  induction n with
  | zero => exact ⟨fun _ _ _ _ _ h _ => h.elim, fun _ _ _ _ _ h _ => h.elim⟩
  | succ n ih =>
    refine ⟨?_, ?_⟩
    · intro f a0 x1 x2 s0 hT hQ
      rw [vX8_leastSide, if_pos (show (0 : Nat) = 0 from rfl)] at hT
      rw [wX8_leastSide, if_pos (show (0 : Nat) = 0 from rfl)] at hQ
      unfold bX8_leastSide_2 at hQ
      unfold eX8_leastSide_2 at hT
      exact sX8_leastSide_2 (M := (g_wm M f (g_ml M))) (Ph.sm Sm.wm s0) (fun c1 => by simp only [if_pos c1] at hQ; exact Sm.q Sm.wm hQ) (Nat.zero_le _) (Nat.zero_le _) (fun c1 => by simp only [if_neg c1] at hQ hT; exact Sm.g Sm.wm (ih.2 _ _ _ _ (s0) hT hQ))
    · intro f a0 x1 x2 s0 hT hQ
      rw [vX8_leastSide, if_neg (show ¬ (1 : Nat) = 0 by decide)] at hT
      rw [wX8_leastSide, if_neg (show ¬ (1 : Nat) = 0 by decide)] at hQ
      unfold bX8_leastSide_10 at hQ
      unfold eX8_leastSide_10 at hT
      obtain ⟨b4, hT⟩ := hT
      exact sX8_leastSide_10 (M := (g_wm M f (g_ml M))) (Ph.sm Sm.wm s0) (fun c1 => by simp only [if_pos c1] at hQ hT; exact Sm.g Sm.wm (ih.1 _ _ _ _ (s0) hT hQ)) (Nat.zero_le _) (Nat.zero_le _) b4 (fun c1 c2 => by simp only [if_neg c1, if_pos c2] at hQ hT; exact Sm.g (Sm.tr Sm.wm (Sm.tr Sm.rf jX1_leavesNone)) (ih.2 _ _ _ _ (s0) hT hQ)) (fun c1 c2 => by simp only [if_neg c1, if_neg c2] at hQ; exact Sm.q (Sm.tr Sm.wm (Sm.tr Sm.rf jX1_leavesNone)) hQ)
def fX8_leastSide (N : Nat) (M : gM) (a0 : Nat) : Int32 := (bX8_leastSide_0 N M a0 (wX8_leastSide N M N)).1
def mX8_leastSide (N : Nat) (M : gM) (a0 : Nat) : gM := g_wm M (bX8_leastSide_0 N M a0 (wX8_leastSide N M N)).2 (g_ml M)
theorem jX8_leastSide {N : Nat} {M : gM} {a0 : Nat} : Sm M (mX8_leastSide N M a0) := Sm.wm
def EX8_leastSide (N : Nat) (M : gM) (a0 : Nat) : Prop := eX8_leastSide_0 N M a0 (vX8_leastSide N M N)
theorem tX8_leastSide {N : Nat} {X : gX} {d mc ms : Nat} {Q : Option Value → gM → Prop} {M : gM} {a0 : Nat} (s0 : Ph M a0) (hE : EX8_leastSide N M a0) (hQ : Q (some (.int (fX8_leastSide N M a0))) (mX8_leastSide N M a0)) : Cn X (d + 4) mc ms kX8_leastSide [.ref a0] M Q := by
  unfold fX8_leastSide mX8_leastSide at hQ
  unfold bX8_leastSide_0 at hQ
  unfold EX8_leastSide eX8_leastSide_0 at hE
  have hT := hE
  have ih := lpX8_leastSide (X := X) (d := d) (mc := mc) (ms := ms) (Q := Q) N M N
  exact sX8_leastSide_0 s0 (Sm.g Sm.rf (ih.1 _ _ _ _ (s0) hT hQ))
/-! X8_found  -/
set_option maxRecDepth 4000 in
theorem sX8_found_0 {N : Nat} {X : gX} {d mc ms : Nat} {Q : Option Value → gM → Prop} {M : gM} {a0 : Nat} {x1 : Int32} {x2 : Int32} (s0 : Ph M a0) (h1 : ((g_mi M (((a0 + 1) + 1) + 3) 3) = 0) → Q (some (.int ((-1)))) M) (b2 : (¬ (g_mi M (((a0 + 1) + 1) + 3) 3) = 0) → (¬ (fX8_isKey x1) = 0) → (x2 = 0) → EX5_ownVertex N M (((a0 + 1) + 1) + 3) x1) (h3 : (¬ (g_mi M (((a0 + 1) + 1) + 3) 3) = 0) → (¬ (fX8_isKey x1) = 0) → (x2 = 0) → Q (some (.int ((fX5_ownVertex N M (((a0 + 1) + 1) + 3) x1)))) M) (b4 : (¬ (g_mi M (((a0 + 1) + 1) + 3) 3) = 0) → (¬ (fX8_isKey x1) = 0) → (¬ x2 = 0) → (x2 = 1) → EX5_numberOf N M (((a0 + 1) + 1) + 3) x1) (h5 : (¬ (g_mi M (((a0 + 1) + 1) + 3) 3) = 0) → (¬ (fX8_isKey x1) = 0) → (¬ x2 = 0) → (x2 = 1) → Q (some (.int ((fX5_numberOf N M (((a0 + 1) + 1) + 3) x1)))) M) (b6 : (¬ (g_mi M (((a0 + 1) + 1) + 3) 3) = 0) → (¬ (fX8_isKey x1) = 0) → (¬ x2 = 0) → (¬ x2 = 1) → (x2 = 2) → EX5_placeOf N M (((a0 + 1) + 1) + 3) x1) (h7 : (¬ (g_mi M (((a0 + 1) + 1) + 3) 3) = 0) → (¬ (fX8_isKey x1) = 0) → (¬ x2 = 0) → (¬ x2 = 1) → (x2 = 2) → Q (some (.int ((fX5_placeOf N M (((a0 + 1) + 1) + 3) x1)))) M) (h8 : (¬ (g_mi M (((a0 + 1) + 1) + 3) 3) = 0) → (¬ (fX8_isKey x1) = 0) → (¬ x2 = 0) → (¬ x2 = 1) → (¬ x2 = 2) → Q (some (.int ((-1)))) M) (h9 : (¬ (g_mi M (((a0 + 1) + 1) + 3) 3) = 0) → ((fX8_isKey x1) = 0) → Q (some (.int ((-1)))) M) : Cn X (d + 3) mc ms kX8_found [.ref a0, .int (x1), .int (x2)] M Q := by
  refine g_meth rfl rfl (Nat.le_of_ble_eq_true rfl) rfl ?_
  refine g_aload_n 0 1 dX8_found_0 rfl rfl ?_
  refine g_getR 4 (a0 + 1) dX8_found_1 rfl flX8_14 s0.1 s0.2.1 ?_
  refine g_getR 7 ((a0 + 1) + 1) dX8_found_4 rfl flX8_102 s0.2.2.1.1 s0.2.2.1.2.1 ?_
  refine g_getR 10 (((a0 + 1) + 1) + 3) dX8_found_7 rfl flX8_250 s0.2.2.1.2.2.1.1 s0.2.2.1.2.2.1.2.2.2.2.2.1 ?_
  refine g_astore_n 11 [(3, .ref (((a0 + 1) + 1) + 3)), (0, .ref a0), (1, .int (x1)), (2, .int (x2))] dX8_found_10 rfl (Nat.le_of_ble_eq_true rfl) rfl ?_
  refine g_aload_n 0 12 dX8_found_11 rfl rfl ?_
  refine g_getI 15 dX8_found_12 rfl flX8_254 s0.2.2.1.2.2.1.2.2.2.2.2.2.1 ?_
  refine g_if_eq 25 18 dX8_found_15 rfl rfl (fun c1 => ?_) (fun c1 => ?_)
  · skip
    refine g_iconst ((-1)) 26 dX8_found_25 rfl rfl ?_
    exact g_iret dX8_found_26 rfl (Nat.zero_le _) (Nat.zero_le _) (h1 c1)
  · skip
    refine g_iload_n 2 19 dX8_found_18 rfl rfl ?_
    refine g_callS (mc1 := 0) (ms1 := 0) (rest := []) (av := [.int (x1)]) kX8_isKey 22 dX8_found_19 rfl rfl mbX8_98 smX8_isKey (Nat.le_of_ble_eq_true rfl) (Nat.zero_le _) (Nat.zero_le _) (tX8_isKey  ?_)
    show Go X (d + 3) mc ms kX8_found Q 22 [(3, .ref (((a0 + 1) + 1) + 3)), (0, .ref a0), (1, .int (x1)), (2, .int (x2))] [.int ((fX8_isKey x1))] M 0 0
    refine g_if_ne 27 25 dX8_found_22 rfl rfl (fun c2 => ?_) (fun c2 => ?_)
    · skip
      refine g_iload_n 3 28 dX8_found_27 rfl rfl ?_
      by_cases c3 : x2 = 0
      · refine h_tabIn (0) 56 dX8_found_28 c3 (by decide) (by decide) rfl rfl ?_
        refine g_aload_n 0 57 dX8_found_56 rfl rfl ?_
        refine g_iload_n 2 58 dX8_found_57 rfl rfl ?_
        refine g_callV (mc1 := 0) (ms1 := 0) (b := (((a0 + 1) + 1) + 3)) (rest := []) (av := [.int (x1)]) kX5_ownVertex 61 dX8_found_58 rfl rfl mbX8_260 imX5_ownVertex seX5_ownVertex gcl5.1 s0.2.2.1.2.2.1.2.2.2.2.2.2.1 (Nat.le_of_ble_eq_true rfl) (Nat.zero_le _) (Nat.zero_le _) (tX5_ownVertex (N := N) s0.2.2.1.2.2.1.2.2.2.2.2.2 (b2 c1 c2 c3) ?_)
        show Go X (d + 3) mc ms kX8_found Q 61 [(3, .ref (((a0 + 1) + 1) + 3)), (0, .ref a0), (1, .int (x1)), (2, .int (x2))] [.int ((fX5_ownVertex N M (((a0 + 1) + 1) + 3) x1))] M 0 0
        exact g_iret dX8_found_61 rfl (Nat.zero_le _) (Nat.zero_le _) (h3 c1 c2 c3)
      by_cases c4 : x2 = 1
      · refine h_tabIn (1) 62 dX8_found_28 c4 (by decide) (by decide) rfl rfl ?_
        refine g_aload_n 0 63 dX8_found_62 rfl rfl ?_
        refine g_iload_n 2 64 dX8_found_63 rfl rfl ?_
        refine g_callV (mc1 := 0) (ms1 := 0) (b := (((a0 + 1) + 1) + 3)) (rest := []) (av := [.int (x1)]) kX5_numberOf 67 dX8_found_64 rfl rfl mbX8_263 imX5_numberOf seX5_numberOf gcl5.1 s0.2.2.1.2.2.1.2.2.2.2.2.2.1 (Nat.le_of_ble_eq_true rfl) (Nat.zero_le _) (Nat.zero_le _) (tX5_numberOf (N := N) s0.2.2.1.2.2.1.2.2.2.2.2.2 (b4 c1 c2 c3 c4) ?_)
        show Go X (d + 3) mc ms kX8_found Q 67 [(3, .ref (((a0 + 1) + 1) + 3)), (0, .ref a0), (1, .int (x1)), (2, .int (x2))] [.int ((fX5_numberOf N M (((a0 + 1) + 1) + 3) x1))] M 0 0
        exact g_iret dX8_found_67 rfl (Nat.zero_le _) (Nat.zero_le _) (h5 c1 c2 c3 c4)
      by_cases c5 : x2 = 2
      · refine h_tabIn (2) 68 dX8_found_28 c5 (by decide) (by decide) rfl rfl ?_
        refine g_aload_n 0 69 dX8_found_68 rfl rfl ?_
        refine g_iload_n 2 70 dX8_found_69 rfl rfl ?_
        refine g_callV (mc1 := 0) (ms1 := 0) (b := (((a0 + 1) + 1) + 3)) (rest := []) (av := [.int (x1)]) kX5_placeOf 73 dX8_found_70 rfl rfl mbX8_266 imX5_placeOf seX5_placeOf gcl5.1 s0.2.2.1.2.2.1.2.2.2.2.2.2.1 (Nat.le_of_ble_eq_true rfl) (Nat.zero_le _) (Nat.zero_le _) (tX5_placeOf (N := N) s0.2.2.1.2.2.1.2.2.2.2.2.2 (b6 c1 c2 c3 c4 c5) ?_)
        show Go X (d + 3) mc ms kX8_found Q 73 [(3, .ref (((a0 + 1) + 1) + 3)), (0, .ref a0), (1, .int (x1)), (2, .int (x2))] [.int ((fX5_placeOf N M (((a0 + 1) + 1) + 3) x1))] M 0 0
        exact g_iret dX8_found_73 rfl (Nat.zero_le _) (Nat.zero_le _) (h7 c1 c2 c3 c4 c5)
      have tc3 := i_neT c3
      have tc4 := i_neT c4
      have tc5 := i_neT c5
      rw [show ((0 : Int32)).toInt = 0 from rfl] at tc3
      rw [show ((1 : Int32)).toInt = 1 from rfl] at tc4
      rw [show ((2 : Int32)).toInt = 2 from rfl] at tc5
      refine g_tableOut 74 dX8_found_28 (by omega) rfl ?_
      refine g_iconst ((-1)) 75 dX8_found_74 rfl rfl ?_
      exact g_iret dX8_found_75 rfl (Nat.zero_le _) (Nat.zero_le _) (h8 c1 c2 c3 c4 c5)
    · skip
      refine g_iconst ((-1)) 26 dX8_found_25 rfl rfl ?_
      exact g_iret dX8_found_26 rfl (Nat.zero_le _) (Nat.zero_le _) (h9 c1 c2)

def fX8_found (N : Nat) (M : gM) (a0 : Nat) (x1 : Int32) (x2 : Int32) : Int32 := (if (g_mi M (((a0 + 1) + 1) + 3) 3) = 0 then (-1) else (if (fX8_isKey x1) = 0 then (-1) else (if x2 = 0 then (fX5_ownVertex N M (((a0 + 1) + 1) + 3) x1) else (if x2 = 1 then (fX5_numberOf N M (((a0 + 1) + 1) + 3) x1) else (if x2 = 2 then (fX5_placeOf N M (((a0 + 1) + 1) + 3) x1) else (-1))))))
def EX8_found (N : Nat) (M : gM) (a0 : Nat) (x1 : Int32) (x2 : Int32) : Prop := ((¬ (g_mi M (((a0 + 1) + 1) + 3) 3) = 0) → (¬ (fX8_isKey x1) = 0) → (x2 = 0) → EX5_ownVertex N M (((a0 + 1) + 1) + 3) x1) ∧ ((¬ (g_mi M (((a0 + 1) + 1) + 3) 3) = 0) → (¬ (fX8_isKey x1) = 0) → (¬ x2 = 0) → (x2 = 1) → EX5_numberOf N M (((a0 + 1) + 1) + 3) x1) ∧ ((¬ (g_mi M (((a0 + 1) + 1) + 3) 3) = 0) → (¬ (fX8_isKey x1) = 0) → (¬ x2 = 0) → (¬ x2 = 1) → (x2 = 2) → EX5_placeOf N M (((a0 + 1) + 1) + 3) x1)
theorem tX8_found {N : Nat} {X : gX} {d mc ms : Nat} {Q : Option Value → gM → Prop} {M : gM} {a0 : Nat} {x1 : Int32} {x2 : Int32} (s0 : Ph M a0) (hE : EX8_found N M a0 x1 x2) (hQ : Q (some (.int (fX8_found N M a0 x1 x2))) M) : Cn X (d + 3) mc ms kX8_found [.ref a0, .int (x1), .int (x2)] M Q := by
  unfold fX8_found at hQ
  obtain ⟨b2, b4, b6⟩ := hE
  exact sX8_found_0 s0 (fun c1 => by simp only [if_pos c1] at hQ; exact hQ) b2 (fun c1 c2 c3 => by simp only [if_neg c1, if_neg c2, if_pos c3] at hQ; exact hQ) b4 (fun c1 c2 c3 c4 => by simp only [if_neg c1, if_neg c2, if_neg c3, if_pos c4] at hQ; exact hQ) b6 (fun c1 c2 c3 c4 c5 => by simp only [if_neg c1, if_neg c2, if_neg c3, if_neg c4, if_pos c5] at hQ; exact hQ) (fun c1 c2 c3 c4 c5 => by simp only [if_neg c1, if_neg c2, if_neg c3, if_neg c4, if_neg c5] at hQ; exact hQ) (fun c1 c2 => by simp only [if_neg c1, if_pos c2] at hQ; exact hQ)
/-! X8_table  -/
set_option maxRecDepth 4000 in
theorem sX8_table_0 {N : Nat} {X : gX} {d mc ms : Nat} {Q : Option Value → gM → Prop} {M : gM} {a0 : Nat} {x1 : Int32} (s0 : Ph M a0) (h1 : ((g_mi M (((a0 + 1) + 1) + 3) 3) = 0) → Q (some (.int ((-1)))) M) (h2 : (¬ (g_mi M (((a0 + 1) + 1) + 3) 3) = 0) → (0 ≤ x1) → (x1 = 0) → Q (some (.int ((g_mi M (((a0 + 1) + 1) + 3) 5)))) M) (h3 : (¬ (g_mi M (((a0 + 1) + 1) + 3) 3) = 0) → (0 ≤ x1) → (¬ x1 = 0) → (x1 = 1) → Q (some (.int ((g_mi M (((a0 + 1) + 1) + 3) 6)))) M) (h4 : (¬ (g_mi M (((a0 + 1) + 1) + 3) 3) = 0) → (0 ≤ x1) → (¬ x1 = 0) → (¬ x1 = 1) → (x1 = 2) → Q (some (.int ((g_mi M (((a0 + 1) + 1) + 3) 4)))) M) (b5 : (¬ (g_mi M (((a0 + 1) + 1) + 3) 3) = 0) → (0 ≤ x1) → (¬ x1 = 0) → (¬ x1 = 1) → (¬ x1 = 2) → (x1 = 3) → EX5_signsBelow N M (((a0 + 1) + 1) + 3) 60) (h6 : (¬ (g_mi M (((a0 + 1) + 1) + 3) 3) = 0) → (0 ≤ x1) → (¬ x1 = 0) → (¬ x1 = 1) → (¬ x1 = 2) → (x1 = 3) → Q (some (.int ((fX5_signsBelow N M (((a0 + 1) + 1) + 3) 60)))) M) (b7 : (¬ (g_mi M (((a0 + 1) + 1) + 3) 3) = 0) → (0 ≤ x1) → (¬ x1 = 0) → (¬ x1 = 1) → (¬ x1 = 2) → (¬ x1 = 3) → (64 ≤ x1) → EX5_packed N M (((a0 + 1) + 1) + 3) ((x1 - 4) - 60)) (h8 : (¬ (g_mi M (((a0 + 1) + 1) + 3) 3) = 0) → (0 ≤ x1) → (¬ x1 = 0) → (¬ x1 = 1) → (¬ x1 = 2) → (¬ x1 = 3) → (64 ≤ x1) → Q (some (.int ((fX5_packed N M (((a0 + 1) + 1) + 3) ((x1 - 4) - 60))))) M) (b9 : (¬ (g_mi M (((a0 + 1) + 1) + 3) 3) = 0) → (0 ≤ x1) → (¬ x1 = 0) → (¬ x1 = 1) → (¬ x1 = 2) → (¬ x1 = 3) → (¬ 64 ≤ x1) → EX5_signAt M (((a0 + 1) + 1) + 3) (x1 - 4)) (h10 : (¬ (g_mi M (((a0 + 1) + 1) + 3) 3) = 0) → (0 ≤ x1) → (¬ x1 = 0) → (¬ x1 = 1) → (¬ x1 = 2) → (¬ x1 = 3) → (¬ 64 ≤ x1) → Q (some (.int ((fX5_signAt M (((a0 + 1) + 1) + 3) (x1 - 4))))) M) (h11 : (¬ (g_mi M (((a0 + 1) + 1) + 3) 3) = 0) → (¬ 0 ≤ x1) → Q (some (.int ((-1)))) M) : Cn X (d + 2) mc ms kX8_table [.ref a0, .int (x1)] M Q := by
  refine g_meth rfl rfl (Nat.le_of_ble_eq_true rfl) rfl ?_
  refine g_aload_n 0 1 dX8_table_0 rfl rfl ?_
  refine g_getR 4 (a0 + 1) dX8_table_1 rfl flX8_14 s0.1 s0.2.1 ?_
  refine g_getR 7 ((a0 + 1) + 1) dX8_table_4 rfl flX8_102 s0.2.2.1.1 s0.2.2.1.2.1 ?_
  refine g_getR 10 (((a0 + 1) + 1) + 3) dX8_table_7 rfl flX8_250 s0.2.2.1.2.2.1.1 s0.2.2.1.2.2.1.2.2.2.2.2.1 ?_
  refine g_astore_n 11 [(2, .ref (((a0 + 1) + 1) + 3)), (0, .ref a0), (1, .int (x1))] dX8_table_10 rfl (Nat.le_of_ble_eq_true rfl) rfl ?_
  refine g_aload_n 0 12 dX8_table_11 rfl rfl ?_
  refine g_getI 15 dX8_table_12 rfl flX8_254 s0.2.2.1.2.2.1.2.2.2.2.2.2.1 ?_
  refine g_if_eq 22 18 dX8_table_15 rfl rfl (fun c1 => ?_) (fun c1 => ?_)
  · skip
    refine g_iconst ((-1)) 23 dX8_table_22 rfl rfl ?_
    exact g_iret dX8_table_23 rfl (Nat.zero_le _) (Nat.zero_le _) (h1 c1)
  · skip
    refine g_iload_n 2 19 dX8_table_18 rfl rfl ?_
    refine g_if_ge 24 22 dX8_table_19 rfl rfl (fun c2 => ?_) (fun c2 => ?_)
    · skip
      refine g_iload_n 2 25 dX8_table_24 rfl rfl ?_
      by_cases c3 : x1 = 0
      · refine h_tabIn (0) 56 dX8_table_25 c3 (by decide) (by decide) rfl rfl ?_
        refine g_aload_n 0 57 dX8_table_56 rfl rfl ?_
        refine g_getI 60 dX8_table_57 rfl flX8_269 s0.2.2.1.2.2.1.2.2.2.2.2.2.1 ?_
        exact g_iret dX8_table_60 rfl (Nat.zero_le _) (Nat.zero_le _) (h2 c1 c2 c3)
      by_cases c4 : x1 = 1
      · refine h_tabIn (1) 61 dX8_table_25 c4 (by decide) (by decide) rfl rfl ?_
        refine g_aload_n 0 62 dX8_table_61 rfl rfl ?_
        refine g_getI 65 dX8_table_62 rfl flX8_270 s0.2.2.1.2.2.1.2.2.2.2.2.2.1 ?_
        exact g_iret dX8_table_65 rfl (Nat.zero_le _) (Nat.zero_le _) (h3 c1 c2 c3 c4)
      by_cases c5 : x1 = 2
      · refine h_tabIn (2) 66 dX8_table_25 c5 (by decide) (by decide) rfl rfl ?_
        refine g_aload_n 0 67 dX8_table_66 rfl rfl ?_
        refine g_getI 70 dX8_table_67 rfl flX8_271 s0.2.2.1.2.2.1.2.2.2.2.2.2.1 ?_
        exact g_iret dX8_table_70 rfl (Nat.zero_le _) (Nat.zero_le _) (h4 c1 c2 c3 c4 c5)
      by_cases c6 : x1 = 3
      · refine h_tabIn (3) 71 dX8_table_25 c6 (by decide) (by decide) rfl rfl ?_
        refine g_aload_n 0 72 dX8_table_71 rfl rfl ?_
        refine g_bipush (60) 74 dX8_table_72 rfl rfl ?_
        refine g_callV (mc1 := 0) (ms1 := 0) (b := (((a0 + 1) + 1) + 3)) (rest := []) (av := [.int (60)]) kX5_signsBelow 77 dX8_table_74 rfl rfl mbX8_272 imX5_signsBelow seX5_signsBelow gcl5.1 s0.2.2.1.2.2.1.2.2.2.2.2.2.1 (Nat.le_of_ble_eq_true rfl) (Nat.zero_le _) (Nat.zero_le _) (tX5_signsBelow (N := N) s0.2.2.1.2.2.1.2.2.2.2.2.2 (b5 c1 c2 c3 c4 c5 c6) ?_)
        show Go X (d + 2) mc ms kX8_table Q 77 [(2, .ref (((a0 + 1) + 1) + 3)), (0, .ref a0), (1, .int (x1))] [.int ((fX5_signsBelow N M (((a0 + 1) + 1) + 3) 60))] M 0 0
        exact g_iret dX8_table_77 rfl (Nat.zero_le _) (Nat.zero_le _) (h6 c1 c2 c3 c4 c5 c6)
      have tc3 := i_neT c3
      have tc4 := i_neT c4
      have tc5 := i_neT c5
      have tc6 := i_neT c6
      rw [show ((0 : Int32)).toInt = 0 from rfl] at tc3
      rw [show ((1 : Int32)).toInt = 1 from rfl] at tc4
      rw [show ((2 : Int32)).toInt = 2 from rfl] at tc5
      rw [show ((3 : Int32)).toInt = 3 from rfl] at tc6
      refine g_tableOut 78 dX8_table_25 (by omega) rfl ?_
      refine g_iload_n 2 79 dX8_table_78 rfl rfl ?_
      refine g_bipush (64) 81 dX8_table_79 rfl rfl ?_
      refine g_icmp_ge 94 84 dX8_table_81 rfl rfl (fun c7 => ?_) (fun c7 => ?_)
      · skip
        refine g_aload_n 0 95 dX8_table_94 rfl rfl ?_
        refine g_iload_n 2 96 dX8_table_95 rfl rfl ?_
        refine g_iconst (4) 97 dX8_table_96 rfl rfl ?_
        refine g_isub 98 dX8_table_97 rfl ?_
        refine g_bipush (60) 100 dX8_table_98 rfl rfl ?_
        refine g_isub 101 dX8_table_100 rfl ?_
        refine g_callV (mc1 := 0) (ms1 := 0) (b := (((a0 + 1) + 1) + 3)) (rest := []) (av := [.int (((x1 - 4) - 60))]) kX5_packed 104 dX8_table_101 rfl rfl mbX8_278 imX5_packed seX5_packed gcl5.1 s0.2.2.1.2.2.1.2.2.2.2.2.2.1 (Nat.le_of_ble_eq_true rfl) (Nat.zero_le _) (Nat.zero_le _) (tX5_packed (N := N) s0.2.2.1.2.2.1.2.2.2.2.2.2 (b7 c1 c2 c3 c4 c5 c6 c7) ?_)
        show Go X (d + 2) mc ms kX8_table Q 104 [(2, .ref (((a0 + 1) + 1) + 3)), (0, .ref a0), (1, .int (x1))] [.int ((fX5_packed N M (((a0 + 1) + 1) + 3) ((x1 - 4) - 60)))] M 0 0
        exact g_iret dX8_table_104 rfl (Nat.zero_le _) (Nat.zero_le _) (h8 c1 c2 c3 c4 c5 c6 c7)
      · skip
        refine g_aload_n 0 85 dX8_table_84 rfl rfl ?_
        refine g_iload_n 2 86 dX8_table_85 rfl rfl ?_
        refine g_iconst (4) 87 dX8_table_86 rfl rfl ?_
        refine g_isub 88 dX8_table_87 rfl ?_
        refine g_callV (mc1 := 0) (ms1 := 0) (b := (((a0 + 1) + 1) + 3)) (rest := []) (av := [.int ((x1 - 4))]) kX5_signAt 91 dX8_table_88 rfl rfl mbX8_275 imX5_signAt seX5_signAt gcl5.1 s0.2.2.1.2.2.1.2.2.2.2.2.2.1 (Nat.le_of_ble_eq_true rfl) (Nat.zero_le _) (Nat.zero_le _) (tX5_signAt s0.2.2.1.2.2.1.2.2.2.2.2.2 (b9 c1 c2 c3 c4 c5 c6 c7) ?_)
        show Go X (d + 2) mc ms kX8_table Q 91 [(2, .ref (((a0 + 1) + 1) + 3)), (0, .ref a0), (1, .int (x1))] [.int ((fX5_signAt M (((a0 + 1) + 1) + 3) (x1 - 4)))] M 0 0
        refine g_goto 104 dX8_table_91 rfl ?_
        exact g_iret dX8_table_104 rfl (Nat.zero_le _) (Nat.zero_le _) (h10 c1 c2 c3 c4 c5 c6 c7)
    · skip
      refine g_iconst ((-1)) 23 dX8_table_22 rfl rfl ?_
      exact g_iret dX8_table_23 rfl (Nat.zero_le _) (Nat.zero_le _) (h11 c1 c2)

def fX8_table (N : Nat) (M : gM) (a0 : Nat) (x1 : Int32) : Int32 := (if (g_mi M (((a0 + 1) + 1) + 3) 3) = 0 then (-1) else (if 0 ≤ x1 then (if x1 = 0 then (g_mi M (((a0 + 1) + 1) + 3) 5) else (if x1 = 1 then (g_mi M (((a0 + 1) + 1) + 3) 6) else (if x1 = 2 then (g_mi M (((a0 + 1) + 1) + 3) 4) else (if x1 = 3 then (fX5_signsBelow N M (((a0 + 1) + 1) + 3) 60) else (if 64 ≤ x1 then (fX5_packed N M (((a0 + 1) + 1) + 3) ((x1 - 4) - 60)) else (fX5_signAt M (((a0 + 1) + 1) + 3) (x1 - 4))))))) else (-1)))
def EX8_table (N : Nat) (M : gM) (a0 : Nat) (x1 : Int32) : Prop := ((¬ (g_mi M (((a0 + 1) + 1) + 3) 3) = 0) → (0 ≤ x1) → (¬ x1 = 0) → (¬ x1 = 1) → (¬ x1 = 2) → (x1 = 3) → EX5_signsBelow N M (((a0 + 1) + 1) + 3) 60) ∧ ((¬ (g_mi M (((a0 + 1) + 1) + 3) 3) = 0) → (0 ≤ x1) → (¬ x1 = 0) → (¬ x1 = 1) → (¬ x1 = 2) → (¬ x1 = 3) → (64 ≤ x1) → EX5_packed N M (((a0 + 1) + 1) + 3) ((x1 - 4) - 60)) ∧ ((¬ (g_mi M (((a0 + 1) + 1) + 3) 3) = 0) → (0 ≤ x1) → (¬ x1 = 0) → (¬ x1 = 1) → (¬ x1 = 2) → (¬ x1 = 3) → (¬ 64 ≤ x1) → EX5_signAt M (((a0 + 1) + 1) + 3) (x1 - 4))
theorem tX8_table {N : Nat} {X : gX} {d mc ms : Nat} {Q : Option Value → gM → Prop} {M : gM} {a0 : Nat} {x1 : Int32} (s0 : Ph M a0) (hE : EX8_table N M a0 x1) (hQ : Q (some (.int (fX8_table N M a0 x1))) M) : Cn X (d + 2) mc ms kX8_table [.ref a0, .int (x1)] M Q := by
  unfold fX8_table at hQ
  obtain ⟨b5, b7, b9⟩ := hE
  exact sX8_table_0 s0 (fun c1 => by simp only [if_pos c1] at hQ; exact hQ) (fun c1 c2 c3 => by simp only [if_neg c1, if_pos c2, if_pos c3] at hQ; exact hQ) (fun c1 c2 c3 c4 => by simp only [if_neg c1, if_pos c2, if_neg c3, if_pos c4] at hQ; exact hQ) (fun c1 c2 c3 c4 c5 => by simp only [if_neg c1, if_pos c2, if_neg c3, if_neg c4, if_pos c5] at hQ; exact hQ) b5 (fun c1 c2 c3 c4 c5 c6 => by simp only [if_neg c1, if_pos c2, if_neg c3, if_neg c4, if_neg c5, if_pos c6] at hQ; exact hQ) b7 (fun c1 c2 c3 c4 c5 c6 c7 => by simp only [if_neg c1, if_pos c2, if_neg c3, if_neg c4, if_neg c5, if_neg c6, if_pos c7] at hQ; exact hQ) b9 (fun c1 c2 c3 c4 c5 c6 c7 => by simp only [if_neg c1, if_pos c2, if_neg c3, if_neg c4, if_neg c5, if_neg c6, if_neg c7] at hQ; exact hQ) (fun c1 c2 => by simp only [if_neg c1, if_neg c2] at hQ; exact hQ)
/-! X8_twin  -/
set_option maxRecDepth 4000 in
theorem sX8_twin_0 {N : Nat} {X : gX} {d mc ms : Nat} {Q : Option Value → gM → Prop} {M : gM} {a0 : Nat} {x1 : Int32} (s0 : Ph M a0) (h1 : ((g_mi M (((a0 + 1) + 1) + 3) 3) = 0) → Q (some (.int ((-1)))) M) (h2 : (¬ (g_mi M (((a0 + 1) + 1) + 3) 3) = 0) → ((fX8_isKey x1) = 0) → Q (some (.int ((-1)))) M) (b3 : (¬ (g_mi M (((a0 + 1) + 1) + 3) 3) = 0) → (¬ (fX8_isKey x1) = 0) → EX5_hadKey N M (((a0 + 1) + 1) + 3) x1) (b4 : (¬ (g_mi M (((a0 + 1) + 1) + 3) 3) = 0) → (¬ (fX8_isKey x1) = 0) → ((fX5_hadKey N M (((a0 + 1) + 1) + 3) x1) = 0) → EX5_numberOf N M (((a0 + 1) + 1) + 3) x1) (h5 : (¬ (g_mi M (((a0 + 1) + 1) + 3) 3) = 0) → (¬ (fX8_isKey x1) = 0) → ((fX5_hadKey N M (((a0 + 1) + 1) + 3) x1) = 0) → Go X (d + 3) mc ms kX8_twin Q 44 [(2, .ref (((a0 + 1) + 1) + 3)), (3, .int ((fX5_numberOf N M (((a0 + 1) + 1) + 3) x1))), (4, .int (0))] [] M 0 0) (h6 : (¬ (g_mi M (((a0 + 1) + 1) + 3) 3) = 0) → (¬ (fX8_isKey x1) = 0) → (¬ (fX5_hadKey N M (((a0 + 1) + 1) + 3) x1) = 0) → Q (some (.int ((-1)))) M) : Cn X (d + 3) mc ms kX8_twin [.ref a0, .int (x1)] M Q := by
  refine g_meth rfl rfl (Nat.le_of_ble_eq_true rfl) rfl ?_
  refine g_aload_n 0 1 dX8_twin_0 rfl rfl ?_
  refine g_getR 4 (a0 + 1) dX8_twin_1 rfl flX8_14 s0.1 s0.2.1 ?_
  refine g_getR 7 ((a0 + 1) + 1) dX8_twin_4 rfl flX8_102 s0.2.2.1.1 s0.2.2.1.2.1 ?_
  refine g_getR 10 (((a0 + 1) + 1) + 3) dX8_twin_7 rfl flX8_250 s0.2.2.1.2.2.1.1 s0.2.2.1.2.2.1.2.2.2.2.2.1 ?_
  refine g_astore_n 11 [(2, .ref (((a0 + 1) + 1) + 3)), (0, .ref a0), (1, .int (x1))] dX8_twin_10 rfl (Nat.le_of_ble_eq_true rfl) rfl ?_
  refine g_aload_n 0 12 dX8_twin_11 rfl rfl ?_
  refine g_getI 15 dX8_twin_12 rfl flX8_254 s0.2.2.1.2.2.1.2.2.2.2.2.2.1 ?_
  refine g_if_eq 33 18 dX8_twin_15 rfl rfl (fun c1 => ?_) (fun c1 => ?_)
  · skip
    refine g_iconst ((-1)) 34 dX8_twin_33 rfl rfl ?_
    exact g_iret dX8_twin_34 rfl (Nat.zero_le _) (Nat.zero_le _) (h1 c1)
  · skip
    refine g_iload_n 2 19 dX8_twin_18 rfl rfl ?_
    refine g_callS (mc1 := 0) (ms1 := 0) (rest := []) (av := [.int (x1)]) kX8_isKey 22 dX8_twin_19 rfl rfl mbX8_98 smX8_isKey (Nat.le_of_ble_eq_true rfl) (Nat.zero_le _) (Nat.zero_le _) (tX8_isKey  ?_)
    show Go X (d + 3) mc ms kX8_twin Q 22 [(2, .ref (((a0 + 1) + 1) + 3)), (0, .ref a0), (1, .int (x1))] [.int ((fX8_isKey x1))] M 0 0
    refine g_if_eq 33 25 dX8_twin_22 rfl rfl (fun c2 => ?_) (fun c2 => ?_)
    · skip
      refine g_iconst ((-1)) 34 dX8_twin_33 rfl rfl ?_
      exact g_iret dX8_twin_34 rfl (Nat.zero_le _) (Nat.zero_le _) (h2 c1 c2)
    · skip
      refine g_aload_n 0 26 dX8_twin_25 rfl rfl ?_
      refine g_iload_n 2 27 dX8_twin_26 rfl rfl ?_
      refine g_callV (mc1 := 0) (ms1 := 0) (b := (((a0 + 1) + 1) + 3)) (rest := []) (av := [.int (x1)]) kX5_hadKey 30 dX8_twin_27 rfl rfl mbX8_281 imX5_hadKey seX5_hadKey gcl5.1 s0.2.2.1.2.2.1.2.2.2.2.2.2.1 (Nat.le_of_ble_eq_true rfl) (Nat.zero_le _) (Nat.zero_le _) (tX5_hadKey (N := N) s0.2.2.1.2.2.1.2.2.2.2.2.2 (b3 c1 c2) ?_)
      show Go X (d + 3) mc ms kX8_twin Q 30 [(2, .ref (((a0 + 1) + 1) + 3)), (0, .ref a0), (1, .int (x1))] [.int ((fX5_hadKey N M (((a0 + 1) + 1) + 3) x1))] M 0 0
      refine g_if_eq 35 33 dX8_twin_30 rfl rfl (fun c3 => ?_) (fun c3 => ?_)
      · skip
        refine g_aload_n 0 36 dX8_twin_35 rfl rfl ?_
        refine g_iload_n 2 37 dX8_twin_36 rfl rfl ?_
        refine g_callV (mc1 := 0) (ms1 := 0) (b := (((a0 + 1) + 1) + 3)) (rest := []) (av := [.int (x1)]) kX5_numberOf 40 dX8_twin_37 rfl rfl mbX8_263 imX5_numberOf seX5_numberOf gcl5.1 s0.2.2.1.2.2.1.2.2.2.2.2.2.1 (Nat.le_of_ble_eq_true rfl) (Nat.zero_le _) (Nat.zero_le _) (tX5_numberOf (N := N) s0.2.2.1.2.2.1.2.2.2.2.2.2 (b4 c1 c2 c3) ?_)
        show Go X (d + 3) mc ms kX8_twin Q 40 [(2, .ref (((a0 + 1) + 1) + 3)), (0, .ref a0), (1, .int (x1))] [.int ((fX5_numberOf N M (((a0 + 1) + 1) + 3) x1))] M 0 0
        refine g_istore_n 41 [(3, .int ((fX5_numberOf N M (((a0 + 1) + 1) + 3) x1))), (2, .ref (((a0 + 1) + 1) + 3)), (0, .ref a0), (1, .int (x1))] dX8_twin_40 rfl (Nat.le_of_ble_eq_true rfl) rfl ?_
        refine g_iconst (0) 42 dX8_twin_41 rfl rfl ?_
        refine g_istore 44 [(4, .int (0)), (3, .int ((fX5_numberOf N M (((a0 + 1) + 1) + 3) x1))), (2, .ref (((a0 + 1) + 1) + 3)), (0, .ref a0), (1, .int (x1))] dX8_twin_42 rfl (Nat.le_of_ble_eq_true rfl) rfl ?_
        exact g_sub [2, 1, 0] _ rfl (h5 c1 c2 c3)
      · skip
        refine g_iconst ((-1)) 34 dX8_twin_33 rfl rfl ?_
        exact g_iret dX8_twin_34 rfl (Nat.zero_le _) (Nat.zero_le _) (h6 c1 c2 c3)

set_option maxRecDepth 4000 in
theorem sX8_twin_44 {N : Nat} {X : gX} {d mc ms : Nat} {Q : Option Value → gM → Prop} {M : gM} {c z : Nat} {a2 : Nat} {x3 : Int32} {x4 : Int32} (s2 : Tb M a2) (h1 : ((g_mi M a2 4) ≤ x4) → Q (some (.int ((-1)))) M) (w2 : c ≤ mc) (w3 : z ≤ ms) (b4 : (¬ (g_mi M a2 4) ≤ x4) → vp_in (x4) 30) (b5 : (¬ (g_mi M a2 4) ≤ x4) → EX5_numberOf N M a2 (g_mi M (a2 + 1) (x4).toNatClampNeg)) (h6 : (¬ (g_mi M a2 4) ≤ x4) → (¬ (fX5_numberOf N M a2 (g_mi M (a2 + 1) (x4).toNatClampNeg)) = x3) → Go X (d + 3) mc ms kX8_twin Q 44 [(2, .ref a2), (3, .int (x3)), (4, .int ((x4 + 1)))] [] M c z) (b7 : (¬ (g_mi M a2 4) ≤ x4) → ((fX5_numberOf N M a2 (g_mi M (a2 + 1) (x4).toNatClampNeg)) = x3) → vp_in (x4) 30) (h8 : (¬ (g_mi M a2 4) ≤ x4) → ((fX5_numberOf N M a2 (g_mi M (a2 + 1) (x4).toNatClampNeg)) = x3) → Q (some (.int ((g_mi M (a2 + 1) (x4).toNatClampNeg)))) M) : Go X (d + 3) mc ms kX8_twin Q 44 [(2, .ref a2), (3, .int (x3)), (4, .int (x4))] [] M c z := by
  refine g_iload 2 46 dX8_twin_44 rfl rfl ?_
  refine g_aload_n 0 47 dX8_twin_46 rfl rfl ?_
  refine g_getI 50 dX8_twin_47 rfl flX8_271 s2.1 ?_
  refine g_icmp_ge 82 53 dX8_twin_50 rfl rfl (fun c1 => ?_) (fun c1 => ?_)
  · skip
    refine g_iconst ((-1)) 83 dX8_twin_82 rfl rfl ?_
    exact g_iret dX8_twin_83 rfl (w2) (w3) (h1 c1)
  · skip
    refine g_aload_n 0 54 dX8_twin_53 rfl rfl ?_
    refine g_aload_n 0 55 dX8_twin_54 rfl rfl ?_
    refine g_getR 58 (a2 + 1) dX8_twin_55 rfl flX8_284 s2.1 s2.2.1 ?_
    refine g_iload 2 60 dX8_twin_58 rfl rfl ?_
    refine h_iaload 61 (x4).toNatClampNeg dX8_twin_60 rfl rfl s2.2.2.1 (b4 c1) ?_
    refine g_callV (mc1 := 0) (ms1 := 0) (b := a2) (rest := []) (av := [.int ((g_mi M (a2 + 1) (x4).toNatClampNeg))]) kX5_numberOf 64 dX8_twin_61 rfl rfl mbX8_263 imX5_numberOf seX5_numberOf gcl5.1 s2.1 (Nat.le_of_ble_eq_true rfl) (w2) (w3) (tX5_numberOf (N := N) s2 (b5 c1) ?_)
    show Go X (d + 3) mc ms kX8_twin Q 64 [(2, .ref a2), (3, .int (x3)), (4, .int (x4))] [.int ((fX5_numberOf N M a2 (g_mi M (a2 + 1) (x4).toNatClampNeg)))] M c z
    refine g_iload_n 1 65 dX8_twin_64 rfl rfl ?_
    refine g_icmp_ne 76 68 dX8_twin_65 rfl rfl (fun c2 => ?_) (fun c2 => ?_)
    · skip
      refine g_iinc _ 2 79 [(4, .int ((x4 + 1))), (2, .ref a2), (3, .int (x3))] dX8_twin_76 rfl rfl rfl (Nat.le_of_ble_eq_true rfl) rfl ?_
      refine g_goto 44 dX8_twin_79 rfl ?_
      exact g_sub [1, 2, 0] _ rfl (h6 c1 c2)
    · skip
      refine g_aload_n 0 69 dX8_twin_68 rfl rfl ?_
      refine g_getR 72 (a2 + 1) dX8_twin_69 rfl flX8_284 s2.1 s2.2.1 ?_
      refine g_iload 2 74 dX8_twin_72 rfl rfl ?_
      refine h_iaload 75 (x4).toNatClampNeg dX8_twin_74 rfl rfl s2.2.2.1 (b7 c1 c2) ?_
      exact g_iret dX8_twin_75 rfl (w2) (w3) (h8 c1 c2)

def bX8_twin_0 (N : Nat) (M : gM) (a0 : Nat) (x1 : Int32) (k : Nat → Nat → Int32 → Int32 → Int32) : Int32 := (if (g_mi M (((a0 + 1) + 1) + 3) 3) = 0 then (-1) else (if (fX8_isKey x1) = 0 then (-1) else (if (fX5_hadKey N M (((a0 + 1) + 1) + 3) x1) = 0 then (k 0 (((a0 + 1) + 1) + 3) (fX5_numberOf N M (((a0 + 1) + 1) + 3) x1) 0) else (-1))))
def eX8_twin_0 (N : Nat) (M : gM) (a0 : Nat) (x1 : Int32) (k : Nat → Nat → Int32 → Int32 → Prop) : Prop := ((¬ (g_mi M (((a0 + 1) + 1) + 3) 3) = 0) → (¬ (fX8_isKey x1) = 0) → EX5_hadKey N M (((a0 + 1) + 1) + 3) x1) ∧ ((¬ (g_mi M (((a0 + 1) + 1) + 3) 3) = 0) → (¬ (fX8_isKey x1) = 0) → ((fX5_hadKey N M (((a0 + 1) + 1) + 3) x1) = 0) → EX5_numberOf N M (((a0 + 1) + 1) + 3) x1) ∧ (if (g_mi M (((a0 + 1) + 1) + 3) 3) = 0 then True else (if (fX8_isKey x1) = 0 then True else (if (fX5_hadKey N M (((a0 + 1) + 1) + 3) x1) = 0 then (k 0 (((a0 + 1) + 1) + 3) (fX5_numberOf N M (((a0 + 1) + 1) + 3) x1) 0) else True)))
def bX8_twin_44 (N : Nat) (M : gM) (a2 : Nat) (x3 : Int32) (x4 : Int32) (k : Nat → Nat → Int32 → Int32 → Int32) : Int32 := (if (g_mi M a2 4) ≤ x4 then (-1) else (if (fX5_numberOf N M a2 (g_mi M (a2 + 1) (x4).toNatClampNeg)) = x3 then (g_mi M (a2 + 1) (x4).toNatClampNeg) else (k 0 a2 x3 (x4 + 1))))
def eX8_twin_44 (N : Nat) (M : gM) (a2 : Nat) (x3 : Int32) (x4 : Int32) (k : Nat → Nat → Int32 → Int32 → Prop) : Prop := ((¬ (g_mi M a2 4) ≤ x4) → vp_in (x4) 30) ∧ ((¬ (g_mi M a2 4) ≤ x4) → EX5_numberOf N M a2 (g_mi M (a2 + 1) (x4).toNatClampNeg)) ∧ ((¬ (g_mi M a2 4) ≤ x4) → ((fX5_numberOf N M a2 (g_mi M (a2 + 1) (x4).toNatClampNeg)) = x3) → vp_in (x4) 30) ∧ (if (g_mi M a2 4) ≤ x4 then True else (if (fX5_numberOf N M a2 (g_mi M (a2 + 1) (x4).toNatClampNeg)) = x3 then True else (k 0 a2 x3 (x4 + 1))))
def wX8_twin (N : Nat) (M : gM) : Nat → Nat → Nat → Int32 → Int32 → Int32
  | 0, _, _, _, _ => 0
  | n + 1, h, a2, x3, x4 => bX8_twin_44 N M a2 x3 x4 (wX8_twin N M n)
def vX8_twin (N : Nat) (M : gM) : Nat → Nat → Nat → Int32 → Int32 → Prop
  | 0, _, _, _, _ => False
  | n + 1, h, a2, x3, x4 => eX8_twin_44 N M a2 x3 x4 (vX8_twin N M n)
set_option maxRecDepth 10000 in
theorem lpX8_twin {X : gX} {d mc ms : Nat} {Q : Option Value → gM → Prop} (N : Nat) (M : gM) : ∀ n : Nat, (∀ (a2 : Nat) (x3 : Int32) (x4 : Int32), Tb M a2 → vX8_twin N M n 0 a2 x3 x4 → Q (some (.int (wX8_twin N M n 0 a2 x3 x4))) M → Go X (d + 3) mc ms kX8_twin Q 44 [(2, .ref a2), (3, .int (x3)), (4, .int (x4))] [] M 0 0) := by
  intro n
  induction n with
  | zero => exact fun _ _ _ _ h _ => h.elim
  | succ n ih =>
    intro a2 x3 x4 s2 hT hQ
    rw [vX8_twin] at hT
    rw [wX8_twin] at hQ
    unfold bX8_twin_44 at hQ
    unfold eX8_twin_44 at hT
    obtain ⟨b4, b5, b7, hT⟩ := hT
    exact sX8_twin_44 (M := M) s2 (fun c1 => by simp only [if_pos c1] at hQ; exact hQ) (Nat.zero_le _) (Nat.zero_le _) b4 b5 (fun c1 c2 => by simp only [if_neg c1, if_neg c2] at hQ hT; exact ih _ _ _ (s2) hT hQ) b7 (fun c1 c2 => by simp only [if_neg c1, if_pos c2] at hQ; exact hQ)
def fX8_twin (N : Nat) (M : gM) (a0 : Nat) (x1 : Int32) : Int32 := (bX8_twin_0 N M a0 x1 (wX8_twin N M N))
def EX8_twin (N : Nat) (M : gM) (a0 : Nat) (x1 : Int32) : Prop := eX8_twin_0 N M a0 x1 (vX8_twin N M N)
theorem tX8_twin {N : Nat} {X : gX} {d mc ms : Nat} {Q : Option Value → gM → Prop} {M : gM} {a0 : Nat} {x1 : Int32} (s0 : Ph M a0) (hE : EX8_twin N M a0 x1) (hQ : Q (some (.int (fX8_twin N M a0 x1))) M) : Cn X (d + 3) mc ms kX8_twin [.ref a0, .int (x1)] M Q := by
  unfold fX8_twin at hQ
  unfold bX8_twin_0 at hQ
  unfold EX8_twin eX8_twin_0 at hE
  obtain ⟨b3, b4, hT⟩ := hE
  have ih := lpX8_twin (X := X) (d := d) (mc := mc) (ms := ms) (Q := Q) N M N
  exact sX8_twin_0 s0 (fun c1 => by simp only [if_pos c1] at hQ; exact hQ) (fun c1 c2 => by simp only [if_neg c1, if_pos c2] at hQ; exact hQ) b3 b4 (fun c1 c2 c3 => by simp only [if_neg c1, if_neg c2, if_pos c3] at hQ hT; exact ih _ _ _ (s0.2.2.1.2.2.1.2.2.2.2.2.2) hT hQ) (fun c1 c2 c3 => by simp only [if_neg c1, if_neg c2, if_neg c3] at hQ; exact hQ)
/-! X8_seen  -/
set_option maxRecDepth 4000 in
theorem sX8_seen_0 {X : gX} {d mc ms : Nat} {Q : Option Value → gM → Prop} {M : gM} {a0 : Nat} {x1 : Int32} {x2 : Int32} (s0 : Ph M a0) (h1 : (x1 < 0) → Q (some (.int ((fX8_refuse a0 (-1))))) (mX8_refuse M a0 (-1))) (h2 : (¬ x1 < 0) → (60 ≤ x1) → Q (some (.int ((fX8_refuse a0 (-1))))) (mX8_refuse M a0 (-1))) (h3 : (¬ x1 < 0) → (¬ 60 ≤ x1) → (x2 < 0) → Q (some (.int ((fX8_refuse a0 (-1))))) (mX8_refuse M a0 (-1))) (b4 : (¬ x1 < 0) → (¬ 60 ≤ x1) → (¬ x2 < 0) → (x2 ≤ 1) → ((g_mi M (a0 + 1) 4) < 6) → vp_in ((g_mi M (a0 + 1) 4)) 6) (b5 : (¬ x1 < 0) → (¬ 60 ≤ x1) → (¬ x2 < 0) → (x2 ≤ 1) → ((g_mi M (a0 + 1) 4) < 6) → vp_in ((g_mi (g_wi M ((a0 + 1) + 8) ((g_mi M (a0 + 1) 4)).toNatClampNeg x1) (a0 + 1) 4)) 6) (h6 : (¬ x1 < 0) → (¬ 60 ≤ x1) → (¬ x2 < 0) → (x2 ≤ 1) → ((g_mi M (a0 + 1) 4) < 6) → Q (some (.int ((fX8_accept a0 (g_mi (g_wi (g_wi (g_wi M ((a0 + 1) + 8) ((g_mi M (a0 + 1) 4)).toNatClampNeg x1) ((a0 + 1) + 9) ((g_mi (g_wi M ((a0 + 1) + 8) ((g_mi M (a0 + 1) 4)).toNatClampNeg x1) (a0 + 1) 4)).toNatClampNeg x2) (a0 + 1) 4 ((g_mi (g_wi (g_wi M ((a0 + 1) + 8) ((g_mi M (a0 + 1) 4)).toNatClampNeg x1) ((a0 + 1) + 9) ((g_mi (g_wi M ((a0 + 1) + 8) ((g_mi M (a0 + 1) 4)).toNatClampNeg x1) (a0 + 1) 4)).toNatClampNeg x2) (a0 + 1) 4) + 1)) (a0 + 1) 4))))) (mX8_accept (g_wi (g_wi (g_wi M ((a0 + 1) + 8) ((g_mi M (a0 + 1) 4)).toNatClampNeg x1) ((a0 + 1) + 9) ((g_mi (g_wi M ((a0 + 1) + 8) ((g_mi M (a0 + 1) 4)).toNatClampNeg x1) (a0 + 1) 4)).toNatClampNeg x2) (a0 + 1) 4 ((g_mi (g_wi (g_wi M ((a0 + 1) + 8) ((g_mi M (a0 + 1) 4)).toNatClampNeg x1) ((a0 + 1) + 9) ((g_mi (g_wi M ((a0 + 1) + 8) ((g_mi M (a0 + 1) 4)).toNatClampNeg x1) (a0 + 1) 4)).toNatClampNeg x2) (a0 + 1) 4) + 1)) a0 (g_mi (g_wi (g_wi (g_wi M ((a0 + 1) + 8) ((g_mi M (a0 + 1) 4)).toNatClampNeg x1) ((a0 + 1) + 9) ((g_mi (g_wi M ((a0 + 1) + 8) ((g_mi M (a0 + 1) 4)).toNatClampNeg x1) (a0 + 1) 4)).toNatClampNeg x2) (a0 + 1) 4 ((g_mi (g_wi (g_wi M ((a0 + 1) + 8) ((g_mi M (a0 + 1) 4)).toNatClampNeg x1) ((a0 + 1) + 9) ((g_mi (g_wi M ((a0 + 1) + 8) ((g_mi M (a0 + 1) 4)).toNatClampNeg x1) (a0 + 1) 4)).toNatClampNeg x2) (a0 + 1) 4) + 1)) (a0 + 1) 4))) (h7 : (¬ x1 < 0) → (¬ 60 ≤ x1) → (¬ x2 < 0) → (x2 ≤ 1) → (¬ (g_mi M (a0 + 1) 4) < 6) → Q (some (.int ((fX8_refuse a0 (-5))))) (mX8_refuse M a0 (-5))) (h8 : (¬ x1 < 0) → (¬ 60 ≤ x1) → (¬ x2 < 0) → (¬ x2 ≤ 1) → Q (some (.int ((fX8_refuse a0 (-1))))) (mX8_refuse M a0 (-1))) : Cn X (d + 1) mc ms kX8_seen [.ref a0, .int (x1), .int (x2)] M Q := by
  refine g_meth rfl rfl (Nat.le_of_ble_eq_true rfl) rfl ?_
  refine g_iload_n 1 1 dX8_seen_0 rfl rfl ?_
  refine g_if_lt 19 4 dX8_seen_1 rfl rfl (fun c1 => ?_) (fun c1 => ?_)
  · skip
    refine g_aload_n 0 20 dX8_seen_19 rfl rfl ?_
    refine g_iconst ((-1)) 21 dX8_seen_20 rfl rfl ?_
    refine g_callV (mc1 := 0) (ms1 := 0) (b := a0) (rest := []) (av := [.int ((-1))]) kX8_refuse 24 dX8_seen_21 rfl rfl mbX8_146 imX8_refuse seX8_refuse gcl8.1 s0.1 (Nat.le_of_ble_eq_true rfl) (Nat.zero_le _) (Nat.zero_le _) (tX8_refuse s0 ?_)
    show Go X (d + 1) mc ms kX8_seen Q 24 [(0, .ref a0), (1, .int (x1)), (2, .int (x2))] [.int ((fX8_refuse a0 (-1)))] (mX8_refuse M a0 (-1)) 0 0
    exact g_iret dX8_seen_24 rfl (Nat.zero_le _) (Nat.zero_le _) (h1 c1)
  · skip
    refine g_iload_n 1 5 dX8_seen_4 rfl rfl ?_
    refine g_bipush (60) 7 dX8_seen_5 rfl rfl ?_
    refine g_icmp_ge 19 10 dX8_seen_7 rfl rfl (fun c2 => ?_) (fun c2 => ?_)
    · skip
      refine g_aload_n 0 20 dX8_seen_19 rfl rfl ?_
      refine g_iconst ((-1)) 21 dX8_seen_20 rfl rfl ?_
      refine g_callV (mc1 := 0) (ms1 := 0) (b := a0) (rest := []) (av := [.int ((-1))]) kX8_refuse 24 dX8_seen_21 rfl rfl mbX8_146 imX8_refuse seX8_refuse gcl8.1 s0.1 (Nat.le_of_ble_eq_true rfl) (Nat.zero_le _) (Nat.zero_le _) (tX8_refuse s0 ?_)
      show Go X (d + 1) mc ms kX8_seen Q 24 [(0, .ref a0), (1, .int (x1)), (2, .int (x2))] [.int ((fX8_refuse a0 (-1)))] (mX8_refuse M a0 (-1)) 0 0
      exact g_iret dX8_seen_24 rfl (Nat.zero_le _) (Nat.zero_le _) (h2 c1 c2)
    · skip
      refine g_iload_n 2 11 dX8_seen_10 rfl rfl ?_
      refine g_if_lt 19 14 dX8_seen_11 rfl rfl (fun c3 => ?_) (fun c3 => ?_)
      · skip
        refine g_aload_n 0 20 dX8_seen_19 rfl rfl ?_
        refine g_iconst ((-1)) 21 dX8_seen_20 rfl rfl ?_
        refine g_callV (mc1 := 0) (ms1 := 0) (b := a0) (rest := []) (av := [.int ((-1))]) kX8_refuse 24 dX8_seen_21 rfl rfl mbX8_146 imX8_refuse seX8_refuse gcl8.1 s0.1 (Nat.le_of_ble_eq_true rfl) (Nat.zero_le _) (Nat.zero_le _) (tX8_refuse s0 ?_)
        show Go X (d + 1) mc ms kX8_seen Q 24 [(0, .ref a0), (1, .int (x1)), (2, .int (x2))] [.int ((fX8_refuse a0 (-1)))] (mX8_refuse M a0 (-1)) 0 0
        exact g_iret dX8_seen_24 rfl (Nat.zero_le _) (Nat.zero_le _) (h3 c1 c2 c3)
      · skip
        refine g_iload_n 2 15 dX8_seen_14 rfl rfl ?_
        refine g_iconst (1) 16 dX8_seen_15 rfl rfl ?_
        refine g_icmp_le 25 19 dX8_seen_16 rfl rfl (fun c4 => ?_) (fun c4 => ?_)
        · skip
          refine g_aload_n 0 26 dX8_seen_25 rfl rfl ?_
          refine g_getR 29 (a0 + 1) dX8_seen_26 rfl flX8_14 s0.1 s0.2.1 ?_
          refine g_getI 32 dX8_seen_29 rfl flX8_285 s0.2.2.1.1 ?_
          refine g_bipush (6) 34 dX8_seen_32 rfl rfl ?_
          refine g_icmp_lt 44 37 dX8_seen_34 rfl rfl (fun c5 => ?_) (fun c5 => ?_)
          · skip
            refine g_aload_n 0 45 dX8_seen_44 rfl rfl ?_
            refine g_getR 48 (a0 + 1) dX8_seen_45 rfl flX8_14 s0.1 s0.2.1 ?_
            refine g_getR 51 ((a0 + 1) + 8) dX8_seen_48 rfl flX8_288 s0.2.2.1.1 s0.2.2.1.2.2.2.1 ?_
            refine g_aload_n 0 52 dX8_seen_51 rfl rfl ?_
            refine g_getR 55 (a0 + 1) dX8_seen_52 rfl flX8_14 s0.1 s0.2.1 ?_
            refine g_getI 58 dX8_seen_55 rfl flX8_285 s0.2.2.1.1 ?_
            refine g_iload_n 1 59 dX8_seen_58 rfl rfl ?_
            refine h_iastore 60 ((g_mi M (a0 + 1) 4)).toNatClampNeg dX8_seen_59 rfl rfl s0.2.2.1.2.2.2.2.1 (b4 c1 c2 c3 c4 c5) ?_
            refine g_aload_n 0 61 dX8_seen_60 rfl rfl ?_
            refine g_getR 64 (a0 + 1) dX8_seen_61 rfl flX8_14 (Sm.k (Sm.wi Sm.rf) s0.1) (Sm.r (Sm.wi Sm.rf) s0.2.1) ?_
            refine g_getR 67 ((a0 + 1) + 9) dX8_seen_64 rfl flX8_291 (Sm.k (Sm.wi Sm.rf) s0.2.2.1.1) (Sm.r (Sm.wi Sm.rf) s0.2.2.1.2.2.2.2.2.1) ?_
            refine g_aload_n 0 68 dX8_seen_67 rfl rfl ?_
            refine g_getR 71 (a0 + 1) dX8_seen_68 rfl flX8_14 (Sm.k (Sm.wi Sm.rf) s0.1) (Sm.r (Sm.wi Sm.rf) s0.2.1) ?_
            refine g_getI 74 dX8_seen_71 rfl flX8_285 (Sm.k (Sm.wi Sm.rf) s0.2.2.1.1) ?_
            refine g_iload_n 2 75 dX8_seen_74 rfl rfl ?_
            refine h_iastore 76 ((g_mi (g_wi M ((a0 + 1) + 8) ((g_mi M (a0 + 1) 4)).toNatClampNeg x1) (a0 + 1) 4)).toNatClampNeg dX8_seen_75 rfl rfl (Sm.k (Sm.wi Sm.rf) s0.2.2.1.2.2.2.2.2.2.1) (b5 c1 c2 c3 c4 c5) ?_
            refine g_aload_n 0 77 dX8_seen_76 rfl rfl ?_
            refine g_getR 80 (a0 + 1) dX8_seen_77 rfl flX8_14 (Sm.k (Sm.wi (Sm.wi Sm.rf)) s0.1) (Sm.r (Sm.wi (Sm.wi Sm.rf)) s0.2.1) ?_
            refine g_dup 81 dX8_seen_80 rfl rfl ?_
            refine g_getI 84 dX8_seen_81 rfl flX8_285 (Sm.k (Sm.wi (Sm.wi Sm.rf)) s0.2.2.1.1) ?_
            refine g_iconst (1) 85 dX8_seen_84 rfl rfl ?_
            refine g_iadd 86 dX8_seen_85 rfl ?_
            refine g_putI 89 dX8_seen_86 rfl flX8_285 (Sm.k (Sm.wi (Sm.wi Sm.rf)) s0.2.2.1.1) ?_
            refine g_aload_n 0 90 dX8_seen_89 rfl rfl ?_
            refine g_aload_n 0 91 dX8_seen_90 rfl rfl ?_
            refine g_getR 94 (a0 + 1) dX8_seen_91 rfl flX8_14 (Sm.k (Sm.wi (Sm.wi (Sm.wi Sm.rf))) s0.1) (Sm.r (Sm.wi (Sm.wi (Sm.wi Sm.rf))) s0.2.1) ?_
            refine g_getI 97 dX8_seen_94 rfl flX8_285 (Sm.k (Sm.wi (Sm.wi (Sm.wi Sm.rf))) s0.2.2.1.1) ?_
            refine g_callV (mc1 := 0) (ms1 := 0) (b := a0) (rest := []) (av := [.int ((g_mi (g_wi (g_wi (g_wi M ((a0 + 1) + 8) ((g_mi M (a0 + 1) 4)).toNatClampNeg x1) ((a0 + 1) + 9) ((g_mi (g_wi M ((a0 + 1) + 8) ((g_mi M (a0 + 1) 4)).toNatClampNeg x1) (a0 + 1) 4)).toNatClampNeg x2) (a0 + 1) 4 ((g_mi (g_wi (g_wi M ((a0 + 1) + 8) ((g_mi M (a0 + 1) 4)).toNatClampNeg x1) ((a0 + 1) + 9) ((g_mi (g_wi M ((a0 + 1) + 8) ((g_mi M (a0 + 1) 4)).toNatClampNeg x1) (a0 + 1) 4)).toNatClampNeg x2) (a0 + 1) 4) + 1)) (a0 + 1) 4))]) kX8_accept 100 dX8_seen_97 rfl rfl mbX8_155 imX8_accept seX8_accept gcl8.1 (Sm.k (Sm.wi (Sm.wi (Sm.wi Sm.rf))) s0.1) (Nat.le_of_ble_eq_true rfl) (Nat.zero_le _) (Nat.zero_le _) (tX8_accept (Ph.sm (Sm.wi (Sm.wi (Sm.wi Sm.rf))) s0) ?_)
            show Go X (d + 1) mc ms kX8_seen Q 100 [(0, .ref a0), (1, .int (x1)), (2, .int (x2))] [.int ((fX8_accept a0 (g_mi (g_wi (g_wi (g_wi M ((a0 + 1) + 8) ((g_mi M (a0 + 1) 4)).toNatClampNeg x1) ((a0 + 1) + 9) ((g_mi (g_wi M ((a0 + 1) + 8) ((g_mi M (a0 + 1) 4)).toNatClampNeg x1) (a0 + 1) 4)).toNatClampNeg x2) (a0 + 1) 4 ((g_mi (g_wi (g_wi M ((a0 + 1) + 8) ((g_mi M (a0 + 1) 4)).toNatClampNeg x1) ((a0 + 1) + 9) ((g_mi (g_wi M ((a0 + 1) + 8) ((g_mi M (a0 + 1) 4)).toNatClampNeg x1) (a0 + 1) 4)).toNatClampNeg x2) (a0 + 1) 4) + 1)) (a0 + 1) 4)))] (mX8_accept (g_wi (g_wi (g_wi M ((a0 + 1) + 8) ((g_mi M (a0 + 1) 4)).toNatClampNeg x1) ((a0 + 1) + 9) ((g_mi (g_wi M ((a0 + 1) + 8) ((g_mi M (a0 + 1) 4)).toNatClampNeg x1) (a0 + 1) 4)).toNatClampNeg x2) (a0 + 1) 4 ((g_mi (g_wi (g_wi M ((a0 + 1) + 8) ((g_mi M (a0 + 1) 4)).toNatClampNeg x1) ((a0 + 1) + 9) ((g_mi (g_wi M ((a0 + 1) + 8) ((g_mi M (a0 + 1) 4)).toNatClampNeg x1) (a0 + 1) 4)).toNatClampNeg x2) (a0 + 1) 4) + 1)) a0 (g_mi (g_wi (g_wi (g_wi M ((a0 + 1) + 8) ((g_mi M (a0 + 1) 4)).toNatClampNeg x1) ((a0 + 1) + 9) ((g_mi (g_wi M ((a0 + 1) + 8) ((g_mi M (a0 + 1) 4)).toNatClampNeg x1) (a0 + 1) 4)).toNatClampNeg x2) (a0 + 1) 4 ((g_mi (g_wi (g_wi M ((a0 + 1) + 8) ((g_mi M (a0 + 1) 4)).toNatClampNeg x1) ((a0 + 1) + 9) ((g_mi (g_wi M ((a0 + 1) + 8) ((g_mi M (a0 + 1) 4)).toNatClampNeg x1) (a0 + 1) 4)).toNatClampNeg x2) (a0 + 1) 4) + 1)) (a0 + 1) 4)) 0 0
            exact g_iret dX8_seen_100 rfl (Nat.zero_le _) (Nat.zero_le _) (h6 c1 c2 c3 c4 c5)
          · skip
            refine g_aload_n 0 38 dX8_seen_37 rfl rfl ?_
            refine g_bipush ((-5)) 40 dX8_seen_38 rfl rfl ?_
            refine g_callV (mc1 := 0) (ms1 := 0) (b := a0) (rest := []) (av := [.int ((-5))]) kX8_refuse 43 dX8_seen_40 rfl rfl mbX8_146 imX8_refuse seX8_refuse gcl8.1 s0.1 (Nat.le_of_ble_eq_true rfl) (Nat.zero_le _) (Nat.zero_le _) (tX8_refuse s0 ?_)
            show Go X (d + 1) mc ms kX8_seen Q 43 [(0, .ref a0), (1, .int (x1)), (2, .int (x2))] [.int ((fX8_refuse a0 (-5)))] (mX8_refuse M a0 (-5)) 0 0
            exact g_iret dX8_seen_43 rfl (Nat.zero_le _) (Nat.zero_le _) (h7 c1 c2 c3 c4 c5)
        · skip
          refine g_aload_n 0 20 dX8_seen_19 rfl rfl ?_
          refine g_iconst ((-1)) 21 dX8_seen_20 rfl rfl ?_
          refine g_callV (mc1 := 0) (ms1 := 0) (b := a0) (rest := []) (av := [.int ((-1))]) kX8_refuse 24 dX8_seen_21 rfl rfl mbX8_146 imX8_refuse seX8_refuse gcl8.1 s0.1 (Nat.le_of_ble_eq_true rfl) (Nat.zero_le _) (Nat.zero_le _) (tX8_refuse s0 ?_)
          show Go X (d + 1) mc ms kX8_seen Q 24 [(0, .ref a0), (1, .int (x1)), (2, .int (x2))] [.int ((fX8_refuse a0 (-1)))] (mX8_refuse M a0 (-1)) 0 0
          exact g_iret dX8_seen_24 rfl (Nat.zero_le _) (Nat.zero_le _) (h8 c1 c2 c3 c4)

def fX8_seen (M : gM) (a0 : Nat) (x1 : Int32) (x2 : Int32) : Int32 := (if x1 < 0 then (fX8_refuse a0 (-1)) else (if 60 ≤ x1 then (fX8_refuse a0 (-1)) else (if x2 < 0 then (fX8_refuse a0 (-1)) else (if x2 ≤ 1 then (if (g_mi M (a0 + 1) 4) < 6 then (fX8_accept a0 (g_mi (g_wi (g_wi (g_wi M ((a0 + 1) + 8) ((g_mi M (a0 + 1) 4)).toNatClampNeg x1) ((a0 + 1) + 9) ((g_mi (g_wi M ((a0 + 1) + 8) ((g_mi M (a0 + 1) 4)).toNatClampNeg x1) (a0 + 1) 4)).toNatClampNeg x2) (a0 + 1) 4 ((g_mi (g_wi (g_wi M ((a0 + 1) + 8) ((g_mi M (a0 + 1) 4)).toNatClampNeg x1) ((a0 + 1) + 9) ((g_mi (g_wi M ((a0 + 1) + 8) ((g_mi M (a0 + 1) 4)).toNatClampNeg x1) (a0 + 1) 4)).toNatClampNeg x2) (a0 + 1) 4) + 1)) (a0 + 1) 4)) else (fX8_refuse a0 (-5))) else (fX8_refuse a0 (-1))))))
def mX8_seen (M : gM) (a0 : Nat) (x1 : Int32) (x2 : Int32) : gM := g_wm M (if x1 < 0 then (g_mi (mX8_refuse M a0 (-1))) else (if 60 ≤ x1 then (g_mi (mX8_refuse M a0 (-1))) else (if x2 < 0 then (g_mi (mX8_refuse M a0 (-1))) else (if x2 ≤ 1 then (if (g_mi M (a0 + 1) 4) < 6 then (g_mi (mX8_accept (g_wi (g_wi (g_wi M ((a0 + 1) + 8) ((g_mi M (a0 + 1) 4)).toNatClampNeg x1) ((a0 + 1) + 9) ((g_mi (g_wi M ((a0 + 1) + 8) ((g_mi M (a0 + 1) 4)).toNatClampNeg x1) (a0 + 1) 4)).toNatClampNeg x2) (a0 + 1) 4 ((g_mi (g_wi (g_wi M ((a0 + 1) + 8) ((g_mi M (a0 + 1) 4)).toNatClampNeg x1) ((a0 + 1) + 9) ((g_mi (g_wi M ((a0 + 1) + 8) ((g_mi M (a0 + 1) 4)).toNatClampNeg x1) (a0 + 1) 4)).toNatClampNeg x2) (a0 + 1) 4) + 1)) a0 (g_mi (g_wi (g_wi (g_wi M ((a0 + 1) + 8) ((g_mi M (a0 + 1) 4)).toNatClampNeg x1) ((a0 + 1) + 9) ((g_mi (g_wi M ((a0 + 1) + 8) ((g_mi M (a0 + 1) 4)).toNatClampNeg x1) (a0 + 1) 4)).toNatClampNeg x2) (a0 + 1) 4 ((g_mi (g_wi (g_wi M ((a0 + 1) + 8) ((g_mi M (a0 + 1) 4)).toNatClampNeg x1) ((a0 + 1) + 9) ((g_mi (g_wi M ((a0 + 1) + 8) ((g_mi M (a0 + 1) 4)).toNatClampNeg x1) (a0 + 1) 4)).toNatClampNeg x2) (a0 + 1) 4) + 1)) (a0 + 1) 4))) else (g_mi (mX8_refuse M a0 (-5)))) else (g_mi (mX8_refuse M a0 (-1))))))) (g_ml M)
def EX8_seen (M : gM) (a0 : Nat) (x1 : Int32) (x2 : Int32) : Prop := ((¬ x1 < 0) → (¬ 60 ≤ x1) → (¬ x2 < 0) → (x2 ≤ 1) → ((g_mi M (a0 + 1) 4) < 6) → vp_in ((g_mi M (a0 + 1) 4)) 6) ∧ ((¬ x1 < 0) → (¬ 60 ≤ x1) → (¬ x2 < 0) → (x2 ≤ 1) → ((g_mi M (a0 + 1) 4) < 6) → vp_in ((g_mi (g_wi M ((a0 + 1) + 8) ((g_mi M (a0 + 1) 4)).toNatClampNeg x1) (a0 + 1) 4)) 6)
theorem jX8_seen {M : gM} {a0 : Nat} {x1 : Int32} {x2 : Int32} : Sm M (mX8_seen M a0 x1 x2) := Sm.wm
theorem tX8_seen {X : gX} {d mc ms : Nat} {Q : Option Value → gM → Prop} {M : gM} {a0 : Nat} {x1 : Int32} {x2 : Int32} (s0 : Ph M a0) (hE : EX8_seen M a0 x1 x2) (hQ : Q (some (.int (fX8_seen M a0 x1 x2))) (mX8_seen M a0 x1 x2)) : Cn X (d + 1) mc ms kX8_seen [.ref a0, .int (x1), .int (x2)] M Q := by
  unfold fX8_seen mX8_seen at hQ
  obtain ⟨b4, b5⟩ := hE
  exact sX8_seen_0 s0 (fun c1 => by simp only [if_pos c1] at hQ; exact Sm.q (Sm.tr Sm.rf jX8_refuse) hQ) (fun c1 c2 => by simp only [if_neg c1, if_pos c2] at hQ; exact Sm.q (Sm.tr Sm.rf jX8_refuse) hQ) (fun c1 c2 c3 => by simp only [if_neg c1, if_neg c2, if_pos c3] at hQ; exact Sm.q (Sm.tr Sm.rf jX8_refuse) hQ) b4 b5 (fun c1 c2 c3 c4 c5 => by simp only [if_neg c1, if_neg c2, if_neg c3, if_pos c4, if_pos c5] at hQ; exact Sm.q (Sm.tr (Sm.wi (Sm.wi (Sm.wi Sm.rf))) jX8_accept) hQ) (fun c1 c2 c3 c4 c5 => by simp only [if_neg c1, if_neg c2, if_neg c3, if_pos c4, if_neg c5] at hQ; exact Sm.q (Sm.tr Sm.rf jX8_refuse) hQ) (fun c1 c2 c3 c4 => by simp only [if_neg c1, if_neg c2, if_neg c3, if_neg c4] at hQ; exact Sm.q (Sm.tr Sm.rf jX8_refuse) hQ)
/-! X8_forget  -/
set_option maxRecDepth 4000 in
theorem sX8_forget_0 {X : gX} {d mc ms : Nat} {Q : Option Value → gM → Prop} {M : gM} {a0 : Nat} (s0 : Ph M a0) (h1 : Q (some (.int ((g_mi M (a0 + 1) 4)))) (g_wi M (a0 + 1) 4 0)) : Cn X d mc ms kX8_forget [.ref a0] M Q := by
  refine g_meth rfl rfl (Nat.le_of_ble_eq_true rfl) rfl ?_
  refine g_aload_n 0 1 dX8_forget_0 rfl rfl ?_
  refine g_getR 4 (a0 + 1) dX8_forget_1 rfl flX8_14 s0.1 s0.2.1 ?_
  refine g_getI 7 dX8_forget_4 rfl flX8_285 s0.2.2.1.1 ?_
  refine g_istore_n 8 [(1, .int ((g_mi M (a0 + 1) 4))), (0, .ref a0)] dX8_forget_7 rfl (Nat.le_of_ble_eq_true rfl) rfl ?_
  refine g_aload_n 1 9 dX8_forget_8 rfl rfl ?_
  refine g_getR 12 (a0 + 1) dX8_forget_9 rfl flX8_14 s0.1 s0.2.1 ?_
  refine g_iconst (0) 13 dX8_forget_12 rfl rfl ?_
  refine g_putI 16 dX8_forget_13 rfl flX8_285 s0.2.2.1.1 ?_
  refine g_iload_n 0 17 dX8_forget_16 rfl rfl ?_
  exact g_iret dX8_forget_17 rfl (Nat.zero_le _) (Nat.zero_le _) (h1)

def fX8_forget (M : gM) (a0 : Nat) : Int32 := (g_mi M (a0 + 1) 4)
def mX8_forget (M : gM) (a0 : Nat) : gM := (g_wi M (a0 + 1) 4 0)
theorem jX8_forget {M : gM} {a0 : Nat} : Sm M (mX8_forget M a0) := (Sm.wi Sm.rf)
theorem tX8_forget {X : gX} {d mc ms : Nat} {Q : Option Value → gM → Prop} {M : gM} {a0 : Nat} (s0 : Ph M a0) (hQ : Q (some (.int (fX8_forget M a0))) (mX8_forget M a0)) : Cn X d mc ms kX8_forget [.ref a0] M Q := by
  unfold fX8_forget mX8_forget at hQ
  exact sX8_forget_0 s0 hQ
/-! X8_few  -/
set_option maxRecDepth 4000 in
theorem sX8_few_0 {N : Nat} {X : gX} {d mc ms : Nat} {Q : Option Value → gM → Prop} {M : gM} {a0 : Nat} {x1 : Int32} {x2 : Int32} (s0 : Ph M a0) (h1 : (x1 < 1) → Q (some (.long ((-1)))) M) (h2 : (¬ x1 < 1) → (20 < x1) → Q (some (.long ((-1)))) M) (h3 : (¬ x1 < 1) → (¬ 20 < x1) → (x2 < 0) → Q (some (.long ((-1)))) M) (b4 : (¬ x1 < 1) → (¬ 20 < x1) → (¬ x2 < 0) → (x2 ≤ 99) → EJ7_fill_d0a16 N M (a0 + 306) 20 0) (h5 : (¬ x1 < 1) → (¬ 20 < x1) → (¬ x2 < 0) → (x2 ≤ 99) → Go X (d + 1) mc ms kX8_few Q 59 [(0, .ref a0), (1, .int (x1)), (2, .int (x2)), (3, .long ((((g_mi M (((a0 + 1) + 1) + 2) 1) : Int32).toInt64))), (5, .int (0))] [] (g_wl (mJ7_fill_d0a16 N M (a0 + 306) 20 0) (a0 + 306) 0 1000000000000) 0 0) (h6 : (¬ x1 < 1) → (¬ 20 < x1) → (¬ x2 < 0) → (¬ x2 ≤ 99) → Q (some (.long ((-1)))) M) : Cn X (d + 1) mc ms kX8_few [.ref a0, .int (x1), .int (x2)] M Q := by
  refine g_meth rfl rfl (Nat.le_of_ble_eq_true rfl) rfl ?_
  refine g_iload_n 1 1 dX8_few_0 rfl rfl ?_
  refine g_iconst (1) 2 dX8_few_1 rfl rfl ?_
  refine g_icmp_lt 21 5 dX8_few_2 rfl rfl (fun c1 => ?_) (fun c1 => ?_)
  · skip
    refine g_ldc2 ((-1)) 24 dX8_few_21 rfl q4_186 ?_
    exact g_lret dX8_few_24 rfl (Nat.zero_le _) (Nat.zero_le _) (h1 c1)
  · skip
    refine g_iload_n 1 6 dX8_few_5 rfl rfl ?_
    refine g_bipush (20) 8 dX8_few_6 rfl rfl ?_
    refine g_icmp_gt 21 11 dX8_few_8 rfl rfl (fun c2 => ?_) (fun c2 => ?_)
    · skip
      refine g_ldc2 ((-1)) 24 dX8_few_21 rfl q4_186 ?_
      exact g_lret dX8_few_24 rfl (Nat.zero_le _) (Nat.zero_le _) (h2 c1 c2)
    · skip
      refine g_iload_n 2 12 dX8_few_11 rfl rfl ?_
      refine g_if_lt 21 15 dX8_few_12 rfl rfl (fun c3 => ?_) (fun c3 => ?_)
      · skip
        refine g_ldc2 ((-1)) 24 dX8_few_21 rfl q4_186 ?_
        exact g_lret dX8_few_24 rfl (Nat.zero_le _) (Nat.zero_le _) (h3 c1 c2 c3)
      · skip
        refine g_iload_n 2 16 dX8_few_15 rfl rfl ?_
        refine g_bipush (99) 18 dX8_few_16 rfl rfl ?_
        refine g_icmp_le 25 21 dX8_few_18 rfl rfl (fun c4 => ?_) (fun c4 => ?_)
        · skip
          refine g_aload_n 0 26 dX8_few_25 rfl rfl ?_
          refine g_getR 29 (a0 + 1) dX8_few_26 rfl flX8_14 s0.1 s0.2.1 ?_
          refine g_getR 32 ((a0 + 1) + 1) dX8_few_29 rfl flX8_102 s0.2.2.1.1 s0.2.2.1.2.1 ?_
          refine g_getR 35 (((a0 + 1) + 1) + 2) dX8_few_32 rfl flX8_149 s0.2.2.1.2.2.1.1 s0.2.2.1.2.2.1.2.2.2.1 ?_
          refine g_iconst (1) 36 dX8_few_35 rfl rfl ?_
          refine h_iaload 37 1 dX8_few_36 rfl rfl s0.2.2.1.2.2.1.2.2.2.2.1 (vp_lit rfl) ?_
          refine g_i2l 38 dX8_few_37 rfl ?_
          refine g_lstore_n 39 [(3, .long ((((g_mi M (((a0 + 1) + 1) + 2) 1) : Int32).toInt64))), (0, .ref a0), (1, .int (x1)), (2, .int (x2))] dX8_few_38 rfl (Nat.le_of_ble_eq_true rfl) rfl ?_
          refine g_aload_n 1 40 dX8_few_39 rfl rfl ?_
          refine g_getR 43 (a0 + 306) dX8_few_40 rfl flX8_84 s0.1 s0.2.2.2.2.2.2.2.2.2.2.2.2.2.2.2.2.2.2.2.2.2.2.2.2.2.2.2.1 ?_
          refine g_lconst (0) 44 dX8_few_43 rfl rfl ?_
          refine g_callS (mc1 := 0) (ms1 := 0) (rest := []) (av := [.ref (a0 + 306), .long (0)]) kJ7_fill_d0a16 47 dX8_few_44 rfl rfl mbX8_309 smJ7_fill_d0a16 (Nat.le_of_ble_eq_true rfl) (Nat.zero_le _) (Nat.zero_le _) (tJ7_fill_d0a16 (N := N) s0.2.2.2.2.2.2.2.2.2.2.2.2.2.2.2.2.2.2.2.2.2.2.2.2.2.2.2.2.1 (b4 c1 c2 c3 c4) ?_)
          show Go X (d + 1) mc ms kX8_few Q 47 [(3, .long ((((g_mi M (((a0 + 1) + 1) + 2) 1) : Int32).toInt64))), (0, .ref a0), (1, .int (x1)), (2, .int (x2))] [] (mJ7_fill_d0a16 N M (a0 + 306) 20 0) 0 0
          refine g_aload_n 1 48 dX8_few_47 rfl rfl ?_
          refine g_getR 51 (a0 + 306) dX8_few_48 rfl flX8_84 (Sl.k (Sl.tr Sl.rf jJ7_fill_d0a16) s0.1) (Sl.r (Sl.tr Sl.rf jJ7_fill_d0a16) s0.2.2.2.2.2.2.2.2.2.2.2.2.2.2.2.2.2.2.2.2.2.2.2.2.2.2.2.1) ?_
          refine g_iconst (0) 52 dX8_few_51 rfl rfl ?_
          refine g_ldc2 (1000000000000) 55 dX8_few_52 rfl q4_190 ?_
          refine h_lastore 56 0 dX8_few_55 rfl rfl (Sl.k (Sl.tr Sl.rf jJ7_fill_d0a16) s0.2.2.2.2.2.2.2.2.2.2.2.2.2.2.2.2.2.2.2.2.2.2.2.2.2.2.2.2.1) (vp_lit rfl) ?_
          refine g_iconst (0) 57 dX8_few_56 rfl rfl ?_
          refine g_istore 59 [(5, .int (0)), (3, .long ((((g_mi M (((a0 + 1) + 1) + 2) 1) : Int32).toInt64))), (0, .ref a0), (1, .int (x1)), (2, .int (x2))] dX8_few_57 rfl (Nat.le_of_ble_eq_true rfl) rfl ?_
          exact g_sub [2, 3, 4, 1, 0] _ rfl (h5 c1 c2 c3 c4)
        · skip
          refine g_ldc2 ((-1)) 24 dX8_few_21 rfl q4_186 ?_
          exact g_lret dX8_few_24 rfl (Nat.zero_le _) (Nat.zero_le _) (h6 c1 c2 c3 c4)

set_option maxRecDepth 4000 in
theorem sX8_few_59 {X : gX} {d mc ms : Nat} {Q : Option Value → gM → Prop} {M : gM} {c z : Nat} {a0 : Nat} {x1 : Int32} {x2 : Int32} {y3 : Int64} {x5 : Int32} (s0 : Ph M a0) (h1 : (x2 ≤ x5) → Go X (d + 1) mc ms kX8_few Q 146 [(0, .ref a0), (1, .int (x1)), (5, .long (0)), (7, .int (0))] [] M c z) (h2 : (¬ x2 ≤ x5) → Go X (d + 1) mc ms kX8_few Q 70 [(0, .ref a0), (1, .int (x1)), (2, .int (x2)), (3, .long (y3)), (5, .int (x5)), (6, .int ((x1 - 1)))] [] M c z) : Go X (d + 1) mc ms kX8_few Q 59 [(0, .ref a0), (1, .int (x1)), (2, .int (x2)), (3, .long (y3)), (5, .int (x5))] [] M c z := by
  refine g_iload 4 61 dX8_few_59 rfl rfl ?_
  refine g_iload_n 2 62 dX8_few_61 rfl rfl ?_
  refine g_icmp_ge 140 65 dX8_few_62 rfl rfl (fun c1 => ?_) (fun c1 => ?_)
  · skip
    refine g_lconst (0) 141 dX8_few_140 rfl rfl ?_
    refine g_lstore 143 [(5, .long (0)), (0, .ref a0), (1, .int (x1)), (2, .int (x2)), (3, .long (y3))] dX8_few_141 rfl (Nat.le_of_ble_eq_true rfl) rfl ?_
    refine g_iconst (0) 144 dX8_few_143 rfl rfl ?_
    refine g_istore 146 [(7, .int (0)), (5, .long (0)), (0, .ref a0), (1, .int (x1)), (2, .int (x2)), (3, .long (y3))] dX8_few_144 rfl (Nat.le_of_ble_eq_true rfl) rfl ?_
    exact g_sub [2, 3, 1, 0] _ rfl (h1 c1)
  · skip
    refine g_iload_n 1 66 dX8_few_65 rfl rfl ?_
    refine g_iconst (1) 67 dX8_few_66 rfl rfl ?_
    refine g_isub 68 dX8_few_67 rfl ?_
    refine g_istore 70 [(6, .int ((x1 - 1))), (0, .ref a0), (1, .int (x1)), (2, .int (x2)), (3, .long (y3)), (5, .int (x5))] dX8_few_68 rfl (Nat.le_of_ble_eq_true rfl) rfl ?_
    exact g_sub [1, 2, 3, 4, 5, 0] _ rfl (h2 c1)

set_option maxRecDepth 4000 in
theorem sX8_few_70 {X : gX} {d mc ms : Nat} {Q : Option Value → gM → Prop} {M : gM} {c z : Nat} {a0 : Nat} {x1 : Int32} {x2 : Int32} {y3 : Int64} {x5 : Int32} {x6 : Int32} (s0 : Ph M a0) (h1 : (x6 < 0) → Go X (d + 1) mc ms kX8_few Q 59 [(0, .ref a0), (1, .int (x1)), (2, .int (x2)), (3, .long (y3)), (5, .int ((x5 + 1)))] [] M c z) (b2 : (¬ x6 < 0) → (¬ x6 = 0) → vp_in ((x6 - 1)) 20) (b3 : (¬ x6 < 0) → (¬ x6 = 0) → vp_in (x6) 20) (h4 : (¬ x6 < 0) → (¬ x6 = 0) → Go X (d + 1) mc ms kX8_few Q 70 [(0, .ref a0), (1, .int (x1)), (2, .int (x2)), (3, .long (y3)), (5, .int (x5)), (6, .int ((x6 + (-1))))] [] (g_wl M (a0 + 306) (x6).toNatClampNeg ((((g_ml M (a0 + 306) (x6).toNatClampNeg) * (10 - y3)) / 10) + (((g_ml M (a0 + 306) ((x6 - 1)).toNatClampNeg) * y3) / 10))) c z) (b5 : (¬ x6 < 0) → (x6 = 0) → vp_in (x6) 20) (h6 : (¬ x6 < 0) → (x6 = 0) → Go X (d + 1) mc ms kX8_few Q 70 [(0, .ref a0), (1, .int (x1)), (2, .int (x2)), (3, .long (y3)), (5, .int (x5)), (6, .int ((x6 + (-1))))] [] (g_wl M (a0 + 306) (x6).toNatClampNeg ((((g_ml M (a0 + 306) (x6).toNatClampNeg) * (10 - y3)) / 10) + 0)) c z) : Go X (d + 1) mc ms kX8_few Q 70 [(0, .ref a0), (1, .int (x1)), (2, .int (x2)), (3, .long (y3)), (5, .int (x5)), (6, .int (x6))] [] M c z := by
  refine g_iload 5 72 dX8_few_70 rfl rfl ?_
  refine g_if_lt 134 75 dX8_few_72 rfl rfl (fun c1 => ?_) (fun c1 => ?_)
  · skip
    refine g_iinc _ 4 137 [(5, .int ((x5 + 1))), (0, .ref a0), (1, .int (x1)), (2, .int (x2)), (3, .long (y3)), (6, .int (x6))] dX8_few_134 rfl rfl rfl (Nat.le_of_ble_eq_true rfl) rfl ?_
    refine g_goto 59 dX8_few_137 rfl ?_
    exact g_sub [1, 2, 3, 4, 0] _ rfl (h1 c1)
  · skip
    refine g_iload 5 77 dX8_few_75 rfl rfl ?_
    refine g_if_ne 84 80 dX8_few_77 rfl rfl (fun c2 => ?_) (fun c2 => ?_)
    · skip
      refine g_aload_n 0 85 dX8_few_84 rfl rfl ?_
      refine g_getR 88 (a0 + 306) dX8_few_85 rfl flX8_84 s0.1 s0.2.2.2.2.2.2.2.2.2.2.2.2.2.2.2.2.2.2.2.2.2.2.2.2.2.2.2.1 ?_
      refine g_iload 5 90 dX8_few_88 rfl rfl ?_
      refine g_iconst (1) 91 dX8_few_90 rfl rfl ?_
      refine g_isub 92 dX8_few_91 rfl ?_
      refine h_laload 93 ((x6 - 1)).toNatClampNeg dX8_few_92 rfl rfl s0.2.2.2.2.2.2.2.2.2.2.2.2.2.2.2.2.2.2.2.2.2.2.2.2.2.2.2.2.1 (b2 c1 c2) ?_
      refine g_lload_n 3 94 dX8_few_93 rfl rfl ?_
      refine g_lmul 95 dX8_few_94 rfl ?_
      refine g_ldc2 (10) 98 dX8_few_95 rfl q4_191 ?_
      refine g_ldiv 99 dX8_few_98 rfl (by decide) ?_
      refine g_lstore 101 [(7, .long ((((g_ml M (a0 + 306) ((x6 - 1)).toNatClampNeg) * y3) / 10))), (0, .ref a0), (1, .int (x1)), (2, .int (x2)), (3, .long (y3)), (5, .int (x5)), (6, .int (x6))] dX8_few_99 rfl (Nat.le_of_ble_eq_true rfl) rfl ?_
      refine g_aload_n 1 102 dX8_few_101 rfl rfl ?_
      refine g_getR 105 (a0 + 306) dX8_few_102 rfl flX8_84 s0.1 s0.2.2.2.2.2.2.2.2.2.2.2.2.2.2.2.2.2.2.2.2.2.2.2.2.2.2.2.1 ?_
      refine g_iload 6 107 dX8_few_105 rfl rfl ?_
      refine g_aload_n 1 108 dX8_few_107 rfl rfl ?_
      refine g_getR 111 (a0 + 306) dX8_few_108 rfl flX8_84 s0.1 s0.2.2.2.2.2.2.2.2.2.2.2.2.2.2.2.2.2.2.2.2.2.2.2.2.2.2.2.1 ?_
      refine g_iload 6 113 dX8_few_111 rfl rfl ?_
      refine h_laload 114 (x6).toNatClampNeg dX8_few_113 rfl rfl s0.2.2.2.2.2.2.2.2.2.2.2.2.2.2.2.2.2.2.2.2.2.2.2.2.2.2.2.2.1 (b3 c1 c2) ?_
      refine g_ldc2 (10) 117 dX8_few_114 rfl q4_191 ?_
      refine g_lload_n 4 118 dX8_few_117 rfl rfl ?_
      refine g_lsub 119 dX8_few_118 rfl ?_
      refine g_lmul 120 dX8_few_119 rfl ?_
      refine g_ldc2 (10) 123 dX8_few_120 rfl q4_191 ?_
      refine g_ldiv 124 dX8_few_123 rfl (by decide) ?_
      refine g_lload 0 126 dX8_few_124 rfl rfl ?_
      refine g_ladd 127 dX8_few_126 rfl ?_
      refine h_lastore 128 (x6).toNatClampNeg dX8_few_127 rfl rfl s0.2.2.2.2.2.2.2.2.2.2.2.2.2.2.2.2.2.2.2.2.2.2.2.2.2.2.2.2.1 (b3 c1 c2) ?_
      refine g_iinc _ 6 131 [(6, .int ((x6 + (-1)))), (7, .long ((((g_ml M (a0 + 306) ((x6 - 1)).toNatClampNeg) * y3) / 10))), (0, .ref a0), (1, .int (x1)), (2, .int (x2)), (3, .long (y3)), (5, .int (x5))] dX8_few_128 rfl rfl rfl (Nat.le_of_ble_eq_true rfl) rfl ?_
      refine g_goto 70 dX8_few_131 rfl ?_
      exact g_sub [2, 3, 4, 5, 6, 0] _ rfl (h4 c1 c2)
    · skip
      refine g_lconst (0) 81 dX8_few_80 rfl rfl ?_
      refine g_goto 99 dX8_few_81 rfl ?_
      refine g_lstore 101 [(7, .long (0)), (0, .ref a0), (1, .int (x1)), (2, .int (x2)), (3, .long (y3)), (5, .int (x5)), (6, .int (x6))] dX8_few_99 rfl (Nat.le_of_ble_eq_true rfl) rfl ?_
      refine g_aload_n 1 102 dX8_few_101 rfl rfl ?_
      refine g_getR 105 (a0 + 306) dX8_few_102 rfl flX8_84 s0.1 s0.2.2.2.2.2.2.2.2.2.2.2.2.2.2.2.2.2.2.2.2.2.2.2.2.2.2.2.1 ?_
      refine g_iload 6 107 dX8_few_105 rfl rfl ?_
      refine g_aload_n 1 108 dX8_few_107 rfl rfl ?_
      refine g_getR 111 (a0 + 306) dX8_few_108 rfl flX8_84 s0.1 s0.2.2.2.2.2.2.2.2.2.2.2.2.2.2.2.2.2.2.2.2.2.2.2.2.2.2.2.1 ?_
      refine g_iload 6 113 dX8_few_111 rfl rfl ?_
      refine h_laload 114 (x6).toNatClampNeg dX8_few_113 rfl rfl s0.2.2.2.2.2.2.2.2.2.2.2.2.2.2.2.2.2.2.2.2.2.2.2.2.2.2.2.2.1 (b5 c1 c2) ?_
      refine g_ldc2 (10) 117 dX8_few_114 rfl q4_191 ?_
      refine g_lload_n 4 118 dX8_few_117 rfl rfl ?_
      refine g_lsub 119 dX8_few_118 rfl ?_
      refine g_lmul 120 dX8_few_119 rfl ?_
      refine g_ldc2 (10) 123 dX8_few_120 rfl q4_191 ?_
      refine g_ldiv 124 dX8_few_123 rfl (by decide) ?_
      refine g_lload 0 126 dX8_few_124 rfl rfl ?_
      refine g_ladd 127 dX8_few_126 rfl ?_
      refine h_lastore 128 (x6).toNatClampNeg dX8_few_127 rfl rfl s0.2.2.2.2.2.2.2.2.2.2.2.2.2.2.2.2.2.2.2.2.2.2.2.2.2.2.2.2.1 (b5 c1 c2) ?_
      refine g_iinc _ 6 131 [(6, .int ((x6 + (-1)))), (7, .long (0)), (0, .ref a0), (1, .int (x1)), (2, .int (x2)), (3, .long (y3)), (5, .int (x5))] dX8_few_128 rfl rfl rfl (Nat.le_of_ble_eq_true rfl) rfl ?_
      refine g_goto 70 dX8_few_131 rfl ?_
      exact g_sub [2, 3, 4, 5, 6, 0] _ rfl (h6 c1 c2)

set_option maxRecDepth 4000 in
theorem sX8_few_146 {X : gX} {d mc ms : Nat} {Q : Option Value → gM → Prop} {M : gM} {c z : Nat} {a0 : Nat} {x1 : Int32} {y5 : Int64} {x7 : Int32} (s0 : Ph M a0) (h1 : (x1 ≤ x7) → Q (some (.long (y5))) M) (w2 : c ≤ mc) (w3 : z ≤ ms) (b4 : (¬ x1 ≤ x7) → vp_in (x7) 20) (h5 : (¬ x1 ≤ x7) → Go X (d + 1) mc ms kX8_few Q 146 [(0, .ref a0), (1, .int (x1)), (5, .long ((y5 + (g_ml M (a0 + 306) (x7).toNatClampNeg)))), (7, .int ((x7 + 1)))] [] M c z) : Go X (d + 1) mc ms kX8_few Q 146 [(0, .ref a0), (1, .int (x1)), (5, .long (y5)), (7, .int (x7))] [] M c z := by
  refine g_iload 3 148 dX8_few_146 rfl rfl ?_
  refine g_iload_n 1 149 dX8_few_148 rfl rfl ?_
  refine g_icmp_ge 170 152 dX8_few_149 rfl rfl (fun c1 => ?_) (fun c1 => ?_)
  · skip
    refine g_lload 2 172 dX8_few_170 rfl rfl ?_
    exact g_lret dX8_few_172 rfl (w2) (w3) (h1 c1)
  · skip
    refine g_lload 2 154 dX8_few_152 rfl rfl ?_
    refine g_aload_n 0 155 dX8_few_154 rfl rfl ?_
    refine g_getR 158 (a0 + 306) dX8_few_155 rfl flX8_84 s0.1 s0.2.2.2.2.2.2.2.2.2.2.2.2.2.2.2.2.2.2.2.2.2.2.2.2.2.2.2.1 ?_
    refine g_iload 3 160 dX8_few_158 rfl rfl ?_
    refine h_laload 161 (x7).toNatClampNeg dX8_few_160 rfl rfl s0.2.2.2.2.2.2.2.2.2.2.2.2.2.2.2.2.2.2.2.2.2.2.2.2.2.2.2.2.1 (b4 c1) ?_
    refine g_ladd 162 dX8_few_161 rfl ?_
    refine g_lstore 164 [(5, .long ((y5 + (g_ml M (a0 + 306) (x7).toNatClampNeg)))), (0, .ref a0), (1, .int (x1)), (7, .int (x7))] dX8_few_162 rfl (Nat.le_of_ble_eq_true rfl) rfl ?_
    refine g_iinc _ 3 167 [(7, .int ((x7 + 1))), (5, .long ((y5 + (g_ml M (a0 + 306) (x7).toNatClampNeg)))), (0, .ref a0), (1, .int (x1))] dX8_few_164 rfl rfl rfl (Nat.le_of_ble_eq_true rfl) rfl ?_
    refine g_goto 146 dX8_few_167 rfl ?_
    exact g_sub [2, 3, 1, 0] _ rfl (h5 c1)

def bX8_few_0 (N : Nat) (M : gM) (a0 : Nat) (x1 : Int32) (x2 : Int32) (k : Nat → (Nat → Nat → Int32) → (Nat → Nat → Int64) → Nat → Int32 → Int32 → Int64 → Int32 → Int32 → Int64 → Int32 → Int64 × (Nat → Nat → Int32) × (Nat → Nat → Int64)) : Int64 × (Nat → Nat → Int32) × (Nat → Nat → Int64) := (if x1 < 1 then ((-1), g_mi M, g_ml M) else (if 20 < x1 then ((-1), g_mi M, g_ml M) else (if x2 < 0 then ((-1), g_mi M, g_ml M) else (if x2 ≤ 99 then (k 0 (g_mi (g_wl (mJ7_fill_d0a16 N M (a0 + 306) 20 0) (a0 + 306) 0 1000000000000)) (g_ml (g_wl (mJ7_fill_d0a16 N M (a0 + 306) 20 0) (a0 + 306) 0 1000000000000)) a0 x1 x2 (((g_mi M (((a0 + 1) + 1) + 2) 1) : Int32).toInt64) 0 0 0 0) else ((-1), g_mi M, g_ml M)))))
def eX8_few_0 (N : Nat) (M : gM) (a0 : Nat) (x1 : Int32) (x2 : Int32) (k : Nat → (Nat → Nat → Int32) → (Nat → Nat → Int64) → Nat → Int32 → Int32 → Int64 → Int32 → Int32 → Int64 → Int32 → Prop) : Prop := ((¬ x1 < 1) → (¬ 20 < x1) → (¬ x2 < 0) → (x2 ≤ 99) → EJ7_fill_d0a16 N M (a0 + 306) 20 0) ∧ (if x1 < 1 then True else (if 20 < x1 then True else (if x2 < 0 then True else (if x2 ≤ 99 then (k 0 (g_mi (g_wl (mJ7_fill_d0a16 N M (a0 + 306) 20 0) (a0 + 306) 0 1000000000000)) (g_ml (g_wl (mJ7_fill_d0a16 N M (a0 + 306) 20 0) (a0 + 306) 0 1000000000000)) a0 x1 x2 (((g_mi M (((a0 + 1) + 1) + 2) 1) : Int32).toInt64) 0 0 0 0) else True))))
def bX8_few_59 (N : Nat) (M : gM) (f : Nat → Nat → Int32) (g : Nat → Nat → Int64) (a0 : Nat) (x1 : Int32) (x2 : Int32) (y3 : Int64) (x5 : Int32) (k : Nat → (Nat → Nat → Int32) → (Nat → Nat → Int64) → Nat → Int32 → Int32 → Int64 → Int32 → Int32 → Int64 → Int32 → Int64 × (Nat → Nat → Int32) × (Nat → Nat → Int64)) : Int64 × (Nat → Nat → Int32) × (Nat → Nat → Int64) := (if x2 ≤ x5 then (k 2 (g_mi (g_wm M f g)) (g_ml (g_wm M f g)) a0 x1 0 0 0 0 0 0) else (k 1 (g_mi (g_wm M f g)) (g_ml (g_wm M f g)) a0 x1 x2 y3 x5 (x1 - 1) 0 0))
def eX8_few_59 (N : Nat) (M : gM) (f : Nat → Nat → Int32) (g : Nat → Nat → Int64) (a0 : Nat) (x1 : Int32) (x2 : Int32) (y3 : Int64) (x5 : Int32) (k : Nat → (Nat → Nat → Int32) → (Nat → Nat → Int64) → Nat → Int32 → Int32 → Int64 → Int32 → Int32 → Int64 → Int32 → Prop) : Prop := (if x2 ≤ x5 then (k 2 (g_mi (g_wm M f g)) (g_ml (g_wm M f g)) a0 x1 0 0 0 0 0 0) else (k 1 (g_mi (g_wm M f g)) (g_ml (g_wm M f g)) a0 x1 x2 y3 x5 (x1 - 1) 0 0))
def bX8_few_70 (N : Nat) (M : gM) (f : Nat → Nat → Int32) (g : Nat → Nat → Int64) (a0 : Nat) (x1 : Int32) (x2 : Int32) (y3 : Int64) (x5 : Int32) (x6 : Int32) (k : Nat → (Nat → Nat → Int32) → (Nat → Nat → Int64) → Nat → Int32 → Int32 → Int64 → Int32 → Int32 → Int64 → Int32 → Int64 × (Nat → Nat → Int32) × (Nat → Nat → Int64)) : Int64 × (Nat → Nat → Int32) × (Nat → Nat → Int64) := (if x6 < 0 then (k 0 (g_mi (g_wm M f g)) (g_ml (g_wm M f g)) a0 x1 x2 y3 (x5 + 1) 0 0 0) else (if x6 = 0 then (k 1 (g_mi (g_wl (g_wm M f g) (a0 + 306) (x6).toNatClampNeg ((((g_ml (g_wm M f g) (a0 + 306) (x6).toNatClampNeg) * (10 - y3)) / 10) + 0))) (g_ml (g_wl (g_wm M f g) (a0 + 306) (x6).toNatClampNeg ((((g_ml (g_wm M f g) (a0 + 306) (x6).toNatClampNeg) * (10 - y3)) / 10) + 0))) a0 x1 x2 y3 x5 (x6 + (-1)) 0 0) else (k 1 (g_mi (g_wl (g_wm M f g) (a0 + 306) (x6).toNatClampNeg ((((g_ml (g_wm M f g) (a0 + 306) (x6).toNatClampNeg) * (10 - y3)) / 10) + (((g_ml (g_wm M f g) (a0 + 306) ((x6 - 1)).toNatClampNeg) * y3) / 10)))) (g_ml (g_wl (g_wm M f g) (a0 + 306) (x6).toNatClampNeg ((((g_ml (g_wm M f g) (a0 + 306) (x6).toNatClampNeg) * (10 - y3)) / 10) + (((g_ml (g_wm M f g) (a0 + 306) ((x6 - 1)).toNatClampNeg) * y3) / 10)))) a0 x1 x2 y3 x5 (x6 + (-1)) 0 0)))
def eX8_few_70 (N : Nat) (M : gM) (f : Nat → Nat → Int32) (g : Nat → Nat → Int64) (a0 : Nat) (x1 : Int32) (x2 : Int32) (y3 : Int64) (x5 : Int32) (x6 : Int32) (k : Nat → (Nat → Nat → Int32) → (Nat → Nat → Int64) → Nat → Int32 → Int32 → Int64 → Int32 → Int32 → Int64 → Int32 → Prop) : Prop := ((¬ x6 < 0) → (¬ x6 = 0) → vp_in ((x6 - 1)) 20) ∧ ((¬ x6 < 0) → (¬ x6 = 0) → vp_in (x6) 20) ∧ ((¬ x6 < 0) → (x6 = 0) → vp_in (x6) 20) ∧ (if x6 < 0 then (k 0 (g_mi (g_wm M f g)) (g_ml (g_wm M f g)) a0 x1 x2 y3 (x5 + 1) 0 0 0) else (if x6 = 0 then (k 1 (g_mi (g_wl (g_wm M f g) (a0 + 306) (x6).toNatClampNeg ((((g_ml (g_wm M f g) (a0 + 306) (x6).toNatClampNeg) * (10 - y3)) / 10) + 0))) (g_ml (g_wl (g_wm M f g) (a0 + 306) (x6).toNatClampNeg ((((g_ml (g_wm M f g) (a0 + 306) (x6).toNatClampNeg) * (10 - y3)) / 10) + 0))) a0 x1 x2 y3 x5 (x6 + (-1)) 0 0) else (k 1 (g_mi (g_wl (g_wm M f g) (a0 + 306) (x6).toNatClampNeg ((((g_ml (g_wm M f g) (a0 + 306) (x6).toNatClampNeg) * (10 - y3)) / 10) + (((g_ml (g_wm M f g) (a0 + 306) ((x6 - 1)).toNatClampNeg) * y3) / 10)))) (g_ml (g_wl (g_wm M f g) (a0 + 306) (x6).toNatClampNeg ((((g_ml (g_wm M f g) (a0 + 306) (x6).toNatClampNeg) * (10 - y3)) / 10) + (((g_ml (g_wm M f g) (a0 + 306) ((x6 - 1)).toNatClampNeg) * y3) / 10)))) a0 x1 x2 y3 x5 (x6 + (-1)) 0 0)))
def bX8_few_146 (N : Nat) (M : gM) (f : Nat → Nat → Int32) (g : Nat → Nat → Int64) (a0 : Nat) (x1 : Int32) (y5 : Int64) (x7 : Int32) (k : Nat → (Nat → Nat → Int32) → (Nat → Nat → Int64) → Nat → Int32 → Int32 → Int64 → Int32 → Int32 → Int64 → Int32 → Int64 × (Nat → Nat → Int32) × (Nat → Nat → Int64)) : Int64 × (Nat → Nat → Int32) × (Nat → Nat → Int64) := (if x1 ≤ x7 then (y5, g_mi (g_wm M f g), g_ml (g_wm M f g)) else (k 2 (g_mi (g_wm M f g)) (g_ml (g_wm M f g)) a0 x1 0 0 0 0 (y5 + (g_ml (g_wm M f g) (a0 + 306) (x7).toNatClampNeg)) (x7 + 1)))
def eX8_few_146 (N : Nat) (M : gM) (f : Nat → Nat → Int32) (g : Nat → Nat → Int64) (a0 : Nat) (x1 : Int32) (y5 : Int64) (x7 : Int32) (k : Nat → (Nat → Nat → Int32) → (Nat → Nat → Int64) → Nat → Int32 → Int32 → Int64 → Int32 → Int32 → Int64 → Int32 → Prop) : Prop := ((¬ x1 ≤ x7) → vp_in (x7) 20) ∧ (if x1 ≤ x7 then True else (k 2 (g_mi (g_wm M f g)) (g_ml (g_wm M f g)) a0 x1 0 0 0 0 (y5 + (g_ml (g_wm M f g) (a0 + 306) (x7).toNatClampNeg)) (x7 + 1)))
def wX8_few (N : Nat) (M : gM) : Nat → Nat → (Nat → Nat → Int32) → (Nat → Nat → Int64) → Nat → Int32 → Int32 → Int64 → Int32 → Int32 → Int64 → Int32 → Int64 × (Nat → Nat → Int32) × (Nat → Nat → Int64)
  | 0, _, f, g, _, _, _, _, _, _, _, _ => (0, f, g)
  | n + 1, h, f, g, a0, x1, x2, y3, x5, x6, y5, x7 => if h = 0 then bX8_few_59 N M f g a0 x1 x2 y3 x5 (wX8_few N M n) else if h = 1 then bX8_few_70 N M f g a0 x1 x2 y3 x5 x6 (wX8_few N M n) else bX8_few_146 N M f g a0 x1 y5 x7 (wX8_few N M n)
def vX8_few (N : Nat) (M : gM) : Nat → Nat → (Nat → Nat → Int32) → (Nat → Nat → Int64) → Nat → Int32 → Int32 → Int64 → Int32 → Int32 → Int64 → Int32 → Prop
  | 0, _, _, _, _, _, _, _, _, _, _, _ => False
  | n + 1, h, f, g, a0, x1, x2, y3, x5, x6, y5, x7 => if h = 0 then eX8_few_59 N M f g a0 x1 x2 y3 x5 (vX8_few N M n) else if h = 1 then eX8_few_70 N M f g a0 x1 x2 y3 x5 x6 (vX8_few N M n) else eX8_few_146 N M f g a0 x1 y5 x7 (vX8_few N M n)
set_option maxRecDepth 10000 in
theorem lpX8_few {X : gX} {d mc ms : Nat} {Q : Option Value → gM → Prop} (N : Nat) (M : gM) : ∀ n : Nat, (∀ (f : Nat → Nat → Int32) (g : Nat → Nat → Int64) (a0 : Nat) (x1 : Int32) (x2 : Int32) (y3 : Int64) (x5 : Int32) (x6 : Int32) (y5 : Int64) (x7 : Int32), Ph M a0 → vX8_few N M n 0 f g a0 x1 x2 y3 x5 x6 y5 x7 → Q (some (.long (wX8_few N M n 0 f g a0 x1 x2 y3 x5 x6 y5 x7).1)) (g_wm M (wX8_few N M n 0 f g a0 x1 x2 y3 x5 x6 y5 x7).2.1 (wX8_few N M n 0 f g a0 x1 x2 y3 x5 x6 y5 x7).2.2) → Go X (d + 1) mc ms kX8_few Q 59 [(0, .ref a0), (1, .int (x1)), (2, .int (x2)), (3, .long (y3)), (5, .int (x5))] [] (g_wm M f g) 0 0) ∧ (∀ (f : Nat → Nat → Int32) (g : Nat → Nat → Int64) (a0 : Nat) (x1 : Int32) (x2 : Int32) (y3 : Int64) (x5 : Int32) (x6 : Int32) (y5 : Int64) (x7 : Int32), Ph M a0 → vX8_few N M n 1 f g a0 x1 x2 y3 x5 x6 y5 x7 → Q (some (.long (wX8_few N M n 1 f g a0 x1 x2 y3 x5 x6 y5 x7).1)) (g_wm M (wX8_few N M n 1 f g a0 x1 x2 y3 x5 x6 y5 x7).2.1 (wX8_few N M n 1 f g a0 x1 x2 y3 x5 x6 y5 x7).2.2) → Go X (d + 1) mc ms kX8_few Q 70 [(0, .ref a0), (1, .int (x1)), (2, .int (x2)), (3, .long (y3)), (5, .int (x5)), (6, .int (x6))] [] (g_wm M f g) 0 0) ∧ (∀ (f : Nat → Nat → Int32) (g : Nat → Nat → Int64) (a0 : Nat) (x1 : Int32) (x2 : Int32) (y3 : Int64) (x5 : Int32) (x6 : Int32) (y5 : Int64) (x7 : Int32), Ph M a0 → vX8_few N M n 2 f g a0 x1 x2 y3 x5 x6 y5 x7 → Q (some (.long (wX8_few N M n 2 f g a0 x1 x2 y3 x5 x6 y5 x7).1)) (g_wm M (wX8_few N M n 2 f g a0 x1 x2 y3 x5 x6 y5 x7).2.1 (wX8_few N M n 2 f g a0 x1 x2 y3 x5 x6 y5 x7).2.2) → Go X (d + 1) mc ms kX8_few Q 146 [(0, .ref a0), (1, .int (x1)), (5, .long (y5)), (7, .int (x7))] [] (g_wm M f g) 0 0) := by
  intro n
  induction n with
  | zero => exact ⟨fun _ _ _ _ _ _ _ _ _ _ _ h _ => h.elim, fun _ _ _ _ _ _ _ _ _ _ _ h _ => h.elim, fun _ _ _ _ _ _ _ _ _ _ _ h _ => h.elim⟩
  | succ n ih =>
    refine ⟨?_, ?_, ?_⟩
    · intro f g a0 x1 x2 y3 x5 x6 y5 x7 s0 hT hQ
      rw [vX8_few, if_pos (show (0 : Nat) = 0 from rfl)] at hT
      rw [wX8_few, if_pos (show (0 : Nat) = 0 from rfl)] at hQ
      unfold bX8_few_59 at hQ
      unfold eX8_few_59 at hT
      exact sX8_few_59 (M := (g_wm M f g)) (Ph.sl Sl.wm s0) (fun c1 => by simp only [if_pos c1] at hQ hT; exact Sl.g Sl.wm (ih.2.2 _ _ _ _ _ _ _ _ _ _ (s0) hT hQ)) (fun c1 => by simp only [if_neg c1] at hQ hT; exact Sl.g Sl.wm (ih.2.1 _ _ _ _ _ _ _ _ _ _ (s0) hT hQ))
    · intro f g a0 x1 x2 y3 x5 x6 y5 x7 s0 hT hQ
      rw [vX8_few, if_neg (show ¬ (1 : Nat) = 0 by decide), if_pos (show (1 : Nat) = 1 from rfl)] at hT
      rw [wX8_few, if_neg (show ¬ (1 : Nat) = 0 by decide), if_pos (show (1 : Nat) = 1 from rfl)] at hQ
      unfold bX8_few_70 at hQ
      unfold eX8_few_70 at hT
      obtain ⟨b2, b3, b5, hT⟩ := hT
      exact sX8_few_70 (M := (g_wm M f g)) (Ph.sl Sl.wm s0) (fun c1 => by simp only [if_pos c1] at hQ hT; exact Sl.g Sl.wm (ih.1 _ _ _ _ _ _ _ _ _ _ (s0) hT hQ)) b2 b3 (fun c1 c2 => by simp only [if_neg c1, if_neg c2] at hQ hT; exact Sl.g (Sl.tr Sl.wm (Sl.wl Sl.rf)) (ih.2.1 _ _ _ _ _ _ _ _ _ _ (s0) hT hQ)) b5 (fun c1 c2 => by simp only [if_neg c1, if_pos c2] at hQ hT; exact Sl.g (Sl.tr Sl.wm (Sl.wl Sl.rf)) (ih.2.1 _ _ _ _ _ _ _ _ _ _ (s0) hT hQ))
    · intro f g a0 x1 x2 y3 x5 x6 y5 x7 s0 hT hQ
      rw [vX8_few, if_neg (show ¬ (2 : Nat) = 0 by decide), if_neg (show ¬ (2 : Nat) = 1 by decide)] at hT
      rw [wX8_few, if_neg (show ¬ (2 : Nat) = 0 by decide), if_neg (show ¬ (2 : Nat) = 1 by decide)] at hQ
      unfold bX8_few_146 at hQ
      unfold eX8_few_146 at hT
      obtain ⟨b4, hT⟩ := hT
      exact sX8_few_146 (M := (g_wm M f g)) (Ph.sl Sl.wm s0) (fun c1 => by simp only [if_pos c1] at hQ; exact Sl.q Sl.wm hQ) (Nat.zero_le _) (Nat.zero_le _) b4 (fun c1 => by simp only [if_neg c1] at hQ hT; exact Sl.g Sl.wm (ih.2.2 _ _ _ _ _ _ _ _ _ _ (s0) hT hQ))
def fX8_few (N : Nat) (M : gM) (a0 : Nat) (x1 : Int32) (x2 : Int32) : Int64 := (bX8_few_0 N M a0 x1 x2 (wX8_few N M N)).1
def mX8_few (N : Nat) (M : gM) (a0 : Nat) (x1 : Int32) (x2 : Int32) : gM := g_wm M (bX8_few_0 N M a0 x1 x2 (wX8_few N M N)).2.1 (bX8_few_0 N M a0 x1 x2 (wX8_few N M N)).2.2
theorem jX8_few {N : Nat} {M : gM} {a0 : Nat} {x1 : Int32} {x2 : Int32} : Sl M (mX8_few N M a0 x1 x2) := Sl.wm
def EX8_few (N : Nat) (M : gM) (a0 : Nat) (x1 : Int32) (x2 : Int32) : Prop := eX8_few_0 N M a0 x1 x2 (vX8_few N M N)
theorem tX8_few {N : Nat} {X : gX} {d mc ms : Nat} {Q : Option Value → gM → Prop} {M : gM} {a0 : Nat} {x1 : Int32} {x2 : Int32} (s0 : Ph M a0) (hE : EX8_few N M a0 x1 x2) (hQ : Q (some (.long (fX8_few N M a0 x1 x2))) (mX8_few N M a0 x1 x2)) : Cn X (d + 1) mc ms kX8_few [.ref a0, .int (x1), .int (x2)] M Q := by
  unfold fX8_few mX8_few at hQ
  unfold bX8_few_0 at hQ
  unfold EX8_few eX8_few_0 at hE
  obtain ⟨b4, hT⟩ := hE
  have ih := lpX8_few (X := X) (d := d) (mc := mc) (ms := ms) (Q := Q) N M N
  exact sX8_few_0 s0 (fun c1 => by simp only [if_pos c1] at hQ; exact Sl.q Sl.rf hQ) (fun c1 c2 => by simp only [if_neg c1, if_pos c2] at hQ; exact Sl.q Sl.rf hQ) (fun c1 c2 c3 => by simp only [if_neg c1, if_neg c2, if_pos c3] at hQ; exact Sl.q Sl.rf hQ) b4 (fun c1 c2 c3 c4 => by simp only [if_neg c1, if_neg c2, if_neg c3, if_pos c4] at hQ hT; exact Sl.g (Sl.wl (Sl.tr Sl.rf jJ7_fill_d0a16)) (ih.1 _ _ _ _ _ _ _ _ _ _ (s0) hT hQ)) (fun c1 c2 c3 c4 => by simp only [if_neg c1, if_neg c2, if_neg c3, if_neg c4] at hQ; exact Sl.q Sl.rf hQ)
/-! X8_drawn  -/
set_option maxRecDepth 4000 in
theorem sX8_drawn_0 {X : gX} {d mc ms : Nat} {Q : Option Value → gM → Prop} {M : gM} {a0 : Nat} {x1 : Int32} (s0 : Ph M a0) (h1 : (x1 < 0) → Q (some (.int ((-1)))) M) (h2 : (¬ x1 < 0) → (40 ≤ x1) → Q (some (.int ((-1)))) M) (b3 : (¬ x1 < 0) → (¬ 40 ≤ x1) → vp_in (x1) 40) (h4 : (¬ x1 < 0) → (¬ 40 ≤ x1) → Q (some (.int ((g_mi M (a0 + 303) (x1).toNatClampNeg)))) M) : Cn X d mc ms kX8_drawn [.ref a0, .int (x1)] M Q := by
  refine g_meth rfl rfl (Nat.le_of_ble_eq_true rfl) rfl ?_
  refine g_iload_n 1 1 dX8_drawn_0 rfl rfl ?_
  refine g_if_lt 19 4 dX8_drawn_1 rfl rfl (fun c1 => ?_) (fun c1 => ?_)
  · skip
    refine g_iconst ((-1)) 20 dX8_drawn_19 rfl rfl ?_
    exact g_iret dX8_drawn_20 rfl (Nat.zero_le _) (Nat.zero_le _) (h1 c1)
  · skip
    refine g_iload_n 1 5 dX8_drawn_4 rfl rfl ?_
    refine g_bipush (40) 7 dX8_drawn_5 rfl rfl ?_
    refine g_icmp_ge 19 10 dX8_drawn_7 rfl rfl (fun c2 => ?_) (fun c2 => ?_)
    · skip
      refine g_iconst ((-1)) 20 dX8_drawn_19 rfl rfl ?_
      exact g_iret dX8_drawn_20 rfl (Nat.zero_le _) (Nat.zero_le _) (h2 c1 c2)
    · skip
      refine g_aload_n 0 11 dX8_drawn_10 rfl rfl ?_
      refine g_getR 14 (a0 + 303) dX8_drawn_11 rfl flX8_74 s0.1 s0.2.2.2.2.2.2.2.2.2.2.2.2.2.2.2.2.2.2.2.2.2.1 ?_
      refine g_iload_n 1 15 dX8_drawn_14 rfl rfl ?_
      refine h_iaload 16 (x1).toNatClampNeg dX8_drawn_15 rfl rfl s0.2.2.2.2.2.2.2.2.2.2.2.2.2.2.2.2.2.2.2.2.2.2.1 (b3 c1 c2) ?_
      refine g_goto 20 dX8_drawn_16 rfl ?_
      exact g_iret dX8_drawn_20 rfl (Nat.zero_le _) (Nat.zero_le _) (h4 c1 c2)

def fX8_drawn (M : gM) (a0 : Nat) (x1 : Int32) : Int32 := (if x1 < 0 then (-1) else (if 40 ≤ x1 then (-1) else (g_mi M (a0 + 303) (x1).toNatClampNeg)))
def EX8_drawn (M : gM) (a0 : Nat) (x1 : Int32) : Prop := ((¬ x1 < 0) → (¬ 40 ≤ x1) → vp_in (x1) 40)
theorem tX8_drawn {X : gX} {d mc ms : Nat} {Q : Option Value → gM → Prop} {M : gM} {a0 : Nat} {x1 : Int32} (s0 : Ph M a0) (hE : EX8_drawn M a0 x1) (hQ : Q (some (.int (fX8_drawn M a0 x1))) M) : Cn X d mc ms kX8_drawn [.ref a0, .int (x1)] M Q := by
  unfold fX8_drawn at hQ
  have b3 := hE
  exact sX8_drawn_0 s0 (fun c1 => by simp only [if_pos c1] at hQ; exact hQ) (fun c1 c2 => by simp only [if_neg c1, if_pos c2] at hQ; exact hQ) b3 (fun c1 c2 => by simp only [if_neg c1, if_neg c2] at hQ; exact hQ)
/-! X8_count  -/
set_option maxRecDepth 4000 in
theorem sX8_count_0 {X : gX} {d mc ms : Nat} {Q : Option Value → gM → Prop} {M : gM} {a0 : Nat} {x1 : Int32} (s0 : Ph M a0) (h1 : (x1 = 0) → Q (some (.int ((g_mi M ((a0 + 1) + 1) 3)))) M) (h2 : (¬ x1 = 0) → (x1 = 1) → Q (some (.int ((g_mi M ((a0 + 1) + 1) 4)))) M) (h3 : (¬ x1 = 0) → (¬ x1 = 1) → (x1 = 2) → Q (some (.int ((g_mi M ((a0 + 1) + 1) 5)))) M) (h4 : (¬ x1 = 0) → (¬ x1 = 1) → (¬ x1 = 2) → (x1 = 3) → Q (some (.int ((g_mi M (a0 + 1) 4)))) M) (h5 : (¬ x1 = 0) → (¬ x1 = 1) → (¬ x1 = 2) → (¬ x1 = 3) → (x1 = 4) → Q (some (.int ((g_mi M (a0 + 1) 5)))) M) (h6 : (¬ x1 = 0) → (¬ x1 = 1) → (¬ x1 = 2) → (¬ x1 = 3) → (¬ x1 = 4) → (x1 = 5) → Q (some (.int ((g_mi M (a0 + 13) 3)))) M) (h7 : (¬ x1 = 0) → (¬ x1 = 1) → (¬ x1 = 2) → (¬ x1 = 3) → (¬ x1 = 4) → (¬ x1 = 5) → (x1 = 6) → Q (some (.int ((g_mi M (a0 + 282) 5)))) M) (h8 : (¬ x1 = 0) → (¬ x1 = 1) → (¬ x1 = 2) → (¬ x1 = 3) → (¬ x1 = 4) → (¬ x1 = 5) → (¬ x1 = 6) → (x1 = 7) → (x1 < 7) → (x1 < 13) → Q (some (.int ((-1)))) M) (h9 : (¬ x1 = 0) → (¬ x1 = 1) → (¬ x1 = 2) → (¬ x1 = 3) → (¬ x1 = 4) → (¬ x1 = 5) → (¬ x1 = 6) → (x1 = 7) → (x1 < 7) → (¬ x1 < 13) → (15 < x1) → Q (some (.int ((-1)))) M) (b10 : (¬ x1 = 0) → (¬ x1 = 1) → (¬ x1 = 2) → (¬ x1 = 3) → (¬ x1 = 4) → (¬ x1 = 5) → (¬ x1 = 6) → (x1 = 7) → (x1 < 7) → (¬ x1 < 13) → (¬ 15 < x1) → vp_in ((x1 - 13)) 3) (h11 : (¬ x1 = 0) → (¬ x1 = 1) → (¬ x1 = 2) → (¬ x1 = 3) → (¬ x1 = 4) → (¬ x1 = 5) → (¬ x1 = 6) → (x1 = 7) → (x1 < 7) → (¬ x1 < 13) → (¬ 15 < x1) → Q (some (.int ((g_mi M (((a0 + 1) + 1) + 2) ((x1 - 13)).toNatClampNeg)))) M) (h12 : (¬ x1 = 0) → (¬ x1 = 1) → (¬ x1 = 2) → (¬ x1 = 3) → (¬ x1 = 4) → (¬ x1 = 5) → (¬ x1 = 6) → (x1 = 7) → (¬ x1 < 7) → (11 < x1) → (x1 < 13) → Q (some (.int ((-1)))) M) (h13 : (¬ x1 = 0) → (¬ x1 = 1) → (¬ x1 = 2) → (¬ x1 = 3) → (¬ x1 = 4) → (¬ x1 = 5) → (¬ x1 = 6) → (x1 = 7) → (¬ x1 < 7) → (11 < x1) → (¬ x1 < 13) → (15 < x1) → Q (some (.int ((-1)))) M) (b14 : (¬ x1 = 0) → (¬ x1 = 1) → (¬ x1 = 2) → (¬ x1 = 3) → (¬ x1 = 4) → (¬ x1 = 5) → (¬ x1 = 6) → (x1 = 7) → (¬ x1 < 7) → (11 < x1) → (¬ x1 < 13) → (¬ 15 < x1) → vp_in ((x1 - 13)) 3) (h15 : (¬ x1 = 0) → (¬ x1 = 1) → (¬ x1 = 2) → (¬ x1 = 3) → (¬ x1 = 4) → (¬ x1 = 5) → (¬ x1 = 6) → (x1 = 7) → (¬ x1 < 7) → (11 < x1) → (¬ x1 < 13) → (¬ 15 < x1) → Q (some (.int ((g_mi M (((a0 + 1) + 1) + 2) ((x1 - 13)).toNatClampNeg)))) M) (b16 : (¬ x1 = 0) → (¬ x1 = 1) → (¬ x1 = 2) → (¬ x1 = 3) → (¬ x1 = 4) → (¬ x1 = 5) → (¬ x1 = 6) → (x1 = 7) → (¬ x1 < 7) → (¬ 11 < x1) → vp_in ((x1 - 7)) 5) (h17 : (¬ x1 = 0) → (¬ x1 = 1) → (¬ x1 = 2) → (¬ x1 = 3) → (¬ x1 = 4) → (¬ x1 = 5) → (¬ x1 = 6) → (x1 = 7) → (¬ x1 < 7) → (¬ 11 < x1) → Q (some (.int ((g_mi M (a0 + 304) ((x1 - 7)).toNatClampNeg)))) M) (h18 : (¬ x1 = 0) → (¬ x1 = 1) → (¬ x1 = 2) → (¬ x1 = 3) → (¬ x1 = 4) → (¬ x1 = 5) → (¬ x1 = 6) → (¬ x1 = 7) → (x1 = 8) → (x1 < 7) → (x1 < 13) → Q (some (.int ((-1)))) M) (h19 : (¬ x1 = 0) → (¬ x1 = 1) → (¬ x1 = 2) → (¬ x1 = 3) → (¬ x1 = 4) → (¬ x1 = 5) → (¬ x1 = 6) → (¬ x1 = 7) → (x1 = 8) → (x1 < 7) → (¬ x1 < 13) → (15 < x1) → Q (some (.int ((-1)))) M) (b20 : (¬ x1 = 0) → (¬ x1 = 1) → (¬ x1 = 2) → (¬ x1 = 3) → (¬ x1 = 4) → (¬ x1 = 5) → (¬ x1 = 6) → (¬ x1 = 7) → (x1 = 8) → (x1 < 7) → (¬ x1 < 13) → (¬ 15 < x1) → vp_in ((x1 - 13)) 3) (h21 : (¬ x1 = 0) → (¬ x1 = 1) → (¬ x1 = 2) → (¬ x1 = 3) → (¬ x1 = 4) → (¬ x1 = 5) → (¬ x1 = 6) → (¬ x1 = 7) → (x1 = 8) → (x1 < 7) → (¬ x1 < 13) → (¬ 15 < x1) → Q (some (.int ((g_mi M (((a0 + 1) + 1) + 2) ((x1 - 13)).toNatClampNeg)))) M) (h22 : (¬ x1 = 0) → (¬ x1 = 1) → (¬ x1 = 2) → (¬ x1 = 3) → (¬ x1 = 4) → (¬ x1 = 5) → (¬ x1 = 6) → (¬ x1 = 7) → (x1 = 8) → (¬ x1 < 7) → (11 < x1) → (x1 < 13) → Q (some (.int ((-1)))) M) (h23 : (¬ x1 = 0) → (¬ x1 = 1) → (¬ x1 = 2) → (¬ x1 = 3) → (¬ x1 = 4) → (¬ x1 = 5) → (¬ x1 = 6) → (¬ x1 = 7) → (x1 = 8) → (¬ x1 < 7) → (11 < x1) → (¬ x1 < 13) → (15 < x1) → Q (some (.int ((-1)))) M) (b24 : (¬ x1 = 0) → (¬ x1 = 1) → (¬ x1 = 2) → (¬ x1 = 3) → (¬ x1 = 4) → (¬ x1 = 5) → (¬ x1 = 6) → (¬ x1 = 7) → (x1 = 8) → (¬ x1 < 7) → (11 < x1) → (¬ x1 < 13) → (¬ 15 < x1) → vp_in ((x1 - 13)) 3) (h25 : (¬ x1 = 0) → (¬ x1 = 1) → (¬ x1 = 2) → (¬ x1 = 3) → (¬ x1 = 4) → (¬ x1 = 5) → (¬ x1 = 6) → (¬ x1 = 7) → (x1 = 8) → (¬ x1 < 7) → (11 < x1) → (¬ x1 < 13) → (¬ 15 < x1) → Q (some (.int ((g_mi M (((a0 + 1) + 1) + 2) ((x1 - 13)).toNatClampNeg)))) M) (b26 : (¬ x1 = 0) → (¬ x1 = 1) → (¬ x1 = 2) → (¬ x1 = 3) → (¬ x1 = 4) → (¬ x1 = 5) → (¬ x1 = 6) → (¬ x1 = 7) → (x1 = 8) → (¬ x1 < 7) → (¬ 11 < x1) → vp_in ((x1 - 7)) 5) (h27 : (¬ x1 = 0) → (¬ x1 = 1) → (¬ x1 = 2) → (¬ x1 = 3) → (¬ x1 = 4) → (¬ x1 = 5) → (¬ x1 = 6) → (¬ x1 = 7) → (x1 = 8) → (¬ x1 < 7) → (¬ 11 < x1) → Q (some (.int ((g_mi M (a0 + 304) ((x1 - 7)).toNatClampNeg)))) M) (h28 : (¬ x1 = 0) → (¬ x1 = 1) → (¬ x1 = 2) → (¬ x1 = 3) → (¬ x1 = 4) → (¬ x1 = 5) → (¬ x1 = 6) → (¬ x1 = 7) → (¬ x1 = 8) → (x1 = 9) → (x1 < 7) → (x1 < 13) → Q (some (.int ((-1)))) M) (h29 : (¬ x1 = 0) → (¬ x1 = 1) → (¬ x1 = 2) → (¬ x1 = 3) → (¬ x1 = 4) → (¬ x1 = 5) → (¬ x1 = 6) → (¬ x1 = 7) → (¬ x1 = 8) → (x1 = 9) → (x1 < 7) → (¬ x1 < 13) → (15 < x1) → Q (some (.int ((-1)))) M) (b30 : (¬ x1 = 0) → (¬ x1 = 1) → (¬ x1 = 2) → (¬ x1 = 3) → (¬ x1 = 4) → (¬ x1 = 5) → (¬ x1 = 6) → (¬ x1 = 7) → (¬ x1 = 8) → (x1 = 9) → (x1 < 7) → (¬ x1 < 13) → (¬ 15 < x1) → vp_in ((x1 - 13)) 3) (h31 : (¬ x1 = 0) → (¬ x1 = 1) → (¬ x1 = 2) → (¬ x1 = 3) → (¬ x1 = 4) → (¬ x1 = 5) → (¬ x1 = 6) → (¬ x1 = 7) → (¬ x1 = 8) → (x1 = 9) → (x1 < 7) → (¬ x1 < 13) → (¬ 15 < x1) → Q (some (.int ((g_mi M (((a0 + 1) + 1) + 2) ((x1 - 13)).toNatClampNeg)))) M) (h32 : (¬ x1 = 0) → (¬ x1 = 1) → (¬ x1 = 2) → (¬ x1 = 3) → (¬ x1 = 4) → (¬ x1 = 5) → (¬ x1 = 6) → (¬ x1 = 7) → (¬ x1 = 8) → (x1 = 9) → (¬ x1 < 7) → (11 < x1) → (x1 < 13) → Q (some (.int ((-1)))) M) (h33 : (¬ x1 = 0) → (¬ x1 = 1) → (¬ x1 = 2) → (¬ x1 = 3) → (¬ x1 = 4) → (¬ x1 = 5) → (¬ x1 = 6) → (¬ x1 = 7) → (¬ x1 = 8) → (x1 = 9) → (¬ x1 < 7) → (11 < x1) → (¬ x1 < 13) → (15 < x1) → Q (some (.int ((-1)))) M) (b34 : (¬ x1 = 0) → (¬ x1 = 1) → (¬ x1 = 2) → (¬ x1 = 3) → (¬ x1 = 4) → (¬ x1 = 5) → (¬ x1 = 6) → (¬ x1 = 7) → (¬ x1 = 8) → (x1 = 9) → (¬ x1 < 7) → (11 < x1) → (¬ x1 < 13) → (¬ 15 < x1) → vp_in ((x1 - 13)) 3) (h35 : (¬ x1 = 0) → (¬ x1 = 1) → (¬ x1 = 2) → (¬ x1 = 3) → (¬ x1 = 4) → (¬ x1 = 5) → (¬ x1 = 6) → (¬ x1 = 7) → (¬ x1 = 8) → (x1 = 9) → (¬ x1 < 7) → (11 < x1) → (¬ x1 < 13) → (¬ 15 < x1) → Q (some (.int ((g_mi M (((a0 + 1) + 1) + 2) ((x1 - 13)).toNatClampNeg)))) M) (b36 : (¬ x1 = 0) → (¬ x1 = 1) → (¬ x1 = 2) → (¬ x1 = 3) → (¬ x1 = 4) → (¬ x1 = 5) → (¬ x1 = 6) → (¬ x1 = 7) → (¬ x1 = 8) → (x1 = 9) → (¬ x1 < 7) → (¬ 11 < x1) → vp_in ((x1 - 7)) 5) (h37 : (¬ x1 = 0) → (¬ x1 = 1) → (¬ x1 = 2) → (¬ x1 = 3) → (¬ x1 = 4) → (¬ x1 = 5) → (¬ x1 = 6) → (¬ x1 = 7) → (¬ x1 = 8) → (x1 = 9) → (¬ x1 < 7) → (¬ 11 < x1) → Q (some (.int ((g_mi M (a0 + 304) ((x1 - 7)).toNatClampNeg)))) M) (h38 : (¬ x1 = 0) → (¬ x1 = 1) → (¬ x1 = 2) → (¬ x1 = 3) → (¬ x1 = 4) → (¬ x1 = 5) → (¬ x1 = 6) → (¬ x1 = 7) → (¬ x1 = 8) → (¬ x1 = 9) → (x1 = 10) → (x1 < 7) → (x1 < 13) → Q (some (.int ((-1)))) M) (h39 : (¬ x1 = 0) → (¬ x1 = 1) → (¬ x1 = 2) → (¬ x1 = 3) → (¬ x1 = 4) → (¬ x1 = 5) → (¬ x1 = 6) → (¬ x1 = 7) → (¬ x1 = 8) → (¬ x1 = 9) → (x1 = 10) → (x1 < 7) → (¬ x1 < 13) → (15 < x1) → Q (some (.int ((-1)))) M) (b40 : (¬ x1 = 0) → (¬ x1 = 1) → (¬ x1 = 2) → (¬ x1 = 3) → (¬ x1 = 4) → (¬ x1 = 5) → (¬ x1 = 6) → (¬ x1 = 7) → (¬ x1 = 8) → (¬ x1 = 9) → (x1 = 10) → (x1 < 7) → (¬ x1 < 13) → (¬ 15 < x1) → vp_in ((x1 - 13)) 3) (h41 : (¬ x1 = 0) → (¬ x1 = 1) → (¬ x1 = 2) → (¬ x1 = 3) → (¬ x1 = 4) → (¬ x1 = 5) → (¬ x1 = 6) → (¬ x1 = 7) → (¬ x1 = 8) → (¬ x1 = 9) → (x1 = 10) → (x1 < 7) → (¬ x1 < 13) → (¬ 15 < x1) → Q (some (.int ((g_mi M (((a0 + 1) + 1) + 2) ((x1 - 13)).toNatClampNeg)))) M) (h42 : (¬ x1 = 0) → (¬ x1 = 1) → (¬ x1 = 2) → (¬ x1 = 3) → (¬ x1 = 4) → (¬ x1 = 5) → (¬ x1 = 6) → (¬ x1 = 7) → (¬ x1 = 8) → (¬ x1 = 9) → (x1 = 10) → (¬ x1 < 7) → (11 < x1) → (x1 < 13) → Q (some (.int ((-1)))) M) (h43 : (¬ x1 = 0) → (¬ x1 = 1) → (¬ x1 = 2) → (¬ x1 = 3) → (¬ x1 = 4) → (¬ x1 = 5) → (¬ x1 = 6) → (¬ x1 = 7) → (¬ x1 = 8) → (¬ x1 = 9) → (x1 = 10) → (¬ x1 < 7) → (11 < x1) → (¬ x1 < 13) → (15 < x1) → Q (some (.int ((-1)))) M) (b44 : (¬ x1 = 0) → (¬ x1 = 1) → (¬ x1 = 2) → (¬ x1 = 3) → (¬ x1 = 4) → (¬ x1 = 5) → (¬ x1 = 6) → (¬ x1 = 7) → (¬ x1 = 8) → (¬ x1 = 9) → (x1 = 10) → (¬ x1 < 7) → (11 < x1) → (¬ x1 < 13) → (¬ 15 < x1) → vp_in ((x1 - 13)) 3) (h45 : (¬ x1 = 0) → (¬ x1 = 1) → (¬ x1 = 2) → (¬ x1 = 3) → (¬ x1 = 4) → (¬ x1 = 5) → (¬ x1 = 6) → (¬ x1 = 7) → (¬ x1 = 8) → (¬ x1 = 9) → (x1 = 10) → (¬ x1 < 7) → (11 < x1) → (¬ x1 < 13) → (¬ 15 < x1) → Q (some (.int ((g_mi M (((a0 + 1) + 1) + 2) ((x1 - 13)).toNatClampNeg)))) M) (b46 : (¬ x1 = 0) → (¬ x1 = 1) → (¬ x1 = 2) → (¬ x1 = 3) → (¬ x1 = 4) → (¬ x1 = 5) → (¬ x1 = 6) → (¬ x1 = 7) → (¬ x1 = 8) → (¬ x1 = 9) → (x1 = 10) → (¬ x1 < 7) → (¬ 11 < x1) → vp_in ((x1 - 7)) 5) (h47 : (¬ x1 = 0) → (¬ x1 = 1) → (¬ x1 = 2) → (¬ x1 = 3) → (¬ x1 = 4) → (¬ x1 = 5) → (¬ x1 = 6) → (¬ x1 = 7) → (¬ x1 = 8) → (¬ x1 = 9) → (x1 = 10) → (¬ x1 < 7) → (¬ 11 < x1) → Q (some (.int ((g_mi M (a0 + 304) ((x1 - 7)).toNatClampNeg)))) M) (h48 : (¬ x1 = 0) → (¬ x1 = 1) → (¬ x1 = 2) → (¬ x1 = 3) → (¬ x1 = 4) → (¬ x1 = 5) → (¬ x1 = 6) → (¬ x1 = 7) → (¬ x1 = 8) → (¬ x1 = 9) → (¬ x1 = 10) → (x1 = 11) → (x1 < 7) → (x1 < 13) → Q (some (.int ((-1)))) M) (h49 : (¬ x1 = 0) → (¬ x1 = 1) → (¬ x1 = 2) → (¬ x1 = 3) → (¬ x1 = 4) → (¬ x1 = 5) → (¬ x1 = 6) → (¬ x1 = 7) → (¬ x1 = 8) → (¬ x1 = 9) → (¬ x1 = 10) → (x1 = 11) → (x1 < 7) → (¬ x1 < 13) → (15 < x1) → Q (some (.int ((-1)))) M) (b50 : (¬ x1 = 0) → (¬ x1 = 1) → (¬ x1 = 2) → (¬ x1 = 3) → (¬ x1 = 4) → (¬ x1 = 5) → (¬ x1 = 6) → (¬ x1 = 7) → (¬ x1 = 8) → (¬ x1 = 9) → (¬ x1 = 10) → (x1 = 11) → (x1 < 7) → (¬ x1 < 13) → (¬ 15 < x1) → vp_in ((x1 - 13)) 3) (h51 : (¬ x1 = 0) → (¬ x1 = 1) → (¬ x1 = 2) → (¬ x1 = 3) → (¬ x1 = 4) → (¬ x1 = 5) → (¬ x1 = 6) → (¬ x1 = 7) → (¬ x1 = 8) → (¬ x1 = 9) → (¬ x1 = 10) → (x1 = 11) → (x1 < 7) → (¬ x1 < 13) → (¬ 15 < x1) → Q (some (.int ((g_mi M (((a0 + 1) + 1) + 2) ((x1 - 13)).toNatClampNeg)))) M) (h52 : (¬ x1 = 0) → (¬ x1 = 1) → (¬ x1 = 2) → (¬ x1 = 3) → (¬ x1 = 4) → (¬ x1 = 5) → (¬ x1 = 6) → (¬ x1 = 7) → (¬ x1 = 8) → (¬ x1 = 9) → (¬ x1 = 10) → (x1 = 11) → (¬ x1 < 7) → (11 < x1) → (x1 < 13) → Q (some (.int ((-1)))) M) (h53 : (¬ x1 = 0) → (¬ x1 = 1) → (¬ x1 = 2) → (¬ x1 = 3) → (¬ x1 = 4) → (¬ x1 = 5) → (¬ x1 = 6) → (¬ x1 = 7) → (¬ x1 = 8) → (¬ x1 = 9) → (¬ x1 = 10) → (x1 = 11) → (¬ x1 < 7) → (11 < x1) → (¬ x1 < 13) → (15 < x1) → Q (some (.int ((-1)))) M) (b54 : (¬ x1 = 0) → (¬ x1 = 1) → (¬ x1 = 2) → (¬ x1 = 3) → (¬ x1 = 4) → (¬ x1 = 5) → (¬ x1 = 6) → (¬ x1 = 7) → (¬ x1 = 8) → (¬ x1 = 9) → (¬ x1 = 10) → (x1 = 11) → (¬ x1 < 7) → (11 < x1) → (¬ x1 < 13) → (¬ 15 < x1) → vp_in ((x1 - 13)) 3) (h55 : (¬ x1 = 0) → (¬ x1 = 1) → (¬ x1 = 2) → (¬ x1 = 3) → (¬ x1 = 4) → (¬ x1 = 5) → (¬ x1 = 6) → (¬ x1 = 7) → (¬ x1 = 8) → (¬ x1 = 9) → (¬ x1 = 10) → (x1 = 11) → (¬ x1 < 7) → (11 < x1) → (¬ x1 < 13) → (¬ 15 < x1) → Q (some (.int ((g_mi M (((a0 + 1) + 1) + 2) ((x1 - 13)).toNatClampNeg)))) M) (b56 : (¬ x1 = 0) → (¬ x1 = 1) → (¬ x1 = 2) → (¬ x1 = 3) → (¬ x1 = 4) → (¬ x1 = 5) → (¬ x1 = 6) → (¬ x1 = 7) → (¬ x1 = 8) → (¬ x1 = 9) → (¬ x1 = 10) → (x1 = 11) → (¬ x1 < 7) → (¬ 11 < x1) → vp_in ((x1 - 7)) 5) (h57 : (¬ x1 = 0) → (¬ x1 = 1) → (¬ x1 = 2) → (¬ x1 = 3) → (¬ x1 = 4) → (¬ x1 = 5) → (¬ x1 = 6) → (¬ x1 = 7) → (¬ x1 = 8) → (¬ x1 = 9) → (¬ x1 = 10) → (x1 = 11) → (¬ x1 < 7) → (¬ 11 < x1) → Q (some (.int ((g_mi M (a0 + 304) ((x1 - 7)).toNatClampNeg)))) M) (h58 : (¬ x1 = 0) → (¬ x1 = 1) → (¬ x1 = 2) → (¬ x1 = 3) → (¬ x1 = 4) → (¬ x1 = 5) → (¬ x1 = 6) → (¬ x1 = 7) → (¬ x1 = 8) → (¬ x1 = 9) → (¬ x1 = 10) → (¬ x1 = 11) → (x1 = 12) → Q (some (.int ((g_mi M (a0 + 1) 6)))) M) (h59 : (¬ x1 = 0) → (¬ x1 = 1) → (¬ x1 = 2) → (¬ x1 = 3) → (¬ x1 = 4) → (¬ x1 = 5) → (¬ x1 = 6) → (¬ x1 = 7) → (¬ x1 = 8) → (¬ x1 = 9) → (¬ x1 = 10) → (¬ x1 = 11) → (¬ x1 = 12) → (x1 < 7) → (x1 < 13) → Q (some (.int ((-1)))) M) (h60 : (¬ x1 = 0) → (¬ x1 = 1) → (¬ x1 = 2) → (¬ x1 = 3) → (¬ x1 = 4) → (¬ x1 = 5) → (¬ x1 = 6) → (¬ x1 = 7) → (¬ x1 = 8) → (¬ x1 = 9) → (¬ x1 = 10) → (¬ x1 = 11) → (¬ x1 = 12) → (x1 < 7) → (¬ x1 < 13) → (15 < x1) → Q (some (.int ((-1)))) M) (b61 : (¬ x1 = 0) → (¬ x1 = 1) → (¬ x1 = 2) → (¬ x1 = 3) → (¬ x1 = 4) → (¬ x1 = 5) → (¬ x1 = 6) → (¬ x1 = 7) → (¬ x1 = 8) → (¬ x1 = 9) → (¬ x1 = 10) → (¬ x1 = 11) → (¬ x1 = 12) → (x1 < 7) → (¬ x1 < 13) → (¬ 15 < x1) → vp_in ((x1 - 13)) 3) (h62 : (¬ x1 = 0) → (¬ x1 = 1) → (¬ x1 = 2) → (¬ x1 = 3) → (¬ x1 = 4) → (¬ x1 = 5) → (¬ x1 = 6) → (¬ x1 = 7) → (¬ x1 = 8) → (¬ x1 = 9) → (¬ x1 = 10) → (¬ x1 = 11) → (¬ x1 = 12) → (x1 < 7) → (¬ x1 < 13) → (¬ 15 < x1) → Q (some (.int ((g_mi M (((a0 + 1) + 1) + 2) ((x1 - 13)).toNatClampNeg)))) M) (h63 : (¬ x1 = 0) → (¬ x1 = 1) → (¬ x1 = 2) → (¬ x1 = 3) → (¬ x1 = 4) → (¬ x1 = 5) → (¬ x1 = 6) → (¬ x1 = 7) → (¬ x1 = 8) → (¬ x1 = 9) → (¬ x1 = 10) → (¬ x1 = 11) → (¬ x1 = 12) → (¬ x1 < 7) → (11 < x1) → (x1 < 13) → Q (some (.int ((-1)))) M) (h64 : (¬ x1 = 0) → (¬ x1 = 1) → (¬ x1 = 2) → (¬ x1 = 3) → (¬ x1 = 4) → (¬ x1 = 5) → (¬ x1 = 6) → (¬ x1 = 7) → (¬ x1 = 8) → (¬ x1 = 9) → (¬ x1 = 10) → (¬ x1 = 11) → (¬ x1 = 12) → (¬ x1 < 7) → (11 < x1) → (¬ x1 < 13) → (15 < x1) → Q (some (.int ((-1)))) M) (b65 : (¬ x1 = 0) → (¬ x1 = 1) → (¬ x1 = 2) → (¬ x1 = 3) → (¬ x1 = 4) → (¬ x1 = 5) → (¬ x1 = 6) → (¬ x1 = 7) → (¬ x1 = 8) → (¬ x1 = 9) → (¬ x1 = 10) → (¬ x1 = 11) → (¬ x1 = 12) → (¬ x1 < 7) → (11 < x1) → (¬ x1 < 13) → (¬ 15 < x1) → vp_in ((x1 - 13)) 3) (h66 : (¬ x1 = 0) → (¬ x1 = 1) → (¬ x1 = 2) → (¬ x1 = 3) → (¬ x1 = 4) → (¬ x1 = 5) → (¬ x1 = 6) → (¬ x1 = 7) → (¬ x1 = 8) → (¬ x1 = 9) → (¬ x1 = 10) → (¬ x1 = 11) → (¬ x1 = 12) → (¬ x1 < 7) → (11 < x1) → (¬ x1 < 13) → (¬ 15 < x1) → Q (some (.int ((g_mi M (((a0 + 1) + 1) + 2) ((x1 - 13)).toNatClampNeg)))) M) (b67 : (¬ x1 = 0) → (¬ x1 = 1) → (¬ x1 = 2) → (¬ x1 = 3) → (¬ x1 = 4) → (¬ x1 = 5) → (¬ x1 = 6) → (¬ x1 = 7) → (¬ x1 = 8) → (¬ x1 = 9) → (¬ x1 = 10) → (¬ x1 = 11) → (¬ x1 = 12) → (¬ x1 < 7) → (¬ 11 < x1) → vp_in ((x1 - 7)) 5) (h68 : (¬ x1 = 0) → (¬ x1 = 1) → (¬ x1 = 2) → (¬ x1 = 3) → (¬ x1 = 4) → (¬ x1 = 5) → (¬ x1 = 6) → (¬ x1 = 7) → (¬ x1 = 8) → (¬ x1 = 9) → (¬ x1 = 10) → (¬ x1 = 11) → (¬ x1 = 12) → (¬ x1 < 7) → (¬ 11 < x1) → Q (some (.int ((g_mi M (a0 + 304) ((x1 - 7)).toNatClampNeg)))) M) : Cn X d mc ms kX8_count [.ref a0, .int (x1)] M Q := by
  refine g_meth rfl rfl (Nat.le_of_ble_eq_true rfl) rfl ?_
  refine g_aload_n 0 1 dX8_count_0 rfl rfl ?_
  refine g_getR 4 (a0 + 1) dX8_count_1 rfl flX8_14 s0.1 s0.2.1 ?_
  refine g_getR 7 ((a0 + 1) + 1) dX8_count_4 rfl flX8_102 s0.2.2.1.1 s0.2.2.1.2.1 ?_
  refine g_astore_n 8 [(2, .ref ((a0 + 1) + 1)), (0, .ref a0), (1, .int (x1))] dX8_count_7 rfl (Nat.le_of_ble_eq_true rfl) rfl ?_
  refine g_iload_n 2 9 dX8_count_8 rfl rfl ?_
  by_cases c1 : x1 = 0
  · refine h_tabIn (0) 76 dX8_count_9 c1 (by decide) (by decide) rfl rfl ?_
    refine g_aload_n 0 77 dX8_count_76 rfl rfl ?_
    refine g_getI 80 dX8_count_77 rfl flX8_137 s0.2.2.1.2.2.1.1 ?_
    exact g_iret dX8_count_80 rfl (Nat.zero_le _) (Nat.zero_le _) (h1 c1)
  by_cases c2 : x1 = 1
  · refine h_tabIn (1) 81 dX8_count_9 c2 (by decide) (by decide) rfl rfl ?_
    refine g_aload_n 0 82 dX8_count_81 rfl rfl ?_
    refine g_getI 85 dX8_count_82 rfl flX8_119 s0.2.2.1.2.2.1.1 ?_
    exact g_iret dX8_count_85 rfl (Nat.zero_le _) (Nat.zero_le _) (h2 c1 c2)
  by_cases c3 : x1 = 2
  · refine h_tabIn (2) 86 dX8_count_9 c3 (by decide) (by decide) rfl rfl ?_
    refine g_aload_n 0 87 dX8_count_86 rfl rfl ?_
    refine g_getI 90 dX8_count_87 rfl flX8_116 s0.2.2.1.2.2.1.1 ?_
    exact g_iret dX8_count_90 rfl (Nat.zero_le _) (Nat.zero_le _) (h3 c1 c2 c3)
  by_cases c4 : x1 = 3
  · refine h_tabIn (3) 91 dX8_count_9 c4 (by decide) (by decide) rfl rfl ?_
    refine g_aload_n 1 92 dX8_count_91 rfl rfl ?_
    refine g_getR 95 (a0 + 1) dX8_count_92 rfl flX8_14 s0.1 s0.2.1 ?_
    refine g_getI 98 dX8_count_95 rfl flX8_285 s0.2.2.1.1 ?_
    exact g_iret dX8_count_98 rfl (Nat.zero_le _) (Nat.zero_le _) (h4 c1 c2 c3 c4)
  by_cases c5 : x1 = 4
  · refine h_tabIn (4) 99 dX8_count_9 c5 (by decide) (by decide) rfl rfl ?_
    refine g_aload_n 1 100 dX8_count_99 rfl rfl ?_
    refine g_getR 103 (a0 + 1) dX8_count_100 rfl flX8_14 s0.1 s0.2.1 ?_
    refine g_getI 106 dX8_count_103 rfl flX8_175 s0.2.2.1.1 ?_
    exact g_iret dX8_count_106 rfl (Nat.zero_le _) (Nat.zero_le _) (h5 c1 c2 c3 c4 c5)
  by_cases c6 : x1 = 5
  · refine h_tabIn (5) 107 dX8_count_9 c6 (by decide) (by decide) rfl rfl ?_
    refine g_aload_n 1 108 dX8_count_107 rfl rfl ?_
    refine g_getR 111 (a0 + 13) dX8_count_108 rfl flX8_25 s0.1 s0.2.2.2.2.2.1 ?_
    refine g_getI 114 dX8_count_111 rfl flX8_337 s0.2.2.2.2.2.2.1.1 ?_
    exact g_iret dX8_count_114 rfl (Nat.zero_le _) (Nat.zero_le _) (h6 c1 c2 c3 c4 c5 c6)
  by_cases c7 : x1 = 6
  · refine h_tabIn (6) 115 dX8_count_9 c7 (by decide) (by decide) rfl rfl ?_
    refine g_aload_n 1 116 dX8_count_115 rfl rfl ?_
    refine g_getR 119 (a0 + 282) dX8_count_116 rfl flX8_61 s0.1 s0.2.2.2.2.2.2.2.2.2.2.2.2.2.2.2.2.2.1 ?_
    refine g_getI 122 dX8_count_119 rfl flX8_158 s0.2.2.2.2.2.2.2.2.2.2.2.2.2.2.2.2.2.2.1.1 ?_
    exact g_iret dX8_count_122 rfl (Nat.zero_le _) (Nat.zero_le _) (h7 c1 c2 c3 c4 c5 c6 c7)
  by_cases c8 : x1 = 7
  · refine h_tabIn (7) 131 dX8_count_9 c8 (by decide) (by decide) rfl rfl ?_
    refine g_iload_n 2 132 dX8_count_131 rfl rfl ?_
    refine g_bipush (7) 134 dX8_count_132 rfl rfl ?_
    refine g_icmp_lt 153 137 dX8_count_134 rfl rfl (fun c9 => ?_) (fun c9 => ?_)
    · skip
      refine g_iload_n 2 154 dX8_count_153 rfl rfl ?_
      refine g_bipush (13) 156 dX8_count_154 rfl rfl ?_
      refine g_icmp_lt 177 159 dX8_count_156 rfl rfl (fun c10 => ?_) (fun c10 => ?_)
      · skip
        refine g_iconst ((-1)) 178 dX8_count_177 rfl rfl ?_
        exact g_iret dX8_count_178 rfl (Nat.zero_le _) (Nat.zero_le _) (h8 c1 c2 c3 c4 c5 c6 c7 c8 c9 c10)
      · skip
        refine g_iload_n 2 160 dX8_count_159 rfl rfl ?_
        refine g_bipush (15) 162 dX8_count_160 rfl rfl ?_
        refine g_icmp_gt 177 165 dX8_count_162 rfl rfl (fun c11 => ?_) (fun c11 => ?_)
        · skip
          refine g_iconst ((-1)) 178 dX8_count_177 rfl rfl ?_
          exact g_iret dX8_count_178 rfl (Nat.zero_le _) (Nat.zero_le _) (h9 c1 c2 c3 c4 c5 c6 c7 c8 c9 c10 c11)
        · skip
          refine g_aload_n 0 166 dX8_count_165 rfl rfl ?_
          refine g_getR 169 (((a0 + 1) + 1) + 2) dX8_count_166 rfl flX8_149 s0.2.2.1.2.2.1.1 s0.2.2.1.2.2.1.2.2.2.1 ?_
          refine g_iload_n 2 170 dX8_count_169 rfl rfl ?_
          refine g_bipush (13) 172 dX8_count_170 rfl rfl ?_
          refine g_isub 173 dX8_count_172 rfl ?_
          refine h_iaload 174 ((x1 - 13)).toNatClampNeg dX8_count_173 rfl rfl s0.2.2.1.2.2.1.2.2.2.2.1 (b10 c1 c2 c3 c4 c5 c6 c7 c8 c9 c10 c11) ?_
          refine g_goto 178 dX8_count_174 rfl ?_
          exact g_iret dX8_count_178 rfl (Nat.zero_le _) (Nat.zero_le _) (h11 c1 c2 c3 c4 c5 c6 c7 c8 c9 c10 c11)
    · skip
      refine g_iload_n 2 138 dX8_count_137 rfl rfl ?_
      refine g_bipush (11) 140 dX8_count_138 rfl rfl ?_
      refine g_icmp_gt 153 143 dX8_count_140 rfl rfl (fun c12 => ?_) (fun c12 => ?_)
      · skip
        refine g_iload_n 2 154 dX8_count_153 rfl rfl ?_
        refine g_bipush (13) 156 dX8_count_154 rfl rfl ?_
        refine g_icmp_lt 177 159 dX8_count_156 rfl rfl (fun c13 => ?_) (fun c13 => ?_)
        · skip
          refine g_iconst ((-1)) 178 dX8_count_177 rfl rfl ?_
          exact g_iret dX8_count_178 rfl (Nat.zero_le _) (Nat.zero_le _) (h12 c1 c2 c3 c4 c5 c6 c7 c8 c9 c12 c13)
        · skip
          refine g_iload_n 2 160 dX8_count_159 rfl rfl ?_
          refine g_bipush (15) 162 dX8_count_160 rfl rfl ?_
          refine g_icmp_gt 177 165 dX8_count_162 rfl rfl (fun c14 => ?_) (fun c14 => ?_)
          · skip
            refine g_iconst ((-1)) 178 dX8_count_177 rfl rfl ?_
            exact g_iret dX8_count_178 rfl (Nat.zero_le _) (Nat.zero_le _) (h13 c1 c2 c3 c4 c5 c6 c7 c8 c9 c12 c13 c14)
          · skip
            refine g_aload_n 0 166 dX8_count_165 rfl rfl ?_
            refine g_getR 169 (((a0 + 1) + 1) + 2) dX8_count_166 rfl flX8_149 s0.2.2.1.2.2.1.1 s0.2.2.1.2.2.1.2.2.2.1 ?_
            refine g_iload_n 2 170 dX8_count_169 rfl rfl ?_
            refine g_bipush (13) 172 dX8_count_170 rfl rfl ?_
            refine g_isub 173 dX8_count_172 rfl ?_
            refine h_iaload 174 ((x1 - 13)).toNatClampNeg dX8_count_173 rfl rfl s0.2.2.1.2.2.1.2.2.2.2.1 (b14 c1 c2 c3 c4 c5 c6 c7 c8 c9 c12 c13 c14) ?_
            refine g_goto 178 dX8_count_174 rfl ?_
            exact g_iret dX8_count_178 rfl (Nat.zero_le _) (Nat.zero_le _) (h15 c1 c2 c3 c4 c5 c6 c7 c8 c9 c12 c13 c14)
      · skip
        refine g_aload_n 1 144 dX8_count_143 rfl rfl ?_
        refine g_getR 147 (a0 + 304) dX8_count_144 rfl flX8_78 s0.1 s0.2.2.2.2.2.2.2.2.2.2.2.2.2.2.2.2.2.2.2.2.2.2.2.1 ?_
        refine g_iload_n 2 148 dX8_count_147 rfl rfl ?_
        refine g_bipush (7) 150 dX8_count_148 rfl rfl ?_
        refine g_isub 151 dX8_count_150 rfl ?_
        refine h_iaload 152 ((x1 - 7)).toNatClampNeg dX8_count_151 rfl rfl s0.2.2.2.2.2.2.2.2.2.2.2.2.2.2.2.2.2.2.2.2.2.2.2.2.1 (b16 c1 c2 c3 c4 c5 c6 c7 c8 c9 c12) ?_
        exact g_iret dX8_count_152 rfl (Nat.zero_le _) (Nat.zero_le _) (h17 c1 c2 c3 c4 c5 c6 c7 c8 c9 c12)
  by_cases c15 : x1 = 8
  · refine h_tabIn (8) 131 dX8_count_9 c15 (by decide) (by decide) rfl rfl ?_
    refine g_iload_n 2 132 dX8_count_131 rfl rfl ?_
    refine g_bipush (7) 134 dX8_count_132 rfl rfl ?_
    refine g_icmp_lt 153 137 dX8_count_134 rfl rfl (fun c16 => ?_) (fun c16 => ?_)
    · skip
      refine g_iload_n 2 154 dX8_count_153 rfl rfl ?_
      refine g_bipush (13) 156 dX8_count_154 rfl rfl ?_
      refine g_icmp_lt 177 159 dX8_count_156 rfl rfl (fun c17 => ?_) (fun c17 => ?_)
      · skip
        refine g_iconst ((-1)) 178 dX8_count_177 rfl rfl ?_
        exact g_iret dX8_count_178 rfl (Nat.zero_le _) (Nat.zero_le _) (h18 c1 c2 c3 c4 c5 c6 c7 c8 c15 c16 c17)
      · skip
        refine g_iload_n 2 160 dX8_count_159 rfl rfl ?_
        refine g_bipush (15) 162 dX8_count_160 rfl rfl ?_
        refine g_icmp_gt 177 165 dX8_count_162 rfl rfl (fun c18 => ?_) (fun c18 => ?_)
        · skip
          refine g_iconst ((-1)) 178 dX8_count_177 rfl rfl ?_
          exact g_iret dX8_count_178 rfl (Nat.zero_le _) (Nat.zero_le _) (h19 c1 c2 c3 c4 c5 c6 c7 c8 c15 c16 c17 c18)
        · skip
          refine g_aload_n 0 166 dX8_count_165 rfl rfl ?_
          refine g_getR 169 (((a0 + 1) + 1) + 2) dX8_count_166 rfl flX8_149 s0.2.2.1.2.2.1.1 s0.2.2.1.2.2.1.2.2.2.1 ?_
          refine g_iload_n 2 170 dX8_count_169 rfl rfl ?_
          refine g_bipush (13) 172 dX8_count_170 rfl rfl ?_
          refine g_isub 173 dX8_count_172 rfl ?_
          refine h_iaload 174 ((x1 - 13)).toNatClampNeg dX8_count_173 rfl rfl s0.2.2.1.2.2.1.2.2.2.2.1 (b20 c1 c2 c3 c4 c5 c6 c7 c8 c15 c16 c17 c18) ?_
          refine g_goto 178 dX8_count_174 rfl ?_
          exact g_iret dX8_count_178 rfl (Nat.zero_le _) (Nat.zero_le _) (h21 c1 c2 c3 c4 c5 c6 c7 c8 c15 c16 c17 c18)
    · skip
      refine g_iload_n 2 138 dX8_count_137 rfl rfl ?_
      refine g_bipush (11) 140 dX8_count_138 rfl rfl ?_
      refine g_icmp_gt 153 143 dX8_count_140 rfl rfl (fun c19 => ?_) (fun c19 => ?_)
      · skip
        refine g_iload_n 2 154 dX8_count_153 rfl rfl ?_
        refine g_bipush (13) 156 dX8_count_154 rfl rfl ?_
        refine g_icmp_lt 177 159 dX8_count_156 rfl rfl (fun c20 => ?_) (fun c20 => ?_)
        · skip
          refine g_iconst ((-1)) 178 dX8_count_177 rfl rfl ?_
          exact g_iret dX8_count_178 rfl (Nat.zero_le _) (Nat.zero_le _) (h22 c1 c2 c3 c4 c5 c6 c7 c8 c15 c16 c19 c20)
        · skip
          refine g_iload_n 2 160 dX8_count_159 rfl rfl ?_
          refine g_bipush (15) 162 dX8_count_160 rfl rfl ?_
          refine g_icmp_gt 177 165 dX8_count_162 rfl rfl (fun c21 => ?_) (fun c21 => ?_)
          · skip
            refine g_iconst ((-1)) 178 dX8_count_177 rfl rfl ?_
            exact g_iret dX8_count_178 rfl (Nat.zero_le _) (Nat.zero_le _) (h23 c1 c2 c3 c4 c5 c6 c7 c8 c15 c16 c19 c20 c21)
          · skip
            refine g_aload_n 0 166 dX8_count_165 rfl rfl ?_
            refine g_getR 169 (((a0 + 1) + 1) + 2) dX8_count_166 rfl flX8_149 s0.2.2.1.2.2.1.1 s0.2.2.1.2.2.1.2.2.2.1 ?_
            refine g_iload_n 2 170 dX8_count_169 rfl rfl ?_
            refine g_bipush (13) 172 dX8_count_170 rfl rfl ?_
            refine g_isub 173 dX8_count_172 rfl ?_
            refine h_iaload 174 ((x1 - 13)).toNatClampNeg dX8_count_173 rfl rfl s0.2.2.1.2.2.1.2.2.2.2.1 (b24 c1 c2 c3 c4 c5 c6 c7 c8 c15 c16 c19 c20 c21) ?_
            refine g_goto 178 dX8_count_174 rfl ?_
            exact g_iret dX8_count_178 rfl (Nat.zero_le _) (Nat.zero_le _) (h25 c1 c2 c3 c4 c5 c6 c7 c8 c15 c16 c19 c20 c21)
      · skip
        refine g_aload_n 1 144 dX8_count_143 rfl rfl ?_
        refine g_getR 147 (a0 + 304) dX8_count_144 rfl flX8_78 s0.1 s0.2.2.2.2.2.2.2.2.2.2.2.2.2.2.2.2.2.2.2.2.2.2.2.1 ?_
        refine g_iload_n 2 148 dX8_count_147 rfl rfl ?_
        refine g_bipush (7) 150 dX8_count_148 rfl rfl ?_
        refine g_isub 151 dX8_count_150 rfl ?_
        refine h_iaload 152 ((x1 - 7)).toNatClampNeg dX8_count_151 rfl rfl s0.2.2.2.2.2.2.2.2.2.2.2.2.2.2.2.2.2.2.2.2.2.2.2.2.1 (b26 c1 c2 c3 c4 c5 c6 c7 c8 c15 c16 c19) ?_
        exact g_iret dX8_count_152 rfl (Nat.zero_le _) (Nat.zero_le _) (h27 c1 c2 c3 c4 c5 c6 c7 c8 c15 c16 c19)
  by_cases c22 : x1 = 9
  · refine h_tabIn (9) 131 dX8_count_9 c22 (by decide) (by decide) rfl rfl ?_
    refine g_iload_n 2 132 dX8_count_131 rfl rfl ?_
    refine g_bipush (7) 134 dX8_count_132 rfl rfl ?_
    refine g_icmp_lt 153 137 dX8_count_134 rfl rfl (fun c23 => ?_) (fun c23 => ?_)
    · skip
      refine g_iload_n 2 154 dX8_count_153 rfl rfl ?_
      refine g_bipush (13) 156 dX8_count_154 rfl rfl ?_
      refine g_icmp_lt 177 159 dX8_count_156 rfl rfl (fun c24 => ?_) (fun c24 => ?_)
      · skip
        refine g_iconst ((-1)) 178 dX8_count_177 rfl rfl ?_
        exact g_iret dX8_count_178 rfl (Nat.zero_le _) (Nat.zero_le _) (h28 c1 c2 c3 c4 c5 c6 c7 c8 c15 c22 c23 c24)
      · skip
        refine g_iload_n 2 160 dX8_count_159 rfl rfl ?_
        refine g_bipush (15) 162 dX8_count_160 rfl rfl ?_
        refine g_icmp_gt 177 165 dX8_count_162 rfl rfl (fun c25 => ?_) (fun c25 => ?_)
        · skip
          refine g_iconst ((-1)) 178 dX8_count_177 rfl rfl ?_
          exact g_iret dX8_count_178 rfl (Nat.zero_le _) (Nat.zero_le _) (h29 c1 c2 c3 c4 c5 c6 c7 c8 c15 c22 c23 c24 c25)
        · skip
          refine g_aload_n 0 166 dX8_count_165 rfl rfl ?_
          refine g_getR 169 (((a0 + 1) + 1) + 2) dX8_count_166 rfl flX8_149 s0.2.2.1.2.2.1.1 s0.2.2.1.2.2.1.2.2.2.1 ?_
          refine g_iload_n 2 170 dX8_count_169 rfl rfl ?_
          refine g_bipush (13) 172 dX8_count_170 rfl rfl ?_
          refine g_isub 173 dX8_count_172 rfl ?_
          refine h_iaload 174 ((x1 - 13)).toNatClampNeg dX8_count_173 rfl rfl s0.2.2.1.2.2.1.2.2.2.2.1 (b30 c1 c2 c3 c4 c5 c6 c7 c8 c15 c22 c23 c24 c25) ?_
          refine g_goto 178 dX8_count_174 rfl ?_
          exact g_iret dX8_count_178 rfl (Nat.zero_le _) (Nat.zero_le _) (h31 c1 c2 c3 c4 c5 c6 c7 c8 c15 c22 c23 c24 c25)
    · skip
      refine g_iload_n 2 138 dX8_count_137 rfl rfl ?_
      refine g_bipush (11) 140 dX8_count_138 rfl rfl ?_
      refine g_icmp_gt 153 143 dX8_count_140 rfl rfl (fun c26 => ?_) (fun c26 => ?_)
      · skip
        refine g_iload_n 2 154 dX8_count_153 rfl rfl ?_
        refine g_bipush (13) 156 dX8_count_154 rfl rfl ?_
        refine g_icmp_lt 177 159 dX8_count_156 rfl rfl (fun c27 => ?_) (fun c27 => ?_)
        · skip
          refine g_iconst ((-1)) 178 dX8_count_177 rfl rfl ?_
          exact g_iret dX8_count_178 rfl (Nat.zero_le _) (Nat.zero_le _) (h32 c1 c2 c3 c4 c5 c6 c7 c8 c15 c22 c23 c26 c27)
        · skip
          refine g_iload_n 2 160 dX8_count_159 rfl rfl ?_
          refine g_bipush (15) 162 dX8_count_160 rfl rfl ?_
          refine g_icmp_gt 177 165 dX8_count_162 rfl rfl (fun c28 => ?_) (fun c28 => ?_)
          · skip
            refine g_iconst ((-1)) 178 dX8_count_177 rfl rfl ?_
            exact g_iret dX8_count_178 rfl (Nat.zero_le _) (Nat.zero_le _) (h33 c1 c2 c3 c4 c5 c6 c7 c8 c15 c22 c23 c26 c27 c28)
          · skip
            refine g_aload_n 0 166 dX8_count_165 rfl rfl ?_
            refine g_getR 169 (((a0 + 1) + 1) + 2) dX8_count_166 rfl flX8_149 s0.2.2.1.2.2.1.1 s0.2.2.1.2.2.1.2.2.2.1 ?_
            refine g_iload_n 2 170 dX8_count_169 rfl rfl ?_
            refine g_bipush (13) 172 dX8_count_170 rfl rfl ?_
            refine g_isub 173 dX8_count_172 rfl ?_
            refine h_iaload 174 ((x1 - 13)).toNatClampNeg dX8_count_173 rfl rfl s0.2.2.1.2.2.1.2.2.2.2.1 (b34 c1 c2 c3 c4 c5 c6 c7 c8 c15 c22 c23 c26 c27 c28) ?_
            refine g_goto 178 dX8_count_174 rfl ?_
            exact g_iret dX8_count_178 rfl (Nat.zero_le _) (Nat.zero_le _) (h35 c1 c2 c3 c4 c5 c6 c7 c8 c15 c22 c23 c26 c27 c28)
      · skip
        refine g_aload_n 1 144 dX8_count_143 rfl rfl ?_
        refine g_getR 147 (a0 + 304) dX8_count_144 rfl flX8_78 s0.1 s0.2.2.2.2.2.2.2.2.2.2.2.2.2.2.2.2.2.2.2.2.2.2.2.1 ?_
        refine g_iload_n 2 148 dX8_count_147 rfl rfl ?_
        refine g_bipush (7) 150 dX8_count_148 rfl rfl ?_
        refine g_isub 151 dX8_count_150 rfl ?_
        refine h_iaload 152 ((x1 - 7)).toNatClampNeg dX8_count_151 rfl rfl s0.2.2.2.2.2.2.2.2.2.2.2.2.2.2.2.2.2.2.2.2.2.2.2.2.1 (b36 c1 c2 c3 c4 c5 c6 c7 c8 c15 c22 c23 c26) ?_
        exact g_iret dX8_count_152 rfl (Nat.zero_le _) (Nat.zero_le _) (h37 c1 c2 c3 c4 c5 c6 c7 c8 c15 c22 c23 c26)
  by_cases c29 : x1 = 10
  · refine h_tabIn (10) 131 dX8_count_9 c29 (by decide) (by decide) rfl rfl ?_
    refine g_iload_n 2 132 dX8_count_131 rfl rfl ?_
    refine g_bipush (7) 134 dX8_count_132 rfl rfl ?_
    refine g_icmp_lt 153 137 dX8_count_134 rfl rfl (fun c30 => ?_) (fun c30 => ?_)
    · skip
      refine g_iload_n 2 154 dX8_count_153 rfl rfl ?_
      refine g_bipush (13) 156 dX8_count_154 rfl rfl ?_
      refine g_icmp_lt 177 159 dX8_count_156 rfl rfl (fun c31 => ?_) (fun c31 => ?_)
      · skip
        refine g_iconst ((-1)) 178 dX8_count_177 rfl rfl ?_
        exact g_iret dX8_count_178 rfl (Nat.zero_le _) (Nat.zero_le _) (h38 c1 c2 c3 c4 c5 c6 c7 c8 c15 c22 c29 c30 c31)
      · skip
        refine g_iload_n 2 160 dX8_count_159 rfl rfl ?_
        refine g_bipush (15) 162 dX8_count_160 rfl rfl ?_
        refine g_icmp_gt 177 165 dX8_count_162 rfl rfl (fun c32 => ?_) (fun c32 => ?_)
        · skip
          refine g_iconst ((-1)) 178 dX8_count_177 rfl rfl ?_
          exact g_iret dX8_count_178 rfl (Nat.zero_le _) (Nat.zero_le _) (h39 c1 c2 c3 c4 c5 c6 c7 c8 c15 c22 c29 c30 c31 c32)
        · skip
          refine g_aload_n 0 166 dX8_count_165 rfl rfl ?_
          refine g_getR 169 (((a0 + 1) + 1) + 2) dX8_count_166 rfl flX8_149 s0.2.2.1.2.2.1.1 s0.2.2.1.2.2.1.2.2.2.1 ?_
          refine g_iload_n 2 170 dX8_count_169 rfl rfl ?_
          refine g_bipush (13) 172 dX8_count_170 rfl rfl ?_
          refine g_isub 173 dX8_count_172 rfl ?_
          refine h_iaload 174 ((x1 - 13)).toNatClampNeg dX8_count_173 rfl rfl s0.2.2.1.2.2.1.2.2.2.2.1 (b40 c1 c2 c3 c4 c5 c6 c7 c8 c15 c22 c29 c30 c31 c32) ?_
          refine g_goto 178 dX8_count_174 rfl ?_
          exact g_iret dX8_count_178 rfl (Nat.zero_le _) (Nat.zero_le _) (h41 c1 c2 c3 c4 c5 c6 c7 c8 c15 c22 c29 c30 c31 c32)
    · skip
      refine g_iload_n 2 138 dX8_count_137 rfl rfl ?_
      refine g_bipush (11) 140 dX8_count_138 rfl rfl ?_
      refine g_icmp_gt 153 143 dX8_count_140 rfl rfl (fun c33 => ?_) (fun c33 => ?_)
      · skip
        refine g_iload_n 2 154 dX8_count_153 rfl rfl ?_
        refine g_bipush (13) 156 dX8_count_154 rfl rfl ?_
        refine g_icmp_lt 177 159 dX8_count_156 rfl rfl (fun c34 => ?_) (fun c34 => ?_)
        · skip
          refine g_iconst ((-1)) 178 dX8_count_177 rfl rfl ?_
          exact g_iret dX8_count_178 rfl (Nat.zero_le _) (Nat.zero_le _) (h42 c1 c2 c3 c4 c5 c6 c7 c8 c15 c22 c29 c30 c33 c34)
        · skip
          refine g_iload_n 2 160 dX8_count_159 rfl rfl ?_
          refine g_bipush (15) 162 dX8_count_160 rfl rfl ?_
          refine g_icmp_gt 177 165 dX8_count_162 rfl rfl (fun c35 => ?_) (fun c35 => ?_)
          · skip
            refine g_iconst ((-1)) 178 dX8_count_177 rfl rfl ?_
            exact g_iret dX8_count_178 rfl (Nat.zero_le _) (Nat.zero_le _) (h43 c1 c2 c3 c4 c5 c6 c7 c8 c15 c22 c29 c30 c33 c34 c35)
          · skip
            refine g_aload_n 0 166 dX8_count_165 rfl rfl ?_
            refine g_getR 169 (((a0 + 1) + 1) + 2) dX8_count_166 rfl flX8_149 s0.2.2.1.2.2.1.1 s0.2.2.1.2.2.1.2.2.2.1 ?_
            refine g_iload_n 2 170 dX8_count_169 rfl rfl ?_
            refine g_bipush (13) 172 dX8_count_170 rfl rfl ?_
            refine g_isub 173 dX8_count_172 rfl ?_
            refine h_iaload 174 ((x1 - 13)).toNatClampNeg dX8_count_173 rfl rfl s0.2.2.1.2.2.1.2.2.2.2.1 (b44 c1 c2 c3 c4 c5 c6 c7 c8 c15 c22 c29 c30 c33 c34 c35) ?_
            refine g_goto 178 dX8_count_174 rfl ?_
            exact g_iret dX8_count_178 rfl (Nat.zero_le _) (Nat.zero_le _) (h45 c1 c2 c3 c4 c5 c6 c7 c8 c15 c22 c29 c30 c33 c34 c35)
      · skip
        refine g_aload_n 1 144 dX8_count_143 rfl rfl ?_
        refine g_getR 147 (a0 + 304) dX8_count_144 rfl flX8_78 s0.1 s0.2.2.2.2.2.2.2.2.2.2.2.2.2.2.2.2.2.2.2.2.2.2.2.1 ?_
        refine g_iload_n 2 148 dX8_count_147 rfl rfl ?_
        refine g_bipush (7) 150 dX8_count_148 rfl rfl ?_
        refine g_isub 151 dX8_count_150 rfl ?_
        refine h_iaload 152 ((x1 - 7)).toNatClampNeg dX8_count_151 rfl rfl s0.2.2.2.2.2.2.2.2.2.2.2.2.2.2.2.2.2.2.2.2.2.2.2.2.1 (b46 c1 c2 c3 c4 c5 c6 c7 c8 c15 c22 c29 c30 c33) ?_
        exact g_iret dX8_count_152 rfl (Nat.zero_le _) (Nat.zero_le _) (h47 c1 c2 c3 c4 c5 c6 c7 c8 c15 c22 c29 c30 c33)
  by_cases c36 : x1 = 11
  · refine h_tabIn (11) 131 dX8_count_9 c36 (by decide) (by decide) rfl rfl ?_
    refine g_iload_n 2 132 dX8_count_131 rfl rfl ?_
    refine g_bipush (7) 134 dX8_count_132 rfl rfl ?_
    refine g_icmp_lt 153 137 dX8_count_134 rfl rfl (fun c37 => ?_) (fun c37 => ?_)
    · skip
      refine g_iload_n 2 154 dX8_count_153 rfl rfl ?_
      refine g_bipush (13) 156 dX8_count_154 rfl rfl ?_
      refine g_icmp_lt 177 159 dX8_count_156 rfl rfl (fun c38 => ?_) (fun c38 => ?_)
      · skip
        refine g_iconst ((-1)) 178 dX8_count_177 rfl rfl ?_
        exact g_iret dX8_count_178 rfl (Nat.zero_le _) (Nat.zero_le _) (h48 c1 c2 c3 c4 c5 c6 c7 c8 c15 c22 c29 c36 c37 c38)
      · skip
        refine g_iload_n 2 160 dX8_count_159 rfl rfl ?_
        refine g_bipush (15) 162 dX8_count_160 rfl rfl ?_
        refine g_icmp_gt 177 165 dX8_count_162 rfl rfl (fun c39 => ?_) (fun c39 => ?_)
        · skip
          refine g_iconst ((-1)) 178 dX8_count_177 rfl rfl ?_
          exact g_iret dX8_count_178 rfl (Nat.zero_le _) (Nat.zero_le _) (h49 c1 c2 c3 c4 c5 c6 c7 c8 c15 c22 c29 c36 c37 c38 c39)
        · skip
          refine g_aload_n 0 166 dX8_count_165 rfl rfl ?_
          refine g_getR 169 (((a0 + 1) + 1) + 2) dX8_count_166 rfl flX8_149 s0.2.2.1.2.2.1.1 s0.2.2.1.2.2.1.2.2.2.1 ?_
          refine g_iload_n 2 170 dX8_count_169 rfl rfl ?_
          refine g_bipush (13) 172 dX8_count_170 rfl rfl ?_
          refine g_isub 173 dX8_count_172 rfl ?_
          refine h_iaload 174 ((x1 - 13)).toNatClampNeg dX8_count_173 rfl rfl s0.2.2.1.2.2.1.2.2.2.2.1 (b50 c1 c2 c3 c4 c5 c6 c7 c8 c15 c22 c29 c36 c37 c38 c39) ?_
          refine g_goto 178 dX8_count_174 rfl ?_
          exact g_iret dX8_count_178 rfl (Nat.zero_le _) (Nat.zero_le _) (h51 c1 c2 c3 c4 c5 c6 c7 c8 c15 c22 c29 c36 c37 c38 c39)
    · skip
      refine g_iload_n 2 138 dX8_count_137 rfl rfl ?_
      refine g_bipush (11) 140 dX8_count_138 rfl rfl ?_
      refine g_icmp_gt 153 143 dX8_count_140 rfl rfl (fun c40 => ?_) (fun c40 => ?_)
      · skip
        refine g_iload_n 2 154 dX8_count_153 rfl rfl ?_
        refine g_bipush (13) 156 dX8_count_154 rfl rfl ?_
        refine g_icmp_lt 177 159 dX8_count_156 rfl rfl (fun c41 => ?_) (fun c41 => ?_)
        · skip
          refine g_iconst ((-1)) 178 dX8_count_177 rfl rfl ?_
          exact g_iret dX8_count_178 rfl (Nat.zero_le _) (Nat.zero_le _) (h52 c1 c2 c3 c4 c5 c6 c7 c8 c15 c22 c29 c36 c37 c40 c41)
        · skip
          refine g_iload_n 2 160 dX8_count_159 rfl rfl ?_
          refine g_bipush (15) 162 dX8_count_160 rfl rfl ?_
          refine g_icmp_gt 177 165 dX8_count_162 rfl rfl (fun c42 => ?_) (fun c42 => ?_)
          · skip
            refine g_iconst ((-1)) 178 dX8_count_177 rfl rfl ?_
            exact g_iret dX8_count_178 rfl (Nat.zero_le _) (Nat.zero_le _) (h53 c1 c2 c3 c4 c5 c6 c7 c8 c15 c22 c29 c36 c37 c40 c41 c42)
          · skip
            refine g_aload_n 0 166 dX8_count_165 rfl rfl ?_
            refine g_getR 169 (((a0 + 1) + 1) + 2) dX8_count_166 rfl flX8_149 s0.2.2.1.2.2.1.1 s0.2.2.1.2.2.1.2.2.2.1 ?_
            refine g_iload_n 2 170 dX8_count_169 rfl rfl ?_
            refine g_bipush (13) 172 dX8_count_170 rfl rfl ?_
            refine g_isub 173 dX8_count_172 rfl ?_
            refine h_iaload 174 ((x1 - 13)).toNatClampNeg dX8_count_173 rfl rfl s0.2.2.1.2.2.1.2.2.2.2.1 (b54 c1 c2 c3 c4 c5 c6 c7 c8 c15 c22 c29 c36 c37 c40 c41 c42) ?_
            refine g_goto 178 dX8_count_174 rfl ?_
            exact g_iret dX8_count_178 rfl (Nat.zero_le _) (Nat.zero_le _) (h55 c1 c2 c3 c4 c5 c6 c7 c8 c15 c22 c29 c36 c37 c40 c41 c42)
      · skip
        refine g_aload_n 1 144 dX8_count_143 rfl rfl ?_
        refine g_getR 147 (a0 + 304) dX8_count_144 rfl flX8_78 s0.1 s0.2.2.2.2.2.2.2.2.2.2.2.2.2.2.2.2.2.2.2.2.2.2.2.1 ?_
        refine g_iload_n 2 148 dX8_count_147 rfl rfl ?_
        refine g_bipush (7) 150 dX8_count_148 rfl rfl ?_
        refine g_isub 151 dX8_count_150 rfl ?_
        refine h_iaload 152 ((x1 - 7)).toNatClampNeg dX8_count_151 rfl rfl s0.2.2.2.2.2.2.2.2.2.2.2.2.2.2.2.2.2.2.2.2.2.2.2.2.1 (b56 c1 c2 c3 c4 c5 c6 c7 c8 c15 c22 c29 c36 c37 c40) ?_
        exact g_iret dX8_count_152 rfl (Nat.zero_le _) (Nat.zero_le _) (h57 c1 c2 c3 c4 c5 c6 c7 c8 c15 c22 c29 c36 c37 c40)
  by_cases c43 : x1 = 12
  · refine h_tabIn (12) 123 dX8_count_9 c43 (by decide) (by decide) rfl rfl ?_
    refine g_aload_n 1 124 dX8_count_123 rfl rfl ?_
    refine g_getR 127 (a0 + 1) dX8_count_124 rfl flX8_14 s0.1 s0.2.1 ?_
    refine g_getI 130 dX8_count_127 rfl flX8_215 s0.2.2.1.1 ?_
    exact g_iret dX8_count_130 rfl (Nat.zero_le _) (Nat.zero_le _) (h58 c1 c2 c3 c4 c5 c6 c7 c8 c15 c22 c29 c36 c43)
  have tc1 := i_neT c1
  have tc2 := i_neT c2
  have tc3 := i_neT c3
  have tc4 := i_neT c4
  have tc5 := i_neT c5
  have tc6 := i_neT c6
  have tc7 := i_neT c7
  have tc8 := i_neT c8
  have tc15 := i_neT c15
  have tc22 := i_neT c22
  have tc29 := i_neT c29
  have tc36 := i_neT c36
  have tc43 := i_neT c43
  rw [show ((0 : Int32)).toInt = 0 from rfl] at tc1
  rw [show ((1 : Int32)).toInt = 1 from rfl] at tc2
  rw [show ((2 : Int32)).toInt = 2 from rfl] at tc3
  rw [show ((3 : Int32)).toInt = 3 from rfl] at tc4
  rw [show ((4 : Int32)).toInt = 4 from rfl] at tc5
  rw [show ((5 : Int32)).toInt = 5 from rfl] at tc6
  rw [show ((6 : Int32)).toInt = 6 from rfl] at tc7
  rw [show ((7 : Int32)).toInt = 7 from rfl] at tc8
  rw [show ((8 : Int32)).toInt = 8 from rfl] at tc15
  rw [show ((9 : Int32)).toInt = 9 from rfl] at tc22
  rw [show ((10 : Int32)).toInt = 10 from rfl] at tc29
  rw [show ((11 : Int32)).toInt = 11 from rfl] at tc36
  rw [show ((12 : Int32)).toInt = 12 from rfl] at tc43
  refine g_tableOut 131 dX8_count_9 (by omega) rfl ?_
  refine g_iload_n 2 132 dX8_count_131 rfl rfl ?_
  refine g_bipush (7) 134 dX8_count_132 rfl rfl ?_
  refine g_icmp_lt 153 137 dX8_count_134 rfl rfl (fun c44 => ?_) (fun c44 => ?_)
  · skip
    refine g_iload_n 2 154 dX8_count_153 rfl rfl ?_
    refine g_bipush (13) 156 dX8_count_154 rfl rfl ?_
    refine g_icmp_lt 177 159 dX8_count_156 rfl rfl (fun c45 => ?_) (fun c45 => ?_)
    · skip
      refine g_iconst ((-1)) 178 dX8_count_177 rfl rfl ?_
      exact g_iret dX8_count_178 rfl (Nat.zero_le _) (Nat.zero_le _) (h59 c1 c2 c3 c4 c5 c6 c7 c8 c15 c22 c29 c36 c43 c44 c45)
    · skip
      refine g_iload_n 2 160 dX8_count_159 rfl rfl ?_
      refine g_bipush (15) 162 dX8_count_160 rfl rfl ?_
      refine g_icmp_gt 177 165 dX8_count_162 rfl rfl (fun c46 => ?_) (fun c46 => ?_)
      · skip
        refine g_iconst ((-1)) 178 dX8_count_177 rfl rfl ?_
        exact g_iret dX8_count_178 rfl (Nat.zero_le _) (Nat.zero_le _) (h60 c1 c2 c3 c4 c5 c6 c7 c8 c15 c22 c29 c36 c43 c44 c45 c46)
      · skip
        refine g_aload_n 0 166 dX8_count_165 rfl rfl ?_
        refine g_getR 169 (((a0 + 1) + 1) + 2) dX8_count_166 rfl flX8_149 s0.2.2.1.2.2.1.1 s0.2.2.1.2.2.1.2.2.2.1 ?_
        refine g_iload_n 2 170 dX8_count_169 rfl rfl ?_
        refine g_bipush (13) 172 dX8_count_170 rfl rfl ?_
        refine g_isub 173 dX8_count_172 rfl ?_
        refine h_iaload 174 ((x1 - 13)).toNatClampNeg dX8_count_173 rfl rfl s0.2.2.1.2.2.1.2.2.2.2.1 (b61 c1 c2 c3 c4 c5 c6 c7 c8 c15 c22 c29 c36 c43 c44 c45 c46) ?_
        refine g_goto 178 dX8_count_174 rfl ?_
        exact g_iret dX8_count_178 rfl (Nat.zero_le _) (Nat.zero_le _) (h62 c1 c2 c3 c4 c5 c6 c7 c8 c15 c22 c29 c36 c43 c44 c45 c46)
  · skip
    refine g_iload_n 2 138 dX8_count_137 rfl rfl ?_
    refine g_bipush (11) 140 dX8_count_138 rfl rfl ?_
    refine g_icmp_gt 153 143 dX8_count_140 rfl rfl (fun c47 => ?_) (fun c47 => ?_)
    · skip
      refine g_iload_n 2 154 dX8_count_153 rfl rfl ?_
      refine g_bipush (13) 156 dX8_count_154 rfl rfl ?_
      refine g_icmp_lt 177 159 dX8_count_156 rfl rfl (fun c48 => ?_) (fun c48 => ?_)
      · skip
        refine g_iconst ((-1)) 178 dX8_count_177 rfl rfl ?_
        exact g_iret dX8_count_178 rfl (Nat.zero_le _) (Nat.zero_le _) (h63 c1 c2 c3 c4 c5 c6 c7 c8 c15 c22 c29 c36 c43 c44 c47 c48)
      · skip
        refine g_iload_n 2 160 dX8_count_159 rfl rfl ?_
        refine g_bipush (15) 162 dX8_count_160 rfl rfl ?_
        refine g_icmp_gt 177 165 dX8_count_162 rfl rfl (fun c49 => ?_) (fun c49 => ?_)
        · skip
          refine g_iconst ((-1)) 178 dX8_count_177 rfl rfl ?_
          exact g_iret dX8_count_178 rfl (Nat.zero_le _) (Nat.zero_le _) (h64 c1 c2 c3 c4 c5 c6 c7 c8 c15 c22 c29 c36 c43 c44 c47 c48 c49)
        · skip
          refine g_aload_n 0 166 dX8_count_165 rfl rfl ?_
          refine g_getR 169 (((a0 + 1) + 1) + 2) dX8_count_166 rfl flX8_149 s0.2.2.1.2.2.1.1 s0.2.2.1.2.2.1.2.2.2.1 ?_
          refine g_iload_n 2 170 dX8_count_169 rfl rfl ?_
          refine g_bipush (13) 172 dX8_count_170 rfl rfl ?_
          refine g_isub 173 dX8_count_172 rfl ?_
          refine h_iaload 174 ((x1 - 13)).toNatClampNeg dX8_count_173 rfl rfl s0.2.2.1.2.2.1.2.2.2.2.1 (b65 c1 c2 c3 c4 c5 c6 c7 c8 c15 c22 c29 c36 c43 c44 c47 c48 c49) ?_
          refine g_goto 178 dX8_count_174 rfl ?_
          exact g_iret dX8_count_178 rfl (Nat.zero_le _) (Nat.zero_le _) (h66 c1 c2 c3 c4 c5 c6 c7 c8 c15 c22 c29 c36 c43 c44 c47 c48 c49)
    · skip
      refine g_aload_n 1 144 dX8_count_143 rfl rfl ?_
      refine g_getR 147 (a0 + 304) dX8_count_144 rfl flX8_78 s0.1 s0.2.2.2.2.2.2.2.2.2.2.2.2.2.2.2.2.2.2.2.2.2.2.2.1 ?_
      refine g_iload_n 2 148 dX8_count_147 rfl rfl ?_
      refine g_bipush (7) 150 dX8_count_148 rfl rfl ?_
      refine g_isub 151 dX8_count_150 rfl ?_
      refine h_iaload 152 ((x1 - 7)).toNatClampNeg dX8_count_151 rfl rfl s0.2.2.2.2.2.2.2.2.2.2.2.2.2.2.2.2.2.2.2.2.2.2.2.2.1 (b67 c1 c2 c3 c4 c5 c6 c7 c8 c15 c22 c29 c36 c43 c44 c47) ?_
      exact g_iret dX8_count_152 rfl (Nat.zero_le _) (Nat.zero_le _) (h68 c1 c2 c3 c4 c5 c6 c7 c8 c15 c22 c29 c36 c43 c44 c47)

def fX8_count (M : gM) (a0 : Nat) (x1 : Int32) : Int32 := (if x1 = 0 then (g_mi M ((a0 + 1) + 1) 3) else (if x1 = 1 then (g_mi M ((a0 + 1) + 1) 4) else (if x1 = 2 then (g_mi M ((a0 + 1) + 1) 5) else (if x1 = 3 then (g_mi M (a0 + 1) 4) else (if x1 = 4 then (g_mi M (a0 + 1) 5) else (if x1 = 5 then (g_mi M (a0 + 13) 3) else (if x1 = 6 then (g_mi M (a0 + 282) 5) else (if x1 = 7 then (if x1 < 7 then (if x1 < 13 then (-1) else (if 15 < x1 then (-1) else (g_mi M (((a0 + 1) + 1) + 2) ((x1 - 13)).toNatClampNeg))) else (if 11 < x1 then (if x1 < 13 then (-1) else (if 15 < x1 then (-1) else (g_mi M (((a0 + 1) + 1) + 2) ((x1 - 13)).toNatClampNeg))) else (g_mi M (a0 + 304) ((x1 - 7)).toNatClampNeg))) else (if x1 = 8 then (if x1 < 7 then (if x1 < 13 then (-1) else (if 15 < x1 then (-1) else (g_mi M (((a0 + 1) + 1) + 2) ((x1 - 13)).toNatClampNeg))) else (if 11 < x1 then (if x1 < 13 then (-1) else (if 15 < x1 then (-1) else (g_mi M (((a0 + 1) + 1) + 2) ((x1 - 13)).toNatClampNeg))) else (g_mi M (a0 + 304) ((x1 - 7)).toNatClampNeg))) else (if x1 = 9 then (if x1 < 7 then (if x1 < 13 then (-1) else (if 15 < x1 then (-1) else (g_mi M (((a0 + 1) + 1) + 2) ((x1 - 13)).toNatClampNeg))) else (if 11 < x1 then (if x1 < 13 then (-1) else (if 15 < x1 then (-1) else (g_mi M (((a0 + 1) + 1) + 2) ((x1 - 13)).toNatClampNeg))) else (g_mi M (a0 + 304) ((x1 - 7)).toNatClampNeg))) else (if x1 = 10 then (if x1 < 7 then (if x1 < 13 then (-1) else (if 15 < x1 then (-1) else (g_mi M (((a0 + 1) + 1) + 2) ((x1 - 13)).toNatClampNeg))) else (if 11 < x1 then (if x1 < 13 then (-1) else (if 15 < x1 then (-1) else (g_mi M (((a0 + 1) + 1) + 2) ((x1 - 13)).toNatClampNeg))) else (g_mi M (a0 + 304) ((x1 - 7)).toNatClampNeg))) else (if x1 = 11 then (if x1 < 7 then (if x1 < 13 then (-1) else (if 15 < x1 then (-1) else (g_mi M (((a0 + 1) + 1) + 2) ((x1 - 13)).toNatClampNeg))) else (if 11 < x1 then (if x1 < 13 then (-1) else (if 15 < x1 then (-1) else (g_mi M (((a0 + 1) + 1) + 2) ((x1 - 13)).toNatClampNeg))) else (g_mi M (a0 + 304) ((x1 - 7)).toNatClampNeg))) else (if x1 = 12 then (g_mi M (a0 + 1) 6) else (if x1 < 7 then (if x1 < 13 then (-1) else (if 15 < x1 then (-1) else (g_mi M (((a0 + 1) + 1) + 2) ((x1 - 13)).toNatClampNeg))) else (if 11 < x1 then (if x1 < 13 then (-1) else (if 15 < x1 then (-1) else (g_mi M (((a0 + 1) + 1) + 2) ((x1 - 13)).toNatClampNeg))) else (g_mi M (a0 + 304) ((x1 - 7)).toNatClampNeg))))))))))))))))
def EX8_count (M : gM) (a0 : Nat) (x1 : Int32) : Prop := ((¬ x1 = 0) → (¬ x1 = 1) → (¬ x1 = 2) → (¬ x1 = 3) → (¬ x1 = 4) → (¬ x1 = 5) → (¬ x1 = 6) → (x1 = 7) → (x1 < 7) → (¬ x1 < 13) → (¬ 15 < x1) → vp_in ((x1 - 13)) 3) ∧ ((¬ x1 = 0) → (¬ x1 = 1) → (¬ x1 = 2) → (¬ x1 = 3) → (¬ x1 = 4) → (¬ x1 = 5) → (¬ x1 = 6) → (x1 = 7) → (¬ x1 < 7) → (11 < x1) → (¬ x1 < 13) → (¬ 15 < x1) → vp_in ((x1 - 13)) 3) ∧ ((¬ x1 = 0) → (¬ x1 = 1) → (¬ x1 = 2) → (¬ x1 = 3) → (¬ x1 = 4) → (¬ x1 = 5) → (¬ x1 = 6) → (x1 = 7) → (¬ x1 < 7) → (¬ 11 < x1) → vp_in ((x1 - 7)) 5) ∧ ((¬ x1 = 0) → (¬ x1 = 1) → (¬ x1 = 2) → (¬ x1 = 3) → (¬ x1 = 4) → (¬ x1 = 5) → (¬ x1 = 6) → (¬ x1 = 7) → (x1 = 8) → (x1 < 7) → (¬ x1 < 13) → (¬ 15 < x1) → vp_in ((x1 - 13)) 3) ∧ ((¬ x1 = 0) → (¬ x1 = 1) → (¬ x1 = 2) → (¬ x1 = 3) → (¬ x1 = 4) → (¬ x1 = 5) → (¬ x1 = 6) → (¬ x1 = 7) → (x1 = 8) → (¬ x1 < 7) → (11 < x1) → (¬ x1 < 13) → (¬ 15 < x1) → vp_in ((x1 - 13)) 3) ∧ ((¬ x1 = 0) → (¬ x1 = 1) → (¬ x1 = 2) → (¬ x1 = 3) → (¬ x1 = 4) → (¬ x1 = 5) → (¬ x1 = 6) → (¬ x1 = 7) → (x1 = 8) → (¬ x1 < 7) → (¬ 11 < x1) → vp_in ((x1 - 7)) 5) ∧ ((¬ x1 = 0) → (¬ x1 = 1) → (¬ x1 = 2) → (¬ x1 = 3) → (¬ x1 = 4) → (¬ x1 = 5) → (¬ x1 = 6) → (¬ x1 = 7) → (¬ x1 = 8) → (x1 = 9) → (x1 < 7) → (¬ x1 < 13) → (¬ 15 < x1) → vp_in ((x1 - 13)) 3) ∧ ((¬ x1 = 0) → (¬ x1 = 1) → (¬ x1 = 2) → (¬ x1 = 3) → (¬ x1 = 4) → (¬ x1 = 5) → (¬ x1 = 6) → (¬ x1 = 7) → (¬ x1 = 8) → (x1 = 9) → (¬ x1 < 7) → (11 < x1) → (¬ x1 < 13) → (¬ 15 < x1) → vp_in ((x1 - 13)) 3) ∧ ((¬ x1 = 0) → (¬ x1 = 1) → (¬ x1 = 2) → (¬ x1 = 3) → (¬ x1 = 4) → (¬ x1 = 5) → (¬ x1 = 6) → (¬ x1 = 7) → (¬ x1 = 8) → (x1 = 9) → (¬ x1 < 7) → (¬ 11 < x1) → vp_in ((x1 - 7)) 5) ∧ ((¬ x1 = 0) → (¬ x1 = 1) → (¬ x1 = 2) → (¬ x1 = 3) → (¬ x1 = 4) → (¬ x1 = 5) → (¬ x1 = 6) → (¬ x1 = 7) → (¬ x1 = 8) → (¬ x1 = 9) → (x1 = 10) → (x1 < 7) → (¬ x1 < 13) → (¬ 15 < x1) → vp_in ((x1 - 13)) 3) ∧ ((¬ x1 = 0) → (¬ x1 = 1) → (¬ x1 = 2) → (¬ x1 = 3) → (¬ x1 = 4) → (¬ x1 = 5) → (¬ x1 = 6) → (¬ x1 = 7) → (¬ x1 = 8) → (¬ x1 = 9) → (x1 = 10) → (¬ x1 < 7) → (11 < x1) → (¬ x1 < 13) → (¬ 15 < x1) → vp_in ((x1 - 13)) 3) ∧ ((¬ x1 = 0) → (¬ x1 = 1) → (¬ x1 = 2) → (¬ x1 = 3) → (¬ x1 = 4) → (¬ x1 = 5) → (¬ x1 = 6) → (¬ x1 = 7) → (¬ x1 = 8) → (¬ x1 = 9) → (x1 = 10) → (¬ x1 < 7) → (¬ 11 < x1) → vp_in ((x1 - 7)) 5) ∧ ((¬ x1 = 0) → (¬ x1 = 1) → (¬ x1 = 2) → (¬ x1 = 3) → (¬ x1 = 4) → (¬ x1 = 5) → (¬ x1 = 6) → (¬ x1 = 7) → (¬ x1 = 8) → (¬ x1 = 9) → (¬ x1 = 10) → (x1 = 11) → (x1 < 7) → (¬ x1 < 13) → (¬ 15 < x1) → vp_in ((x1 - 13)) 3) ∧ ((¬ x1 = 0) → (¬ x1 = 1) → (¬ x1 = 2) → (¬ x1 = 3) → (¬ x1 = 4) → (¬ x1 = 5) → (¬ x1 = 6) → (¬ x1 = 7) → (¬ x1 = 8) → (¬ x1 = 9) → (¬ x1 = 10) → (x1 = 11) → (¬ x1 < 7) → (11 < x1) → (¬ x1 < 13) → (¬ 15 < x1) → vp_in ((x1 - 13)) 3) ∧ ((¬ x1 = 0) → (¬ x1 = 1) → (¬ x1 = 2) → (¬ x1 = 3) → (¬ x1 = 4) → (¬ x1 = 5) → (¬ x1 = 6) → (¬ x1 = 7) → (¬ x1 = 8) → (¬ x1 = 9) → (¬ x1 = 10) → (x1 = 11) → (¬ x1 < 7) → (¬ 11 < x1) → vp_in ((x1 - 7)) 5) ∧ ((¬ x1 = 0) → (¬ x1 = 1) → (¬ x1 = 2) → (¬ x1 = 3) → (¬ x1 = 4) → (¬ x1 = 5) → (¬ x1 = 6) → (¬ x1 = 7) → (¬ x1 = 8) → (¬ x1 = 9) → (¬ x1 = 10) → (¬ x1 = 11) → (¬ x1 = 12) → (x1 < 7) → (¬ x1 < 13) → (¬ 15 < x1) → vp_in ((x1 - 13)) 3) ∧ ((¬ x1 = 0) → (¬ x1 = 1) → (¬ x1 = 2) → (¬ x1 = 3) → (¬ x1 = 4) → (¬ x1 = 5) → (¬ x1 = 6) → (¬ x1 = 7) → (¬ x1 = 8) → (¬ x1 = 9) → (¬ x1 = 10) → (¬ x1 = 11) → (¬ x1 = 12) → (¬ x1 < 7) → (11 < x1) → (¬ x1 < 13) → (¬ 15 < x1) → vp_in ((x1 - 13)) 3) ∧ ((¬ x1 = 0) → (¬ x1 = 1) → (¬ x1 = 2) → (¬ x1 = 3) → (¬ x1 = 4) → (¬ x1 = 5) → (¬ x1 = 6) → (¬ x1 = 7) → (¬ x1 = 8) → (¬ x1 = 9) → (¬ x1 = 10) → (¬ x1 = 11) → (¬ x1 = 12) → (¬ x1 < 7) → (¬ 11 < x1) → vp_in ((x1 - 7)) 5)
theorem tX8_count {X : gX} {d mc ms : Nat} {Q : Option Value → gM → Prop} {M : gM} {a0 : Nat} {x1 : Int32} (s0 : Ph M a0) (hE : EX8_count M a0 x1) (hQ : Q (some (.int (fX8_count M a0 x1))) M) : Cn X d mc ms kX8_count [.ref a0, .int (x1)] M Q := by
  unfold fX8_count at hQ
  obtain ⟨b10, b14, b16, b20, b24, b26, b30, b34, b36, b40, b44, b46, b50, b54, b56, b61, b65, b67⟩ := hE
  exact sX8_count_0 s0 (fun c1 => by simp only [if_pos c1] at hQ; exact hQ) (fun c1 c2 => by simp only [if_neg c1, if_pos c2] at hQ; exact hQ) (fun c1 c2 c3 => by simp only [if_neg c1, if_neg c2, if_pos c3] at hQ; exact hQ) (fun c1 c2 c3 c4 => by simp only [if_neg c1, if_neg c2, if_neg c3, if_pos c4] at hQ; exact hQ) (fun c1 c2 c3 c4 c5 => by simp only [if_neg c1, if_neg c2, if_neg c3, if_neg c4, if_pos c5] at hQ; exact hQ) (fun c1 c2 c3 c4 c5 c6 => by simp only [if_neg c1, if_neg c2, if_neg c3, if_neg c4, if_neg c5, if_pos c6] at hQ; exact hQ) (fun c1 c2 c3 c4 c5 c6 c7 => by simp only [if_neg c1, if_neg c2, if_neg c3, if_neg c4, if_neg c5, if_neg c6, if_pos c7] at hQ; exact hQ) (fun c1 c2 c3 c4 c5 c6 c7 c8 c9 c10 => by simp only [if_neg c1, if_neg c2, if_neg c3, if_neg c4, if_neg c5, if_neg c6, if_neg c7, if_pos c8, if_pos c9, if_pos c10] at hQ; exact hQ) (fun c1 c2 c3 c4 c5 c6 c7 c8 c9 c10 c11 => by simp only [if_neg c1, if_neg c2, if_neg c3, if_neg c4, if_neg c5, if_neg c6, if_neg c7, if_pos c8, if_pos c9, if_neg c10, if_pos c11] at hQ; exact hQ) b10 (fun c1 c2 c3 c4 c5 c6 c7 c8 c9 c10 c11 => by simp only [if_neg c1, if_neg c2, if_neg c3, if_neg c4, if_neg c5, if_neg c6, if_neg c7, if_pos c8, if_pos c9, if_neg c10, if_neg c11] at hQ; exact hQ) (fun c1 c2 c3 c4 c5 c6 c7 c8 c9 c12 c13 => by simp only [if_neg c1, if_neg c2, if_neg c3, if_neg c4, if_neg c5, if_neg c6, if_neg c7, if_pos c8, if_neg c9, if_pos c12, if_pos c13] at hQ; exact hQ) (fun c1 c2 c3 c4 c5 c6 c7 c8 c9 c12 c13 c14 => by simp only [if_neg c1, if_neg c2, if_neg c3, if_neg c4, if_neg c5, if_neg c6, if_neg c7, if_pos c8, if_neg c9, if_pos c12, if_neg c13, if_pos c14] at hQ; exact hQ) b14 (fun c1 c2 c3 c4 c5 c6 c7 c8 c9 c12 c13 c14 => by simp only [if_neg c1, if_neg c2, if_neg c3, if_neg c4, if_neg c5, if_neg c6, if_neg c7, if_pos c8, if_neg c9, if_pos c12, if_neg c13, if_neg c14] at hQ; exact hQ) b16 (fun c1 c2 c3 c4 c5 c6 c7 c8 c9 c12 => by simp only [if_neg c1, if_neg c2, if_neg c3, if_neg c4, if_neg c5, if_neg c6, if_neg c7, if_pos c8, if_neg c9, if_neg c12] at hQ; exact hQ) (fun c1 c2 c3 c4 c5 c6 c7 c8 c15 c16 c17 => by simp only [if_neg c1, if_neg c2, if_neg c3, if_neg c4, if_neg c5, if_neg c6, if_neg c7, if_neg c8, if_pos c15, if_pos c16, if_pos c17] at hQ; exact hQ) (fun c1 c2 c3 c4 c5 c6 c7 c8 c15 c16 c17 c18 => by simp only [if_neg c1, if_neg c2, if_neg c3, if_neg c4, if_neg c5, if_neg c6, if_neg c7, if_neg c8, if_pos c15, if_pos c16, if_neg c17, if_pos c18] at hQ; exact hQ) b20 (fun c1 c2 c3 c4 c5 c6 c7 c8 c15 c16 c17 c18 => by simp only [if_neg c1, if_neg c2, if_neg c3, if_neg c4, if_neg c5, if_neg c6, if_neg c7, if_neg c8, if_pos c15, if_pos c16, if_neg c17, if_neg c18] at hQ; exact hQ) (fun c1 c2 c3 c4 c5 c6 c7 c8 c15 c16 c19 c20 => by simp only [if_neg c1, if_neg c2, if_neg c3, if_neg c4, if_neg c5, if_neg c6, if_neg c7, if_neg c8, if_pos c15, if_neg c16, if_pos c19, if_pos c20] at hQ; exact hQ) (fun c1 c2 c3 c4 c5 c6 c7 c8 c15 c16 c19 c20 c21 => by simp only [if_neg c1, if_neg c2, if_neg c3, if_neg c4, if_neg c5, if_neg c6, if_neg c7, if_neg c8, if_pos c15, if_neg c16, if_pos c19, if_neg c20, if_pos c21] at hQ; exact hQ) b24 (fun c1 c2 c3 c4 c5 c6 c7 c8 c15 c16 c19 c20 c21 => by simp only [if_neg c1, if_neg c2, if_neg c3, if_neg c4, if_neg c5, if_neg c6, if_neg c7, if_neg c8, if_pos c15, if_neg c16, if_pos c19, if_neg c20, if_neg c21] at hQ; exact hQ) b26 (fun c1 c2 c3 c4 c5 c6 c7 c8 c15 c16 c19 => by simp only [if_neg c1, if_neg c2, if_neg c3, if_neg c4, if_neg c5, if_neg c6, if_neg c7, if_neg c8, if_pos c15, if_neg c16, if_neg c19] at hQ; exact hQ) (fun c1 c2 c3 c4 c5 c6 c7 c8 c15 c22 c23 c24 => by simp only [if_neg c1, if_neg c2, if_neg c3, if_neg c4, if_neg c5, if_neg c6, if_neg c7, if_neg c8, if_neg c15, if_pos c22, if_pos c23, if_pos c24] at hQ; exact hQ) (fun c1 c2 c3 c4 c5 c6 c7 c8 c15 c22 c23 c24 c25 => by simp only [if_neg c1, if_neg c2, if_neg c3, if_neg c4, if_neg c5, if_neg c6, if_neg c7, if_neg c8, if_neg c15, if_pos c22, if_pos c23, if_neg c24, if_pos c25] at hQ; exact hQ) b30 (fun c1 c2 c3 c4 c5 c6 c7 c8 c15 c22 c23 c24 c25 => by simp only [if_neg c1, if_neg c2, if_neg c3, if_neg c4, if_neg c5, if_neg c6, if_neg c7, if_neg c8, if_neg c15, if_pos c22, if_pos c23, if_neg c24, if_neg c25] at hQ; exact hQ) (fun c1 c2 c3 c4 c5 c6 c7 c8 c15 c22 c23 c26 c27 => by simp only [if_neg c1, if_neg c2, if_neg c3, if_neg c4, if_neg c5, if_neg c6, if_neg c7, if_neg c8, if_neg c15, if_pos c22, if_neg c23, if_pos c26, if_pos c27] at hQ; exact hQ) (fun c1 c2 c3 c4 c5 c6 c7 c8 c15 c22 c23 c26 c27 c28 => by simp only [if_neg c1, if_neg c2, if_neg c3, if_neg c4, if_neg c5, if_neg c6, if_neg c7, if_neg c8, if_neg c15, if_pos c22, if_neg c23, if_pos c26, if_neg c27, if_pos c28] at hQ; exact hQ) b34 (fun c1 c2 c3 c4 c5 c6 c7 c8 c15 c22 c23 c26 c27 c28 => by simp only [if_neg c1, if_neg c2, if_neg c3, if_neg c4, if_neg c5, if_neg c6, if_neg c7, if_neg c8, if_neg c15, if_pos c22, if_neg c23, if_pos c26, if_neg c27, if_neg c28] at hQ; exact hQ) b36 (fun c1 c2 c3 c4 c5 c6 c7 c8 c15 c22 c23 c26 => by simp only [if_neg c1, if_neg c2, if_neg c3, if_neg c4, if_neg c5, if_neg c6, if_neg c7, if_neg c8, if_neg c15, if_pos c22, if_neg c23, if_neg c26] at hQ; exact hQ) (fun c1 c2 c3 c4 c5 c6 c7 c8 c15 c22 c29 c30 c31 => by simp only [if_neg c1, if_neg c2, if_neg c3, if_neg c4, if_neg c5, if_neg c6, if_neg c7, if_neg c8, if_neg c15, if_neg c22, if_pos c29, if_pos c30, if_pos c31] at hQ; exact hQ) (fun c1 c2 c3 c4 c5 c6 c7 c8 c15 c22 c29 c30 c31 c32 => by simp only [if_neg c1, if_neg c2, if_neg c3, if_neg c4, if_neg c5, if_neg c6, if_neg c7, if_neg c8, if_neg c15, if_neg c22, if_pos c29, if_pos c30, if_neg c31, if_pos c32] at hQ; exact hQ) b40 (fun c1 c2 c3 c4 c5 c6 c7 c8 c15 c22 c29 c30 c31 c32 => by simp only [if_neg c1, if_neg c2, if_neg c3, if_neg c4, if_neg c5, if_neg c6, if_neg c7, if_neg c8, if_neg c15, if_neg c22, if_pos c29, if_pos c30, if_neg c31, if_neg c32] at hQ; exact hQ) (fun c1 c2 c3 c4 c5 c6 c7 c8 c15 c22 c29 c30 c33 c34 => by simp only [if_neg c1, if_neg c2, if_neg c3, if_neg c4, if_neg c5, if_neg c6, if_neg c7, if_neg c8, if_neg c15, if_neg c22, if_pos c29, if_neg c30, if_pos c33, if_pos c34] at hQ; exact hQ) (fun c1 c2 c3 c4 c5 c6 c7 c8 c15 c22 c29 c30 c33 c34 c35 => by simp only [if_neg c1, if_neg c2, if_neg c3, if_neg c4, if_neg c5, if_neg c6, if_neg c7, if_neg c8, if_neg c15, if_neg c22, if_pos c29, if_neg c30, if_pos c33, if_neg c34, if_pos c35] at hQ; exact hQ) b44 (fun c1 c2 c3 c4 c5 c6 c7 c8 c15 c22 c29 c30 c33 c34 c35 => by simp only [if_neg c1, if_neg c2, if_neg c3, if_neg c4, if_neg c5, if_neg c6, if_neg c7, if_neg c8, if_neg c15, if_neg c22, if_pos c29, if_neg c30, if_pos c33, if_neg c34, if_neg c35] at hQ; exact hQ) b46 (fun c1 c2 c3 c4 c5 c6 c7 c8 c15 c22 c29 c30 c33 => by simp only [if_neg c1, if_neg c2, if_neg c3, if_neg c4, if_neg c5, if_neg c6, if_neg c7, if_neg c8, if_neg c15, if_neg c22, if_pos c29, if_neg c30, if_neg c33] at hQ; exact hQ) (fun c1 c2 c3 c4 c5 c6 c7 c8 c15 c22 c29 c36 c37 c38 => by simp only [if_neg c1, if_neg c2, if_neg c3, if_neg c4, if_neg c5, if_neg c6, if_neg c7, if_neg c8, if_neg c15, if_neg c22, if_neg c29, if_pos c36, if_pos c37, if_pos c38] at hQ; exact hQ) (fun c1 c2 c3 c4 c5 c6 c7 c8 c15 c22 c29 c36 c37 c38 c39 => by simp only [if_neg c1, if_neg c2, if_neg c3, if_neg c4, if_neg c5, if_neg c6, if_neg c7, if_neg c8, if_neg c15, if_neg c22, if_neg c29, if_pos c36, if_pos c37, if_neg c38, if_pos c39] at hQ; exact hQ) b50 (fun c1 c2 c3 c4 c5 c6 c7 c8 c15 c22 c29 c36 c37 c38 c39 => by simp only [if_neg c1, if_neg c2, if_neg c3, if_neg c4, if_neg c5, if_neg c6, if_neg c7, if_neg c8, if_neg c15, if_neg c22, if_neg c29, if_pos c36, if_pos c37, if_neg c38, if_neg c39] at hQ; exact hQ) (fun c1 c2 c3 c4 c5 c6 c7 c8 c15 c22 c29 c36 c37 c40 c41 => by simp only [if_neg c1, if_neg c2, if_neg c3, if_neg c4, if_neg c5, if_neg c6, if_neg c7, if_neg c8, if_neg c15, if_neg c22, if_neg c29, if_pos c36, if_neg c37, if_pos c40, if_pos c41] at hQ; exact hQ) (fun c1 c2 c3 c4 c5 c6 c7 c8 c15 c22 c29 c36 c37 c40 c41 c42 => by simp only [if_neg c1, if_neg c2, if_neg c3, if_neg c4, if_neg c5, if_neg c6, if_neg c7, if_neg c8, if_neg c15, if_neg c22, if_neg c29, if_pos c36, if_neg c37, if_pos c40, if_neg c41, if_pos c42] at hQ; exact hQ) b54 (fun c1 c2 c3 c4 c5 c6 c7 c8 c15 c22 c29 c36 c37 c40 c41 c42 => by simp only [if_neg c1, if_neg c2, if_neg c3, if_neg c4, if_neg c5, if_neg c6, if_neg c7, if_neg c8, if_neg c15, if_neg c22, if_neg c29, if_pos c36, if_neg c37, if_pos c40, if_neg c41, if_neg c42] at hQ; exact hQ) b56 (fun c1 c2 c3 c4 c5 c6 c7 c8 c15 c22 c29 c36 c37 c40 => by simp only [if_neg c1, if_neg c2, if_neg c3, if_neg c4, if_neg c5, if_neg c6, if_neg c7, if_neg c8, if_neg c15, if_neg c22, if_neg c29, if_pos c36, if_neg c37, if_neg c40] at hQ; exact hQ) (fun c1 c2 c3 c4 c5 c6 c7 c8 c15 c22 c29 c36 c43 => by simp only [if_neg c1, if_neg c2, if_neg c3, if_neg c4, if_neg c5, if_neg c6, if_neg c7, if_neg c8, if_neg c15, if_neg c22, if_neg c29, if_neg c36, if_pos c43] at hQ; exact hQ) (fun c1 c2 c3 c4 c5 c6 c7 c8 c15 c22 c29 c36 c43 c44 c45 => by simp only [if_neg c1, if_neg c2, if_neg c3, if_neg c4, if_neg c5, if_neg c6, if_neg c7, if_neg c8, if_neg c15, if_neg c22, if_neg c29, if_neg c36, if_neg c43, if_pos c44, if_pos c45] at hQ; exact hQ) (fun c1 c2 c3 c4 c5 c6 c7 c8 c15 c22 c29 c36 c43 c44 c45 c46 => by simp only [if_neg c1, if_neg c2, if_neg c3, if_neg c4, if_neg c5, if_neg c6, if_neg c7, if_neg c8, if_neg c15, if_neg c22, if_neg c29, if_neg c36, if_neg c43, if_pos c44, if_neg c45, if_pos c46] at hQ; exact hQ) b61 (fun c1 c2 c3 c4 c5 c6 c7 c8 c15 c22 c29 c36 c43 c44 c45 c46 => by simp only [if_neg c1, if_neg c2, if_neg c3, if_neg c4, if_neg c5, if_neg c6, if_neg c7, if_neg c8, if_neg c15, if_neg c22, if_neg c29, if_neg c36, if_neg c43, if_pos c44, if_neg c45, if_neg c46] at hQ; exact hQ) (fun c1 c2 c3 c4 c5 c6 c7 c8 c15 c22 c29 c36 c43 c44 c47 c48 => by simp only [if_neg c1, if_neg c2, if_neg c3, if_neg c4, if_neg c5, if_neg c6, if_neg c7, if_neg c8, if_neg c15, if_neg c22, if_neg c29, if_neg c36, if_neg c43, if_neg c44, if_pos c47, if_pos c48] at hQ; exact hQ) (fun c1 c2 c3 c4 c5 c6 c7 c8 c15 c22 c29 c36 c43 c44 c47 c48 c49 => by simp only [if_neg c1, if_neg c2, if_neg c3, if_neg c4, if_neg c5, if_neg c6, if_neg c7, if_neg c8, if_neg c15, if_neg c22, if_neg c29, if_neg c36, if_neg c43, if_neg c44, if_pos c47, if_neg c48, if_pos c49] at hQ; exact hQ) b65 (fun c1 c2 c3 c4 c5 c6 c7 c8 c15 c22 c29 c36 c43 c44 c47 c48 c49 => by simp only [if_neg c1, if_neg c2, if_neg c3, if_neg c4, if_neg c5, if_neg c6, if_neg c7, if_neg c8, if_neg c15, if_neg c22, if_neg c29, if_neg c36, if_neg c43, if_neg c44, if_pos c47, if_neg c48, if_neg c49] at hQ; exact hQ) b67 (fun c1 c2 c3 c4 c5 c6 c7 c8 c15 c22 c29 c36 c43 c44 c47 => by simp only [if_neg c1, if_neg c2, if_neg c3, if_neg c4, if_neg c5, if_neg c6, if_neg c7, if_neg c8, if_neg c15, if_neg c22, if_neg c29, if_neg c36, if_neg c43, if_neg c44, if_neg c47] at hQ; exact hQ)
/-! X8_status  -/
set_option maxRecDepth 4000 in
theorem sX8_status_0 {X : gX} {d mc ms : Nat} {Q : Option Value → gM → Prop} {M : gM} {a0 : Nat} (s0 : Ph M a0) (h1 : Q (some (.int ((g_mi M a0 16)))) M) : Cn X d mc ms kX8_status [.ref a0] M Q := by
  refine g_meth rfl rfl (Nat.le_of_ble_eq_true rfl) rfl ?_
  refine g_aload_n 0 1 dX8_status_0 rfl rfl ?_
  refine g_getI 4 dX8_status_1 rfl flX8_338 s0.1 ?_
  exact g_iret dX8_status_4 rfl (Nat.zero_le _) (Nat.zero_le _) (h1)

def fX8_status (M : gM) (a0 : Nat) : Int32 := (g_mi M a0 16)
theorem tX8_status {X : gX} {d mc ms : Nat} {Q : Option Value → gM → Prop} {M : gM} {a0 : Nat} (s0 : Ph M a0) (hQ : Q (some (.int (fX8_status M a0))) M) : Cn X d mc ms kX8_status [.ref a0] M Q := by
  unfold fX8_status at hQ
  exact sX8_status_0 s0 hQ
/-! X8_takeFrom  -/
set_option maxRecDepth 4000 in
theorem sX8_takeFrom_0 {N : Nat} {X : gX} {d mc ms : Nat} {Q : Option Value → gM → Prop} {M : gM} {a0 : Nat} {x1 : Int32} (s0 : St M a0) (b1 : (¬ (fX8_isKey x1) = 0) → EX3_has N M a0 x1) (b2 : (¬ (fX8_isKey x1) = 0) → (¬ (fX3_has N M a0 x1) = 0) → EX3_remove N M a0 x1) (h3 : (¬ (fX8_isKey x1) = 0) → (¬ (fX3_has N M a0 x1) = 0) → Q (some (.int ((g_mi (mX3_remove N M a0 x1) a0 3)))) (mX3_remove N M a0 x1)) (h4 : (¬ (fX8_isKey x1) = 0) → ((fX3_has N M a0 x1) = 0) → Q (some (.int ((-3)))) M) (h5 : ((fX8_isKey x1) = 0) → Q (some (.int ((-1)))) M) : Cn X (d + 3) mc ms kX8_takeFrom [.ref a0, .int (x1)] M Q := by
  refine g_meth rfl rfl (Nat.le_of_ble_eq_true rfl) rfl ?_
  refine g_iload_n 1 1 dX8_takeFrom_0 rfl rfl ?_
  refine g_callS (mc1 := 0) (ms1 := 0) (rest := []) (av := [.int (x1)]) kX8_isKey 4 dX8_takeFrom_1 rfl rfl mbX8_98 smX8_isKey (Nat.le_of_ble_eq_true rfl) (Nat.zero_le _) (Nat.zero_le _) (tX8_isKey  ?_)
  show Go X (d + 3) mc ms kX8_takeFrom Q 4 [(0, .ref a0), (1, .int (x1))] [.int ((fX8_isKey x1))] M 0 0
  refine g_if_ne 9 7 dX8_takeFrom_4 rfl rfl (fun c1 => ?_) (fun c1 => ?_)
  · skip
    refine g_aload_n 0 10 dX8_takeFrom_9 rfl rfl ?_
    refine g_iload_n 1 11 dX8_takeFrom_10 rfl rfl ?_
    refine g_callV (mc1 := 0) (ms1 := 0) (b := a0) (rest := []) (av := [.int (x1)]) kX3_has 14 dX8_takeFrom_11 rfl rfl mbX8_105 imX3_has seX3_has gcl3.1 s0.1 (Nat.le_of_ble_eq_true rfl) (Nat.zero_le _) (Nat.zero_le _) (tX3_has (N := N) s0 (b1 c1) ?_)
    show Go X (d + 3) mc ms kX8_takeFrom Q 14 [(0, .ref a0), (1, .int (x1))] [.int ((fX3_has N M a0 x1))] M 0 0
    refine g_if_ne 20 17 dX8_takeFrom_14 rfl rfl (fun c2 => ?_) (fun c2 => ?_)
    · skip
      refine g_aload_n 0 21 dX8_takeFrom_20 rfl rfl ?_
      refine g_iload_n 1 22 dX8_takeFrom_21 rfl rfl ?_
      refine g_callV (mc1 := 0) (ms1 := 0) (b := a0) (rest := []) (av := [.int (x1)]) kX3_remove 25 dX8_takeFrom_22 rfl rfl mbX8_362 imX3_remove seX3_remove gcl3.1 s0.1 (Nat.le_of_ble_eq_true rfl) (Nat.zero_le _) (Nat.zero_le _) (tX3_remove (N := N) s0 (b2 c1 c2) ?_)
      show Go X (d + 3) mc ms kX8_takeFrom Q 25 [(0, .ref a0), (1, .int (x1))] [] (mX3_remove N M a0 x1) 0 0
      refine g_aload_n 0 26 dX8_takeFrom_25 rfl rfl ?_
      refine g_getI 29 dX8_takeFrom_26 rfl flX8_137 (Sm.k (Sm.tr Sm.rf jX3_remove) s0.1) ?_
      exact g_iret dX8_takeFrom_29 rfl (Nat.zero_le _) (Nat.zero_le _) (h3 c1 c2)
    · skip
      refine g_bipush ((-3)) 19 dX8_takeFrom_17 rfl rfl ?_
      exact g_iret dX8_takeFrom_19 rfl (Nat.zero_le _) (Nat.zero_le _) (h4 c1 c2)
  · skip
    refine g_iconst ((-1)) 8 dX8_takeFrom_7 rfl rfl ?_
    exact g_iret dX8_takeFrom_8 rfl (Nat.zero_le _) (Nat.zero_le _) (h5 c1)

def fX8_takeFrom (N : Nat) (M : gM) (a0 : Nat) (x1 : Int32) : Int32 := (if (fX8_isKey x1) = 0 then (-1) else (if (fX3_has N M a0 x1) = 0 then (-3) else (g_mi (mX3_remove N M a0 x1) a0 3)))
def mX8_takeFrom (N : Nat) (M : gM) (a0 : Nat) (x1 : Int32) : gM := g_wm M (if (fX8_isKey x1) = 0 then (g_mi M) else (if (fX3_has N M a0 x1) = 0 then (g_mi M) else (g_mi (mX3_remove N M a0 x1)))) (g_ml M)
def EX8_takeFrom (N : Nat) (M : gM) (a0 : Nat) (x1 : Int32) : Prop := ((¬ (fX8_isKey x1) = 0) → EX3_has N M a0 x1) ∧ ((¬ (fX8_isKey x1) = 0) → (¬ (fX3_has N M a0 x1) = 0) → EX3_remove N M a0 x1)
theorem jX8_takeFrom {N : Nat} {M : gM} {a0 : Nat} {x1 : Int32} : Sm M (mX8_takeFrom N M a0 x1) := Sm.wm
theorem tX8_takeFrom {N : Nat} {X : gX} {d mc ms : Nat} {Q : Option Value → gM → Prop} {M : gM} {a0 : Nat} {x1 : Int32} (s0 : St M a0) (hE : EX8_takeFrom N M a0 x1) (hQ : Q (some (.int (fX8_takeFrom N M a0 x1))) (mX8_takeFrom N M a0 x1)) : Cn X (d + 3) mc ms kX8_takeFrom [.ref a0, .int (x1)] M Q := by
  unfold fX8_takeFrom mX8_takeFrom at hQ
  obtain ⟨b1, b2⟩ := hE
  exact sX8_takeFrom_0 s0 b1 b2 (fun c1 c2 => by simp only [if_neg c1, if_neg c2] at hQ; exact Sm.q (Sm.tr Sm.rf jX3_remove) hQ) (fun c1 c2 => by simp only [if_neg c1, if_pos c2] at hQ; exact Sm.q Sm.rf hQ) (fun c1 => by simp only [if_pos c1] at hQ; exact Sm.q Sm.rf hQ)
/-! X8_setSide  -/
set_option maxRecDepth 4000 in
theorem sX8_setSide_0 {X : gX} {d mc ms : Nat} {Q : Option Value → gM → Prop} {M : gM} {a0 : Nat} {x1 : Int32} (s0 : St M a0) (h1 : (x1 < 2) → Q (some (.int ((-1)))) M) (h2 : (¬ x1 < 2) → (x1 ≤ 20) → (¬ x1 = (g_mi M a0 4)) → Q (some (.int ((g_mi M a0 4)))) (g_wi M a0 4 x1)) (h3 : (¬ x1 < 2) → (x1 ≤ 20) → (x1 = (g_mi M a0 4)) → Q (some (.int ((-3)))) M) (h4 : (¬ x1 < 2) → (¬ x1 ≤ 20) → Q (some (.int ((-1)))) M) : Cn X d mc ms kX8_setSide [.ref a0, .int (x1)] M Q := by
  refine g_meth rfl rfl (Nat.le_of_ble_eq_true rfl) rfl ?_
  refine g_iload_n 1 1 dX8_setSide_0 rfl rfl ?_
  refine g_iconst (2) 2 dX8_setSide_1 rfl rfl ?_
  refine g_icmp_lt 11 5 dX8_setSide_2 rfl rfl (fun c1 => ?_) (fun c1 => ?_)
  · skip
    refine g_iconst ((-1)) 12 dX8_setSide_11 rfl rfl ?_
    exact g_iret dX8_setSide_12 rfl (Nat.zero_le _) (Nat.zero_le _) (h1 c1)
  · skip
    refine g_iload_n 1 6 dX8_setSide_5 rfl rfl ?_
    refine g_bipush (20) 8 dX8_setSide_6 rfl rfl ?_
    refine g_icmp_le 13 11 dX8_setSide_8 rfl rfl (fun c2 => ?_) (fun c2 => ?_)
    · skip
      refine g_iload_n 1 14 dX8_setSide_13 rfl rfl ?_
      refine g_aload_n 0 15 dX8_setSide_14 rfl rfl ?_
      refine g_getI 18 dX8_setSide_15 rfl flX8_119 s0.1 ?_
      refine g_icmp_ne 24 21 dX8_setSide_18 rfl rfl (fun c3 => ?_) (fun c3 => ?_)
      · skip
        refine g_aload_n 0 25 dX8_setSide_24 rfl rfl ?_
        refine g_getI 28 dX8_setSide_25 rfl flX8_119 s0.1 ?_
        refine g_istore_n 29 [(2, .int ((g_mi M a0 4))), (0, .ref a0), (1, .int (x1))] dX8_setSide_28 rfl (Nat.le_of_ble_eq_true rfl) rfl ?_
        refine g_aload_n 1 30 dX8_setSide_29 rfl rfl ?_
        refine g_iload_n 2 31 dX8_setSide_30 rfl rfl ?_
        refine g_putI 34 dX8_setSide_31 rfl flX8_119 s0.1 ?_
        refine g_iload_n 0 35 dX8_setSide_34 rfl rfl ?_
        exact g_iret dX8_setSide_35 rfl (Nat.zero_le _) (Nat.zero_le _) (h2 c1 c2 c3)
      · skip
        refine g_bipush ((-3)) 23 dX8_setSide_21 rfl rfl ?_
        exact g_iret dX8_setSide_23 rfl (Nat.zero_le _) (Nat.zero_le _) (h3 c1 c2 c3)
    · skip
      refine g_iconst ((-1)) 12 dX8_setSide_11 rfl rfl ?_
      exact g_iret dX8_setSide_12 rfl (Nat.zero_le _) (Nat.zero_le _) (h4 c1 c2)

def fX8_setSide (M : gM) (a0 : Nat) (x1 : Int32) : Int32 := (if x1 < 2 then (-1) else (if x1 ≤ 20 then (if x1 = (g_mi M a0 4) then (-3) else (g_mi M a0 4)) else (-1)))
def mX8_setSide (M : gM) (a0 : Nat) (x1 : Int32) : gM := g_wm M (if x1 < 2 then (g_mi M) else (if x1 ≤ 20 then (if x1 = (g_mi M a0 4) then (g_mi M) else (g_mi (g_wi M a0 4 x1))) else (g_mi M))) (g_ml M)
theorem jX8_setSide {M : gM} {a0 : Nat} {x1 : Int32} : Sm M (mX8_setSide M a0 x1) := Sm.wm
theorem tX8_setSide {X : gX} {d mc ms : Nat} {Q : Option Value → gM → Prop} {M : gM} {a0 : Nat} {x1 : Int32} (s0 : St M a0) (hQ : Q (some (.int (fX8_setSide M a0 x1))) (mX8_setSide M a0 x1)) : Cn X d mc ms kX8_setSide [.ref a0, .int (x1)] M Q := by
  unfold fX8_setSide mX8_setSide at hQ
  exact sX8_setSide_0 s0 (fun c1 => by simp only [if_pos c1] at hQ; exact Sm.q Sm.rf hQ) (fun c1 c2 c3 => by simp only [if_neg c1, if_pos c2, if_neg c3] at hQ; exact Sm.q (Sm.wi Sm.rf) hQ) (fun c1 c2 c3 => by simp only [if_neg c1, if_pos c2, if_pos c3] at hQ; exact Sm.q Sm.rf hQ) (fun c1 c2 => by simp only [if_neg c1, if_neg c2] at hQ; exact Sm.q Sm.rf hQ)
/-! X8_setSeed  -/
set_option maxRecDepth 4000 in
theorem sX8_setSeed_0 {X : gX} {d mc ms : Nat} {Q : Option Value → gM → Prop} {M : gM} {a0 : Nat} {x1 : Int32} (s0 : St M a0) (h1 : (¬ (fX8_isSeed x1) = 0) → (¬ x1 = (g_mi M a0 5)) → Q (some (.int ((g_mi M a0 5)))) (g_wi M a0 5 x1)) (h2 : (¬ (fX8_isSeed x1) = 0) → (x1 = (g_mi M a0 5)) → Q (some (.int ((-3)))) M) (h3 : ((fX8_isSeed x1) = 0) → Q (some (.int ((-1)))) M) : Cn X (d + 1) mc ms kX8_setSeed [.ref a0, .int (x1)] M Q := by
  refine g_meth rfl rfl (Nat.le_of_ble_eq_true rfl) rfl ?_
  refine g_iload_n 1 1 dX8_setSeed_0 rfl rfl ?_
  refine g_callS (mc1 := 0) (ms1 := 0) (rest := []) (av := [.int (x1)]) kX8_isSeed 4 dX8_setSeed_1 rfl rfl mbX8_226 smX8_isSeed (Nat.le_of_ble_eq_true rfl) (Nat.zero_le _) (Nat.zero_le _) (tX8_isSeed  ?_)
  show Go X (d + 1) mc ms kX8_setSeed Q 4 [(0, .ref a0), (1, .int (x1))] [.int ((fX8_isSeed x1))] M 0 0
  refine g_if_ne 9 7 dX8_setSeed_4 rfl rfl (fun c1 => ?_) (fun c1 => ?_)
  · skip
    refine g_iload_n 1 10 dX8_setSeed_9 rfl rfl ?_
    refine g_aload_n 0 11 dX8_setSeed_10 rfl rfl ?_
    refine g_getI 14 dX8_setSeed_11 rfl flX8_116 s0.1 ?_
    refine g_icmp_ne 20 17 dX8_setSeed_14 rfl rfl (fun c2 => ?_) (fun c2 => ?_)
    · skip
      refine g_aload_n 0 21 dX8_setSeed_20 rfl rfl ?_
      refine g_getI 24 dX8_setSeed_21 rfl flX8_116 s0.1 ?_
      refine g_istore_n 25 [(2, .int ((g_mi M a0 5))), (0, .ref a0), (1, .int (x1))] dX8_setSeed_24 rfl (Nat.le_of_ble_eq_true rfl) rfl ?_
      refine g_aload_n 1 26 dX8_setSeed_25 rfl rfl ?_
      refine g_iload_n 2 27 dX8_setSeed_26 rfl rfl ?_
      refine g_putI 30 dX8_setSeed_27 rfl flX8_116 s0.1 ?_
      refine g_iload_n 0 31 dX8_setSeed_30 rfl rfl ?_
      exact g_iret dX8_setSeed_31 rfl (Nat.zero_le _) (Nat.zero_le _) (h1 c1 c2)
    · skip
      refine g_bipush ((-3)) 19 dX8_setSeed_17 rfl rfl ?_
      exact g_iret dX8_setSeed_19 rfl (Nat.zero_le _) (Nat.zero_le _) (h2 c1 c2)
  · skip
    refine g_iconst ((-1)) 8 dX8_setSeed_7 rfl rfl ?_
    exact g_iret dX8_setSeed_8 rfl (Nat.zero_le _) (Nat.zero_le _) (h3 c1)

def fX8_setSeed (M : gM) (a0 : Nat) (x1 : Int32) : Int32 := (if (fX8_isSeed x1) = 0 then (-1) else (if x1 = (g_mi M a0 5) then (-3) else (g_mi M a0 5)))
def mX8_setSeed (M : gM) (a0 : Nat) (x1 : Int32) : gM := g_wm M (if (fX8_isSeed x1) = 0 then (g_mi M) else (if x1 = (g_mi M a0 5) then (g_mi M) else (g_mi (g_wi M a0 5 x1)))) (g_ml M)
theorem jX8_setSeed {M : gM} {a0 : Nat} {x1 : Int32} : Sm M (mX8_setSeed M a0 x1) := Sm.wm
theorem tX8_setSeed {X : gX} {d mc ms : Nat} {Q : Option Value → gM → Prop} {M : gM} {a0 : Nat} {x1 : Int32} (s0 : St M a0) (hQ : Q (some (.int (fX8_setSeed M a0 x1))) (mX8_setSeed M a0 x1)) : Cn X (d + 1) mc ms kX8_setSeed [.ref a0, .int (x1)] M Q := by
  unfold fX8_setSeed mX8_setSeed at hQ
  exact sX8_setSeed_0 s0 (fun c1 c2 => by simp only [if_neg c1, if_neg c2] at hQ; exact Sm.q (Sm.wi Sm.rf) hQ) (fun c1 c2 => by simp only [if_neg c1, if_pos c2] at hQ; exact Sm.q Sm.rf hQ) (fun c1 => by simp only [if_pos c1] at hQ; exact Sm.q Sm.rf hQ)
/-! X8_tellOrders  -/
set_option maxRecDepth 4000 in
theorem sX8_tellOrders_0 {X : gX} {d mc ms : Nat} {Q : Option Value → gM → Prop} {M : gM} {a0 : Nat} {x1 : Int32} {x2 : Int32} (s0 : Ph M a0) (h1 : Go X (d + 3) mc ms kX8_tellOrders Q 52 [(0, .ref a0), (3, .ref ((a0 + 1) + 1)), (4, .ref ((a0 + 271) + 1)), (5, .int (0))] [] (g_wi (g_wi (g_wi (g_wi M ((a0 + 271) + 1) 6 (g_mi M (((a0 + 1) + 1) + 2) 0)) ((a0 + 271) + 1) 7 x1) ((a0 + 271) + 1) 8 x2) ((a0 + 271) + 1) 9 (g_mi (g_wi (g_wi (g_wi M ((a0 + 271) + 1) 6 (g_mi M (((a0 + 1) + 1) + 2) 0)) ((a0 + 271) + 1) 7 x1) ((a0 + 271) + 1) 8 x2) ((a0 + 1) + 1) 3)) 0 0) : Cn X (d + 3) mc ms kX8_tellOrders [.ref a0, .int (x1), .int (x2)] M Q := by
  refine g_meth rfl rfl (Nat.le_of_ble_eq_true rfl) rfl ?_
  refine g_aload_n 0 1 dX8_tellOrders_0 rfl rfl ?_
  refine g_getR 4 (a0 + 1) dX8_tellOrders_1 rfl flX8_14 s0.1 s0.2.1 ?_
  refine g_getR 7 ((a0 + 1) + 1) dX8_tellOrders_4 rfl flX8_102 s0.2.2.1.1 s0.2.2.1.2.1 ?_
  refine g_astore_n 8 [(3, .ref ((a0 + 1) + 1)), (0, .ref a0), (1, .int (x1)), (2, .int (x2))] dX8_tellOrders_7 rfl (Nat.le_of_ble_eq_true rfl) rfl ?_
  refine g_aload_n 1 9 dX8_tellOrders_8 rfl rfl ?_
  refine g_getR 12 (a0 + 271) dX8_tellOrders_9 rfl flX8_45 s0.1 s0.2.2.2.2.2.2.2.2.2.2.2.2.2.1 ?_
  refine g_getR 15 ((a0 + 271) + 1) dX8_tellOrders_12 rfl flX8_384 s0.2.2.2.2.2.2.2.2.2.2.2.2.2.2.1.1 s0.2.2.2.2.2.2.2.2.2.2.2.2.2.2.1.2.1 ?_
  refine g_astore 17 [(4, .ref ((a0 + 271) + 1)), (3, .ref ((a0 + 1) + 1)), (0, .ref a0), (1, .int (x1)), (2, .int (x2))] dX8_tellOrders_15 rfl (Nat.le_of_ble_eq_true rfl) rfl ?_
  refine g_aload 0 19 dX8_tellOrders_17 rfl rfl ?_
  refine g_bipush (6) 21 dX8_tellOrders_19 rfl rfl ?_
  refine g_aload_n 1 22 dX8_tellOrders_21 rfl rfl ?_
  refine g_getR 25 (((a0 + 1) + 1) + 2) dX8_tellOrders_22 rfl flX8_149 s0.2.2.1.2.2.1.1 s0.2.2.1.2.2.1.2.2.2.1 ?_
  refine g_iconst (0) 26 dX8_tellOrders_25 rfl rfl ?_
  refine h_iaload 27 0 dX8_tellOrders_26 rfl rfl s0.2.2.1.2.2.1.2.2.2.2.1 (vp_lit rfl) ?_
  refine h_iastore 28 6 dX8_tellOrders_27 rfl rfl s0.2.2.2.2.2.2.2.2.2.2.2.2.2.2.1.2.2.1 (vp_lit rfl) ?_
  refine g_aload 0 30 dX8_tellOrders_28 rfl rfl ?_
  refine g_bipush (7) 32 dX8_tellOrders_30 rfl rfl ?_
  refine g_iload_n 3 33 dX8_tellOrders_32 rfl rfl ?_
  refine h_iastore 34 7 dX8_tellOrders_33 rfl rfl (Sm.k (Sm.wi Sm.rf) s0.2.2.2.2.2.2.2.2.2.2.2.2.2.2.1.2.2.1) (vp_lit rfl) ?_
  refine g_aload 0 36 dX8_tellOrders_34 rfl rfl ?_
  refine g_bipush (8) 38 dX8_tellOrders_36 rfl rfl ?_
  refine g_iload_n 4 39 dX8_tellOrders_38 rfl rfl ?_
  refine h_iastore 40 8 dX8_tellOrders_39 rfl rfl (Sm.k (Sm.wi (Sm.wi Sm.rf)) s0.2.2.2.2.2.2.2.2.2.2.2.2.2.2.1.2.2.1) (vp_lit rfl) ?_
  refine g_aload 0 42 dX8_tellOrders_40 rfl rfl ?_
  refine g_bipush (9) 44 dX8_tellOrders_42 rfl rfl ?_
  refine g_aload_n 1 45 dX8_tellOrders_44 rfl rfl ?_
  refine g_getI 48 dX8_tellOrders_45 rfl flX8_137 (Sm.k (Sm.wi (Sm.wi (Sm.wi Sm.rf))) s0.2.2.1.2.2.1.1) ?_
  refine h_iastore 49 9 dX8_tellOrders_48 rfl rfl (Sm.k (Sm.wi (Sm.wi (Sm.wi Sm.rf))) s0.2.2.2.2.2.2.2.2.2.2.2.2.2.2.1.2.2.1) (vp_lit rfl) ?_
  refine g_iconst (0) 50 dX8_tellOrders_49 rfl rfl ?_
  refine g_istore 52 [(5, .int (0)), (4, .ref ((a0 + 271) + 1)), (3, .ref ((a0 + 1) + 1)), (0, .ref a0), (1, .int (x1)), (2, .int (x2))] dX8_tellOrders_50 rfl (Nat.le_of_ble_eq_true rfl) rfl ?_
  exact g_sub [3, 2, 1, 0] _ rfl (h1)

set_option maxRecDepth 4000 in
theorem sX8_tellOrders_52 {N : Nat} {X : gX} {d mc ms : Nat} {Q : Option Value → gM → Prop} {M : gM} {c z : Nat} {a0 : Nat} {a3 : Nat} {a4 n4 : Nat} {x5 : Int32} (s0 : Ph M a0) (s3 : St M a3) (s4 : g_kd M a4 = some (100, n4)) (h1 : ((g_mi M (a0 + 282) 4) ≤ x5) → Q none M) (w2 : c ≤ mc) (w3 : z ≤ ms) (b4 : (¬ (g_mi M (a0 + 282) 4) ≤ x5) → vp_in (x5) 50) (b5 : (¬ (g_mi M (a0 + 282) 4) ≤ x5) → ((g_mi M ((a0 + 282) + 10) (x5).toNatClampNeg) = 0) → EX5_numberOf N M (a3 + 3) (g_mi M ((a0 + 282) + 9) (x5).toNatClampNeg)) (b6 : (¬ (g_mi M (a0 + 282) 4) ≤ x5) → ((g_mi M ((a0 + 282) + 10) (x5).toNatClampNeg) = 0) → vp_in ((10 + x5)) n4) (h7 : (¬ (g_mi M (a0 + 282) 4) ≤ x5) → ((g_mi M ((a0 + 282) + 10) (x5).toNatClampNeg) = 0) → Go X (d + 3) mc ms kX8_tellOrders Q 52 [(0, .ref a0), (3, .ref a3), (4, .ref a4), (5, .int ((x5 + 1)))] [] (g_wi M a4 ((10 + x5)).toNatClampNeg (fX5_numberOf N M (a3 + 3) (g_mi M ((a0 + 282) + 9) (x5).toNatClampNeg))) c z) (b8 : (¬ (g_mi M (a0 + 282) 4) ≤ x5) → (¬ (g_mi M ((a0 + 282) + 10) (x5).toNatClampNeg) = 0) → EX3_degreeOf N M a3 (g_mi M ((a0 + 282) + 9) (x5).toNatClampNeg)) (b9 : (¬ (g_mi M (a0 + 282) 4) ≤ x5) → (¬ (g_mi M ((a0 + 282) + 10) (x5).toNatClampNeg) = 0) → vp_in ((10 + x5)) n4) (h10 : (¬ (g_mi M (a0 + 282) 4) ≤ x5) → (¬ (g_mi M ((a0 + 282) + 10) (x5).toNatClampNeg) = 0) → Go X (d + 3) mc ms kX8_tellOrders Q 52 [(0, .ref a0), (3, .ref a3), (4, .ref a4), (5, .int ((x5 + 1)))] [] (g_wi M a4 ((10 + x5)).toNatClampNeg (fX3_degreeOf N M a3 (g_mi M ((a0 + 282) + 9) (x5).toNatClampNeg))) c z) : Go X (d + 3) mc ms kX8_tellOrders Q 52 [(0, .ref a0), (3, .ref a3), (4, .ref a4), (5, .int (x5))] [] M c z := by
  refine g_iload 3 54 dX8_tellOrders_52 rfl rfl ?_
  refine g_aload_n 0 55 dX8_tellOrders_54 rfl rfl ?_
  refine g_getR 58 (a0 + 282) dX8_tellOrders_55 rfl flX8_61 s0.1 s0.2.2.2.2.2.2.2.2.2.2.2.2.2.2.2.2.2.1 ?_
  refine g_getI 61 dX8_tellOrders_58 rfl flX8_387 s0.2.2.2.2.2.2.2.2.2.2.2.2.2.2.2.2.2.2.1.1 ?_
  refine g_icmp_ge 121 64 dX8_tellOrders_61 rfl rfl (fun c1 => ?_) (fun c1 => ?_)
  · skip
    exact g_vret dX8_tellOrders_121 rfl (w2) (w3) (h1 c1)
  · skip
    refine g_aload_n 0 65 dX8_tellOrders_64 rfl rfl ?_
    refine g_getR 68 (a0 + 282) dX8_tellOrders_65 rfl flX8_61 s0.1 s0.2.2.2.2.2.2.2.2.2.2.2.2.2.2.2.2.2.1 ?_
    refine g_getR 71 ((a0 + 282) + 9) dX8_tellOrders_68 rfl flX8_390 s0.2.2.2.2.2.2.2.2.2.2.2.2.2.2.2.2.2.2.1.1 s0.2.2.2.2.2.2.2.2.2.2.2.2.2.2.2.2.2.2.1.2.2.2.2.2.1 ?_
    refine g_iload 3 73 dX8_tellOrders_71 rfl rfl ?_
    refine h_iaload 74 (x5).toNatClampNeg dX8_tellOrders_73 rfl rfl s0.2.2.2.2.2.2.2.2.2.2.2.2.2.2.2.2.2.2.1.2.2.2.2.2.2.1 (b4 c1) ?_
    refine g_istore 76 [(6, .int ((g_mi M ((a0 + 282) + 9) (x5).toNatClampNeg))), (0, .ref a0), (3, .ref a3), (4, .ref a4), (5, .int (x5))] dX8_tellOrders_74 rfl (Nat.le_of_ble_eq_true rfl) rfl ?_
    refine g_aload 3 78 dX8_tellOrders_76 rfl rfl ?_
    refine g_bipush (10) 80 dX8_tellOrders_78 rfl rfl ?_
    refine g_iload 4 82 dX8_tellOrders_80 rfl rfl ?_
    refine g_iadd 83 dX8_tellOrders_82 rfl ?_
    refine g_aload_n 1 84 dX8_tellOrders_83 rfl rfl ?_
    refine g_getR 87 (a0 + 282) dX8_tellOrders_84 rfl flX8_61 s0.1 s0.2.2.2.2.2.2.2.2.2.2.2.2.2.2.2.2.2.1 ?_
    refine g_getR 90 ((a0 + 282) + 10) dX8_tellOrders_87 rfl flX8_393 s0.2.2.2.2.2.2.2.2.2.2.2.2.2.2.2.2.2.2.1.1 s0.2.2.2.2.2.2.2.2.2.2.2.2.2.2.2.2.2.2.1.2.2.2.2.2.2.2.1 ?_
    refine g_iload 4 92 dX8_tellOrders_90 rfl rfl ?_
    refine h_zaload 93 (x5).toNatClampNeg dX8_tellOrders_92 rfl rfl s0.2.2.2.2.2.2.2.2.2.2.2.2.2.2.2.2.2.2.1.2.2.2.2.2.2.2.2.1 (b4 c1) ?_
    refine g_if_eq 105 96 dX8_tellOrders_93 rfl rfl (fun c2 => ?_) (fun c2 => ?_)
    · skip
      refine g_aload_n 2 106 dX8_tellOrders_105 rfl rfl ?_
      refine g_getR 109 (a3 + 3) dX8_tellOrders_106 rfl flX8_250 s3.1 s3.2.2.2.2.2.1 ?_
      refine g_iload 0 111 dX8_tellOrders_109 rfl rfl ?_
      refine g_callV (mc1 := 0) (ms1 := 0) (b := (a3 + 3)) (rest := [.int ((10 + x5)), .ref a4]) (av := [.int ((g_mi M ((a0 + 282) + 9) (x5).toNatClampNeg))]) kX5_numberOf 114 dX8_tellOrders_111 rfl rfl mbX8_263 imX5_numberOf seX5_numberOf gcl5.1 s3.2.2.2.2.2.2.1 (Nat.le_of_ble_eq_true rfl) (w2) (w3) (tX5_numberOf (N := N) s3.2.2.2.2.2.2 (b5 c1 c2) ?_)
      show Go X (d + 3) mc ms kX8_tellOrders Q 114 [(6, .int ((g_mi M ((a0 + 282) + 9) (x5).toNatClampNeg))), (0, .ref a0), (3, .ref a3), (4, .ref a4), (5, .int (x5))] [.int ((fX5_numberOf N M (a3 + 3) (g_mi M ((a0 + 282) + 9) (x5).toNatClampNeg))), .int ((10 + x5)), .ref a4] M c z
      refine h_iastore 115 ((10 + x5)).toNatClampNeg dX8_tellOrders_114 rfl rfl s4 (b6 c1 c2) ?_
      refine g_iinc _ 4 118 [(5, .int ((x5 + 1))), (6, .int ((g_mi M ((a0 + 282) + 9) (x5).toNatClampNeg))), (0, .ref a0), (3, .ref a3), (4, .ref a4)] dX8_tellOrders_115 rfl rfl rfl (Nat.le_of_ble_eq_true rfl) rfl ?_
      refine g_goto 52 dX8_tellOrders_118 rfl ?_
      exact g_sub [2, 3, 4, 0] _ rfl (h7 c1 c2)
    · skip
      refine g_aload_n 2 97 dX8_tellOrders_96 rfl rfl ?_
      refine g_iload 0 99 dX8_tellOrders_97 rfl rfl ?_
      refine g_callV (mc1 := 0) (ms1 := 0) (b := a3) (rest := [.int ((10 + x5)), .ref a4]) (av := [.int ((g_mi M ((a0 + 282) + 9) (x5).toNatClampNeg))]) kX3_degreeOf 102 dX8_tellOrders_99 rfl rfl mbX8_129 imX3_degreeOf seX3_degreeOf gcl3.1 s3.1 (Nat.le_of_ble_eq_true rfl) (w2) (w3) (tX3_degreeOf (N := N) s3 (b8 c1 c2) ?_)
      show Go X (d + 3) mc ms kX8_tellOrders Q 102 [(6, .int ((g_mi M ((a0 + 282) + 9) (x5).toNatClampNeg))), (0, .ref a0), (3, .ref a3), (4, .ref a4), (5, .int (x5))] [.int ((fX3_degreeOf N M a3 (g_mi M ((a0 + 282) + 9) (x5).toNatClampNeg))), .int ((10 + x5)), .ref a4] M c z
      refine g_goto 114 dX8_tellOrders_102 rfl ?_
      refine h_iastore 115 ((10 + x5)).toNatClampNeg dX8_tellOrders_114 rfl rfl s4 (b9 c1 c2) ?_
      refine g_iinc _ 4 118 [(5, .int ((x5 + 1))), (6, .int ((g_mi M ((a0 + 282) + 9) (x5).toNatClampNeg))), (0, .ref a0), (3, .ref a3), (4, .ref a4)] dX8_tellOrders_115 rfl rfl rfl (Nat.le_of_ble_eq_true rfl) rfl ?_
      refine g_goto 52 dX8_tellOrders_118 rfl ?_
      exact g_sub [2, 3, 4, 0] _ rfl (h10 c1 c2)

def bX8_tellOrders_0 (N : Nat) (M : gM) (a0 : Nat) (x1 : Int32) (x2 : Int32) (k : Nat → (Nat → Nat → Int32) → Nat → Nat → Nat → Nat → Int32 → Int32 × (Nat → Nat → Int32)) : Int32 × (Nat → Nat → Int32) := (k 0 (g_mi (g_wi (g_wi (g_wi (g_wi M ((a0 + 271) + 1) 6 (g_mi M (((a0 + 1) + 1) + 2) 0)) ((a0 + 271) + 1) 7 x1) ((a0 + 271) + 1) 8 x2) ((a0 + 271) + 1) 9 (g_mi (g_wi (g_wi (g_wi M ((a0 + 271) + 1) 6 (g_mi M (((a0 + 1) + 1) + 2) 0)) ((a0 + 271) + 1) 7 x1) ((a0 + 271) + 1) 8 x2) ((a0 + 1) + 1) 3))) a0 ((a0 + 1) + 1) ((a0 + 271) + 1) 60 0)
def eX8_tellOrders_0 (N : Nat) (M : gM) (a0 : Nat) (x1 : Int32) (x2 : Int32) (k : Nat → (Nat → Nat → Int32) → Nat → Nat → Nat → Nat → Int32 → Prop) : Prop := (k 0 (g_mi (g_wi (g_wi (g_wi (g_wi M ((a0 + 271) + 1) 6 (g_mi M (((a0 + 1) + 1) + 2) 0)) ((a0 + 271) + 1) 7 x1) ((a0 + 271) + 1) 8 x2) ((a0 + 271) + 1) 9 (g_mi (g_wi (g_wi (g_wi M ((a0 + 271) + 1) 6 (g_mi M (((a0 + 1) + 1) + 2) 0)) ((a0 + 271) + 1) 7 x1) ((a0 + 271) + 1) 8 x2) ((a0 + 1) + 1) 3))) a0 ((a0 + 1) + 1) ((a0 + 271) + 1) 60 0)
def bX8_tellOrders_52 (N : Nat) (M : gM) (f : Nat → Nat → Int32) (a0 : Nat) (a3 : Nat) (a4 : Nat) (n4 : Nat) (x5 : Int32) (k : Nat → (Nat → Nat → Int32) → Nat → Nat → Nat → Nat → Int32 → Int32 × (Nat → Nat → Int32)) : Int32 × (Nat → Nat → Int32) := (if (g_mi (g_wm M f (g_ml M)) (a0 + 282) 4) ≤ x5 then (0, g_mi (g_wm M f (g_ml M))) else (if (g_mi (g_wm M f (g_ml M)) ((a0 + 282) + 10) (x5).toNatClampNeg) = 0 then (k 0 (g_mi (g_wi (g_wm M f (g_ml M)) a4 ((10 + x5)).toNatClampNeg (fX5_numberOf N (g_wm M f (g_ml M)) (a3 + 3) (g_mi (g_wm M f (g_ml M)) ((a0 + 282) + 9) (x5).toNatClampNeg)))) a0 a3 a4 n4 (x5 + 1)) else (k 0 (g_mi (g_wi (g_wm M f (g_ml M)) a4 ((10 + x5)).toNatClampNeg (fX3_degreeOf N (g_wm M f (g_ml M)) a3 (g_mi (g_wm M f (g_ml M)) ((a0 + 282) + 9) (x5).toNatClampNeg)))) a0 a3 a4 n4 (x5 + 1))))
def eX8_tellOrders_52 (N : Nat) (M : gM) (f : Nat → Nat → Int32) (a0 : Nat) (a3 : Nat) (a4 : Nat) (n4 : Nat) (x5 : Int32) (k : Nat → (Nat → Nat → Int32) → Nat → Nat → Nat → Nat → Int32 → Prop) : Prop := ((¬ (g_mi (g_wm M f (g_ml M)) (a0 + 282) 4) ≤ x5) → vp_in (x5) 50) ∧ ((¬ (g_mi (g_wm M f (g_ml M)) (a0 + 282) 4) ≤ x5) → ((g_mi (g_wm M f (g_ml M)) ((a0 + 282) + 10) (x5).toNatClampNeg) = 0) → EX5_numberOf N (g_wm M f (g_ml M)) (a3 + 3) (g_mi (g_wm M f (g_ml M)) ((a0 + 282) + 9) (x5).toNatClampNeg)) ∧ ((¬ (g_mi (g_wm M f (g_ml M)) (a0 + 282) 4) ≤ x5) → ((g_mi (g_wm M f (g_ml M)) ((a0 + 282) + 10) (x5).toNatClampNeg) = 0) → vp_in ((10 + x5)) n4) ∧ ((¬ (g_mi (g_wm M f (g_ml M)) (a0 + 282) 4) ≤ x5) → (¬ (g_mi (g_wm M f (g_ml M)) ((a0 + 282) + 10) (x5).toNatClampNeg) = 0) → EX3_degreeOf N (g_wm M f (g_ml M)) a3 (g_mi (g_wm M f (g_ml M)) ((a0 + 282) + 9) (x5).toNatClampNeg)) ∧ ((¬ (g_mi (g_wm M f (g_ml M)) (a0 + 282) 4) ≤ x5) → (¬ (g_mi (g_wm M f (g_ml M)) ((a0 + 282) + 10) (x5).toNatClampNeg) = 0) → vp_in ((10 + x5)) n4) ∧ (if (g_mi (g_wm M f (g_ml M)) (a0 + 282) 4) ≤ x5 then True else (if (g_mi (g_wm M f (g_ml M)) ((a0 + 282) + 10) (x5).toNatClampNeg) = 0 then (k 0 (g_mi (g_wi (g_wm M f (g_ml M)) a4 ((10 + x5)).toNatClampNeg (fX5_numberOf N (g_wm M f (g_ml M)) (a3 + 3) (g_mi (g_wm M f (g_ml M)) ((a0 + 282) + 9) (x5).toNatClampNeg)))) a0 a3 a4 n4 (x5 + 1)) else (k 0 (g_mi (g_wi (g_wm M f (g_ml M)) a4 ((10 + x5)).toNatClampNeg (fX3_degreeOf N (g_wm M f (g_ml M)) a3 (g_mi (g_wm M f (g_ml M)) ((a0 + 282) + 9) (x5).toNatClampNeg)))) a0 a3 a4 n4 (x5 + 1))))
def wX8_tellOrders (N : Nat) (M : gM) : Nat → Nat → (Nat → Nat → Int32) → Nat → Nat → Nat → Nat → Int32 → Int32 × (Nat → Nat → Int32)
  | 0, _, f, _, _, _, _, _ => (0, f)
  | n + 1, h, f, a0, a3, a4, n4, x5 => bX8_tellOrders_52 N M f a0 a3 a4 n4 x5 (wX8_tellOrders N M n)
def vX8_tellOrders (N : Nat) (M : gM) : Nat → Nat → (Nat → Nat → Int32) → Nat → Nat → Nat → Nat → Int32 → Prop
  | 0, _, _, _, _, _, _, _ => False
  | n + 1, h, f, a0, a3, a4, n4, x5 => eX8_tellOrders_52 N M f a0 a3 a4 n4 x5 (vX8_tellOrders N M n)
set_option maxRecDepth 10000 in
theorem lpX8_tellOrders {X : gX} {d mc ms : Nat} {Q : Option Value → gM → Prop} (N : Nat) (M : gM) : ∀ n : Nat, (∀ (f : Nat → Nat → Int32) (a0 : Nat) (a3 : Nat) (a4 : Nat) (n4 : Nat) (x5 : Int32), Ph M a0 → St M a3 → g_kd M a4 = some (100, n4) → vX8_tellOrders N M n 0 f a0 a3 a4 n4 x5 → Q none (g_wm M (wX8_tellOrders N M n 0 f a0 a3 a4 n4 x5).2 (g_ml M)) → Go X (d + 3) mc ms kX8_tellOrders Q 52 [(0, .ref a0), (3, .ref a3), (4, .ref a4), (5, .int (x5))] [] (g_wm M f (g_ml M)) 0 0) := by
  intro n
  induction n with
  | zero => exact fun _ _ _ _ _ _ _ _ _ h _ => h.elim
  | succ n ih =>
    intro f a0 a3 a4 n4 x5 s0 s3 s4 hT hQ
    rw [vX8_tellOrders] at hT
    rw [wX8_tellOrders] at hQ
    unfold bX8_tellOrders_52 at hQ
    unfold eX8_tellOrders_52 at hT
    obtain ⟨b4, b5, b6, b8, b9, hT⟩ := hT
    exact sX8_tellOrders_52 (M := (g_wm M f (g_ml M))) (Ph.sm Sm.wm s0) (St.sm Sm.wm s3) (Sm.k Sm.wm s4) (fun c1 => by simp only [if_pos c1] at hQ; exact Sm.q Sm.wm hQ) (Nat.zero_le _) (Nat.zero_le _) b4 b5 b6 (fun c1 c2 => by simp only [if_neg c1, if_pos c2] at hQ hT; exact Sm.g (Sm.tr Sm.wm (Sm.wi Sm.rf)) (ih _ _ _ _ _ _ (s0) (s3) (s4) hT hQ)) b8 b9 (fun c1 c2 => by simp only [if_neg c1, if_neg c2] at hQ hT; exact Sm.g (Sm.tr Sm.wm (Sm.wi Sm.rf)) (ih _ _ _ _ _ _ (s0) (s3) (s4) hT hQ))
def mX8_tellOrders (N : Nat) (M : gM) (a0 : Nat) (x1 : Int32) (x2 : Int32) : gM := g_wm M (bX8_tellOrders_0 N M a0 x1 x2 (wX8_tellOrders N M N)).2 (g_ml M)
theorem jX8_tellOrders {N : Nat} {M : gM} {a0 : Nat} {x1 : Int32} {x2 : Int32} : Sm M (mX8_tellOrders N M a0 x1 x2) := Sm.wm
def EX8_tellOrders (N : Nat) (M : gM) (a0 : Nat) (x1 : Int32) (x2 : Int32) : Prop := eX8_tellOrders_0 N M a0 x1 x2 (vX8_tellOrders N M N)
theorem tX8_tellOrders {N : Nat} {X : gX} {d mc ms : Nat} {Q : Option Value → gM → Prop} {M : gM} {a0 : Nat} {x1 : Int32} {x2 : Int32} (s0 : Ph M a0) (hE : EX8_tellOrders N M a0 x1 x2) (hQ : Q none (mX8_tellOrders N M a0 x1 x2)) : Cn X (d + 3) mc ms kX8_tellOrders [.ref a0, .int (x1), .int (x2)] M Q := by
  unfold mX8_tellOrders at hQ
  unfold bX8_tellOrders_0 at hQ
  unfold EX8_tellOrders eX8_tellOrders_0 at hE
  have hT := hE
  have ih := lpX8_tellOrders (X := X) (d := d) (mc := mc) (ms := ms) (Q := Q) N M N
  exact sX8_tellOrders_0 s0 (Sm.g (Sm.wi (Sm.wi (Sm.wi (Sm.wi Sm.rf)))) (ih _ _ _ _ _ _ (s0) (s0.2.2.1.2.2.1) (s0.2.2.2.2.2.2.2.2.2.2.2.2.2.2.1.2.2.1) hT hQ))
/-! X8_collectPossible  -/
set_option maxRecDepth 4000 in
theorem sX8_collectPossible_0 {X : gX} {d mc ms : Nat} {Q : Option Value → gM → Prop} {M : gM} {a0 : Nat} (s0 : Ph M a0) (h1 : Go X (d + 3) mc ms kX8_collectPossible Q 12 [(0, .ref a0), (1, .ref ((a0 + 1) + 1)), (2, .int (0)), (3, .int (0))] [] M 0 0) : Cn X (d + 3) mc ms kX8_collectPossible [.ref a0] M Q := by
  refine g_meth rfl rfl (Nat.le_of_ble_eq_true rfl) rfl ?_
  refine g_aload_n 0 1 dX8_collectPossible_0 rfl rfl ?_
  refine g_getR 4 (a0 + 1) dX8_collectPossible_1 rfl flX8_14 s0.1 s0.2.1 ?_
  refine g_getR 7 ((a0 + 1) + 1) dX8_collectPossible_4 rfl flX8_102 s0.2.2.1.1 s0.2.2.1.2.1 ?_
  refine g_astore_n 8 [(1, .ref ((a0 + 1) + 1)), (0, .ref a0)] dX8_collectPossible_7 rfl (Nat.le_of_ble_eq_true rfl) rfl ?_
  refine g_iconst (0) 9 dX8_collectPossible_8 rfl rfl ?_
  refine g_istore_n 10 [(2, .int (0)), (1, .ref ((a0 + 1) + 1)), (0, .ref a0)] dX8_collectPossible_9 rfl (Nat.le_of_ble_eq_true rfl) rfl ?_
  refine g_iconst (0) 11 dX8_collectPossible_10 rfl rfl ?_
  refine g_istore_n 12 [(3, .int (0)), (2, .int (0)), (1, .ref ((a0 + 1) + 1)), (0, .ref a0)] dX8_collectPossible_11 rfl (Nat.le_of_ble_eq_true rfl) rfl ?_
  exact g_sub [3, 2, 1, 0] _ rfl (h1)

set_option maxRecDepth 4000 in
theorem sX8_collectPossible_12 {N : Nat} {X : gX} {d mc ms : Nat} {Q : Option Value → gM → Prop} {M : gM} {c z : Nat} {a0 : Nat} {a1 : Nat} {x2 : Int32} {x3 : Int32} (s0 : Ph M a0) (s1 : St M a1) (h1 : ((g_mi M a1 3) ≤ x3) → Q (some (.int (x2))) M) (w2 : c ≤ mc) (w3 : z ≤ ms) (b4 : (¬ (g_mi M a1 3) ≤ x3) → vp_in (x3) 30) (b5 : (¬ (g_mi M a1 3) ≤ x3) → EX7_fitsSeen N M (a0 + 1) (g_mi M (a1 + 1) (x3).toNatClampNeg)) (h6 : (¬ (g_mi M a1 3) ≤ x3) → ((fX7_fitsSeen N M (a0 + 1) (g_mi M (a1 + 1) (x3).toNatClampNeg)) = 0) → Go X (d + 3) mc ms kX8_collectPossible Q 12 [(0, .ref a0), (1, .ref a1), (2, .int (x2)), (3, .int ((x3 + 1)))] [] M c z) (b7 : (¬ (g_mi M a1 3) ≤ x3) → (¬ (fX7_fitsSeen N M (a0 + 1) (g_mi M (a1 + 1) (x3).toNatClampNeg)) = 0) → vp_in (x3) 30) (b8 : (¬ (g_mi M a1 3) ≤ x3) → (¬ (fX7_fitsSeen N M (a0 + 1) (g_mi M (a1 + 1) (x3).toNatClampNeg)) = 0) → vp_in (x2) 30) (h9 : (¬ (g_mi M a1 3) ≤ x3) → (¬ (fX7_fitsSeen N M (a0 + 1) (g_mi M (a1 + 1) (x3).toNatClampNeg)) = 0) → Go X (d + 3) mc ms kX8_collectPossible Q 12 [(0, .ref a0), (1, .ref a1), (2, .int ((x2 + 1))), (3, .int ((x3 + 1)))] [] (g_wi M (a0 + 305) (x2).toNatClampNeg (g_mi M (a1 + 1) (x3).toNatClampNeg)) c z) : Go X (d + 3) mc ms kX8_collectPossible Q 12 [(0, .ref a0), (1, .ref a1), (2, .int (x2)), (3, .int (x3))] [] M c z := by
  refine g_iload_n 3 13 dX8_collectPossible_12 rfl rfl ?_
  refine g_aload_n 1 14 dX8_collectPossible_13 rfl rfl ?_
  refine g_getI 17 dX8_collectPossible_14 rfl flX8_137 s1.1 ?_
  refine g_icmp_ge 57 20 dX8_collectPossible_17 rfl rfl (fun c1 => ?_) (fun c1 => ?_)
  · skip
    refine g_iload_n 2 58 dX8_collectPossible_57 rfl rfl ?_
    exact g_iret dX8_collectPossible_58 rfl (w2) (w3) (h1 c1)
  · skip
    refine g_aload_n 0 21 dX8_collectPossible_20 rfl rfl ?_
    refine g_getR 24 (a0 + 1) dX8_collectPossible_21 rfl flX8_14 s0.1 s0.2.1 ?_
    refine g_aload_n 1 25 dX8_collectPossible_24 rfl rfl ?_
    refine g_getR 28 (a1 + 1) dX8_collectPossible_25 rfl flX8_140 s1.1 s1.2.1 ?_
    refine g_iload_n 3 29 dX8_collectPossible_28 rfl rfl ?_
    refine h_iaload 30 (x3).toNatClampNeg dX8_collectPossible_29 rfl rfl s1.2.2.1 (b4 c1) ?_
    refine g_callV (mc1 := 0) (ms1 := 0) (b := (a0 + 1)) (rest := []) (av := [.int ((g_mi M (a1 + 1) (x3).toNatClampNeg))]) kX7_fitsSeen 33 dX8_collectPossible_30 rfl rfl mbX8_397 imX7_fitsSeen seX7_fitsSeen gcl7.1 s0.2.2.1.1 (Nat.le_of_ble_eq_true rfl) (w2) (w3) (tX7_fitsSeen (N := N) s0.2.2.1 (b5 c1) ?_)
    show Go X (d + 3) mc ms kX8_collectPossible Q 33 [(0, .ref a0), (1, .ref a1), (2, .int (x2)), (3, .int (x3))] [.int ((fX7_fitsSeen N M (a0 + 1) (g_mi M (a1 + 1) (x3).toNatClampNeg)))] M c z
    refine g_if_eq 51 36 dX8_collectPossible_33 rfl rfl (fun c2 => ?_) (fun c2 => ?_)
    · skip
      refine g_iinc _ 3 54 [(3, .int ((x3 + 1))), (0, .ref a0), (1, .ref a1), (2, .int (x2))] dX8_collectPossible_51 rfl rfl rfl (Nat.le_of_ble_eq_true rfl) rfl ?_
      refine g_goto 12 dX8_collectPossible_54 rfl ?_
      exact g_sub [1, 2, 3, 0] _ rfl (h6 c1 c2)
    · skip
      refine g_aload_n 0 37 dX8_collectPossible_36 rfl rfl ?_
      refine g_getR 40 (a0 + 305) dX8_collectPossible_37 rfl flX8_81 s0.1 s0.2.2.2.2.2.2.2.2.2.2.2.2.2.2.2.2.2.2.2.2.2.2.2.2.2.1 ?_
      refine g_iload_n 2 41 dX8_collectPossible_40 rfl rfl ?_
      refine g_aload_n 1 42 dX8_collectPossible_41 rfl rfl ?_
      refine g_getR 45 (a1 + 1) dX8_collectPossible_42 rfl flX8_140 s1.1 s1.2.1 ?_
      refine g_iload_n 3 46 dX8_collectPossible_45 rfl rfl ?_
      refine h_iaload 47 (x3).toNatClampNeg dX8_collectPossible_46 rfl rfl s1.2.2.1 (b7 c1 c2) ?_
      refine h_iastore 48 (x2).toNatClampNeg dX8_collectPossible_47 rfl rfl s0.2.2.2.2.2.2.2.2.2.2.2.2.2.2.2.2.2.2.2.2.2.2.2.2.2.2.1 (b8 c1 c2) ?_
      refine g_iinc _ 2 51 [(2, .int ((x2 + 1))), (0, .ref a0), (1, .ref a1), (3, .int (x3))] dX8_collectPossible_48 rfl rfl rfl (Nat.le_of_ble_eq_true rfl) rfl ?_
      refine g_iinc _ 3 54 [(3, .int ((x3 + 1))), (2, .int ((x2 + 1))), (0, .ref a0), (1, .ref a1)] dX8_collectPossible_51 rfl rfl rfl (Nat.le_of_ble_eq_true rfl) rfl ?_
      refine g_goto 12 dX8_collectPossible_54 rfl ?_
      exact g_sub [2, 3, 1, 0] _ rfl (h9 c1 c2)

def bX8_collectPossible_0 (N : Nat) (M : gM) (a0 : Nat) (k : Nat → (Nat → Nat → Int32) → Nat → Nat → Int32 → Int32 → Int32 × (Nat → Nat → Int32)) : Int32 × (Nat → Nat → Int32) := (k 0 (g_mi M) a0 ((a0 + 1) + 1) 0 0)
def eX8_collectPossible_0 (N : Nat) (M : gM) (a0 : Nat) (k : Nat → (Nat → Nat → Int32) → Nat → Nat → Int32 → Int32 → Prop) : Prop := (k 0 (g_mi M) a0 ((a0 + 1) + 1) 0 0)
def bX8_collectPossible_12 (N : Nat) (M : gM) (f : Nat → Nat → Int32) (a0 : Nat) (a1 : Nat) (x2 : Int32) (x3 : Int32) (k : Nat → (Nat → Nat → Int32) → Nat → Nat → Int32 → Int32 → Int32 × (Nat → Nat → Int32)) : Int32 × (Nat → Nat → Int32) := (if (g_mi (g_wm M f (g_ml M)) a1 3) ≤ x3 then (x2, g_mi (g_wm M f (g_ml M))) else (if (fX7_fitsSeen N (g_wm M f (g_ml M)) (a0 + 1) (g_mi (g_wm M f (g_ml M)) (a1 + 1) (x3).toNatClampNeg)) = 0 then (k 0 (g_mi (g_wm M f (g_ml M))) a0 a1 x2 (x3 + 1)) else (k 0 (g_mi (g_wi (g_wm M f (g_ml M)) (a0 + 305) (x2).toNatClampNeg (g_mi (g_wm M f (g_ml M)) (a1 + 1) (x3).toNatClampNeg))) a0 a1 (x2 + 1) (x3 + 1))))
def eX8_collectPossible_12 (N : Nat) (M : gM) (f : Nat → Nat → Int32) (a0 : Nat) (a1 : Nat) (x2 : Int32) (x3 : Int32) (k : Nat → (Nat → Nat → Int32) → Nat → Nat → Int32 → Int32 → Prop) : Prop := ((¬ (g_mi (g_wm M f (g_ml M)) a1 3) ≤ x3) → vp_in (x3) 30) ∧ ((¬ (g_mi (g_wm M f (g_ml M)) a1 3) ≤ x3) → EX7_fitsSeen N (g_wm M f (g_ml M)) (a0 + 1) (g_mi (g_wm M f (g_ml M)) (a1 + 1) (x3).toNatClampNeg)) ∧ ((¬ (g_mi (g_wm M f (g_ml M)) a1 3) ≤ x3) → (¬ (fX7_fitsSeen N (g_wm M f (g_ml M)) (a0 + 1) (g_mi (g_wm M f (g_ml M)) (a1 + 1) (x3).toNatClampNeg)) = 0) → vp_in (x3) 30) ∧ ((¬ (g_mi (g_wm M f (g_ml M)) a1 3) ≤ x3) → (¬ (fX7_fitsSeen N (g_wm M f (g_ml M)) (a0 + 1) (g_mi (g_wm M f (g_ml M)) (a1 + 1) (x3).toNatClampNeg)) = 0) → vp_in (x2) 30) ∧ (if (g_mi (g_wm M f (g_ml M)) a1 3) ≤ x3 then True else (if (fX7_fitsSeen N (g_wm M f (g_ml M)) (a0 + 1) (g_mi (g_wm M f (g_ml M)) (a1 + 1) (x3).toNatClampNeg)) = 0 then (k 0 (g_mi (g_wm M f (g_ml M))) a0 a1 x2 (x3 + 1)) else (k 0 (g_mi (g_wi (g_wm M f (g_ml M)) (a0 + 305) (x2).toNatClampNeg (g_mi (g_wm M f (g_ml M)) (a1 + 1) (x3).toNatClampNeg))) a0 a1 (x2 + 1) (x3 + 1))))
def wX8_collectPossible (N : Nat) (M : gM) : Nat → Nat → (Nat → Nat → Int32) → Nat → Nat → Int32 → Int32 → Int32 × (Nat → Nat → Int32)
  | 0, _, f, _, _, _, _ => (0, f)
  | n + 1, h, f, a0, a1, x2, x3 => bX8_collectPossible_12 N M f a0 a1 x2 x3 (wX8_collectPossible N M n)
def vX8_collectPossible (N : Nat) (M : gM) : Nat → Nat → (Nat → Nat → Int32) → Nat → Nat → Int32 → Int32 → Prop
  | 0, _, _, _, _, _, _ => False
  | n + 1, h, f, a0, a1, x2, x3 => eX8_collectPossible_12 N M f a0 a1 x2 x3 (vX8_collectPossible N M n)
set_option maxRecDepth 10000 in
theorem lpX8_collectPossible {X : gX} {d mc ms : Nat} {Q : Option Value → gM → Prop} (N : Nat) (M : gM) : ∀ n : Nat, (∀ (f : Nat → Nat → Int32) (a0 : Nat) (a1 : Nat) (x2 : Int32) (x3 : Int32), Ph M a0 → St M a1 → vX8_collectPossible N M n 0 f a0 a1 x2 x3 → Q (some (.int (wX8_collectPossible N M n 0 f a0 a1 x2 x3).1)) (g_wm M (wX8_collectPossible N M n 0 f a0 a1 x2 x3).2 (g_ml M)) → Go X (d + 3) mc ms kX8_collectPossible Q 12 [(0, .ref a0), (1, .ref a1), (2, .int (x2)), (3, .int (x3))] [] (g_wm M f (g_ml M)) 0 0) := by
  intro n
  induction n with
  | zero => exact fun _ _ _ _ _ _ _ h _ => h.elim
  | succ n ih =>
    intro f a0 a1 x2 x3 s0 s1 hT hQ
    rw [vX8_collectPossible] at hT
    rw [wX8_collectPossible] at hQ
    unfold bX8_collectPossible_12 at hQ
    unfold eX8_collectPossible_12 at hT
    obtain ⟨b4, b5, b7, b8, hT⟩ := hT
    exact sX8_collectPossible_12 (M := (g_wm M f (g_ml M))) (Ph.sm Sm.wm s0) (St.sm Sm.wm s1) (fun c1 => by simp only [if_pos c1] at hQ; exact Sm.q Sm.wm hQ) (Nat.zero_le _) (Nat.zero_le _) b4 b5 (fun c1 c2 => by simp only [if_neg c1, if_pos c2] at hQ hT; exact Sm.g Sm.wm (ih _ _ _ _ _ (s0) (s1) hT hQ)) b7 b8 (fun c1 c2 => by simp only [if_neg c1, if_neg c2] at hQ hT; exact Sm.g (Sm.tr Sm.wm (Sm.wi Sm.rf)) (ih _ _ _ _ _ (s0) (s1) hT hQ))
def fX8_collectPossible (N : Nat) (M : gM) (a0 : Nat) : Int32 := (bX8_collectPossible_0 N M a0 (wX8_collectPossible N M N)).1
def mX8_collectPossible (N : Nat) (M : gM) (a0 : Nat) : gM := g_wm M (bX8_collectPossible_0 N M a0 (wX8_collectPossible N M N)).2 (g_ml M)
theorem jX8_collectPossible {N : Nat} {M : gM} {a0 : Nat} : Sm M (mX8_collectPossible N M a0) := Sm.wm
def EX8_collectPossible (N : Nat) (M : gM) (a0 : Nat) : Prop := eX8_collectPossible_0 N M a0 (vX8_collectPossible N M N)
theorem tX8_collectPossible {N : Nat} {X : gX} {d mc ms : Nat} {Q : Option Value → gM → Prop} {M : gM} {a0 : Nat} (s0 : Ph M a0) (hE : EX8_collectPossible N M a0) (hQ : Q (some (.int (fX8_collectPossible N M a0))) (mX8_collectPossible N M a0)) : Cn X (d + 3) mc ms kX8_collectPossible [.ref a0] M Q := by
  unfold fX8_collectPossible mX8_collectPossible at hQ
  unfold bX8_collectPossible_0 at hQ
  unfold EX8_collectPossible eX8_collectPossible_0 at hE
  have hT := hE
  have ih := lpX8_collectPossible (X := X) (d := d) (mc := mc) (ms := ms) (Q := Q) N M N
  exact sX8_collectPossible_0 s0 (Sm.g Sm.rf (ih _ _ _ _ _ (s0) (s0.2.2.1.2.2.1) hT hQ))
/-! X3_copyFrom  -/
set_option maxRecDepth 4000 in
theorem sX3_copyFrom_0 {X : gX} {d mc ms : Nat} {Q : Option Value → gM → Prop} {M : gM} {a0 : Nat} {a1 : Nat} (s0 : St M a0) (s1 : St M a1) (b1 : EX5_copyFrom (g_cp (g_cp M (a1 + 1) (a0 + 1) 0 0 30) (a1 + 2) (a0 + 2) 0 0 3) (a0 + 3) (a1 + 3)) (h2 : Q none (g_wi (g_wi (g_wi (mX5_copyFrom (g_cp (g_cp M (a1 + 1) (a0 + 1) 0 0 30) (a1 + 2) (a0 + 2) 0 0 3) (a0 + 3) (a1 + 3)) a0 3 (g_mi (mX5_copyFrom (g_cp (g_cp M (a1 + 1) (a0 + 1) 0 0 30) (a1 + 2) (a0 + 2) 0 0 3) (a0 + 3) (a1 + 3)) a1 3)) a0 4 (g_mi (g_wi (mX5_copyFrom (g_cp (g_cp M (a1 + 1) (a0 + 1) 0 0 30) (a1 + 2) (a0 + 2) 0 0 3) (a0 + 3) (a1 + 3)) a0 3 (g_mi (mX5_copyFrom (g_cp (g_cp M (a1 + 1) (a0 + 1) 0 0 30) (a1 + 2) (a0 + 2) 0 0 3) (a0 + 3) (a1 + 3)) a1 3)) a1 4)) a0 5 (g_mi (g_wi (g_wi (mX5_copyFrom (g_cp (g_cp M (a1 + 1) (a0 + 1) 0 0 30) (a1 + 2) (a0 + 2) 0 0 3) (a0 + 3) (a1 + 3)) a0 3 (g_mi (mX5_copyFrom (g_cp (g_cp M (a1 + 1) (a0 + 1) 0 0 30) (a1 + 2) (a0 + 2) 0 0 3) (a0 + 3) (a1 + 3)) a1 3)) a0 4 (g_mi (g_wi (mX5_copyFrom (g_cp (g_cp M (a1 + 1) (a0 + 1) 0 0 30) (a1 + 2) (a0 + 2) 0 0 3) (a0 + 3) (a1 + 3)) a0 3 (g_mi (mX5_copyFrom (g_cp (g_cp M (a1 + 1) (a0 + 1) 0 0 30) (a1 + 2) (a0 + 2) 0 0 3) (a0 + 3) (a1 + 3)) a1 3)) a1 4)) a1 5))) : Cn X (d + 2) mc ms kX3_copyFrom [.ref a0, .ref a1] M Q := by
  refine g_meth rfl rfl (Nat.le_of_ble_eq_true rfl) rfl ?_
  refine g_aload_n 1 1 dX3_copyFrom_0 rfl rfl ?_
  refine g_getR 4 (a1 + 1) dX3_copyFrom_1 rfl flX3_9 s1.1 s1.2.1 ?_
  refine g_iconst (0) 5 dX3_copyFrom_4 rfl rfl ?_
  refine g_aload_n 0 6 dX3_copyFrom_5 rfl rfl ?_
  refine g_getR 9 (a0 + 1) dX3_copyFrom_6 rfl flX3_9 s0.1 s0.2.1 ?_
  refine g_iconst (0) 10 dX3_copyFrom_9 rfl rfl ?_
  refine g_bipush (30) 12 dX3_copyFrom_10 rfl rfl ?_
  refine g_copy 15 dX3_copyFrom_12 rfl q3_190 q3_180 q3_179 q1_17 s1.2.2.1 s0.2.2.1 (by decide) (by decide) (by decide) (by decide) (by decide) (Nat.le_of_ble_eq_true rfl) ?_
  refine g_aload_n 1 16 dX3_copyFrom_15 rfl rfl ?_
  refine g_getR 19 (a1 + 2) dX3_copyFrom_16 rfl flX3_15 (Sm.k (Sm.cp Sm.rf) s1.1) (Sm.r (Sm.cp Sm.rf) s1.2.2.2.1) ?_
  refine g_iconst (0) 20 dX3_copyFrom_19 rfl rfl ?_
  refine g_aload_n 0 21 dX3_copyFrom_20 rfl rfl ?_
  refine g_getR 24 (a0 + 2) dX3_copyFrom_21 rfl flX3_15 (Sm.k (Sm.cp Sm.rf) s0.1) (Sm.r (Sm.cp Sm.rf) s0.2.2.2.1) ?_
  refine g_iconst (0) 25 dX3_copyFrom_24 rfl rfl ?_
  refine g_iconst (3) 26 dX3_copyFrom_25 rfl rfl ?_
  refine g_copy 29 dX3_copyFrom_26 rfl q3_190 q3_180 q3_179 q1_17 (Sm.k (Sm.cp Sm.rf) s1.2.2.2.2.1) (Sm.k (Sm.cp Sm.rf) s0.2.2.2.2.1) (by decide) (by decide) (by decide) (by decide) (by decide) (Nat.le_of_ble_eq_true rfl) ?_
  refine g_aload_n 0 30 dX3_copyFrom_29 rfl rfl ?_
  refine g_getR 33 (a0 + 3) dX3_copyFrom_30 rfl flX3_21 (Sm.k (Sm.cp (Sm.cp Sm.rf)) s0.1) (Sm.r (Sm.cp (Sm.cp Sm.rf)) s0.2.2.2.2.2.1) ?_
  refine g_aload_n 1 34 dX3_copyFrom_33 rfl rfl ?_
  refine g_getR 37 (a1 + 3) dX3_copyFrom_34 rfl flX3_21 (Sm.k (Sm.cp (Sm.cp Sm.rf)) s1.1) (Sm.r (Sm.cp (Sm.cp Sm.rf)) s1.2.2.2.2.2.1) ?_
  refine g_callV (mc1 := 0) (ms1 := 0) (b := (a0 + 3)) (rest := []) (av := [.ref (a1 + 3)]) kX5_copyFrom 40 dX3_copyFrom_37 rfl rfl mbX3_35 imX5_copyFrom seX5_copyFrom gcl5.1 (Sm.k (Sm.cp (Sm.cp Sm.rf)) s0.2.2.2.2.2.2.1) (Nat.le_of_ble_eq_true rfl) (Nat.zero_le _) (Nat.zero_le _) (tX5_copyFrom (Tb.sm (Sm.cp (Sm.cp Sm.rf)) s0.2.2.2.2.2.2) (Tb.sm (Sm.cp (Sm.cp Sm.rf)) s1.2.2.2.2.2.2) (b1) ?_)
  show Go X (d + 2) mc ms kX3_copyFrom Q 40 [(0, .ref a0), (1, .ref a1)] [] (mX5_copyFrom (g_cp (g_cp M (a1 + 1) (a0 + 1) 0 0 30) (a1 + 2) (a0 + 2) 0 0 3) (a0 + 3) (a1 + 3)) 0 0
  refine g_aload_n 0 41 dX3_copyFrom_40 rfl rfl ?_
  refine g_aload_n 1 42 dX3_copyFrom_41 rfl rfl ?_
  refine g_getI 45 dX3_copyFrom_42 rfl flX3_39 (Sm.k (Sm.tr (Sm.cp (Sm.cp Sm.rf)) jX5_copyFrom) s1.1) ?_
  refine g_putI 48 dX3_copyFrom_45 rfl flX3_39 (Sm.k (Sm.tr (Sm.cp (Sm.cp Sm.rf)) jX5_copyFrom) s0.1) ?_
  refine g_aload_n 0 49 dX3_copyFrom_48 rfl rfl ?_
  refine g_aload_n 1 50 dX3_copyFrom_49 rfl rfl ?_
  refine g_getI 53 dX3_copyFrom_50 rfl flX3_25 (Sm.k (Sm.wi (Sm.tr (Sm.cp (Sm.cp Sm.rf)) jX5_copyFrom)) s1.1) ?_
  refine g_putI 56 dX3_copyFrom_53 rfl flX3_25 (Sm.k (Sm.wi (Sm.tr (Sm.cp (Sm.cp Sm.rf)) jX5_copyFrom)) s0.1) ?_
  refine g_aload_n 0 57 dX3_copyFrom_56 rfl rfl ?_
  refine g_aload_n 1 58 dX3_copyFrom_57 rfl rfl ?_
  refine g_getI 61 dX3_copyFrom_58 rfl flX3_42 (Sm.k (Sm.wi (Sm.wi (Sm.tr (Sm.cp (Sm.cp Sm.rf)) jX5_copyFrom))) s1.1) ?_
  refine g_putI 64 dX3_copyFrom_61 rfl flX3_42 (Sm.k (Sm.wi (Sm.wi (Sm.tr (Sm.cp (Sm.cp Sm.rf)) jX5_copyFrom))) s0.1) ?_
  exact g_vret dX3_copyFrom_64 rfl (Nat.zero_le _) (Nat.zero_le _) (h2)

def mX3_copyFrom (M : gM) (a0 : Nat) (a1 : Nat) : gM := (g_wi (g_wi (g_wi (mX5_copyFrom (g_cp (g_cp M (a1 + 1) (a0 + 1) 0 0 30) (a1 + 2) (a0 + 2) 0 0 3) (a0 + 3) (a1 + 3)) a0 3 (g_mi (mX5_copyFrom (g_cp (g_cp M (a1 + 1) (a0 + 1) 0 0 30) (a1 + 2) (a0 + 2) 0 0 3) (a0 + 3) (a1 + 3)) a1 3)) a0 4 (g_mi (g_wi (mX5_copyFrom (g_cp (g_cp M (a1 + 1) (a0 + 1) 0 0 30) (a1 + 2) (a0 + 2) 0 0 3) (a0 + 3) (a1 + 3)) a0 3 (g_mi (mX5_copyFrom (g_cp (g_cp M (a1 + 1) (a0 + 1) 0 0 30) (a1 + 2) (a0 + 2) 0 0 3) (a0 + 3) (a1 + 3)) a1 3)) a1 4)) a0 5 (g_mi (g_wi (g_wi (mX5_copyFrom (g_cp (g_cp M (a1 + 1) (a0 + 1) 0 0 30) (a1 + 2) (a0 + 2) 0 0 3) (a0 + 3) (a1 + 3)) a0 3 (g_mi (mX5_copyFrom (g_cp (g_cp M (a1 + 1) (a0 + 1) 0 0 30) (a1 + 2) (a0 + 2) 0 0 3) (a0 + 3) (a1 + 3)) a1 3)) a0 4 (g_mi (g_wi (mX5_copyFrom (g_cp (g_cp M (a1 + 1) (a0 + 1) 0 0 30) (a1 + 2) (a0 + 2) 0 0 3) (a0 + 3) (a1 + 3)) a0 3 (g_mi (mX5_copyFrom (g_cp (g_cp M (a1 + 1) (a0 + 1) 0 0 30) (a1 + 2) (a0 + 2) 0 0 3) (a0 + 3) (a1 + 3)) a1 3)) a1 4)) a1 5))
def EX3_copyFrom (M : gM) (a0 : Nat) (a1 : Nat) : Prop := (EX5_copyFrom (g_cp (g_cp M (a1 + 1) (a0 + 1) 0 0 30) (a1 + 2) (a0 + 2) 0 0 3) (a0 + 3) (a1 + 3))
theorem jX3_copyFrom {M : gM} {a0 : Nat} {a1 : Nat} : Sm M (mX3_copyFrom M a0 a1) := (Sm.wi (Sm.wi (Sm.wi (Sm.tr (Sm.cp (Sm.cp Sm.rf)) jX5_copyFrom))))
theorem tX3_copyFrom {X : gX} {d mc ms : Nat} {Q : Option Value → gM → Prop} {M : gM} {a0 : Nat} {a1 : Nat} (s0 : St M a0) (s1 : St M a1) (hE : EX3_copyFrom M a0 a1) (hQ : Q none (mX3_copyFrom M a0 a1)) : Cn X (d + 2) mc ms kX3_copyFrom [.ref a0, .ref a1] M Q := by
  unfold mX3_copyFrom at hQ
  have b1 := hE
  exact sX3_copyFrom_0 s0 s1 b1 hQ
/-! X4_rankOf  -/
set_option maxRecDepth 4000 in
theorem sX4_rankOf_0 {X : gX} {d mc ms : Nat} {Q : Option Value → gM → Prop} {M : gM} {a0 : Nat} {a1 : Nat} {n1 m1 : Nat} {a2 : Nat} {x3 : Int32} {x4 : Int32} {x5 : Int32} (s0 : Su M a0) (s1 : Tx M a1 n1 m1) (s2 : St M a2) (h1 : ((g_mi (g_wi (mX4_tellLaw M a0 a2 x3) (a0 + 1) 0 x4) a2 4) ≤ 0) → Go X (d + 2) mc ms kX4_rankOf Q 59 [(0, .ref a0), (1, .ref a1), (6, .int (0)), (7, .int (0))] [] (g_wi (g_wi (g_wi (g_wi (mX4_tellLaw M a0 a2 x3) (a0 + 1) 0 x4) (a0 + 1) 1 (-1)) (a0 + 1) 5 x5) (a0 + 1) 2 (-1)) 0 0) (b2 : (¬ (g_mi (g_wi (mX4_tellLaw M a0 a2 x3) (a0 + 1) 0 x4) a2 4) ≤ 0) → ¬ ((g_mi (g_wi (mX4_tellLaw M a0 a2 x3) (a0 + 1) 0 x4) a2 4) : Int32) = 0) (h3 : (¬ (g_mi (g_wi (mX4_tellLaw M a0 a2 x3) (a0 + 1) 0 x4) a2 4) ≤ 0) → Go X (d + 2) mc ms kX4_rankOf Q 59 [(0, .ref a0), (1, .ref a1), (6, .int (0)), (7, .int (0))] [] (g_wi (g_wi (g_wi (g_wi (mX4_tellLaw M a0 a2 x3) (a0 + 1) 0 x4) (a0 + 1) 1 (x4 / (g_mi (g_wi (mX4_tellLaw M a0 a2 x3) (a0 + 1) 0 x4) a2 4))) (a0 + 1) 5 x5) (a0 + 1) 2 (-1)) 0 0) : Cn X (d + 2) mc ms kX4_rankOf [.ref a0, .ref a1, .ref a2, .int (x3), .int (x4), .int (x5)] M Q := by
  refine g_meth rfl rfl (Nat.le_of_ble_eq_true rfl) rfl ?_
  refine g_aload_n 0 1 dX4_rankOf_0 rfl rfl ?_
  refine g_aload_n 2 2 dX4_rankOf_1 rfl rfl ?_
  refine g_iload_n 3 3 dX4_rankOf_2 rfl rfl ?_
  refine g_callV (mc1 := 0) (ms1 := 0) (b := a0) (rest := []) (av := [.ref a2, .int (x3)]) kX4_tellLaw 6 dX4_rankOf_3 rfl rfl mbX4_18 imX4_tellLaw seX4_tellLaw gcl4.1 s0.1 (Nat.le_of_ble_eq_true rfl) (Nat.zero_le _) (Nat.zero_le _) (tX4_tellLaw s0 s2 ?_)
  show Go X (d + 2) mc ms kX4_rankOf Q 6 [(0, .ref a0), (1, .ref a1), (2, .ref a2), (3, .int (x3)), (4, .int (x4)), (5, .int (x5))] [] (mX4_tellLaw M a0 a2 x3) 0 0
  refine g_aload_n 0 7 dX4_rankOf_6 rfl rfl ?_
  refine g_getR 10 (a0 + 1) dX4_rankOf_7 rfl flX4_9 (Sm.k (Sm.tr Sm.rf jX4_tellLaw) s0.1) (Sm.r (Sm.tr Sm.rf jX4_tellLaw) s0.2.1) ?_
  refine g_iconst (0) 11 dX4_rankOf_10 rfl rfl ?_
  refine g_iload 4 13 dX4_rankOf_11 rfl rfl ?_
  refine h_iastore 14 0 dX4_rankOf_13 rfl rfl (Sm.k (Sm.tr Sm.rf jX4_tellLaw) s0.2.2.1) (vp_lit rfl) ?_
  refine g_aload_n 0 15 dX4_rankOf_14 rfl rfl ?_
  refine g_getR 18 (a0 + 1) dX4_rankOf_15 rfl flX4_9 (Sm.k (Sm.wi (Sm.tr Sm.rf jX4_tellLaw)) s0.1) (Sm.r (Sm.wi (Sm.tr Sm.rf jX4_tellLaw)) s0.2.1) ?_
  refine g_iconst (1) 19 dX4_rankOf_18 rfl rfl ?_
  refine g_aload_n 2 20 dX4_rankOf_19 rfl rfl ?_
  refine g_getI 23 dX4_rankOf_20 rfl flX4_22 (Sm.k (Sm.wi (Sm.tr Sm.rf jX4_tellLaw)) s2.1) ?_
  refine g_if_le 36 26 dX4_rankOf_23 rfl rfl (fun c1 => ?_) (fun c1 => ?_)
  · skip
    refine g_iconst ((-1)) 37 dX4_rankOf_36 rfl rfl ?_
    refine h_iastore 38 1 dX4_rankOf_37 rfl rfl (Sm.k (Sm.wi (Sm.tr Sm.rf jX4_tellLaw)) s0.2.2.1) (vp_lit rfl) ?_
    refine g_aload_n 0 39 dX4_rankOf_38 rfl rfl ?_
    refine g_getR 42 (a0 + 1) dX4_rankOf_39 rfl flX4_9 (Sm.k (Sm.wi (Sm.wi (Sm.tr Sm.rf jX4_tellLaw))) s0.1) (Sm.r (Sm.wi (Sm.wi (Sm.tr Sm.rf jX4_tellLaw))) s0.2.1) ?_
    refine g_iconst (5) 43 dX4_rankOf_42 rfl rfl ?_
    refine g_iload 5 45 dX4_rankOf_43 rfl rfl ?_
    refine h_iastore 46 5 dX4_rankOf_45 rfl rfl (Sm.k (Sm.wi (Sm.wi (Sm.tr Sm.rf jX4_tellLaw))) s0.2.2.1) (vp_lit rfl) ?_
    refine g_aload_n 0 47 dX4_rankOf_46 rfl rfl ?_
    refine g_getR 50 (a0 + 1) dX4_rankOf_47 rfl flX4_9 (Sm.k (Sm.wi (Sm.wi (Sm.wi (Sm.tr Sm.rf jX4_tellLaw)))) s0.1) (Sm.r (Sm.wi (Sm.wi (Sm.wi (Sm.tr Sm.rf jX4_tellLaw)))) s0.2.1) ?_
    refine g_iconst (2) 51 dX4_rankOf_50 rfl rfl ?_
    refine g_iconst ((-1)) 52 dX4_rankOf_51 rfl rfl ?_
    refine h_iastore 53 2 dX4_rankOf_52 rfl rfl (Sm.k (Sm.wi (Sm.wi (Sm.wi (Sm.tr Sm.rf jX4_tellLaw)))) s0.2.2.1) (vp_lit rfl) ?_
    refine g_iconst (0) 54 dX4_rankOf_53 rfl rfl ?_
    refine g_istore 56 [(6, .int (0)), (0, .ref a0), (1, .ref a1), (2, .ref a2), (3, .int (x3)), (4, .int (x4)), (5, .int (x5))] dX4_rankOf_54 rfl (Nat.le_of_ble_eq_true rfl) rfl ?_
    refine g_iconst (0) 57 dX4_rankOf_56 rfl rfl ?_
    refine g_istore 59 [(7, .int (0)), (6, .int (0)), (0, .ref a0), (1, .ref a1), (2, .ref a2), (3, .int (x3)), (4, .int (x4)), (5, .int (x5))] dX4_rankOf_57 rfl (Nat.le_of_ble_eq_true rfl) rfl ?_
    exact g_sub [2, 3, 1, 0] _ rfl (h1 c1)
  · skip
    refine g_iload 4 28 dX4_rankOf_26 rfl rfl ?_
    refine g_aload_n 2 29 dX4_rankOf_28 rfl rfl ?_
    refine g_getI 32 dX4_rankOf_29 rfl flX4_22 (Sm.k (Sm.wi (Sm.tr Sm.rf jX4_tellLaw)) s2.1) ?_
    refine g_idiv 33 dX4_rankOf_32 rfl (b2 c1) ?_
    refine g_goto 37 dX4_rankOf_33 rfl ?_
    refine h_iastore 38 1 dX4_rankOf_37 rfl rfl (Sm.k (Sm.wi (Sm.tr Sm.rf jX4_tellLaw)) s0.2.2.1) (vp_lit rfl) ?_
    refine g_aload_n 0 39 dX4_rankOf_38 rfl rfl ?_
    refine g_getR 42 (a0 + 1) dX4_rankOf_39 rfl flX4_9 (Sm.k (Sm.wi (Sm.wi (Sm.tr Sm.rf jX4_tellLaw))) s0.1) (Sm.r (Sm.wi (Sm.wi (Sm.tr Sm.rf jX4_tellLaw))) s0.2.1) ?_
    refine g_iconst (5) 43 dX4_rankOf_42 rfl rfl ?_
    refine g_iload 5 45 dX4_rankOf_43 rfl rfl ?_
    refine h_iastore 46 5 dX4_rankOf_45 rfl rfl (Sm.k (Sm.wi (Sm.wi (Sm.tr Sm.rf jX4_tellLaw))) s0.2.2.1) (vp_lit rfl) ?_
    refine g_aload_n 0 47 dX4_rankOf_46 rfl rfl ?_
    refine g_getR 50 (a0 + 1) dX4_rankOf_47 rfl flX4_9 (Sm.k (Sm.wi (Sm.wi (Sm.wi (Sm.tr Sm.rf jX4_tellLaw)))) s0.1) (Sm.r (Sm.wi (Sm.wi (Sm.wi (Sm.tr Sm.rf jX4_tellLaw)))) s0.2.1) ?_
    refine g_iconst (2) 51 dX4_rankOf_50 rfl rfl ?_
    refine g_iconst ((-1)) 52 dX4_rankOf_51 rfl rfl ?_
    refine h_iastore 53 2 dX4_rankOf_52 rfl rfl (Sm.k (Sm.wi (Sm.wi (Sm.wi (Sm.tr Sm.rf jX4_tellLaw)))) s0.2.2.1) (vp_lit rfl) ?_
    refine g_iconst (0) 54 dX4_rankOf_53 rfl rfl ?_
    refine g_istore 56 [(6, .int (0)), (0, .ref a0), (1, .ref a1), (2, .ref a2), (3, .int (x3)), (4, .int (x4)), (5, .int (x5))] dX4_rankOf_54 rfl (Nat.le_of_ble_eq_true rfl) rfl ?_
    refine g_iconst (0) 57 dX4_rankOf_56 rfl rfl ?_
    refine g_istore 59 [(7, .int (0)), (6, .int (0)), (0, .ref a0), (1, .ref a1), (2, .ref a2), (3, .int (x3)), (4, .int (x4)), (5, .int (x5))] dX4_rankOf_57 rfl (Nat.le_of_ble_eq_true rfl) rfl ?_
    exact g_sub [2, 3, 1, 0] _ rfl (h3 c1)

set_option maxRecDepth 4000 in
theorem sX4_rankOf_59 {N : Nat} {X : gX} {d mc ms : Nat} {Q : Option Value → gM → Prop} {M : gM} {c z : Nat} {a0 : Nat} {a1 : Nat} {n1 m1 : Nat} {x6 : Int32} {x7 : Int32} (s0 : Su M a0) (s1 : Tx M a1 n1 m1) (h1 : ((g_mi M a1 6) ≤ x7) → Q (some (.int (x6))) M) (w2 : c ≤ mc) (w3 : z ≤ ms) (b4 : (¬ (g_mi M a1 6) ≤ x7) → vp_in (x7) n1) (h5 : (¬ (g_mi M a1 6) ≤ x7) → (¬ (g_mi M (a1 + 1) (x7).toNatClampNeg) = 5) → Go X (d + 2) mc ms kX4_rankOf Q 59 [(0, .ref a0), (1, .ref a1), (6, .int (x6)), (7, .int ((x7 + 1)))] [] M c z) (b6 : (¬ (g_mi M a1 6) ≤ x7) → ((g_mi M (a1 + 1) (x7).toNatClampNeg) = 5) → vp_in (x7) n1) (b7 : (¬ (g_mi M a1 6) ≤ x7) → ((g_mi M (a1 + 1) (x7).toNatClampNeg) = 5) → EX4_valueOf N M a0 a1 n1 m1 (g_mi M (a1 + 4) (x7).toNatClampNeg)) (b8 : (¬ (g_mi M a1 6) ≤ x7) → ((g_mi M (a1 + 1) (x7).toNatClampNeg) = 5) → ((fX4_valueOf N M a0 a1 n1 m1 (g_mi M (a1 + 4) (x7).toNatClampNeg)) = 1) → vp_in (x7) n1) (b9 : (¬ (g_mi M a1 6) ≤ x7) → ((g_mi M (a1 + 1) (x7).toNatClampNeg) = 5) → ((fX4_valueOf N M a0 a1 n1 m1 (g_mi M (a1 + 4) (x7).toNatClampNeg)) = 1) → EX4_valueOf N (mX4_valueOf N M a0 a1 n1 m1 (g_mi M (a1 + 4) (x7).toNatClampNeg)) a0 a1 n1 m1 (g_mi (mX4_valueOf N M a0 a1 n1 m1 (g_mi M (a1 + 4) (x7).toNatClampNeg)) (a1 + 3) (x7).toNatClampNeg)) (h10 : (¬ (g_mi M a1 6) ≤ x7) → ((g_mi M (a1 + 1) (x7).toNatClampNeg) = 5) → ((fX4_valueOf N M a0 a1 n1 m1 (g_mi M (a1 + 4) (x7).toNatClampNeg)) = 1) → ((fX4_valueOf N (mX4_valueOf N M a0 a1 n1 m1 (g_mi M (a1 + 4) (x7).toNatClampNeg)) a0 a1 n1 m1 (g_mi (mX4_valueOf N M a0 a1 n1 m1 (g_mi M (a1 + 4) (x7).toNatClampNeg)) (a1 + 3) (x7).toNatClampNeg)) = (-2147483648)) → Go X (d + 2) mc ms kX4_rankOf Q 59 [(0, .ref a0), (1, .ref a1), (6, .int (x6)), (7, .int ((x7 + 1)))] [] (mX4_valueOf N (mX4_valueOf N M a0 a1 n1 m1 (g_mi M (a1 + 4) (x7).toNatClampNeg)) a0 a1 n1 m1 (g_mi (mX4_valueOf N M a0 a1 n1 m1 (g_mi M (a1 + 4) (x7).toNatClampNeg)) (a1 + 3) (x7).toNatClampNeg)) c z) (h11 : (¬ (g_mi M a1 6) ≤ x7) → ((g_mi M (a1 + 1) (x7).toNatClampNeg) = 5) → ((fX4_valueOf N M a0 a1 n1 m1 (g_mi M (a1 + 4) (x7).toNatClampNeg)) = 1) → (¬ (fX4_valueOf N (mX4_valueOf N M a0 a1 n1 m1 (g_mi M (a1 + 4) (x7).toNatClampNeg)) a0 a1 n1 m1 (g_mi (mX4_valueOf N M a0 a1 n1 m1 (g_mi M (a1 + 4) (x7).toNatClampNeg)) (a1 + 3) (x7).toNatClampNeg)) = (-2147483648)) → (0 ≤ (fX4_valueOf N (mX4_valueOf N M a0 a1 n1 m1 (g_mi M (a1 + 4) (x7).toNatClampNeg)) a0 a1 n1 m1 (g_mi (mX4_valueOf N M a0 a1 n1 m1 (g_mi M (a1 + 4) (x7).toNatClampNeg)) (a1 + 3) (x7).toNatClampNeg))) → ((fX4_valueOf N (mX4_valueOf N M a0 a1 n1 m1 (g_mi M (a1 + 4) (x7).toNatClampNeg)) a0 a1 n1 m1 (g_mi (mX4_valueOf N M a0 a1 n1 m1 (g_mi M (a1 + 4) (x7).toNatClampNeg)) (a1 + 3) (x7).toNatClampNeg)) ≤ 99) → Go X (d + 2) mc ms kX4_rankOf Q 59 [(0, .ref a0), (1, .ref a1), (6, .int ((fX4_valueOf N (mX4_valueOf N M a0 a1 n1 m1 (g_mi M (a1 + 4) (x7).toNatClampNeg)) a0 a1 n1 m1 (g_mi (mX4_valueOf N M a0 a1 n1 m1 (g_mi M (a1 + 4) (x7).toNatClampNeg)) (a1 + 3) (x7).toNatClampNeg)))), (7, .int ((x7 + 1)))] [] (mX4_valueOf N (mX4_valueOf N M a0 a1 n1 m1 (g_mi M (a1 + 4) (x7).toNatClampNeg)) a0 a1 n1 m1 (g_mi (mX4_valueOf N M a0 a1 n1 m1 (g_mi M (a1 + 4) (x7).toNatClampNeg)) (a1 + 3) (x7).toNatClampNeg)) c z) (h12 : (¬ (g_mi M a1 6) ≤ x7) → ((g_mi M (a1 + 1) (x7).toNatClampNeg) = 5) → ((fX4_valueOf N M a0 a1 n1 m1 (g_mi M (a1 + 4) (x7).toNatClampNeg)) = 1) → (¬ (fX4_valueOf N (mX4_valueOf N M a0 a1 n1 m1 (g_mi M (a1 + 4) (x7).toNatClampNeg)) a0 a1 n1 m1 (g_mi (mX4_valueOf N M a0 a1 n1 m1 (g_mi M (a1 + 4) (x7).toNatClampNeg)) (a1 + 3) (x7).toNatClampNeg)) = (-2147483648)) → (0 ≤ (fX4_valueOf N (mX4_valueOf N M a0 a1 n1 m1 (g_mi M (a1 + 4) (x7).toNatClampNeg)) a0 a1 n1 m1 (g_mi (mX4_valueOf N M a0 a1 n1 m1 (g_mi M (a1 + 4) (x7).toNatClampNeg)) (a1 + 3) (x7).toNatClampNeg))) → (¬ (fX4_valueOf N (mX4_valueOf N M a0 a1 n1 m1 (g_mi M (a1 + 4) (x7).toNatClampNeg)) a0 a1 n1 m1 (g_mi (mX4_valueOf N M a0 a1 n1 m1 (g_mi M (a1 + 4) (x7).toNatClampNeg)) (a1 + 3) (x7).toNatClampNeg)) ≤ 99) → Go X (d + 2) mc ms kX4_rankOf Q 59 [(0, .ref a0), (1, .ref a1), (6, .int (99)), (7, .int ((x7 + 1)))] [] (mX4_valueOf N (mX4_valueOf N M a0 a1 n1 m1 (g_mi M (a1 + 4) (x7).toNatClampNeg)) a0 a1 n1 m1 (g_mi (mX4_valueOf N M a0 a1 n1 m1 (g_mi M (a1 + 4) (x7).toNatClampNeg)) (a1 + 3) (x7).toNatClampNeg)) c z) (h13 : (¬ (g_mi M a1 6) ≤ x7) → ((g_mi M (a1 + 1) (x7).toNatClampNeg) = 5) → ((fX4_valueOf N M a0 a1 n1 m1 (g_mi M (a1 + 4) (x7).toNatClampNeg)) = 1) → (¬ (fX4_valueOf N (mX4_valueOf N M a0 a1 n1 m1 (g_mi M (a1 + 4) (x7).toNatClampNeg)) a0 a1 n1 m1 (g_mi (mX4_valueOf N M a0 a1 n1 m1 (g_mi M (a1 + 4) (x7).toNatClampNeg)) (a1 + 3) (x7).toNatClampNeg)) = (-2147483648)) → (¬ 0 ≤ (fX4_valueOf N (mX4_valueOf N M a0 a1 n1 m1 (g_mi M (a1 + 4) (x7).toNatClampNeg)) a0 a1 n1 m1 (g_mi (mX4_valueOf N M a0 a1 n1 m1 (g_mi M (a1 + 4) (x7).toNatClampNeg)) (a1 + 3) (x7).toNatClampNeg))) → Go X (d + 2) mc ms kX4_rankOf Q 59 [(0, .ref a0), (1, .ref a1), (6, .int (0)), (7, .int ((x7 + 1)))] [] (mX4_valueOf N (mX4_valueOf N M a0 a1 n1 m1 (g_mi M (a1 + 4) (x7).toNatClampNeg)) a0 a1 n1 m1 (g_mi (mX4_valueOf N M a0 a1 n1 m1 (g_mi M (a1 + 4) (x7).toNatClampNeg)) (a1 + 3) (x7).toNatClampNeg)) c z) (h14 : (¬ (g_mi M a1 6) ≤ x7) → ((g_mi M (a1 + 1) (x7).toNatClampNeg) = 5) → (¬ (fX4_valueOf N M a0 a1 n1 m1 (g_mi M (a1 + 4) (x7).toNatClampNeg)) = 1) → Go X (d + 2) mc ms kX4_rankOf Q 59 [(0, .ref a0), (1, .ref a1), (6, .int (x6)), (7, .int ((x7 + 1)))] [] (mX4_valueOf N M a0 a1 n1 m1 (g_mi M (a1 + 4) (x7).toNatClampNeg)) c z) : Go X (d + 2) mc ms kX4_rankOf Q 59 [(0, .ref a0), (1, .ref a1), (6, .int (x6)), (7, .int (x7))] [] M c z := by
  refine g_iload 3 61 dX4_rankOf_59 rfl rfl ?_
  refine g_aload_n 1 62 dX4_rankOf_61 rfl rfl ?_
  refine g_getI 65 dX4_rankOf_62 rfl flX4_28 s1.1 ?_
  refine g_icmp_ge 150 68 dX4_rankOf_65 rfl rfl (fun c1 => ?_) (fun c1 => ?_)
  · skip
    refine g_iload 2 152 dX4_rankOf_150 rfl rfl ?_
    exact g_iret dX4_rankOf_152 rfl (w2) (w3) (h1 c1)
  · skip
    refine g_aload_n 1 69 dX4_rankOf_68 rfl rfl ?_
    refine g_getR 72 (a1 + 1) dX4_rankOf_69 rfl flX4_33 s1.1 s1.2.1 ?_
    refine g_iload 3 74 dX4_rankOf_72 rfl rfl ?_
    refine h_iaload 75 (x7).toNatClampNeg dX4_rankOf_74 rfl rfl s1.2.2.1 (b4 c1) ?_
    refine g_iconst (5) 76 dX4_rankOf_75 rfl rfl ?_
    refine g_icmp_ne 144 79 dX4_rankOf_76 rfl rfl (fun c2 => ?_) (fun c2 => ?_)
    · skip
      refine g_iinc _ 3 147 [(7, .int ((x7 + 1))), (0, .ref a0), (1, .ref a1), (6, .int (x6))] dX4_rankOf_144 rfl rfl rfl (Nat.le_of_ble_eq_true rfl) rfl ?_
      refine g_goto 59 dX4_rankOf_147 rfl ?_
      exact g_sub [1, 2, 3, 0] _ rfl (h5 c1 c2)
    · skip
      refine g_aload_n 0 80 dX4_rankOf_79 rfl rfl ?_
      refine g_aload_n 1 81 dX4_rankOf_80 rfl rfl ?_
      refine g_aload_n 1 82 dX4_rankOf_81 rfl rfl ?_
      refine g_getR 85 (a1 + 4) dX4_rankOf_82 rfl flX4_36 s1.1 s1.2.2.2.2.2.2.2.1 ?_
      refine g_iload 3 87 dX4_rankOf_85 rfl rfl ?_
      refine h_iaload 88 (x7).toNatClampNeg dX4_rankOf_87 rfl rfl s1.2.2.2.2.2.2.2.2.1 (b6 c1 c2) ?_
      refine g_callV (mc1 := 0) (ms1 := 0) (b := a0) (rest := []) (av := [.ref a1, .int ((g_mi M (a1 + 4) (x7).toNatClampNeg))]) kX4_valueOf 91 dX4_rankOf_88 rfl rfl mbX4_39 imX4_valueOf seX4_valueOf gcl4.1 s0.1 (Nat.le_of_ble_eq_true rfl) (w2) (w3) (tX4_valueOf (N := N) s0 s1 (b7 c1 c2) ?_)
      show Go X (d + 2) mc ms kX4_rankOf Q 91 [(0, .ref a0), (1, .ref a1), (6, .int (x6)), (7, .int (x7))] [.int ((fX4_valueOf N M a0 a1 n1 m1 (g_mi M (a1 + 4) (x7).toNatClampNeg)))] (mX4_valueOf N M a0 a1 n1 m1 (g_mi M (a1 + 4) (x7).toNatClampNeg)) c z
      refine g_iconst (1) 92 dX4_rankOf_91 rfl rfl ?_
      refine g_icmp_eq 98 95 dX4_rankOf_92 rfl rfl (fun c3 => ?_) (fun c3 => ?_)
      · skip
        refine g_aload_n 0 99 dX4_rankOf_98 rfl rfl ?_
        refine g_aload_n 1 100 dX4_rankOf_99 rfl rfl ?_
        refine g_aload_n 1 101 dX4_rankOf_100 rfl rfl ?_
        refine g_getR 104 (a1 + 3) dX4_rankOf_101 rfl flX4_43 (Sm.k (Sm.tr Sm.rf jX4_valueOf) s1.1) (Sm.r (Sm.tr Sm.rf jX4_valueOf) s1.2.2.2.2.2.1) ?_
        refine g_iload 3 106 dX4_rankOf_104 rfl rfl ?_
        refine h_iaload 107 (x7).toNatClampNeg dX4_rankOf_106 rfl rfl (Sm.k (Sm.tr Sm.rf jX4_valueOf) s1.2.2.2.2.2.2.1) (b8 c1 c2 c3) ?_
        refine g_callV (mc1 := 0) (ms1 := 0) (b := a0) (rest := []) (av := [.ref a1, .int ((g_mi (mX4_valueOf N M a0 a1 n1 m1 (g_mi M (a1 + 4) (x7).toNatClampNeg)) (a1 + 3) (x7).toNatClampNeg))]) kX4_valueOf 110 dX4_rankOf_107 rfl rfl mbX4_39 imX4_valueOf seX4_valueOf gcl4.1 (Sm.k (Sm.tr Sm.rf jX4_valueOf) s0.1) (Nat.le_of_ble_eq_true rfl) (w2) (w3) (tX4_valueOf (N := N) (Su.sm (Sm.tr Sm.rf jX4_valueOf) s0) (Tx.sm (Sm.tr Sm.rf jX4_valueOf) s1) (b9 c1 c2 c3) ?_)
        show Go X (d + 2) mc ms kX4_rankOf Q 110 [(0, .ref a0), (1, .ref a1), (6, .int (x6)), (7, .int (x7))] [.int ((fX4_valueOf N (mX4_valueOf N M a0 a1 n1 m1 (g_mi M (a1 + 4) (x7).toNatClampNeg)) a0 a1 n1 m1 (g_mi (mX4_valueOf N M a0 a1 n1 m1 (g_mi M (a1 + 4) (x7).toNatClampNeg)) (a1 + 3) (x7).toNatClampNeg)))] (mX4_valueOf N (mX4_valueOf N M a0 a1 n1 m1 (g_mi M (a1 + 4) (x7).toNatClampNeg)) a0 a1 n1 m1 (g_mi (mX4_valueOf N M a0 a1 n1 m1 (g_mi M (a1 + 4) (x7).toNatClampNeg)) (a1 + 3) (x7).toNatClampNeg)) c z
        refine g_istore 112 [(8, .int ((fX4_valueOf N (mX4_valueOf N M a0 a1 n1 m1 (g_mi M (a1 + 4) (x7).toNatClampNeg)) a0 a1 n1 m1 (g_mi (mX4_valueOf N M a0 a1 n1 m1 (g_mi M (a1 + 4) (x7).toNatClampNeg)) (a1 + 3) (x7).toNatClampNeg)))), (0, .ref a0), (1, .ref a1), (6, .int (x6)), (7, .int (x7))] dX4_rankOf_110 rfl (Nat.le_of_ble_eq_true rfl) rfl ?_
        refine g_iload 0 114 dX4_rankOf_112 rfl rfl ?_
        refine g_ldc ((-2147483648)) 116 dX4_rankOf_114 rfl q2_181 ?_
        refine g_icmp_eq 144 119 dX4_rankOf_116 rfl rfl (fun c4 => ?_) (fun c4 => ?_)
        · skip
          refine g_iinc _ 4 147 [(7, .int ((x7 + 1))), (8, .int ((fX4_valueOf N (mX4_valueOf N M a0 a1 n1 m1 (g_mi M (a1 + 4) (x7).toNatClampNeg)) a0 a1 n1 m1 (g_mi (mX4_valueOf N M a0 a1 n1 m1 (g_mi M (a1 + 4) (x7).toNatClampNeg)) (a1 + 3) (x7).toNatClampNeg)))), (0, .ref a0), (1, .ref a1), (6, .int (x6))] dX4_rankOf_144 rfl rfl rfl (Nat.le_of_ble_eq_true rfl) rfl ?_
          refine g_goto 59 dX4_rankOf_147 rfl ?_
          exact g_sub [2, 3, 4, 0] _ rfl (h10 c1 c2 c3 c4)
        · skip
          refine g_iload 0 121 dX4_rankOf_119 rfl rfl ?_
          refine g_if_ge 128 124 dX4_rankOf_121 rfl rfl (fun c5 => ?_) (fun c5 => ?_)
          · skip
            refine g_iload 0 130 dX4_rankOf_128 rfl rfl ?_
            refine g_bipush (99) 132 dX4_rankOf_130 rfl rfl ?_
            refine g_icmp_le 140 135 dX4_rankOf_132 rfl rfl (fun c6 => ?_) (fun c6 => ?_)
            · skip
              refine g_iload 0 142 dX4_rankOf_140 rfl rfl ?_
              refine g_istore 144 [(6, .int ((fX4_valueOf N (mX4_valueOf N M a0 a1 n1 m1 (g_mi M (a1 + 4) (x7).toNatClampNeg)) a0 a1 n1 m1 (g_mi (mX4_valueOf N M a0 a1 n1 m1 (g_mi M (a1 + 4) (x7).toNatClampNeg)) (a1 + 3) (x7).toNatClampNeg)))), (8, .int ((fX4_valueOf N (mX4_valueOf N M a0 a1 n1 m1 (g_mi M (a1 + 4) (x7).toNatClampNeg)) a0 a1 n1 m1 (g_mi (mX4_valueOf N M a0 a1 n1 m1 (g_mi M (a1 + 4) (x7).toNatClampNeg)) (a1 + 3) (x7).toNatClampNeg)))), (0, .ref a0), (1, .ref a1), (7, .int (x7))] dX4_rankOf_142 rfl (Nat.le_of_ble_eq_true rfl) rfl ?_
              refine g_iinc _ 4 147 [(7, .int ((x7 + 1))), (6, .int ((fX4_valueOf N (mX4_valueOf N M a0 a1 n1 m1 (g_mi M (a1 + 4) (x7).toNatClampNeg)) a0 a1 n1 m1 (g_mi (mX4_valueOf N M a0 a1 n1 m1 (g_mi M (a1 + 4) (x7).toNatClampNeg)) (a1 + 3) (x7).toNatClampNeg)))), (8, .int ((fX4_valueOf N (mX4_valueOf N M a0 a1 n1 m1 (g_mi M (a1 + 4) (x7).toNatClampNeg)) a0 a1 n1 m1 (g_mi (mX4_valueOf N M a0 a1 n1 m1 (g_mi M (a1 + 4) (x7).toNatClampNeg)) (a1 + 3) (x7).toNatClampNeg)))), (0, .ref a0), (1, .ref a1)] dX4_rankOf_144 rfl rfl rfl (Nat.le_of_ble_eq_true rfl) rfl ?_
              refine g_goto 59 dX4_rankOf_147 rfl ?_
              exact g_sub [3, 4, 1, 0] _ rfl (h11 c1 c2 c3 c4 c5 c6)
            · skip
              refine g_bipush (99) 137 dX4_rankOf_135 rfl rfl ?_
              refine g_goto 142 dX4_rankOf_137 rfl ?_
              refine g_istore 144 [(6, .int (99)), (8, .int ((fX4_valueOf N (mX4_valueOf N M a0 a1 n1 m1 (g_mi M (a1 + 4) (x7).toNatClampNeg)) a0 a1 n1 m1 (g_mi (mX4_valueOf N M a0 a1 n1 m1 (g_mi M (a1 + 4) (x7).toNatClampNeg)) (a1 + 3) (x7).toNatClampNeg)))), (0, .ref a0), (1, .ref a1), (7, .int (x7))] dX4_rankOf_142 rfl (Nat.le_of_ble_eq_true rfl) rfl ?_
              refine g_iinc _ 4 147 [(7, .int ((x7 + 1))), (6, .int (99)), (8, .int ((fX4_valueOf N (mX4_valueOf N M a0 a1 n1 m1 (g_mi M (a1 + 4) (x7).toNatClampNeg)) a0 a1 n1 m1 (g_mi (mX4_valueOf N M a0 a1 n1 m1 (g_mi M (a1 + 4) (x7).toNatClampNeg)) (a1 + 3) (x7).toNatClampNeg)))), (0, .ref a0), (1, .ref a1)] dX4_rankOf_144 rfl rfl rfl (Nat.le_of_ble_eq_true rfl) rfl ?_
              refine g_goto 59 dX4_rankOf_147 rfl ?_
              exact g_sub [3, 4, 1, 0] _ rfl (h12 c1 c2 c3 c4 c5 c6)
          · skip
            refine g_iconst (0) 125 dX4_rankOf_124 rfl rfl ?_
            refine g_goto 142 dX4_rankOf_125 rfl ?_
            refine g_istore 144 [(6, .int (0)), (8, .int ((fX4_valueOf N (mX4_valueOf N M a0 a1 n1 m1 (g_mi M (a1 + 4) (x7).toNatClampNeg)) a0 a1 n1 m1 (g_mi (mX4_valueOf N M a0 a1 n1 m1 (g_mi M (a1 + 4) (x7).toNatClampNeg)) (a1 + 3) (x7).toNatClampNeg)))), (0, .ref a0), (1, .ref a1), (7, .int (x7))] dX4_rankOf_142 rfl (Nat.le_of_ble_eq_true rfl) rfl ?_
            refine g_iinc _ 4 147 [(7, .int ((x7 + 1))), (6, .int (0)), (8, .int ((fX4_valueOf N (mX4_valueOf N M a0 a1 n1 m1 (g_mi M (a1 + 4) (x7).toNatClampNeg)) a0 a1 n1 m1 (g_mi (mX4_valueOf N M a0 a1 n1 m1 (g_mi M (a1 + 4) (x7).toNatClampNeg)) (a1 + 3) (x7).toNatClampNeg)))), (0, .ref a0), (1, .ref a1)] dX4_rankOf_144 rfl rfl rfl (Nat.le_of_ble_eq_true rfl) rfl ?_
            refine g_goto 59 dX4_rankOf_147 rfl ?_
            exact g_sub [3, 4, 1, 0] _ rfl (h13 c1 c2 c3 c4 c5)
      · skip
        refine g_goto 144 dX4_rankOf_95 rfl ?_
        refine g_iinc _ 3 147 [(7, .int ((x7 + 1))), (0, .ref a0), (1, .ref a1), (6, .int (x6))] dX4_rankOf_144 rfl rfl rfl (Nat.le_of_ble_eq_true rfl) rfl ?_
        refine g_goto 59 dX4_rankOf_147 rfl ?_
        exact g_sub [1, 2, 3, 0] _ rfl (h14 c1 c2 c3)

def bX4_rankOf_0 (N : Nat) (M : gM) (a0 : Nat) (a1 : Nat) (n1 : Nat) (m1 : Nat) (a2 : Nat) (x3 : Int32) (x4 : Int32) (x5 : Int32) (k : Nat → (Nat → Nat → Int32) → Nat → Nat → Nat → Nat → Int32 → Int32 → Int32 × (Nat → Nat → Int32)) : Int32 × (Nat → Nat → Int32) := (if (g_mi (g_wi (mX4_tellLaw M a0 a2 x3) (a0 + 1) 0 x4) a2 4) ≤ 0 then (k 0 (g_mi (g_wi (g_wi (g_wi (g_wi (mX4_tellLaw M a0 a2 x3) (a0 + 1) 0 x4) (a0 + 1) 1 (-1)) (a0 + 1) 5 x5) (a0 + 1) 2 (-1))) a0 a1 n1 m1 0 0) else (k 0 (g_mi (g_wi (g_wi (g_wi (g_wi (mX4_tellLaw M a0 a2 x3) (a0 + 1) 0 x4) (a0 + 1) 1 (x4 / (g_mi (g_wi (mX4_tellLaw M a0 a2 x3) (a0 + 1) 0 x4) a2 4))) (a0 + 1) 5 x5) (a0 + 1) 2 (-1))) a0 a1 n1 m1 0 0))
def eX4_rankOf_0 (N : Nat) (M : gM) (a0 : Nat) (a1 : Nat) (n1 : Nat) (m1 : Nat) (a2 : Nat) (x3 : Int32) (x4 : Int32) (x5 : Int32) (k : Nat → (Nat → Nat → Int32) → Nat → Nat → Nat → Nat → Int32 → Int32 → Prop) : Prop := ((¬ (g_mi (g_wi (mX4_tellLaw M a0 a2 x3) (a0 + 1) 0 x4) a2 4) ≤ 0) → ¬ ((g_mi (g_wi (mX4_tellLaw M a0 a2 x3) (a0 + 1) 0 x4) a2 4) : Int32) = 0) ∧ (if (g_mi (g_wi (mX4_tellLaw M a0 a2 x3) (a0 + 1) 0 x4) a2 4) ≤ 0 then (k 0 (g_mi (g_wi (g_wi (g_wi (g_wi (mX4_tellLaw M a0 a2 x3) (a0 + 1) 0 x4) (a0 + 1) 1 (-1)) (a0 + 1) 5 x5) (a0 + 1) 2 (-1))) a0 a1 n1 m1 0 0) else (k 0 (g_mi (g_wi (g_wi (g_wi (g_wi (mX4_tellLaw M a0 a2 x3) (a0 + 1) 0 x4) (a0 + 1) 1 (x4 / (g_mi (g_wi (mX4_tellLaw M a0 a2 x3) (a0 + 1) 0 x4) a2 4))) (a0 + 1) 5 x5) (a0 + 1) 2 (-1))) a0 a1 n1 m1 0 0))
def bX4_rankOf_59 (N : Nat) (M : gM) (f : Nat → Nat → Int32) (a0 : Nat) (a1 : Nat) (n1 : Nat) (m1 : Nat) (x6 : Int32) (x7 : Int32) (k : Nat → (Nat → Nat → Int32) → Nat → Nat → Nat → Nat → Int32 → Int32 → Int32 × (Nat → Nat → Int32)) : Int32 × (Nat → Nat → Int32) := (if (g_mi (g_wm M f (g_ml M)) a1 6) ≤ x7 then (x6, g_mi (g_wm M f (g_ml M))) else (if (g_mi (g_wm M f (g_ml M)) (a1 + 1) (x7).toNatClampNeg) = 5 then (if (fX4_valueOf N (g_wm M f (g_ml M)) a0 a1 n1 m1 (g_mi (g_wm M f (g_ml M)) (a1 + 4) (x7).toNatClampNeg)) = 1 then (if (fX4_valueOf N (mX4_valueOf N (g_wm M f (g_ml M)) a0 a1 n1 m1 (g_mi (g_wm M f (g_ml M)) (a1 + 4) (x7).toNatClampNeg)) a0 a1 n1 m1 (g_mi (mX4_valueOf N (g_wm M f (g_ml M)) a0 a1 n1 m1 (g_mi (g_wm M f (g_ml M)) (a1 + 4) (x7).toNatClampNeg)) (a1 + 3) (x7).toNatClampNeg)) = (-2147483648) then (k 0 (g_mi (mX4_valueOf N (mX4_valueOf N (g_wm M f (g_ml M)) a0 a1 n1 m1 (g_mi (g_wm M f (g_ml M)) (a1 + 4) (x7).toNatClampNeg)) a0 a1 n1 m1 (g_mi (mX4_valueOf N (g_wm M f (g_ml M)) a0 a1 n1 m1 (g_mi (g_wm M f (g_ml M)) (a1 + 4) (x7).toNatClampNeg)) (a1 + 3) (x7).toNatClampNeg))) a0 a1 n1 m1 x6 (x7 + 1)) else (if 0 ≤ (fX4_valueOf N (mX4_valueOf N (g_wm M f (g_ml M)) a0 a1 n1 m1 (g_mi (g_wm M f (g_ml M)) (a1 + 4) (x7).toNatClampNeg)) a0 a1 n1 m1 (g_mi (mX4_valueOf N (g_wm M f (g_ml M)) a0 a1 n1 m1 (g_mi (g_wm M f (g_ml M)) (a1 + 4) (x7).toNatClampNeg)) (a1 + 3) (x7).toNatClampNeg)) then (if (fX4_valueOf N (mX4_valueOf N (g_wm M f (g_ml M)) a0 a1 n1 m1 (g_mi (g_wm M f (g_ml M)) (a1 + 4) (x7).toNatClampNeg)) a0 a1 n1 m1 (g_mi (mX4_valueOf N (g_wm M f (g_ml M)) a0 a1 n1 m1 (g_mi (g_wm M f (g_ml M)) (a1 + 4) (x7).toNatClampNeg)) (a1 + 3) (x7).toNatClampNeg)) ≤ 99 then (k 0 (g_mi (mX4_valueOf N (mX4_valueOf N (g_wm M f (g_ml M)) a0 a1 n1 m1 (g_mi (g_wm M f (g_ml M)) (a1 + 4) (x7).toNatClampNeg)) a0 a1 n1 m1 (g_mi (mX4_valueOf N (g_wm M f (g_ml M)) a0 a1 n1 m1 (g_mi (g_wm M f (g_ml M)) (a1 + 4) (x7).toNatClampNeg)) (a1 + 3) (x7).toNatClampNeg))) a0 a1 n1 m1 (fX4_valueOf N (mX4_valueOf N (g_wm M f (g_ml M)) a0 a1 n1 m1 (g_mi (g_wm M f (g_ml M)) (a1 + 4) (x7).toNatClampNeg)) a0 a1 n1 m1 (g_mi (mX4_valueOf N (g_wm M f (g_ml M)) a0 a1 n1 m1 (g_mi (g_wm M f (g_ml M)) (a1 + 4) (x7).toNatClampNeg)) (a1 + 3) (x7).toNatClampNeg)) (x7 + 1)) else (k 0 (g_mi (mX4_valueOf N (mX4_valueOf N (g_wm M f (g_ml M)) a0 a1 n1 m1 (g_mi (g_wm M f (g_ml M)) (a1 + 4) (x7).toNatClampNeg)) a0 a1 n1 m1 (g_mi (mX4_valueOf N (g_wm M f (g_ml M)) a0 a1 n1 m1 (g_mi (g_wm M f (g_ml M)) (a1 + 4) (x7).toNatClampNeg)) (a1 + 3) (x7).toNatClampNeg))) a0 a1 n1 m1 99 (x7 + 1))) else (k 0 (g_mi (mX4_valueOf N (mX4_valueOf N (g_wm M f (g_ml M)) a0 a1 n1 m1 (g_mi (g_wm M f (g_ml M)) (a1 + 4) (x7).toNatClampNeg)) a0 a1 n1 m1 (g_mi (mX4_valueOf N (g_wm M f (g_ml M)) a0 a1 n1 m1 (g_mi (g_wm M f (g_ml M)) (a1 + 4) (x7).toNatClampNeg)) (a1 + 3) (x7).toNatClampNeg))) a0 a1 n1 m1 0 (x7 + 1)))) else (k 0 (g_mi (mX4_valueOf N (g_wm M f (g_ml M)) a0 a1 n1 m1 (g_mi (g_wm M f (g_ml M)) (a1 + 4) (x7).toNatClampNeg))) a0 a1 n1 m1 x6 (x7 + 1))) else (k 0 (g_mi (g_wm M f (g_ml M))) a0 a1 n1 m1 x6 (x7 + 1))))
def eX4_rankOf_59 (N : Nat) (M : gM) (f : Nat → Nat → Int32) (a0 : Nat) (a1 : Nat) (n1 : Nat) (m1 : Nat) (x6 : Int32) (x7 : Int32) (k : Nat → (Nat → Nat → Int32) → Nat → Nat → Nat → Nat → Int32 → Int32 → Prop) : Prop := ((¬ (g_mi (g_wm M f (g_ml M)) a1 6) ≤ x7) → vp_in (x7) n1) ∧ ((¬ (g_mi (g_wm M f (g_ml M)) a1 6) ≤ x7) → ((g_mi (g_wm M f (g_ml M)) (a1 + 1) (x7).toNatClampNeg) = 5) → vp_in (x7) n1) ∧ ((¬ (g_mi (g_wm M f (g_ml M)) a1 6) ≤ x7) → ((g_mi (g_wm M f (g_ml M)) (a1 + 1) (x7).toNatClampNeg) = 5) → EX4_valueOf N (g_wm M f (g_ml M)) a0 a1 n1 m1 (g_mi (g_wm M f (g_ml M)) (a1 + 4) (x7).toNatClampNeg)) ∧ ((¬ (g_mi (g_wm M f (g_ml M)) a1 6) ≤ x7) → ((g_mi (g_wm M f (g_ml M)) (a1 + 1) (x7).toNatClampNeg) = 5) → ((fX4_valueOf N (g_wm M f (g_ml M)) a0 a1 n1 m1 (g_mi (g_wm M f (g_ml M)) (a1 + 4) (x7).toNatClampNeg)) = 1) → vp_in (x7) n1) ∧ ((¬ (g_mi (g_wm M f (g_ml M)) a1 6) ≤ x7) → ((g_mi (g_wm M f (g_ml M)) (a1 + 1) (x7).toNatClampNeg) = 5) → ((fX4_valueOf N (g_wm M f (g_ml M)) a0 a1 n1 m1 (g_mi (g_wm M f (g_ml M)) (a1 + 4) (x7).toNatClampNeg)) = 1) → EX4_valueOf N (mX4_valueOf N (g_wm M f (g_ml M)) a0 a1 n1 m1 (g_mi (g_wm M f (g_ml M)) (a1 + 4) (x7).toNatClampNeg)) a0 a1 n1 m1 (g_mi (mX4_valueOf N (g_wm M f (g_ml M)) a0 a1 n1 m1 (g_mi (g_wm M f (g_ml M)) (a1 + 4) (x7).toNatClampNeg)) (a1 + 3) (x7).toNatClampNeg)) ∧ (if (g_mi (g_wm M f (g_ml M)) a1 6) ≤ x7 then True else (if (g_mi (g_wm M f (g_ml M)) (a1 + 1) (x7).toNatClampNeg) = 5 then (if (fX4_valueOf N (g_wm M f (g_ml M)) a0 a1 n1 m1 (g_mi (g_wm M f (g_ml M)) (a1 + 4) (x7).toNatClampNeg)) = 1 then (if (fX4_valueOf N (mX4_valueOf N (g_wm M f (g_ml M)) a0 a1 n1 m1 (g_mi (g_wm M f (g_ml M)) (a1 + 4) (x7).toNatClampNeg)) a0 a1 n1 m1 (g_mi (mX4_valueOf N (g_wm M f (g_ml M)) a0 a1 n1 m1 (g_mi (g_wm M f (g_ml M)) (a1 + 4) (x7).toNatClampNeg)) (a1 + 3) (x7).toNatClampNeg)) = (-2147483648) then (k 0 (g_mi (mX4_valueOf N (mX4_valueOf N (g_wm M f (g_ml M)) a0 a1 n1 m1 (g_mi (g_wm M f (g_ml M)) (a1 + 4) (x7).toNatClampNeg)) a0 a1 n1 m1 (g_mi (mX4_valueOf N (g_wm M f (g_ml M)) a0 a1 n1 m1 (g_mi (g_wm M f (g_ml M)) (a1 + 4) (x7).toNatClampNeg)) (a1 + 3) (x7).toNatClampNeg))) a0 a1 n1 m1 x6 (x7 + 1)) else (if 0 ≤ (fX4_valueOf N (mX4_valueOf N (g_wm M f (g_ml M)) a0 a1 n1 m1 (g_mi (g_wm M f (g_ml M)) (a1 + 4) (x7).toNatClampNeg)) a0 a1 n1 m1 (g_mi (mX4_valueOf N (g_wm M f (g_ml M)) a0 a1 n1 m1 (g_mi (g_wm M f (g_ml M)) (a1 + 4) (x7).toNatClampNeg)) (a1 + 3) (x7).toNatClampNeg)) then (if (fX4_valueOf N (mX4_valueOf N (g_wm M f (g_ml M)) a0 a1 n1 m1 (g_mi (g_wm M f (g_ml M)) (a1 + 4) (x7).toNatClampNeg)) a0 a1 n1 m1 (g_mi (mX4_valueOf N (g_wm M f (g_ml M)) a0 a1 n1 m1 (g_mi (g_wm M f (g_ml M)) (a1 + 4) (x7).toNatClampNeg)) (a1 + 3) (x7).toNatClampNeg)) ≤ 99 then (k 0 (g_mi (mX4_valueOf N (mX4_valueOf N (g_wm M f (g_ml M)) a0 a1 n1 m1 (g_mi (g_wm M f (g_ml M)) (a1 + 4) (x7).toNatClampNeg)) a0 a1 n1 m1 (g_mi (mX4_valueOf N (g_wm M f (g_ml M)) a0 a1 n1 m1 (g_mi (g_wm M f (g_ml M)) (a1 + 4) (x7).toNatClampNeg)) (a1 + 3) (x7).toNatClampNeg))) a0 a1 n1 m1 (fX4_valueOf N (mX4_valueOf N (g_wm M f (g_ml M)) a0 a1 n1 m1 (g_mi (g_wm M f (g_ml M)) (a1 + 4) (x7).toNatClampNeg)) a0 a1 n1 m1 (g_mi (mX4_valueOf N (g_wm M f (g_ml M)) a0 a1 n1 m1 (g_mi (g_wm M f (g_ml M)) (a1 + 4) (x7).toNatClampNeg)) (a1 + 3) (x7).toNatClampNeg)) (x7 + 1)) else (k 0 (g_mi (mX4_valueOf N (mX4_valueOf N (g_wm M f (g_ml M)) a0 a1 n1 m1 (g_mi (g_wm M f (g_ml M)) (a1 + 4) (x7).toNatClampNeg)) a0 a1 n1 m1 (g_mi (mX4_valueOf N (g_wm M f (g_ml M)) a0 a1 n1 m1 (g_mi (g_wm M f (g_ml M)) (a1 + 4) (x7).toNatClampNeg)) (a1 + 3) (x7).toNatClampNeg))) a0 a1 n1 m1 99 (x7 + 1))) else (k 0 (g_mi (mX4_valueOf N (mX4_valueOf N (g_wm M f (g_ml M)) a0 a1 n1 m1 (g_mi (g_wm M f (g_ml M)) (a1 + 4) (x7).toNatClampNeg)) a0 a1 n1 m1 (g_mi (mX4_valueOf N (g_wm M f (g_ml M)) a0 a1 n1 m1 (g_mi (g_wm M f (g_ml M)) (a1 + 4) (x7).toNatClampNeg)) (a1 + 3) (x7).toNatClampNeg))) a0 a1 n1 m1 0 (x7 + 1)))) else (k 0 (g_mi (mX4_valueOf N (g_wm M f (g_ml M)) a0 a1 n1 m1 (g_mi (g_wm M f (g_ml M)) (a1 + 4) (x7).toNatClampNeg))) a0 a1 n1 m1 x6 (x7 + 1))) else (k 0 (g_mi (g_wm M f (g_ml M))) a0 a1 n1 m1 x6 (x7 + 1))))
def wX4_rankOf (N : Nat) (M : gM) : Nat → Nat → (Nat → Nat → Int32) → Nat → Nat → Nat → Nat → Int32 → Int32 → Int32 × (Nat → Nat → Int32)
  | 0, _, f, _, _, _, _, _, _ => (0, f)
  | n + 1, h, f, a0, a1, n1, m1, x6, x7 => bX4_rankOf_59 N M f a0 a1 n1 m1 x6 x7 (wX4_rankOf N M n)
def vX4_rankOf (N : Nat) (M : gM) : Nat → Nat → (Nat → Nat → Int32) → Nat → Nat → Nat → Nat → Int32 → Int32 → Prop
  | 0, _, _, _, _, _, _, _, _ => False
  | n + 1, h, f, a0, a1, n1, m1, x6, x7 => eX4_rankOf_59 N M f a0 a1 n1 m1 x6 x7 (vX4_rankOf N M n)
set_option maxRecDepth 10000 in
theorem lpX4_rankOf {X : gX} {d mc ms : Nat} {Q : Option Value → gM → Prop} (N : Nat) (M : gM) : ∀ n : Nat, (∀ (f : Nat → Nat → Int32) (a0 : Nat) (a1 : Nat) (n1 : Nat) (m1 : Nat) (x6 : Int32) (x7 : Int32), Su M a0 → Tx M a1 n1 m1 → vX4_rankOf N M n 0 f a0 a1 n1 m1 x6 x7 → Q (some (.int (wX4_rankOf N M n 0 f a0 a1 n1 m1 x6 x7).1)) (g_wm M (wX4_rankOf N M n 0 f a0 a1 n1 m1 x6 x7).2 (g_ml M)) → Go X (d + 2) mc ms kX4_rankOf Q 59 [(0, .ref a0), (1, .ref a1), (6, .int (x6)), (7, .int (x7))] [] (g_wm M f (g_ml M)) 0 0) := by
  intro n
  induction n with
  | zero => exact fun _ _ _ _ _ _ _ _ _ h _ => h.elim
  | succ n ih =>
    intro f a0 a1 n1 m1 x6 x7 s0 s1 hT hQ
    rw [vX4_rankOf] at hT
    rw [wX4_rankOf] at hQ
    unfold bX4_rankOf_59 at hQ
    unfold eX4_rankOf_59 at hT
    obtain ⟨b4, b6, b7, b8, b9, hT⟩ := hT
    exact sX4_rankOf_59 (M := (g_wm M f (g_ml M))) (Su.sm Sm.wm s0) (Tx.sm Sm.wm s1) (fun c1 => by simp only [if_pos c1] at hQ; exact Sm.q Sm.wm hQ) (Nat.zero_le _) (Nat.zero_le _) b4 (fun c1 c2 => by simp only [if_neg c1, if_neg c2] at hQ hT; exact Sm.g Sm.wm (ih _ _ _ _ _ _ _ (s0) (s1) hT hQ)) b6 b7 b8 b9 (fun c1 c2 c3 c4 => by simp only [if_neg c1, if_pos c2, if_pos c3, if_pos c4] at hQ hT; exact Sm.g (Sm.tr Sm.wm (Sm.tr (Sm.tr Sm.rf jX4_valueOf) jX4_valueOf)) (ih _ _ _ _ _ _ _ (s0) (s1) hT hQ)) (fun c1 c2 c3 c4 c5 c6 => by simp only [if_neg c1, if_pos c2, if_pos c3, if_neg c4, if_pos c5, if_pos c6] at hQ hT; exact Sm.g (Sm.tr Sm.wm (Sm.tr (Sm.tr Sm.rf jX4_valueOf) jX4_valueOf)) (ih _ _ _ _ _ _ _ (s0) (s1) hT hQ)) (fun c1 c2 c3 c4 c5 c6 => by simp only [if_neg c1, if_pos c2, if_pos c3, if_neg c4, if_pos c5, if_neg c6] at hQ hT; exact Sm.g (Sm.tr Sm.wm (Sm.tr (Sm.tr Sm.rf jX4_valueOf) jX4_valueOf)) (ih _ _ _ _ _ _ _ (s0) (s1) hT hQ)) (fun c1 c2 c3 c4 c5 => by simp only [if_neg c1, if_pos c2, if_pos c3, if_neg c4, if_neg c5] at hQ hT; exact Sm.g (Sm.tr Sm.wm (Sm.tr (Sm.tr Sm.rf jX4_valueOf) jX4_valueOf)) (ih _ _ _ _ _ _ _ (s0) (s1) hT hQ)) (fun c1 c2 c3 => by simp only [if_neg c1, if_pos c2, if_neg c3] at hQ hT; exact Sm.g (Sm.tr Sm.wm (Sm.tr Sm.rf jX4_valueOf)) (ih _ _ _ _ _ _ _ (s0) (s1) hT hQ))
def fX4_rankOf (N : Nat) (M : gM) (a0 : Nat) (a1 : Nat) (n1 : Nat) (m1 : Nat) (a2 : Nat) (x3 : Int32) (x4 : Int32) (x5 : Int32) : Int32 := (bX4_rankOf_0 N M a0 a1 n1 m1 a2 x3 x4 x5 (wX4_rankOf N M N)).1
def mX4_rankOf (N : Nat) (M : gM) (a0 : Nat) (a1 : Nat) (n1 : Nat) (m1 : Nat) (a2 : Nat) (x3 : Int32) (x4 : Int32) (x5 : Int32) : gM := g_wm M (bX4_rankOf_0 N M a0 a1 n1 m1 a2 x3 x4 x5 (wX4_rankOf N M N)).2 (g_ml M)
theorem jX4_rankOf {N : Nat} {M : gM} {a0 : Nat} {a1 : Nat} {n1 : Nat} {m1 : Nat} {a2 : Nat} {x3 : Int32} {x4 : Int32} {x5 : Int32} : Sm M (mX4_rankOf N M a0 a1 n1 m1 a2 x3 x4 x5) := Sm.wm
def EX4_rankOf (N : Nat) (M : gM) (a0 : Nat) (a1 : Nat) (n1 : Nat) (m1 : Nat) (a2 : Nat) (x3 : Int32) (x4 : Int32) (x5 : Int32) : Prop := eX4_rankOf_0 N M a0 a1 n1 m1 a2 x3 x4 x5 (vX4_rankOf N M N)
theorem tX4_rankOf {N : Nat} {X : gX} {d mc ms : Nat} {Q : Option Value → gM → Prop} {M : gM} {a0 : Nat} {a1 : Nat} {n1 m1 : Nat} {a2 : Nat} {x3 : Int32} {x4 : Int32} {x5 : Int32} (s0 : Su M a0) (s1 : Tx M a1 n1 m1) (s2 : St M a2) (hE : EX4_rankOf N M a0 a1 n1 m1 a2 x3 x4 x5) (hQ : Q (some (.int (fX4_rankOf N M a0 a1 n1 m1 a2 x3 x4 x5))) (mX4_rankOf N M a0 a1 n1 m1 a2 x3 x4 x5)) : Cn X (d + 2) mc ms kX4_rankOf [.ref a0, .ref a1, .ref a2, .int (x3), .int (x4), .int (x5)] M Q := by
  unfold fX4_rankOf mX4_rankOf at hQ
  unfold bX4_rankOf_0 at hQ
  unfold EX4_rankOf eX4_rankOf_0 at hE
  obtain ⟨b2, hT⟩ := hE
  have ih := lpX4_rankOf (X := X) (d := d) (mc := mc) (ms := ms) (Q := Q) N M N
  exact sX4_rankOf_0 s0 s1 s2 (fun c1 => by simp only [if_pos c1] at hQ hT; exact Sm.g (Sm.wi (Sm.wi (Sm.wi (Sm.wi (Sm.tr Sm.rf jX4_tellLaw))))) (ih _ _ _ _ _ _ _ (s0) (s1) hT hQ)) b2 (fun c1 => by simp only [if_neg c1] at hQ hT; exact Sm.g (Sm.wi (Sm.wi (Sm.wi (Sm.wi (Sm.tr Sm.rf jX4_tellLaw))))) (ih _ _ _ _ _ _ _ (s0) (s1) hT hQ))
/-! X4_isBarred  -/
set_option maxRecDepth 4000 in
theorem sX4_isBarred_0 {X : gX} {d mc ms : Nat} {Q : Option Value → gM → Prop} {M : gM} {a0 : Nat} {a1 : Nat} {n1 m1 : Nat} {a2 : Nat} {x3 : Int32} (s0 : Su M a0) (s1 : Tx M a1 n1 m1) (s2 : St M a2) (h1 : Go X (d + 2) mc ms kX4_isBarred Q 40 [(0, .ref a0), (1, .ref a1), (4, .int (0))] [] (g_wi (g_wi (g_wi (g_wi (mX4_tellLaw M a0 a2 (g_mi M a2 5)) (a0 + 1) 0 (-1)) (a0 + 1) 1 (-1)) (a0 + 1) 5 (-1)) (a0 + 1) 2 x3) 0 0) : Cn X (d + 2) mc ms kX4_isBarred [.ref a0, .ref a1, .ref a2, .int (x3)] M Q := by
  refine g_meth rfl rfl (Nat.le_of_ble_eq_true rfl) rfl ?_
  refine g_aload_n 0 1 dX4_isBarred_0 rfl rfl ?_
  refine g_aload_n 2 2 dX4_isBarred_1 rfl rfl ?_
  refine g_aload_n 2 3 dX4_isBarred_2 rfl rfl ?_
  refine g_getI 6 dX4_isBarred_3 rfl flX4_47 s2.1 ?_
  refine g_callV (mc1 := 0) (ms1 := 0) (b := a0) (rest := []) (av := [.ref a2, .int ((g_mi M a2 5))]) kX4_tellLaw 9 dX4_isBarred_6 rfl rfl mbX4_18 imX4_tellLaw seX4_tellLaw gcl4.1 s0.1 (Nat.le_of_ble_eq_true rfl) (Nat.zero_le _) (Nat.zero_le _) (tX4_tellLaw s0 s2 ?_)
  show Go X (d + 2) mc ms kX4_isBarred Q 9 [(0, .ref a0), (1, .ref a1), (2, .ref a2), (3, .int (x3))] [] (mX4_tellLaw M a0 a2 (g_mi M a2 5)) 0 0
  refine g_aload_n 0 10 dX4_isBarred_9 rfl rfl ?_
  refine g_getR 13 (a0 + 1) dX4_isBarred_10 rfl flX4_9 (Sm.k (Sm.tr Sm.rf jX4_tellLaw) s0.1) (Sm.r (Sm.tr Sm.rf jX4_tellLaw) s0.2.1) ?_
  refine g_iconst (0) 14 dX4_isBarred_13 rfl rfl ?_
  refine g_iconst ((-1)) 15 dX4_isBarred_14 rfl rfl ?_
  refine h_iastore 16 0 dX4_isBarred_15 rfl rfl (Sm.k (Sm.tr Sm.rf jX4_tellLaw) s0.2.2.1) (vp_lit rfl) ?_
  refine g_aload_n 0 17 dX4_isBarred_16 rfl rfl ?_
  refine g_getR 20 (a0 + 1) dX4_isBarred_17 rfl flX4_9 (Sm.k (Sm.wi (Sm.tr Sm.rf jX4_tellLaw)) s0.1) (Sm.r (Sm.wi (Sm.tr Sm.rf jX4_tellLaw)) s0.2.1) ?_
  refine g_iconst (1) 21 dX4_isBarred_20 rfl rfl ?_
  refine g_iconst ((-1)) 22 dX4_isBarred_21 rfl rfl ?_
  refine h_iastore 23 1 dX4_isBarred_22 rfl rfl (Sm.k (Sm.wi (Sm.tr Sm.rf jX4_tellLaw)) s0.2.2.1) (vp_lit rfl) ?_
  refine g_aload_n 0 24 dX4_isBarred_23 rfl rfl ?_
  refine g_getR 27 (a0 + 1) dX4_isBarred_24 rfl flX4_9 (Sm.k (Sm.wi (Sm.wi (Sm.tr Sm.rf jX4_tellLaw))) s0.1) (Sm.r (Sm.wi (Sm.wi (Sm.tr Sm.rf jX4_tellLaw))) s0.2.1) ?_
  refine g_iconst (5) 28 dX4_isBarred_27 rfl rfl ?_
  refine g_iconst ((-1)) 29 dX4_isBarred_28 rfl rfl ?_
  refine h_iastore 30 5 dX4_isBarred_29 rfl rfl (Sm.k (Sm.wi (Sm.wi (Sm.tr Sm.rf jX4_tellLaw))) s0.2.2.1) (vp_lit rfl) ?_
  refine g_aload_n 0 31 dX4_isBarred_30 rfl rfl ?_
  refine g_getR 34 (a0 + 1) dX4_isBarred_31 rfl flX4_9 (Sm.k (Sm.wi (Sm.wi (Sm.wi (Sm.tr Sm.rf jX4_tellLaw)))) s0.1) (Sm.r (Sm.wi (Sm.wi (Sm.wi (Sm.tr Sm.rf jX4_tellLaw)))) s0.2.1) ?_
  refine g_iconst (2) 35 dX4_isBarred_34 rfl rfl ?_
  refine g_iload_n 3 36 dX4_isBarred_35 rfl rfl ?_
  refine h_iastore 37 2 dX4_isBarred_36 rfl rfl (Sm.k (Sm.wi (Sm.wi (Sm.wi (Sm.tr Sm.rf jX4_tellLaw)))) s0.2.2.1) (vp_lit rfl) ?_
  refine g_iconst (0) 38 dX4_isBarred_37 rfl rfl ?_
  refine g_istore 40 [(4, .int (0)), (0, .ref a0), (1, .ref a1), (2, .ref a2), (3, .int (x3))] dX4_isBarred_38 rfl (Nat.le_of_ble_eq_true rfl) rfl ?_
  exact g_sub [1, 2, 0] _ rfl (h1)

set_option maxRecDepth 4000 in
theorem sX4_isBarred_40 {N : Nat} {X : gX} {d mc ms : Nat} {Q : Option Value → gM → Prop} {M : gM} {c z : Nat} {a0 : Nat} {a1 : Nat} {n1 m1 : Nat} {x4 : Int32} (s0 : Su M a0) (s1 : Tx M a1 n1 m1) (h1 : ((g_mi M a1 6) ≤ x4) → Q (some (.int (0))) M) (w2 : c ≤ mc) (w3 : z ≤ ms) (b4 : (¬ (g_mi M a1 6) ≤ x4) → vp_in (x4) n1) (h5 : (¬ (g_mi M a1 6) ≤ x4) → (¬ (g_mi M (a1 + 1) (x4).toNatClampNeg) = 6) → Go X (d + 2) mc ms kX4_isBarred Q 40 [(0, .ref a0), (1, .ref a1), (4, .int ((x4 + 1)))] [] M c z) (b6 : (¬ (g_mi M a1 6) ≤ x4) → ((g_mi M (a1 + 1) (x4).toNatClampNeg) = 6) → vp_in (x4) n1) (b7 : (¬ (g_mi M a1 6) ≤ x4) → ((g_mi M (a1 + 1) (x4).toNatClampNeg) = 6) → EX4_valueOf N M a0 a1 n1 m1 (g_mi M (a1 + 4) (x4).toNatClampNeg)) (h8 : (¬ (g_mi M a1 6) ≤ x4) → ((g_mi M (a1 + 1) (x4).toNatClampNeg) = 6) → (¬ (fX4_valueOf N M a0 a1 n1 m1 (g_mi M (a1 + 4) (x4).toNatClampNeg)) = 1) → Go X (d + 2) mc ms kX4_isBarred Q 40 [(0, .ref a0), (1, .ref a1), (4, .int ((x4 + 1)))] [] (mX4_valueOf N M a0 a1 n1 m1 (g_mi M (a1 + 4) (x4).toNatClampNeg)) c z) (h9 : (¬ (g_mi M a1 6) ≤ x4) → ((g_mi M (a1 + 1) (x4).toNatClampNeg) = 6) → ((fX4_valueOf N M a0 a1 n1 m1 (g_mi M (a1 + 4) (x4).toNatClampNeg)) = 1) → Q (some (.int (1))) (mX4_valueOf N M a0 a1 n1 m1 (g_mi M (a1 + 4) (x4).toNatClampNeg))) : Go X (d + 2) mc ms kX4_isBarred Q 40 [(0, .ref a0), (1, .ref a1), (4, .int (x4))] [] M c z := by
  refine g_iload 2 42 dX4_isBarred_40 rfl rfl ?_
  refine g_aload_n 1 43 dX4_isBarred_42 rfl rfl ?_
  refine g_getI 46 dX4_isBarred_43 rfl flX4_28 s1.1 ?_
  refine g_icmp_ge 85 49 dX4_isBarred_46 rfl rfl (fun c1 => ?_) (fun c1 => ?_)
  · skip
    refine g_iconst (0) 86 dX4_isBarred_85 rfl rfl ?_
    exact g_zret dX4_isBarred_86 rfl (by decide) (w2) (w3) (h1 c1)
  · skip
    refine g_aload_n 1 50 dX4_isBarred_49 rfl rfl ?_
    refine g_getR 53 (a1 + 1) dX4_isBarred_50 rfl flX4_33 s1.1 s1.2.1 ?_
    refine g_iload 2 55 dX4_isBarred_53 rfl rfl ?_
    refine h_iaload 56 (x4).toNatClampNeg dX4_isBarred_55 rfl rfl s1.2.2.1 (b4 c1) ?_
    refine g_bipush (6) 58 dX4_isBarred_56 rfl rfl ?_
    refine g_icmp_ne 79 61 dX4_isBarred_58 rfl rfl (fun c2 => ?_) (fun c2 => ?_)
    · skip
      refine g_iinc _ 2 82 [(4, .int ((x4 + 1))), (0, .ref a0), (1, .ref a1)] dX4_isBarred_79 rfl rfl rfl (Nat.le_of_ble_eq_true rfl) rfl ?_
      refine g_goto 40 dX4_isBarred_82 rfl ?_
      exact g_sub [1, 2, 0] _ rfl (h5 c1 c2)
    · skip
      refine g_aload_n 0 62 dX4_isBarred_61 rfl rfl ?_
      refine g_aload_n 1 63 dX4_isBarred_62 rfl rfl ?_
      refine g_aload_n 1 64 dX4_isBarred_63 rfl rfl ?_
      refine g_getR 67 (a1 + 4) dX4_isBarred_64 rfl flX4_36 s1.1 s1.2.2.2.2.2.2.2.1 ?_
      refine g_iload 2 69 dX4_isBarred_67 rfl rfl ?_
      refine h_iaload 70 (x4).toNatClampNeg dX4_isBarred_69 rfl rfl s1.2.2.2.2.2.2.2.2.1 (b6 c1 c2) ?_
      refine g_callV (mc1 := 0) (ms1 := 0) (b := a0) (rest := []) (av := [.ref a1, .int ((g_mi M (a1 + 4) (x4).toNatClampNeg))]) kX4_valueOf 73 dX4_isBarred_70 rfl rfl mbX4_39 imX4_valueOf seX4_valueOf gcl4.1 s0.1 (Nat.le_of_ble_eq_true rfl) (w2) (w3) (tX4_valueOf (N := N) s0 s1 (b7 c1 c2) ?_)
      show Go X (d + 2) mc ms kX4_isBarred Q 73 [(0, .ref a0), (1, .ref a1), (4, .int (x4))] [.int ((fX4_valueOf N M a0 a1 n1 m1 (g_mi M (a1 + 4) (x4).toNatClampNeg)))] (mX4_valueOf N M a0 a1 n1 m1 (g_mi M (a1 + 4) (x4).toNatClampNeg)) c z
      refine g_iconst (1) 74 dX4_isBarred_73 rfl rfl ?_
      refine g_icmp_ne 79 77 dX4_isBarred_74 rfl rfl (fun c3 => ?_) (fun c3 => ?_)
      · skip
        refine g_iinc _ 2 82 [(4, .int ((x4 + 1))), (0, .ref a0), (1, .ref a1)] dX4_isBarred_79 rfl rfl rfl (Nat.le_of_ble_eq_true rfl) rfl ?_
        refine g_goto 40 dX4_isBarred_82 rfl ?_
        exact g_sub [1, 2, 0] _ rfl (h8 c1 c2 c3)
      · skip
        refine g_iconst (1) 78 dX4_isBarred_77 rfl rfl ?_
        exact g_zret dX4_isBarred_78 rfl (by decide) (w2) (w3) (h9 c1 c2 c3)

def bX4_isBarred_0 (N : Nat) (M : gM) (a0 : Nat) (a1 : Nat) (n1 : Nat) (m1 : Nat) (a2 : Nat) (x3 : Int32) (k : Nat → (Nat → Nat → Int32) → Nat → Nat → Nat → Nat → Int32 → Int32 × (Nat → Nat → Int32)) : Int32 × (Nat → Nat → Int32) := (k 0 (g_mi (g_wi (g_wi (g_wi (g_wi (mX4_tellLaw M a0 a2 (g_mi M a2 5)) (a0 + 1) 0 (-1)) (a0 + 1) 1 (-1)) (a0 + 1) 5 (-1)) (a0 + 1) 2 x3)) a0 a1 n1 m1 0)
def eX4_isBarred_0 (N : Nat) (M : gM) (a0 : Nat) (a1 : Nat) (n1 : Nat) (m1 : Nat) (a2 : Nat) (x3 : Int32) (k : Nat → (Nat → Nat → Int32) → Nat → Nat → Nat → Nat → Int32 → Prop) : Prop := (k 0 (g_mi (g_wi (g_wi (g_wi (g_wi (mX4_tellLaw M a0 a2 (g_mi M a2 5)) (a0 + 1) 0 (-1)) (a0 + 1) 1 (-1)) (a0 + 1) 5 (-1)) (a0 + 1) 2 x3)) a0 a1 n1 m1 0)
def bX4_isBarred_40 (N : Nat) (M : gM) (f : Nat → Nat → Int32) (a0 : Nat) (a1 : Nat) (n1 : Nat) (m1 : Nat) (x4 : Int32) (k : Nat → (Nat → Nat → Int32) → Nat → Nat → Nat → Nat → Int32 → Int32 × (Nat → Nat → Int32)) : Int32 × (Nat → Nat → Int32) := (if (g_mi (g_wm M f (g_ml M)) a1 6) ≤ x4 then (0, g_mi (g_wm M f (g_ml M))) else (if (g_mi (g_wm M f (g_ml M)) (a1 + 1) (x4).toNatClampNeg) = 6 then (if (fX4_valueOf N (g_wm M f (g_ml M)) a0 a1 n1 m1 (g_mi (g_wm M f (g_ml M)) (a1 + 4) (x4).toNatClampNeg)) = 1 then (1, g_mi (mX4_valueOf N (g_wm M f (g_ml M)) a0 a1 n1 m1 (g_mi (g_wm M f (g_ml M)) (a1 + 4) (x4).toNatClampNeg))) else (k 0 (g_mi (mX4_valueOf N (g_wm M f (g_ml M)) a0 a1 n1 m1 (g_mi (g_wm M f (g_ml M)) (a1 + 4) (x4).toNatClampNeg))) a0 a1 n1 m1 (x4 + 1))) else (k 0 (g_mi (g_wm M f (g_ml M))) a0 a1 n1 m1 (x4 + 1))))
def eX4_isBarred_40 (N : Nat) (M : gM) (f : Nat → Nat → Int32) (a0 : Nat) (a1 : Nat) (n1 : Nat) (m1 : Nat) (x4 : Int32) (k : Nat → (Nat → Nat → Int32) → Nat → Nat → Nat → Nat → Int32 → Prop) : Prop := ((¬ (g_mi (g_wm M f (g_ml M)) a1 6) ≤ x4) → vp_in (x4) n1) ∧ ((¬ (g_mi (g_wm M f (g_ml M)) a1 6) ≤ x4) → ((g_mi (g_wm M f (g_ml M)) (a1 + 1) (x4).toNatClampNeg) = 6) → vp_in (x4) n1) ∧ ((¬ (g_mi (g_wm M f (g_ml M)) a1 6) ≤ x4) → ((g_mi (g_wm M f (g_ml M)) (a1 + 1) (x4).toNatClampNeg) = 6) → EX4_valueOf N (g_wm M f (g_ml M)) a0 a1 n1 m1 (g_mi (g_wm M f (g_ml M)) (a1 + 4) (x4).toNatClampNeg)) ∧ (if (g_mi (g_wm M f (g_ml M)) a1 6) ≤ x4 then True else (if (g_mi (g_wm M f (g_ml M)) (a1 + 1) (x4).toNatClampNeg) = 6 then (if (fX4_valueOf N (g_wm M f (g_ml M)) a0 a1 n1 m1 (g_mi (g_wm M f (g_ml M)) (a1 + 4) (x4).toNatClampNeg)) = 1 then True else (k 0 (g_mi (mX4_valueOf N (g_wm M f (g_ml M)) a0 a1 n1 m1 (g_mi (g_wm M f (g_ml M)) (a1 + 4) (x4).toNatClampNeg))) a0 a1 n1 m1 (x4 + 1))) else (k 0 (g_mi (g_wm M f (g_ml M))) a0 a1 n1 m1 (x4 + 1))))
def wX4_isBarred (N : Nat) (M : gM) : Nat → Nat → (Nat → Nat → Int32) → Nat → Nat → Nat → Nat → Int32 → Int32 × (Nat → Nat → Int32)
  | 0, _, f, _, _, _, _, _ => (0, f)
  | n + 1, h, f, a0, a1, n1, m1, x4 => bX4_isBarred_40 N M f a0 a1 n1 m1 x4 (wX4_isBarred N M n)
def vX4_isBarred (N : Nat) (M : gM) : Nat → Nat → (Nat → Nat → Int32) → Nat → Nat → Nat → Nat → Int32 → Prop
  | 0, _, _, _, _, _, _, _ => False
  | n + 1, h, f, a0, a1, n1, m1, x4 => eX4_isBarred_40 N M f a0 a1 n1 m1 x4 (vX4_isBarred N M n)
set_option maxRecDepth 10000 in
theorem lpX4_isBarred {X : gX} {d mc ms : Nat} {Q : Option Value → gM → Prop} (N : Nat) (M : gM) : ∀ n : Nat, (∀ (f : Nat → Nat → Int32) (a0 : Nat) (a1 : Nat) (n1 : Nat) (m1 : Nat) (x4 : Int32), Su M a0 → Tx M a1 n1 m1 → vX4_isBarred N M n 0 f a0 a1 n1 m1 x4 → Q (some (.int (wX4_isBarred N M n 0 f a0 a1 n1 m1 x4).1)) (g_wm M (wX4_isBarred N M n 0 f a0 a1 n1 m1 x4).2 (g_ml M)) → Go X (d + 2) mc ms kX4_isBarred Q 40 [(0, .ref a0), (1, .ref a1), (4, .int (x4))] [] (g_wm M f (g_ml M)) 0 0) := by
  intro n
  induction n with
  | zero => exact fun _ _ _ _ _ _ _ _ h _ => h.elim
  | succ n ih =>
    intro f a0 a1 n1 m1 x4 s0 s1 hT hQ
    rw [vX4_isBarred] at hT
    rw [wX4_isBarred] at hQ
    unfold bX4_isBarred_40 at hQ
    unfold eX4_isBarred_40 at hT
    obtain ⟨b4, b6, b7, hT⟩ := hT
    exact sX4_isBarred_40 (M := (g_wm M f (g_ml M))) (Su.sm Sm.wm s0) (Tx.sm Sm.wm s1) (fun c1 => by simp only [if_pos c1] at hQ; exact Sm.q Sm.wm hQ) (Nat.zero_le _) (Nat.zero_le _) b4 (fun c1 c2 => by simp only [if_neg c1, if_neg c2] at hQ hT; exact Sm.g Sm.wm (ih _ _ _ _ _ _ (s0) (s1) hT hQ)) b6 b7 (fun c1 c2 c3 => by simp only [if_neg c1, if_pos c2, if_neg c3] at hQ hT; exact Sm.g (Sm.tr Sm.wm (Sm.tr Sm.rf jX4_valueOf)) (ih _ _ _ _ _ _ (s0) (s1) hT hQ)) (fun c1 c2 c3 => by simp only [if_neg c1, if_pos c2, if_pos c3] at hQ; exact Sm.q (Sm.tr Sm.wm (Sm.tr Sm.rf jX4_valueOf)) hQ)
def fX4_isBarred (N : Nat) (M : gM) (a0 : Nat) (a1 : Nat) (n1 : Nat) (m1 : Nat) (a2 : Nat) (x3 : Int32) : Int32 := (bX4_isBarred_0 N M a0 a1 n1 m1 a2 x3 (wX4_isBarred N M N)).1
def mX4_isBarred (N : Nat) (M : gM) (a0 : Nat) (a1 : Nat) (n1 : Nat) (m1 : Nat) (a2 : Nat) (x3 : Int32) : gM := g_wm M (bX4_isBarred_0 N M a0 a1 n1 m1 a2 x3 (wX4_isBarred N M N)).2 (g_ml M)
theorem jX4_isBarred {N : Nat} {M : gM} {a0 : Nat} {a1 : Nat} {n1 : Nat} {m1 : Nat} {a2 : Nat} {x3 : Int32} : Sm M (mX4_isBarred N M a0 a1 n1 m1 a2 x3) := Sm.wm
def EX4_isBarred (N : Nat) (M : gM) (a0 : Nat) (a1 : Nat) (n1 : Nat) (m1 : Nat) (a2 : Nat) (x3 : Int32) : Prop := eX4_isBarred_0 N M a0 a1 n1 m1 a2 x3 (vX4_isBarred N M N)
theorem tX4_isBarred {N : Nat} {X : gX} {d mc ms : Nat} {Q : Option Value → gM → Prop} {M : gM} {a0 : Nat} {a1 : Nat} {n1 m1 : Nat} {a2 : Nat} {x3 : Int32} (s0 : Su M a0) (s1 : Tx M a1 n1 m1) (s2 : St M a2) (hE : EX4_isBarred N M a0 a1 n1 m1 a2 x3) (hQ : Q (some (.int (fX4_isBarred N M a0 a1 n1 m1 a2 x3))) (mX4_isBarred N M a0 a1 n1 m1 a2 x3)) : Cn X (d + 2) mc ms kX4_isBarred [.ref a0, .ref a1, .ref a2, .int (x3)] M Q := by
  unfold fX4_isBarred mX4_isBarred at hQ
  unfold bX4_isBarred_0 at hQ
  unfold EX4_isBarred eX4_isBarred_0 at hE
  have hT := hE
  have ih := lpX4_isBarred (X := X) (d := d) (mc := mc) (ms := ms) (Q := Q) N M N
  exact sX4_isBarred_0 s0 s1 s2 (Sm.g (Sm.wi (Sm.wi (Sm.wi (Sm.wi (Sm.tr Sm.rf jX4_tellLaw))))) (ih _ _ _ _ _ _ (s0) (s1) hT hQ))
/-! X8_canBe  -/
set_option maxRecDepth 4000 in
theorem sX8_canBe_0 {N : Nat} {X : gX} {d mc ms : Nat} {Q : Option Value → gM → Prop} {M : gM} {a0 : Nat} {x1 : Int32} (s0 : Ph M a0) (b1 : EX8_collectPossible N M a0) (h2 : (¬ x1 = (-1)) → (x1 < 0) → Q (some (.int ((-1)))) (mX8_collectPossible N M a0)) (h3 : (¬ x1 = (-1)) → (¬ x1 < 0) → ((fX8_collectPossible N M a0) ≤ x1) → Q (some (.int ((-1)))) (mX8_collectPossible N M a0)) (b4 : (¬ x1 = (-1)) → (¬ x1 < 0) → (¬ (fX8_collectPossible N M a0) ≤ x1) → vp_in (x1) 30) (h5 : (¬ x1 = (-1)) → (¬ x1 < 0) → (¬ (fX8_collectPossible N M a0) ≤ x1) → Q (some (.int ((g_mi (mX8_collectPossible N M a0) (a0 + 305) (x1).toNatClampNeg)))) (mX8_collectPossible N M a0)) (h6 : (x1 = (-1)) → Q (some (.int ((fX8_collectPossible N M a0)))) (mX8_collectPossible N M a0)) : Cn X (d + 4) mc ms kX8_canBe [.ref a0, .int (x1)] M Q := by
  refine g_meth rfl rfl (Nat.le_of_ble_eq_true rfl) rfl ?_
  refine g_aload_n 0 1 dX8_canBe_0 rfl rfl ?_
  refine g_callV (mc1 := 0) (ms1 := 0) (b := a0) (rest := []) (av := []) kX8_collectPossible 4 dX8_canBe_1 rfl rfl mbX8_294 imX8_collectPossible seX8_collectPossible gcl8.1 s0.1 (Nat.le_of_ble_eq_true rfl) (Nat.zero_le _) (Nat.zero_le _) (tX8_collectPossible (N := N) s0 (b1) ?_)
  show Go X (d + 4) mc ms kX8_canBe Q 4 [(0, .ref a0), (1, .int (x1))] [.int ((fX8_collectPossible N M a0))] (mX8_collectPossible N M a0) 0 0
  refine g_istore_n 5 [(2, .int ((fX8_collectPossible N M a0))), (0, .ref a0), (1, .int (x1))] dX8_canBe_4 rfl (Nat.le_of_ble_eq_true rfl) rfl ?_
  refine g_iload_n 2 6 dX8_canBe_5 rfl rfl ?_
  refine g_iconst ((-1)) 7 dX8_canBe_6 rfl rfl ?_
  refine g_icmp_ne 12 10 dX8_canBe_7 rfl rfl (fun c1 => ?_) (fun c1 => ?_)
  · skip
    refine g_iload_n 2 13 dX8_canBe_12 rfl rfl ?_
    refine g_if_lt 30 16 dX8_canBe_13 rfl rfl (fun c2 => ?_) (fun c2 => ?_)
    · skip
      refine g_iconst ((-1)) 31 dX8_canBe_30 rfl rfl ?_
      exact g_iret dX8_canBe_31 rfl (Nat.zero_le _) (Nat.zero_le _) (h2 c1 c2)
    · skip
      refine g_iload_n 2 17 dX8_canBe_16 rfl rfl ?_
      refine g_iload_n 0 18 dX8_canBe_17 rfl rfl ?_
      refine g_icmp_ge 30 21 dX8_canBe_18 rfl rfl (fun c3 => ?_) (fun c3 => ?_)
      · skip
        refine g_iconst ((-1)) 31 dX8_canBe_30 rfl rfl ?_
        exact g_iret dX8_canBe_31 rfl (Nat.zero_le _) (Nat.zero_le _) (h3 c1 c2 c3)
      · skip
        refine g_aload_n 1 22 dX8_canBe_21 rfl rfl ?_
        refine g_getR 25 (a0 + 305) dX8_canBe_22 rfl flX8_81 (Sm.k (Sm.tr Sm.rf jX8_collectPossible) s0.1) (Sm.r (Sm.tr Sm.rf jX8_collectPossible) s0.2.2.2.2.2.2.2.2.2.2.2.2.2.2.2.2.2.2.2.2.2.2.2.2.2.1) ?_
        refine g_iload_n 2 26 dX8_canBe_25 rfl rfl ?_
        refine h_iaload 27 (x1).toNatClampNeg dX8_canBe_26 rfl rfl (Sm.k (Sm.tr Sm.rf jX8_collectPossible) s0.2.2.2.2.2.2.2.2.2.2.2.2.2.2.2.2.2.2.2.2.2.2.2.2.2.2.1) (b4 c1 c2 c3) ?_
        refine g_goto 31 dX8_canBe_27 rfl ?_
        exact g_iret dX8_canBe_31 rfl (Nat.zero_le _) (Nat.zero_le _) (h5 c1 c2 c3)
  · skip
    refine g_iload_n 0 11 dX8_canBe_10 rfl rfl ?_
    exact g_iret dX8_canBe_11 rfl (Nat.zero_le _) (Nat.zero_le _) (h6 c1)

def fX8_canBe (N : Nat) (M : gM) (a0 : Nat) (x1 : Int32) : Int32 := (if x1 = (-1) then (fX8_collectPossible N M a0) else (if x1 < 0 then (-1) else (if (fX8_collectPossible N M a0) ≤ x1 then (-1) else (g_mi (mX8_collectPossible N M a0) (a0 + 305) (x1).toNatClampNeg))))
def mX8_canBe (N : Nat) (M : gM) (a0 : Nat) (x1 : Int32) : gM := g_wm M (if x1 = (-1) then (g_mi (mX8_collectPossible N M a0)) else (if x1 < 0 then (g_mi (mX8_collectPossible N M a0)) else (if (fX8_collectPossible N M a0) ≤ x1 then (g_mi (mX8_collectPossible N M a0)) else (g_mi (mX8_collectPossible N M a0))))) (g_ml M)
def EX8_canBe (N : Nat) (M : gM) (a0 : Nat) (x1 : Int32) : Prop := (EX8_collectPossible N M a0) ∧ ((¬ x1 = (-1)) → (¬ x1 < 0) → (¬ (fX8_collectPossible N M a0) ≤ x1) → vp_in (x1) 30)
theorem jX8_canBe {N : Nat} {M : gM} {a0 : Nat} {x1 : Int32} : Sm M (mX8_canBe N M a0 x1) := Sm.wm
theorem tX8_canBe {N : Nat} {X : gX} {d mc ms : Nat} {Q : Option Value → gM → Prop} {M : gM} {a0 : Nat} {x1 : Int32} (s0 : Ph M a0) (hE : EX8_canBe N M a0 x1) (hQ : Q (some (.int (fX8_canBe N M a0 x1))) (mX8_canBe N M a0 x1)) : Cn X (d + 4) mc ms kX8_canBe [.ref a0, .int (x1)] M Q := by
  unfold fX8_canBe mX8_canBe at hQ
  obtain ⟨b1, b4⟩ := hE
  exact sX8_canBe_0 s0 b1 (fun c1 c2 => by simp only [if_neg c1, if_pos c2] at hQ; exact Sm.q (Sm.tr Sm.rf jX8_collectPossible) hQ) (fun c1 c2 c3 => by simp only [if_neg c1, if_neg c2, if_pos c3] at hQ; exact Sm.q (Sm.tr Sm.rf jX8_collectPossible) hQ) b4 (fun c1 c2 c3 => by simp only [if_neg c1, if_neg c2, if_neg c3] at hQ; exact Sm.q (Sm.tr Sm.rf jX8_collectPossible) hQ) (fun c1 => by simp only [if_pos c1] at hQ; exact Sm.q (Sm.tr Sm.rf jX8_collectPossible) hQ)
/-! X8_ask  -/
set_option maxRecDepth 4000 in
theorem sX8_ask_0 {N : Nat} {X : gX} {d mc ms : Nat} {Q : Option Value → gM → Prop} {M : gM} {a0 : Nat} {x1 : Int32} (s0 : Ph M a0) (b1 : EX8_collectPossible N M a0) (h2 : ((fX8_collectPossible N M a0) = 0) → Q (some (.int ((-1)))) (mX8_collectPossible N M a0)) (h3 : (¬ (fX8_collectPossible N M a0) = 0) → (x1 < 0) → Q (some (.int ((-1)))) (mX8_collectPossible N M a0)) (h4 : (¬ (fX8_collectPossible N M a0) = 0) → (¬ x1 < 0) → (x1 ≤ 1) → Go X (d + 4) mc ms kX8_ask Q 38 [(0, .ref a0), (1, .int (x1)), (2, .int ((fX8_collectPossible N M a0))), (3, .ref ((a0 + 1) + 1)), (4, .int (0)), (5, .int (31)), (6, .int (0))] [] (mX8_collectPossible N M a0) 0 0) (h5 : (¬ (fX8_collectPossible N M a0) = 0) → (¬ x1 < 0) → (¬ x1 ≤ 1) → Q (some (.int ((-1)))) (mX8_collectPossible N M a0)) : Cn X (d + 4) mc ms kX8_ask [.ref a0, .int (x1)] M Q := by
  refine g_meth rfl rfl (Nat.le_of_ble_eq_true rfl) rfl ?_
  refine g_aload_n 0 1 dX8_ask_0 rfl rfl ?_
  refine g_callV (mc1 := 0) (ms1 := 0) (b := a0) (rest := []) (av := []) kX8_collectPossible 4 dX8_ask_1 rfl rfl mbX8_294 imX8_collectPossible seX8_collectPossible gcl8.1 s0.1 (Nat.le_of_ble_eq_true rfl) (Nat.zero_le _) (Nat.zero_le _) (tX8_collectPossible (N := N) s0 (b1) ?_)
  show Go X (d + 4) mc ms kX8_ask Q 4 [(0, .ref a0), (1, .int (x1))] [.int ((fX8_collectPossible N M a0))] (mX8_collectPossible N M a0) 0 0
  refine g_istore_n 5 [(2, .int ((fX8_collectPossible N M a0))), (0, .ref a0), (1, .int (x1))] dX8_ask_4 rfl (Nat.le_of_ble_eq_true rfl) rfl ?_
  refine g_iload_n 0 6 dX8_ask_5 rfl rfl ?_
  refine g_if_eq 18 9 dX8_ask_6 rfl rfl (fun c1 => ?_) (fun c1 => ?_)
  · skip
    refine g_iconst ((-1)) 19 dX8_ask_18 rfl rfl ?_
    exact g_iret dX8_ask_19 rfl (Nat.zero_le _) (Nat.zero_le _) (h2 c1)
  · skip
    refine g_iload_n 2 10 dX8_ask_9 rfl rfl ?_
    refine g_if_lt 18 13 dX8_ask_10 rfl rfl (fun c2 => ?_) (fun c2 => ?_)
    · skip
      refine g_iconst ((-1)) 19 dX8_ask_18 rfl rfl ?_
      exact g_iret dX8_ask_19 rfl (Nat.zero_le _) (Nat.zero_le _) (h3 c1 c2)
    · skip
      refine g_iload_n 2 14 dX8_ask_13 rfl rfl ?_
      refine g_iconst (1) 15 dX8_ask_14 rfl rfl ?_
      refine g_icmp_le 20 18 dX8_ask_15 rfl rfl (fun c3 => ?_) (fun c3 => ?_)
      · skip
        refine g_aload_n 1 21 dX8_ask_20 rfl rfl ?_
        refine g_getR 24 (a0 + 1) dX8_ask_21 rfl flX8_14 (Sm.k (Sm.tr Sm.rf jX8_collectPossible) s0.1) (Sm.r (Sm.tr Sm.rf jX8_collectPossible) s0.2.1) ?_
        refine g_getR 27 ((a0 + 1) + 1) dX8_ask_24 rfl flX8_102 (Sm.k (Sm.tr Sm.rf jX8_collectPossible) s0.2.2.1.1) (Sm.r (Sm.tr Sm.rf jX8_collectPossible) s0.2.2.1.2.1) ?_
        refine g_astore_n 28 [(3, .ref ((a0 + 1) + 1)), (2, .int ((fX8_collectPossible N M a0))), (0, .ref a0), (1, .int (x1))] dX8_ask_27 rfl (Nat.le_of_ble_eq_true rfl) rfl ?_
        refine g_iconst (0) 29 dX8_ask_28 rfl rfl ?_
        refine g_istore 31 [(4, .int (0)), (3, .ref ((a0 + 1) + 1)), (2, .int ((fX8_collectPossible N M a0))), (0, .ref a0), (1, .int (x1))] dX8_ask_29 rfl (Nat.le_of_ble_eq_true rfl) rfl ?_
        refine g_bipush (31) 33 dX8_ask_31 rfl rfl ?_
        refine g_istore 35 [(5, .int (31)), (4, .int (0)), (3, .ref ((a0 + 1) + 1)), (2, .int ((fX8_collectPossible N M a0))), (0, .ref a0), (1, .int (x1))] dX8_ask_33 rfl (Nat.le_of_ble_eq_true rfl) rfl ?_
        refine g_iconst (0) 36 dX8_ask_35 rfl rfl ?_
        refine g_istore 38 [(6, .int (0)), (5, .int (31)), (4, .int (0)), (3, .ref ((a0 + 1) + 1)), (2, .int ((fX8_collectPossible N M a0))), (0, .ref a0), (1, .int (x1))] dX8_ask_36 rfl (Nat.le_of_ble_eq_true rfl) rfl ?_
        exact g_sub [5, 6, 4, 3, 2, 1, 0] _ rfl (h4 c1 c2 c3)
      · skip
        refine g_iconst ((-1)) 19 dX8_ask_18 rfl rfl ?_
        exact g_iret dX8_ask_19 rfl (Nat.zero_le _) (Nat.zero_le _) (h5 c1 c2 c3)

set_option maxRecDepth 4000 in
theorem sX8_ask_38 {X : gX} {d mc ms : Nat} {Q : Option Value → gM → Prop} {M : gM} {c z : Nat} {a0 : Nat} {x1 : Int32} {x2 : Int32} {a3 : Nat} {x4 : Int32} {x5 : Int32} {x6 : Int32} (s0 : Ph M a0) (s3 : St M a3) (h1 : ((3 * (g_mi M a3 4)) ≤ x6) → (¬ x1 = 0) → Q (some (.int (x5))) M) (w2 : c ≤ mc) (w3 : z ≤ ms) (h4 : ((3 * (g_mi M a3 4)) ≤ x6) → (x1 = 0) → Q (some (.int (x4))) M) (h5 : (¬ (3 * (g_mi M a3 4)) ≤ x6) → Go X (d + 4) mc ms kX8_ask Q 55 [(0, .ref a0), (1, .int (x1)), (2, .int (x2)), (3, .ref a3), (4, .int (x4)), (5, .int (x5)), (6, .int (x6)), (7, .int (0)), (8, .int (0))] [] M c z) : Go X (d + 4) mc ms kX8_ask Q 38 [(0, .ref a0), (1, .int (x1)), (2, .int (x2)), (3, .ref a3), (4, .int (x4)), (5, .int (x5)), (6, .int (x6))] [] M c z := by
  refine g_iload 6 40 dX8_ask_38 rfl rfl ?_
  refine g_iconst (3) 41 dX8_ask_40 rfl rfl ?_
  refine g_aload_n 3 42 dX8_ask_41 rfl rfl ?_
  refine g_getI 45 dX8_ask_42 rfl flX8_119 s3.1 ?_
  refine g_imul 46 dX8_ask_45 rfl ?_
  refine g_icmp_ge 118 49 dX8_ask_46 rfl rfl (fun c1 => ?_) (fun c1 => ?_)
  · skip
    refine g_iload_n 1 119 dX8_ask_118 rfl rfl ?_
    refine g_if_ne 127 122 dX8_ask_119 rfl rfl (fun c2 => ?_) (fun c2 => ?_)
    · skip
      refine g_iload 5 129 dX8_ask_127 rfl rfl ?_
      exact g_iret dX8_ask_129 rfl (w2) (w3) (h1 c1 c2)
    · skip
      refine g_iload 4 124 dX8_ask_122 rfl rfl ?_
      refine g_goto 129 dX8_ask_124 rfl ?_
      exact g_iret dX8_ask_129 rfl (w2) (w3) (h4 c1 c2)
  · skip
    refine g_iconst (0) 50 dX8_ask_49 rfl rfl ?_
    refine g_istore 52 [(7, .int (0)), (0, .ref a0), (1, .int (x1)), (2, .int (x2)), (3, .ref a3), (4, .int (x4)), (5, .int (x5)), (6, .int (x6))] dX8_ask_50 rfl (Nat.le_of_ble_eq_true rfl) rfl ?_
    refine g_iconst (0) 53 dX8_ask_52 rfl rfl ?_
    refine g_istore 55 [(8, .int (0)), (7, .int (0)), (0, .ref a0), (1, .int (x1)), (2, .int (x2)), (3, .ref a3), (4, .int (x4)), (5, .int (x5)), (6, .int (x6))] dX8_ask_53 rfl (Nat.le_of_ble_eq_true rfl) rfl ?_
    exact g_sub [2, 3, 4, 5, 6, 7, 8, 1, 0] _ rfl (h5 c1)

set_option maxRecDepth 4000 in
theorem sX8_ask_55 {X : gX} {d mc ms : Nat} {Q : Option Value → gM → Prop} {M : gM} {c z : Nat} {a0 : Nat} {x1 : Int32} {x2 : Int32} {a3 : Nat} {x4 : Int32} {x5 : Int32} {x6 : Int32} {x7 : Int32} {x8 : Int32} (s0 : Ph M a0) (s3 : St M a3) (w1 : c ≤ mc) (w2 : z ≤ ms) (h3 : (x2 ≤ x8) → (x5 ≤ (i_max x7 (x2 - x7))) → Go X (d + 4) mc ms kX8_ask Q 38 [(0, .ref a0), (1, .int (x1)), (2, .int (x2)), (3, .ref a3), (4, .int (x4)), (5, .int (x5)), (6, .int ((x6 + 1)))] [] M c z) (h4 : (x2 ≤ x8) → (¬ x5 ≤ (i_max x7 (x2 - x7))) → Go X (d + 4) mc ms kX8_ask Q 38 [(0, .ref a0), (1, .int (x1)), (2, .int (x2)), (3, .ref a3), (4, .int (x6)), (5, .int ((i_max x7 (x2 - x7)))), (6, .int ((x6 + 1)))] [] M c z) (b5 : (¬ x2 ≤ x8) → vp_in (x8) 30) (b6 : (¬ x2 ≤ x8) → EX3_keyHas M a3 (g_mi M (a0 + 305) (x8).toNatClampNeg) x6) (h7 : (¬ x2 ≤ x8) → ((fX3_keyHas M a3 (g_mi M (a0 + 305) (x8).toNatClampNeg) x6) = 0) → Go X (d + 4) mc ms kX8_ask Q 55 [(0, .ref a0), (1, .int (x1)), (2, .int (x2)), (3, .ref a3), (4, .int (x4)), (5, .int (x5)), (6, .int (x6)), (7, .int (x7)), (8, .int ((x8 + 1)))] [] M c z) (h8 : (¬ x2 ≤ x8) → (¬ (fX3_keyHas M a3 (g_mi M (a0 + 305) (x8).toNatClampNeg) x6) = 0) → Go X (d + 4) mc ms kX8_ask Q 55 [(0, .ref a0), (1, .int (x1)), (2, .int (x2)), (3, .ref a3), (4, .int (x4)), (5, .int (x5)), (6, .int (x6)), (7, .int ((x7 + 1))), (8, .int ((x8 + 1)))] [] M c z) : Go X (d + 4) mc ms kX8_ask Q 55 [(0, .ref a0), (1, .int (x1)), (2, .int (x2)), (3, .ref a3), (4, .int (x4)), (5, .int (x5)), (6, .int (x6)), (7, .int (x7)), (8, .int (x8))] [] M c z := by
  refine g_iload 8 57 dX8_ask_55 rfl rfl ?_
  refine g_iload_n 2 58 dX8_ask_57 rfl rfl ?_
  refine g_icmp_ge 86 61 dX8_ask_58 rfl rfl (fun c1 => ?_) (fun c1 => ?_)
  · skip
    refine g_iload 7 88 dX8_ask_86 rfl rfl ?_
    refine g_iload_n 2 89 dX8_ask_88 rfl rfl ?_
    refine g_iload 7 91 dX8_ask_89 rfl rfl ?_
    refine g_isub 92 dX8_ask_91 rfl ?_
    refine h_max 95 dX8_ask_92 rfl mbX8_302 smJ9_max_7cf53 (Nat.le_of_ble_eq_true rfl) (w1) (w2) ?_
    refine g_istore 97 [(8, .int ((i_max x7 (x2 - x7)))), (0, .ref a0), (1, .int (x1)), (2, .int (x2)), (3, .ref a3), (4, .int (x4)), (5, .int (x5)), (6, .int (x6)), (7, .int (x7))] dX8_ask_95 rfl (Nat.le_of_ble_eq_true rfl) rfl ?_
    refine g_iload 0 99 dX8_ask_97 rfl rfl ?_
    refine g_iload 6 101 dX8_ask_99 rfl rfl ?_
    refine g_icmp_ge 112 104 dX8_ask_101 rfl rfl (fun c2 => ?_) (fun c2 => ?_)
    · skip
      refine g_iinc _ 7 115 [(6, .int ((x6 + 1))), (8, .int ((i_max x7 (x2 - x7)))), (0, .ref a0), (1, .int (x1)), (2, .int (x2)), (3, .ref a3), (4, .int (x4)), (5, .int (x5)), (7, .int (x7))] dX8_ask_112 rfl rfl rfl (Nat.le_of_ble_eq_true rfl) rfl ?_
      refine g_goto 38 dX8_ask_115 rfl ?_
      exact g_sub [2, 3, 4, 5, 6, 7, 0] _ rfl (h3 c1 c2)
    · skip
      refine g_iload 0 106 dX8_ask_104 rfl rfl ?_
      refine g_istore 108 [(5, .int ((i_max x7 (x2 - x7)))), (8, .int ((i_max x7 (x2 - x7)))), (0, .ref a0), (1, .int (x1)), (2, .int (x2)), (3, .ref a3), (4, .int (x4)), (6, .int (x6)), (7, .int (x7))] dX8_ask_106 rfl (Nat.le_of_ble_eq_true rfl) rfl ?_
      refine g_iload 7 110 dX8_ask_108 rfl rfl ?_
      refine g_istore 112 [(4, .int (x6)), (5, .int ((i_max x7 (x2 - x7)))), (8, .int ((i_max x7 (x2 - x7)))), (0, .ref a0), (1, .int (x1)), (2, .int (x2)), (3, .ref a3), (6, .int (x6)), (7, .int (x7))] dX8_ask_110 rfl (Nat.le_of_ble_eq_true rfl) rfl ?_
      refine g_iinc _ 7 115 [(6, .int ((x6 + 1))), (4, .int (x6)), (5, .int ((i_max x7 (x2 - x7)))), (8, .int ((i_max x7 (x2 - x7)))), (0, .ref a0), (1, .int (x1)), (2, .int (x2)), (3, .ref a3), (7, .int (x7))] dX8_ask_112 rfl rfl rfl (Nat.le_of_ble_eq_true rfl) rfl ?_
      refine g_goto 38 dX8_ask_115 rfl ?_
      exact g_sub [4, 5, 6, 7, 1, 2, 0] _ rfl (h4 c1 c2)
  · skip
    refine g_aload_n 3 62 dX8_ask_61 rfl rfl ?_
    refine g_aload_n 0 63 dX8_ask_62 rfl rfl ?_
    refine g_getR 66 (a0 + 305) dX8_ask_63 rfl flX8_81 s0.1 s0.2.2.2.2.2.2.2.2.2.2.2.2.2.2.2.2.2.2.2.2.2.2.2.2.2.1 ?_
    refine g_iload 8 68 dX8_ask_66 rfl rfl ?_
    refine h_iaload 69 (x8).toNatClampNeg dX8_ask_68 rfl rfl s0.2.2.2.2.2.2.2.2.2.2.2.2.2.2.2.2.2.2.2.2.2.2.2.2.2.2.1 (b5 c1) ?_
    refine g_iload 6 71 dX8_ask_69 rfl rfl ?_
    refine g_callV (mc1 := 0) (ms1 := 0) (b := a3) (rest := []) (av := [.int ((g_mi M (a0 + 305) (x8).toNatClampNeg)), .int (x6)]) kX3_keyHas 74 dX8_ask_71 rfl rfl mbX8_298 imX3_keyHas seX3_keyHas gcl3.1 s3.1 (Nat.le_of_ble_eq_true rfl) (w1) (w2) (tX3_keyHas s3 (b6 c1) ?_)
    show Go X (d + 4) mc ms kX8_ask Q 74 [(0, .ref a0), (1, .int (x1)), (2, .int (x2)), (3, .ref a3), (4, .int (x4)), (5, .int (x5)), (6, .int (x6)), (7, .int (x7)), (8, .int (x8))] [.int ((fX3_keyHas M a3 (g_mi M (a0 + 305) (x8).toNatClampNeg) x6))] M c z
    refine g_if_eq 80 77 dX8_ask_74 rfl rfl (fun c3 => ?_) (fun c3 => ?_)
    · skip
      refine g_iinc _ 8 83 [(8, .int ((x8 + 1))), (0, .ref a0), (1, .int (x1)), (2, .int (x2)), (3, .ref a3), (4, .int (x4)), (5, .int (x5)), (6, .int (x6)), (7, .int (x7))] dX8_ask_80 rfl rfl rfl (Nat.le_of_ble_eq_true rfl) rfl ?_
      refine g_goto 55 dX8_ask_83 rfl ?_
      exact g_sub [1, 2, 3, 4, 5, 6, 7, 8, 0] _ rfl (h7 c1 c3)
    · skip
      refine g_iinc _ 7 80 [(7, .int ((x7 + 1))), (0, .ref a0), (1, .int (x1)), (2, .int (x2)), (3, .ref a3), (4, .int (x4)), (5, .int (x5)), (6, .int (x6)), (8, .int (x8))] dX8_ask_77 rfl rfl rfl (Nat.le_of_ble_eq_true rfl) rfl ?_
      refine g_iinc _ 8 83 [(8, .int ((x8 + 1))), (7, .int ((x7 + 1))), (0, .ref a0), (1, .int (x1)), (2, .int (x2)), (3, .ref a3), (4, .int (x4)), (5, .int (x5)), (6, .int (x6))] dX8_ask_80 rfl rfl rfl (Nat.le_of_ble_eq_true rfl) rfl ?_
      refine g_goto 55 dX8_ask_83 rfl ?_
      exact g_sub [2, 3, 4, 5, 6, 7, 8, 1, 0] _ rfl (h8 c1 c3)

def bX8_ask_0 (N : Nat) (M : gM) (a0 : Nat) (x1 : Int32) (k : Nat → (Nat → Nat → Int32) → Nat → Int32 → Int32 → Nat → Int32 → Int32 → Int32 → Int32 → Int32 → Int32 × (Nat → Nat → Int32)) : Int32 × (Nat → Nat → Int32) := (if (fX8_collectPossible N M a0) = 0 then ((-1), g_mi (mX8_collectPossible N M a0)) else (if x1 < 0 then ((-1), g_mi (mX8_collectPossible N M a0)) else (if x1 ≤ 1 then (k 0 (g_mi (mX8_collectPossible N M a0)) a0 x1 (fX8_collectPossible N M a0) ((a0 + 1) + 1) 0 31 0 0 0) else ((-1), g_mi (mX8_collectPossible N M a0)))))
def eX8_ask_0 (N : Nat) (M : gM) (a0 : Nat) (x1 : Int32) (k : Nat → (Nat → Nat → Int32) → Nat → Int32 → Int32 → Nat → Int32 → Int32 → Int32 → Int32 → Int32 → Prop) : Prop := (EX8_collectPossible N M a0) ∧ (if (fX8_collectPossible N M a0) = 0 then True else (if x1 < 0 then True else (if x1 ≤ 1 then (k 0 (g_mi (mX8_collectPossible N M a0)) a0 x1 (fX8_collectPossible N M a0) ((a0 + 1) + 1) 0 31 0 0 0) else True)))
def bX8_ask_38 (N : Nat) (M : gM) (f : Nat → Nat → Int32) (a0 : Nat) (x1 : Int32) (x2 : Int32) (a3 : Nat) (x4 : Int32) (x5 : Int32) (x6 : Int32) (k : Nat → (Nat → Nat → Int32) → Nat → Int32 → Int32 → Nat → Int32 → Int32 → Int32 → Int32 → Int32 → Int32 × (Nat → Nat → Int32)) : Int32 × (Nat → Nat → Int32) := (if (3 * (g_mi (g_wm M f (g_ml M)) a3 4)) ≤ x6 then (if x1 = 0 then (x4, g_mi (g_wm M f (g_ml M))) else (x5, g_mi (g_wm M f (g_ml M)))) else (k 1 (g_mi (g_wm M f (g_ml M))) a0 x1 x2 a3 x4 x5 x6 0 0))
def eX8_ask_38 (N : Nat) (M : gM) (f : Nat → Nat → Int32) (a0 : Nat) (x1 : Int32) (x2 : Int32) (a3 : Nat) (x4 : Int32) (x5 : Int32) (x6 : Int32) (k : Nat → (Nat → Nat → Int32) → Nat → Int32 → Int32 → Nat → Int32 → Int32 → Int32 → Int32 → Int32 → Prop) : Prop := (if (3 * (g_mi (g_wm M f (g_ml M)) a3 4)) ≤ x6 then (if x1 = 0 then True else True) else (k 1 (g_mi (g_wm M f (g_ml M))) a0 x1 x2 a3 x4 x5 x6 0 0))
def bX8_ask_55 (N : Nat) (M : gM) (f : Nat → Nat → Int32) (a0 : Nat) (x1 : Int32) (x2 : Int32) (a3 : Nat) (x4 : Int32) (x5 : Int32) (x6 : Int32) (x7 : Int32) (x8 : Int32) (k : Nat → (Nat → Nat → Int32) → Nat → Int32 → Int32 → Nat → Int32 → Int32 → Int32 → Int32 → Int32 → Int32 × (Nat → Nat → Int32)) : Int32 × (Nat → Nat → Int32) := (if x2 ≤ x8 then (if x5 ≤ (i_max x7 (x2 - x7)) then (k 0 (g_mi (g_wm M f (g_ml M))) a0 x1 x2 a3 x4 x5 (x6 + 1) 0 0) else (k 0 (g_mi (g_wm M f (g_ml M))) a0 x1 x2 a3 x6 (i_max x7 (x2 - x7)) (x6 + 1) 0 0)) else (if (fX3_keyHas (g_wm M f (g_ml M)) a3 (g_mi (g_wm M f (g_ml M)) (a0 + 305) (x8).toNatClampNeg) x6) = 0 then (k 1 (g_mi (g_wm M f (g_ml M))) a0 x1 x2 a3 x4 x5 x6 x7 (x8 + 1)) else (k 1 (g_mi (g_wm M f (g_ml M))) a0 x1 x2 a3 x4 x5 x6 (x7 + 1) (x8 + 1))))
def eX8_ask_55 (N : Nat) (M : gM) (f : Nat → Nat → Int32) (a0 : Nat) (x1 : Int32) (x2 : Int32) (a3 : Nat) (x4 : Int32) (x5 : Int32) (x6 : Int32) (x7 : Int32) (x8 : Int32) (k : Nat → (Nat → Nat → Int32) → Nat → Int32 → Int32 → Nat → Int32 → Int32 → Int32 → Int32 → Int32 → Prop) : Prop := ((¬ x2 ≤ x8) → vp_in (x8) 30) ∧ ((¬ x2 ≤ x8) → EX3_keyHas (g_wm M f (g_ml M)) a3 (g_mi (g_wm M f (g_ml M)) (a0 + 305) (x8).toNatClampNeg) x6) ∧ (if x2 ≤ x8 then (if x5 ≤ (i_max x7 (x2 - x7)) then (k 0 (g_mi (g_wm M f (g_ml M))) a0 x1 x2 a3 x4 x5 (x6 + 1) 0 0) else (k 0 (g_mi (g_wm M f (g_ml M))) a0 x1 x2 a3 x6 (i_max x7 (x2 - x7)) (x6 + 1) 0 0)) else (if (fX3_keyHas (g_wm M f (g_ml M)) a3 (g_mi (g_wm M f (g_ml M)) (a0 + 305) (x8).toNatClampNeg) x6) = 0 then (k 1 (g_mi (g_wm M f (g_ml M))) a0 x1 x2 a3 x4 x5 x6 x7 (x8 + 1)) else (k 1 (g_mi (g_wm M f (g_ml M))) a0 x1 x2 a3 x4 x5 x6 (x7 + 1) (x8 + 1))))
def wX8_ask (N : Nat) (M : gM) : Nat → Nat → (Nat → Nat → Int32) → Nat → Int32 → Int32 → Nat → Int32 → Int32 → Int32 → Int32 → Int32 → Int32 × (Nat → Nat → Int32)
  | 0, _, f, _, _, _, _, _, _, _, _, _ => (0, f)
  | n + 1, h, f, a0, x1, x2, a3, x4, x5, x6, x7, x8 => if h = 0 then bX8_ask_38 N M f a0 x1 x2 a3 x4 x5 x6 (wX8_ask N M n) else bX8_ask_55 N M f a0 x1 x2 a3 x4 x5 x6 x7 x8 (wX8_ask N M n)
def vX8_ask (N : Nat) (M : gM) : Nat → Nat → (Nat → Nat → Int32) → Nat → Int32 → Int32 → Nat → Int32 → Int32 → Int32 → Int32 → Int32 → Prop
  | 0, _, _, _, _, _, _, _, _, _, _, _ => False
  | n + 1, h, f, a0, x1, x2, a3, x4, x5, x6, x7, x8 => if h = 0 then eX8_ask_38 N M f a0 x1 x2 a3 x4 x5 x6 (vX8_ask N M n) else eX8_ask_55 N M f a0 x1 x2 a3 x4 x5 x6 x7 x8 (vX8_ask N M n)
set_option maxRecDepth 10000 in
theorem lpX8_ask {X : gX} {d mc ms : Nat} {Q : Option Value → gM → Prop} (N : Nat) (M : gM) : ∀ n : Nat, (∀ (f : Nat → Nat → Int32) (a0 : Nat) (x1 : Int32) (x2 : Int32) (a3 : Nat) (x4 : Int32) (x5 : Int32) (x6 : Int32) (x7 : Int32) (x8 : Int32), Ph M a0 → St M a3 → vX8_ask N M n 0 f a0 x1 x2 a3 x4 x5 x6 x7 x8 → Q (some (.int (wX8_ask N M n 0 f a0 x1 x2 a3 x4 x5 x6 x7 x8).1)) (g_wm M (wX8_ask N M n 0 f a0 x1 x2 a3 x4 x5 x6 x7 x8).2 (g_ml M)) → Go X (d + 4) mc ms kX8_ask Q 38 [(0, .ref a0), (1, .int (x1)), (2, .int (x2)), (3, .ref a3), (4, .int (x4)), (5, .int (x5)), (6, .int (x6))] [] (g_wm M f (g_ml M)) 0 0) ∧ (∀ (f : Nat → Nat → Int32) (a0 : Nat) (x1 : Int32) (x2 : Int32) (a3 : Nat) (x4 : Int32) (x5 : Int32) (x6 : Int32) (x7 : Int32) (x8 : Int32), Ph M a0 → St M a3 → vX8_ask N M n 1 f a0 x1 x2 a3 x4 x5 x6 x7 x8 → Q (some (.int (wX8_ask N M n 1 f a0 x1 x2 a3 x4 x5 x6 x7 x8).1)) (g_wm M (wX8_ask N M n 1 f a0 x1 x2 a3 x4 x5 x6 x7 x8).2 (g_ml M)) → Go X (d + 4) mc ms kX8_ask Q 55 [(0, .ref a0), (1, .int (x1)), (2, .int (x2)), (3, .ref a3), (4, .int (x4)), (5, .int (x5)), (6, .int (x6)), (7, .int (x7)), (8, .int (x8))] [] (g_wm M f (g_ml M)) 0 0) := by
  intro n
  induction n with
  | zero => exact ⟨fun _ _ _ _ _ _ _ _ _ _ _ _ h _ => h.elim, fun _ _ _ _ _ _ _ _ _ _ _ _ h _ => h.elim⟩
  | succ n ih =>
    refine ⟨?_, ?_⟩
    · intro f a0 x1 x2 a3 x4 x5 x6 x7 x8 s0 s3 hT hQ
      rw [vX8_ask, if_pos (show (0 : Nat) = 0 from rfl)] at hT
      rw [wX8_ask, if_pos (show (0 : Nat) = 0 from rfl)] at hQ
      unfold bX8_ask_38 at hQ
      unfold eX8_ask_38 at hT
      exact sX8_ask_38 (M := (g_wm M f (g_ml M))) (Ph.sm Sm.wm s0) (St.sm Sm.wm s3) (fun c1 c2 => by simp only [if_pos c1, if_neg c2] at hQ; exact Sm.q Sm.wm hQ) (Nat.zero_le _) (Nat.zero_le _) (fun c1 c2 => by simp only [if_pos c1, if_pos c2] at hQ; exact Sm.q Sm.wm hQ) (fun c1 => by simp only [if_neg c1] at hQ hT; exact Sm.g Sm.wm (ih.2 _ _ _ _ _ _ _ _ _ _ (s0) (s3) hT hQ))
    · intro f a0 x1 x2 a3 x4 x5 x6 x7 x8 s0 s3 hT hQ
      rw [vX8_ask, if_neg (show ¬ (1 : Nat) = 0 by decide)] at hT
      rw [wX8_ask, if_neg (show ¬ (1 : Nat) = 0 by decide)] at hQ
      unfold bX8_ask_55 at hQ
      unfold eX8_ask_55 at hT
      obtain ⟨b5, b6, hT⟩ := hT
      exact sX8_ask_55 (M := (g_wm M f (g_ml M))) (Ph.sm Sm.wm s0) (St.sm Sm.wm s3) (Nat.zero_le _) (Nat.zero_le _) (fun c1 c2 => by simp only [if_pos c1, if_pos c2] at hQ hT; exact Sm.g Sm.wm (ih.1 _ _ _ _ _ _ _ _ _ _ (s0) (s3) hT hQ)) (fun c1 c2 => by simp only [if_pos c1, if_neg c2] at hQ hT; exact Sm.g Sm.wm (ih.1 _ _ _ _ _ _ _ _ _ _ (s0) (s3) hT hQ)) b5 b6 (fun c1 c3 => by simp only [if_neg c1, if_pos c3] at hQ hT; exact Sm.g Sm.wm (ih.2 _ _ _ _ _ _ _ _ _ _ (s0) (s3) hT hQ)) (fun c1 c3 => by simp only [if_neg c1, if_neg c3] at hQ hT; exact Sm.g Sm.wm (ih.2 _ _ _ _ _ _ _ _ _ _ (s0) (s3) hT hQ))
def fX8_ask (N : Nat) (M : gM) (a0 : Nat) (x1 : Int32) : Int32 := (bX8_ask_0 N M a0 x1 (wX8_ask N M N)).1
def mX8_ask (N : Nat) (M : gM) (a0 : Nat) (x1 : Int32) : gM := g_wm M (bX8_ask_0 N M a0 x1 (wX8_ask N M N)).2 (g_ml M)
theorem jX8_ask {N : Nat} {M : gM} {a0 : Nat} {x1 : Int32} : Sm M (mX8_ask N M a0 x1) := Sm.wm
def EX8_ask (N : Nat) (M : gM) (a0 : Nat) (x1 : Int32) : Prop := eX8_ask_0 N M a0 x1 (vX8_ask N M N)
theorem tX8_ask {N : Nat} {X : gX} {d mc ms : Nat} {Q : Option Value → gM → Prop} {M : gM} {a0 : Nat} {x1 : Int32} (s0 : Ph M a0) (hE : EX8_ask N M a0 x1) (hQ : Q (some (.int (fX8_ask N M a0 x1))) (mX8_ask N M a0 x1)) : Cn X (d + 4) mc ms kX8_ask [.ref a0, .int (x1)] M Q := by
  unfold fX8_ask mX8_ask at hQ
  unfold bX8_ask_0 at hQ
  unfold EX8_ask eX8_ask_0 at hE
  obtain ⟨b1, hT⟩ := hE
  have ih := lpX8_ask (X := X) (d := d) (mc := mc) (ms := ms) (Q := Q) N M N
  exact sX8_ask_0 s0 b1 (fun c1 => by simp only [if_pos c1] at hQ; exact Sm.q (Sm.tr Sm.rf jX8_collectPossible) hQ) (fun c1 c2 => by simp only [if_neg c1, if_pos c2] at hQ; exact Sm.q (Sm.tr Sm.rf jX8_collectPossible) hQ) (fun c1 c2 c3 => by simp only [if_neg c1, if_neg c2, if_pos c3] at hQ hT; exact Sm.g (Sm.tr Sm.rf jX8_collectPossible) (ih.1 _ _ _ _ _ _ _ _ _ _ (s0) (s0.2.2.1.2.2.1) hT hQ)) (fun c1 c2 c3 => by simp only [if_neg c1, if_neg c2, if_neg c3] at hQ; exact Sm.q (Sm.tr Sm.rf jX8_collectPossible) hQ)
/-! X0_draft  -/
set_option maxRecDepth 4000 in
theorem sX0_draft_0 {X : gX} {d mc ms : Nat} {Q : Option Value → gM → Prop} {M : gM} {a0 : Nat} {a1 : Nat} (s0 : Hi M a0) (s1 : St M a1) (b1 : vp_in ((fX0_slot M a0 (g_mi M a0 3))) 17) (b2 : EX3_copyFrom M (a0 + 3 + 7 * ((fX0_slot M a0 (g_mi M a0 3))).toNatClampNeg) a1) (h3 : Q none (mX3_copyFrom M (a0 + 3 + 7 * ((fX0_slot M a0 (g_mi M a0 3))).toNatClampNeg) a1)) : Cn X (d + 3) mc ms kX0_draft [.ref a0, .ref a1] M Q := by
  refine g_meth rfl rfl (Nat.le_of_ble_eq_true rfl) rfl ?_
  refine g_aload_n 0 1 dX0_draft_0 rfl rfl ?_
  refine g_getR 4 (a0 + 1) dX0_draft_1 rfl flX0_13 s0.1 s0.2.1 ?_
  refine g_aload_n 0 5 dX0_draft_4 rfl rfl ?_
  refine g_aload_n 0 6 dX0_draft_5 rfl rfl ?_
  refine g_getI 9 dX0_draft_6 rfl flX0_22 s0.1 ?_
  refine g_callV (mc1 := 0) (ms1 := 0) (b := a0) (rest := [.ref (a0 + 1)]) (av := [.int ((g_mi M a0 3))]) kX0_slot 12 dX0_draft_9 rfl rfl mbX0_26 imX0_slot seX0_slot gcl0.1 s0.1 (Nat.le_of_ble_eq_true rfl) (Nat.zero_le _) (Nat.zero_le _) (tX0_slot s0 ?_)
  show Go X (d + 3) mc ms kX0_draft Q 12 [(0, .ref a0), (1, .ref a1)] [.int ((fX0_slot M a0 (g_mi M a0 3))), .ref (a0 + 1)] M 0 0
  refine h_aaloadR (t := 4) 13 ((fX0_slot M a0 (g_mi M a0 3))).toNatClampNeg dX0_draft_12 rfl rfl s0.2.2.1 (by decide) rfl (b1) (s0.2.2.2.2.2 _ (vp_lt (b1))).1 ?_
  refine g_astore_n 14 [(2, .ref (a0 + 3 + 7 * ((fX0_slot M a0 (g_mi M a0 3))).toNatClampNeg)), (0, .ref a0), (1, .ref a1)] dX0_draft_13 rfl (Nat.le_of_ble_eq_true rfl) rfl ?_
  refine g_aload_n 2 15 dX0_draft_14 rfl rfl ?_
  refine g_ifnull 18 dX0_draft_15 rfl ?_
  refine g_aload_n 0 19 dX0_draft_18 rfl rfl ?_
  refine g_ifnull 22 dX0_draft_19 rfl ?_
  refine g_aload_n 0 23 dX0_draft_22 rfl rfl ?_
  refine g_aload_n 2 24 dX0_draft_23 rfl rfl ?_
  refine g_callV (mc1 := 0) (ms1 := 0) (b := (a0 + 3 + 7 * ((fX0_slot M a0 (g_mi M a0 3))).toNatClampNeg)) (rest := []) (av := [.ref a1]) kX3_copyFrom 27 dX0_draft_24 rfl rfl mbX0_30 imX3_copyFrom seX3_copyFrom gcl3.1 (s0.2.2.2.2.2 _ (vp_lt (b1))).2.1 (Nat.le_of_ble_eq_true rfl) (Nat.zero_le _) (Nat.zero_le _) (tX3_copyFrom (s0.2.2.2.2.2 _ (vp_lt (b1))).2 s1 (b2) ?_)
  show Go X (d + 3) mc ms kX0_draft Q 27 [(2, .ref (a0 + 3 + 7 * ((fX0_slot M a0 (g_mi M a0 3))).toNatClampNeg)), (0, .ref a0), (1, .ref a1)] [] (mX3_copyFrom M (a0 + 3 + 7 * ((fX0_slot M a0 (g_mi M a0 3))).toNatClampNeg) a1) 0 0
  exact g_vret dX0_draft_27 rfl (Nat.zero_le _) (Nat.zero_le _) (h3)

def mX0_draft (M : gM) (a0 : Nat) (a1 : Nat) : gM := (mX3_copyFrom M (a0 + 3 + 7 * ((fX0_slot M a0 (g_mi M a0 3))).toNatClampNeg) a1)
def EX0_draft (M : gM) (a0 : Nat) (a1 : Nat) : Prop := (vp_in ((fX0_slot M a0 (g_mi M a0 3))) 17) ∧ (EX3_copyFrom M (a0 + 3 + 7 * ((fX0_slot M a0 (g_mi M a0 3))).toNatClampNeg) a1)
theorem jX0_draft {M : gM} {a0 : Nat} {a1 : Nat} : Sm M (mX0_draft M a0 a1) := (Sm.tr Sm.rf jX3_copyFrom)
theorem tX0_draft {X : gX} {d mc ms : Nat} {Q : Option Value → gM → Prop} {M : gM} {a0 : Nat} {a1 : Nat} (s0 : Hi M a0) (s1 : St M a1) (hE : EX0_draft M a0 a1) (hQ : Q none (mX0_draft M a0 a1)) : Cn X (d + 3) mc ms kX0_draft [.ref a0, .ref a1] M Q := by
  unfold mX0_draft at hQ
  obtain ⟨b1, b2⟩ := hE
  exact sX0_draft_0 s0 s1 b1 b2 hQ
/-! X0_takeBack  -/
set_option maxRecDepth 4000 in
theorem sX0_takeBack_0 {X : gX} {d mc ms : Nat} {Q : Option Value → gM → Prop} {M : gM} {a0 : Nat} {a1 : Nat} (s0 : Hi M a0) (s1 : St M a1) (h1 : ((g_mi M a0 3) ≤ 0) → Q (some (.int ((-3)))) M) (b2 : (¬ (g_mi M a0 3) ≤ 0) → vp_in ((fX0_slot M a0 ((g_mi M a0 3) - 1))) 17) (b3 : (¬ (g_mi M a0 3) ≤ 0) → EX3_copyFrom (g_wi M a0 3 ((g_mi M a0 3) - 1)) a1 (a0 + 3 + 7 * ((fX0_slot M a0 ((g_mi M a0 3) - 1))).toNatClampNeg)) (b4 : (¬ (g_mi M a0 3) ≤ 0) → vp_in ((fX0_slot (mX3_copyFrom (g_wi M a0 3 ((g_mi M a0 3) - 1)) a1 (a0 + 3 + 7 * ((fX0_slot M a0 ((g_mi M a0 3) - 1))).toNatClampNeg)) a0 (g_mi (mX3_copyFrom (g_wi M a0 3 ((g_mi M a0 3) - 1)) a1 (a0 + 3 + 7 * ((fX0_slot M a0 ((g_mi M a0 3) - 1))).toNatClampNeg)) a0 3))) 17) (h5 : (¬ (g_mi M a0 3) ≤ 0) → Q (some (.int ((g_mi (mX3_copyFrom (g_wi M a0 3 ((g_mi M a0 3) - 1)) a1 (a0 + 3 + 7 * ((fX0_slot M a0 ((g_mi M a0 3) - 1))).toNatClampNeg)) (a0 + 2) ((fX0_slot (mX3_copyFrom (g_wi M a0 3 ((g_mi M a0 3) - 1)) a1 (a0 + 3 + 7 * ((fX0_slot M a0 ((g_mi M a0 3) - 1))).toNatClampNeg)) a0 (g_mi (mX3_copyFrom (g_wi M a0 3 ((g_mi M a0 3) - 1)) a1 (a0 + 3 + 7 * ((fX0_slot M a0 ((g_mi M a0 3) - 1))).toNatClampNeg)) a0 3))).toNatClampNeg)))) (mX3_copyFrom (g_wi M a0 3 ((g_mi M a0 3) - 1)) a1 (a0 + 3 + 7 * ((fX0_slot M a0 ((g_mi M a0 3) - 1))).toNatClampNeg))) : Cn X (d + 3) mc ms kX0_takeBack [.ref a0, .ref a1] M Q := by
  refine g_meth rfl rfl (Nat.le_of_ble_eq_true rfl) rfl ?_
  refine g_aload_n 0 1 dX0_takeBack_0 rfl rfl ?_
  refine g_getI 4 dX0_takeBack_1 rfl flX0_22 s0.1 ?_
  refine g_if_le 25 7 dX0_takeBack_4 rfl rfl (fun c1 => ?_) (fun c1 => ?_)
  · skip
    refine g_null 26 dX0_takeBack_25 rfl ?_
    refine g_astore_nN 27 [(2, .null), (0, .ref a0), (1, .ref a1)] dX0_takeBack_26 rfl (Nat.le_of_ble_eq_true rfl) rfl ?_
    refine g_aload_nN 0 28 dX0_takeBack_27 rfl rfl ?_
    refine g_ifnonnullN 31 dX0_takeBack_28 rfl ?_
    refine g_bipush ((-3)) 33 dX0_takeBack_31 rfl rfl ?_
    exact g_iret dX0_takeBack_33 rfl (Nat.zero_le _) (Nat.zero_le _) (h1 c1)
  · skip
    refine g_aload_n 0 8 dX0_takeBack_7 rfl rfl ?_
    refine g_getR 11 (a0 + 1) dX0_takeBack_8 rfl flX0_13 s0.1 s0.2.1 ?_
    refine g_aload_n 0 12 dX0_takeBack_11 rfl rfl ?_
    refine g_aload_n 0 13 dX0_takeBack_12 rfl rfl ?_
    refine g_getI 16 dX0_takeBack_13 rfl flX0_22 s0.1 ?_
    refine g_iconst (1) 17 dX0_takeBack_16 rfl rfl ?_
    refine g_isub 18 dX0_takeBack_17 rfl ?_
    refine g_callV (mc1 := 0) (ms1 := 0) (b := a0) (rest := [.ref (a0 + 1)]) (av := [.int (((g_mi M a0 3) - 1))]) kX0_slot 21 dX0_takeBack_18 rfl rfl mbX0_26 imX0_slot seX0_slot gcl0.1 s0.1 (Nat.le_of_ble_eq_true rfl) (Nat.zero_le _) (Nat.zero_le _) (tX0_slot s0 ?_)
    show Go X (d + 3) mc ms kX0_takeBack Q 21 [(0, .ref a0), (1, .ref a1)] [.int ((fX0_slot M a0 ((g_mi M a0 3) - 1))), .ref (a0 + 1)] M 0 0
    refine h_aaloadR (t := 4) 22 ((fX0_slot M a0 ((g_mi M a0 3) - 1))).toNatClampNeg dX0_takeBack_21 rfl rfl s0.2.2.1 (by decide) rfl (b2 c1) (s0.2.2.2.2.2 _ (vp_lt (b2 c1))).1 ?_
    refine g_goto 26 dX0_takeBack_22 rfl ?_
    refine g_astore_n 27 [(2, .ref (a0 + 3 + 7 * ((fX0_slot M a0 ((g_mi M a0 3) - 1))).toNatClampNeg)), (0, .ref a0), (1, .ref a1)] dX0_takeBack_26 rfl (Nat.le_of_ble_eq_true rfl) rfl ?_
    refine g_aload_n 0 28 dX0_takeBack_27 rfl rfl ?_
    refine g_ifnonnull 34 dX0_takeBack_28 rfl ?_
    refine g_aload_n 1 35 dX0_takeBack_34 rfl rfl ?_
    refine g_dup 36 dX0_takeBack_35 rfl rfl ?_
    refine g_getI 39 dX0_takeBack_36 rfl flX0_22 s0.1 ?_
    refine g_iconst (1) 40 dX0_takeBack_39 rfl rfl ?_
    refine g_isub 41 dX0_takeBack_40 rfl ?_
    refine g_putI 44 dX0_takeBack_41 rfl flX0_22 s0.1 ?_
    refine g_aload_n 2 45 dX0_takeBack_44 rfl rfl ?_
    refine g_aload_n 0 46 dX0_takeBack_45 rfl rfl ?_
    refine g_callV (mc1 := 0) (ms1 := 0) (b := a1) (rest := []) (av := [.ref (a0 + 3 + 7 * ((fX0_slot M a0 ((g_mi M a0 3) - 1))).toNatClampNeg)]) kX3_copyFrom 49 dX0_takeBack_46 rfl rfl mbX0_30 imX3_copyFrom seX3_copyFrom gcl3.1 (Sm.k (Sm.wi Sm.rf) s1.1) (Nat.le_of_ble_eq_true rfl) (Nat.zero_le _) (Nat.zero_le _) (tX3_copyFrom (St.sm (Sm.wi Sm.rf) s1) (St.sm (Sm.wi Sm.rf) (s0.2.2.2.2.2 _ (vp_lt (b2 c1))).2) (b3 c1) ?_)
    show Go X (d + 3) mc ms kX0_takeBack Q 49 [(2, .ref (a0 + 3 + 7 * ((fX0_slot M a0 ((g_mi M a0 3) - 1))).toNatClampNeg)), (0, .ref a0), (1, .ref a1)] [] (mX3_copyFrom (g_wi M a0 3 ((g_mi M a0 3) - 1)) a1 (a0 + 3 + 7 * ((fX0_slot M a0 ((g_mi M a0 3) - 1))).toNatClampNeg)) 0 0
    refine g_aload_n 1 50 dX0_takeBack_49 rfl rfl ?_
    refine g_getR 53 (a0 + 2) dX0_takeBack_50 rfl flX0_17 (Sm.k (Sm.tr (Sm.wi Sm.rf) jX3_copyFrom) s0.1) (Sm.r (Sm.tr (Sm.wi Sm.rf) jX3_copyFrom) s0.2.2.2.1) ?_
    refine g_aload_n 1 54 dX0_takeBack_53 rfl rfl ?_
    refine g_aload_n 1 55 dX0_takeBack_54 rfl rfl ?_
    refine g_getI 58 dX0_takeBack_55 rfl flX0_22 (Sm.k (Sm.tr (Sm.wi Sm.rf) jX3_copyFrom) s0.1) ?_
    refine g_callV (mc1 := 0) (ms1 := 0) (b := a0) (rest := [.ref (a0 + 2)]) (av := [.int ((g_mi (mX3_copyFrom (g_wi M a0 3 ((g_mi M a0 3) - 1)) a1 (a0 + 3 + 7 * ((fX0_slot M a0 ((g_mi M a0 3) - 1))).toNatClampNeg)) a0 3))]) kX0_slot 61 dX0_takeBack_58 rfl rfl mbX0_26 imX0_slot seX0_slot gcl0.1 (Sm.k (Sm.tr (Sm.wi Sm.rf) jX3_copyFrom) s0.1) (Nat.le_of_ble_eq_true rfl) (Nat.zero_le _) (Nat.zero_le _) (tX0_slot (Hi.sm (Sm.tr (Sm.wi Sm.rf) jX3_copyFrom) s0) ?_)
    show Go X (d + 3) mc ms kX0_takeBack Q 61 [(2, .ref (a0 + 3 + 7 * ((fX0_slot M a0 ((g_mi M a0 3) - 1))).toNatClampNeg)), (0, .ref a0), (1, .ref a1)] [.int ((fX0_slot (mX3_copyFrom (g_wi M a0 3 ((g_mi M a0 3) - 1)) a1 (a0 + 3 + 7 * ((fX0_slot M a0 ((g_mi M a0 3) - 1))).toNatClampNeg)) a0 (g_mi (mX3_copyFrom (g_wi M a0 3 ((g_mi M a0 3) - 1)) a1 (a0 + 3 + 7 * ((fX0_slot M a0 ((g_mi M a0 3) - 1))).toNatClampNeg)) a0 3))), .ref (a0 + 2)] (mX3_copyFrom (g_wi M a0 3 ((g_mi M a0 3) - 1)) a1 (a0 + 3 + 7 * ((fX0_slot M a0 ((g_mi M a0 3) - 1))).toNatClampNeg)) 0 0
    refine h_iaload 62 ((fX0_slot (mX3_copyFrom (g_wi M a0 3 ((g_mi M a0 3) - 1)) a1 (a0 + 3 + 7 * ((fX0_slot M a0 ((g_mi M a0 3) - 1))).toNatClampNeg)) a0 (g_mi (mX3_copyFrom (g_wi M a0 3 ((g_mi M a0 3) - 1)) a1 (a0 + 3 + 7 * ((fX0_slot M a0 ((g_mi M a0 3) - 1))).toNatClampNeg)) a0 3))).toNatClampNeg dX0_takeBack_61 rfl rfl (Sm.k (Sm.tr (Sm.wi Sm.rf) jX3_copyFrom) s0.2.2.2.2.1) (b4 c1) ?_
    exact g_iret dX0_takeBack_62 rfl (Nat.zero_le _) (Nat.zero_le _) (h5 c1)

def fX0_takeBack (M : gM) (a0 : Nat) (a1 : Nat) : Int32 := (if (g_mi M a0 3) ≤ 0 then (-3) else (g_mi (mX3_copyFrom (g_wi M a0 3 ((g_mi M a0 3) - 1)) a1 (a0 + 3 + 7 * ((fX0_slot M a0 ((g_mi M a0 3) - 1))).toNatClampNeg)) (a0 + 2) ((fX0_slot (mX3_copyFrom (g_wi M a0 3 ((g_mi M a0 3) - 1)) a1 (a0 + 3 + 7 * ((fX0_slot M a0 ((g_mi M a0 3) - 1))).toNatClampNeg)) a0 (g_mi (mX3_copyFrom (g_wi M a0 3 ((g_mi M a0 3) - 1)) a1 (a0 + 3 + 7 * ((fX0_slot M a0 ((g_mi M a0 3) - 1))).toNatClampNeg)) a0 3))).toNatClampNeg))
def mX0_takeBack (M : gM) (a0 : Nat) (a1 : Nat) : gM := g_wm M (if (g_mi M a0 3) ≤ 0 then (g_mi M) else (g_mi (mX3_copyFrom (g_wi M a0 3 ((g_mi M a0 3) - 1)) a1 (a0 + 3 + 7 * ((fX0_slot M a0 ((g_mi M a0 3) - 1))).toNatClampNeg)))) (g_ml M)
def EX0_takeBack (M : gM) (a0 : Nat) (a1 : Nat) : Prop := ((¬ (g_mi M a0 3) ≤ 0) → vp_in ((fX0_slot M a0 ((g_mi M a0 3) - 1))) 17) ∧ ((¬ (g_mi M a0 3) ≤ 0) → EX3_copyFrom (g_wi M a0 3 ((g_mi M a0 3) - 1)) a1 (a0 + 3 + 7 * ((fX0_slot M a0 ((g_mi M a0 3) - 1))).toNatClampNeg)) ∧ ((¬ (g_mi M a0 3) ≤ 0) → vp_in ((fX0_slot (mX3_copyFrom (g_wi M a0 3 ((g_mi M a0 3) - 1)) a1 (a0 + 3 + 7 * ((fX0_slot M a0 ((g_mi M a0 3) - 1))).toNatClampNeg)) a0 (g_mi (mX3_copyFrom (g_wi M a0 3 ((g_mi M a0 3) - 1)) a1 (a0 + 3 + 7 * ((fX0_slot M a0 ((g_mi M a0 3) - 1))).toNatClampNeg)) a0 3))) 17)
theorem jX0_takeBack {M : gM} {a0 : Nat} {a1 : Nat} : Sm M (mX0_takeBack M a0 a1) := Sm.wm
theorem tX0_takeBack {X : gX} {d mc ms : Nat} {Q : Option Value → gM → Prop} {M : gM} {a0 : Nat} {a1 : Nat} (s0 : Hi M a0) (s1 : St M a1) (hE : EX0_takeBack M a0 a1) (hQ : Q (some (.int (fX0_takeBack M a0 a1))) (mX0_takeBack M a0 a1)) : Cn X (d + 3) mc ms kX0_takeBack [.ref a0, .ref a1] M Q := by
  unfold fX0_takeBack mX0_takeBack at hQ
  obtain ⟨b2, b3, b4⟩ := hE
  exact sX0_takeBack_0 s0 s1 (fun c1 => by simp only [if_pos c1] at hQ; exact Sm.q Sm.rf hQ) b2 b3 b4 (fun c1 => by simp only [if_neg c1] at hQ; exact Sm.q (Sm.tr (Sm.wi Sm.rf) jX3_copyFrom) hQ)
/-! X0_appendAll  -/
set_option maxRecDepth 4000 in
theorem sX0_appendAll_0 {X : gX} {d mc ms : Nat} {Q : Option Value → gM → Prop} {M : gM} {a0 : Nat} {a1 : Nat} (s0 : Hi M a0) (s1 : Hi M a1) (h1 : Go X (d + 4) mc ms kX0_appendAll Q 2 [(0, .ref a0), (1, .ref a1), (2, .int (0))] [] M 0 0) : Cn X (d + 4) mc ms kX0_appendAll [.ref a0, .ref a1] M Q := by
  refine g_meth rfl rfl (Nat.le_of_ble_eq_true rfl) rfl ?_
  refine g_iconst (0) 1 dX0_appendAll_0 rfl rfl ?_
  refine g_istore_n 2 [(2, .int (0)), (0, .ref a0), (1, .ref a1)] dX0_appendAll_1 rfl (Nat.le_of_ble_eq_true rfl) rfl ?_
  exact g_sub [1, 2, 0] _ rfl (h1)

set_option maxRecDepth 4000 in
theorem sX0_appendAll_2 {X : gX} {d mc ms : Nat} {Q : Option Value → gM → Prop} {M : gM} {c z : Nat} {a0 : Nat} {a1 : Nat} {x2 : Int32} (s0 : Hi M a0) (s1 : Hi M a1) (h1 : ((g_mi M a1 3) ≤ x2) → Q none M) (w2 : c ≤ mc) (w3 : z ≤ ms) (b4 : (¬ (g_mi M a1 3) ≤ x2) → vp_in ((fX0_slot M a1 x2)) 17) (b5 : (¬ (g_mi M a1 3) ≤ x2) → EX0_draft M a0 (a1 + 3 + 7 * ((fX0_slot M a1 x2)).toNatClampNeg)) (b6 : (¬ (g_mi M a1 3) ≤ x2) → EX0_keep (mX0_draft M a0 (a1 + 3 + 7 * ((fX0_slot M a1 x2)).toNatClampNeg)) a0 (g_mi (mX0_draft M a0 (a1 + 3 + 7 * ((fX0_slot M a1 x2)).toNatClampNeg)) (a1 + 2) ((fX0_slot M a1 x2)).toNatClampNeg)) (h7 : (¬ (g_mi M a1 3) ≤ x2) → Go X (d + 4) mc ms kX0_appendAll Q 2 [(0, .ref a0), (1, .ref a1), (2, .int ((x2 + 1)))] [] (mX0_keep (mX0_draft M a0 (a1 + 3 + 7 * ((fX0_slot M a1 x2)).toNatClampNeg)) a0 (g_mi (mX0_draft M a0 (a1 + 3 + 7 * ((fX0_slot M a1 x2)).toNatClampNeg)) (a1 + 2) ((fX0_slot M a1 x2)).toNatClampNeg)) c z) : Go X (d + 4) mc ms kX0_appendAll Q 2 [(0, .ref a0), (1, .ref a1), (2, .int (x2))] [] M c z := by
  refine g_iload_n 2 3 dX0_appendAll_2 rfl rfl ?_
  refine g_aload_n 1 4 dX0_appendAll_3 rfl rfl ?_
  refine g_getI 7 dX0_appendAll_4 rfl flX0_22 s1.1 ?_
  refine g_icmp_ge 42 10 dX0_appendAll_7 rfl rfl (fun c1 => ?_) (fun c1 => ?_)
  · skip
    exact g_vret dX0_appendAll_42 rfl (w2) (w3) (h1 c1)
  · skip
    refine g_aload_n 1 11 dX0_appendAll_10 rfl rfl ?_
    refine g_iload_n 2 12 dX0_appendAll_11 rfl rfl ?_
    refine g_callV (mc1 := 0) (ms1 := 0) (b := a1) (rest := []) (av := [.int (x2)]) kX0_slot 15 dX0_appendAll_12 rfl rfl mbX0_26 imX0_slot seX0_slot gcl0.1 s1.1 (Nat.le_of_ble_eq_true rfl) (w2) (w3) (tX0_slot s1 ?_)
    show Go X (d + 4) mc ms kX0_appendAll Q 15 [(0, .ref a0), (1, .ref a1), (2, .int (x2))] [.int ((fX0_slot M a1 x2))] M c z
    refine g_istore_n 16 [(3, .int ((fX0_slot M a1 x2))), (0, .ref a0), (1, .ref a1), (2, .int (x2))] dX0_appendAll_15 rfl (Nat.le_of_ble_eq_true rfl) rfl ?_
    refine g_aload_n 1 17 dX0_appendAll_16 rfl rfl ?_
    refine g_aload_n 2 18 dX0_appendAll_17 rfl rfl ?_
    refine g_getR 21 (a1 + 1) dX0_appendAll_18 rfl flX0_13 s1.1 s1.2.1 ?_
    refine g_iload_n 0 22 dX0_appendAll_21 rfl rfl ?_
    refine h_aaloadR (t := 4) 23 ((fX0_slot M a1 x2)).toNatClampNeg dX0_appendAll_22 rfl rfl s1.2.2.1 (by decide) rfl (b4 c1) (s1.2.2.2.2.2 _ (vp_lt (b4 c1))).1 ?_
    refine g_callV (mc1 := 0) (ms1 := 0) (b := a0) (rest := []) (av := [.ref (a1 + 3 + 7 * ((fX0_slot M a1 x2)).toNatClampNeg)]) kX0_draft 26 dX0_appendAll_23 rfl rfl mbX0_37 imX0_draft seX0_draft gcl0.1 s0.1 (Nat.le_of_ble_eq_true rfl) (w2) (w3) (tX0_draft s0 (s1.2.2.2.2.2 _ (vp_lt (b4 c1))).2 (b5 c1) ?_)
    show Go X (d + 4) mc ms kX0_appendAll Q 26 [(3, .int ((fX0_slot M a1 x2))), (0, .ref a0), (1, .ref a1), (2, .int (x2))] [] (mX0_draft M a0 (a1 + 3 + 7 * ((fX0_slot M a1 x2)).toNatClampNeg)) c z
    refine g_aload_n 1 27 dX0_appendAll_26 rfl rfl ?_
    refine g_aload_n 2 28 dX0_appendAll_27 rfl rfl ?_
    refine g_getR 31 (a1 + 2) dX0_appendAll_28 rfl flX0_17 (Sm.k (Sm.tr Sm.rf jX0_draft) s1.1) (Sm.r (Sm.tr Sm.rf jX0_draft) s1.2.2.2.1) ?_
    refine g_iload_n 0 32 dX0_appendAll_31 rfl rfl ?_
    refine h_iaload 33 ((fX0_slot M a1 x2)).toNatClampNeg dX0_appendAll_32 rfl rfl (Sm.k (Sm.tr Sm.rf jX0_draft) s1.2.2.2.2.1) (b4 c1) ?_
    refine g_callV (mc1 := 0) (ms1 := 0) (b := a0) (rest := []) (av := [.int ((g_mi (mX0_draft M a0 (a1 + 3 + 7 * ((fX0_slot M a1 x2)).toNatClampNeg)) (a1 + 2) ((fX0_slot M a1 x2)).toNatClampNeg))]) kX0_keep 36 dX0_appendAll_33 rfl rfl mbX0_40 imX0_keep seX0_keep gcl0.1 (Sm.k (Sm.tr Sm.rf jX0_draft) s0.1) (Nat.le_of_ble_eq_true rfl) (w2) (w3) (tX0_keep (Hi.sm (Sm.tr Sm.rf jX0_draft) s0) (b6 c1) ?_)
    show Go X (d + 4) mc ms kX0_appendAll Q 36 [(3, .int ((fX0_slot M a1 x2))), (0, .ref a0), (1, .ref a1), (2, .int (x2))] [] (mX0_keep (mX0_draft M a0 (a1 + 3 + 7 * ((fX0_slot M a1 x2)).toNatClampNeg)) a0 (g_mi (mX0_draft M a0 (a1 + 3 + 7 * ((fX0_slot M a1 x2)).toNatClampNeg)) (a1 + 2) ((fX0_slot M a1 x2)).toNatClampNeg)) c z
    refine g_iinc _ 3 39 [(2, .int ((x2 + 1))), (3, .int ((fX0_slot M a1 x2))), (0, .ref a0), (1, .ref a1)] dX0_appendAll_36 rfl rfl rfl (Nat.le_of_ble_eq_true rfl) rfl ?_
    refine g_goto 2 dX0_appendAll_39 rfl ?_
    exact g_sub [2, 3, 0] _ rfl (h7 c1)

def bX0_appendAll_0 (N : Nat) (M : gM) (a0 : Nat) (a1 : Nat) (k : Nat → (Nat → Nat → Int32) → Nat → Nat → Int32 → Int32 × (Nat → Nat → Int32)) : Int32 × (Nat → Nat → Int32) := (k 0 (g_mi M) a0 a1 0)
def eX0_appendAll_0 (N : Nat) (M : gM) (a0 : Nat) (a1 : Nat) (k : Nat → (Nat → Nat → Int32) → Nat → Nat → Int32 → Prop) : Prop := (k 0 (g_mi M) a0 a1 0)
def bX0_appendAll_2 (N : Nat) (M : gM) (f : Nat → Nat → Int32) (a0 : Nat) (a1 : Nat) (x2 : Int32) (k : Nat → (Nat → Nat → Int32) → Nat → Nat → Int32 → Int32 × (Nat → Nat → Int32)) : Int32 × (Nat → Nat → Int32) := (if (g_mi (g_wm M f (g_ml M)) a1 3) ≤ x2 then (0, g_mi (g_wm M f (g_ml M))) else (k 0 (g_mi (mX0_keep (mX0_draft (g_wm M f (g_ml M)) a0 (a1 + 3 + 7 * ((fX0_slot (g_wm M f (g_ml M)) a1 x2)).toNatClampNeg)) a0 (g_mi (mX0_draft (g_wm M f (g_ml M)) a0 (a1 + 3 + 7 * ((fX0_slot (g_wm M f (g_ml M)) a1 x2)).toNatClampNeg)) (a1 + 2) ((fX0_slot (g_wm M f (g_ml M)) a1 x2)).toNatClampNeg))) a0 a1 (x2 + 1)))
def eX0_appendAll_2 (N : Nat) (M : gM) (f : Nat → Nat → Int32) (a0 : Nat) (a1 : Nat) (x2 : Int32) (k : Nat → (Nat → Nat → Int32) → Nat → Nat → Int32 → Prop) : Prop := ((¬ (g_mi (g_wm M f (g_ml M)) a1 3) ≤ x2) → vp_in ((fX0_slot (g_wm M f (g_ml M)) a1 x2)) 17) ∧ ((¬ (g_mi (g_wm M f (g_ml M)) a1 3) ≤ x2) → EX0_draft (g_wm M f (g_ml M)) a0 (a1 + 3 + 7 * ((fX0_slot (g_wm M f (g_ml M)) a1 x2)).toNatClampNeg)) ∧ ((¬ (g_mi (g_wm M f (g_ml M)) a1 3) ≤ x2) → EX0_keep (mX0_draft (g_wm M f (g_ml M)) a0 (a1 + 3 + 7 * ((fX0_slot (g_wm M f (g_ml M)) a1 x2)).toNatClampNeg)) a0 (g_mi (mX0_draft (g_wm M f (g_ml M)) a0 (a1 + 3 + 7 * ((fX0_slot (g_wm M f (g_ml M)) a1 x2)).toNatClampNeg)) (a1 + 2) ((fX0_slot (g_wm M f (g_ml M)) a1 x2)).toNatClampNeg)) ∧ (if (g_mi (g_wm M f (g_ml M)) a1 3) ≤ x2 then True else (k 0 (g_mi (mX0_keep (mX0_draft (g_wm M f (g_ml M)) a0 (a1 + 3 + 7 * ((fX0_slot (g_wm M f (g_ml M)) a1 x2)).toNatClampNeg)) a0 (g_mi (mX0_draft (g_wm M f (g_ml M)) a0 (a1 + 3 + 7 * ((fX0_slot (g_wm M f (g_ml M)) a1 x2)).toNatClampNeg)) (a1 + 2) ((fX0_slot (g_wm M f (g_ml M)) a1 x2)).toNatClampNeg))) a0 a1 (x2 + 1)))
def wX0_appendAll (N : Nat) (M : gM) : Nat → Nat → (Nat → Nat → Int32) → Nat → Nat → Int32 → Int32 × (Nat → Nat → Int32)
  | 0, _, f, _, _, _ => (0, f)
  | n + 1, h, f, a0, a1, x2 => bX0_appendAll_2 N M f a0 a1 x2 (wX0_appendAll N M n)
def vX0_appendAll (N : Nat) (M : gM) : Nat → Nat → (Nat → Nat → Int32) → Nat → Nat → Int32 → Prop
  | 0, _, _, _, _, _ => False
  | n + 1, h, f, a0, a1, x2 => eX0_appendAll_2 N M f a0 a1 x2 (vX0_appendAll N M n)
set_option maxRecDepth 10000 in
theorem lpX0_appendAll {X : gX} {d mc ms : Nat} {Q : Option Value → gM → Prop} (N : Nat) (M : gM) : ∀ n : Nat, (∀ (f : Nat → Nat → Int32) (a0 : Nat) (a1 : Nat) (x2 : Int32), Hi M a0 → Hi M a1 → vX0_appendAll N M n 0 f a0 a1 x2 → Q none (g_wm M (wX0_appendAll N M n 0 f a0 a1 x2).2 (g_ml M)) → Go X (d + 4) mc ms kX0_appendAll Q 2 [(0, .ref a0), (1, .ref a1), (2, .int (x2))] [] (g_wm M f (g_ml M)) 0 0) := by
  intro n
  induction n with
  | zero => exact fun _ _ _ _ _ _ h _ => h.elim
  | succ n ih =>
    intro f a0 a1 x2 s0 s1 hT hQ
    rw [vX0_appendAll] at hT
    rw [wX0_appendAll] at hQ
    unfold bX0_appendAll_2 at hQ
    unfold eX0_appendAll_2 at hT
    obtain ⟨b4, b5, b6, hT⟩ := hT
    exact sX0_appendAll_2 (M := (g_wm M f (g_ml M))) (Hi.sm Sm.wm s0) (Hi.sm Sm.wm s1) (fun c1 => by simp only [if_pos c1] at hQ; exact Sm.q Sm.wm hQ) (Nat.zero_le _) (Nat.zero_le _) b4 b5 b6 (fun c1 => by simp only [if_neg c1] at hQ hT; exact Sm.g (Sm.tr Sm.wm (Sm.tr (Sm.tr Sm.rf jX0_draft) jX0_keep)) (ih _ _ _ _ (s0) (s1) hT hQ))
def mX0_appendAll (N : Nat) (M : gM) (a0 : Nat) (a1 : Nat) : gM := g_wm M (bX0_appendAll_0 N M a0 a1 (wX0_appendAll N M N)).2 (g_ml M)
theorem jX0_appendAll {N : Nat} {M : gM} {a0 : Nat} {a1 : Nat} : Sm M (mX0_appendAll N M a0 a1) := Sm.wm
def EX0_appendAll (N : Nat) (M : gM) (a0 : Nat) (a1 : Nat) : Prop := eX0_appendAll_0 N M a0 a1 (vX0_appendAll N M N)
theorem tX0_appendAll {N : Nat} {X : gX} {d mc ms : Nat} {Q : Option Value → gM → Prop} {M : gM} {a0 : Nat} {a1 : Nat} (s0 : Hi M a0) (s1 : Hi M a1) (hE : EX0_appendAll N M a0 a1) (hQ : Q none (mX0_appendAll N M a0 a1)) : Cn X (d + 4) mc ms kX0_appendAll [.ref a0, .ref a1] M Q := by
  unfold mX0_appendAll at hQ
  unfold bX0_appendAll_0 at hQ
  unfold EX0_appendAll eX0_appendAll_0 at hE
  have hT := hE
  have ih := lpX0_appendAll (X := X) (d := d) (mc := mc) (ms := ms) (Q := Q) N M N
  exact sX0_appendAll_0 s0 s1 (Sm.g Sm.rf (ih _ _ _ _ (s0) (s1) hT hQ))
/-! X1_peel  -/
set_option maxRecDepth 4000 in
theorem sX1_peel_0 {N : Nat} {X : gX} {d mc ms : Nat} {Q : Option Value → gM → Prop} {M : gM} {a0 : Nat} {a1 : Nat} {x2 : Int32} {a3 : Nat} {n3 m3 : Nat} (s0 : Pe M a0) (s1 : St M a1) (s3 : Tx M a3 n3 m3) (b1 : EX1_lay N M a0 a1 x2 (g_mi M a1 4)) (h2 : Go X (d + 3) mc ms kX1_peel Q 13 [(0, .ref a0), (1, .ref a1), (2, .int (x2)), (3, .ref a3), (4, .int (0))] [] (mX1_lay N M a0 a1 x2 (g_mi M a1 4)) 0 0) : Cn X (d + 3) mc ms kX1_peel [.ref a0, .ref a1, .int (x2), .ref a3] M Q := by
  refine g_meth rfl rfl (Nat.le_of_ble_eq_true rfl) rfl ?_
  refine g_aload_n 0 1 dX1_peel_0 rfl rfl ?_
  refine g_aload_n 1 2 dX1_peel_1 rfl rfl ?_
  refine g_iload_n 2 3 dX1_peel_2 rfl rfl ?_
  refine g_aload_n 1 4 dX1_peel_3 rfl rfl ?_
  refine g_getI 7 dX1_peel_4 rfl flX1_55 s1.1 ?_
  refine g_callV (mc1 := 0) (ms1 := 0) (b := a0) (rest := []) (av := [.ref a1, .int (x2), .int ((g_mi M a1 4))]) kX1_lay 10 dX1_peel_7 rfl rfl mbX1_47 imX1_lay seX1_lay gcl1.1 s0.1 (Nat.le_of_ble_eq_true rfl) (Nat.zero_le _) (Nat.zero_le _) (tX1_lay (N := N) s0 s1 (b1) ?_)
  show Go X (d + 3) mc ms kX1_peel Q 10 [(0, .ref a0), (1, .ref a1), (2, .int (x2)), (3, .ref a3)] [] (mX1_lay N M a0 a1 x2 (g_mi M a1 4)) 0 0
  refine g_iconst (0) 11 dX1_peel_10 rfl rfl ?_
  refine g_istore 13 [(4, .int (0)), (0, .ref a0), (1, .ref a1), (2, .int (x2)), (3, .ref a3)] dX1_peel_11 rfl (Nat.le_of_ble_eq_true rfl) rfl ?_
  exact g_sub [1, 2, 3, 4, 0] _ rfl (h2)

set_option maxRecDepth 4000 in
theorem sX1_peel_13 {N : Nat} {X : gX} {d mc ms : Nat} {Q : Option Value → gM → Prop} {M : gM} {c z : Nat} {a0 : Nat} {a1 : Nat} {x2 : Int32} {a3 : Nat} {n3 m3 : Nat} {x4 : Int32} (s0 : Pe M a0) (s1 : St M a1) (s3 : Tx M a3 n3 m3) (h1 : ((3 * (g_mi M a1 4)) ≤ x4) → Go X (d + 3) mc ms kX1_peel Q 64 [(0, .ref a0), (1, .ref a1), (4, .int (0))] [] (g_wi M a0 8 0) c z) (b2 : (¬ (3 * (g_mi M a1 4)) ≤ x4) → vp_in (x4) 60) (w3 : c ≤ mc) (w4 : z ≤ ms) (b5 : (¬ (3 * (g_mi M a1 4)) ≤ x4) → EX4_rankOf N M (a0 - 3) a3 n3 m3 a1 x2 x4 (g_mi M (a0 + 4) (x4).toNatClampNeg)) (h6 : (¬ (3 * (g_mi M a1 4)) ≤ x4) → Go X (d + 3) mc ms kX1_peel Q 13 [(0, .ref a0), (1, .ref a1), (2, .int (x2)), (3, .ref a3), (4, .int ((x4 + 1)))] [] (g_wi (mX4_rankOf N M (a0 - 3) a3 n3 m3 a1 x2 x4 (g_mi M (a0 + 4) (x4).toNatClampNeg)) (a0 + 6) (x4).toNatClampNeg (fX4_rankOf N M (a0 - 3) a3 n3 m3 a1 x2 x4 (g_mi M (a0 + 4) (x4).toNatClampNeg))) c z) : Go X (d + 3) mc ms kX1_peel Q 13 [(0, .ref a0), (1, .ref a1), (2, .int (x2)), (3, .ref a3), (4, .int (x4))] [] M c z := by
  refine g_iload 4 15 dX1_peel_13 rfl rfl ?_
  refine g_iconst (3) 16 dX1_peel_15 rfl rfl ?_
  refine g_aload_n 1 17 dX1_peel_16 rfl rfl ?_
  refine g_getI 20 dX1_peel_17 rfl flX1_55 s1.1 ?_
  refine g_imul 21 dX1_peel_20 rfl ?_
  refine g_icmp_ge 56 24 dX1_peel_21 rfl rfl (fun c1 => ?_) (fun c1 => ?_)
  · skip
    refine g_aload_n 0 57 dX1_peel_56 rfl rfl ?_
    refine g_iconst (0) 58 dX1_peel_57 rfl rfl ?_
    refine g_putI 61 dX1_peel_58 rfl flX1_64 s0.1 ?_
    refine g_iconst (0) 62 dX1_peel_61 rfl rfl ?_
    refine g_istore 64 [(4, .int (0)), (0, .ref a0), (1, .ref a1), (2, .int (x2)), (3, .ref a3)] dX1_peel_62 rfl (Nat.le_of_ble_eq_true rfl) rfl ?_
    exact g_sub [1, 2, 0] _ rfl (h1 c1)
  · skip
    refine g_aload_n 0 25 dX1_peel_24 rfl rfl ?_
    refine g_getR 28 (a0 + 6) dX1_peel_25 rfl flX1_27 s0.1 s0.2.2.2.2.2.2.2.2.2.2.2.1 ?_
    refine g_iload 4 30 dX1_peel_28 rfl rfl ?_
    refine g_aload_n 0 31 dX1_peel_30 rfl rfl ?_
    refine g_getR 34 (a0 - 3) dX1_peel_31 rfl flX1_33 s0.1 s0.2.2.2.2.2.2.2.2.2.2.2.2.2.2.2.2.1 ?_
    refine g_aload_n 3 35 dX1_peel_34 rfl rfl ?_
    refine g_aload_n 1 36 dX1_peel_35 rfl rfl ?_
    refine g_iload_n 2 37 dX1_peel_36 rfl rfl ?_
    refine g_iload 4 39 dX1_peel_37 rfl rfl ?_
    refine g_aload_n 0 40 dX1_peel_39 rfl rfl ?_
    refine g_getR 43 (a0 + 4) dX1_peel_40 rfl flX1_21 s0.1 s0.2.2.2.2.2.2.2.1 ?_
    refine g_iload 4 45 dX1_peel_43 rfl rfl ?_
    refine h_iaload 46 (x4).toNatClampNeg dX1_peel_45 rfl rfl s0.2.2.2.2.2.2.2.2.1 (b2 c1) ?_
    refine g_callV (mc1 := 0) (ms1 := 0) (b := (a0 - 3)) (rest := [.int (x4), .ref (a0 + 6)]) (av := [.ref a3, .ref a1, .int (x2), .int (x4), .int ((g_mi M (a0 + 4) (x4).toNatClampNeg))]) kX4_rankOf 49 dX1_peel_46 rfl rfl mbX1_58 imX4_rankOf seX4_rankOf gcl4.1 s0.2.2.2.2.2.2.2.2.2.2.2.2.2.2.2.2.2.1 (Nat.le_of_ble_eq_true rfl) (w3) (w4) (tX4_rankOf (N := N) s0.2.2.2.2.2.2.2.2.2.2.2.2.2.2.2.2.2 s3 s1 (b5 c1) ?_)
    show Go X (d + 3) mc ms kX1_peel Q 49 [(0, .ref a0), (1, .ref a1), (2, .int (x2)), (3, .ref a3), (4, .int (x4))] [.int ((fX4_rankOf N M (a0 - 3) a3 n3 m3 a1 x2 x4 (g_mi M (a0 + 4) (x4).toNatClampNeg))), .int (x4), .ref (a0 + 6)] (mX4_rankOf N M (a0 - 3) a3 n3 m3 a1 x2 x4 (g_mi M (a0 + 4) (x4).toNatClampNeg)) c z
    refine h_iastore 50 (x4).toNatClampNeg dX1_peel_49 rfl rfl (Sm.k (Sm.tr Sm.rf jX4_rankOf) s0.2.2.2.2.2.2.2.2.2.2.2.2.1) (b2 c1) ?_
    refine g_iinc _ 4 53 [(4, .int ((x4 + 1))), (0, .ref a0), (1, .ref a1), (2, .int (x2)), (3, .ref a3)] dX1_peel_50 rfl rfl rfl (Nat.le_of_ble_eq_true rfl) rfl ?_
    refine g_goto 13 dX1_peel_53 rfl ?_
    exact g_sub [1, 2, 3, 4, 0] _ rfl (h6 c1)

set_option maxRecDepth 4000 in
theorem sX1_peel_64 {N : Nat} {X : gX} {d mc ms : Nat} {Q : Option Value → gM → Prop} {M : gM} {c z : Nat} {a0 : Nat} {a1 : Nat} {x4 : Int32} (s0 : Pe M a0) (s1 : St M a1) (h1 : ((g_mi M a1 3) ≤ x4) → Q none M) (w2 : c ≤ mc) (w3 : z ≤ ms) (b4 : (¬ (g_mi M a1 3) ≤ x4) → EX1_leastFree N M a0 (3 * (g_mi M a1 4))) (b5 : (¬ (g_mi M a1 3) ≤ x4) → (¬ (fX1_leastFree N M a0 (3 * (g_mi M a1 4))) = (-1)) → vp_in ((fX1_leastFree N M a0 (3 * (g_mi M a1 4)))) 60) (b6 : (¬ (g_mi M a1 3) ≤ x4) → (¬ (fX1_leastFree N M a0 (3 * (g_mi M a1 4))) = (-1)) → vp_in ((g_mi M a0 8)) 30) (b7 : (¬ (g_mi M a1 3) ≤ x4) → (¬ (fX1_leastFree N M a0 (3 * (g_mi M a1 4))) = (-1)) → vp_in ((g_mi (g_wi M (a0 + 2) ((g_mi M a0 8)).toNatClampNeg (g_mi M (a0 + 5) ((fX1_leastFree N M a0 (3 * (g_mi M a1 4)))).toNatClampNeg)) a0 8)) 30) (b8 : (¬ (g_mi M a1 3) ≤ x4) → (¬ (fX1_leastFree N M a0 (3 * (g_mi M a1 4))) = (-1)) → EX1_letGo N (g_wi (g_wi (g_wi M (a0 + 2) ((g_mi M a0 8)).toNatClampNeg (g_mi M (a0 + 5) ((fX1_leastFree N M a0 (3 * (g_mi M a1 4)))).toNatClampNeg)) (a0 + 3) ((g_mi (g_wi M (a0 + 2) ((g_mi M a0 8)).toNatClampNeg (g_mi M (a0 + 5) ((fX1_leastFree N M a0 (3 * (g_mi M a1 4)))).toNatClampNeg)) a0 8)).toNatClampNeg (fX1_leastFree N M a0 (3 * (g_mi M a1 4)))) a0 8 ((g_mi (g_wi (g_wi M (a0 + 2) ((g_mi M a0 8)).toNatClampNeg (g_mi M (a0 + 5) ((fX1_leastFree N M a0 (3 * (g_mi M a1 4)))).toNatClampNeg)) (a0 + 3) ((g_mi (g_wi M (a0 + 2) ((g_mi M a0 8)).toNatClampNeg (g_mi M (a0 + 5) ((fX1_leastFree N M a0 (3 * (g_mi M a1 4)))).toNatClampNeg)) a0 8)).toNatClampNeg (fX1_leastFree N M a0 (3 * (g_mi M a1 4)))) a0 8) + 1)) a0 (g_mi (g_wi (g_wi (g_wi M (a0 + 2) ((g_mi M a0 8)).toNatClampNeg (g_mi M (a0 + 5) ((fX1_leastFree N M a0 (3 * (g_mi M a1 4)))).toNatClampNeg)) (a0 + 3) ((g_mi (g_wi M (a0 + 2) ((g_mi M a0 8)).toNatClampNeg (g_mi M (a0 + 5) ((fX1_leastFree N M a0 (3 * (g_mi M a1 4)))).toNatClampNeg)) a0 8)).toNatClampNeg (fX1_leastFree N M a0 (3 * (g_mi M a1 4)))) a0 8 ((g_mi (g_wi (g_wi M (a0 + 2) ((g_mi M a0 8)).toNatClampNeg (g_mi M (a0 + 5) ((fX1_leastFree N M a0 (3 * (g_mi M a1 4)))).toNatClampNeg)) (a0 + 3) ((g_mi (g_wi M (a0 + 2) ((g_mi M a0 8)).toNatClampNeg (g_mi M (a0 + 5) ((fX1_leastFree N M a0 (3 * (g_mi M a1 4)))).toNatClampNeg)) a0 8)).toNatClampNeg (fX1_leastFree N M a0 (3 * (g_mi M a1 4)))) a0 8) + 1)) (a0 + 5) ((fX1_leastFree N M a0 (3 * (g_mi M a1 4)))).toNatClampNeg) 0) (h9 : (¬ (g_mi M a1 3) ≤ x4) → (¬ (fX1_leastFree N M a0 (3 * (g_mi M a1 4))) = (-1)) → Go X (d + 3) mc ms kX1_peel Q 64 [(0, .ref a0), (1, .ref a1), (4, .int ((x4 + 1)))] [] (mX1_letGo N (g_wi (g_wi (g_wi M (a0 + 2) ((g_mi M a0 8)).toNatClampNeg (g_mi M (a0 + 5) ((fX1_leastFree N M a0 (3 * (g_mi M a1 4)))).toNatClampNeg)) (a0 + 3) ((g_mi (g_wi M (a0 + 2) ((g_mi M a0 8)).toNatClampNeg (g_mi M (a0 + 5) ((fX1_leastFree N M a0 (3 * (g_mi M a1 4)))).toNatClampNeg)) a0 8)).toNatClampNeg (fX1_leastFree N M a0 (3 * (g_mi M a1 4)))) a0 8 ((g_mi (g_wi (g_wi M (a0 + 2) ((g_mi M a0 8)).toNatClampNeg (g_mi M (a0 + 5) ((fX1_leastFree N M a0 (3 * (g_mi M a1 4)))).toNatClampNeg)) (a0 + 3) ((g_mi (g_wi M (a0 + 2) ((g_mi M a0 8)).toNatClampNeg (g_mi M (a0 + 5) ((fX1_leastFree N M a0 (3 * (g_mi M a1 4)))).toNatClampNeg)) a0 8)).toNatClampNeg (fX1_leastFree N M a0 (3 * (g_mi M a1 4)))) a0 8) + 1)) a0 (g_mi (g_wi (g_wi (g_wi M (a0 + 2) ((g_mi M a0 8)).toNatClampNeg (g_mi M (a0 + 5) ((fX1_leastFree N M a0 (3 * (g_mi M a1 4)))).toNatClampNeg)) (a0 + 3) ((g_mi (g_wi M (a0 + 2) ((g_mi M a0 8)).toNatClampNeg (g_mi M (a0 + 5) ((fX1_leastFree N M a0 (3 * (g_mi M a1 4)))).toNatClampNeg)) a0 8)).toNatClampNeg (fX1_leastFree N M a0 (3 * (g_mi M a1 4)))) a0 8 ((g_mi (g_wi (g_wi M (a0 + 2) ((g_mi M a0 8)).toNatClampNeg (g_mi M (a0 + 5) ((fX1_leastFree N M a0 (3 * (g_mi M a1 4)))).toNatClampNeg)) (a0 + 3) ((g_mi (g_wi M (a0 + 2) ((g_mi M a0 8)).toNatClampNeg (g_mi M (a0 + 5) ((fX1_leastFree N M a0 (3 * (g_mi M a1 4)))).toNatClampNeg)) a0 8)).toNatClampNeg (fX1_leastFree N M a0 (3 * (g_mi M a1 4)))) a0 8) + 1)) (a0 + 5) ((fX1_leastFree N M a0 (3 * (g_mi M a1 4)))).toNatClampNeg) 0) c z) (h10 : (¬ (g_mi M a1 3) ≤ x4) → ((fX1_leastFree N M a0 (3 * (g_mi M a1 4))) = (-1)) → Q none M) : Go X (d + 3) mc ms kX1_peel Q 64 [(0, .ref a0), (1, .ref a1), (4, .int (x4))] [] M c z := by
  refine g_iload 2 66 dX1_peel_64 rfl rfl ?_
  refine g_aload_n 1 67 dX1_peel_66 rfl rfl ?_
  refine g_getI 70 dX1_peel_67 rfl flX1_37 s1.1 ?_
  refine g_icmp_ge 148 73 dX1_peel_70 rfl rfl (fun c1 => ?_) (fun c1 => ?_)
  · skip
    exact g_vret dX1_peel_148 rfl (w2) (w3) (h1 c1)
  · skip
    refine g_aload_n 0 74 dX1_peel_73 rfl rfl ?_
    refine g_iconst (3) 75 dX1_peel_74 rfl rfl ?_
    refine g_aload_n 1 76 dX1_peel_75 rfl rfl ?_
    refine g_getI 79 dX1_peel_76 rfl flX1_55 s1.1 ?_
    refine g_imul 80 dX1_peel_79 rfl ?_
    refine g_callV (mc1 := 0) (ms1 := 0) (b := a0) (rest := []) (av := [.int ((3 * (g_mi M a1 4)))]) kX1_leastFree 83 dX1_peel_80 rfl rfl mbX1_67 imX1_leastFree seX1_leastFree gcl1.1 s0.1 (Nat.le_of_ble_eq_true rfl) (w2) (w3) (tX1_leastFree (N := N) s0 (b4 c1) ?_)
    show Go X (d + 3) mc ms kX1_peel Q 83 [(0, .ref a0), (1, .ref a1), (4, .int (x4))] [.int ((fX1_leastFree N M a0 (3 * (g_mi M a1 4))))] M c z
    refine g_istore 85 [(5, .int ((fX1_leastFree N M a0 (3 * (g_mi M a1 4))))), (0, .ref a0), (1, .ref a1), (4, .int (x4))] dX1_peel_83 rfl (Nat.le_of_ble_eq_true rfl) rfl ?_
    refine g_iload 0 87 dX1_peel_85 rfl rfl ?_
    refine g_iconst ((-1)) 88 dX1_peel_87 rfl rfl ?_
    refine g_icmp_ne 92 91 dX1_peel_88 rfl rfl (fun c2 => ?_) (fun c2 => ?_)
    · skip
      refine g_aload_n 1 93 dX1_peel_92 rfl rfl ?_
      refine g_getR 96 (a0 + 2) dX1_peel_93 rfl flX1_15 s0.1 s0.2.2.2.1 ?_
      refine g_aload_n 1 97 dX1_peel_96 rfl rfl ?_
      refine g_getI 100 dX1_peel_97 rfl flX1_64 s0.1 ?_
      refine g_aload_n 1 101 dX1_peel_100 rfl rfl ?_
      refine g_getR 104 (a0 + 5) dX1_peel_101 rfl flX1_24 s0.1 s0.2.2.2.2.2.2.2.2.2.1 ?_
      refine g_iload 0 106 dX1_peel_104 rfl rfl ?_
      refine h_iaload 107 ((fX1_leastFree N M a0 (3 * (g_mi M a1 4)))).toNatClampNeg dX1_peel_106 rfl rfl s0.2.2.2.2.2.2.2.2.2.2.1 (b5 c1 c2) ?_
      refine h_iastore 108 ((g_mi M a0 8)).toNatClampNeg dX1_peel_107 rfl rfl s0.2.2.2.2.1 (b6 c1 c2) ?_
      refine g_aload_n 1 109 dX1_peel_108 rfl rfl ?_
      refine g_getR 112 (a0 + 3) dX1_peel_109 rfl flX1_18 (Sm.k (Sm.wi Sm.rf) s0.1) (Sm.r (Sm.wi Sm.rf) s0.2.2.2.2.2.1) ?_
      refine g_aload_n 1 113 dX1_peel_112 rfl rfl ?_
      refine g_getI 116 dX1_peel_113 rfl flX1_64 (Sm.k (Sm.wi Sm.rf) s0.1) ?_
      refine g_iload 0 118 dX1_peel_116 rfl rfl ?_
      refine h_iastore 119 ((g_mi (g_wi M (a0 + 2) ((g_mi M a0 8)).toNatClampNeg (g_mi M (a0 + 5) ((fX1_leastFree N M a0 (3 * (g_mi M a1 4)))).toNatClampNeg)) a0 8)).toNatClampNeg dX1_peel_118 rfl rfl (Sm.k (Sm.wi Sm.rf) s0.2.2.2.2.2.2.1) (b7 c1 c2) ?_
      refine g_aload_n 1 120 dX1_peel_119 rfl rfl ?_
      refine g_dup 121 dX1_peel_120 rfl rfl ?_
      refine g_getI 124 dX1_peel_121 rfl flX1_64 (Sm.k (Sm.wi (Sm.wi Sm.rf)) s0.1) ?_
      refine g_iconst (1) 125 dX1_peel_124 rfl rfl ?_
      refine g_iadd 126 dX1_peel_125 rfl ?_
      refine g_putI 129 dX1_peel_126 rfl flX1_64 (Sm.k (Sm.wi (Sm.wi Sm.rf)) s0.1) ?_
      refine g_aload_n 1 130 dX1_peel_129 rfl rfl ?_
      refine g_aload_n 1 131 dX1_peel_130 rfl rfl ?_
      refine g_getR 134 (a0 + 5) dX1_peel_131 rfl flX1_24 (Sm.k (Sm.wi (Sm.wi (Sm.wi Sm.rf))) s0.1) (Sm.r (Sm.wi (Sm.wi (Sm.wi Sm.rf))) s0.2.2.2.2.2.2.2.2.2.1) ?_
      refine g_iload 0 136 dX1_peel_134 rfl rfl ?_
      refine h_iaload 137 ((fX1_leastFree N M a0 (3 * (g_mi M a1 4)))).toNatClampNeg dX1_peel_136 rfl rfl (Sm.k (Sm.wi (Sm.wi (Sm.wi Sm.rf))) s0.2.2.2.2.2.2.2.2.2.2.1) (b5 c1 c2) ?_
      refine g_iconst (0) 138 dX1_peel_137 rfl rfl ?_
      refine g_callV (mc1 := 0) (ms1 := 0) (b := a0) (rest := []) (av := [.int ((g_mi (g_wi (g_wi (g_wi M (a0 + 2) ((g_mi M a0 8)).toNatClampNeg (g_mi M (a0 + 5) ((fX1_leastFree N M a0 (3 * (g_mi M a1 4)))).toNatClampNeg)) (a0 + 3) ((g_mi (g_wi M (a0 + 2) ((g_mi M a0 8)).toNatClampNeg (g_mi M (a0 + 5) ((fX1_leastFree N M a0 (3 * (g_mi M a1 4)))).toNatClampNeg)) a0 8)).toNatClampNeg (fX1_leastFree N M a0 (3 * (g_mi M a1 4)))) a0 8 ((g_mi (g_wi (g_wi M (a0 + 2) ((g_mi M a0 8)).toNatClampNeg (g_mi M (a0 + 5) ((fX1_leastFree N M a0 (3 * (g_mi M a1 4)))).toNatClampNeg)) (a0 + 3) ((g_mi (g_wi M (a0 + 2) ((g_mi M a0 8)).toNatClampNeg (g_mi M (a0 + 5) ((fX1_leastFree N M a0 (3 * (g_mi M a1 4)))).toNatClampNeg)) a0 8)).toNatClampNeg (fX1_leastFree N M a0 (3 * (g_mi M a1 4)))) a0 8) + 1)) (a0 + 5) ((fX1_leastFree N M a0 (3 * (g_mi M a1 4)))).toNatClampNeg)), .int (0)]) kX1_letGo 141 dX1_peel_138 rfl rfl mbX1_51 imX1_letGo seX1_letGo gcl1.1 (Sm.k (Sm.wi (Sm.wi (Sm.wi Sm.rf))) s0.1) (Nat.le_of_ble_eq_true rfl) (w2) (w3) (tX1_letGo (N := N) (Pe.sm (Sm.wi (Sm.wi (Sm.wi Sm.rf))) s0) (b8 c1 c2) ?_)
      show Go X (d + 3) mc ms kX1_peel Q 141 [(5, .int ((fX1_leastFree N M a0 (3 * (g_mi M a1 4))))), (0, .ref a0), (1, .ref a1), (4, .int (x4))] [.int ((fX1_letGo N (g_wi (g_wi (g_wi M (a0 + 2) ((g_mi M a0 8)).toNatClampNeg (g_mi M (a0 + 5) ((fX1_leastFree N M a0 (3 * (g_mi M a1 4)))).toNatClampNeg)) (a0 + 3) ((g_mi (g_wi M (a0 + 2) ((g_mi M a0 8)).toNatClampNeg (g_mi M (a0 + 5) ((fX1_leastFree N M a0 (3 * (g_mi M a1 4)))).toNatClampNeg)) a0 8)).toNatClampNeg (fX1_leastFree N M a0 (3 * (g_mi M a1 4)))) a0 8 ((g_mi (g_wi (g_wi M (a0 + 2) ((g_mi M a0 8)).toNatClampNeg (g_mi M (a0 + 5) ((fX1_leastFree N M a0 (3 * (g_mi M a1 4)))).toNatClampNeg)) (a0 + 3) ((g_mi (g_wi M (a0 + 2) ((g_mi M a0 8)).toNatClampNeg (g_mi M (a0 + 5) ((fX1_leastFree N M a0 (3 * (g_mi M a1 4)))).toNatClampNeg)) a0 8)).toNatClampNeg (fX1_leastFree N M a0 (3 * (g_mi M a1 4)))) a0 8) + 1)) a0 (g_mi (g_wi (g_wi (g_wi M (a0 + 2) ((g_mi M a0 8)).toNatClampNeg (g_mi M (a0 + 5) ((fX1_leastFree N M a0 (3 * (g_mi M a1 4)))).toNatClampNeg)) (a0 + 3) ((g_mi (g_wi M (a0 + 2) ((g_mi M a0 8)).toNatClampNeg (g_mi M (a0 + 5) ((fX1_leastFree N M a0 (3 * (g_mi M a1 4)))).toNatClampNeg)) a0 8)).toNatClampNeg (fX1_leastFree N M a0 (3 * (g_mi M a1 4)))) a0 8 ((g_mi (g_wi (g_wi M (a0 + 2) ((g_mi M a0 8)).toNatClampNeg (g_mi M (a0 + 5) ((fX1_leastFree N M a0 (3 * (g_mi M a1 4)))).toNatClampNeg)) (a0 + 3) ((g_mi (g_wi M (a0 + 2) ((g_mi M a0 8)).toNatClampNeg (g_mi M (a0 + 5) ((fX1_leastFree N M a0 (3 * (g_mi M a1 4)))).toNatClampNeg)) a0 8)).toNatClampNeg (fX1_leastFree N M a0 (3 * (g_mi M a1 4)))) a0 8) + 1)) (a0 + 5) ((fX1_leastFree N M a0 (3 * (g_mi M a1 4)))).toNatClampNeg) 0))] (mX1_letGo N (g_wi (g_wi (g_wi M (a0 + 2) ((g_mi M a0 8)).toNatClampNeg (g_mi M (a0 + 5) ((fX1_leastFree N M a0 (3 * (g_mi M a1 4)))).toNatClampNeg)) (a0 + 3) ((g_mi (g_wi M (a0 + 2) ((g_mi M a0 8)).toNatClampNeg (g_mi M (a0 + 5) ((fX1_leastFree N M a0 (3 * (g_mi M a1 4)))).toNatClampNeg)) a0 8)).toNatClampNeg (fX1_leastFree N M a0 (3 * (g_mi M a1 4)))) a0 8 ((g_mi (g_wi (g_wi M (a0 + 2) ((g_mi M a0 8)).toNatClampNeg (g_mi M (a0 + 5) ((fX1_leastFree N M a0 (3 * (g_mi M a1 4)))).toNatClampNeg)) (a0 + 3) ((g_mi (g_wi M (a0 + 2) ((g_mi M a0 8)).toNatClampNeg (g_mi M (a0 + 5) ((fX1_leastFree N M a0 (3 * (g_mi M a1 4)))).toNatClampNeg)) a0 8)).toNatClampNeg (fX1_leastFree N M a0 (3 * (g_mi M a1 4)))) a0 8) + 1)) a0 (g_mi (g_wi (g_wi (g_wi M (a0 + 2) ((g_mi M a0 8)).toNatClampNeg (g_mi M (a0 + 5) ((fX1_leastFree N M a0 (3 * (g_mi M a1 4)))).toNatClampNeg)) (a0 + 3) ((g_mi (g_wi M (a0 + 2) ((g_mi M a0 8)).toNatClampNeg (g_mi M (a0 + 5) ((fX1_leastFree N M a0 (3 * (g_mi M a1 4)))).toNatClampNeg)) a0 8)).toNatClampNeg (fX1_leastFree N M a0 (3 * (g_mi M a1 4)))) a0 8 ((g_mi (g_wi (g_wi M (a0 + 2) ((g_mi M a0 8)).toNatClampNeg (g_mi M (a0 + 5) ((fX1_leastFree N M a0 (3 * (g_mi M a1 4)))).toNatClampNeg)) (a0 + 3) ((g_mi (g_wi M (a0 + 2) ((g_mi M a0 8)).toNatClampNeg (g_mi M (a0 + 5) ((fX1_leastFree N M a0 (3 * (g_mi M a1 4)))).toNatClampNeg)) a0 8)).toNatClampNeg (fX1_leastFree N M a0 (3 * (g_mi M a1 4)))) a0 8) + 1)) (a0 + 5) ((fX1_leastFree N M a0 (3 * (g_mi M a1 4)))).toNatClampNeg) 0) c z
      refine g_pop 142 dX1_peel_141 rfl rfl ?_
      refine g_iinc _ 3 145 [(4, .int ((x4 + 1))), (5, .int ((fX1_leastFree N M a0 (3 * (g_mi M a1 4))))), (0, .ref a0), (1, .ref a1)] dX1_peel_142 rfl rfl rfl (Nat.le_of_ble_eq_true rfl) rfl ?_
      refine g_goto 64 dX1_peel_145 rfl ?_
      exact g_sub [2, 3, 0] _ rfl (h9 c1 c2)
    · skip
      exact g_vret dX1_peel_91 rfl (w2) (w3) (h10 c1 c2)

def bX1_peel_0 (N : Nat) (M : gM) (a0 : Nat) (a1 : Nat) (x2 : Int32) (a3 : Nat) (n3 : Nat) (m3 : Nat) (k : Nat → (Nat → Nat → Int32) → Nat → Nat → Int32 → Nat → Nat → Nat → Int32 → Int32 × (Nat → Nat → Int32)) : Int32 × (Nat → Nat → Int32) := (k 0 (g_mi (mX1_lay N M a0 a1 x2 (g_mi M a1 4))) a0 a1 x2 a3 n3 m3 0)
def eX1_peel_0 (N : Nat) (M : gM) (a0 : Nat) (a1 : Nat) (x2 : Int32) (a3 : Nat) (n3 : Nat) (m3 : Nat) (k : Nat → (Nat → Nat → Int32) → Nat → Nat → Int32 → Nat → Nat → Nat → Int32 → Prop) : Prop := (EX1_lay N M a0 a1 x2 (g_mi M a1 4)) ∧ (k 0 (g_mi (mX1_lay N M a0 a1 x2 (g_mi M a1 4))) a0 a1 x2 a3 n3 m3 0)
def bX1_peel_13 (N : Nat) (M : gM) (f : Nat → Nat → Int32) (a0 : Nat) (a1 : Nat) (x2 : Int32) (a3 : Nat) (n3 : Nat) (m3 : Nat) (x4 : Int32) (k : Nat → (Nat → Nat → Int32) → Nat → Nat → Int32 → Nat → Nat → Nat → Int32 → Int32 × (Nat → Nat → Int32)) : Int32 × (Nat → Nat → Int32) := (if (3 * (g_mi (g_wm M f (g_ml M)) a1 4)) ≤ x4 then (k 1 (g_mi (g_wi (g_wm M f (g_ml M)) a0 8 0)) a0 a1 0 0 0 0 0) else (k 0 (g_mi (g_wi (mX4_rankOf N (g_wm M f (g_ml M)) (a0 - 3) a3 n3 m3 a1 x2 x4 (g_mi (g_wm M f (g_ml M)) (a0 + 4) (x4).toNatClampNeg)) (a0 + 6) (x4).toNatClampNeg (fX4_rankOf N (g_wm M f (g_ml M)) (a0 - 3) a3 n3 m3 a1 x2 x4 (g_mi (g_wm M f (g_ml M)) (a0 + 4) (x4).toNatClampNeg)))) a0 a1 x2 a3 n3 m3 (x4 + 1)))
def eX1_peel_13 (N : Nat) (M : gM) (f : Nat → Nat → Int32) (a0 : Nat) (a1 : Nat) (x2 : Int32) (a3 : Nat) (n3 : Nat) (m3 : Nat) (x4 : Int32) (k : Nat → (Nat → Nat → Int32) → Nat → Nat → Int32 → Nat → Nat → Nat → Int32 → Prop) : Prop := ((¬ (3 * (g_mi (g_wm M f (g_ml M)) a1 4)) ≤ x4) → vp_in (x4) 60) ∧ ((¬ (3 * (g_mi (g_wm M f (g_ml M)) a1 4)) ≤ x4) → EX4_rankOf N (g_wm M f (g_ml M)) (a0 - 3) a3 n3 m3 a1 x2 x4 (g_mi (g_wm M f (g_ml M)) (a0 + 4) (x4).toNatClampNeg)) ∧ (if (3 * (g_mi (g_wm M f (g_ml M)) a1 4)) ≤ x4 then (k 1 (g_mi (g_wi (g_wm M f (g_ml M)) a0 8 0)) a0 a1 0 0 0 0 0) else (k 0 (g_mi (g_wi (mX4_rankOf N (g_wm M f (g_ml M)) (a0 - 3) a3 n3 m3 a1 x2 x4 (g_mi (g_wm M f (g_ml M)) (a0 + 4) (x4).toNatClampNeg)) (a0 + 6) (x4).toNatClampNeg (fX4_rankOf N (g_wm M f (g_ml M)) (a0 - 3) a3 n3 m3 a1 x2 x4 (g_mi (g_wm M f (g_ml M)) (a0 + 4) (x4).toNatClampNeg)))) a0 a1 x2 a3 n3 m3 (x4 + 1)))
def bX1_peel_64 (N : Nat) (M : gM) (f : Nat → Nat → Int32) (a0 : Nat) (a1 : Nat) (x4 : Int32) (k : Nat → (Nat → Nat → Int32) → Nat → Nat → Int32 → Nat → Nat → Nat → Int32 → Int32 × (Nat → Nat → Int32)) : Int32 × (Nat → Nat → Int32) := (if (g_mi (g_wm M f (g_ml M)) a1 3) ≤ x4 then (0, g_mi (g_wm M f (g_ml M))) else (if (fX1_leastFree N (g_wm M f (g_ml M)) a0 (3 * (g_mi (g_wm M f (g_ml M)) a1 4))) = (-1) then (0, g_mi (g_wm M f (g_ml M))) else (k 1 (g_mi (mX1_letGo N (g_wi (g_wi (g_wi (g_wm M f (g_ml M)) (a0 + 2) ((g_mi (g_wm M f (g_ml M)) a0 8)).toNatClampNeg (g_mi (g_wm M f (g_ml M)) (a0 + 5) ((fX1_leastFree N (g_wm M f (g_ml M)) a0 (3 * (g_mi (g_wm M f (g_ml M)) a1 4)))).toNatClampNeg)) (a0 + 3) ((g_mi (g_wi (g_wm M f (g_ml M)) (a0 + 2) ((g_mi (g_wm M f (g_ml M)) a0 8)).toNatClampNeg (g_mi (g_wm M f (g_ml M)) (a0 + 5) ((fX1_leastFree N (g_wm M f (g_ml M)) a0 (3 * (g_mi (g_wm M f (g_ml M)) a1 4)))).toNatClampNeg)) a0 8)).toNatClampNeg (fX1_leastFree N (g_wm M f (g_ml M)) a0 (3 * (g_mi (g_wm M f (g_ml M)) a1 4)))) a0 8 ((g_mi (g_wi (g_wi (g_wm M f (g_ml M)) (a0 + 2) ((g_mi (g_wm M f (g_ml M)) a0 8)).toNatClampNeg (g_mi (g_wm M f (g_ml M)) (a0 + 5) ((fX1_leastFree N (g_wm M f (g_ml M)) a0 (3 * (g_mi (g_wm M f (g_ml M)) a1 4)))).toNatClampNeg)) (a0 + 3) ((g_mi (g_wi (g_wm M f (g_ml M)) (a0 + 2) ((g_mi (g_wm M f (g_ml M)) a0 8)).toNatClampNeg (g_mi (g_wm M f (g_ml M)) (a0 + 5) ((fX1_leastFree N (g_wm M f (g_ml M)) a0 (3 * (g_mi (g_wm M f (g_ml M)) a1 4)))).toNatClampNeg)) a0 8)).toNatClampNeg (fX1_leastFree N (g_wm M f (g_ml M)) a0 (3 * (g_mi (g_wm M f (g_ml M)) a1 4)))) a0 8) + 1)) a0 (g_mi (g_wi (g_wi (g_wi (g_wm M f (g_ml M)) (a0 + 2) ((g_mi (g_wm M f (g_ml M)) a0 8)).toNatClampNeg (g_mi (g_wm M f (g_ml M)) (a0 + 5) ((fX1_leastFree N (g_wm M f (g_ml M)) a0 (3 * (g_mi (g_wm M f (g_ml M)) a1 4)))).toNatClampNeg)) (a0 + 3) ((g_mi (g_wi (g_wm M f (g_ml M)) (a0 + 2) ((g_mi (g_wm M f (g_ml M)) a0 8)).toNatClampNeg (g_mi (g_wm M f (g_ml M)) (a0 + 5) ((fX1_leastFree N (g_wm M f (g_ml M)) a0 (3 * (g_mi (g_wm M f (g_ml M)) a1 4)))).toNatClampNeg)) a0 8)).toNatClampNeg (fX1_leastFree N (g_wm M f (g_ml M)) a0 (3 * (g_mi (g_wm M f (g_ml M)) a1 4)))) a0 8 ((g_mi (g_wi (g_wi (g_wm M f (g_ml M)) (a0 + 2) ((g_mi (g_wm M f (g_ml M)) a0 8)).toNatClampNeg (g_mi (g_wm M f (g_ml M)) (a0 + 5) ((fX1_leastFree N (g_wm M f (g_ml M)) a0 (3 * (g_mi (g_wm M f (g_ml M)) a1 4)))).toNatClampNeg)) (a0 + 3) ((g_mi (g_wi (g_wm M f (g_ml M)) (a0 + 2) ((g_mi (g_wm M f (g_ml M)) a0 8)).toNatClampNeg (g_mi (g_wm M f (g_ml M)) (a0 + 5) ((fX1_leastFree N (g_wm M f (g_ml M)) a0 (3 * (g_mi (g_wm M f (g_ml M)) a1 4)))).toNatClampNeg)) a0 8)).toNatClampNeg (fX1_leastFree N (g_wm M f (g_ml M)) a0 (3 * (g_mi (g_wm M f (g_ml M)) a1 4)))) a0 8) + 1)) (a0 + 5) ((fX1_leastFree N (g_wm M f (g_ml M)) a0 (3 * (g_mi (g_wm M f (g_ml M)) a1 4)))).toNatClampNeg) 0)) a0 a1 0 0 0 0 (x4 + 1))))
def eX1_peel_64 (N : Nat) (M : gM) (f : Nat → Nat → Int32) (a0 : Nat) (a1 : Nat) (x4 : Int32) (k : Nat → (Nat → Nat → Int32) → Nat → Nat → Int32 → Nat → Nat → Nat → Int32 → Prop) : Prop := ((¬ (g_mi (g_wm M f (g_ml M)) a1 3) ≤ x4) → EX1_leastFree N (g_wm M f (g_ml M)) a0 (3 * (g_mi (g_wm M f (g_ml M)) a1 4))) ∧ ((¬ (g_mi (g_wm M f (g_ml M)) a1 3) ≤ x4) → (¬ (fX1_leastFree N (g_wm M f (g_ml M)) a0 (3 * (g_mi (g_wm M f (g_ml M)) a1 4))) = (-1)) → vp_in ((fX1_leastFree N (g_wm M f (g_ml M)) a0 (3 * (g_mi (g_wm M f (g_ml M)) a1 4)))) 60) ∧ ((¬ (g_mi (g_wm M f (g_ml M)) a1 3) ≤ x4) → (¬ (fX1_leastFree N (g_wm M f (g_ml M)) a0 (3 * (g_mi (g_wm M f (g_ml M)) a1 4))) = (-1)) → vp_in ((g_mi (g_wm M f (g_ml M)) a0 8)) 30) ∧ ((¬ (g_mi (g_wm M f (g_ml M)) a1 3) ≤ x4) → (¬ (fX1_leastFree N (g_wm M f (g_ml M)) a0 (3 * (g_mi (g_wm M f (g_ml M)) a1 4))) = (-1)) → vp_in ((g_mi (g_wi (g_wm M f (g_ml M)) (a0 + 2) ((g_mi (g_wm M f (g_ml M)) a0 8)).toNatClampNeg (g_mi (g_wm M f (g_ml M)) (a0 + 5) ((fX1_leastFree N (g_wm M f (g_ml M)) a0 (3 * (g_mi (g_wm M f (g_ml M)) a1 4)))).toNatClampNeg)) a0 8)) 30) ∧ ((¬ (g_mi (g_wm M f (g_ml M)) a1 3) ≤ x4) → (¬ (fX1_leastFree N (g_wm M f (g_ml M)) a0 (3 * (g_mi (g_wm M f (g_ml M)) a1 4))) = (-1)) → EX1_letGo N (g_wi (g_wi (g_wi (g_wm M f (g_ml M)) (a0 + 2) ((g_mi (g_wm M f (g_ml M)) a0 8)).toNatClampNeg (g_mi (g_wm M f (g_ml M)) (a0 + 5) ((fX1_leastFree N (g_wm M f (g_ml M)) a0 (3 * (g_mi (g_wm M f (g_ml M)) a1 4)))).toNatClampNeg)) (a0 + 3) ((g_mi (g_wi (g_wm M f (g_ml M)) (a0 + 2) ((g_mi (g_wm M f (g_ml M)) a0 8)).toNatClampNeg (g_mi (g_wm M f (g_ml M)) (a0 + 5) ((fX1_leastFree N (g_wm M f (g_ml M)) a0 (3 * (g_mi (g_wm M f (g_ml M)) a1 4)))).toNatClampNeg)) a0 8)).toNatClampNeg (fX1_leastFree N (g_wm M f (g_ml M)) a0 (3 * (g_mi (g_wm M f (g_ml M)) a1 4)))) a0 8 ((g_mi (g_wi (g_wi (g_wm M f (g_ml M)) (a0 + 2) ((g_mi (g_wm M f (g_ml M)) a0 8)).toNatClampNeg (g_mi (g_wm M f (g_ml M)) (a0 + 5) ((fX1_leastFree N (g_wm M f (g_ml M)) a0 (3 * (g_mi (g_wm M f (g_ml M)) a1 4)))).toNatClampNeg)) (a0 + 3) ((g_mi (g_wi (g_wm M f (g_ml M)) (a0 + 2) ((g_mi (g_wm M f (g_ml M)) a0 8)).toNatClampNeg (g_mi (g_wm M f (g_ml M)) (a0 + 5) ((fX1_leastFree N (g_wm M f (g_ml M)) a0 (3 * (g_mi (g_wm M f (g_ml M)) a1 4)))).toNatClampNeg)) a0 8)).toNatClampNeg (fX1_leastFree N (g_wm M f (g_ml M)) a0 (3 * (g_mi (g_wm M f (g_ml M)) a1 4)))) a0 8) + 1)) a0 (g_mi (g_wi (g_wi (g_wi (g_wm M f (g_ml M)) (a0 + 2) ((g_mi (g_wm M f (g_ml M)) a0 8)).toNatClampNeg (g_mi (g_wm M f (g_ml M)) (a0 + 5) ((fX1_leastFree N (g_wm M f (g_ml M)) a0 (3 * (g_mi (g_wm M f (g_ml M)) a1 4)))).toNatClampNeg)) (a0 + 3) ((g_mi (g_wi (g_wm M f (g_ml M)) (a0 + 2) ((g_mi (g_wm M f (g_ml M)) a0 8)).toNatClampNeg (g_mi (g_wm M f (g_ml M)) (a0 + 5) ((fX1_leastFree N (g_wm M f (g_ml M)) a0 (3 * (g_mi (g_wm M f (g_ml M)) a1 4)))).toNatClampNeg)) a0 8)).toNatClampNeg (fX1_leastFree N (g_wm M f (g_ml M)) a0 (3 * (g_mi (g_wm M f (g_ml M)) a1 4)))) a0 8 ((g_mi (g_wi (g_wi (g_wm M f (g_ml M)) (a0 + 2) ((g_mi (g_wm M f (g_ml M)) a0 8)).toNatClampNeg (g_mi (g_wm M f (g_ml M)) (a0 + 5) ((fX1_leastFree N (g_wm M f (g_ml M)) a0 (3 * (g_mi (g_wm M f (g_ml M)) a1 4)))).toNatClampNeg)) (a0 + 3) ((g_mi (g_wi (g_wm M f (g_ml M)) (a0 + 2) ((g_mi (g_wm M f (g_ml M)) a0 8)).toNatClampNeg (g_mi (g_wm M f (g_ml M)) (a0 + 5) ((fX1_leastFree N (g_wm M f (g_ml M)) a0 (3 * (g_mi (g_wm M f (g_ml M)) a1 4)))).toNatClampNeg)) a0 8)).toNatClampNeg (fX1_leastFree N (g_wm M f (g_ml M)) a0 (3 * (g_mi (g_wm M f (g_ml M)) a1 4)))) a0 8) + 1)) (a0 + 5) ((fX1_leastFree N (g_wm M f (g_ml M)) a0 (3 * (g_mi (g_wm M f (g_ml M)) a1 4)))).toNatClampNeg) 0) ∧ (if (g_mi (g_wm M f (g_ml M)) a1 3) ≤ x4 then True else (if (fX1_leastFree N (g_wm M f (g_ml M)) a0 (3 * (g_mi (g_wm M f (g_ml M)) a1 4))) = (-1) then True else (k 1 (g_mi (mX1_letGo N (g_wi (g_wi (g_wi (g_wm M f (g_ml M)) (a0 + 2) ((g_mi (g_wm M f (g_ml M)) a0 8)).toNatClampNeg (g_mi (g_wm M f (g_ml M)) (a0 + 5) ((fX1_leastFree N (g_wm M f (g_ml M)) a0 (3 * (g_mi (g_wm M f (g_ml M)) a1 4)))).toNatClampNeg)) (a0 + 3) ((g_mi (g_wi (g_wm M f (g_ml M)) (a0 + 2) ((g_mi (g_wm M f (g_ml M)) a0 8)).toNatClampNeg (g_mi (g_wm M f (g_ml M)) (a0 + 5) ((fX1_leastFree N (g_wm M f (g_ml M)) a0 (3 * (g_mi (g_wm M f (g_ml M)) a1 4)))).toNatClampNeg)) a0 8)).toNatClampNeg (fX1_leastFree N (g_wm M f (g_ml M)) a0 (3 * (g_mi (g_wm M f (g_ml M)) a1 4)))) a0 8 ((g_mi (g_wi (g_wi (g_wm M f (g_ml M)) (a0 + 2) ((g_mi (g_wm M f (g_ml M)) a0 8)).toNatClampNeg (g_mi (g_wm M f (g_ml M)) (a0 + 5) ((fX1_leastFree N (g_wm M f (g_ml M)) a0 (3 * (g_mi (g_wm M f (g_ml M)) a1 4)))).toNatClampNeg)) (a0 + 3) ((g_mi (g_wi (g_wm M f (g_ml M)) (a0 + 2) ((g_mi (g_wm M f (g_ml M)) a0 8)).toNatClampNeg (g_mi (g_wm M f (g_ml M)) (a0 + 5) ((fX1_leastFree N (g_wm M f (g_ml M)) a0 (3 * (g_mi (g_wm M f (g_ml M)) a1 4)))).toNatClampNeg)) a0 8)).toNatClampNeg (fX1_leastFree N (g_wm M f (g_ml M)) a0 (3 * (g_mi (g_wm M f (g_ml M)) a1 4)))) a0 8) + 1)) a0 (g_mi (g_wi (g_wi (g_wi (g_wm M f (g_ml M)) (a0 + 2) ((g_mi (g_wm M f (g_ml M)) a0 8)).toNatClampNeg (g_mi (g_wm M f (g_ml M)) (a0 + 5) ((fX1_leastFree N (g_wm M f (g_ml M)) a0 (3 * (g_mi (g_wm M f (g_ml M)) a1 4)))).toNatClampNeg)) (a0 + 3) ((g_mi (g_wi (g_wm M f (g_ml M)) (a0 + 2) ((g_mi (g_wm M f (g_ml M)) a0 8)).toNatClampNeg (g_mi (g_wm M f (g_ml M)) (a0 + 5) ((fX1_leastFree N (g_wm M f (g_ml M)) a0 (3 * (g_mi (g_wm M f (g_ml M)) a1 4)))).toNatClampNeg)) a0 8)).toNatClampNeg (fX1_leastFree N (g_wm M f (g_ml M)) a0 (3 * (g_mi (g_wm M f (g_ml M)) a1 4)))) a0 8 ((g_mi (g_wi (g_wi (g_wm M f (g_ml M)) (a0 + 2) ((g_mi (g_wm M f (g_ml M)) a0 8)).toNatClampNeg (g_mi (g_wm M f (g_ml M)) (a0 + 5) ((fX1_leastFree N (g_wm M f (g_ml M)) a0 (3 * (g_mi (g_wm M f (g_ml M)) a1 4)))).toNatClampNeg)) (a0 + 3) ((g_mi (g_wi (g_wm M f (g_ml M)) (a0 + 2) ((g_mi (g_wm M f (g_ml M)) a0 8)).toNatClampNeg (g_mi (g_wm M f (g_ml M)) (a0 + 5) ((fX1_leastFree N (g_wm M f (g_ml M)) a0 (3 * (g_mi (g_wm M f (g_ml M)) a1 4)))).toNatClampNeg)) a0 8)).toNatClampNeg (fX1_leastFree N (g_wm M f (g_ml M)) a0 (3 * (g_mi (g_wm M f (g_ml M)) a1 4)))) a0 8) + 1)) (a0 + 5) ((fX1_leastFree N (g_wm M f (g_ml M)) a0 (3 * (g_mi (g_wm M f (g_ml M)) a1 4)))).toNatClampNeg) 0)) a0 a1 0 0 0 0 (x4 + 1))))
def wX1_peel (N : Nat) (M : gM) : Nat → Nat → (Nat → Nat → Int32) → Nat → Nat → Int32 → Nat → Nat → Nat → Int32 → Int32 × (Nat → Nat → Int32)
  | 0, _, f, _, _, _, _, _, _, _ => (0, f)
  | n + 1, h, f, a0, a1, x2, a3, n3, m3, x4 => if h = 0 then bX1_peel_13 N M f a0 a1 x2 a3 n3 m3 x4 (wX1_peel N M n) else bX1_peel_64 N M f a0 a1 x4 (wX1_peel N M n)
def vX1_peel (N : Nat) (M : gM) : Nat → Nat → (Nat → Nat → Int32) → Nat → Nat → Int32 → Nat → Nat → Nat → Int32 → Prop
  | 0, _, _, _, _, _, _, _, _, _ => False
  | n + 1, h, f, a0, a1, x2, a3, n3, m3, x4 => if h = 0 then eX1_peel_13 N M f a0 a1 x2 a3 n3 m3 x4 (vX1_peel N M n) else eX1_peel_64 N M f a0 a1 x4 (vX1_peel N M n)
set_option maxRecDepth 10000 in
theorem lpX1_peel {X : gX} {d mc ms : Nat} {Q : Option Value → gM → Prop} (N : Nat) (M : gM) : ∀ n : Nat, (∀ (f : Nat → Nat → Int32) (a0 : Nat) (a1 : Nat) (x2 : Int32) (a3 : Nat) (n3 : Nat) (m3 : Nat) (x4 : Int32), Pe M a0 → St M a1 → Tx M a3 n3 m3 → vX1_peel N M n 0 f a0 a1 x2 a3 n3 m3 x4 → Q none (g_wm M (wX1_peel N M n 0 f a0 a1 x2 a3 n3 m3 x4).2 (g_ml M)) → Go X (d + 3) mc ms kX1_peel Q 13 [(0, .ref a0), (1, .ref a1), (2, .int (x2)), (3, .ref a3), (4, .int (x4))] [] (g_wm M f (g_ml M)) 0 0) ∧ (∀ (f : Nat → Nat → Int32) (a0 : Nat) (a1 : Nat) (x2 : Int32) (a3 : Nat) (n3 : Nat) (m3 : Nat) (x4 : Int32), Pe M a0 → St M a1 → vX1_peel N M n 1 f a0 a1 x2 a3 n3 m3 x4 → Q none (g_wm M (wX1_peel N M n 1 f a0 a1 x2 a3 n3 m3 x4).2 (g_ml M)) → Go X (d + 3) mc ms kX1_peel Q 64 [(0, .ref a0), (1, .ref a1), (4, .int (x4))] [] (g_wm M f (g_ml M)) 0 0) := by
  intro n
  induction n with
  | zero => exact ⟨fun _ _ _ _ _ _ _ _ _ _ _ h _ => h.elim, fun _ _ _ _ _ _ _ _ _ _ h _ => h.elim⟩
  | succ n ih =>
    refine ⟨?_, ?_⟩
    · intro f a0 a1 x2 a3 n3 m3 x4 s0 s1 s3 hT hQ
      rw [vX1_peel, if_pos (show (0 : Nat) = 0 from rfl)] at hT
      rw [wX1_peel, if_pos (show (0 : Nat) = 0 from rfl)] at hQ
      unfold bX1_peel_13 at hQ
      unfold eX1_peel_13 at hT
      obtain ⟨b2, b5, hT⟩ := hT
      exact sX1_peel_13 (M := (g_wm M f (g_ml M))) (Pe.sm Sm.wm s0) (St.sm Sm.wm s1) (Tx.sm Sm.wm s3) (fun c1 => by simp only [if_pos c1] at hQ hT; exact Sm.g (Sm.tr Sm.wm (Sm.wi Sm.rf)) (ih.2 _ _ _ _ _ _ _ _ (s0) (s1) hT hQ)) b2 (Nat.zero_le _) (Nat.zero_le _) b5 (fun c1 => by simp only [if_neg c1] at hQ hT; exact Sm.g (Sm.tr Sm.wm (Sm.wi (Sm.tr Sm.rf jX4_rankOf))) (ih.1 _ _ _ _ _ _ _ _ (s0) (s1) (s3) hT hQ))
    · intro f a0 a1 x2 a3 n3 m3 x4 s0 s1 hT hQ
      rw [vX1_peel, if_neg (show ¬ (1 : Nat) = 0 by decide)] at hT
      rw [wX1_peel, if_neg (show ¬ (1 : Nat) = 0 by decide)] at hQ
      unfold bX1_peel_64 at hQ
      unfold eX1_peel_64 at hT
      obtain ⟨b4, b5, b6, b7, b8, hT⟩ := hT
      exact sX1_peel_64 (M := (g_wm M f (g_ml M))) (Pe.sm Sm.wm s0) (St.sm Sm.wm s1) (fun c1 => by simp only [if_pos c1] at hQ; exact Sm.q Sm.wm hQ) (Nat.zero_le _) (Nat.zero_le _) b4 b5 b6 b7 b8 (fun c1 c2 => by simp only [if_neg c1, if_neg c2] at hQ hT; exact Sm.g (Sm.tr Sm.wm (Sm.tr (Sm.wi (Sm.wi (Sm.wi Sm.rf))) jX1_letGo)) (ih.2 _ _ _ _ _ _ _ _ (s0) (s1) hT hQ)) (fun c1 c2 => by simp only [if_neg c1, if_pos c2] at hQ; exact Sm.q Sm.wm hQ)
def mX1_peel (N : Nat) (M : gM) (a0 : Nat) (a1 : Nat) (x2 : Int32) (a3 : Nat) (n3 : Nat) (m3 : Nat) : gM := g_wm M (bX1_peel_0 N M a0 a1 x2 a3 n3 m3 (wX1_peel N M N)).2 (g_ml M)
theorem jX1_peel {N : Nat} {M : gM} {a0 : Nat} {a1 : Nat} {x2 : Int32} {a3 : Nat} {n3 : Nat} {m3 : Nat} : Sm M (mX1_peel N M a0 a1 x2 a3 n3 m3) := Sm.wm
def EX1_peel (N : Nat) (M : gM) (a0 : Nat) (a1 : Nat) (x2 : Int32) (a3 : Nat) (n3 : Nat) (m3 : Nat) : Prop := eX1_peel_0 N M a0 a1 x2 a3 n3 m3 (vX1_peel N M N)
theorem tX1_peel {N : Nat} {X : gX} {d mc ms : Nat} {Q : Option Value → gM → Prop} {M : gM} {a0 : Nat} {a1 : Nat} {x2 : Int32} {a3 : Nat} {n3 m3 : Nat} (s0 : Pe M a0) (s1 : St M a1) (s3 : Tx M a3 n3 m3) (hE : EX1_peel N M a0 a1 x2 a3 n3 m3) (hQ : Q none (mX1_peel N M a0 a1 x2 a3 n3 m3)) : Cn X (d + 3) mc ms kX1_peel [.ref a0, .ref a1, .int (x2), .ref a3] M Q := by
  unfold mX1_peel at hQ
  unfold bX1_peel_0 at hQ
  unfold EX1_peel eX1_peel_0 at hE
  obtain ⟨b1, hT⟩ := hE
  have ih := lpX1_peel (X := X) (d := d) (mc := mc) (ms := ms) (Q := Q) N M N
  exact sX1_peel_0 s0 s1 s3 b1 (Sm.g (Sm.tr Sm.rf jX1_lay) (ih.1 _ _ _ _ _ _ _ _ (s0) (s1) (s3) hT hQ))
/-! X8_undo  -/
set_option maxRecDepth 4000 in
theorem sX8_undo_0 {X : gX} {d mc ms : Nat} {Q : Option Value → gM → Prop} {M : gM} {a0 : Nat} (s0 : Ph M a0) (b1 : EX0_takeBack M (a0 + 13) ((a0 + 1) + 1)) (h2 : (0 ≤ (fX0_takeBack M (a0 + 13) ((a0 + 1) + 1))) → Q (some (.int ((fX8_accept a0 (fX0_takeBack M (a0 + 13) ((a0 + 1) + 1)))))) (mX8_accept (mX0_takeBack M (a0 + 13) ((a0 + 1) + 1)) a0 (fX0_takeBack M (a0 + 13) ((a0 + 1) + 1)))) (h3 : (¬ 0 ≤ (fX0_takeBack M (a0 + 13) ((a0 + 1) + 1))) → Q (some (.int ((fX8_refuse a0 (fX0_takeBack M (a0 + 13) ((a0 + 1) + 1)))))) (mX8_refuse (mX0_takeBack M (a0 + 13) ((a0 + 1) + 1)) a0 (fX0_takeBack M (a0 + 13) ((a0 + 1) + 1)))) : Cn X (d + 4) mc ms kX8_undo [.ref a0] M Q := by
  refine g_meth rfl rfl (Nat.le_of_ble_eq_true rfl) rfl ?_
  refine g_aload_n 0 1 dX8_undo_0 rfl rfl ?_
  refine g_getR 4 (a0 + 13) dX8_undo_1 rfl flX8_25 s0.1 s0.2.2.2.2.2.1 ?_
  refine g_aload_n 0 5 dX8_undo_4 rfl rfl ?_
  refine g_getR 8 (a0 + 1) dX8_undo_5 rfl flX8_14 s0.1 s0.2.1 ?_
  refine g_getR 11 ((a0 + 1) + 1) dX8_undo_8 rfl flX8_102 s0.2.2.1.1 s0.2.2.1.2.1 ?_
  refine g_callV (mc1 := 0) (ms1 := 0) (b := (a0 + 13)) (rest := []) (av := [.ref ((a0 + 1) + 1)]) kX0_takeBack 14 dX8_undo_11 rfl rfl mbX8_222 imX0_takeBack seX0_takeBack gcl0.1 s0.2.2.2.2.2.2.1.1 (Nat.le_of_ble_eq_true rfl) (Nat.zero_le _) (Nat.zero_le _) (tX0_takeBack s0.2.2.2.2.2.2.1 s0.2.2.1.2.2.1 (b1) ?_)
  show Go X (d + 4) mc ms kX8_undo Q 14 [(0, .ref a0)] [.int ((fX0_takeBack M (a0 + 13) ((a0 + 1) + 1)))] (mX0_takeBack M (a0 + 13) ((a0 + 1) + 1)) 0 0
  refine g_istore_n 15 [(1, .int ((fX0_takeBack M (a0 + 13) ((a0 + 1) + 1)))), (0, .ref a0)] dX8_undo_14 rfl (Nat.le_of_ble_eq_true rfl) rfl ?_
  refine g_iload_n 0 16 dX8_undo_15 rfl rfl ?_
  refine g_if_ge 27 19 dX8_undo_16 rfl rfl (fun c1 => ?_) (fun c1 => ?_)
  · skip
    refine g_aload_n 1 28 dX8_undo_27 rfl rfl ?_
    refine g_iload_n 0 29 dX8_undo_28 rfl rfl ?_
    refine g_callV (mc1 := 0) (ms1 := 0) (b := a0) (rest := []) (av := [.int ((fX0_takeBack M (a0 + 13) ((a0 + 1) + 1)))]) kX8_accept 32 dX8_undo_29 rfl rfl mbX8_155 imX8_accept seX8_accept gcl8.1 (Sm.k (Sm.tr Sm.rf jX0_takeBack) s0.1) (Nat.le_of_ble_eq_true rfl) (Nat.zero_le _) (Nat.zero_le _) (tX8_accept (Ph.sm (Sm.tr Sm.rf jX0_takeBack) s0) ?_)
    show Go X (d + 4) mc ms kX8_undo Q 32 [(1, .int ((fX0_takeBack M (a0 + 13) ((a0 + 1) + 1)))), (0, .ref a0)] [.int ((fX8_accept a0 (fX0_takeBack M (a0 + 13) ((a0 + 1) + 1))))] (mX8_accept (mX0_takeBack M (a0 + 13) ((a0 + 1) + 1)) a0 (fX0_takeBack M (a0 + 13) ((a0 + 1) + 1))) 0 0
    exact g_iret dX8_undo_32 rfl (Nat.zero_le _) (Nat.zero_le _) (h2 c1)
  · skip
    refine g_aload_n 1 20 dX8_undo_19 rfl rfl ?_
    refine g_iload_n 0 21 dX8_undo_20 rfl rfl ?_
    refine g_callV (mc1 := 0) (ms1 := 0) (b := a0) (rest := []) (av := [.int ((fX0_takeBack M (a0 + 13) ((a0 + 1) + 1)))]) kX8_refuse 24 dX8_undo_21 rfl rfl mbX8_146 imX8_refuse seX8_refuse gcl8.1 (Sm.k (Sm.tr Sm.rf jX0_takeBack) s0.1) (Nat.le_of_ble_eq_true rfl) (Nat.zero_le _) (Nat.zero_le _) (tX8_refuse (Ph.sm (Sm.tr Sm.rf jX0_takeBack) s0) ?_)
    show Go X (d + 4) mc ms kX8_undo Q 24 [(1, .int ((fX0_takeBack M (a0 + 13) ((a0 + 1) + 1)))), (0, .ref a0)] [.int ((fX8_refuse a0 (fX0_takeBack M (a0 + 13) ((a0 + 1) + 1))))] (mX8_refuse (mX0_takeBack M (a0 + 13) ((a0 + 1) + 1)) a0 (fX0_takeBack M (a0 + 13) ((a0 + 1) + 1))) 0 0
    refine g_goto 32 dX8_undo_24 rfl ?_
    exact g_iret dX8_undo_32 rfl (Nat.zero_le _) (Nat.zero_le _) (h3 c1)

def fX8_undo (M : gM) (a0 : Nat) : Int32 := (if 0 ≤ (fX0_takeBack M (a0 + 13) ((a0 + 1) + 1)) then (fX8_accept a0 (fX0_takeBack M (a0 + 13) ((a0 + 1) + 1))) else (fX8_refuse a0 (fX0_takeBack M (a0 + 13) ((a0 + 1) + 1))))
def mX8_undo (M : gM) (a0 : Nat) : gM := g_wm M (if 0 ≤ (fX0_takeBack M (a0 + 13) ((a0 + 1) + 1)) then (g_mi (mX8_accept (mX0_takeBack M (a0 + 13) ((a0 + 1) + 1)) a0 (fX0_takeBack M (a0 + 13) ((a0 + 1) + 1)))) else (g_mi (mX8_refuse (mX0_takeBack M (a0 + 13) ((a0 + 1) + 1)) a0 (fX0_takeBack M (a0 + 13) ((a0 + 1) + 1))))) (g_ml M)
def EX8_undo (M : gM) (a0 : Nat) : Prop := (EX0_takeBack M (a0 + 13) ((a0 + 1) + 1))
theorem jX8_undo {M : gM} {a0 : Nat} : Sm M (mX8_undo M a0) := Sm.wm
theorem tX8_undo {X : gX} {d mc ms : Nat} {Q : Option Value → gM → Prop} {M : gM} {a0 : Nat} (s0 : Ph M a0) (hE : EX8_undo M a0) (hQ : Q (some (.int (fX8_undo M a0))) (mX8_undo M a0)) : Cn X (d + 4) mc ms kX8_undo [.ref a0] M Q := by
  unfold fX8_undo mX8_undo at hQ
  have b1 := hE
  exact sX8_undo_0 s0 b1 (fun c1 => by simp only [if_pos c1] at hQ; exact Sm.q (Sm.tr (Sm.tr Sm.rf jX0_takeBack) jX8_accept) hQ) (fun c1 => by simp only [if_neg c1] at hQ; exact Sm.q (Sm.tr (Sm.tr Sm.rf jX0_takeBack) jX8_refuse) hQ)
