/-! X8_lawNumbered (segments) -/
set_option maxRecDepth 4000 in
theorem sX8_lawNumbered_0 {X : gX} {d mc ms : Nat} {Q : Option Value → gM → Prop} {M : gM} {a0 : Nat} {x1 : Int32} (s0 : Ph M a0) (h1 : (x1 < 0) → Q (some (.ref (a0 + 296))) M) (h2 : (¬ x1 < 0) → ((g_mi M (a0 + 1) 5) ≤ x1) → Q (some (.ref (a0 + 296))) M) (b3 : (¬ x1 < 0) → (¬ (g_mi M (a0 + 1) 5) ≤ x1) → vp_in (x1) 6) (h4 : (¬ x1 < 0) → (¬ (g_mi M (a0 + 1) 5) ≤ x1) → (g_mr M ((a0 + 1) + 10) (x1).toNatClampNeg = none) → Q (some (.ref (a0 + 296))) M) (h5 : (¬ x1 < 0) → (¬ (g_mi M (a0 + 1) 5) ≤ x1) → (g_mr M ((a0 + 1) + 10) (x1).toNatClampNeg ≠ none) → Q (some (va_rf (g_mr M ((a0 + 1) + 10) (x1).toNatClampNeg))) M) : Cn X d mc ms kX8_lawNumbered [.ref a0, .int (x1)] M Q := by
  refine g_meth rfl rfl (Nat.le_of_ble_eq_true rfl) rfl ?_
  refine g_iload_n 1 1 dX8_lawNumbered_0 rfl rfl ?_
  refine g_if_lt 27 4 dX8_lawNumbered_1 rfl rfl (fun c1 => ?_) (fun c1 => ?_)
  · skip
    refine g_null 28 dX8_lawNumbered_27 rfl ?_
    refine g_astore_nN 29 [(2, .null), (0, .ref a0), (1, .int (x1))] dX8_lawNumbered_28 rfl (Nat.le_of_ble_eq_true rfl) rfl ?_
    refine g_aload_nN 0 30 dX8_lawNumbered_29 rfl rfl ?_
    refine g_ifnonnullN 33 dX8_lawNumbered_30 rfl ?_
    refine g_aload_n 1 34 dX8_lawNumbered_33 rfl rfl ?_
    refine g_getR 37 (a0 + 296) dX8_lawNumbered_34 rfl flX8_70 s0.1 s0.2.2.2.2.2.2.2.2.2.2.2.2.2.2.2.2.2.2.2.1 ?_
    refine g_goto 41 dX8_lawNumbered_37 rfl ?_
    exact g_aret dX8_lawNumbered_41 rfl (Or.inr ⟨_, rfl⟩) (Nat.zero_le _) (Nat.zero_le _) (h1 c1)
  · skip
    refine g_iload_n 1 5 dX8_lawNumbered_4 rfl rfl ?_
    refine g_aload_n 0 6 dX8_lawNumbered_5 rfl rfl ?_
    refine g_getR 9 (a0 + 1) dX8_lawNumbered_6 rfl flX8_14 s0.1 s0.2.1 ?_
    refine g_getI 12 dX8_lawNumbered_9 rfl flX8_175 s0.2.2.1.1 ?_
    refine g_icmp_ge 27 15 dX8_lawNumbered_12 rfl rfl (fun c2 => ?_) (fun c2 => ?_)
    · skip
      refine g_null 28 dX8_lawNumbered_27 rfl ?_
      refine g_astore_nN 29 [(2, .null), (0, .ref a0), (1, .int (x1))] dX8_lawNumbered_28 rfl (Nat.le_of_ble_eq_true rfl) rfl ?_
      refine g_aload_nN 0 30 dX8_lawNumbered_29 rfl rfl ?_
      refine g_ifnonnullN 33 dX8_lawNumbered_30 rfl ?_
      refine g_aload_n 1 34 dX8_lawNumbered_33 rfl rfl ?_
      refine g_getR 37 (a0 + 296) dX8_lawNumbered_34 rfl flX8_70 s0.1 s0.2.2.2.2.2.2.2.2.2.2.2.2.2.2.2.2.2.2.2.1 ?_
      refine g_goto 41 dX8_lawNumbered_37 rfl ?_
      exact g_aret dX8_lawNumbered_41 rfl (Or.inr ⟨_, rfl⟩) (Nat.zero_le _) (Nat.zero_le _) (h2 c1 c2)
    · skip
      refine g_aload_n 0 16 dX8_lawNumbered_15 rfl rfl ?_
      refine g_getR 19 (a0 + 1) dX8_lawNumbered_16 rfl flX8_14 s0.1 s0.2.1 ?_
      refine g_getR 22 ((a0 + 1) + 10) dX8_lawNumbered_19 rfl flX8_182 s0.2.2.1.1 s0.2.2.1.2.2.2.2.2.2.2.1 ?_
      refine g_iload_n 1 23 dX8_lawNumbered_22 rfl rfl ?_
      refine h_aaload (t := 5) 24 (x1).toNatClampNeg dX8_lawNumbered_23 rfl rfl s0.2.2.1.2.2.2.2.2.2.2.2 (by decide) rfl (b3 c1 c2) ?_
      refine g_goto 28 dX8_lawNumbered_24 rfl ?_
      refine g_astore_nq 29 [(2, va_rf (g_mr M ((a0 + 1) + 10) (x1).toNatClampNeg)), (0, .ref a0), (1, .int (x1))] dX8_lawNumbered_28 rfl (Nat.le_of_ble_eq_true rfl) rfl ?_
      refine g_aload_nq 0 30 dX8_lawNumbered_29 rfl rfl ?_
      refine g_ifnonnullq 40 33 dX8_lawNumbered_30 rfl rfl (fun c3 => ?_) (fun c3 => ?_)
      · skip
        refine g_aload_n 1 34 dX8_lawNumbered_33 rfl rfl ?_
        refine g_getR 37 (a0 + 296) dX8_lawNumbered_34 rfl flX8_70 s0.1 s0.2.2.2.2.2.2.2.2.2.2.2.2.2.2.2.2.2.2.2.1 ?_
        refine g_goto 41 dX8_lawNumbered_37 rfl ?_
        exact g_aret dX8_lawNumbered_41 rfl (Or.inr ⟨_, rfl⟩) (Nat.zero_le _) (Nat.zero_le _) (h4 c1 c2 c3)
      · skip
        refine g_aload_nq 0 41 dX8_lawNumbered_40 rfl rfl ?_
        exact g_aret dX8_lawNumbered_41 rfl (va_rf_or _) (Nat.zero_le _) (Nat.zero_le _) (h5 c1 c2 c3)

/-- which text a law's number tells (the empty one, if there is none) -/
def aLaw (M : gM) (a0 : Nat) (x1 : Int32) : Nat := if x1 < 0 then a0 + 296 else if g_mi M (a0 + 1) 5 ≤ x1 then a0 + 296 else (g_mr M ((a0 + 1) + 10) x1.toNatClampNeg).getD (a0 + 296)
/-- how long a row is -/
def kl (M : gM) (b : Nat) : Nat := match g_kd M b with
  | some q => q.2
  | none => 0
def TxO (M : gM) (t : Nat) : Prop := Tx M t (kl M (t + 1)) (kl M (t + 5))
def EX8_lawNumbered (M : gM) (a0 : Nat) (x1 : Int32) : Prop := ((¬ x1 < 0) → (¬ (g_mi M (a0 + 1) 5) ≤ x1) → vp_in x1 6) ∧ TxO M (aLaw M a0 x1)
theorem tX8_lawNumbered {X : gX} {d mc ms : Nat} {Q : Option Value → gM → Prop} {M : gM} {a0 : Nat} {x1 : Int32} (s0 : Ph M a0) (hE : EX8_lawNumbered M a0 x1) (hQ : Q (some (.ref (aLaw M a0 x1))) M) : Cn X d mc ms kX8_lawNumbered [.ref a0, .int (x1)] M Q := by
  unfold aLaw at hQ
  refine sX8_lawNumbered_0 s0 (fun c1 => ?_) (fun c1 c2 => ?_) hE.1 (fun c1 c2 c3 => ?_) (fun c1 c2 c3 => ?_)
  · simpa only [if_pos c1] using hQ
  · simpa only [if_neg c1, if_pos c2] using hQ
  · simp only [if_neg c1, if_neg c2, c3, Option.getD_none] at hQ
    exact hQ
  · simp only [if_neg c1, if_neg c2] at hQ
    cases h : g_mr M ((a0 + 1) + 10) x1.toNatClampNeg with
    | none => exact absurd h c3
    | some b =>
      rw [h] at hQ
      exact hQ
theorem Sm.sy {M M2 : gM} (h : Sm M M2) : Sm M2 M := ⟨h.1.symm, h.2.1.symm, h.2.2.1.symm, h.2.2.2.symm⟩
theorem Sl.sy {M M2 : gM} (h : Sl M M2) : Sl M2 M := ⟨h.1.symm, h.2.1.symm, h.2.2.symm⟩

/-! X8_lawInForce (segments) -/
set_option maxRecDepth 4000 in
theorem sX8_lawInForce_0 {X : gX} {d mc ms : Nat} {Q : Option Value → gM → Prop} {M : gM} {a0 : Nat} (s0 : Ph M a0) (b1 : EX8_lawNumbered M a0 (g_mi M (a0 + 1) 6)) (h2 : Q (some (.ref (aLaw M a0 (g_mi M (a0 + 1) 6)))) M) : Cn X (d + 1) mc ms kX8_lawInForce [.ref a0] M Q := by
  refine g_meth rfl rfl (Nat.le_of_ble_eq_true rfl) rfl ?_
  refine g_aload_n 0 1 dX8_lawInForce_0 rfl rfl ?_
  refine g_aload_n 0 2 dX8_lawInForce_1 rfl rfl ?_
  refine g_getR 5 (a0 + 1) dX8_lawInForce_2 rfl flX8_14 s0.1 s0.2.1 ?_
  refine g_getI 8 dX8_lawInForce_5 rfl flX8_215 s0.2.2.1.1 ?_
  refine g_callV (mc1 := 0) (ms1 := 0) (b := a0) (rest := []) (av := [.int ((g_mi M (a0 + 1) 6))]) kX8_lawNumbered 11 dX8_lawInForce_8 rfl rfl mbX8_316 imX8_lawNumbered seX8_lawNumbered gcl8.1 s0.1 (Nat.le_of_ble_eq_true rfl) (Nat.zero_le _) (Nat.zero_le _) (tX8_lawNumbered s0 (b1) ?_)
  show Go X (d + 1) mc ms kX8_lawInForce Q 11 [(0, .ref a0)] [.ref (aLaw M a0 (g_mi M (a0 + 1) 6))] M 0 0
  exact g_aret dX8_lawInForce_11 rfl (Or.inr ⟨_, rfl⟩) (Nat.zero_le _) (Nat.zero_le _) (h2)

/-! J9_floorMod_7cf53  -/
set_option maxRecDepth 4000 in
theorem sJ9_floorMod_7cf53_0 {X : gX} {d mc ms : Nat} {Q : Option Value → gM → Prop} {M : gM} {x0 : Int32} {x1 : Int32} (b1 : ¬ (x1 : Int32) = 0) (h2 : (0 ≤ (x0 ^^^ x1)) → Q (some (.int ((i_rm x0 x1)))) M) (h3 : (¬ 0 ≤ (x0 ^^^ x1)) → ((i_rm x0 x1) = 0) → Q (some (.int ((i_rm x0 x1)))) M) (h4 : (¬ 0 ≤ (x0 ^^^ x1)) → (¬ (i_rm x0 x1) = 0) → Q (some (.int (((i_rm x0 x1) + x1)))) M) : Cn X d mc ms kJ9_floorMod_7cf53 [.int (x0), .int (x1)] M Q := by
  refine g_methF (by decide +kernel) rfl (Nat.le_of_ble_eq_true rfl) rfl ?_
  refine g_iload_n 0 1 dJ9_floorMod_7cf53_0 rfl rfl ?_
  refine g_iload_n 1 2 dJ9_floorMod_7cf53_1 rfl rfl ?_
  refine h_irem 3 dJ9_floorMod_7cf53_2 rfl (b1) ?_
  refine g_istore_n 4 [(2, .int ((i_rm x0 x1))), (0, .int (x0)), (1, .int (x1))] dJ9_floorMod_7cf53_3 rfl (Nat.le_of_ble_eq_true rfl) rfl ?_
  refine g_iload_n 1 5 dJ9_floorMod_7cf53_4 rfl rfl ?_
  refine g_iload_n 2 6 dJ9_floorMod_7cf53_5 rfl rfl ?_
  refine g_ixor 7 dJ9_floorMod_7cf53_6 rfl ?_
  refine g_if_ge 18 10 dJ9_floorMod_7cf53_7 rfl rfl (fun c1 => ?_) (fun c1 => ?_)
  · skip
    refine g_iload_n 0 19 dJ9_floorMod_7cf53_18 rfl rfl ?_
    exact g_iret dJ9_floorMod_7cf53_19 rfl (Nat.zero_le _) (Nat.zero_le _) (h2 c1)
  · skip
    refine g_iload_n 0 11 dJ9_floorMod_7cf53_10 rfl rfl ?_
    refine g_if_eq 18 14 dJ9_floorMod_7cf53_11 rfl rfl (fun c2 => ?_) (fun c2 => ?_)
    · skip
      refine g_iload_n 0 19 dJ9_floorMod_7cf53_18 rfl rfl ?_
      exact g_iret dJ9_floorMod_7cf53_19 rfl (Nat.zero_le _) (Nat.zero_le _) (h3 c1 c2)
    · skip
      refine g_iload_n 0 15 dJ9_floorMod_7cf53_14 rfl rfl ?_
      refine g_iload_n 2 16 dJ9_floorMod_7cf53_15 rfl rfl ?_
      refine g_iadd 17 dJ9_floorMod_7cf53_16 rfl ?_
      exact g_iret dJ9_floorMod_7cf53_17 rfl (Nat.zero_le _) (Nat.zero_le _) (h4 c1 c2)

def fJ9_floorMod_7cf53 (x0 : Int32) (x1 : Int32) : Int32 := (if 0 ≤ (x0 ^^^ x1) then (i_rm x0 x1) else (if (i_rm x0 x1) = 0 then (i_rm x0 x1) else ((i_rm x0 x1) + x1)))
def EJ9_floorMod_7cf53 (M : gM) (x0 : Int32) (x1 : Int32) : Prop := (¬ (x1 : Int32) = 0)
theorem tJ9_floorMod_7cf53 {X : gX} {d mc ms : Nat} {Q : Option Value → gM → Prop} {M : gM} {x0 : Int32} {x1 : Int32}  (hE : EJ9_floorMod_7cf53 M x0 x1) (hQ : Q (some (.int (fJ9_floorMod_7cf53 x0 x1))) M) : Cn X d mc ms kJ9_floorMod_7cf53 [.int (x0), .int (x1)] M Q := by
  unfold fJ9_floorMod_7cf53 at hQ
  have b1 := hE
  exact sJ9_floorMod_7cf53_0 b1 (fun c1 => by simp only [if_pos c1] at hQ; exact hQ) (fun c1 c2 => by simp only [if_neg c1, if_pos c2] at hQ; exact hQ) (fun c1 c2 => by simp only [if_neg c1, if_neg c2] at hQ; exact hQ)
/-! X5_settle  -/
set_option maxRecDepth 4000 in
theorem sX5_settle_0 {X : gX} {d mc ms : Nat} {Q : Option Value → gM → Prop} {M : gM} {a0 : Nat} {x1 : Int32} {x2 : Int32} {a3 n3 : Nat} (s0 : Tb M a0) (s3 : g_kd M a3 = some (100, n3)) (h1 : Go X (d + 1) mc ms kX5_settle Q 9 [(0, .ref a0), (1, .int (x1)), (2, .int (x2)), (3, .ref a3), (4, .int (0)), (5, .int (0)), (6, .int (0))] [] M 0 0) : Cn X (d + 1) mc ms kX5_settle [.ref a0, .int (x1), .int (x2), .ref a3] M Q := by
  refine g_meth rfl rfl (Nat.le_of_ble_eq_true rfl) rfl ?_
  refine g_iconst (0) 1 dX5_settle_0 rfl rfl ?_
  refine g_istore 3 [(4, .int (0)), (0, .ref a0), (1, .int (x1)), (2, .int (x2)), (3, .ref a3)] dX5_settle_1 rfl (Nat.le_of_ble_eq_true rfl) rfl ?_
  refine g_iconst (0) 4 dX5_settle_3 rfl rfl ?_
  refine g_istore 6 [(5, .int (0)), (4, .int (0)), (0, .ref a0), (1, .int (x1)), (2, .int (x2)), (3, .ref a3)] dX5_settle_4 rfl (Nat.le_of_ble_eq_true rfl) rfl ?_
  refine g_iconst (0) 7 dX5_settle_6 rfl rfl ?_
  refine g_istore 9 [(6, .int (0)), (5, .int (0)), (4, .int (0)), (0, .ref a0), (1, .int (x1)), (2, .int (x2)), (3, .ref a3)] dX5_settle_7 rfl (Nat.le_of_ble_eq_true rfl) rfl ?_
  exact g_sub [3, 4, 5, 6, 2, 1, 0] _ rfl (h1)

set_option maxRecDepth 4000 in
theorem sX5_settle_9 {X : gX} {d mc ms : Nat} {Q : Option Value → gM → Prop} {M : gM} {c z : Nat} {a0 : Nat} {x1 : Int32} {x2 : Int32} {a3 n3 : Nat} {x4 : Int32} {x5 : Int32} {x6 : Int32} (s0 : Tb M a0) (s3 : g_kd M a3 = some (100, n3)) (h1 : (3 ≤ x6) → ((g_mi M a0 5) ≤ 0) → Q none M) (w2 : c ≤ mc) (w3 : z ≤ ms) (h4 : (3 ≤ x6) → (¬ (g_mi M a0 5) ≤ 0) → ((g_mi M a0 4) ≤ 0) → Q none M) (b5 : (3 ≤ x6) → (¬ (g_mi M a0 5) ≤ 0) → (¬ (g_mi M a0 4) ≤ 0) → ¬ ((g_mi M a0 5) : Int32) = 0) (b6 : (3 ≤ x6) → (¬ (g_mi M a0 5) ≤ 0) → (¬ (g_mi M a0 4) ≤ 0) → EJ9_floorMod_7cf53 M ((x1 / (g_mi M a0 5)) - x4) 3) (b7 : (3 ≤ x6) → (¬ (g_mi M a0 5) ≤ 0) → (¬ (g_mi M a0 4) ≤ 0) → vp_in (x1) 60) (b8 : (3 ≤ x6) → (¬ (g_mi M a0 5) ≤ 0) → (¬ (g_mi M a0 4) ≤ 0) → EJ9_floorMod_7cf53 (g_wi M (a0 + 2) (x1).toNatClampNeg (fJ9_floorMod_7cf53 ((x1 / (g_mi M a0 5)) - x4) 3)) (x2 - x5) (g_mi (g_wi M (a0 + 2) (x1).toNatClampNeg (fJ9_floorMod_7cf53 ((x1 / (g_mi M a0 5)) - x4) 3)) a0 4)) (h9 : (3 ≤ x6) → (¬ (g_mi M a0 5) ≤ 0) → (¬ (g_mi M a0 4) ≤ 0) → Q none (g_wi (g_wi M (a0 + 2) (x1).toNatClampNeg (fJ9_floorMod_7cf53 ((x1 / (g_mi M a0 5)) - x4) 3)) (a0 + 3) (x1).toNatClampNeg (fJ9_floorMod_7cf53 (x2 - x5) (g_mi (g_wi M (a0 + 2) (x1).toNatClampNeg (fJ9_floorMod_7cf53 ((x1 / (g_mi M a0 5)) - x4) 3)) a0 4)))) (b10 : (¬ 3 ≤ x6) → vp_in (((3 * x2) + x6)) n3) (h11 : (¬ 3 ≤ x6) → ((g_mi M a3 (((3 * x2) + x6)).toNatClampNeg) = x1) → Go X (d + 1) mc ms kX5_settle Q 9 [(0, .ref a0), (1, .int (x1)), (2, .int (x2)), (3, .ref a3), (4, .int (x4)), (5, .int (x5)), (6, .int ((x6 + 1)))] [] M c z) (b12 : (¬ 3 ≤ x6) → (¬ (g_mi M a3 (((3 * x2) + x6)).toNatClampNeg) = x1) → vp_in ((g_mi M a3 (((3 * x2) + x6)).toNatClampNeg)) 60) (h13 : (¬ 3 ≤ x6) → (¬ (g_mi M a3 (((3 * x2) + x6)).toNatClampNeg) = x1) → Go X (d + 1) mc ms kX5_settle Q 9 [(0, .ref a0), (1, .int (x1)), (2, .int (x2)), (3, .ref a3), (4, .int ((x4 + (g_mi M (a0 + 2) ((g_mi M a3 (((3 * x2) + x6)).toNatClampNeg)).toNatClampNeg)))), (5, .int ((x5 + (g_mi M (a0 + 3) ((g_mi M a3 (((3 * x2) + x6)).toNatClampNeg)).toNatClampNeg)))), (6, .int ((x6 + 1)))] [] M c z) : Go X (d + 1) mc ms kX5_settle Q 9 [(0, .ref a0), (1, .int (x1)), (2, .int (x2)), (3, .ref a3), (4, .int (x4)), (5, .int (x5)), (6, .int (x6))] [] M c z := by
  refine g_iload 6 11 dX5_settle_9 rfl rfl ?_
  refine g_iconst (3) 12 dX5_settle_11 rfl rfl ?_
  refine g_icmp_ge 61 15 dX5_settle_12 rfl rfl (fun c1 => ?_) (fun c1 => ?_)
  · skip
    refine g_aload_n 0 62 dX5_settle_61 rfl rfl ?_
    refine g_getI 65 dX5_settle_62 rfl flX5_21 s0.1 ?_
    refine g_if_le 111 68 dX5_settle_65 rfl rfl (fun c2 => ?_) (fun c2 => ?_)
    · skip
      exact g_vret dX5_settle_111 rfl (w2) (w3) (h1 c1 c2)
    · skip
      refine g_aload_n 0 69 dX5_settle_68 rfl rfl ?_
      refine g_getI 72 dX5_settle_69 rfl flX5_35 s0.1 ?_
      refine g_if_le 111 75 dX5_settle_72 rfl rfl (fun c3 => ?_) (fun c3 => ?_)
      · skip
        exact g_vret dX5_settle_111 rfl (w2) (w3) (h4 c1 c2 c3)
      · skip
        refine g_aload_n 0 76 dX5_settle_75 rfl rfl ?_
        refine g_getR 79 (a0 + 2) dX5_settle_76 rfl flX5_15 s0.1 s0.2.2.2.1 ?_
        refine g_iload_n 1 80 dX5_settle_79 rfl rfl ?_
        refine g_iload_n 1 81 dX5_settle_80 rfl rfl ?_
        refine g_aload_n 0 82 dX5_settle_81 rfl rfl ?_
        refine g_getI 85 dX5_settle_82 rfl flX5_21 s0.1 ?_
        refine g_idiv 86 dX5_settle_85 rfl (b5 c1 c2 c3) ?_
        refine g_iload 4 88 dX5_settle_86 rfl rfl ?_
        refine g_isub 89 dX5_settle_88 rfl ?_
        refine g_iconst (3) 90 dX5_settle_89 rfl rfl ?_
        refine g_callS (mc1 := 0) (ms1 := 0) (rest := [.int (x1), .ref (a0 + 2)]) (av := [.int (((x1 / (g_mi M a0 5)) - x4)), .int (3)]) kJ9_floorMod_7cf53 93 dX5_settle_90 rfl rfl mbX5_71 smJ9_floorMod_7cf53 (Nat.le_of_ble_eq_true rfl) (w2) (w3) (tJ9_floorMod_7cf53 (b6 c1 c2 c3) ?_)
        show Go X (d + 1) mc ms kX5_settle Q 93 [(0, .ref a0), (1, .int (x1)), (2, .int (x2)), (3, .ref a3), (4, .int (x4)), (5, .int (x5)), (6, .int (x6))] [.int ((fJ9_floorMod_7cf53 ((x1 / (g_mi M a0 5)) - x4) 3)), .int (x1), .ref (a0 + 2)] M c z
        refine h_iastore 94 (x1).toNatClampNeg dX5_settle_93 rfl rfl s0.2.2.2.2.1 (b7 c1 c2 c3) ?_
        refine g_aload_n 0 95 dX5_settle_94 rfl rfl ?_
        refine g_getR 98 (a0 + 3) dX5_settle_95 rfl flX5_18 (Sm.k (Sm.wi Sm.rf) s0.1) (Sm.r (Sm.wi Sm.rf) s0.2.2.2.2.2.1) ?_
        refine g_iload_n 1 99 dX5_settle_98 rfl rfl ?_
        refine g_iload_n 2 100 dX5_settle_99 rfl rfl ?_
        refine g_iload 5 102 dX5_settle_100 rfl rfl ?_
        refine g_isub 103 dX5_settle_102 rfl ?_
        refine g_aload_n 0 104 dX5_settle_103 rfl rfl ?_
        refine g_getI 107 dX5_settle_104 rfl flX5_35 (Sm.k (Sm.wi Sm.rf) s0.1) ?_
        refine g_callS (mc1 := 0) (ms1 := 0) (rest := [.int (x1), .ref (a0 + 3)]) (av := [.int ((x2 - x5)), .int ((g_mi (g_wi M (a0 + 2) (x1).toNatClampNeg (fJ9_floorMod_7cf53 ((x1 / (g_mi M a0 5)) - x4) 3)) a0 4))]) kJ9_floorMod_7cf53 110 dX5_settle_107 rfl rfl mbX5_71 smJ9_floorMod_7cf53 (Nat.le_of_ble_eq_true rfl) (w2) (w3) (tJ9_floorMod_7cf53 (b8 c1 c2 c3) ?_)
        show Go X (d + 1) mc ms kX5_settle Q 110 [(0, .ref a0), (1, .int (x1)), (2, .int (x2)), (3, .ref a3), (4, .int (x4)), (5, .int (x5)), (6, .int (x6))] [.int ((fJ9_floorMod_7cf53 (x2 - x5) (g_mi (g_wi M (a0 + 2) (x1).toNatClampNeg (fJ9_floorMod_7cf53 ((x1 / (g_mi M a0 5)) - x4) 3)) a0 4))), .int (x1), .ref (a0 + 3)] (g_wi M (a0 + 2) (x1).toNatClampNeg (fJ9_floorMod_7cf53 ((x1 / (g_mi M a0 5)) - x4) 3)) c z
        refine h_iastore 111 (x1).toNatClampNeg dX5_settle_110 rfl rfl (Sm.k (Sm.wi Sm.rf) s0.2.2.2.2.2.2) (b7 c1 c2 c3) ?_
        exact g_vret dX5_settle_111 rfl (w2) (w3) (h9 c1 c2 c3)
  · skip
    refine g_aload_n 3 16 dX5_settle_15 rfl rfl ?_
    refine g_iconst (3) 17 dX5_settle_16 rfl rfl ?_
    refine g_iload_n 2 18 dX5_settle_17 rfl rfl ?_
    refine g_imul 19 dX5_settle_18 rfl ?_
    refine g_iload 6 21 dX5_settle_19 rfl rfl ?_
    refine g_iadd 22 dX5_settle_21 rfl ?_
    refine h_iaload 23 (((3 * x2) + x6)).toNatClampNeg dX5_settle_22 rfl rfl s3 (b10 c1) ?_
    refine g_istore 25 [(7, .int ((g_mi M a3 (((3 * x2) + x6)).toNatClampNeg))), (0, .ref a0), (1, .int (x1)), (2, .int (x2)), (3, .ref a3), (4, .int (x4)), (5, .int (x5)), (6, .int (x6))] dX5_settle_23 rfl (Nat.le_of_ble_eq_true rfl) rfl ?_
    refine g_iload 0 27 dX5_settle_25 rfl rfl ?_
    refine g_iload_n 2 28 dX5_settle_27 rfl rfl ?_
    refine g_icmp_eq 55 31 dX5_settle_28 rfl rfl (fun c4 => ?_) (fun c4 => ?_)
    · skip
      refine g_iinc _ 7 58 [(6, .int ((x6 + 1))), (7, .int ((g_mi M a3 (((3 * x2) + x6)).toNatClampNeg))), (0, .ref a0), (1, .int (x1)), (2, .int (x2)), (3, .ref a3), (4, .int (x4)), (5, .int (x5))] dX5_settle_55 rfl rfl rfl (Nat.le_of_ble_eq_true rfl) rfl ?_
      refine g_goto 9 dX5_settle_58 rfl ?_
      exact g_sub [2, 3, 4, 5, 6, 7, 0] _ rfl (h11 c1 c4)
    · skip
      refine g_iload 5 33 dX5_settle_31 rfl rfl ?_
      refine g_aload_n 1 34 dX5_settle_33 rfl rfl ?_
      refine g_getR 37 (a0 + 2) dX5_settle_34 rfl flX5_15 s0.1 s0.2.2.2.1 ?_
      refine g_iload 0 39 dX5_settle_37 rfl rfl ?_
      refine h_iaload 40 ((g_mi M a3 (((3 * x2) + x6)).toNatClampNeg)).toNatClampNeg dX5_settle_39 rfl rfl s0.2.2.2.2.1 (b12 c1 c4) ?_
      refine g_iadd 41 dX5_settle_40 rfl ?_
      refine g_istore 43 [(4, .int ((x4 + (g_mi M (a0 + 2) ((g_mi M a3 (((3 * x2) + x6)).toNatClampNeg)).toNatClampNeg)))), (7, .int ((g_mi M a3 (((3 * x2) + x6)).toNatClampNeg))), (0, .ref a0), (1, .int (x1)), (2, .int (x2)), (3, .ref a3), (5, .int (x5)), (6, .int (x6))] dX5_settle_41 rfl (Nat.le_of_ble_eq_true rfl) rfl ?_
      refine g_iload 6 45 dX5_settle_43 rfl rfl ?_
      refine g_aload_n 2 46 dX5_settle_45 rfl rfl ?_
      refine g_getR 49 (a0 + 3) dX5_settle_46 rfl flX5_18 s0.1 s0.2.2.2.2.2.1 ?_
      refine g_iload 1 51 dX5_settle_49 rfl rfl ?_
      refine h_iaload 52 ((g_mi M a3 (((3 * x2) + x6)).toNatClampNeg)).toNatClampNeg dX5_settle_51 rfl rfl s0.2.2.2.2.2.2 (b12 c1 c4) ?_
      refine g_iadd 53 dX5_settle_52 rfl ?_
      refine g_istore 55 [(5, .int ((x5 + (g_mi M (a0 + 3) ((g_mi M a3 (((3 * x2) + x6)).toNatClampNeg)).toNatClampNeg)))), (4, .int ((x4 + (g_mi M (a0 + 2) ((g_mi M a3 (((3 * x2) + x6)).toNatClampNeg)).toNatClampNeg)))), (7, .int ((g_mi M a3 (((3 * x2) + x6)).toNatClampNeg))), (0, .ref a0), (1, .int (x1)), (2, .int (x2)), (3, .ref a3), (6, .int (x6))] dX5_settle_53 rfl (Nat.le_of_ble_eq_true rfl) rfl ?_
      refine g_iinc _ 7 58 [(6, .int ((x6 + 1))), (5, .int ((x5 + (g_mi M (a0 + 3) ((g_mi M a3 (((3 * x2) + x6)).toNatClampNeg)).toNatClampNeg)))), (4, .int ((x4 + (g_mi M (a0 + 2) ((g_mi M a3 (((3 * x2) + x6)).toNatClampNeg)).toNatClampNeg)))), (7, .int ((g_mi M a3 (((3 * x2) + x6)).toNatClampNeg))), (0, .ref a0), (1, .int (x1)), (2, .int (x2)), (3, .ref a3)] dX5_settle_55 rfl rfl rfl (Nat.le_of_ble_eq_true rfl) rfl ?_
      refine g_goto 9 dX5_settle_58 rfl ?_
      exact g_sub [4, 5, 6, 7, 2, 1, 0] _ rfl (h13 c1 c4)

def bX5_settle_0 (N : Nat) (M : gM) (a0 : Nat) (x1 : Int32) (x2 : Int32) (a3 : Nat) (n3 : Nat) (k : Nat → (Nat → Nat → Int32) → Nat → Int32 → Int32 → Nat → Nat → Int32 → Int32 → Int32 → Int32 × (Nat → Nat → Int32)) : Int32 × (Nat → Nat → Int32) := (k 0 (g_mi M) a0 x1 x2 a3 n3 0 0 0)
def eX5_settle_0 (N : Nat) (M : gM) (a0 : Nat) (x1 : Int32) (x2 : Int32) (a3 : Nat) (n3 : Nat) (k : Nat → (Nat → Nat → Int32) → Nat → Int32 → Int32 → Nat → Nat → Int32 → Int32 → Int32 → Prop) : Prop := (k 0 (g_mi M) a0 x1 x2 a3 n3 0 0 0)
def bX5_settle_9 (N : Nat) (M : gM) (f : Nat → Nat → Int32) (a0 : Nat) (x1 : Int32) (x2 : Int32) (a3 : Nat) (n3 : Nat) (x4 : Int32) (x5 : Int32) (x6 : Int32) (k : Nat → (Nat → Nat → Int32) → Nat → Int32 → Int32 → Nat → Nat → Int32 → Int32 → Int32 → Int32 × (Nat → Nat → Int32)) : Int32 × (Nat → Nat → Int32) := (if 3 ≤ x6 then (if (g_mi (g_wm M f (g_ml M)) a0 5) ≤ 0 then (0, g_mi (g_wm M f (g_ml M))) else (if (g_mi (g_wm M f (g_ml M)) a0 4) ≤ 0 then (0, g_mi (g_wm M f (g_ml M))) else (0, g_mi (g_wi (g_wi (g_wm M f (g_ml M)) (a0 + 2) (x1).toNatClampNeg (fJ9_floorMod_7cf53 ((x1 / (g_mi (g_wm M f (g_ml M)) a0 5)) - x4) 3)) (a0 + 3) (x1).toNatClampNeg (fJ9_floorMod_7cf53 (x2 - x5) (g_mi (g_wi (g_wm M f (g_ml M)) (a0 + 2) (x1).toNatClampNeg (fJ9_floorMod_7cf53 ((x1 / (g_mi (g_wm M f (g_ml M)) a0 5)) - x4) 3)) a0 4)))))) else (if (g_mi (g_wm M f (g_ml M)) a3 (((3 * x2) + x6)).toNatClampNeg) = x1 then (k 0 (g_mi (g_wm M f (g_ml M))) a0 x1 x2 a3 n3 x4 x5 (x6 + 1)) else (k 0 (g_mi (g_wm M f (g_ml M))) a0 x1 x2 a3 n3 (x4 + (g_mi (g_wm M f (g_ml M)) (a0 + 2) ((g_mi (g_wm M f (g_ml M)) a3 (((3 * x2) + x6)).toNatClampNeg)).toNatClampNeg)) (x5 + (g_mi (g_wm M f (g_ml M)) (a0 + 3) ((g_mi (g_wm M f (g_ml M)) a3 (((3 * x2) + x6)).toNatClampNeg)).toNatClampNeg)) (x6 + 1))))
def eX5_settle_9 (N : Nat) (M : gM) (f : Nat → Nat → Int32) (a0 : Nat) (x1 : Int32) (x2 : Int32) (a3 : Nat) (n3 : Nat) (x4 : Int32) (x5 : Int32) (x6 : Int32) (k : Nat → (Nat → Nat → Int32) → Nat → Int32 → Int32 → Nat → Nat → Int32 → Int32 → Int32 → Prop) : Prop := ((3 ≤ x6) → (¬ (g_mi (g_wm M f (g_ml M)) a0 5) ≤ 0) → (¬ (g_mi (g_wm M f (g_ml M)) a0 4) ≤ 0) → ¬ ((g_mi (g_wm M f (g_ml M)) a0 5) : Int32) = 0) ∧ ((3 ≤ x6) → (¬ (g_mi (g_wm M f (g_ml M)) a0 5) ≤ 0) → (¬ (g_mi (g_wm M f (g_ml M)) a0 4) ≤ 0) → EJ9_floorMod_7cf53 (g_wm M f (g_ml M)) ((x1 / (g_mi (g_wm M f (g_ml M)) a0 5)) - x4) 3) ∧ ((3 ≤ x6) → (¬ (g_mi (g_wm M f (g_ml M)) a0 5) ≤ 0) → (¬ (g_mi (g_wm M f (g_ml M)) a0 4) ≤ 0) → vp_in (x1) 60) ∧ ((3 ≤ x6) → (¬ (g_mi (g_wm M f (g_ml M)) a0 5) ≤ 0) → (¬ (g_mi (g_wm M f (g_ml M)) a0 4) ≤ 0) → EJ9_floorMod_7cf53 (g_wi (g_wm M f (g_ml M)) (a0 + 2) (x1).toNatClampNeg (fJ9_floorMod_7cf53 ((x1 / (g_mi (g_wm M f (g_ml M)) a0 5)) - x4) 3)) (x2 - x5) (g_mi (g_wi (g_wm M f (g_ml M)) (a0 + 2) (x1).toNatClampNeg (fJ9_floorMod_7cf53 ((x1 / (g_mi (g_wm M f (g_ml M)) a0 5)) - x4) 3)) a0 4)) ∧ ((¬ 3 ≤ x6) → vp_in (((3 * x2) + x6)) n3) ∧ ((¬ 3 ≤ x6) → (¬ (g_mi (g_wm M f (g_ml M)) a3 (((3 * x2) + x6)).toNatClampNeg) = x1) → vp_in ((g_mi (g_wm M f (g_ml M)) a3 (((3 * x2) + x6)).toNatClampNeg)) 60) ∧ (if 3 ≤ x6 then (if (g_mi (g_wm M f (g_ml M)) a0 5) ≤ 0 then True else (if (g_mi (g_wm M f (g_ml M)) a0 4) ≤ 0 then True else True)) else (if (g_mi (g_wm M f (g_ml M)) a3 (((3 * x2) + x6)).toNatClampNeg) = x1 then (k 0 (g_mi (g_wm M f (g_ml M))) a0 x1 x2 a3 n3 x4 x5 (x6 + 1)) else (k 0 (g_mi (g_wm M f (g_ml M))) a0 x1 x2 a3 n3 (x4 + (g_mi (g_wm M f (g_ml M)) (a0 + 2) ((g_mi (g_wm M f (g_ml M)) a3 (((3 * x2) + x6)).toNatClampNeg)).toNatClampNeg)) (x5 + (g_mi (g_wm M f (g_ml M)) (a0 + 3) ((g_mi (g_wm M f (g_ml M)) a3 (((3 * x2) + x6)).toNatClampNeg)).toNatClampNeg)) (x6 + 1))))
def wX5_settle (N : Nat) (M : gM) : Nat → Nat → (Nat → Nat → Int32) → Nat → Int32 → Int32 → Nat → Nat → Int32 → Int32 → Int32 → Int32 × (Nat → Nat → Int32)
  | 0, _, f, _, _, _, _, _, _, _, _ => (0, f)
  | n + 1, h, f, a0, x1, x2, a3, n3, x4, x5, x6 => bX5_settle_9 N M f a0 x1 x2 a3 n3 x4 x5 x6 (wX5_settle N M n)
def vX5_settle (N : Nat) (M : gM) : Nat → Nat → (Nat → Nat → Int32) → Nat → Int32 → Int32 → Nat → Nat → Int32 → Int32 → Int32 → Prop
  | 0, _, _, _, _, _, _, _, _, _, _ => False
  | n + 1, h, f, a0, x1, x2, a3, n3, x4, x5, x6 => eX5_settle_9 N M f a0 x1 x2 a3 n3 x4 x5 x6 (vX5_settle N M n)
set_option maxRecDepth 10000 in
theorem lpX5_settle {X : gX} {d mc ms : Nat} {Q : Option Value → gM → Prop} (N : Nat) (M : gM) : ∀ n : Nat, (∀ (f : Nat → Nat → Int32) (a0 : Nat) (x1 : Int32) (x2 : Int32) (a3 : Nat) (n3 : Nat) (x4 : Int32) (x5 : Int32) (x6 : Int32), Tb M a0 → g_kd M a3 = some (100, n3) → vX5_settle N M n 0 f a0 x1 x2 a3 n3 x4 x5 x6 → Q none (g_wm M (wX5_settle N M n 0 f a0 x1 x2 a3 n3 x4 x5 x6).2 (g_ml M)) → Go X (d + 1) mc ms kX5_settle Q 9 [(0, .ref a0), (1, .int (x1)), (2, .int (x2)), (3, .ref a3), (4, .int (x4)), (5, .int (x5)), (6, .int (x6))] [] (g_wm M f (g_ml M)) 0 0) := by
  intro n
  induction n with
  | zero => exact fun _ _ _ _ _ _ _ _ _ _ _ h _ => h.elim
  | succ n ih =>
    intro f a0 x1 x2 a3 n3 x4 x5 x6 s0 s3 hT hQ
    rw [vX5_settle] at hT
    rw [wX5_settle] at hQ
    unfold bX5_settle_9 at hQ
    unfold eX5_settle_9 at hT
    obtain ⟨b5, b6, b7, b8, b10, b12, hT⟩ := hT
    exact sX5_settle_9 (M := (g_wm M f (g_ml M))) (Tb.sm Sm.wm s0) (Sm.k Sm.wm s3) (fun c1 c2 => by simp only [if_pos c1, if_pos c2] at hQ; exact Sm.q Sm.wm hQ) (Nat.zero_le _) (Nat.zero_le _) (fun c1 c2 c3 => by simp only [if_pos c1, if_neg c2, if_pos c3] at hQ; exact Sm.q Sm.wm hQ) b5 b6 b7 b8 (fun c1 c2 c3 => by simp only [if_pos c1, if_neg c2, if_neg c3] at hQ; exact Sm.q (Sm.tr Sm.wm (Sm.wi (Sm.wi Sm.rf))) hQ) b10 (fun c1 c4 => by simp only [if_neg c1, if_pos c4] at hQ hT; exact Sm.g Sm.wm (ih _ _ _ _ _ _ _ _ _ (s0) (s3) hT hQ)) b12 (fun c1 c4 => by simp only [if_neg c1, if_neg c4] at hQ hT; exact Sm.g Sm.wm (ih _ _ _ _ _ _ _ _ _ (s0) (s3) hT hQ))
def mX5_settle (N : Nat) (M : gM) (a0 : Nat) (x1 : Int32) (x2 : Int32) (a3 : Nat) (n3 : Nat) : gM := g_wm M (bX5_settle_0 N M a0 x1 x2 a3 n3 (wX5_settle N M N)).2 (g_ml M)
theorem jX5_settle {N : Nat} {M : gM} {a0 : Nat} {x1 : Int32} {x2 : Int32} {a3 : Nat} {n3 : Nat} : Sm M (mX5_settle N M a0 x1 x2 a3 n3) := Sm.wm
def EX5_settle (N : Nat) (M : gM) (a0 : Nat) (x1 : Int32) (x2 : Int32) (a3 : Nat) (n3 : Nat) : Prop := eX5_settle_0 N M a0 x1 x2 a3 n3 (vX5_settle N M N)
theorem tX5_settle {N : Nat} {X : gX} {d mc ms : Nat} {Q : Option Value → gM → Prop} {M : gM} {a0 : Nat} {x1 : Int32} {x2 : Int32} {a3 : Nat} {n3 : Nat} (s0 : Tb M a0) (s3 : g_kd M a3 = some (100, n3)) (hE : EX5_settle N M a0 x1 x2 a3 n3) (hQ : Q none (mX5_settle N M a0 x1 x2 a3 n3)) : Cn X (d + 1) mc ms kX5_settle [.ref a0, .int (x1), .int (x2), .ref a3] M Q := by
  unfold mX5_settle at hQ
  unfold bX5_settle_0 at hQ
  unfold EX5_settle eX5_settle_0 at hE
  have hT := hE
  have ih := lpX5_settle (X := X) (d := d) (mc := mc) (ms := ms) (Q := Q) N M N
  exact sX5_settle_0 s0 s3 (Sm.g Sm.rf (ih _ _ _ _ _ _ _ _ _ (s0) (s3) hT hQ))
/-! X2_wordBetween  -/
set_option maxRecDepth 4000 in
theorem sX2_wordBetween_0 {X : gX} {d mc ms : Nat} {Q : Option Value → gM → Prop} {M : gM} {a0 : Nat} {x1 : Int32} {x2 : Int32} (s0 : Re M a0) (h1 : Go X (d + 4) mc ms kX2_wordBetween Q 8 [(0, .ref a0), (1, .int (x1)), (2, .int (x2)), (3, .int (0)), (4, .int (0)), (5, .int (0))] [] M 0 0) : Cn X (d + 4) mc ms kX2_wordBetween [.ref a0, .int (x1), .int (x2)] M Q := by
  refine g_meth rfl rfl (Nat.le_of_ble_eq_true rfl) rfl ?_
  refine g_iconst (0) 1 dX2_wordBetween_0 rfl rfl ?_
  refine g_istore_n 2 [(3, .int (0)), (0, .ref a0), (1, .int (x1)), (2, .int (x2))] dX2_wordBetween_1 rfl (Nat.le_of_ble_eq_true rfl) rfl ?_
  refine g_iconst (0) 3 dX2_wordBetween_2 rfl rfl ?_
  refine g_istore 5 [(4, .int (0)), (3, .int (0)), (0, .ref a0), (1, .int (x1)), (2, .int (x2))] dX2_wordBetween_3 rfl (Nat.le_of_ble_eq_true rfl) rfl ?_
  refine g_iconst (0) 6 dX2_wordBetween_5 rfl rfl ?_
  refine g_istore 8 [(5, .int (0)), (4, .int (0)), (3, .int (0)), (0, .ref a0), (1, .int (x1)), (2, .int (x2))] dX2_wordBetween_6 rfl (Nat.le_of_ble_eq_true rfl) rfl ?_
  exact g_sub [3, 4, 5, 2, 1, 0] _ rfl (h1)

set_option maxRecDepth 4000 in
theorem sX2_wordBetween_8 {X : gX} {d mc ms : Nat} {Q : Option Value → gM → Prop} {M : gM} {c z : Nat} {a0 : Nat} {x1 : Int32} {x2 : Int32} {x3 : Int32} {x4 : Int32} {x5 : Int32} (s0 : Re M a0) (w1 : c ≤ mc) (w2 : z ≤ ms) (h3 : (113 ≤ x5) → Q (some (.int (22))) M) (b4 : (¬ 113 ≤ x5) → vp_in (x5) 113) (b5 : (¬ 113 ≤ x5) → x5 < 113) (h6 : (¬ 113 ≤ x5) → ((g_vch x5) = 32) → (¬ x4 = (x2 - x1)) → Go X (d + 4) mc ms kX2_wordBetween Q 8 [(0, .ref a0), (1, .int (x1)), (2, .int (x2)), (3, .int ((x3 + 1))), (4, .int (0)), (5, .int ((x5 + 1)))] [] M c z) (h7 : (¬ 113 ≤ x5) → ((g_vch x5) = 32) → (x4 = (x2 - x1)) → Q (some (.int (x3))) M) (h8 : (¬ 113 ≤ x5) → (¬ (g_vch x5) = 32) → (x4 = (-1)) → Go X (d + 4) mc ms kX2_wordBetween Q 8 [(0, .ref a0), (1, .int (x1)), (2, .int (x2)), (3, .int (x3)), (4, .int ((-1))), (5, .int ((x5 + 1)))] [] M c z) (h9 : (¬ 113 ≤ x5) → (¬ (g_vch x5) = 32) → (¬ x4 = (-1)) → (x2 ≤ (x1 + x4)) → Go X (d + 4) mc ms kX2_wordBetween Q 8 [(0, .ref a0), (1, .int (x1)), (2, .int (x2)), (3, .int (x3)), (4, .int ((-1))), (5, .int ((x5 + 1)))] [] M c z) (b10 : (¬ 113 ≤ x5) → (¬ (g_vch x5) = 32) → (¬ x4 = (-1)) → (¬ x2 ≤ (x1 + x4)) → vp_in ((x1 + x4)) 400) (h11 : (¬ 113 ≤ x5) → (¬ (g_vch x5) = 32) → (¬ x4 = (-1)) → (¬ x2 ≤ (x1 + x4)) → (¬ (g_mi M (a0 + 1) ((x1 + x4)).toNatClampNeg) = (g_vch x5)) → Go X (d + 4) mc ms kX2_wordBetween Q 8 [(0, .ref a0), (1, .int (x1)), (2, .int (x2)), (3, .int (x3)), (4, .int ((-1))), (5, .int ((x5 + 1)))] [] M c z) (h12 : (¬ 113 ≤ x5) → (¬ (g_vch x5) = 32) → (¬ x4 = (-1)) → (¬ x2 ≤ (x1 + x4)) → ((g_mi M (a0 + 1) ((x1 + x4)).toNatClampNeg) = (g_vch x5)) → Go X (d + 4) mc ms kX2_wordBetween Q 8 [(0, .ref a0), (1, .int (x1)), (2, .int (x2)), (3, .int (x3)), (4, .int ((x4 + 1))), (5, .int ((x5 + 1)))] [] M c z) : Go X (d + 4) mc ms kX2_wordBetween Q 8 [(0, .ref a0), (1, .int (x1)), (2, .int (x2)), (3, .int (x3)), (4, .int (x4)), (5, .int (x5))] [] M c z := by
  refine g_iload 5 10 dX2_wordBetween_8 rfl rfl ?_
  refine g_ldcS 12 dX2_wordBetween_10 rfl rfl ?_
  refine g_callVS (rest := [.int (x5)]) (av := []) kJ0_length_8abf5 15 dX2_wordBetween_12 rfl rfl mbX2_91 imJ0_length_8abf5 seJ0_length_8abf5 (Nat.le_of_ble_eq_true rfl) (w1) (w2) (tJ0_len ?_)
  show Go X (d + 4) mc ms kX2_wordBetween Q 15 [(0, .ref a0), (1, .int (x1)), (2, .int (x2)), (3, .int (x3)), (4, .int (x4)), (5, .int (x5))] [.int (113), .int (x5)] M c z
  refine g_icmp_ge 109 18 dX2_wordBetween_15 rfl rfl (fun c1 => ?_) (fun c1 => ?_)
  · skip
    refine g_bipush (22) 111 dX2_wordBetween_109 rfl rfl ?_
    exact g_iret dX2_wordBetween_111 rfl (w1) (w2) (h3 c1)
  · skip
    refine g_ldcS 20 dX2_wordBetween_18 rfl rfl ?_
    refine g_iload 5 22 dX2_wordBetween_20 rfl rfl ?_
    refine g_callVS (rest := []) (av := [.int (x5)]) kJ0_charAt_5068e 25 dX2_wordBetween_22 rfl rfl mbX2_96 imJ0_charAt_5068e seJ0_charAt_5068e (Nat.le_of_ble_eq_true rfl) (w1) (w2) (tJ0_char (b4 c1) (b5 c1) ?_)
    show Go X (d + 4) mc ms kX2_wordBetween Q 25 [(0, .ref a0), (1, .int (x1)), (2, .int (x2)), (3, .int (x3)), (4, .int (x4)), (5, .int (x5))] [.int ((g_vch x5))] M c z
    refine g_istore 27 [(6, .int ((g_vch x5))), (0, .ref a0), (1, .int (x1)), (2, .int (x2)), (3, .int (x3)), (4, .int (x4)), (5, .int (x5))] dX2_wordBetween_25 rfl (Nat.le_of_ble_eq_true rfl) rfl ?_
    refine g_iload 0 29 dX2_wordBetween_27 rfl rfl ?_
    refine g_bipush (32) 31 dX2_wordBetween_29 rfl rfl ?_
    refine g_icmp_eq 87 34 dX2_wordBetween_31 rfl rfl (fun c2 => ?_) (fun c2 => ?_)
    · skip
      refine g_iload 5 89 dX2_wordBetween_87 rfl rfl ?_
      refine g_iload_n 3 90 dX2_wordBetween_89 rfl rfl ?_
      refine g_iload_n 2 91 dX2_wordBetween_90 rfl rfl ?_
      refine g_isub 92 dX2_wordBetween_91 rfl ?_
      refine g_icmp_ne 97 95 dX2_wordBetween_92 rfl rfl (fun c3 => ?_) (fun c3 => ?_)
      · skip
        refine g_iinc _ 4 100 [(3, .int ((x3 + 1))), (6, .int ((g_vch x5))), (0, .ref a0), (1, .int (x1)), (2, .int (x2)), (4, .int (x4)), (5, .int (x5))] dX2_wordBetween_97 rfl rfl rfl (Nat.le_of_ble_eq_true rfl) rfl ?_
        refine g_iconst (0) 101 dX2_wordBetween_100 rfl rfl ?_
        refine g_istore 103 [(4, .int (0)), (3, .int ((x3 + 1))), (6, .int ((g_vch x5))), (0, .ref a0), (1, .int (x1)), (2, .int (x2)), (5, .int (x5))] dX2_wordBetween_101 rfl (Nat.le_of_ble_eq_true rfl) rfl ?_
        refine g_iinc _ 6 106 [(5, .int ((x5 + 1))), (4, .int (0)), (3, .int ((x3 + 1))), (6, .int ((g_vch x5))), (0, .ref a0), (1, .int (x1)), (2, .int (x2))] dX2_wordBetween_103 rfl rfl rfl (Nat.le_of_ble_eq_true rfl) rfl ?_
        refine g_goto 8 dX2_wordBetween_106 rfl ?_
        exact g_sub [4, 5, 6, 2, 1, 0] _ rfl (h6 c1 c2 c3)
      · skip
        refine g_iload_n 4 96 dX2_wordBetween_95 rfl rfl ?_
        exact g_iret dX2_wordBetween_96 rfl (w1) (w2) (h7 c1 c2 c3)
    · skip
      refine g_iload 5 36 dX2_wordBetween_34 rfl rfl ?_
      refine g_iconst ((-1)) 37 dX2_wordBetween_36 rfl rfl ?_
      refine g_icmp_eq 66 40 dX2_wordBetween_37 rfl rfl (fun c4 => ?_) (fun c4 => ?_)
      · skip
        refine g_iconst (0) 67 dX2_wordBetween_66 rfl rfl ?_
        refine g_istore 69 [(7, .int (0)), (6, .int ((g_vch x5))), (0, .ref a0), (1, .int (x1)), (2, .int (x2)), (3, .int (x3)), (4, .int (x4)), (5, .int (x5))] dX2_wordBetween_67 rfl (Nat.le_of_ble_eq_true rfl) rfl ?_
        refine g_iload 0 71 dX2_wordBetween_69 rfl rfl ?_
        refine g_if_eq 81 74 dX2_wordBetween_71 rfl rfl (fun _ => ?_) (fun q => absurd q (by decide))
        refine g_iconst ((-1)) 82 dX2_wordBetween_81 rfl rfl ?_
        refine g_istore 84 [(4, .int ((-1))), (7, .int (0)), (6, .int ((g_vch x5))), (0, .ref a0), (1, .int (x1)), (2, .int (x2)), (3, .int (x3)), (5, .int (x5))] dX2_wordBetween_82 rfl (Nat.le_of_ble_eq_true rfl) rfl ?_
        refine g_goto 103 dX2_wordBetween_84 rfl ?_
        refine g_iinc _ 7 106 [(5, .int ((x5 + 1))), (4, .int ((-1))), (7, .int (0)), (6, .int ((g_vch x5))), (0, .ref a0), (1, .int (x1)), (2, .int (x2)), (3, .int (x3))] dX2_wordBetween_103 rfl rfl rfl (Nat.le_of_ble_eq_true rfl) rfl ?_
        refine g_goto 8 dX2_wordBetween_106 rfl ?_
        exact g_sub [4, 5, 6, 7, 1, 0] _ rfl (h8 c1 c2 c4)
      · skip
        refine g_iload_n 2 41 dX2_wordBetween_40 rfl rfl ?_
        refine g_iload 5 43 dX2_wordBetween_41 rfl rfl ?_
        refine g_iadd 44 dX2_wordBetween_43 rfl ?_
        refine g_iload_n 3 45 dX2_wordBetween_44 rfl rfl ?_
        refine g_icmp_ge 66 48 dX2_wordBetween_45 rfl rfl (fun c5 => ?_) (fun c5 => ?_)
        · skip
          refine g_iconst (0) 67 dX2_wordBetween_66 rfl rfl ?_
          refine g_istore 69 [(7, .int (0)), (6, .int ((g_vch x5))), (0, .ref a0), (1, .int (x1)), (2, .int (x2)), (3, .int (x3)), (4, .int (x4)), (5, .int (x5))] dX2_wordBetween_67 rfl (Nat.le_of_ble_eq_true rfl) rfl ?_
          refine g_iload 0 71 dX2_wordBetween_69 rfl rfl ?_
          refine g_if_eq 81 74 dX2_wordBetween_71 rfl rfl (fun _ => ?_) (fun q => absurd q (by decide))
          refine g_iconst ((-1)) 82 dX2_wordBetween_81 rfl rfl ?_
          refine g_istore 84 [(4, .int ((-1))), (7, .int (0)), (6, .int ((g_vch x5))), (0, .ref a0), (1, .int (x1)), (2, .int (x2)), (3, .int (x3)), (5, .int (x5))] dX2_wordBetween_82 rfl (Nat.le_of_ble_eq_true rfl) rfl ?_
          refine g_goto 103 dX2_wordBetween_84 rfl ?_
          refine g_iinc _ 7 106 [(5, .int ((x5 + 1))), (4, .int ((-1))), (7, .int (0)), (6, .int ((g_vch x5))), (0, .ref a0), (1, .int (x1)), (2, .int (x2)), (3, .int (x3))] dX2_wordBetween_103 rfl rfl rfl (Nat.le_of_ble_eq_true rfl) rfl ?_
          refine g_goto 8 dX2_wordBetween_106 rfl ?_
          exact g_sub [4, 5, 6, 7, 1, 0] _ rfl (h9 c1 c2 c4 c5)
        · skip
          refine g_aload_n 1 49 dX2_wordBetween_48 rfl rfl ?_
          refine g_getR 52 (a0 + 1) dX2_wordBetween_49 rfl flX2_9 s0.1 s0.2.1 ?_
          refine g_iload_n 2 53 dX2_wordBetween_52 rfl rfl ?_
          refine g_iload 5 55 dX2_wordBetween_53 rfl rfl ?_
          refine g_iadd 56 dX2_wordBetween_55 rfl ?_
          refine h_iaload 57 ((x1 + x4)).toNatClampNeg dX2_wordBetween_56 rfl rfl s0.2.2.1 (b10 c1 c2 c4 c5) ?_
          refine g_iload 0 59 dX2_wordBetween_57 rfl rfl ?_
          refine g_icmp_ne 66 62 dX2_wordBetween_59 rfl rfl (fun c6 => ?_) (fun c6 => ?_)
          · skip
            refine g_iconst (0) 67 dX2_wordBetween_66 rfl rfl ?_
            refine g_istore 69 [(7, .int (0)), (6, .int ((g_vch x5))), (0, .ref a0), (1, .int (x1)), (2, .int (x2)), (3, .int (x3)), (4, .int (x4)), (5, .int (x5))] dX2_wordBetween_67 rfl (Nat.le_of_ble_eq_true rfl) rfl ?_
            refine g_iload 0 71 dX2_wordBetween_69 rfl rfl ?_
            refine g_if_eq 81 74 dX2_wordBetween_71 rfl rfl (fun _ => ?_) (fun q => absurd q (by decide))
            refine g_iconst ((-1)) 82 dX2_wordBetween_81 rfl rfl ?_
            refine g_istore 84 [(4, .int ((-1))), (7, .int (0)), (6, .int ((g_vch x5))), (0, .ref a0), (1, .int (x1)), (2, .int (x2)), (3, .int (x3)), (5, .int (x5))] dX2_wordBetween_82 rfl (Nat.le_of_ble_eq_true rfl) rfl ?_
            refine g_goto 103 dX2_wordBetween_84 rfl ?_
            refine g_iinc _ 7 106 [(5, .int ((x5 + 1))), (4, .int ((-1))), (7, .int (0)), (6, .int ((g_vch x5))), (0, .ref a0), (1, .int (x1)), (2, .int (x2)), (3, .int (x3))] dX2_wordBetween_103 rfl rfl rfl (Nat.le_of_ble_eq_true rfl) rfl ?_
            refine g_goto 8 dX2_wordBetween_106 rfl ?_
            exact g_sub [4, 5, 6, 7, 1, 0] _ rfl (h11 c1 c2 c4 c5 c6)
          · skip
            refine g_iconst (1) 63 dX2_wordBetween_62 rfl rfl ?_
            refine g_goto 67 dX2_wordBetween_63 rfl ?_
            refine g_istore 69 [(7, .int (1)), (6, .int ((g_vch x5))), (0, .ref a0), (1, .int (x1)), (2, .int (x2)), (3, .int (x3)), (4, .int (x4)), (5, .int (x5))] dX2_wordBetween_67 rfl (Nat.le_of_ble_eq_true rfl) rfl ?_
            refine g_iload 0 71 dX2_wordBetween_69 rfl rfl ?_
            refine g_if_eq 81 74 dX2_wordBetween_71 rfl rfl (fun q => absurd q (by decide)) (fun _ => ?_)
            refine g_iload 6 76 dX2_wordBetween_74 rfl rfl ?_
            refine g_iconst (1) 77 dX2_wordBetween_76 rfl rfl ?_
            refine g_iadd 78 dX2_wordBetween_77 rfl ?_
            refine g_goto 82 dX2_wordBetween_78 rfl ?_
            refine g_istore 84 [(4, .int ((x4 + 1))), (7, .int (1)), (6, .int ((g_vch x5))), (0, .ref a0), (1, .int (x1)), (2, .int (x2)), (3, .int (x3)), (5, .int (x5))] dX2_wordBetween_82 rfl (Nat.le_of_ble_eq_true rfl) rfl ?_
            refine g_goto 103 dX2_wordBetween_84 rfl ?_
            refine g_iinc _ 7 106 [(5, .int ((x5 + 1))), (4, .int ((x4 + 1))), (7, .int (1)), (6, .int ((g_vch x5))), (0, .ref a0), (1, .int (x1)), (2, .int (x2)), (3, .int (x3))] dX2_wordBetween_103 rfl rfl rfl (Nat.le_of_ble_eq_true rfl) rfl ?_
            refine g_goto 8 dX2_wordBetween_106 rfl ?_
            exact g_sub [4, 5, 6, 7, 1, 0] _ rfl (h12 c1 c2 c4 c5 c6)

def bX2_wordBetween_0 (N : Nat) (M : gM) (a0 : Nat) (x1 : Int32) (x2 : Int32) (k : Nat → Nat → Int32 → Int32 → Int32 → Int32 → Int32 → Int32) : Int32 := (k 0 a0 x1 x2 0 0 0)
def eX2_wordBetween_0 (N : Nat) (M : gM) (a0 : Nat) (x1 : Int32) (x2 : Int32) (k : Nat → Nat → Int32 → Int32 → Int32 → Int32 → Int32 → Prop) : Prop := (k 0 a0 x1 x2 0 0 0)
def bX2_wordBetween_8 (N : Nat) (M : gM) (a0 : Nat) (x1 : Int32) (x2 : Int32) (x3 : Int32) (x4 : Int32) (x5 : Int32) (k : Nat → Nat → Int32 → Int32 → Int32 → Int32 → Int32 → Int32) : Int32 := (if 113 ≤ x5 then 22 else (if (g_vch x5) = 32 then (if x4 = (x2 - x1) then x3 else (k 0 a0 x1 x2 (x3 + 1) 0 (x5 + 1))) else (if x4 = (-1) then (k 0 a0 x1 x2 x3 (-1) (x5 + 1)) else (if x2 ≤ (x1 + x4) then (k 0 a0 x1 x2 x3 (-1) (x5 + 1)) else (if (g_mi M (a0 + 1) ((x1 + x4)).toNatClampNeg) = (g_vch x5) then (k 0 a0 x1 x2 x3 (x4 + 1) (x5 + 1)) else (k 0 a0 x1 x2 x3 (-1) (x5 + 1)))))))
def eX2_wordBetween_8 (N : Nat) (M : gM) (a0 : Nat) (x1 : Int32) (x2 : Int32) (x3 : Int32) (x4 : Int32) (x5 : Int32) (k : Nat → Nat → Int32 → Int32 → Int32 → Int32 → Int32 → Prop) : Prop := ((¬ 113 ≤ x5) → vp_in (x5) 113) ∧ ((¬ 113 ≤ x5) → x5 < 113) ∧ ((¬ 113 ≤ x5) → (¬ (g_vch x5) = 32) → (¬ x4 = (-1)) → (¬ x2 ≤ (x1 + x4)) → vp_in ((x1 + x4)) 400) ∧ (if 113 ≤ x5 then True else (if (g_vch x5) = 32 then (if x4 = (x2 - x1) then True else (k 0 a0 x1 x2 (x3 + 1) 0 (x5 + 1))) else (if x4 = (-1) then (k 0 a0 x1 x2 x3 (-1) (x5 + 1)) else (if x2 ≤ (x1 + x4) then (k 0 a0 x1 x2 x3 (-1) (x5 + 1)) else (if (g_mi M (a0 + 1) ((x1 + x4)).toNatClampNeg) = (g_vch x5) then (k 0 a0 x1 x2 x3 (x4 + 1) (x5 + 1)) else (k 0 a0 x1 x2 x3 (-1) (x5 + 1)))))))
def wX2_wordBetween (N : Nat) (M : gM) : Nat → Nat → Nat → Int32 → Int32 → Int32 → Int32 → Int32 → Int32
  | 0, _, _, _, _, _, _, _ => 0
  | n + 1, h, a0, x1, x2, x3, x4, x5 => bX2_wordBetween_8 N M a0 x1 x2 x3 x4 x5 (wX2_wordBetween N M n)
def vX2_wordBetween (N : Nat) (M : gM) : Nat → Nat → Nat → Int32 → Int32 → Int32 → Int32 → Int32 → Prop
  | 0, _, _, _, _, _, _, _ => False
  | n + 1, h, a0, x1, x2, x3, x4, x5 => eX2_wordBetween_8 N M a0 x1 x2 x3 x4 x5 (vX2_wordBetween N M n)
set_option maxRecDepth 10000 in
theorem lpX2_wordBetween {X : gX} {d mc ms : Nat} {Q : Option Value → gM → Prop} (N : Nat) (M : gM) : ∀ n : Nat, (∀ (a0 : Nat) (x1 : Int32) (x2 : Int32) (x3 : Int32) (x4 : Int32) (x5 : Int32), Re M a0 → vX2_wordBetween N M n 0 a0 x1 x2 x3 x4 x5 → Q (some (.int (wX2_wordBetween N M n 0 a0 x1 x2 x3 x4 x5))) M → Go X (d + 4) mc ms kX2_wordBetween Q 8 [(0, .ref a0), (1, .int (x1)), (2, .int (x2)), (3, .int (x3)), (4, .int (x4)), (5, .int (x5))] [] M 0 0) := by
  intro n
  induction n with
  | zero => exact fun _ _ _ _ _ _ _ h _ => h.elim
  | succ n ih =>
    intro a0 x1 x2 x3 x4 x5 s0 hT hQ
    rw [vX2_wordBetween] at hT
    rw [wX2_wordBetween] at hQ
    unfold bX2_wordBetween_8 at hQ
    unfold eX2_wordBetween_8 at hT
    obtain ⟨b4, b5, b10, hT⟩ := hT
    exact sX2_wordBetween_8 (M := M) s0 (Nat.zero_le _) (Nat.zero_le _) (fun c1 => by simp only [if_pos c1] at hQ; exact hQ) b4 b5 (fun c1 c2 c3 => by simp only [if_neg c1, if_pos c2, if_neg c3] at hQ hT; exact ih _ _ _ _ _ _ (s0) hT hQ) (fun c1 c2 c3 => by simp only [if_neg c1, if_pos c2, if_pos c3] at hQ; exact hQ) (fun c1 c2 c4 => by simp only [if_neg c1, if_neg c2, if_pos c4] at hQ hT; exact ih _ _ _ _ _ _ (s0) hT hQ) (fun c1 c2 c4 c5 => by simp only [if_neg c1, if_neg c2, if_neg c4, if_pos c5] at hQ hT; exact ih _ _ _ _ _ _ (s0) hT hQ) b10 (fun c1 c2 c4 c5 c6 => by simp only [if_neg c1, if_neg c2, if_neg c4, if_neg c5, if_neg c6] at hQ hT; exact ih _ _ _ _ _ _ (s0) hT hQ) (fun c1 c2 c4 c5 c6 => by simp only [if_neg c1, if_neg c2, if_neg c4, if_neg c5, if_pos c6] at hQ hT; exact ih _ _ _ _ _ _ (s0) hT hQ)
def fX2_wordBetween (N : Nat) (M : gM) (a0 : Nat) (x1 : Int32) (x2 : Int32) : Int32 := (bX2_wordBetween_0 N M a0 x1 x2 (wX2_wordBetween N M N))
def EX2_wordBetween (N : Nat) (M : gM) (a0 : Nat) (x1 : Int32) (x2 : Int32) : Prop := eX2_wordBetween_0 N M a0 x1 x2 (vX2_wordBetween N M N)
theorem tX2_wordBetween {N : Nat} {X : gX} {d mc ms : Nat} {Q : Option Value → gM → Prop} {M : gM} {a0 : Nat} {x1 : Int32} {x2 : Int32} (s0 : Re M a0) (hE : EX2_wordBetween N M a0 x1 x2) (hQ : Q (some (.int (fX2_wordBetween N M a0 x1 x2))) M) : Cn X (d + 4) mc ms kX2_wordBetween [.ref a0, .int (x1), .int (x2)] M Q := by
  unfold fX2_wordBetween at hQ
  unfold bX2_wordBetween_0 at hQ
  unfold EX2_wordBetween eX2_wordBetween_0 at hE
  have hT := hE
  have ih := lpX2_wordBetween (X := X) (d := d) (mc := mc) (ms := ms) (Q := Q) N M N
  exact sX2_wordBetween_0 s0 (ih _ _ _ _ _ _ (s0) hT hQ)
