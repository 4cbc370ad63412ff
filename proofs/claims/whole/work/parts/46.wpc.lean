/-! X0_appendAll -/
def pX0_appendAll_0 (N K : Nat) (kp : Nat → gM → Nat → Nat → Int32 → Prop) (R : gM → Prop) (M : gM) (a0 : Nat) (a1 : Nat) : Prop := kp 0 M a0 a1 0
def pX0_appendAll_2 (N K : Nat) (kp : Nat → gM → Nat → Nat → Int32 → Prop) (R : gM → Prop) (M : gM) (a0 : Nat) (a1 : Nat) (x2 : Int32) : Prop := (((g_mi M a1 3) ≤ x2 → R M) ∧ (¬ (g_mi M a1 3) ≤ x2 → ∀ v1 : Int32, v1 = (fX0_slot M a1 x2) → (vp_in (v1) 17) ∧ pX0_draft N K M a0 (a1 + 3 + 7 * (v1).toNatClampNeg) (fun M1 => Sl M M1 → (vp_in (v1) 17) ∧ pX0_keep N K M1 a0 (g_mi M1 (a1 + 2) (v1).toNatClampNeg) (fun M2 => Sl M1 M2 → kp 0 M2 a0 a1 (x2 + 1)))))
def qX0_appendAll (N K : Nat) (R : gM → Prop) : Nat → Nat → gM → Nat → Nat → Int32 → Prop
  | 0, _, _, _, _, _ => False
  | n + 1, _, M, a0, a1, x2 => pX0_appendAll_2 N K (qX0_appendAll N K R n) R M a0 a1 x2
def pX0_appendAll (N K : Nat) (M : gM) (a0 : Nat) (a1 : Nat) (R : gM → Prop) : Prop := pX0_appendAll_0 N K (qX0_appendAll N K R N) R M a0 a1
def ULX0_appendAll (X : gX) (d mc ms : Nat) (Q : Option Value → gM → Prop) (N K : Nat) (R : gM → Prop) (n : Nat) : Prop := (∀ (M : gM) (a0 : Nat) (a1 : Nat) (x2 : Int32), Hi M a0 → Hi M a1 → qX0_appendAll N K R n 0 M a0 a1 x2 → (∀ (M1 : gM), Sm M M1 → R M1 → Q none M1) → Go X (d + 4) mc ms kX0_appendAll Q 2 [(0, .ref a0), (1, .ref a1), (2, .int (x2))] [] M 0 0)
set_option maxRecDepth 10000 in
theorem ulX0_appendAll {X : gX} {d mc ms : Nat} {Q : Option Value → gM → Prop} {N K : Nat} {R : gM → Prop} : ∀ n : Nat, ULX0_appendAll X d mc ms Q N K R n := by
  intro n
  induction n with
  | zero => exact fun _ _ _ _ _ _ h _ => h.elim
  | succ n ih =>
    intro M a0 a1 x2 s0 s1 H hR
    rw [qX0_appendAll] at H
    unfold pX0_appendAll_2 at H
    refine g_iload_n 2 3 dX0_appendAll_2 rfl rfl ?_
    refine g_aload_n 1 4 dX0_appendAll_3 rfl rfl ?_
    refine g_getI 7 dX0_appendAll_4 rfl flX0_22 s1.1 ?_
    refine g_icmp_ge 42 10 dX0_appendAll_7 rfl rfl (fun c1 => ?_) (fun c1 => ?_)
    · skip
      replace H := H.1 c1
      exact g_vret dX0_appendAll_42 rfl (Nat.zero_le _) (Nat.zero_le _) (hR _ Sm.rf H)
    · skip
      replace H := H.2 c1
      refine g_aload_n 1 11 dX0_appendAll_10 rfl rfl ?_
      refine g_iload_n 2 12 dX0_appendAll_11 rfl rfl ?_
      refine g_callV (mc1 := 0) (ms1 := 0) (b := a1) (rest := []) (av := [.int (x2)]) kX0_slot 15 dX0_appendAll_12 rfl rfl mbX0_26 imX0_slot seX0_slot gcl0.1 s1.1 (Nat.le_of_ble_eq_true rfl) (Nat.zero_le _) (Nat.zero_le _) (tX0_slot s1 ?_)
      show Go X (d + 4) mc ms kX0_appendAll Q 15 [(0, .ref a0), (1, .ref a1), (2, .int (x2))] [.int ((fX0_slot M a1 x2))] M 0 0
      generalize hv1 : (fX0_slot M a1 x2) = v1
      replace H := H v1 hv1.symm
      refine g_istore_n 16 [(3, .int (v1)), (0, .ref a0), (1, .ref a1), (2, .int (x2))] dX0_appendAll_15 rfl (Nat.le_of_ble_eq_true rfl) rfl ?_
      refine g_aload_n 1 17 dX0_appendAll_16 rfl rfl ?_
      refine g_aload_n 2 18 dX0_appendAll_17 rfl rfl ?_
      refine g_getR 21 (a1 + 1) dX0_appendAll_18 rfl flX0_13 s1.1 s1.2.1 ?_
      refine g_iload_n 0 22 dX0_appendAll_21 rfl rfl ?_
      obtain ⟨b1, H⟩ := H
      refine h_aaloadR (t := 4) 23 (v1).toNatClampNeg dX0_appendAll_22 rfl rfl s1.2.2.1 (by decide) rfl b1 (s1.2.2.2.2.2 _ (vp_lt b1)).1 ?_
      refine g_callV (mc1 := 0) (ms1 := 0) (b := a0) (rest := []) (av := [.ref (a1 + 3 + 7 * (v1).toNatClampNeg)]) kX0_draft 26 dX0_appendAll_23 rfl rfl mbX0_37 imX0_draft seX0_draft gcl0.1 s0.1 (Nat.le_of_ble_eq_true rfl) (Nat.zero_le _) (Nat.zero_le _) (uX0_draft (N := N) (K := K) s0 (s1.2.2.2.2.2 _ (vp_lt b1)).2 H (fun M1 jj H => ?_))
      replace H := H (Sm.l jj)
      have j1 : Sm M M1 := jj
      show Go X (d + 4) mc ms kX0_appendAll Q 26 [(3, .int (v1)), (0, .ref a0), (1, .ref a1), (2, .int (x2))] [] M1 0 0
      refine g_aload_n 1 27 dX0_appendAll_26 rfl rfl ?_
      refine g_aload_n 2 28 dX0_appendAll_27 rfl rfl ?_
      refine g_getR 31 (a1 + 2) dX0_appendAll_28 rfl flX0_17 (Sm.k j1 s1.1) (Sm.r j1 s1.2.2.2.1) ?_
      refine g_iload_n 0 32 dX0_appendAll_31 rfl rfl ?_
      obtain ⟨b2, H⟩ := H
      refine h_iaload 33 (v1).toNatClampNeg dX0_appendAll_32 rfl rfl (Sm.k j1 s1.2.2.2.2.1) b2 ?_
      refine g_callV (mc1 := 0) (ms1 := 0) (b := a0) (rest := []) (av := [.int ((g_mi M1 (a1 + 2) (v1).toNatClampNeg))]) kX0_keep 36 dX0_appendAll_33 rfl rfl mbX0_40 imX0_keep seX0_keep gcl0.1 (Sm.k j1 s0.1) (Nat.le_of_ble_eq_true rfl) (Nat.zero_le _) (Nat.zero_le _) (uX0_keep (N := N) (K := K) (Hi.sm j1 s0) H (fun M2 jj H => ?_))
      replace H := H (Sm.l jj)
      have j2 : Sm M M2 := Sm.tr j1 jj
      show Go X (d + 4) mc ms kX0_appendAll Q 36 [(3, .int (v1)), (0, .ref a0), (1, .ref a1), (2, .int (x2))] [] M2 0 0
      refine g_iinc _ 3 39 [(2, .int ((x2 + 1))), (3, .int (v1)), (0, .ref a0), (1, .ref a1)] dX0_appendAll_36 rfl rfl rfl (Nat.le_of_ble_eq_true rfl) rfl ?_
      refine g_goto 2 dX0_appendAll_39 rfl ?_
      exact g_sub [2, 3, 0] _ rfl (ih M2 a0 a1 (x2 + 1) (Hi.sm j2 s0) (Hi.sm j2 s1) H (fun M1 j r => hR M1 (Sm.tr j2 j) r))
set_option maxRecDepth 10000 in
theorem uX0_appendAll {N K : Nat} {X : gX} {d mc ms : Nat} {Q : Option Value → gM → Prop} {M : gM} {a0 : Nat} {a1 : Nat} {R : gM → Prop} (s0 : Hi M a0) (s1 : Hi M a1) (H : pX0_appendAll N K M a0 a1 R) (hR : ∀ (M1 : gM), Sm M M1 → R M1 → Q none M1) : Cn X (d + 4) mc ms kX0_appendAll [.ref a0, .ref a1] M Q := by
  have ih := ulX0_appendAll (X := X) (d := d) (mc := mc) (ms := ms) (Q := Q) (N := N) (K := K) (R := R) N
  unfold pX0_appendAll pX0_appendAll_0 at H
  refine g_meth rfl rfl (Nat.le_of_ble_eq_true rfl) rfl ?_
  refine g_iconst (0) 1 dX0_appendAll_0 rfl rfl ?_
  refine g_istore_n 2 [(2, .int (0)), (0, .ref a0), (1, .ref a1)] dX0_appendAll_1 rfl (Nat.le_of_ble_eq_true rfl) rfl ?_
  exact g_sub [1, 2, 0] _ rfl (ih M a0 a1 0 s0 s1 H (fun M1 j r => hR M1 j r))
/-! X1_peel -/
def pX1_peel_0 (N K : Nat) (kp : Nat → gM → Nat → Nat → Int32 → Nat → Nat → Nat → Int32 → Prop) (R : gM → Prop) (M : gM) (a0 : Nat) (a1 : Nat) (x2 : Int32) (a3 : Nat) (n3 : Nat) (m3 : Nat) : Prop := pX1_lay N K M a0 a1 x2 (g_mi M a1 4) (fun M1 => kp 0 M1 a0 a1 x2 a3 n3 m3 0)
def pX1_peel_13 (N K : Nat) (kp : Nat → gM → Nat → Nat → Int32 → Nat → Nat → Nat → Int32 → Prop) (R : gM → Prop) (M : gM) (a0 : Nat) (a1 : Nat) (x2 : Int32) (a3 : Nat) (n3 : Nat) (m3 : Nat) (x4 : Int32) : Prop := (((3 * (g_mi M a1 4)) ≤ x4 → ∀ M1 : gM, M1 = (g_wi M a0 8 0) → kp 1 M1 a0 a1 0 0 0 0 0) ∧ (¬ (3 * (g_mi M a1 4)) ≤ x4 → (vp_in (x4) 60) ∧ pX4_rankOf N K M (a0 - 3) a3 n3 m3 a1 x2 x4 (g_mi M (a0 + 4) (x4).toNatClampNeg) (fun v1 M2 => (vp_in (x4) 60) ∧ ∀ M3 : gM, M3 = (g_wi M2 (a0 + 6) (x4).toNatClampNeg v1) → kp 0 M3 a0 a1 x2 a3 n3 m3 (x4 + 1))))
def pX1_peel_64 (N K : Nat) (kp : Nat → gM → Nat → Nat → Int32 → Nat → Nat → Nat → Int32 → Prop) (R : gM → Prop) (M : gM) (a0 : Nat) (a1 : Nat) (x4 : Int32) : Prop := (((g_mi M a1 3) ≤ x4 → R M) ∧ (¬ (g_mi M a1 3) ≤ x4 → pX1_leastFree N K M a0 (3 * (g_mi M a1 4)) (fun v1 => ((¬ v1 = (-1) → (vp_in (v1) 60) ∧ (vp_in ((g_mi M a0 8)) 30) ∧ ∀ M1 : gM, M1 = (g_wi M (a0 + 2) ((g_mi M a0 8)).toNatClampNeg (g_mi M (a0 + 5) (v1).toNatClampNeg)) → (vp_in ((g_mi M1 a0 8)) 30) ∧ ∀ M2 : gM, M2 = (g_wi M1 (a0 + 3) ((g_mi M1 a0 8)).toNatClampNeg v1) → ∀ M3 : gM, M3 = (g_wi M2 a0 8 ((g_mi M2 a0 8) + 1)) → (vp_in (v1) 60) ∧ pX1_letGo N K M3 a0 (g_mi M3 (a0 + 5) (v1).toNatClampNeg) 0 (fun v2 M4 => kp 1 M4 a0 a1 0 0 0 0 (x4 + 1))) ∧ (v1 = (-1) → R M)))))
def qX1_peel (N K : Nat) (R : gM → Prop) : Nat → Nat → gM → Nat → Nat → Int32 → Nat → Nat → Nat → Int32 → Prop
  | 0, _, _, _, _, _, _, _, _, _ => False
  | n + 1, h, M, a0, a1, x2, a3, n3, m3, x4 => if h = 0 then pX1_peel_13 N K (qX1_peel N K R n) R M a0 a1 x2 a3 n3 m3 x4 else pX1_peel_64 N K (qX1_peel N K R n) R M a0 a1 x4
def pX1_peel (N K : Nat) (M : gM) (a0 : Nat) (a1 : Nat) (x2 : Int32) (a3 : Nat) (n3 : Nat) (m3 : Nat) (R : gM → Prop) : Prop := pX1_peel_0 N K (qX1_peel N K R N) R M a0 a1 x2 a3 n3 m3
def ULX1_peel (X : gX) (d mc ms : Nat) (Q : Option Value → gM → Prop) (N K : Nat) (R : gM → Prop) (n : Nat) : Prop := (∀ (M : gM) (a0 : Nat) (a1 : Nat) (x2 : Int32) (a3 : Nat) (n3 : Nat) (m3 : Nat) (x4 : Int32), Pe M a0 → St M a1 → Tx M a3 n3 m3 → qX1_peel N K R n 0 M a0 a1 x2 a3 n3 m3 x4 → (∀ (M1 : gM), Sm M M1 → R M1 → Q none M1) → Go X (d + 3) mc ms kX1_peel Q 13 [(0, .ref a0), (1, .ref a1), (2, .int (x2)), (3, .ref a3), (4, .int (x4))] [] M 0 0) ∧ (∀ (M : gM) (a0 : Nat) (a1 : Nat) (x2 : Int32) (a3 : Nat) (n3 : Nat) (m3 : Nat) (x4 : Int32), Pe M a0 → St M a1 → qX1_peel N K R n 1 M a0 a1 x2 a3 n3 m3 x4 → (∀ (M1 : gM), Sm M M1 → R M1 → Q none M1) → Go X (d + 3) mc ms kX1_peel Q 64 [(0, .ref a0), (1, .ref a1), (4, .int (x4))] [] M 0 0)
set_option maxRecDepth 10000 in
theorem ulX1_peel {X : gX} {d mc ms : Nat} {Q : Option Value → gM → Prop} {N K : Nat} {R : gM → Prop} : ∀ n : Nat, ULX1_peel X d mc ms Q N K R n := by
  intro n
  induction n with
  | zero => exact ⟨fun _ _ _ _ _ _ _ _ _ _ _ h _ => h.elim, fun _ _ _ _ _ _ _ _ _ _ h _ => h.elim⟩
  | succ n ih =>
    refine ⟨?_, ?_⟩
    · intro M a0 a1 x2 a3 n3 m3 x4 s0 s1 s3 H hR
      rw [qX1_peel, if_pos (show (0 : Nat) = 0 from rfl)] at H
      unfold pX1_peel_13 at H
      refine g_iload 4 15 dX1_peel_13 rfl rfl ?_
      refine g_iconst (3) 16 dX1_peel_15 rfl rfl ?_
      refine g_aload_n 1 17 dX1_peel_16 rfl rfl ?_
      refine g_getI 20 dX1_peel_17 rfl flX1_55 s1.1 ?_
      refine g_imul 21 dX1_peel_20 rfl ?_
      refine g_icmp_ge 56 24 dX1_peel_21 rfl rfl (fun c1 => ?_) (fun c1 => ?_)
      · skip
        replace H := H.1 c1
        refine g_aload_n 0 57 dX1_peel_56 rfl rfl ?_
        refine g_iconst (0) 58 dX1_peel_57 rfl rfl ?_
        refine g_putI 61 dX1_peel_58 rfl flX1_64 s0.1 ?_
        generalize hM1 : (g_wi M a0 8 0) = M1
        have j1 : Sm M M1 := by rw [← hM1]; exact (Sm.wi Sm.rf)
        replace H := H M1 hM1.symm
        refine g_iconst (0) 62 dX1_peel_61 rfl rfl ?_
        refine g_istore 64 [(4, .int (0)), (0, .ref a0), (1, .ref a1), (2, .int (x2)), (3, .ref a3)] dX1_peel_62 rfl (Nat.le_of_ble_eq_true rfl) rfl ?_
        exact g_sub [1, 2, 0] _ rfl (ih.2 M1 a0 a1 0 0 0 0 0 (Pe.sm j1 s0) (St.sm j1 s1) H (fun M1 j r => hR M1 (Sm.tr j1 j) r))
      · skip
        replace H := H.2 c1
        refine g_aload_n 0 25 dX1_peel_24 rfl rfl ?_
        refine g_getR 28 (a0 + 6) dX1_peel_25 rfl flX1_27 s0.1 s0.2.2.2.2.2.2.2.2.2.2.2.1 ?_
        refine g_iload 4 30 dX1_peel_28 rfl rfl ?_
        refine g_aload_n 0 31 dX1_peel_30 rfl rfl ?_
        refine g_getR 34 (a0 - 3) dX1_peel_31 rfl flX1_33 s0.1 s0.2.2.2.2.2.2.2.2.2.2.2.2.2.2.2.2.1 ?_
        refine g_aload_n 3 35 dX1_peel_34 rfl rfl ?_
        refine g_aload_n 1 36 dX1_peel_35 rfl rfl ?_
        refine g_iload_n 2 37 dX1_peel_36 rfl rfl ?_
        refine g_iload 4 39 dX1_peel_37 rfl rfl ?_
        refine g_aload_n 0 40 dX1_peel_39 rfl rfl ?_
        refine g_getR 43 (a0 + 4) dX1_peel_40 rfl flX1_21 s0.1 s0.2.2.2.2.2.2.2.1 ?_
        refine g_iload 4 45 dX1_peel_43 rfl rfl ?_
        obtain ⟨b1, H⟩ := H
        refine h_iaload 46 (x4).toNatClampNeg dX1_peel_45 rfl rfl s0.2.2.2.2.2.2.2.2.1 b1 ?_
        refine g_callV (mc1 := 0) (ms1 := 0) (b := (a0 - 3)) (rest := [.int (x4), .ref (a0 + 6)]) (av := [.ref a3, .ref a1, .int (x2), .int (x4), .int ((g_mi M (a0 + 4) (x4).toNatClampNeg))]) kX4_rankOf 49 dX1_peel_46 rfl rfl mbX1_58 imX4_rankOf seX4_rankOf gcl4.1 s0.2.2.2.2.2.2.2.2.2.2.2.2.2.2.2.2.2.1 (Nat.le_of_ble_eq_true rfl) (Nat.zero_le _) (Nat.zero_le _) (uX4_rankOf (N := N) (K := K) s0.2.2.2.2.2.2.2.2.2.2.2.2.2.2.2.2.2 s3 s1 H (fun v1 M2 jj H => ?_))
        have j2 : Sm M M2 := jj
        show Go X (d + 3) mc ms kX1_peel Q 49 [(0, .ref a0), (1, .ref a1), (2, .int (x2)), (3, .ref a3), (4, .int (x4))] [.int (v1), .int (x4), .ref (a0 + 6)] M2 0 0
        obtain ⟨b2, H⟩ := H
        refine h_iastore 50 (x4).toNatClampNeg dX1_peel_49 rfl rfl (Sm.k j2 s0.2.2.2.2.2.2.2.2.2.2.2.2.1) b2 ?_
        generalize hM3 : (g_wi M2 (a0 + 6) (x4).toNatClampNeg v1) = M3
        have j3 : Sm M M3 := by rw [← hM3]; exact (Sm.wi j2)
        replace H := H M3 hM3.symm
        refine g_iinc _ 4 53 [(4, .int ((x4 + 1))), (0, .ref a0), (1, .ref a1), (2, .int (x2)), (3, .ref a3)] dX1_peel_50 rfl rfl rfl (Nat.le_of_ble_eq_true rfl) rfl ?_
        refine g_goto 13 dX1_peel_53 rfl ?_
        exact g_sub [1, 2, 3, 4, 0] _ rfl (ih.1 M3 a0 a1 x2 a3 n3 m3 (x4 + 1) (Pe.sm j3 s0) (St.sm j3 s1) (Tx.sm j3 s3) H (fun M1 j r => hR M1 (Sm.tr j3 j) r))
    · intro M a0 a1 x2 a3 n3 m3 x4 s0 s1 H hR
      rw [qX1_peel, if_neg (show ¬ (1 : Nat) = 0 by decide)] at H
      unfold pX1_peel_64 at H
      refine g_iload 2 66 dX1_peel_64 rfl rfl ?_
      refine g_aload_n 1 67 dX1_peel_66 rfl rfl ?_
      refine g_getI 70 dX1_peel_67 rfl flX1_37 s1.1 ?_
      refine g_icmp_ge 148 73 dX1_peel_70 rfl rfl (fun c1 => ?_) (fun c1 => ?_)
      · skip
        replace H := H.1 c1
        exact g_vret dX1_peel_148 rfl (Nat.zero_le _) (Nat.zero_le _) (hR _ Sm.rf H)
      · skip
        replace H := H.2 c1
        refine g_aload_n 0 74 dX1_peel_73 rfl rfl ?_
        refine g_iconst (3) 75 dX1_peel_74 rfl rfl ?_
        refine g_aload_n 1 76 dX1_peel_75 rfl rfl ?_
        refine g_getI 79 dX1_peel_76 rfl flX1_55 s1.1 ?_
        refine g_imul 80 dX1_peel_79 rfl ?_
        refine g_callV (mc1 := 0) (ms1 := 0) (b := a0) (rest := []) (av := [.int ((3 * (g_mi M a1 4)))]) kX1_leastFree 83 dX1_peel_80 rfl rfl mbX1_67 imX1_leastFree seX1_leastFree gcl1.1 s0.1 (Nat.le_of_ble_eq_true rfl) (Nat.zero_le _) (Nat.zero_le _) (uX1_leastFree (N := N) (K := K) s0 H (fun v1 H => ?_))
        show Go X (d + 3) mc ms kX1_peel Q 83 [(0, .ref a0), (1, .ref a1), (4, .int (x4))] [.int (v1)] M 0 0
        refine g_istore 85 [(5, .int (v1)), (0, .ref a0), (1, .ref a1), (4, .int (x4))] dX1_peel_83 rfl (Nat.le_of_ble_eq_true rfl) rfl ?_
        refine g_iload 0 87 dX1_peel_85 rfl rfl ?_
        refine g_iconst ((-1)) 88 dX1_peel_87 rfl rfl ?_
        refine g_icmp_ne 92 91 dX1_peel_88 rfl rfl (fun c2 => ?_) (fun c2 => ?_)
        · skip
          replace H := H.1 c2
          refine g_aload_n 1 93 dX1_peel_92 rfl rfl ?_
          refine g_getR 96 (a0 + 2) dX1_peel_93 rfl flX1_15 s0.1 s0.2.2.2.1 ?_
          refine g_aload_n 1 97 dX1_peel_96 rfl rfl ?_
          refine g_getI 100 dX1_peel_97 rfl flX1_64 s0.1 ?_
          refine g_aload_n 1 101 dX1_peel_100 rfl rfl ?_
          refine g_getR 104 (a0 + 5) dX1_peel_101 rfl flX1_24 s0.1 s0.2.2.2.2.2.2.2.2.2.1 ?_
          refine g_iload 0 106 dX1_peel_104 rfl rfl ?_
          obtain ⟨b1, H⟩ := H
          refine h_iaload 107 (v1).toNatClampNeg dX1_peel_106 rfl rfl s0.2.2.2.2.2.2.2.2.2.2.1 b1 ?_
          obtain ⟨b2, H⟩ := H
          refine h_iastore 108 ((g_mi M a0 8)).toNatClampNeg dX1_peel_107 rfl rfl s0.2.2.2.2.1 b2 ?_
          generalize hM1 : (g_wi M (a0 + 2) ((g_mi M a0 8)).toNatClampNeg (g_mi M (a0 + 5) (v1).toNatClampNeg)) = M1
          have j1 : Sm M M1 := by rw [← hM1]; exact (Sm.wi Sm.rf)
          replace H := H M1 hM1.symm
          refine g_aload_n 1 109 dX1_peel_108 rfl rfl ?_
          refine g_getR 112 (a0 + 3) dX1_peel_109 rfl flX1_18 (Sm.k j1 s0.1) (Sm.r j1 s0.2.2.2.2.2.1) ?_
          refine g_aload_n 1 113 dX1_peel_112 rfl rfl ?_
          refine g_getI 116 dX1_peel_113 rfl flX1_64 (Sm.k j1 s0.1) ?_
          refine g_iload 0 118 dX1_peel_116 rfl rfl ?_
          obtain ⟨b3, H⟩ := H
          refine h_iastore 119 ((g_mi M1 a0 8)).toNatClampNeg dX1_peel_118 rfl rfl (Sm.k j1 s0.2.2.2.2.2.2.1) b3 ?_
          generalize hM2 : (g_wi M1 (a0 + 3) ((g_mi M1 a0 8)).toNatClampNeg v1) = M2
          have j2 : Sm M M2 := by rw [← hM2]; exact (Sm.wi j1)
          replace H := H M2 hM2.symm
          refine g_aload_n 1 120 dX1_peel_119 rfl rfl ?_
          refine g_dup 121 dX1_peel_120 rfl rfl ?_
          refine g_getI 124 dX1_peel_121 rfl flX1_64 (Sm.k j2 s0.1) ?_
          refine g_iconst (1) 125 dX1_peel_124 rfl rfl ?_
          refine g_iadd 126 dX1_peel_125 rfl ?_
          refine g_putI 129 dX1_peel_126 rfl flX1_64 (Sm.k j2 s0.1) ?_
          generalize hM3 : (g_wi M2 a0 8 ((g_mi M2 a0 8) + 1)) = M3
          have j3 : Sm M M3 := by rw [← hM3]; exact (Sm.wi j2)
          replace H := H M3 hM3.symm
          refine g_aload_n 1 130 dX1_peel_129 rfl rfl ?_
          refine g_aload_n 1 131 dX1_peel_130 rfl rfl ?_
          refine g_getR 134 (a0 + 5) dX1_peel_131 rfl flX1_24 (Sm.k j3 s0.1) (Sm.r j3 s0.2.2.2.2.2.2.2.2.2.1) ?_
          refine g_iload 0 136 dX1_peel_134 rfl rfl ?_
          obtain ⟨b4, H⟩ := H
          refine h_iaload 137 (v1).toNatClampNeg dX1_peel_136 rfl rfl (Sm.k j3 s0.2.2.2.2.2.2.2.2.2.2.1) b4 ?_
          refine g_iconst (0) 138 dX1_peel_137 rfl rfl ?_
          refine g_callV (mc1 := 0) (ms1 := 0) (b := a0) (rest := []) (av := [.int ((g_mi M3 (a0 + 5) (v1).toNatClampNeg)), .int (0)]) kX1_letGo 141 dX1_peel_138 rfl rfl mbX1_51 imX1_letGo seX1_letGo gcl1.1 (Sm.k j3 s0.1) (Nat.le_of_ble_eq_true rfl) (Nat.zero_le _) (Nat.zero_le _) (uX1_letGo (N := N) (K := K) (Pe.sm j3 s0) H (fun v2 M4 jj H => ?_))
          have j4 : Sm M M4 := Sm.tr j3 jj
          show Go X (d + 3) mc ms kX1_peel Q 141 [(5, .int (v1)), (0, .ref a0), (1, .ref a1), (4, .int (x4))] [.int (v2)] M4 0 0
          refine g_pop 142 dX1_peel_141 rfl rfl ?_
          refine g_iinc _ 3 145 [(4, .int ((x4 + 1))), (5, .int (v1)), (0, .ref a0), (1, .ref a1)] dX1_peel_142 rfl rfl rfl (Nat.le_of_ble_eq_true rfl) rfl ?_
          refine g_goto 64 dX1_peel_145 rfl ?_
          exact g_sub [2, 3, 0] _ rfl (ih.2 M4 a0 a1 0 0 0 0 (x4 + 1) (Pe.sm j4 s0) (St.sm j4 s1) H (fun M1 j r => hR M1 (Sm.tr j4 j) r))
        · skip
          replace H := H.2 c2
          exact g_vret dX1_peel_91 rfl (Nat.zero_le _) (Nat.zero_le _) (hR _ Sm.rf H)
set_option maxRecDepth 10000 in
theorem uX1_peel {N K : Nat} {X : gX} {d mc ms : Nat} {Q : Option Value → gM → Prop} {M : gM} {a0 : Nat} {a1 : Nat} {x2 : Int32} {a3 : Nat} {n3 m3 : Nat} {R : gM → Prop} (s0 : Pe M a0) (s1 : St M a1) (s3 : Tx M a3 n3 m3) (H : pX1_peel N K M a0 a1 x2 a3 n3 m3 R) (hR : ∀ (M1 : gM), Sm M M1 → R M1 → Q none M1) : Cn X (d + 3) mc ms kX1_peel [.ref a0, .ref a1, .int (x2), .ref a3] M Q := by
  have ih := ulX1_peel (X := X) (d := d) (mc := mc) (ms := ms) (Q := Q) (N := N) (K := K) (R := R) N
  unfold pX1_peel pX1_peel_0 at H
  refine g_meth rfl rfl (Nat.le_of_ble_eq_true rfl) rfl ?_
  refine g_aload_n 0 1 dX1_peel_0 rfl rfl ?_
  refine g_aload_n 1 2 dX1_peel_1 rfl rfl ?_
  refine g_iload_n 2 3 dX1_peel_2 rfl rfl ?_
  refine g_aload_n 1 4 dX1_peel_3 rfl rfl ?_
  refine g_getI 7 dX1_peel_4 rfl flX1_55 s1.1 ?_
  refine g_callV (mc1 := 0) (ms1 := 0) (b := a0) (rest := []) (av := [.ref a1, .int (x2), .int ((g_mi M a1 4))]) kX1_lay 10 dX1_peel_7 rfl rfl mbX1_47 imX1_lay seX1_lay gcl1.1 s0.1 (Nat.le_of_ble_eq_true rfl) (Nat.zero_le _) (Nat.zero_le _) (uX1_lay (N := N) (K := K) s0 s1 H (fun M1 jj H => ?_))
  have j1 : Sm M M1 := jj
  show Go X (d + 3) mc ms kX1_peel Q 10 [(0, .ref a0), (1, .ref a1), (2, .int (x2)), (3, .ref a3)] [] M1 0 0
  refine g_iconst (0) 11 dX1_peel_10 rfl rfl ?_
  refine g_istore 13 [(4, .int (0)), (0, .ref a0), (1, .ref a1), (2, .int (x2)), (3, .ref a3)] dX1_peel_11 rfl (Nat.le_of_ble_eq_true rfl) rfl ?_
  exact g_sub [1, 2, 3, 4, 0] _ rfl (ih.1 M1 a0 a1 x2 a3 n3 m3 0 (Pe.sm j1 s0) (St.sm j1 s1) (Tx.sm j1 s3) H (fun M1 j r => hR M1 (Sm.tr j1 j) r))
/-! X8_undo -/
def pX8_undo (N K : Nat) (M : gM) (a0 : Nat) (R : Int32 → gM → Prop) : Prop := pX0_takeBack N K M (a0 + 13) ((a0 + 1) + 1) (fun v1 M1 => Sl M M1 → ((0 ≤ v1 → pX8_accept N K M1 a0 v1 (fun v2 M2 => Sl M1 M2 → R v2 M2)) ∧ (¬ 0 ≤ v1 → pX8_refuse N K M1 a0 v1 (fun v3 M3 => Sl M1 M3 → R v3 M3))))
set_option maxRecDepth 10000 in
theorem uX8_undo {N K : Nat} {X : gX} {d mc ms : Nat} {Q : Option Value → gM → Prop} {M : gM} {a0 : Nat} {R : Int32 → gM → Prop} (s0 : Ph M a0) (H : pX8_undo N K M a0 R) (hR : ∀ (v : Int32) (M1 : gM), Sm M M1 → R v M1 → Q (some (.int v)) M1) : Cn X (d + 4) mc ms kX8_undo [.ref a0] M Q := by
  unfold pX8_undo at H
  refine g_meth rfl rfl (Nat.le_of_ble_eq_true rfl) rfl ?_
  refine g_aload_n 0 1 dX8_undo_0 rfl rfl ?_
  refine g_getR 4 (a0 + 13) dX8_undo_1 rfl flX8_25 s0.1 s0.2.2.2.2.2.1 ?_
  refine g_aload_n 0 5 dX8_undo_4 rfl rfl ?_
  refine g_getR 8 (a0 + 1) dX8_undo_5 rfl flX8_14 s0.1 s0.2.1 ?_
  refine g_getR 11 ((a0 + 1) + 1) dX8_undo_8 rfl flX8_102 s0.2.2.1.1 s0.2.2.1.2.1 ?_
  refine g_callV (mc1 := 0) (ms1 := 0) (b := (a0 + 13)) (rest := []) (av := [.ref ((a0 + 1) + 1)]) kX0_takeBack 14 dX8_undo_11 rfl rfl mbX8_222 imX0_takeBack seX0_takeBack gcl0.1 s0.2.2.2.2.2.2.1.1 (Nat.le_of_ble_eq_true rfl) (Nat.zero_le _) (Nat.zero_le _) (uX0_takeBack (N := N) (K := K) s0.2.2.2.2.2.2.1 s0.2.2.1.2.2.1 H (fun v1 M1 jj H => ?_))
  replace H := H (Sm.l jj)
  have j1 : Sm M M1 := jj
  show Go X (d + 4) mc ms kX8_undo Q 14 [(0, .ref a0)] [.int (v1)] M1 0 0
  refine g_istore_n 15 [(1, .int (v1)), (0, .ref a0)] dX8_undo_14 rfl (Nat.le_of_ble_eq_true rfl) rfl ?_
  refine g_iload_n 0 16 dX8_undo_15 rfl rfl ?_
  refine g_if_ge 27 19 dX8_undo_16 rfl rfl (fun c1 => ?_) (fun c1 => ?_)
  · skip
    replace H := H.1 c1
    refine g_aload_n 1 28 dX8_undo_27 rfl rfl ?_
    refine g_iload_n 0 29 dX8_undo_28 rfl rfl ?_
    refine g_callV (mc1 := 0) (ms1 := 0) (b := a0) (rest := []) (av := [.int (v1)]) kX8_accept 32 dX8_undo_29 rfl rfl mbX8_155 imX8_accept seX8_accept gcl8.1 (Sm.k j1 s0.1) (Nat.le_of_ble_eq_true rfl) (Nat.zero_le _) (Nat.zero_le _) (uX8_accept (N := N) (K := K) (Ph.sm j1 s0) H (fun v2 M2 jj H => ?_))
    replace H := H (Sm.l jj)
    have j2 : Sm M M2 := Sm.tr j1 jj
    show Go X (d + 4) mc ms kX8_undo Q 32 [(1, .int (v1)), (0, .ref a0)] [.int (v2)] M2 0 0
    exact g_iret dX8_undo_32 rfl (Nat.zero_le _) (Nat.zero_le _) (hR _ _ j2 H)
  · skip
    replace H := H.2 c1
    refine g_aload_n 1 20 dX8_undo_19 rfl rfl ?_
    refine g_iload_n 0 21 dX8_undo_20 rfl rfl ?_
    refine g_callV (mc1 := 0) (ms1 := 0) (b := a0) (rest := []) (av := [.int (v1)]) kX8_refuse 24 dX8_undo_21 rfl rfl mbX8_146 imX8_refuse seX8_refuse gcl8.1 (Sm.k j1 s0.1) (Nat.le_of_ble_eq_true rfl) (Nat.zero_le _) (Nat.zero_le _) (uX8_refuse (N := N) (K := K) (Ph.sm j1 s0) H (fun v3 M3 jj H => ?_))
    replace H := H (Sm.l jj)
    have j3 : Sm M M3 := Sm.tr j1 jj
    show Go X (d + 4) mc ms kX8_undo Q 24 [(1, .int (v1)), (0, .ref a0)] [.int (v3)] M3 0 0
    refine g_goto 32 dX8_undo_24 rfl ?_
    exact g_iret dX8_undo_32 rfl (Nat.zero_le _) (Nat.zero_le _) (hR _ _ j3 H)
/-! X9_laysAside -/
def pX9_laysAside_0 (N K : Nat) (kp : Nat → gM → Nat → Int32 → Int32 → Prop) (R : gM → Prop) (M : gM) (a0 : Nat) (x1 : Int32) : Prop := kp 0 M a0 x1 0
def pX9_laysAside_2 (N K : Nat) (kp : Nat → gM → Nat → Int32 → Int32 → Prop) (R : gM → Prop) (M : gM) (a0 : Nat) (x1 : Int32) (x2 : Int32) : Prop := ((188 ≤ x2 → R M) ∧ (¬ 188 ≤ x2 → (vp_in (x2) 5812) ∧ (vp_in (((188 * x1) + x2)) 564) ∧ ∀ M1 : gM, M1 = (g_wi M (a0 + 5) (((188 * x1) + x2)).toNatClampNeg (g_mi M (a0 + 2) (x2).toNatClampNeg)) → kp 0 M1 a0 x1 (x2 + 1)))
def qX9_laysAside (N K : Nat) (R : gM → Prop) : Nat → Nat → gM → Nat → Int32 → Int32 → Prop
  | 0, _, _, _, _, _ => False
  | n + 1, _, M, a0, x1, x2 => pX9_laysAside_2 N K (qX9_laysAside N K R n) R M a0 x1 x2
def pX9_laysAside (N K : Nat) (M : gM) (a0 : Nat) (x1 : Int32) (R : gM → Prop) : Prop := pX9_laysAside_0 N K (qX9_laysAside N K R N) R M a0 x1
def ULX9_laysAside (X : gX) (d mc ms : Nat) (Q : Option Value → gM → Prop) (N K : Nat) (R : gM → Prop) (n : Nat) : Prop := (∀ (M : gM) (a0 : Nat) (x1 : Int32) (x2 : Int32), Mo M a0 → qX9_laysAside N K R n 0 M a0 x1 x2 → (∀ (M1 : gM), Sm M M1 → R M1 → Q none M1) → Go X d mc ms kX9_laysAside Q 2 [(0, .ref a0), (1, .int (x1)), (2, .int (x2))] [] M 0 0)
set_option maxRecDepth 10000 in
theorem ulX9_laysAside {X : gX} {d mc ms : Nat} {Q : Option Value → gM → Prop} {N K : Nat} {R : gM → Prop} : ∀ n : Nat, ULX9_laysAside X d mc ms Q N K R n := by
  intro n
  induction n with
  | zero => exact fun _ _ _ _ _ h _ => h.elim
  | succ n ih =>
    intro M a0 x1 x2 s0 H hR
    rw [qX9_laysAside] at H
    unfold pX9_laysAside_2 at H
    refine g_iload_n 2 3 dX9_laysAside_2 rfl rfl ?_
    refine g_sipush (188) 6 dX9_laysAside_3 rfl rfl ?_
    refine g_icmp_ge 33 9 dX9_laysAside_6 rfl rfl (fun c1 => ?_) (fun c1 => ?_)
    · skip
      replace H := H.1 c1
      exact g_vret dX9_laysAside_33 rfl (Nat.zero_le _) (Nat.zero_le _) (hR _ Sm.rf H)
    · skip
      replace H := H.2 c1
      refine g_aload_n 0 10 dX9_laysAside_9 rfl rfl ?_
      refine g_getR 13 (a0 + 5) dX9_laysAside_10 rfl flX9_38 s0.1 s0.2.2.2.2.2.2.2.2.2.1 ?_
      refine g_sipush (188) 16 dX9_laysAside_13 rfl rfl ?_
      refine g_iload_n 1 17 dX9_laysAside_16 rfl rfl ?_
      refine g_imul 18 dX9_laysAside_17 rfl ?_
      refine g_iload_n 2 19 dX9_laysAside_18 rfl rfl ?_
      refine g_iadd 20 dX9_laysAside_19 rfl ?_
      refine g_aload_n 0 21 dX9_laysAside_20 rfl rfl ?_
      refine g_getR 24 (a0 + 2) dX9_laysAside_21 rfl flX9_28 s0.1 s0.2.2.2.1 ?_
      refine g_iload_n 2 25 dX9_laysAside_24 rfl rfl ?_
      obtain ⟨b1, H⟩ := H
      refine h_iaload 26 (x2).toNatClampNeg dX9_laysAside_25 rfl rfl s0.2.2.2.2.1 b1 ?_
      obtain ⟨b2, H⟩ := H
      refine h_iastore 27 (((188 * x1) + x2)).toNatClampNeg dX9_laysAside_26 rfl rfl s0.2.2.2.2.2.2.2.2.2.2.1 b2 ?_
      generalize hM1 : (g_wi M (a0 + 5) (((188 * x1) + x2)).toNatClampNeg (g_mi M (a0 + 2) (x2).toNatClampNeg)) = M1
      have j1 : Sm M M1 := by rw [← hM1]; exact (Sm.wi Sm.rf)
      replace H := H M1 hM1.symm
      refine g_iinc _ 2 30 [(2, .int ((x2 + 1))), (0, .ref a0), (1, .int (x1))] dX9_laysAside_27 rfl rfl rfl (Nat.le_of_ble_eq_true rfl) rfl ?_
      refine g_goto 2 dX9_laysAside_30 rfl ?_
      exact g_sub [1, 2, 0] _ rfl (ih M1 a0 x1 (x2 + 1) (Mo.sm j1 s0) H (fun M1 j r => hR M1 (Sm.tr j1 j) r))
set_option maxRecDepth 10000 in
theorem uX9_laysAside {N K : Nat} {X : gX} {d mc ms : Nat} {Q : Option Value → gM → Prop} {M : gM} {a0 : Nat} {x1 : Int32} {R : gM → Prop} (s0 : Mo M a0) (H : pX9_laysAside N K M a0 x1 R) (hR : ∀ (M1 : gM), Sm M M1 → R M1 → Q none M1) : Cn X d mc ms kX9_laysAside [.ref a0, .int (x1)] M Q := by
  have ih := ulX9_laysAside (X := X) (d := d) (mc := mc) (ms := ms) (Q := Q) (N := N) (K := K) (R := R) N
  unfold pX9_laysAside pX9_laysAside_0 at H
  refine g_meth rfl rfl (Nat.le_of_ble_eq_true rfl) rfl ?_
  refine g_iconst (0) 1 dX9_laysAside_0 rfl rfl ?_
  refine g_istore_n 2 [(2, .int (0)), (0, .ref a0), (1, .int (x1))] dX9_laysAside_1 rfl (Nat.le_of_ble_eq_true rfl) rfl ?_
  exact g_sub [1, 2, 0] _ rfl (ih M a0 x1 0 s0 H (fun M1 j r => hR M1 j r))
/-! X9_takesBack -/
def pX9_takesBack_0 (N K : Nat) (kp : Nat → gM → Nat → Int32 → Int32 → Prop) (R : gM → Prop) (M : gM) (a0 : Nat) (x1 : Int32) : Prop := kp 0 M a0 x1 0
def pX9_takesBack_2 (N K : Nat) (kp : Nat → gM → Nat → Int32 → Int32 → Prop) (R : gM → Prop) (M : gM) (a0 : Nat) (x1 : Int32) (x2 : Int32) : Prop := ((188 ≤ x2 → R M) ∧ (¬ 188 ≤ x2 → (vp_in (((188 * x1) + x2)) 564) ∧ (vp_in (x2) 5812) ∧ ∀ M1 : gM, M1 = (g_wi M (a0 + 2) (x2).toNatClampNeg (g_mi M (a0 + 5) (((188 * x1) + x2)).toNatClampNeg)) → kp 0 M1 a0 x1 (x2 + 1)))
def qX9_takesBack (N K : Nat) (R : gM → Prop) : Nat → Nat → gM → Nat → Int32 → Int32 → Prop
  | 0, _, _, _, _, _ => False
  | n + 1, _, M, a0, x1, x2 => pX9_takesBack_2 N K (qX9_takesBack N K R n) R M a0 x1 x2
def pX9_takesBack (N K : Nat) (M : gM) (a0 : Nat) (x1 : Int32) (R : gM → Prop) : Prop := pX9_takesBack_0 N K (qX9_takesBack N K R N) R M a0 x1
def ULX9_takesBack (X : gX) (d mc ms : Nat) (Q : Option Value → gM → Prop) (N K : Nat) (R : gM → Prop) (n : Nat) : Prop := (∀ (M : gM) (a0 : Nat) (x1 : Int32) (x2 : Int32), Mo M a0 → qX9_takesBack N K R n 0 M a0 x1 x2 → (∀ (M1 : gM), Sm M M1 → R M1 → Q none M1) → Go X d mc ms kX9_takesBack Q 2 [(0, .ref a0), (1, .int (x1)), (2, .int (x2))] [] M 0 0)
set_option maxRecDepth 10000 in
theorem ulX9_takesBack {X : gX} {d mc ms : Nat} {Q : Option Value → gM → Prop} {N K : Nat} {R : gM → Prop} : ∀ n : Nat, ULX9_takesBack X d mc ms Q N K R n := by
  intro n
  induction n with
  | zero => exact fun _ _ _ _ _ h _ => h.elim
  | succ n ih =>
    intro M a0 x1 x2 s0 H hR
    rw [qX9_takesBack] at H
    unfold pX9_takesBack_2 at H
    refine g_iload_n 2 3 dX9_takesBack_2 rfl rfl ?_
    refine g_sipush (188) 6 dX9_takesBack_3 rfl rfl ?_
    refine g_icmp_ge 33 9 dX9_takesBack_6 rfl rfl (fun c1 => ?_) (fun c1 => ?_)
    · skip
      replace H := H.1 c1
      exact g_vret dX9_takesBack_33 rfl (Nat.zero_le _) (Nat.zero_le _) (hR _ Sm.rf H)
    · skip
      replace H := H.2 c1
      refine g_aload_n 0 10 dX9_takesBack_9 rfl rfl ?_
      refine g_getR 13 (a0 + 2) dX9_takesBack_10 rfl flX9_28 s0.1 s0.2.2.2.1 ?_
      refine g_iload_n 2 14 dX9_takesBack_13 rfl rfl ?_
      refine g_aload_n 0 15 dX9_takesBack_14 rfl rfl ?_
      refine g_getR 18 (a0 + 5) dX9_takesBack_15 rfl flX9_38 s0.1 s0.2.2.2.2.2.2.2.2.2.1 ?_
      refine g_sipush (188) 21 dX9_takesBack_18 rfl rfl ?_
      refine g_iload_n 1 22 dX9_takesBack_21 rfl rfl ?_
      refine g_imul 23 dX9_takesBack_22 rfl ?_
      refine g_iload_n 2 24 dX9_takesBack_23 rfl rfl ?_
      refine g_iadd 25 dX9_takesBack_24 rfl ?_
      obtain ⟨b1, H⟩ := H
      refine h_iaload 26 (((188 * x1) + x2)).toNatClampNeg dX9_takesBack_25 rfl rfl s0.2.2.2.2.2.2.2.2.2.2.1 b1 ?_
      obtain ⟨b2, H⟩ := H
      refine h_iastore 27 (x2).toNatClampNeg dX9_takesBack_26 rfl rfl s0.2.2.2.2.1 b2 ?_
      generalize hM1 : (g_wi M (a0 + 2) (x2).toNatClampNeg (g_mi M (a0 + 5) (((188 * x1) + x2)).toNatClampNeg)) = M1
      have j1 : Sm M M1 := by rw [← hM1]; exact (Sm.wi Sm.rf)
      replace H := H M1 hM1.symm
      refine g_iinc _ 2 30 [(2, .int ((x2 + 1))), (0, .ref a0), (1, .int (x1))] dX9_takesBack_27 rfl rfl rfl (Nat.le_of_ble_eq_true rfl) rfl ?_
      refine g_goto 2 dX9_takesBack_30 rfl ?_
      exact g_sub [1, 2, 0] _ rfl (ih M1 a0 x1 (x2 + 1) (Mo.sm j1 s0) H (fun M1 j r => hR M1 (Sm.tr j1 j) r))
set_option maxRecDepth 10000 in
theorem uX9_takesBack {N K : Nat} {X : gX} {d mc ms : Nat} {Q : Option Value → gM → Prop} {M : gM} {a0 : Nat} {x1 : Int32} {R : gM → Prop} (s0 : Mo M a0) (H : pX9_takesBack N K M a0 x1 R) (hR : ∀ (M1 : gM), Sm M M1 → R M1 → Q none M1) : Cn X d mc ms kX9_takesBack [.ref a0, .int (x1)] M Q := by
  have ih := ulX9_takesBack (X := X) (d := d) (mc := mc) (ms := ms) (Q := Q) (N := N) (K := K) (R := R) N
  unfold pX9_takesBack pX9_takesBack_0 at H
  refine g_meth rfl rfl (Nat.le_of_ble_eq_true rfl) rfl ?_
  refine g_iconst (0) 1 dX9_takesBack_0 rfl rfl ?_
  refine g_istore_n 2 [(2, .int (0)), (0, .ref a0), (1, .int (x1))] dX9_takesBack_1 rfl (Nat.le_of_ble_eq_true rfl) rfl ?_
  exact g_sub [1, 2, 0] _ rfl (ih M a0 x1 0 s0 H (fun M1 j r => hR M1 j r))
/-! X9_image -/
def pX9_image_0 (N K : Nat) (kp : Nat → gM → Nat → Int32 → Int32 → Prop) (R : Int32 → gM → Prop) (M : gM) (a0 : Nat) (x1 : Int32) : Prop := ∀ v1 : Int32, v1 = (fX9_lies x1 0 1) → ((¬ v1 = 0 → kp 0 M a0 x1 0) ∧ (v1 = 0 → pX9_refuses N K M a0 (-1) (fun v2 M1 => R v2 M1)))
def pX9_image_17 (N K : Nat) (kp : Nat → gM → Nat → Int32 → Int32 → Prop) (R : Int32 → gM → Prop) (M : gM) (a0 : Nat) (x1 : Int32) (x2 : Int32) : Prop := ((5812 ≤ x2 → (vp_in (x1) 2) ∧ ∀ M1 : gM, M1 = (g_wi M (a0 + 4) (x1).toNatClampNeg 1) → pX9_good0 N K M1 a0 0 (fun v1 M2 => R v1 M2)) ∧ (¬ 5812 ≤ x2 → (vp_in (x2) 5812) ∧ (vp_in (((5812 * x1) + x2)) 11624) ∧ ∀ M3 : gM, M3 = (g_wi M (a0 + 3) (((5812 * x1) + x2)).toNatClampNeg (g_mi M (a0 + 2) (x2).toNatClampNeg)) → kp 0 M3 a0 x1 (x2 + 1)))
def qX9_image (N K : Nat) (R : Int32 → gM → Prop) : Nat → Nat → gM → Nat → Int32 → Int32 → Prop
  | 0, _, _, _, _, _ => False
  | n + 1, _, M, a0, x1, x2 => pX9_image_17 N K (qX9_image N K R n) R M a0 x1 x2
def pX9_image (N K : Nat) (M : gM) (a0 : Nat) (x1 : Int32) (R : Int32 → gM → Prop) : Prop := pX9_image_0 N K (qX9_image N K R N) R M a0 x1
def ULX9_image (X : gX) (d mc ms : Nat) (Q : Option Value → gM → Prop) (N K : Nat) (R : Int32 → gM → Prop) (n : Nat) : Prop := (∀ (M : gM) (a0 : Nat) (x1 : Int32) (x2 : Int32), Mo M a0 → qX9_image N K R n 0 M a0 x1 x2 → (∀ (v : Int32) (M1 : gM), Sm M M1 → R v M1 → Q (some (.int v)) M1) → Go X (d + 1) mc ms kX9_image Q 17 [(0, .ref a0), (1, .int (x1)), (2, .int (x2))] [] M 0 0)
set_option maxRecDepth 10000 in
theorem ulX9_image {X : gX} {d mc ms : Nat} {Q : Option Value → gM → Prop} {N K : Nat} {R : Int32 → gM → Prop} : ∀ n : Nat, ULX9_image X d mc ms Q N K R n := by
  intro n
  induction n with
  | zero => exact fun _ _ _ _ _ h _ => h.elim
  | succ n ih =>
    intro M a0 x1 x2 s0 H hR
    rw [qX9_image] at H
    unfold pX9_image_17 at H
    refine g_iload_n 2 18 dX9_image_17 rfl rfl ?_
    refine g_sipush (5812) 21 dX9_image_18 rfl rfl ?_
    refine g_icmp_ge 48 24 dX9_image_21 rfl rfl (fun c1 => ?_) (fun c1 => ?_)
    · skip
      replace H := H.1 c1
      refine g_aload_n 0 49 dX9_image_48 rfl rfl ?_
      refine g_getR 52 (a0 + 4) dX9_image_49 rfl flX9_34 s0.1 s0.2.2.2.2.2.2.2.1 ?_
      refine g_iload_n 1 53 dX9_image_52 rfl rfl ?_
      refine g_iconst (1) 54 dX9_image_53 rfl rfl ?_
      obtain ⟨b1, H⟩ := H
      refine h_zastore 55 (x1).toNatClampNeg dX9_image_54 rfl rfl s0.2.2.2.2.2.2.2.2.1 b1 (by decide) ?_
      generalize hM1 : (g_wi M (a0 + 4) (x1).toNatClampNeg 1) = M1
      have j1 : Sm M M1 := by rw [← hM1]; exact (Sm.wi Sm.rf)
      replace H := H M1 hM1.symm
      refine g_aload_n 0 56 dX9_image_55 rfl rfl ?_
      refine g_iconst (0) 57 dX9_image_56 rfl rfl ?_
      refine g_callV (mc1 := 0) (ms1 := 0) (b := a0) (rest := []) (av := [.int (0)]) kX9_good0 60 dX9_image_57 rfl rfl mbX9_14 imX9_good0 seX9_good0 gcl9.1 (Sm.k j1 s0.1) (Nat.le_of_ble_eq_true rfl) (Nat.zero_le _) (Nat.zero_le _) (uX9_good0 (N := N) (K := K) (Mo.sm j1 s0) H (fun v1 M2 jj H => ?_))
      have j2 : Sm M M2 := Sm.tr j1 jj
      show Go X (d + 1) mc ms kX9_image Q 60 [(0, .ref a0), (1, .int (x1)), (2, .int (x2))] [.int (v1)] M2 0 0
      exact g_iret dX9_image_60 rfl (Nat.zero_le _) (Nat.zero_le _) (hR _ _ j2 H)
    · skip
      replace H := H.2 c1
      refine g_aload_n 0 25 dX9_image_24 rfl rfl ?_
      refine g_getR 28 (a0 + 3) dX9_image_25 rfl flX9_31 s0.1 s0.2.2.2.2.2.1 ?_
      refine g_sipush (5812) 31 dX9_image_28 rfl rfl ?_
      refine g_iload_n 1 32 dX9_image_31 rfl rfl ?_
      refine g_imul 33 dX9_image_32 rfl ?_
      refine g_iload_n 2 34 dX9_image_33 rfl rfl ?_
      refine g_iadd 35 dX9_image_34 rfl ?_
      refine g_aload_n 0 36 dX9_image_35 rfl rfl ?_
      refine g_getR 39 (a0 + 2) dX9_image_36 rfl flX9_28 s0.1 s0.2.2.2.1 ?_
      refine g_iload_n 2 40 dX9_image_39 rfl rfl ?_
      obtain ⟨b2, H⟩ := H
      refine h_iaload 41 (x2).toNatClampNeg dX9_image_40 rfl rfl s0.2.2.2.2.1 b2 ?_
      obtain ⟨b3, H⟩ := H
      refine h_iastore 42 (((5812 * x1) + x2)).toNatClampNeg dX9_image_41 rfl rfl s0.2.2.2.2.2.2.1 b3 ?_
      generalize hM3 : (g_wi M (a0 + 3) (((5812 * x1) + x2)).toNatClampNeg (g_mi M (a0 + 2) (x2).toNatClampNeg)) = M3
      have j3 : Sm M M3 := by rw [← hM3]; exact (Sm.wi Sm.rf)
      replace H := H M3 hM3.symm
      refine g_iinc _ 2 45 [(2, .int ((x2 + 1))), (0, .ref a0), (1, .int (x1))] dX9_image_42 rfl rfl rfl (Nat.le_of_ble_eq_true rfl) rfl ?_
      refine g_goto 17 dX9_image_45 rfl ?_
      exact g_sub [1, 2, 0] _ rfl (ih M3 a0 x1 (x2 + 1) (Mo.sm j3 s0) H (fun v M1 j r => hR v M1 (Sm.tr j3 j) r))
set_option maxRecDepth 10000 in
theorem uX9_image {N K : Nat} {X : gX} {d mc ms : Nat} {Q : Option Value → gM → Prop} {M : gM} {a0 : Nat} {x1 : Int32} {R : Int32 → gM → Prop} (s0 : Mo M a0) (H : pX9_image N K M a0 x1 R) (hR : ∀ (v : Int32) (M1 : gM), Sm M M1 → R v M1 → Q (some (.int v)) M1) : Cn X (d + 1) mc ms kX9_image [.ref a0, .int (x1)] M Q := by
  have ih := ulX9_image (X := X) (d := d) (mc := mc) (ms := ms) (Q := Q) (N := N) (K := K) (R := R) N
  unfold pX9_image pX9_image_0 at H
  refine g_meth rfl rfl (Nat.le_of_ble_eq_true rfl) rfl ?_
  refine g_iload_n 1 1 dX9_image_0 rfl rfl ?_
  refine g_iconst (0) 2 dX9_image_1 rfl rfl ?_
  refine g_iconst (1) 3 dX9_image_2 rfl rfl ?_
  refine g_callS (mc1 := 0) (ms1 := 0) (rest := []) (av := [.int (x1), .int (0), .int (1)]) kX9_lies 6 dX9_image_3 rfl rfl mbX9_18 smX9_lies (Nat.le_of_ble_eq_true rfl) (Nat.zero_le _) (Nat.zero_le _) (tX9_lies  ?_)
  show Go X (d + 1) mc ms kX9_image Q 6 [(0, .ref a0), (1, .int (x1))] [.int ((fX9_lies x1 0 1))] M 0 0
  generalize hv1 : (fX9_lies x1 0 1) = v1
  replace H := H v1 hv1.symm
  refine g_if_ne 15 9 dX9_image_6 rfl rfl (fun c1 => ?_) (fun c1 => ?_)
  · skip
    replace H := H.1 c1
    refine g_iconst (0) 16 dX9_image_15 rfl rfl ?_
    refine g_istore_n 17 [(2, .int (0)), (0, .ref a0), (1, .int (x1))] dX9_image_16 rfl (Nat.le_of_ble_eq_true rfl) rfl ?_
    exact g_sub [1, 2, 0] _ rfl (ih M a0 x1 0 s0 H (fun v M1 j r => hR v M1 j r))
  · skip
    replace H := H.2 c1
    refine g_aload_n 0 10 dX9_image_9 rfl rfl ?_
    refine g_iconst ((-1)) 11 dX9_image_10 rfl rfl ?_
    refine g_callV (mc1 := 0) (ms1 := 0) (b := a0) (rest := []) (av := [.int ((-1))]) kX9_refuses 14 dX9_image_11 rfl rfl mbX9_103 imX9_refuses seX9_refuses gcl9.1 s0.1 (Nat.le_of_ble_eq_true rfl) (Nat.zero_le _) (Nat.zero_le _) (uX9_refuses (N := N) (K := K) s0 H (fun v2 M1 jj H => ?_))
    have j1 : Sm M M1 := jj
    show Go X (d + 1) mc ms kX9_image Q 14 [(0, .ref a0), (1, .int (x1))] [.int (v2)] M1 0 0
    exact g_iret dX9_image_14 rfl (Nat.zero_le _) (Nat.zero_le _) (hR _ _ j1 H)
/-! X9_back -/
def pX9_back_0 (N K : Nat) (kp : Nat → gM → Nat → Int32 → Int32 → Prop) (R : Int32 → gM → Prop) (M : gM) (a0 : Nat) (x1 : Int32) : Prop := ∀ v1 : Int32, v1 = (fX9_lies x1 0 1) → ((¬ v1 = 0 → (vp_in (x1) 2) ∧ ((¬ (g_mi M (a0 + 4) (x1).toNatClampNeg) = 0 → kp 0 M a0 x1 0) ∧ ((g_mi M (a0 + 4) (x1).toNatClampNeg) = 0 → pX9_refuses N K M a0 (-2) (fun v2 M1 => R v2 M1)))) ∧ (v1 = 0 → pX9_refuses N K M a0 (-1) (fun v3 M2 => R v3 M2)))
def pX9_back_33 (N K : Nat) (kp : Nat → gM → Nat → Int32 → Int32 → Prop) (R : Int32 → gM → Prop) (M : gM) (a0 : Nat) (x1 : Int32) (x2 : Int32) : Prop := ((5812 ≤ x2 → pX9_settled N K M a0 0 (fun v1 M1 => R v1 M1)) ∧ (¬ 5812 ≤ x2 → (vp_in (((5812 * x1) + x2)) 11624) ∧ (vp_in (x2) 5812) ∧ ∀ M2 : gM, M2 = (g_wi M (a0 + 2) (x2).toNatClampNeg (g_mi M (a0 + 3) (((5812 * x1) + x2)).toNatClampNeg)) → kp 0 M2 a0 x1 (x2 + 1)))
def qX9_back (N K : Nat) (R : Int32 → gM → Prop) : Nat → Nat → gM → Nat → Int32 → Int32 → Prop
  | 0, _, _, _, _, _ => False
  | n + 1, _, M, a0, x1, x2 => pX9_back_33 N K (qX9_back N K R n) R M a0 x1 x2
def pX9_back (N K : Nat) (M : gM) (a0 : Nat) (x1 : Int32) (R : Int32 → gM → Prop) : Prop := pX9_back_0 N K (qX9_back N K R N) R M a0 x1
def ULX9_back (X : gX) (d mc ms : Nat) (Q : Option Value → gM → Prop) (N K : Nat) (R : Int32 → gM → Prop) (n : Nat) : Prop := (∀ (M : gM) (a0 : Nat) (x1 : Int32) (x2 : Int32), Mo M a0 → qX9_back N K R n 0 M a0 x1 x2 → (∀ (v : Int32) (M1 : gM), Sm M M1 → R v M1 → Q (some (.int v)) M1) → Go X (d + 2) mc ms kX9_back Q 33 [(0, .ref a0), (1, .int (x1)), (2, .int (x2))] [] M 0 0)
set_option maxRecDepth 10000 in
theorem ulX9_back {X : gX} {d mc ms : Nat} {Q : Option Value → gM → Prop} {N K : Nat} {R : Int32 → gM → Prop} : ∀ n : Nat, ULX9_back X d mc ms Q N K R n := by
  intro n
  induction n with
  | zero => exact fun _ _ _ _ _ h _ => h.elim
  | succ n ih =>
    intro M a0 x1 x2 s0 H hR
    rw [qX9_back] at H
    unfold pX9_back_33 at H
    refine g_iload_n 2 34 dX9_back_33 rfl rfl ?_
    refine g_sipush (5812) 37 dX9_back_34 rfl rfl ?_
    refine g_icmp_ge 64 40 dX9_back_37 rfl rfl (fun c1 => ?_) (fun c1 => ?_)
    · skip
      replace H := H.1 c1
      refine g_aload_n 0 65 dX9_back_64 rfl rfl ?_
      refine g_iconst (0) 66 dX9_back_65 rfl rfl ?_
      refine g_callV (mc1 := 0) (ms1 := 0) (b := a0) (rest := []) (av := [.int (0)]) kX9_settled 69 dX9_back_66 rfl rfl mbX9_106 imX9_settled seX9_settled gcl9.1 s0.1 (Nat.le_of_ble_eq_true rfl) (Nat.zero_le _) (Nat.zero_le _) (uX9_settled (N := N) (K := K) s0 H (fun v1 M1 jj H => ?_))
      have j1 : Sm M M1 := jj
      show Go X (d + 2) mc ms kX9_back Q 69 [(0, .ref a0), (1, .int (x1)), (2, .int (x2))] [.int (v1)] M1 0 0
      exact g_iret dX9_back_69 rfl (Nat.zero_le _) (Nat.zero_le _) (hR _ _ j1 H)
    · skip
      replace H := H.2 c1
      refine g_aload_n 0 41 dX9_back_40 rfl rfl ?_
      refine g_getR 44 (a0 + 2) dX9_back_41 rfl flX9_28 s0.1 s0.2.2.2.1 ?_
      refine g_iload_n 2 45 dX9_back_44 rfl rfl ?_
      refine g_aload_n 0 46 dX9_back_45 rfl rfl ?_
      refine g_getR 49 (a0 + 3) dX9_back_46 rfl flX9_31 s0.1 s0.2.2.2.2.2.1 ?_
      refine g_sipush (5812) 52 dX9_back_49 rfl rfl ?_
      refine g_iload_n 1 53 dX9_back_52 rfl rfl ?_
      refine g_imul 54 dX9_back_53 rfl ?_
      refine g_iload_n 2 55 dX9_back_54 rfl rfl ?_
      refine g_iadd 56 dX9_back_55 rfl ?_
      obtain ⟨b1, H⟩ := H
      refine h_iaload 57 (((5812 * x1) + x2)).toNatClampNeg dX9_back_56 rfl rfl s0.2.2.2.2.2.2.1 b1 ?_
      obtain ⟨b2, H⟩ := H
      refine h_iastore 58 (x2).toNatClampNeg dX9_back_57 rfl rfl s0.2.2.2.2.1 b2 ?_
      generalize hM2 : (g_wi M (a0 + 2) (x2).toNatClampNeg (g_mi M (a0 + 3) (((5812 * x1) + x2)).toNatClampNeg)) = M2
      have j2 : Sm M M2 := by rw [← hM2]; exact (Sm.wi Sm.rf)
      replace H := H M2 hM2.symm
      refine g_iinc _ 2 61 [(2, .int ((x2 + 1))), (0, .ref a0), (1, .int (x1))] dX9_back_58 rfl rfl rfl (Nat.le_of_ble_eq_true rfl) rfl ?_
      refine g_goto 33 dX9_back_61 rfl ?_
      exact g_sub [1, 2, 0] _ rfl (ih M2 a0 x1 (x2 + 1) (Mo.sm j2 s0) H (fun v M1 j r => hR v M1 (Sm.tr j2 j) r))
set_option maxRecDepth 10000 in
theorem uX9_back {N K : Nat} {X : gX} {d mc ms : Nat} {Q : Option Value → gM → Prop} {M : gM} {a0 : Nat} {x1 : Int32} {R : Int32 → gM → Prop} (s0 : Mo M a0) (H : pX9_back N K M a0 x1 R) (hR : ∀ (v : Int32) (M1 : gM), Sm M M1 → R v M1 → Q (some (.int v)) M1) : Cn X (d + 2) mc ms kX9_back [.ref a0, .int (x1)] M Q := by
  have ih := ulX9_back (X := X) (d := d) (mc := mc) (ms := ms) (Q := Q) (N := N) (K := K) (R := R) N
  unfold pX9_back pX9_back_0 at H
  refine g_meth rfl rfl (Nat.le_of_ble_eq_true rfl) rfl ?_
  refine g_iload_n 1 1 dX9_back_0 rfl rfl ?_
  refine g_iconst (0) 2 dX9_back_1 rfl rfl ?_
  refine g_iconst (1) 3 dX9_back_2 rfl rfl ?_
  refine g_callS (mc1 := 0) (ms1 := 0) (rest := []) (av := [.int (x1), .int (0), .int (1)]) kX9_lies 6 dX9_back_3 rfl rfl mbX9_18 smX9_lies (Nat.le_of_ble_eq_true rfl) (Nat.zero_le _) (Nat.zero_le _) (tX9_lies  ?_)
  show Go X (d + 2) mc ms kX9_back Q 6 [(0, .ref a0), (1, .int (x1))] [.int ((fX9_lies x1 0 1))] M 0 0
  generalize hv1 : (fX9_lies x1 0 1) = v1
  replace H := H v1 hv1.symm
  refine g_if_ne 15 9 dX9_back_6 rfl rfl (fun c1 => ?_) (fun c1 => ?_)
  · skip
    replace H := H.1 c1
    refine g_aload_n 0 16 dX9_back_15 rfl rfl ?_
    refine g_getR 19 (a0 + 4) dX9_back_16 rfl flX9_34 s0.1 s0.2.2.2.2.2.2.2.1 ?_
    refine g_iload_n 1 20 dX9_back_19 rfl rfl ?_
    obtain ⟨b1, H⟩ := H
    refine h_zaload 21 (x1).toNatClampNeg dX9_back_20 rfl rfl s0.2.2.2.2.2.2.2.2.1 b1 ?_
    refine g_if_ne 31 24 dX9_back_21 rfl rfl (fun c2 => ?_) (fun c2 => ?_)
    · skip
      replace H := H.1 c2
      refine g_iconst (0) 32 dX9_back_31 rfl rfl ?_
      refine g_istore_n 33 [(2, .int (0)), (0, .ref a0), (1, .int (x1))] dX9_back_32 rfl (Nat.le_of_ble_eq_true rfl) rfl ?_
      exact g_sub [1, 2, 0] _ rfl (ih M a0 x1 0 s0 H (fun v M1 j r => hR v M1 j r))
    · skip
      replace H := H.2 c2
      refine g_aload_n 0 25 dX9_back_24 rfl rfl ?_
      refine g_bipush ((-2)) 27 dX9_back_25 rfl rfl ?_
      refine g_callV (mc1 := 0) (ms1 := 0) (b := a0) (rest := []) (av := [.int ((-2))]) kX9_refuses 30 dX9_back_27 rfl rfl mbX9_103 imX9_refuses seX9_refuses gcl9.1 s0.1 (Nat.le_of_ble_eq_true rfl) (Nat.zero_le _) (Nat.zero_le _) (uX9_refuses (N := N) (K := K) s0 H (fun v2 M1 jj H => ?_))
      have j1 : Sm M M1 := jj
      show Go X (d + 2) mc ms kX9_back Q 30 [(0, .ref a0), (1, .int (x1))] [.int (v2)] M1 0 0
      exact g_iret dX9_back_30 rfl (Nat.zero_le _) (Nat.zero_le _) (hR _ _ j1 H)
  · skip
    replace H := H.2 c1
    refine g_aload_n 0 10 dX9_back_9 rfl rfl ?_
    refine g_iconst ((-1)) 11 dX9_back_10 rfl rfl ?_
    refine g_callV (mc1 := 0) (ms1 := 0) (b := a0) (rest := []) (av := [.int ((-1))]) kX9_refuses 14 dX9_back_11 rfl rfl mbX9_103 imX9_refuses seX9_refuses gcl9.1 s0.1 (Nat.le_of_ble_eq_true rfl) (Nat.zero_le _) (Nat.zero_le _) (uX9_refuses (N := N) (K := K) s0 H (fun v3 M2 jj H => ?_))
    have j2 : Sm M M2 := jj
    show Go X (d + 2) mc ms kX9_back Q 14 [(0, .ref a0), (1, .int (x1))] [.int (v3)] M2 0 0
    exact g_iret dX9_back_14 rfl (Nat.zero_le _) (Nat.zero_le _) (hR _ _ j2 H)
/-! X9_there -/
def pX9_there (N K : Nat) (M : gM) (a0 : Nat) (x1 : Int32) (R : Int32 → Prop) : Prop := ∀ v1 : Int32, v1 = (fX9_lies x1 0 ((g_mi M (a0 + 2) 0) - 1)) → ((v1 = 0 → R (-1)) ∧ (¬ v1 = 0 → (EX9_keyAt M a0 x1) ∧ ∀ v2 : Int32, v2 = (fX9_keyAt M a0 x1) → R v2))
set_option maxRecDepth 10000 in
theorem uX9_there {N K : Nat} {X : gX} {d mc ms : Nat} {Q : Option Value → gM → Prop} {M : gM} {a0 : Nat} {x1 : Int32} {R : Int32 → Prop} (s0 : Mo M a0) (H : pX9_there N K M a0 x1 R) (hR : ∀ (v : Int32), R v → Q (some (.int v)) M) : Cn X (d + 1) mc ms kX9_there [.ref a0, .int (x1)] M Q := by
  unfold pX9_there at H
  refine g_meth rfl rfl (Nat.le_of_ble_eq_true rfl) rfl ?_
  refine g_iload_n 1 1 dX9_there_0 rfl rfl ?_
  refine g_iconst (0) 2 dX9_there_1 rfl rfl ?_
  refine g_aload_n 0 3 dX9_there_2 rfl rfl ?_
  refine g_getR 6 (a0 + 2) dX9_there_3 rfl flX9_28 s0.1 s0.2.2.2.1 ?_
  refine g_iconst (0) 7 dX9_there_6 rfl rfl ?_
  refine h_iaload 8 0 dX9_there_7 rfl rfl s0.2.2.2.2.1 (vp_lit rfl) ?_
  refine g_iconst (1) 9 dX9_there_8 rfl rfl ?_
  refine g_isub 10 dX9_there_9 rfl ?_
  refine g_callS (mc1 := 0) (ms1 := 0) (rest := []) (av := [.int (x1), .int (0), .int (((g_mi M (a0 + 2) 0) - 1))]) kX9_lies 13 dX9_there_10 rfl rfl mbX9_18 smX9_lies (Nat.le_of_ble_eq_true rfl) (Nat.zero_le _) (Nat.zero_le _) (tX9_lies  ?_)
  show Go X (d + 1) mc ms kX9_there Q 13 [(0, .ref a0), (1, .int (x1))] [.int ((fX9_lies x1 0 ((g_mi M (a0 + 2) 0) - 1)))] M 0 0
  generalize hv1 : (fX9_lies x1 0 ((g_mi M (a0 + 2) 0) - 1)) = v1
  replace H := H v1 hv1.symm
  refine g_if_eq 24 16 dX9_there_13 rfl rfl (fun c1 => ?_) (fun c1 => ?_)
  · skip
    replace H := H.1 c1
    refine g_iconst ((-1)) 25 dX9_there_24 rfl rfl ?_
    exact g_iret dX9_there_25 rfl (Nat.zero_le _) (Nat.zero_le _) (hR _ H)
  · skip
    replace H := H.2 c1
    refine g_aload_n 0 17 dX9_there_16 rfl rfl ?_
    refine g_iload_n 1 18 dX9_there_17 rfl rfl ?_
    obtain ⟨b1, H⟩ := H
    refine g_callV (mc1 := 0) (ms1 := 0) (b := a0) (rest := []) (av := [.int (x1)]) kX9_keyAt 21 dX9_there_18 rfl rfl mbX9_109 imX9_keyAt seX9_keyAt gcl9.1 s0.1 (Nat.le_of_ble_eq_true rfl) (Nat.zero_le _) (Nat.zero_le _) (tX9_keyAt s0 b1 ?_)
    show Go X (d + 1) mc ms kX9_there Q 21 [(0, .ref a0), (1, .int (x1))] [.int ((fX9_keyAt M a0 x1))] M 0 0
    generalize hv2 : (fX9_keyAt M a0 x1) = v2
    replace H := H v2 hv2.symm
    refine g_goto 25 dX9_there_21 rfl ?_
    exact g_iret dX9_there_25 rfl (Nat.zero_le _) (Nat.zero_le _) (hR _ H)
/-! X9_ceiling -/
def pX9_ceiling (N K : Nat) (M : gM) (a0 : Nat) (x1 : Int32) (R : Int32 → Prop) : Prop := (EX9_lowerMany N M a0 x1) ∧ ∀ v1 : Int32, v1 = (fX9_lowerMany N M a0 x1) → pX9_there N K M a0 v1 (fun v2 => R v2)
set_option maxRecDepth 10000 in
theorem uX9_ceiling {N K : Nat} {X : gX} {d mc ms : Nat} {Q : Option Value → gM → Prop} {M : gM} {a0 : Nat} {x1 : Int32} {R : Int32 → Prop} (s0 : Mo M a0) (H : pX9_ceiling N K M a0 x1 R) (hR : ∀ (v : Int32), R v → Q (some (.int v)) M) : Cn X (d + 2) mc ms kX9_ceiling [.ref a0, .int (x1)] M Q := by
  unfold pX9_ceiling at H
  refine g_meth rfl rfl (Nat.le_of_ble_eq_true rfl) rfl ?_
  refine g_aload_n 0 1 dX9_ceiling_0 rfl rfl ?_
  refine g_iload_n 1 2 dX9_ceiling_1 rfl rfl ?_
  obtain ⟨b1, H⟩ := H
  refine g_callV (mc1 := 0) (ms1 := 0) (b := a0) (rest := []) (av := [.int (x1)]) kX9_lowerMany 5 dX9_ceiling_2 rfl rfl mbX9_112 imX9_lowerMany seX9_lowerMany gcl9.1 s0.1 (Nat.le_of_ble_eq_true rfl) (Nat.zero_le _) (Nat.zero_le _) (tX9_lowerMany (N := N) s0 b1 ?_)
  show Go X (d + 2) mc ms kX9_ceiling Q 5 [(0, .ref a0), (1, .int (x1))] [.int ((fX9_lowerMany N M a0 x1))] M 0 0
  generalize hv1 : (fX9_lowerMany N M a0 x1) = v1
  replace H := H v1 hv1.symm
  refine g_istore_n 6 [(2, .int (v1)), (0, .ref a0), (1, .int (x1))] dX9_ceiling_5 rfl (Nat.le_of_ble_eq_true rfl) rfl ?_
  refine g_aload_n 1 7 dX9_ceiling_6 rfl rfl ?_
  refine g_iload_n 0 8 dX9_ceiling_7 rfl rfl ?_
  refine g_callV (mc1 := 0) (ms1 := 0) (b := a0) (rest := []) (av := [.int (v1)]) kX9_there 11 dX9_ceiling_8 rfl rfl mbX9_147 imX9_there seX9_there gcl9.1 s0.1 (Nat.le_of_ble_eq_true rfl) (Nat.zero_le _) (Nat.zero_le _) (uX9_there (N := N) (K := K) s0 H (fun v2 H => ?_))
  show Go X (d + 2) mc ms kX9_ceiling Q 11 [(2, .int (v1)), (0, .ref a0), (1, .int (x1))] [.int (v2)] M 0 0
  exact g_iret dX9_ceiling_11 rfl (Nat.zero_le _) (Nat.zero_le _) (hR _ H)
/-! X9_terms -/
def pX9_terms (N K : Nat) (M : gM) (a0 : Nat) (x1 : Int32) (x2 : Int32) (R : Int32 → gM → Prop) : Prop := (EX9_isTerm M x1 x2) ∧ ∀ v1 : Int32, v1 = (fX9_isTerm x1 x2) → ((¬ v1 = 0 → ∀ v2 : Int32, v2 = (fX9_termAt x1) → (vp_in (v2) 5812) ∧ ∀ v3 : Int32, v3 = (fX9_termAt x1) → (vp_in (v3) 5812) ∧ ∀ M1 : gM, M1 = (g_wi M (a0 + 2) (v3).toNatClampNeg x2) → pX9_settled N K M1 a0 (g_mi M (a0 + 2) (v2).toNatClampNeg) (fun v4 M2 => R v4 M2)) ∧ (v1 = 0 → pX9_refuses N K M a0 (-1) (fun v5 M3 => R v5 M3)))
set_option maxRecDepth 10000 in
theorem uX9_terms {N K : Nat} {X : gX} {d mc ms : Nat} {Q : Option Value → gM → Prop} {M : gM} {a0 : Nat} {x1 : Int32} {x2 : Int32} {R : Int32 → gM → Prop} (s0 : Mo M a0) (H : pX9_terms N K M a0 x1 x2 R) (hR : ∀ (v : Int32) (M1 : gM), Sm M M1 → R v M1 → Q (some (.int v)) M1) : Cn X (d + 2) mc ms kX9_terms [.ref a0, .int (x1), .int (x2)] M Q := by
  unfold pX9_terms at H
  refine g_meth rfl rfl (Nat.le_of_ble_eq_true rfl) rfl ?_
  refine g_iload_n 1 1 dX9_terms_0 rfl rfl ?_
  refine g_iload_n 2 2 dX9_terms_1 rfl rfl ?_
  obtain ⟨b1, H⟩ := H
  refine g_callS (mc1 := 0) (ms1 := 0) (rest := []) (av := [.int (x1), .int (x2)]) kX9_isTerm 5 dX9_terms_2 rfl rfl mbX9_150 smX9_isTerm (Nat.le_of_ble_eq_true rfl) (Nat.zero_le _) (Nat.zero_le _) (tX9_isTerm b1 ?_)
  show Go X (d + 2) mc ms kX9_terms Q 5 [(0, .ref a0), (1, .int (x1)), (2, .int (x2))] [.int ((fX9_isTerm x1 x2))] M 0 0
  generalize hv1 : (fX9_isTerm x1 x2) = v1
  replace H := H v1 hv1.symm
  refine g_if_ne 14 8 dX9_terms_5 rfl rfl (fun c1 => ?_) (fun c1 => ?_)
  · skip
    replace H := H.1 c1
    refine g_aload_n 0 15 dX9_terms_14 rfl rfl ?_
    refine g_getR 18 (a0 + 2) dX9_terms_15 rfl flX9_28 s0.1 s0.2.2.2.1 ?_
    refine g_iload_n 1 19 dX9_terms_18 rfl rfl ?_
    refine g_callS (mc1 := 0) (ms1 := 0) (rest := [.ref (a0 + 2)]) (av := [.int (x1)]) kX9_termAt 22 dX9_terms_19 rfl rfl mbX9_154 smX9_termAt (Nat.le_of_ble_eq_true rfl) (Nat.zero_le _) (Nat.zero_le _) (tX9_termAt  ?_)
    show Go X (d + 2) mc ms kX9_terms Q 22 [(0, .ref a0), (1, .int (x1)), (2, .int (x2))] [.int ((fX9_termAt x1)), .ref (a0 + 2)] M 0 0
    generalize hv2 : (fX9_termAt x1) = v2
    replace H := H v2 hv2.symm
    obtain ⟨b2, H⟩ := H
    refine h_iaload 23 (v2).toNatClampNeg dX9_terms_22 rfl rfl s0.2.2.2.2.1 b2 ?_
    refine g_istore_n 24 [(3, .int ((g_mi M (a0 + 2) (v2).toNatClampNeg))), (0, .ref a0), (1, .int (x1)), (2, .int (x2))] dX9_terms_23 rfl (Nat.le_of_ble_eq_true rfl) rfl ?_
    refine g_aload_n 1 25 dX9_terms_24 rfl rfl ?_
    refine g_getR 28 (a0 + 2) dX9_terms_25 rfl flX9_28 s0.1 s0.2.2.2.1 ?_
    refine g_iload_n 2 29 dX9_terms_28 rfl rfl ?_
    refine g_callS (mc1 := 0) (ms1 := 0) (rest := [.ref (a0 + 2)]) (av := [.int (x1)]) kX9_termAt 32 dX9_terms_29 rfl rfl mbX9_154 smX9_termAt (Nat.le_of_ble_eq_true rfl) (Nat.zero_le _) (Nat.zero_le _) (tX9_termAt  ?_)
    show Go X (d + 2) mc ms kX9_terms Q 32 [(3, .int ((g_mi M (a0 + 2) (v2).toNatClampNeg))), (0, .ref a0), (1, .int (x1)), (2, .int (x2))] [.int ((fX9_termAt x1)), .ref (a0 + 2)] M 0 0
    generalize hv3 : (fX9_termAt x1) = v3
    replace H := H v3 hv3.symm
    refine g_iload_n 3 33 dX9_terms_32 rfl rfl ?_
    obtain ⟨b3, H⟩ := H
    refine h_iastore 34 (v3).toNatClampNeg dX9_terms_33 rfl rfl s0.2.2.2.2.1 b3 ?_
    generalize hM1 : (g_wi M (a0 + 2) (v3).toNatClampNeg x2) = M1
    have j1 : Sm M M1 := by rw [← hM1]; exact (Sm.wi Sm.rf)
    replace H := H M1 hM1.symm
    refine g_aload_n 1 35 dX9_terms_34 rfl rfl ?_
    refine g_iload_n 0 36 dX9_terms_35 rfl rfl ?_
    refine g_callV (mc1 := 0) (ms1 := 0) (b := a0) (rest := []) (av := [.int ((g_mi M (a0 + 2) (v2).toNatClampNeg))]) kX9_settled 39 dX9_terms_36 rfl rfl mbX9_106 imX9_settled seX9_settled gcl9.1 (Sm.k j1 s0.1) (Nat.le_of_ble_eq_true rfl) (Nat.zero_le _) (Nat.zero_le _) (uX9_settled (N := N) (K := K) (Mo.sm j1 s0) H (fun v4 M2 jj H => ?_))
    have j2 : Sm M M2 := Sm.tr j1 jj
    show Go X (d + 2) mc ms kX9_terms Q 39 [(3, .int ((g_mi M (a0 + 2) (v2).toNatClampNeg))), (0, .ref a0), (1, .int (x1)), (2, .int (x2))] [.int (v4)] M2 0 0
    exact g_iret dX9_terms_39 rfl (Nat.zero_le _) (Nat.zero_le _) (hR _ _ j2 H)
  · skip
    replace H := H.2 c1
    refine g_aload_n 0 9 dX9_terms_8 rfl rfl ?_
    refine g_iconst ((-1)) 10 dX9_terms_9 rfl rfl ?_
    refine g_callV (mc1 := 0) (ms1 := 0) (b := a0) (rest := []) (av := [.int ((-1))]) kX9_refuses 13 dX9_terms_10 rfl rfl mbX9_103 imX9_refuses seX9_refuses gcl9.1 s0.1 (Nat.le_of_ble_eq_true rfl) (Nat.zero_le _) (Nat.zero_le _) (uX9_refuses (N := N) (K := K) s0 H (fun v5 M3 jj H => ?_))
    have j3 : Sm M M3 := jj
    show Go X (d + 2) mc ms kX9_terms Q 13 [(0, .ref a0), (1, .int (x1)), (2, .int (x2))] [.int (v5)] M3 0 0
    exact g_iret dX9_terms_13 rfl (Nat.zero_le _) (Nat.zero_le _) (hR _ _ j3 H)
/-! X9_blanks -/
def pX9_blanks (N K : Nat) (M : gM) (a0 : Nat) (R : Int32 → Prop) : Prop := R (g_mi M a0 6)
set_option maxRecDepth 10000 in
theorem uX9_blanks {N K : Nat} {X : gX} {d mc ms : Nat} {Q : Option Value → gM → Prop} {M : gM} {a0 : Nat} {R : Int32 → Prop} (s0 : Mo M a0) (H : pX9_blanks N K M a0 R) (hR : ∀ (v : Int32), R v → Q (some (.int v)) M) : Cn X d mc ms kX9_blanks [.ref a0] M Q := by
  unfold pX9_blanks at H
  refine g_meth rfl rfl (Nat.le_of_ble_eq_true rfl) rfl ?_
  refine g_aload_n 0 1 dX9_blanks_0 rfl rfl ?_
  refine g_getI 4 dX9_blanks_1 rfl flX9_160 s0.1 ?_
  exact g_iret dX9_blanks_4 rfl (Nat.zero_le _) (Nat.zero_le _) (hR _ H)
/-! X9_end -/
def pX9_end (N K : Nat) (M : gM) (a0 : Nat) (x1 : Int32) (R : Int32 → gM → Prop) : Prop := ∀ v1 : Int32, v1 = (fX9_lies x1 0 (g_mi M a0 13)) → ((¬ v1 = 0 → ∀ M1 : gM, M1 = (g_wi M a0 13 x1) → R x1 M1) ∧ (v1 = 0 → R (-1) M))
set_option maxRecDepth 10000 in
theorem uX9_end {N K : Nat} {X : gX} {d mc ms : Nat} {Q : Option Value → gM → Prop} {M : gM} {a0 : Nat} {x1 : Int32} {R : Int32 → gM → Prop} (s0 : Mo M a0) (H : pX9_end N K M a0 x1 R) (hR : ∀ (v : Int32) (M1 : gM), Sm M M1 → R v M1 → Q (some (.int v)) M1) : Cn X (d + 1) mc ms kX9_end [.ref a0, .int (x1)] M Q := by
  unfold pX9_end at H
  refine g_meth rfl rfl (Nat.le_of_ble_eq_true rfl) rfl ?_
  refine g_iload_n 1 1 dX9_end_0 rfl rfl ?_
  refine g_iconst (0) 2 dX9_end_1 rfl rfl ?_
  refine g_aload_n 0 3 dX9_end_2 rfl rfl ?_
  refine g_getI 6 dX9_end_3 rfl flX9_157 s0.1 ?_
  refine g_callS (mc1 := 0) (ms1 := 0) (rest := []) (av := [.int (x1), .int (0), .int ((g_mi M a0 13))]) kX9_lies 9 dX9_end_6 rfl rfl mbX9_18 smX9_lies (Nat.le_of_ble_eq_true rfl) (Nat.zero_le _) (Nat.zero_le _) (tX9_lies  ?_)
  show Go X (d + 1) mc ms kX9_end Q 9 [(0, .ref a0), (1, .int (x1))] [.int ((fX9_lies x1 0 (g_mi M a0 13)))] M 0 0
  generalize hv1 : (fX9_lies x1 0 (g_mi M a0 13)) = v1
  replace H := H v1 hv1.symm
  refine g_if_ne 14 12 dX9_end_9 rfl rfl (fun c1 => ?_) (fun c1 => ?_)
  · skip
    replace H := H.1 c1
    refine g_aload_n 0 15 dX9_end_14 rfl rfl ?_
    refine g_iload_n 1 16 dX9_end_15 rfl rfl ?_
    refine g_putI 19 dX9_end_16 rfl flX9_157 s0.1 ?_
    generalize hM1 : (g_wi M a0 13 x1) = M1
    have j1 : Sm M M1 := by rw [← hM1]; exact (Sm.wi Sm.rf)
    replace H := H M1 hM1.symm
    refine g_iload_n 1 20 dX9_end_19 rfl rfl ?_
    exact g_iret dX9_end_20 rfl (Nat.zero_le _) (Nat.zero_le _) (hR _ _ j1 H)
  · skip
    replace H := H.2 c1
    refine g_iconst ((-1)) 13 dX9_end_12 rfl rfl ?_
    exact g_iret dX9_end_13 rfl (Nat.zero_le _) (Nat.zero_le _) (hR _ _ Sm.rf H)
/-! X9_splits -/
def pX9_splits_0 (N K : Nat) (kp : Nat → gM → Nat → Int32 → Int32 → Int32 → Int32 → Int32 → Prop) (R : gM → Prop) (M : gM) (a0 : Nat) (x1 : Int32) : Prop := ∀ M1 : gM, M1 = (g_wi M a0 18 0) → kp 0 M1 a0 x1 0 0 0 0
def pX9_splits_7 (N K : Nat) (kp : Nat → gM → Nat → Int32 → Int32 → Int32 → Int32 → Int32 → Prop) (R : gM → Prop) (M : gM) (a0 : Nat) (x1 : Int32) (x2 : Int32) : Prop := ((x1 ≤ x2 → (vp_in ((g_mi M a0 18)) 401) ∧ ∀ M1 : gM, M1 = (g_wi M (a0 + 11) ((g_mi M a0 18)).toNatClampNeg x1) → (vp_in ((g_mi M1 a0 18)) 401) ∧ ∀ M2 : gM, M2 = (g_wi M1 (a0 + 9) ((g_mi M1 a0 18)).toNatClampNeg 0) → (vp_in ((g_mi M2 a0 18)) 401) ∧ ∀ M3 : gM, M3 = (g_wi M2 (a0 + 10) ((g_mi M2 a0 18)).toNatClampNeg 0) → R M3) ∧ (¬ x1 ≤ x2 → (vp_in (x2) 400) ∧ ((¬ (g_mi M (a0 + 7) (x2).toNatClampNeg) = 32 → ∀ v1 : Int32, v1 = (fX9_isSmall (g_mi M (a0 + 7) (x2).toNatClampNeg)) → ((v1 = 0 → ∀ v2 : Int32, v2 = (fX9_isDigit (g_mi M (a0 + 7) (x2).toNatClampNeg)) → ((v2 = 0 → (vp_in ((g_mi M a0 18)) 401) ∧ ∀ M4 : gM, M4 = (g_wi M (a0 + 11) ((g_mi M a0 18)).toNatClampNeg x2) → (vp_in ((g_mi M4 a0 18)) 401) ∧ ∀ M5 : gM, M5 = (g_wi M4 (a0 + 10) ((g_mi M4 a0 18)).toNatClampNeg 0) → ∀ v3 : Int32, v3 = (fX9_isSmall (g_mi M (a0 + 7) (x2).toNatClampNeg)) → ((v3 = 0 → ∀ v4 : Int32, v4 = (fX9_isDigit (g_mi M (a0 + 7) (x2).toNatClampNeg)) → ((v4 = 0 → (vp_in ((g_mi M5 a0 18)) 401) ∧ ∀ M6 : gM, M6 = (g_wi M5 (a0 + 9) ((g_mi M5 a0 18)).toNatClampNeg (100 + ((g_mi M (a0 + 7) (x2).toNatClampNeg) &&& 255))) → kp 3 M6 a0 x1 0 (g_mi M (a0 + 7) (x2).toNatClampNeg) (x2 + 1) x2) ∧ (¬ v4 = 0 → (vp_in ((g_mi M5 a0 18)) 401) ∧ ∀ M7 : gM, M7 = (g_wi M5 (a0 + 9) ((g_mi M5 a0 18)).toNatClampNeg 50) → kp 3 M7 a0 x1 0 (g_mi M (a0 + 7) (x2).toNatClampNeg) (x2 + 1) x2))) ∧ (¬ v3 = 0 → pX9_wordOf N K M5 a0 x2 (x2 + 1) (fun v5 => (vp_in ((g_mi M5 a0 18)) 401) ∧ ∀ M8 : gM, M8 = (g_wi M5 (a0 + 9) ((g_mi M5 a0 18)).toNatClampNeg v5) → kp 3 M8 a0 x1 0 (g_mi M (a0 + 7) (x2).toNatClampNeg) (x2 + 1) x2)))) ∧ (¬ v2 = 0 → kp 2 M a0 x1 x2 (g_mi M (a0 + 7) (x2).toNatClampNeg) (x2 + 1) 0))) ∧ (¬ v1 = 0 → kp 1 M a0 x1 x2 (g_mi M (a0 + 7) (x2).toNatClampNeg) (x2 + 1) 0))) ∧ ((g_mi M (a0 + 7) (x2).toNatClampNeg) = 32 → kp 0 M a0 x1 (x2 + 1) 0 0 0))))
def pX9_splits_43 (N K : Nat) (kp : Nat → gM → Nat → Int32 → Int32 → Int32 → Int32 → Int32 → Prop) (R : gM → Prop) (M : gM) (a0 : Nat) (x1 : Int32) (x2 : Int32) (x3 : Int32) (x4 : Int32) : Prop := ((x1 ≤ x4 → ∀ v1 : Int32, v1 = (fX9_isDigit x3) → ((v1 = 0 → (vp_in ((g_mi M a0 18)) 401) ∧ ∀ M1 : gM, M1 = (g_wi M (a0 + 11) ((g_mi M a0 18)).toNatClampNeg x2) → (vp_in ((g_mi M1 a0 18)) 401) ∧ ∀ M2 : gM, M2 = (g_wi M1 (a0 + 10) ((g_mi M1 a0 18)).toNatClampNeg 0) → ∀ v2 : Int32, v2 = (fX9_isSmall x3) → ((v2 = 0 → ∀ v3 : Int32, v3 = (fX9_isDigit x3) → ((v3 = 0 → (vp_in ((g_mi M2 a0 18)) 401) ∧ ∀ M3 : gM, M3 = (g_wi M2 (a0 + 9) ((g_mi M2 a0 18)).toNatClampNeg (100 + (x3 &&& 255))) → kp 3 M3 a0 x1 0 x3 x4 x2) ∧ (¬ v3 = 0 → (vp_in ((g_mi M2 a0 18)) 401) ∧ ∀ M4 : gM, M4 = (g_wi M2 (a0 + 9) ((g_mi M2 a0 18)).toNatClampNeg 50) → kp 3 M4 a0 x1 0 x3 x4 x2))) ∧ (¬ v2 = 0 → pX9_wordOf N K M2 a0 x2 x4 (fun v4 => (vp_in ((g_mi M2 a0 18)) 401) ∧ ∀ M5 : gM, M5 = (g_wi M2 (a0 + 9) ((g_mi M2 a0 18)).toNatClampNeg v4) → kp 3 M5 a0 x1 0 x3 x4 x2)))) ∧ (¬ v1 = 0 → kp 2 M a0 x1 x2 x3 x4 0))) ∧ (¬ x1 ≤ x4 → (vp_in (x4) 400) ∧ ∀ v5 : Int32, v5 = (fX9_isSmall (g_mi M (a0 + 7) (x4).toNatClampNeg)) → ((v5 = 0 → ∀ v6 : Int32, v6 = (fX9_isDigit x3) → ((v6 = 0 → (vp_in ((g_mi M a0 18)) 401) ∧ ∀ M6 : gM, M6 = (g_wi M (a0 + 11) ((g_mi M a0 18)).toNatClampNeg x2) → (vp_in ((g_mi M6 a0 18)) 401) ∧ ∀ M7 : gM, M7 = (g_wi M6 (a0 + 10) ((g_mi M6 a0 18)).toNatClampNeg 0) → ∀ v7 : Int32, v7 = (fX9_isSmall x3) → ((v7 = 0 → ∀ v8 : Int32, v8 = (fX9_isDigit x3) → ((v8 = 0 → (vp_in ((g_mi M7 a0 18)) 401) ∧ ∀ M8 : gM, M8 = (g_wi M7 (a0 + 9) ((g_mi M7 a0 18)).toNatClampNeg (100 + (x3 &&& 255))) → kp 3 M8 a0 x1 0 x3 x4 x2) ∧ (¬ v8 = 0 → (vp_in ((g_mi M7 a0 18)) 401) ∧ ∀ M9 : gM, M9 = (g_wi M7 (a0 + 9) ((g_mi M7 a0 18)).toNatClampNeg 50) → kp 3 M9 a0 x1 0 x3 x4 x2))) ∧ (¬ v7 = 0 → pX9_wordOf N K M7 a0 x2 x4 (fun v9 => (vp_in ((g_mi M7 a0 18)) 401) ∧ ∀ M10 : gM, M10 = (g_wi M7 (a0 + 9) ((g_mi M7 a0 18)).toNatClampNeg v9) → kp 3 M10 a0 x1 0 x3 x4 x2)))) ∧ (¬ v6 = 0 → kp 2 M a0 x1 x2 x3 x4 0))) ∧ (¬ v5 = 0 → kp 1 M a0 x1 x2 x3 (x4 + 1) 0))))
def pX9_splits_75 (N K : Nat) (kp : Nat → gM → Nat → Int32 → Int32 → Int32 → Int32 → Int32 → Prop) (R : gM → Prop) (M : gM) (a0 : Nat) (x1 : Int32) (x2 : Int32) (x3 : Int32) (x4 : Int32) : Prop := ((x1 ≤ x4 → (vp_in ((g_mi M a0 18)) 401) ∧ ∀ M1 : gM, M1 = (g_wi M (a0 + 11) ((g_mi M a0 18)).toNatClampNeg x2) → (vp_in ((g_mi M1 a0 18)) 401) ∧ ∀ M2 : gM, M2 = (g_wi M1 (a0 + 10) ((g_mi M1 a0 18)).toNatClampNeg 0) → ∀ v1 : Int32, v1 = (fX9_isSmall x3) → ((v1 = 0 → ∀ v2 : Int32, v2 = (fX9_isDigit x3) → ((v2 = 0 → (vp_in ((g_mi M2 a0 18)) 401) ∧ ∀ M3 : gM, M3 = (g_wi M2 (a0 + 9) ((g_mi M2 a0 18)).toNatClampNeg (100 + (x3 &&& 255))) → kp 3 M3 a0 x1 0 x3 x4 x2) ∧ (¬ v2 = 0 → (vp_in ((g_mi M2 a0 18)) 401) ∧ ∀ M4 : gM, M4 = (g_wi M2 (a0 + 9) ((g_mi M2 a0 18)).toNatClampNeg 50) → kp 3 M4 a0 x1 0 x3 x4 x2))) ∧ (¬ v1 = 0 → pX9_wordOf N K M2 a0 x2 x4 (fun v3 => (vp_in ((g_mi M2 a0 18)) 401) ∧ ∀ M5 : gM, M5 = (g_wi M2 (a0 + 9) ((g_mi M2 a0 18)).toNatClampNeg v3) → kp 3 M5 a0 x1 0 x3 x4 x2)))) ∧ (¬ x1 ≤ x4 → (vp_in (x4) 400) ∧ ∀ v4 : Int32, v4 = (fX9_isDigit (g_mi M (a0 + 7) (x4).toNatClampNeg)) → ((v4 = 0 → (vp_in ((g_mi M a0 18)) 401) ∧ ∀ M6 : gM, M6 = (g_wi M (a0 + 11) ((g_mi M a0 18)).toNatClampNeg x2) → (vp_in ((g_mi M6 a0 18)) 401) ∧ ∀ M7 : gM, M7 = (g_wi M6 (a0 + 10) ((g_mi M6 a0 18)).toNatClampNeg 0) → ∀ v5 : Int32, v5 = (fX9_isSmall x3) → ((v5 = 0 → ∀ v6 : Int32, v6 = (fX9_isDigit x3) → ((v6 = 0 → (vp_in ((g_mi M7 a0 18)) 401) ∧ ∀ M8 : gM, M8 = (g_wi M7 (a0 + 9) ((g_mi M7 a0 18)).toNatClampNeg (100 + (x3 &&& 255))) → kp 3 M8 a0 x1 0 x3 x4 x2) ∧ (¬ v6 = 0 → (vp_in ((g_mi M7 a0 18)) 401) ∧ ∀ M9 : gM, M9 = (g_wi M7 (a0 + 9) ((g_mi M7 a0 18)).toNatClampNeg 50) → kp 3 M9 a0 x1 0 x3 x4 x2))) ∧ (¬ v5 = 0 → pX9_wordOf N K M7 a0 x2 x4 (fun v7 => (vp_in ((g_mi M7 a0 18)) 401) ∧ ∀ M10 : gM, M10 = (g_wi M7 (a0 + 9) ((g_mi M7 a0 18)).toNatClampNeg v7) → kp 3 M10 a0 x1 0 x3 x4 x2)))) ∧ (¬ v4 = 0 → kp 2 M a0 x1 x2 x3 (x4 + 1) 0))))
def pX9_splits_169 (N K : Nat) (kp : Nat → gM → Nat → Int32 → Int32 → Int32 → Int32 → Int32 → Prop) (R : gM → Prop) (M : gM) (a0 : Nat) (x1 : Int32) (x3 : Int32) (x4 : Int32) (x5 : Int32) : Prop := ((x4 ≤ x5 → ∀ M1 : gM, M1 = (g_wi M a0 18 ((g_mi M a0 18) + 1)) → kp 0 M1 a0 x1 x4 0 0 0) ∧ (¬ x4 ≤ x5 → ∀ v1 : Int32, v1 = (fX9_isDigit x3) → ((v1 = 0 → ∀ M2 : gM, M2 = (g_wi M a0 18 ((g_mi M a0 18) + 1)) → kp 0 M2 a0 x1 x4 0 0 0) ∧ (¬ v1 = 0 → (vp_in ((g_mi M a0 18)) 401) ∧ (((g_mi M (a0 + 10) ((g_mi M a0 18)).toNatClampNeg) ≤ 1000000 → (vp_in (x5) 400) ∧ ∀ M3 : gM, M3 = (g_wi M (a0 + 10) ((g_mi M a0 18)).toNatClampNeg (((10 * (g_mi M (a0 + 10) ((g_mi M a0 18)).toNatClampNeg)) + (g_mi M (a0 + 7) (x5).toNatClampNeg)) - 48)) → kp 3 M3 a0 x1 0 x3 x4 (x5 + 1)) ∧ (¬ (g_mi M (a0 + 10) ((g_mi M a0 18)).toNatClampNeg) ≤ 1000000 → ∀ M4 : gM, M4 = (g_wi M (a0 + 10) ((g_mi M a0 18)).toNatClampNeg (g_mi M (a0 + 10) ((g_mi M a0 18)).toNatClampNeg)) → kp 3 M4 a0 x1 0 x3 x4 (x5 + 1)))))))
def qX9_splits (N K : Nat) (R : gM → Prop) : Nat → Nat → gM → Nat → Int32 → Int32 → Int32 → Int32 → Int32 → Prop
  | 0, _, _, _, _, _, _, _, _ => False
  | n + 1, h, M, a0, x1, x2, x3, x4, x5 => if h = 0 then pX9_splits_7 N K (qX9_splits N K R n) R M a0 x1 x2 else if h = 1 then pX9_splits_43 N K (qX9_splits N K R n) R M a0 x1 x2 x3 x4 else if h = 2 then pX9_splits_75 N K (qX9_splits N K R n) R M a0 x1 x2 x3 x4 else pX9_splits_169 N K (qX9_splits N K R n) R M a0 x1 x3 x4 x5
def pX9_splits (N K : Nat) (M : gM) (a0 : Nat) (x1 : Int32) (R : gM → Prop) : Prop := pX9_splits_0 N K (qX9_splits N K R N) R M a0 x1
def ULX9_splits (X : gX) (d mc ms : Nat) (Q : Option Value → gM → Prop) (N K : Nat) (R : gM → Prop) (n : Nat) : Prop := (∀ (M : gM) (a0 : Nat) (x1 : Int32) (x2 : Int32) (x3 : Int32) (x4 : Int32) (x5 : Int32), Mo M a0 → qX9_splits N K R n 0 M a0 x1 x2 x3 x4 x5 → (∀ (M1 : gM), Sm M M1 → R M1 → Q none M1) → Go X (d + 1) mc ms kX9_splits Q 7 [(0, .ref a0), (1, .int (x1)), (2, .int (x2))] [] M 0 0) ∧ (∀ (M : gM) (a0 : Nat) (x1 : Int32) (x2 : Int32) (x3 : Int32) (x4 : Int32) (x5 : Int32), Mo M a0 → qX9_splits N K R n 1 M a0 x1 x2 x3 x4 x5 → (∀ (M1 : gM), Sm M M1 → R M1 → Q none M1) → Go X (d + 1) mc ms kX9_splits Q 43 [(0, .ref a0), (1, .int (x1)), (2, .int (x2)), (3, .int (x3)), (4, .int (x4))] [] M 0 0) ∧ (∀ (M : gM) (a0 : Nat) (x1 : Int32) (x2 : Int32) (x3 : Int32) (x4 : Int32) (x5 : Int32), Mo M a0 → qX9_splits N K R n 2 M a0 x1 x2 x3 x4 x5 → (∀ (M1 : gM), Sm M M1 → R M1 → Q none M1) → Go X (d + 1) mc ms kX9_splits Q 75 [(0, .ref a0), (1, .int (x1)), (2, .int (x2)), (3, .int (x3)), (4, .int (x4))] [] M 0 0) ∧ (∀ (M : gM) (a0 : Nat) (x1 : Int32) (x2 : Int32) (x3 : Int32) (x4 : Int32) (x5 : Int32), Mo M a0 → qX9_splits N K R n 3 M a0 x1 x2 x3 x4 x5 → (∀ (M1 : gM), Sm M M1 → R M1 → Q none M1) → Go X (d + 1) mc ms kX9_splits Q 169 [(0, .ref a0), (1, .int (x1)), (3, .int (x3)), (4, .int (x4)), (5, .int (x5))] [] M 0 0)
set_option maxRecDepth 10000 in
theorem ulX9_splits {X : gX} {d mc ms : Nat} {Q : Option Value → gM → Prop} {N K : Nat} {R : gM → Prop} : ∀ n : Nat, ULX9_splits X d mc ms Q N K R n := by
  intro n
  induction n with
  | zero => exact ⟨fun _ _ _ _ _ _ _ _ h _ => h.elim, fun _ _ _ _ _ _ _ _ h _ => h.elim, fun _ _ _ _ _ _ _ _ h _ => h.elim, fun _ _ _ _ _ _ _ _ h _ => h.elim⟩
  | succ n ih =>
    refine ⟨?_, ?_, ?_, ?_⟩
    · intro M a0 x1 x2 x3 x4 x5 s0 H hR
      rw [qX9_splits, if_pos (show (0 : Nat) = 0 from rfl)] at H
      unfold pX9_splits_7 at H
      refine g_iload_n 2 8 dX9_splits_7 rfl rfl ?_
      refine g_iload_n 1 9 dX9_splits_8 rfl rfl ?_
      refine g_icmp_ge 263 12 dX9_splits_9 rfl rfl (fun c1 => ?_) (fun c1 => ?_)
      · skip
        replace H := H.1 c1
        refine g_aload_n 0 264 dX9_splits_263 rfl rfl ?_
        refine g_getR 267 (a0 + 11) dX9_splits_264 rfl flX9_60 s0.1 s0.2.2.2.2.2.2.2.2.2.2.2.2.2.2.2.2.2.2.2.2.2.1 ?_
        refine g_aload_n 0 268 dX9_splits_267 rfl rfl ?_
        refine g_getI 271 dX9_splits_268 rfl flX9_166 s0.1 ?_
        refine g_iload_n 1 272 dX9_splits_271 rfl rfl ?_
        obtain ⟨b1, H⟩ := H
        refine h_iastore 273 ((g_mi M a0 18)).toNatClampNeg dX9_splits_272 rfl rfl s0.2.2.2.2.2.2.2.2.2.2.2.2.2.2.2.2.2.2.2.2.2.2.1 b1 ?_
        generalize hM1 : (g_wi M (a0 + 11) ((g_mi M a0 18)).toNatClampNeg x1) = M1
        have j1 : Sm M M1 := by rw [← hM1]; exact (Sm.wi Sm.rf)
        replace H := H M1 hM1.symm
        refine g_aload_n 0 274 dX9_splits_273 rfl rfl ?_
        refine g_getR 277 (a0 + 9) dX9_splits_274 rfl flX9_54 (Sm.k j1 s0.1) (Sm.r j1 s0.2.2.2.2.2.2.2.2.2.2.2.2.2.2.2.2.2.1) ?_
        refine g_aload_n 0 278 dX9_splits_277 rfl rfl ?_
        refine g_getI 281 dX9_splits_278 rfl flX9_166 (Sm.k j1 s0.1) ?_
        refine g_iconst (0) 282 dX9_splits_281 rfl rfl ?_
        obtain ⟨b2, H⟩ := H
        refine h_iastore 283 ((g_mi M1 a0 18)).toNatClampNeg dX9_splits_282 rfl rfl (Sm.k j1 s0.2.2.2.2.2.2.2.2.2.2.2.2.2.2.2.2.2.2.1) b2 ?_
        generalize hM2 : (g_wi M1 (a0 + 9) ((g_mi M1 a0 18)).toNatClampNeg 0) = M2
        have j2 : Sm M M2 := by rw [← hM2]; exact (Sm.wi j1)
        replace H := H M2 hM2.symm
        refine g_aload_n 0 284 dX9_splits_283 rfl rfl ?_
        refine g_getR 287 (a0 + 10) dX9_splits_284 rfl flX9_57 (Sm.k j2 s0.1) (Sm.r j2 s0.2.2.2.2.2.2.2.2.2.2.2.2.2.2.2.2.2.2.2.1) ?_
        refine g_aload_n 0 288 dX9_splits_287 rfl rfl ?_
        refine g_getI 291 dX9_splits_288 rfl flX9_166 (Sm.k j2 s0.1) ?_
        refine g_iconst (0) 292 dX9_splits_291 rfl rfl ?_
        obtain ⟨b3, H⟩ := H
        refine h_iastore 293 ((g_mi M2 a0 18)).toNatClampNeg dX9_splits_292 rfl rfl (Sm.k j2 s0.2.2.2.2.2.2.2.2.2.2.2.2.2.2.2.2.2.2.2.2.1) b3 ?_
        generalize hM3 : (g_wi M2 (a0 + 10) ((g_mi M2 a0 18)).toNatClampNeg 0) = M3
        have j3 : Sm M M3 := by rw [← hM3]; exact (Sm.wi j2)
        replace H := H M3 hM3.symm
        exact g_vret dX9_splits_293 rfl (Nat.zero_le _) (Nat.zero_le _) (hR _ j3 H)
      · skip
        replace H := H.2 c1
        refine g_aload_n 0 13 dX9_splits_12 rfl rfl ?_
        refine g_getR 16 (a0 + 7) dX9_splits_13 rfl flX9_45 s0.1 s0.2.2.2.2.2.2.2.2.2.2.2.2.2.1 ?_
        refine g_iload_n 2 17 dX9_splits_16 rfl rfl ?_
        obtain ⟨b4, H⟩ := H
        refine h_baload 18 (x2).toNatClampNeg dX9_splits_17 rfl rfl s0.2.2.2.2.2.2.2.2.2.2.2.2.2.2.1 b4 ?_
        refine g_istore_n 19 [(3, .int ((g_mi M (a0 + 7) (x2).toNatClampNeg))), (0, .ref a0), (1, .int (x1)), (2, .int (x2))] dX9_splits_18 rfl (Nat.le_of_ble_eq_true rfl) rfl ?_
        refine g_iload_n 0 20 dX9_splits_19 rfl rfl ?_
        refine g_bipush (32) 22 dX9_splits_20 rfl rfl ?_
        refine g_icmp_ne 31 25 dX9_splits_22 rfl rfl (fun c2 => ?_) (fun c2 => ?_)
        · skip
          replace H := H.1 c2
          refine g_iload_n 3 32 dX9_splits_31 rfl rfl ?_
          refine g_iconst (1) 33 dX9_splits_32 rfl rfl ?_
          refine g_iadd 34 dX9_splits_33 rfl ?_
          refine g_istore 36 [(4, .int ((x2 + 1))), (3, .int ((g_mi M (a0 + 7) (x2).toNatClampNeg))), (0, .ref a0), (1, .int (x1)), (2, .int (x2))] dX9_splits_34 rfl (Nat.le_of_ble_eq_true rfl) rfl ?_
          refine g_iload_n 1 37 dX9_splits_36 rfl rfl ?_
          refine g_callS (mc1 := 0) (ms1 := 0) (rest := []) (av := [.int ((g_mi M (a0 + 7) (x2).toNatClampNeg))]) kX9_isSmall 40 dX9_splits_37 rfl rfl mbX9_169 smX9_isSmall (Nat.le_of_ble_eq_true rfl) (Nat.zero_le _) (Nat.zero_le _) (tX9_isSmall  ?_)
          show Go X (d + 1) mc ms kX9_splits Q 40 [(4, .int ((x2 + 1))), (3, .int ((g_mi M (a0 + 7) (x2).toNatClampNeg))), (0, .ref a0), (1, .int (x1)), (2, .int (x2))] [.int ((fX9_isSmall (g_mi M (a0 + 7) (x2).toNatClampNeg)))] M 0 0
          generalize hv1 : (fX9_isSmall (g_mi M (a0 + 7) (x2).toNatClampNeg)) = v1
          replace H := H v1 hv1.symm
          refine g_if_eq 68 43 dX9_splits_40 rfl rfl (fun c3 => ?_) (fun c3 => ?_)
          · skip
            replace H := H.1 c3
            refine g_iload_n 1 69 dX9_splits_68 rfl rfl ?_
            refine g_callS (mc1 := 0) (ms1 := 0) (rest := []) (av := [.int ((g_mi M (a0 + 7) (x2).toNatClampNeg))]) kX9_isDigit 72 dX9_splits_69 rfl rfl mbX9_172 smX9_isDigit (Nat.le_of_ble_eq_true rfl) (Nat.zero_le _) (Nat.zero_le _) (tX9_isDigit  ?_)
            show Go X (d + 1) mc ms kX9_splits Q 72 [(4, .int ((x2 + 1))), (3, .int ((g_mi M (a0 + 7) (x2).toNatClampNeg))), (0, .ref a0), (1, .int (x1)), (2, .int (x2))] [.int ((fX9_isDigit (g_mi M (a0 + 7) (x2).toNatClampNeg)))] M 0 0
            generalize hv2 : (fX9_isDigit (g_mi M (a0 + 7) (x2).toNatClampNeg)) = v2
            replace H := H v2 hv2.symm
            refine g_if_eq 100 75 dX9_splits_72 rfl rfl (fun c4 => ?_) (fun c4 => ?_)
            · skip
              replace H := H.1 c4
              refine g_aload_n 2 101 dX9_splits_100 rfl rfl ?_
              refine g_getR 104 (a0 + 11) dX9_splits_101 rfl flX9_60 s0.1 s0.2.2.2.2.2.2.2.2.2.2.2.2.2.2.2.2.2.2.2.2.2.1 ?_
              refine g_aload_n 2 105 dX9_splits_104 rfl rfl ?_
              refine g_getI 108 dX9_splits_105 rfl flX9_166 s0.1 ?_
              refine g_iload_n 4 109 dX9_splits_108 rfl rfl ?_
              obtain ⟨b5, H⟩ := H
              refine h_iastore 110 ((g_mi M a0 18)).toNatClampNeg dX9_splits_109 rfl rfl s0.2.2.2.2.2.2.2.2.2.2.2.2.2.2.2.2.2.2.2.2.2.2.1 b5 ?_
              generalize hM4 : (g_wi M (a0 + 11) ((g_mi M a0 18)).toNatClampNeg x2) = M4
              have j4 : Sm M M4 := by rw [← hM4]; exact (Sm.wi Sm.rf)
              replace H := H M4 hM4.symm
              refine g_aload_n 2 111 dX9_splits_110 rfl rfl ?_
              refine g_getR 114 (a0 + 10) dX9_splits_111 rfl flX9_57 (Sm.k j4 s0.1) (Sm.r j4 s0.2.2.2.2.2.2.2.2.2.2.2.2.2.2.2.2.2.2.2.1) ?_
              refine g_aload_n 2 115 dX9_splits_114 rfl rfl ?_
              refine g_getI 118 dX9_splits_115 rfl flX9_166 (Sm.k j4 s0.1) ?_
              refine g_iconst (0) 119 dX9_splits_118 rfl rfl ?_
              obtain ⟨b6, H⟩ := H
              refine h_iastore 120 ((g_mi M4 a0 18)).toNatClampNeg dX9_splits_119 rfl rfl (Sm.k j4 s0.2.2.2.2.2.2.2.2.2.2.2.2.2.2.2.2.2.2.2.2.1) b6 ?_
              generalize hM5 : (g_wi M4 (a0 + 10) ((g_mi M4 a0 18)).toNatClampNeg 0) = M5
              have j5 : Sm M M5 := by rw [← hM5]; exact (Sm.wi j4)
              replace H := H M5 hM5.symm
              refine g_aload_n 2 121 dX9_splits_120 rfl rfl ?_
              refine g_getR 124 (a0 + 9) dX9_splits_121 rfl flX9_54 (Sm.k j5 s0.1) (Sm.r j5 s0.2.2.2.2.2.2.2.2.2.2.2.2.2.2.2.2.2.1) ?_
              refine g_aload_n 2 125 dX9_splits_124 rfl rfl ?_
              refine g_getI 128 dX9_splits_125 rfl flX9_166 (Sm.k j5 s0.1) ?_
              refine g_iload_n 1 129 dX9_splits_128 rfl rfl ?_
              refine g_callS (mc1 := 0) (ms1 := 0) (rest := [.int ((g_mi M5 a0 18)), .ref (a0 + 9)]) (av := [.int ((g_mi M (a0 + 7) (x2).toNatClampNeg))]) kX9_isSmall 132 dX9_splits_129 rfl rfl mbX9_169 smX9_isSmall (Nat.le_of_ble_eq_true rfl) (Nat.zero_le _) (Nat.zero_le _) (tX9_isSmall  ?_)
              show Go X (d + 1) mc ms kX9_splits Q 132 [(4, .int ((x2 + 1))), (3, .int ((g_mi M (a0 + 7) (x2).toNatClampNeg))), (0, .ref a0), (1, .int (x1)), (2, .int (x2))] [.int ((fX9_isSmall (g_mi M (a0 + 7) (x2).toNatClampNeg))), .int ((g_mi M5 a0 18)), .ref (a0 + 9)] M5 0 0
              generalize hv3 : (fX9_isSmall (g_mi M (a0 + 7) (x2).toNatClampNeg)) = v3
              replace H := H v3 hv3.symm
              refine g_if_eq 145 135 dX9_splits_132 rfl rfl (fun c5 => ?_) (fun c5 => ?_)
              · skip
                replace H := H.1 c5
                refine g_iload_n 1 146 dX9_splits_145 rfl rfl ?_
                refine g_callS (mc1 := 0) (ms1 := 0) (rest := [.int ((g_mi M5 a0 18)), .ref (a0 + 9)]) (av := [.int ((g_mi M (a0 + 7) (x2).toNatClampNeg))]) kX9_isDigit 149 dX9_splits_146 rfl rfl mbX9_172 smX9_isDigit (Nat.le_of_ble_eq_true rfl) (Nat.zero_le _) (Nat.zero_le _) (tX9_isDigit  ?_)
                show Go X (d + 1) mc ms kX9_splits Q 149 [(4, .int ((x2 + 1))), (3, .int ((g_mi M (a0 + 7) (x2).toNatClampNeg))), (0, .ref a0), (1, .int (x1)), (2, .int (x2))] [.int ((fX9_isDigit (g_mi M (a0 + 7) (x2).toNatClampNeg))), .int ((g_mi M5 a0 18)), .ref (a0 + 9)] M5 0 0
                generalize hv4 : (fX9_isDigit (g_mi M (a0 + 7) (x2).toNatClampNeg)) = v4
                replace H := H v4 hv4.symm
                refine g_if_eq 157 152 dX9_splits_149 rfl rfl (fun c6 => ?_) (fun c6 => ?_)
                · skip
                  replace H := H.1 c6
                  refine g_bipush (100) 159 dX9_splits_157 rfl rfl ?_
                  refine g_iload_n 1 160 dX9_splits_159 rfl rfl ?_
                  refine g_sipush (255) 163 dX9_splits_160 rfl rfl ?_
                  refine g_iand 164 dX9_splits_163 rfl ?_
                  refine g_iadd 165 dX9_splits_164 rfl ?_
                  obtain ⟨b7, H⟩ := H
                  refine h_iastore 166 ((g_mi M5 a0 18)).toNatClampNeg dX9_splits_165 rfl rfl (Sm.k j5 s0.2.2.2.2.2.2.2.2.2.2.2.2.2.2.2.2.2.2.1) b7 ?_
                  generalize hM6 : (g_wi M5 (a0 + 9) ((g_mi M5 a0 18)).toNatClampNeg (100 + ((g_mi M (a0 + 7) (x2).toNatClampNeg) &&& 255))) = M6
                  have j6 : Sm M M6 := by rw [← hM6]; exact (Sm.wi j5)
                  replace H := H M6 hM6.symm
                  refine g_iload_n 4 167 dX9_splits_166 rfl rfl ?_
                  refine g_istore 169 [(5, .int (x2)), (4, .int ((x2 + 1))), (3, .int ((g_mi M (a0 + 7) (x2).toNatClampNeg))), (0, .ref a0), (1, .int (x1)), (2, .int (x2))] dX9_splits_167 rfl (Nat.le_of_ble_eq_true rfl) rfl ?_
                  exact g_sub [3, 4, 2, 1, 0] _ rfl (ih.2.2.2 M6 a0 x1 0 (g_mi M (a0 + 7) (x2).toNatClampNeg) (x2 + 1) x2 (Mo.sm j6 s0) H (fun M1 j r => hR M1 (Sm.tr j6 j) r))
                · skip
                  replace H := H.2 c6
                  refine g_bipush (50) 154 dX9_splits_152 rfl rfl ?_
                  refine g_goto 165 dX9_splits_154 rfl ?_
                  obtain ⟨b8, H⟩ := H
                  refine h_iastore 166 ((g_mi M5 a0 18)).toNatClampNeg dX9_splits_165 rfl rfl (Sm.k j5 s0.2.2.2.2.2.2.2.2.2.2.2.2.2.2.2.2.2.2.1) b8 ?_
                  generalize hM7 : (g_wi M5 (a0 + 9) ((g_mi M5 a0 18)).toNatClampNeg 50) = M7
                  have j7 : Sm M M7 := by rw [← hM7]; exact (Sm.wi j5)
                  replace H := H M7 hM7.symm
                  refine g_iload_n 4 167 dX9_splits_166 rfl rfl ?_
                  refine g_istore 169 [(5, .int (x2)), (4, .int ((x2 + 1))), (3, .int ((g_mi M (a0 + 7) (x2).toNatClampNeg))), (0, .ref a0), (1, .int (x1)), (2, .int (x2))] dX9_splits_167 rfl (Nat.le_of_ble_eq_true rfl) rfl ?_
                  exact g_sub [3, 4, 2, 1, 0] _ rfl (ih.2.2.2 M7 a0 x1 0 (g_mi M (a0 + 7) (x2).toNatClampNeg) (x2 + 1) x2 (Mo.sm j7 s0) H (fun M1 j r => hR M1 (Sm.tr j7 j) r))
              · skip
                replace H := H.2 c5
                refine g_aload_n 2 136 dX9_splits_135 rfl rfl ?_
                refine g_iload_n 4 137 dX9_splits_136 rfl rfl ?_
                refine g_iload 0 139 dX9_splits_137 rfl rfl ?_
                refine g_callV (mc1 := 0) (ms1 := 0) (b := a0) (rest := [.int ((g_mi M5 a0 18)), .ref (a0 + 9)]) (av := [.int (x2), .int ((x2 + 1))]) kX9_wordOf 142 dX9_splits_139 rfl rfl mbX9_175 imX9_wordOf seX9_wordOf gcl9.1 (Sm.k j5 s0.1) (Nat.le_of_ble_eq_true rfl) (Nat.zero_le _) (Nat.zero_le _) (uX9_wordOf (N := N) (K := K) (Mo.sm j5 s0) H (fun v5 H => ?_))
                show Go X (d + 1) mc ms kX9_splits Q 142 [(4, .int ((x2 + 1))), (3, .int ((g_mi M (a0 + 7) (x2).toNatClampNeg))), (0, .ref a0), (1, .int (x1)), (2, .int (x2))] [.int (v5), .int ((g_mi M5 a0 18)), .ref (a0 + 9)] M5 0 0
                refine g_goto 165 dX9_splits_142 rfl ?_
                obtain ⟨b9, H⟩ := H
                refine h_iastore 166 ((g_mi M5 a0 18)).toNatClampNeg dX9_splits_165 rfl rfl (Sm.k j5 s0.2.2.2.2.2.2.2.2.2.2.2.2.2.2.2.2.2.2.1) b9 ?_
                generalize hM8 : (g_wi M5 (a0 + 9) ((g_mi M5 a0 18)).toNatClampNeg v5) = M8
                have j8 : Sm M M8 := by rw [← hM8]; exact (Sm.wi j5)
                replace H := H M8 hM8.symm
                refine g_iload_n 4 167 dX9_splits_166 rfl rfl ?_
                refine g_istore 169 [(5, .int (x2)), (4, .int ((x2 + 1))), (3, .int ((g_mi M (a0 + 7) (x2).toNatClampNeg))), (0, .ref a0), (1, .int (x1)), (2, .int (x2))] dX9_splits_167 rfl (Nat.le_of_ble_eq_true rfl) rfl ?_
                exact g_sub [3, 4, 2, 1, 0] _ rfl (ih.2.2.2 M8 a0 x1 0 (g_mi M (a0 + 7) (x2).toNatClampNeg) (x2 + 1) x2 (Mo.sm j8 s0) H (fun M1 j r => hR M1 (Sm.tr j8 j) r))
            · skip
              replace H := H.2 c4
              exact g_sub [2, 3, 4, 1, 0] _ rfl (ih.2.2.1 M a0 x1 x2 (g_mi M (a0 + 7) (x2).toNatClampNeg) (x2 + 1) 0 s0 H (fun M1 j r => hR M1 j r))
          · skip
            replace H := H.2 c3
            exact g_sub [2, 3, 4, 1, 0] _ rfl (ih.2.1 M a0 x1 x2 (g_mi M (a0 + 7) (x2).toNatClampNeg) (x2 + 1) 0 s0 H (fun M1 j r => hR M1 j r))
        · skip
          replace H := H.2 c2
          refine g_iinc _ 3 28 [(2, .int ((x2 + 1))), (3, .int ((g_mi M (a0 + 7) (x2).toNatClampNeg))), (0, .ref a0), (1, .int (x1))] dX9_splits_25 rfl rfl rfl (Nat.le_of_ble_eq_true rfl) rfl ?_
          refine g_goto 7 dX9_splits_28 rfl ?_
          exact g_sub [2, 3, 0] _ rfl (ih.1 M a0 x1 (x2 + 1) 0 0 0 s0 H (fun M1 j r => hR M1 j r))
    · intro M a0 x1 x2 x3 x4 x5 s0 H hR
      rw [qX9_splits, if_neg (show ¬ (1 : Nat) = 0 by decide), if_pos (show (1 : Nat) = 1 from rfl)] at H
      unfold pX9_splits_43 at H
      refine g_iload 4 45 dX9_splits_43 rfl rfl ?_
      refine g_iload_n 1 46 dX9_splits_45 rfl rfl ?_
      refine g_icmp_ge 68 49 dX9_splits_46 rfl rfl (fun c1 => ?_) (fun c1 => ?_)
      · skip
        replace H := H.1 c1
        refine g_iload_n 3 69 dX9_splits_68 rfl rfl ?_
        refine g_callS (mc1 := 0) (ms1 := 0) (rest := []) (av := [.int (x3)]) kX9_isDigit 72 dX9_splits_69 rfl rfl mbX9_172 smX9_isDigit (Nat.le_of_ble_eq_true rfl) (Nat.zero_le _) (Nat.zero_le _) (tX9_isDigit  ?_)
        show Go X (d + 1) mc ms kX9_splits Q 72 [(0, .ref a0), (1, .int (x1)), (2, .int (x2)), (3, .int (x3)), (4, .int (x4))] [.int ((fX9_isDigit x3))] M 0 0
        generalize hv1 : (fX9_isDigit x3) = v1
        replace H := H v1 hv1.symm
        refine g_if_eq 100 75 dX9_splits_72 rfl rfl (fun c2 => ?_) (fun c2 => ?_)
        · skip
          replace H := H.1 c2
          refine g_aload_n 0 101 dX9_splits_100 rfl rfl ?_
          refine g_getR 104 (a0 + 11) dX9_splits_101 rfl flX9_60 s0.1 s0.2.2.2.2.2.2.2.2.2.2.2.2.2.2.2.2.2.2.2.2.2.1 ?_
          refine g_aload_n 0 105 dX9_splits_104 rfl rfl ?_
          refine g_getI 108 dX9_splits_105 rfl flX9_166 s0.1 ?_
          refine g_iload_n 2 109 dX9_splits_108 rfl rfl ?_
          obtain ⟨b1, H⟩ := H
          refine h_iastore 110 ((g_mi M a0 18)).toNatClampNeg dX9_splits_109 rfl rfl s0.2.2.2.2.2.2.2.2.2.2.2.2.2.2.2.2.2.2.2.2.2.2.1 b1 ?_
          generalize hM1 : (g_wi M (a0 + 11) ((g_mi M a0 18)).toNatClampNeg x2) = M1
          have j1 : Sm M M1 := by rw [← hM1]; exact (Sm.wi Sm.rf)
          replace H := H M1 hM1.symm
          refine g_aload_n 0 111 dX9_splits_110 rfl rfl ?_
          refine g_getR 114 (a0 + 10) dX9_splits_111 rfl flX9_57 (Sm.k j1 s0.1) (Sm.r j1 s0.2.2.2.2.2.2.2.2.2.2.2.2.2.2.2.2.2.2.2.1) ?_
          refine g_aload_n 0 115 dX9_splits_114 rfl rfl ?_
          refine g_getI 118 dX9_splits_115 rfl flX9_166 (Sm.k j1 s0.1) ?_
          refine g_iconst (0) 119 dX9_splits_118 rfl rfl ?_
          obtain ⟨b2, H⟩ := H
          refine h_iastore 120 ((g_mi M1 a0 18)).toNatClampNeg dX9_splits_119 rfl rfl (Sm.k j1 s0.2.2.2.2.2.2.2.2.2.2.2.2.2.2.2.2.2.2.2.2.1) b2 ?_
          generalize hM2 : (g_wi M1 (a0 + 10) ((g_mi M1 a0 18)).toNatClampNeg 0) = M2
          have j2 : Sm M M2 := by rw [← hM2]; exact (Sm.wi j1)
          replace H := H M2 hM2.symm
          refine g_aload_n 0 121 dX9_splits_120 rfl rfl ?_
          refine g_getR 124 (a0 + 9) dX9_splits_121 rfl flX9_54 (Sm.k j2 s0.1) (Sm.r j2 s0.2.2.2.2.2.2.2.2.2.2.2.2.2.2.2.2.2.1) ?_
          refine g_aload_n 0 125 dX9_splits_124 rfl rfl ?_
          refine g_getI 128 dX9_splits_125 rfl flX9_166 (Sm.k j2 s0.1) ?_
          refine g_iload_n 3 129 dX9_splits_128 rfl rfl ?_
          refine g_callS (mc1 := 0) (ms1 := 0) (rest := [.int ((g_mi M2 a0 18)), .ref (a0 + 9)]) (av := [.int (x3)]) kX9_isSmall 132 dX9_splits_129 rfl rfl mbX9_169 smX9_isSmall (Nat.le_of_ble_eq_true rfl) (Nat.zero_le _) (Nat.zero_le _) (tX9_isSmall  ?_)
          show Go X (d + 1) mc ms kX9_splits Q 132 [(0, .ref a0), (1, .int (x1)), (2, .int (x2)), (3, .int (x3)), (4, .int (x4))] [.int ((fX9_isSmall x3)), .int ((g_mi M2 a0 18)), .ref (a0 + 9)] M2 0 0
          generalize hv2 : (fX9_isSmall x3) = v2
          replace H := H v2 hv2.symm
          refine g_if_eq 145 135 dX9_splits_132 rfl rfl (fun c3 => ?_) (fun c3 => ?_)
          · skip
            replace H := H.1 c3
            refine g_iload_n 3 146 dX9_splits_145 rfl rfl ?_
            refine g_callS (mc1 := 0) (ms1 := 0) (rest := [.int ((g_mi M2 a0 18)), .ref (a0 + 9)]) (av := [.int (x3)]) kX9_isDigit 149 dX9_splits_146 rfl rfl mbX9_172 smX9_isDigit (Nat.le_of_ble_eq_true rfl) (Nat.zero_le _) (Nat.zero_le _) (tX9_isDigit  ?_)
            show Go X (d + 1) mc ms kX9_splits Q 149 [(0, .ref a0), (1, .int (x1)), (2, .int (x2)), (3, .int (x3)), (4, .int (x4))] [.int ((fX9_isDigit x3)), .int ((g_mi M2 a0 18)), .ref (a0 + 9)] M2 0 0
            generalize hv3 : (fX9_isDigit x3) = v3
            replace H := H v3 hv3.symm
            refine g_if_eq 157 152 dX9_splits_149 rfl rfl (fun c4 => ?_) (fun c4 => ?_)
            · skip
              replace H := H.1 c4
              refine g_bipush (100) 159 dX9_splits_157 rfl rfl ?_
              refine g_iload_n 3 160 dX9_splits_159 rfl rfl ?_
              refine g_sipush (255) 163 dX9_splits_160 rfl rfl ?_
              refine g_iand 164 dX9_splits_163 rfl ?_
              refine g_iadd 165 dX9_splits_164 rfl ?_
              obtain ⟨b3, H⟩ := H
              refine h_iastore 166 ((g_mi M2 a0 18)).toNatClampNeg dX9_splits_165 rfl rfl (Sm.k j2 s0.2.2.2.2.2.2.2.2.2.2.2.2.2.2.2.2.2.2.1) b3 ?_
              generalize hM3 : (g_wi M2 (a0 + 9) ((g_mi M2 a0 18)).toNatClampNeg (100 + (x3 &&& 255))) = M3
              have j3 : Sm M M3 := by rw [← hM3]; exact (Sm.wi j2)
              replace H := H M3 hM3.symm
              refine g_iload_n 2 167 dX9_splits_166 rfl rfl ?_
              refine g_istore 169 [(5, .int (x2)), (0, .ref a0), (1, .int (x1)), (2, .int (x2)), (3, .int (x3)), (4, .int (x4))] dX9_splits_167 rfl (Nat.le_of_ble_eq_true rfl) rfl ?_
              exact g_sub [1, 2, 4, 5, 0] _ rfl (ih.2.2.2 M3 a0 x1 0 x3 x4 x2 (Mo.sm j3 s0) H (fun M1 j r => hR M1 (Sm.tr j3 j) r))
            · skip
              replace H := H.2 c4
              refine g_bipush (50) 154 dX9_splits_152 rfl rfl ?_
              refine g_goto 165 dX9_splits_154 rfl ?_
              obtain ⟨b4, H⟩ := H
              refine h_iastore 166 ((g_mi M2 a0 18)).toNatClampNeg dX9_splits_165 rfl rfl (Sm.k j2 s0.2.2.2.2.2.2.2.2.2.2.2.2.2.2.2.2.2.2.1) b4 ?_
              generalize hM4 : (g_wi M2 (a0 + 9) ((g_mi M2 a0 18)).toNatClampNeg 50) = M4
              have j4 : Sm M M4 := by rw [← hM4]; exact (Sm.wi j2)
              replace H := H M4 hM4.symm
              refine g_iload_n 2 167 dX9_splits_166 rfl rfl ?_
              refine g_istore 169 [(5, .int (x2)), (0, .ref a0), (1, .int (x1)), (2, .int (x2)), (3, .int (x3)), (4, .int (x4))] dX9_splits_167 rfl (Nat.le_of_ble_eq_true rfl) rfl ?_
              exact g_sub [1, 2, 4, 5, 0] _ rfl (ih.2.2.2 M4 a0 x1 0 x3 x4 x2 (Mo.sm j4 s0) H (fun M1 j r => hR M1 (Sm.tr j4 j) r))
          · skip
            replace H := H.2 c3
            refine g_aload_n 0 136 dX9_splits_135 rfl rfl ?_
            refine g_iload_n 2 137 dX9_splits_136 rfl rfl ?_
            refine g_iload 4 139 dX9_splits_137 rfl rfl ?_
            refine g_callV (mc1 := 0) (ms1 := 0) (b := a0) (rest := [.int ((g_mi M2 a0 18)), .ref (a0 + 9)]) (av := [.int (x2), .int (x4)]) kX9_wordOf 142 dX9_splits_139 rfl rfl mbX9_175 imX9_wordOf seX9_wordOf gcl9.1 (Sm.k j2 s0.1) (Nat.le_of_ble_eq_true rfl) (Nat.zero_le _) (Nat.zero_le _) (uX9_wordOf (N := N) (K := K) (Mo.sm j2 s0) H (fun v4 H => ?_))
            show Go X (d + 1) mc ms kX9_splits Q 142 [(0, .ref a0), (1, .int (x1)), (2, .int (x2)), (3, .int (x3)), (4, .int (x4))] [.int (v4), .int ((g_mi M2 a0 18)), .ref (a0 + 9)] M2 0 0
            refine g_goto 165 dX9_splits_142 rfl ?_
            obtain ⟨b5, H⟩ := H
            refine h_iastore 166 ((g_mi M2 a0 18)).toNatClampNeg dX9_splits_165 rfl rfl (Sm.k j2 s0.2.2.2.2.2.2.2.2.2.2.2.2.2.2.2.2.2.2.1) b5 ?_
            generalize hM5 : (g_wi M2 (a0 + 9) ((g_mi M2 a0 18)).toNatClampNeg v4) = M5
            have j5 : Sm M M5 := by rw [← hM5]; exact (Sm.wi j2)
            replace H := H M5 hM5.symm
            refine g_iload_n 2 167 dX9_splits_166 rfl rfl ?_
            refine g_istore 169 [(5, .int (x2)), (0, .ref a0), (1, .int (x1)), (2, .int (x2)), (3, .int (x3)), (4, .int (x4))] dX9_splits_167 rfl (Nat.le_of_ble_eq_true rfl) rfl ?_
            exact g_sub [1, 2, 4, 5, 0] _ rfl (ih.2.2.2 M5 a0 x1 0 x3 x4 x2 (Mo.sm j5 s0) H (fun M1 j r => hR M1 (Sm.tr j5 j) r))
        · skip
          replace H := H.2 c2
          exact ih.2.2.1 M a0 x1 x2 x3 x4 0 s0 H (fun M1 j r => hR M1 j r)
      · skip
        replace H := H.2 c1
        refine g_aload_n 0 50 dX9_splits_49 rfl rfl ?_
        refine g_getR 53 (a0 + 7) dX9_splits_50 rfl flX9_45 s0.1 s0.2.2.2.2.2.2.2.2.2.2.2.2.2.1 ?_
        refine g_iload 4 55 dX9_splits_53 rfl rfl ?_
        obtain ⟨b6, H⟩ := H
        refine h_baload 56 (x4).toNatClampNeg dX9_splits_55 rfl rfl s0.2.2.2.2.2.2.2.2.2.2.2.2.2.2.1 b6 ?_
        refine g_callS (mc1 := 0) (ms1 := 0) (rest := []) (av := [.int ((g_mi M (a0 + 7) (x4).toNatClampNeg))]) kX9_isSmall 59 dX9_splits_56 rfl rfl mbX9_169 smX9_isSmall (Nat.le_of_ble_eq_true rfl) (Nat.zero_le _) (Nat.zero_le _) (tX9_isSmall  ?_)
        show Go X (d + 1) mc ms kX9_splits Q 59 [(0, .ref a0), (1, .int (x1)), (2, .int (x2)), (3, .int (x3)), (4, .int (x4))] [.int ((fX9_isSmall (g_mi M (a0 + 7) (x4).toNatClampNeg)))] M 0 0
        generalize hv5 : (fX9_isSmall (g_mi M (a0 + 7) (x4).toNatClampNeg)) = v5
        replace H := H v5 hv5.symm
        refine g_if_eq 68 62 dX9_splits_59 rfl rfl (fun c5 => ?_) (fun c5 => ?_)
        · skip
          replace H := H.1 c5
          refine g_iload_n 3 69 dX9_splits_68 rfl rfl ?_
          refine g_callS (mc1 := 0) (ms1 := 0) (rest := []) (av := [.int (x3)]) kX9_isDigit 72 dX9_splits_69 rfl rfl mbX9_172 smX9_isDigit (Nat.le_of_ble_eq_true rfl) (Nat.zero_le _) (Nat.zero_le _) (tX9_isDigit  ?_)
          show Go X (d + 1) mc ms kX9_splits Q 72 [(0, .ref a0), (1, .int (x1)), (2, .int (x2)), (3, .int (x3)), (4, .int (x4))] [.int ((fX9_isDigit x3))] M 0 0
          generalize hv6 : (fX9_isDigit x3) = v6
          replace H := H v6 hv6.symm
          refine g_if_eq 100 75 dX9_splits_72 rfl rfl (fun c6 => ?_) (fun c6 => ?_)
          · skip
            replace H := H.1 c6
            refine g_aload_n 0 101 dX9_splits_100 rfl rfl ?_
            refine g_getR 104 (a0 + 11) dX9_splits_101 rfl flX9_60 s0.1 s0.2.2.2.2.2.2.2.2.2.2.2.2.2.2.2.2.2.2.2.2.2.1 ?_
            refine g_aload_n 0 105 dX9_splits_104 rfl rfl ?_
            refine g_getI 108 dX9_splits_105 rfl flX9_166 s0.1 ?_
            refine g_iload_n 2 109 dX9_splits_108 rfl rfl ?_
            obtain ⟨b7, H⟩ := H
            refine h_iastore 110 ((g_mi M a0 18)).toNatClampNeg dX9_splits_109 rfl rfl s0.2.2.2.2.2.2.2.2.2.2.2.2.2.2.2.2.2.2.2.2.2.2.1 b7 ?_
            generalize hM6 : (g_wi M (a0 + 11) ((g_mi M a0 18)).toNatClampNeg x2) = M6
            have j6 : Sm M M6 := by rw [← hM6]; exact (Sm.wi Sm.rf)
            replace H := H M6 hM6.symm
            refine g_aload_n 0 111 dX9_splits_110 rfl rfl ?_
            refine g_getR 114 (a0 + 10) dX9_splits_111 rfl flX9_57 (Sm.k j6 s0.1) (Sm.r j6 s0.2.2.2.2.2.2.2.2.2.2.2.2.2.2.2.2.2.2.2.1) ?_
            refine g_aload_n 0 115 dX9_splits_114 rfl rfl ?_
            refine g_getI 118 dX9_splits_115 rfl flX9_166 (Sm.k j6 s0.1) ?_
            refine g_iconst (0) 119 dX9_splits_118 rfl rfl ?_
            obtain ⟨b8, H⟩ := H
            refine h_iastore 120 ((g_mi M6 a0 18)).toNatClampNeg dX9_splits_119 rfl rfl (Sm.k j6 s0.2.2.2.2.2.2.2.2.2.2.2.2.2.2.2.2.2.2.2.2.1) b8 ?_
            generalize hM7 : (g_wi M6 (a0 + 10) ((g_mi M6 a0 18)).toNatClampNeg 0) = M7
            have j7 : Sm M M7 := by rw [← hM7]; exact (Sm.wi j6)
            replace H := H M7 hM7.symm
            refine g_aload_n 0 121 dX9_splits_120 rfl rfl ?_
            refine g_getR 124 (a0 + 9) dX9_splits_121 rfl flX9_54 (Sm.k j7 s0.1) (Sm.r j7 s0.2.2.2.2.2.2.2.2.2.2.2.2.2.2.2.2.2.1) ?_
            refine g_aload_n 0 125 dX9_splits_124 rfl rfl ?_
            refine g_getI 128 dX9_splits_125 rfl flX9_166 (Sm.k j7 s0.1) ?_
            refine g_iload_n 3 129 dX9_splits_128 rfl rfl ?_
            refine g_callS (mc1 := 0) (ms1 := 0) (rest := [.int ((g_mi M7 a0 18)), .ref (a0 + 9)]) (av := [.int (x3)]) kX9_isSmall 132 dX9_splits_129 rfl rfl mbX9_169 smX9_isSmall (Nat.le_of_ble_eq_true rfl) (Nat.zero_le _) (Nat.zero_le _) (tX9_isSmall  ?_)
            show Go X (d + 1) mc ms kX9_splits Q 132 [(0, .ref a0), (1, .int (x1)), (2, .int (x2)), (3, .int (x3)), (4, .int (x4))] [.int ((fX9_isSmall x3)), .int ((g_mi M7 a0 18)), .ref (a0 + 9)] M7 0 0
            generalize hv7 : (fX9_isSmall x3) = v7
            replace H := H v7 hv7.symm
            refine g_if_eq 145 135 dX9_splits_132 rfl rfl (fun c7 => ?_) (fun c7 => ?_)
            · skip
              replace H := H.1 c7
              refine g_iload_n 3 146 dX9_splits_145 rfl rfl ?_
              refine g_callS (mc1 := 0) (ms1 := 0) (rest := [.int ((g_mi M7 a0 18)), .ref (a0 + 9)]) (av := [.int (x3)]) kX9_isDigit 149 dX9_splits_146 rfl rfl mbX9_172 smX9_isDigit (Nat.le_of_ble_eq_true rfl) (Nat.zero_le _) (Nat.zero_le _) (tX9_isDigit  ?_)
              show Go X (d + 1) mc ms kX9_splits Q 149 [(0, .ref a0), (1, .int (x1)), (2, .int (x2)), (3, .int (x3)), (4, .int (x4))] [.int ((fX9_isDigit x3)), .int ((g_mi M7 a0 18)), .ref (a0 + 9)] M7 0 0
              generalize hv8 : (fX9_isDigit x3) = v8
              replace H := H v8 hv8.symm
              refine g_if_eq 157 152 dX9_splits_149 rfl rfl (fun c8 => ?_) (fun c8 => ?_)
              · skip
                replace H := H.1 c8
                refine g_bipush (100) 159 dX9_splits_157 rfl rfl ?_
                refine g_iload_n 3 160 dX9_splits_159 rfl rfl ?_
                refine g_sipush (255) 163 dX9_splits_160 rfl rfl ?_
                refine g_iand 164 dX9_splits_163 rfl ?_
                refine g_iadd 165 dX9_splits_164 rfl ?_
                obtain ⟨b9, H⟩ := H
                refine h_iastore 166 ((g_mi M7 a0 18)).toNatClampNeg dX9_splits_165 rfl rfl (Sm.k j7 s0.2.2.2.2.2.2.2.2.2.2.2.2.2.2.2.2.2.2.1) b9 ?_
                generalize hM8 : (g_wi M7 (a0 + 9) ((g_mi M7 a0 18)).toNatClampNeg (100 + (x3 &&& 255))) = M8
                have j8 : Sm M M8 := by rw [← hM8]; exact (Sm.wi j7)
                replace H := H M8 hM8.symm
                refine g_iload_n 2 167 dX9_splits_166 rfl rfl ?_
                refine g_istore 169 [(5, .int (x2)), (0, .ref a0), (1, .int (x1)), (2, .int (x2)), (3, .int (x3)), (4, .int (x4))] dX9_splits_167 rfl (Nat.le_of_ble_eq_true rfl) rfl ?_
                exact g_sub [1, 2, 4, 5, 0] _ rfl (ih.2.2.2 M8 a0 x1 0 x3 x4 x2 (Mo.sm j8 s0) H (fun M1 j r => hR M1 (Sm.tr j8 j) r))
              · skip
                replace H := H.2 c8
                refine g_bipush (50) 154 dX9_splits_152 rfl rfl ?_
                refine g_goto 165 dX9_splits_154 rfl ?_
                obtain ⟨b10, H⟩ := H
                refine h_iastore 166 ((g_mi M7 a0 18)).toNatClampNeg dX9_splits_165 rfl rfl (Sm.k j7 s0.2.2.2.2.2.2.2.2.2.2.2.2.2.2.2.2.2.2.1) b10 ?_
                generalize hM9 : (g_wi M7 (a0 + 9) ((g_mi M7 a0 18)).toNatClampNeg 50) = M9
                have j9 : Sm M M9 := by rw [← hM9]; exact (Sm.wi j7)
                replace H := H M9 hM9.symm
                refine g_iload_n 2 167 dX9_splits_166 rfl rfl ?_
                refine g_istore 169 [(5, .int (x2)), (0, .ref a0), (1, .int (x1)), (2, .int (x2)), (3, .int (x3)), (4, .int (x4))] dX9_splits_167 rfl (Nat.le_of_ble_eq_true rfl) rfl ?_
                exact g_sub [1, 2, 4, 5, 0] _ rfl (ih.2.2.2 M9 a0 x1 0 x3 x4 x2 (Mo.sm j9 s0) H (fun M1 j r => hR M1 (Sm.tr j9 j) r))
            · skip
              replace H := H.2 c7
              refine g_aload_n 0 136 dX9_splits_135 rfl rfl ?_
              refine g_iload_n 2 137 dX9_splits_136 rfl rfl ?_
              refine g_iload 4 139 dX9_splits_137 rfl rfl ?_
              refine g_callV (mc1 := 0) (ms1 := 0) (b := a0) (rest := [.int ((g_mi M7 a0 18)), .ref (a0 + 9)]) (av := [.int (x2), .int (x4)]) kX9_wordOf 142 dX9_splits_139 rfl rfl mbX9_175 imX9_wordOf seX9_wordOf gcl9.1 (Sm.k j7 s0.1) (Nat.le_of_ble_eq_true rfl) (Nat.zero_le _) (Nat.zero_le _) (uX9_wordOf (N := N) (K := K) (Mo.sm j7 s0) H (fun v9 H => ?_))
              show Go X (d + 1) mc ms kX9_splits Q 142 [(0, .ref a0), (1, .int (x1)), (2, .int (x2)), (3, .int (x3)), (4, .int (x4))] [.int (v9), .int ((g_mi M7 a0 18)), .ref (a0 + 9)] M7 0 0
              refine g_goto 165 dX9_splits_142 rfl ?_
              obtain ⟨b11, H⟩ := H
              refine h_iastore 166 ((g_mi M7 a0 18)).toNatClampNeg dX9_splits_165 rfl rfl (Sm.k j7 s0.2.2.2.2.2.2.2.2.2.2.2.2.2.2.2.2.2.2.1) b11 ?_
              generalize hM10 : (g_wi M7 (a0 + 9) ((g_mi M7 a0 18)).toNatClampNeg v9) = M10
              have j10 : Sm M M10 := by rw [← hM10]; exact (Sm.wi j7)
              replace H := H M10 hM10.symm
              refine g_iload_n 2 167 dX9_splits_166 rfl rfl ?_
              refine g_istore 169 [(5, .int (x2)), (0, .ref a0), (1, .int (x1)), (2, .int (x2)), (3, .int (x3)), (4, .int (x4))] dX9_splits_167 rfl (Nat.le_of_ble_eq_true rfl) rfl ?_
              exact g_sub [1, 2, 4, 5, 0] _ rfl (ih.2.2.2 M10 a0 x1 0 x3 x4 x2 (Mo.sm j10 s0) H (fun M1 j r => hR M1 (Sm.tr j10 j) r))
          · skip
            replace H := H.2 c6
            exact ih.2.2.1 M a0 x1 x2 x3 x4 0 s0 H (fun M1 j r => hR M1 j r)
        · skip
          replace H := H.2 c5
          refine g_iinc _ 4 65 [(4, .int ((x4 + 1))), (0, .ref a0), (1, .int (x1)), (2, .int (x2)), (3, .int (x3))] dX9_splits_62 rfl rfl rfl (Nat.le_of_ble_eq_true rfl) rfl ?_
          refine g_goto 43 dX9_splits_65 rfl ?_
          exact g_sub [1, 2, 3, 4, 0] _ rfl (ih.2.1 M a0 x1 x2 x3 (x4 + 1) 0 s0 H (fun M1 j r => hR M1 j r))
    · intro M a0 x1 x2 x3 x4 x5 s0 H hR
      rw [qX9_splits, if_neg (show ¬ (2 : Nat) = 0 by decide), if_neg (show ¬ (2 : Nat) = 1 by decide), if_pos (show (2 : Nat) = 2 from rfl)] at H
      unfold pX9_splits_75 at H
      refine g_iload 4 77 dX9_splits_75 rfl rfl ?_
      refine g_iload_n 1 78 dX9_splits_77 rfl rfl ?_
      refine g_icmp_ge 100 81 dX9_splits_78 rfl rfl (fun c1 => ?_) (fun c1 => ?_)
      · skip
        replace H := H.1 c1
        refine g_aload_n 0 101 dX9_splits_100 rfl rfl ?_
        refine g_getR 104 (a0 + 11) dX9_splits_101 rfl flX9_60 s0.1 s0.2.2.2.2.2.2.2.2.2.2.2.2.2.2.2.2.2.2.2.2.2.1 ?_
        refine g_aload_n 0 105 dX9_splits_104 rfl rfl ?_
        refine g_getI 108 dX9_splits_105 rfl flX9_166 s0.1 ?_
        refine g_iload_n 2 109 dX9_splits_108 rfl rfl ?_
        obtain ⟨b1, H⟩ := H
        refine h_iastore 110 ((g_mi M a0 18)).toNatClampNeg dX9_splits_109 rfl rfl s0.2.2.2.2.2.2.2.2.2.2.2.2.2.2.2.2.2.2.2.2.2.2.1 b1 ?_
        generalize hM1 : (g_wi M (a0 + 11) ((g_mi M a0 18)).toNatClampNeg x2) = M1
        have j1 : Sm M M1 := by rw [← hM1]; exact (Sm.wi Sm.rf)
        replace H := H M1 hM1.symm
        refine g_aload_n 0 111 dX9_splits_110 rfl rfl ?_
        refine g_getR 114 (a0 + 10) dX9_splits_111 rfl flX9_57 (Sm.k j1 s0.1) (Sm.r j1 s0.2.2.2.2.2.2.2.2.2.2.2.2.2.2.2.2.2.2.2.1) ?_
        refine g_aload_n 0 115 dX9_splits_114 rfl rfl ?_
        refine g_getI 118 dX9_splits_115 rfl flX9_166 (Sm.k j1 s0.1) ?_
        refine g_iconst (0) 119 dX9_splits_118 rfl rfl ?_
        obtain ⟨b2, H⟩ := H
        refine h_iastore 120 ((g_mi M1 a0 18)).toNatClampNeg dX9_splits_119 rfl rfl (Sm.k j1 s0.2.2.2.2.2.2.2.2.2.2.2.2.2.2.2.2.2.2.2.2.1) b2 ?_
        generalize hM2 : (g_wi M1 (a0 + 10) ((g_mi M1 a0 18)).toNatClampNeg 0) = M2
        have j2 : Sm M M2 := by rw [← hM2]; exact (Sm.wi j1)
        replace H := H M2 hM2.symm
        refine g_aload_n 0 121 dX9_splits_120 rfl rfl ?_
        refine g_getR 124 (a0 + 9) dX9_splits_121 rfl flX9_54 (Sm.k j2 s0.1) (Sm.r j2 s0.2.2.2.2.2.2.2.2.2.2.2.2.2.2.2.2.2.1) ?_
        refine g_aload_n 0 125 dX9_splits_124 rfl rfl ?_
        refine g_getI 128 dX9_splits_125 rfl flX9_166 (Sm.k j2 s0.1) ?_
        refine g_iload_n 3 129 dX9_splits_128 rfl rfl ?_
        refine g_callS (mc1 := 0) (ms1 := 0) (rest := [.int ((g_mi M2 a0 18)), .ref (a0 + 9)]) (av := [.int (x3)]) kX9_isSmall 132 dX9_splits_129 rfl rfl mbX9_169 smX9_isSmall (Nat.le_of_ble_eq_true rfl) (Nat.zero_le _) (Nat.zero_le _) (tX9_isSmall  ?_)
        show Go X (d + 1) mc ms kX9_splits Q 132 [(0, .ref a0), (1, .int (x1)), (2, .int (x2)), (3, .int (x3)), (4, .int (x4))] [.int ((fX9_isSmall x3)), .int ((g_mi M2 a0 18)), .ref (a0 + 9)] M2 0 0
        generalize hv1 : (fX9_isSmall x3) = v1
        replace H := H v1 hv1.symm
        refine g_if_eq 145 135 dX9_splits_132 rfl rfl (fun c2 => ?_) (fun c2 => ?_)
        · skip
          replace H := H.1 c2
          refine g_iload_n 3 146 dX9_splits_145 rfl rfl ?_
          refine g_callS (mc1 := 0) (ms1 := 0) (rest := [.int ((g_mi M2 a0 18)), .ref (a0 + 9)]) (av := [.int (x3)]) kX9_isDigit 149 dX9_splits_146 rfl rfl mbX9_172 smX9_isDigit (Nat.le_of_ble_eq_true rfl) (Nat.zero_le _) (Nat.zero_le _) (tX9_isDigit  ?_)
          show Go X (d + 1) mc ms kX9_splits Q 149 [(0, .ref a0), (1, .int (x1)), (2, .int (x2)), (3, .int (x3)), (4, .int (x4))] [.int ((fX9_isDigit x3)), .int ((g_mi M2 a0 18)), .ref (a0 + 9)] M2 0 0
          generalize hv2 : (fX9_isDigit x3) = v2
          replace H := H v2 hv2.symm
          refine g_if_eq 157 152 dX9_splits_149 rfl rfl (fun c3 => ?_) (fun c3 => ?_)
          · skip
            replace H := H.1 c3
            refine g_bipush (100) 159 dX9_splits_157 rfl rfl ?_
            refine g_iload_n 3 160 dX9_splits_159 rfl rfl ?_
            refine g_sipush (255) 163 dX9_splits_160 rfl rfl ?_
            refine g_iand 164 dX9_splits_163 rfl ?_
            refine g_iadd 165 dX9_splits_164 rfl ?_
            obtain ⟨b3, H⟩ := H
            refine h_iastore 166 ((g_mi M2 a0 18)).toNatClampNeg dX9_splits_165 rfl rfl (Sm.k j2 s0.2.2.2.2.2.2.2.2.2.2.2.2.2.2.2.2.2.2.1) b3 ?_
            generalize hM3 : (g_wi M2 (a0 + 9) ((g_mi M2 a0 18)).toNatClampNeg (100 + (x3 &&& 255))) = M3
            have j3 : Sm M M3 := by rw [← hM3]; exact (Sm.wi j2)
            replace H := H M3 hM3.symm
            refine g_iload_n 2 167 dX9_splits_166 rfl rfl ?_
            refine g_istore 169 [(5, .int (x2)), (0, .ref a0), (1, .int (x1)), (2, .int (x2)), (3, .int (x3)), (4, .int (x4))] dX9_splits_167 rfl (Nat.le_of_ble_eq_true rfl) rfl ?_
            exact g_sub [1, 2, 4, 5, 0] _ rfl (ih.2.2.2 M3 a0 x1 0 x3 x4 x2 (Mo.sm j3 s0) H (fun M1 j r => hR M1 (Sm.tr j3 j) r))
          · skip
            replace H := H.2 c3
            refine g_bipush (50) 154 dX9_splits_152 rfl rfl ?_
            refine g_goto 165 dX9_splits_154 rfl ?_
            obtain ⟨b4, H⟩ := H
            refine h_iastore 166 ((g_mi M2 a0 18)).toNatClampNeg dX9_splits_165 rfl rfl (Sm.k j2 s0.2.2.2.2.2.2.2.2.2.2.2.2.2.2.2.2.2.2.1) b4 ?_
            generalize hM4 : (g_wi M2 (a0 + 9) ((g_mi M2 a0 18)).toNatClampNeg 50) = M4
            have j4 : Sm M M4 := by rw [← hM4]; exact (Sm.wi j2)
            replace H := H M4 hM4.symm
            refine g_iload_n 2 167 dX9_splits_166 rfl rfl ?_
            refine g_istore 169 [(5, .int (x2)), (0, .ref a0), (1, .int (x1)), (2, .int (x2)), (3, .int (x3)), (4, .int (x4))] dX9_splits_167 rfl (Nat.le_of_ble_eq_true rfl) rfl ?_
            exact g_sub [1, 2, 4, 5, 0] _ rfl (ih.2.2.2 M4 a0 x1 0 x3 x4 x2 (Mo.sm j4 s0) H (fun M1 j r => hR M1 (Sm.tr j4 j) r))
        · skip
          replace H := H.2 c2
          refine g_aload_n 0 136 dX9_splits_135 rfl rfl ?_
          refine g_iload_n 2 137 dX9_splits_136 rfl rfl ?_
          refine g_iload 4 139 dX9_splits_137 rfl rfl ?_
          refine g_callV (mc1 := 0) (ms1 := 0) (b := a0) (rest := [.int ((g_mi M2 a0 18)), .ref (a0 + 9)]) (av := [.int (x2), .int (x4)]) kX9_wordOf 142 dX9_splits_139 rfl rfl mbX9_175 imX9_wordOf seX9_wordOf gcl9.1 (Sm.k j2 s0.1) (Nat.le_of_ble_eq_true rfl) (Nat.zero_le _) (Nat.zero_le _) (uX9_wordOf (N := N) (K := K) (Mo.sm j2 s0) H (fun v3 H => ?_))
          show Go X (d + 1) mc ms kX9_splits Q 142 [(0, .ref a0), (1, .int (x1)), (2, .int (x2)), (3, .int (x3)), (4, .int (x4))] [.int (v3), .int ((g_mi M2 a0 18)), .ref (a0 + 9)] M2 0 0
          refine g_goto 165 dX9_splits_142 rfl ?_
          obtain ⟨b5, H⟩ := H
          refine h_iastore 166 ((g_mi M2 a0 18)).toNatClampNeg dX9_splits_165 rfl rfl (Sm.k j2 s0.2.2.2.2.2.2.2.2.2.2.2.2.2.2.2.2.2.2.1) b5 ?_
          generalize hM5 : (g_wi M2 (a0 + 9) ((g_mi M2 a0 18)).toNatClampNeg v3) = M5
          have j5 : Sm M M5 := by rw [← hM5]; exact (Sm.wi j2)
          replace H := H M5 hM5.symm
          refine g_iload_n 2 167 dX9_splits_166 rfl rfl ?_
          refine g_istore 169 [(5, .int (x2)), (0, .ref a0), (1, .int (x1)), (2, .int (x2)), (3, .int (x3)), (4, .int (x4))] dX9_splits_167 rfl (Nat.le_of_ble_eq_true rfl) rfl ?_
          exact g_sub [1, 2, 4, 5, 0] _ rfl (ih.2.2.2 M5 a0 x1 0 x3 x4 x2 (Mo.sm j5 s0) H (fun M1 j r => hR M1 (Sm.tr j5 j) r))
      · skip
        replace H := H.2 c1
        refine g_aload_n 0 82 dX9_splits_81 rfl rfl ?_
        refine g_getR 85 (a0 + 7) dX9_splits_82 rfl flX9_45 s0.1 s0.2.2.2.2.2.2.2.2.2.2.2.2.2.1 ?_
        refine g_iload 4 87 dX9_splits_85 rfl rfl ?_
        obtain ⟨b6, H⟩ := H
        refine h_baload 88 (x4).toNatClampNeg dX9_splits_87 rfl rfl s0.2.2.2.2.2.2.2.2.2.2.2.2.2.2.1 b6 ?_
        refine g_callS (mc1 := 0) (ms1 := 0) (rest := []) (av := [.int ((g_mi M (a0 + 7) (x4).toNatClampNeg))]) kX9_isDigit 91 dX9_splits_88 rfl rfl mbX9_172 smX9_isDigit (Nat.le_of_ble_eq_true rfl) (Nat.zero_le _) (Nat.zero_le _) (tX9_isDigit  ?_)
        show Go X (d + 1) mc ms kX9_splits Q 91 [(0, .ref a0), (1, .int (x1)), (2, .int (x2)), (3, .int (x3)), (4, .int (x4))] [.int ((fX9_isDigit (g_mi M (a0 + 7) (x4).toNatClampNeg)))] M 0 0
        generalize hv4 : (fX9_isDigit (g_mi M (a0 + 7) (x4).toNatClampNeg)) = v4
        replace H := H v4 hv4.symm
        refine g_if_eq 100 94 dX9_splits_91 rfl rfl (fun c4 => ?_) (fun c4 => ?_)
        · skip
          replace H := H.1 c4
          refine g_aload_n 0 101 dX9_splits_100 rfl rfl ?_
          refine g_getR 104 (a0 + 11) dX9_splits_101 rfl flX9_60 s0.1 s0.2.2.2.2.2.2.2.2.2.2.2.2.2.2.2.2.2.2.2.2.2.1 ?_
          refine g_aload_n 0 105 dX9_splits_104 rfl rfl ?_
          refine g_getI 108 dX9_splits_105 rfl flX9_166 s0.1 ?_
          refine g_iload_n 2 109 dX9_splits_108 rfl rfl ?_
          obtain ⟨b7, H⟩ := H
          refine h_iastore 110 ((g_mi M a0 18)).toNatClampNeg dX9_splits_109 rfl rfl s0.2.2.2.2.2.2.2.2.2.2.2.2.2.2.2.2.2.2.2.2.2.2.1 b7 ?_
          generalize hM6 : (g_wi M (a0 + 11) ((g_mi M a0 18)).toNatClampNeg x2) = M6
          have j6 : Sm M M6 := by rw [← hM6]; exact (Sm.wi Sm.rf)
          replace H := H M6 hM6.symm
          refine g_aload_n 0 111 dX9_splits_110 rfl rfl ?_
          refine g_getR 114 (a0 + 10) dX9_splits_111 rfl flX9_57 (Sm.k j6 s0.1) (Sm.r j6 s0.2.2.2.2.2.2.2.2.2.2.2.2.2.2.2.2.2.2.2.1) ?_
          refine g_aload_n 0 115 dX9_splits_114 rfl rfl ?_
          refine g_getI 118 dX9_splits_115 rfl flX9_166 (Sm.k j6 s0.1) ?_
          refine g_iconst (0) 119 dX9_splits_118 rfl rfl ?_
          obtain ⟨b8, H⟩ := H
          refine h_iastore 120 ((g_mi M6 a0 18)).toNatClampNeg dX9_splits_119 rfl rfl (Sm.k j6 s0.2.2.2.2.2.2.2.2.2.2.2.2.2.2.2.2.2.2.2.2.1) b8 ?_
          generalize hM7 : (g_wi M6 (a0 + 10) ((g_mi M6 a0 18)).toNatClampNeg 0) = M7
          have j7 : Sm M M7 := by rw [← hM7]; exact (Sm.wi j6)
          replace H := H M7 hM7.symm
          refine g_aload_n 0 121 dX9_splits_120 rfl rfl ?_
          refine g_getR 124 (a0 + 9) dX9_splits_121 rfl flX9_54 (Sm.k j7 s0.1) (Sm.r j7 s0.2.2.2.2.2.2.2.2.2.2.2.2.2.2.2.2.2.1) ?_
          refine g_aload_n 0 125 dX9_splits_124 rfl rfl ?_
          refine g_getI 128 dX9_splits_125 rfl flX9_166 (Sm.k j7 s0.1) ?_
          refine g_iload_n 3 129 dX9_splits_128 rfl rfl ?_
          refine g_callS (mc1 := 0) (ms1 := 0) (rest := [.int ((g_mi M7 a0 18)), .ref (a0 + 9)]) (av := [.int (x3)]) kX9_isSmall 132 dX9_splits_129 rfl rfl mbX9_169 smX9_isSmall (Nat.le_of_ble_eq_true rfl) (Nat.zero_le _) (Nat.zero_le _) (tX9_isSmall  ?_)
          show Go X (d + 1) mc ms kX9_splits Q 132 [(0, .ref a0), (1, .int (x1)), (2, .int (x2)), (3, .int (x3)), (4, .int (x4))] [.int ((fX9_isSmall x3)), .int ((g_mi M7 a0 18)), .ref (a0 + 9)] M7 0 0
          generalize hv5 : (fX9_isSmall x3) = v5
          replace H := H v5 hv5.symm
          refine g_if_eq 145 135 dX9_splits_132 rfl rfl (fun c5 => ?_) (fun c5 => ?_)
          · skip
            replace H := H.1 c5
            refine g_iload_n 3 146 dX9_splits_145 rfl rfl ?_
            refine g_callS (mc1 := 0) (ms1 := 0) (rest := [.int ((g_mi M7 a0 18)), .ref (a0 + 9)]) (av := [.int (x3)]) kX9_isDigit 149 dX9_splits_146 rfl rfl mbX9_172 smX9_isDigit (Nat.le_of_ble_eq_true rfl) (Nat.zero_le _) (Nat.zero_le _) (tX9_isDigit  ?_)
            show Go X (d + 1) mc ms kX9_splits Q 149 [(0, .ref a0), (1, .int (x1)), (2, .int (x2)), (3, .int (x3)), (4, .int (x4))] [.int ((fX9_isDigit x3)), .int ((g_mi M7 a0 18)), .ref (a0 + 9)] M7 0 0
            generalize hv6 : (fX9_isDigit x3) = v6
            replace H := H v6 hv6.symm
            refine g_if_eq 157 152 dX9_splits_149 rfl rfl (fun c6 => ?_) (fun c6 => ?_)
            · skip
              replace H := H.1 c6
              refine g_bipush (100) 159 dX9_splits_157 rfl rfl ?_
              refine g_iload_n 3 160 dX9_splits_159 rfl rfl ?_
              refine g_sipush (255) 163 dX9_splits_160 rfl rfl ?_
              refine g_iand 164 dX9_splits_163 rfl ?_
              refine g_iadd 165 dX9_splits_164 rfl ?_
              obtain ⟨b9, H⟩ := H
              refine h_iastore 166 ((g_mi M7 a0 18)).toNatClampNeg dX9_splits_165 rfl rfl (Sm.k j7 s0.2.2.2.2.2.2.2.2.2.2.2.2.2.2.2.2.2.2.1) b9 ?_
              generalize hM8 : (g_wi M7 (a0 + 9) ((g_mi M7 a0 18)).toNatClampNeg (100 + (x3 &&& 255))) = M8
              have j8 : Sm M M8 := by rw [← hM8]; exact (Sm.wi j7)
              replace H := H M8 hM8.symm
              refine g_iload_n 2 167 dX9_splits_166 rfl rfl ?_
              refine g_istore 169 [(5, .int (x2)), (0, .ref a0), (1, .int (x1)), (2, .int (x2)), (3, .int (x3)), (4, .int (x4))] dX9_splits_167 rfl (Nat.le_of_ble_eq_true rfl) rfl ?_
              exact g_sub [1, 2, 4, 5, 0] _ rfl (ih.2.2.2 M8 a0 x1 0 x3 x4 x2 (Mo.sm j8 s0) H (fun M1 j r => hR M1 (Sm.tr j8 j) r))
            · skip
              replace H := H.2 c6
              refine g_bipush (50) 154 dX9_splits_152 rfl rfl ?_
              refine g_goto 165 dX9_splits_154 rfl ?_
              obtain ⟨b10, H⟩ := H
              refine h_iastore 166 ((g_mi M7 a0 18)).toNatClampNeg dX9_splits_165 rfl rfl (Sm.k j7 s0.2.2.2.2.2.2.2.2.2.2.2.2.2.2.2.2.2.2.1) b10 ?_
              generalize hM9 : (g_wi M7 (a0 + 9) ((g_mi M7 a0 18)).toNatClampNeg 50) = M9
              have j9 : Sm M M9 := by rw [← hM9]; exact (Sm.wi j7)
              replace H := H M9 hM9.symm
              refine g_iload_n 2 167 dX9_splits_166 rfl rfl ?_
              refine g_istore 169 [(5, .int (x2)), (0, .ref a0), (1, .int (x1)), (2, .int (x2)), (3, .int (x3)), (4, .int (x4))] dX9_splits_167 rfl (Nat.le_of_ble_eq_true rfl) rfl ?_
              exact g_sub [1, 2, 4, 5, 0] _ rfl (ih.2.2.2 M9 a0 x1 0 x3 x4 x2 (Mo.sm j9 s0) H (fun M1 j r => hR M1 (Sm.tr j9 j) r))
          · skip
            replace H := H.2 c5
            refine g_aload_n 0 136 dX9_splits_135 rfl rfl ?_
            refine g_iload_n 2 137 dX9_splits_136 rfl rfl ?_
            refine g_iload 4 139 dX9_splits_137 rfl rfl ?_
            refine g_callV (mc1 := 0) (ms1 := 0) (b := a0) (rest := [.int ((g_mi M7 a0 18)), .ref (a0 + 9)]) (av := [.int (x2), .int (x4)]) kX9_wordOf 142 dX9_splits_139 rfl rfl mbX9_175 imX9_wordOf seX9_wordOf gcl9.1 (Sm.k j7 s0.1) (Nat.le_of_ble_eq_true rfl) (Nat.zero_le _) (Nat.zero_le _) (uX9_wordOf (N := N) (K := K) (Mo.sm j7 s0) H (fun v7 H => ?_))
            show Go X (d + 1) mc ms kX9_splits Q 142 [(0, .ref a0), (1, .int (x1)), (2, .int (x2)), (3, .int (x3)), (4, .int (x4))] [.int (v7), .int ((g_mi M7 a0 18)), .ref (a0 + 9)] M7 0 0
            refine g_goto 165 dX9_splits_142 rfl ?_
            obtain ⟨b11, H⟩ := H
            refine h_iastore 166 ((g_mi M7 a0 18)).toNatClampNeg dX9_splits_165 rfl rfl (Sm.k j7 s0.2.2.2.2.2.2.2.2.2.2.2.2.2.2.2.2.2.2.1) b11 ?_
            generalize hM10 : (g_wi M7 (a0 + 9) ((g_mi M7 a0 18)).toNatClampNeg v7) = M10
            have j10 : Sm M M10 := by rw [← hM10]; exact (Sm.wi j7)
            replace H := H M10 hM10.symm
            refine g_iload_n 2 167 dX9_splits_166 rfl rfl ?_
            refine g_istore 169 [(5, .int (x2)), (0, .ref a0), (1, .int (x1)), (2, .int (x2)), (3, .int (x3)), (4, .int (x4))] dX9_splits_167 rfl (Nat.le_of_ble_eq_true rfl) rfl ?_
            exact g_sub [1, 2, 4, 5, 0] _ rfl (ih.2.2.2 M10 a0 x1 0 x3 x4 x2 (Mo.sm j10 s0) H (fun M1 j r => hR M1 (Sm.tr j10 j) r))
        · skip
          replace H := H.2 c4
          refine g_iinc _ 4 97 [(4, .int ((x4 + 1))), (0, .ref a0), (1, .int (x1)), (2, .int (x2)), (3, .int (x3))] dX9_splits_94 rfl rfl rfl (Nat.le_of_ble_eq_true rfl) rfl ?_
          refine g_goto 75 dX9_splits_97 rfl ?_
          exact g_sub [1, 2, 3, 4, 0] _ rfl (ih.2.2.1 M a0 x1 x2 x3 (x4 + 1) 0 s0 H (fun M1 j r => hR M1 j r))
    · intro M a0 x1 x2 x3 x4 x5 s0 H hR
      rw [qX9_splits, if_neg (show ¬ (3 : Nat) = 0 by decide), if_neg (show ¬ (3 : Nat) = 1 by decide), if_neg (show ¬ (3 : Nat) = 2 by decide)] at H
      unfold pX9_splits_169 at H
      refine g_iload 4 171 dX9_splits_169 rfl rfl ?_
      refine g_iload 3 173 dX9_splits_171 rfl rfl ?_
      refine g_icmp_ge 247 176 dX9_splits_173 rfl rfl (fun c1 => ?_) (fun c1 => ?_)
      · skip
        replace H := H.1 c1
        refine g_aload_n 0 248 dX9_splits_247 rfl rfl ?_
        refine g_dup 249 dX9_splits_248 rfl rfl ?_
        refine g_getI 252 dX9_splits_249 rfl flX9_166 s0.1 ?_
        refine g_iconst (1) 253 dX9_splits_252 rfl rfl ?_
        refine g_iadd 254 dX9_splits_253 rfl ?_
        refine g_putI 257 dX9_splits_254 rfl flX9_166 s0.1 ?_
        generalize hM1 : (g_wi M a0 18 ((g_mi M a0 18) + 1)) = M1
        have j1 : Sm M M1 := by rw [← hM1]; exact (Sm.wi Sm.rf)
        replace H := H M1 hM1.symm
        refine g_iload 3 259 dX9_splits_257 rfl rfl ?_
        refine g_istore_n 260 [(2, .int (x4)), (0, .ref a0), (1, .int (x1)), (3, .int (x3)), (4, .int (x4)), (5, .int (x5))] dX9_splits_259 rfl (Nat.le_of_ble_eq_true rfl) rfl ?_
        refine g_goto 7 dX9_splits_260 rfl ?_
        exact g_sub [1, 2, 0] _ rfl (ih.1 M1 a0 x1 x4 0 0 0 (Mo.sm j1 s0) H (fun M1 j r => hR M1 (Sm.tr j1 j) r))
      · skip
        replace H := H.2 c1
        refine g_iload_n 2 177 dX9_splits_176 rfl rfl ?_
        refine g_callS (mc1 := 0) (ms1 := 0) (rest := []) (av := [.int (x3)]) kX9_isDigit 180 dX9_splits_177 rfl rfl mbX9_172 smX9_isDigit (Nat.le_of_ble_eq_true rfl) (Nat.zero_le _) (Nat.zero_le _) (tX9_isDigit  ?_)
        show Go X (d + 1) mc ms kX9_splits Q 180 [(0, .ref a0), (1, .int (x1)), (3, .int (x3)), (4, .int (x4)), (5, .int (x5))] [.int ((fX9_isDigit x3))] M 0 0
        generalize hv1 : (fX9_isDigit x3) = v1
        replace H := H v1 hv1.symm
        refine g_if_eq 247 183 dX9_splits_180 rfl rfl (fun c2 => ?_) (fun c2 => ?_)
        · skip
          replace H := H.1 c2
          refine g_aload_n 0 248 dX9_splits_247 rfl rfl ?_
          refine g_dup 249 dX9_splits_248 rfl rfl ?_
          refine g_getI 252 dX9_splits_249 rfl flX9_166 s0.1 ?_
          refine g_iconst (1) 253 dX9_splits_252 rfl rfl ?_
          refine g_iadd 254 dX9_splits_253 rfl ?_
          refine g_putI 257 dX9_splits_254 rfl flX9_166 s0.1 ?_
          generalize hM2 : (g_wi M a0 18 ((g_mi M a0 18) + 1)) = M2
          have j2 : Sm M M2 := by rw [← hM2]; exact (Sm.wi Sm.rf)
          replace H := H M2 hM2.symm
          refine g_iload 3 259 dX9_splits_257 rfl rfl ?_
          refine g_istore_n 260 [(2, .int (x4)), (0, .ref a0), (1, .int (x1)), (3, .int (x3)), (4, .int (x4)), (5, .int (x5))] dX9_splits_259 rfl (Nat.le_of_ble_eq_true rfl) rfl ?_
          refine g_goto 7 dX9_splits_260 rfl ?_
          exact g_sub [1, 2, 0] _ rfl (ih.1 M2 a0 x1 x4 0 0 0 (Mo.sm j2 s0) H (fun M1 j r => hR M1 (Sm.tr j2 j) r))
        · skip
          replace H := H.2 c2
          refine g_aload_n 0 184 dX9_splits_183 rfl rfl ?_
          refine g_getR 187 (a0 + 10) dX9_splits_184 rfl flX9_57 s0.1 s0.2.2.2.2.2.2.2.2.2.2.2.2.2.2.2.2.2.2.2.1 ?_
          refine g_aload_n 0 188 dX9_splits_187 rfl rfl ?_
          refine g_getI 191 dX9_splits_188 rfl flX9_166 s0.1 ?_
          refine g_aload_n 0 192 dX9_splits_191 rfl rfl ?_
          refine g_getR 195 (a0 + 10) dX9_splits_192 rfl flX9_57 s0.1 s0.2.2.2.2.2.2.2.2.2.2.2.2.2.2.2.2.2.2.2.1 ?_
          refine g_aload_n 0 196 dX9_splits_195 rfl rfl ?_
          refine g_getI 199 dX9_splits_196 rfl flX9_166 s0.1 ?_
          obtain ⟨b1, H⟩ := H
          refine h_iaload 200 ((g_mi M a0 18)).toNatClampNeg dX9_splits_199 rfl rfl s0.2.2.2.2.2.2.2.2.2.2.2.2.2.2.2.2.2.2.2.2.1 b1 ?_
          refine g_ldc (1000000) 202 dX9_splits_200 rfl q6_128 ?_
          refine g_icmp_le 217 205 dX9_splits_202 rfl rfl (fun c3 => ?_) (fun c3 => ?_)
          · skip
            replace H := H.1 c3
            refine g_bipush (10) 219 dX9_splits_217 rfl rfl ?_
            refine g_aload_n 0 220 dX9_splits_219 rfl rfl ?_
            refine g_getR 223 (a0 + 10) dX9_splits_220 rfl flX9_57 s0.1 s0.2.2.2.2.2.2.2.2.2.2.2.2.2.2.2.2.2.2.2.1 ?_
            refine g_aload_n 0 224 dX9_splits_223 rfl rfl ?_
            refine g_getI 227 dX9_splits_224 rfl flX9_166 s0.1 ?_
            refine h_iaload 228 ((g_mi M a0 18)).toNatClampNeg dX9_splits_227 rfl rfl s0.2.2.2.2.2.2.2.2.2.2.2.2.2.2.2.2.2.2.2.2.1 b1 ?_
            refine g_imul 229 dX9_splits_228 rfl ?_
            refine g_aload_n 0 230 dX9_splits_229 rfl rfl ?_
            refine g_getR 233 (a0 + 7) dX9_splits_230 rfl flX9_45 s0.1 s0.2.2.2.2.2.2.2.2.2.2.2.2.2.1 ?_
            refine g_iload 4 235 dX9_splits_233 rfl rfl ?_
            obtain ⟨b2, H⟩ := H
            refine h_baload 236 (x5).toNatClampNeg dX9_splits_235 rfl rfl s0.2.2.2.2.2.2.2.2.2.2.2.2.2.2.1 b2 ?_
            refine g_iadd 237 dX9_splits_236 rfl ?_
            refine g_bipush (48) 239 dX9_splits_237 rfl rfl ?_
            refine g_isub 240 dX9_splits_239 rfl ?_
            refine h_iastore 241 ((g_mi M a0 18)).toNatClampNeg dX9_splits_240 rfl rfl s0.2.2.2.2.2.2.2.2.2.2.2.2.2.2.2.2.2.2.2.2.1 b1 ?_
            generalize hM3 : (g_wi M (a0 + 10) ((g_mi M a0 18)).toNatClampNeg (((10 * (g_mi M (a0 + 10) ((g_mi M a0 18)).toNatClampNeg)) + (g_mi M (a0 + 7) (x5).toNatClampNeg)) - 48)) = M3
            have j3 : Sm M M3 := by rw [← hM3]; exact (Sm.wi Sm.rf)
            replace H := H M3 hM3.symm
            refine g_iinc _ 4 244 [(5, .int ((x5 + 1))), (0, .ref a0), (1, .int (x1)), (3, .int (x3)), (4, .int (x4))] dX9_splits_241 rfl rfl rfl (Nat.le_of_ble_eq_true rfl) rfl ?_
            refine g_goto 169 dX9_splits_244 rfl ?_
            exact g_sub [1, 2, 3, 4, 0] _ rfl (ih.2.2.2 M3 a0 x1 0 x3 x4 (x5 + 1) (Mo.sm j3 s0) H (fun M1 j r => hR M1 (Sm.tr j3 j) r))
          · skip
            replace H := H.2 c3
            refine g_aload_n 0 206 dX9_splits_205 rfl rfl ?_
            refine g_getR 209 (a0 + 10) dX9_splits_206 rfl flX9_57 s0.1 s0.2.2.2.2.2.2.2.2.2.2.2.2.2.2.2.2.2.2.2.1 ?_
            refine g_aload_n 0 210 dX9_splits_209 rfl rfl ?_
            refine g_getI 213 dX9_splits_210 rfl flX9_166 s0.1 ?_
            refine h_iaload 214 ((g_mi M a0 18)).toNatClampNeg dX9_splits_213 rfl rfl s0.2.2.2.2.2.2.2.2.2.2.2.2.2.2.2.2.2.2.2.2.1 b1 ?_
            refine g_goto 240 dX9_splits_214 rfl ?_
            refine h_iastore 241 ((g_mi M a0 18)).toNatClampNeg dX9_splits_240 rfl rfl s0.2.2.2.2.2.2.2.2.2.2.2.2.2.2.2.2.2.2.2.2.1 b1 ?_
            generalize hM4 : (g_wi M (a0 + 10) ((g_mi M a0 18)).toNatClampNeg (g_mi M (a0 + 10) ((g_mi M a0 18)).toNatClampNeg)) = M4
            have j4 : Sm M M4 := by rw [← hM4]; exact (Sm.wi Sm.rf)
            replace H := H M4 hM4.symm
            refine g_iinc _ 4 244 [(5, .int ((x5 + 1))), (0, .ref a0), (1, .int (x1)), (3, .int (x3)), (4, .int (x4))] dX9_splits_241 rfl rfl rfl (Nat.le_of_ble_eq_true rfl) rfl ?_
            refine g_goto 169 dX9_splits_244 rfl ?_
            exact g_sub [1, 2, 3, 4, 0] _ rfl (ih.2.2.2 M4 a0 x1 0 x3 x4 (x5 + 1) (Mo.sm j4 s0) H (fun M1 j r => hR M1 (Sm.tr j4 j) r))
set_option maxRecDepth 10000 in
theorem uX9_splits {N K : Nat} {X : gX} {d mc ms : Nat} {Q : Option Value → gM → Prop} {M : gM} {a0 : Nat} {x1 : Int32} {R : gM → Prop} (s0 : Mo M a0) (H : pX9_splits N K M a0 x1 R) (hR : ∀ (M1 : gM), Sm M M1 → R M1 → Q none M1) : Cn X (d + 1) mc ms kX9_splits [.ref a0, .int (x1)] M Q := by
  have ih := ulX9_splits (X := X) (d := d) (mc := mc) (ms := ms) (Q := Q) (N := N) (K := K) (R := R) N
  unfold pX9_splits pX9_splits_0 at H
  refine g_meth rfl rfl (Nat.le_of_ble_eq_true rfl) rfl ?_
  refine g_aload_n 0 1 dX9_splits_0 rfl rfl ?_
  refine g_iconst (0) 2 dX9_splits_1 rfl rfl ?_
  refine g_putI 5 dX9_splits_2 rfl flX9_166 s0.1 ?_
  generalize hM1 : (g_wi M a0 18 0) = M1
  have j1 : Sm M M1 := by rw [← hM1]; exact (Sm.wi Sm.rf)
  replace H := H M1 hM1.symm
  refine g_iconst (0) 6 dX9_splits_5 rfl rfl ?_
  refine g_istore_n 7 [(2, .int (0)), (0, .ref a0), (1, .int (x1))] dX9_splits_6 rfl (Nat.le_of_ble_eq_true rfl) rfl ?_
  exact g_sub [1, 2, 0] _ rfl (ih.1 M1 a0 x1 0 0 0 0 (Mo.sm j1 s0) H (fun M1 j r => hR M1 (Sm.tr j1 j) r))
/-! X9_lays -/
def pX9_lays_0 (N K : Nat) (kp : Nat → gM → Nat → Int32 → Int32 → Prop) (R : gM → Prop) (M : gM) (a0 : Nat) (x1 : Int32) : Prop := (vp_in ((205 + x1)) 5812) ∧ ∀ M1 : gM, M1 = (g_wi M (a0 + 2) ((205 + x1)).toNatClampNeg (g_mi M a0 18)) → kp 0 M1 a0 x1 0
def pX9_lays_16 (N K : Nat) (kp : Nat → gM → Nat → Int32 → Int32 → Prop) (R : gM → Prop) (M : gM) (a0 : Nat) (x1 : Int32) (x2 : Int32) : Prop := (((g_mi M a0 18) ≤ x2 → R M) ∧ (¬ (g_mi M a0 18) ≤ x2 → (vp_in (x2) 401) ∧ (vp_in (((212 + (400 * x1)) + x2)) 5812) ∧ ∀ M1 : gM, M1 = (g_wi M (a0 + 2) (((212 + (400 * x1)) + x2)).toNatClampNeg (g_mi M (a0 + 9) (x2).toNatClampNeg)) → (vp_in (x2) 401) ∧ (vp_in (((3012 + (400 * x1)) + x2)) 5812) ∧ ∀ M2 : gM, M2 = (g_wi M1 (a0 + 2) (((3012 + (400 * x1)) + x2)).toNatClampNeg (g_mi M1 (a0 + 10) (x2).toNatClampNeg)) → kp 0 M2 a0 x1 (x2 + 1)))
def qX9_lays (N K : Nat) (R : gM → Prop) : Nat → Nat → gM → Nat → Int32 → Int32 → Prop
  | 0, _, _, _, _, _ => False
  | n + 1, _, M, a0, x1, x2 => pX9_lays_16 N K (qX9_lays N K R n) R M a0 x1 x2
def pX9_lays (N K : Nat) (M : gM) (a0 : Nat) (x1 : Int32) (R : gM → Prop) : Prop := pX9_lays_0 N K (qX9_lays N K R N) R M a0 x1
def ULX9_lays (X : gX) (d mc ms : Nat) (Q : Option Value → gM → Prop) (N K : Nat) (R : gM → Prop) (n : Nat) : Prop := (∀ (M : gM) (a0 : Nat) (x1 : Int32) (x2 : Int32), Mo M a0 → qX9_lays N K R n 0 M a0 x1 x2 → (∀ (M1 : gM), Sm M M1 → R M1 → Q none M1) → Go X d mc ms kX9_lays Q 16 [(0, .ref a0), (1, .int (x1)), (2, .int (x2))] [] M 0 0)
set_option maxRecDepth 10000 in
theorem ulX9_lays {X : gX} {d mc ms : Nat} {Q : Option Value → gM → Prop} {N K : Nat} {R : gM → Prop} : ∀ n : Nat, ULX9_lays X d mc ms Q N K R n := by
  intro n
  induction n with
  | zero => exact fun _ _ _ _ _ h _ => h.elim
  | succ n ih =>
    intro M a0 x1 x2 s0 H hR
    rw [qX9_lays] at H
    unfold pX9_lays_16 at H
    refine g_iload_n 2 17 dX9_lays_16 rfl rfl ?_
    refine g_aload_n 0 18 dX9_lays_17 rfl rfl ?_
    refine g_getI 21 dX9_lays_18 rfl flX9_166 s0.1 ?_
    refine g_icmp_ge 74 24 dX9_lays_21 rfl rfl (fun c1 => ?_) (fun c1 => ?_)
    · skip
      replace H := H.1 c1
      exact g_vret dX9_lays_74 rfl (Nat.zero_le _) (Nat.zero_le _) (hR _ Sm.rf H)
    · skip
      replace H := H.2 c1
      refine g_aload_n 0 25 dX9_lays_24 rfl rfl ?_
      refine g_getR 28 (a0 + 2) dX9_lays_25 rfl flX9_28 s0.1 s0.2.2.2.1 ?_
      refine g_sipush (212) 31 dX9_lays_28 rfl rfl ?_
      refine g_sipush (400) 34 dX9_lays_31 rfl rfl ?_
      refine g_iload_n 1 35 dX9_lays_34 rfl rfl ?_
      refine g_imul 36 dX9_lays_35 rfl ?_
      refine g_iadd 37 dX9_lays_36 rfl ?_
      refine g_iload_n 2 38 dX9_lays_37 rfl rfl ?_
      refine g_iadd 39 dX9_lays_38 rfl ?_
      refine g_aload_n 0 40 dX9_lays_39 rfl rfl ?_
      refine g_getR 43 (a0 + 9) dX9_lays_40 rfl flX9_54 s0.1 s0.2.2.2.2.2.2.2.2.2.2.2.2.2.2.2.2.2.1 ?_
      refine g_iload_n 2 44 dX9_lays_43 rfl rfl ?_
      obtain ⟨b1, H⟩ := H
      refine h_iaload 45 (x2).toNatClampNeg dX9_lays_44 rfl rfl s0.2.2.2.2.2.2.2.2.2.2.2.2.2.2.2.2.2.2.1 b1 ?_
      obtain ⟨b2, H⟩ := H
      refine h_iastore 46 (((212 + (400 * x1)) + x2)).toNatClampNeg dX9_lays_45 rfl rfl s0.2.2.2.2.1 b2 ?_
      generalize hM1 : (g_wi M (a0 + 2) (((212 + (400 * x1)) + x2)).toNatClampNeg (g_mi M (a0 + 9) (x2).toNatClampNeg)) = M1
      have j1 : Sm M M1 := by rw [← hM1]; exact (Sm.wi Sm.rf)
      replace H := H M1 hM1.symm
      refine g_aload_n 0 47 dX9_lays_46 rfl rfl ?_
      refine g_getR 50 (a0 + 2) dX9_lays_47 rfl flX9_28 (Sm.k j1 s0.1) (Sm.r j1 s0.2.2.2.1) ?_
      refine g_sipush (3012) 53 dX9_lays_50 rfl rfl ?_
      refine g_sipush (400) 56 dX9_lays_53 rfl rfl ?_
      refine g_iload_n 1 57 dX9_lays_56 rfl rfl ?_
      refine g_imul 58 dX9_lays_57 rfl ?_
      refine g_iadd 59 dX9_lays_58 rfl ?_
      refine g_iload_n 2 60 dX9_lays_59 rfl rfl ?_
      refine g_iadd 61 dX9_lays_60 rfl ?_
      refine g_aload_n 0 62 dX9_lays_61 rfl rfl ?_
      refine g_getR 65 (a0 + 10) dX9_lays_62 rfl flX9_57 (Sm.k j1 s0.1) (Sm.r j1 s0.2.2.2.2.2.2.2.2.2.2.2.2.2.2.2.2.2.2.2.1) ?_
      refine g_iload_n 2 66 dX9_lays_65 rfl rfl ?_
      obtain ⟨b3, H⟩ := H
      refine h_iaload 67 (x2).toNatClampNeg dX9_lays_66 rfl rfl (Sm.k j1 s0.2.2.2.2.2.2.2.2.2.2.2.2.2.2.2.2.2.2.2.2.1) b3 ?_
      obtain ⟨b4, H⟩ := H
      refine h_iastore 68 (((3012 + (400 * x1)) + x2)).toNatClampNeg dX9_lays_67 rfl rfl (Sm.k j1 s0.2.2.2.2.1) b4 ?_
      generalize hM2 : (g_wi M1 (a0 + 2) (((3012 + (400 * x1)) + x2)).toNatClampNeg (g_mi M1 (a0 + 10) (x2).toNatClampNeg)) = M2
      have j2 : Sm M M2 := by rw [← hM2]; exact (Sm.wi j1)
      replace H := H M2 hM2.symm
      refine g_iinc _ 2 71 [(2, .int ((x2 + 1))), (0, .ref a0), (1, .int (x1))] dX9_lays_68 rfl rfl rfl (Nat.le_of_ble_eq_true rfl) rfl ?_
      refine g_goto 16 dX9_lays_71 rfl ?_
      exact g_sub [1, 2, 0] _ rfl (ih M2 a0 x1 (x2 + 1) (Mo.sm j2 s0) H (fun M1 j r => hR M1 (Sm.tr j2 j) r))
set_option maxRecDepth 10000 in
theorem uX9_lays {N K : Nat} {X : gX} {d mc ms : Nat} {Q : Option Value → gM → Prop} {M : gM} {a0 : Nat} {x1 : Int32} {R : gM → Prop} (s0 : Mo M a0) (H : pX9_lays N K M a0 x1 R) (hR : ∀ (M1 : gM), Sm M M1 → R M1 → Q none M1) : Cn X d mc ms kX9_lays [.ref a0, .int (x1)] M Q := by
  have ih := ulX9_lays (X := X) (d := d) (mc := mc) (ms := ms) (Q := Q) (N := N) (K := K) (R := R) N
  unfold pX9_lays pX9_lays_0 at H
  refine g_meth rfl rfl (Nat.le_of_ble_eq_true rfl) rfl ?_
  refine g_aload_n 0 1 dX9_lays_0 rfl rfl ?_
  refine g_getR 4 (a0 + 2) dX9_lays_1 rfl flX9_28 s0.1 s0.2.2.2.1 ?_
  refine g_sipush (205) 7 dX9_lays_4 rfl rfl ?_
  refine g_iload_n 1 8 dX9_lays_7 rfl rfl ?_
  refine g_iadd 9 dX9_lays_8 rfl ?_
  refine g_aload_n 0 10 dX9_lays_9 rfl rfl ?_
  refine g_getI 13 dX9_lays_10 rfl flX9_166 s0.1 ?_
  obtain ⟨b1, H⟩ := H
  refine h_iastore 14 ((205 + x1)).toNatClampNeg dX9_lays_13 rfl rfl s0.2.2.2.2.1 b1 ?_
  generalize hM1 : (g_wi M (a0 + 2) ((205 + x1)).toNatClampNeg (g_mi M a0 18)) = M1
  have j1 : Sm M M1 := by rw [← hM1]; exact (Sm.wi Sm.rf)
  replace H := H M1 hM1.symm
  refine g_iconst (0) 15 dX9_lays_14 rfl rfl ?_
  refine g_istore_n 16 [(2, .int (0)), (0, .ref a0), (1, .int (x1))] dX9_lays_15 rfl (Nat.le_of_ble_eq_true rfl) rfl ?_
  exact g_sub [1, 2, 0] _ rfl (ih M1 a0 x1 0 (Mo.sm j1 s0) H (fun M1 j r => hR M1 (Sm.tr j1 j) r))
/-! X9_fault -/
def pX9_fault (N K : Nat) (M : gM) (a0 : Nat) (R : Int32 → Prop) : Prop := R (g_mi M a0 14)
set_option maxRecDepth 10000 in
theorem uX9_fault {N K : Nat} {X : gX} {d mc ms : Nat} {Q : Option Value → gM → Prop} {M : gM} {a0 : Nat} {R : Int32 → Prop} (s0 : Mo M a0) (H : pX9_fault N K M a0 R) (hR : ∀ (v : Int32), R v → Q (some (.int v)) M) : Cn X d mc ms kX9_fault [.ref a0] M Q := by
  unfold pX9_fault at H
  refine g_meth rfl rfl (Nat.le_of_ble_eq_true rfl) rfl ?_
  refine g_aload_n 0 1 dX9_fault_0 rfl rfl ?_
  refine g_getI 4 dX9_fault_1 rfl flX9_51 s0.1 ?_
  exact g_iret dX9_fault_4 rfl (Nat.zero_le _) (Nat.zero_le _) (hR _ H)
/-! X9_force -/
def pX9_force (N K : Nat) (M : gM) (a0 : Nat) (x1 : Int32) (R : Int32 → gM → Prop) : Prop := (EX9_isLaw M a0 x1) ∧ ∀ v1 : Int32, v1 = (fX9_isLaw M a0 x1) → ((¬ v1 = 0 → ∀ M1 : gM, M1 = (g_wi M (a0 + 2) 204 x1) → pX9_good0 N K M1 a0 (g_mi M (a0 + 2) 204) (fun v2 M2 => R v2 M2)) ∧ (v1 = 0 → pX9_refuses N K M a0 (-2) (fun v3 M3 => R v3 M3)))
set_option maxRecDepth 10000 in
theorem uX9_force {N K : Nat} {X : gX} {d mc ms : Nat} {Q : Option Value → gM → Prop} {M : gM} {a0 : Nat} {x1 : Int32} {R : Int32 → gM → Prop} (s0 : Mo M a0) (H : pX9_force N K M a0 x1 R) (hR : ∀ (v : Int32) (M1 : gM), Sm M M1 → R v M1 → Q (some (.int v)) M1) : Cn X (d + 2) mc ms kX9_force [.ref a0, .int (x1)] M Q := by
  unfold pX9_force at H
  refine g_meth rfl rfl (Nat.le_of_ble_eq_true rfl) rfl ?_
  refine g_aload_n 0 1 dX9_force_0 rfl rfl ?_
  refine g_iload_n 1 2 dX9_force_1 rfl rfl ?_
  obtain ⟨b1, H⟩ := H
  refine g_callV (mc1 := 0) (ms1 := 0) (b := a0) (rest := []) (av := [.int (x1)]) kX9_isLaw 5 dX9_force_2 rfl rfl mbX9_263 imX9_isLaw seX9_isLaw gcl9.1 s0.1 (Nat.le_of_ble_eq_true rfl) (Nat.zero_le _) (Nat.zero_le _) (tX9_isLaw s0 b1 ?_)
  show Go X (d + 2) mc ms kX9_force Q 5 [(0, .ref a0), (1, .int (x1))] [.int ((fX9_isLaw M a0 x1))] M 0 0
  generalize hv1 : (fX9_isLaw M a0 x1) = v1
  replace H := H v1 hv1.symm
  refine g_if_ne 15 8 dX9_force_5 rfl rfl (fun c1 => ?_) (fun c1 => ?_)
  · skip
    replace H := H.1 c1
    refine g_aload_n 0 16 dX9_force_15 rfl rfl ?_
    refine g_getR 19 (a0 + 2) dX9_force_16 rfl flX9_28 s0.1 s0.2.2.2.1 ?_
    refine g_sipush (204) 22 dX9_force_19 rfl rfl ?_
    refine h_iaload 23 204 dX9_force_22 rfl rfl s0.2.2.2.2.1 (vp_lit rfl) ?_
    refine g_istore_n 24 [(2, .int ((g_mi M (a0 + 2) 204))), (0, .ref a0), (1, .int (x1))] dX9_force_23 rfl (Nat.le_of_ble_eq_true rfl) rfl ?_
    refine g_aload_n 1 25 dX9_force_24 rfl rfl ?_
    refine g_getR 28 (a0 + 2) dX9_force_25 rfl flX9_28 s0.1 s0.2.2.2.1 ?_
    refine g_sipush (204) 31 dX9_force_28 rfl rfl ?_
    refine g_iload_n 2 32 dX9_force_31 rfl rfl ?_
    refine h_iastore 33 204 dX9_force_32 rfl rfl s0.2.2.2.2.1 (vp_lit rfl) ?_
    generalize hM1 : (g_wi M (a0 + 2) 204 x1) = M1
    have j1 : Sm M M1 := by rw [← hM1]; exact (Sm.wi Sm.rf)
    replace H := H M1 hM1.symm
    refine g_aload_n 1 34 dX9_force_33 rfl rfl ?_
    refine g_iload_n 0 35 dX9_force_34 rfl rfl ?_
    refine g_callV (mc1 := 0) (ms1 := 0) (b := a0) (rest := []) (av := [.int ((g_mi M (a0 + 2) 204))]) kX9_good0 38 dX9_force_35 rfl rfl mbX9_14 imX9_good0 seX9_good0 gcl9.1 (Sm.k j1 s0.1) (Nat.le_of_ble_eq_true rfl) (Nat.zero_le _) (Nat.zero_le _) (uX9_good0 (N := N) (K := K) (Mo.sm j1 s0) H (fun v2 M2 jj H => ?_))
    have j2 : Sm M M2 := Sm.tr j1 jj
    show Go X (d + 2) mc ms kX9_force Q 38 [(2, .int ((g_mi M (a0 + 2) 204))), (0, .ref a0), (1, .int (x1))] [.int (v2)] M2 0 0
    exact g_iret dX9_force_38 rfl (Nat.zero_le _) (Nat.zero_le _) (hR _ _ j2 H)
  · skip
    replace H := H.2 c1
    refine g_aload_n 0 9 dX9_force_8 rfl rfl ?_
    refine g_bipush ((-2)) 11 dX9_force_9 rfl rfl ?_
    refine g_callV (mc1 := 0) (ms1 := 0) (b := a0) (rest := []) (av := [.int ((-2))]) kX9_refuses 14 dX9_force_11 rfl rfl mbX9_103 imX9_refuses seX9_refuses gcl9.1 s0.1 (Nat.le_of_ble_eq_true rfl) (Nat.zero_le _) (Nat.zero_le _) (uX9_refuses (N := N) (K := K) s0 H (fun v3 M3 jj H => ?_))
    have j3 : Sm M M3 := jj
    show Go X (d + 2) mc ms kX9_force Q 14 [(0, .ref a0), (1, .int (x1))] [.int (v3)] M3 0 0
    exact g_iret dX9_force_14 rfl (Nat.zero_le _) (Nat.zero_le _) (hR _ _ j3 H)
/-! X9_laysVertices -/
def pX9_laysVertices_0 (N K : Nat) (kp : Nat → gM → Nat → Int32 → Int32 → Int32 → Prop) (R : gM → Prop) (M : gM) (a0 : Nat) (x1 : Int32) : Prop := kp 0 M a0 x1 0 0
def pX9_laysVertices_2 (N K : Nat) (kp : Nat → gM → Nat → Int32 → Int32 → Int32 → Prop) (R : gM → Prop) (M : gM) (a0 : Nat) (x1 : Int32) (x2 : Int32) : Prop := ((60 ≤ x2 → kp 1 M a0 x1 0 0) ∧ (¬ 60 ≤ x2 → (vp_in (x2) 60) ∧ ∀ M1 : gM, M1 = (g_wi M (a0 + 17) (x2).toNatClampNeg 0) → (vp_in (x2) 60) ∧ ∀ M2 : gM, M2 = (g_wi M1 (a0 + 18) (x2).toNatClampNeg 0) → kp 0 M2 a0 x1 (x2 + 1) 0))
def pX9_laysVertices_30 (N K : Nat) (kp : Nat → gM → Nat → Int32 → Int32 → Int32 → Prop) (R : gM → Prop) (M : gM) (a0 : Nat) (x1 : Int32) (x2 : Int32) : Prop := (((g_mi M (a0 + 2) 0) ≤ x2 → R M) ∧ (¬ (g_mi M (a0 + 2) 0) ≤ x2 → kp 2 M a0 x1 x2 0))
def pX9_laysVertices_42 (N K : Nat) (kp : Nat → gM → Nat → Int32 → Int32 → Int32 → Prop) (R : gM → Prop) (M : gM) (a0 : Nat) (x1 : Int32) (x2 : Int32) (x3 : Int32) : Prop := ((3 ≤ x3 → kp 1 M a0 x1 (x2 + 1) 0) ∧ (¬ 3 ≤ x3 → (EX9_keyAt M a0 x2) ∧ ∀ v1 : Int32, v1 = (fX9_keyAt M a0 x2) → (EX9_vertexOf M v1 x3 x1 (g_mi M (a0 + 2) 31)) ∧ ∀ v2 : Int32, v2 = (fX9_vertexOf v1 x3 x1 (g_mi M (a0 + 2) 31)) → (vp_in (((3 * x2) + x3)) 90) ∧ ∀ M1 : gM, M1 = (g_wi M (a0 + 16) (((3 * x2) + x3)).toNatClampNeg v2) → (vp_in (v2) 60) ∧ ∀ M2 : gM, M2 = (g_wi M1 (a0 + 17) (v2).toNatClampNeg ((g_mi M1 (a0 + 17) (v2).toNatClampNeg) + 1)) → (vp_in (v2) 60) ∧ ∀ M3 : gM, M3 = (g_wi M2 (a0 + 18) (v2).toNatClampNeg ((g_mi M2 (a0 + 18) (v2).toNatClampNeg) + x2)) → kp 2 M3 a0 x1 x2 (x3 + 1)))
def qX9_laysVertices (N K : Nat) (R : gM → Prop) : Nat → Nat → gM → Nat → Int32 → Int32 → Int32 → Prop
  | 0, _, _, _, _, _, _ => False
  | n + 1, h, M, a0, x1, x2, x3 => if h = 0 then pX9_laysVertices_2 N K (qX9_laysVertices N K R n) R M a0 x1 x2 else if h = 1 then pX9_laysVertices_30 N K (qX9_laysVertices N K R n) R M a0 x1 x2 else pX9_laysVertices_42 N K (qX9_laysVertices N K R n) R M a0 x1 x2 x3
def pX9_laysVertices (N K : Nat) (M : gM) (a0 : Nat) (x1 : Int32) (R : gM → Prop) : Prop := pX9_laysVertices_0 N K (qX9_laysVertices N K R N) R M a0 x1
def ULX9_laysVertices (X : gX) (d mc ms : Nat) (Q : Option Value → gM → Prop) (N K : Nat) (R : gM → Prop) (n : Nat) : Prop := (∀ (M : gM) (a0 : Nat) (x1 : Int32) (x2 : Int32) (x3 : Int32), Mo M a0 → qX9_laysVertices N K R n 0 M a0 x1 x2 x3 → (∀ (M1 : gM), Sm M M1 → R M1 → Q none M1) → Go X (d + 1) mc ms kX9_laysVertices Q 2 [(0, .ref a0), (1, .int (x1)), (2, .int (x2))] [] M 0 0) ∧ (∀ (M : gM) (a0 : Nat) (x1 : Int32) (x2 : Int32) (x3 : Int32), Mo M a0 → qX9_laysVertices N K R n 1 M a0 x1 x2 x3 → (∀ (M1 : gM), Sm M M1 → R M1 → Q none M1) → Go X (d + 1) mc ms kX9_laysVertices Q 30 [(0, .ref a0), (1, .int (x1)), (2, .int (x2))] [] M 0 0) ∧ (∀ (M : gM) (a0 : Nat) (x1 : Int32) (x2 : Int32) (x3 : Int32), Mo M a0 → qX9_laysVertices N K R n 2 M a0 x1 x2 x3 → (∀ (M1 : gM), Sm M M1 → R M1 → Q none M1) → Go X (d + 1) mc ms kX9_laysVertices Q 42 [(0, .ref a0), (1, .int (x1)), (2, .int (x2)), (3, .int (x3))] [] M 0 0)
set_option maxRecDepth 10000 in
theorem ulX9_laysVertices {X : gX} {d mc ms : Nat} {Q : Option Value → gM → Prop} {N K : Nat} {R : gM → Prop} : ∀ n : Nat, ULX9_laysVertices X d mc ms Q N K R n := by
  intro n
  induction n with
  | zero => exact ⟨fun _ _ _ _ _ _ h _ => h.elim, fun _ _ _ _ _ _ h _ => h.elim, fun _ _ _ _ _ _ h _ => h.elim⟩
  | succ n ih =>
    refine ⟨?_, ?_, ?_⟩
    · intro M a0 x1 x2 x3 s0 H hR
      rw [qX9_laysVertices, if_pos (show (0 : Nat) = 0 from rfl)] at H
      unfold pX9_laysVertices_2 at H
      refine g_iload_n 2 3 dX9_laysVertices_2 rfl rfl ?_
      refine g_bipush (60) 5 dX9_laysVertices_3 rfl rfl ?_
      refine g_icmp_ge 28 8 dX9_laysVertices_5 rfl rfl (fun c1 => ?_) (fun c1 => ?_)
      · skip
        replace H := H.1 c1
        refine g_iconst (0) 29 dX9_laysVertices_28 rfl rfl ?_
        refine g_istore_n 30 [(2, .int (0)), (0, .ref a0), (1, .int (x1))] dX9_laysVertices_29 rfl (Nat.le_of_ble_eq_true rfl) rfl ?_
        exact g_sub [1, 2, 0] _ rfl (ih.2.1 M a0 x1 0 0 s0 H (fun M1 j r => hR M1 j r))
      · skip
        replace H := H.2 c1
        refine g_aload_n 0 9 dX9_laysVertices_8 rfl rfl ?_
        refine g_getR 12 (a0 + 17) dX9_laysVertices_9 rfl flX9_78 s0.1 s0.2.2.2.2.2.2.2.2.2.2.2.2.2.2.2.2.2.2.2.2.2.2.2.2.2.2.2.2.2.2.2.2.2.1 ?_
        refine g_iload_n 2 13 dX9_laysVertices_12 rfl rfl ?_
        refine g_iconst (0) 14 dX9_laysVertices_13 rfl rfl ?_
        obtain ⟨b1, H⟩ := H
        refine h_iastore 15 (x2).toNatClampNeg dX9_laysVertices_14 rfl rfl s0.2.2.2.2.2.2.2.2.2.2.2.2.2.2.2.2.2.2.2.2.2.2.2.2.2.2.2.2.2.2.2.2.2.2.1 b1 ?_
        generalize hM1 : (g_wi M (a0 + 17) (x2).toNatClampNeg 0) = M1
        have j1 : Sm M M1 := by rw [← hM1]; exact (Sm.wi Sm.rf)
        replace H := H M1 hM1.symm
        refine g_aload_n 0 16 dX9_laysVertices_15 rfl rfl ?_
        refine g_getR 19 (a0 + 18) dX9_laysVertices_16 rfl flX9_81 (Sm.k j1 s0.1) (Sm.r j1 s0.2.2.2.2.2.2.2.2.2.2.2.2.2.2.2.2.2.2.2.2.2.2.2.2.2.2.2.2.2.2.2.2.2.2.2.1) ?_
        refine g_iload_n 2 20 dX9_laysVertices_19 rfl rfl ?_
        refine g_iconst (0) 21 dX9_laysVertices_20 rfl rfl ?_
        obtain ⟨b2, H⟩ := H
        refine h_iastore 22 (x2).toNatClampNeg dX9_laysVertices_21 rfl rfl (Sm.k j1 s0.2.2.2.2.2.2.2.2.2.2.2.2.2.2.2.2.2.2.2.2.2.2.2.2.2.2.2.2.2.2.2.2.2.2.2.2.1) b2 ?_
        generalize hM2 : (g_wi M1 (a0 + 18) (x2).toNatClampNeg 0) = M2
        have j2 : Sm M M2 := by rw [← hM2]; exact (Sm.wi j1)
        replace H := H M2 hM2.symm
        refine g_iinc _ 2 25 [(2, .int ((x2 + 1))), (0, .ref a0), (1, .int (x1))] dX9_laysVertices_22 rfl rfl rfl (Nat.le_of_ble_eq_true rfl) rfl ?_
        refine g_goto 2 dX9_laysVertices_25 rfl ?_
        exact g_sub [1, 2, 0] _ rfl (ih.1 M2 a0 x1 (x2 + 1) 0 (Mo.sm j2 s0) H (fun M1 j r => hR M1 (Sm.tr j2 j) r))
    · intro M a0 x1 x2 x3 s0 H hR
      rw [qX9_laysVertices, if_neg (show ¬ (1 : Nat) = 0 by decide), if_pos (show (1 : Nat) = 1 from rfl)] at H
      unfold pX9_laysVertices_30 at H
      refine g_iload_n 2 31 dX9_laysVertices_30 rfl rfl ?_
      refine g_aload_n 0 32 dX9_laysVertices_31 rfl rfl ?_
      refine g_getR 35 (a0 + 2) dX9_laysVertices_32 rfl flX9_28 s0.1 s0.2.2.2.1 ?_
      refine g_iconst (0) 36 dX9_laysVertices_35 rfl rfl ?_
      refine h_iaload 37 0 dX9_laysVertices_36 rfl rfl s0.2.2.2.2.1 (vp_lit rfl) ?_
      refine g_icmp_ge 112 40 dX9_laysVertices_37 rfl rfl (fun c1 => ?_) (fun c1 => ?_)
      · skip
        replace H := H.1 c1
        exact g_vret dX9_laysVertices_112 rfl (Nat.zero_le _) (Nat.zero_le _) (hR _ Sm.rf H)
      · skip
        replace H := H.2 c1
        refine g_iconst (0) 41 dX9_laysVertices_40 rfl rfl ?_
        refine g_istore_n 42 [(3, .int (0)), (0, .ref a0), (1, .int (x1)), (2, .int (x2))] dX9_laysVertices_41 rfl (Nat.le_of_ble_eq_true rfl) rfl ?_
        exact g_sub [1, 2, 3, 0] _ rfl (ih.2.2 M a0 x1 x2 0 s0 H (fun M1 j r => hR M1 j r))
    · intro M a0 x1 x2 x3 s0 H hR
      rw [qX9_laysVertices, if_neg (show ¬ (2 : Nat) = 0 by decide), if_neg (show ¬ (2 : Nat) = 1 by decide)] at H
      unfold pX9_laysVertices_42 at H
      refine g_iload_n 3 43 dX9_laysVertices_42 rfl rfl ?_
      refine g_iconst (3) 44 dX9_laysVertices_43 rfl rfl ?_
      refine g_icmp_ge 106 47 dX9_laysVertices_44 rfl rfl (fun c1 => ?_) (fun c1 => ?_)
      · skip
        replace H := H.1 c1
        refine g_iinc _ 2 109 [(2, .int ((x2 + 1))), (0, .ref a0), (1, .int (x1)), (3, .int (x3))] dX9_laysVertices_106 rfl rfl rfl (Nat.le_of_ble_eq_true rfl) rfl ?_
        refine g_goto 30 dX9_laysVertices_109 rfl ?_
        exact g_sub [1, 2, 0] _ rfl (ih.2.1 M a0 x1 (x2 + 1) 0 s0 H (fun M1 j r => hR M1 j r))
      · skip
        replace H := H.2 c1
        refine g_aload_n 0 48 dX9_laysVertices_47 rfl rfl ?_
        refine g_iload_n 2 49 dX9_laysVertices_48 rfl rfl ?_
        obtain ⟨b1, H⟩ := H
        refine g_callV (mc1 := 0) (ms1 := 0) (b := a0) (rest := []) (av := [.int (x2)]) kX9_keyAt 52 dX9_laysVertices_49 rfl rfl mbX9_109 imX9_keyAt seX9_keyAt gcl9.1 s0.1 (Nat.le_of_ble_eq_true rfl) (Nat.zero_le _) (Nat.zero_le _) (tX9_keyAt s0 b1 ?_)
        show Go X (d + 1) mc ms kX9_laysVertices Q 52 [(0, .ref a0), (1, .int (x1)), (2, .int (x2)), (3, .int (x3))] [.int ((fX9_keyAt M a0 x2))] M 0 0
        generalize hv1 : (fX9_keyAt M a0 x2) = v1
        replace H := H v1 hv1.symm
        refine g_iload_n 3 53 dX9_laysVertices_52 rfl rfl ?_
        refine g_iload_n 1 54 dX9_laysVertices_53 rfl rfl ?_
        refine g_aload_n 0 55 dX9_laysVertices_54 rfl rfl ?_
        refine g_getR 58 (a0 + 2) dX9_laysVertices_55 rfl flX9_28 s0.1 s0.2.2.2.1 ?_
        refine g_bipush (31) 60 dX9_laysVertices_58 rfl rfl ?_
        refine h_iaload 61 31 dX9_laysVertices_60 rfl rfl s0.2.2.2.2.1 (vp_lit rfl) ?_
        obtain ⟨b2, H⟩ := H
        refine g_callS (mc1 := 0) (ms1 := 0) (rest := []) (av := [.int (v1), .int (x3), .int (x1), .int ((g_mi M (a0 + 2) 31))]) kX9_vertexOf 64 dX9_laysVertices_61 rfl rfl mbX9_115 smX9_vertexOf (Nat.le_of_ble_eq_true rfl) (Nat.zero_le _) (Nat.zero_le _) (tX9_vertexOf b2 ?_)
        show Go X (d + 1) mc ms kX9_laysVertices Q 64 [(0, .ref a0), (1, .int (x1)), (2, .int (x2)), (3, .int (x3))] [.int ((fX9_vertexOf v1 x3 x1 (g_mi M (a0 + 2) 31)))] M 0 0
        generalize hv2 : (fX9_vertexOf v1 x3 x1 (g_mi M (a0 + 2) 31)) = v2
        replace H := H v2 hv2.symm
        refine g_istore 66 [(4, .int (v2)), (0, .ref a0), (1, .int (x1)), (2, .int (x2)), (3, .int (x3))] dX9_laysVertices_64 rfl (Nat.le_of_ble_eq_true rfl) rfl ?_
        refine g_aload_n 1 67 dX9_laysVertices_66 rfl rfl ?_
        refine g_getR 70 (a0 + 16) dX9_laysVertices_67 rfl flX9_75 s0.1 s0.2.2.2.2.2.2.2.2.2.2.2.2.2.2.2.2.2.2.2.2.2.2.2.2.2.2.2.2.2.2.2.1 ?_
        refine g_iconst (3) 71 dX9_laysVertices_70 rfl rfl ?_
        refine g_iload_n 3 72 dX9_laysVertices_71 rfl rfl ?_
        refine g_imul 73 dX9_laysVertices_72 rfl ?_
        refine g_iload_n 4 74 dX9_laysVertices_73 rfl rfl ?_
        refine g_iadd 75 dX9_laysVertices_74 rfl ?_
        refine g_iload 0 77 dX9_laysVertices_75 rfl rfl ?_
        obtain ⟨b3, H⟩ := H
        refine h_iastore 78 (((3 * x2) + x3)).toNatClampNeg dX9_laysVertices_77 rfl rfl s0.2.2.2.2.2.2.2.2.2.2.2.2.2.2.2.2.2.2.2.2.2.2.2.2.2.2.2.2.2.2.2.2.1 b3 ?_
        generalize hM1 : (g_wi M (a0 + 16) (((3 * x2) + x3)).toNatClampNeg v2) = M1
        have j1 : Sm M M1 := by rw [← hM1]; exact (Sm.wi Sm.rf)
        replace H := H M1 hM1.symm
        refine g_aload_n 1 79 dX9_laysVertices_78 rfl rfl ?_
        refine g_getR 82 (a0 + 17) dX9_laysVertices_79 rfl flX9_78 (Sm.k j1 s0.1) (Sm.r j1 s0.2.2.2.2.2.2.2.2.2.2.2.2.2.2.2.2.2.2.2.2.2.2.2.2.2.2.2.2.2.2.2.2.2.1) ?_
        refine g_iload 0 84 dX9_laysVertices_82 rfl rfl ?_
        refine g_dup2 85 dX9_laysVertices_84 rfl rfl rfl ?_
        obtain ⟨b4, H⟩ := H
        refine h_iaload 86 (v2).toNatClampNeg dX9_laysVertices_85 rfl rfl (Sm.k j1 s0.2.2.2.2.2.2.2.2.2.2.2.2.2.2.2.2.2.2.2.2.2.2.2.2.2.2.2.2.2.2.2.2.2.2.1) b4 ?_
        refine g_iconst (1) 87 dX9_laysVertices_86 rfl rfl ?_
        refine g_iadd 88 dX9_laysVertices_87 rfl ?_
        refine h_iastore 89 (v2).toNatClampNeg dX9_laysVertices_88 rfl rfl (Sm.k j1 s0.2.2.2.2.2.2.2.2.2.2.2.2.2.2.2.2.2.2.2.2.2.2.2.2.2.2.2.2.2.2.2.2.2.2.1) b4 ?_
        generalize hM2 : (g_wi M1 (a0 + 17) (v2).toNatClampNeg ((g_mi M1 (a0 + 17) (v2).toNatClampNeg) + 1)) = M2
        have j2 : Sm M M2 := by rw [← hM2]; exact (Sm.wi j1)
        replace H := H M2 hM2.symm
        refine g_aload_n 1 90 dX9_laysVertices_89 rfl rfl ?_
        refine g_getR 93 (a0 + 18) dX9_laysVertices_90 rfl flX9_81 (Sm.k j2 s0.1) (Sm.r j2 s0.2.2.2.2.2.2.2.2.2.2.2.2.2.2.2.2.2.2.2.2.2.2.2.2.2.2.2.2.2.2.2.2.2.2.2.1) ?_
        refine g_iload 0 95 dX9_laysVertices_93 rfl rfl ?_
        refine g_dup2 96 dX9_laysVertices_95 rfl rfl rfl ?_
        obtain ⟨b5, H⟩ := H
        refine h_iaload 97 (v2).toNatClampNeg dX9_laysVertices_96 rfl rfl (Sm.k j2 s0.2.2.2.2.2.2.2.2.2.2.2.2.2.2.2.2.2.2.2.2.2.2.2.2.2.2.2.2.2.2.2.2.2.2.2.2.1) b5 ?_
        refine g_iload_n 3 98 dX9_laysVertices_97 rfl rfl ?_
        refine g_iadd 99 dX9_laysVertices_98 rfl ?_
        refine h_iastore 100 (v2).toNatClampNeg dX9_laysVertices_99 rfl rfl (Sm.k j2 s0.2.2.2.2.2.2.2.2.2.2.2.2.2.2.2.2.2.2.2.2.2.2.2.2.2.2.2.2.2.2.2.2.2.2.2.2.1) b5 ?_
        generalize hM3 : (g_wi M2 (a0 + 18) (v2).toNatClampNeg ((g_mi M2 (a0 + 18) (v2).toNatClampNeg) + x2)) = M3
        have j3 : Sm M M3 := by rw [← hM3]; exact (Sm.wi j2)
        replace H := H M3 hM3.symm
        refine g_iinc _ 4 103 [(3, .int ((x3 + 1))), (4, .int (v2)), (0, .ref a0), (1, .int (x1)), (2, .int (x2))] dX9_laysVertices_100 rfl rfl rfl (Nat.le_of_ble_eq_true rfl) rfl ?_
        refine g_goto 42 dX9_laysVertices_103 rfl ?_
        exact g_sub [2, 3, 4, 0] _ rfl (ih.2.2 M3 a0 x1 x2 (x3 + 1) (Mo.sm j3 s0) H (fun M1 j r => hR M1 (Sm.tr j3 j) r))
set_option maxRecDepth 10000 in
theorem uX9_laysVertices {N K : Nat} {X : gX} {d mc ms : Nat} {Q : Option Value → gM → Prop} {M : gM} {a0 : Nat} {x1 : Int32} {R : gM → Prop} (s0 : Mo M a0) (H : pX9_laysVertices N K M a0 x1 R) (hR : ∀ (M1 : gM), Sm M M1 → R M1 → Q none M1) : Cn X (d + 1) mc ms kX9_laysVertices [.ref a0, .int (x1)] M Q := by
  have ih := ulX9_laysVertices (X := X) (d := d) (mc := mc) (ms := ms) (Q := Q) (N := N) (K := K) (R := R) N
  unfold pX9_laysVertices pX9_laysVertices_0 at H
  refine g_meth rfl rfl (Nat.le_of_ble_eq_true rfl) rfl ?_
  refine g_iconst (0) 1 dX9_laysVertices_0 rfl rfl ?_
  refine g_istore_n 2 [(2, .int (0)), (0, .ref a0), (1, .int (x1))] dX9_laysVertices_1 rfl (Nat.le_of_ble_eq_true rfl) rfl ?_
  exact g_sub [1, 2, 0] _ rfl (ih.1 M a0 x1 0 0 s0 H (fun M1 j r => hR M1 j r))
/-! X9_nextFree -/
def pX9_nextFree_0 (N K : Nat) (kp : Nat → gM → Nat → Int32 → Int32 → Prop) (R : Int32 → Prop) (M : gM) (a0 : Nat) : Prop := kp 0 M a0 (-1) 0
def pX9_nextFree_4 (N K : Nat) (kp : Nat → gM → Nat → Int32 → Int32 → Prop) (R : Int32 → Prop) (M : gM) (a0 : Nat) (x1 : Int32) (x2 : Int32) : Prop := ∀ v1 : Int32, v1 = (fX9_vertexMany M a0) → ((v1 ≤ x2 → R x1) ∧ (¬ v1 ≤ x2 → (vp_in (x2) 60) ∧ ((¬ (g_mi M (a0 + 17) (x2).toNatClampNeg) = 1 → kp 0 M a0 x1 (x2 + 1)) ∧ ((g_mi M (a0 + 17) (x2).toNatClampNeg) = 1 → ((x1 = (-1) → kp 0 M a0 x2 (x2 + 1)) ∧ (¬ x1 = (-1) → (vp_in (x1) 60) ∧ (((g_mi M (a0 + 15) (x1).toNatClampNeg) ≤ (g_mi M (a0 + 15) (x2).toNatClampNeg) → kp 0 M a0 x1 (x2 + 1)) ∧ (¬ (g_mi M (a0 + 15) (x1).toNatClampNeg) ≤ (g_mi M (a0 + 15) (x2).toNatClampNeg) → kp 0 M a0 x2 (x2 + 1)))))))))
def qX9_nextFree (N K : Nat) (R : Int32 → Prop) : Nat → Nat → gM → Nat → Int32 → Int32 → Prop
  | 0, _, _, _, _, _ => False
  | n + 1, _, M, a0, x1, x2 => pX9_nextFree_4 N K (qX9_nextFree N K R n) R M a0 x1 x2
def pX9_nextFree (N K : Nat) (M : gM) (a0 : Nat) (R : Int32 → Prop) : Prop := pX9_nextFree_0 N K (qX9_nextFree N K R N) R M a0
def ULX9_nextFree (X : gX) (d mc ms : Nat) (Q : Option Value → gM → Prop) (N K : Nat) (R : Int32 → Prop) (n : Nat) : Prop := (∀ (M : gM) (a0 : Nat) (x1 : Int32) (x2 : Int32), Mo M a0 → qX9_nextFree N K R n 0 M a0 x1 x2 → (∀ (v : Int32), R v → Q (some (.int v)) M) → Go X (d + 1) mc ms kX9_nextFree Q 4 [(0, .ref a0), (1, .int (x1)), (2, .int (x2))] [] M 0 0)
set_option maxRecDepth 10000 in
theorem ulX9_nextFree {X : gX} {d mc ms : Nat} {Q : Option Value → gM → Prop} {N K : Nat} {R : Int32 → Prop} : ∀ n : Nat, ULX9_nextFree X d mc ms Q N K R n := by
  intro n
  induction n with
  | zero => exact fun _ _ _ _ _ h _ => h.elim
  | succ n ih =>
    intro M a0 x1 x2 s0 H hR
    rw [qX9_nextFree] at H
    unfold pX9_nextFree_4 at H
    refine g_iload_n 2 5 dX9_nextFree_4 rfl rfl ?_
    refine g_aload_n 0 6 dX9_nextFree_5 rfl rfl ?_
    refine g_callV (mc1 := 0) (ms1 := 0) (b := a0) (rest := [.int (x2)]) (av := []) kX9_vertexMany 9 dX9_nextFree_6 rfl rfl mbX9_123 imX9_vertexMany seX9_vertexMany gcl9.1 s0.1 (Nat.le_of_ble_eq_true rfl) (Nat.zero_le _) (Nat.zero_le _) (tX9_vertexMany s0 ?_)
    show Go X (d + 1) mc ms kX9_nextFree Q 9 [(0, .ref a0), (1, .int (x1)), (2, .int (x2))] [.int ((fX9_vertexMany M a0)), .int (x2)] M 0 0
    generalize hv1 : (fX9_vertexMany M a0) = v1
    replace H := H v1 hv1.symm
    refine g_icmp_ge 50 12 dX9_nextFree_9 rfl rfl (fun c1 => ?_) (fun c1 => ?_)
    · skip
      replace H := H.1 c1
      refine g_iload_n 1 51 dX9_nextFree_50 rfl rfl ?_
      exact g_iret dX9_nextFree_51 rfl (Nat.zero_le _) (Nat.zero_le _) (hR _ H)
    · skip
      replace H := H.2 c1
      refine g_aload_n 0 13 dX9_nextFree_12 rfl rfl ?_
      refine g_getR 16 (a0 + 17) dX9_nextFree_13 rfl flX9_78 s0.1 s0.2.2.2.2.2.2.2.2.2.2.2.2.2.2.2.2.2.2.2.2.2.2.2.2.2.2.2.2.2.2.2.2.2.1 ?_
      refine g_iload_n 2 17 dX9_nextFree_16 rfl rfl ?_
      obtain ⟨b1, H⟩ := H
      refine h_iaload 18 (x2).toNatClampNeg dX9_nextFree_17 rfl rfl s0.2.2.2.2.2.2.2.2.2.2.2.2.2.2.2.2.2.2.2.2.2.2.2.2.2.2.2.2.2.2.2.2.2.2.1 b1 ?_
      refine g_iconst (1) 19 dX9_nextFree_18 rfl rfl ?_
      refine g_icmp_ne 44 22 dX9_nextFree_19 rfl rfl (fun c2 => ?_) (fun c2 => ?_)
      · skip
        replace H := H.1 c2
        refine g_iinc _ 2 47 [(2, .int ((x2 + 1))), (0, .ref a0), (1, .int (x1))] dX9_nextFree_44 rfl rfl rfl (Nat.le_of_ble_eq_true rfl) rfl ?_
        refine g_goto 4 dX9_nextFree_47 rfl ?_
        exact g_sub [1, 2, 0] _ rfl (ih M a0 x1 (x2 + 1) s0 H (fun v r => hR v r))
      · skip
        replace H := H.2 c2
        refine g_iload_n 1 23 dX9_nextFree_22 rfl rfl ?_
        refine g_iconst ((-1)) 24 dX9_nextFree_23 rfl rfl ?_
        refine g_icmp_eq 42 27 dX9_nextFree_24 rfl rfl (fun c3 => ?_) (fun c3 => ?_)
        · skip
          replace H := H.1 c3
          refine g_iload_n 2 43 dX9_nextFree_42 rfl rfl ?_
          refine g_istore_n 44 [(1, .int (x2)), (0, .ref a0), (2, .int (x2))] dX9_nextFree_43 rfl (Nat.le_of_ble_eq_true rfl) rfl ?_
          refine g_iinc _ 2 47 [(2, .int ((x2 + 1))), (1, .int (x2)), (0, .ref a0)] dX9_nextFree_44 rfl rfl rfl (Nat.le_of_ble_eq_true rfl) rfl ?_
          refine g_goto 4 dX9_nextFree_47 rfl ?_
          exact g_sub [2, 1, 0] _ rfl (ih M a0 x2 (x2 + 1) s0 H (fun v r => hR v r))
        · skip
          replace H := H.2 c3
          refine g_aload_n 0 28 dX9_nextFree_27 rfl rfl ?_
          refine g_getR 31 (a0 + 15) dX9_nextFree_28 rfl flX9_72 s0.1 s0.2.2.2.2.2.2.2.2.2.2.2.2.2.2.2.2.2.2.2.2.2.2.2.2.2.2.2.2.2.1 ?_
          refine g_iload_n 2 32 dX9_nextFree_31 rfl rfl ?_
          refine h_iaload 33 (x2).toNatClampNeg dX9_nextFree_32 rfl rfl s0.2.2.2.2.2.2.2.2.2.2.2.2.2.2.2.2.2.2.2.2.2.2.2.2.2.2.2.2.2.2.1 b1 ?_
          refine g_aload_n 0 34 dX9_nextFree_33 rfl rfl ?_
          refine g_getR 37 (a0 + 15) dX9_nextFree_34 rfl flX9_72 s0.1 s0.2.2.2.2.2.2.2.2.2.2.2.2.2.2.2.2.2.2.2.2.2.2.2.2.2.2.2.2.2.1 ?_
          refine g_iload_n 1 38 dX9_nextFree_37 rfl rfl ?_
          obtain ⟨b2, H⟩ := H
          refine h_iaload 39 (x1).toNatClampNeg dX9_nextFree_38 rfl rfl s0.2.2.2.2.2.2.2.2.2.2.2.2.2.2.2.2.2.2.2.2.2.2.2.2.2.2.2.2.2.2.1 b2 ?_
          refine g_icmp_ge 44 42 dX9_nextFree_39 rfl rfl (fun c4 => ?_) (fun c4 => ?_)
          · skip
            replace H := H.1 c4
            refine g_iinc _ 2 47 [(2, .int ((x2 + 1))), (0, .ref a0), (1, .int (x1))] dX9_nextFree_44 rfl rfl rfl (Nat.le_of_ble_eq_true rfl) rfl ?_
            refine g_goto 4 dX9_nextFree_47 rfl ?_
            exact g_sub [1, 2, 0] _ rfl (ih M a0 x1 (x2 + 1) s0 H (fun v r => hR v r))
          · skip
            replace H := H.2 c4
            refine g_iload_n 2 43 dX9_nextFree_42 rfl rfl ?_
            refine g_istore_n 44 [(1, .int (x2)), (0, .ref a0), (2, .int (x2))] dX9_nextFree_43 rfl (Nat.le_of_ble_eq_true rfl) rfl ?_
            refine g_iinc _ 2 47 [(2, .int ((x2 + 1))), (1, .int (x2)), (0, .ref a0)] dX9_nextFree_44 rfl rfl rfl (Nat.le_of_ble_eq_true rfl) rfl ?_
            refine g_goto 4 dX9_nextFree_47 rfl ?_
            exact g_sub [2, 1, 0] _ rfl (ih M a0 x2 (x2 + 1) s0 H (fun v r => hR v r))
set_option maxRecDepth 10000 in
theorem uX9_nextFree {N K : Nat} {X : gX} {d mc ms : Nat} {Q : Option Value → gM → Prop} {M : gM} {a0 : Nat} {R : Int32 → Prop} (s0 : Mo M a0) (H : pX9_nextFree N K M a0 R) (hR : ∀ (v : Int32), R v → Q (some (.int v)) M) : Cn X (d + 1) mc ms kX9_nextFree [.ref a0] M Q := by
  have ih := ulX9_nextFree (X := X) (d := d) (mc := mc) (ms := ms) (Q := Q) (N := N) (K := K) (R := R) N
  unfold pX9_nextFree pX9_nextFree_0 at H
  refine g_meth rfl rfl (Nat.le_of_ble_eq_true rfl) rfl ?_
  refine g_iconst ((-1)) 1 dX9_nextFree_0 rfl rfl ?_
  refine g_istore_n 2 [(1, .int ((-1))), (0, .ref a0)] dX9_nextFree_1 rfl (Nat.le_of_ble_eq_true rfl) rfl ?_
  refine g_iconst (0) 3 dX9_nextFree_2 rfl rfl ?_
  refine g_istore_n 4 [(2, .int (0)), (1, .int ((-1))), (0, .ref a0)] dX9_nextFree_3 rfl (Nat.le_of_ble_eq_true rfl) rfl ?_
  exact g_sub [2, 1, 0] _ rfl (ih M a0 (-1) 0 s0 H (fun v r => hR v r))
/-! X9_peels -/
def pX9_peels_0 (N K : Nat) (kp : Nat → gM → Nat → Int32 → Int32 → Int32 → Int32 → Prop) (R : gM → Prop) (M : gM) (a0 : Nat) (x1 : Int32) : Prop := pX9_laysVertices N K M a0 x1 (fun M1 => ∀ M2 : gM, M2 = (g_wi M1 a0 35 (g_mi M1 (a0 + 2) 0)) → pX9_nextFree N K M2 a0 (fun v1 => kp 0 M2 a0 0 v1 0 0))
def pX9_peels_22 (N K : Nat) (kp : Nat → gM → Nat → Int32 → Int32 → Int32 → Int32 → Prop) (R : gM → Prop) (M : gM) (a0 : Nat) (x2 : Int32) (x3 : Int32) : Prop := ((x3 = (-1) → R M) ∧ (¬ x3 = (-1) → (vp_in (x3) 60) ∧ kp 1 M a0 x2 x3 (g_mi M (a0 + 18) (x3).toNatClampNeg) 0))
def pX9_peels_38 (N K : Nat) (kp : Nat → gM → Nat → Int32 → Int32 → Int32 → Int32 → Prop) (R : gM → Prop) (M : gM) (a0 : Nat) (x2 : Int32) (x3 : Int32) (x4 : Int32) (x5 : Int32) : Prop := ((3 ≤ x5 → (EX9_keyAt M a0 x4) ∧ ∀ v1 : Int32, v1 = (fX9_keyAt M a0 x4) → (vp_in (x2) 30) ∧ ∀ M1 : gM, M1 = (g_wi M (a0 + 13) (x2).toNatClampNeg v1) → (vp_in (x2) 30) ∧ ∀ M2 : gM, M2 = (g_wi M1 (a0 + 14) (x2).toNatClampNeg x3) → ∀ M3 : gM, M3 = (g_wi M2 a0 35 ((g_mi M2 a0 35) - 1)) → pX9_nextFree N K M3 a0 (fun v2 => kp 0 M3 a0 (x2 + 1) v2 0 0)) ∧ (¬ 3 ≤ x5 → (vp_in (((3 * x4) + x5)) 90) ∧ (vp_in ((g_mi M (a0 + 16) (((3 * x4) + x5)).toNatClampNeg)) 60) ∧ ∀ M4 : gM, M4 = (g_wi M (a0 + 17) ((g_mi M (a0 + 16) (((3 * x4) + x5)).toNatClampNeg)).toNatClampNeg ((g_mi M (a0 + 17) ((g_mi M (a0 + 16) (((3 * x4) + x5)).toNatClampNeg)).toNatClampNeg) - 1)) → (vp_in (((3 * x4) + x5)) 90) ∧ (vp_in ((g_mi M4 (a0 + 16) (((3 * x4) + x5)).toNatClampNeg)) 60) ∧ ∀ M5 : gM, M5 = (g_wi M4 (a0 + 18) ((g_mi M4 (a0 + 16) (((3 * x4) + x5)).toNatClampNeg)).toNatClampNeg ((g_mi M4 (a0 + 18) ((g_mi M4 (a0 + 16) (((3 * x4) + x5)).toNatClampNeg)).toNatClampNeg) - x4)) → kp 1 M5 a0 x2 x3 x4 (x5 + 1)))
def qX9_peels (N K : Nat) (R : gM → Prop) : Nat → Nat → gM → Nat → Int32 → Int32 → Int32 → Int32 → Prop
  | 0, _, _, _, _, _, _, _ => False
  | n + 1, h, M, a0, x2, x3, x4, x5 => if h = 0 then pX9_peels_22 N K (qX9_peels N K R n) R M a0 x2 x3 else pX9_peels_38 N K (qX9_peels N K R n) R M a0 x2 x3 x4 x5
def pX9_peels (N K : Nat) (M : gM) (a0 : Nat) (x1 : Int32) (R : gM → Prop) : Prop := pX9_peels_0 N K (qX9_peels N K R N) R M a0 x1
def ULX9_peels (X : gX) (d mc ms : Nat) (Q : Option Value → gM → Prop) (N K : Nat) (R : gM → Prop) (n : Nat) : Prop := (∀ (M : gM) (a0 : Nat) (x2 : Int32) (x3 : Int32) (x4 : Int32) (x5 : Int32), Mo M a0 → qX9_peels N K R n 0 M a0 x2 x3 x4 x5 → (∀ (M1 : gM), Sm M M1 → R M1 → Q none M1) → Go X (d + 2) mc ms kX9_peels Q 22 [(0, .ref a0), (2, .int (x2)), (3, .int (x3))] [] M 0 0) ∧ (∀ (M : gM) (a0 : Nat) (x2 : Int32) (x3 : Int32) (x4 : Int32) (x5 : Int32), Mo M a0 → qX9_peels N K R n 1 M a0 x2 x3 x4 x5 → (∀ (M1 : gM), Sm M M1 → R M1 → Q none M1) → Go X (d + 2) mc ms kX9_peels Q 38 [(0, .ref a0), (2, .int (x2)), (3, .int (x3)), (4, .int (x4)), (5, .int (x5))] [] M 0 0)
set_option maxRecDepth 10000 in
theorem ulX9_peels {X : gX} {d mc ms : Nat} {Q : Option Value → gM → Prop} {N K : Nat} {R : gM → Prop} : ∀ n : Nat, ULX9_peels X d mc ms Q N K R n := by
  intro n
  induction n with
  | zero => exact ⟨fun _ _ _ _ _ _ _ h _ => h.elim, fun _ _ _ _ _ _ _ h _ => h.elim⟩
  | succ n ih =>
    refine ⟨?_, ?_⟩
    · intro M a0 x2 x3 x4 x5 s0 H hR
      rw [qX9_peels, if_pos (show (0 : Nat) = 0 from rfl)] at H
      unfold pX9_peels_22 at H
      refine g_iload_n 2 23 dX9_peels_22 rfl rfl ?_
      refine g_iconst ((-1)) 24 dX9_peels_23 rfl rfl ?_
      refine g_icmp_eq 133 27 dX9_peels_24 rfl rfl (fun c1 => ?_) (fun c1 => ?_)
      · skip
        replace H := H.1 c1
        exact g_vret dX9_peels_133 rfl (Nat.zero_le _) (Nat.zero_le _) (hR _ Sm.rf H)
      · skip
        replace H := H.2 c1
        refine g_aload_n 0 28 dX9_peels_27 rfl rfl ?_
        refine g_getR 31 (a0 + 18) dX9_peels_28 rfl flX9_81 s0.1 s0.2.2.2.2.2.2.2.2.2.2.2.2.2.2.2.2.2.2.2.2.2.2.2.2.2.2.2.2.2.2.2.2.2.2.2.1 ?_
        refine g_iload_n 2 32 dX9_peels_31 rfl rfl ?_
        obtain ⟨b1, H⟩ := H
        refine h_iaload 33 (x3).toNatClampNeg dX9_peels_32 rfl rfl s0.2.2.2.2.2.2.2.2.2.2.2.2.2.2.2.2.2.2.2.2.2.2.2.2.2.2.2.2.2.2.2.2.2.2.2.2.1 b1 ?_
        refine g_istore 35 [(4, .int ((g_mi M (a0 + 18) (x3).toNatClampNeg))), (0, .ref a0), (2, .int (x2)), (3, .int (x3))] dX9_peels_33 rfl (Nat.le_of_ble_eq_true rfl) rfl ?_
        refine g_iconst (0) 36 dX9_peels_35 rfl rfl ?_
        refine g_istore 38 [(5, .int (0)), (4, .int ((g_mi M (a0 + 18) (x3).toNatClampNeg))), (0, .ref a0), (2, .int (x2)), (3, .int (x3))] dX9_peels_36 rfl (Nat.le_of_ble_eq_true rfl) rfl ?_
        exact g_sub [2, 3, 4, 1, 0] _ rfl (ih.2 M a0 x2 x3 (g_mi M (a0 + 18) (x3).toNatClampNeg) 0 s0 H (fun M1 j r => hR M1 j r))
    · intro M a0 x2 x3 x4 x5 s0 H hR
      rw [qX9_peels, if_neg (show ¬ (1 : Nat) = 0 by decide)] at H
      unfold pX9_peels_38 at H
      refine g_iload 4 40 dX9_peels_38 rfl rfl ?_
      refine g_iconst (3) 41 dX9_peels_40 rfl rfl ?_
      refine g_icmp_ge 93 44 dX9_peels_41 rfl rfl (fun c1 => ?_) (fun c1 => ?_)
      · skip
        replace H := H.1 c1
        refine g_aload_n 0 94 dX9_peels_93 rfl rfl ?_
        refine g_getR 97 (a0 + 13) dX9_peels_94 rfl flX9_66 s0.1 s0.2.2.2.2.2.2.2.2.2.2.2.2.2.2.2.2.2.2.2.2.2.2.2.2.2.1 ?_
        refine g_iload_n 1 98 dX9_peels_97 rfl rfl ?_
        refine g_aload_n 0 99 dX9_peels_98 rfl rfl ?_
        refine g_iload 3 101 dX9_peels_99 rfl rfl ?_
        obtain ⟨b1, H⟩ := H
        refine g_callV (mc1 := 0) (ms1 := 0) (b := a0) (rest := [.int (x2), .ref (a0 + 13)]) (av := [.int (x4)]) kX9_keyAt 104 dX9_peels_101 rfl rfl mbX9_109 imX9_keyAt seX9_keyAt gcl9.1 s0.1 (Nat.le_of_ble_eq_true rfl) (Nat.zero_le _) (Nat.zero_le _) (tX9_keyAt s0 b1 ?_)
        show Go X (d + 2) mc ms kX9_peels Q 104 [(0, .ref a0), (2, .int (x2)), (3, .int (x3)), (4, .int (x4)), (5, .int (x5))] [.int ((fX9_keyAt M a0 x4)), .int (x2), .ref (a0 + 13)] M 0 0
        generalize hv1 : (fX9_keyAt M a0 x4) = v1
        replace H := H v1 hv1.symm
        obtain ⟨b2, H⟩ := H
        refine h_iastore 105 (x2).toNatClampNeg dX9_peels_104 rfl rfl s0.2.2.2.2.2.2.2.2.2.2.2.2.2.2.2.2.2.2.2.2.2.2.2.2.2.2.1 b2 ?_
        generalize hM1 : (g_wi M (a0 + 13) (x2).toNatClampNeg v1) = M1
        have j1 : Sm M M1 := by rw [← hM1]; exact (Sm.wi Sm.rf)
        replace H := H M1 hM1.symm
        refine g_aload_n 0 106 dX9_peels_105 rfl rfl ?_
        refine g_getR 109 (a0 + 14) dX9_peels_106 rfl flX9_69 (Sm.k j1 s0.1) (Sm.r j1 s0.2.2.2.2.2.2.2.2.2.2.2.2.2.2.2.2.2.2.2.2.2.2.2.2.2.2.2.1) ?_
        refine g_iload_n 1 110 dX9_peels_109 rfl rfl ?_
        refine g_iload_n 2 111 dX9_peels_110 rfl rfl ?_
        obtain ⟨b3, H⟩ := H
        refine h_iastore 112 (x2).toNatClampNeg dX9_peels_111 rfl rfl (Sm.k j1 s0.2.2.2.2.2.2.2.2.2.2.2.2.2.2.2.2.2.2.2.2.2.2.2.2.2.2.2.2.1) b3 ?_
        generalize hM2 : (g_wi M1 (a0 + 14) (x2).toNatClampNeg x3) = M2
        have j2 : Sm M M2 := by rw [← hM2]; exact (Sm.wi j1)
        replace H := H M2 hM2.symm
        refine g_iinc _ 1 115 [(2, .int ((x2 + 1))), (0, .ref a0), (3, .int (x3)), (4, .int (x4)), (5, .int (x5))] dX9_peels_112 rfl rfl rfl (Nat.le_of_ble_eq_true rfl) rfl ?_
        refine g_aload_n 1 116 dX9_peels_115 rfl rfl ?_
        refine g_dup 117 dX9_peels_116 rfl rfl ?_
        refine g_getI 120 dX9_peels_117 rfl flX9_338 (Sm.k j2 s0.1) ?_
        refine g_iconst (1) 121 dX9_peels_120 rfl rfl ?_
        refine g_isub 122 dX9_peels_121 rfl ?_
        refine g_putI 125 dX9_peels_122 rfl flX9_338 (Sm.k j2 s0.1) ?_
        generalize hM3 : (g_wi M2 a0 35 ((g_mi M2 a0 35) - 1)) = M3
        have j3 : Sm M M3 := by rw [← hM3]; exact (Sm.wi j2)
        replace H := H M3 hM3.symm
        refine g_aload_n 1 126 dX9_peels_125 rfl rfl ?_
        refine g_callV (mc1 := 0) (ms1 := 0) (b := a0) (rest := []) (av := []) kX9_nextFree 129 dX9_peels_126 rfl rfl mbX9_341 imX9_nextFree seX9_nextFree gcl9.1 (Sm.k j3 s0.1) (Nat.le_of_ble_eq_true rfl) (Nat.zero_le _) (Nat.zero_le _) (uX9_nextFree (N := N) (K := K) (Mo.sm j3 s0) H (fun v2 H => ?_))
        show Go X (d + 2) mc ms kX9_peels Q 129 [(2, .int ((x2 + 1))), (0, .ref a0), (3, .int (x3)), (4, .int (x4)), (5, .int (x5))] [.int (v2)] M3 0 0
        refine g_istore_n 130 [(3, .int (v2)), (2, .int ((x2 + 1))), (0, .ref a0), (4, .int (x4)), (5, .int (x5))] dX9_peels_129 rfl (Nat.le_of_ble_eq_true rfl) rfl ?_
        refine g_goto 22 dX9_peels_130 rfl ?_
        exact g_sub [2, 1, 0] _ rfl (ih.1 M3 a0 (x2 + 1) v2 0 0 (Mo.sm j3 s0) H (fun M1 j r => hR M1 (Sm.tr j3 j) r))
      · skip
        replace H := H.2 c1
        refine g_aload_n 0 45 dX9_peels_44 rfl rfl ?_
        refine g_getR 48 (a0 + 17) dX9_peels_45 rfl flX9_78 s0.1 s0.2.2.2.2.2.2.2.2.2.2.2.2.2.2.2.2.2.2.2.2.2.2.2.2.2.2.2.2.2.2.2.2.2.1 ?_
        refine g_aload_n 0 49 dX9_peels_48 rfl rfl ?_
        refine g_getR 52 (a0 + 16) dX9_peels_49 rfl flX9_75 s0.1 s0.2.2.2.2.2.2.2.2.2.2.2.2.2.2.2.2.2.2.2.2.2.2.2.2.2.2.2.2.2.2.2.1 ?_
        refine g_iconst (3) 53 dX9_peels_52 rfl rfl ?_
        refine g_iload 3 55 dX9_peels_53 rfl rfl ?_
        refine g_imul 56 dX9_peels_55 rfl ?_
        refine g_iload 4 58 dX9_peels_56 rfl rfl ?_
        refine g_iadd 59 dX9_peels_58 rfl ?_
        obtain ⟨b4, H⟩ := H
        refine h_iaload 60 (((3 * x4) + x5)).toNatClampNeg dX9_peels_59 rfl rfl s0.2.2.2.2.2.2.2.2.2.2.2.2.2.2.2.2.2.2.2.2.2.2.2.2.2.2.2.2.2.2.2.2.1 b4 ?_
        refine g_dup2 61 dX9_peels_60 rfl rfl rfl ?_
        obtain ⟨b5, H⟩ := H
        refine h_iaload 62 ((g_mi M (a0 + 16) (((3 * x4) + x5)).toNatClampNeg)).toNatClampNeg dX9_peels_61 rfl rfl s0.2.2.2.2.2.2.2.2.2.2.2.2.2.2.2.2.2.2.2.2.2.2.2.2.2.2.2.2.2.2.2.2.2.2.1 b5 ?_
        refine g_iconst (1) 63 dX9_peels_62 rfl rfl ?_
        refine g_isub 64 dX9_peels_63 rfl ?_
        refine h_iastore 65 ((g_mi M (a0 + 16) (((3 * x4) + x5)).toNatClampNeg)).toNatClampNeg dX9_peels_64 rfl rfl s0.2.2.2.2.2.2.2.2.2.2.2.2.2.2.2.2.2.2.2.2.2.2.2.2.2.2.2.2.2.2.2.2.2.2.1 b5 ?_
        generalize hM4 : (g_wi M (a0 + 17) ((g_mi M (a0 + 16) (((3 * x4) + x5)).toNatClampNeg)).toNatClampNeg ((g_mi M (a0 + 17) ((g_mi M (a0 + 16) (((3 * x4) + x5)).toNatClampNeg)).toNatClampNeg) - 1)) = M4
        have j4 : Sm M M4 := by rw [← hM4]; exact (Sm.wi Sm.rf)
        replace H := H M4 hM4.symm
        refine g_aload_n 0 66 dX9_peels_65 rfl rfl ?_
        refine g_getR 69 (a0 + 18) dX9_peels_66 rfl flX9_81 (Sm.k j4 s0.1) (Sm.r j4 s0.2.2.2.2.2.2.2.2.2.2.2.2.2.2.2.2.2.2.2.2.2.2.2.2.2.2.2.2.2.2.2.2.2.2.2.1) ?_
        refine g_aload_n 0 70 dX9_peels_69 rfl rfl ?_
        refine g_getR 73 (a0 + 16) dX9_peels_70 rfl flX9_75 (Sm.k j4 s0.1) (Sm.r j4 s0.2.2.2.2.2.2.2.2.2.2.2.2.2.2.2.2.2.2.2.2.2.2.2.2.2.2.2.2.2.2.2.1) ?_
        refine g_iconst (3) 74 dX9_peels_73 rfl rfl ?_
        refine g_iload 3 76 dX9_peels_74 rfl rfl ?_
        refine g_imul 77 dX9_peels_76 rfl ?_
        refine g_iload 4 79 dX9_peels_77 rfl rfl ?_
        refine g_iadd 80 dX9_peels_79 rfl ?_
        obtain ⟨b6, H⟩ := H
        refine h_iaload 81 (((3 * x4) + x5)).toNatClampNeg dX9_peels_80 rfl rfl (Sm.k j4 s0.2.2.2.2.2.2.2.2.2.2.2.2.2.2.2.2.2.2.2.2.2.2.2.2.2.2.2.2.2.2.2.2.1) b6 ?_
        refine g_dup2 82 dX9_peels_81 rfl rfl rfl ?_
        obtain ⟨b7, H⟩ := H
        refine h_iaload 83 ((g_mi M4 (a0 + 16) (((3 * x4) + x5)).toNatClampNeg)).toNatClampNeg dX9_peels_82 rfl rfl (Sm.k j4 s0.2.2.2.2.2.2.2.2.2.2.2.2.2.2.2.2.2.2.2.2.2.2.2.2.2.2.2.2.2.2.2.2.2.2.2.2.1) b7 ?_
        refine g_iload 3 85 dX9_peels_83 rfl rfl ?_
        refine g_isub 86 dX9_peels_85 rfl ?_
        refine h_iastore 87 ((g_mi M4 (a0 + 16) (((3 * x4) + x5)).toNatClampNeg)).toNatClampNeg dX9_peels_86 rfl rfl (Sm.k j4 s0.2.2.2.2.2.2.2.2.2.2.2.2.2.2.2.2.2.2.2.2.2.2.2.2.2.2.2.2.2.2.2.2.2.2.2.2.1) b7 ?_
        generalize hM5 : (g_wi M4 (a0 + 18) ((g_mi M4 (a0 + 16) (((3 * x4) + x5)).toNatClampNeg)).toNatClampNeg ((g_mi M4 (a0 + 18) ((g_mi M4 (a0 + 16) (((3 * x4) + x5)).toNatClampNeg)).toNatClampNeg) - x4)) = M5
        have j5 : Sm M M5 := by rw [← hM5]; exact (Sm.wi j4)
        replace H := H M5 hM5.symm
        refine g_iinc _ 4 90 [(5, .int ((x5 + 1))), (0, .ref a0), (2, .int (x2)), (3, .int (x3)), (4, .int (x4))] dX9_peels_87 rfl rfl rfl (Nat.le_of_ble_eq_true rfl) rfl ?_
        refine g_goto 38 dX9_peels_90 rfl ?_
        exact g_sub [1, 2, 3, 4, 0] _ rfl (ih.2 M5 a0 x2 x3 x4 (x5 + 1) (Mo.sm j5 s0) H (fun M1 j r => hR M1 (Sm.tr j5 j) r))
set_option maxRecDepth 10000 in
theorem uX9_peels {N K : Nat} {X : gX} {d mc ms : Nat} {Q : Option Value → gM → Prop} {M : gM} {a0 : Nat} {x1 : Int32} {R : gM → Prop} (s0 : Mo M a0) (H : pX9_peels N K M a0 x1 R) (hR : ∀ (M1 : gM), Sm M M1 → R M1 → Q none M1) : Cn X (d + 2) mc ms kX9_peels [.ref a0, .int (x1)] M Q := by
  have ih := ulX9_peels (X := X) (d := d) (mc := mc) (ms := ms) (Q := Q) (N := N) (K := K) (R := R) N
  unfold pX9_peels pX9_peels_0 at H
  refine g_meth rfl rfl (Nat.le_of_ble_eq_true rfl) rfl ?_
  refine g_aload_n 0 1 dX9_peels_0 rfl rfl ?_
  refine g_iload_n 1 2 dX9_peels_1 rfl rfl ?_
  refine g_callV (mc1 := 0) (ms1 := 0) (b := a0) (rest := []) (av := [.int (x1)]) kX9_laysVertices 5 dX9_peels_2 rfl rfl mbX9_335 imX9_laysVertices seX9_laysVertices gcl9.1 s0.1 (Nat.le_of_ble_eq_true rfl) (Nat.zero_le _) (Nat.zero_le _) (uX9_laysVertices (N := N) (K := K) s0 H (fun M1 jj H => ?_))
  have j1 : Sm M M1 := jj
  show Go X (d + 2) mc ms kX9_peels Q 5 [(0, .ref a0), (1, .int (x1))] [] M1 0 0
  refine g_aload_n 0 6 dX9_peels_5 rfl rfl ?_
  refine g_aload_n 0 7 dX9_peels_6 rfl rfl ?_
  refine g_getR 10 (a0 + 2) dX9_peels_7 rfl flX9_28 (Sm.k j1 s0.1) (Sm.r j1 s0.2.2.2.1) ?_
  refine g_iconst (0) 11 dX9_peels_10 rfl rfl ?_
  refine h_iaload 12 0 dX9_peels_11 rfl rfl (Sm.k j1 s0.2.2.2.2.1) (vp_lit rfl) ?_
  refine g_putI 15 dX9_peels_12 rfl flX9_338 (Sm.k j1 s0.1) ?_
  generalize hM2 : (g_wi M1 a0 35 (g_mi M1 (a0 + 2) 0)) = M2
  have j2 : Sm M M2 := by rw [← hM2]; exact (Sm.wi j1)
  replace H := H M2 hM2.symm
  refine g_iconst (0) 16 dX9_peels_15 rfl rfl ?_
  refine g_istore_n 17 [(2, .int (0)), (0, .ref a0), (1, .int (x1))] dX9_peels_16 rfl (Nat.le_of_ble_eq_true rfl) rfl ?_
  refine g_aload_n 1 18 dX9_peels_17 rfl rfl ?_
  refine g_callV (mc1 := 0) (ms1 := 0) (b := a0) (rest := []) (av := []) kX9_nextFree 21 dX9_peels_18 rfl rfl mbX9_341 imX9_nextFree seX9_nextFree gcl9.1 (Sm.k j2 s0.1) (Nat.le_of_ble_eq_true rfl) (Nat.zero_le _) (Nat.zero_le _) (uX9_nextFree (N := N) (K := K) (Mo.sm j2 s0) H (fun v1 H => ?_))
  show Go X (d + 2) mc ms kX9_peels Q 21 [(2, .int (0)), (0, .ref a0), (1, .int (x1))] [.int (v1)] M2 0 0
  refine g_istore_n 22 [(3, .int (v1)), (2, .int (0)), (0, .ref a0), (1, .int (x1))] dX9_peels_21 rfl (Nat.le_of_ble_eq_true rfl) rfl ?_
  exact g_sub [2, 1, 0] _ rfl (ih.1 M2 a0 0 v1 0 0 (Mo.sm j2 s0) H (fun M1 j r => hR M1 (Sm.tr j2 j) r))
/-! X9_coreOf -/
def pX9_coreOf_0 (N K : Nat) (kp : Nat → gM → Nat → Int32 → Int32 → Prop) (R : Int32 → gM → Prop) (M : gM) (a0 : Nat) (x1 : Int32) : Prop := kp 0 M a0 x1 0
def pX9_coreOf_2 (N K : Nat) (kp : Nat → gM → Nat → Int32 → Int32 → Prop) (R : Int32 → gM → Prop) (M : gM) (a0 : Nat) (x1 : Int32) (x2 : Int32) : Prop := ∀ v1 : Int32, v1 = (fX9_vertexMany M a0) → ((v1 ≤ x2 → pX9_peels N K M a0 x1 (fun M1 => R (g_mi M1 a0 35) M1)) ∧ (¬ v1 ≤ x2 → (vp_in (x2) 60) ∧ ∀ M2 : gM, M2 = (g_wi M (a0 + 15) (x2).toNatClampNeg 0) → kp 0 M2 a0 x1 (x2 + 1)))
def qX9_coreOf (N K : Nat) (R : Int32 → gM → Prop) : Nat → Nat → gM → Nat → Int32 → Int32 → Prop
  | 0, _, _, _, _, _ => False
  | n + 1, _, M, a0, x1, x2 => pX9_coreOf_2 N K (qX9_coreOf N K R n) R M a0 x1 x2
def pX9_coreOf (N K : Nat) (M : gM) (a0 : Nat) (x1 : Int32) (R : Int32 → gM → Prop) : Prop := pX9_coreOf_0 N K (qX9_coreOf N K R N) R M a0 x1
def ULX9_coreOf (X : gX) (d mc ms : Nat) (Q : Option Value → gM → Prop) (N K : Nat) (R : Int32 → gM → Prop) (n : Nat) : Prop := (∀ (M : gM) (a0 : Nat) (x1 : Int32) (x2 : Int32), Mo M a0 → qX9_coreOf N K R n 0 M a0 x1 x2 → (∀ (v : Int32) (M1 : gM), Sm M M1 → R v M1 → Q (some (.int v)) M1) → Go X (d + 3) mc ms kX9_coreOf Q 2 [(0, .ref a0), (1, .int (x1)), (2, .int (x2))] [] M 0 0)
set_option maxRecDepth 10000 in
theorem ulX9_coreOf {X : gX} {d mc ms : Nat} {Q : Option Value → gM → Prop} {N K : Nat} {R : Int32 → gM → Prop} : ∀ n : Nat, ULX9_coreOf X d mc ms Q N K R n := by
  intro n
  induction n with
  | zero => exact fun _ _ _ _ _ h _ => h.elim
  | succ n ih =>
    intro M a0 x1 x2 s0 H hR
    rw [qX9_coreOf] at H
    unfold pX9_coreOf_2 at H
    refine g_iload_n 2 3 dX9_coreOf_2 rfl rfl ?_
    refine g_aload_n 0 4 dX9_coreOf_3 rfl rfl ?_
    refine g_callV (mc1 := 0) (ms1 := 0) (b := a0) (rest := [.int (x2)]) (av := []) kX9_vertexMany 7 dX9_coreOf_4 rfl rfl mbX9_123 imX9_vertexMany seX9_vertexMany gcl9.1 s0.1 (Nat.le_of_ble_eq_true rfl) (Nat.zero_le _) (Nat.zero_le _) (tX9_vertexMany s0 ?_)
    show Go X (d + 3) mc ms kX9_coreOf Q 7 [(0, .ref a0), (1, .int (x1)), (2, .int (x2))] [.int ((fX9_vertexMany M a0)), .int (x2)] M 0 0
    generalize hv1 : (fX9_vertexMany M a0) = v1
    replace H := H v1 hv1.symm
    refine g_icmp_ge 23 10 dX9_coreOf_7 rfl rfl (fun c1 => ?_) (fun c1 => ?_)
    · skip
      replace H := H.1 c1
      refine g_aload_n 0 24 dX9_coreOf_23 rfl rfl ?_
      refine g_iload_n 1 25 dX9_coreOf_24 rfl rfl ?_
      refine g_callV (mc1 := 0) (ms1 := 0) (b := a0) (rest := []) (av := [.int (x1)]) kX9_peels 28 dX9_coreOf_25 rfl rfl mbX9_344 imX9_peels seX9_peels gcl9.1 s0.1 (Nat.le_of_ble_eq_true rfl) (Nat.zero_le _) (Nat.zero_le _) (uX9_peels (N := N) (K := K) s0 H (fun M1 jj H => ?_))
      have j1 : Sm M M1 := jj
      show Go X (d + 3) mc ms kX9_coreOf Q 28 [(0, .ref a0), (1, .int (x1)), (2, .int (x2))] [] M1 0 0
      refine g_aload_n 0 29 dX9_coreOf_28 rfl rfl ?_
      refine g_getI 32 dX9_coreOf_29 rfl flX9_338 (Sm.k j1 s0.1) ?_
      exact g_iret dX9_coreOf_32 rfl (Nat.zero_le _) (Nat.zero_le _) (hR _ _ j1 H)
    · skip
      replace H := H.2 c1
      refine g_aload_n 0 11 dX9_coreOf_10 rfl rfl ?_
      refine g_getR 14 (a0 + 15) dX9_coreOf_11 rfl flX9_72 s0.1 s0.2.2.2.2.2.2.2.2.2.2.2.2.2.2.2.2.2.2.2.2.2.2.2.2.2.2.2.2.2.1 ?_
      refine g_iload_n 2 15 dX9_coreOf_14 rfl rfl ?_
      refine g_iconst (0) 16 dX9_coreOf_15 rfl rfl ?_
      obtain ⟨b1, H⟩ := H
      refine h_iastore 17 (x2).toNatClampNeg dX9_coreOf_16 rfl rfl s0.2.2.2.2.2.2.2.2.2.2.2.2.2.2.2.2.2.2.2.2.2.2.2.2.2.2.2.2.2.2.1 b1 ?_
      generalize hM2 : (g_wi M (a0 + 15) (x2).toNatClampNeg 0) = M2
      have j2 : Sm M M2 := by rw [← hM2]; exact (Sm.wi Sm.rf)
      replace H := H M2 hM2.symm
      refine g_iinc _ 2 20 [(2, .int ((x2 + 1))), (0, .ref a0), (1, .int (x1))] dX9_coreOf_17 rfl rfl rfl (Nat.le_of_ble_eq_true rfl) rfl ?_
      refine g_goto 2 dX9_coreOf_20 rfl ?_
      exact g_sub [1, 2, 0] _ rfl (ih M2 a0 x1 (x2 + 1) (Mo.sm j2 s0) H (fun v M1 j r => hR v M1 (Sm.tr j2 j) r))
set_option maxRecDepth 10000 in
theorem uX9_coreOf {N K : Nat} {X : gX} {d mc ms : Nat} {Q : Option Value → gM → Prop} {M : gM} {a0 : Nat} {x1 : Int32} {R : Int32 → gM → Prop} (s0 : Mo M a0) (H : pX9_coreOf N K M a0 x1 R) (hR : ∀ (v : Int32) (M1 : gM), Sm M M1 → R v M1 → Q (some (.int v)) M1) : Cn X (d + 3) mc ms kX9_coreOf [.ref a0, .int (x1)] M Q := by
  have ih := ulX9_coreOf (X := X) (d := d) (mc := mc) (ms := ms) (Q := Q) (N := N) (K := K) (R := R) N
  unfold pX9_coreOf pX9_coreOf_0 at H
  refine g_meth rfl rfl (Nat.le_of_ble_eq_true rfl) rfl ?_
  refine g_iconst (0) 1 dX9_coreOf_0 rfl rfl ?_
  refine g_istore_n 2 [(2, .int (0)), (0, .ref a0), (1, .int (x1))] dX9_coreOf_1 rfl (Nat.le_of_ble_eq_true rfl) rfl ?_
  exact g_sub [1, 2, 0] _ rfl (ih M a0 x1 0 s0 H (fun v M1 j r => hR v M1 j r))
/-! X9_together -/
def pX9_together_0 (N K : Nat) (kp : Nat → gM → Nat → Int32 → Int32 → Int32 → Int32 → Prop) (R : Int32 → Prop) (M : gM) (a0 : Nat) (x1 : Int32) (x2 : Int32) : Prop := kp 0 M a0 x1 x2 0 0
def pX9_together_5 (N K : Nat) (kp : Nat → gM → Nat → Int32 → Int32 → Int32 → Int32 → Prop) (R : Int32 → Prop) (M : gM) (a0 : Nat) (x1 : Int32) (x2 : Int32) (x3 : Int32) (x4 : Int32) : Prop := ((3 ≤ x4 → R x3) ∧ (¬ 3 ≤ x4 → (EX9_vertexOf M x1 x4 (g_mi M (a0 + 2) 35) (g_mi M (a0 + 2) 34)) ∧ ∀ v1 : Int32, v1 = (fX9_vertexOf x1 x4 (g_mi M (a0 + 2) 35) (g_mi M (a0 + 2) 34)) → (vp_in ((x2 + v1)) 5812) ∧ kp 0 M a0 x1 x2 (x3 + (g_mi M (a0 + 2) ((x2 + v1)).toNatClampNeg)) (x4 + 1)))
def qX9_together (N K : Nat) (R : Int32 → Prop) : Nat → Nat → gM → Nat → Int32 → Int32 → Int32 → Int32 → Prop
  | 0, _, _, _, _, _, _, _ => False
  | n + 1, _, M, a0, x1, x2, x3, x4 => pX9_together_5 N K (qX9_together N K R n) R M a0 x1 x2 x3 x4
def pX9_together (N K : Nat) (M : gM) (a0 : Nat) (x1 : Int32) (x2 : Int32) (R : Int32 → Prop) : Prop := pX9_together_0 N K (qX9_together N K R N) R M a0 x1 x2
def ULX9_together (X : gX) (d mc ms : Nat) (Q : Option Value → gM → Prop) (N K : Nat) (R : Int32 → Prop) (n : Nat) : Prop := (∀ (M : gM) (a0 : Nat) (x1 : Int32) (x2 : Int32) (x3 : Int32) (x4 : Int32), Mo M a0 → qX9_together N K R n 0 M a0 x1 x2 x3 x4 → (∀ (v : Int32), R v → Q (some (.int v)) M) → Go X (d + 1) mc ms kX9_together Q 5 [(0, .ref a0), (1, .int (x1)), (2, .int (x2)), (3, .int (x3)), (4, .int (x4))] [] M 0 0)
set_option maxRecDepth 10000 in
theorem ulX9_together {X : gX} {d mc ms : Nat} {Q : Option Value → gM → Prop} {N K : Nat} {R : Int32 → Prop} : ∀ n : Nat, ULX9_together X d mc ms Q N K R n := by
  intro n
  induction n with
  | zero => exact fun _ _ _ _ _ _ _ h _ => h.elim
  | succ n ih =>
    intro M a0 x1 x2 x3 x4 s0 H hR
    rw [qX9_together] at H
    unfold pX9_together_5 at H
    refine g_iload 4 7 dX9_together_5 rfl rfl ?_
    refine g_iconst (3) 8 dX9_together_7 rfl rfl ?_
    refine g_icmp_ge 47 11 dX9_together_8 rfl rfl (fun c1 => ?_) (fun c1 => ?_)
    · skip
      replace H := H.1 c1
      refine g_iload_n 3 48 dX9_together_47 rfl rfl ?_
      exact g_iret dX9_together_48 rfl (Nat.zero_le _) (Nat.zero_le _) (hR _ H)
    · skip
      replace H := H.2 c1
      refine g_iload_n 3 12 dX9_together_11 rfl rfl ?_
      refine g_aload_n 0 13 dX9_together_12 rfl rfl ?_
      refine g_getR 16 (a0 + 2) dX9_together_13 rfl flX9_28 s0.1 s0.2.2.2.1 ?_
      refine g_iload_n 2 17 dX9_together_16 rfl rfl ?_
      refine g_iload_n 1 18 dX9_together_17 rfl rfl ?_
      refine g_iload 4 20 dX9_together_18 rfl rfl ?_
      refine g_aload_n 0 21 dX9_together_20 rfl rfl ?_
      refine g_getR 24 (a0 + 2) dX9_together_21 rfl flX9_28 s0.1 s0.2.2.2.1 ?_
      refine g_bipush (35) 26 dX9_together_24 rfl rfl ?_
      refine h_iaload 27 35 dX9_together_26 rfl rfl s0.2.2.2.2.1 (vp_lit rfl) ?_
      refine g_aload_n 0 28 dX9_together_27 rfl rfl ?_
      refine g_getR 31 (a0 + 2) dX9_together_28 rfl flX9_28 s0.1 s0.2.2.2.1 ?_
      refine g_bipush (34) 33 dX9_together_31 rfl rfl ?_
      refine h_iaload 34 34 dX9_together_33 rfl rfl s0.2.2.2.2.1 (vp_lit rfl) ?_
      obtain ⟨b1, H⟩ := H
      refine g_callS (mc1 := 0) (ms1 := 0) (rest := [.int (x2), .ref (a0 + 2), .int (x3)]) (av := [.int (x1), .int (x4), .int ((g_mi M (a0 + 2) 35)), .int ((g_mi M (a0 + 2) 34))]) kX9_vertexOf 37 dX9_together_34 rfl rfl mbX9_115 smX9_vertexOf (Nat.le_of_ble_eq_true rfl) (Nat.zero_le _) (Nat.zero_le _) (tX9_vertexOf b1 ?_)
      show Go X (d + 1) mc ms kX9_together Q 37 [(0, .ref a0), (1, .int (x1)), (2, .int (x2)), (3, .int (x3)), (4, .int (x4))] [.int ((fX9_vertexOf x1 x4 (g_mi M (a0 + 2) 35) (g_mi M (a0 + 2) 34))), .int (x2), .ref (a0 + 2), .int (x3)] M 0 0
      generalize hv1 : (fX9_vertexOf x1 x4 (g_mi M (a0 + 2) 35) (g_mi M (a0 + 2) 34)) = v1
      replace H := H v1 hv1.symm
      refine g_iadd 38 dX9_together_37 rfl ?_
      obtain ⟨b2, H⟩ := H
      refine h_iaload 39 ((x2 + v1)).toNatClampNeg dX9_together_38 rfl rfl s0.2.2.2.2.1 b2 ?_
      refine g_iadd 40 dX9_together_39 rfl ?_
      refine g_istore_n 41 [(3, .int ((x3 + (g_mi M (a0 + 2) ((x2 + v1)).toNatClampNeg)))), (0, .ref a0), (1, .int (x1)), (2, .int (x2)), (4, .int (x4))] dX9_together_40 rfl (Nat.le_of_ble_eq_true rfl) rfl ?_
      refine g_iinc _ 4 44 [(4, .int ((x4 + 1))), (3, .int ((x3 + (g_mi M (a0 + 2) ((x2 + v1)).toNatClampNeg)))), (0, .ref a0), (1, .int (x1)), (2, .int (x2))] dX9_together_41 rfl rfl rfl (Nat.le_of_ble_eq_true rfl) rfl ?_
      refine g_goto 5 dX9_together_44 rfl ?_
      exact g_sub [2, 3, 4, 1, 0] _ rfl (ih M a0 x1 x2 (x3 + (g_mi M (a0 + 2) ((x2 + v1)).toNatClampNeg)) (x4 + 1) s0 H (fun v r => hR v r))
set_option maxRecDepth 10000 in
theorem uX9_together {N K : Nat} {X : gX} {d mc ms : Nat} {Q : Option Value → gM → Prop} {M : gM} {a0 : Nat} {x1 : Int32} {x2 : Int32} {R : Int32 → Prop} (s0 : Mo M a0) (H : pX9_together N K M a0 x1 x2 R) (hR : ∀ (v : Int32), R v → Q (some (.int v)) M) : Cn X (d + 1) mc ms kX9_together [.ref a0, .int (x1), .int (x2)] M Q := by
  have ih := ulX9_together (X := X) (d := d) (mc := mc) (ms := ms) (Q := Q) (N := N) (K := K) (R := R) N
  unfold pX9_together pX9_together_0 at H
  refine g_meth rfl rfl (Nat.le_of_ble_eq_true rfl) rfl ?_
  refine g_iconst (0) 1 dX9_together_0 rfl rfl ?_
  refine g_istore_n 2 [(3, .int (0)), (0, .ref a0), (1, .int (x1)), (2, .int (x2))] dX9_together_1 rfl (Nat.le_of_ble_eq_true rfl) rfl ?_
  refine g_iconst (0) 3 dX9_together_2 rfl rfl ?_
  refine g_istore 5 [(4, .int (0)), (3, .int (0)), (0, .ref a0), (1, .int (x1)), (2, .int (x2))] dX9_together_3 rfl (Nat.le_of_ble_eq_true rfl) rfl ?_
  exact g_sub [2, 3, 4, 1, 0] _ rfl (ih M a0 x1 x2 0 0 s0 H (fun v r => hR v r))
/-! X9_laysTable -/
def pX9_laysTable_0 (N K : Nat) (kp : Nat → gM → Nat → Int32 → Int32 → Int32 → Prop) (R : gM → Prop) (M : gM) (a0 : Nat) : Prop := ∀ M1 : gM, M1 = (g_wi M (a0 + 2) 33 1) → ∀ M2 : gM, M2 = (g_wi M1 (a0 + 2) 34 (g_mi M1 (a0 + 2) 31)) → ∀ M3 : gM, M3 = (g_wi M2 (a0 + 2) 35 (g_mi M2 (a0 + 2) 32)) → ∀ M4 : gM, M4 = (g_wi M3 (a0 + 2) 36 (g_mi M (a0 + 2) 0)) → kp 0 M4 a0 (g_mi M (a0 + 2) 0) 0 0
def pX9_laysTable_53 (N K : Nat) (kp : Nat → gM → Nat → Int32 → Int32 → Int32 → Prop) (R : gM → Prop) (M : gM) (a0 : Nat) (x1 : Int32) (x2 : Int32) : Prop := ((30 ≤ x2 → kp 1 M a0 x1 0 0) ∧ (¬ 30 ≤ x2 → ((x1 ≤ x2 → (vp_in ((37 + x2)) 5812) ∧ ∀ M1 : gM, M1 = (g_wi M (a0 + 2) ((37 + x2)).toNatClampNeg 0) → kp 0 M1 a0 x1 (x2 + 1) 0) ∧ (¬ x1 ≤ x2 → (EX9_keyAt M a0 x2) ∧ ∀ v1 : Int32, v1 = (fX9_keyAt M a0 x2) → (vp_in ((37 + x2)) 5812) ∧ ∀ M2 : gM, M2 = (g_wi M (a0 + 2) ((37 + x2)).toNatClampNeg v1) → kp 0 M2 a0 x1 (x2 + 1) 0))))
def pX9_laysTable_90 (N K : Nat) (kp : Nat → gM → Nat → Int32 → Int32 → Int32 → Prop) (R : gM → Prop) (M : gM) (a0 : Nat) (x1 : Int32) (x2 : Int32) : Prop := ((60 ≤ x2 → kp 2 M a0 x1 (x1 - 1) 0) ∧ (¬ 60 ≤ x2 → (vp_in ((67 + x2)) 5812) ∧ ∀ M1 : gM, M1 = (g_wi M (a0 + 2) ((67 + x2)).toNatClampNeg 3) → (vp_in ((127 + x2)) 5812) ∧ ∀ M2 : gM, M2 = (g_wi M1 (a0 + 2) ((127 + x2)).toNatClampNeg 0) → kp 1 M2 a0 x1 (x2 + 1) 0))
def pX9_laysTable_126 (N K : Nat) (kp : Nat → gM → Nat → Int32 → Int32 → Int32 → Prop) (R : gM → Prop) (M : gM) (a0 : Nat) (x1 : Int32) (x2 : Int32) : Prop := ((x2 < 0 → R M) ∧ (¬ x2 < 0 → (vp_in (x2) 30) ∧ (vp_in ((67 + (g_mi M (a0 + 14) (x2).toNatClampNeg))) 5812) ∧ ∀ M1 : gM, M1 = (g_wi M (a0 + 2) ((67 + (g_mi M (a0 + 14) (x2).toNatClampNeg))).toNatClampNeg 0) → kp 3 M1 a0 x1 x2 (g_mi M (a0 + 14) (x2).toNatClampNeg)))
def pX9_laysTable_147 (N K : Nat) (kp : Nat → gM → Nat → Int32 → Int32 → Int32 → Prop) (R : gM → Prop) (M : gM) (a0 : Nat) (x1 : Int32) (x2 : Int32) (x3 : Int32) : Prop := (vp_in (x2) 30) ∧ pX9_together N K M a0 (g_mi M (a0 + 13) (x2).toNatClampNeg) 67 (fun v1 => (¬ ((g_mi M (a0 + 2) 31) : Int32) = 0) ∧ (((i_rm v1 3) = (x3 / (g_mi M (a0 + 2) 31)) → kp 4 M a0 x1 x2 x3) ∧ (¬ (i_rm v1 3) = (x3 / (g_mi M (a0 + 2) 31)) → (vp_in ((67 + x3)) 5812) ∧ ∀ M1 : gM, M1 = (g_wi M (a0 + 2) ((67 + x3)).toNatClampNeg ((g_mi M (a0 + 2) ((67 + x3)).toNatClampNeg) + 1)) → kp 3 M1 a0 x1 x2 x3)))
def pX9_laysTable_189 (N K : Nat) (kp : Nat → gM → Nat → Int32 → Int32 → Int32 → Prop) (R : gM → Prop) (M : gM) (a0 : Nat) (x1 : Int32) (x2 : Int32) (x3 : Int32) : Prop := (vp_in (x2) 30) ∧ pX9_together N K M a0 (g_mi M (a0 + 13) (x2).toNatClampNeg) 127 (fun v1 => (¬ (x1 : Int32) = 0) ∧ (EX9_lowerMany N M a0 (g_mi M (a0 + 13) (x2).toNatClampNeg)) ∧ ∀ v2 : Int32, v2 = (fX9_lowerMany N M a0 (g_mi M (a0 + 13) (x2).toNatClampNeg)) → (((i_rm v1 x1) = v2 → kp 2 M a0 x1 (x2 + (-1)) 0) ∧ (¬ (i_rm v1 x1) = v2 → (vp_in ((127 + x3)) 5812) ∧ ∀ M1 : gM, M1 = (g_wi M (a0 + 2) ((127 + x3)).toNatClampNeg ((g_mi M (a0 + 2) ((127 + x3)).toNatClampNeg) + 1)) → kp 4 M1 a0 x1 x2 x3)))
def qX9_laysTable (N K : Nat) (R : gM → Prop) : Nat → Nat → gM → Nat → Int32 → Int32 → Int32 → Prop
  | 0, _, _, _, _, _, _ => False
  | n + 1, h, M, a0, x1, x2, x3 => if h = 0 then pX9_laysTable_53 N K (qX9_laysTable N K R n) R M a0 x1 x2 else if h = 1 then pX9_laysTable_90 N K (qX9_laysTable N K R n) R M a0 x1 x2 else if h = 2 then pX9_laysTable_126 N K (qX9_laysTable N K R n) R M a0 x1 x2 else if h = 3 then pX9_laysTable_147 N K (qX9_laysTable N K R n) R M a0 x1 x2 x3 else pX9_laysTable_189 N K (qX9_laysTable N K R n) R M a0 x1 x2 x3
def pX9_laysTable (N K : Nat) (M : gM) (a0 : Nat) (R : gM → Prop) : Prop := pX9_laysTable_0 N K (qX9_laysTable N K R N) R M a0
def ULX9_laysTable (X : gX) (d mc ms : Nat) (Q : Option Value → gM → Prop) (N K : Nat) (R : gM → Prop) (n : Nat) : Prop := (∀ (M : gM) (a0 : Nat) (x1 : Int32) (x2 : Int32) (x3 : Int32), Mo M a0 → qX9_laysTable N K R n 0 M a0 x1 x2 x3 → (∀ (M1 : gM), Sm M M1 → R M1 → Q none M1) → Go X (d + 2) mc ms kX9_laysTable Q 53 [(0, .ref a0), (1, .int (x1)), (2, .int (x2))] [] M 0 0) ∧ (∀ (M : gM) (a0 : Nat) (x1 : Int32) (x2 : Int32) (x3 : Int32), Mo M a0 → qX9_laysTable N K R n 1 M a0 x1 x2 x3 → (∀ (M1 : gM), Sm M M1 → R M1 → Q none M1) → Go X (d + 2) mc ms kX9_laysTable Q 90 [(0, .ref a0), (1, .int (x1)), (2, .int (x2))] [] M 0 0) ∧ (∀ (M : gM) (a0 : Nat) (x1 : Int32) (x2 : Int32) (x3 : Int32), Mo M a0 → qX9_laysTable N K R n 2 M a0 x1 x2 x3 → (∀ (M1 : gM), Sm M M1 → R M1 → Q none M1) → Go X (d + 2) mc ms kX9_laysTable Q 126 [(0, .ref a0), (1, .int (x1)), (2, .int (x2))] [] M 0 0) ∧ (∀ (M : gM) (a0 : Nat) (x1 : Int32) (x2 : Int32) (x3 : Int32), Mo M a0 → qX9_laysTable N K R n 3 M a0 x1 x2 x3 → (∀ (M1 : gM), Sm M M1 → R M1 → Q none M1) → Go X (d + 2) mc ms kX9_laysTable Q 147 [(0, .ref a0), (1, .int (x1)), (2, .int (x2)), (3, .int (x3))] [] M 0 0) ∧ (∀ (M : gM) (a0 : Nat) (x1 : Int32) (x2 : Int32) (x3 : Int32), Mo M a0 → qX9_laysTable N K R n 4 M a0 x1 x2 x3 → (∀ (M1 : gM), Sm M M1 → R M1 → Q none M1) → Go X (d + 2) mc ms kX9_laysTable Q 189 [(0, .ref a0), (1, .int (x1)), (2, .int (x2)), (3, .int (x3))] [] M 0 0)
set_option maxRecDepth 10000 in
theorem ulX9_laysTable {X : gX} {d mc ms : Nat} {Q : Option Value → gM → Prop} {N K : Nat} {R : gM → Prop} : ∀ n : Nat, ULX9_laysTable X d mc ms Q N K R n := by
  intro n
  induction n with
  | zero => exact ⟨fun _ _ _ _ _ _ h _ => h.elim, fun _ _ _ _ _ _ h _ => h.elim, fun _ _ _ _ _ _ h _ => h.elim, fun _ _ _ _ _ _ h _ => h.elim, fun _ _ _ _ _ _ h _ => h.elim⟩
  | succ n ih =>
    refine ⟨?_, ?_, ?_, ?_, ?_⟩
    · intro M a0 x1 x2 x3 s0 H hR
      rw [qX9_laysTable, if_pos (show (0 : Nat) = 0 from rfl)] at H
      unfold pX9_laysTable_53 at H
      refine g_iload_n 2 54 dX9_laysTable_53 rfl rfl ?_
      refine g_bipush (30) 56 dX9_laysTable_54 rfl rfl ?_
      refine g_icmp_ge 88 59 dX9_laysTable_56 rfl rfl (fun c1 => ?_) (fun c1 => ?_)
      · skip
        replace H := H.1 c1
        refine g_iconst (0) 89 dX9_laysTable_88 rfl rfl ?_
        refine g_istore_n 90 [(2, .int (0)), (0, .ref a0), (1, .int (x1))] dX9_laysTable_89 rfl (Nat.le_of_ble_eq_true rfl) rfl ?_
        exact g_sub [1, 2, 0] _ rfl (ih.2.1 M a0 x1 0 0 s0 H (fun M1 j r => hR M1 j r))
      · skip
        replace H := H.2 c1
        refine g_aload_n 0 60 dX9_laysTable_59 rfl rfl ?_
        refine g_getR 63 (a0 + 2) dX9_laysTable_60 rfl flX9_28 s0.1 s0.2.2.2.1 ?_
        refine g_bipush (37) 65 dX9_laysTable_63 rfl rfl ?_
        refine g_iload_n 2 66 dX9_laysTable_65 rfl rfl ?_
        refine g_iadd 67 dX9_laysTable_66 rfl ?_
        refine g_iload_n 2 68 dX9_laysTable_67 rfl rfl ?_
        refine g_iload_n 1 69 dX9_laysTable_68 rfl rfl ?_
        refine g_icmp_ge 80 72 dX9_laysTable_69 rfl rfl (fun c2 => ?_) (fun c2 => ?_)
        · skip
          replace H := H.1 c2
          refine g_iconst (0) 81 dX9_laysTable_80 rfl rfl ?_
          obtain ⟨b1, H⟩ := H
          refine h_iastore 82 ((37 + x2)).toNatClampNeg dX9_laysTable_81 rfl rfl s0.2.2.2.2.1 b1 ?_
          generalize hM1 : (g_wi M (a0 + 2) ((37 + x2)).toNatClampNeg 0) = M1
          have j1 : Sm M M1 := by rw [← hM1]; exact (Sm.wi Sm.rf)
          replace H := H M1 hM1.symm
          refine g_iinc _ 2 85 [(2, .int ((x2 + 1))), (0, .ref a0), (1, .int (x1))] dX9_laysTable_82 rfl rfl rfl (Nat.le_of_ble_eq_true rfl) rfl ?_
          refine g_goto 53 dX9_laysTable_85 rfl ?_
          exact g_sub [1, 2, 0] _ rfl (ih.1 M1 a0 x1 (x2 + 1) 0 (Mo.sm j1 s0) H (fun M1 j r => hR M1 (Sm.tr j1 j) r))
        · skip
          replace H := H.2 c2
          refine g_aload_n 0 73 dX9_laysTable_72 rfl rfl ?_
          refine g_iload_n 2 74 dX9_laysTable_73 rfl rfl ?_
          obtain ⟨b2, H⟩ := H
          refine g_callV (mc1 := 0) (ms1 := 0) (b := a0) (rest := [.int ((37 + x2)), .ref (a0 + 2)]) (av := [.int (x2)]) kX9_keyAt 77 dX9_laysTable_74 rfl rfl mbX9_109 imX9_keyAt seX9_keyAt gcl9.1 s0.1 (Nat.le_of_ble_eq_true rfl) (Nat.zero_le _) (Nat.zero_le _) (tX9_keyAt s0 b2 ?_)
          show Go X (d + 2) mc ms kX9_laysTable Q 77 [(0, .ref a0), (1, .int (x1)), (2, .int (x2))] [.int ((fX9_keyAt M a0 x2)), .int ((37 + x2)), .ref (a0 + 2)] M 0 0
          generalize hv1 : (fX9_keyAt M a0 x2) = v1
          replace H := H v1 hv1.symm
          refine g_goto 81 dX9_laysTable_77 rfl ?_
          obtain ⟨b3, H⟩ := H
          refine h_iastore 82 ((37 + x2)).toNatClampNeg dX9_laysTable_81 rfl rfl s0.2.2.2.2.1 b3 ?_
          generalize hM2 : (g_wi M (a0 + 2) ((37 + x2)).toNatClampNeg v1) = M2
          have j2 : Sm M M2 := by rw [← hM2]; exact (Sm.wi Sm.rf)
          replace H := H M2 hM2.symm
          refine g_iinc _ 2 85 [(2, .int ((x2 + 1))), (0, .ref a0), (1, .int (x1))] dX9_laysTable_82 rfl rfl rfl (Nat.le_of_ble_eq_true rfl) rfl ?_
          refine g_goto 53 dX9_laysTable_85 rfl ?_
          exact g_sub [1, 2, 0] _ rfl (ih.1 M2 a0 x1 (x2 + 1) 0 (Mo.sm j2 s0) H (fun M1 j r => hR M1 (Sm.tr j2 j) r))
    · intro M a0 x1 x2 x3 s0 H hR
      rw [qX9_laysTable, if_neg (show ¬ (1 : Nat) = 0 by decide), if_pos (show (1 : Nat) = 1 from rfl)] at H
      unfold pX9_laysTable_90 at H
      refine g_iload_n 2 91 dX9_laysTable_90 rfl rfl ?_
      refine g_bipush (60) 93 dX9_laysTable_91 rfl rfl ?_
      refine g_icmp_ge 122 96 dX9_laysTable_93 rfl rfl (fun c1 => ?_) (fun c1 => ?_)
      · skip
        replace H := H.1 c1
        refine g_iload_n 1 123 dX9_laysTable_122 rfl rfl ?_
        refine g_iconst (1) 124 dX9_laysTable_123 rfl rfl ?_
        refine g_isub 125 dX9_laysTable_124 rfl ?_
        refine g_istore_n 126 [(2, .int ((x1 - 1))), (0, .ref a0), (1, .int (x1))] dX9_laysTable_125 rfl (Nat.le_of_ble_eq_true rfl) rfl ?_
        exact g_sub [1, 2, 0] _ rfl (ih.2.2.1 M a0 x1 (x1 - 1) 0 s0 H (fun M1 j r => hR M1 j r))
      · skip
        replace H := H.2 c1
        refine g_aload_n 0 97 dX9_laysTable_96 rfl rfl ?_
        refine g_getR 100 (a0 + 2) dX9_laysTable_97 rfl flX9_28 s0.1 s0.2.2.2.1 ?_
        refine g_bipush (67) 102 dX9_laysTable_100 rfl rfl ?_
        refine g_iload_n 2 103 dX9_laysTable_102 rfl rfl ?_
        refine g_iadd 104 dX9_laysTable_103 rfl ?_
        refine g_iconst (3) 105 dX9_laysTable_104 rfl rfl ?_
        obtain ⟨b1, H⟩ := H
        refine h_iastore 106 ((67 + x2)).toNatClampNeg dX9_laysTable_105 rfl rfl s0.2.2.2.2.1 b1 ?_
        generalize hM1 : (g_wi M (a0 + 2) ((67 + x2)).toNatClampNeg 3) = M1
        have j1 : Sm M M1 := by rw [← hM1]; exact (Sm.wi Sm.rf)
        replace H := H M1 hM1.symm
        refine g_aload_n 0 107 dX9_laysTable_106 rfl rfl ?_
        refine g_getR 110 (a0 + 2) dX9_laysTable_107 rfl flX9_28 (Sm.k j1 s0.1) (Sm.r j1 s0.2.2.2.1) ?_
        refine g_bipush (127) 112 dX9_laysTable_110 rfl rfl ?_
        refine g_iload_n 2 113 dX9_laysTable_112 rfl rfl ?_
        refine g_iadd 114 dX9_laysTable_113 rfl ?_
        refine g_iconst (0) 115 dX9_laysTable_114 rfl rfl ?_
        obtain ⟨b2, H⟩ := H
        refine h_iastore 116 ((127 + x2)).toNatClampNeg dX9_laysTable_115 rfl rfl (Sm.k j1 s0.2.2.2.2.1) b2 ?_
        generalize hM2 : (g_wi M1 (a0 + 2) ((127 + x2)).toNatClampNeg 0) = M2
        have j2 : Sm M M2 := by rw [← hM2]; exact (Sm.wi j1)
        replace H := H M2 hM2.symm
        refine g_iinc _ 2 119 [(2, .int ((x2 + 1))), (0, .ref a0), (1, .int (x1))] dX9_laysTable_116 rfl rfl rfl (Nat.le_of_ble_eq_true rfl) rfl ?_
        refine g_goto 90 dX9_laysTable_119 rfl ?_
        exact g_sub [1, 2, 0] _ rfl (ih.2.1 M2 a0 x1 (x2 + 1) 0 (Mo.sm j2 s0) H (fun M1 j r => hR M1 (Sm.tr j2 j) r))
    · intro M a0 x1 x2 x3 s0 H hR
      rw [qX9_laysTable, if_neg (show ¬ (2 : Nat) = 0 by decide), if_neg (show ¬ (2 : Nat) = 1 by decide), if_pos (show (2 : Nat) = 2 from rfl)] at H
      unfold pX9_laysTable_126 at H
      refine g_iload_n 2 127 dX9_laysTable_126 rfl rfl ?_
      refine g_if_lt 238 130 dX9_laysTable_127 rfl rfl (fun c1 => ?_) (fun c1 => ?_)
      · skip
        replace H := H.1 c1
        exact g_vret dX9_laysTable_238 rfl (Nat.zero_le _) (Nat.zero_le _) (hR _ Sm.rf H)
      · skip
        replace H := H.2 c1
        refine g_aload_n 0 131 dX9_laysTable_130 rfl rfl ?_
        refine g_getR 134 (a0 + 14) dX9_laysTable_131 rfl flX9_69 s0.1 s0.2.2.2.2.2.2.2.2.2.2.2.2.2.2.2.2.2.2.2.2.2.2.2.2.2.2.2.1 ?_
        refine g_iload_n 2 135 dX9_laysTable_134 rfl rfl ?_
        obtain ⟨b1, H⟩ := H
        refine h_iaload 136 (x2).toNatClampNeg dX9_laysTable_135 rfl rfl s0.2.2.2.2.2.2.2.2.2.2.2.2.2.2.2.2.2.2.2.2.2.2.2.2.2.2.2.2.1 b1 ?_
        refine g_istore_n 137 [(3, .int ((g_mi M (a0 + 14) (x2).toNatClampNeg))), (0, .ref a0), (1, .int (x1)), (2, .int (x2))] dX9_laysTable_136 rfl (Nat.le_of_ble_eq_true rfl) rfl ?_
        refine g_aload_n 1 138 dX9_laysTable_137 rfl rfl ?_
        refine g_getR 141 (a0 + 2) dX9_laysTable_138 rfl flX9_28 s0.1 s0.2.2.2.1 ?_
        refine g_bipush (67) 143 dX9_laysTable_141 rfl rfl ?_
        refine g_iload_n 0 144 dX9_laysTable_143 rfl rfl ?_
        refine g_iadd 145 dX9_laysTable_144 rfl ?_
        refine g_iconst (0) 146 dX9_laysTable_145 rfl rfl ?_
        obtain ⟨b2, H⟩ := H
        refine h_iastore 147 ((67 + (g_mi M (a0 + 14) (x2).toNatClampNeg))).toNatClampNeg dX9_laysTable_146 rfl rfl s0.2.2.2.2.1 b2 ?_
        generalize hM1 : (g_wi M (a0 + 2) ((67 + (g_mi M (a0 + 14) (x2).toNatClampNeg))).toNatClampNeg 0) = M1
        have j1 : Sm M M1 := by rw [← hM1]; exact (Sm.wi Sm.rf)
        replace H := H M1 hM1.symm
        exact g_sub [1, 2, 3, 0] _ rfl (ih.2.2.2.1 M1 a0 x1 x2 (g_mi M (a0 + 14) (x2).toNatClampNeg) (Mo.sm j1 s0) H (fun M1 j r => hR M1 (Sm.tr j1 j) r))
    · intro M a0 x1 x2 x3 s0 H hR
      rw [qX9_laysTable, if_neg (show ¬ (3 : Nat) = 0 by decide), if_neg (show ¬ (3 : Nat) = 1 by decide), if_neg (show ¬ (3 : Nat) = 2 by decide), if_pos (show (3 : Nat) = 3 from rfl)] at H
      unfold pX9_laysTable_147 at H
      refine g_aload_n 0 148 dX9_laysTable_147 rfl rfl ?_
      refine g_aload_n 0 149 dX9_laysTable_148 rfl rfl ?_
      refine g_getR 152 (a0 + 13) dX9_laysTable_149 rfl flX9_66 s0.1 s0.2.2.2.2.2.2.2.2.2.2.2.2.2.2.2.2.2.2.2.2.2.2.2.2.2.1 ?_
      refine g_iload_n 2 153 dX9_laysTable_152 rfl rfl ?_
      obtain ⟨b1, H⟩ := H
      refine h_iaload 154 (x2).toNatClampNeg dX9_laysTable_153 rfl rfl s0.2.2.2.2.2.2.2.2.2.2.2.2.2.2.2.2.2.2.2.2.2.2.2.2.2.2.1 b1 ?_
      refine g_bipush (67) 156 dX9_laysTable_154 rfl rfl ?_
      refine g_callV (mc1 := 0) (ms1 := 0) (b := a0) (rest := []) (av := [.int ((g_mi M (a0 + 13) (x2).toNatClampNeg)), .int (67)]) kX9_together 159 dX9_laysTable_156 rfl rfl mbX9_350 imX9_together seX9_together gcl9.1 s0.1 (Nat.le_of_ble_eq_true rfl) (Nat.zero_le _) (Nat.zero_le _) (uX9_together (N := N) (K := K) s0 H (fun v1 H => ?_))
      show Go X (d + 2) mc ms kX9_laysTable Q 159 [(0, .ref a0), (1, .int (x1)), (2, .int (x2)), (3, .int (x3))] [.int (v1)] M 0 0
      refine g_iconst (3) 160 dX9_laysTable_159 rfl rfl ?_
      refine h_irem 161 dX9_laysTable_160 rfl (by decide) ?_
      refine g_iload_n 3 162 dX9_laysTable_161 rfl rfl ?_
      refine g_aload_n 0 163 dX9_laysTable_162 rfl rfl ?_
      refine g_getR 166 (a0 + 2) dX9_laysTable_163 rfl flX9_28 s0.1 s0.2.2.2.1 ?_
      refine g_bipush (31) 168 dX9_laysTable_166 rfl rfl ?_
      refine h_iaload 169 31 dX9_laysTable_168 rfl rfl s0.2.2.2.2.1 (vp_lit rfl) ?_
      obtain ⟨b2, H⟩ := H
      refine g_idiv 170 dX9_laysTable_169 rfl b2 ?_
      refine g_icmp_eq 189 173 dX9_laysTable_170 rfl rfl (fun c1 => ?_) (fun c1 => ?_)
      · skip
        replace H := H.1 c1
        exact ih.2.2.2.2 M a0 x1 x2 x3 s0 H (fun M1 j r => hR M1 j r)
      · skip
        replace H := H.2 c1
        refine g_aload_n 0 174 dX9_laysTable_173 rfl rfl ?_
        refine g_getR 177 (a0 + 2) dX9_laysTable_174 rfl flX9_28 s0.1 s0.2.2.2.1 ?_
        refine g_bipush (67) 179 dX9_laysTable_177 rfl rfl ?_
        refine g_iload_n 3 180 dX9_laysTable_179 rfl rfl ?_
        refine g_iadd 181 dX9_laysTable_180 rfl ?_
        refine g_dup2 182 dX9_laysTable_181 rfl rfl rfl ?_
        obtain ⟨b3, H⟩ := H
        refine h_iaload 183 ((67 + x3)).toNatClampNeg dX9_laysTable_182 rfl rfl s0.2.2.2.2.1 b3 ?_
        refine g_iconst (1) 184 dX9_laysTable_183 rfl rfl ?_
        refine g_iadd 185 dX9_laysTable_184 rfl ?_
        refine h_iastore 186 ((67 + x3)).toNatClampNeg dX9_laysTable_185 rfl rfl s0.2.2.2.2.1 b3 ?_
        generalize hM1 : (g_wi M (a0 + 2) ((67 + x3)).toNatClampNeg ((g_mi M (a0 + 2) ((67 + x3)).toNatClampNeg) + 1)) = M1
        have j1 : Sm M M1 := by rw [← hM1]; exact (Sm.wi Sm.rf)
        replace H := H M1 hM1.symm
        refine g_goto 147 dX9_laysTable_186 rfl ?_
        exact ih.2.2.2.1 M1 a0 x1 x2 x3 (Mo.sm j1 s0) H (fun M1 j r => hR M1 (Sm.tr j1 j) r)
    · intro M a0 x1 x2 x3 s0 H hR
      rw [qX9_laysTable, if_neg (show ¬ (4 : Nat) = 0 by decide), if_neg (show ¬ (4 : Nat) = 1 by decide), if_neg (show ¬ (4 : Nat) = 2 by decide), if_neg (show ¬ (4 : Nat) = 3 by decide)] at H
      unfold pX9_laysTable_189 at H
      refine g_aload_n 0 190 dX9_laysTable_189 rfl rfl ?_
      refine g_aload_n 0 191 dX9_laysTable_190 rfl rfl ?_
      refine g_getR 194 (a0 + 13) dX9_laysTable_191 rfl flX9_66 s0.1 s0.2.2.2.2.2.2.2.2.2.2.2.2.2.2.2.2.2.2.2.2.2.2.2.2.2.1 ?_
      refine g_iload_n 2 195 dX9_laysTable_194 rfl rfl ?_
      obtain ⟨b1, H⟩ := H
      refine h_iaload 196 (x2).toNatClampNeg dX9_laysTable_195 rfl rfl s0.2.2.2.2.2.2.2.2.2.2.2.2.2.2.2.2.2.2.2.2.2.2.2.2.2.2.1 b1 ?_
      refine g_bipush (127) 198 dX9_laysTable_196 rfl rfl ?_
      refine g_callV (mc1 := 0) (ms1 := 0) (b := a0) (rest := []) (av := [.int ((g_mi M (a0 + 13) (x2).toNatClampNeg)), .int (127)]) kX9_together 201 dX9_laysTable_198 rfl rfl mbX9_350 imX9_together seX9_together gcl9.1 s0.1 (Nat.le_of_ble_eq_true rfl) (Nat.zero_le _) (Nat.zero_le _) (uX9_together (N := N) (K := K) s0 H (fun v1 H => ?_))
      show Go X (d + 2) mc ms kX9_laysTable Q 201 [(0, .ref a0), (1, .int (x1)), (2, .int (x2)), (3, .int (x3))] [.int (v1)] M 0 0
      refine g_iload_n 1 202 dX9_laysTable_201 rfl rfl ?_
      obtain ⟨b2, H⟩ := H
      refine h_irem 203 dX9_laysTable_202 rfl b2 ?_
      refine g_aload_n 0 204 dX9_laysTable_203 rfl rfl ?_
      refine g_aload_n 0 205 dX9_laysTable_204 rfl rfl ?_
      refine g_getR 208 (a0 + 13) dX9_laysTable_205 rfl flX9_66 s0.1 s0.2.2.2.2.2.2.2.2.2.2.2.2.2.2.2.2.2.2.2.2.2.2.2.2.2.1 ?_
      refine g_iload_n 2 209 dX9_laysTable_208 rfl rfl ?_
      refine h_iaload 210 (x2).toNatClampNeg dX9_laysTable_209 rfl rfl s0.2.2.2.2.2.2.2.2.2.2.2.2.2.2.2.2.2.2.2.2.2.2.2.2.2.2.1 b1 ?_
      obtain ⟨b3, H⟩ := H
      refine g_callV (mc1 := 0) (ms1 := 0) (b := a0) (rest := [.int ((i_rm v1 x1))]) (av := [.int ((g_mi M (a0 + 13) (x2).toNatClampNeg))]) kX9_lowerMany 213 dX9_laysTable_210 rfl rfl mbX9_112 imX9_lowerMany seX9_lowerMany gcl9.1 s0.1 (Nat.le_of_ble_eq_true rfl) (Nat.zero_le _) (Nat.zero_le _) (tX9_lowerMany (N := N) s0 b3 ?_)
      show Go X (d + 2) mc ms kX9_laysTable Q 213 [(0, .ref a0), (1, .int (x1)), (2, .int (x2)), (3, .int (x3))] [.int ((fX9_lowerMany N M a0 (g_mi M (a0 + 13) (x2).toNatClampNeg))), .int ((i_rm v1 x1))] M 0 0
      generalize hv2 : (fX9_lowerMany N M a0 (g_mi M (a0 + 13) (x2).toNatClampNeg)) = v2
      replace H := H v2 hv2.symm
      refine g_icmp_eq 232 216 dX9_laysTable_213 rfl rfl (fun c1 => ?_) (fun c1 => ?_)
      · skip
        replace H := H.1 c1
        refine g_iinc _ 2 235 [(2, .int ((x2 + (-1)))), (0, .ref a0), (1, .int (x1)), (3, .int (x3))] dX9_laysTable_232 rfl rfl rfl (Nat.le_of_ble_eq_true rfl) rfl ?_
        refine g_goto 126 dX9_laysTable_235 rfl ?_
        exact g_sub [1, 2, 0] _ rfl (ih.2.2.1 M a0 x1 (x2 + (-1)) 0 s0 H (fun M1 j r => hR M1 j r))
      · skip
        replace H := H.2 c1
        refine g_aload_n 0 217 dX9_laysTable_216 rfl rfl ?_
        refine g_getR 220 (a0 + 2) dX9_laysTable_217 rfl flX9_28 s0.1 s0.2.2.2.1 ?_
        refine g_bipush (127) 222 dX9_laysTable_220 rfl rfl ?_
        refine g_iload_n 3 223 dX9_laysTable_222 rfl rfl ?_
        refine g_iadd 224 dX9_laysTable_223 rfl ?_
        refine g_dup2 225 dX9_laysTable_224 rfl rfl rfl ?_
        obtain ⟨b4, H⟩ := H
        refine h_iaload 226 ((127 + x3)).toNatClampNeg dX9_laysTable_225 rfl rfl s0.2.2.2.2.1 b4 ?_
        refine g_iconst (1) 227 dX9_laysTable_226 rfl rfl ?_
        refine g_iadd 228 dX9_laysTable_227 rfl ?_
        refine h_iastore 229 ((127 + x3)).toNatClampNeg dX9_laysTable_228 rfl rfl s0.2.2.2.2.1 b4 ?_
        generalize hM1 : (g_wi M (a0 + 2) ((127 + x3)).toNatClampNeg ((g_mi M (a0 + 2) ((127 + x3)).toNatClampNeg) + 1)) = M1
        have j1 : Sm M M1 := by rw [← hM1]; exact (Sm.wi Sm.rf)
        replace H := H M1 hM1.symm
        refine g_goto 189 dX9_laysTable_229 rfl ?_
        exact ih.2.2.2.2 M1 a0 x1 x2 x3 (Mo.sm j1 s0) H (fun M1 j r => hR M1 (Sm.tr j1 j) r)
set_option maxRecDepth 10000 in
theorem uX9_laysTable {N K : Nat} {X : gX} {d mc ms : Nat} {Q : Option Value → gM → Prop} {M : gM} {a0 : Nat} {R : gM → Prop} (s0 : Mo M a0) (H : pX9_laysTable N K M a0 R) (hR : ∀ (M1 : gM), Sm M M1 → R M1 → Q none M1) : Cn X (d + 2) mc ms kX9_laysTable [.ref a0] M Q := by
  have ih := ulX9_laysTable (X := X) (d := d) (mc := mc) (ms := ms) (Q := Q) (N := N) (K := K) (R := R) N
  unfold pX9_laysTable pX9_laysTable_0 at H
  refine g_meth rfl rfl (Nat.le_of_ble_eq_true rfl) rfl ?_
  refine g_aload_n 0 1 dX9_laysTable_0 rfl rfl ?_
  refine g_getR 4 (a0 + 2) dX9_laysTable_1 rfl flX9_28 s0.1 s0.2.2.2.1 ?_
  refine g_iconst (0) 5 dX9_laysTable_4 rfl rfl ?_
  refine h_iaload 6 0 dX9_laysTable_5 rfl rfl s0.2.2.2.2.1 (vp_lit rfl) ?_
  refine g_istore_n 7 [(1, .int ((g_mi M (a0 + 2) 0))), (0, .ref a0)] dX9_laysTable_6 rfl (Nat.le_of_ble_eq_true rfl) rfl ?_
  refine g_aload_n 1 8 dX9_laysTable_7 rfl rfl ?_
  refine g_getR 11 (a0 + 2) dX9_laysTable_8 rfl flX9_28 s0.1 s0.2.2.2.1 ?_
  refine g_bipush (33) 13 dX9_laysTable_11 rfl rfl ?_
  refine g_iconst (1) 14 dX9_laysTable_13 rfl rfl ?_
  refine h_iastore 15 33 dX9_laysTable_14 rfl rfl s0.2.2.2.2.1 (vp_lit rfl) ?_
  generalize hM1 : (g_wi M (a0 + 2) 33 1) = M1
  have j1 : Sm M M1 := by rw [← hM1]; exact (Sm.wi Sm.rf)
  replace H := H M1 hM1.symm
  refine g_aload_n 1 16 dX9_laysTable_15 rfl rfl ?_
  refine g_getR 19 (a0 + 2) dX9_laysTable_16 rfl flX9_28 (Sm.k j1 s0.1) (Sm.r j1 s0.2.2.2.1) ?_
  refine g_bipush (34) 21 dX9_laysTable_19 rfl rfl ?_
  refine g_aload_n 1 22 dX9_laysTable_21 rfl rfl ?_
  refine g_getR 25 (a0 + 2) dX9_laysTable_22 rfl flX9_28 (Sm.k j1 s0.1) (Sm.r j1 s0.2.2.2.1) ?_
  refine g_bipush (31) 27 dX9_laysTable_25 rfl rfl ?_
  refine h_iaload 28 31 dX9_laysTable_27 rfl rfl (Sm.k j1 s0.2.2.2.2.1) (vp_lit rfl) ?_
  refine h_iastore 29 34 dX9_laysTable_28 rfl rfl (Sm.k j1 s0.2.2.2.2.1) (vp_lit rfl) ?_
  generalize hM2 : (g_wi M1 (a0 + 2) 34 (g_mi M1 (a0 + 2) 31)) = M2
  have j2 : Sm M M2 := by rw [← hM2]; exact (Sm.wi j1)
  replace H := H M2 hM2.symm
  refine g_aload_n 1 30 dX9_laysTable_29 rfl rfl ?_
  refine g_getR 33 (a0 + 2) dX9_laysTable_30 rfl flX9_28 (Sm.k j2 s0.1) (Sm.r j2 s0.2.2.2.1) ?_
  refine g_bipush (35) 35 dX9_laysTable_33 rfl rfl ?_
  refine g_aload_n 1 36 dX9_laysTable_35 rfl rfl ?_
  refine g_getR 39 (a0 + 2) dX9_laysTable_36 rfl flX9_28 (Sm.k j2 s0.1) (Sm.r j2 s0.2.2.2.1) ?_
  refine g_bipush (32) 41 dX9_laysTable_39 rfl rfl ?_
  refine h_iaload 42 32 dX9_laysTable_41 rfl rfl (Sm.k j2 s0.2.2.2.2.1) (vp_lit rfl) ?_
  refine h_iastore 43 35 dX9_laysTable_42 rfl rfl (Sm.k j2 s0.2.2.2.2.1) (vp_lit rfl) ?_
  generalize hM3 : (g_wi M2 (a0 + 2) 35 (g_mi M2 (a0 + 2) 32)) = M3
  have j3 : Sm M M3 := by rw [← hM3]; exact (Sm.wi j2)
  replace H := H M3 hM3.symm
  refine g_aload_n 1 44 dX9_laysTable_43 rfl rfl ?_
  refine g_getR 47 (a0 + 2) dX9_laysTable_44 rfl flX9_28 (Sm.k j3 s0.1) (Sm.r j3 s0.2.2.2.1) ?_
  refine g_bipush (36) 49 dX9_laysTable_47 rfl rfl ?_
  refine g_iload_n 0 50 dX9_laysTable_49 rfl rfl ?_
  refine h_iastore 51 36 dX9_laysTable_50 rfl rfl (Sm.k j3 s0.2.2.2.2.1) (vp_lit rfl) ?_
  generalize hM4 : (g_wi M3 (a0 + 2) 36 (g_mi M (a0 + 2) 0)) = M4
  have j4 : Sm M M4 := by rw [← hM4]; exact (Sm.wi j3)
  replace H := H M4 hM4.symm
  refine g_iconst (0) 52 dX9_laysTable_51 rfl rfl ?_
  refine g_istore_n 53 [(2, .int (0)), (1, .int ((g_mi M (a0 + 2) 0))), (0, .ref a0)] dX9_laysTable_52 rfl (Nat.le_of_ble_eq_true rfl) rfl ?_
  exact g_sub [2, 1, 0] _ rfl (ih.1 M4 a0 (g_mi M (a0 + 2) 0) 0 0 (Mo.sm j4 s0) H (fun M1 j r => hR M1 (Sm.tr j4 j) r))
/-! X9_keptOr -/
def pX9_keptOr_0 (N K : Nat) (kp : Nat → gM → Nat → Int32 → Int32 → Int32 → Int32 → Prop) (R : Int32 → gM → Prop) (M : gM) (a0 : Nat) (x1 : Int32) (x2 : Int32) : Prop := ((0 ≤ x2 → ((¬ (g_mi M a0 38) = 16 → kp 1 M a0 x1 x2 189 0) ∧ ((g_mi M a0 38) = 16 → kp 0 M a0 x1 x2 189 0))) ∧ (¬ 0 ≤ x2 → R x2 M))
def pX9_keptOr_22 (N K : Nat) (kp : Nat → gM → Nat → Int32 → Int32 → Int32 → Int32 → Prop) (R : Int32 → gM → Prop) (M : gM) (a0 : Nat) (x1 : Int32) (x2 : Int32) (x3 : Int32) (x4 : Int32) : Prop := (((15 * x3) ≤ x4 → ∀ M1 : gM, M1 = (g_wi M a0 38 ((g_mi M a0 38) - 1)) → kp 1 M1 a0 x1 x2 x3 0) ∧ (¬ (15 * x3) ≤ x4 → (vp_in ((x4 + x3)) 3024) ∧ (vp_in (x4) 3024) ∧ ∀ M2 : gM, M2 = (g_wi M (a0 + 19) (x4).toNatClampNeg (g_mi M (a0 + 19) ((x4 + x3)).toNatClampNeg)) → kp 0 M2 a0 x1 x2 x3 (x4 + 1)))
def pX9_keptOr_66 (N K : Nat) (kp : Nat → gM → Nat → Int32 → Int32 → Int32 → Int32 → Prop) (R : Int32 → gM → Prop) (M : gM) (a0 : Nat) (x1 : Int32) (x2 : Int32) (x3 : Int32) (x4 : Int32) : Prop := ((188 ≤ x4 → (vp_in (((x3 * (g_mi M a0 38)) + 188)) 3024) ∧ ∀ M1 : gM, M1 = (g_wi M (a0 + 19) (((x3 * (g_mi M a0 38)) + 188)).toNatClampNeg x1) → ∀ M2 : gM, M2 = (g_wi M1 a0 38 ((g_mi M1 a0 38) + 1)) → R x2 M2) ∧ (¬ 188 ≤ x4 → (vp_in ((376 + x4)) 564) ∧ (vp_in (((x3 * (g_mi M a0 38)) + x4)) 3024) ∧ ∀ M3 : gM, M3 = (g_wi M (a0 + 19) (((x3 * (g_mi M a0 38)) + x4)).toNatClampNeg (g_mi M (a0 + 5) ((376 + x4)).toNatClampNeg)) → kp 1 M3 a0 x1 x2 x3 (x4 + 1)))
def qX9_keptOr (N K : Nat) (R : Int32 → gM → Prop) : Nat → Nat → gM → Nat → Int32 → Int32 → Int32 → Int32 → Prop
  | 0, _, _, _, _, _, _, _ => False
  | n + 1, h, M, a0, x1, x2, x3, x4 => if h = 0 then pX9_keptOr_22 N K (qX9_keptOr N K R n) R M a0 x1 x2 x3 x4 else pX9_keptOr_66 N K (qX9_keptOr N K R n) R M a0 x1 x2 x3 x4
def pX9_keptOr (N K : Nat) (M : gM) (a0 : Nat) (x1 : Int32) (x2 : Int32) (R : Int32 → gM → Prop) : Prop := pX9_keptOr_0 N K (qX9_keptOr N K R N) R M a0 x1 x2
def ULX9_keptOr (X : gX) (d mc ms : Nat) (Q : Option Value → gM → Prop) (N K : Nat) (R : Int32 → gM → Prop) (n : Nat) : Prop := (∀ (M : gM) (a0 : Nat) (x1 : Int32) (x2 : Int32) (x3 : Int32) (x4 : Int32), Mo M a0 → qX9_keptOr N K R n 0 M a0 x1 x2 x3 x4 → (∀ (v : Int32) (M1 : gM), Sm M M1 → R v M1 → Q (some (.int v)) M1) → Go X d mc ms kX9_keptOr Q 22 [(0, .ref a0), (1, .int (x1)), (2, .int (x2)), (3, .int (x3)), (4, .int (x4))] [] M 0 0) ∧ (∀ (M : gM) (a0 : Nat) (x1 : Int32) (x2 : Int32) (x3 : Int32) (x4 : Int32), Mo M a0 → qX9_keptOr N K R n 1 M a0 x1 x2 x3 x4 → (∀ (v : Int32) (M1 : gM), Sm M M1 → R v M1 → Q (some (.int v)) M1) → Go X d mc ms kX9_keptOr Q 66 [(0, .ref a0), (1, .int (x1)), (2, .int (x2)), (3, .int (x3)), (4, .int (x4))] [] M 0 0)
set_option maxRecDepth 10000 in
theorem ulX9_keptOr {X : gX} {d mc ms : Nat} {Q : Option Value → gM → Prop} {N K : Nat} {R : Int32 → gM → Prop} : ∀ n : Nat, ULX9_keptOr X d mc ms Q N K R n := by
  intro n
  induction n with
  | zero => exact ⟨fun _ _ _ _ _ _ _ h _ => h.elim, fun _ _ _ _ _ _ _ h _ => h.elim⟩
  | succ n ih =>
    refine ⟨?_, ?_⟩
    · intro M a0 x1 x2 x3 x4 s0 H hR
      rw [qX9_keptOr, if_pos (show (0 : Nat) = 0 from rfl)] at H
      unfold pX9_keptOr_22 at H
      refine g_iload 4 24 dX9_keptOr_22 rfl rfl ?_
      refine g_bipush (15) 26 dX9_keptOr_24 rfl rfl ?_
      refine g_iload_n 3 27 dX9_keptOr_26 rfl rfl ?_
      refine g_imul 28 dX9_keptOr_27 rfl ?_
      refine g_icmp_ge 53 31 dX9_keptOr_28 rfl rfl (fun c1 => ?_) (fun c1 => ?_)
      · skip
        replace H := H.1 c1
        refine g_aload_n 0 54 dX9_keptOr_53 rfl rfl ?_
        refine g_dup 55 dX9_keptOr_54 rfl rfl ?_
        refine g_getI 58 dX9_keptOr_55 rfl flX9_11 s0.1 ?_
        refine g_iconst (1) 59 dX9_keptOr_58 rfl rfl ?_
        refine g_isub 60 dX9_keptOr_59 rfl ?_
        refine g_putI 63 dX9_keptOr_60 rfl flX9_11 s0.1 ?_
        generalize hM1 : (g_wi M a0 38 ((g_mi M a0 38) - 1)) = M1
        have j1 : Sm M M1 := by rw [← hM1]; exact (Sm.wi Sm.rf)
        replace H := H M1 hM1.symm
        refine g_iconst (0) 64 dX9_keptOr_63 rfl rfl ?_
        refine g_istore 66 [(4, .int (0)), (0, .ref a0), (1, .int (x1)), (2, .int (x2)), (3, .int (x3))] dX9_keptOr_64 rfl (Nat.le_of_ble_eq_true rfl) rfl ?_
        exact g_sub [1, 2, 3, 4, 0] _ rfl (ih.2 M1 a0 x1 x2 x3 0 (Mo.sm j1 s0) H (fun v M1 j r => hR v M1 (Sm.tr j1 j) r))
      · skip
        replace H := H.2 c1
        refine g_aload_n 0 32 dX9_keptOr_31 rfl rfl ?_
        refine g_getR 35 (a0 + 19) dX9_keptOr_32 rfl flX9_84 s0.1 s0.2.2.2.2.2.2.2.2.2.2.2.2.2.2.2.2.2.2.2.2.2.2.2.2.2.2.2.2.2.2.2.2.2.2.2.2.2.1 ?_
        refine g_iload 4 37 dX9_keptOr_35 rfl rfl ?_
        refine g_aload_n 0 38 dX9_keptOr_37 rfl rfl ?_
        refine g_getR 41 (a0 + 19) dX9_keptOr_38 rfl flX9_84 s0.1 s0.2.2.2.2.2.2.2.2.2.2.2.2.2.2.2.2.2.2.2.2.2.2.2.2.2.2.2.2.2.2.2.2.2.2.2.2.2.1 ?_
        refine g_iload 4 43 dX9_keptOr_41 rfl rfl ?_
        refine g_iload_n 3 44 dX9_keptOr_43 rfl rfl ?_
        refine g_iadd 45 dX9_keptOr_44 rfl ?_
        obtain ⟨b1, H⟩ := H
        refine h_iaload 46 ((x4 + x3)).toNatClampNeg dX9_keptOr_45 rfl rfl s0.2.2.2.2.2.2.2.2.2.2.2.2.2.2.2.2.2.2.2.2.2.2.2.2.2.2.2.2.2.2.2.2.2.2.2.2.2.2.1 b1 ?_
        obtain ⟨b2, H⟩ := H
        refine h_iastore 47 (x4).toNatClampNeg dX9_keptOr_46 rfl rfl s0.2.2.2.2.2.2.2.2.2.2.2.2.2.2.2.2.2.2.2.2.2.2.2.2.2.2.2.2.2.2.2.2.2.2.2.2.2.2.1 b2 ?_
        generalize hM2 : (g_wi M (a0 + 19) (x4).toNatClampNeg (g_mi M (a0 + 19) ((x4 + x3)).toNatClampNeg)) = M2
        have j2 : Sm M M2 := by rw [← hM2]; exact (Sm.wi Sm.rf)
        replace H := H M2 hM2.symm
        refine g_iinc _ 4 50 [(4, .int ((x4 + 1))), (0, .ref a0), (1, .int (x1)), (2, .int (x2)), (3, .int (x3))] dX9_keptOr_47 rfl rfl rfl (Nat.le_of_ble_eq_true rfl) rfl ?_
        refine g_goto 22 dX9_keptOr_50 rfl ?_
        exact g_sub [1, 2, 3, 4, 0] _ rfl (ih.1 M2 a0 x1 x2 x3 (x4 + 1) (Mo.sm j2 s0) H (fun v M1 j r => hR v M1 (Sm.tr j2 j) r))
    · intro M a0 x1 x2 x3 x4 s0 H hR
      rw [qX9_keptOr, if_neg (show ¬ (1 : Nat) = 0 by decide)] at H
      unfold pX9_keptOr_66 at H
      refine g_iload 4 68 dX9_keptOr_66 rfl rfl ?_
      refine g_sipush (188) 71 dX9_keptOr_68 rfl rfl ?_
      refine g_icmp_ge 105 74 dX9_keptOr_71 rfl rfl (fun c1 => ?_) (fun c1 => ?_)
      · skip
        replace H := H.1 c1
        refine g_aload_n 0 106 dX9_keptOr_105 rfl rfl ?_
        refine g_getR 109 (a0 + 19) dX9_keptOr_106 rfl flX9_84 s0.1 s0.2.2.2.2.2.2.2.2.2.2.2.2.2.2.2.2.2.2.2.2.2.2.2.2.2.2.2.2.2.2.2.2.2.2.2.2.2.1 ?_
        refine g_iload_n 3 110 dX9_keptOr_109 rfl rfl ?_
        refine g_aload_n 0 111 dX9_keptOr_110 rfl rfl ?_
        refine g_getI 114 dX9_keptOr_111 rfl flX9_11 s0.1 ?_
        refine g_imul 115 dX9_keptOr_114 rfl ?_
        refine g_sipush (188) 118 dX9_keptOr_115 rfl rfl ?_
        refine g_iadd 119 dX9_keptOr_118 rfl ?_
        refine g_iload_n 1 120 dX9_keptOr_119 rfl rfl ?_
        obtain ⟨b1, H⟩ := H
        refine h_iastore 121 (((x3 * (g_mi M a0 38)) + 188)).toNatClampNeg dX9_keptOr_120 rfl rfl s0.2.2.2.2.2.2.2.2.2.2.2.2.2.2.2.2.2.2.2.2.2.2.2.2.2.2.2.2.2.2.2.2.2.2.2.2.2.2.1 b1 ?_
        generalize hM1 : (g_wi M (a0 + 19) (((x3 * (g_mi M a0 38)) + 188)).toNatClampNeg x1) = M1
        have j1 : Sm M M1 := by rw [← hM1]; exact (Sm.wi Sm.rf)
        replace H := H M1 hM1.symm
        refine g_aload_n 0 122 dX9_keptOr_121 rfl rfl ?_
        refine g_dup 123 dX9_keptOr_122 rfl rfl ?_
        refine g_getI 126 dX9_keptOr_123 rfl flX9_11 (Sm.k j1 s0.1) ?_
        refine g_iconst (1) 127 dX9_keptOr_126 rfl rfl ?_
        refine g_iadd 128 dX9_keptOr_127 rfl ?_
        refine g_putI 131 dX9_keptOr_128 rfl flX9_11 (Sm.k j1 s0.1) ?_
        generalize hM2 : (g_wi M1 a0 38 ((g_mi M1 a0 38) + 1)) = M2
        have j2 : Sm M M2 := by rw [← hM2]; exact (Sm.wi j1)
        replace H := H M2 hM2.symm
        refine g_iload_n 2 132 dX9_keptOr_131 rfl rfl ?_
        exact g_iret dX9_keptOr_132 rfl (Nat.zero_le _) (Nat.zero_le _) (hR _ _ j2 H)
      · skip
        replace H := H.2 c1
        refine g_aload_n 0 75 dX9_keptOr_74 rfl rfl ?_
        refine g_getR 78 (a0 + 19) dX9_keptOr_75 rfl flX9_84 s0.1 s0.2.2.2.2.2.2.2.2.2.2.2.2.2.2.2.2.2.2.2.2.2.2.2.2.2.2.2.2.2.2.2.2.2.2.2.2.2.1 ?_
        refine g_iload_n 3 79 dX9_keptOr_78 rfl rfl ?_
        refine g_aload_n 0 80 dX9_keptOr_79 rfl rfl ?_
        refine g_getI 83 dX9_keptOr_80 rfl flX9_11 s0.1 ?_
        refine g_imul 84 dX9_keptOr_83 rfl ?_
        refine g_iload 4 86 dX9_keptOr_84 rfl rfl ?_
        refine g_iadd 87 dX9_keptOr_86 rfl ?_
        refine g_aload_n 0 88 dX9_keptOr_87 rfl rfl ?_
        refine g_getR 91 (a0 + 5) dX9_keptOr_88 rfl flX9_38 s0.1 s0.2.2.2.2.2.2.2.2.2.1 ?_
        refine g_sipush (376) 94 dX9_keptOr_91 rfl rfl ?_
        refine g_iload 4 96 dX9_keptOr_94 rfl rfl ?_
        refine g_iadd 97 dX9_keptOr_96 rfl ?_
        obtain ⟨b2, H⟩ := H
        refine h_iaload 98 ((376 + x4)).toNatClampNeg dX9_keptOr_97 rfl rfl s0.2.2.2.2.2.2.2.2.2.2.1 b2 ?_
        obtain ⟨b3, H⟩ := H
        refine h_iastore 99 (((x3 * (g_mi M a0 38)) + x4)).toNatClampNeg dX9_keptOr_98 rfl rfl s0.2.2.2.2.2.2.2.2.2.2.2.2.2.2.2.2.2.2.2.2.2.2.2.2.2.2.2.2.2.2.2.2.2.2.2.2.2.2.1 b3 ?_
        generalize hM3 : (g_wi M (a0 + 19) (((x3 * (g_mi M a0 38)) + x4)).toNatClampNeg (g_mi M (a0 + 5) ((376 + x4)).toNatClampNeg)) = M3
        have j3 : Sm M M3 := by rw [← hM3]; exact (Sm.wi Sm.rf)
        replace H := H M3 hM3.symm
        refine g_iinc _ 4 102 [(4, .int ((x4 + 1))), (0, .ref a0), (1, .int (x1)), (2, .int (x2)), (3, .int (x3))] dX9_keptOr_99 rfl rfl rfl (Nat.le_of_ble_eq_true rfl) rfl ?_
        refine g_goto 66 dX9_keptOr_102 rfl ?_
        exact g_sub [1, 2, 3, 4, 0] _ rfl (ih.2 M3 a0 x1 x2 x3 (x4 + 1) (Mo.sm j3 s0) H (fun v M1 j r => hR v M1 (Sm.tr j3 j) r))
set_option maxRecDepth 10000 in
theorem uX9_keptOr {N K : Nat} {X : gX} {d mc ms : Nat} {Q : Option Value → gM → Prop} {M : gM} {a0 : Nat} {x1 : Int32} {x2 : Int32} {R : Int32 → gM → Prop} (s0 : Mo M a0) (H : pX9_keptOr N K M a0 x1 x2 R) (hR : ∀ (v : Int32) (M1 : gM), Sm M M1 → R v M1 → Q (some (.int v)) M1) : Cn X d mc ms kX9_keptOr [.ref a0, .int (x1), .int (x2)] M Q := by
  have ih := ulX9_keptOr (X := X) (d := d) (mc := mc) (ms := ms) (Q := Q) (N := N) (K := K) (R := R) N
  unfold pX9_keptOr pX9_keptOr_0 at H
  refine g_meth rfl rfl (Nat.le_of_ble_eq_true rfl) rfl ?_
  refine g_iload_n 2 1 dX9_keptOr_0 rfl rfl ?_
  refine g_if_ge 6 4 dX9_keptOr_1 rfl rfl (fun c1 => ?_) (fun c1 => ?_)
  · skip
    replace H := H.1 c1
    refine g_sipush (189) 9 dX9_keptOr_6 rfl rfl ?_
    refine g_istore_n 10 [(3, .int (189)), (0, .ref a0), (1, .int (x1)), (2, .int (x2))] dX9_keptOr_9 rfl (Nat.le_of_ble_eq_true rfl) rfl ?_
    refine g_aload_n 1 11 dX9_keptOr_10 rfl rfl ?_
    refine g_getI 14 dX9_keptOr_11 rfl flX9_11 s0.1 ?_
    refine g_bipush (16) 16 dX9_keptOr_14 rfl rfl ?_
    refine g_icmp_ne 63 19 dX9_keptOr_16 rfl rfl (fun c2 => ?_) (fun c2 => ?_)
    · skip
      replace H := H.1 c2
      refine g_iconst (0) 64 dX9_keptOr_63 rfl rfl ?_
      refine g_istore 66 [(4, .int (0)), (3, .int (189)), (0, .ref a0), (1, .int (x1)), (2, .int (x2))] dX9_keptOr_64 rfl (Nat.le_of_ble_eq_true rfl) rfl ?_
      exact g_sub [2, 3, 4, 1, 0] _ rfl (ih.2 M a0 x1 x2 189 0 s0 H (fun v M1 j r => hR v M1 j r))
    · skip
      replace H := H.2 c2
      refine g_iconst (0) 20 dX9_keptOr_19 rfl rfl ?_
      refine g_istore 22 [(4, .int (0)), (3, .int (189)), (0, .ref a0), (1, .int (x1)), (2, .int (x2))] dX9_keptOr_20 rfl (Nat.le_of_ble_eq_true rfl) rfl ?_
      exact g_sub [2, 3, 4, 1, 0] _ rfl (ih.1 M a0 x1 x2 189 0 s0 H (fun v M1 j r => hR v M1 j r))
  · skip
    replace H := H.2 c1
    refine g_iload_n 2 5 dX9_keptOr_4 rfl rfl ?_
    exact g_iret dX9_keptOr_5 rfl (Nat.zero_le _) (Nat.zero_le _) (hR _ _ Sm.rf H)
/-! X9_undo -/
def pX9_undo_0 (N K : Nat) (kp : Nat → gM → Nat → Int32 → Int32 → Prop) (R : Int32 → gM → Prop) (M : gM) (a0 : Nat) : Prop := ((¬ (g_mi M a0 38) = 0 → ∀ M1 : gM, M1 = (g_wi M a0 38 ((g_mi M a0 38) - 1)) → kp 0 M1 a0 (189 * (g_mi M1 a0 38)) 0) ∧ ((g_mi M a0 38) = 0 → pX9_refuses N K M a0 (-3) (fun v1 M2 => R v1 M2)))
def pX9_undo_35 (N K : Nat) (kp : Nat → gM → Nat → Int32 → Int32 → Prop) (R : Int32 → gM → Prop) (M : gM) (a0 : Nat) (x1 : Int32) (x2 : Int32) : Prop := ((188 ≤ x2 → (vp_in ((x1 + 188)) 3024) ∧ pX9_good0 N K M a0 (g_mi M (a0 + 19) ((x1 + 188)).toNatClampNeg) (fun v1 M1 => R v1 M1)) ∧ (¬ 188 ≤ x2 → (vp_in ((x1 + x2)) 3024) ∧ (vp_in (x2) 5812) ∧ ∀ M2 : gM, M2 = (g_wi M (a0 + 2) (x2).toNatClampNeg (g_mi M (a0 + 19) ((x1 + x2)).toNatClampNeg)) → kp 0 M2 a0 x1 (x2 + 1)))
def qX9_undo (N K : Nat) (R : Int32 → gM → Prop) : Nat → Nat → gM → Nat → Int32 → Int32 → Prop
  | 0, _, _, _, _, _ => False
  | n + 1, _, M, a0, x1, x2 => pX9_undo_35 N K (qX9_undo N K R n) R M a0 x1 x2
def pX9_undo (N K : Nat) (M : gM) (a0 : Nat) (R : Int32 → gM → Prop) : Prop := pX9_undo_0 N K (qX9_undo N K R N) R M a0
def ULX9_undo (X : gX) (d mc ms : Nat) (Q : Option Value → gM → Prop) (N K : Nat) (R : Int32 → gM → Prop) (n : Nat) : Prop := (∀ (M : gM) (a0 : Nat) (x1 : Int32) (x2 : Int32), Mo M a0 → qX9_undo N K R n 0 M a0 x1 x2 → (∀ (v : Int32) (M1 : gM), Sm M M1 → R v M1 → Q (some (.int v)) M1) → Go X (d + 1) mc ms kX9_undo Q 35 [(0, .ref a0), (1, .int (x1)), (2, .int (x2))] [] M 0 0)
set_option maxRecDepth 10000 in
theorem ulX9_undo {X : gX} {d mc ms : Nat} {Q : Option Value → gM → Prop} {N K : Nat} {R : Int32 → gM → Prop} : ∀ n : Nat, ULX9_undo X d mc ms Q N K R n := by
  intro n
  induction n with
  | zero => exact fun _ _ _ _ _ h _ => h.elim
  | succ n ih =>
    intro M a0 x1 x2 s0 H hR
    rw [qX9_undo] at H
    unfold pX9_undo_35 at H
    refine g_iload_n 2 36 dX9_undo_35 rfl rfl ?_
    refine g_sipush (188) 39 dX9_undo_36 rfl rfl ?_
    refine g_icmp_ge 62 42 dX9_undo_39 rfl rfl (fun c1 => ?_) (fun c1 => ?_)
    · skip
      replace H := H.1 c1
      refine g_aload_n 0 63 dX9_undo_62 rfl rfl ?_
      refine g_aload_n 0 64 dX9_undo_63 rfl rfl ?_
      refine g_getR 67 (a0 + 19) dX9_undo_64 rfl flX9_84 s0.1 s0.2.2.2.2.2.2.2.2.2.2.2.2.2.2.2.2.2.2.2.2.2.2.2.2.2.2.2.2.2.2.2.2.2.2.2.2.2.1 ?_
      refine g_iload_n 1 68 dX9_undo_67 rfl rfl ?_
      refine g_sipush (188) 71 dX9_undo_68 rfl rfl ?_
      refine g_iadd 72 dX9_undo_71 rfl ?_
      obtain ⟨b1, H⟩ := H
      refine h_iaload 73 ((x1 + 188)).toNatClampNeg dX9_undo_72 rfl rfl s0.2.2.2.2.2.2.2.2.2.2.2.2.2.2.2.2.2.2.2.2.2.2.2.2.2.2.2.2.2.2.2.2.2.2.2.2.2.2.1 b1 ?_
      refine g_callV (mc1 := 0) (ms1 := 0) (b := a0) (rest := []) (av := [.int ((g_mi M (a0 + 19) ((x1 + 188)).toNatClampNeg))]) kX9_good0 76 dX9_undo_73 rfl rfl mbX9_14 imX9_good0 seX9_good0 gcl9.1 s0.1 (Nat.le_of_ble_eq_true rfl) (Nat.zero_le _) (Nat.zero_le _) (uX9_good0 (N := N) (K := K) s0 H (fun v1 M1 jj H => ?_))
      have j1 : Sm M M1 := jj
      show Go X (d + 1) mc ms kX9_undo Q 76 [(0, .ref a0), (1, .int (x1)), (2, .int (x2))] [.int (v1)] M1 0 0
      exact g_iret dX9_undo_76 rfl (Nat.zero_le _) (Nat.zero_le _) (hR _ _ j1 H)
    · skip
      replace H := H.2 c1
      refine g_aload_n 0 43 dX9_undo_42 rfl rfl ?_
      refine g_getR 46 (a0 + 2) dX9_undo_43 rfl flX9_28 s0.1 s0.2.2.2.1 ?_
      refine g_iload_n 2 47 dX9_undo_46 rfl rfl ?_
      refine g_aload_n 0 48 dX9_undo_47 rfl rfl ?_
      refine g_getR 51 (a0 + 19) dX9_undo_48 rfl flX9_84 s0.1 s0.2.2.2.2.2.2.2.2.2.2.2.2.2.2.2.2.2.2.2.2.2.2.2.2.2.2.2.2.2.2.2.2.2.2.2.2.2.1 ?_
      refine g_iload_n 1 52 dX9_undo_51 rfl rfl ?_
      refine g_iload_n 2 53 dX9_undo_52 rfl rfl ?_
      refine g_iadd 54 dX9_undo_53 rfl ?_
      obtain ⟨b2, H⟩ := H
      refine h_iaload 55 ((x1 + x2)).toNatClampNeg dX9_undo_54 rfl rfl s0.2.2.2.2.2.2.2.2.2.2.2.2.2.2.2.2.2.2.2.2.2.2.2.2.2.2.2.2.2.2.2.2.2.2.2.2.2.2.1 b2 ?_
      obtain ⟨b3, H⟩ := H
      refine h_iastore 56 (x2).toNatClampNeg dX9_undo_55 rfl rfl s0.2.2.2.2.1 b3 ?_
      generalize hM2 : (g_wi M (a0 + 2) (x2).toNatClampNeg (g_mi M (a0 + 19) ((x1 + x2)).toNatClampNeg)) = M2
      have j2 : Sm M M2 := by rw [← hM2]; exact (Sm.wi Sm.rf)
      replace H := H M2 hM2.symm
      refine g_iinc _ 2 59 [(2, .int ((x2 + 1))), (0, .ref a0), (1, .int (x1))] dX9_undo_56 rfl rfl rfl (Nat.le_of_ble_eq_true rfl) rfl ?_
      refine g_goto 35 dX9_undo_59 rfl ?_
      exact g_sub [1, 2, 0] _ rfl (ih M2 a0 x1 (x2 + 1) (Mo.sm j2 s0) H (fun v M1 j r => hR v M1 (Sm.tr j2 j) r))
set_option maxRecDepth 10000 in
theorem uX9_undo {N K : Nat} {X : gX} {d mc ms : Nat} {Q : Option Value → gM → Prop} {M : gM} {a0 : Nat} {R : Int32 → gM → Prop} (s0 : Mo M a0) (H : pX9_undo N K M a0 R) (hR : ∀ (v : Int32) (M1 : gM), Sm M M1 → R v M1 → Q (some (.int v)) M1) : Cn X (d + 1) mc ms kX9_undo [.ref a0] M Q := by
  have ih := ulX9_undo (X := X) (d := d) (mc := mc) (ms := ms) (Q := Q) (N := N) (K := K) (R := R) N
  unfold pX9_undo pX9_undo_0 at H
  refine g_meth rfl rfl (Nat.le_of_ble_eq_true rfl) rfl ?_
  refine g_aload_n 0 1 dX9_undo_0 rfl rfl ?_
  refine g_getI 4 dX9_undo_1 rfl flX9_11 s0.1 ?_
  refine g_if_ne 14 7 dX9_undo_4 rfl rfl (fun c1 => ?_) (fun c1 => ?_)
  · skip
    replace H := H.1 c1
    refine g_aload_n 0 15 dX9_undo_14 rfl rfl ?_
    refine g_dup 16 dX9_undo_15 rfl rfl ?_
    refine g_getI 19 dX9_undo_16 rfl flX9_11 s0.1 ?_
    refine g_iconst (1) 20 dX9_undo_19 rfl rfl ?_
    refine g_isub 21 dX9_undo_20 rfl ?_
    refine g_putI 24 dX9_undo_21 rfl flX9_11 s0.1 ?_
    generalize hM1 : (g_wi M a0 38 ((g_mi M a0 38) - 1)) = M1
    have j1 : Sm M M1 := by rw [← hM1]; exact (Sm.wi Sm.rf)
    replace H := H M1 hM1.symm
    refine g_sipush (189) 27 dX9_undo_24 rfl rfl ?_
    refine g_aload_n 0 28 dX9_undo_27 rfl rfl ?_
    refine g_getI 31 dX9_undo_28 rfl flX9_11 (Sm.k j1 s0.1) ?_
    refine g_imul 32 dX9_undo_31 rfl ?_
    refine g_istore_n 33 [(1, .int ((189 * (g_mi M1 a0 38)))), (0, .ref a0)] dX9_undo_32 rfl (Nat.le_of_ble_eq_true rfl) rfl ?_
    refine g_iconst (0) 34 dX9_undo_33 rfl rfl ?_
    refine g_istore_n 35 [(2, .int (0)), (1, .int ((189 * (g_mi M1 a0 38)))), (0, .ref a0)] dX9_undo_34 rfl (Nat.le_of_ble_eq_true rfl) rfl ?_
    exact g_sub [2, 1, 0] _ rfl (ih M1 a0 (189 * (g_mi M1 a0 38)) 0 (Mo.sm j1 s0) H (fun v M1 j r => hR v M1 (Sm.tr j1 j) r))
  · skip
    replace H := H.2 c1
    refine g_aload_n 0 8 dX9_undo_7 rfl rfl ?_
    refine g_bipush ((-3)) 10 dX9_undo_8 rfl rfl ?_
    refine g_callV (mc1 := 0) (ms1 := 0) (b := a0) (rest := []) (av := [.int ((-3))]) kX9_refuses 13 dX9_undo_10 rfl rfl mbX9_103 imX9_refuses seX9_refuses gcl9.1 s0.1 (Nat.le_of_ble_eq_true rfl) (Nat.zero_le _) (Nat.zero_le _) (uX9_refuses (N := N) (K := K) s0 H (fun v1 M2 jj H => ?_))
    have j2 : Sm M M2 := jj
    show Go X (d + 1) mc ms kX9_undo Q 13 [(0, .ref a0)] [.int (v1)] M2 0 0
    exact g_iret dX9_undo_13 rfl (Nat.zero_le _) (Nat.zero_le _) (hR _ _ j2 H)
/-! X9_takesKept -/
def pX9_takesKept (N K : Nat) (M : gM) (a0 : Nat) (x1 : Int32) (R : Int32 → gM → Prop) : Prop := pX9_laysAside N K M a0 2 (fun M1 => (EX9_takesKey N M1 a0 x1) ∧ ∀ v1 : Int32, v1 = (fX9_takesKey N M1 a0 x1) → ∀ M2 : gM, M2 = (mX9_takesKey N M1 a0 x1) → pX9_keptOr N K M2 a0 1 v1 (fun v2 M3 => R v2 M3))
set_option maxRecDepth 10000 in
theorem uX9_takesKept {N K : Nat} {X : gX} {d mc ms : Nat} {Q : Option Value → gM → Prop} {M : gM} {a0 : Nat} {x1 : Int32} {R : Int32 → gM → Prop} (s0 : Mo M a0) (H : pX9_takesKept N K M a0 x1 R) (hR : ∀ (v : Int32) (M1 : gM), Sm M M1 → R v M1 → Q (some (.int v)) M1) : Cn X (d + 4) mc ms kX9_takesKept [.ref a0, .int (x1)] M Q := by
  unfold pX9_takesKept at H
  refine g_meth rfl rfl (Nat.le_of_ble_eq_true rfl) rfl ?_
  refine g_aload_n 0 1 dX9_takesKept_0 rfl rfl ?_
  refine g_iconst (2) 2 dX9_takesKept_1 rfl rfl ?_
  refine g_callV (mc1 := 0) (ms1 := 0) (b := a0) (rest := []) (av := [.int (2)]) kX9_laysAside 5 dX9_takesKept_2 rfl rfl mbX9_365 imX9_laysAside seX9_laysAside gcl9.1 s0.1 (Nat.le_of_ble_eq_true rfl) (Nat.zero_le _) (Nat.zero_le _) (uX9_laysAside (N := N) (K := K) s0 H (fun M1 jj H => ?_))
  have j1 : Sm M M1 := jj
  show Go X (d + 4) mc ms kX9_takesKept Q 5 [(0, .ref a0), (1, .int (x1))] [] M1 0 0
  refine g_aload_n 0 6 dX9_takesKept_5 rfl rfl ?_
  refine g_iconst (1) 7 dX9_takesKept_6 rfl rfl ?_
  refine g_aload_n 0 8 dX9_takesKept_7 rfl rfl ?_
  refine g_iload_n 1 9 dX9_takesKept_8 rfl rfl ?_
  obtain ⟨b1, H⟩ := H
  refine g_callV (mc1 := 0) (ms1 := 0) (b := a0) (rest := [.int (1), .ref a0]) (av := [.int (x1)]) kX9_takesKey 12 dX9_takesKept_9 rfl rfl mbX9_371 imX9_takesKey seX9_takesKey gcl9.1 (Sm.k j1 s0.1) (Nat.le_of_ble_eq_true rfl) (Nat.zero_le _) (Nat.zero_le _) (tX9_takesKey (N := N) (Mo.sm j1 s0) b1 ?_)
  show Go X (d + 4) mc ms kX9_takesKept Q 12 [(0, .ref a0), (1, .int (x1))] [.int ((fX9_takesKey N M1 a0 x1)), .int (1), .ref a0] (mX9_takesKey N M1 a0 x1) 0 0
  generalize hv1 : (fX9_takesKey N M1 a0 x1) = v1
  replace H := H v1 hv1.symm
  generalize hM2 : (mX9_takesKey N M1 a0 x1) = M2
  have j2 : Sm M M2 := by rw [← hM2]; exact (Sm.tr j1 jX9_takesKey)
  replace H := H M2 hM2.symm
  refine g_callV (mc1 := 0) (ms1 := 0) (b := a0) (rest := []) (av := [.int (1), .int (v1)]) kX9_keptOr 15 dX9_takesKept_12 rfl rfl mbX9_368 imX9_keptOr seX9_keptOr gcl9.1 (Sm.k j2 s0.1) (Nat.le_of_ble_eq_true rfl) (Nat.zero_le _) (Nat.zero_le _) (uX9_keptOr (N := N) (K := K) (Mo.sm j2 s0) H (fun v2 M3 jj H => ?_))
  have j3 : Sm M M3 := Sm.tr j2 jj
  show Go X (d + 4) mc ms kX9_takesKept Q 15 [(0, .ref a0), (1, .int (x1))] [.int (v2)] M3 0 0
  exact g_iret dX9_takesKept_15 rfl (Nat.zero_le _) (Nat.zero_le _) (hR _ _ j3 H)
/-! X9_sideKept -/
def pX9_sideKept (N K : Nat) (M : gM) (a0 : Nat) (x1 : Int32) (R : Int32 → gM → Prop) : Prop := pX9_laysAside N K M a0 2 (fun M1 => ∀ v1 : Int32, v1 = (fX9_setsSide M1 a0 x1) → ∀ M2 : gM, M2 = (mX9_setsSide M1 a0 x1) → pX9_keptOr N K M2 a0 2 v1 (fun v2 M3 => R v2 M3))
set_option maxRecDepth 10000 in
theorem uX9_sideKept {N K : Nat} {X : gX} {d mc ms : Nat} {Q : Option Value → gM → Prop} {M : gM} {a0 : Nat} {x1 : Int32} {R : Int32 → gM → Prop} (s0 : Mo M a0) (H : pX9_sideKept N K M a0 x1 R) (hR : ∀ (v : Int32) (M1 : gM), Sm M M1 → R v M1 → Q (some (.int v)) M1) : Cn X (d + 2) mc ms kX9_sideKept [.ref a0, .int (x1)] M Q := by
  unfold pX9_sideKept at H
  refine g_meth rfl rfl (Nat.le_of_ble_eq_true rfl) rfl ?_
  refine g_aload_n 0 1 dX9_sideKept_0 rfl rfl ?_
  refine g_iconst (2) 2 dX9_sideKept_1 rfl rfl ?_
  refine g_callV (mc1 := 0) (ms1 := 0) (b := a0) (rest := []) (av := [.int (2)]) kX9_laysAside 5 dX9_sideKept_2 rfl rfl mbX9_365 imX9_laysAside seX9_laysAside gcl9.1 s0.1 (Nat.le_of_ble_eq_true rfl) (Nat.zero_le _) (Nat.zero_le _) (uX9_laysAside (N := N) (K := K) s0 H (fun M1 jj H => ?_))
  have j1 : Sm M M1 := jj
  show Go X (d + 2) mc ms kX9_sideKept Q 5 [(0, .ref a0), (1, .int (x1))] [] M1 0 0
  refine g_aload_n 0 6 dX9_sideKept_5 rfl rfl ?_
  refine g_iconst (2) 7 dX9_sideKept_6 rfl rfl ?_
  refine g_aload_n 0 8 dX9_sideKept_7 rfl rfl ?_
  refine g_iload_n 1 9 dX9_sideKept_8 rfl rfl ?_
  refine g_callV (mc1 := 0) (ms1 := 0) (b := a0) (rest := [.int (2), .ref a0]) (av := [.int (x1)]) kX9_setsSide 12 dX9_sideKept_9 rfl rfl mbX9_374 imX9_setsSide seX9_setsSide gcl9.1 (Sm.k j1 s0.1) (Nat.le_of_ble_eq_true rfl) (Nat.zero_le _) (Nat.zero_le _) (tX9_setsSide (Mo.sm j1 s0) ?_)
  show Go X (d + 2) mc ms kX9_sideKept Q 12 [(0, .ref a0), (1, .int (x1))] [.int ((fX9_setsSide M1 a0 x1)), .int (2), .ref a0] (mX9_setsSide M1 a0 x1) 0 0
  generalize hv1 : (fX9_setsSide M1 a0 x1) = v1
  replace H := H v1 hv1.symm
  generalize hM2 : (mX9_setsSide M1 a0 x1) = M2
  have j2 : Sm M M2 := by rw [← hM2]; exact (Sm.tr j1 jX9_setsSide)
  replace H := H M2 hM2.symm
  refine g_callV (mc1 := 0) (ms1 := 0) (b := a0) (rest := []) (av := [.int (2), .int (v1)]) kX9_keptOr 15 dX9_sideKept_12 rfl rfl mbX9_368 imX9_keptOr seX9_keptOr gcl9.1 (Sm.k j2 s0.1) (Nat.le_of_ble_eq_true rfl) (Nat.zero_le _) (Nat.zero_le _) (uX9_keptOr (N := N) (K := K) (Mo.sm j2 s0) H (fun v2 M3 jj H => ?_))
  have j3 : Sm M M3 := Sm.tr j2 jj
  show Go X (d + 2) mc ms kX9_sideKept Q 15 [(0, .ref a0), (1, .int (x1))] [.int (v2)] M3 0 0
  exact g_iret dX9_sideKept_15 rfl (Nat.zero_le _) (Nat.zero_le _) (hR _ _ j3 H)
/-! X9_seedKept -/
def pX9_seedKept (N K : Nat) (M : gM) (a0 : Nat) (x1 : Int32) (R : Int32 → gM → Prop) : Prop := pX9_laysAside N K M a0 2 (fun M1 => (EX9_setsSeed M1 a0 x1) ∧ ∀ v1 : Int32, v1 = (fX9_setsSeed M1 a0 x1) → ∀ M2 : gM, M2 = (mX9_setsSeed M1 a0 x1) → pX9_keptOr N K M2 a0 3 v1 (fun v2 M3 => R v2 M3))
set_option maxRecDepth 10000 in
theorem uX9_seedKept {N K : Nat} {X : gX} {d mc ms : Nat} {Q : Option Value → gM → Prop} {M : gM} {a0 : Nat} {x1 : Int32} {R : Int32 → gM → Prop} (s0 : Mo M a0) (H : pX9_seedKept N K M a0 x1 R) (hR : ∀ (v : Int32) (M1 : gM), Sm M M1 → R v M1 → Q (some (.int v)) M1) : Cn X (d + 3) mc ms kX9_seedKept [.ref a0, .int (x1)] M Q := by
  unfold pX9_seedKept at H
  refine g_meth rfl rfl (Nat.le_of_ble_eq_true rfl) rfl ?_
  refine g_aload_n 0 1 dX9_seedKept_0 rfl rfl ?_
  refine g_iconst (2) 2 dX9_seedKept_1 rfl rfl ?_
  refine g_callV (mc1 := 0) (ms1 := 0) (b := a0) (rest := []) (av := [.int (2)]) kX9_laysAside 5 dX9_seedKept_2 rfl rfl mbX9_365 imX9_laysAside seX9_laysAside gcl9.1 s0.1 (Nat.le_of_ble_eq_true rfl) (Nat.zero_le _) (Nat.zero_le _) (uX9_laysAside (N := N) (K := K) s0 H (fun M1 jj H => ?_))
  have j1 : Sm M M1 := jj
  show Go X (d + 3) mc ms kX9_seedKept Q 5 [(0, .ref a0), (1, .int (x1))] [] M1 0 0
  refine g_aload_n 0 6 dX9_seedKept_5 rfl rfl ?_
  refine g_iconst (3) 7 dX9_seedKept_6 rfl rfl ?_
  refine g_aload_n 0 8 dX9_seedKept_7 rfl rfl ?_
  refine g_iload_n 1 9 dX9_seedKept_8 rfl rfl ?_
  obtain ⟨b1, H⟩ := H
  refine g_callV (mc1 := 0) (ms1 := 0) (b := a0) (rest := [.int (3), .ref a0]) (av := [.int (x1)]) kX9_setsSeed 12 dX9_seedKept_9 rfl rfl mbX9_377 imX9_setsSeed seX9_setsSeed gcl9.1 (Sm.k j1 s0.1) (Nat.le_of_ble_eq_true rfl) (Nat.zero_le _) (Nat.zero_le _) (tX9_setsSeed (Mo.sm j1 s0) b1 ?_)
  show Go X (d + 3) mc ms kX9_seedKept Q 12 [(0, .ref a0), (1, .int (x1))] [.int ((fX9_setsSeed M1 a0 x1)), .int (3), .ref a0] (mX9_setsSeed M1 a0 x1) 0 0
  generalize hv1 : (fX9_setsSeed M1 a0 x1) = v1
  replace H := H v1 hv1.symm
  generalize hM2 : (mX9_setsSeed M1 a0 x1) = M2
  have j2 : Sm M M2 := by rw [← hM2]; exact (Sm.tr j1 jX9_setsSeed)
  replace H := H M2 hM2.symm
  refine g_callV (mc1 := 0) (ms1 := 0) (b := a0) (rest := []) (av := [.int (3), .int (v1)]) kX9_keptOr 15 dX9_seedKept_12 rfl rfl mbX9_368 imX9_keptOr seX9_keptOr gcl9.1 (Sm.k j2 s0.1) (Nat.le_of_ble_eq_true rfl) (Nat.zero_le _) (Nat.zero_le _) (uX9_keptOr (N := N) (K := K) (Mo.sm j2 s0) H (fun v2 M3 jj H => ?_))
  have j3 : Sm M M3 := Sm.tr j2 jj
  show Go X (d + 3) mc ms kX9_seedKept Q 15 [(0, .ref a0), (1, .int (x1))] [.int (v2)] M3 0 0
  exact g_iret dX9_seedKept_15 rfl (Nat.zero_le _) (Nat.zero_le _) (hR _ _ j3 H)
/-! X9_take -/
def pX9_take (N K : Nat) (M : gM) (a0 : Nat) (x1 : Int32) (R : Int32 → gM → Prop) : Prop := pX9_takesKept N K M a0 x1 (fun v1 M1 => pX9_goodOr N K M1 a0 v1 (fun v2 M2 => R v2 M2))
set_option maxRecDepth 10000 in
theorem uX9_take {N K : Nat} {X : gX} {d mc ms : Nat} {Q : Option Value → gM → Prop} {M : gM} {a0 : Nat} {x1 : Int32} {R : Int32 → gM → Prop} (s0 : Mo M a0) (H : pX9_take N K M a0 x1 R) (hR : ∀ (v : Int32) (M1 : gM), Sm M M1 → R v M1 → Q (some (.int v)) M1) : Cn X (d + 5) mc ms kX9_take [.ref a0, .int (x1)] M Q := by
  unfold pX9_take at H
  refine g_meth rfl rfl (Nat.le_of_ble_eq_true rfl) rfl ?_
  refine g_aload_n 0 1 dX9_take_0 rfl rfl ?_
  refine g_aload_n 0 2 dX9_take_1 rfl rfl ?_
  refine g_iload_n 1 3 dX9_take_2 rfl rfl ?_
  refine g_callV (mc1 := 0) (ms1 := 0) (b := a0) (rest := [.ref a0]) (av := [.int (x1)]) kX9_takesKept 6 dX9_take_3 rfl rfl mbX9_389 imX9_takesKept seX9_takesKept gcl9.1 s0.1 (Nat.le_of_ble_eq_true rfl) (Nat.zero_le _) (Nat.zero_le _) (uX9_takesKept (N := N) (K := K) s0 H (fun v1 M1 jj H => ?_))
  have j1 : Sm M M1 := jj
  show Go X (d + 5) mc ms kX9_take Q 6 [(0, .ref a0), (1, .int (x1))] [.int (v1), .ref a0] M1 0 0
  refine g_callV (mc1 := 0) (ms1 := 0) (b := a0) (rest := []) (av := [.int (v1)]) kX9_goodOr 9 dX9_take_6 rfl rfl mbX9_386 imX9_goodOr seX9_goodOr gcl9.1 (Sm.k j1 s0.1) (Nat.le_of_ble_eq_true rfl) (Nat.zero_le _) (Nat.zero_le _) (uX9_goodOr (N := N) (K := K) (Mo.sm j1 s0) H (fun v2 M2 jj H => ?_))
  have j2 : Sm M M2 := Sm.tr j1 jj
  show Go X (d + 5) mc ms kX9_take Q 9 [(0, .ref a0), (1, .int (x1))] [.int (v2)] M2 0 0
  exact g_iret dX9_take_9 rfl (Nat.zero_le _) (Nat.zero_le _) (hR _ _ j2 H)
/-! X9_side -/
def pX9_side (N K : Nat) (M : gM) (a0 : Nat) (x1 : Int32) (R : Int32 → gM → Prop) : Prop := pX9_sideKept N K M a0 x1 (fun v1 M1 => pX9_goodOr N K M1 a0 v1 (fun v2 M2 => R v2 M2))
set_option maxRecDepth 10000 in
theorem uX9_side {N K : Nat} {X : gX} {d mc ms : Nat} {Q : Option Value → gM → Prop} {M : gM} {a0 : Nat} {x1 : Int32} {R : Int32 → gM → Prop} (s0 : Mo M a0) (H : pX9_side N K M a0 x1 R) (hR : ∀ (v : Int32) (M1 : gM), Sm M M1 → R v M1 → Q (some (.int v)) M1) : Cn X (d + 3) mc ms kX9_side [.ref a0, .int (x1)] M Q := by
  unfold pX9_side at H
  refine g_meth rfl rfl (Nat.le_of_ble_eq_true rfl) rfl ?_
  refine g_aload_n 0 1 dX9_side_0 rfl rfl ?_
  refine g_aload_n 0 2 dX9_side_1 rfl rfl ?_
  refine g_iload_n 1 3 dX9_side_2 rfl rfl ?_
  refine g_callV (mc1 := 0) (ms1 := 0) (b := a0) (rest := [.ref a0]) (av := [.int (x1)]) kX9_sideKept 6 dX9_side_3 rfl rfl mbX9_392 imX9_sideKept seX9_sideKept gcl9.1 s0.1 (Nat.le_of_ble_eq_true rfl) (Nat.zero_le _) (Nat.zero_le _) (uX9_sideKept (N := N) (K := K) s0 H (fun v1 M1 jj H => ?_))
  have j1 : Sm M M1 := jj
  show Go X (d + 3) mc ms kX9_side Q 6 [(0, .ref a0), (1, .int (x1))] [.int (v1), .ref a0] M1 0 0
  refine g_callV (mc1 := 0) (ms1 := 0) (b := a0) (rest := []) (av := [.int (v1)]) kX9_goodOr 9 dX9_side_6 rfl rfl mbX9_386 imX9_goodOr seX9_goodOr gcl9.1 (Sm.k j1 s0.1) (Nat.le_of_ble_eq_true rfl) (Nat.zero_le _) (Nat.zero_le _) (uX9_goodOr (N := N) (K := K) (Mo.sm j1 s0) H (fun v2 M2 jj H => ?_))
  have j2 : Sm M M2 := Sm.tr j1 jj
  show Go X (d + 3) mc ms kX9_side Q 9 [(0, .ref a0), (1, .int (x1))] [.int (v2)] M2 0 0
  exact g_iret dX9_side_9 rfl (Nat.zero_le _) (Nat.zero_le _) (hR _ _ j2 H)
/-! X9_seed -/
def pX9_seed (N K : Nat) (M : gM) (a0 : Nat) (x1 : Int32) (R : Int32 → gM → Prop) : Prop := pX9_seedKept N K M a0 x1 (fun v1 M1 => pX9_goodOr N K M1 a0 v1 (fun v2 M2 => R v2 M2))
set_option maxRecDepth 10000 in
theorem uX9_seed {N K : Nat} {X : gX} {d mc ms : Nat} {Q : Option Value → gM → Prop} {M : gM} {a0 : Nat} {x1 : Int32} {R : Int32 → gM → Prop} (s0 : Mo M a0) (H : pX9_seed N K M a0 x1 R) (hR : ∀ (v : Int32) (M1 : gM), Sm M M1 → R v M1 → Q (some (.int v)) M1) : Cn X (d + 4) mc ms kX9_seed [.ref a0, .int (x1)] M Q := by
  unfold pX9_seed at H
  refine g_meth rfl rfl (Nat.le_of_ble_eq_true rfl) rfl ?_
  refine g_aload_n 0 1 dX9_seed_0 rfl rfl ?_
  refine g_aload_n 0 2 dX9_seed_1 rfl rfl ?_
  refine g_iload_n 1 3 dX9_seed_2 rfl rfl ?_
  refine g_callV (mc1 := 0) (ms1 := 0) (b := a0) (rest := [.ref a0]) (av := [.int (x1)]) kX9_seedKept 6 dX9_seed_3 rfl rfl mbX9_395 imX9_seedKept seX9_seedKept gcl9.1 s0.1 (Nat.le_of_ble_eq_true rfl) (Nat.zero_le _) (Nat.zero_le _) (uX9_seedKept (N := N) (K := K) s0 H (fun v1 M1 jj H => ?_))
  have j1 : Sm M M1 := jj
  show Go X (d + 4) mc ms kX9_seed Q 6 [(0, .ref a0), (1, .int (x1))] [.int (v1), .ref a0] M1 0 0
  refine g_callV (mc1 := 0) (ms1 := 0) (b := a0) (rest := []) (av := [.int (v1)]) kX9_goodOr 9 dX9_seed_6 rfl rfl mbX9_386 imX9_goodOr seX9_goodOr gcl9.1 (Sm.k j1 s0.1) (Nat.le_of_ble_eq_true rfl) (Nat.zero_le _) (Nat.zero_le _) (uX9_goodOr (N := N) (K := K) (Mo.sm j1 s0) H (fun v2 M2 jj H => ?_))
  have j2 : Sm M M2 := Sm.tr j1 jj
  show Go X (d + 4) mc ms kX9_seed Q 9 [(0, .ref a0), (1, .int (x1))] [.int (v2)] M2 0 0
  exact g_iret dX9_seed_9 rfl (Nat.zero_le _) (Nat.zero_le _) (hR _ _ j2 H)
/-! X9_core -/
def pX9_core (N K : Nat) (M : gM) (a0 : Nat) (x1 : Int32) (R : Int32 → gM → Prop) : Prop := (EX9_isSeed M x1) ∧ ∀ v1 : Int32, v1 = (fX9_isSeed x1) → ((v1 = 0 → R (-1) M) ∧ (¬ v1 = 0 → pX9_coreOf N K M a0 x1 (fun v2 M1 => R v2 M1)))
set_option maxRecDepth 10000 in
theorem uX9_core {N K : Nat} {X : gX} {d mc ms : Nat} {Q : Option Value → gM → Prop} {M : gM} {a0 : Nat} {x1 : Int32} {R : Int32 → gM → Prop} (s0 : Mo M a0) (H : pX9_core N K M a0 x1 R) (hR : ∀ (v : Int32) (M1 : gM), Sm M M1 → R v M1 → Q (some (.int v)) M1) : Cn X (d + 4) mc ms kX9_core [.ref a0, .int (x1)] M Q := by
  unfold pX9_core at H
  refine g_meth rfl rfl (Nat.le_of_ble_eq_true rfl) rfl ?_
  refine g_iload_n 1 1 dX9_core_0 rfl rfl ?_
  obtain ⟨b1, H⟩ := H
  refine g_callS (mc1 := 0) (ms1 := 0) (rest := []) (av := [.int (x1)]) kX9_isSeed 4 dX9_core_1 rfl rfl mbX9_347 smX9_isSeed (Nat.le_of_ble_eq_true rfl) (Nat.zero_le _) (Nat.zero_le _) (tX9_isSeed b1 ?_)
  show Go X (d + 4) mc ms kX9_core Q 4 [(0, .ref a0), (1, .int (x1))] [.int ((fX9_isSeed x1))] M 0 0
  generalize hv1 : (fX9_isSeed x1) = v1
  replace H := H v1 hv1.symm
  refine g_if_eq 15 7 dX9_core_4 rfl rfl (fun c1 => ?_) (fun c1 => ?_)
  · skip
    replace H := H.1 c1
    refine g_iconst ((-1)) 16 dX9_core_15 rfl rfl ?_
    exact g_iret dX9_core_16 rfl (Nat.zero_le _) (Nat.zero_le _) (hR _ _ Sm.rf H)
  · skip
    replace H := H.2 c1
    refine g_aload_n 0 8 dX9_core_7 rfl rfl ?_
    refine g_iload_n 1 9 dX9_core_8 rfl rfl ?_
    refine g_callV (mc1 := 0) (ms1 := 0) (b := a0) (rest := []) (av := [.int (x1)]) kX9_coreOf 12 dX9_core_9 rfl rfl mbX9_353 imX9_coreOf seX9_coreOf gcl9.1 s0.1 (Nat.le_of_ble_eq_true rfl) (Nat.zero_le _) (Nat.zero_le _) (uX9_coreOf (N := N) (K := K) s0 H (fun v2 M1 jj H => ?_))
    have j1 : Sm M M1 := jj
    show Go X (d + 4) mc ms kX9_core Q 12 [(0, .ref a0), (1, .int (x1))] [.int (v2)] M1 0 0
    refine g_goto 16 dX9_core_12 rfl ?_
    exact g_iret dX9_core_16 rfl (Nat.zero_le _) (Nat.zero_le _) (hR _ _ j1 H)
/-! X9_good -/
def pX9_good_0 (N K : Nat) (kp : Nat → gM → Nat → Int32 → Int32 → Int32 → Prop) (R : Int32 → gM → Prop) (M : gM) (a0 : Nat) (x1 : Int32) : Prop := (((-1) ≤ x1 → kp 0 M a0 x1 0 0) ∧ (¬ (-1) ≤ x1 → R (-1) M))
def pX9_good_11 (N K : Nat) (kp : Nat → gM → Nat → Int32 → Int32 → Int32 → Prop) (R : Int32 → gM → Prop) (M : gM) (a0 : Nat) (x1 : Int32) (x2 : Int32) (x3 : Int32) : Prop := ((256 ≤ x3 → ((¬ x1 = (-1) → R (-1) M) ∧ (x1 = (-1) → R x2 M))) ∧ (¬ 256 ≤ x3 → pX9_coreOf N K M a0 x3 (fun v1 M1 => ((v1 ≤ 0 → ((¬ x2 = x1 → kp 0 M1 a0 x1 (x2 + 1) (x3 + 1)) ∧ (x2 = x1 → R x3 M1))) ∧ (¬ v1 ≤ 0 → kp 0 M1 a0 x1 x2 (x3 + 1))))))
def qX9_good (N K : Nat) (R : Int32 → gM → Prop) : Nat → Nat → gM → Nat → Int32 → Int32 → Int32 → Prop
  | 0, _, _, _, _, _, _ => False
  | n + 1, _, M, a0, x1, x2, x3 => pX9_good_11 N K (qX9_good N K R n) R M a0 x1 x2 x3
def pX9_good (N K : Nat) (M : gM) (a0 : Nat) (x1 : Int32) (R : Int32 → gM → Prop) : Prop := pX9_good_0 N K (qX9_good N K R N) R M a0 x1
def ULX9_good (X : gX) (d mc ms : Nat) (Q : Option Value → gM → Prop) (N K : Nat) (R : Int32 → gM → Prop) (n : Nat) : Prop := (∀ (M : gM) (a0 : Nat) (x1 : Int32) (x2 : Int32) (x3 : Int32), Mo M a0 → qX9_good N K R n 0 M a0 x1 x2 x3 → (∀ (v : Int32) (M1 : gM), Sm M M1 → R v M1 → Q (some (.int v)) M1) → Go X (d + 4) mc ms kX9_good Q 11 [(0, .ref a0), (1, .int (x1)), (2, .int (x2)), (3, .int (x3))] [] M 0 0)
set_option maxRecDepth 10000 in
theorem ulX9_good {X : gX} {d mc ms : Nat} {Q : Option Value → gM → Prop} {N K : Nat} {R : Int32 → gM → Prop} : ∀ n : Nat, ULX9_good X d mc ms Q N K R n := by
  intro n
  induction n with
  | zero => exact fun _ _ _ _ _ _ h _ => h.elim
  | succ n ih =>
    intro M a0 x1 x2 x3 s0 H hR
    rw [qX9_good] at H
    unfold pX9_good_11 at H
    refine g_iload_n 3 12 dX9_good_11 rfl rfl ?_
    refine g_sipush (256) 15 dX9_good_12 rfl rfl ?_
    refine g_icmp_ge 45 18 dX9_good_15 rfl rfl (fun c1 => ?_) (fun c1 => ?_)
    · skip
      replace H := H.1 c1
      refine g_iload_n 1 46 dX9_good_45 rfl rfl ?_
      refine g_iconst ((-1)) 47 dX9_good_46 rfl rfl ?_
      refine g_icmp_ne 54 50 dX9_good_47 rfl rfl (fun c2 => ?_) (fun c2 => ?_)
      · skip
        replace H := H.1 c2
        refine g_iconst ((-1)) 55 dX9_good_54 rfl rfl ?_
        exact g_iret dX9_good_55 rfl (Nat.zero_le _) (Nat.zero_le _) (hR _ _ Sm.rf H)
      · skip
        replace H := H.2 c2
        refine g_iload_n 2 51 dX9_good_50 rfl rfl ?_
        refine g_goto 55 dX9_good_51 rfl ?_
        exact g_iret dX9_good_55 rfl (Nat.zero_le _) (Nat.zero_le _) (hR _ _ Sm.rf H)
    · skip
      replace H := H.2 c1
      refine g_aload_n 0 19 dX9_good_18 rfl rfl ?_
      refine g_iload_n 3 20 dX9_good_19 rfl rfl ?_
      refine g_callV (mc1 := 0) (ms1 := 0) (b := a0) (rest := []) (av := [.int (x3)]) kX9_coreOf 23 dX9_good_20 rfl rfl mbX9_353 imX9_coreOf seX9_coreOf gcl9.1 s0.1 (Nat.le_of_ble_eq_true rfl) (Nat.zero_le _) (Nat.zero_le _) (uX9_coreOf (N := N) (K := K) s0 H (fun v1 M1 jj H => ?_))
      have j1 : Sm M M1 := jj
      show Go X (d + 4) mc ms kX9_good Q 23 [(0, .ref a0), (1, .int (x1)), (2, .int (x2)), (3, .int (x3))] [.int (v1)] M1 0 0
      refine g_if_le 29 26 dX9_good_23 rfl rfl (fun c3 => ?_) (fun c3 => ?_)
      · skip
        replace H := H.1 c3
        refine g_iload_n 2 30 dX9_good_29 rfl rfl ?_
        refine g_iload_n 1 31 dX9_good_30 rfl rfl ?_
        refine g_icmp_ne 36 34 dX9_good_31 rfl rfl (fun c4 => ?_) (fun c4 => ?_)
        · skip
          replace H := H.1 c4
          refine g_iinc _ 2 39 [(2, .int ((x2 + 1))), (0, .ref a0), (1, .int (x1)), (3, .int (x3))] dX9_good_36 rfl rfl rfl (Nat.le_of_ble_eq_true rfl) rfl ?_
          refine g_iinc _ 3 42 [(3, .int ((x3 + 1))), (2, .int ((x2 + 1))), (0, .ref a0), (1, .int (x1))] dX9_good_39 rfl rfl rfl (Nat.le_of_ble_eq_true rfl) rfl ?_
          refine g_goto 11 dX9_good_42 rfl ?_
          exact g_sub [2, 3, 1, 0] _ rfl (ih M1 a0 x1 (x2 + 1) (x3 + 1) (Mo.sm j1 s0) H (fun v M1 j r => hR v M1 (Sm.tr j1 j) r))
        · skip
          replace H := H.2 c4
          refine g_iload_n 3 35 dX9_good_34 rfl rfl ?_
          exact g_iret dX9_good_35 rfl (Nat.zero_le _) (Nat.zero_le _) (hR _ _ j1 H)
      · skip
        replace H := H.2 c3
        refine g_goto 39 dX9_good_26 rfl ?_
        refine g_iinc _ 3 42 [(3, .int ((x3 + 1))), (0, .ref a0), (1, .int (x1)), (2, .int (x2))] dX9_good_39 rfl rfl rfl (Nat.le_of_ble_eq_true rfl) rfl ?_
        refine g_goto 11 dX9_good_42 rfl ?_
        exact g_sub [1, 2, 3, 0] _ rfl (ih M1 a0 x1 x2 (x3 + 1) (Mo.sm j1 s0) H (fun v M1 j r => hR v M1 (Sm.tr j1 j) r))
set_option maxRecDepth 10000 in
theorem uX9_good {N K : Nat} {X : gX} {d mc ms : Nat} {Q : Option Value → gM → Prop} {M : gM} {a0 : Nat} {x1 : Int32} {R : Int32 → gM → Prop} (s0 : Mo M a0) (H : pX9_good N K M a0 x1 R) (hR : ∀ (v : Int32) (M1 : gM), Sm M M1 → R v M1 → Q (some (.int v)) M1) : Cn X (d + 4) mc ms kX9_good [.ref a0, .int (x1)] M Q := by
  have ih := ulX9_good (X := X) (d := d) (mc := mc) (ms := ms) (Q := Q) (N := N) (K := K) (R := R) N
  unfold pX9_good pX9_good_0 at H
  refine g_meth rfl rfl (Nat.le_of_ble_eq_true rfl) rfl ?_
  refine g_iload_n 1 1 dX9_good_0 rfl rfl ?_
  refine g_iconst ((-1)) 2 dX9_good_1 rfl rfl ?_
  refine g_icmp_ge 7 5 dX9_good_2 rfl rfl (fun c1 => ?_) (fun c1 => ?_)
  · skip
    replace H := H.1 c1
    refine g_iconst (0) 8 dX9_good_7 rfl rfl ?_
    refine g_istore_n 9 [(2, .int (0)), (0, .ref a0), (1, .int (x1))] dX9_good_8 rfl (Nat.le_of_ble_eq_true rfl) rfl ?_
    refine g_iconst (0) 10 dX9_good_9 rfl rfl ?_
    refine g_istore_n 11 [(3, .int (0)), (2, .int (0)), (0, .ref a0), (1, .int (x1))] dX9_good_10 rfl (Nat.le_of_ble_eq_true rfl) rfl ?_
    exact g_sub [2, 3, 1, 0] _ rfl (ih M a0 x1 0 0 s0 H (fun v M1 j r => hR v M1 j r))
  · skip
    replace H := H.2 c1
    refine g_iconst ((-1)) 6 dX9_good_5 rfl rfl ?_
    exact g_iret dX9_good_6 rfl (Nat.zero_le _) (Nat.zero_le _) (hR _ _ Sm.rf H)
/-! X9_hasGood -/
def pX9_hasGood_0 (N K : Nat) (kp : Nat → gM → Nat → Int32 → Prop) (R : Int32 → gM → Prop) (M : gM) (a0 : Nat) : Prop := kp 0 M a0 0
def pX9_hasGood_2 (N K : Nat) (kp : Nat → gM → Nat → Int32 → Prop) (R : Int32 → gM → Prop) (M : gM) (a0 : Nat) (x1 : Int32) : Prop := ((16 ≤ x1 → R 0 M) ∧ (¬ 16 ≤ x1 → pX9_coreOf N K M a0 x1 (fun v1 M1 => ((¬ v1 = 0 → kp 0 M1 a0 (x1 + 1)) ∧ (v1 = 0 → R 1 M1)))))
def qX9_hasGood (N K : Nat) (R : Int32 → gM → Prop) : Nat → Nat → gM → Nat → Int32 → Prop
  | 0, _, _, _, _ => False
  | n + 1, _, M, a0, x1 => pX9_hasGood_2 N K (qX9_hasGood N K R n) R M a0 x1
def pX9_hasGood (N K : Nat) (M : gM) (a0 : Nat) (R : Int32 → gM → Prop) : Prop := pX9_hasGood_0 N K (qX9_hasGood N K R N) R M a0
def ULX9_hasGood (X : gX) (d mc ms : Nat) (Q : Option Value → gM → Prop) (N K : Nat) (R : Int32 → gM → Prop) (n : Nat) : Prop := (∀ (M : gM) (a0 : Nat) (x1 : Int32), Mo M a0 → qX9_hasGood N K R n 0 M a0 x1 → (∀ (v : Int32) (M1 : gM), Sm M M1 → R v M1 → Q (some (.int v)) M1) → Go X (d + 4) mc ms kX9_hasGood Q 2 [(0, .ref a0), (1, .int (x1))] [] M 0 0)
set_option maxRecDepth 10000 in
theorem ulX9_hasGood {X : gX} {d mc ms : Nat} {Q : Option Value → gM → Prop} {N K : Nat} {R : Int32 → gM → Prop} : ∀ n : Nat, ULX9_hasGood X d mc ms Q N K R n := by
  intro n
  induction n with
  | zero => exact fun _ _ _ _ h _ => h.elim
  | succ n ih =>
    intro M a0 x1 s0 H hR
    rw [qX9_hasGood] at H
    unfold pX9_hasGood_2 at H
    refine g_iload_n 1 3 dX9_hasGood_2 rfl rfl ?_
    refine g_bipush (16) 5 dX9_hasGood_3 rfl rfl ?_
    refine g_icmp_ge 24 8 dX9_hasGood_5 rfl rfl (fun c1 => ?_) (fun c1 => ?_)
    · skip
      replace H := H.1 c1
      refine g_iconst (0) 25 dX9_hasGood_24 rfl rfl ?_
      exact g_zret dX9_hasGood_25 rfl (by decide) (Nat.zero_le _) (Nat.zero_le _) (hR _ _ Sm.rf H)
    · skip
      replace H := H.2 c1
      refine g_aload_n 0 9 dX9_hasGood_8 rfl rfl ?_
      refine g_iload_n 1 10 dX9_hasGood_9 rfl rfl ?_
      refine g_callV (mc1 := 0) (ms1 := 0) (b := a0) (rest := []) (av := [.int (x1)]) kX9_coreOf 13 dX9_hasGood_10 rfl rfl mbX9_353 imX9_coreOf seX9_coreOf gcl9.1 s0.1 (Nat.le_of_ble_eq_true rfl) (Nat.zero_le _) (Nat.zero_le _) (uX9_coreOf (N := N) (K := K) s0 H (fun v1 M1 jj H => ?_))
      have j1 : Sm M M1 := jj
      show Go X (d + 4) mc ms kX9_hasGood Q 13 [(0, .ref a0), (1, .int (x1))] [.int (v1)] M1 0 0
      refine g_if_ne 18 16 dX9_hasGood_13 rfl rfl (fun c2 => ?_) (fun c2 => ?_)
      · skip
        replace H := H.1 c2
        refine g_iinc _ 1 21 [(1, .int ((x1 + 1))), (0, .ref a0)] dX9_hasGood_18 rfl rfl rfl (Nat.le_of_ble_eq_true rfl) rfl ?_
        refine g_goto 2 dX9_hasGood_21 rfl ?_
        exact g_sub [1, 0] _ rfl (ih M1 a0 (x1 + 1) (Mo.sm j1 s0) H (fun v M1 j r => hR v M1 (Sm.tr j1 j) r))
      · skip
        replace H := H.2 c2
        refine g_iconst (1) 17 dX9_hasGood_16 rfl rfl ?_
        exact g_zret dX9_hasGood_17 rfl (by decide) (Nat.zero_le _) (Nat.zero_le _) (hR _ _ j1 H)
set_option maxRecDepth 10000 in
theorem uX9_hasGood {N K : Nat} {X : gX} {d mc ms : Nat} {Q : Option Value → gM → Prop} {M : gM} {a0 : Nat} {R : Int32 → gM → Prop} (s0 : Mo M a0) (H : pX9_hasGood N K M a0 R) (hR : ∀ (v : Int32) (M1 : gM), Sm M M1 → R v M1 → Q (some (.int v)) M1) : Cn X (d + 4) mc ms kX9_hasGood [.ref a0] M Q := by
  have ih := ulX9_hasGood (X := X) (d := d) (mc := mc) (ms := ms) (Q := Q) (N := N) (K := K) (R := R) N
  unfold pX9_hasGood pX9_hasGood_0 at H
  refine g_meth rfl rfl (Nat.le_of_ble_eq_true rfl) rfl ?_
  refine g_iconst (0) 1 dX9_hasGood_0 rfl rfl ?_
  refine g_istore_n 2 [(1, .int (0)), (0, .ref a0)] dX9_hasGood_1 rfl (Nat.le_of_ble_eq_true rfl) rfl ?_
  exact g_sub [1, 0] _ rfl (ih M a0 0 s0 H (fun v M1 j r => hR v M1 j r))
/-! X9_leastSide -/
def pX9_leastSide_0 (N K : Nat) (kp : Nat → gM → Nat → Int32 → Prop) (R : Int32 → gM → Prop) (M : gM) (a0 : Nat) : Prop := ∀ M1 : gM, M1 = (g_wi M (a0 + 2) 31 2) → kp 0 M1 a0 (g_mi M (a0 + 2) 31)
def pX9_leastSide_16 (N K : Nat) (kp : Nat → gM → Nat → Int32 → Prop) (R : Int32 → gM → Prop) (M : gM) (a0 : Nat) (x1 : Int32) : Prop := ((20 < (g_mi M (a0 + 2) 31) → (((g_mi M (a0 + 2) 31) ≤ 20 → ∀ M1 : gM, M1 = (g_wi M (a0 + 2) 31 x1) → R (g_mi M (a0 + 2) 31) M1) ∧ (¬ (g_mi M (a0 + 2) 31) ≤ 20 → ∀ M2 : gM, M2 = (g_wi M (a0 + 2) 31 x1) → R (-1) M2))) ∧ (¬ 20 < (g_mi M (a0 + 2) 31) → pX9_hasGood N K M a0 (fun v1 M3 => ((¬ v1 = 0 → (((g_mi M3 (a0 + 2) 31) ≤ 20 → ∀ M4 : gM, M4 = (g_wi M3 (a0 + 2) 31 x1) → R (g_mi M3 (a0 + 2) 31) M4) ∧ (¬ (g_mi M3 (a0 + 2) 31) ≤ 20 → ∀ M5 : gM, M5 = (g_wi M3 (a0 + 2) 31 x1) → R (-1) M5))) ∧ (v1 = 0 → ∀ M6 : gM, M6 = (g_wi M3 (a0 + 2) 31 ((g_mi M3 (a0 + 2) 31) + 1)) → kp 0 M6 a0 x1)))))
def qX9_leastSide (N K : Nat) (R : Int32 → gM → Prop) : Nat → Nat → gM → Nat → Int32 → Prop
  | 0, _, _, _, _ => False
  | n + 1, _, M, a0, x1 => pX9_leastSide_16 N K (qX9_leastSide N K R n) R M a0 x1
def pX9_leastSide (N K : Nat) (M : gM) (a0 : Nat) (R : Int32 → gM → Prop) : Prop := pX9_leastSide_0 N K (qX9_leastSide N K R N) R M a0
def ULX9_leastSide (X : gX) (d mc ms : Nat) (Q : Option Value → gM → Prop) (N K : Nat) (R : Int32 → gM → Prop) (n : Nat) : Prop := (∀ (M : gM) (a0 : Nat) (x1 : Int32), Mo M a0 → qX9_leastSide N K R n 0 M a0 x1 → (∀ (v : Int32) (M1 : gM), Sm M M1 → R v M1 → Q (some (.int v)) M1) → Go X (d + 5) mc ms kX9_leastSide Q 16 [(0, .ref a0), (1, .int (x1))] [] M 0 0)
set_option maxRecDepth 10000 in
theorem ulX9_leastSide {X : gX} {d mc ms : Nat} {Q : Option Value → gM → Prop} {N K : Nat} {R : Int32 → gM → Prop} : ∀ n : Nat, ULX9_leastSide X d mc ms Q N K R n := by
  intro n
  induction n with
  | zero => exact fun _ _ _ _ h _ => h.elim
  | succ n ih =>
    intro M a0 x1 s0 H hR
    rw [qX9_leastSide] at H
    unfold pX9_leastSide_16 at H
    refine g_aload_n 0 17 dX9_leastSide_16 rfl rfl ?_
    refine g_getR 20 (a0 + 2) dX9_leastSide_17 rfl flX9_28 s0.1 s0.2.2.2.1 ?_
    refine g_bipush (31) 22 dX9_leastSide_20 rfl rfl ?_
    refine h_iaload 23 31 dX9_leastSide_22 rfl rfl s0.2.2.2.2.1 (vp_lit rfl) ?_
    refine g_bipush (20) 25 dX9_leastSide_23 rfl rfl ?_
    refine g_icmp_gt 49 28 dX9_leastSide_25 rfl rfl (fun c1 => ?_) (fun c1 => ?_)
    · skip
      replace H := H.1 c1
      refine g_aload_n 0 50 dX9_leastSide_49 rfl rfl ?_
      refine g_getR 53 (a0 + 2) dX9_leastSide_50 rfl flX9_28 s0.1 s0.2.2.2.1 ?_
      refine g_bipush (31) 55 dX9_leastSide_53 rfl rfl ?_
      refine h_iaload 56 31 dX9_leastSide_55 rfl rfl s0.2.2.2.2.1 (vp_lit rfl) ?_
      refine g_bipush (20) 58 dX9_leastSide_56 rfl rfl ?_
      refine g_icmp_le 65 61 dX9_leastSide_58 rfl rfl (fun c2 => ?_) (fun c2 => ?_)
      · skip
        replace H := H.1 c2
        refine g_aload_n 0 66 dX9_leastSide_65 rfl rfl ?_
        refine g_getR 69 (a0 + 2) dX9_leastSide_66 rfl flX9_28 s0.1 s0.2.2.2.1 ?_
        refine g_bipush (31) 71 dX9_leastSide_69 rfl rfl ?_
        refine h_iaload 72 31 dX9_leastSide_71 rfl rfl s0.2.2.2.2.1 (vp_lit rfl) ?_
        refine g_istore_n 73 [(2, .int ((g_mi M (a0 + 2) 31))), (0, .ref a0), (1, .int (x1))] dX9_leastSide_72 rfl (Nat.le_of_ble_eq_true rfl) rfl ?_
        refine g_aload_n 1 74 dX9_leastSide_73 rfl rfl ?_
        refine g_getR 77 (a0 + 2) dX9_leastSide_74 rfl flX9_28 s0.1 s0.2.2.2.1 ?_
        refine g_bipush (31) 79 dX9_leastSide_77 rfl rfl ?_
        refine g_iload_n 2 80 dX9_leastSide_79 rfl rfl ?_
        refine h_iastore 81 31 dX9_leastSide_80 rfl rfl s0.2.2.2.2.1 (vp_lit rfl) ?_
        generalize hM1 : (g_wi M (a0 + 2) 31 x1) = M1
        have j1 : Sm M M1 := by rw [← hM1]; exact (Sm.wi Sm.rf)
        replace H := H M1 hM1.symm
        refine g_iload_n 0 82 dX9_leastSide_81 rfl rfl ?_
        exact g_iret dX9_leastSide_82 rfl (Nat.zero_le _) (Nat.zero_le _) (hR _ _ j1 H)
      · skip
        replace H := H.2 c2
        refine g_iconst ((-1)) 62 dX9_leastSide_61 rfl rfl ?_
        refine g_goto 72 dX9_leastSide_62 rfl ?_
        refine g_istore_n 73 [(2, .int ((-1))), (0, .ref a0), (1, .int (x1))] dX9_leastSide_72 rfl (Nat.le_of_ble_eq_true rfl) rfl ?_
        refine g_aload_n 1 74 dX9_leastSide_73 rfl rfl ?_
        refine g_getR 77 (a0 + 2) dX9_leastSide_74 rfl flX9_28 s0.1 s0.2.2.2.1 ?_
        refine g_bipush (31) 79 dX9_leastSide_77 rfl rfl ?_
        refine g_iload_n 2 80 dX9_leastSide_79 rfl rfl ?_
        refine h_iastore 81 31 dX9_leastSide_80 rfl rfl s0.2.2.2.2.1 (vp_lit rfl) ?_
        generalize hM2 : (g_wi M (a0 + 2) 31 x1) = M2
        have j2 : Sm M M2 := by rw [← hM2]; exact (Sm.wi Sm.rf)
        replace H := H M2 hM2.symm
        refine g_iload_n 0 82 dX9_leastSide_81 rfl rfl ?_
        exact g_iret dX9_leastSide_82 rfl (Nat.zero_le _) (Nat.zero_le _) (hR _ _ j2 H)
    · skip
      replace H := H.2 c1
      refine g_aload_n 0 29 dX9_leastSide_28 rfl rfl ?_
      refine g_callV (mc1 := 0) (ms1 := 0) (b := a0) (rest := []) (av := []) kX9_hasGood 32 dX9_leastSide_29 rfl rfl mbX9_401 imX9_hasGood seX9_hasGood gcl9.1 s0.1 (Nat.le_of_ble_eq_true rfl) (Nat.zero_le _) (Nat.zero_le _) (uX9_hasGood (N := N) (K := K) s0 H (fun v1 M3 jj H => ?_))
      have j3 : Sm M M3 := jj
      show Go X (d + 5) mc ms kX9_leastSide Q 32 [(0, .ref a0), (1, .int (x1))] [.int (v1)] M3 0 0
      refine g_if_ne 49 35 dX9_leastSide_32 rfl rfl (fun c3 => ?_) (fun c3 => ?_)
      · skip
        replace H := H.1 c3
        refine g_aload_n 0 50 dX9_leastSide_49 rfl rfl ?_
        refine g_getR 53 (a0 + 2) dX9_leastSide_50 rfl flX9_28 (Sm.k j3 s0.1) (Sm.r j3 s0.2.2.2.1) ?_
        refine g_bipush (31) 55 dX9_leastSide_53 rfl rfl ?_
        refine h_iaload 56 31 dX9_leastSide_55 rfl rfl (Sm.k j3 s0.2.2.2.2.1) (vp_lit rfl) ?_
        refine g_bipush (20) 58 dX9_leastSide_56 rfl rfl ?_
        refine g_icmp_le 65 61 dX9_leastSide_58 rfl rfl (fun c4 => ?_) (fun c4 => ?_)
        · skip
          replace H := H.1 c4
          refine g_aload_n 0 66 dX9_leastSide_65 rfl rfl ?_
          refine g_getR 69 (a0 + 2) dX9_leastSide_66 rfl flX9_28 (Sm.k j3 s0.1) (Sm.r j3 s0.2.2.2.1) ?_
          refine g_bipush (31) 71 dX9_leastSide_69 rfl rfl ?_
          refine h_iaload 72 31 dX9_leastSide_71 rfl rfl (Sm.k j3 s0.2.2.2.2.1) (vp_lit rfl) ?_
          refine g_istore_n 73 [(2, .int ((g_mi M3 (a0 + 2) 31))), (0, .ref a0), (1, .int (x1))] dX9_leastSide_72 rfl (Nat.le_of_ble_eq_true rfl) rfl ?_
          refine g_aload_n 1 74 dX9_leastSide_73 rfl rfl ?_
          refine g_getR 77 (a0 + 2) dX9_leastSide_74 rfl flX9_28 (Sm.k j3 s0.1) (Sm.r j3 s0.2.2.2.1) ?_
          refine g_bipush (31) 79 dX9_leastSide_77 rfl rfl ?_
          refine g_iload_n 2 80 dX9_leastSide_79 rfl rfl ?_
          refine h_iastore 81 31 dX9_leastSide_80 rfl rfl (Sm.k j3 s0.2.2.2.2.1) (vp_lit rfl) ?_
          generalize hM4 : (g_wi M3 (a0 + 2) 31 x1) = M4
          have j4 : Sm M M4 := by rw [← hM4]; exact (Sm.wi j3)
          replace H := H M4 hM4.symm
          refine g_iload_n 0 82 dX9_leastSide_81 rfl rfl ?_
          exact g_iret dX9_leastSide_82 rfl (Nat.zero_le _) (Nat.zero_le _) (hR _ _ j4 H)
        · skip
          replace H := H.2 c4
          refine g_iconst ((-1)) 62 dX9_leastSide_61 rfl rfl ?_
          refine g_goto 72 dX9_leastSide_62 rfl ?_
          refine g_istore_n 73 [(2, .int ((-1))), (0, .ref a0), (1, .int (x1))] dX9_leastSide_72 rfl (Nat.le_of_ble_eq_true rfl) rfl ?_
          refine g_aload_n 1 74 dX9_leastSide_73 rfl rfl ?_
          refine g_getR 77 (a0 + 2) dX9_leastSide_74 rfl flX9_28 (Sm.k j3 s0.1) (Sm.r j3 s0.2.2.2.1) ?_
          refine g_bipush (31) 79 dX9_leastSide_77 rfl rfl ?_
          refine g_iload_n 2 80 dX9_leastSide_79 rfl rfl ?_
          refine h_iastore 81 31 dX9_leastSide_80 rfl rfl (Sm.k j3 s0.2.2.2.2.1) (vp_lit rfl) ?_
          generalize hM5 : (g_wi M3 (a0 + 2) 31 x1) = M5
          have j5 : Sm M M5 := by rw [← hM5]; exact (Sm.wi j3)
          replace H := H M5 hM5.symm
          refine g_iload_n 0 82 dX9_leastSide_81 rfl rfl ?_
          exact g_iret dX9_leastSide_82 rfl (Nat.zero_le _) (Nat.zero_le _) (hR _ _ j5 H)
      · skip
        replace H := H.2 c3
        refine g_aload_n 0 36 dX9_leastSide_35 rfl rfl ?_
        refine g_getR 39 (a0 + 2) dX9_leastSide_36 rfl flX9_28 (Sm.k j3 s0.1) (Sm.r j3 s0.2.2.2.1) ?_
        refine g_bipush (31) 41 dX9_leastSide_39 rfl rfl ?_
        refine g_dup2 42 dX9_leastSide_41 rfl rfl rfl ?_
        refine h_iaload 43 31 dX9_leastSide_42 rfl rfl (Sm.k j3 s0.2.2.2.2.1) (vp_lit rfl) ?_
        refine g_iconst (1) 44 dX9_leastSide_43 rfl rfl ?_
        refine g_iadd 45 dX9_leastSide_44 rfl ?_
        refine h_iastore 46 31 dX9_leastSide_45 rfl rfl (Sm.k j3 s0.2.2.2.2.1) (vp_lit rfl) ?_
        generalize hM6 : (g_wi M3 (a0 + 2) 31 ((g_mi M3 (a0 + 2) 31) + 1)) = M6
        have j6 : Sm M M6 := by rw [← hM6]; exact (Sm.wi j3)
        replace H := H M6 hM6.symm
        refine g_goto 16 dX9_leastSide_46 rfl ?_
        exact ih M6 a0 x1 (Mo.sm j6 s0) H (fun v M1 j r => hR v M1 (Sm.tr j6 j) r)
set_option maxRecDepth 10000 in
theorem uX9_leastSide {N K : Nat} {X : gX} {d mc ms : Nat} {Q : Option Value → gM → Prop} {M : gM} {a0 : Nat} {R : Int32 → gM → Prop} (s0 : Mo M a0) (H : pX9_leastSide N K M a0 R) (hR : ∀ (v : Int32) (M1 : gM), Sm M M1 → R v M1 → Q (some (.int v)) M1) : Cn X (d + 5) mc ms kX9_leastSide [.ref a0] M Q := by
  have ih := ulX9_leastSide (X := X) (d := d) (mc := mc) (ms := ms) (Q := Q) (N := N) (K := K) (R := R) N
  unfold pX9_leastSide pX9_leastSide_0 at H
  refine g_meth rfl rfl (Nat.le_of_ble_eq_true rfl) rfl ?_
  refine g_aload_n 0 1 dX9_leastSide_0 rfl rfl ?_
  refine g_getR 4 (a0 + 2) dX9_leastSide_1 rfl flX9_28 s0.1 s0.2.2.2.1 ?_
  refine g_bipush (31) 6 dX9_leastSide_4 rfl rfl ?_
  refine h_iaload 7 31 dX9_leastSide_6 rfl rfl s0.2.2.2.2.1 (vp_lit rfl) ?_
  refine g_istore_n 8 [(1, .int ((g_mi M (a0 + 2) 31))), (0, .ref a0)] dX9_leastSide_7 rfl (Nat.le_of_ble_eq_true rfl) rfl ?_
  refine g_aload_n 1 9 dX9_leastSide_8 rfl rfl ?_
  refine g_getR 12 (a0 + 2) dX9_leastSide_9 rfl flX9_28 s0.1 s0.2.2.2.1 ?_
  refine g_bipush (31) 14 dX9_leastSide_12 rfl rfl ?_
  refine g_iconst (2) 15 dX9_leastSide_14 rfl rfl ?_
  refine h_iastore 16 31 dX9_leastSide_15 rfl rfl s0.2.2.2.2.1 (vp_lit rfl) ?_
  generalize hM1 : (g_wi M (a0 + 2) 31 2) = M1
  have j1 : Sm M M1 := by rw [← hM1]; exact (Sm.wi Sm.rf)
  replace H := H M1 hM1.symm
  exact g_sub [1, 0] _ rfl (ih M1 a0 (g_mi M (a0 + 2) 31) (Mo.sm j1 s0) H (fun v M1 j r => hR v M1 (Sm.tr j1 j) r))
/-! X9_ownOf -/
def pX9_ownOf (N K : Nat) (M : gM) (a0 : Nat) (x1 : Int32) (R : Int32 → Prop) : Prop := pX9_together N K M a0 x1 67 (fun v1 => (EX9_vertexOf M x1 (i_rm v1 3) (g_mi M (a0 + 2) 35) (g_mi M (a0 + 2) 34)) ∧ ∀ v2 : Int32, v2 = (fX9_vertexOf x1 (i_rm v1 3) (g_mi M (a0 + 2) 35) (g_mi M (a0 + 2) 34)) → R v2)
set_option maxRecDepth 10000 in
theorem uX9_ownOf {N K : Nat} {X : gX} {d mc ms : Nat} {Q : Option Value → gM → Prop} {M : gM} {a0 : Nat} {x1 : Int32} {R : Int32 → Prop} (s0 : Mo M a0) (H : pX9_ownOf N K M a0 x1 R) (hR : ∀ (v : Int32), R v → Q (some (.int v)) M) : Cn X (d + 2) mc ms kX9_ownOf [.ref a0, .int (x1)] M Q := by
  unfold pX9_ownOf at H
  refine g_meth rfl rfl (Nat.le_of_ble_eq_true rfl) rfl ?_
  refine g_aload_n 0 1 dX9_ownOf_0 rfl rfl ?_
  refine g_iload_n 1 2 dX9_ownOf_1 rfl rfl ?_
  refine g_bipush (67) 4 dX9_ownOf_2 rfl rfl ?_
  refine g_callV (mc1 := 0) (ms1 := 0) (b := a0) (rest := []) (av := [.int (x1), .int (67)]) kX9_together 7 dX9_ownOf_4 rfl rfl mbX9_350 imX9_together seX9_together gcl9.1 s0.1 (Nat.le_of_ble_eq_true rfl) (Nat.zero_le _) (Nat.zero_le _) (uX9_together (N := N) (K := K) s0 H (fun v1 H => ?_))
  show Go X (d + 2) mc ms kX9_ownOf Q 7 [(0, .ref a0), (1, .int (x1))] [.int (v1)] M 0 0
  refine g_iconst (3) 8 dX9_ownOf_7 rfl rfl ?_
  refine h_irem 9 dX9_ownOf_8 rfl (by decide) ?_
  refine g_istore_n 10 [(2, .int ((i_rm v1 3))), (0, .ref a0), (1, .int (x1))] dX9_ownOf_9 rfl (Nat.le_of_ble_eq_true rfl) rfl ?_
  refine g_iload_n 2 11 dX9_ownOf_10 rfl rfl ?_
  refine g_iload_n 0 12 dX9_ownOf_11 rfl rfl ?_
  refine g_aload_n 1 13 dX9_ownOf_12 rfl rfl ?_
  refine g_getR 16 (a0 + 2) dX9_ownOf_13 rfl flX9_28 s0.1 s0.2.2.2.1 ?_
  refine g_bipush (35) 18 dX9_ownOf_16 rfl rfl ?_
  refine h_iaload 19 35 dX9_ownOf_18 rfl rfl s0.2.2.2.2.1 (vp_lit rfl) ?_
  refine g_aload_n 1 20 dX9_ownOf_19 rfl rfl ?_
  refine g_getR 23 (a0 + 2) dX9_ownOf_20 rfl flX9_28 s0.1 s0.2.2.2.1 ?_
  refine g_bipush (34) 25 dX9_ownOf_23 rfl rfl ?_
  refine h_iaload 26 34 dX9_ownOf_25 rfl rfl s0.2.2.2.2.1 (vp_lit rfl) ?_
  obtain ⟨b1, H⟩ := H
  refine g_callS (mc1 := 0) (ms1 := 0) (rest := []) (av := [.int (x1), .int ((i_rm v1 3)), .int ((g_mi M (a0 + 2) 35)), .int ((g_mi M (a0 + 2) 34))]) kX9_vertexOf 29 dX9_ownOf_26 rfl rfl mbX9_115 smX9_vertexOf (Nat.le_of_ble_eq_true rfl) (Nat.zero_le _) (Nat.zero_le _) (tX9_vertexOf b1 ?_)
  show Go X (d + 2) mc ms kX9_ownOf Q 29 [(2, .int ((i_rm v1 3))), (0, .ref a0), (1, .int (x1))] [.int ((fX9_vertexOf x1 (i_rm v1 3) (g_mi M (a0 + 2) 35) (g_mi M (a0 + 2) 34)))] M 0 0
  generalize hv2 : (fX9_vertexOf x1 (i_rm v1 3) (g_mi M (a0 + 2) 35) (g_mi M (a0 + 2) 34)) = v2
  replace H := H v2 hv2.symm
  exact g_iret dX9_ownOf_29 rfl (Nat.zero_le _) (Nat.zero_le _) (hR _ H)
