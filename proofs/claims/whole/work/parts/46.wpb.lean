/-! X4_valueOf -/
def pX4_valueOf_0 (N K : Nat) (kp : Nat → gM → Nat → Nat → Nat → Nat → Int32 → Int32 → Int32 → Prop) (R : Int32 → gM → Prop) (M : gM) (a0 : Nat) (a1 : Nat) (n1 : Nat) (m1 : Nat) (x2 : Int32) : Prop := kp 0 M a0 a1 n1 m1 0 x2 0
def pX4_valueOf_8 (N K : Nat) (kp : Nat → gM → Nat → Nat → Nat → Nat → Int32 → Int32 → Int32 → Prop) (R : Int32 → gM → Prop) (M : gM) (a0 : Nat) (a1 : Nat) (n1 : Nat) (m1 : Nat) (x3 : Int32) (x4 : Int32) (x5 : Int32) : Prop := ((460 ≤ x5 → ((¬ x3 = 1 → R (-2147483648) M) ∧ (x3 = 1 → R (g_mi M (a0 + 2) 0) M))) ∧ (¬ 460 ≤ x5 → ((x4 < 0 → ((¬ x3 = 1 → R (-2147483648) M) ∧ (x3 = 1 → R (g_mi M (a0 + 2) 0) M))) ∧ (¬ x4 < 0 → (((g_mi M a1 7) ≤ x4 → ((¬ x3 = 1 → R (-2147483648) M) ∧ (x3 = 1 → R (g_mi M (a0 + 2) 0) M))) ∧ (¬ (g_mi M a1 7) ≤ x4 → (vp_in (x4) m1) ∧ ((¬ (g_mi M (a1 + 5) (x4).toNatClampNeg) = 0 → (((g_mi M (a1 + 5) (x4).toNatClampNeg) = 1 → ((51 ≤ x3 → R (-2147483648) M) ∧ (¬ 51 ≤ x3 → (((g_mi M (a1 + 6) (x4).toNatClampNeg) < 0 → R (-2147483648) M) ∧ (¬ (g_mi M (a1 + 6) (x4).toNatClampNeg) < 0 → (vp_in (x3) 51) ∧ ∀ M1 : gM, M1 = (g_wi M (a0 + 2) (x3).toNatClampNeg (g_mi M (a1 + 6) (x4).toNatClampNeg)) → kp 0 M1 a0 a1 n1 m1 (x3 + 1) (x4 + 1) (x5 + 1)))))) ∧ (¬ (g_mi M (a1 + 5) (x4).toNatClampNeg) = 1 → ((¬ (g_mi M (a1 + 5) (x4).toNatClampNeg) = 2 → ((1 ≤ x3 → ((¬ (g_mi M (a1 + 5) (x4).toNatClampNeg) = 3 → (((g_mi M (a1 + 5) (x4).toNatClampNeg) = 4 → (vp_in ((x3 - 1)) 51) ∧ ((¬ (g_mi M (a0 + 2) ((x3 - 1)).toNatClampNeg) = 0 → kp 0 M a0 a1 n1 m1 (x3 + (-1)) (x4 + 1) (x5 + 1)) ∧ ((g_mi M (a0 + 2) ((x3 - 1)).toNatClampNeg) = 0 → kp 0 M a0 a1 n1 m1 x3 (g_mi M (a1 + 6) (x4).toNatClampNeg) (x5 + 1)))) ∧ (¬ (g_mi M (a1 + 5) (x4).toNatClampNeg) = 4 → ((¬ (g_mi M (a1 + 5) (x4).toNatClampNeg) = 5 → ((1 ≤ (x3 + (-1)) → (vp_in (((x3 + (-1)) - 1)) 51) ∧ (vp_in ((x3 + (-1))) 51) ∧ (EX4_combined M (g_mi M (a1 + 5) (x4).toNatClampNeg) (g_mi M (a0 + 2) (((x3 + (-1)) - 1)).toNatClampNeg) (g_mi M (a0 + 2) ((x3 + (-1))).toNatClampNeg)) ∧ ∀ v1 : Int32, v1 = (fX4_combined (g_mi M (a1 + 5) (x4).toNatClampNeg) (g_mi M (a0 + 2) (((x3 + (-1)) - 1)).toNatClampNeg) (g_mi M (a0 + 2) ((x3 + (-1))).toNatClampNeg)) → ((¬ v1 = (-2147483648) → ∀ M2 : gM, M2 = (g_wi M (a0 + 2) (((x3 + (-1)) - 1)).toNatClampNeg v1) → kp 0 M2 a0 a1 n1 m1 (x3 + (-1)) (x4 + 1) (x5 + 1)) ∧ (v1 = (-2147483648) → R (-2147483648) M))) ∧ (¬ 1 ≤ (x3 + (-1)) → R (-2147483648) M))) ∧ ((g_mi M (a1 + 5) (x4).toNatClampNeg) = 5 → (vp_in ((x3 - 1)) 51) ∧ ((¬ (g_mi M (a0 + 2) ((x3 - 1)).toNatClampNeg) = 1 → kp 0 M a0 a1 n1 m1 (x3 + (-1)) (x4 + 1) (x5 + 1)) ∧ ((g_mi M (a0 + 2) ((x3 - 1)).toNatClampNeg) = 1 → kp 0 M a0 a1 n1 m1 x3 (g_mi M (a1 + 6) (x4).toNatClampNeg) (x5 + 1)))))))) ∧ ((g_mi M (a1 + 5) (x4).toNatClampNeg) = 3 → (vp_in ((x3 - 1)) 51) ∧ ∀ M3 : gM, M3 = (g_wi M (a0 + 2) ((x3 - 1)).toNatClampNeg (1 - (g_mi M (a0 + 2) ((x3 - 1)).toNatClampNeg))) → kp 0 M3 a0 a1 n1 m1 x3 (x4 + 1) (x5 + 1)))) ∧ (¬ 1 ≤ x3 → R (-2147483648) M))) ∧ ((g_mi M (a1 + 5) (x4).toNatClampNeg) = 2 → ((51 ≤ x3 → R (-2147483648) M) ∧ (¬ 51 ≤ x3 → (((g_mi M (a1 + 6) (x4).toNatClampNeg) < 0 → R (-2147483648) M) ∧ (¬ (g_mi M (a1 + 6) (x4).toNatClampNeg) < 0 → (((g_mi M (a1 + 6) (x4).toNatClampNeg) < 60 → (vp_in ((g_mi M (a1 + 6) (x4).toNatClampNeg)) 60) ∧ (vp_in (x3) 51) ∧ ∀ M4 : gM, M4 = (g_wi M (a0 + 2) (x3).toNatClampNeg (g_mi M (a0 + 1) ((g_mi M (a1 + 6) (x4).toNatClampNeg)).toNatClampNeg)) → kp 0 M4 a0 a1 n1 m1 (x3 + 1) (x4 + 1) (x5 + 1)) ∧ (¬ (g_mi M (a1 + 6) (x4).toNatClampNeg) < 60 → R (-2147483648) M))))))))))) ∧ ((g_mi M (a1 + 5) (x4).toNatClampNeg) = 0 → ((¬ x3 = 1 → R (-2147483648) M) ∧ (x3 = 1 → R (g_mi M (a0 + 2) 0) M))))))))))
def qX4_valueOf (N K : Nat) (R : Int32 → gM → Prop) : Nat → Nat → gM → Nat → Nat → Nat → Nat → Int32 → Int32 → Int32 → Prop
  | 0, _, _, _, _, _, _, _, _, _ => False
  | n + 1, _, M, a0, a1, n1, m1, x3, x4, x5 => pX4_valueOf_8 N K (qX4_valueOf N K R n) R M a0 a1 n1 m1 x3 x4 x5
def pX4_valueOf (N K : Nat) (M : gM) (a0 : Nat) (a1 : Nat) (n1 : Nat) (m1 : Nat) (x2 : Int32) (R : Int32 → gM → Prop) : Prop := pX4_valueOf_0 N K (qX4_valueOf N K R N) R M a0 a1 n1 m1 x2
def ULX4_valueOf (X : gX) (d mc ms : Nat) (Q : Option Value → gM → Prop) (N K : Nat) (R : Int32 → gM → Prop) (n : Nat) : Prop := (∀ (M : gM) (a0 : Nat) (a1 : Nat) (n1 : Nat) (m1 : Nat) (x3 : Int32) (x4 : Int32) (x5 : Int32), Su M a0 → Tx M a1 n1 m1 → qX4_valueOf N K R n 0 M a0 a1 n1 m1 x3 x4 x5 → (∀ (v : Int32) (M1 : gM), Sm M M1 → R v M1 → Q (some (.int v)) M1) → Go X (d + 1) mc ms kX4_valueOf Q 8 [(0, .ref a0), (1, .ref a1), (3, .int (x3)), (4, .int (x4)), (5, .int (x5))] [] M 0 0)
set_option maxRecDepth 10000 in
theorem ulX4_valueOf {X : gX} {d mc ms : Nat} {Q : Option Value → gM → Prop} {N K : Nat} {R : Int32 → gM → Prop} : ∀ n : Nat, ULX4_valueOf X d mc ms Q N K R n := by
  intro n
  induction n with
  | zero => exact fun _ _ _ _ _ _ _ _ _ _ h _ => h.elim
  | succ n ih =>
    intro M a0 a1 n1 m1 x3 x4 x5 s0 s1 H hR
    rw [qX4_valueOf] at H
    unfold pX4_valueOf_8 at H
    refine g_iload 4 10 dX4_valueOf_8 rfl rfl ?_
    refine g_sipush (460) 13 dX4_valueOf_10 rfl rfl ?_
    refine g_icmp_ge 276 16 dX4_valueOf_13 rfl rfl (fun c1 => ?_) (fun c1 => ?_)
    · skip
      replace H := H.1 c1
      refine g_iload_n 2 277 dX4_valueOf_276 rfl rfl ?_
      refine g_iconst (1) 278 dX4_valueOf_277 rfl rfl ?_
      refine g_icmp_ne 290 281 dX4_valueOf_278 rfl rfl (fun c2 => ?_) (fun c2 => ?_)
      · skip
        replace H := H.1 c2
        refine g_ldc ((-2147483648)) 292 dX4_valueOf_290 rfl q2_181 ?_
        exact g_iret dX4_valueOf_292 rfl (Nat.zero_le _) (Nat.zero_le _) (hR _ _ Sm.rf H)
      · skip
        replace H := H.2 c2
        refine g_aload_n 0 282 dX4_valueOf_281 rfl rfl ?_
        refine g_getR 285 (a0 + 2) dX4_valueOf_282 rfl flX4_15 s0.1 s0.2.2.2.1 ?_
        refine g_iconst (0) 286 dX4_valueOf_285 rfl rfl ?_
        refine h_iaload 287 0 dX4_valueOf_286 rfl rfl s0.2.2.2.2 (vp_lit rfl) ?_
        refine g_goto 292 dX4_valueOf_287 rfl ?_
        exact g_iret dX4_valueOf_292 rfl (Nat.zero_le _) (Nat.zero_le _) (hR _ _ Sm.rf H)
    · skip
      replace H := H.2 c1
      refine g_iload 3 18 dX4_valueOf_16 rfl rfl ?_
      refine g_if_lt 276 21 dX4_valueOf_18 rfl rfl (fun c3 => ?_) (fun c3 => ?_)
      · skip
        replace H := H.1 c3
        refine g_iload_n 2 277 dX4_valueOf_276 rfl rfl ?_
        refine g_iconst (1) 278 dX4_valueOf_277 rfl rfl ?_
        refine g_icmp_ne 290 281 dX4_valueOf_278 rfl rfl (fun c4 => ?_) (fun c4 => ?_)
        · skip
          replace H := H.1 c4
          refine g_ldc ((-2147483648)) 292 dX4_valueOf_290 rfl q2_181 ?_
          exact g_iret dX4_valueOf_292 rfl (Nat.zero_le _) (Nat.zero_le _) (hR _ _ Sm.rf H)
        · skip
          replace H := H.2 c4
          refine g_aload_n 0 282 dX4_valueOf_281 rfl rfl ?_
          refine g_getR 285 (a0 + 2) dX4_valueOf_282 rfl flX4_15 s0.1 s0.2.2.2.1 ?_
          refine g_iconst (0) 286 dX4_valueOf_285 rfl rfl ?_
          refine h_iaload 287 0 dX4_valueOf_286 rfl rfl s0.2.2.2.2 (vp_lit rfl) ?_
          refine g_goto 292 dX4_valueOf_287 rfl ?_
          exact g_iret dX4_valueOf_292 rfl (Nat.zero_le _) (Nat.zero_le _) (hR _ _ Sm.rf H)
      · skip
        replace H := H.2 c3
        refine g_iload 3 23 dX4_valueOf_21 rfl rfl ?_
        refine g_aload_n 1 24 dX4_valueOf_23 rfl rfl ?_
        refine g_getI 27 dX4_valueOf_24 rfl flX4_53 s1.1 ?_
        refine g_icmp_ge 276 30 dX4_valueOf_27 rfl rfl (fun c5 => ?_) (fun c5 => ?_)
        · skip
          replace H := H.1 c5
          refine g_iload_n 2 277 dX4_valueOf_276 rfl rfl ?_
          refine g_iconst (1) 278 dX4_valueOf_277 rfl rfl ?_
          refine g_icmp_ne 290 281 dX4_valueOf_278 rfl rfl (fun c6 => ?_) (fun c6 => ?_)
          · skip
            replace H := H.1 c6
            refine g_ldc ((-2147483648)) 292 dX4_valueOf_290 rfl q2_181 ?_
            exact g_iret dX4_valueOf_292 rfl (Nat.zero_le _) (Nat.zero_le _) (hR _ _ Sm.rf H)
          · skip
            replace H := H.2 c6
            refine g_aload_n 0 282 dX4_valueOf_281 rfl rfl ?_
            refine g_getR 285 (a0 + 2) dX4_valueOf_282 rfl flX4_15 s0.1 s0.2.2.2.1 ?_
            refine g_iconst (0) 286 dX4_valueOf_285 rfl rfl ?_
            refine h_iaload 287 0 dX4_valueOf_286 rfl rfl s0.2.2.2.2 (vp_lit rfl) ?_
            refine g_goto 292 dX4_valueOf_287 rfl ?_
            exact g_iret dX4_valueOf_292 rfl (Nat.zero_le _) (Nat.zero_le _) (hR _ _ Sm.rf H)
        · skip
          replace H := H.2 c5
          refine g_aload_n 1 31 dX4_valueOf_30 rfl rfl ?_
          refine g_getR 34 (a1 + 5) dX4_valueOf_31 rfl flX4_56 s1.1 s1.2.2.2.2.2.2.2.2.2.1 ?_
          refine g_iload 3 36 dX4_valueOf_34 rfl rfl ?_
          obtain ⟨b1, H⟩ := H
          refine h_iaload 37 (x4).toNatClampNeg dX4_valueOf_36 rfl rfl s1.2.2.2.2.2.2.2.2.2.2.1 b1 ?_
          refine g_istore 39 [(6, .int ((g_mi M (a1 + 5) (x4).toNatClampNeg))), (0, .ref a0), (1, .ref a1), (3, .int (x3)), (4, .int (x4)), (5, .int (x5))] dX4_valueOf_37 rfl (Nat.le_of_ble_eq_true rfl) rfl ?_
          refine g_aload_n 2 40 dX4_valueOf_39 rfl rfl ?_
          refine g_getR 43 (a1 + 6) dX4_valueOf_40 rfl flX4_59 s1.1 s1.2.2.2.2.2.2.2.2.2.2.2.1 ?_
          refine g_iload 4 45 dX4_valueOf_43 rfl rfl ?_
          refine h_iaload 46 (x4).toNatClampNeg dX4_valueOf_45 rfl rfl s1.2.2.2.2.2.2.2.2.2.2.2.2 b1 ?_
          refine g_istore 48 [(7, .int ((g_mi M (a1 + 6) (x4).toNatClampNeg))), (6, .int ((g_mi M (a1 + 5) (x4).toNatClampNeg))), (0, .ref a0), (1, .ref a1), (3, .int (x3)), (4, .int (x4)), (5, .int (x5))] dX4_valueOf_46 rfl (Nat.le_of_ble_eq_true rfl) rfl ?_
          refine g_iinc _ 5 51 [(4, .int ((x4 + 1))), (7, .int ((g_mi M (a1 + 6) (x4).toNatClampNeg))), (6, .int ((g_mi M (a1 + 5) (x4).toNatClampNeg))), (0, .ref a0), (1, .ref a1), (3, .int (x3)), (5, .int (x5))] dX4_valueOf_48 rfl rfl rfl (Nat.le_of_ble_eq_true rfl) rfl ?_
          refine g_iload 2 53 dX4_valueOf_51 rfl rfl ?_
          refine g_if_ne 59 56 dX4_valueOf_53 rfl rfl (fun c7 => ?_) (fun c7 => ?_)
          · skip
            replace H := H.1 c7
            refine g_iload 2 61 dX4_valueOf_59 rfl rfl ?_
            refine g_iconst (1) 62 dX4_valueOf_61 rfl rfl ?_
            refine g_icmp_eq 71 65 dX4_valueOf_62 rfl rfl (fun c8 => ?_) (fun c8 => ?_)
            · skip
              replace H := H.1 c8
              refine g_iload_n 5 72 dX4_valueOf_71 rfl rfl ?_
              refine g_aload_n 3 73 dX4_valueOf_72 rfl rfl ?_
              refine g_getR 76 (a0 + 2) dX4_valueOf_73 rfl flX4_15 s0.1 s0.2.2.2.1 ?_
              refine g_alen (t := 0) 77 dX4_valueOf_76 rfl s0.2.2.2.2 (by decide) rfl ?_
              refine g_icmp_ge 101 80 dX4_valueOf_77 rfl rfl (fun c9 => ?_) (fun c9 => ?_)
              · skip
                replace H := H.1 c9
                refine g_ldc ((-2147483648)) 103 dX4_valueOf_101 rfl q2_181 ?_
                exact g_iret dX4_valueOf_103 rfl (Nat.zero_le _) (Nat.zero_le _) (hR _ _ Sm.rf H)
              · skip
                replace H := H.2 c9
                refine g_iload 1 82 dX4_valueOf_80 rfl rfl ?_
                refine g_if_lt 101 85 dX4_valueOf_82 rfl rfl (fun c10 => ?_) (fun c10 => ?_)
                · skip
                  replace H := H.1 c10
                  refine g_ldc ((-2147483648)) 103 dX4_valueOf_101 rfl q2_181 ?_
                  exact g_iret dX4_valueOf_103 rfl (Nat.zero_le _) (Nat.zero_le _) (hR _ _ Sm.rf H)
                · skip
                  replace H := H.2 c10
                  refine g_iload 2 87 dX4_valueOf_85 rfl rfl ?_
                  refine g_iconst (2) 88 dX4_valueOf_87 rfl rfl ?_
                  refine g_icmp_ne 104 91 dX4_valueOf_88 rfl rfl (fun _ => ?_) (fun q => absurd (c8.symm.trans q) (by decide))
                  refine g_aload_n 3 105 dX4_valueOf_104 rfl rfl ?_
                  refine g_getR 108 (a0 + 2) dX4_valueOf_105 rfl flX4_15 s0.1 s0.2.2.2.1 ?_
                  refine g_iload_n 5 109 dX4_valueOf_108 rfl rfl ?_
                  refine g_iload 2 111 dX4_valueOf_109 rfl rfl ?_
                  refine g_iconst (1) 112 dX4_valueOf_111 rfl rfl ?_
                  refine g_icmp_ne 120 115 dX4_valueOf_112 rfl rfl (fun q => absurd c8 q) (fun _ => ?_)
                  refine g_iload 1 117 dX4_valueOf_115 rfl rfl ?_
                  refine g_goto 127 dX4_valueOf_117 rfl ?_
                  obtain ⟨b2, H⟩ := H
                  refine h_iastore 128 (x3).toNatClampNeg dX4_valueOf_127 rfl rfl s0.2.2.2.2 b2 ?_
                  generalize hM1 : (g_wi M (a0 + 2) (x3).toNatClampNeg (g_mi M (a1 + 6) (x4).toNatClampNeg)) = M1
                  have j1 : Sm M M1 := by rw [← hM1]; exact (Sm.wi Sm.rf)
                  replace H := H M1 hM1.symm
                  refine g_iinc _ 5 131 [(3, .int ((x3 + 1))), (4, .int ((x4 + 1))), (7, .int ((g_mi M (a1 + 6) (x4).toNatClampNeg))), (6, .int ((g_mi M (a1 + 5) (x4).toNatClampNeg))), (0, .ref a0), (1, .ref a1), (5, .int (x5))] dX4_valueOf_128 rfl rfl rfl (Nat.le_of_ble_eq_true rfl) rfl ?_
                  refine g_goto 270 dX4_valueOf_131 rfl ?_
                  refine g_iinc _ 6 273 [(5, .int ((x5 + 1))), (3, .int ((x3 + 1))), (4, .int ((x4 + 1))), (7, .int ((g_mi M (a1 + 6) (x4).toNatClampNeg))), (6, .int ((g_mi M (a1 + 5) (x4).toNatClampNeg))), (0, .ref a0), (1, .ref a1)] dX4_valueOf_270 rfl rfl rfl (Nat.le_of_ble_eq_true rfl) rfl ?_
                  refine g_goto 8 dX4_valueOf_273 rfl ?_
                  exact g_sub [5, 6, 1, 2, 0] _ rfl (ih M1 a0 a1 n1 m1 (x3 + 1) (x4 + 1) (x5 + 1) (Su.sm j1 s0) (Tx.sm j1 s1) H (fun v M1 j r => hR v M1 (Sm.tr j1 j) r))
            · skip
              replace H := H.2 c8
              refine g_iload 2 67 dX4_valueOf_65 rfl rfl ?_
              refine g_iconst (2) 68 dX4_valueOf_67 rfl rfl ?_
              refine g_icmp_ne 134 71 dX4_valueOf_68 rfl rfl (fun c11 => ?_) (fun c11 => ?_)
              · skip
                replace H := H.1 c11
                refine g_iload_n 5 135 dX4_valueOf_134 rfl rfl ?_
                refine g_iconst (1) 136 dX4_valueOf_135 rfl rfl ?_
                refine g_icmp_ge 142 139 dX4_valueOf_136 rfl rfl (fun c12 => ?_) (fun c12 => ?_)
                · skip
                  replace H := H.1 c12
                  refine g_iload 2 144 dX4_valueOf_142 rfl rfl ?_
                  refine g_iconst (3) 145 dX4_valueOf_144 rfl rfl ?_
                  refine g_icmp_ne 169 148 dX4_valueOf_145 rfl rfl (fun c13 => ?_) (fun c13 => ?_)
                  · skip
                    replace H := H.1 c13
                    refine g_iload 2 171 dX4_valueOf_169 rfl rfl ?_
                    refine g_iconst (4) 172 dX4_valueOf_171 rfl rfl ?_
                    refine g_icmp_eq 181 175 dX4_valueOf_172 rfl rfl (fun c14 => ?_) (fun c14 => ?_)
                    · skip
                      replace H := H.1 c14
                      refine g_aload_n 3 182 dX4_valueOf_181 rfl rfl ?_
                      refine g_getR 185 (a0 + 2) dX4_valueOf_182 rfl flX4_15 s0.1 s0.2.2.2.1 ?_
                      refine g_iload_n 5 186 dX4_valueOf_185 rfl rfl ?_
                      refine g_iconst (1) 187 dX4_valueOf_186 rfl rfl ?_
                      refine g_isub 188 dX4_valueOf_187 rfl ?_
                      obtain ⟨b3, H⟩ := H
                      refine h_iaload 189 ((x3 - 1)).toNatClampNeg dX4_valueOf_188 rfl rfl s0.2.2.2.2 b3 ?_
                      refine g_iload 2 191 dX4_valueOf_189 rfl rfl ?_
                      refine g_iconst (5) 192 dX4_valueOf_191 rfl rfl ?_
                      refine g_icmp_ne 199 195 dX4_valueOf_192 rfl rfl (fun _ => ?_) (fun q => absurd (c14.symm.trans q) (by decide))
                      refine g_iconst (0) 200 dX4_valueOf_199 rfl rfl ?_
                      refine g_icmp_ne 210 203 dX4_valueOf_200 rfl rfl (fun c15 => ?_) (fun c15 => ?_)
                      · skip
                        replace H := H.1 c15
                        refine g_iinc _ 5 213 [(3, .int ((x3 + (-1)))), (4, .int ((x4 + 1))), (7, .int ((g_mi M (a1 + 6) (x4).toNatClampNeg))), (6, .int ((g_mi M (a1 + 5) (x4).toNatClampNeg))), (0, .ref a0), (1, .ref a1), (5, .int (x5))] dX4_valueOf_210 rfl rfl rfl (Nat.le_of_ble_eq_true rfl) rfl ?_
                        refine g_goto 270 dX4_valueOf_213 rfl ?_
                        refine g_iinc _ 6 273 [(5, .int ((x5 + 1))), (3, .int ((x3 + (-1)))), (4, .int ((x4 + 1))), (7, .int ((g_mi M (a1 + 6) (x4).toNatClampNeg))), (6, .int ((g_mi M (a1 + 5) (x4).toNatClampNeg))), (0, .ref a0), (1, .ref a1)] dX4_valueOf_270 rfl rfl rfl (Nat.le_of_ble_eq_true rfl) rfl ?_
                        refine g_goto 8 dX4_valueOf_273 rfl ?_
                        exact g_sub [5, 6, 1, 2, 0] _ rfl (ih M a0 a1 n1 m1 (x3 + (-1)) (x4 + 1) (x5 + 1) s0 s1 H (fun v M1 j r => hR v M1 j r))
                      · skip
                        replace H := H.2 c15
                        refine g_iload 1 205 dX4_valueOf_203 rfl rfl ?_
                        refine g_istore 207 [(4, .int ((g_mi M (a1 + 6) (x4).toNatClampNeg))), (7, .int ((g_mi M (a1 + 6) (x4).toNatClampNeg))), (6, .int ((g_mi M (a1 + 5) (x4).toNatClampNeg))), (0, .ref a0), (1, .ref a1), (3, .int (x3)), (5, .int (x5))] dX4_valueOf_205 rfl (Nat.le_of_ble_eq_true rfl) rfl ?_
                        refine g_goto 270 dX4_valueOf_207 rfl ?_
                        refine g_iinc _ 6 273 [(5, .int ((x5 + 1))), (4, .int ((g_mi M (a1 + 6) (x4).toNatClampNeg))), (7, .int ((g_mi M (a1 + 6) (x4).toNatClampNeg))), (6, .int ((g_mi M (a1 + 5) (x4).toNatClampNeg))), (0, .ref a0), (1, .ref a1), (3, .int (x3))] dX4_valueOf_270 rfl rfl rfl (Nat.le_of_ble_eq_true rfl) rfl ?_
                        refine g_goto 8 dX4_valueOf_273 rfl ?_
                        exact g_sub [4, 5, 6, 1, 0] _ rfl (ih M a0 a1 n1 m1 x3 (g_mi M (a1 + 6) (x4).toNatClampNeg) (x5 + 1) s0 s1 H (fun v M1 j r => hR v M1 j r))
                    · skip
                      replace H := H.2 c14
                      refine g_iload 2 177 dX4_valueOf_175 rfl rfl ?_
                      refine g_iconst (5) 178 dX4_valueOf_177 rfl rfl ?_
                      refine g_icmp_ne 216 181 dX4_valueOf_178 rfl rfl (fun c16 => ?_) (fun c16 => ?_)
                      · skip
                        replace H := H.1 c16
                        refine g_iinc _ 5 219 [(3, .int ((x3 + (-1)))), (4, .int ((x4 + 1))), (7, .int ((g_mi M (a1 + 6) (x4).toNatClampNeg))), (6, .int ((g_mi M (a1 + 5) (x4).toNatClampNeg))), (0, .ref a0), (1, .ref a1), (5, .int (x5))] dX4_valueOf_216 rfl rfl rfl (Nat.le_of_ble_eq_true rfl) rfl ?_
                        refine g_iload_n 0 220 dX4_valueOf_219 rfl rfl ?_
                        refine g_iconst (1) 221 dX4_valueOf_220 rfl rfl ?_
                        refine g_icmp_ge 229 224 dX4_valueOf_221 rfl rfl (fun c17 => ?_) (fun c17 => ?_)
                        · skip
                          replace H := H.1 c17
                          refine g_iload 3 231 dX4_valueOf_229 rfl rfl ?_
                          refine g_aload_n 4 232 dX4_valueOf_231 rfl rfl ?_
                          refine g_getR 235 (a0 + 2) dX4_valueOf_232 rfl flX4_15 s0.1 s0.2.2.2.1 ?_
                          refine g_iload_n 0 236 dX4_valueOf_235 rfl rfl ?_
                          refine g_iconst (1) 237 dX4_valueOf_236 rfl rfl ?_
                          refine g_isub 238 dX4_valueOf_237 rfl ?_
                          obtain ⟨b4, H⟩ := H
                          refine h_iaload 239 (((x3 + (-1)) - 1)).toNatClampNeg dX4_valueOf_238 rfl rfl s0.2.2.2.2 b4 ?_
                          refine g_aload_n 4 240 dX4_valueOf_239 rfl rfl ?_
                          refine g_getR 243 (a0 + 2) dX4_valueOf_240 rfl flX4_15 s0.1 s0.2.2.2.1 ?_
                          refine g_iload_n 0 244 dX4_valueOf_243 rfl rfl ?_
                          obtain ⟨b5, H⟩ := H
                          refine h_iaload 245 ((x3 + (-1))).toNatClampNeg dX4_valueOf_244 rfl rfl s0.2.2.2.2 b5 ?_
                          obtain ⟨b6, H⟩ := H
                          refine g_callS (mc1 := 0) (ms1 := 0) (rest := []) (av := [.int ((g_mi M (a1 + 5) (x4).toNatClampNeg)), .int ((g_mi M (a0 + 2) (((x3 + (-1)) - 1)).toNatClampNeg)), .int ((g_mi M (a0 + 2) ((x3 + (-1))).toNatClampNeg))]) kX4_combined 248 dX4_valueOf_245 rfl rfl mbX4_62 smX4_combined (Nat.le_of_ble_eq_true rfl) (Nat.zero_le _) (Nat.zero_le _) (tX4_combined b6 ?_)
                          show Go X (d + 1) mc ms kX4_valueOf Q 248 [(3, .int ((x3 + (-1)))), (4, .int ((x4 + 1))), (7, .int ((g_mi M (a1 + 6) (x4).toNatClampNeg))), (6, .int ((g_mi M (a1 + 5) (x4).toNatClampNeg))), (0, .ref a0), (1, .ref a1), (5, .int (x5))] [.int ((fX4_combined (g_mi M (a1 + 5) (x4).toNatClampNeg) (g_mi M (a0 + 2) (((x3 + (-1)) - 1)).toNatClampNeg) (g_mi M (a0 + 2) ((x3 + (-1))).toNatClampNeg)))] M 0 0
                          generalize hv1 : (fX4_combined (g_mi M (a1 + 5) (x4).toNatClampNeg) (g_mi M (a0 + 2) (((x3 + (-1)) - 1)).toNatClampNeg) (g_mi M (a0 + 2) ((x3 + (-1))).toNatClampNeg)) = v1
                          replace H := H v1 hv1.symm
                          refine g_istore 250 [(8, .int (v1)), (3, .int ((x3 + (-1)))), (4, .int ((x4 + 1))), (7, .int ((g_mi M (a1 + 6) (x4).toNatClampNeg))), (6, .int ((g_mi M (a1 + 5) (x4).toNatClampNeg))), (0, .ref a0), (1, .ref a1), (5, .int (x5))] dX4_valueOf_248 rfl (Nat.le_of_ble_eq_true rfl) rfl ?_
                          refine g_iload 0 252 dX4_valueOf_250 rfl rfl ?_
                          refine g_ldc ((-2147483648)) 254 dX4_valueOf_252 rfl q2_181 ?_
                          refine g_icmp_ne 260 257 dX4_valueOf_254 rfl rfl (fun c18 => ?_) (fun c18 => ?_)
                          · skip
                            replace H := H.1 c18
                            refine g_aload_n 5 261 dX4_valueOf_260 rfl rfl ?_
                            refine g_getR 264 (a0 + 2) dX4_valueOf_261 rfl flX4_15 s0.1 s0.2.2.2.1 ?_
                            refine g_iload_n 1 265 dX4_valueOf_264 rfl rfl ?_
                            refine g_iconst (1) 266 dX4_valueOf_265 rfl rfl ?_
                            refine g_isub 267 dX4_valueOf_266 rfl ?_
                            refine g_iload 0 269 dX4_valueOf_267 rfl rfl ?_
                            refine h_iastore 270 (((x3 + (-1)) - 1)).toNatClampNeg dX4_valueOf_269 rfl rfl s0.2.2.2.2 b4 ?_
                            generalize hM2 : (g_wi M (a0 + 2) (((x3 + (-1)) - 1)).toNatClampNeg v1) = M2
                            have j2 : Sm M M2 := by rw [← hM2]; exact (Sm.wi Sm.rf)
                            replace H := H M2 hM2.symm
                            refine g_iinc _ 7 273 [(5, .int ((x5 + 1))), (8, .int (v1)), (3, .int ((x3 + (-1)))), (4, .int ((x4 + 1))), (7, .int ((g_mi M (a1 + 6) (x4).toNatClampNeg))), (6, .int ((g_mi M (a1 + 5) (x4).toNatClampNeg))), (0, .ref a0), (1, .ref a1)] dX4_valueOf_270 rfl rfl rfl (Nat.le_of_ble_eq_true rfl) rfl ?_
                            refine g_goto 8 dX4_valueOf_273 rfl ?_
                            exact g_sub [6, 7, 2, 3, 0] _ rfl (ih M2 a0 a1 n1 m1 (x3 + (-1)) (x4 + 1) (x5 + 1) (Su.sm j2 s0) (Tx.sm j2 s1) H (fun v M1 j r => hR v M1 (Sm.tr j2 j) r))
                          · skip
                            replace H := H.2 c18
                            refine g_ldc ((-2147483648)) 259 dX4_valueOf_257 rfl q2_181 ?_
                            exact g_iret dX4_valueOf_259 rfl (Nat.zero_le _) (Nat.zero_le _) (hR _ _ Sm.rf H)
                        · skip
                          replace H := H.2 c17
                          refine g_ldc ((-2147483648)) 226 dX4_valueOf_224 rfl q2_181 ?_
                          refine g_goto 248 dX4_valueOf_226 rfl ?_
                          refine g_istore 250 [(8, .int ((-2147483648))), (3, .int ((x3 + (-1)))), (4, .int ((x4 + 1))), (7, .int ((g_mi M (a1 + 6) (x4).toNatClampNeg))), (6, .int ((g_mi M (a1 + 5) (x4).toNatClampNeg))), (0, .ref a0), (1, .ref a1), (5, .int (x5))] dX4_valueOf_248 rfl (Nat.le_of_ble_eq_true rfl) rfl ?_
                          refine g_iload 0 252 dX4_valueOf_250 rfl rfl ?_
                          refine g_ldc ((-2147483648)) 254 dX4_valueOf_252 rfl q2_181 ?_
                          refine g_icmp_ne 260 257 dX4_valueOf_254 rfl rfl (fun q => absurd q (by decide)) (fun _ => ?_)
                          refine g_ldc ((-2147483648)) 259 dX4_valueOf_257 rfl q2_181 ?_
                          exact g_iret dX4_valueOf_259 rfl (Nat.zero_le _) (Nat.zero_le _) (hR _ _ Sm.rf H)
                      · skip
                        replace H := H.2 c16
                        refine g_aload_n 3 182 dX4_valueOf_181 rfl rfl ?_
                        refine g_getR 185 (a0 + 2) dX4_valueOf_182 rfl flX4_15 s0.1 s0.2.2.2.1 ?_
                        refine g_iload_n 5 186 dX4_valueOf_185 rfl rfl ?_
                        refine g_iconst (1) 187 dX4_valueOf_186 rfl rfl ?_
                        refine g_isub 188 dX4_valueOf_187 rfl ?_
                        obtain ⟨b7, H⟩ := H
                        refine h_iaload 189 ((x3 - 1)).toNatClampNeg dX4_valueOf_188 rfl rfl s0.2.2.2.2 b7 ?_
                        refine g_iload 2 191 dX4_valueOf_189 rfl rfl ?_
                        refine g_iconst (5) 192 dX4_valueOf_191 rfl rfl ?_
                        refine g_icmp_ne 199 195 dX4_valueOf_192 rfl rfl (fun q => absurd c16 q) (fun _ => ?_)
                        refine g_iconst (1) 196 dX4_valueOf_195 rfl rfl ?_
                        refine g_goto 200 dX4_valueOf_196 rfl ?_
                        refine g_icmp_ne 210 203 dX4_valueOf_200 rfl rfl (fun c19 => ?_) (fun c19 => ?_)
                        · skip
                          replace H := H.1 c19
                          refine g_iinc _ 5 213 [(3, .int ((x3 + (-1)))), (4, .int ((x4 + 1))), (7, .int ((g_mi M (a1 + 6) (x4).toNatClampNeg))), (6, .int ((g_mi M (a1 + 5) (x4).toNatClampNeg))), (0, .ref a0), (1, .ref a1), (5, .int (x5))] dX4_valueOf_210 rfl rfl rfl (Nat.le_of_ble_eq_true rfl) rfl ?_
                          refine g_goto 270 dX4_valueOf_213 rfl ?_
                          refine g_iinc _ 6 273 [(5, .int ((x5 + 1))), (3, .int ((x3 + (-1)))), (4, .int ((x4 + 1))), (7, .int ((g_mi M (a1 + 6) (x4).toNatClampNeg))), (6, .int ((g_mi M (a1 + 5) (x4).toNatClampNeg))), (0, .ref a0), (1, .ref a1)] dX4_valueOf_270 rfl rfl rfl (Nat.le_of_ble_eq_true rfl) rfl ?_
                          refine g_goto 8 dX4_valueOf_273 rfl ?_
                          exact g_sub [5, 6, 1, 2, 0] _ rfl (ih M a0 a1 n1 m1 (x3 + (-1)) (x4 + 1) (x5 + 1) s0 s1 H (fun v M1 j r => hR v M1 j r))
                        · skip
                          replace H := H.2 c19
                          refine g_iload 1 205 dX4_valueOf_203 rfl rfl ?_
                          refine g_istore 207 [(4, .int ((g_mi M (a1 + 6) (x4).toNatClampNeg))), (7, .int ((g_mi M (a1 + 6) (x4).toNatClampNeg))), (6, .int ((g_mi M (a1 + 5) (x4).toNatClampNeg))), (0, .ref a0), (1, .ref a1), (3, .int (x3)), (5, .int (x5))] dX4_valueOf_205 rfl (Nat.le_of_ble_eq_true rfl) rfl ?_
                          refine g_goto 270 dX4_valueOf_207 rfl ?_
                          refine g_iinc _ 6 273 [(5, .int ((x5 + 1))), (4, .int ((g_mi M (a1 + 6) (x4).toNatClampNeg))), (7, .int ((g_mi M (a1 + 6) (x4).toNatClampNeg))), (6, .int ((g_mi M (a1 + 5) (x4).toNatClampNeg))), (0, .ref a0), (1, .ref a1), (3, .int (x3))] dX4_valueOf_270 rfl rfl rfl (Nat.le_of_ble_eq_true rfl) rfl ?_
                          refine g_goto 8 dX4_valueOf_273 rfl ?_
                          exact g_sub [4, 5, 6, 1, 0] _ rfl (ih M a0 a1 n1 m1 x3 (g_mi M (a1 + 6) (x4).toNatClampNeg) (x5 + 1) s0 s1 H (fun v M1 j r => hR v M1 j r))
                  · skip
                    replace H := H.2 c13
                    refine g_aload_n 3 149 dX4_valueOf_148 rfl rfl ?_
                    refine g_getR 152 (a0 + 2) dX4_valueOf_149 rfl flX4_15 s0.1 s0.2.2.2.1 ?_
                    refine g_iload_n 5 153 dX4_valueOf_152 rfl rfl ?_
                    refine g_iconst (1) 154 dX4_valueOf_153 rfl rfl ?_
                    refine g_isub 155 dX4_valueOf_154 rfl ?_
                    refine g_iconst (1) 156 dX4_valueOf_155 rfl rfl ?_
                    refine g_aload_n 3 157 dX4_valueOf_156 rfl rfl ?_
                    refine g_getR 160 (a0 + 2) dX4_valueOf_157 rfl flX4_15 s0.1 s0.2.2.2.1 ?_
                    refine g_iload_n 5 161 dX4_valueOf_160 rfl rfl ?_
                    refine g_iconst (1) 162 dX4_valueOf_161 rfl rfl ?_
                    refine g_isub 163 dX4_valueOf_162 rfl ?_
                    obtain ⟨b8, H⟩ := H
                    refine h_iaload 164 ((x3 - 1)).toNatClampNeg dX4_valueOf_163 rfl rfl s0.2.2.2.2 b8 ?_
                    refine g_isub 165 dX4_valueOf_164 rfl ?_
                    refine h_iastore 166 ((x3 - 1)).toNatClampNeg dX4_valueOf_165 rfl rfl s0.2.2.2.2 b8 ?_
                    generalize hM3 : (g_wi M (a0 + 2) ((x3 - 1)).toNatClampNeg (1 - (g_mi M (a0 + 2) ((x3 - 1)).toNatClampNeg))) = M3
                    have j3 : Sm M M3 := by rw [← hM3]; exact (Sm.wi Sm.rf)
                    replace H := H M3 hM3.symm
                    refine g_goto 270 dX4_valueOf_166 rfl ?_
                    refine g_iinc _ 6 273 [(5, .int ((x5 + 1))), (4, .int ((x4 + 1))), (7, .int ((g_mi M (a1 + 6) (x4).toNatClampNeg))), (6, .int ((g_mi M (a1 + 5) (x4).toNatClampNeg))), (0, .ref a0), (1, .ref a1), (3, .int (x3))] dX4_valueOf_270 rfl rfl rfl (Nat.le_of_ble_eq_true rfl) rfl ?_
                    refine g_goto 8 dX4_valueOf_273 rfl ?_
                    exact g_sub [4, 5, 6, 1, 0] _ rfl (ih M3 a0 a1 n1 m1 x3 (x4 + 1) (x5 + 1) (Su.sm j3 s0) (Tx.sm j3 s1) H (fun v M1 j r => hR v M1 (Sm.tr j3 j) r))
                · skip
                  replace H := H.2 c12
                  refine g_ldc ((-2147483648)) 141 dX4_valueOf_139 rfl q2_181 ?_
                  exact g_iret dX4_valueOf_141 rfl (Nat.zero_le _) (Nat.zero_le _) (hR _ _ Sm.rf H)
              · skip
                replace H := H.2 c11
                refine g_iload_n 5 72 dX4_valueOf_71 rfl rfl ?_
                refine g_aload_n 3 73 dX4_valueOf_72 rfl rfl ?_
                refine g_getR 76 (a0 + 2) dX4_valueOf_73 rfl flX4_15 s0.1 s0.2.2.2.1 ?_
                refine g_alen (t := 0) 77 dX4_valueOf_76 rfl s0.2.2.2.2 (by decide) rfl ?_
                refine g_icmp_ge 101 80 dX4_valueOf_77 rfl rfl (fun c20 => ?_) (fun c20 => ?_)
                · skip
                  replace H := H.1 c20
                  refine g_ldc ((-2147483648)) 103 dX4_valueOf_101 rfl q2_181 ?_
                  exact g_iret dX4_valueOf_103 rfl (Nat.zero_le _) (Nat.zero_le _) (hR _ _ Sm.rf H)
                · skip
                  replace H := H.2 c20
                  refine g_iload 1 82 dX4_valueOf_80 rfl rfl ?_
                  refine g_if_lt 101 85 dX4_valueOf_82 rfl rfl (fun c21 => ?_) (fun c21 => ?_)
                  · skip
                    replace H := H.1 c21
                    refine g_ldc ((-2147483648)) 103 dX4_valueOf_101 rfl q2_181 ?_
                    exact g_iret dX4_valueOf_103 rfl (Nat.zero_le _) (Nat.zero_le _) (hR _ _ Sm.rf H)
                  · skip
                    replace H := H.2 c21
                    refine g_iload 2 87 dX4_valueOf_85 rfl rfl ?_
                    refine g_iconst (2) 88 dX4_valueOf_87 rfl rfl ?_
                    refine g_icmp_ne 104 91 dX4_valueOf_88 rfl rfl (fun q => absurd c11 q) (fun _ => ?_)
                    refine g_iload 1 93 dX4_valueOf_91 rfl rfl ?_
                    refine g_aload_n 3 94 dX4_valueOf_93 rfl rfl ?_
                    refine g_getR 97 (a0 + 1) dX4_valueOf_94 rfl flX4_9 s0.1 s0.2.1 ?_
                    refine g_alen (t := 0) 98 dX4_valueOf_97 rfl s0.2.2.1 (by decide) rfl ?_
                    refine g_icmp_lt 104 101 dX4_valueOf_98 rfl rfl (fun c22 => ?_) (fun c22 => ?_)
                    · skip
                      replace H := H.1 c22
                      refine g_aload_n 3 105 dX4_valueOf_104 rfl rfl ?_
                      refine g_getR 108 (a0 + 2) dX4_valueOf_105 rfl flX4_15 s0.1 s0.2.2.2.1 ?_
                      refine g_iload_n 5 109 dX4_valueOf_108 rfl rfl ?_
                      refine g_iload 2 111 dX4_valueOf_109 rfl rfl ?_
                      refine g_iconst (1) 112 dX4_valueOf_111 rfl rfl ?_
                      refine g_icmp_ne 120 115 dX4_valueOf_112 rfl rfl (fun _ => ?_) (fun q => absurd q c8)
                      refine g_aload_n 3 121 dX4_valueOf_120 rfl rfl ?_
                      refine g_getR 124 (a0 + 1) dX4_valueOf_121 rfl flX4_9 s0.1 s0.2.1 ?_
                      refine g_iload 1 126 dX4_valueOf_124 rfl rfl ?_
                      obtain ⟨b9, H⟩ := H
                      refine h_iaload 127 ((g_mi M (a1 + 6) (x4).toNatClampNeg)).toNatClampNeg dX4_valueOf_126 rfl rfl s0.2.2.1 b9 ?_
                      obtain ⟨b10, H⟩ := H
                      refine h_iastore 128 (x3).toNatClampNeg dX4_valueOf_127 rfl rfl s0.2.2.2.2 b10 ?_
                      generalize hM4 : (g_wi M (a0 + 2) (x3).toNatClampNeg (g_mi M (a0 + 1) ((g_mi M (a1 + 6) (x4).toNatClampNeg)).toNatClampNeg)) = M4
                      have j4 : Sm M M4 := by rw [← hM4]; exact (Sm.wi Sm.rf)
                      replace H := H M4 hM4.symm
                      refine g_iinc _ 5 131 [(3, .int ((x3 + 1))), (4, .int ((x4 + 1))), (7, .int ((g_mi M (a1 + 6) (x4).toNatClampNeg))), (6, .int ((g_mi M (a1 + 5) (x4).toNatClampNeg))), (0, .ref a0), (1, .ref a1), (5, .int (x5))] dX4_valueOf_128 rfl rfl rfl (Nat.le_of_ble_eq_true rfl) rfl ?_
                      refine g_goto 270 dX4_valueOf_131 rfl ?_
                      refine g_iinc _ 6 273 [(5, .int ((x5 + 1))), (3, .int ((x3 + 1))), (4, .int ((x4 + 1))), (7, .int ((g_mi M (a1 + 6) (x4).toNatClampNeg))), (6, .int ((g_mi M (a1 + 5) (x4).toNatClampNeg))), (0, .ref a0), (1, .ref a1)] dX4_valueOf_270 rfl rfl rfl (Nat.le_of_ble_eq_true rfl) rfl ?_
                      refine g_goto 8 dX4_valueOf_273 rfl ?_
                      exact g_sub [5, 6, 1, 2, 0] _ rfl (ih M4 a0 a1 n1 m1 (x3 + 1) (x4 + 1) (x5 + 1) (Su.sm j4 s0) (Tx.sm j4 s1) H (fun v M1 j r => hR v M1 (Sm.tr j4 j) r))
                    · skip
                      replace H := H.2 c22
                      refine g_ldc ((-2147483648)) 103 dX4_valueOf_101 rfl q2_181 ?_
                      exact g_iret dX4_valueOf_103 rfl (Nat.zero_le _) (Nat.zero_le _) (hR _ _ Sm.rf H)
          · skip
            replace H := H.2 c7
            refine g_goto 276 dX4_valueOf_56 rfl ?_
            refine g_iload_n 5 277 dX4_valueOf_276 rfl rfl ?_
            refine g_iconst (1) 278 dX4_valueOf_277 rfl rfl ?_
            refine g_icmp_ne 290 281 dX4_valueOf_278 rfl rfl (fun c23 => ?_) (fun c23 => ?_)
            · skip
              replace H := H.1 c23
              refine g_ldc ((-2147483648)) 292 dX4_valueOf_290 rfl q2_181 ?_
              exact g_iret dX4_valueOf_292 rfl (Nat.zero_le _) (Nat.zero_le _) (hR _ _ Sm.rf H)
            · skip
              replace H := H.2 c23
              refine g_aload_n 3 282 dX4_valueOf_281 rfl rfl ?_
              refine g_getR 285 (a0 + 2) dX4_valueOf_282 rfl flX4_15 s0.1 s0.2.2.2.1 ?_
              refine g_iconst (0) 286 dX4_valueOf_285 rfl rfl ?_
              refine h_iaload 287 0 dX4_valueOf_286 rfl rfl s0.2.2.2.2 (vp_lit rfl) ?_
              refine g_goto 292 dX4_valueOf_287 rfl ?_
              exact g_iret dX4_valueOf_292 rfl (Nat.zero_le _) (Nat.zero_le _) (hR _ _ Sm.rf H)
set_option maxRecDepth 10000 in
theorem uX4_valueOf {N K : Nat} {X : gX} {d mc ms : Nat} {Q : Option Value → gM → Prop} {M : gM} {a0 : Nat} {a1 : Nat} {n1 m1 : Nat} {x2 : Int32} {R : Int32 → gM → Prop} (s0 : Su M a0) (s1 : Tx M a1 n1 m1) (H : pX4_valueOf N K M a0 a1 n1 m1 x2 R) (hR : ∀ (v : Int32) (M1 : gM), Sm M M1 → R v M1 → Q (some (.int v)) M1) : Cn X (d + 1) mc ms kX4_valueOf [.ref a0, .ref a1, .int (x2)] M Q := by
  have ih := ulX4_valueOf (X := X) (d := d) (mc := mc) (ms := ms) (Q := Q) (N := N) (K := K) (R := R) N
  unfold pX4_valueOf pX4_valueOf_0 at H
  refine g_meth rfl rfl (Nat.le_of_ble_eq_true rfl) rfl ?_
  refine g_iconst (0) 1 dX4_valueOf_0 rfl rfl ?_
  refine g_istore_n 2 [(3, .int (0)), (0, .ref a0), (1, .ref a1), (2, .int (x2))] dX4_valueOf_1 rfl (Nat.le_of_ble_eq_true rfl) rfl ?_
  refine g_iload_n 3 3 dX4_valueOf_2 rfl rfl ?_
  refine g_istore 5 [(4, .int (x2)), (3, .int (0)), (0, .ref a0), (1, .ref a1), (2, .int (x2))] dX4_valueOf_3 rfl (Nat.le_of_ble_eq_true rfl) rfl ?_
  refine g_iconst (0) 6 dX4_valueOf_5 rfl rfl ?_
  refine g_istore 8 [(5, .int (0)), (4, .int (x2)), (3, .int (0)), (0, .ref a0), (1, .ref a1), (2, .int (x2))] dX4_valueOf_6 rfl (Nat.le_of_ble_eq_true rfl) rfl ?_
  exact g_sub [3, 4, 2, 1, 0] _ rfl (ih M a0 a1 n1 m1 0 x2 0 s0 s1 H (fun v M1 j r => hR v M1 j r))
/-! X5_copyFrom -/
def pX5_copyFrom (N K : Nat) (M : gM) (a0 : Nat) (a1 : Nat) (R : gM → Prop) : Prop := ((g_mi M a1 3) = 0 ∨ (g_mi M a1 3) = 1) ∧ ∀ M1 : gM, M1 = (g_wi M a0 3 (g_mi M a1 3)) → ((¬ (g_mi M1 a0 3) = 0 → ∀ M2 : gM, M2 = (g_cp M1 (a1 + 1) (a0 + 1) 0 0 30) → ∀ M3 : gM, M3 = (g_cp M2 (a1 + 2) (a0 + 2) 0 0 60) → ∀ M4 : gM, M4 = (g_cp M3 (a1 + 3) (a0 + 3) 0 0 60) → ∀ M5 : gM, M5 = (g_wi M4 a0 4 (g_mi M4 a1 4)) → ∀ M6 : gM, M6 = (g_wi M5 a0 5 (g_mi M5 a1 5)) → ∀ M7 : gM, M7 = (g_wi M6 a0 6 (g_mi M6 a1 6)) → R M7) ∧ ((g_mi M1 a0 3) = 0 → R M1))
set_option maxRecDepth 10000 in
theorem uX5_copyFrom {N K : Nat} {X : gX} {d mc ms : Nat} {Q : Option Value → gM → Prop} {M : gM} {a0 : Nat} {a1 : Nat} {R : gM → Prop} (s0 : Tb M a0) (s1 : Tb M a1) (H : pX5_copyFrom N K M a0 a1 R) (hR : ∀ (M1 : gM), Sm M M1 → R M1 → Q none M1) : Cn X (d + 1) mc ms kX5_copyFrom [.ref a0, .ref a1] M Q := by
  unfold pX5_copyFrom at H
  refine g_meth rfl rfl (Nat.le_of_ble_eq_true rfl) rfl ?_
  refine g_aload_n 0 1 dX5_copyFrom_0 rfl rfl ?_
  refine g_aload_n 1 2 dX5_copyFrom_1 rfl rfl ?_
  refine g_getI 5 dX5_copyFrom_2 rfl flX5_25 s1.1 ?_
  obtain ⟨b1, H⟩ := H
  refine g_putZ 8 dX5_copyFrom_5 rfl flX5_25 s0.1 b1 ?_
  generalize hM1 : (g_wi M a0 3 (g_mi M a1 3)) = M1
  have j1 : Sm M M1 := by rw [← hM1]; exact (Sm.wi Sm.rf)
  replace H := H M1 hM1.symm
  refine g_aload_n 0 9 dX5_copyFrom_8 rfl rfl ?_
  refine g_getI 12 dX5_copyFrom_9 rfl flX5_25 (Sm.k j1 s0.1) ?_
  refine g_if_ne 16 15 dX5_copyFrom_12 rfl rfl (fun c1 => ?_) (fun c1 => ?_)
  · skip
    replace H := H.1 c1
    refine g_aload_n 1 17 dX5_copyFrom_16 rfl rfl ?_
    refine g_getR 20 (a1 + 1) dX5_copyFrom_17 rfl flX5_9 (Sm.k j1 s1.1) (Sm.r j1 s1.2.1) ?_
    refine g_iconst (0) 21 dX5_copyFrom_20 rfl rfl ?_
    refine g_aload_n 0 22 dX5_copyFrom_21 rfl rfl ?_
    refine g_getR 25 (a0 + 1) dX5_copyFrom_22 rfl flX5_9 (Sm.k j1 s0.1) (Sm.r j1 s0.2.1) ?_
    refine g_iconst (0) 26 dX5_copyFrom_25 rfl rfl ?_
    refine g_bipush (30) 28 dX5_copyFrom_26 rfl rfl ?_
    refine g_copy 31 dX5_copyFrom_28 rfl q3_195 q3_180 q3_179 q1_17 (Sm.k j1 s1.2.2.1) (Sm.k j1 s0.2.2.1) (by decide) (by decide) (by decide) (by decide) (by decide) (Nat.le_of_ble_eq_true rfl) ?_
    show Go X (d + 1) mc ms kX5_copyFrom Q 31 [(0, .ref a0), (1, .ref a1)] [] (g_cp M1 (a1 + 1) (a0 + 1) 0 0 30) 0 0
    generalize hM2 : (g_cp M1 (a1 + 1) (a0 + 1) 0 0 30) = M2
    have j2 : Sm M M2 := by rw [← hM2]; exact (Sm.cp j1)
    replace H := H M2 hM2.symm
    refine g_aload_n 1 32 dX5_copyFrom_31 rfl rfl ?_
    refine g_getR 35 (a1 + 2) dX5_copyFrom_32 rfl flX5_15 (Sm.k j2 s1.1) (Sm.r j2 s1.2.2.2.1) ?_
    refine g_iconst (0) 36 dX5_copyFrom_35 rfl rfl ?_
    refine g_aload_n 0 37 dX5_copyFrom_36 rfl rfl ?_
    refine g_getR 40 (a0 + 2) dX5_copyFrom_37 rfl flX5_15 (Sm.k j2 s0.1) (Sm.r j2 s0.2.2.2.1) ?_
    refine g_iconst (0) 41 dX5_copyFrom_40 rfl rfl ?_
    refine g_bipush (60) 43 dX5_copyFrom_41 rfl rfl ?_
    refine g_copy 46 dX5_copyFrom_43 rfl q3_195 q3_180 q3_179 q1_17 (Sm.k j2 s1.2.2.2.2.1) (Sm.k j2 s0.2.2.2.2.1) (by decide) (by decide) (by decide) (by decide) (by decide) (Nat.le_of_ble_eq_true rfl) ?_
    show Go X (d + 1) mc ms kX5_copyFrom Q 46 [(0, .ref a0), (1, .ref a1)] [] (g_cp M2 (a1 + 2) (a0 + 2) 0 0 60) 0 0
    generalize hM3 : (g_cp M2 (a1 + 2) (a0 + 2) 0 0 60) = M3
    have j3 : Sm M M3 := by rw [← hM3]; exact (Sm.cp j2)
    replace H := H M3 hM3.symm
    refine g_aload_n 1 47 dX5_copyFrom_46 rfl rfl ?_
    refine g_getR 50 (a1 + 3) dX5_copyFrom_47 rfl flX5_18 (Sm.k j3 s1.1) (Sm.r j3 s1.2.2.2.2.2.1) ?_
    refine g_iconst (0) 51 dX5_copyFrom_50 rfl rfl ?_
    refine g_aload_n 0 52 dX5_copyFrom_51 rfl rfl ?_
    refine g_getR 55 (a0 + 3) dX5_copyFrom_52 rfl flX5_18 (Sm.k j3 s0.1) (Sm.r j3 s0.2.2.2.2.2.1) ?_
    refine g_iconst (0) 56 dX5_copyFrom_55 rfl rfl ?_
    refine g_bipush (60) 58 dX5_copyFrom_56 rfl rfl ?_
    refine g_copy 61 dX5_copyFrom_58 rfl q3_195 q3_180 q3_179 q1_17 (Sm.k j3 s1.2.2.2.2.2.2) (Sm.k j3 s0.2.2.2.2.2.2) (by decide) (by decide) (by decide) (by decide) (by decide) (Nat.le_of_ble_eq_true rfl) ?_
    show Go X (d + 1) mc ms kX5_copyFrom Q 61 [(0, .ref a0), (1, .ref a1)] [] (g_cp M3 (a1 + 3) (a0 + 3) 0 0 60) 0 0
    generalize hM4 : (g_cp M3 (a1 + 3) (a0 + 3) 0 0 60) = M4
    have j4 : Sm M M4 := by rw [← hM4]; exact (Sm.cp j3)
    replace H := H M4 hM4.symm
    refine g_aload_n 0 62 dX5_copyFrom_61 rfl rfl ?_
    refine g_aload_n 1 63 dX5_copyFrom_62 rfl rfl ?_
    refine g_getI 66 dX5_copyFrom_63 rfl flX5_35 (Sm.k j4 s1.1) ?_
    refine g_putI 69 dX5_copyFrom_66 rfl flX5_35 (Sm.k j4 s0.1) ?_
    generalize hM5 : (g_wi M4 a0 4 (g_mi M4 a1 4)) = M5
    have j5 : Sm M M5 := by rw [← hM5]; exact (Sm.wi j4)
    replace H := H M5 hM5.symm
    refine g_aload_n 0 70 dX5_copyFrom_69 rfl rfl ?_
    refine g_aload_n 1 71 dX5_copyFrom_70 rfl rfl ?_
    refine g_getI 74 dX5_copyFrom_71 rfl flX5_21 (Sm.k j5 s1.1) ?_
    refine g_putI 77 dX5_copyFrom_74 rfl flX5_21 (Sm.k j5 s0.1) ?_
    generalize hM6 : (g_wi M5 a0 5 (g_mi M5 a1 5)) = M6
    have j6 : Sm M M6 := by rw [← hM6]; exact (Sm.wi j5)
    replace H := H M6 hM6.symm
    refine g_aload_n 0 78 dX5_copyFrom_77 rfl rfl ?_
    refine g_aload_n 1 79 dX5_copyFrom_78 rfl rfl ?_
    refine g_getI 82 dX5_copyFrom_79 rfl flX5_38 (Sm.k j6 s1.1) ?_
    refine g_putI 85 dX5_copyFrom_82 rfl flX5_38 (Sm.k j6 s0.1) ?_
    generalize hM7 : (g_wi M6 a0 6 (g_mi M6 a1 6)) = M7
    have j7 : Sm M M7 := by rw [← hM7]; exact (Sm.wi j6)
    replace H := H M7 hM7.symm
    exact g_vret dX5_copyFrom_85 rfl (Nat.zero_le _) (Nat.zero_le _) (hR _ j7 H)
  · skip
    replace H := H.2 c1
    exact g_vret dX5_copyFrom_15 rfl (Nat.zero_le _) (Nat.zero_le _) (hR _ j1 H)
/-! X8_there -/
def pX8_there (N K : Nat) (M : gM) (a0 : Nat) (x1 : Int32) (R : Int32 → Prop) : Prop := ((x1 < 0 → R (-1)) ∧ (¬ x1 < 0 → (((g_mi M ((a0 + 1) + 1) 3) ≤ x1 → R (-1)) ∧ (¬ (g_mi M ((a0 + 1) + 1) 3) ≤ x1 → (vp_in (x1) 30) ∧ R (g_mi M (((a0 + 1) + 1) + 1) (x1).toNatClampNeg)))))
set_option maxRecDepth 10000 in
theorem uX8_there {N K : Nat} {X : gX} {d mc ms : Nat} {Q : Option Value → gM → Prop} {M : gM} {a0 : Nat} {x1 : Int32} {R : Int32 → Prop} (s0 : Ph M a0) (H : pX8_there N K M a0 x1 R) (hR : ∀ (v : Int32), R v → Q (some (.int v)) M) : Cn X d mc ms kX8_there [.ref a0, .int (x1)] M Q := by
  unfold pX8_there at H
  refine g_meth rfl rfl (Nat.le_of_ble_eq_true rfl) rfl ?_
  refine g_aload_n 0 1 dX8_there_0 rfl rfl ?_
  refine g_getR 4 (a0 + 1) dX8_there_1 rfl flX8_14 s0.1 s0.2.1 ?_
  refine g_getR 7 ((a0 + 1) + 1) dX8_there_4 rfl flX8_102 s0.2.2.1.1 s0.2.2.1.2.1 ?_
  refine g_astore_n 8 [(2, .ref ((a0 + 1) + 1)), (0, .ref a0), (1, .int (x1))] dX8_there_7 rfl (Nat.le_of_ble_eq_true rfl) rfl ?_
  refine g_iload_n 2 9 dX8_there_8 rfl rfl ?_
  refine g_if_lt 29 12 dX8_there_9 rfl rfl (fun c1 => ?_) (fun c1 => ?_)
  · skip
    replace H := H.1 c1
    refine g_iconst ((-1)) 30 dX8_there_29 rfl rfl ?_
    exact g_iret dX8_there_30 rfl (Nat.zero_le _) (Nat.zero_le _) (hR _ H)
  · skip
    replace H := H.2 c1
    refine g_iload_n 2 13 dX8_there_12 rfl rfl ?_
    refine g_aload_n 0 14 dX8_there_13 rfl rfl ?_
    refine g_getI 17 dX8_there_14 rfl flX8_137 s0.2.2.1.2.2.1.1 ?_
    refine g_icmp_ge 29 20 dX8_there_17 rfl rfl (fun c2 => ?_) (fun c2 => ?_)
    · skip
      replace H := H.1 c2
      refine g_iconst ((-1)) 30 dX8_there_29 rfl rfl ?_
      exact g_iret dX8_there_30 rfl (Nat.zero_le _) (Nat.zero_le _) (hR _ H)
    · skip
      replace H := H.2 c2
      refine g_aload_n 0 21 dX8_there_20 rfl rfl ?_
      refine g_getR 24 (((a0 + 1) + 1) + 1) dX8_there_21 rfl flX8_140 s0.2.2.1.2.2.1.1 s0.2.2.1.2.2.1.2.1 ?_
      refine g_iload_n 2 25 dX8_there_24 rfl rfl ?_
      obtain ⟨b1, H⟩ := H
      refine h_iaload 26 (x1).toNatClampNeg dX8_there_25 rfl rfl s0.2.2.1.2.2.1.2.2.1 b1 ?_
      refine g_goto 30 dX8_there_26 rfl ?_
      exact g_iret dX8_there_30 rfl (Nat.zero_le _) (Nat.zero_le _) (hR _ H)
/-! X8_ceiling -/
def pX8_ceiling (N K : Nat) (M : gM) (a0 : Nat) (x1 : Int32) (R : Int32 → Prop) : Prop := (EX3_lowerThan N M ((a0 + 1) + 1) x1) ∧ ∀ v1 : Int32, v1 = (fX3_lowerThan N M ((a0 + 1) + 1) x1) → (((g_mi M ((a0 + 1) + 1) 3) ≤ v1 → R (-1)) ∧ (¬ (g_mi M ((a0 + 1) + 1) 3) ≤ v1 → (vp_in (v1) 30) ∧ R (g_mi M (((a0 + 1) + 1) + 1) (v1).toNatClampNeg)))
set_option maxRecDepth 10000 in
theorem uX8_ceiling {N K : Nat} {X : gX} {d mc ms : Nat} {Q : Option Value → gM → Prop} {M : gM} {a0 : Nat} {x1 : Int32} {R : Int32 → Prop} (s0 : Ph M a0) (H : pX8_ceiling N K M a0 x1 R) (hR : ∀ (v : Int32), R v → Q (some (.int v)) M) : Cn X (d + 1) mc ms kX8_ceiling [.ref a0, .int (x1)] M Q := by
  unfold pX8_ceiling at H
  refine g_meth rfl rfl (Nat.le_of_ble_eq_true rfl) rfl ?_
  refine g_aload_n 0 1 dX8_ceiling_0 rfl rfl ?_
  refine g_getR 4 (a0 + 1) dX8_ceiling_1 rfl flX8_14 s0.1 s0.2.1 ?_
  refine g_getR 7 ((a0 + 1) + 1) dX8_ceiling_4 rfl flX8_102 s0.2.2.1.1 s0.2.2.1.2.1 ?_
  refine g_astore_n 8 [(2, .ref ((a0 + 1) + 1)), (0, .ref a0), (1, .int (x1))] dX8_ceiling_7 rfl (Nat.le_of_ble_eq_true rfl) rfl ?_
  refine g_aload_n 0 9 dX8_ceiling_8 rfl rfl ?_
  refine g_iload_n 2 10 dX8_ceiling_9 rfl rfl ?_
  obtain ⟨b1, H⟩ := H
  refine g_callV (mc1 := 0) (ms1 := 0) (b := ((a0 + 1) + 1)) (rest := []) (av := [.int (x1)]) kX3_lowerThan 13 dX8_ceiling_10 rfl rfl mbX8_143 imX3_lowerThan seX3_lowerThan gcl3.1 s0.2.2.1.2.2.1.1 (Nat.le_of_ble_eq_true rfl) (Nat.zero_le _) (Nat.zero_le _) (tX3_lowerThan (N := N) s0.2.2.1.2.2.1 b1 ?_)
  show Go X (d + 1) mc ms kX8_ceiling Q 13 [(2, .ref ((a0 + 1) + 1)), (0, .ref a0), (1, .int (x1))] [.int ((fX3_lowerThan N M ((a0 + 1) + 1) x1))] M 0 0
  generalize hv1 : (fX3_lowerThan N M ((a0 + 1) + 1) x1) = v1
  replace H := H v1 hv1.symm
  refine g_istore_n 14 [(3, .int (v1)), (2, .ref ((a0 + 1) + 1)), (0, .ref a0), (1, .int (x1))] dX8_ceiling_13 rfl (Nat.le_of_ble_eq_true rfl) rfl ?_
  refine g_iload_n 0 15 dX8_ceiling_14 rfl rfl ?_
  refine g_aload_n 1 16 dX8_ceiling_15 rfl rfl ?_
  refine g_getI 19 dX8_ceiling_16 rfl flX8_137 s0.2.2.1.2.2.1.1 ?_
  refine g_icmp_ge 31 22 dX8_ceiling_19 rfl rfl (fun c1 => ?_) (fun c1 => ?_)
  · skip
    replace H := H.1 c1
    refine g_iconst ((-1)) 32 dX8_ceiling_31 rfl rfl ?_
    exact g_iret dX8_ceiling_32 rfl (Nat.zero_le _) (Nat.zero_le _) (hR _ H)
  · skip
    replace H := H.2 c1
    refine g_aload_n 1 23 dX8_ceiling_22 rfl rfl ?_
    refine g_getR 26 (((a0 + 1) + 1) + 1) dX8_ceiling_23 rfl flX8_140 s0.2.2.1.2.2.1.1 s0.2.2.1.2.2.1.2.1 ?_
    refine g_iload_n 0 27 dX8_ceiling_26 rfl rfl ?_
    obtain ⟨b2, H⟩ := H
    refine h_iaload 28 (v1).toNatClampNeg dX8_ceiling_27 rfl rfl s0.2.2.1.2.2.1.2.2.1 b2 ?_
    refine g_goto 32 dX8_ceiling_28 rfl ?_
    exact g_iret dX8_ceiling_32 rfl (Nat.zero_le _) (Nat.zero_le _) (hR _ H)
/-! X8_terms -/
def pX8_terms (N K : Nat) (M : gM) (a0 : Nat) (x1 : Int32) (x2 : Int32) (R : Int32 → gM → Prop) : Prop := ((¬ x1 = 0 → ((¬ x1 = 1 → ((¬ x1 = 2 → ((x2 < 0 → pX8_refuse N K M a0 (-1) (fun v1 M1 => R v1 M1)) ∧ (¬ x2 < 0 → ((x2 ≤ (-1) → (vp_in (x1) 3) ∧ ∀ M2 : gM, M2 = (g_wi M (((a0 + 1) + 1) + 2) (x1).toNatClampNeg x2) → pX0_clear N K M2 (a0 + 13) (fun M3 => pX8_accept N K M3 a0 (g_mi M (((a0 + 1) + 1) + 2) (x1).toNatClampNeg) (fun v2 M4 => R v2 M4))) ∧ (¬ x2 ≤ (-1) → pX8_refuse N K M a0 (-1) (fun v3 M5 => R v3 M5)))))) ∧ (x1 = 2 → ((x2 < 0 → pX8_refuse N K M a0 (-1) (fun v4 M6 => R v4 M6)) ∧ (¬ x2 < 0 → ((x2 ≤ 9 → (vp_in (x1) 3) ∧ ∀ M7 : gM, M7 = (g_wi M (((a0 + 1) + 1) + 2) (x1).toNatClampNeg x2) → pX0_clear N K M7 (a0 + 13) (fun M8 => pX8_accept N K M8 a0 (g_mi M (((a0 + 1) + 1) + 2) (x1).toNatClampNeg) (fun v5 M9 => R v5 M9))) ∧ (¬ x2 ≤ 9 → pX8_refuse N K M a0 (-1) (fun v6 M10 => R v6 M10)))))))) ∧ (x1 = 1 → ((x2 < 0 → pX8_refuse N K M a0 (-1) (fun v7 M11 => R v7 M11)) ∧ (¬ x2 < 0 → ((x2 ≤ 10 → (vp_in (x1) 3) ∧ ∀ M12 : gM, M12 = (g_wi M (((a0 + 1) + 1) + 2) (x1).toNatClampNeg x2) → pX0_clear N K M12 (a0 + 13) (fun M13 => pX8_accept N K M13 a0 (g_mi M (((a0 + 1) + 1) + 2) (x1).toNatClampNeg) (fun v8 M14 => R v8 M14))) ∧ (¬ x2 ≤ 10 → pX8_refuse N K M a0 (-1) (fun v9 M15 => R v9 M15)))))))) ∧ (x1 = 0 → ((x2 < 0 → pX8_refuse N K M a0 (-1) (fun v10 M16 => R v10 M16)) ∧ (¬ x2 < 0 → ((x2 ≤ 999 → (vp_in (x1) 3) ∧ ∀ M17 : gM, M17 = (g_wi M (((a0 + 1) + 1) + 2) (x1).toNatClampNeg x2) → pX0_clear N K M17 (a0 + 13) (fun M18 => pX8_accept N K M18 a0 (g_mi M (((a0 + 1) + 1) + 2) (x1).toNatClampNeg) (fun v11 M19 => R v11 M19))) ∧ (¬ x2 ≤ 999 → pX8_refuse N K M a0 (-1) (fun v12 M20 => R v12 M20)))))))
set_option maxRecDepth 10000 in
theorem uX8_terms {N K : Nat} {X : gX} {d mc ms : Nat} {Q : Option Value → gM → Prop} {M : gM} {a0 : Nat} {x1 : Int32} {x2 : Int32} {R : Int32 → gM → Prop} (s0 : Ph M a0) (H : pX8_terms N K M a0 x1 x2 R) (hR : ∀ (v : Int32) (M1 : gM), Sm M M1 → R v M1 → Q (some (.int v)) M1) : Cn X (d + 1) mc ms kX8_terms [.ref a0, .int (x1), .int (x2)] M Q := by
  unfold pX8_terms at H
  refine g_meth rfl rfl (Nat.le_of_ble_eq_true rfl) rfl ?_
  refine g_iload_n 1 1 dX8_terms_0 rfl rfl ?_
  refine g_if_ne 10 4 dX8_terms_1 rfl rfl (fun c1 => ?_) (fun c1 => ?_)
  · skip
    replace H := H.1 c1
    refine g_iload_n 1 11 dX8_terms_10 rfl rfl ?_
    refine g_iconst (1) 12 dX8_terms_11 rfl rfl ?_
    refine g_icmp_ne 20 15 dX8_terms_12 rfl rfl (fun c2 => ?_) (fun c2 => ?_)
    · skip
      replace H := H.1 c2
      refine g_iload_n 1 21 dX8_terms_20 rfl rfl ?_
      refine g_iconst (2) 22 dX8_terms_21 rfl rfl ?_
      refine g_icmp_ne 30 25 dX8_terms_22 rfl rfl (fun c3 => ?_) (fun c3 => ?_)
      · skip
        replace H := H.1 c3
        refine g_iconst ((-1)) 31 dX8_terms_30 rfl rfl ?_
        refine g_istore_n 32 [(3, .int ((-1))), (0, .ref a0), (1, .int (x1)), (2, .int (x2))] dX8_terms_31 rfl (Nat.le_of_ble_eq_true rfl) rfl ?_
        refine g_iload_n 3 33 dX8_terms_32 rfl rfl ?_
        refine g_if_lt 41 36 dX8_terms_33 rfl rfl (fun c4 => ?_) (fun c4 => ?_)
        · skip
          replace H := H.1 c4
          refine g_aload_n 1 42 dX8_terms_41 rfl rfl ?_
          refine g_iconst ((-1)) 43 dX8_terms_42 rfl rfl ?_
          refine g_callV (mc1 := 0) (ms1 := 0) (b := a0) (rest := []) (av := [.int ((-1))]) kX8_refuse 46 dX8_terms_43 rfl rfl mbX8_146 imX8_refuse seX8_refuse gcl8.1 s0.1 (Nat.le_of_ble_eq_true rfl) (Nat.zero_le _) (Nat.zero_le _) (uX8_refuse (N := N) (K := K) s0 H (fun v1 M1 jj H => ?_))
          have j1 : Sm M M1 := jj
          show Go X (d + 1) mc ms kX8_terms Q 46 [(3, .int ((-1))), (0, .ref a0), (1, .int (x1)), (2, .int (x2))] [.int (v1)] M1 0 0
          exact g_iret dX8_terms_46 rfl (Nat.zero_le _) (Nat.zero_le _) (hR _ _ j1 H)
        · skip
          replace H := H.2 c4
          refine g_iload_n 3 37 dX8_terms_36 rfl rfl ?_
          refine g_iload_n 0 38 dX8_terms_37 rfl rfl ?_
          refine g_icmp_le 47 41 dX8_terms_38 rfl rfl (fun c5 => ?_) (fun c5 => ?_)
          · skip
            replace H := H.1 c5
            refine g_aload_n 1 48 dX8_terms_47 rfl rfl ?_
            refine g_getR 51 (a0 + 1) dX8_terms_48 rfl flX8_14 s0.1 s0.2.1 ?_
            refine g_getR 54 ((a0 + 1) + 1) dX8_terms_51 rfl flX8_102 s0.2.2.1.1 s0.2.2.1.2.1 ?_
            refine g_getR 57 (((a0 + 1) + 1) + 2) dX8_terms_54 rfl flX8_149 s0.2.2.1.2.2.1.1 s0.2.2.1.2.2.1.2.2.2.1 ?_
            refine g_iload_n 2 58 dX8_terms_57 rfl rfl ?_
            obtain ⟨b1, H⟩ := H
            refine h_iaload 59 (x1).toNatClampNeg dX8_terms_58 rfl rfl s0.2.2.1.2.2.1.2.2.2.2.1 b1 ?_
            refine g_istore 61 [(4, .int ((g_mi M (((a0 + 1) + 1) + 2) (x1).toNatClampNeg))), (3, .int ((-1))), (0, .ref a0), (1, .int (x1)), (2, .int (x2))] dX8_terms_59 rfl (Nat.le_of_ble_eq_true rfl) rfl ?_
            refine g_aload_n 2 62 dX8_terms_61 rfl rfl ?_
            refine g_getR 65 (a0 + 1) dX8_terms_62 rfl flX8_14 s0.1 s0.2.1 ?_
            refine g_getR 68 ((a0 + 1) + 1) dX8_terms_65 rfl flX8_102 s0.2.2.1.1 s0.2.2.1.2.1 ?_
            refine g_getR 71 (((a0 + 1) + 1) + 2) dX8_terms_68 rfl flX8_149 s0.2.2.1.2.2.1.1 s0.2.2.1.2.2.1.2.2.2.1 ?_
            refine g_iload_n 3 72 dX8_terms_71 rfl rfl ?_
            refine g_iload_n 4 73 dX8_terms_72 rfl rfl ?_
            refine h_iastore 74 (x1).toNatClampNeg dX8_terms_73 rfl rfl s0.2.2.1.2.2.1.2.2.2.2.1 b1 ?_
            generalize hM2 : (g_wi M (((a0 + 1) + 1) + 2) (x1).toNatClampNeg x2) = M2
            have j2 : Sm M M2 := by rw [← hM2]; exact (Sm.wi Sm.rf)
            replace H := H M2 hM2.symm
            refine g_aload_n 2 75 dX8_terms_74 rfl rfl ?_
            refine g_getR 78 (a0 + 13) dX8_terms_75 rfl flX8_25 (Sm.k j2 s0.1) (Sm.r j2 s0.2.2.2.2.2.1) ?_
            refine g_callV (mc1 := 0) (ms1 := 0) (b := (a0 + 13)) (rest := []) (av := []) kX0_clear 81 dX8_terms_78 rfl rfl mbX8_152 imX0_clear seX0_clear gcl0.1 (Sm.k j2 s0.2.2.2.2.2.2.1.1) (Nat.le_of_ble_eq_true rfl) (Nat.zero_le _) (Nat.zero_le _) (uX0_clear (N := N) (K := K) (Hi.sm j2 s0.2.2.2.2.2.2.1) H (fun M3 jj H => ?_))
            have j3 : Sm M M3 := Sm.tr j2 jj
            show Go X (d + 1) mc ms kX8_terms Q 81 [(4, .int ((g_mi M (((a0 + 1) + 1) + 2) (x1).toNatClampNeg))), (3, .int ((-1))), (0, .ref a0), (1, .int (x1)), (2, .int (x2))] [] M3 0 0
            refine g_aload_n 2 82 dX8_terms_81 rfl rfl ?_
            refine g_iload 0 84 dX8_terms_82 rfl rfl ?_
            refine g_callV (mc1 := 0) (ms1 := 0) (b := a0) (rest := []) (av := [.int ((g_mi M (((a0 + 1) + 1) + 2) (x1).toNatClampNeg))]) kX8_accept 87 dX8_terms_84 rfl rfl mbX8_155 imX8_accept seX8_accept gcl8.1 (Sm.k j3 s0.1) (Nat.le_of_ble_eq_true rfl) (Nat.zero_le _) (Nat.zero_le _) (uX8_accept (N := N) (K := K) (Ph.sm j3 s0) H (fun v2 M4 jj H => ?_))
            have j4 : Sm M M4 := Sm.tr j3 jj
            show Go X (d + 1) mc ms kX8_terms Q 87 [(4, .int ((g_mi M (((a0 + 1) + 1) + 2) (x1).toNatClampNeg))), (3, .int ((-1))), (0, .ref a0), (1, .int (x1)), (2, .int (x2))] [.int (v2)] M4 0 0
            exact g_iret dX8_terms_87 rfl (Nat.zero_le _) (Nat.zero_le _) (hR _ _ j4 H)
          · skip
            replace H := H.2 c5
            refine g_aload_n 1 42 dX8_terms_41 rfl rfl ?_
            refine g_iconst ((-1)) 43 dX8_terms_42 rfl rfl ?_
            refine g_callV (mc1 := 0) (ms1 := 0) (b := a0) (rest := []) (av := [.int ((-1))]) kX8_refuse 46 dX8_terms_43 rfl rfl mbX8_146 imX8_refuse seX8_refuse gcl8.1 s0.1 (Nat.le_of_ble_eq_true rfl) (Nat.zero_le _) (Nat.zero_le _) (uX8_refuse (N := N) (K := K) s0 H (fun v3 M5 jj H => ?_))
            have j5 : Sm M M5 := jj
            show Go X (d + 1) mc ms kX8_terms Q 46 [(3, .int ((-1))), (0, .ref a0), (1, .int (x1)), (2, .int (x2))] [.int (v3)] M5 0 0
            exact g_iret dX8_terms_46 rfl (Nat.zero_le _) (Nat.zero_le _) (hR _ _ j5 H)
      · skip
        replace H := H.2 c3
        refine g_bipush (9) 27 dX8_terms_25 rfl rfl ?_
        refine g_goto 31 dX8_terms_27 rfl ?_
        refine g_istore_n 32 [(3, .int (9)), (0, .ref a0), (1, .int (x1)), (2, .int (x2))] dX8_terms_31 rfl (Nat.le_of_ble_eq_true rfl) rfl ?_
        refine g_iload_n 3 33 dX8_terms_32 rfl rfl ?_
        refine g_if_lt 41 36 dX8_terms_33 rfl rfl (fun c6 => ?_) (fun c6 => ?_)
        · skip
          replace H := H.1 c6
          refine g_aload_n 1 42 dX8_terms_41 rfl rfl ?_
          refine g_iconst ((-1)) 43 dX8_terms_42 rfl rfl ?_
          refine g_callV (mc1 := 0) (ms1 := 0) (b := a0) (rest := []) (av := [.int ((-1))]) kX8_refuse 46 dX8_terms_43 rfl rfl mbX8_146 imX8_refuse seX8_refuse gcl8.1 s0.1 (Nat.le_of_ble_eq_true rfl) (Nat.zero_le _) (Nat.zero_le _) (uX8_refuse (N := N) (K := K) s0 H (fun v4 M6 jj H => ?_))
          have j6 : Sm M M6 := jj
          show Go X (d + 1) mc ms kX8_terms Q 46 [(3, .int (9)), (0, .ref a0), (1, .int (x1)), (2, .int (x2))] [.int (v4)] M6 0 0
          exact g_iret dX8_terms_46 rfl (Nat.zero_le _) (Nat.zero_le _) (hR _ _ j6 H)
        · skip
          replace H := H.2 c6
          refine g_iload_n 3 37 dX8_terms_36 rfl rfl ?_
          refine g_iload_n 0 38 dX8_terms_37 rfl rfl ?_
          refine g_icmp_le 47 41 dX8_terms_38 rfl rfl (fun c7 => ?_) (fun c7 => ?_)
          · skip
            replace H := H.1 c7
            refine g_aload_n 1 48 dX8_terms_47 rfl rfl ?_
            refine g_getR 51 (a0 + 1) dX8_terms_48 rfl flX8_14 s0.1 s0.2.1 ?_
            refine g_getR 54 ((a0 + 1) + 1) dX8_terms_51 rfl flX8_102 s0.2.2.1.1 s0.2.2.1.2.1 ?_
            refine g_getR 57 (((a0 + 1) + 1) + 2) dX8_terms_54 rfl flX8_149 s0.2.2.1.2.2.1.1 s0.2.2.1.2.2.1.2.2.2.1 ?_
            refine g_iload_n 2 58 dX8_terms_57 rfl rfl ?_
            obtain ⟨b2, H⟩ := H
            refine h_iaload 59 (x1).toNatClampNeg dX8_terms_58 rfl rfl s0.2.2.1.2.2.1.2.2.2.2.1 b2 ?_
            refine g_istore 61 [(4, .int ((g_mi M (((a0 + 1) + 1) + 2) (x1).toNatClampNeg))), (3, .int (9)), (0, .ref a0), (1, .int (x1)), (2, .int (x2))] dX8_terms_59 rfl (Nat.le_of_ble_eq_true rfl) rfl ?_
            refine g_aload_n 2 62 dX8_terms_61 rfl rfl ?_
            refine g_getR 65 (a0 + 1) dX8_terms_62 rfl flX8_14 s0.1 s0.2.1 ?_
            refine g_getR 68 ((a0 + 1) + 1) dX8_terms_65 rfl flX8_102 s0.2.2.1.1 s0.2.2.1.2.1 ?_
            refine g_getR 71 (((a0 + 1) + 1) + 2) dX8_terms_68 rfl flX8_149 s0.2.2.1.2.2.1.1 s0.2.2.1.2.2.1.2.2.2.1 ?_
            refine g_iload_n 3 72 dX8_terms_71 rfl rfl ?_
            refine g_iload_n 4 73 dX8_terms_72 rfl rfl ?_
            refine h_iastore 74 (x1).toNatClampNeg dX8_terms_73 rfl rfl s0.2.2.1.2.2.1.2.2.2.2.1 b2 ?_
            generalize hM7 : (g_wi M (((a0 + 1) + 1) + 2) (x1).toNatClampNeg x2) = M7
            have j7 : Sm M M7 := by rw [← hM7]; exact (Sm.wi Sm.rf)
            replace H := H M7 hM7.symm
            refine g_aload_n 2 75 dX8_terms_74 rfl rfl ?_
            refine g_getR 78 (a0 + 13) dX8_terms_75 rfl flX8_25 (Sm.k j7 s0.1) (Sm.r j7 s0.2.2.2.2.2.1) ?_
            refine g_callV (mc1 := 0) (ms1 := 0) (b := (a0 + 13)) (rest := []) (av := []) kX0_clear 81 dX8_terms_78 rfl rfl mbX8_152 imX0_clear seX0_clear gcl0.1 (Sm.k j7 s0.2.2.2.2.2.2.1.1) (Nat.le_of_ble_eq_true rfl) (Nat.zero_le _) (Nat.zero_le _) (uX0_clear (N := N) (K := K) (Hi.sm j7 s0.2.2.2.2.2.2.1) H (fun M8 jj H => ?_))
            have j8 : Sm M M8 := Sm.tr j7 jj
            show Go X (d + 1) mc ms kX8_terms Q 81 [(4, .int ((g_mi M (((a0 + 1) + 1) + 2) (x1).toNatClampNeg))), (3, .int (9)), (0, .ref a0), (1, .int (x1)), (2, .int (x2))] [] M8 0 0
            refine g_aload_n 2 82 dX8_terms_81 rfl rfl ?_
            refine g_iload 0 84 dX8_terms_82 rfl rfl ?_
            refine g_callV (mc1 := 0) (ms1 := 0) (b := a0) (rest := []) (av := [.int ((g_mi M (((a0 + 1) + 1) + 2) (x1).toNatClampNeg))]) kX8_accept 87 dX8_terms_84 rfl rfl mbX8_155 imX8_accept seX8_accept gcl8.1 (Sm.k j8 s0.1) (Nat.le_of_ble_eq_true rfl) (Nat.zero_le _) (Nat.zero_le _) (uX8_accept (N := N) (K := K) (Ph.sm j8 s0) H (fun v5 M9 jj H => ?_))
            have j9 : Sm M M9 := Sm.tr j8 jj
            show Go X (d + 1) mc ms kX8_terms Q 87 [(4, .int ((g_mi M (((a0 + 1) + 1) + 2) (x1).toNatClampNeg))), (3, .int (9)), (0, .ref a0), (1, .int (x1)), (2, .int (x2))] [.int (v5)] M9 0 0
            exact g_iret dX8_terms_87 rfl (Nat.zero_le _) (Nat.zero_le _) (hR _ _ j9 H)
          · skip
            replace H := H.2 c7
            refine g_aload_n 1 42 dX8_terms_41 rfl rfl ?_
            refine g_iconst ((-1)) 43 dX8_terms_42 rfl rfl ?_
            refine g_callV (mc1 := 0) (ms1 := 0) (b := a0) (rest := []) (av := [.int ((-1))]) kX8_refuse 46 dX8_terms_43 rfl rfl mbX8_146 imX8_refuse seX8_refuse gcl8.1 s0.1 (Nat.le_of_ble_eq_true rfl) (Nat.zero_le _) (Nat.zero_le _) (uX8_refuse (N := N) (K := K) s0 H (fun v6 M10 jj H => ?_))
            have j10 : Sm M M10 := jj
            show Go X (d + 1) mc ms kX8_terms Q 46 [(3, .int (9)), (0, .ref a0), (1, .int (x1)), (2, .int (x2))] [.int (v6)] M10 0 0
            exact g_iret dX8_terms_46 rfl (Nat.zero_le _) (Nat.zero_le _) (hR _ _ j10 H)
    · skip
      replace H := H.2 c2
      refine g_bipush (10) 17 dX8_terms_15 rfl rfl ?_
      refine g_goto 31 dX8_terms_17 rfl ?_
      refine g_istore_n 32 [(3, .int (10)), (0, .ref a0), (1, .int (x1)), (2, .int (x2))] dX8_terms_31 rfl (Nat.le_of_ble_eq_true rfl) rfl ?_
      refine g_iload_n 3 33 dX8_terms_32 rfl rfl ?_
      refine g_if_lt 41 36 dX8_terms_33 rfl rfl (fun c8 => ?_) (fun c8 => ?_)
      · skip
        replace H := H.1 c8
        refine g_aload_n 1 42 dX8_terms_41 rfl rfl ?_
        refine g_iconst ((-1)) 43 dX8_terms_42 rfl rfl ?_
        refine g_callV (mc1 := 0) (ms1 := 0) (b := a0) (rest := []) (av := [.int ((-1))]) kX8_refuse 46 dX8_terms_43 rfl rfl mbX8_146 imX8_refuse seX8_refuse gcl8.1 s0.1 (Nat.le_of_ble_eq_true rfl) (Nat.zero_le _) (Nat.zero_le _) (uX8_refuse (N := N) (K := K) s0 H (fun v7 M11 jj H => ?_))
        have j11 : Sm M M11 := jj
        show Go X (d + 1) mc ms kX8_terms Q 46 [(3, .int (10)), (0, .ref a0), (1, .int (x1)), (2, .int (x2))] [.int (v7)] M11 0 0
        exact g_iret dX8_terms_46 rfl (Nat.zero_le _) (Nat.zero_le _) (hR _ _ j11 H)
      · skip
        replace H := H.2 c8
        refine g_iload_n 3 37 dX8_terms_36 rfl rfl ?_
        refine g_iload_n 0 38 dX8_terms_37 rfl rfl ?_
        refine g_icmp_le 47 41 dX8_terms_38 rfl rfl (fun c9 => ?_) (fun c9 => ?_)
        · skip
          replace H := H.1 c9
          refine g_aload_n 1 48 dX8_terms_47 rfl rfl ?_
          refine g_getR 51 (a0 + 1) dX8_terms_48 rfl flX8_14 s0.1 s0.2.1 ?_
          refine g_getR 54 ((a0 + 1) + 1) dX8_terms_51 rfl flX8_102 s0.2.2.1.1 s0.2.2.1.2.1 ?_
          refine g_getR 57 (((a0 + 1) + 1) + 2) dX8_terms_54 rfl flX8_149 s0.2.2.1.2.2.1.1 s0.2.2.1.2.2.1.2.2.2.1 ?_
          refine g_iload_n 2 58 dX8_terms_57 rfl rfl ?_
          obtain ⟨b3, H⟩ := H
          refine h_iaload 59 (x1).toNatClampNeg dX8_terms_58 rfl rfl s0.2.2.1.2.2.1.2.2.2.2.1 b3 ?_
          refine g_istore 61 [(4, .int ((g_mi M (((a0 + 1) + 1) + 2) (x1).toNatClampNeg))), (3, .int (10)), (0, .ref a0), (1, .int (x1)), (2, .int (x2))] dX8_terms_59 rfl (Nat.le_of_ble_eq_true rfl) rfl ?_
          refine g_aload_n 2 62 dX8_terms_61 rfl rfl ?_
          refine g_getR 65 (a0 + 1) dX8_terms_62 rfl flX8_14 s0.1 s0.2.1 ?_
          refine g_getR 68 ((a0 + 1) + 1) dX8_terms_65 rfl flX8_102 s0.2.2.1.1 s0.2.2.1.2.1 ?_
          refine g_getR 71 (((a0 + 1) + 1) + 2) dX8_terms_68 rfl flX8_149 s0.2.2.1.2.2.1.1 s0.2.2.1.2.2.1.2.2.2.1 ?_
          refine g_iload_n 3 72 dX8_terms_71 rfl rfl ?_
          refine g_iload_n 4 73 dX8_terms_72 rfl rfl ?_
          refine h_iastore 74 (x1).toNatClampNeg dX8_terms_73 rfl rfl s0.2.2.1.2.2.1.2.2.2.2.1 b3 ?_
          generalize hM12 : (g_wi M (((a0 + 1) + 1) + 2) (x1).toNatClampNeg x2) = M12
          have j12 : Sm M M12 := by rw [← hM12]; exact (Sm.wi Sm.rf)
          replace H := H M12 hM12.symm
          refine g_aload_n 2 75 dX8_terms_74 rfl rfl ?_
          refine g_getR 78 (a0 + 13) dX8_terms_75 rfl flX8_25 (Sm.k j12 s0.1) (Sm.r j12 s0.2.2.2.2.2.1) ?_
          refine g_callV (mc1 := 0) (ms1 := 0) (b := (a0 + 13)) (rest := []) (av := []) kX0_clear 81 dX8_terms_78 rfl rfl mbX8_152 imX0_clear seX0_clear gcl0.1 (Sm.k j12 s0.2.2.2.2.2.2.1.1) (Nat.le_of_ble_eq_true rfl) (Nat.zero_le _) (Nat.zero_le _) (uX0_clear (N := N) (K := K) (Hi.sm j12 s0.2.2.2.2.2.2.1) H (fun M13 jj H => ?_))
          have j13 : Sm M M13 := Sm.tr j12 jj
          show Go X (d + 1) mc ms kX8_terms Q 81 [(4, .int ((g_mi M (((a0 + 1) + 1) + 2) (x1).toNatClampNeg))), (3, .int (10)), (0, .ref a0), (1, .int (x1)), (2, .int (x2))] [] M13 0 0
          refine g_aload_n 2 82 dX8_terms_81 rfl rfl ?_
          refine g_iload 0 84 dX8_terms_82 rfl rfl ?_
          refine g_callV (mc1 := 0) (ms1 := 0) (b := a0) (rest := []) (av := [.int ((g_mi M (((a0 + 1) + 1) + 2) (x1).toNatClampNeg))]) kX8_accept 87 dX8_terms_84 rfl rfl mbX8_155 imX8_accept seX8_accept gcl8.1 (Sm.k j13 s0.1) (Nat.le_of_ble_eq_true rfl) (Nat.zero_le _) (Nat.zero_le _) (uX8_accept (N := N) (K := K) (Ph.sm j13 s0) H (fun v8 M14 jj H => ?_))
          have j14 : Sm M M14 := Sm.tr j13 jj
          show Go X (d + 1) mc ms kX8_terms Q 87 [(4, .int ((g_mi M (((a0 + 1) + 1) + 2) (x1).toNatClampNeg))), (3, .int (10)), (0, .ref a0), (1, .int (x1)), (2, .int (x2))] [.int (v8)] M14 0 0
          exact g_iret dX8_terms_87 rfl (Nat.zero_le _) (Nat.zero_le _) (hR _ _ j14 H)
        · skip
          replace H := H.2 c9
          refine g_aload_n 1 42 dX8_terms_41 rfl rfl ?_
          refine g_iconst ((-1)) 43 dX8_terms_42 rfl rfl ?_
          refine g_callV (mc1 := 0) (ms1 := 0) (b := a0) (rest := []) (av := [.int ((-1))]) kX8_refuse 46 dX8_terms_43 rfl rfl mbX8_146 imX8_refuse seX8_refuse gcl8.1 s0.1 (Nat.le_of_ble_eq_true rfl) (Nat.zero_le _) (Nat.zero_le _) (uX8_refuse (N := N) (K := K) s0 H (fun v9 M15 jj H => ?_))
          have j15 : Sm M M15 := jj
          show Go X (d + 1) mc ms kX8_terms Q 46 [(3, .int (10)), (0, .ref a0), (1, .int (x1)), (2, .int (x2))] [.int (v9)] M15 0 0
          exact g_iret dX8_terms_46 rfl (Nat.zero_le _) (Nat.zero_le _) (hR _ _ j15 H)
  · skip
    replace H := H.2 c1
    refine g_sipush (999) 7 dX8_terms_4 rfl rfl ?_
    refine g_goto 31 dX8_terms_7 rfl ?_
    refine g_istore_n 32 [(3, .int (999)), (0, .ref a0), (1, .int (x1)), (2, .int (x2))] dX8_terms_31 rfl (Nat.le_of_ble_eq_true rfl) rfl ?_
    refine g_iload_n 3 33 dX8_terms_32 rfl rfl ?_
    refine g_if_lt 41 36 dX8_terms_33 rfl rfl (fun c10 => ?_) (fun c10 => ?_)
    · skip
      replace H := H.1 c10
      refine g_aload_n 1 42 dX8_terms_41 rfl rfl ?_
      refine g_iconst ((-1)) 43 dX8_terms_42 rfl rfl ?_
      refine g_callV (mc1 := 0) (ms1 := 0) (b := a0) (rest := []) (av := [.int ((-1))]) kX8_refuse 46 dX8_terms_43 rfl rfl mbX8_146 imX8_refuse seX8_refuse gcl8.1 s0.1 (Nat.le_of_ble_eq_true rfl) (Nat.zero_le _) (Nat.zero_le _) (uX8_refuse (N := N) (K := K) s0 H (fun v10 M16 jj H => ?_))
      have j16 : Sm M M16 := jj
      show Go X (d + 1) mc ms kX8_terms Q 46 [(3, .int (999)), (0, .ref a0), (1, .int (x1)), (2, .int (x2))] [.int (v10)] M16 0 0
      exact g_iret dX8_terms_46 rfl (Nat.zero_le _) (Nat.zero_le _) (hR _ _ j16 H)
    · skip
      replace H := H.2 c10
      refine g_iload_n 3 37 dX8_terms_36 rfl rfl ?_
      refine g_iload_n 0 38 dX8_terms_37 rfl rfl ?_
      refine g_icmp_le 47 41 dX8_terms_38 rfl rfl (fun c11 => ?_) (fun c11 => ?_)
      · skip
        replace H := H.1 c11
        refine g_aload_n 1 48 dX8_terms_47 rfl rfl ?_
        refine g_getR 51 (a0 + 1) dX8_terms_48 rfl flX8_14 s0.1 s0.2.1 ?_
        refine g_getR 54 ((a0 + 1) + 1) dX8_terms_51 rfl flX8_102 s0.2.2.1.1 s0.2.2.1.2.1 ?_
        refine g_getR 57 (((a0 + 1) + 1) + 2) dX8_terms_54 rfl flX8_149 s0.2.2.1.2.2.1.1 s0.2.2.1.2.2.1.2.2.2.1 ?_
        refine g_iload_n 2 58 dX8_terms_57 rfl rfl ?_
        obtain ⟨b4, H⟩ := H
        refine h_iaload 59 (x1).toNatClampNeg dX8_terms_58 rfl rfl s0.2.2.1.2.2.1.2.2.2.2.1 b4 ?_
        refine g_istore 61 [(4, .int ((g_mi M (((a0 + 1) + 1) + 2) (x1).toNatClampNeg))), (3, .int (999)), (0, .ref a0), (1, .int (x1)), (2, .int (x2))] dX8_terms_59 rfl (Nat.le_of_ble_eq_true rfl) rfl ?_
        refine g_aload_n 2 62 dX8_terms_61 rfl rfl ?_
        refine g_getR 65 (a0 + 1) dX8_terms_62 rfl flX8_14 s0.1 s0.2.1 ?_
        refine g_getR 68 ((a0 + 1) + 1) dX8_terms_65 rfl flX8_102 s0.2.2.1.1 s0.2.2.1.2.1 ?_
        refine g_getR 71 (((a0 + 1) + 1) + 2) dX8_terms_68 rfl flX8_149 s0.2.2.1.2.2.1.1 s0.2.2.1.2.2.1.2.2.2.1 ?_
        refine g_iload_n 3 72 dX8_terms_71 rfl rfl ?_
        refine g_iload_n 4 73 dX8_terms_72 rfl rfl ?_
        refine h_iastore 74 (x1).toNatClampNeg dX8_terms_73 rfl rfl s0.2.2.1.2.2.1.2.2.2.2.1 b4 ?_
        generalize hM17 : (g_wi M (((a0 + 1) + 1) + 2) (x1).toNatClampNeg x2) = M17
        have j17 : Sm M M17 := by rw [← hM17]; exact (Sm.wi Sm.rf)
        replace H := H M17 hM17.symm
        refine g_aload_n 2 75 dX8_terms_74 rfl rfl ?_
        refine g_getR 78 (a0 + 13) dX8_terms_75 rfl flX8_25 (Sm.k j17 s0.1) (Sm.r j17 s0.2.2.2.2.2.1) ?_
        refine g_callV (mc1 := 0) (ms1 := 0) (b := (a0 + 13)) (rest := []) (av := []) kX0_clear 81 dX8_terms_78 rfl rfl mbX8_152 imX0_clear seX0_clear gcl0.1 (Sm.k j17 s0.2.2.2.2.2.2.1.1) (Nat.le_of_ble_eq_true rfl) (Nat.zero_le _) (Nat.zero_le _) (uX0_clear (N := N) (K := K) (Hi.sm j17 s0.2.2.2.2.2.2.1) H (fun M18 jj H => ?_))
        have j18 : Sm M M18 := Sm.tr j17 jj
        show Go X (d + 1) mc ms kX8_terms Q 81 [(4, .int ((g_mi M (((a0 + 1) + 1) + 2) (x1).toNatClampNeg))), (3, .int (999)), (0, .ref a0), (1, .int (x1)), (2, .int (x2))] [] M18 0 0
        refine g_aload_n 2 82 dX8_terms_81 rfl rfl ?_
        refine g_iload 0 84 dX8_terms_82 rfl rfl ?_
        refine g_callV (mc1 := 0) (ms1 := 0) (b := a0) (rest := []) (av := [.int ((g_mi M (((a0 + 1) + 1) + 2) (x1).toNatClampNeg))]) kX8_accept 87 dX8_terms_84 rfl rfl mbX8_155 imX8_accept seX8_accept gcl8.1 (Sm.k j18 s0.1) (Nat.le_of_ble_eq_true rfl) (Nat.zero_le _) (Nat.zero_le _) (uX8_accept (N := N) (K := K) (Ph.sm j18 s0) H (fun v11 M19 jj H => ?_))
        have j19 : Sm M M19 := Sm.tr j18 jj
        show Go X (d + 1) mc ms kX8_terms Q 87 [(4, .int ((g_mi M (((a0 + 1) + 1) + 2) (x1).toNatClampNeg))), (3, .int (999)), (0, .ref a0), (1, .int (x1)), (2, .int (x2))] [.int (v11)] M19 0 0
        exact g_iret dX8_terms_87 rfl (Nat.zero_le _) (Nat.zero_le _) (hR _ _ j19 H)
      · skip
        replace H := H.2 c11
        refine g_aload_n 1 42 dX8_terms_41 rfl rfl ?_
        refine g_iconst ((-1)) 43 dX8_terms_42 rfl rfl ?_
        refine g_callV (mc1 := 0) (ms1 := 0) (b := a0) (rest := []) (av := [.int ((-1))]) kX8_refuse 46 dX8_terms_43 rfl rfl mbX8_146 imX8_refuse seX8_refuse gcl8.1 s0.1 (Nat.le_of_ble_eq_true rfl) (Nat.zero_le _) (Nat.zero_le _) (uX8_refuse (N := N) (K := K) s0 H (fun v12 M20 jj H => ?_))
        have j20 : Sm M M20 := jj
        show Go X (d + 1) mc ms kX8_terms Q 46 [(3, .int (999)), (0, .ref a0), (1, .int (x1)), (2, .int (x2))] [.int (v12)] M20 0 0
        exact g_iret dX8_terms_46 rfl (Nat.zero_le _) (Nat.zero_le _) (hR _ _ j20 H)
/-! X8_feed -/
def pX8_feed (N K : Nat) (M : gM) (a0 : Nat) (x1 : Int32) (x2 : Int32) (x3 : Int32) (x4 : Int32) (x5 : Int32) (R : Int32 → gM → Prop) : Prop := ((((g_mi M (a0 + 282) 5) + 20) ≤ 400 → pX2_append N K M (a0 + 282) x1 (fun M1 => pX2_append N K M1 (a0 + 282) x2 (fun M2 => pX2_append N K M2 (a0 + 282) x3 (fun M3 => pX2_append N K M3 (a0 + 282) x4 (fun M4 => pX2_append N K M4 (a0 + 282) x5 (fun M5 => R (g_mi M5 (a0 + 282) 5) M5)))))) ∧ (¬ ((g_mi M (a0 + 282) 5) + 20) ≤ 400 → R (-1) M))
set_option maxRecDepth 10000 in
theorem uX8_feed {N K : Nat} {X : gX} {d mc ms : Nat} {Q : Option Value → gM → Prop} {M : gM} {a0 : Nat} {x1 : Int32} {x2 : Int32} {x3 : Int32} {x4 : Int32} {x5 : Int32} {R : Int32 → gM → Prop} (s0 : Ph M a0) (H : pX8_feed N K M a0 x1 x2 x3 x4 x5 R) (hR : ∀ (v : Int32) (M1 : gM), Sm M M1 → R v M1 → Q (some (.int v)) M1) : Cn X (d + 1) mc ms kX8_feed [.ref a0, .int (x1), .int (x2), .int (x3), .int (x4), .int (x5)] M Q := by
  unfold pX8_feed at H
  refine g_meth rfl rfl (Nat.le_of_ble_eq_true rfl) rfl ?_
  refine g_aload_n 0 1 dX8_feed_0 rfl rfl ?_
  refine g_getR 4 (a0 + 282) dX8_feed_1 rfl flX8_61 s0.1 s0.2.2.2.2.2.2.2.2.2.2.2.2.2.2.2.2.2.1 ?_
  refine g_getI 7 dX8_feed_4 rfl flX8_158 s0.2.2.2.2.2.2.2.2.2.2.2.2.2.2.2.2.2.2.1.1 ?_
  refine g_bipush (20) 9 dX8_feed_7 rfl rfl ?_
  refine g_iadd 10 dX8_feed_9 rfl ?_
  refine g_sipush (400) 13 dX8_feed_10 rfl rfl ?_
  refine g_icmp_le 18 16 dX8_feed_13 rfl rfl (fun c1 => ?_) (fun c1 => ?_)
  · skip
    replace H := H.1 c1
    refine g_aload_n 0 19 dX8_feed_18 rfl rfl ?_
    refine g_getR 22 (a0 + 282) dX8_feed_19 rfl flX8_61 s0.1 s0.2.2.2.2.2.2.2.2.2.2.2.2.2.2.2.2.2.1 ?_
    refine g_iload_n 1 23 dX8_feed_22 rfl rfl ?_
    refine g_callV (mc1 := 0) (ms1 := 0) (b := (a0 + 282)) (rest := []) (av := [.int (x1)]) kX2_append 26 dX8_feed_23 rfl rfl mbX8_161 imX2_append seX2_append gcl2.1 s0.2.2.2.2.2.2.2.2.2.2.2.2.2.2.2.2.2.2.1.1 (Nat.le_of_ble_eq_true rfl) (Nat.zero_le _) (Nat.zero_le _) (uX2_append (N := N) (K := K) s0.2.2.2.2.2.2.2.2.2.2.2.2.2.2.2.2.2.2.1 H (fun M1 jj H => ?_))
    have j1 : Sm M M1 := jj
    show Go X (d + 1) mc ms kX8_feed Q 26 [(0, .ref a0), (1, .int (x1)), (2, .int (x2)), (3, .int (x3)), (4, .int (x4)), (5, .int (x5))] [] M1 0 0
    refine g_aload_n 0 27 dX8_feed_26 rfl rfl ?_
    refine g_getR 30 (a0 + 282) dX8_feed_27 rfl flX8_61 (Sm.k j1 s0.1) (Sm.r j1 s0.2.2.2.2.2.2.2.2.2.2.2.2.2.2.2.2.2.1) ?_
    refine g_iload_n 2 31 dX8_feed_30 rfl rfl ?_
    refine g_callV (mc1 := 0) (ms1 := 0) (b := (a0 + 282)) (rest := []) (av := [.int (x2)]) kX2_append 34 dX8_feed_31 rfl rfl mbX8_161 imX2_append seX2_append gcl2.1 (Sm.k j1 s0.2.2.2.2.2.2.2.2.2.2.2.2.2.2.2.2.2.2.1.1) (Nat.le_of_ble_eq_true rfl) (Nat.zero_le _) (Nat.zero_le _) (uX2_append (N := N) (K := K) (Re.sm j1 s0.2.2.2.2.2.2.2.2.2.2.2.2.2.2.2.2.2.2.1) H (fun M2 jj H => ?_))
    have j2 : Sm M M2 := Sm.tr j1 jj
    show Go X (d + 1) mc ms kX8_feed Q 34 [(0, .ref a0), (1, .int (x1)), (2, .int (x2)), (3, .int (x3)), (4, .int (x4)), (5, .int (x5))] [] M2 0 0
    refine g_aload_n 0 35 dX8_feed_34 rfl rfl ?_
    refine g_getR 38 (a0 + 282) dX8_feed_35 rfl flX8_61 (Sm.k j2 s0.1) (Sm.r j2 s0.2.2.2.2.2.2.2.2.2.2.2.2.2.2.2.2.2.1) ?_
    refine g_iload_n 3 39 dX8_feed_38 rfl rfl ?_
    refine g_callV (mc1 := 0) (ms1 := 0) (b := (a0 + 282)) (rest := []) (av := [.int (x3)]) kX2_append 42 dX8_feed_39 rfl rfl mbX8_161 imX2_append seX2_append gcl2.1 (Sm.k j2 s0.2.2.2.2.2.2.2.2.2.2.2.2.2.2.2.2.2.2.1.1) (Nat.le_of_ble_eq_true rfl) (Nat.zero_le _) (Nat.zero_le _) (uX2_append (N := N) (K := K) (Re.sm j2 s0.2.2.2.2.2.2.2.2.2.2.2.2.2.2.2.2.2.2.1) H (fun M3 jj H => ?_))
    have j3 : Sm M M3 := Sm.tr j2 jj
    show Go X (d + 1) mc ms kX8_feed Q 42 [(0, .ref a0), (1, .int (x1)), (2, .int (x2)), (3, .int (x3)), (4, .int (x4)), (5, .int (x5))] [] M3 0 0
    refine g_aload_n 0 43 dX8_feed_42 rfl rfl ?_
    refine g_getR 46 (a0 + 282) dX8_feed_43 rfl flX8_61 (Sm.k j3 s0.1) (Sm.r j3 s0.2.2.2.2.2.2.2.2.2.2.2.2.2.2.2.2.2.1) ?_
    refine g_iload 4 48 dX8_feed_46 rfl rfl ?_
    refine g_callV (mc1 := 0) (ms1 := 0) (b := (a0 + 282)) (rest := []) (av := [.int (x4)]) kX2_append 51 dX8_feed_48 rfl rfl mbX8_161 imX2_append seX2_append gcl2.1 (Sm.k j3 s0.2.2.2.2.2.2.2.2.2.2.2.2.2.2.2.2.2.2.1.1) (Nat.le_of_ble_eq_true rfl) (Nat.zero_le _) (Nat.zero_le _) (uX2_append (N := N) (K := K) (Re.sm j3 s0.2.2.2.2.2.2.2.2.2.2.2.2.2.2.2.2.2.2.1) H (fun M4 jj H => ?_))
    have j4 : Sm M M4 := Sm.tr j3 jj
    show Go X (d + 1) mc ms kX8_feed Q 51 [(0, .ref a0), (1, .int (x1)), (2, .int (x2)), (3, .int (x3)), (4, .int (x4)), (5, .int (x5))] [] M4 0 0
    refine g_aload_n 0 52 dX8_feed_51 rfl rfl ?_
    refine g_getR 55 (a0 + 282) dX8_feed_52 rfl flX8_61 (Sm.k j4 s0.1) (Sm.r j4 s0.2.2.2.2.2.2.2.2.2.2.2.2.2.2.2.2.2.1) ?_
    refine g_iload 5 57 dX8_feed_55 rfl rfl ?_
    refine g_callV (mc1 := 0) (ms1 := 0) (b := (a0 + 282)) (rest := []) (av := [.int (x5)]) kX2_append 60 dX8_feed_57 rfl rfl mbX8_161 imX2_append seX2_append gcl2.1 (Sm.k j4 s0.2.2.2.2.2.2.2.2.2.2.2.2.2.2.2.2.2.2.1.1) (Nat.le_of_ble_eq_true rfl) (Nat.zero_le _) (Nat.zero_le _) (uX2_append (N := N) (K := K) (Re.sm j4 s0.2.2.2.2.2.2.2.2.2.2.2.2.2.2.2.2.2.2.1) H (fun M5 jj H => ?_))
    have j5 : Sm M M5 := Sm.tr j4 jj
    show Go X (d + 1) mc ms kX8_feed Q 60 [(0, .ref a0), (1, .int (x1)), (2, .int (x2)), (3, .int (x3)), (4, .int (x4)), (5, .int (x5))] [] M5 0 0
    refine g_aload_n 0 61 dX8_feed_60 rfl rfl ?_
    refine g_getR 64 (a0 + 282) dX8_feed_61 rfl flX8_61 (Sm.k j5 s0.1) (Sm.r j5 s0.2.2.2.2.2.2.2.2.2.2.2.2.2.2.2.2.2.1) ?_
    refine g_getI 67 dX8_feed_64 rfl flX8_158 (Sm.k j5 s0.2.2.2.2.2.2.2.2.2.2.2.2.2.2.2.2.2.2.1.1) ?_
    exact g_iret dX8_feed_67 rfl (Nat.zero_le _) (Nat.zero_le _) (hR _ _ j5 H)
  · skip
    replace H := H.2 c1
    refine g_iconst ((-1)) 17 dX8_feed_16 rfl rfl ?_
    exact g_iret dX8_feed_17 rfl (Nat.zero_le _) (Nat.zero_le _) (hR _ _ Sm.rf H)
/-! X8_end -/
def pX8_end (N K : Nat) (M : gM) (a0 : Nat) (x1 : Int32) (R : Int32 → gM → Prop) : Prop := ((x1 < 0 → R (-1) M) ∧ (¬ x1 < 0 → ((x1 ≤ (g_mi M (a0 + 282) 5) → ∀ M1 : gM, M1 = (g_wi M (a0 + 282) 5 x1) → R x1 M1) ∧ (¬ x1 ≤ (g_mi M (a0 + 282) 5) → R (-1) M))))
set_option maxRecDepth 10000 in
theorem uX8_end {N K : Nat} {X : gX} {d mc ms : Nat} {Q : Option Value → gM → Prop} {M : gM} {a0 : Nat} {x1 : Int32} {R : Int32 → gM → Prop} (s0 : Ph M a0) (H : pX8_end N K M a0 x1 R) (hR : ∀ (v : Int32) (M1 : gM), Sm M M1 → R v M1 → Q (some (.int v)) M1) : Cn X d mc ms kX8_end [.ref a0, .int (x1)] M Q := by
  unfold pX8_end at H
  refine g_meth rfl rfl (Nat.le_of_ble_eq_true rfl) rfl ?_
  refine g_iload_n 1 1 dX8_end_0 rfl rfl ?_
  refine g_if_lt 15 4 dX8_end_1 rfl rfl (fun c1 => ?_) (fun c1 => ?_)
  · skip
    replace H := H.1 c1
    refine g_iconst ((-1)) 16 dX8_end_15 rfl rfl ?_
    exact g_iret dX8_end_16 rfl (Nat.zero_le _) (Nat.zero_le _) (hR _ _ Sm.rf H)
  · skip
    replace H := H.2 c1
    refine g_iload_n 1 5 dX8_end_4 rfl rfl ?_
    refine g_aload_n 0 6 dX8_end_5 rfl rfl ?_
    refine g_getR 9 (a0 + 282) dX8_end_6 rfl flX8_61 s0.1 s0.2.2.2.2.2.2.2.2.2.2.2.2.2.2.2.2.2.1 ?_
    refine g_getI 12 dX8_end_9 rfl flX8_158 s0.2.2.2.2.2.2.2.2.2.2.2.2.2.2.2.2.2.2.1.1 ?_
    refine g_icmp_le 17 15 dX8_end_12 rfl rfl (fun c2 => ?_) (fun c2 => ?_)
    · skip
      replace H := H.1 c2
      refine g_aload_n 0 18 dX8_end_17 rfl rfl ?_
      refine g_getR 21 (a0 + 282) dX8_end_18 rfl flX8_61 s0.1 s0.2.2.2.2.2.2.2.2.2.2.2.2.2.2.2.2.2.1 ?_
      refine g_iload_n 1 22 dX8_end_21 rfl rfl ?_
      refine g_putI 25 dX8_end_22 rfl flX8_158 s0.2.2.2.2.2.2.2.2.2.2.2.2.2.2.2.2.2.2.1.1 ?_
      generalize hM1 : (g_wi M (a0 + 282) 5 x1) = M1
      have j1 : Sm M M1 := by rw [← hM1]; exact (Sm.wi Sm.rf)
      replace H := H M1 hM1.symm
      refine g_iload_n 1 26 dX8_end_25 rfl rfl ?_
      exact g_iret dX8_end_26 rfl (Nat.zero_le _) (Nat.zero_le _) (hR _ _ j1 H)
    · skip
      replace H := H.2 c2
      refine g_iconst ((-1)) 16 dX8_end_15 rfl rfl ?_
      exact g_iret dX8_end_16 rfl (Nat.zero_le _) (Nat.zero_le _) (hR _ _ Sm.rf H)
/-! X8_blanks -/
def pX8_blanks (N K : Nat) (M : gM) (a0 : Nat) (R : Int32 → Prop) : Prop := R (g_mi M a0 15)
set_option maxRecDepth 10000 in
theorem uX8_blanks {N K : Nat} {X : gX} {d mc ms : Nat} {Q : Option Value → gM → Prop} {M : gM} {a0 : Nat} {R : Int32 → Prop} (s0 : Ph M a0) (H : pX8_blanks N K M a0 R) (hR : ∀ (v : Int32), R v → Q (some (.int v)) M) : Cn X d mc ms kX8_blanks [.ref a0] M Q := by
  unfold pX8_blanks at H
  refine g_meth rfl rfl (Nat.le_of_ble_eq_true rfl) rfl ?_
  refine g_aload_n 0 1 dX8_blanks_0 rfl rfl ?_
  refine g_getI 4 dX8_blanks_1 rfl flX8_165 s0.1 ?_
  exact g_iret dX8_blanks_4 rfl (Nat.zero_le _) (Nat.zero_le _) (hR _ H)
/-! X8_fault -/
def pX8_fault (N K : Nat) (M : gM) (a0 : Nat) (R : Int32 → Prop) : Prop := R (g_mi M (a0 + 282) 6)
set_option maxRecDepth 10000 in
theorem uX8_fault {N K : Nat} {X : gX} {d mc ms : Nat} {Q : Option Value → gM → Prop} {M : gM} {a0 : Nat} {R : Int32 → Prop} (s0 : Ph M a0) (H : pX8_fault N K M a0 R) (hR : ∀ (v : Int32), R v → Q (some (.int v)) M) : Cn X d mc ms kX8_fault [.ref a0] M Q := by
  unfold pX8_fault at H
  refine g_meth rfl rfl (Nat.le_of_ble_eq_true rfl) rfl ?_
  refine g_aload_n 0 1 dX8_fault_0 rfl rfl ?_
  refine g_getR 4 (a0 + 282) dX8_fault_1 rfl flX8_61 s0.1 s0.2.2.2.2.2.2.2.2.2.2.2.2.2.2.2.2.2.1 ?_
  refine g_getI 7 dX8_fault_4 rfl flX8_212 s0.2.2.2.2.2.2.2.2.2.2.2.2.2.2.2.2.2.2.1.1 ?_
  exact g_iret dX8_fault_7 rfl (Nat.zero_le _) (Nat.zero_le _) (hR _ H)
/-! X8_stopped -/
def pX8_stopped (N K : Nat) (M : gM) (a0 : Nat) (R : Int32 → Prop) : Prop := R (g_mi M a0 14)
set_option maxRecDepth 10000 in
theorem uX8_stopped {N K : Nat} {X : gX} {d mc ms : Nat} {Q : Option Value → gM → Prop} {M : gM} {a0 : Nat} {R : Int32 → Prop} (s0 : Ph M a0) (H : pX8_stopped N K M a0 R) (hR : ∀ (v : Int32), R v → Q (some (.int v)) M) : Cn X d mc ms kX8_stopped [.ref a0] M Q := by
  unfold pX8_stopped at H
  refine g_meth rfl rfl (Nat.le_of_ble_eq_true rfl) rfl ?_
  refine g_aload_n 0 1 dX8_stopped_0 rfl rfl ?_
  refine g_getI 4 dX8_stopped_1 rfl flX8_88 s0.1 ?_
  exact g_iret dX8_stopped_4 rfl (Nat.zero_le _) (Nat.zero_le _) (hR _ H)
/-! X8_force -/
def pX8_force (N K : Nat) (M : gM) (a0 : Nat) (x1 : Int32) (R : Int32 → gM → Prop) : Prop := ((x1 < (-1) → pX8_refuse N K M a0 (-2) (fun v1 M1 => R v1 M1)) ∧ (¬ x1 < (-1) → ((x1 < (g_mi M (a0 + 1) 5) → ∀ M2 : gM, M2 = (g_wi M (a0 + 1) 6 x1) → pX8_accept N K M2 a0 (g_mi M (a0 + 1) 6) (fun v2 M3 => R v2 M3)) ∧ (¬ x1 < (g_mi M (a0 + 1) 5) → pX8_refuse N K M a0 (-2) (fun v3 M4 => R v3 M4)))))
set_option maxRecDepth 10000 in
theorem uX8_force {N K : Nat} {X : gX} {d mc ms : Nat} {Q : Option Value → gM → Prop} {M : gM} {a0 : Nat} {x1 : Int32} {R : Int32 → gM → Prop} (s0 : Ph M a0) (H : pX8_force N K M a0 x1 R) (hR : ∀ (v : Int32) (M1 : gM), Sm M M1 → R v M1 → Q (some (.int v)) M1) : Cn X (d + 1) mc ms kX8_force [.ref a0, .int (x1)] M Q := by
  unfold pX8_force at H
  refine g_meth rfl rfl (Nat.le_of_ble_eq_true rfl) rfl ?_
  refine g_iload_n 1 1 dX8_force_0 rfl rfl ?_
  refine g_iconst ((-1)) 2 dX8_force_1 rfl rfl ?_
  refine g_icmp_lt 16 5 dX8_force_2 rfl rfl (fun c1 => ?_) (fun c1 => ?_)
  · skip
    replace H := H.1 c1
    refine g_aload_n 0 17 dX8_force_16 rfl rfl ?_
    refine g_bipush ((-2)) 19 dX8_force_17 rfl rfl ?_
    refine g_callV (mc1 := 0) (ms1 := 0) (b := a0) (rest := []) (av := [.int ((-2))]) kX8_refuse 22 dX8_force_19 rfl rfl mbX8_146 imX8_refuse seX8_refuse gcl8.1 s0.1 (Nat.le_of_ble_eq_true rfl) (Nat.zero_le _) (Nat.zero_le _) (uX8_refuse (N := N) (K := K) s0 H (fun v1 M1 jj H => ?_))
    have j1 : Sm M M1 := jj
    show Go X (d + 1) mc ms kX8_force Q 22 [(0, .ref a0), (1, .int (x1))] [.int (v1)] M1 0 0
    exact g_iret dX8_force_22 rfl (Nat.zero_le _) (Nat.zero_le _) (hR _ _ j1 H)
  · skip
    replace H := H.2 c1
    refine g_iload_n 1 6 dX8_force_5 rfl rfl ?_
    refine g_aload_n 0 7 dX8_force_6 rfl rfl ?_
    refine g_getR 10 (a0 + 1) dX8_force_7 rfl flX8_14 s0.1 s0.2.1 ?_
    refine g_getI 13 dX8_force_10 rfl flX8_175 s0.2.2.1.1 ?_
    refine g_icmp_lt 23 16 dX8_force_13 rfl rfl (fun c2 => ?_) (fun c2 => ?_)
    · skip
      replace H := H.1 c2
      refine g_aload_n 0 24 dX8_force_23 rfl rfl ?_
      refine g_getR 27 (a0 + 1) dX8_force_24 rfl flX8_14 s0.1 s0.2.1 ?_
      refine g_getI 30 dX8_force_27 rfl flX8_215 s0.2.2.1.1 ?_
      refine g_istore_n 31 [(2, .int ((g_mi M (a0 + 1) 6))), (0, .ref a0), (1, .int (x1))] dX8_force_30 rfl (Nat.le_of_ble_eq_true rfl) rfl ?_
      refine g_aload_n 1 32 dX8_force_31 rfl rfl ?_
      refine g_getR 35 (a0 + 1) dX8_force_32 rfl flX8_14 s0.1 s0.2.1 ?_
      refine g_iload_n 2 36 dX8_force_35 rfl rfl ?_
      refine g_putI 39 dX8_force_36 rfl flX8_215 s0.2.2.1.1 ?_
      generalize hM2 : (g_wi M (a0 + 1) 6 x1) = M2
      have j2 : Sm M M2 := by rw [← hM2]; exact (Sm.wi Sm.rf)
      replace H := H M2 hM2.symm
      refine g_aload_n 1 40 dX8_force_39 rfl rfl ?_
      refine g_iload_n 0 41 dX8_force_40 rfl rfl ?_
      refine g_callV (mc1 := 0) (ms1 := 0) (b := a0) (rest := []) (av := [.int ((g_mi M (a0 + 1) 6))]) kX8_accept 44 dX8_force_41 rfl rfl mbX8_155 imX8_accept seX8_accept gcl8.1 (Sm.k j2 s0.1) (Nat.le_of_ble_eq_true rfl) (Nat.zero_le _) (Nat.zero_le _) (uX8_accept (N := N) (K := K) (Ph.sm j2 s0) H (fun v2 M3 jj H => ?_))
      have j3 : Sm M M3 := Sm.tr j2 jj
      show Go X (d + 1) mc ms kX8_force Q 44 [(2, .int ((g_mi M (a0 + 1) 6))), (0, .ref a0), (1, .int (x1))] [.int (v2)] M3 0 0
      exact g_iret dX8_force_44 rfl (Nat.zero_le _) (Nat.zero_le _) (hR _ _ j3 H)
    · skip
      replace H := H.2 c2
      refine g_aload_n 0 17 dX8_force_16 rfl rfl ?_
      refine g_bipush ((-2)) 19 dX8_force_17 rfl rfl ?_
      refine g_callV (mc1 := 0) (ms1 := 0) (b := a0) (rest := []) (av := [.int ((-2))]) kX8_refuse 22 dX8_force_19 rfl rfl mbX8_146 imX8_refuse seX8_refuse gcl8.1 s0.1 (Nat.le_of_ble_eq_true rfl) (Nat.zero_le _) (Nat.zero_le _) (uX8_refuse (N := N) (K := K) s0 H (fun v3 M4 jj H => ?_))
      have j4 : Sm M M4 := jj
      show Go X (d + 1) mc ms kX8_force Q 22 [(0, .ref a0), (1, .int (x1))] [.int (v3)] M4 0 0
      exact g_iret dX8_force_22 rfl (Nat.zero_le _) (Nat.zero_le _) (hR _ _ j4 H)
/-! X8_core -/
def pX8_core (N K : Nat) (M : gM) (a0 : Nat) (x1 : Int32) (R : Int32 → gM → Prop) : Prop := ∀ v1 : Int32, v1 = (fX8_isSeed x1) → ((v1 = 0 → R (-1) M) ∧ (¬ v1 = 0 → pX1_coreSize N K M (a0 + 274) ((a0 + 1) + 1) x1 (g_mi M ((a0 + 1) + 1) 4) (fun v2 M1 => R v2 M1)))
set_option maxRecDepth 10000 in
theorem uX8_core {N K : Nat} {X : gX} {d mc ms : Nat} {Q : Option Value → gM → Prop} {M : gM} {a0 : Nat} {x1 : Int32} {R : Int32 → gM → Prop} (s0 : Ph M a0) (H : pX8_core N K M a0 x1 R) (hR : ∀ (v : Int32) (M1 : gM), Sm M M1 → R v M1 → Q (some (.int v)) M1) : Cn X (d + 3) mc ms kX8_core [.ref a0, .int (x1)] M Q := by
  unfold pX8_core at H
  refine g_meth rfl rfl (Nat.le_of_ble_eq_true rfl) rfl ?_
  refine g_iload_n 1 1 dX8_core_0 rfl rfl ?_
  refine g_callS (mc1 := 0) (ms1 := 0) (rest := []) (av := [.int (x1)]) kX8_isSeed 4 dX8_core_1 rfl rfl mbX8_226 smX8_isSeed (Nat.le_of_ble_eq_true rfl) (Nat.zero_le _) (Nat.zero_le _) (tX8_isSeed  ?_)
  show Go X (d + 3) mc ms kX8_core Q 4 [(0, .ref a0), (1, .int (x1))] [.int ((fX8_isSeed x1))] M 0 0
  generalize hv1 : (fX8_isSeed x1) = v1
  replace H := H v1 hv1.symm
  refine g_if_eq 35 7 dX8_core_4 rfl rfl (fun c1 => ?_) (fun c1 => ?_)
  · skip
    replace H := H.1 c1
    refine g_iconst ((-1)) 36 dX8_core_35 rfl rfl ?_
    exact g_iret dX8_core_36 rfl (Nat.zero_le _) (Nat.zero_le _) (hR _ _ Sm.rf H)
  · skip
    replace H := H.2 c1
    refine g_aload_n 0 8 dX8_core_7 rfl rfl ?_
    refine g_getR 11 (a0 + 274) dX8_core_8 rfl flX8_54 s0.1 s0.2.2.2.2.2.2.2.2.2.2.2.2.2.2.2.1 ?_
    refine g_aload_n 0 12 dX8_core_11 rfl rfl ?_
    refine g_getR 15 (a0 + 1) dX8_core_12 rfl flX8_14 s0.1 s0.2.1 ?_
    refine g_getR 18 ((a0 + 1) + 1) dX8_core_15 rfl flX8_102 s0.2.2.1.1 s0.2.2.1.2.1 ?_
    refine g_iload_n 1 19 dX8_core_18 rfl rfl ?_
    refine g_aload_n 0 20 dX8_core_19 rfl rfl ?_
    refine g_getR 23 (a0 + 1) dX8_core_20 rfl flX8_14 s0.1 s0.2.1 ?_
    refine g_getR 26 ((a0 + 1) + 1) dX8_core_23 rfl flX8_102 s0.2.2.1.1 s0.2.2.1.2.1 ?_
    refine g_getI 29 dX8_core_26 rfl flX8_119 s0.2.2.1.2.2.1.1 ?_
    refine g_callV (mc1 := 0) (ms1 := 0) (b := (a0 + 274)) (rest := []) (av := [.ref ((a0 + 1) + 1), .int (x1), .int ((g_mi M ((a0 + 1) + 1) 4))]) kX1_coreSize 32 dX8_core_29 rfl rfl mbX8_229 imX1_coreSize seX1_coreSize gcl1.1 s0.2.2.2.2.2.2.2.2.2.2.2.2.2.2.2.2.1.1 (Nat.le_of_ble_eq_true rfl) (Nat.zero_le _) (Nat.zero_le _) (uX1_coreSize (N := N) (K := K) s0.2.2.2.2.2.2.2.2.2.2.2.2.2.2.2.2.1 s0.2.2.1.2.2.1 H (fun v2 M1 jj H => ?_))
    have j1 : Sm M M1 := jj
    show Go X (d + 3) mc ms kX8_core Q 32 [(0, .ref a0), (1, .int (x1))] [.int (v2)] M1 0 0
    refine g_goto 36 dX8_core_32 rfl ?_
    exact g_iret dX8_core_36 rfl (Nat.zero_le _) (Nat.zero_le _) (hR _ _ j1 H)
/-! X8_good -/
def pX8_good_0 (N K : Nat) (kp : Nat → gM → Nat → Int32 → Int32 → Int32 → Prop) (R : Int32 → gM → Prop) (M : gM) (a0 : Nat) (x1 : Int32) : Prop := (((-1) ≤ x1 → kp 0 M a0 x1 0 0) ∧ (¬ (-1) ≤ x1 → R (-1) M))
def pX8_good_11 (N K : Nat) (kp : Nat → gM → Nat → Int32 → Int32 → Int32 → Prop) (R : Int32 → gM → Prop) (M : gM) (a0 : Nat) (x1 : Int32) (x2 : Int32) (x3 : Int32) : Prop := ((256 ≤ x3 → ((¬ x1 = (-1) → R (-1) M) ∧ (x1 = (-1) → R x2 M))) ∧ (¬ 256 ≤ x3 → pX1_leavesNone N K M (a0 + 274) ((a0 + 1) + 1) x3 (g_mi M ((a0 + 1) + 1) 4) (fun v1 M1 => ((¬ v1 = 0 → ((¬ x2 = x1 → kp 0 M1 a0 x1 (x2 + 1) (x3 + 1)) ∧ (x2 = x1 → R x3 M1))) ∧ (v1 = 0 → kp 0 M1 a0 x1 x2 (x3 + 1))))))
def qX8_good (N K : Nat) (R : Int32 → gM → Prop) : Nat → Nat → gM → Nat → Int32 → Int32 → Int32 → Prop
  | 0, _, _, _, _, _, _ => False
  | n + 1, _, M, a0, x1, x2, x3 => pX8_good_11 N K (qX8_good N K R n) R M a0 x1 x2 x3
def pX8_good (N K : Nat) (M : gM) (a0 : Nat) (x1 : Int32) (R : Int32 → gM → Prop) : Prop := pX8_good_0 N K (qX8_good N K R N) R M a0 x1
def ULX8_good (X : gX) (d mc ms : Nat) (Q : Option Value → gM → Prop) (N K : Nat) (R : Int32 → gM → Prop) (n : Nat) : Prop := (∀ (M : gM) (a0 : Nat) (x1 : Int32) (x2 : Int32) (x3 : Int32), Ph M a0 → qX8_good N K R n 0 M a0 x1 x2 x3 → (∀ (v : Int32) (M1 : gM), Sm M M1 → R v M1 → Q (some (.int v)) M1) → Go X (d + 4) mc ms kX8_good Q 11 [(0, .ref a0), (1, .int (x1)), (2, .int (x2)), (3, .int (x3))] [] M 0 0)
set_option maxRecDepth 10000 in
theorem ulX8_good {X : gX} {d mc ms : Nat} {Q : Option Value → gM → Prop} {N K : Nat} {R : Int32 → gM → Prop} : ∀ n : Nat, ULX8_good X d mc ms Q N K R n := by
  intro n
  induction n with
  | zero => exact fun _ _ _ _ _ _ h _ => h.elim
  | succ n ih =>
    intro M a0 x1 x2 x3 s0 H hR
    rw [qX8_good] at H
    unfold pX8_good_11 at H
    refine g_iload_n 3 12 dX8_good_11 rfl rfl ?_
    refine g_sipush (256) 15 dX8_good_12 rfl rfl ?_
    refine g_icmp_ge 65 18 dX8_good_15 rfl rfl (fun c1 => ?_) (fun c1 => ?_)
    · skip
      replace H := H.1 c1
      refine g_iload_n 1 66 dX8_good_65 rfl rfl ?_
      refine g_iconst ((-1)) 67 dX8_good_66 rfl rfl ?_
      refine g_icmp_ne 74 70 dX8_good_67 rfl rfl (fun c2 => ?_) (fun c2 => ?_)
      · skip
        replace H := H.1 c2
        refine g_iconst ((-1)) 75 dX8_good_74 rfl rfl ?_
        exact g_iret dX8_good_75 rfl (Nat.zero_le _) (Nat.zero_le _) (hR _ _ Sm.rf H)
      · skip
        replace H := H.2 c2
        refine g_iload_n 2 71 dX8_good_70 rfl rfl ?_
        refine g_goto 75 dX8_good_71 rfl ?_
        exact g_iret dX8_good_75 rfl (Nat.zero_le _) (Nat.zero_le _) (hR _ _ Sm.rf H)
    · skip
      replace H := H.2 c1
      refine g_aload_n 0 19 dX8_good_18 rfl rfl ?_
      refine g_getR 22 (a0 + 274) dX8_good_19 rfl flX8_54 s0.1 s0.2.2.2.2.2.2.2.2.2.2.2.2.2.2.2.1 ?_
      refine g_aload_n 0 23 dX8_good_22 rfl rfl ?_
      refine g_getR 26 (a0 + 1) dX8_good_23 rfl flX8_14 s0.1 s0.2.1 ?_
      refine g_getR 29 ((a0 + 1) + 1) dX8_good_26 rfl flX8_102 s0.2.2.1.1 s0.2.2.1.2.1 ?_
      refine g_iload_n 3 30 dX8_good_29 rfl rfl ?_
      refine g_aload_n 0 31 dX8_good_30 rfl rfl ?_
      refine g_getR 34 (a0 + 1) dX8_good_31 rfl flX8_14 s0.1 s0.2.1 ?_
      refine g_getR 37 ((a0 + 1) + 1) dX8_good_34 rfl flX8_102 s0.2.2.1.1 s0.2.2.1.2.1 ?_
      refine g_getI 40 dX8_good_37 rfl flX8_119 s0.2.2.1.2.2.1.1 ?_
      refine g_callV (mc1 := 0) (ms1 := 0) (b := (a0 + 274)) (rest := []) (av := [.ref ((a0 + 1) + 1), .int (x3), .int ((g_mi M ((a0 + 1) + 1) 4))]) kX1_leavesNone 43 dX8_good_40 rfl rfl mbX8_246 imX1_leavesNone seX1_leavesNone gcl1.1 s0.2.2.2.2.2.2.2.2.2.2.2.2.2.2.2.2.1.1 (Nat.le_of_ble_eq_true rfl) (Nat.zero_le _) (Nat.zero_le _) (uX1_leavesNone (N := N) (K := K) s0.2.2.2.2.2.2.2.2.2.2.2.2.2.2.2.2.1 s0.2.2.1.2.2.1 H (fun v1 M1 jj H => ?_))
      have j1 : Sm M M1 := jj
      show Go X (d + 4) mc ms kX8_good Q 43 [(0, .ref a0), (1, .int (x1)), (2, .int (x2)), (3, .int (x3))] [.int (v1)] M1 0 0
      refine g_if_ne 49 46 dX8_good_43 rfl rfl (fun c3 => ?_) (fun c3 => ?_)
      · skip
        replace H := H.1 c3
        refine g_iload_n 2 50 dX8_good_49 rfl rfl ?_
        refine g_iload_n 1 51 dX8_good_50 rfl rfl ?_
        refine g_icmp_ne 56 54 dX8_good_51 rfl rfl (fun c4 => ?_) (fun c4 => ?_)
        · skip
          replace H := H.1 c4
          refine g_iinc _ 2 59 [(2, .int ((x2 + 1))), (0, .ref a0), (1, .int (x1)), (3, .int (x3))] dX8_good_56 rfl rfl rfl (Nat.le_of_ble_eq_true rfl) rfl ?_
          refine g_iinc _ 3 62 [(3, .int ((x3 + 1))), (2, .int ((x2 + 1))), (0, .ref a0), (1, .int (x1))] dX8_good_59 rfl rfl rfl (Nat.le_of_ble_eq_true rfl) rfl ?_
          refine g_goto 11 dX8_good_62 rfl ?_
          exact g_sub [2, 3, 1, 0] _ rfl (ih M1 a0 x1 (x2 + 1) (x3 + 1) (Ph.sm j1 s0) H (fun v M1 j r => hR v M1 (Sm.tr j1 j) r))
        · skip
          replace H := H.2 c4
          refine g_iload_n 3 55 dX8_good_54 rfl rfl ?_
          exact g_iret dX8_good_55 rfl (Nat.zero_le _) (Nat.zero_le _) (hR _ _ j1 H)
      · skip
        replace H := H.2 c3
        refine g_goto 59 dX8_good_46 rfl ?_
        refine g_iinc _ 3 62 [(3, .int ((x3 + 1))), (0, .ref a0), (1, .int (x1)), (2, .int (x2))] dX8_good_59 rfl rfl rfl (Nat.le_of_ble_eq_true rfl) rfl ?_
        refine g_goto 11 dX8_good_62 rfl ?_
        exact g_sub [1, 2, 3, 0] _ rfl (ih M1 a0 x1 x2 (x3 + 1) (Ph.sm j1 s0) H (fun v M1 j r => hR v M1 (Sm.tr j1 j) r))
set_option maxRecDepth 10000 in
theorem uX8_good {N K : Nat} {X : gX} {d mc ms : Nat} {Q : Option Value → gM → Prop} {M : gM} {a0 : Nat} {x1 : Int32} {R : Int32 → gM → Prop} (s0 : Ph M a0) (H : pX8_good N K M a0 x1 R) (hR : ∀ (v : Int32) (M1 : gM), Sm M M1 → R v M1 → Q (some (.int v)) M1) : Cn X (d + 4) mc ms kX8_good [.ref a0, .int (x1)] M Q := by
  have ih := ulX8_good (X := X) (d := d) (mc := mc) (ms := ms) (Q := Q) (N := N) (K := K) (R := R) N
  unfold pX8_good pX8_good_0 at H
  refine g_meth rfl rfl (Nat.le_of_ble_eq_true rfl) rfl ?_
  refine g_iload_n 1 1 dX8_good_0 rfl rfl ?_
  refine g_iconst ((-1)) 2 dX8_good_1 rfl rfl ?_
  refine g_icmp_ge 7 5 dX8_good_2 rfl rfl (fun c1 => ?_) (fun c1 => ?_)
  · skip
    replace H := H.1 c1
    refine g_iconst (0) 8 dX8_good_7 rfl rfl ?_
    refine g_istore_n 9 [(2, .int (0)), (0, .ref a0), (1, .int (x1))] dX8_good_8 rfl (Nat.le_of_ble_eq_true rfl) rfl ?_
    refine g_iconst (0) 10 dX8_good_9 rfl rfl ?_
    refine g_istore_n 11 [(3, .int (0)), (2, .int (0)), (0, .ref a0), (1, .int (x1))] dX8_good_10 rfl (Nat.le_of_ble_eq_true rfl) rfl ?_
    exact g_sub [2, 3, 1, 0] _ rfl (ih M a0 x1 0 0 s0 H (fun v M1 j r => hR v M1 j r))
  · skip
    replace H := H.2 c1
    refine g_iconst ((-1)) 6 dX8_good_5 rfl rfl ?_
    exact g_iret dX8_good_6 rfl (Nat.zero_le _) (Nat.zero_le _) (hR _ _ Sm.rf H)
/-! X8_leastSide -/
def pX8_leastSide_0 (N K : Nat) (kp : Nat → gM → Nat → Int32 → Int32 → Prop) (R : Int32 → gM → Prop) (M : gM) (a0 : Nat) : Prop := kp 0 M a0 2 0
def pX8_leastSide_2 (N K : Nat) (kp : Nat → gM → Nat → Int32 → Int32 → Prop) (R : Int32 → gM → Prop) (M : gM) (a0 : Nat) (x1 : Int32) : Prop := ((20 < x1 → R (-1) M) ∧ (¬ 20 < x1 → kp 1 M a0 x1 0))
def pX8_leastSide_10 (N K : Nat) (kp : Nat → gM → Nat → Int32 → Int32 → Prop) (R : Int32 → gM → Prop) (M : gM) (a0 : Nat) (x1 : Int32) (x2 : Int32) : Prop := ((16 ≤ x2 → kp 0 M a0 (x1 + 1) 0) ∧ (¬ 16 ≤ x2 → pX1_leavesNone N K M (a0 + 274) ((a0 + 1) + 1) x2 x1 (fun v1 M1 => ((v1 = 0 → kp 1 M1 a0 x1 (x2 + 1)) ∧ (¬ v1 = 0 → R x1 M1)))))
def qX8_leastSide (N K : Nat) (R : Int32 → gM → Prop) : Nat → Nat → gM → Nat → Int32 → Int32 → Prop
  | 0, _, _, _, _, _ => False
  | n + 1, h, M, a0, x1, x2 => if h = 0 then pX8_leastSide_2 N K (qX8_leastSide N K R n) R M a0 x1 else pX8_leastSide_10 N K (qX8_leastSide N K R n) R M a0 x1 x2
def pX8_leastSide (N K : Nat) (M : gM) (a0 : Nat) (R : Int32 → gM → Prop) : Prop := pX8_leastSide_0 N K (qX8_leastSide N K R N) R M a0
def ULX8_leastSide (X : gX) (d mc ms : Nat) (Q : Option Value → gM → Prop) (N K : Nat) (R : Int32 → gM → Prop) (n : Nat) : Prop := (∀ (M : gM) (a0 : Nat) (x1 : Int32) (x2 : Int32), Ph M a0 → qX8_leastSide N K R n 0 M a0 x1 x2 → (∀ (v : Int32) (M1 : gM), Sm M M1 → R v M1 → Q (some (.int v)) M1) → Go X (d + 4) mc ms kX8_leastSide Q 2 [(0, .ref a0), (1, .int (x1))] [] M 0 0) ∧ (∀ (M : gM) (a0 : Nat) (x1 : Int32) (x2 : Int32), Ph M a0 → qX8_leastSide N K R n 1 M a0 x1 x2 → (∀ (v : Int32) (M1 : gM), Sm M M1 → R v M1 → Q (some (.int v)) M1) → Go X (d + 4) mc ms kX8_leastSide Q 10 [(0, .ref a0), (1, .int (x1)), (2, .int (x2))] [] M 0 0)
set_option maxRecDepth 10000 in
theorem ulX8_leastSide {X : gX} {d mc ms : Nat} {Q : Option Value → gM → Prop} {N K : Nat} {R : Int32 → gM → Prop} : ∀ n : Nat, ULX8_leastSide X d mc ms Q N K R n := by
  intro n
  induction n with
  | zero => exact ⟨fun _ _ _ _ _ h _ => h.elim, fun _ _ _ _ _ h _ => h.elim⟩
  | succ n ih =>
    refine ⟨?_, ?_⟩
    · intro M a0 x1 x2 s0 H hR
      rw [qX8_leastSide, if_pos (show (0 : Nat) = 0 from rfl)] at H
      unfold pX8_leastSide_2 at H
      refine g_iload_n 1 3 dX8_leastSide_2 rfl rfl ?_
      refine g_bipush (20) 5 dX8_leastSide_3 rfl rfl ?_
      refine g_icmp_gt 49 8 dX8_leastSide_5 rfl rfl (fun c1 => ?_) (fun c1 => ?_)
      · skip
        replace H := H.1 c1
        refine g_iconst ((-1)) 50 dX8_leastSide_49 rfl rfl ?_
        exact g_iret dX8_leastSide_50 rfl (Nat.zero_le _) (Nat.zero_le _) (hR _ _ Sm.rf H)
      · skip
        replace H := H.2 c1
        refine g_iconst (0) 9 dX8_leastSide_8 rfl rfl ?_
        refine g_istore_n 10 [(2, .int (0)), (0, .ref a0), (1, .int (x1))] dX8_leastSide_9 rfl (Nat.le_of_ble_eq_true rfl) rfl ?_
        exact g_sub [1, 2, 0] _ rfl (ih.2 M a0 x1 0 s0 H (fun v M1 j r => hR v M1 j r))
    · intro M a0 x1 x2 s0 H hR
      rw [qX8_leastSide, if_neg (show ¬ (1 : Nat) = 0 by decide)] at H
      unfold pX8_leastSide_10 at H
      refine g_iload_n 2 11 dX8_leastSide_10 rfl rfl ?_
      refine g_bipush (16) 13 dX8_leastSide_11 rfl rfl ?_
      refine g_icmp_ge 43 16 dX8_leastSide_13 rfl rfl (fun c1 => ?_) (fun c1 => ?_)
      · skip
        replace H := H.1 c1
        refine g_iinc _ 1 46 [(1, .int ((x1 + 1))), (0, .ref a0), (2, .int (x2))] dX8_leastSide_43 rfl rfl rfl (Nat.le_of_ble_eq_true rfl) rfl ?_
        refine g_goto 2 dX8_leastSide_46 rfl ?_
        exact g_sub [1, 0] _ rfl (ih.1 M a0 (x1 + 1) 0 s0 H (fun v M1 j r => hR v M1 j r))
      · skip
        replace H := H.2 c1
        refine g_aload_n 0 17 dX8_leastSide_16 rfl rfl ?_
        refine g_getR 20 (a0 + 274) dX8_leastSide_17 rfl flX8_54 s0.1 s0.2.2.2.2.2.2.2.2.2.2.2.2.2.2.2.1 ?_
        refine g_aload_n 0 21 dX8_leastSide_20 rfl rfl ?_
        refine g_getR 24 (a0 + 1) dX8_leastSide_21 rfl flX8_14 s0.1 s0.2.1 ?_
        refine g_getR 27 ((a0 + 1) + 1) dX8_leastSide_24 rfl flX8_102 s0.2.2.1.1 s0.2.2.1.2.1 ?_
        refine g_iload_n 2 28 dX8_leastSide_27 rfl rfl ?_
        refine g_iload_n 1 29 dX8_leastSide_28 rfl rfl ?_
        refine g_callV (mc1 := 0) (ms1 := 0) (b := (a0 + 274)) (rest := []) (av := [.ref ((a0 + 1) + 1), .int (x2), .int (x1)]) kX1_leavesNone 32 dX8_leastSide_29 rfl rfl mbX8_246 imX1_leavesNone seX1_leavesNone gcl1.1 s0.2.2.2.2.2.2.2.2.2.2.2.2.2.2.2.2.1.1 (Nat.le_of_ble_eq_true rfl) (Nat.zero_le _) (Nat.zero_le _) (uX1_leavesNone (N := N) (K := K) s0.2.2.2.2.2.2.2.2.2.2.2.2.2.2.2.2.1 s0.2.2.1.2.2.1 H (fun v1 M1 jj H => ?_))
        have j1 : Sm M M1 := jj
        show Go X (d + 4) mc ms kX8_leastSide Q 32 [(0, .ref a0), (1, .int (x1)), (2, .int (x2))] [.int (v1)] M1 0 0
        refine g_if_eq 37 35 dX8_leastSide_32 rfl rfl (fun c2 => ?_) (fun c2 => ?_)
        · skip
          replace H := H.1 c2
          refine g_iinc _ 2 40 [(2, .int ((x2 + 1))), (0, .ref a0), (1, .int (x1))] dX8_leastSide_37 rfl rfl rfl (Nat.le_of_ble_eq_true rfl) rfl ?_
          refine g_goto 10 dX8_leastSide_40 rfl ?_
          exact g_sub [1, 2, 0] _ rfl (ih.2 M1 a0 x1 (x2 + 1) (Ph.sm j1 s0) H (fun v M1 j r => hR v M1 (Sm.tr j1 j) r))
        · skip
          replace H := H.2 c2
          refine g_iload_n 1 36 dX8_leastSide_35 rfl rfl ?_
          exact g_iret dX8_leastSide_36 rfl (Nat.zero_le _) (Nat.zero_le _) (hR _ _ j1 H)
set_option maxRecDepth 10000 in
theorem uX8_leastSide {N K : Nat} {X : gX} {d mc ms : Nat} {Q : Option Value → gM → Prop} {M : gM} {a0 : Nat} {R : Int32 → gM → Prop} (s0 : Ph M a0) (H : pX8_leastSide N K M a0 R) (hR : ∀ (v : Int32) (M1 : gM), Sm M M1 → R v M1 → Q (some (.int v)) M1) : Cn X (d + 4) mc ms kX8_leastSide [.ref a0] M Q := by
  have ih := ulX8_leastSide (X := X) (d := d) (mc := mc) (ms := ms) (Q := Q) (N := N) (K := K) (R := R) N
  unfold pX8_leastSide pX8_leastSide_0 at H
  refine g_meth rfl rfl (Nat.le_of_ble_eq_true rfl) rfl ?_
  refine g_iconst (2) 1 dX8_leastSide_0 rfl rfl ?_
  refine g_istore_n 2 [(1, .int (2)), (0, .ref a0)] dX8_leastSide_1 rfl (Nat.le_of_ble_eq_true rfl) rfl ?_
  exact g_sub [1, 0] _ rfl (ih.1 M a0 2 0 s0 H (fun v M1 j r => hR v M1 j r))
/-! X8_found -/
def pX8_found (N K : Nat) (M : gM) (a0 : Nat) (x1 : Int32) (x2 : Int32) (R : Int32 → Prop) : Prop := (((g_mi M (((a0 + 1) + 1) + 3) 3) = 0 → R (-1)) ∧ (¬ (g_mi M (((a0 + 1) + 1) + 3) 3) = 0 → ∀ v1 : Int32, v1 = (fX8_isKey x1) → ((¬ v1 = 0 → ((x2 = 0 → pX5_ownVertex N K M (((a0 + 1) + 1) + 3) x1 (fun v2 => R v2)) ∧ (¬ x2 = 0 → ((x2 = 1 → pX5_numberOf N K M (((a0 + 1) + 1) + 3) x1 (fun v3 => R v3)) ∧ (¬ x2 = 1 → ((x2 = 2 → pX5_placeOf N K M (((a0 + 1) + 1) + 3) x1 (fun v4 => R v4)) ∧ (¬ x2 = 2 → R (-1)))))))) ∧ (v1 = 0 → R (-1)))))
set_option maxRecDepth 10000 in
theorem uX8_found {N K : Nat} {X : gX} {d mc ms : Nat} {Q : Option Value → gM → Prop} {M : gM} {a0 : Nat} {x1 : Int32} {x2 : Int32} {R : Int32 → Prop} (s0 : Ph M a0) (H : pX8_found N K M a0 x1 x2 R) (hR : ∀ (v : Int32), R v → Q (some (.int v)) M) : Cn X (d + 3) mc ms kX8_found [.ref a0, .int (x1), .int (x2)] M Q := by
  unfold pX8_found at H
  refine g_meth rfl rfl (Nat.le_of_ble_eq_true rfl) rfl ?_
  refine g_aload_n 0 1 dX8_found_0 rfl rfl ?_
  refine g_getR 4 (a0 + 1) dX8_found_1 rfl flX8_14 s0.1 s0.2.1 ?_
  refine g_getR 7 ((a0 + 1) + 1) dX8_found_4 rfl flX8_102 s0.2.2.1.1 s0.2.2.1.2.1 ?_
  refine g_getR 10 (((a0 + 1) + 1) + 3) dX8_found_7 rfl flX8_250 s0.2.2.1.2.2.1.1 s0.2.2.1.2.2.1.2.2.2.2.2.1 ?_
  refine g_astore_n 11 [(3, .ref (((a0 + 1) + 1) + 3)), (0, .ref a0), (1, .int (x1)), (2, .int (x2))] dX8_found_10 rfl (Nat.le_of_ble_eq_true rfl) rfl ?_
  refine g_aload_n 0 12 dX8_found_11 rfl rfl ?_
  refine g_getI 15 dX8_found_12 rfl flX8_254 s0.2.2.1.2.2.1.2.2.2.2.2.2.1 ?_
  refine g_if_eq 25 18 dX8_found_15 rfl rfl (fun c1 => ?_) (fun c1 => ?_)
  · skip
    replace H := H.1 c1
    refine g_iconst ((-1)) 26 dX8_found_25 rfl rfl ?_
    exact g_iret dX8_found_26 rfl (Nat.zero_le _) (Nat.zero_le _) (hR _ H)
  · skip
    replace H := H.2 c1
    refine g_iload_n 2 19 dX8_found_18 rfl rfl ?_
    refine g_callS (mc1 := 0) (ms1 := 0) (rest := []) (av := [.int (x1)]) kX8_isKey 22 dX8_found_19 rfl rfl mbX8_98 smX8_isKey (Nat.le_of_ble_eq_true rfl) (Nat.zero_le _) (Nat.zero_le _) (tX8_isKey  ?_)
    show Go X (d + 3) mc ms kX8_found Q 22 [(3, .ref (((a0 + 1) + 1) + 3)), (0, .ref a0), (1, .int (x1)), (2, .int (x2))] [.int ((fX8_isKey x1))] M 0 0
    generalize hv1 : (fX8_isKey x1) = v1
    replace H := H v1 hv1.symm
    refine g_if_ne 27 25 dX8_found_22 rfl rfl (fun c2 => ?_) (fun c2 => ?_)
    · skip
      replace H := H.1 c2
      refine g_iload_n 3 28 dX8_found_27 rfl rfl ?_
      by_cases c3 : x2 = 0
      · refine h_tabIn (0) 56 dX8_found_28 c3 (by decide) (by decide) rfl rfl ?_
        replace H := H.1 c3
        refine g_aload_n 0 57 dX8_found_56 rfl rfl ?_
        refine g_iload_n 2 58 dX8_found_57 rfl rfl ?_
        refine g_callV (mc1 := 0) (ms1 := 0) (b := (((a0 + 1) + 1) + 3)) (rest := []) (av := [.int (x1)]) kX5_ownVertex 61 dX8_found_58 rfl rfl mbX8_260 imX5_ownVertex seX5_ownVertex gcl5.1 s0.2.2.1.2.2.1.2.2.2.2.2.2.1 (Nat.le_of_ble_eq_true rfl) (Nat.zero_le _) (Nat.zero_le _) (uX5_ownVertex (N := N) (K := K) s0.2.2.1.2.2.1.2.2.2.2.2.2 H (fun v2 H => ?_))
        show Go X (d + 3) mc ms kX8_found Q 61 [(3, .ref (((a0 + 1) + 1) + 3)), (0, .ref a0), (1, .int (x1)), (2, .int (x2))] [.int (v2)] M 0 0
        exact g_iret dX8_found_61 rfl (Nat.zero_le _) (Nat.zero_le _) (hR _ H)
      replace H := H.2 c3
      by_cases c4 : x2 = 1
      · refine h_tabIn (1) 62 dX8_found_28 c4 (by decide) (by decide) rfl rfl ?_
        replace H := H.1 c4
        refine g_aload_n 0 63 dX8_found_62 rfl rfl ?_
        refine g_iload_n 2 64 dX8_found_63 rfl rfl ?_
        refine g_callV (mc1 := 0) (ms1 := 0) (b := (((a0 + 1) + 1) + 3)) (rest := []) (av := [.int (x1)]) kX5_numberOf 67 dX8_found_64 rfl rfl mbX8_263 imX5_numberOf seX5_numberOf gcl5.1 s0.2.2.1.2.2.1.2.2.2.2.2.2.1 (Nat.le_of_ble_eq_true rfl) (Nat.zero_le _) (Nat.zero_le _) (uX5_numberOf (N := N) (K := K) s0.2.2.1.2.2.1.2.2.2.2.2.2 H (fun v3 H => ?_))
        show Go X (d + 3) mc ms kX8_found Q 67 [(3, .ref (((a0 + 1) + 1) + 3)), (0, .ref a0), (1, .int (x1)), (2, .int (x2))] [.int (v3)] M 0 0
        exact g_iret dX8_found_67 rfl (Nat.zero_le _) (Nat.zero_le _) (hR _ H)
      replace H := H.2 c4
      by_cases c5 : x2 = 2
      · refine h_tabIn (2) 68 dX8_found_28 c5 (by decide) (by decide) rfl rfl ?_
        replace H := H.1 c5
        refine g_aload_n 0 69 dX8_found_68 rfl rfl ?_
        refine g_iload_n 2 70 dX8_found_69 rfl rfl ?_
        refine g_callV (mc1 := 0) (ms1 := 0) (b := (((a0 + 1) + 1) + 3)) (rest := []) (av := [.int (x1)]) kX5_placeOf 73 dX8_found_70 rfl rfl mbX8_266 imX5_placeOf seX5_placeOf gcl5.1 s0.2.2.1.2.2.1.2.2.2.2.2.2.1 (Nat.le_of_ble_eq_true rfl) (Nat.zero_le _) (Nat.zero_le _) (uX5_placeOf (N := N) (K := K) s0.2.2.1.2.2.1.2.2.2.2.2.2 H (fun v4 H => ?_))
        show Go X (d + 3) mc ms kX8_found Q 73 [(3, .ref (((a0 + 1) + 1) + 3)), (0, .ref a0), (1, .int (x1)), (2, .int (x2))] [.int (v4)] M 0 0
        exact g_iret dX8_found_73 rfl (Nat.zero_le _) (Nat.zero_le _) (hR _ H)
      replace H := H.2 c5
      have tc3 := i_neT c3
      rw [show ((0 : Int32)).toInt = 0 from rfl] at tc3
      have tc4 := i_neT c4
      rw [show ((1 : Int32)).toInt = 1 from rfl] at tc4
      have tc5 := i_neT c5
      rw [show ((2 : Int32)).toInt = 2 from rfl] at tc5
      refine g_tableOut 74 dX8_found_28 (by omega) rfl ?_
      refine g_iconst ((-1)) 75 dX8_found_74 rfl rfl ?_
      exact g_iret dX8_found_75 rfl (Nat.zero_le _) (Nat.zero_le _) (hR _ H)
    · skip
      replace H := H.2 c2
      refine g_iconst ((-1)) 26 dX8_found_25 rfl rfl ?_
      exact g_iret dX8_found_26 rfl (Nat.zero_le _) (Nat.zero_le _) (hR _ H)
/-! X8_table -/
def pX8_table (N K : Nat) (M : gM) (a0 : Nat) (x1 : Int32) (R : Int32 → Prop) : Prop := (((g_mi M (((a0 + 1) + 1) + 3) 3) = 0 → R (-1)) ∧ (¬ (g_mi M (((a0 + 1) + 1) + 3) 3) = 0 → ((0 ≤ x1 → ((x1 = 0 → R (g_mi M (((a0 + 1) + 1) + 3) 5)) ∧ (¬ x1 = 0 → ((x1 = 1 → R (g_mi M (((a0 + 1) + 1) + 3) 6)) ∧ (¬ x1 = 1 → ((x1 = 2 → R (g_mi M (((a0 + 1) + 1) + 3) 4)) ∧ (¬ x1 = 2 → ((x1 = 3 → pX5_signsBelow N K M (((a0 + 1) + 1) + 3) 60 (fun v1 => R v1)) ∧ (¬ x1 = 3 → ((64 ≤ x1 → pX5_packed N K M (((a0 + 1) + 1) + 3) ((x1 - 4) - 60) (fun v2 => R v2)) ∧ (¬ 64 ≤ x1 → (EX5_signAt M (((a0 + 1) + 1) + 3) (x1 - 4)) ∧ ∀ v3 : Int32, v3 = (fX5_signAt M (((a0 + 1) + 1) + 3) (x1 - 4)) → R v3))))))))))) ∧ (¬ 0 ≤ x1 → R (-1)))))
set_option maxRecDepth 10000 in
theorem uX8_table {N K : Nat} {X : gX} {d mc ms : Nat} {Q : Option Value → gM → Prop} {M : gM} {a0 : Nat} {x1 : Int32} {R : Int32 → Prop} (s0 : Ph M a0) (H : pX8_table N K M a0 x1 R) (hR : ∀ (v : Int32), R v → Q (some (.int v)) M) : Cn X (d + 2) mc ms kX8_table [.ref a0, .int (x1)] M Q := by
  unfold pX8_table at H
  refine g_meth rfl rfl (Nat.le_of_ble_eq_true rfl) rfl ?_
  refine g_aload_n 0 1 dX8_table_0 rfl rfl ?_
  refine g_getR 4 (a0 + 1) dX8_table_1 rfl flX8_14 s0.1 s0.2.1 ?_
  refine g_getR 7 ((a0 + 1) + 1) dX8_table_4 rfl flX8_102 s0.2.2.1.1 s0.2.2.1.2.1 ?_
  refine g_getR 10 (((a0 + 1) + 1) + 3) dX8_table_7 rfl flX8_250 s0.2.2.1.2.2.1.1 s0.2.2.1.2.2.1.2.2.2.2.2.1 ?_
  refine g_astore_n 11 [(2, .ref (((a0 + 1) + 1) + 3)), (0, .ref a0), (1, .int (x1))] dX8_table_10 rfl (Nat.le_of_ble_eq_true rfl) rfl ?_
  refine g_aload_n 0 12 dX8_table_11 rfl rfl ?_
  refine g_getI 15 dX8_table_12 rfl flX8_254 s0.2.2.1.2.2.1.2.2.2.2.2.2.1 ?_
  refine g_if_eq 22 18 dX8_table_15 rfl rfl (fun c1 => ?_) (fun c1 => ?_)
  · skip
    replace H := H.1 c1
    refine g_iconst ((-1)) 23 dX8_table_22 rfl rfl ?_
    exact g_iret dX8_table_23 rfl (Nat.zero_le _) (Nat.zero_le _) (hR _ H)
  · skip
    replace H := H.2 c1
    refine g_iload_n 2 19 dX8_table_18 rfl rfl ?_
    refine g_if_ge 24 22 dX8_table_19 rfl rfl (fun c2 => ?_) (fun c2 => ?_)
    · skip
      replace H := H.1 c2
      refine g_iload_n 2 25 dX8_table_24 rfl rfl ?_
      by_cases c3 : x1 = 0
      · refine h_tabIn (0) 56 dX8_table_25 c3 (by decide) (by decide) rfl rfl ?_
        replace H := H.1 c3
        refine g_aload_n 0 57 dX8_table_56 rfl rfl ?_
        refine g_getI 60 dX8_table_57 rfl flX8_269 s0.2.2.1.2.2.1.2.2.2.2.2.2.1 ?_
        exact g_iret dX8_table_60 rfl (Nat.zero_le _) (Nat.zero_le _) (hR _ H)
      replace H := H.2 c3
      by_cases c4 : x1 = 1
      · refine h_tabIn (1) 61 dX8_table_25 c4 (by decide) (by decide) rfl rfl ?_
        replace H := H.1 c4
        refine g_aload_n 0 62 dX8_table_61 rfl rfl ?_
        refine g_getI 65 dX8_table_62 rfl flX8_270 s0.2.2.1.2.2.1.2.2.2.2.2.2.1 ?_
        exact g_iret dX8_table_65 rfl (Nat.zero_le _) (Nat.zero_le _) (hR _ H)
      replace H := H.2 c4
      by_cases c5 : x1 = 2
      · refine h_tabIn (2) 66 dX8_table_25 c5 (by decide) (by decide) rfl rfl ?_
        replace H := H.1 c5
        refine g_aload_n 0 67 dX8_table_66 rfl rfl ?_
        refine g_getI 70 dX8_table_67 rfl flX8_271 s0.2.2.1.2.2.1.2.2.2.2.2.2.1 ?_
        exact g_iret dX8_table_70 rfl (Nat.zero_le _) (Nat.zero_le _) (hR _ H)
      replace H := H.2 c5
      by_cases c6 : x1 = 3
      · refine h_tabIn (3) 71 dX8_table_25 c6 (by decide) (by decide) rfl rfl ?_
        replace H := H.1 c6
        refine g_aload_n 0 72 dX8_table_71 rfl rfl ?_
        refine g_bipush (60) 74 dX8_table_72 rfl rfl ?_
        refine g_callV (mc1 := 0) (ms1 := 0) (b := (((a0 + 1) + 1) + 3)) (rest := []) (av := [.int (60)]) kX5_signsBelow 77 dX8_table_74 rfl rfl mbX8_272 imX5_signsBelow seX5_signsBelow gcl5.1 s0.2.2.1.2.2.1.2.2.2.2.2.2.1 (Nat.le_of_ble_eq_true rfl) (Nat.zero_le _) (Nat.zero_le _) (uX5_signsBelow (N := N) (K := K) s0.2.2.1.2.2.1.2.2.2.2.2.2 H (fun v1 H => ?_))
        show Go X (d + 2) mc ms kX8_table Q 77 [(2, .ref (((a0 + 1) + 1) + 3)), (0, .ref a0), (1, .int (x1))] [.int (v1)] M 0 0
        exact g_iret dX8_table_77 rfl (Nat.zero_le _) (Nat.zero_le _) (hR _ H)
      replace H := H.2 c6
      have tc3 := i_neT c3
      rw [show ((0 : Int32)).toInt = 0 from rfl] at tc3
      have tc4 := i_neT c4
      rw [show ((1 : Int32)).toInt = 1 from rfl] at tc4
      have tc5 := i_neT c5
      rw [show ((2 : Int32)).toInt = 2 from rfl] at tc5
      have tc6 := i_neT c6
      rw [show ((3 : Int32)).toInt = 3 from rfl] at tc6
      refine g_tableOut 78 dX8_table_25 (by omega) rfl ?_
      refine g_iload_n 2 79 dX8_table_78 rfl rfl ?_
      refine g_bipush (64) 81 dX8_table_79 rfl rfl ?_
      refine g_icmp_ge 94 84 dX8_table_81 rfl rfl (fun c7 => ?_) (fun c7 => ?_)
      · skip
        replace H := H.1 c7
        refine g_aload_n 0 95 dX8_table_94 rfl rfl ?_
        refine g_iload_n 2 96 dX8_table_95 rfl rfl ?_
        refine g_iconst (4) 97 dX8_table_96 rfl rfl ?_
        refine g_isub 98 dX8_table_97 rfl ?_
        refine g_bipush (60) 100 dX8_table_98 rfl rfl ?_
        refine g_isub 101 dX8_table_100 rfl ?_
        refine g_callV (mc1 := 0) (ms1 := 0) (b := (((a0 + 1) + 1) + 3)) (rest := []) (av := [.int (((x1 - 4) - 60))]) kX5_packed 104 dX8_table_101 rfl rfl mbX8_278 imX5_packed seX5_packed gcl5.1 s0.2.2.1.2.2.1.2.2.2.2.2.2.1 (Nat.le_of_ble_eq_true rfl) (Nat.zero_le _) (Nat.zero_le _) (uX5_packed (N := N) (K := K) s0.2.2.1.2.2.1.2.2.2.2.2.2 H (fun v2 H => ?_))
        show Go X (d + 2) mc ms kX8_table Q 104 [(2, .ref (((a0 + 1) + 1) + 3)), (0, .ref a0), (1, .int (x1))] [.int (v2)] M 0 0
        exact g_iret dX8_table_104 rfl (Nat.zero_le _) (Nat.zero_le _) (hR _ H)
      · skip
        replace H := H.2 c7
        refine g_aload_n 0 85 dX8_table_84 rfl rfl ?_
        refine g_iload_n 2 86 dX8_table_85 rfl rfl ?_
        refine g_iconst (4) 87 dX8_table_86 rfl rfl ?_
        refine g_isub 88 dX8_table_87 rfl ?_
        obtain ⟨b1, H⟩ := H
        refine g_callV (mc1 := 0) (ms1 := 0) (b := (((a0 + 1) + 1) + 3)) (rest := []) (av := [.int ((x1 - 4))]) kX5_signAt 91 dX8_table_88 rfl rfl mbX8_275 imX5_signAt seX5_signAt gcl5.1 s0.2.2.1.2.2.1.2.2.2.2.2.2.1 (Nat.le_of_ble_eq_true rfl) (Nat.zero_le _) (Nat.zero_le _) (tX5_signAt s0.2.2.1.2.2.1.2.2.2.2.2.2 b1 ?_)
        show Go X (d + 2) mc ms kX8_table Q 91 [(2, .ref (((a0 + 1) + 1) + 3)), (0, .ref a0), (1, .int (x1))] [.int ((fX5_signAt M (((a0 + 1) + 1) + 3) (x1 - 4)))] M 0 0
        generalize hv3 : (fX5_signAt M (((a0 + 1) + 1) + 3) (x1 - 4)) = v3
        replace H := H v3 hv3.symm
        refine g_goto 104 dX8_table_91 rfl ?_
        exact g_iret dX8_table_104 rfl (Nat.zero_le _) (Nat.zero_le _) (hR _ H)
    · skip
      replace H := H.2 c2
      refine g_iconst ((-1)) 23 dX8_table_22 rfl rfl ?_
      exact g_iret dX8_table_23 rfl (Nat.zero_le _) (Nat.zero_le _) (hR _ H)
/-! X8_twin -/
def pX8_twin_0 (N K : Nat) (kp : Nat → gM → Nat → Int32 → Int32 → Prop) (R : Int32 → Prop) (M : gM) (a0 : Nat) (x1 : Int32) : Prop := (((g_mi M (((a0 + 1) + 1) + 3) 3) = 0 → R (-1)) ∧ (¬ (g_mi M (((a0 + 1) + 1) + 3) 3) = 0 → ∀ v1 : Int32, v1 = (fX8_isKey x1) → ((v1 = 0 → R (-1)) ∧ (¬ v1 = 0 → pX5_hadKey N K M (((a0 + 1) + 1) + 3) x1 (fun v2 => ((v2 = 0 → pX5_numberOf N K M (((a0 + 1) + 1) + 3) x1 (fun v3 => kp 0 M (((a0 + 1) + 1) + 3) v3 0)) ∧ (¬ v2 = 0 → R (-1))))))))
def pX8_twin_44 (N K : Nat) (kp : Nat → gM → Nat → Int32 → Int32 → Prop) (R : Int32 → Prop) (M : gM) (a2 : Nat) (x3 : Int32) (x4 : Int32) : Prop := (((g_mi M a2 4) ≤ x4 → R (-1)) ∧ (¬ (g_mi M a2 4) ≤ x4 → (vp_in (x4) 30) ∧ pX5_numberOf N K M a2 (g_mi M (a2 + 1) (x4).toNatClampNeg) (fun v1 => ((¬ v1 = x3 → kp 0 M a2 x3 (x4 + 1)) ∧ (v1 = x3 → R (g_mi M (a2 + 1) (x4).toNatClampNeg))))))
def qX8_twin (N K : Nat) (R : Int32 → Prop) : Nat → Nat → gM → Nat → Int32 → Int32 → Prop
  | 0, _, _, _, _, _ => False
  | n + 1, _, M, a2, x3, x4 => pX8_twin_44 N K (qX8_twin N K R n) R M a2 x3 x4
def pX8_twin (N K : Nat) (M : gM) (a0 : Nat) (x1 : Int32) (R : Int32 → Prop) : Prop := pX8_twin_0 N K (qX8_twin N K R N) R M a0 x1
def ULX8_twin (X : gX) (d mc ms : Nat) (Q : Option Value → gM → Prop) (N K : Nat) (R : Int32 → Prop) (n : Nat) : Prop := (∀ (M : gM) (a2 : Nat) (x3 : Int32) (x4 : Int32), Tb M a2 → qX8_twin N K R n 0 M a2 x3 x4 → (∀ (v : Int32), R v → Q (some (.int v)) M) → Go X (d + 3) mc ms kX8_twin Q 44 [(2, .ref a2), (3, .int (x3)), (4, .int (x4))] [] M 0 0)
set_option maxRecDepth 10000 in
theorem ulX8_twin {X : gX} {d mc ms : Nat} {Q : Option Value → gM → Prop} {N K : Nat} {R : Int32 → Prop} : ∀ n : Nat, ULX8_twin X d mc ms Q N K R n := by
  intro n
  induction n with
  | zero => exact fun _ _ _ _ _ h _ => h.elim
  | succ n ih =>
    intro M a2 x3 x4 s2 H hR
    rw [qX8_twin] at H
    unfold pX8_twin_44 at H
    refine g_iload 2 46 dX8_twin_44 rfl rfl ?_
    refine g_aload_n 0 47 dX8_twin_46 rfl rfl ?_
    refine g_getI 50 dX8_twin_47 rfl flX8_271 s2.1 ?_
    refine g_icmp_ge 82 53 dX8_twin_50 rfl rfl (fun c1 => ?_) (fun c1 => ?_)
    · skip
      replace H := H.1 c1
      refine g_iconst ((-1)) 83 dX8_twin_82 rfl rfl ?_
      exact g_iret dX8_twin_83 rfl (Nat.zero_le _) (Nat.zero_le _) (hR _ H)
    · skip
      replace H := H.2 c1
      refine g_aload_n 0 54 dX8_twin_53 rfl rfl ?_
      refine g_aload_n 0 55 dX8_twin_54 rfl rfl ?_
      refine g_getR 58 (a2 + 1) dX8_twin_55 rfl flX8_284 s2.1 s2.2.1 ?_
      refine g_iload 2 60 dX8_twin_58 rfl rfl ?_
      obtain ⟨b1, H⟩ := H
      refine h_iaload 61 (x4).toNatClampNeg dX8_twin_60 rfl rfl s2.2.2.1 b1 ?_
      refine g_callV (mc1 := 0) (ms1 := 0) (b := a2) (rest := []) (av := [.int ((g_mi M (a2 + 1) (x4).toNatClampNeg))]) kX5_numberOf 64 dX8_twin_61 rfl rfl mbX8_263 imX5_numberOf seX5_numberOf gcl5.1 s2.1 (Nat.le_of_ble_eq_true rfl) (Nat.zero_le _) (Nat.zero_le _) (uX5_numberOf (N := N) (K := K) s2 H (fun v1 H => ?_))
      show Go X (d + 3) mc ms kX8_twin Q 64 [(2, .ref a2), (3, .int (x3)), (4, .int (x4))] [.int (v1)] M 0 0
      refine g_iload_n 1 65 dX8_twin_64 rfl rfl ?_
      refine g_icmp_ne 76 68 dX8_twin_65 rfl rfl (fun c2 => ?_) (fun c2 => ?_)
      · skip
        replace H := H.1 c2
        refine g_iinc _ 2 79 [(4, .int ((x4 + 1))), (2, .ref a2), (3, .int (x3))] dX8_twin_76 rfl rfl rfl (Nat.le_of_ble_eq_true rfl) rfl ?_
        refine g_goto 44 dX8_twin_79 rfl ?_
        exact g_sub [1, 2, 0] _ rfl (ih M a2 x3 (x4 + 1) s2 H (fun v r => hR v r))
      · skip
        replace H := H.2 c2
        refine g_aload_n 0 69 dX8_twin_68 rfl rfl ?_
        refine g_getR 72 (a2 + 1) dX8_twin_69 rfl flX8_284 s2.1 s2.2.1 ?_
        refine g_iload 2 74 dX8_twin_72 rfl rfl ?_
        refine h_iaload 75 (x4).toNatClampNeg dX8_twin_74 rfl rfl s2.2.2.1 b1 ?_
        exact g_iret dX8_twin_75 rfl (Nat.zero_le _) (Nat.zero_le _) (hR _ H)
set_option maxRecDepth 10000 in
theorem uX8_twin {N K : Nat} {X : gX} {d mc ms : Nat} {Q : Option Value → gM → Prop} {M : gM} {a0 : Nat} {x1 : Int32} {R : Int32 → Prop} (s0 : Ph M a0) (H : pX8_twin N K M a0 x1 R) (hR : ∀ (v : Int32), R v → Q (some (.int v)) M) : Cn X (d + 3) mc ms kX8_twin [.ref a0, .int (x1)] M Q := by
  have ih := ulX8_twin (X := X) (d := d) (mc := mc) (ms := ms) (Q := Q) (N := N) (K := K) (R := R) N
  unfold pX8_twin pX8_twin_0 at H
  refine g_meth rfl rfl (Nat.le_of_ble_eq_true rfl) rfl ?_
  refine g_aload_n 0 1 dX8_twin_0 rfl rfl ?_
  refine g_getR 4 (a0 + 1) dX8_twin_1 rfl flX8_14 s0.1 s0.2.1 ?_
  refine g_getR 7 ((a0 + 1) + 1) dX8_twin_4 rfl flX8_102 s0.2.2.1.1 s0.2.2.1.2.1 ?_
  refine g_getR 10 (((a0 + 1) + 1) + 3) dX8_twin_7 rfl flX8_250 s0.2.2.1.2.2.1.1 s0.2.2.1.2.2.1.2.2.2.2.2.1 ?_
  refine g_astore_n 11 [(2, .ref (((a0 + 1) + 1) + 3)), (0, .ref a0), (1, .int (x1))] dX8_twin_10 rfl (Nat.le_of_ble_eq_true rfl) rfl ?_
  refine g_aload_n 0 12 dX8_twin_11 rfl rfl ?_
  refine g_getI 15 dX8_twin_12 rfl flX8_254 s0.2.2.1.2.2.1.2.2.2.2.2.2.1 ?_
  refine g_if_eq 33 18 dX8_twin_15 rfl rfl (fun c1 => ?_) (fun c1 => ?_)
  · skip
    replace H := H.1 c1
    refine g_iconst ((-1)) 34 dX8_twin_33 rfl rfl ?_
    exact g_iret dX8_twin_34 rfl (Nat.zero_le _) (Nat.zero_le _) (hR _ H)
  · skip
    replace H := H.2 c1
    refine g_iload_n 2 19 dX8_twin_18 rfl rfl ?_
    refine g_callS (mc1 := 0) (ms1 := 0) (rest := []) (av := [.int (x1)]) kX8_isKey 22 dX8_twin_19 rfl rfl mbX8_98 smX8_isKey (Nat.le_of_ble_eq_true rfl) (Nat.zero_le _) (Nat.zero_le _) (tX8_isKey  ?_)
    show Go X (d + 3) mc ms kX8_twin Q 22 [(2, .ref (((a0 + 1) + 1) + 3)), (0, .ref a0), (1, .int (x1))] [.int ((fX8_isKey x1))] M 0 0
    generalize hv1 : (fX8_isKey x1) = v1
    replace H := H v1 hv1.symm
    refine g_if_eq 33 25 dX8_twin_22 rfl rfl (fun c2 => ?_) (fun c2 => ?_)
    · skip
      replace H := H.1 c2
      refine g_iconst ((-1)) 34 dX8_twin_33 rfl rfl ?_
      exact g_iret dX8_twin_34 rfl (Nat.zero_le _) (Nat.zero_le _) (hR _ H)
    · skip
      replace H := H.2 c2
      refine g_aload_n 0 26 dX8_twin_25 rfl rfl ?_
      refine g_iload_n 2 27 dX8_twin_26 rfl rfl ?_
      refine g_callV (mc1 := 0) (ms1 := 0) (b := (((a0 + 1) + 1) + 3)) (rest := []) (av := [.int (x1)]) kX5_hadKey 30 dX8_twin_27 rfl rfl mbX8_281 imX5_hadKey seX5_hadKey gcl5.1 s0.2.2.1.2.2.1.2.2.2.2.2.2.1 (Nat.le_of_ble_eq_true rfl) (Nat.zero_le _) (Nat.zero_le _) (uX5_hadKey (N := N) (K := K) s0.2.2.1.2.2.1.2.2.2.2.2.2 H (fun v2 H => ?_))
      show Go X (d + 3) mc ms kX8_twin Q 30 [(2, .ref (((a0 + 1) + 1) + 3)), (0, .ref a0), (1, .int (x1))] [.int (v2)] M 0 0
      refine g_if_eq 35 33 dX8_twin_30 rfl rfl (fun c3 => ?_) (fun c3 => ?_)
      · skip
        replace H := H.1 c3
        refine g_aload_n 0 36 dX8_twin_35 rfl rfl ?_
        refine g_iload_n 2 37 dX8_twin_36 rfl rfl ?_
        refine g_callV (mc1 := 0) (ms1 := 0) (b := (((a0 + 1) + 1) + 3)) (rest := []) (av := [.int (x1)]) kX5_numberOf 40 dX8_twin_37 rfl rfl mbX8_263 imX5_numberOf seX5_numberOf gcl5.1 s0.2.2.1.2.2.1.2.2.2.2.2.2.1 (Nat.le_of_ble_eq_true rfl) (Nat.zero_le _) (Nat.zero_le _) (uX5_numberOf (N := N) (K := K) s0.2.2.1.2.2.1.2.2.2.2.2.2 H (fun v3 H => ?_))
        show Go X (d + 3) mc ms kX8_twin Q 40 [(2, .ref (((a0 + 1) + 1) + 3)), (0, .ref a0), (1, .int (x1))] [.int (v3)] M 0 0
        refine g_istore_n 41 [(3, .int (v3)), (2, .ref (((a0 + 1) + 1) + 3)), (0, .ref a0), (1, .int (x1))] dX8_twin_40 rfl (Nat.le_of_ble_eq_true rfl) rfl ?_
        refine g_iconst (0) 42 dX8_twin_41 rfl rfl ?_
        refine g_istore 44 [(4, .int (0)), (3, .int (v3)), (2, .ref (((a0 + 1) + 1) + 3)), (0, .ref a0), (1, .int (x1))] dX8_twin_42 rfl (Nat.le_of_ble_eq_true rfl) rfl ?_
        exact g_sub [2, 1, 0] _ rfl (ih M (((a0 + 1) + 1) + 3) v3 0 s0.2.2.1.2.2.1.2.2.2.2.2.2 H (fun v r => hR v r))
      · skip
        replace H := H.2 c3
        refine g_iconst ((-1)) 34 dX8_twin_33 rfl rfl ?_
        exact g_iret dX8_twin_34 rfl (Nat.zero_le _) (Nat.zero_le _) (hR _ H)
/-! X8_seen -/
def pX8_seen (N K : Nat) (M : gM) (a0 : Nat) (x1 : Int32) (x2 : Int32) (R : Int32 → gM → Prop) : Prop := ((x1 < 0 → pX8_refuse N K M a0 (-1) (fun v1 M1 => R v1 M1)) ∧ (¬ x1 < 0 → ((60 ≤ x1 → pX8_refuse N K M a0 (-1) (fun v2 M2 => R v2 M2)) ∧ (¬ 60 ≤ x1 → ((x2 < 0 → pX8_refuse N K M a0 (-1) (fun v3 M3 => R v3 M3)) ∧ (¬ x2 < 0 → ((x2 ≤ 1 → (((g_mi M (a0 + 1) 4) < 6 → (vp_in ((g_mi M (a0 + 1) 4)) 6) ∧ ∀ M4 : gM, M4 = (g_wi M ((a0 + 1) + 8) ((g_mi M (a0 + 1) 4)).toNatClampNeg x1) → (vp_in ((g_mi M4 (a0 + 1) 4)) 6) ∧ ∀ M5 : gM, M5 = (g_wi M4 ((a0 + 1) + 9) ((g_mi M4 (a0 + 1) 4)).toNatClampNeg x2) → ∀ M6 : gM, M6 = (g_wi M5 (a0 + 1) 4 ((g_mi M5 (a0 + 1) 4) + 1)) → pX8_accept N K M6 a0 (g_mi M6 (a0 + 1) 4) (fun v4 M7 => R v4 M7)) ∧ (¬ (g_mi M (a0 + 1) 4) < 6 → pX8_refuse N K M a0 (-5) (fun v5 M8 => R v5 M8)))) ∧ (¬ x2 ≤ 1 → pX8_refuse N K M a0 (-1) (fun v6 M9 => R v6 M9)))))))))
set_option maxRecDepth 10000 in
theorem uX8_seen {N K : Nat} {X : gX} {d mc ms : Nat} {Q : Option Value → gM → Prop} {M : gM} {a0 : Nat} {x1 : Int32} {x2 : Int32} {R : Int32 → gM → Prop} (s0 : Ph M a0) (H : pX8_seen N K M a0 x1 x2 R) (hR : ∀ (v : Int32) (M1 : gM), Sm M M1 → R v M1 → Q (some (.int v)) M1) : Cn X (d + 1) mc ms kX8_seen [.ref a0, .int (x1), .int (x2)] M Q := by
  unfold pX8_seen at H
  refine g_meth rfl rfl (Nat.le_of_ble_eq_true rfl) rfl ?_
  refine g_iload_n 1 1 dX8_seen_0 rfl rfl ?_
  refine g_if_lt 19 4 dX8_seen_1 rfl rfl (fun c1 => ?_) (fun c1 => ?_)
  · skip
    replace H := H.1 c1
    refine g_aload_n 0 20 dX8_seen_19 rfl rfl ?_
    refine g_iconst ((-1)) 21 dX8_seen_20 rfl rfl ?_
    refine g_callV (mc1 := 0) (ms1 := 0) (b := a0) (rest := []) (av := [.int ((-1))]) kX8_refuse 24 dX8_seen_21 rfl rfl mbX8_146 imX8_refuse seX8_refuse gcl8.1 s0.1 (Nat.le_of_ble_eq_true rfl) (Nat.zero_le _) (Nat.zero_le _) (uX8_refuse (N := N) (K := K) s0 H (fun v1 M1 jj H => ?_))
    have j1 : Sm M M1 := jj
    show Go X (d + 1) mc ms kX8_seen Q 24 [(0, .ref a0), (1, .int (x1)), (2, .int (x2))] [.int (v1)] M1 0 0
    exact g_iret dX8_seen_24 rfl (Nat.zero_le _) (Nat.zero_le _) (hR _ _ j1 H)
  · skip
    replace H := H.2 c1
    refine g_iload_n 1 5 dX8_seen_4 rfl rfl ?_
    refine g_bipush (60) 7 dX8_seen_5 rfl rfl ?_
    refine g_icmp_ge 19 10 dX8_seen_7 rfl rfl (fun c2 => ?_) (fun c2 => ?_)
    · skip
      replace H := H.1 c2
      refine g_aload_n 0 20 dX8_seen_19 rfl rfl ?_
      refine g_iconst ((-1)) 21 dX8_seen_20 rfl rfl ?_
      refine g_callV (mc1 := 0) (ms1 := 0) (b := a0) (rest := []) (av := [.int ((-1))]) kX8_refuse 24 dX8_seen_21 rfl rfl mbX8_146 imX8_refuse seX8_refuse gcl8.1 s0.1 (Nat.le_of_ble_eq_true rfl) (Nat.zero_le _) (Nat.zero_le _) (uX8_refuse (N := N) (K := K) s0 H (fun v2 M2 jj H => ?_))
      have j2 : Sm M M2 := jj
      show Go X (d + 1) mc ms kX8_seen Q 24 [(0, .ref a0), (1, .int (x1)), (2, .int (x2))] [.int (v2)] M2 0 0
      exact g_iret dX8_seen_24 rfl (Nat.zero_le _) (Nat.zero_le _) (hR _ _ j2 H)
    · skip
      replace H := H.2 c2
      refine g_iload_n 2 11 dX8_seen_10 rfl rfl ?_
      refine g_if_lt 19 14 dX8_seen_11 rfl rfl (fun c3 => ?_) (fun c3 => ?_)
      · skip
        replace H := H.1 c3
        refine g_aload_n 0 20 dX8_seen_19 rfl rfl ?_
        refine g_iconst ((-1)) 21 dX8_seen_20 rfl rfl ?_
        refine g_callV (mc1 := 0) (ms1 := 0) (b := a0) (rest := []) (av := [.int ((-1))]) kX8_refuse 24 dX8_seen_21 rfl rfl mbX8_146 imX8_refuse seX8_refuse gcl8.1 s0.1 (Nat.le_of_ble_eq_true rfl) (Nat.zero_le _) (Nat.zero_le _) (uX8_refuse (N := N) (K := K) s0 H (fun v3 M3 jj H => ?_))
        have j3 : Sm M M3 := jj
        show Go X (d + 1) mc ms kX8_seen Q 24 [(0, .ref a0), (1, .int (x1)), (2, .int (x2))] [.int (v3)] M3 0 0
        exact g_iret dX8_seen_24 rfl (Nat.zero_le _) (Nat.zero_le _) (hR _ _ j3 H)
      · skip
        replace H := H.2 c3
        refine g_iload_n 2 15 dX8_seen_14 rfl rfl ?_
        refine g_iconst (1) 16 dX8_seen_15 rfl rfl ?_
        refine g_icmp_le 25 19 dX8_seen_16 rfl rfl (fun c4 => ?_) (fun c4 => ?_)
        · skip
          replace H := H.1 c4
          refine g_aload_n 0 26 dX8_seen_25 rfl rfl ?_
          refine g_getR 29 (a0 + 1) dX8_seen_26 rfl flX8_14 s0.1 s0.2.1 ?_
          refine g_getI 32 dX8_seen_29 rfl flX8_285 s0.2.2.1.1 ?_
          refine g_bipush (6) 34 dX8_seen_32 rfl rfl ?_
          refine g_icmp_lt 44 37 dX8_seen_34 rfl rfl (fun c5 => ?_) (fun c5 => ?_)
          · skip
            replace H := H.1 c5
            refine g_aload_n 0 45 dX8_seen_44 rfl rfl ?_
            refine g_getR 48 (a0 + 1) dX8_seen_45 rfl flX8_14 s0.1 s0.2.1 ?_
            refine g_getR 51 ((a0 + 1) + 8) dX8_seen_48 rfl flX8_288 s0.2.2.1.1 s0.2.2.1.2.2.2.1 ?_
            refine g_aload_n 0 52 dX8_seen_51 rfl rfl ?_
            refine g_getR 55 (a0 + 1) dX8_seen_52 rfl flX8_14 s0.1 s0.2.1 ?_
            refine g_getI 58 dX8_seen_55 rfl flX8_285 s0.2.2.1.1 ?_
            refine g_iload_n 1 59 dX8_seen_58 rfl rfl ?_
            obtain ⟨b1, H⟩ := H
            refine h_iastore 60 ((g_mi M (a0 + 1) 4)).toNatClampNeg dX8_seen_59 rfl rfl s0.2.2.1.2.2.2.2.1 b1 ?_
            generalize hM4 : (g_wi M ((a0 + 1) + 8) ((g_mi M (a0 + 1) 4)).toNatClampNeg x1) = M4
            have j4 : Sm M M4 := by rw [← hM4]; exact (Sm.wi Sm.rf)
            replace H := H M4 hM4.symm
            refine g_aload_n 0 61 dX8_seen_60 rfl rfl ?_
            refine g_getR 64 (a0 + 1) dX8_seen_61 rfl flX8_14 (Sm.k j4 s0.1) (Sm.r j4 s0.2.1) ?_
            refine g_getR 67 ((a0 + 1) + 9) dX8_seen_64 rfl flX8_291 (Sm.k j4 s0.2.2.1.1) (Sm.r j4 s0.2.2.1.2.2.2.2.2.1) ?_
            refine g_aload_n 0 68 dX8_seen_67 rfl rfl ?_
            refine g_getR 71 (a0 + 1) dX8_seen_68 rfl flX8_14 (Sm.k j4 s0.1) (Sm.r j4 s0.2.1) ?_
            refine g_getI 74 dX8_seen_71 rfl flX8_285 (Sm.k j4 s0.2.2.1.1) ?_
            refine g_iload_n 2 75 dX8_seen_74 rfl rfl ?_
            obtain ⟨b2, H⟩ := H
            refine h_iastore 76 ((g_mi M4 (a0 + 1) 4)).toNatClampNeg dX8_seen_75 rfl rfl (Sm.k j4 s0.2.2.1.2.2.2.2.2.2.1) b2 ?_
            generalize hM5 : (g_wi M4 ((a0 + 1) + 9) ((g_mi M4 (a0 + 1) 4)).toNatClampNeg x2) = M5
            have j5 : Sm M M5 := by rw [← hM5]; exact (Sm.wi j4)
            replace H := H M5 hM5.symm
            refine g_aload_n 0 77 dX8_seen_76 rfl rfl ?_
            refine g_getR 80 (a0 + 1) dX8_seen_77 rfl flX8_14 (Sm.k j5 s0.1) (Sm.r j5 s0.2.1) ?_
            refine g_dup 81 dX8_seen_80 rfl rfl ?_
            refine g_getI 84 dX8_seen_81 rfl flX8_285 (Sm.k j5 s0.2.2.1.1) ?_
            refine g_iconst (1) 85 dX8_seen_84 rfl rfl ?_
            refine g_iadd 86 dX8_seen_85 rfl ?_
            refine g_putI 89 dX8_seen_86 rfl flX8_285 (Sm.k j5 s0.2.2.1.1) ?_
            generalize hM6 : (g_wi M5 (a0 + 1) 4 ((g_mi M5 (a0 + 1) 4) + 1)) = M6
            have j6 : Sm M M6 := by rw [← hM6]; exact (Sm.wi j5)
            replace H := H M6 hM6.symm
            refine g_aload_n 0 90 dX8_seen_89 rfl rfl ?_
            refine g_aload_n 0 91 dX8_seen_90 rfl rfl ?_
            refine g_getR 94 (a0 + 1) dX8_seen_91 rfl flX8_14 (Sm.k j6 s0.1) (Sm.r j6 s0.2.1) ?_
            refine g_getI 97 dX8_seen_94 rfl flX8_285 (Sm.k j6 s0.2.2.1.1) ?_
            refine g_callV (mc1 := 0) (ms1 := 0) (b := a0) (rest := []) (av := [.int ((g_mi M6 (a0 + 1) 4))]) kX8_accept 100 dX8_seen_97 rfl rfl mbX8_155 imX8_accept seX8_accept gcl8.1 (Sm.k j6 s0.1) (Nat.le_of_ble_eq_true rfl) (Nat.zero_le _) (Nat.zero_le _) (uX8_accept (N := N) (K := K) (Ph.sm j6 s0) H (fun v4 M7 jj H => ?_))
            have j7 : Sm M M7 := Sm.tr j6 jj
            show Go X (d + 1) mc ms kX8_seen Q 100 [(0, .ref a0), (1, .int (x1)), (2, .int (x2))] [.int (v4)] M7 0 0
            exact g_iret dX8_seen_100 rfl (Nat.zero_le _) (Nat.zero_le _) (hR _ _ j7 H)
          · skip
            replace H := H.2 c5
            refine g_aload_n 0 38 dX8_seen_37 rfl rfl ?_
            refine g_bipush ((-5)) 40 dX8_seen_38 rfl rfl ?_
            refine g_callV (mc1 := 0) (ms1 := 0) (b := a0) (rest := []) (av := [.int ((-5))]) kX8_refuse 43 dX8_seen_40 rfl rfl mbX8_146 imX8_refuse seX8_refuse gcl8.1 s0.1 (Nat.le_of_ble_eq_true rfl) (Nat.zero_le _) (Nat.zero_le _) (uX8_refuse (N := N) (K := K) s0 H (fun v5 M8 jj H => ?_))
            have j8 : Sm M M8 := jj
            show Go X (d + 1) mc ms kX8_seen Q 43 [(0, .ref a0), (1, .int (x1)), (2, .int (x2))] [.int (v5)] M8 0 0
            exact g_iret dX8_seen_43 rfl (Nat.zero_le _) (Nat.zero_le _) (hR _ _ j8 H)
        · skip
          replace H := H.2 c4
          refine g_aload_n 0 20 dX8_seen_19 rfl rfl ?_
          refine g_iconst ((-1)) 21 dX8_seen_20 rfl rfl ?_
          refine g_callV (mc1 := 0) (ms1 := 0) (b := a0) (rest := []) (av := [.int ((-1))]) kX8_refuse 24 dX8_seen_21 rfl rfl mbX8_146 imX8_refuse seX8_refuse gcl8.1 s0.1 (Nat.le_of_ble_eq_true rfl) (Nat.zero_le _) (Nat.zero_le _) (uX8_refuse (N := N) (K := K) s0 H (fun v6 M9 jj H => ?_))
          have j9 : Sm M M9 := jj
          show Go X (d + 1) mc ms kX8_seen Q 24 [(0, .ref a0), (1, .int (x1)), (2, .int (x2))] [.int (v6)] M9 0 0
          exact g_iret dX8_seen_24 rfl (Nat.zero_le _) (Nat.zero_le _) (hR _ _ j9 H)
/-! X8_forget -/
def pX8_forget (N K : Nat) (M : gM) (a0 : Nat) (R : Int32 → gM → Prop) : Prop := ∀ M1 : gM, M1 = (g_wi M (a0 + 1) 4 0) → R (g_mi M (a0 + 1) 4) M1
set_option maxRecDepth 10000 in
theorem uX8_forget {N K : Nat} {X : gX} {d mc ms : Nat} {Q : Option Value → gM → Prop} {M : gM} {a0 : Nat} {R : Int32 → gM → Prop} (s0 : Ph M a0) (H : pX8_forget N K M a0 R) (hR : ∀ (v : Int32) (M1 : gM), Sm M M1 → R v M1 → Q (some (.int v)) M1) : Cn X d mc ms kX8_forget [.ref a0] M Q := by
  unfold pX8_forget at H
  refine g_meth rfl rfl (Nat.le_of_ble_eq_true rfl) rfl ?_
  refine g_aload_n 0 1 dX8_forget_0 rfl rfl ?_
  refine g_getR 4 (a0 + 1) dX8_forget_1 rfl flX8_14 s0.1 s0.2.1 ?_
  refine g_getI 7 dX8_forget_4 rfl flX8_285 s0.2.2.1.1 ?_
  refine g_istore_n 8 [(1, .int ((g_mi M (a0 + 1) 4))), (0, .ref a0)] dX8_forget_7 rfl (Nat.le_of_ble_eq_true rfl) rfl ?_
  refine g_aload_n 1 9 dX8_forget_8 rfl rfl ?_
  refine g_getR 12 (a0 + 1) dX8_forget_9 rfl flX8_14 s0.1 s0.2.1 ?_
  refine g_iconst (0) 13 dX8_forget_12 rfl rfl ?_
  refine g_putI 16 dX8_forget_13 rfl flX8_285 s0.2.2.1.1 ?_
  generalize hM1 : (g_wi M (a0 + 1) 4 0) = M1
  have j1 : Sm M M1 := by rw [← hM1]; exact (Sm.wi Sm.rf)
  replace H := H M1 hM1.symm
  refine g_iload_n 0 17 dX8_forget_16 rfl rfl ?_
  exact g_iret dX8_forget_17 rfl (Nat.zero_le _) (Nat.zero_le _) (hR _ _ j1 H)
/-! X8_few -/
def pX8_few_0 (N K : Nat) (kp : Nat → gM → Nat → Int32 → Int32 → Int64 → Int32 → Int32 → Int64 → Int32 → Prop) (R : Int64 → gM → Prop) (M : gM) (a0 : Nat) (x1 : Int32) (x2 : Int32) : Prop := ((x1 < 1 → R (-1) M) ∧ (¬ x1 < 1 → ((20 < x1 → R (-1) M) ∧ (¬ 20 < x1 → ((x2 < 0 → R (-1) M) ∧ (¬ x2 < 0 → ((x2 ≤ 99 → pJ7_fill_d0a16 N K M (a0 + 306) 20 0 (fun M1 => ∀ M2 : gM, M2 = (g_wl M1 (a0 + 306) 0 1000000000000) → kp 0 M2 a0 x1 x2 (((g_mi M (((a0 + 1) + 1) + 2) 1) : Int32).toInt64) 0 0 0 0)) ∧ (¬ x2 ≤ 99 → R (-1) M))))))))
def pX8_few_59 (N K : Nat) (kp : Nat → gM → Nat → Int32 → Int32 → Int64 → Int32 → Int32 → Int64 → Int32 → Prop) (R : Int64 → gM → Prop) (M : gM) (a0 : Nat) (x1 : Int32) (x2 : Int32) (y3 : Int64) (x5 : Int32) : Prop := ((x2 ≤ x5 → kp 2 M a0 x1 0 0 0 0 0 0) ∧ (¬ x2 ≤ x5 → kp 1 M a0 x1 x2 y3 x5 (x1 - 1) 0 0))
def pX8_few_70 (N K : Nat) (kp : Nat → gM → Nat → Int32 → Int32 → Int64 → Int32 → Int32 → Int64 → Int32 → Prop) (R : Int64 → gM → Prop) (M : gM) (a0 : Nat) (x1 : Int32) (x2 : Int32) (y3 : Int64) (x5 : Int32) (x6 : Int32) : Prop := ((x6 < 0 → kp 0 M a0 x1 x2 y3 (x5 + 1) 0 0 0) ∧ (¬ x6 < 0 → ((¬ x6 = 0 → (vp_in ((x6 - 1)) 20) ∧ (vp_in (x6) 20) ∧ ∀ M1 : gM, M1 = (g_wl M (a0 + 306) (x6).toNatClampNeg ((((g_ml M (a0 + 306) (x6).toNatClampNeg) * (10 - y3)) / 10) + (((g_ml M (a0 + 306) ((x6 - 1)).toNatClampNeg) * y3) / 10))) → kp 1 M1 a0 x1 x2 y3 x5 (x6 + (-1)) 0 0) ∧ (x6 = 0 → (vp_in (x6) 20) ∧ ∀ M2 : gM, M2 = (g_wl M (a0 + 306) (x6).toNatClampNeg ((((g_ml M (a0 + 306) (x6).toNatClampNeg) * (10 - y3)) / 10) + 0)) → kp 1 M2 a0 x1 x2 y3 x5 (x6 + (-1)) 0 0))))
def pX8_few_146 (N K : Nat) (kp : Nat → gM → Nat → Int32 → Int32 → Int64 → Int32 → Int32 → Int64 → Int32 → Prop) (R : Int64 → gM → Prop) (M : gM) (a0 : Nat) (x1 : Int32) (y5 : Int64) (x7 : Int32) : Prop := ((x1 ≤ x7 → R y5 M) ∧ (¬ x1 ≤ x7 → (vp_in (x7) 20) ∧ kp 2 M a0 x1 0 0 0 0 (y5 + (g_ml M (a0 + 306) (x7).toNatClampNeg)) (x7 + 1)))
def qX8_few (N K : Nat) (R : Int64 → gM → Prop) : Nat → Nat → gM → Nat → Int32 → Int32 → Int64 → Int32 → Int32 → Int64 → Int32 → Prop
  | 0, _, _, _, _, _, _, _, _, _, _ => False
  | n + 1, h, M, a0, x1, x2, y3, x5, x6, y5, x7 => if h = 0 then pX8_few_59 N K (qX8_few N K R n) R M a0 x1 x2 y3 x5 else if h = 1 then pX8_few_70 N K (qX8_few N K R n) R M a0 x1 x2 y3 x5 x6 else pX8_few_146 N K (qX8_few N K R n) R M a0 x1 y5 x7
def pX8_few (N K : Nat) (M : gM) (a0 : Nat) (x1 : Int32) (x2 : Int32) (R : Int64 → gM → Prop) : Prop := pX8_few_0 N K (qX8_few N K R N) R M a0 x1 x2
def ULX8_few (X : gX) (d mc ms : Nat) (Q : Option Value → gM → Prop) (N K : Nat) (R : Int64 → gM → Prop) (n : Nat) : Prop := (∀ (M : gM) (a0 : Nat) (x1 : Int32) (x2 : Int32) (y3 : Int64) (x5 : Int32) (x6 : Int32) (y5 : Int64) (x7 : Int32), Ph M a0 → qX8_few N K R n 0 M a0 x1 x2 y3 x5 x6 y5 x7 → (∀ (v : Int64) (M1 : gM), Sl M M1 → R v M1 → Q (some (.long v)) M1) → Go X (d + 1) mc ms kX8_few Q 59 [(0, .ref a0), (1, .int (x1)), (2, .int (x2)), (3, .long (y3)), (5, .int (x5))] [] M 0 0) ∧ (∀ (M : gM) (a0 : Nat) (x1 : Int32) (x2 : Int32) (y3 : Int64) (x5 : Int32) (x6 : Int32) (y5 : Int64) (x7 : Int32), Ph M a0 → qX8_few N K R n 1 M a0 x1 x2 y3 x5 x6 y5 x7 → (∀ (v : Int64) (M1 : gM), Sl M M1 → R v M1 → Q (some (.long v)) M1) → Go X (d + 1) mc ms kX8_few Q 70 [(0, .ref a0), (1, .int (x1)), (2, .int (x2)), (3, .long (y3)), (5, .int (x5)), (6, .int (x6))] [] M 0 0) ∧ (∀ (M : gM) (a0 : Nat) (x1 : Int32) (x2 : Int32) (y3 : Int64) (x5 : Int32) (x6 : Int32) (y5 : Int64) (x7 : Int32), Ph M a0 → qX8_few N K R n 2 M a0 x1 x2 y3 x5 x6 y5 x7 → (∀ (v : Int64) (M1 : gM), Sl M M1 → R v M1 → Q (some (.long v)) M1) → Go X (d + 1) mc ms kX8_few Q 146 [(0, .ref a0), (1, .int (x1)), (5, .long (y5)), (7, .int (x7))] [] M 0 0)
set_option maxRecDepth 10000 in
theorem ulX8_few {X : gX} {d mc ms : Nat} {Q : Option Value → gM → Prop} {N K : Nat} {R : Int64 → gM → Prop} : ∀ n : Nat, ULX8_few X d mc ms Q N K R n := by
  intro n
  induction n with
  | zero => exact ⟨fun _ _ _ _ _ _ _ _ _ _ h _ => h.elim, fun _ _ _ _ _ _ _ _ _ _ h _ => h.elim, fun _ _ _ _ _ _ _ _ _ _ h _ => h.elim⟩
  | succ n ih =>
    refine ⟨?_, ?_, ?_⟩
    · intro M a0 x1 x2 y3 x5 x6 y5 x7 s0 H hR
      rw [qX8_few, if_pos (show (0 : Nat) = 0 from rfl)] at H
      unfold pX8_few_59 at H
      refine g_iload 4 61 dX8_few_59 rfl rfl ?_
      refine g_iload_n 2 62 dX8_few_61 rfl rfl ?_
      refine g_icmp_ge 140 65 dX8_few_62 rfl rfl (fun c1 => ?_) (fun c1 => ?_)
      · skip
        replace H := H.1 c1
        refine g_lconst (0) 141 dX8_few_140 rfl rfl ?_
        refine g_lstore 143 [(5, .long (0)), (0, .ref a0), (1, .int (x1)), (2, .int (x2)), (3, .long (y3))] dX8_few_141 rfl (Nat.le_of_ble_eq_true rfl) rfl ?_
        refine g_iconst (0) 144 dX8_few_143 rfl rfl ?_
        refine g_istore 146 [(7, .int (0)), (5, .long (0)), (0, .ref a0), (1, .int (x1)), (2, .int (x2)), (3, .long (y3))] dX8_few_144 rfl (Nat.le_of_ble_eq_true rfl) rfl ?_
        exact g_sub [2, 3, 1, 0] _ rfl (ih.2.2 M a0 x1 0 0 0 0 0 0 s0 H (fun v M1 j r => hR v M1 j r))
      · skip
        replace H := H.2 c1
        refine g_iload_n 1 66 dX8_few_65 rfl rfl ?_
        refine g_iconst (1) 67 dX8_few_66 rfl rfl ?_
        refine g_isub 68 dX8_few_67 rfl ?_
        refine g_istore 70 [(6, .int ((x1 - 1))), (0, .ref a0), (1, .int (x1)), (2, .int (x2)), (3, .long (y3)), (5, .int (x5))] dX8_few_68 rfl (Nat.le_of_ble_eq_true rfl) rfl ?_
        exact g_sub [1, 2, 3, 4, 5, 0] _ rfl (ih.2.1 M a0 x1 x2 y3 x5 (x1 - 1) 0 0 s0 H (fun v M1 j r => hR v M1 j r))
    · intro M a0 x1 x2 y3 x5 x6 y5 x7 s0 H hR
      rw [qX8_few, if_neg (show ¬ (1 : Nat) = 0 by decide), if_pos (show (1 : Nat) = 1 from rfl)] at H
      unfold pX8_few_70 at H
      refine g_iload 5 72 dX8_few_70 rfl rfl ?_
      refine g_if_lt 134 75 dX8_few_72 rfl rfl (fun c1 => ?_) (fun c1 => ?_)
      · skip
        replace H := H.1 c1
        refine g_iinc _ 4 137 [(5, .int ((x5 + 1))), (0, .ref a0), (1, .int (x1)), (2, .int (x2)), (3, .long (y3)), (6, .int (x6))] dX8_few_134 rfl rfl rfl (Nat.le_of_ble_eq_true rfl) rfl ?_
        refine g_goto 59 dX8_few_137 rfl ?_
        exact g_sub [1, 2, 3, 4, 0] _ rfl (ih.1 M a0 x1 x2 y3 (x5 + 1) 0 0 0 s0 H (fun v M1 j r => hR v M1 j r))
      · skip
        replace H := H.2 c1
        refine g_iload 5 77 dX8_few_75 rfl rfl ?_
        refine g_if_ne 84 80 dX8_few_77 rfl rfl (fun c2 => ?_) (fun c2 => ?_)
        · skip
          replace H := H.1 c2
          refine g_aload_n 0 85 dX8_few_84 rfl rfl ?_
          refine g_getR 88 (a0 + 306) dX8_few_85 rfl flX8_84 s0.1 s0.2.2.2.2.2.2.2.2.2.2.2.2.2.2.2.2.2.2.2.2.2.2.2.2.2.2.2.1 ?_
          refine g_iload 5 90 dX8_few_88 rfl rfl ?_
          refine g_iconst (1) 91 dX8_few_90 rfl rfl ?_
          refine g_isub 92 dX8_few_91 rfl ?_
          obtain ⟨b1, H⟩ := H
          refine h_laload 93 ((x6 - 1)).toNatClampNeg dX8_few_92 rfl rfl s0.2.2.2.2.2.2.2.2.2.2.2.2.2.2.2.2.2.2.2.2.2.2.2.2.2.2.2.2.1 b1 ?_
          refine g_lload_n 3 94 dX8_few_93 rfl rfl ?_
          refine g_lmul 95 dX8_few_94 rfl ?_
          refine g_ldc2 (10) 98 dX8_few_95 rfl q4_191 ?_
          refine g_ldiv 99 dX8_few_98 rfl (by decide) ?_
          refine g_lstore 101 [(7, .long ((((g_ml M (a0 + 306) ((x6 - 1)).toNatClampNeg) * y3) / 10))), (0, .ref a0), (1, .int (x1)), (2, .int (x2)), (3, .long (y3)), (5, .int (x5)), (6, .int (x6))] dX8_few_99 rfl (Nat.le_of_ble_eq_true rfl) rfl ?_
          refine g_aload_n 1 102 dX8_few_101 rfl rfl ?_
          refine g_getR 105 (a0 + 306) dX8_few_102 rfl flX8_84 s0.1 s0.2.2.2.2.2.2.2.2.2.2.2.2.2.2.2.2.2.2.2.2.2.2.2.2.2.2.2.1 ?_
          refine g_iload 6 107 dX8_few_105 rfl rfl ?_
          refine g_aload_n 1 108 dX8_few_107 rfl rfl ?_
          refine g_getR 111 (a0 + 306) dX8_few_108 rfl flX8_84 s0.1 s0.2.2.2.2.2.2.2.2.2.2.2.2.2.2.2.2.2.2.2.2.2.2.2.2.2.2.2.1 ?_
          refine g_iload 6 113 dX8_few_111 rfl rfl ?_
          obtain ⟨b2, H⟩ := H
          refine h_laload 114 (x6).toNatClampNeg dX8_few_113 rfl rfl s0.2.2.2.2.2.2.2.2.2.2.2.2.2.2.2.2.2.2.2.2.2.2.2.2.2.2.2.2.1 b2 ?_
          refine g_ldc2 (10) 117 dX8_few_114 rfl q4_191 ?_
          refine g_lload_n 4 118 dX8_few_117 rfl rfl ?_
          refine g_lsub 119 dX8_few_118 rfl ?_
          refine g_lmul 120 dX8_few_119 rfl ?_
          refine g_ldc2 (10) 123 dX8_few_120 rfl q4_191 ?_
          refine g_ldiv 124 dX8_few_123 rfl (by decide) ?_
          refine g_lload 0 126 dX8_few_124 rfl rfl ?_
          refine g_ladd 127 dX8_few_126 rfl ?_
          refine h_lastore 128 (x6).toNatClampNeg dX8_few_127 rfl rfl s0.2.2.2.2.2.2.2.2.2.2.2.2.2.2.2.2.2.2.2.2.2.2.2.2.2.2.2.2.1 b2 ?_
          generalize hM1 : (g_wl M (a0 + 306) (x6).toNatClampNeg ((((g_ml M (a0 + 306) (x6).toNatClampNeg) * (10 - y3)) / 10) + (((g_ml M (a0 + 306) ((x6 - 1)).toNatClampNeg) * y3) / 10))) = M1
          have j1 : Sl M M1 := by rw [← hM1]; exact (Sl.wl Sl.rf)
          replace H := H M1 hM1.symm
          refine g_iinc _ 6 131 [(6, .int ((x6 + (-1)))), (7, .long ((((g_ml M (a0 + 306) ((x6 - 1)).toNatClampNeg) * y3) / 10))), (0, .ref a0), (1, .int (x1)), (2, .int (x2)), (3, .long (y3)), (5, .int (x5))] dX8_few_128 rfl rfl rfl (Nat.le_of_ble_eq_true rfl) rfl ?_
          refine g_goto 70 dX8_few_131 rfl ?_
          exact g_sub [2, 3, 4, 5, 6, 0] _ rfl (ih.2.1 M1 a0 x1 x2 y3 x5 (x6 + (-1)) 0 0 (Ph.sl j1 s0) H (fun v M1 j r => hR v M1 (Sl.tr j1 j) r))
        · skip
          replace H := H.2 c2
          refine g_lconst (0) 81 dX8_few_80 rfl rfl ?_
          refine g_goto 99 dX8_few_81 rfl ?_
          refine g_lstore 101 [(7, .long (0)), (0, .ref a0), (1, .int (x1)), (2, .int (x2)), (3, .long (y3)), (5, .int (x5)), (6, .int (x6))] dX8_few_99 rfl (Nat.le_of_ble_eq_true rfl) rfl ?_
          refine g_aload_n 1 102 dX8_few_101 rfl rfl ?_
          refine g_getR 105 (a0 + 306) dX8_few_102 rfl flX8_84 s0.1 s0.2.2.2.2.2.2.2.2.2.2.2.2.2.2.2.2.2.2.2.2.2.2.2.2.2.2.2.1 ?_
          refine g_iload 6 107 dX8_few_105 rfl rfl ?_
          refine g_aload_n 1 108 dX8_few_107 rfl rfl ?_
          refine g_getR 111 (a0 + 306) dX8_few_108 rfl flX8_84 s0.1 s0.2.2.2.2.2.2.2.2.2.2.2.2.2.2.2.2.2.2.2.2.2.2.2.2.2.2.2.1 ?_
          refine g_iload 6 113 dX8_few_111 rfl rfl ?_
          obtain ⟨b3, H⟩ := H
          refine h_laload 114 (x6).toNatClampNeg dX8_few_113 rfl rfl s0.2.2.2.2.2.2.2.2.2.2.2.2.2.2.2.2.2.2.2.2.2.2.2.2.2.2.2.2.1 b3 ?_
          refine g_ldc2 (10) 117 dX8_few_114 rfl q4_191 ?_
          refine g_lload_n 4 118 dX8_few_117 rfl rfl ?_
          refine g_lsub 119 dX8_few_118 rfl ?_
          refine g_lmul 120 dX8_few_119 rfl ?_
          refine g_ldc2 (10) 123 dX8_few_120 rfl q4_191 ?_
          refine g_ldiv 124 dX8_few_123 rfl (by decide) ?_
          refine g_lload 0 126 dX8_few_124 rfl rfl ?_
          refine g_ladd 127 dX8_few_126 rfl ?_
          refine h_lastore 128 (x6).toNatClampNeg dX8_few_127 rfl rfl s0.2.2.2.2.2.2.2.2.2.2.2.2.2.2.2.2.2.2.2.2.2.2.2.2.2.2.2.2.1 b3 ?_
          generalize hM2 : (g_wl M (a0 + 306) (x6).toNatClampNeg ((((g_ml M (a0 + 306) (x6).toNatClampNeg) * (10 - y3)) / 10) + 0)) = M2
          have j2 : Sl M M2 := by rw [← hM2]; exact (Sl.wl Sl.rf)
          replace H := H M2 hM2.symm
          refine g_iinc _ 6 131 [(6, .int ((x6 + (-1)))), (7, .long (0)), (0, .ref a0), (1, .int (x1)), (2, .int (x2)), (3, .long (y3)), (5, .int (x5))] dX8_few_128 rfl rfl rfl (Nat.le_of_ble_eq_true rfl) rfl ?_
          refine g_goto 70 dX8_few_131 rfl ?_
          exact g_sub [2, 3, 4, 5, 6, 0] _ rfl (ih.2.1 M2 a0 x1 x2 y3 x5 (x6 + (-1)) 0 0 (Ph.sl j2 s0) H (fun v M1 j r => hR v M1 (Sl.tr j2 j) r))
    · intro M a0 x1 x2 y3 x5 x6 y5 x7 s0 H hR
      rw [qX8_few, if_neg (show ¬ (2 : Nat) = 0 by decide), if_neg (show ¬ (2 : Nat) = 1 by decide)] at H
      unfold pX8_few_146 at H
      refine g_iload 3 148 dX8_few_146 rfl rfl ?_
      refine g_iload_n 1 149 dX8_few_148 rfl rfl ?_
      refine g_icmp_ge 170 152 dX8_few_149 rfl rfl (fun c1 => ?_) (fun c1 => ?_)
      · skip
        replace H := H.1 c1
        refine g_lload 2 172 dX8_few_170 rfl rfl ?_
        exact g_lret dX8_few_172 rfl (Nat.zero_le _) (Nat.zero_le _) (hR _ _ Sl.rf H)
      · skip
        replace H := H.2 c1
        refine g_lload 2 154 dX8_few_152 rfl rfl ?_
        refine g_aload_n 0 155 dX8_few_154 rfl rfl ?_
        refine g_getR 158 (a0 + 306) dX8_few_155 rfl flX8_84 s0.1 s0.2.2.2.2.2.2.2.2.2.2.2.2.2.2.2.2.2.2.2.2.2.2.2.2.2.2.2.1 ?_
        refine g_iload 3 160 dX8_few_158 rfl rfl ?_
        obtain ⟨b1, H⟩ := H
        refine h_laload 161 (x7).toNatClampNeg dX8_few_160 rfl rfl s0.2.2.2.2.2.2.2.2.2.2.2.2.2.2.2.2.2.2.2.2.2.2.2.2.2.2.2.2.1 b1 ?_
        refine g_ladd 162 dX8_few_161 rfl ?_
        refine g_lstore 164 [(5, .long ((y5 + (g_ml M (a0 + 306) (x7).toNatClampNeg)))), (0, .ref a0), (1, .int (x1)), (7, .int (x7))] dX8_few_162 rfl (Nat.le_of_ble_eq_true rfl) rfl ?_
        refine g_iinc _ 3 167 [(7, .int ((x7 + 1))), (5, .long ((y5 + (g_ml M (a0 + 306) (x7).toNatClampNeg)))), (0, .ref a0), (1, .int (x1))] dX8_few_164 rfl rfl rfl (Nat.le_of_ble_eq_true rfl) rfl ?_
        refine g_goto 146 dX8_few_167 rfl ?_
        exact g_sub [2, 3, 1, 0] _ rfl (ih.2.2 M a0 x1 0 0 0 0 (y5 + (g_ml M (a0 + 306) (x7).toNatClampNeg)) (x7 + 1) s0 H (fun v M1 j r => hR v M1 j r))
set_option maxRecDepth 10000 in
theorem uX8_few {N K : Nat} {X : gX} {d mc ms : Nat} {Q : Option Value → gM → Prop} {M : gM} {a0 : Nat} {x1 : Int32} {x2 : Int32} {R : Int64 → gM → Prop} (s0 : Ph M a0) (H : pX8_few N K M a0 x1 x2 R) (hR : ∀ (v : Int64) (M1 : gM), Sl M M1 → R v M1 → Q (some (.long v)) M1) : Cn X (d + 1) mc ms kX8_few [.ref a0, .int (x1), .int (x2)] M Q := by
  have ih := ulX8_few (X := X) (d := d) (mc := mc) (ms := ms) (Q := Q) (N := N) (K := K) (R := R) N
  unfold pX8_few pX8_few_0 at H
  refine g_meth rfl rfl (Nat.le_of_ble_eq_true rfl) rfl ?_
  refine g_iload_n 1 1 dX8_few_0 rfl rfl ?_
  refine g_iconst (1) 2 dX8_few_1 rfl rfl ?_
  refine g_icmp_lt 21 5 dX8_few_2 rfl rfl (fun c1 => ?_) (fun c1 => ?_)
  · skip
    replace H := H.1 c1
    refine g_ldc2 ((-1)) 24 dX8_few_21 rfl q4_186 ?_
    exact g_lret dX8_few_24 rfl (Nat.zero_le _) (Nat.zero_le _) (hR _ _ Sl.rf H)
  · skip
    replace H := H.2 c1
    refine g_iload_n 1 6 dX8_few_5 rfl rfl ?_
    refine g_bipush (20) 8 dX8_few_6 rfl rfl ?_
    refine g_icmp_gt 21 11 dX8_few_8 rfl rfl (fun c2 => ?_) (fun c2 => ?_)
    · skip
      replace H := H.1 c2
      refine g_ldc2 ((-1)) 24 dX8_few_21 rfl q4_186 ?_
      exact g_lret dX8_few_24 rfl (Nat.zero_le _) (Nat.zero_le _) (hR _ _ Sl.rf H)
    · skip
      replace H := H.2 c2
      refine g_iload_n 2 12 dX8_few_11 rfl rfl ?_
      refine g_if_lt 21 15 dX8_few_12 rfl rfl (fun c3 => ?_) (fun c3 => ?_)
      · skip
        replace H := H.1 c3
        refine g_ldc2 ((-1)) 24 dX8_few_21 rfl q4_186 ?_
        exact g_lret dX8_few_24 rfl (Nat.zero_le _) (Nat.zero_le _) (hR _ _ Sl.rf H)
      · skip
        replace H := H.2 c3
        refine g_iload_n 2 16 dX8_few_15 rfl rfl ?_
        refine g_bipush (99) 18 dX8_few_16 rfl rfl ?_
        refine g_icmp_le 25 21 dX8_few_18 rfl rfl (fun c4 => ?_) (fun c4 => ?_)
        · skip
          replace H := H.1 c4
          refine g_aload_n 0 26 dX8_few_25 rfl rfl ?_
          refine g_getR 29 (a0 + 1) dX8_few_26 rfl flX8_14 s0.1 s0.2.1 ?_
          refine g_getR 32 ((a0 + 1) + 1) dX8_few_29 rfl flX8_102 s0.2.2.1.1 s0.2.2.1.2.1 ?_
          refine g_getR 35 (((a0 + 1) + 1) + 2) dX8_few_32 rfl flX8_149 s0.2.2.1.2.2.1.1 s0.2.2.1.2.2.1.2.2.2.1 ?_
          refine g_iconst (1) 36 dX8_few_35 rfl rfl ?_
          refine h_iaload 37 1 dX8_few_36 rfl rfl s0.2.2.1.2.2.1.2.2.2.2.1 (vp_lit rfl) ?_
          refine g_i2l 38 dX8_few_37 rfl ?_
          refine g_lstore_n 39 [(3, .long ((((g_mi M (((a0 + 1) + 1) + 2) 1) : Int32).toInt64))), (0, .ref a0), (1, .int (x1)), (2, .int (x2))] dX8_few_38 rfl (Nat.le_of_ble_eq_true rfl) rfl ?_
          refine g_aload_n 1 40 dX8_few_39 rfl rfl ?_
          refine g_getR 43 (a0 + 306) dX8_few_40 rfl flX8_84 s0.1 s0.2.2.2.2.2.2.2.2.2.2.2.2.2.2.2.2.2.2.2.2.2.2.2.2.2.2.2.1 ?_
          refine g_lconst (0) 44 dX8_few_43 rfl rfl ?_
          refine g_callS (mc1 := 0) (ms1 := 0) (rest := []) (av := [.ref (a0 + 306), .long (0)]) kJ7_fill_d0a16 47 dX8_few_44 rfl rfl mbX8_309 smJ7_fill_d0a16 (Nat.le_of_ble_eq_true rfl) (Nat.zero_le _) (Nat.zero_le _) (uJ7_fill_d0a16 (N := N) (K := K) s0.2.2.2.2.2.2.2.2.2.2.2.2.2.2.2.2.2.2.2.2.2.2.2.2.2.2.2.2.1 H (fun M1 jj H => ?_))
          have j1 : Sl M M1 := jj
          show Go X (d + 1) mc ms kX8_few Q 47 [(3, .long ((((g_mi M (((a0 + 1) + 1) + 2) 1) : Int32).toInt64))), (0, .ref a0), (1, .int (x1)), (2, .int (x2))] [] M1 0 0
          refine g_aload_n 1 48 dX8_few_47 rfl rfl ?_
          refine g_getR 51 (a0 + 306) dX8_few_48 rfl flX8_84 (Sl.k j1 s0.1) (Sl.r j1 s0.2.2.2.2.2.2.2.2.2.2.2.2.2.2.2.2.2.2.2.2.2.2.2.2.2.2.2.1) ?_
          refine g_iconst (0) 52 dX8_few_51 rfl rfl ?_
          refine g_ldc2 (1000000000000) 55 dX8_few_52 rfl q4_190 ?_
          refine h_lastore 56 0 dX8_few_55 rfl rfl (Sl.k j1 s0.2.2.2.2.2.2.2.2.2.2.2.2.2.2.2.2.2.2.2.2.2.2.2.2.2.2.2.2.1) (vp_lit rfl) ?_
          generalize hM2 : (g_wl M1 (a0 + 306) 0 1000000000000) = M2
          have j2 : Sl M M2 := by rw [← hM2]; exact (Sl.wl j1)
          replace H := H M2 hM2.symm
          refine g_iconst (0) 57 dX8_few_56 rfl rfl ?_
          refine g_istore 59 [(5, .int (0)), (3, .long ((((g_mi M (((a0 + 1) + 1) + 2) 1) : Int32).toInt64))), (0, .ref a0), (1, .int (x1)), (2, .int (x2))] dX8_few_57 rfl (Nat.le_of_ble_eq_true rfl) rfl ?_
          exact g_sub [2, 3, 4, 1, 0] _ rfl (ih.1 M2 a0 x1 x2 (((g_mi M (((a0 + 1) + 1) + 2) 1) : Int32).toInt64) 0 0 0 0 (Ph.sl j2 s0) H (fun v M1 j r => hR v M1 (Sl.tr j2 j) r))
        · skip
          replace H := H.2 c4
          refine g_ldc2 ((-1)) 24 dX8_few_21 rfl q4_186 ?_
          exact g_lret dX8_few_24 rfl (Nat.zero_le _) (Nat.zero_le _) (hR _ _ Sl.rf H)
/-! X8_drawn -/
def pX8_drawn (N K : Nat) (M : gM) (a0 : Nat) (x1 : Int32) (R : Int32 → Prop) : Prop := ((x1 < 0 → R (-1)) ∧ (¬ x1 < 0 → ((40 ≤ x1 → R (-1)) ∧ (¬ 40 ≤ x1 → (vp_in (x1) 40) ∧ R (g_mi M (a0 + 303) (x1).toNatClampNeg)))))
set_option maxRecDepth 10000 in
theorem uX8_drawn {N K : Nat} {X : gX} {d mc ms : Nat} {Q : Option Value → gM → Prop} {M : gM} {a0 : Nat} {x1 : Int32} {R : Int32 → Prop} (s0 : Ph M a0) (H : pX8_drawn N K M a0 x1 R) (hR : ∀ (v : Int32), R v → Q (some (.int v)) M) : Cn X d mc ms kX8_drawn [.ref a0, .int (x1)] M Q := by
  unfold pX8_drawn at H
  refine g_meth rfl rfl (Nat.le_of_ble_eq_true rfl) rfl ?_
  refine g_iload_n 1 1 dX8_drawn_0 rfl rfl ?_
  refine g_if_lt 19 4 dX8_drawn_1 rfl rfl (fun c1 => ?_) (fun c1 => ?_)
  · skip
    replace H := H.1 c1
    refine g_iconst ((-1)) 20 dX8_drawn_19 rfl rfl ?_
    exact g_iret dX8_drawn_20 rfl (Nat.zero_le _) (Nat.zero_le _) (hR _ H)
  · skip
    replace H := H.2 c1
    refine g_iload_n 1 5 dX8_drawn_4 rfl rfl ?_
    refine g_bipush (40) 7 dX8_drawn_5 rfl rfl ?_
    refine g_icmp_ge 19 10 dX8_drawn_7 rfl rfl (fun c2 => ?_) (fun c2 => ?_)
    · skip
      replace H := H.1 c2
      refine g_iconst ((-1)) 20 dX8_drawn_19 rfl rfl ?_
      exact g_iret dX8_drawn_20 rfl (Nat.zero_le _) (Nat.zero_le _) (hR _ H)
    · skip
      replace H := H.2 c2
      refine g_aload_n 0 11 dX8_drawn_10 rfl rfl ?_
      refine g_getR 14 (a0 + 303) dX8_drawn_11 rfl flX8_74 s0.1 s0.2.2.2.2.2.2.2.2.2.2.2.2.2.2.2.2.2.2.2.2.2.1 ?_
      refine g_iload_n 1 15 dX8_drawn_14 rfl rfl ?_
      obtain ⟨b1, H⟩ := H
      refine h_iaload 16 (x1).toNatClampNeg dX8_drawn_15 rfl rfl s0.2.2.2.2.2.2.2.2.2.2.2.2.2.2.2.2.2.2.2.2.2.2.1 b1 ?_
      refine g_goto 20 dX8_drawn_16 rfl ?_
      exact g_iret dX8_drawn_20 rfl (Nat.zero_le _) (Nat.zero_le _) (hR _ H)
/-! X8_count -/
def pX8_count (N K : Nat) (M : gM) (a0 : Nat) (x1 : Int32) (R : Int32 → Prop) : Prop := ((x1 = 0 → R (g_mi M ((a0 + 1) + 1) 3)) ∧ (¬ x1 = 0 → ((x1 = 1 → R (g_mi M ((a0 + 1) + 1) 4)) ∧ (¬ x1 = 1 → ((x1 = 2 → R (g_mi M ((a0 + 1) + 1) 5)) ∧ (¬ x1 = 2 → ((x1 = 3 → R (g_mi M (a0 + 1) 4)) ∧ (¬ x1 = 3 → ((x1 = 4 → R (g_mi M (a0 + 1) 5)) ∧ (¬ x1 = 4 → ((x1 = 5 → R (g_mi M (a0 + 13) 3)) ∧ (¬ x1 = 5 → ((x1 = 6 → R (g_mi M (a0 + 282) 5)) ∧ (¬ x1 = 6 → ((x1 = 7 → ((x1 < 7 → ((x1 < 13 → R (-1)) ∧ (¬ x1 < 13 → ((15 < x1 → R (-1)) ∧ (¬ 15 < x1 → (vp_in ((x1 - 13)) 3) ∧ R (g_mi M (((a0 + 1) + 1) + 2) ((x1 - 13)).toNatClampNeg)))))) ∧ (¬ x1 < 7 → ((11 < x1 → ((x1 < 13 → R (-1)) ∧ (¬ x1 < 13 → ((15 < x1 → R (-1)) ∧ (¬ 15 < x1 → (vp_in ((x1 - 13)) 3) ∧ R (g_mi M (((a0 + 1) + 1) + 2) ((x1 - 13)).toNatClampNeg)))))) ∧ (¬ 11 < x1 → (vp_in ((x1 - 7)) 5) ∧ R (g_mi M (a0 + 304) ((x1 - 7)).toNatClampNeg)))))) ∧ (¬ x1 = 7 → ((x1 = 8 → ((x1 < 7 → ((x1 < 13 → R (-1)) ∧ (¬ x1 < 13 → ((15 < x1 → R (-1)) ∧ (¬ 15 < x1 → (vp_in ((x1 - 13)) 3) ∧ R (g_mi M (((a0 + 1) + 1) + 2) ((x1 - 13)).toNatClampNeg)))))) ∧ (¬ x1 < 7 → ((11 < x1 → ((x1 < 13 → R (-1)) ∧ (¬ x1 < 13 → ((15 < x1 → R (-1)) ∧ (¬ 15 < x1 → (vp_in ((x1 - 13)) 3) ∧ R (g_mi M (((a0 + 1) + 1) + 2) ((x1 - 13)).toNatClampNeg)))))) ∧ (¬ 11 < x1 → (vp_in ((x1 - 7)) 5) ∧ R (g_mi M (a0 + 304) ((x1 - 7)).toNatClampNeg)))))) ∧ (¬ x1 = 8 → ((x1 = 9 → ((x1 < 7 → ((x1 < 13 → R (-1)) ∧ (¬ x1 < 13 → ((15 < x1 → R (-1)) ∧ (¬ 15 < x1 → (vp_in ((x1 - 13)) 3) ∧ R (g_mi M (((a0 + 1) + 1) + 2) ((x1 - 13)).toNatClampNeg)))))) ∧ (¬ x1 < 7 → ((11 < x1 → ((x1 < 13 → R (-1)) ∧ (¬ x1 < 13 → ((15 < x1 → R (-1)) ∧ (¬ 15 < x1 → (vp_in ((x1 - 13)) 3) ∧ R (g_mi M (((a0 + 1) + 1) + 2) ((x1 - 13)).toNatClampNeg)))))) ∧ (¬ 11 < x1 → (vp_in ((x1 - 7)) 5) ∧ R (g_mi M (a0 + 304) ((x1 - 7)).toNatClampNeg)))))) ∧ (¬ x1 = 9 → ((x1 = 10 → ((x1 < 7 → ((x1 < 13 → R (-1)) ∧ (¬ x1 < 13 → ((15 < x1 → R (-1)) ∧ (¬ 15 < x1 → (vp_in ((x1 - 13)) 3) ∧ R (g_mi M (((a0 + 1) + 1) + 2) ((x1 - 13)).toNatClampNeg)))))) ∧ (¬ x1 < 7 → ((11 < x1 → ((x1 < 13 → R (-1)) ∧ (¬ x1 < 13 → ((15 < x1 → R (-1)) ∧ (¬ 15 < x1 → (vp_in ((x1 - 13)) 3) ∧ R (g_mi M (((a0 + 1) + 1) + 2) ((x1 - 13)).toNatClampNeg)))))) ∧ (¬ 11 < x1 → (vp_in ((x1 - 7)) 5) ∧ R (g_mi M (a0 + 304) ((x1 - 7)).toNatClampNeg)))))) ∧ (¬ x1 = 10 → ((x1 = 11 → ((x1 < 7 → ((x1 < 13 → R (-1)) ∧ (¬ x1 < 13 → ((15 < x1 → R (-1)) ∧ (¬ 15 < x1 → (vp_in ((x1 - 13)) 3) ∧ R (g_mi M (((a0 + 1) + 1) + 2) ((x1 - 13)).toNatClampNeg)))))) ∧ (¬ x1 < 7 → ((11 < x1 → ((x1 < 13 → R (-1)) ∧ (¬ x1 < 13 → ((15 < x1 → R (-1)) ∧ (¬ 15 < x1 → (vp_in ((x1 - 13)) 3) ∧ R (g_mi M (((a0 + 1) + 1) + 2) ((x1 - 13)).toNatClampNeg)))))) ∧ (¬ 11 < x1 → (vp_in ((x1 - 7)) 5) ∧ R (g_mi M (a0 + 304) ((x1 - 7)).toNatClampNeg)))))) ∧ (¬ x1 = 11 → ((x1 = 12 → R (g_mi M (a0 + 1) 6)) ∧ (¬ x1 = 12 → ((x1 < 7 → ((x1 < 13 → R (-1)) ∧ (¬ x1 < 13 → ((15 < x1 → R (-1)) ∧ (¬ 15 < x1 → (vp_in ((x1 - 13)) 3) ∧ R (g_mi M (((a0 + 1) + 1) + 2) ((x1 - 13)).toNatClampNeg)))))) ∧ (¬ x1 < 7 → ((11 < x1 → ((x1 < 13 → R (-1)) ∧ (¬ x1 < 13 → ((15 < x1 → R (-1)) ∧ (¬ 15 < x1 → (vp_in ((x1 - 13)) 3) ∧ R (g_mi M (((a0 + 1) + 1) + 2) ((x1 - 13)).toNatClampNeg)))))) ∧ (¬ 11 < x1 → (vp_in ((x1 - 7)) 5) ∧ R (g_mi M (a0 + 304) ((x1 - 7)).toNatClampNeg)))))))))))))))))))))))))))))))
set_option maxRecDepth 10000 in
theorem uX8_count {N K : Nat} {X : gX} {d mc ms : Nat} {Q : Option Value → gM → Prop} {M : gM} {a0 : Nat} {x1 : Int32} {R : Int32 → Prop} (s0 : Ph M a0) (H : pX8_count N K M a0 x1 R) (hR : ∀ (v : Int32), R v → Q (some (.int v)) M) : Cn X d mc ms kX8_count [.ref a0, .int (x1)] M Q := by
  unfold pX8_count at H
  refine g_meth rfl rfl (Nat.le_of_ble_eq_true rfl) rfl ?_
  refine g_aload_n 0 1 dX8_count_0 rfl rfl ?_
  refine g_getR 4 (a0 + 1) dX8_count_1 rfl flX8_14 s0.1 s0.2.1 ?_
  refine g_getR 7 ((a0 + 1) + 1) dX8_count_4 rfl flX8_102 s0.2.2.1.1 s0.2.2.1.2.1 ?_
  refine g_astore_n 8 [(2, .ref ((a0 + 1) + 1)), (0, .ref a0), (1, .int (x1))] dX8_count_7 rfl (Nat.le_of_ble_eq_true rfl) rfl ?_
  refine g_iload_n 2 9 dX8_count_8 rfl rfl ?_
  by_cases c1 : x1 = 0
  · refine h_tabIn (0) 76 dX8_count_9 c1 (by decide) (by decide) rfl rfl ?_
    replace H := H.1 c1
    refine g_aload_n 0 77 dX8_count_76 rfl rfl ?_
    refine g_getI 80 dX8_count_77 rfl flX8_137 s0.2.2.1.2.2.1.1 ?_
    exact g_iret dX8_count_80 rfl (Nat.zero_le _) (Nat.zero_le _) (hR _ H)
  replace H := H.2 c1
  by_cases c2 : x1 = 1
  · refine h_tabIn (1) 81 dX8_count_9 c2 (by decide) (by decide) rfl rfl ?_
    replace H := H.1 c2
    refine g_aload_n 0 82 dX8_count_81 rfl rfl ?_
    refine g_getI 85 dX8_count_82 rfl flX8_119 s0.2.2.1.2.2.1.1 ?_
    exact g_iret dX8_count_85 rfl (Nat.zero_le _) (Nat.zero_le _) (hR _ H)
  replace H := H.2 c2
  by_cases c3 : x1 = 2
  · refine h_tabIn (2) 86 dX8_count_9 c3 (by decide) (by decide) rfl rfl ?_
    replace H := H.1 c3
    refine g_aload_n 0 87 dX8_count_86 rfl rfl ?_
    refine g_getI 90 dX8_count_87 rfl flX8_116 s0.2.2.1.2.2.1.1 ?_
    exact g_iret dX8_count_90 rfl (Nat.zero_le _) (Nat.zero_le _) (hR _ H)
  replace H := H.2 c3
  by_cases c4 : x1 = 3
  · refine h_tabIn (3) 91 dX8_count_9 c4 (by decide) (by decide) rfl rfl ?_
    replace H := H.1 c4
    refine g_aload_n 1 92 dX8_count_91 rfl rfl ?_
    refine g_getR 95 (a0 + 1) dX8_count_92 rfl flX8_14 s0.1 s0.2.1 ?_
    refine g_getI 98 dX8_count_95 rfl flX8_285 s0.2.2.1.1 ?_
    exact g_iret dX8_count_98 rfl (Nat.zero_le _) (Nat.zero_le _) (hR _ H)
  replace H := H.2 c4
  by_cases c5 : x1 = 4
  · refine h_tabIn (4) 99 dX8_count_9 c5 (by decide) (by decide) rfl rfl ?_
    replace H := H.1 c5
    refine g_aload_n 1 100 dX8_count_99 rfl rfl ?_
    refine g_getR 103 (a0 + 1) dX8_count_100 rfl flX8_14 s0.1 s0.2.1 ?_
    refine g_getI 106 dX8_count_103 rfl flX8_175 s0.2.2.1.1 ?_
    exact g_iret dX8_count_106 rfl (Nat.zero_le _) (Nat.zero_le _) (hR _ H)
  replace H := H.2 c5
  by_cases c6 : x1 = 5
  · refine h_tabIn (5) 107 dX8_count_9 c6 (by decide) (by decide) rfl rfl ?_
    replace H := H.1 c6
    refine g_aload_n 1 108 dX8_count_107 rfl rfl ?_
    refine g_getR 111 (a0 + 13) dX8_count_108 rfl flX8_25 s0.1 s0.2.2.2.2.2.1 ?_
    refine g_getI 114 dX8_count_111 rfl flX8_337 s0.2.2.2.2.2.2.1.1 ?_
    exact g_iret dX8_count_114 rfl (Nat.zero_le _) (Nat.zero_le _) (hR _ H)
  replace H := H.2 c6
  by_cases c7 : x1 = 6
  · refine h_tabIn (6) 115 dX8_count_9 c7 (by decide) (by decide) rfl rfl ?_
    replace H := H.1 c7
    refine g_aload_n 1 116 dX8_count_115 rfl rfl ?_
    refine g_getR 119 (a0 + 282) dX8_count_116 rfl flX8_61 s0.1 s0.2.2.2.2.2.2.2.2.2.2.2.2.2.2.2.2.2.1 ?_
    refine g_getI 122 dX8_count_119 rfl flX8_158 s0.2.2.2.2.2.2.2.2.2.2.2.2.2.2.2.2.2.2.1.1 ?_
    exact g_iret dX8_count_122 rfl (Nat.zero_le _) (Nat.zero_le _) (hR _ H)
  replace H := H.2 c7
  by_cases c8 : x1 = 7
  · refine h_tabIn (7) 131 dX8_count_9 c8 (by decide) (by decide) rfl rfl ?_
    replace H := H.1 c8
    refine g_iload_n 2 132 dX8_count_131 rfl rfl ?_
    refine g_bipush (7) 134 dX8_count_132 rfl rfl ?_
    refine g_icmp_lt 153 137 dX8_count_134 rfl rfl (fun c9 => ?_) (fun c9 => ?_)
    · skip
      replace H := H.1 c9
      refine g_iload_n 2 154 dX8_count_153 rfl rfl ?_
      refine g_bipush (13) 156 dX8_count_154 rfl rfl ?_
      refine g_icmp_lt 177 159 dX8_count_156 rfl rfl (fun c10 => ?_) (fun c10 => ?_)
      · skip
        replace H := H.1 c10
        refine g_iconst ((-1)) 178 dX8_count_177 rfl rfl ?_
        exact g_iret dX8_count_178 rfl (Nat.zero_le _) (Nat.zero_le _) (hR _ H)
      · skip
        replace H := H.2 c10
        refine g_iload_n 2 160 dX8_count_159 rfl rfl ?_
        refine g_bipush (15) 162 dX8_count_160 rfl rfl ?_
        refine g_icmp_gt 177 165 dX8_count_162 rfl rfl (fun c11 => ?_) (fun c11 => ?_)
        · skip
          replace H := H.1 c11
          refine g_iconst ((-1)) 178 dX8_count_177 rfl rfl ?_
          exact g_iret dX8_count_178 rfl (Nat.zero_le _) (Nat.zero_le _) (hR _ H)
        · skip
          replace H := H.2 c11
          refine g_aload_n 0 166 dX8_count_165 rfl rfl ?_
          refine g_getR 169 (((a0 + 1) + 1) + 2) dX8_count_166 rfl flX8_149 s0.2.2.1.2.2.1.1 s0.2.2.1.2.2.1.2.2.2.1 ?_
          refine g_iload_n 2 170 dX8_count_169 rfl rfl ?_
          refine g_bipush (13) 172 dX8_count_170 rfl rfl ?_
          refine g_isub 173 dX8_count_172 rfl ?_
          obtain ⟨b1, H⟩ := H
          refine h_iaload 174 ((x1 - 13)).toNatClampNeg dX8_count_173 rfl rfl s0.2.2.1.2.2.1.2.2.2.2.1 b1 ?_
          refine g_goto 178 dX8_count_174 rfl ?_
          exact g_iret dX8_count_178 rfl (Nat.zero_le _) (Nat.zero_le _) (hR _ H)
    · skip
      replace H := H.2 c9
      refine g_iload_n 2 138 dX8_count_137 rfl rfl ?_
      refine g_bipush (11) 140 dX8_count_138 rfl rfl ?_
      refine g_icmp_gt 153 143 dX8_count_140 rfl rfl (fun c12 => ?_) (fun c12 => ?_)
      · skip
        replace H := H.1 c12
        refine g_iload_n 2 154 dX8_count_153 rfl rfl ?_
        refine g_bipush (13) 156 dX8_count_154 rfl rfl ?_
        refine g_icmp_lt 177 159 dX8_count_156 rfl rfl (fun c13 => ?_) (fun c13 => ?_)
        · skip
          replace H := H.1 c13
          refine g_iconst ((-1)) 178 dX8_count_177 rfl rfl ?_
          exact g_iret dX8_count_178 rfl (Nat.zero_le _) (Nat.zero_le _) (hR _ H)
        · skip
          replace H := H.2 c13
          refine g_iload_n 2 160 dX8_count_159 rfl rfl ?_
          refine g_bipush (15) 162 dX8_count_160 rfl rfl ?_
          refine g_icmp_gt 177 165 dX8_count_162 rfl rfl (fun c14 => ?_) (fun c14 => ?_)
          · skip
            replace H := H.1 c14
            refine g_iconst ((-1)) 178 dX8_count_177 rfl rfl ?_
            exact g_iret dX8_count_178 rfl (Nat.zero_le _) (Nat.zero_le _) (hR _ H)
          · skip
            replace H := H.2 c14
            refine g_aload_n 0 166 dX8_count_165 rfl rfl ?_
            refine g_getR 169 (((a0 + 1) + 1) + 2) dX8_count_166 rfl flX8_149 s0.2.2.1.2.2.1.1 s0.2.2.1.2.2.1.2.2.2.1 ?_
            refine g_iload_n 2 170 dX8_count_169 rfl rfl ?_
            refine g_bipush (13) 172 dX8_count_170 rfl rfl ?_
            refine g_isub 173 dX8_count_172 rfl ?_
            obtain ⟨b2, H⟩ := H
            refine h_iaload 174 ((x1 - 13)).toNatClampNeg dX8_count_173 rfl rfl s0.2.2.1.2.2.1.2.2.2.2.1 b2 ?_
            refine g_goto 178 dX8_count_174 rfl ?_
            exact g_iret dX8_count_178 rfl (Nat.zero_le _) (Nat.zero_le _) (hR _ H)
      · skip
        replace H := H.2 c12
        refine g_aload_n 1 144 dX8_count_143 rfl rfl ?_
        refine g_getR 147 (a0 + 304) dX8_count_144 rfl flX8_78 s0.1 s0.2.2.2.2.2.2.2.2.2.2.2.2.2.2.2.2.2.2.2.2.2.2.2.1 ?_
        refine g_iload_n 2 148 dX8_count_147 rfl rfl ?_
        refine g_bipush (7) 150 dX8_count_148 rfl rfl ?_
        refine g_isub 151 dX8_count_150 rfl ?_
        obtain ⟨b3, H⟩ := H
        refine h_iaload 152 ((x1 - 7)).toNatClampNeg dX8_count_151 rfl rfl s0.2.2.2.2.2.2.2.2.2.2.2.2.2.2.2.2.2.2.2.2.2.2.2.2.1 b3 ?_
        exact g_iret dX8_count_152 rfl (Nat.zero_le _) (Nat.zero_le _) (hR _ H)
  replace H := H.2 c8
  by_cases c15 : x1 = 8
  · refine h_tabIn (8) 131 dX8_count_9 c15 (by decide) (by decide) rfl rfl ?_
    replace H := H.1 c15
    refine g_iload_n 2 132 dX8_count_131 rfl rfl ?_
    refine g_bipush (7) 134 dX8_count_132 rfl rfl ?_
    refine g_icmp_lt 153 137 dX8_count_134 rfl rfl (fun c16 => ?_) (fun c16 => ?_)
    · skip
      replace H := H.1 c16
      refine g_iload_n 2 154 dX8_count_153 rfl rfl ?_
      refine g_bipush (13) 156 dX8_count_154 rfl rfl ?_
      refine g_icmp_lt 177 159 dX8_count_156 rfl rfl (fun c17 => ?_) (fun c17 => ?_)
      · skip
        replace H := H.1 c17
        refine g_iconst ((-1)) 178 dX8_count_177 rfl rfl ?_
        exact g_iret dX8_count_178 rfl (Nat.zero_le _) (Nat.zero_le _) (hR _ H)
      · skip
        replace H := H.2 c17
        refine g_iload_n 2 160 dX8_count_159 rfl rfl ?_
        refine g_bipush (15) 162 dX8_count_160 rfl rfl ?_
        refine g_icmp_gt 177 165 dX8_count_162 rfl rfl (fun c18 => ?_) (fun c18 => ?_)
        · skip
          replace H := H.1 c18
          refine g_iconst ((-1)) 178 dX8_count_177 rfl rfl ?_
          exact g_iret dX8_count_178 rfl (Nat.zero_le _) (Nat.zero_le _) (hR _ H)
        · skip
          replace H := H.2 c18
          refine g_aload_n 0 166 dX8_count_165 rfl rfl ?_
          refine g_getR 169 (((a0 + 1) + 1) + 2) dX8_count_166 rfl flX8_149 s0.2.2.1.2.2.1.1 s0.2.2.1.2.2.1.2.2.2.1 ?_
          refine g_iload_n 2 170 dX8_count_169 rfl rfl ?_
          refine g_bipush (13) 172 dX8_count_170 rfl rfl ?_
          refine g_isub 173 dX8_count_172 rfl ?_
          obtain ⟨b4, H⟩ := H
          refine h_iaload 174 ((x1 - 13)).toNatClampNeg dX8_count_173 rfl rfl s0.2.2.1.2.2.1.2.2.2.2.1 b4 ?_
          refine g_goto 178 dX8_count_174 rfl ?_
          exact g_iret dX8_count_178 rfl (Nat.zero_le _) (Nat.zero_le _) (hR _ H)
    · skip
      replace H := H.2 c16
      refine g_iload_n 2 138 dX8_count_137 rfl rfl ?_
      refine g_bipush (11) 140 dX8_count_138 rfl rfl ?_
      refine g_icmp_gt 153 143 dX8_count_140 rfl rfl (fun c19 => ?_) (fun c19 => ?_)
      · skip
        replace H := H.1 c19
        refine g_iload_n 2 154 dX8_count_153 rfl rfl ?_
        refine g_bipush (13) 156 dX8_count_154 rfl rfl ?_
        refine g_icmp_lt 177 159 dX8_count_156 rfl rfl (fun c20 => ?_) (fun c20 => ?_)
        · skip
          replace H := H.1 c20
          refine g_iconst ((-1)) 178 dX8_count_177 rfl rfl ?_
          exact g_iret dX8_count_178 rfl (Nat.zero_le _) (Nat.zero_le _) (hR _ H)
        · skip
          replace H := H.2 c20
          refine g_iload_n 2 160 dX8_count_159 rfl rfl ?_
          refine g_bipush (15) 162 dX8_count_160 rfl rfl ?_
          refine g_icmp_gt 177 165 dX8_count_162 rfl rfl (fun c21 => ?_) (fun c21 => ?_)
          · skip
            replace H := H.1 c21
            refine g_iconst ((-1)) 178 dX8_count_177 rfl rfl ?_
            exact g_iret dX8_count_178 rfl (Nat.zero_le _) (Nat.zero_le _) (hR _ H)
          · skip
            replace H := H.2 c21
            refine g_aload_n 0 166 dX8_count_165 rfl rfl ?_
            refine g_getR 169 (((a0 + 1) + 1) + 2) dX8_count_166 rfl flX8_149 s0.2.2.1.2.2.1.1 s0.2.2.1.2.2.1.2.2.2.1 ?_
            refine g_iload_n 2 170 dX8_count_169 rfl rfl ?_
            refine g_bipush (13) 172 dX8_count_170 rfl rfl ?_
            refine g_isub 173 dX8_count_172 rfl ?_
            obtain ⟨b5, H⟩ := H
            refine h_iaload 174 ((x1 - 13)).toNatClampNeg dX8_count_173 rfl rfl s0.2.2.1.2.2.1.2.2.2.2.1 b5 ?_
            refine g_goto 178 dX8_count_174 rfl ?_
            exact g_iret dX8_count_178 rfl (Nat.zero_le _) (Nat.zero_le _) (hR _ H)
      · skip
        replace H := H.2 c19
        refine g_aload_n 1 144 dX8_count_143 rfl rfl ?_
        refine g_getR 147 (a0 + 304) dX8_count_144 rfl flX8_78 s0.1 s0.2.2.2.2.2.2.2.2.2.2.2.2.2.2.2.2.2.2.2.2.2.2.2.1 ?_
        refine g_iload_n 2 148 dX8_count_147 rfl rfl ?_
        refine g_bipush (7) 150 dX8_count_148 rfl rfl ?_
        refine g_isub 151 dX8_count_150 rfl ?_
        obtain ⟨b6, H⟩ := H
        refine h_iaload 152 ((x1 - 7)).toNatClampNeg dX8_count_151 rfl rfl s0.2.2.2.2.2.2.2.2.2.2.2.2.2.2.2.2.2.2.2.2.2.2.2.2.1 b6 ?_
        exact g_iret dX8_count_152 rfl (Nat.zero_le _) (Nat.zero_le _) (hR _ H)
  replace H := H.2 c15
  by_cases c22 : x1 = 9
  · refine h_tabIn (9) 131 dX8_count_9 c22 (by decide) (by decide) rfl rfl ?_
    replace H := H.1 c22
    refine g_iload_n 2 132 dX8_count_131 rfl rfl ?_
    refine g_bipush (7) 134 dX8_count_132 rfl rfl ?_
    refine g_icmp_lt 153 137 dX8_count_134 rfl rfl (fun c23 => ?_) (fun c23 => ?_)
    · skip
      replace H := H.1 c23
      refine g_iload_n 2 154 dX8_count_153 rfl rfl ?_
      refine g_bipush (13) 156 dX8_count_154 rfl rfl ?_
      refine g_icmp_lt 177 159 dX8_count_156 rfl rfl (fun c24 => ?_) (fun c24 => ?_)
      · skip
        replace H := H.1 c24
        refine g_iconst ((-1)) 178 dX8_count_177 rfl rfl ?_
        exact g_iret dX8_count_178 rfl (Nat.zero_le _) (Nat.zero_le _) (hR _ H)
      · skip
        replace H := H.2 c24
        refine g_iload_n 2 160 dX8_count_159 rfl rfl ?_
        refine g_bipush (15) 162 dX8_count_160 rfl rfl ?_
        refine g_icmp_gt 177 165 dX8_count_162 rfl rfl (fun c25 => ?_) (fun c25 => ?_)
        · skip
          replace H := H.1 c25
          refine g_iconst ((-1)) 178 dX8_count_177 rfl rfl ?_
          exact g_iret dX8_count_178 rfl (Nat.zero_le _) (Nat.zero_le _) (hR _ H)
        · skip
          replace H := H.2 c25
          refine g_aload_n 0 166 dX8_count_165 rfl rfl ?_
          refine g_getR 169 (((a0 + 1) + 1) + 2) dX8_count_166 rfl flX8_149 s0.2.2.1.2.2.1.1 s0.2.2.1.2.2.1.2.2.2.1 ?_
          refine g_iload_n 2 170 dX8_count_169 rfl rfl ?_
          refine g_bipush (13) 172 dX8_count_170 rfl rfl ?_
          refine g_isub 173 dX8_count_172 rfl ?_
          obtain ⟨b7, H⟩ := H
          refine h_iaload 174 ((x1 - 13)).toNatClampNeg dX8_count_173 rfl rfl s0.2.2.1.2.2.1.2.2.2.2.1 b7 ?_
          refine g_goto 178 dX8_count_174 rfl ?_
          exact g_iret dX8_count_178 rfl (Nat.zero_le _) (Nat.zero_le _) (hR _ H)
    · skip
      replace H := H.2 c23
      refine g_iload_n 2 138 dX8_count_137 rfl rfl ?_
      refine g_bipush (11) 140 dX8_count_138 rfl rfl ?_
      refine g_icmp_gt 153 143 dX8_count_140 rfl rfl (fun c26 => ?_) (fun c26 => ?_)
      · skip
        replace H := H.1 c26
        refine g_iload_n 2 154 dX8_count_153 rfl rfl ?_
        refine g_bipush (13) 156 dX8_count_154 rfl rfl ?_
        refine g_icmp_lt 177 159 dX8_count_156 rfl rfl (fun c27 => ?_) (fun c27 => ?_)
        · skip
          replace H := H.1 c27
          refine g_iconst ((-1)) 178 dX8_count_177 rfl rfl ?_
          exact g_iret dX8_count_178 rfl (Nat.zero_le _) (Nat.zero_le _) (hR _ H)
        · skip
          replace H := H.2 c27
          refine g_iload_n 2 160 dX8_count_159 rfl rfl ?_
          refine g_bipush (15) 162 dX8_count_160 rfl rfl ?_
          refine g_icmp_gt 177 165 dX8_count_162 rfl rfl (fun c28 => ?_) (fun c28 => ?_)
          · skip
            replace H := H.1 c28
            refine g_iconst ((-1)) 178 dX8_count_177 rfl rfl ?_
            exact g_iret dX8_count_178 rfl (Nat.zero_le _) (Nat.zero_le _) (hR _ H)
          · skip
            replace H := H.2 c28
            refine g_aload_n 0 166 dX8_count_165 rfl rfl ?_
            refine g_getR 169 (((a0 + 1) + 1) + 2) dX8_count_166 rfl flX8_149 s0.2.2.1.2.2.1.1 s0.2.2.1.2.2.1.2.2.2.1 ?_
            refine g_iload_n 2 170 dX8_count_169 rfl rfl ?_
            refine g_bipush (13) 172 dX8_count_170 rfl rfl ?_
            refine g_isub 173 dX8_count_172 rfl ?_
            obtain ⟨b8, H⟩ := H
            refine h_iaload 174 ((x1 - 13)).toNatClampNeg dX8_count_173 rfl rfl s0.2.2.1.2.2.1.2.2.2.2.1 b8 ?_
            refine g_goto 178 dX8_count_174 rfl ?_
            exact g_iret dX8_count_178 rfl (Nat.zero_le _) (Nat.zero_le _) (hR _ H)
      · skip
        replace H := H.2 c26
        refine g_aload_n 1 144 dX8_count_143 rfl rfl ?_
        refine g_getR 147 (a0 + 304) dX8_count_144 rfl flX8_78 s0.1 s0.2.2.2.2.2.2.2.2.2.2.2.2.2.2.2.2.2.2.2.2.2.2.2.1 ?_
        refine g_iload_n 2 148 dX8_count_147 rfl rfl ?_
        refine g_bipush (7) 150 dX8_count_148 rfl rfl ?_
        refine g_isub 151 dX8_count_150 rfl ?_
        obtain ⟨b9, H⟩ := H
        refine h_iaload 152 ((x1 - 7)).toNatClampNeg dX8_count_151 rfl rfl s0.2.2.2.2.2.2.2.2.2.2.2.2.2.2.2.2.2.2.2.2.2.2.2.2.1 b9 ?_
        exact g_iret dX8_count_152 rfl (Nat.zero_le _) (Nat.zero_le _) (hR _ H)
  replace H := H.2 c22
  by_cases c29 : x1 = 10
  · refine h_tabIn (10) 131 dX8_count_9 c29 (by decide) (by decide) rfl rfl ?_
    replace H := H.1 c29
    refine g_iload_n 2 132 dX8_count_131 rfl rfl ?_
    refine g_bipush (7) 134 dX8_count_132 rfl rfl ?_
    refine g_icmp_lt 153 137 dX8_count_134 rfl rfl (fun c30 => ?_) (fun c30 => ?_)
    · skip
      replace H := H.1 c30
      refine g_iload_n 2 154 dX8_count_153 rfl rfl ?_
      refine g_bipush (13) 156 dX8_count_154 rfl rfl ?_
      refine g_icmp_lt 177 159 dX8_count_156 rfl rfl (fun c31 => ?_) (fun c31 => ?_)
      · skip
        replace H := H.1 c31
        refine g_iconst ((-1)) 178 dX8_count_177 rfl rfl ?_
        exact g_iret dX8_count_178 rfl (Nat.zero_le _) (Nat.zero_le _) (hR _ H)
      · skip
        replace H := H.2 c31
        refine g_iload_n 2 160 dX8_count_159 rfl rfl ?_
        refine g_bipush (15) 162 dX8_count_160 rfl rfl ?_
        refine g_icmp_gt 177 165 dX8_count_162 rfl rfl (fun c32 => ?_) (fun c32 => ?_)
        · skip
          replace H := H.1 c32
          refine g_iconst ((-1)) 178 dX8_count_177 rfl rfl ?_
          exact g_iret dX8_count_178 rfl (Nat.zero_le _) (Nat.zero_le _) (hR _ H)
        · skip
          replace H := H.2 c32
          refine g_aload_n 0 166 dX8_count_165 rfl rfl ?_
          refine g_getR 169 (((a0 + 1) + 1) + 2) dX8_count_166 rfl flX8_149 s0.2.2.1.2.2.1.1 s0.2.2.1.2.2.1.2.2.2.1 ?_
          refine g_iload_n 2 170 dX8_count_169 rfl rfl ?_
          refine g_bipush (13) 172 dX8_count_170 rfl rfl ?_
          refine g_isub 173 dX8_count_172 rfl ?_
          obtain ⟨b10, H⟩ := H
          refine h_iaload 174 ((x1 - 13)).toNatClampNeg dX8_count_173 rfl rfl s0.2.2.1.2.2.1.2.2.2.2.1 b10 ?_
          refine g_goto 178 dX8_count_174 rfl ?_
          exact g_iret dX8_count_178 rfl (Nat.zero_le _) (Nat.zero_le _) (hR _ H)
    · skip
      replace H := H.2 c30
      refine g_iload_n 2 138 dX8_count_137 rfl rfl ?_
      refine g_bipush (11) 140 dX8_count_138 rfl rfl ?_
      refine g_icmp_gt 153 143 dX8_count_140 rfl rfl (fun c33 => ?_) (fun c33 => ?_)
      · skip
        replace H := H.1 c33
        refine g_iload_n 2 154 dX8_count_153 rfl rfl ?_
        refine g_bipush (13) 156 dX8_count_154 rfl rfl ?_
        refine g_icmp_lt 177 159 dX8_count_156 rfl rfl (fun c34 => ?_) (fun c34 => ?_)
        · skip
          replace H := H.1 c34
          refine g_iconst ((-1)) 178 dX8_count_177 rfl rfl ?_
          exact g_iret dX8_count_178 rfl (Nat.zero_le _) (Nat.zero_le _) (hR _ H)
        · skip
          replace H := H.2 c34
          refine g_iload_n 2 160 dX8_count_159 rfl rfl ?_
          refine g_bipush (15) 162 dX8_count_160 rfl rfl ?_
          refine g_icmp_gt 177 165 dX8_count_162 rfl rfl (fun c35 => ?_) (fun c35 => ?_)
          · skip
            replace H := H.1 c35
            refine g_iconst ((-1)) 178 dX8_count_177 rfl rfl ?_
            exact g_iret dX8_count_178 rfl (Nat.zero_le _) (Nat.zero_le _) (hR _ H)
          · skip
            replace H := H.2 c35
            refine g_aload_n 0 166 dX8_count_165 rfl rfl ?_
            refine g_getR 169 (((a0 + 1) + 1) + 2) dX8_count_166 rfl flX8_149 s0.2.2.1.2.2.1.1 s0.2.2.1.2.2.1.2.2.2.1 ?_
            refine g_iload_n 2 170 dX8_count_169 rfl rfl ?_
            refine g_bipush (13) 172 dX8_count_170 rfl rfl ?_
            refine g_isub 173 dX8_count_172 rfl ?_
            obtain ⟨b11, H⟩ := H
            refine h_iaload 174 ((x1 - 13)).toNatClampNeg dX8_count_173 rfl rfl s0.2.2.1.2.2.1.2.2.2.2.1 b11 ?_
            refine g_goto 178 dX8_count_174 rfl ?_
            exact g_iret dX8_count_178 rfl (Nat.zero_le _) (Nat.zero_le _) (hR _ H)
      · skip
        replace H := H.2 c33
        refine g_aload_n 1 144 dX8_count_143 rfl rfl ?_
        refine g_getR 147 (a0 + 304) dX8_count_144 rfl flX8_78 s0.1 s0.2.2.2.2.2.2.2.2.2.2.2.2.2.2.2.2.2.2.2.2.2.2.2.1 ?_
        refine g_iload_n 2 148 dX8_count_147 rfl rfl ?_
        refine g_bipush (7) 150 dX8_count_148 rfl rfl ?_
        refine g_isub 151 dX8_count_150 rfl ?_
        obtain ⟨b12, H⟩ := H
        refine h_iaload 152 ((x1 - 7)).toNatClampNeg dX8_count_151 rfl rfl s0.2.2.2.2.2.2.2.2.2.2.2.2.2.2.2.2.2.2.2.2.2.2.2.2.1 b12 ?_
        exact g_iret dX8_count_152 rfl (Nat.zero_le _) (Nat.zero_le _) (hR _ H)
  replace H := H.2 c29
  by_cases c36 : x1 = 11
  · refine h_tabIn (11) 131 dX8_count_9 c36 (by decide) (by decide) rfl rfl ?_
    replace H := H.1 c36
    refine g_iload_n 2 132 dX8_count_131 rfl rfl ?_
    refine g_bipush (7) 134 dX8_count_132 rfl rfl ?_
    refine g_icmp_lt 153 137 dX8_count_134 rfl rfl (fun c37 => ?_) (fun c37 => ?_)
    · skip
      replace H := H.1 c37
      refine g_iload_n 2 154 dX8_count_153 rfl rfl ?_
      refine g_bipush (13) 156 dX8_count_154 rfl rfl ?_
      refine g_icmp_lt 177 159 dX8_count_156 rfl rfl (fun c38 => ?_) (fun c38 => ?_)
      · skip
        replace H := H.1 c38
        refine g_iconst ((-1)) 178 dX8_count_177 rfl rfl ?_
        exact g_iret dX8_count_178 rfl (Nat.zero_le _) (Nat.zero_le _) (hR _ H)
      · skip
        replace H := H.2 c38
        refine g_iload_n 2 160 dX8_count_159 rfl rfl ?_
        refine g_bipush (15) 162 dX8_count_160 rfl rfl ?_
        refine g_icmp_gt 177 165 dX8_count_162 rfl rfl (fun c39 => ?_) (fun c39 => ?_)
        · skip
          replace H := H.1 c39
          refine g_iconst ((-1)) 178 dX8_count_177 rfl rfl ?_
          exact g_iret dX8_count_178 rfl (Nat.zero_le _) (Nat.zero_le _) (hR _ H)
        · skip
          replace H := H.2 c39
          refine g_aload_n 0 166 dX8_count_165 rfl rfl ?_
          refine g_getR 169 (((a0 + 1) + 1) + 2) dX8_count_166 rfl flX8_149 s0.2.2.1.2.2.1.1 s0.2.2.1.2.2.1.2.2.2.1 ?_
          refine g_iload_n 2 170 dX8_count_169 rfl rfl ?_
          refine g_bipush (13) 172 dX8_count_170 rfl rfl ?_
          refine g_isub 173 dX8_count_172 rfl ?_
          obtain ⟨b13, H⟩ := H
          refine h_iaload 174 ((x1 - 13)).toNatClampNeg dX8_count_173 rfl rfl s0.2.2.1.2.2.1.2.2.2.2.1 b13 ?_
          refine g_goto 178 dX8_count_174 rfl ?_
          exact g_iret dX8_count_178 rfl (Nat.zero_le _) (Nat.zero_le _) (hR _ H)
    · skip
      replace H := H.2 c37
      refine g_iload_n 2 138 dX8_count_137 rfl rfl ?_
      refine g_bipush (11) 140 dX8_count_138 rfl rfl ?_
      refine g_icmp_gt 153 143 dX8_count_140 rfl rfl (fun c40 => ?_) (fun c40 => ?_)
      · skip
        replace H := H.1 c40
        refine g_iload_n 2 154 dX8_count_153 rfl rfl ?_
        refine g_bipush (13) 156 dX8_count_154 rfl rfl ?_
        refine g_icmp_lt 177 159 dX8_count_156 rfl rfl (fun c41 => ?_) (fun c41 => ?_)
        · skip
          replace H := H.1 c41
          refine g_iconst ((-1)) 178 dX8_count_177 rfl rfl ?_
          exact g_iret dX8_count_178 rfl (Nat.zero_le _) (Nat.zero_le _) (hR _ H)
        · skip
          replace H := H.2 c41
          refine g_iload_n 2 160 dX8_count_159 rfl rfl ?_
          refine g_bipush (15) 162 dX8_count_160 rfl rfl ?_
          refine g_icmp_gt 177 165 dX8_count_162 rfl rfl (fun c42 => ?_) (fun c42 => ?_)
          · skip
            replace H := H.1 c42
            refine g_iconst ((-1)) 178 dX8_count_177 rfl rfl ?_
            exact g_iret dX8_count_178 rfl (Nat.zero_le _) (Nat.zero_le _) (hR _ H)
          · skip
            replace H := H.2 c42
            refine g_aload_n 0 166 dX8_count_165 rfl rfl ?_
            refine g_getR 169 (((a0 + 1) + 1) + 2) dX8_count_166 rfl flX8_149 s0.2.2.1.2.2.1.1 s0.2.2.1.2.2.1.2.2.2.1 ?_
            refine g_iload_n 2 170 dX8_count_169 rfl rfl ?_
            refine g_bipush (13) 172 dX8_count_170 rfl rfl ?_
            refine g_isub 173 dX8_count_172 rfl ?_
            obtain ⟨b14, H⟩ := H
            refine h_iaload 174 ((x1 - 13)).toNatClampNeg dX8_count_173 rfl rfl s0.2.2.1.2.2.1.2.2.2.2.1 b14 ?_
            refine g_goto 178 dX8_count_174 rfl ?_
            exact g_iret dX8_count_178 rfl (Nat.zero_le _) (Nat.zero_le _) (hR _ H)
      · skip
        replace H := H.2 c40
        refine g_aload_n 1 144 dX8_count_143 rfl rfl ?_
        refine g_getR 147 (a0 + 304) dX8_count_144 rfl flX8_78 s0.1 s0.2.2.2.2.2.2.2.2.2.2.2.2.2.2.2.2.2.2.2.2.2.2.2.1 ?_
        refine g_iload_n 2 148 dX8_count_147 rfl rfl ?_
        refine g_bipush (7) 150 dX8_count_148 rfl rfl ?_
        refine g_isub 151 dX8_count_150 rfl ?_
        obtain ⟨b15, H⟩ := H
        refine h_iaload 152 ((x1 - 7)).toNatClampNeg dX8_count_151 rfl rfl s0.2.2.2.2.2.2.2.2.2.2.2.2.2.2.2.2.2.2.2.2.2.2.2.2.1 b15 ?_
        exact g_iret dX8_count_152 rfl (Nat.zero_le _) (Nat.zero_le _) (hR _ H)
  replace H := H.2 c36
  by_cases c43 : x1 = 12
  · refine h_tabIn (12) 123 dX8_count_9 c43 (by decide) (by decide) rfl rfl ?_
    replace H := H.1 c43
    refine g_aload_n 1 124 dX8_count_123 rfl rfl ?_
    refine g_getR 127 (a0 + 1) dX8_count_124 rfl flX8_14 s0.1 s0.2.1 ?_
    refine g_getI 130 dX8_count_127 rfl flX8_215 s0.2.2.1.1 ?_
    exact g_iret dX8_count_130 rfl (Nat.zero_le _) (Nat.zero_le _) (hR _ H)
  replace H := H.2 c43
  have tc1 := i_neT c1
  rw [show ((0 : Int32)).toInt = 0 from rfl] at tc1
  have tc2 := i_neT c2
  rw [show ((1 : Int32)).toInt = 1 from rfl] at tc2
  have tc3 := i_neT c3
  rw [show ((2 : Int32)).toInt = 2 from rfl] at tc3
  have tc4 := i_neT c4
  rw [show ((3 : Int32)).toInt = 3 from rfl] at tc4
  have tc5 := i_neT c5
  rw [show ((4 : Int32)).toInt = 4 from rfl] at tc5
  have tc6 := i_neT c6
  rw [show ((5 : Int32)).toInt = 5 from rfl] at tc6
  have tc7 := i_neT c7
  rw [show ((6 : Int32)).toInt = 6 from rfl] at tc7
  have tc8 := i_neT c8
  rw [show ((7 : Int32)).toInt = 7 from rfl] at tc8
  have tc15 := i_neT c15
  rw [show ((8 : Int32)).toInt = 8 from rfl] at tc15
  have tc22 := i_neT c22
  rw [show ((9 : Int32)).toInt = 9 from rfl] at tc22
  have tc29 := i_neT c29
  rw [show ((10 : Int32)).toInt = 10 from rfl] at tc29
  have tc36 := i_neT c36
  rw [show ((11 : Int32)).toInt = 11 from rfl] at tc36
  have tc43 := i_neT c43
  rw [show ((12 : Int32)).toInt = 12 from rfl] at tc43
  refine g_tableOut 131 dX8_count_9 (by omega) rfl ?_
  refine g_iload_n 2 132 dX8_count_131 rfl rfl ?_
  refine g_bipush (7) 134 dX8_count_132 rfl rfl ?_
  refine g_icmp_lt 153 137 dX8_count_134 rfl rfl (fun c44 => ?_) (fun c44 => ?_)
  · skip
    replace H := H.1 c44
    refine g_iload_n 2 154 dX8_count_153 rfl rfl ?_
    refine g_bipush (13) 156 dX8_count_154 rfl rfl ?_
    refine g_icmp_lt 177 159 dX8_count_156 rfl rfl (fun c45 => ?_) (fun c45 => ?_)
    · skip
      replace H := H.1 c45
      refine g_iconst ((-1)) 178 dX8_count_177 rfl rfl ?_
      exact g_iret dX8_count_178 rfl (Nat.zero_le _) (Nat.zero_le _) (hR _ H)
    · skip
      replace H := H.2 c45
      refine g_iload_n 2 160 dX8_count_159 rfl rfl ?_
      refine g_bipush (15) 162 dX8_count_160 rfl rfl ?_
      refine g_icmp_gt 177 165 dX8_count_162 rfl rfl (fun c46 => ?_) (fun c46 => ?_)
      · skip
        replace H := H.1 c46
        refine g_iconst ((-1)) 178 dX8_count_177 rfl rfl ?_
        exact g_iret dX8_count_178 rfl (Nat.zero_le _) (Nat.zero_le _) (hR _ H)
      · skip
        replace H := H.2 c46
        refine g_aload_n 0 166 dX8_count_165 rfl rfl ?_
        refine g_getR 169 (((a0 + 1) + 1) + 2) dX8_count_166 rfl flX8_149 s0.2.2.1.2.2.1.1 s0.2.2.1.2.2.1.2.2.2.1 ?_
        refine g_iload_n 2 170 dX8_count_169 rfl rfl ?_
        refine g_bipush (13) 172 dX8_count_170 rfl rfl ?_
        refine g_isub 173 dX8_count_172 rfl ?_
        obtain ⟨b16, H⟩ := H
        refine h_iaload 174 ((x1 - 13)).toNatClampNeg dX8_count_173 rfl rfl s0.2.2.1.2.2.1.2.2.2.2.1 b16 ?_
        refine g_goto 178 dX8_count_174 rfl ?_
        exact g_iret dX8_count_178 rfl (Nat.zero_le _) (Nat.zero_le _) (hR _ H)
  · skip
    replace H := H.2 c44
    refine g_iload_n 2 138 dX8_count_137 rfl rfl ?_
    refine g_bipush (11) 140 dX8_count_138 rfl rfl ?_
    refine g_icmp_gt 153 143 dX8_count_140 rfl rfl (fun c47 => ?_) (fun c47 => ?_)
    · skip
      replace H := H.1 c47
      refine g_iload_n 2 154 dX8_count_153 rfl rfl ?_
      refine g_bipush (13) 156 dX8_count_154 rfl rfl ?_
      refine g_icmp_lt 177 159 dX8_count_156 rfl rfl (fun c48 => ?_) (fun c48 => ?_)
      · skip
        replace H := H.1 c48
        refine g_iconst ((-1)) 178 dX8_count_177 rfl rfl ?_
        exact g_iret dX8_count_178 rfl (Nat.zero_le _) (Nat.zero_le _) (hR _ H)
      · skip
        replace H := H.2 c48
        refine g_iload_n 2 160 dX8_count_159 rfl rfl ?_
        refine g_bipush (15) 162 dX8_count_160 rfl rfl ?_
        refine g_icmp_gt 177 165 dX8_count_162 rfl rfl (fun c49 => ?_) (fun c49 => ?_)
        · skip
          replace H := H.1 c49
          refine g_iconst ((-1)) 178 dX8_count_177 rfl rfl ?_
          exact g_iret dX8_count_178 rfl (Nat.zero_le _) (Nat.zero_le _) (hR _ H)
        · skip
          replace H := H.2 c49
          refine g_aload_n 0 166 dX8_count_165 rfl rfl ?_
          refine g_getR 169 (((a0 + 1) + 1) + 2) dX8_count_166 rfl flX8_149 s0.2.2.1.2.2.1.1 s0.2.2.1.2.2.1.2.2.2.1 ?_
          refine g_iload_n 2 170 dX8_count_169 rfl rfl ?_
          refine g_bipush (13) 172 dX8_count_170 rfl rfl ?_
          refine g_isub 173 dX8_count_172 rfl ?_
          obtain ⟨b17, H⟩ := H
          refine h_iaload 174 ((x1 - 13)).toNatClampNeg dX8_count_173 rfl rfl s0.2.2.1.2.2.1.2.2.2.2.1 b17 ?_
          refine g_goto 178 dX8_count_174 rfl ?_
          exact g_iret dX8_count_178 rfl (Nat.zero_le _) (Nat.zero_le _) (hR _ H)
    · skip
      replace H := H.2 c47
      refine g_aload_n 1 144 dX8_count_143 rfl rfl ?_
      refine g_getR 147 (a0 + 304) dX8_count_144 rfl flX8_78 s0.1 s0.2.2.2.2.2.2.2.2.2.2.2.2.2.2.2.2.2.2.2.2.2.2.2.1 ?_
      refine g_iload_n 2 148 dX8_count_147 rfl rfl ?_
      refine g_bipush (7) 150 dX8_count_148 rfl rfl ?_
      refine g_isub 151 dX8_count_150 rfl ?_
      obtain ⟨b18, H⟩ := H
      refine h_iaload 152 ((x1 - 7)).toNatClampNeg dX8_count_151 rfl rfl s0.2.2.2.2.2.2.2.2.2.2.2.2.2.2.2.2.2.2.2.2.2.2.2.2.1 b18 ?_
      exact g_iret dX8_count_152 rfl (Nat.zero_le _) (Nat.zero_le _) (hR _ H)
/-! X8_status -/
def pX8_status (N K : Nat) (M : gM) (a0 : Nat) (R : Int32 → Prop) : Prop := R (g_mi M a0 16)
set_option maxRecDepth 10000 in
theorem uX8_status {N K : Nat} {X : gX} {d mc ms : Nat} {Q : Option Value → gM → Prop} {M : gM} {a0 : Nat} {R : Int32 → Prop} (s0 : Ph M a0) (H : pX8_status N K M a0 R) (hR : ∀ (v : Int32), R v → Q (some (.int v)) M) : Cn X d mc ms kX8_status [.ref a0] M Q := by
  unfold pX8_status at H
  refine g_meth rfl rfl (Nat.le_of_ble_eq_true rfl) rfl ?_
  refine g_aload_n 0 1 dX8_status_0 rfl rfl ?_
  refine g_getI 4 dX8_status_1 rfl flX8_338 s0.1 ?_
  exact g_iret dX8_status_4 rfl (Nat.zero_le _) (Nat.zero_le _) (hR _ H)
/-! X8_tellOrders -/
def pX8_tellOrders_0 (N K : Nat) (kp : Nat → gM → Nat → Nat → Nat → Nat → Int32 → Prop) (R : gM → Prop) (M : gM) (a0 : Nat) (x1 : Int32) (x2 : Int32) : Prop := ∀ M1 : gM, M1 = (g_wi M ((a0 + 271) + 1) 6 (g_mi M (((a0 + 1) + 1) + 2) 0)) → ∀ M2 : gM, M2 = (g_wi M1 ((a0 + 271) + 1) 7 x1) → ∀ M3 : gM, M3 = (g_wi M2 ((a0 + 271) + 1) 8 x2) → ∀ M4 : gM, M4 = (g_wi M3 ((a0 + 271) + 1) 9 (g_mi M3 ((a0 + 1) + 1) 3)) → kp 0 M4 a0 ((a0 + 1) + 1) ((a0 + 271) + 1) 60 0
def pX8_tellOrders_52 (N K : Nat) (kp : Nat → gM → Nat → Nat → Nat → Nat → Int32 → Prop) (R : gM → Prop) (M : gM) (a0 : Nat) (a3 : Nat) (a4 : Nat) (n4 : Nat) (x5 : Int32) : Prop := (((g_mi M (a0 + 282) 4) ≤ x5 → R M) ∧ (¬ (g_mi M (a0 + 282) 4) ≤ x5 → (vp_in (x5) 50) ∧ (((g_mi M ((a0 + 282) + 10) (x5).toNatClampNeg) = 0 → pX5_numberOf N K M (a3 + 3) (g_mi M ((a0 + 282) + 9) (x5).toNatClampNeg) (fun v1 => (vp_in ((10 + x5)) n4) ∧ ∀ M1 : gM, M1 = (g_wi M a4 ((10 + x5)).toNatClampNeg v1) → kp 0 M1 a0 a3 a4 n4 (x5 + 1))) ∧ (¬ (g_mi M ((a0 + 282) + 10) (x5).toNatClampNeg) = 0 → (EX3_degreeOf N M a3 (g_mi M ((a0 + 282) + 9) (x5).toNatClampNeg)) ∧ ∀ v2 : Int32, v2 = (fX3_degreeOf N M a3 (g_mi M ((a0 + 282) + 9) (x5).toNatClampNeg)) → (vp_in ((10 + x5)) n4) ∧ ∀ M2 : gM, M2 = (g_wi M a4 ((10 + x5)).toNatClampNeg v2) → kp 0 M2 a0 a3 a4 n4 (x5 + 1)))))
def qX8_tellOrders (N K : Nat) (R : gM → Prop) : Nat → Nat → gM → Nat → Nat → Nat → Nat → Int32 → Prop
  | 0, _, _, _, _, _, _, _ => False
  | n + 1, _, M, a0, a3, a4, n4, x5 => pX8_tellOrders_52 N K (qX8_tellOrders N K R n) R M a0 a3 a4 n4 x5
def pX8_tellOrders (N K : Nat) (M : gM) (a0 : Nat) (x1 : Int32) (x2 : Int32) (R : gM → Prop) : Prop := pX8_tellOrders_0 N K (qX8_tellOrders N K R N) R M a0 x1 x2
def ULX8_tellOrders (X : gX) (d mc ms : Nat) (Q : Option Value → gM → Prop) (N K : Nat) (R : gM → Prop) (n : Nat) : Prop := (∀ (M : gM) (a0 : Nat) (a3 : Nat) (a4 : Nat) (n4 : Nat) (x5 : Int32), Ph M a0 → St M a3 → g_kd M a4 = some (100, n4) → qX8_tellOrders N K R n 0 M a0 a3 a4 n4 x5 → (∀ (M1 : gM), Sm M M1 → R M1 → Q none M1) → Go X (d + 3) mc ms kX8_tellOrders Q 52 [(0, .ref a0), (3, .ref a3), (4, .ref a4), (5, .int (x5))] [] M 0 0)
set_option maxRecDepth 10000 in
theorem ulX8_tellOrders {X : gX} {d mc ms : Nat} {Q : Option Value → gM → Prop} {N K : Nat} {R : gM → Prop} : ∀ n : Nat, ULX8_tellOrders X d mc ms Q N K R n := by
  intro n
  induction n with
  | zero => exact fun _ _ _ _ _ _ _ _ _ h _ => h.elim
  | succ n ih =>
    intro M a0 a3 a4 n4 x5 s0 s3 s4 H hR
    rw [qX8_tellOrders] at H
    unfold pX8_tellOrders_52 at H
    refine g_iload 3 54 dX8_tellOrders_52 rfl rfl ?_
    refine g_aload_n 0 55 dX8_tellOrders_54 rfl rfl ?_
    refine g_getR 58 (a0 + 282) dX8_tellOrders_55 rfl flX8_61 s0.1 s0.2.2.2.2.2.2.2.2.2.2.2.2.2.2.2.2.2.1 ?_
    refine g_getI 61 dX8_tellOrders_58 rfl flX8_387 s0.2.2.2.2.2.2.2.2.2.2.2.2.2.2.2.2.2.2.1.1 ?_
    refine g_icmp_ge 121 64 dX8_tellOrders_61 rfl rfl (fun c1 => ?_) (fun c1 => ?_)
    · skip
      replace H := H.1 c1
      exact g_vret dX8_tellOrders_121 rfl (Nat.zero_le _) (Nat.zero_le _) (hR _ Sm.rf H)
    · skip
      replace H := H.2 c1
      refine g_aload_n 0 65 dX8_tellOrders_64 rfl rfl ?_
      refine g_getR 68 (a0 + 282) dX8_tellOrders_65 rfl flX8_61 s0.1 s0.2.2.2.2.2.2.2.2.2.2.2.2.2.2.2.2.2.1 ?_
      refine g_getR 71 ((a0 + 282) + 9) dX8_tellOrders_68 rfl flX8_390 s0.2.2.2.2.2.2.2.2.2.2.2.2.2.2.2.2.2.2.1.1 s0.2.2.2.2.2.2.2.2.2.2.2.2.2.2.2.2.2.2.1.2.2.2.2.2.1 ?_
      refine g_iload 3 73 dX8_tellOrders_71 rfl rfl ?_
      obtain ⟨b1, H⟩ := H
      refine h_iaload 74 (x5).toNatClampNeg dX8_tellOrders_73 rfl rfl s0.2.2.2.2.2.2.2.2.2.2.2.2.2.2.2.2.2.2.1.2.2.2.2.2.2.1 b1 ?_
      refine g_istore 76 [(6, .int ((g_mi M ((a0 + 282) + 9) (x5).toNatClampNeg))), (0, .ref a0), (3, .ref a3), (4, .ref a4), (5, .int (x5))] dX8_tellOrders_74 rfl (Nat.le_of_ble_eq_true rfl) rfl ?_
      refine g_aload 3 78 dX8_tellOrders_76 rfl rfl ?_
      refine g_bipush (10) 80 dX8_tellOrders_78 rfl rfl ?_
      refine g_iload 4 82 dX8_tellOrders_80 rfl rfl ?_
      refine g_iadd 83 dX8_tellOrders_82 rfl ?_
      refine g_aload_n 1 84 dX8_tellOrders_83 rfl rfl ?_
      refine g_getR 87 (a0 + 282) dX8_tellOrders_84 rfl flX8_61 s0.1 s0.2.2.2.2.2.2.2.2.2.2.2.2.2.2.2.2.2.1 ?_
      refine g_getR 90 ((a0 + 282) + 10) dX8_tellOrders_87 rfl flX8_393 s0.2.2.2.2.2.2.2.2.2.2.2.2.2.2.2.2.2.2.1.1 s0.2.2.2.2.2.2.2.2.2.2.2.2.2.2.2.2.2.2.1.2.2.2.2.2.2.2.1 ?_
      refine g_iload 4 92 dX8_tellOrders_90 rfl rfl ?_
      refine h_zaload 93 (x5).toNatClampNeg dX8_tellOrders_92 rfl rfl s0.2.2.2.2.2.2.2.2.2.2.2.2.2.2.2.2.2.2.1.2.2.2.2.2.2.2.2.1 b1 ?_
      refine g_if_eq 105 96 dX8_tellOrders_93 rfl rfl (fun c2 => ?_) (fun c2 => ?_)
      · skip
        replace H := H.1 c2
        refine g_aload_n 2 106 dX8_tellOrders_105 rfl rfl ?_
        refine g_getR 109 (a3 + 3) dX8_tellOrders_106 rfl flX8_250 s3.1 s3.2.2.2.2.2.1 ?_
        refine g_iload 0 111 dX8_tellOrders_109 rfl rfl ?_
        refine g_callV (mc1 := 0) (ms1 := 0) (b := (a3 + 3)) (rest := [.int ((10 + x5)), .ref a4]) (av := [.int ((g_mi M ((a0 + 282) + 9) (x5).toNatClampNeg))]) kX5_numberOf 114 dX8_tellOrders_111 rfl rfl mbX8_263 imX5_numberOf seX5_numberOf gcl5.1 s3.2.2.2.2.2.2.1 (Nat.le_of_ble_eq_true rfl) (Nat.zero_le _) (Nat.zero_le _) (uX5_numberOf (N := N) (K := K) s3.2.2.2.2.2.2 H (fun v1 H => ?_))
        show Go X (d + 3) mc ms kX8_tellOrders Q 114 [(6, .int ((g_mi M ((a0 + 282) + 9) (x5).toNatClampNeg))), (0, .ref a0), (3, .ref a3), (4, .ref a4), (5, .int (x5))] [.int (v1), .int ((10 + x5)), .ref a4] M 0 0
        obtain ⟨b2, H⟩ := H
        refine h_iastore 115 ((10 + x5)).toNatClampNeg dX8_tellOrders_114 rfl rfl s4 b2 ?_
        generalize hM1 : (g_wi M a4 ((10 + x5)).toNatClampNeg v1) = M1
        have j1 : Sm M M1 := by rw [← hM1]; exact (Sm.wi Sm.rf)
        replace H := H M1 hM1.symm
        refine g_iinc _ 4 118 [(5, .int ((x5 + 1))), (6, .int ((g_mi M ((a0 + 282) + 9) (x5).toNatClampNeg))), (0, .ref a0), (3, .ref a3), (4, .ref a4)] dX8_tellOrders_115 rfl rfl rfl (Nat.le_of_ble_eq_true rfl) rfl ?_
        refine g_goto 52 dX8_tellOrders_118 rfl ?_
        exact g_sub [2, 3, 4, 0] _ rfl (ih M1 a0 a3 a4 n4 (x5 + 1) (Ph.sm j1 s0) (St.sm j1 s3) (Sm.k j1 s4) H (fun M1 j r => hR M1 (Sm.tr j1 j) r))
      · skip
        replace H := H.2 c2
        refine g_aload_n 2 97 dX8_tellOrders_96 rfl rfl ?_
        refine g_iload 0 99 dX8_tellOrders_97 rfl rfl ?_
        obtain ⟨b3, H⟩ := H
        refine g_callV (mc1 := 0) (ms1 := 0) (b := a3) (rest := [.int ((10 + x5)), .ref a4]) (av := [.int ((g_mi M ((a0 + 282) + 9) (x5).toNatClampNeg))]) kX3_degreeOf 102 dX8_tellOrders_99 rfl rfl mbX8_129 imX3_degreeOf seX3_degreeOf gcl3.1 s3.1 (Nat.le_of_ble_eq_true rfl) (Nat.zero_le _) (Nat.zero_le _) (tX3_degreeOf (N := N) s3 b3 ?_)
        show Go X (d + 3) mc ms kX8_tellOrders Q 102 [(6, .int ((g_mi M ((a0 + 282) + 9) (x5).toNatClampNeg))), (0, .ref a0), (3, .ref a3), (4, .ref a4), (5, .int (x5))] [.int ((fX3_degreeOf N M a3 (g_mi M ((a0 + 282) + 9) (x5).toNatClampNeg))), .int ((10 + x5)), .ref a4] M 0 0
        generalize hv2 : (fX3_degreeOf N M a3 (g_mi M ((a0 + 282) + 9) (x5).toNatClampNeg)) = v2
        replace H := H v2 hv2.symm
        refine g_goto 114 dX8_tellOrders_102 rfl ?_
        obtain ⟨b4, H⟩ := H
        refine h_iastore 115 ((10 + x5)).toNatClampNeg dX8_tellOrders_114 rfl rfl s4 b4 ?_
        generalize hM2 : (g_wi M a4 ((10 + x5)).toNatClampNeg v2) = M2
        have j2 : Sm M M2 := by rw [← hM2]; exact (Sm.wi Sm.rf)
        replace H := H M2 hM2.symm
        refine g_iinc _ 4 118 [(5, .int ((x5 + 1))), (6, .int ((g_mi M ((a0 + 282) + 9) (x5).toNatClampNeg))), (0, .ref a0), (3, .ref a3), (4, .ref a4)] dX8_tellOrders_115 rfl rfl rfl (Nat.le_of_ble_eq_true rfl) rfl ?_
        refine g_goto 52 dX8_tellOrders_118 rfl ?_
        exact g_sub [2, 3, 4, 0] _ rfl (ih M2 a0 a3 a4 n4 (x5 + 1) (Ph.sm j2 s0) (St.sm j2 s3) (Sm.k j2 s4) H (fun M1 j r => hR M1 (Sm.tr j2 j) r))
set_option maxRecDepth 10000 in
theorem uX8_tellOrders {N K : Nat} {X : gX} {d mc ms : Nat} {Q : Option Value → gM → Prop} {M : gM} {a0 : Nat} {x1 : Int32} {x2 : Int32} {R : gM → Prop} (s0 : Ph M a0) (H : pX8_tellOrders N K M a0 x1 x2 R) (hR : ∀ (M1 : gM), Sm M M1 → R M1 → Q none M1) : Cn X (d + 3) mc ms kX8_tellOrders [.ref a0, .int (x1), .int (x2)] M Q := by
  have ih := ulX8_tellOrders (X := X) (d := d) (mc := mc) (ms := ms) (Q := Q) (N := N) (K := K) (R := R) N
  unfold pX8_tellOrders pX8_tellOrders_0 at H
  refine g_meth rfl rfl (Nat.le_of_ble_eq_true rfl) rfl ?_
  refine g_aload_n 0 1 dX8_tellOrders_0 rfl rfl ?_
  refine g_getR 4 (a0 + 1) dX8_tellOrders_1 rfl flX8_14 s0.1 s0.2.1 ?_
  refine g_getR 7 ((a0 + 1) + 1) dX8_tellOrders_4 rfl flX8_102 s0.2.2.1.1 s0.2.2.1.2.1 ?_
  refine g_astore_n 8 [(3, .ref ((a0 + 1) + 1)), (0, .ref a0), (1, .int (x1)), (2, .int (x2))] dX8_tellOrders_7 rfl (Nat.le_of_ble_eq_true rfl) rfl ?_
  refine g_aload_n 1 9 dX8_tellOrders_8 rfl rfl ?_
  refine g_getR 12 (a0 + 271) dX8_tellOrders_9 rfl flX8_45 s0.1 s0.2.2.2.2.2.2.2.2.2.2.2.2.2.1 ?_
  refine g_getR 15 ((a0 + 271) + 1) dX8_tellOrders_12 rfl flX8_384 s0.2.2.2.2.2.2.2.2.2.2.2.2.2.2.1.1 s0.2.2.2.2.2.2.2.2.2.2.2.2.2.2.1.2.1 ?_
  refine g_astore 17 [(4, .ref ((a0 + 271) + 1)), (3, .ref ((a0 + 1) + 1)), (0, .ref a0), (1, .int (x1)), (2, .int (x2))] dX8_tellOrders_15 rfl (Nat.le_of_ble_eq_true rfl) rfl ?_
  refine g_aload 0 19 dX8_tellOrders_17 rfl rfl ?_
  refine g_bipush (6) 21 dX8_tellOrders_19 rfl rfl ?_
  refine g_aload_n 1 22 dX8_tellOrders_21 rfl rfl ?_
  refine g_getR 25 (((a0 + 1) + 1) + 2) dX8_tellOrders_22 rfl flX8_149 s0.2.2.1.2.2.1.1 s0.2.2.1.2.2.1.2.2.2.1 ?_
  refine g_iconst (0) 26 dX8_tellOrders_25 rfl rfl ?_
  refine h_iaload 27 0 dX8_tellOrders_26 rfl rfl s0.2.2.1.2.2.1.2.2.2.2.1 (vp_lit rfl) ?_
  refine h_iastore 28 6 dX8_tellOrders_27 rfl rfl s0.2.2.2.2.2.2.2.2.2.2.2.2.2.2.1.2.2.1 (vp_lit rfl) ?_
  generalize hM1 : (g_wi M ((a0 + 271) + 1) 6 (g_mi M (((a0 + 1) + 1) + 2) 0)) = M1
  have j1 : Sm M M1 := by rw [← hM1]; exact (Sm.wi Sm.rf)
  replace H := H M1 hM1.symm
  refine g_aload 0 30 dX8_tellOrders_28 rfl rfl ?_
  refine g_bipush (7) 32 dX8_tellOrders_30 rfl rfl ?_
  refine g_iload_n 3 33 dX8_tellOrders_32 rfl rfl ?_
  refine h_iastore 34 7 dX8_tellOrders_33 rfl rfl (Sm.k j1 s0.2.2.2.2.2.2.2.2.2.2.2.2.2.2.1.2.2.1) (vp_lit rfl) ?_
  generalize hM2 : (g_wi M1 ((a0 + 271) + 1) 7 x1) = M2
  have j2 : Sm M M2 := by rw [← hM2]; exact (Sm.wi j1)
  replace H := H M2 hM2.symm
  refine g_aload 0 36 dX8_tellOrders_34 rfl rfl ?_
  refine g_bipush (8) 38 dX8_tellOrders_36 rfl rfl ?_
  refine g_iload_n 4 39 dX8_tellOrders_38 rfl rfl ?_
  refine h_iastore 40 8 dX8_tellOrders_39 rfl rfl (Sm.k j2 s0.2.2.2.2.2.2.2.2.2.2.2.2.2.2.1.2.2.1) (vp_lit rfl) ?_
  generalize hM3 : (g_wi M2 ((a0 + 271) + 1) 8 x2) = M3
  have j3 : Sm M M3 := by rw [← hM3]; exact (Sm.wi j2)
  replace H := H M3 hM3.symm
  refine g_aload 0 42 dX8_tellOrders_40 rfl rfl ?_
  refine g_bipush (9) 44 dX8_tellOrders_42 rfl rfl ?_
  refine g_aload_n 1 45 dX8_tellOrders_44 rfl rfl ?_
  refine g_getI 48 dX8_tellOrders_45 rfl flX8_137 (Sm.k j3 s0.2.2.1.2.2.1.1) ?_
  refine h_iastore 49 9 dX8_tellOrders_48 rfl rfl (Sm.k j3 s0.2.2.2.2.2.2.2.2.2.2.2.2.2.2.1.2.2.1) (vp_lit rfl) ?_
  generalize hM4 : (g_wi M3 ((a0 + 271) + 1) 9 (g_mi M3 ((a0 + 1) + 1) 3)) = M4
  have j4 : Sm M M4 := by rw [← hM4]; exact (Sm.wi j3)
  replace H := H M4 hM4.symm
  refine g_iconst (0) 50 dX8_tellOrders_49 rfl rfl ?_
  refine g_istore 52 [(5, .int (0)), (4, .ref ((a0 + 271) + 1)), (3, .ref ((a0 + 1) + 1)), (0, .ref a0), (1, .int (x1)), (2, .int (x2))] dX8_tellOrders_50 rfl (Nat.le_of_ble_eq_true rfl) rfl ?_
  exact g_sub [3, 2, 1, 0] _ rfl (ih M4 a0 ((a0 + 1) + 1) ((a0 + 271) + 1) 60 0 (Ph.sm j4 s0) (St.sm j4 s0.2.2.1.2.2.1) (Sm.k j4 s0.2.2.2.2.2.2.2.2.2.2.2.2.2.2.1.2.2.1) H (fun M1 j r => hR M1 (Sm.tr j4 j) r))
/-! X8_collectPossible -/
def pX8_collectPossible_0 (N K : Nat) (kp : Nat → gM → Nat → Nat → Int32 → Int32 → Prop) (R : Int32 → gM → Prop) (M : gM) (a0 : Nat) : Prop := kp 0 M a0 ((a0 + 1) + 1) 0 0
def pX8_collectPossible_12 (N K : Nat) (kp : Nat → gM → Nat → Nat → Int32 → Int32 → Prop) (R : Int32 → gM → Prop) (M : gM) (a0 : Nat) (a1 : Nat) (x2 : Int32) (x3 : Int32) : Prop := (((g_mi M a1 3) ≤ x3 → R x2 M) ∧ (¬ (g_mi M a1 3) ≤ x3 → (vp_in (x3) 30) ∧ pX7_fitsSeen N K M (a0 + 1) (g_mi M (a1 + 1) (x3).toNatClampNeg) (fun v1 => ((v1 = 0 → kp 0 M a0 a1 x2 (x3 + 1)) ∧ (¬ v1 = 0 → (vp_in (x2) 30) ∧ ∀ M1 : gM, M1 = (g_wi M (a0 + 305) (x2).toNatClampNeg (g_mi M (a1 + 1) (x3).toNatClampNeg)) → kp 0 M1 a0 a1 (x2 + 1) (x3 + 1))))))
def qX8_collectPossible (N K : Nat) (R : Int32 → gM → Prop) : Nat → Nat → gM → Nat → Nat → Int32 → Int32 → Prop
  | 0, _, _, _, _, _, _ => False
  | n + 1, _, M, a0, a1, x2, x3 => pX8_collectPossible_12 N K (qX8_collectPossible N K R n) R M a0 a1 x2 x3
def pX8_collectPossible (N K : Nat) (M : gM) (a0 : Nat) (R : Int32 → gM → Prop) : Prop := pX8_collectPossible_0 N K (qX8_collectPossible N K R N) R M a0
def ULX8_collectPossible (X : gX) (d mc ms : Nat) (Q : Option Value → gM → Prop) (N K : Nat) (R : Int32 → gM → Prop) (n : Nat) : Prop := (∀ (M : gM) (a0 : Nat) (a1 : Nat) (x2 : Int32) (x3 : Int32), Ph M a0 → St M a1 → qX8_collectPossible N K R n 0 M a0 a1 x2 x3 → (∀ (v : Int32) (M1 : gM), Sm M M1 → R v M1 → Q (some (.int v)) M1) → Go X (d + 3) mc ms kX8_collectPossible Q 12 [(0, .ref a0), (1, .ref a1), (2, .int (x2)), (3, .int (x3))] [] M 0 0)
set_option maxRecDepth 10000 in
theorem ulX8_collectPossible {X : gX} {d mc ms : Nat} {Q : Option Value → gM → Prop} {N K : Nat} {R : Int32 → gM → Prop} : ∀ n : Nat, ULX8_collectPossible X d mc ms Q N K R n := by
  intro n
  induction n with
  | zero => exact fun _ _ _ _ _ _ _ h _ => h.elim
  | succ n ih =>
    intro M a0 a1 x2 x3 s0 s1 H hR
    rw [qX8_collectPossible] at H
    unfold pX8_collectPossible_12 at H
    refine g_iload_n 3 13 dX8_collectPossible_12 rfl rfl ?_
    refine g_aload_n 1 14 dX8_collectPossible_13 rfl rfl ?_
    refine g_getI 17 dX8_collectPossible_14 rfl flX8_137 s1.1 ?_
    refine g_icmp_ge 57 20 dX8_collectPossible_17 rfl rfl (fun c1 => ?_) (fun c1 => ?_)
    · skip
      replace H := H.1 c1
      refine g_iload_n 2 58 dX8_collectPossible_57 rfl rfl ?_
      exact g_iret dX8_collectPossible_58 rfl (Nat.zero_le _) (Nat.zero_le _) (hR _ _ Sm.rf H)
    · skip
      replace H := H.2 c1
      refine g_aload_n 0 21 dX8_collectPossible_20 rfl rfl ?_
      refine g_getR 24 (a0 + 1) dX8_collectPossible_21 rfl flX8_14 s0.1 s0.2.1 ?_
      refine g_aload_n 1 25 dX8_collectPossible_24 rfl rfl ?_
      refine g_getR 28 (a1 + 1) dX8_collectPossible_25 rfl flX8_140 s1.1 s1.2.1 ?_
      refine g_iload_n 3 29 dX8_collectPossible_28 rfl rfl ?_
      obtain ⟨b1, H⟩ := H
      refine h_iaload 30 (x3).toNatClampNeg dX8_collectPossible_29 rfl rfl s1.2.2.1 b1 ?_
      refine g_callV (mc1 := 0) (ms1 := 0) (b := (a0 + 1)) (rest := []) (av := [.int ((g_mi M (a1 + 1) (x3).toNatClampNeg))]) kX7_fitsSeen 33 dX8_collectPossible_30 rfl rfl mbX8_397 imX7_fitsSeen seX7_fitsSeen gcl7.1 s0.2.2.1.1 (Nat.le_of_ble_eq_true rfl) (Nat.zero_le _) (Nat.zero_le _) (uX7_fitsSeen (N := N) (K := K) s0.2.2.1 H (fun v1 H => ?_))
      show Go X (d + 3) mc ms kX8_collectPossible Q 33 [(0, .ref a0), (1, .ref a1), (2, .int (x2)), (3, .int (x3))] [.int (v1)] M 0 0
      refine g_if_eq 51 36 dX8_collectPossible_33 rfl rfl (fun c2 => ?_) (fun c2 => ?_)
      · skip
        replace H := H.1 c2
        refine g_iinc _ 3 54 [(3, .int ((x3 + 1))), (0, .ref a0), (1, .ref a1), (2, .int (x2))] dX8_collectPossible_51 rfl rfl rfl (Nat.le_of_ble_eq_true rfl) rfl ?_
        refine g_goto 12 dX8_collectPossible_54 rfl ?_
        exact g_sub [1, 2, 3, 0] _ rfl (ih M a0 a1 x2 (x3 + 1) s0 s1 H (fun v M1 j r => hR v M1 j r))
      · skip
        replace H := H.2 c2
        refine g_aload_n 0 37 dX8_collectPossible_36 rfl rfl ?_
        refine g_getR 40 (a0 + 305) dX8_collectPossible_37 rfl flX8_81 s0.1 s0.2.2.2.2.2.2.2.2.2.2.2.2.2.2.2.2.2.2.2.2.2.2.2.2.2.1 ?_
        refine g_iload_n 2 41 dX8_collectPossible_40 rfl rfl ?_
        refine g_aload_n 1 42 dX8_collectPossible_41 rfl rfl ?_
        refine g_getR 45 (a1 + 1) dX8_collectPossible_42 rfl flX8_140 s1.1 s1.2.1 ?_
        refine g_iload_n 3 46 dX8_collectPossible_45 rfl rfl ?_
        refine h_iaload 47 (x3).toNatClampNeg dX8_collectPossible_46 rfl rfl s1.2.2.1 b1 ?_
        obtain ⟨b2, H⟩ := H
        refine h_iastore 48 (x2).toNatClampNeg dX8_collectPossible_47 rfl rfl s0.2.2.2.2.2.2.2.2.2.2.2.2.2.2.2.2.2.2.2.2.2.2.2.2.2.2.1 b2 ?_
        generalize hM1 : (g_wi M (a0 + 305) (x2).toNatClampNeg (g_mi M (a1 + 1) (x3).toNatClampNeg)) = M1
        have j1 : Sm M M1 := by rw [← hM1]; exact (Sm.wi Sm.rf)
        replace H := H M1 hM1.symm
        refine g_iinc _ 2 51 [(2, .int ((x2 + 1))), (0, .ref a0), (1, .ref a1), (3, .int (x3))] dX8_collectPossible_48 rfl rfl rfl (Nat.le_of_ble_eq_true rfl) rfl ?_
        refine g_iinc _ 3 54 [(3, .int ((x3 + 1))), (2, .int ((x2 + 1))), (0, .ref a0), (1, .ref a1)] dX8_collectPossible_51 rfl rfl rfl (Nat.le_of_ble_eq_true rfl) rfl ?_
        refine g_goto 12 dX8_collectPossible_54 rfl ?_
        exact g_sub [2, 3, 1, 0] _ rfl (ih M1 a0 a1 (x2 + 1) (x3 + 1) (Ph.sm j1 s0) (St.sm j1 s1) H (fun v M1 j r => hR v M1 (Sm.tr j1 j) r))
set_option maxRecDepth 10000 in
theorem uX8_collectPossible {N K : Nat} {X : gX} {d mc ms : Nat} {Q : Option Value → gM → Prop} {M : gM} {a0 : Nat} {R : Int32 → gM → Prop} (s0 : Ph M a0) (H : pX8_collectPossible N K M a0 R) (hR : ∀ (v : Int32) (M1 : gM), Sm M M1 → R v M1 → Q (some (.int v)) M1) : Cn X (d + 3) mc ms kX8_collectPossible [.ref a0] M Q := by
  have ih := ulX8_collectPossible (X := X) (d := d) (mc := mc) (ms := ms) (Q := Q) (N := N) (K := K) (R := R) N
  unfold pX8_collectPossible pX8_collectPossible_0 at H
  refine g_meth rfl rfl (Nat.le_of_ble_eq_true rfl) rfl ?_
  refine g_aload_n 0 1 dX8_collectPossible_0 rfl rfl ?_
  refine g_getR 4 (a0 + 1) dX8_collectPossible_1 rfl flX8_14 s0.1 s0.2.1 ?_
  refine g_getR 7 ((a0 + 1) + 1) dX8_collectPossible_4 rfl flX8_102 s0.2.2.1.1 s0.2.2.1.2.1 ?_
  refine g_astore_n 8 [(1, .ref ((a0 + 1) + 1)), (0, .ref a0)] dX8_collectPossible_7 rfl (Nat.le_of_ble_eq_true rfl) rfl ?_
  refine g_iconst (0) 9 dX8_collectPossible_8 rfl rfl ?_
  refine g_istore_n 10 [(2, .int (0)), (1, .ref ((a0 + 1) + 1)), (0, .ref a0)] dX8_collectPossible_9 rfl (Nat.le_of_ble_eq_true rfl) rfl ?_
  refine g_iconst (0) 11 dX8_collectPossible_10 rfl rfl ?_
  refine g_istore_n 12 [(3, .int (0)), (2, .int (0)), (1, .ref ((a0 + 1) + 1)), (0, .ref a0)] dX8_collectPossible_11 rfl (Nat.le_of_ble_eq_true rfl) rfl ?_
  exact g_sub [3, 2, 1, 0] _ rfl (ih M a0 ((a0 + 1) + 1) 0 0 s0 s0.2.2.1.2.2.1 H (fun v M1 j r => hR v M1 j r))
/-! X3_copyFrom -/
def pX3_copyFrom (N K : Nat) (M : gM) (a0 : Nat) (a1 : Nat) (R : gM → Prop) : Prop := ∀ M1 : gM, M1 = (g_cp M (a1 + 1) (a0 + 1) 0 0 30) → ∀ M2 : gM, M2 = (g_cp M1 (a1 + 2) (a0 + 2) 0 0 3) → pX5_copyFrom N K M2 (a0 + 3) (a1 + 3) (fun M3 => ∀ M4 : gM, M4 = (g_wi M3 a0 3 (g_mi M3 a1 3)) → ∀ M5 : gM, M5 = (g_wi M4 a0 4 (g_mi M4 a1 4)) → ∀ M6 : gM, M6 = (g_wi M5 a0 5 (g_mi M5 a1 5)) → R M6)
set_option maxRecDepth 10000 in
theorem uX3_copyFrom {N K : Nat} {X : gX} {d mc ms : Nat} {Q : Option Value → gM → Prop} {M : gM} {a0 : Nat} {a1 : Nat} {R : gM → Prop} (s0 : St M a0) (s1 : St M a1) (H : pX3_copyFrom N K M a0 a1 R) (hR : ∀ (M1 : gM), Sm M M1 → R M1 → Q none M1) : Cn X (d + 2) mc ms kX3_copyFrom [.ref a0, .ref a1] M Q := by
  unfold pX3_copyFrom at H
  refine g_meth rfl rfl (Nat.le_of_ble_eq_true rfl) rfl ?_
  refine g_aload_n 1 1 dX3_copyFrom_0 rfl rfl ?_
  refine g_getR 4 (a1 + 1) dX3_copyFrom_1 rfl flX3_9 s1.1 s1.2.1 ?_
  refine g_iconst (0) 5 dX3_copyFrom_4 rfl rfl ?_
  refine g_aload_n 0 6 dX3_copyFrom_5 rfl rfl ?_
  refine g_getR 9 (a0 + 1) dX3_copyFrom_6 rfl flX3_9 s0.1 s0.2.1 ?_
  refine g_iconst (0) 10 dX3_copyFrom_9 rfl rfl ?_
  refine g_bipush (30) 12 dX3_copyFrom_10 rfl rfl ?_
  refine g_copy 15 dX3_copyFrom_12 rfl q3_190 q3_180 q3_179 q1_17 s1.2.2.1 s0.2.2.1 (by decide) (by decide) (by decide) (by decide) (by decide) (Nat.le_of_ble_eq_true rfl) ?_
  show Go X (d + 2) mc ms kX3_copyFrom Q 15 [(0, .ref a0), (1, .ref a1)] [] (g_cp M (a1 + 1) (a0 + 1) 0 0 30) 0 0
  generalize hM1 : (g_cp M (a1 + 1) (a0 + 1) 0 0 30) = M1
  have j1 : Sm M M1 := by rw [← hM1]; exact (Sm.cp Sm.rf)
  replace H := H M1 hM1.symm
  refine g_aload_n 1 16 dX3_copyFrom_15 rfl rfl ?_
  refine g_getR 19 (a1 + 2) dX3_copyFrom_16 rfl flX3_15 (Sm.k j1 s1.1) (Sm.r j1 s1.2.2.2.1) ?_
  refine g_iconst (0) 20 dX3_copyFrom_19 rfl rfl ?_
  refine g_aload_n 0 21 dX3_copyFrom_20 rfl rfl ?_
  refine g_getR 24 (a0 + 2) dX3_copyFrom_21 rfl flX3_15 (Sm.k j1 s0.1) (Sm.r j1 s0.2.2.2.1) ?_
  refine g_iconst (0) 25 dX3_copyFrom_24 rfl rfl ?_
  refine g_iconst (3) 26 dX3_copyFrom_25 rfl rfl ?_
  refine g_copy 29 dX3_copyFrom_26 rfl q3_190 q3_180 q3_179 q1_17 (Sm.k j1 s1.2.2.2.2.1) (Sm.k j1 s0.2.2.2.2.1) (by decide) (by decide) (by decide) (by decide) (by decide) (Nat.le_of_ble_eq_true rfl) ?_
  show Go X (d + 2) mc ms kX3_copyFrom Q 29 [(0, .ref a0), (1, .ref a1)] [] (g_cp M1 (a1 + 2) (a0 + 2) 0 0 3) 0 0
  generalize hM2 : (g_cp M1 (a1 + 2) (a0 + 2) 0 0 3) = M2
  have j2 : Sm M M2 := by rw [← hM2]; exact (Sm.cp j1)
  replace H := H M2 hM2.symm
  refine g_aload_n 0 30 dX3_copyFrom_29 rfl rfl ?_
  refine g_getR 33 (a0 + 3) dX3_copyFrom_30 rfl flX3_21 (Sm.k j2 s0.1) (Sm.r j2 s0.2.2.2.2.2.1) ?_
  refine g_aload_n 1 34 dX3_copyFrom_33 rfl rfl ?_
  refine g_getR 37 (a1 + 3) dX3_copyFrom_34 rfl flX3_21 (Sm.k j2 s1.1) (Sm.r j2 s1.2.2.2.2.2.1) ?_
  refine g_callV (mc1 := 0) (ms1 := 0) (b := (a0 + 3)) (rest := []) (av := [.ref (a1 + 3)]) kX5_copyFrom 40 dX3_copyFrom_37 rfl rfl mbX3_35 imX5_copyFrom seX5_copyFrom gcl5.1 (Sm.k j2 s0.2.2.2.2.2.2.1) (Nat.le_of_ble_eq_true rfl) (Nat.zero_le _) (Nat.zero_le _) (uX5_copyFrom (N := N) (K := K) (Tb.sm j2 s0.2.2.2.2.2.2) (Tb.sm j2 s1.2.2.2.2.2.2) H (fun M3 jj H => ?_))
  have j3 : Sm M M3 := Sm.tr j2 jj
  show Go X (d + 2) mc ms kX3_copyFrom Q 40 [(0, .ref a0), (1, .ref a1)] [] M3 0 0
  refine g_aload_n 0 41 dX3_copyFrom_40 rfl rfl ?_
  refine g_aload_n 1 42 dX3_copyFrom_41 rfl rfl ?_
  refine g_getI 45 dX3_copyFrom_42 rfl flX3_39 (Sm.k j3 s1.1) ?_
  refine g_putI 48 dX3_copyFrom_45 rfl flX3_39 (Sm.k j3 s0.1) ?_
  generalize hM4 : (g_wi M3 a0 3 (g_mi M3 a1 3)) = M4
  have j4 : Sm M M4 := by rw [← hM4]; exact (Sm.wi j3)
  replace H := H M4 hM4.symm
  refine g_aload_n 0 49 dX3_copyFrom_48 rfl rfl ?_
  refine g_aload_n 1 50 dX3_copyFrom_49 rfl rfl ?_
  refine g_getI 53 dX3_copyFrom_50 rfl flX3_25 (Sm.k j4 s1.1) ?_
  refine g_putI 56 dX3_copyFrom_53 rfl flX3_25 (Sm.k j4 s0.1) ?_
  generalize hM5 : (g_wi M4 a0 4 (g_mi M4 a1 4)) = M5
  have j5 : Sm M M5 := by rw [← hM5]; exact (Sm.wi j4)
  replace H := H M5 hM5.symm
  refine g_aload_n 0 57 dX3_copyFrom_56 rfl rfl ?_
  refine g_aload_n 1 58 dX3_copyFrom_57 rfl rfl ?_
  refine g_getI 61 dX3_copyFrom_58 rfl flX3_42 (Sm.k j5 s1.1) ?_
  refine g_putI 64 dX3_copyFrom_61 rfl flX3_42 (Sm.k j5 s0.1) ?_
  generalize hM6 : (g_wi M5 a0 5 (g_mi M5 a1 5)) = M6
  have j6 : Sm M M6 := by rw [← hM6]; exact (Sm.wi j5)
  replace H := H M6 hM6.symm
  exact g_vret dX3_copyFrom_64 rfl (Nat.zero_le _) (Nat.zero_le _) (hR _ j6 H)
/-! X4_rankOf -/
def pX4_rankOf_0 (N K : Nat) (kp : Nat → gM → Nat → Nat → Nat → Nat → Int32 → Int32 → Prop) (R : Int32 → gM → Prop) (M : gM) (a0 : Nat) (a1 : Nat) (n1 : Nat) (m1 : Nat) (a2 : Nat) (x3 : Int32) (x4 : Int32) (x5 : Int32) : Prop := pX4_tellLaw N K M a0 a2 x3 (fun M1 => ∀ M2 : gM, M2 = (g_wi M1 (a0 + 1) 0 x4) → (((g_mi M2 a2 4) ≤ 0 → ∀ M3 : gM, M3 = (g_wi M2 (a0 + 1) 1 (-1)) → ∀ M4 : gM, M4 = (g_wi M3 (a0 + 1) 5 x5) → ∀ M5 : gM, M5 = (g_wi M4 (a0 + 1) 2 (-1)) → kp 0 M5 a0 a1 n1 m1 0 0) ∧ (¬ (g_mi M2 a2 4) ≤ 0 → (¬ ((g_mi M2 a2 4) : Int32) = 0) ∧ ∀ M6 : gM, M6 = (g_wi M2 (a0 + 1) 1 (x4 / (g_mi M2 a2 4))) → ∀ M7 : gM, M7 = (g_wi M6 (a0 + 1) 5 x5) → ∀ M8 : gM, M8 = (g_wi M7 (a0 + 1) 2 (-1)) → kp 0 M8 a0 a1 n1 m1 0 0)))
def pX4_rankOf_59 (N K : Nat) (kp : Nat → gM → Nat → Nat → Nat → Nat → Int32 → Int32 → Prop) (R : Int32 → gM → Prop) (M : gM) (a0 : Nat) (a1 : Nat) (n1 : Nat) (m1 : Nat) (x6 : Int32) (x7 : Int32) : Prop := (((g_mi M a1 6) ≤ x7 → R x6 M) ∧ (¬ (g_mi M a1 6) ≤ x7 → (vp_in (x7) n1) ∧ ((¬ (g_mi M (a1 + 1) (x7).toNatClampNeg) = 5 → kp 0 M a0 a1 n1 m1 x6 (x7 + 1)) ∧ ((g_mi M (a1 + 1) (x7).toNatClampNeg) = 5 → pX4_valueOf N K M a0 a1 n1 m1 (g_mi M (a1 + 4) (x7).toNatClampNeg) (fun v1 M1 => ((v1 = 1 → (vp_in (x7) n1) ∧ pX4_valueOf N K M1 a0 a1 n1 m1 (g_mi M1 (a1 + 3) (x7).toNatClampNeg) (fun v2 M2 => ((v2 = (-2147483648) → kp 0 M2 a0 a1 n1 m1 x6 (x7 + 1)) ∧ (¬ v2 = (-2147483648) → ((0 ≤ v2 → ((v2 ≤ 99 → kp 0 M2 a0 a1 n1 m1 v2 (x7 + 1)) ∧ (¬ v2 ≤ 99 → kp 0 M2 a0 a1 n1 m1 99 (x7 + 1)))) ∧ (¬ 0 ≤ v2 → kp 0 M2 a0 a1 n1 m1 0 (x7 + 1))))))) ∧ (¬ v1 = 1 → kp 0 M1 a0 a1 n1 m1 x6 (x7 + 1))))))))
def qX4_rankOf (N K : Nat) (R : Int32 → gM → Prop) : Nat → Nat → gM → Nat → Nat → Nat → Nat → Int32 → Int32 → Prop
  | 0, _, _, _, _, _, _, _, _ => False
  | n + 1, _, M, a0, a1, n1, m1, x6, x7 => pX4_rankOf_59 N K (qX4_rankOf N K R n) R M a0 a1 n1 m1 x6 x7
def pX4_rankOf (N K : Nat) (M : gM) (a0 : Nat) (a1 : Nat) (n1 : Nat) (m1 : Nat) (a2 : Nat) (x3 : Int32) (x4 : Int32) (x5 : Int32) (R : Int32 → gM → Prop) : Prop := pX4_rankOf_0 N K (qX4_rankOf N K R N) R M a0 a1 n1 m1 a2 x3 x4 x5
def ULX4_rankOf (X : gX) (d mc ms : Nat) (Q : Option Value → gM → Prop) (N K : Nat) (R : Int32 → gM → Prop) (n : Nat) : Prop := (∀ (M : gM) (a0 : Nat) (a1 : Nat) (n1 : Nat) (m1 : Nat) (x6 : Int32) (x7 : Int32), Su M a0 → Tx M a1 n1 m1 → qX4_rankOf N K R n 0 M a0 a1 n1 m1 x6 x7 → (∀ (v : Int32) (M1 : gM), Sm M M1 → R v M1 → Q (some (.int v)) M1) → Go X (d + 2) mc ms kX4_rankOf Q 59 [(0, .ref a0), (1, .ref a1), (6, .int (x6)), (7, .int (x7))] [] M 0 0)
set_option maxRecDepth 10000 in
theorem ulX4_rankOf {X : gX} {d mc ms : Nat} {Q : Option Value → gM → Prop} {N K : Nat} {R : Int32 → gM → Prop} : ∀ n : Nat, ULX4_rankOf X d mc ms Q N K R n := by
  intro n
  induction n with
  | zero => exact fun _ _ _ _ _ _ _ _ _ h _ => h.elim
  | succ n ih =>
    intro M a0 a1 n1 m1 x6 x7 s0 s1 H hR
    rw [qX4_rankOf] at H
    unfold pX4_rankOf_59 at H
    refine g_iload 3 61 dX4_rankOf_59 rfl rfl ?_
    refine g_aload_n 1 62 dX4_rankOf_61 rfl rfl ?_
    refine g_getI 65 dX4_rankOf_62 rfl flX4_28 s1.1 ?_
    refine g_icmp_ge 150 68 dX4_rankOf_65 rfl rfl (fun c1 => ?_) (fun c1 => ?_)
    · skip
      replace H := H.1 c1
      refine g_iload 2 152 dX4_rankOf_150 rfl rfl ?_
      exact g_iret dX4_rankOf_152 rfl (Nat.zero_le _) (Nat.zero_le _) (hR _ _ Sm.rf H)
    · skip
      replace H := H.2 c1
      refine g_aload_n 1 69 dX4_rankOf_68 rfl rfl ?_
      refine g_getR 72 (a1 + 1) dX4_rankOf_69 rfl flX4_33 s1.1 s1.2.1 ?_
      refine g_iload 3 74 dX4_rankOf_72 rfl rfl ?_
      obtain ⟨b1, H⟩ := H
      refine h_iaload 75 (x7).toNatClampNeg dX4_rankOf_74 rfl rfl s1.2.2.1 b1 ?_
      refine g_iconst (5) 76 dX4_rankOf_75 rfl rfl ?_
      refine g_icmp_ne 144 79 dX4_rankOf_76 rfl rfl (fun c2 => ?_) (fun c2 => ?_)
      · skip
        replace H := H.1 c2
        refine g_iinc _ 3 147 [(7, .int ((x7 + 1))), (0, .ref a0), (1, .ref a1), (6, .int (x6))] dX4_rankOf_144 rfl rfl rfl (Nat.le_of_ble_eq_true rfl) rfl ?_
        refine g_goto 59 dX4_rankOf_147 rfl ?_
        exact g_sub [1, 2, 3, 0] _ rfl (ih M a0 a1 n1 m1 x6 (x7 + 1) s0 s1 H (fun v M1 j r => hR v M1 j r))
      · skip
        replace H := H.2 c2
        refine g_aload_n 0 80 dX4_rankOf_79 rfl rfl ?_
        refine g_aload_n 1 81 dX4_rankOf_80 rfl rfl ?_
        refine g_aload_n 1 82 dX4_rankOf_81 rfl rfl ?_
        refine g_getR 85 (a1 + 4) dX4_rankOf_82 rfl flX4_36 s1.1 s1.2.2.2.2.2.2.2.1 ?_
        refine g_iload 3 87 dX4_rankOf_85 rfl rfl ?_
        refine h_iaload 88 (x7).toNatClampNeg dX4_rankOf_87 rfl rfl s1.2.2.2.2.2.2.2.2.1 b1 ?_
        refine g_callV (mc1 := 0) (ms1 := 0) (b := a0) (rest := []) (av := [.ref a1, .int ((g_mi M (a1 + 4) (x7).toNatClampNeg))]) kX4_valueOf 91 dX4_rankOf_88 rfl rfl mbX4_39 imX4_valueOf seX4_valueOf gcl4.1 s0.1 (Nat.le_of_ble_eq_true rfl) (Nat.zero_le _) (Nat.zero_le _) (uX4_valueOf (N := N) (K := K) s0 s1 H (fun v1 M1 jj H => ?_))
        have j1 : Sm M M1 := jj
        show Go X (d + 2) mc ms kX4_rankOf Q 91 [(0, .ref a0), (1, .ref a1), (6, .int (x6)), (7, .int (x7))] [.int (v1)] M1 0 0
        refine g_iconst (1) 92 dX4_rankOf_91 rfl rfl ?_
        refine g_icmp_eq 98 95 dX4_rankOf_92 rfl rfl (fun c3 => ?_) (fun c3 => ?_)
        · skip
          replace H := H.1 c3
          refine g_aload_n 0 99 dX4_rankOf_98 rfl rfl ?_
          refine g_aload_n 1 100 dX4_rankOf_99 rfl rfl ?_
          refine g_aload_n 1 101 dX4_rankOf_100 rfl rfl ?_
          refine g_getR 104 (a1 + 3) dX4_rankOf_101 rfl flX4_43 (Sm.k j1 s1.1) (Sm.r j1 s1.2.2.2.2.2.1) ?_
          refine g_iload 3 106 dX4_rankOf_104 rfl rfl ?_
          obtain ⟨b2, H⟩ := H
          refine h_iaload 107 (x7).toNatClampNeg dX4_rankOf_106 rfl rfl (Sm.k j1 s1.2.2.2.2.2.2.1) b2 ?_
          refine g_callV (mc1 := 0) (ms1 := 0) (b := a0) (rest := []) (av := [.ref a1, .int ((g_mi M1 (a1 + 3) (x7).toNatClampNeg))]) kX4_valueOf 110 dX4_rankOf_107 rfl rfl mbX4_39 imX4_valueOf seX4_valueOf gcl4.1 (Sm.k j1 s0.1) (Nat.le_of_ble_eq_true rfl) (Nat.zero_le _) (Nat.zero_le _) (uX4_valueOf (N := N) (K := K) (Su.sm j1 s0) (Tx.sm j1 s1) H (fun v2 M2 jj H => ?_))
          have j2 : Sm M M2 := Sm.tr j1 jj
          show Go X (d + 2) mc ms kX4_rankOf Q 110 [(0, .ref a0), (1, .ref a1), (6, .int (x6)), (7, .int (x7))] [.int (v2)] M2 0 0
          refine g_istore 112 [(8, .int (v2)), (0, .ref a0), (1, .ref a1), (6, .int (x6)), (7, .int (x7))] dX4_rankOf_110 rfl (Nat.le_of_ble_eq_true rfl) rfl ?_
          refine g_iload 0 114 dX4_rankOf_112 rfl rfl ?_
          refine g_ldc ((-2147483648)) 116 dX4_rankOf_114 rfl q2_181 ?_
          refine g_icmp_eq 144 119 dX4_rankOf_116 rfl rfl (fun c4 => ?_) (fun c4 => ?_)
          · skip
            replace H := H.1 c4
            refine g_iinc _ 4 147 [(7, .int ((x7 + 1))), (8, .int (v2)), (0, .ref a0), (1, .ref a1), (6, .int (x6))] dX4_rankOf_144 rfl rfl rfl (Nat.le_of_ble_eq_true rfl) rfl ?_
            refine g_goto 59 dX4_rankOf_147 rfl ?_
            exact g_sub [2, 3, 4, 0] _ rfl (ih M2 a0 a1 n1 m1 x6 (x7 + 1) (Su.sm j2 s0) (Tx.sm j2 s1) H (fun v M1 j r => hR v M1 (Sm.tr j2 j) r))
          · skip
            replace H := H.2 c4
            refine g_iload 0 121 dX4_rankOf_119 rfl rfl ?_
            refine g_if_ge 128 124 dX4_rankOf_121 rfl rfl (fun c5 => ?_) (fun c5 => ?_)
            · skip
              replace H := H.1 c5
              refine g_iload 0 130 dX4_rankOf_128 rfl rfl ?_
              refine g_bipush (99) 132 dX4_rankOf_130 rfl rfl ?_
              refine g_icmp_le 140 135 dX4_rankOf_132 rfl rfl (fun c6 => ?_) (fun c6 => ?_)
              · skip
                replace H := H.1 c6
                refine g_iload 0 142 dX4_rankOf_140 rfl rfl ?_
                refine g_istore 144 [(6, .int (v2)), (8, .int (v2)), (0, .ref a0), (1, .ref a1), (7, .int (x7))] dX4_rankOf_142 rfl (Nat.le_of_ble_eq_true rfl) rfl ?_
                refine g_iinc _ 4 147 [(7, .int ((x7 + 1))), (6, .int (v2)), (8, .int (v2)), (0, .ref a0), (1, .ref a1)] dX4_rankOf_144 rfl rfl rfl (Nat.le_of_ble_eq_true rfl) rfl ?_
                refine g_goto 59 dX4_rankOf_147 rfl ?_
                exact g_sub [3, 4, 1, 0] _ rfl (ih M2 a0 a1 n1 m1 v2 (x7 + 1) (Su.sm j2 s0) (Tx.sm j2 s1) H (fun v M1 j r => hR v M1 (Sm.tr j2 j) r))
              · skip
                replace H := H.2 c6
                refine g_bipush (99) 137 dX4_rankOf_135 rfl rfl ?_
                refine g_goto 142 dX4_rankOf_137 rfl ?_
                refine g_istore 144 [(6, .int (99)), (8, .int (v2)), (0, .ref a0), (1, .ref a1), (7, .int (x7))] dX4_rankOf_142 rfl (Nat.le_of_ble_eq_true rfl) rfl ?_
                refine g_iinc _ 4 147 [(7, .int ((x7 + 1))), (6, .int (99)), (8, .int (v2)), (0, .ref a0), (1, .ref a1)] dX4_rankOf_144 rfl rfl rfl (Nat.le_of_ble_eq_true rfl) rfl ?_
                refine g_goto 59 dX4_rankOf_147 rfl ?_
                exact g_sub [3, 4, 1, 0] _ rfl (ih M2 a0 a1 n1 m1 99 (x7 + 1) (Su.sm j2 s0) (Tx.sm j2 s1) H (fun v M1 j r => hR v M1 (Sm.tr j2 j) r))
            · skip
              replace H := H.2 c5
              refine g_iconst (0) 125 dX4_rankOf_124 rfl rfl ?_
              refine g_goto 142 dX4_rankOf_125 rfl ?_
              refine g_istore 144 [(6, .int (0)), (8, .int (v2)), (0, .ref a0), (1, .ref a1), (7, .int (x7))] dX4_rankOf_142 rfl (Nat.le_of_ble_eq_true rfl) rfl ?_
              refine g_iinc _ 4 147 [(7, .int ((x7 + 1))), (6, .int (0)), (8, .int (v2)), (0, .ref a0), (1, .ref a1)] dX4_rankOf_144 rfl rfl rfl (Nat.le_of_ble_eq_true rfl) rfl ?_
              refine g_goto 59 dX4_rankOf_147 rfl ?_
              exact g_sub [3, 4, 1, 0] _ rfl (ih M2 a0 a1 n1 m1 0 (x7 + 1) (Su.sm j2 s0) (Tx.sm j2 s1) H (fun v M1 j r => hR v M1 (Sm.tr j2 j) r))
        · skip
          replace H := H.2 c3
          refine g_goto 144 dX4_rankOf_95 rfl ?_
          refine g_iinc _ 3 147 [(7, .int ((x7 + 1))), (0, .ref a0), (1, .ref a1), (6, .int (x6))] dX4_rankOf_144 rfl rfl rfl (Nat.le_of_ble_eq_true rfl) rfl ?_
          refine g_goto 59 dX4_rankOf_147 rfl ?_
          exact g_sub [1, 2, 3, 0] _ rfl (ih M1 a0 a1 n1 m1 x6 (x7 + 1) (Su.sm j1 s0) (Tx.sm j1 s1) H (fun v M1 j r => hR v M1 (Sm.tr j1 j) r))
set_option maxRecDepth 10000 in
theorem uX4_rankOf {N K : Nat} {X : gX} {d mc ms : Nat} {Q : Option Value → gM → Prop} {M : gM} {a0 : Nat} {a1 : Nat} {n1 m1 : Nat} {a2 : Nat} {x3 : Int32} {x4 : Int32} {x5 : Int32} {R : Int32 → gM → Prop} (s0 : Su M a0) (s1 : Tx M a1 n1 m1) (s2 : St M a2) (H : pX4_rankOf N K M a0 a1 n1 m1 a2 x3 x4 x5 R) (hR : ∀ (v : Int32) (M1 : gM), Sm M M1 → R v M1 → Q (some (.int v)) M1) : Cn X (d + 2) mc ms kX4_rankOf [.ref a0, .ref a1, .ref a2, .int (x3), .int (x4), .int (x5)] M Q := by
  have ih := ulX4_rankOf (X := X) (d := d) (mc := mc) (ms := ms) (Q := Q) (N := N) (K := K) (R := R) N
  unfold pX4_rankOf pX4_rankOf_0 at H
  refine g_meth rfl rfl (Nat.le_of_ble_eq_true rfl) rfl ?_
  refine g_aload_n 0 1 dX4_rankOf_0 rfl rfl ?_
  refine g_aload_n 2 2 dX4_rankOf_1 rfl rfl ?_
  refine g_iload_n 3 3 dX4_rankOf_2 rfl rfl ?_
  refine g_callV (mc1 := 0) (ms1 := 0) (b := a0) (rest := []) (av := [.ref a2, .int (x3)]) kX4_tellLaw 6 dX4_rankOf_3 rfl rfl mbX4_18 imX4_tellLaw seX4_tellLaw gcl4.1 s0.1 (Nat.le_of_ble_eq_true rfl) (Nat.zero_le _) (Nat.zero_le _) (uX4_tellLaw (N := N) (K := K) s0 s2 H (fun M1 jj H => ?_))
  have j1 : Sm M M1 := jj
  show Go X (d + 2) mc ms kX4_rankOf Q 6 [(0, .ref a0), (1, .ref a1), (2, .ref a2), (3, .int (x3)), (4, .int (x4)), (5, .int (x5))] [] M1 0 0
  refine g_aload_n 0 7 dX4_rankOf_6 rfl rfl ?_
  refine g_getR 10 (a0 + 1) dX4_rankOf_7 rfl flX4_9 (Sm.k j1 s0.1) (Sm.r j1 s0.2.1) ?_
  refine g_iconst (0) 11 dX4_rankOf_10 rfl rfl ?_
  refine g_iload 4 13 dX4_rankOf_11 rfl rfl ?_
  refine h_iastore 14 0 dX4_rankOf_13 rfl rfl (Sm.k j1 s0.2.2.1) (vp_lit rfl) ?_
  generalize hM2 : (g_wi M1 (a0 + 1) 0 x4) = M2
  have j2 : Sm M M2 := by rw [← hM2]; exact (Sm.wi j1)
  replace H := H M2 hM2.symm
  refine g_aload_n 0 15 dX4_rankOf_14 rfl rfl ?_
  refine g_getR 18 (a0 + 1) dX4_rankOf_15 rfl flX4_9 (Sm.k j2 s0.1) (Sm.r j2 s0.2.1) ?_
  refine g_iconst (1) 19 dX4_rankOf_18 rfl rfl ?_
  refine g_aload_n 2 20 dX4_rankOf_19 rfl rfl ?_
  refine g_getI 23 dX4_rankOf_20 rfl flX4_22 (Sm.k j2 s2.1) ?_
  refine g_if_le 36 26 dX4_rankOf_23 rfl rfl (fun c1 => ?_) (fun c1 => ?_)
  · skip
    replace H := H.1 c1
    refine g_iconst ((-1)) 37 dX4_rankOf_36 rfl rfl ?_
    refine h_iastore 38 1 dX4_rankOf_37 rfl rfl (Sm.k j2 s0.2.2.1) (vp_lit rfl) ?_
    generalize hM3 : (g_wi M2 (a0 + 1) 1 (-1)) = M3
    have j3 : Sm M M3 := by rw [← hM3]; exact (Sm.wi j2)
    replace H := H M3 hM3.symm
    refine g_aload_n 0 39 dX4_rankOf_38 rfl rfl ?_
    refine g_getR 42 (a0 + 1) dX4_rankOf_39 rfl flX4_9 (Sm.k j3 s0.1) (Sm.r j3 s0.2.1) ?_
    refine g_iconst (5) 43 dX4_rankOf_42 rfl rfl ?_
    refine g_iload 5 45 dX4_rankOf_43 rfl rfl ?_
    refine h_iastore 46 5 dX4_rankOf_45 rfl rfl (Sm.k j3 s0.2.2.1) (vp_lit rfl) ?_
    generalize hM4 : (g_wi M3 (a0 + 1) 5 x5) = M4
    have j4 : Sm M M4 := by rw [← hM4]; exact (Sm.wi j3)
    replace H := H M4 hM4.symm
    refine g_aload_n 0 47 dX4_rankOf_46 rfl rfl ?_
    refine g_getR 50 (a0 + 1) dX4_rankOf_47 rfl flX4_9 (Sm.k j4 s0.1) (Sm.r j4 s0.2.1) ?_
    refine g_iconst (2) 51 dX4_rankOf_50 rfl rfl ?_
    refine g_iconst ((-1)) 52 dX4_rankOf_51 rfl rfl ?_
    refine h_iastore 53 2 dX4_rankOf_52 rfl rfl (Sm.k j4 s0.2.2.1) (vp_lit rfl) ?_
    generalize hM5 : (g_wi M4 (a0 + 1) 2 (-1)) = M5
    have j5 : Sm M M5 := by rw [← hM5]; exact (Sm.wi j4)
    replace H := H M5 hM5.symm
    refine g_iconst (0) 54 dX4_rankOf_53 rfl rfl ?_
    refine g_istore 56 [(6, .int (0)), (0, .ref a0), (1, .ref a1), (2, .ref a2), (3, .int (x3)), (4, .int (x4)), (5, .int (x5))] dX4_rankOf_54 rfl (Nat.le_of_ble_eq_true rfl) rfl ?_
    refine g_iconst (0) 57 dX4_rankOf_56 rfl rfl ?_
    refine g_istore 59 [(7, .int (0)), (6, .int (0)), (0, .ref a0), (1, .ref a1), (2, .ref a2), (3, .int (x3)), (4, .int (x4)), (5, .int (x5))] dX4_rankOf_57 rfl (Nat.le_of_ble_eq_true rfl) rfl ?_
    exact g_sub [2, 3, 1, 0] _ rfl (ih M5 a0 a1 n1 m1 0 0 (Su.sm j5 s0) (Tx.sm j5 s1) H (fun v M1 j r => hR v M1 (Sm.tr j5 j) r))
  · skip
    replace H := H.2 c1
    refine g_iload 4 28 dX4_rankOf_26 rfl rfl ?_
    refine g_aload_n 2 29 dX4_rankOf_28 rfl rfl ?_
    refine g_getI 32 dX4_rankOf_29 rfl flX4_22 (Sm.k j2 s2.1) ?_
    obtain ⟨b1, H⟩ := H
    refine g_idiv 33 dX4_rankOf_32 rfl b1 ?_
    refine g_goto 37 dX4_rankOf_33 rfl ?_
    refine h_iastore 38 1 dX4_rankOf_37 rfl rfl (Sm.k j2 s0.2.2.1) (vp_lit rfl) ?_
    generalize hM6 : (g_wi M2 (a0 + 1) 1 (x4 / (g_mi M2 a2 4))) = M6
    have j6 : Sm M M6 := by rw [← hM6]; exact (Sm.wi j2)
    replace H := H M6 hM6.symm
    refine g_aload_n 0 39 dX4_rankOf_38 rfl rfl ?_
    refine g_getR 42 (a0 + 1) dX4_rankOf_39 rfl flX4_9 (Sm.k j6 s0.1) (Sm.r j6 s0.2.1) ?_
    refine g_iconst (5) 43 dX4_rankOf_42 rfl rfl ?_
    refine g_iload 5 45 dX4_rankOf_43 rfl rfl ?_
    refine h_iastore 46 5 dX4_rankOf_45 rfl rfl (Sm.k j6 s0.2.2.1) (vp_lit rfl) ?_
    generalize hM7 : (g_wi M6 (a0 + 1) 5 x5) = M7
    have j7 : Sm M M7 := by rw [← hM7]; exact (Sm.wi j6)
    replace H := H M7 hM7.symm
    refine g_aload_n 0 47 dX4_rankOf_46 rfl rfl ?_
    refine g_getR 50 (a0 + 1) dX4_rankOf_47 rfl flX4_9 (Sm.k j7 s0.1) (Sm.r j7 s0.2.1) ?_
    refine g_iconst (2) 51 dX4_rankOf_50 rfl rfl ?_
    refine g_iconst ((-1)) 52 dX4_rankOf_51 rfl rfl ?_
    refine h_iastore 53 2 dX4_rankOf_52 rfl rfl (Sm.k j7 s0.2.2.1) (vp_lit rfl) ?_
    generalize hM8 : (g_wi M7 (a0 + 1) 2 (-1)) = M8
    have j8 : Sm M M8 := by rw [← hM8]; exact (Sm.wi j7)
    replace H := H M8 hM8.symm
    refine g_iconst (0) 54 dX4_rankOf_53 rfl rfl ?_
    refine g_istore 56 [(6, .int (0)), (0, .ref a0), (1, .ref a1), (2, .ref a2), (3, .int (x3)), (4, .int (x4)), (5, .int (x5))] dX4_rankOf_54 rfl (Nat.le_of_ble_eq_true rfl) rfl ?_
    refine g_iconst (0) 57 dX4_rankOf_56 rfl rfl ?_
    refine g_istore 59 [(7, .int (0)), (6, .int (0)), (0, .ref a0), (1, .ref a1), (2, .ref a2), (3, .int (x3)), (4, .int (x4)), (5, .int (x5))] dX4_rankOf_57 rfl (Nat.le_of_ble_eq_true rfl) rfl ?_
    exact g_sub [2, 3, 1, 0] _ rfl (ih M8 a0 a1 n1 m1 0 0 (Su.sm j8 s0) (Tx.sm j8 s1) H (fun v M1 j r => hR v M1 (Sm.tr j8 j) r))
/-! X4_isBarred -/
def pX4_isBarred_0 (N K : Nat) (kp : Nat → gM → Nat → Nat → Nat → Nat → Int32 → Prop) (R : Int32 → gM → Prop) (M : gM) (a0 : Nat) (a1 : Nat) (n1 : Nat) (m1 : Nat) (a2 : Nat) (x3 : Int32) : Prop := pX4_tellLaw N K M a0 a2 (g_mi M a2 5) (fun M1 => ∀ M2 : gM, M2 = (g_wi M1 (a0 + 1) 0 (-1)) → ∀ M3 : gM, M3 = (g_wi M2 (a0 + 1) 1 (-1)) → ∀ M4 : gM, M4 = (g_wi M3 (a0 + 1) 5 (-1)) → ∀ M5 : gM, M5 = (g_wi M4 (a0 + 1) 2 x3) → kp 0 M5 a0 a1 n1 m1 0)
def pX4_isBarred_40 (N K : Nat) (kp : Nat → gM → Nat → Nat → Nat → Nat → Int32 → Prop) (R : Int32 → gM → Prop) (M : gM) (a0 : Nat) (a1 : Nat) (n1 : Nat) (m1 : Nat) (x4 : Int32) : Prop := (((g_mi M a1 6) ≤ x4 → R 0 M) ∧ (¬ (g_mi M a1 6) ≤ x4 → (vp_in (x4) n1) ∧ ((¬ (g_mi M (a1 + 1) (x4).toNatClampNeg) = 6 → kp 0 M a0 a1 n1 m1 (x4 + 1)) ∧ ((g_mi M (a1 + 1) (x4).toNatClampNeg) = 6 → pX4_valueOf N K M a0 a1 n1 m1 (g_mi M (a1 + 4) (x4).toNatClampNeg) (fun v1 M1 => ((¬ v1 = 1 → kp 0 M1 a0 a1 n1 m1 (x4 + 1)) ∧ (v1 = 1 → R 1 M1)))))))
def qX4_isBarred (N K : Nat) (R : Int32 → gM → Prop) : Nat → Nat → gM → Nat → Nat → Nat → Nat → Int32 → Prop
  | 0, _, _, _, _, _, _, _ => False
  | n + 1, _, M, a0, a1, n1, m1, x4 => pX4_isBarred_40 N K (qX4_isBarred N K R n) R M a0 a1 n1 m1 x4
def pX4_isBarred (N K : Nat) (M : gM) (a0 : Nat) (a1 : Nat) (n1 : Nat) (m1 : Nat) (a2 : Nat) (x3 : Int32) (R : Int32 → gM → Prop) : Prop := pX4_isBarred_0 N K (qX4_isBarred N K R N) R M a0 a1 n1 m1 a2 x3
def ULX4_isBarred (X : gX) (d mc ms : Nat) (Q : Option Value → gM → Prop) (N K : Nat) (R : Int32 → gM → Prop) (n : Nat) : Prop := (∀ (M : gM) (a0 : Nat) (a1 : Nat) (n1 : Nat) (m1 : Nat) (x4 : Int32), Su M a0 → Tx M a1 n1 m1 → qX4_isBarred N K R n 0 M a0 a1 n1 m1 x4 → (∀ (v : Int32) (M1 : gM), Sm M M1 → R v M1 → Q (some (.int v)) M1) → Go X (d + 2) mc ms kX4_isBarred Q 40 [(0, .ref a0), (1, .ref a1), (4, .int (x4))] [] M 0 0)
set_option maxRecDepth 10000 in
theorem ulX4_isBarred {X : gX} {d mc ms : Nat} {Q : Option Value → gM → Prop} {N K : Nat} {R : Int32 → gM → Prop} : ∀ n : Nat, ULX4_isBarred X d mc ms Q N K R n := by
  intro n
  induction n with
  | zero => exact fun _ _ _ _ _ _ _ _ h _ => h.elim
  | succ n ih =>
    intro M a0 a1 n1 m1 x4 s0 s1 H hR
    rw [qX4_isBarred] at H
    unfold pX4_isBarred_40 at H
    refine g_iload 2 42 dX4_isBarred_40 rfl rfl ?_
    refine g_aload_n 1 43 dX4_isBarred_42 rfl rfl ?_
    refine g_getI 46 dX4_isBarred_43 rfl flX4_28 s1.1 ?_
    refine g_icmp_ge 85 49 dX4_isBarred_46 rfl rfl (fun c1 => ?_) (fun c1 => ?_)
    · skip
      replace H := H.1 c1
      refine g_iconst (0) 86 dX4_isBarred_85 rfl rfl ?_
      exact g_zret dX4_isBarred_86 rfl (by decide) (Nat.zero_le _) (Nat.zero_le _) (hR _ _ Sm.rf H)
    · skip
      replace H := H.2 c1
      refine g_aload_n 1 50 dX4_isBarred_49 rfl rfl ?_
      refine g_getR 53 (a1 + 1) dX4_isBarred_50 rfl flX4_33 s1.1 s1.2.1 ?_
      refine g_iload 2 55 dX4_isBarred_53 rfl rfl ?_
      obtain ⟨b1, H⟩ := H
      refine h_iaload 56 (x4).toNatClampNeg dX4_isBarred_55 rfl rfl s1.2.2.1 b1 ?_
      refine g_bipush (6) 58 dX4_isBarred_56 rfl rfl ?_
      refine g_icmp_ne 79 61 dX4_isBarred_58 rfl rfl (fun c2 => ?_) (fun c2 => ?_)
      · skip
        replace H := H.1 c2
        refine g_iinc _ 2 82 [(4, .int ((x4 + 1))), (0, .ref a0), (1, .ref a1)] dX4_isBarred_79 rfl rfl rfl (Nat.le_of_ble_eq_true rfl) rfl ?_
        refine g_goto 40 dX4_isBarred_82 rfl ?_
        exact g_sub [1, 2, 0] _ rfl (ih M a0 a1 n1 m1 (x4 + 1) s0 s1 H (fun v M1 j r => hR v M1 j r))
      · skip
        replace H := H.2 c2
        refine g_aload_n 0 62 dX4_isBarred_61 rfl rfl ?_
        refine g_aload_n 1 63 dX4_isBarred_62 rfl rfl ?_
        refine g_aload_n 1 64 dX4_isBarred_63 rfl rfl ?_
        refine g_getR 67 (a1 + 4) dX4_isBarred_64 rfl flX4_36 s1.1 s1.2.2.2.2.2.2.2.1 ?_
        refine g_iload 2 69 dX4_isBarred_67 rfl rfl ?_
        refine h_iaload 70 (x4).toNatClampNeg dX4_isBarred_69 rfl rfl s1.2.2.2.2.2.2.2.2.1 b1 ?_
        refine g_callV (mc1 := 0) (ms1 := 0) (b := a0) (rest := []) (av := [.ref a1, .int ((g_mi M (a1 + 4) (x4).toNatClampNeg))]) kX4_valueOf 73 dX4_isBarred_70 rfl rfl mbX4_39 imX4_valueOf seX4_valueOf gcl4.1 s0.1 (Nat.le_of_ble_eq_true rfl) (Nat.zero_le _) (Nat.zero_le _) (uX4_valueOf (N := N) (K := K) s0 s1 H (fun v1 M1 jj H => ?_))
        have j1 : Sm M M1 := jj
        show Go X (d + 2) mc ms kX4_isBarred Q 73 [(0, .ref a0), (1, .ref a1), (4, .int (x4))] [.int (v1)] M1 0 0
        refine g_iconst (1) 74 dX4_isBarred_73 rfl rfl ?_
        refine g_icmp_ne 79 77 dX4_isBarred_74 rfl rfl (fun c3 => ?_) (fun c3 => ?_)
        · skip
          replace H := H.1 c3
          refine g_iinc _ 2 82 [(4, .int ((x4 + 1))), (0, .ref a0), (1, .ref a1)] dX4_isBarred_79 rfl rfl rfl (Nat.le_of_ble_eq_true rfl) rfl ?_
          refine g_goto 40 dX4_isBarred_82 rfl ?_
          exact g_sub [1, 2, 0] _ rfl (ih M1 a0 a1 n1 m1 (x4 + 1) (Su.sm j1 s0) (Tx.sm j1 s1) H (fun v M1 j r => hR v M1 (Sm.tr j1 j) r))
        · skip
          replace H := H.2 c3
          refine g_iconst (1) 78 dX4_isBarred_77 rfl rfl ?_
          exact g_zret dX4_isBarred_78 rfl (by decide) (Nat.zero_le _) (Nat.zero_le _) (hR _ _ j1 H)
set_option maxRecDepth 10000 in
theorem uX4_isBarred {N K : Nat} {X : gX} {d mc ms : Nat} {Q : Option Value → gM → Prop} {M : gM} {a0 : Nat} {a1 : Nat} {n1 m1 : Nat} {a2 : Nat} {x3 : Int32} {R : Int32 → gM → Prop} (s0 : Su M a0) (s1 : Tx M a1 n1 m1) (s2 : St M a2) (H : pX4_isBarred N K M a0 a1 n1 m1 a2 x3 R) (hR : ∀ (v : Int32) (M1 : gM), Sm M M1 → R v M1 → Q (some (.int v)) M1) : Cn X (d + 2) mc ms kX4_isBarred [.ref a0, .ref a1, .ref a2, .int (x3)] M Q := by
  have ih := ulX4_isBarred (X := X) (d := d) (mc := mc) (ms := ms) (Q := Q) (N := N) (K := K) (R := R) N
  unfold pX4_isBarred pX4_isBarred_0 at H
  refine g_meth rfl rfl (Nat.le_of_ble_eq_true rfl) rfl ?_
  refine g_aload_n 0 1 dX4_isBarred_0 rfl rfl ?_
  refine g_aload_n 2 2 dX4_isBarred_1 rfl rfl ?_
  refine g_aload_n 2 3 dX4_isBarred_2 rfl rfl ?_
  refine g_getI 6 dX4_isBarred_3 rfl flX4_47 s2.1 ?_
  refine g_callV (mc1 := 0) (ms1 := 0) (b := a0) (rest := []) (av := [.ref a2, .int ((g_mi M a2 5))]) kX4_tellLaw 9 dX4_isBarred_6 rfl rfl mbX4_18 imX4_tellLaw seX4_tellLaw gcl4.1 s0.1 (Nat.le_of_ble_eq_true rfl) (Nat.zero_le _) (Nat.zero_le _) (uX4_tellLaw (N := N) (K := K) s0 s2 H (fun M1 jj H => ?_))
  have j1 : Sm M M1 := jj
  show Go X (d + 2) mc ms kX4_isBarred Q 9 [(0, .ref a0), (1, .ref a1), (2, .ref a2), (3, .int (x3))] [] M1 0 0
  refine g_aload_n 0 10 dX4_isBarred_9 rfl rfl ?_
  refine g_getR 13 (a0 + 1) dX4_isBarred_10 rfl flX4_9 (Sm.k j1 s0.1) (Sm.r j1 s0.2.1) ?_
  refine g_iconst (0) 14 dX4_isBarred_13 rfl rfl ?_
  refine g_iconst ((-1)) 15 dX4_isBarred_14 rfl rfl ?_
  refine h_iastore 16 0 dX4_isBarred_15 rfl rfl (Sm.k j1 s0.2.2.1) (vp_lit rfl) ?_
  generalize hM2 : (g_wi M1 (a0 + 1) 0 (-1)) = M2
  have j2 : Sm M M2 := by rw [← hM2]; exact (Sm.wi j1)
  replace H := H M2 hM2.symm
  refine g_aload_n 0 17 dX4_isBarred_16 rfl rfl ?_
  refine g_getR 20 (a0 + 1) dX4_isBarred_17 rfl flX4_9 (Sm.k j2 s0.1) (Sm.r j2 s0.2.1) ?_
  refine g_iconst (1) 21 dX4_isBarred_20 rfl rfl ?_
  refine g_iconst ((-1)) 22 dX4_isBarred_21 rfl rfl ?_
  refine h_iastore 23 1 dX4_isBarred_22 rfl rfl (Sm.k j2 s0.2.2.1) (vp_lit rfl) ?_
  generalize hM3 : (g_wi M2 (a0 + 1) 1 (-1)) = M3
  have j3 : Sm M M3 := by rw [← hM3]; exact (Sm.wi j2)
  replace H := H M3 hM3.symm
  refine g_aload_n 0 24 dX4_isBarred_23 rfl rfl ?_
  refine g_getR 27 (a0 + 1) dX4_isBarred_24 rfl flX4_9 (Sm.k j3 s0.1) (Sm.r j3 s0.2.1) ?_
  refine g_iconst (5) 28 dX4_isBarred_27 rfl rfl ?_
  refine g_iconst ((-1)) 29 dX4_isBarred_28 rfl rfl ?_
  refine h_iastore 30 5 dX4_isBarred_29 rfl rfl (Sm.k j3 s0.2.2.1) (vp_lit rfl) ?_
  generalize hM4 : (g_wi M3 (a0 + 1) 5 (-1)) = M4
  have j4 : Sm M M4 := by rw [← hM4]; exact (Sm.wi j3)
  replace H := H M4 hM4.symm
  refine g_aload_n 0 31 dX4_isBarred_30 rfl rfl ?_
  refine g_getR 34 (a0 + 1) dX4_isBarred_31 rfl flX4_9 (Sm.k j4 s0.1) (Sm.r j4 s0.2.1) ?_
  refine g_iconst (2) 35 dX4_isBarred_34 rfl rfl ?_
  refine g_iload_n 3 36 dX4_isBarred_35 rfl rfl ?_
  refine h_iastore 37 2 dX4_isBarred_36 rfl rfl (Sm.k j4 s0.2.2.1) (vp_lit rfl) ?_
  generalize hM5 : (g_wi M4 (a0 + 1) 2 x3) = M5
  have j5 : Sm M M5 := by rw [← hM5]; exact (Sm.wi j4)
  replace H := H M5 hM5.symm
  refine g_iconst (0) 38 dX4_isBarred_37 rfl rfl ?_
  refine g_istore 40 [(4, .int (0)), (0, .ref a0), (1, .ref a1), (2, .ref a2), (3, .int (x3))] dX4_isBarred_38 rfl (Nat.le_of_ble_eq_true rfl) rfl ?_
  exact g_sub [1, 2, 0] _ rfl (ih M5 a0 a1 n1 m1 0 (Su.sm j5 s0) (Tx.sm j5 s1) H (fun v M1 j r => hR v M1 (Sm.tr j5 j) r))
/-! X8_canBe -/
def pX8_canBe (N K : Nat) (M : gM) (a0 : Nat) (x1 : Int32) (R : Int32 → gM → Prop) : Prop := pX8_collectPossible N K M a0 (fun v1 M1 => ((¬ x1 = (-1) → ((x1 < 0 → R (-1) M1) ∧ (¬ x1 < 0 → ((v1 ≤ x1 → R (-1) M1) ∧ (¬ v1 ≤ x1 → (vp_in (x1) 30) ∧ R (g_mi M1 (a0 + 305) (x1).toNatClampNeg) M1))))) ∧ (x1 = (-1) → R v1 M1)))
set_option maxRecDepth 10000 in
theorem uX8_canBe {N K : Nat} {X : gX} {d mc ms : Nat} {Q : Option Value → gM → Prop} {M : gM} {a0 : Nat} {x1 : Int32} {R : Int32 → gM → Prop} (s0 : Ph M a0) (H : pX8_canBe N K M a0 x1 R) (hR : ∀ (v : Int32) (M1 : gM), Sm M M1 → R v M1 → Q (some (.int v)) M1) : Cn X (d + 4) mc ms kX8_canBe [.ref a0, .int (x1)] M Q := by
  unfold pX8_canBe at H
  refine g_meth rfl rfl (Nat.le_of_ble_eq_true rfl) rfl ?_
  refine g_aload_n 0 1 dX8_canBe_0 rfl rfl ?_
  refine g_callV (mc1 := 0) (ms1 := 0) (b := a0) (rest := []) (av := []) kX8_collectPossible 4 dX8_canBe_1 rfl rfl mbX8_294 imX8_collectPossible seX8_collectPossible gcl8.1 s0.1 (Nat.le_of_ble_eq_true rfl) (Nat.zero_le _) (Nat.zero_le _) (uX8_collectPossible (N := N) (K := K) s0 H (fun v1 M1 jj H => ?_))
  have j1 : Sm M M1 := jj
  show Go X (d + 4) mc ms kX8_canBe Q 4 [(0, .ref a0), (1, .int (x1))] [.int (v1)] M1 0 0
  refine g_istore_n 5 [(2, .int (v1)), (0, .ref a0), (1, .int (x1))] dX8_canBe_4 rfl (Nat.le_of_ble_eq_true rfl) rfl ?_
  refine g_iload_n 2 6 dX8_canBe_5 rfl rfl ?_
  refine g_iconst ((-1)) 7 dX8_canBe_6 rfl rfl ?_
  refine g_icmp_ne 12 10 dX8_canBe_7 rfl rfl (fun c1 => ?_) (fun c1 => ?_)
  · skip
    replace H := H.1 c1
    refine g_iload_n 2 13 dX8_canBe_12 rfl rfl ?_
    refine g_if_lt 30 16 dX8_canBe_13 rfl rfl (fun c2 => ?_) (fun c2 => ?_)
    · skip
      replace H := H.1 c2
      refine g_iconst ((-1)) 31 dX8_canBe_30 rfl rfl ?_
      exact g_iret dX8_canBe_31 rfl (Nat.zero_le _) (Nat.zero_le _) (hR _ _ j1 H)
    · skip
      replace H := H.2 c2
      refine g_iload_n 2 17 dX8_canBe_16 rfl rfl ?_
      refine g_iload_n 0 18 dX8_canBe_17 rfl rfl ?_
      refine g_icmp_ge 30 21 dX8_canBe_18 rfl rfl (fun c3 => ?_) (fun c3 => ?_)
      · skip
        replace H := H.1 c3
        refine g_iconst ((-1)) 31 dX8_canBe_30 rfl rfl ?_
        exact g_iret dX8_canBe_31 rfl (Nat.zero_le _) (Nat.zero_le _) (hR _ _ j1 H)
      · skip
        replace H := H.2 c3
        refine g_aload_n 1 22 dX8_canBe_21 rfl rfl ?_
        refine g_getR 25 (a0 + 305) dX8_canBe_22 rfl flX8_81 (Sm.k j1 s0.1) (Sm.r j1 s0.2.2.2.2.2.2.2.2.2.2.2.2.2.2.2.2.2.2.2.2.2.2.2.2.2.1) ?_
        refine g_iload_n 2 26 dX8_canBe_25 rfl rfl ?_
        obtain ⟨b1, H⟩ := H
        refine h_iaload 27 (x1).toNatClampNeg dX8_canBe_26 rfl rfl (Sm.k j1 s0.2.2.2.2.2.2.2.2.2.2.2.2.2.2.2.2.2.2.2.2.2.2.2.2.2.2.1) b1 ?_
        refine g_goto 31 dX8_canBe_27 rfl ?_
        exact g_iret dX8_canBe_31 rfl (Nat.zero_le _) (Nat.zero_le _) (hR _ _ j1 H)
  · skip
    replace H := H.2 c1
    refine g_iload_n 0 11 dX8_canBe_10 rfl rfl ?_
    exact g_iret dX8_canBe_11 rfl (Nat.zero_le _) (Nat.zero_le _) (hR _ _ j1 H)
/-! X8_ask -/
def pX8_ask_0 (N K : Nat) (kp : Nat → gM → Nat → Int32 → Int32 → Nat → Int32 → Int32 → Int32 → Int32 → Int32 → Prop) (R : Int32 → gM → Prop) (M : gM) (a0 : Nat) (x1 : Int32) : Prop := pX8_collectPossible N K M a0 (fun v1 M1 => ((v1 = 0 → R (-1) M1) ∧ (¬ v1 = 0 → ((x1 < 0 → R (-1) M1) ∧ (¬ x1 < 0 → ((x1 ≤ 1 → kp 0 M1 a0 x1 v1 ((a0 + 1) + 1) 0 31 0 0 0) ∧ (¬ x1 ≤ 1 → R (-1) M1)))))))
def pX8_ask_38 (N K : Nat) (kp : Nat → gM → Nat → Int32 → Int32 → Nat → Int32 → Int32 → Int32 → Int32 → Int32 → Prop) (R : Int32 → gM → Prop) (M : gM) (a0 : Nat) (x1 : Int32) (x2 : Int32) (a3 : Nat) (x4 : Int32) (x5 : Int32) (x6 : Int32) : Prop := (((3 * (g_mi M a3 4)) ≤ x6 → ((¬ x1 = 0 → R x5 M) ∧ (x1 = 0 → R x4 M))) ∧ (¬ (3 * (g_mi M a3 4)) ≤ x6 → kp 1 M a0 x1 x2 a3 x4 x5 x6 0 0))
def pX8_ask_55 (N K : Nat) (kp : Nat → gM → Nat → Int32 → Int32 → Nat → Int32 → Int32 → Int32 → Int32 → Int32 → Prop) (R : Int32 → gM → Prop) (M : gM) (a0 : Nat) (x1 : Int32) (x2 : Int32) (a3 : Nat) (x4 : Int32) (x5 : Int32) (x6 : Int32) (x7 : Int32) (x8 : Int32) : Prop := ((x2 ≤ x8 → ((x5 ≤ (i_max x7 (x2 - x7)) → kp 0 M a0 x1 x2 a3 x4 x5 (x6 + 1) 0 0) ∧ (¬ x5 ≤ (i_max x7 (x2 - x7)) → kp 0 M a0 x1 x2 a3 x6 (i_max x7 (x2 - x7)) (x6 + 1) 0 0))) ∧ (¬ x2 ≤ x8 → (vp_in (x8) 30) ∧ (EX3_keyHas M a3 (g_mi M (a0 + 305) (x8).toNatClampNeg) x6) ∧ ∀ v1 : Int32, v1 = (fX3_keyHas M a3 (g_mi M (a0 + 305) (x8).toNatClampNeg) x6) → ((v1 = 0 → kp 1 M a0 x1 x2 a3 x4 x5 x6 x7 (x8 + 1)) ∧ (¬ v1 = 0 → kp 1 M a0 x1 x2 a3 x4 x5 x6 (x7 + 1) (x8 + 1)))))
def qX8_ask (N K : Nat) (R : Int32 → gM → Prop) : Nat → Nat → gM → Nat → Int32 → Int32 → Nat → Int32 → Int32 → Int32 → Int32 → Int32 → Prop
  | 0, _, _, _, _, _, _, _, _, _, _, _ => False
  | n + 1, h, M, a0, x1, x2, a3, x4, x5, x6, x7, x8 => if h = 0 then pX8_ask_38 N K (qX8_ask N K R n) R M a0 x1 x2 a3 x4 x5 x6 else pX8_ask_55 N K (qX8_ask N K R n) R M a0 x1 x2 a3 x4 x5 x6 x7 x8
def pX8_ask (N K : Nat) (M : gM) (a0 : Nat) (x1 : Int32) (R : Int32 → gM → Prop) : Prop := pX8_ask_0 N K (qX8_ask N K R N) R M a0 x1
def ULX8_ask (X : gX) (d mc ms : Nat) (Q : Option Value → gM → Prop) (N K : Nat) (R : Int32 → gM → Prop) (n : Nat) : Prop := (∀ (M : gM) (a0 : Nat) (x1 : Int32) (x2 : Int32) (a3 : Nat) (x4 : Int32) (x5 : Int32) (x6 : Int32) (x7 : Int32) (x8 : Int32), Ph M a0 → St M a3 → qX8_ask N K R n 0 M a0 x1 x2 a3 x4 x5 x6 x7 x8 → (∀ (v : Int32) (M1 : gM), Sm M M1 → R v M1 → Q (some (.int v)) M1) → Go X (d + 4) mc ms kX8_ask Q 38 [(0, .ref a0), (1, .int (x1)), (2, .int (x2)), (3, .ref a3), (4, .int (x4)), (5, .int (x5)), (6, .int (x6))] [] M 0 0) ∧ (∀ (M : gM) (a0 : Nat) (x1 : Int32) (x2 : Int32) (a3 : Nat) (x4 : Int32) (x5 : Int32) (x6 : Int32) (x7 : Int32) (x8 : Int32), Ph M a0 → St M a3 → qX8_ask N K R n 1 M a0 x1 x2 a3 x4 x5 x6 x7 x8 → (∀ (v : Int32) (M1 : gM), Sm M M1 → R v M1 → Q (some (.int v)) M1) → Go X (d + 4) mc ms kX8_ask Q 55 [(0, .ref a0), (1, .int (x1)), (2, .int (x2)), (3, .ref a3), (4, .int (x4)), (5, .int (x5)), (6, .int (x6)), (7, .int (x7)), (8, .int (x8))] [] M 0 0)
set_option maxRecDepth 10000 in
theorem ulX8_ask {X : gX} {d mc ms : Nat} {Q : Option Value → gM → Prop} {N K : Nat} {R : Int32 → gM → Prop} : ∀ n : Nat, ULX8_ask X d mc ms Q N K R n := by
  intro n
  induction n with
  | zero => exact ⟨fun _ _ _ _ _ _ _ _ _ _ _ _ h _ => h.elim, fun _ _ _ _ _ _ _ _ _ _ _ _ h _ => h.elim⟩
  | succ n ih =>
    refine ⟨?_, ?_⟩
    · intro M a0 x1 x2 a3 x4 x5 x6 x7 x8 s0 s3 H hR
      rw [qX8_ask, if_pos (show (0 : Nat) = 0 from rfl)] at H
      unfold pX8_ask_38 at H
      refine g_iload 6 40 dX8_ask_38 rfl rfl ?_
      refine g_iconst (3) 41 dX8_ask_40 rfl rfl ?_
      refine g_aload_n 3 42 dX8_ask_41 rfl rfl ?_
      refine g_getI 45 dX8_ask_42 rfl flX8_119 s3.1 ?_
      refine g_imul 46 dX8_ask_45 rfl ?_
      refine g_icmp_ge 118 49 dX8_ask_46 rfl rfl (fun c1 => ?_) (fun c1 => ?_)
      · skip
        replace H := H.1 c1
        refine g_iload_n 1 119 dX8_ask_118 rfl rfl ?_
        refine g_if_ne 127 122 dX8_ask_119 rfl rfl (fun c2 => ?_) (fun c2 => ?_)
        · skip
          replace H := H.1 c2
          refine g_iload 5 129 dX8_ask_127 rfl rfl ?_
          exact g_iret dX8_ask_129 rfl (Nat.zero_le _) (Nat.zero_le _) (hR _ _ Sm.rf H)
        · skip
          replace H := H.2 c2
          refine g_iload 4 124 dX8_ask_122 rfl rfl ?_
          refine g_goto 129 dX8_ask_124 rfl ?_
          exact g_iret dX8_ask_129 rfl (Nat.zero_le _) (Nat.zero_le _) (hR _ _ Sm.rf H)
      · skip
        replace H := H.2 c1
        refine g_iconst (0) 50 dX8_ask_49 rfl rfl ?_
        refine g_istore 52 [(7, .int (0)), (0, .ref a0), (1, .int (x1)), (2, .int (x2)), (3, .ref a3), (4, .int (x4)), (5, .int (x5)), (6, .int (x6))] dX8_ask_50 rfl (Nat.le_of_ble_eq_true rfl) rfl ?_
        refine g_iconst (0) 53 dX8_ask_52 rfl rfl ?_
        refine g_istore 55 [(8, .int (0)), (7, .int (0)), (0, .ref a0), (1, .int (x1)), (2, .int (x2)), (3, .ref a3), (4, .int (x4)), (5, .int (x5)), (6, .int (x6))] dX8_ask_53 rfl (Nat.le_of_ble_eq_true rfl) rfl ?_
        exact g_sub [2, 3, 4, 5, 6, 7, 8, 1, 0] _ rfl (ih.2 M a0 x1 x2 a3 x4 x5 x6 0 0 s0 s3 H (fun v M1 j r => hR v M1 j r))
    · intro M a0 x1 x2 a3 x4 x5 x6 x7 x8 s0 s3 H hR
      rw [qX8_ask, if_neg (show ¬ (1 : Nat) = 0 by decide)] at H
      unfold pX8_ask_55 at H
      refine g_iload 8 57 dX8_ask_55 rfl rfl ?_
      refine g_iload_n 2 58 dX8_ask_57 rfl rfl ?_
      refine g_icmp_ge 86 61 dX8_ask_58 rfl rfl (fun c1 => ?_) (fun c1 => ?_)
      · skip
        replace H := H.1 c1
        refine g_iload 7 88 dX8_ask_86 rfl rfl ?_
        refine g_iload_n 2 89 dX8_ask_88 rfl rfl ?_
        refine g_iload 7 91 dX8_ask_89 rfl rfl ?_
        refine g_isub 92 dX8_ask_91 rfl ?_
        refine h_max 95 dX8_ask_92 rfl mbX8_302 smJ9_max_7cf53 (Nat.le_of_ble_eq_true rfl) (Nat.zero_le _) (Nat.zero_le _) ?_
        refine g_istore 97 [(8, .int ((i_max x7 (x2 - x7)))), (0, .ref a0), (1, .int (x1)), (2, .int (x2)), (3, .ref a3), (4, .int (x4)), (5, .int (x5)), (6, .int (x6)), (7, .int (x7))] dX8_ask_95 rfl (Nat.le_of_ble_eq_true rfl) rfl ?_
        refine g_iload 0 99 dX8_ask_97 rfl rfl ?_
        refine g_iload 6 101 dX8_ask_99 rfl rfl ?_
        refine g_icmp_ge 112 104 dX8_ask_101 rfl rfl (fun c2 => ?_) (fun c2 => ?_)
        · skip
          replace H := H.1 c2
          refine g_iinc _ 7 115 [(6, .int ((x6 + 1))), (8, .int ((i_max x7 (x2 - x7)))), (0, .ref a0), (1, .int (x1)), (2, .int (x2)), (3, .ref a3), (4, .int (x4)), (5, .int (x5)), (7, .int (x7))] dX8_ask_112 rfl rfl rfl (Nat.le_of_ble_eq_true rfl) rfl ?_
          refine g_goto 38 dX8_ask_115 rfl ?_
          exact g_sub [2, 3, 4, 5, 6, 7, 0] _ rfl (ih.1 M a0 x1 x2 a3 x4 x5 (x6 + 1) 0 0 s0 s3 H (fun v M1 j r => hR v M1 j r))
        · skip
          replace H := H.2 c2
          refine g_iload 0 106 dX8_ask_104 rfl rfl ?_
          refine g_istore 108 [(5, .int ((i_max x7 (x2 - x7)))), (8, .int ((i_max x7 (x2 - x7)))), (0, .ref a0), (1, .int (x1)), (2, .int (x2)), (3, .ref a3), (4, .int (x4)), (6, .int (x6)), (7, .int (x7))] dX8_ask_106 rfl (Nat.le_of_ble_eq_true rfl) rfl ?_
          refine g_iload 7 110 dX8_ask_108 rfl rfl ?_
          refine g_istore 112 [(4, .int (x6)), (5, .int ((i_max x7 (x2 - x7)))), (8, .int ((i_max x7 (x2 - x7)))), (0, .ref a0), (1, .int (x1)), (2, .int (x2)), (3, .ref a3), (6, .int (x6)), (7, .int (x7))] dX8_ask_110 rfl (Nat.le_of_ble_eq_true rfl) rfl ?_
          refine g_iinc _ 7 115 [(6, .int ((x6 + 1))), (4, .int (x6)), (5, .int ((i_max x7 (x2 - x7)))), (8, .int ((i_max x7 (x2 - x7)))), (0, .ref a0), (1, .int (x1)), (2, .int (x2)), (3, .ref a3), (7, .int (x7))] dX8_ask_112 rfl rfl rfl (Nat.le_of_ble_eq_true rfl) rfl ?_
          refine g_goto 38 dX8_ask_115 rfl ?_
          exact g_sub [4, 5, 6, 7, 1, 2, 0] _ rfl (ih.1 M a0 x1 x2 a3 x6 (i_max x7 (x2 - x7)) (x6 + 1) 0 0 s0 s3 H (fun v M1 j r => hR v M1 j r))
      · skip
        replace H := H.2 c1
        refine g_aload_n 3 62 dX8_ask_61 rfl rfl ?_
        refine g_aload_n 0 63 dX8_ask_62 rfl rfl ?_
        refine g_getR 66 (a0 + 305) dX8_ask_63 rfl flX8_81 s0.1 s0.2.2.2.2.2.2.2.2.2.2.2.2.2.2.2.2.2.2.2.2.2.2.2.2.2.1 ?_
        refine g_iload 8 68 dX8_ask_66 rfl rfl ?_
        obtain ⟨b1, H⟩ := H
        refine h_iaload 69 (x8).toNatClampNeg dX8_ask_68 rfl rfl s0.2.2.2.2.2.2.2.2.2.2.2.2.2.2.2.2.2.2.2.2.2.2.2.2.2.2.1 b1 ?_
        refine g_iload 6 71 dX8_ask_69 rfl rfl ?_
        obtain ⟨b2, H⟩ := H
        refine g_callV (mc1 := 0) (ms1 := 0) (b := a3) (rest := []) (av := [.int ((g_mi M (a0 + 305) (x8).toNatClampNeg)), .int (x6)]) kX3_keyHas 74 dX8_ask_71 rfl rfl mbX8_298 imX3_keyHas seX3_keyHas gcl3.1 s3.1 (Nat.le_of_ble_eq_true rfl) (Nat.zero_le _) (Nat.zero_le _) (tX3_keyHas s3 b2 ?_)
        show Go X (d + 4) mc ms kX8_ask Q 74 [(0, .ref a0), (1, .int (x1)), (2, .int (x2)), (3, .ref a3), (4, .int (x4)), (5, .int (x5)), (6, .int (x6)), (7, .int (x7)), (8, .int (x8))] [.int ((fX3_keyHas M a3 (g_mi M (a0 + 305) (x8).toNatClampNeg) x6))] M 0 0
        generalize hv1 : (fX3_keyHas M a3 (g_mi M (a0 + 305) (x8).toNatClampNeg) x6) = v1
        replace H := H v1 hv1.symm
        refine g_if_eq 80 77 dX8_ask_74 rfl rfl (fun c3 => ?_) (fun c3 => ?_)
        · skip
          replace H := H.1 c3
          refine g_iinc _ 8 83 [(8, .int ((x8 + 1))), (0, .ref a0), (1, .int (x1)), (2, .int (x2)), (3, .ref a3), (4, .int (x4)), (5, .int (x5)), (6, .int (x6)), (7, .int (x7))] dX8_ask_80 rfl rfl rfl (Nat.le_of_ble_eq_true rfl) rfl ?_
          refine g_goto 55 dX8_ask_83 rfl ?_
          exact g_sub [1, 2, 3, 4, 5, 6, 7, 8, 0] _ rfl (ih.2 M a0 x1 x2 a3 x4 x5 x6 x7 (x8 + 1) s0 s3 H (fun v M1 j r => hR v M1 j r))
        · skip
          replace H := H.2 c3
          refine g_iinc _ 7 80 [(7, .int ((x7 + 1))), (0, .ref a0), (1, .int (x1)), (2, .int (x2)), (3, .ref a3), (4, .int (x4)), (5, .int (x5)), (6, .int (x6)), (8, .int (x8))] dX8_ask_77 rfl rfl rfl (Nat.le_of_ble_eq_true rfl) rfl ?_
          refine g_iinc _ 8 83 [(8, .int ((x8 + 1))), (7, .int ((x7 + 1))), (0, .ref a0), (1, .int (x1)), (2, .int (x2)), (3, .ref a3), (4, .int (x4)), (5, .int (x5)), (6, .int (x6))] dX8_ask_80 rfl rfl rfl (Nat.le_of_ble_eq_true rfl) rfl ?_
          refine g_goto 55 dX8_ask_83 rfl ?_
          exact g_sub [2, 3, 4, 5, 6, 7, 8, 1, 0] _ rfl (ih.2 M a0 x1 x2 a3 x4 x5 x6 (x7 + 1) (x8 + 1) s0 s3 H (fun v M1 j r => hR v M1 j r))
set_option maxRecDepth 10000 in
theorem uX8_ask {N K : Nat} {X : gX} {d mc ms : Nat} {Q : Option Value → gM → Prop} {M : gM} {a0 : Nat} {x1 : Int32} {R : Int32 → gM → Prop} (s0 : Ph M a0) (H : pX8_ask N K M a0 x1 R) (hR : ∀ (v : Int32) (M1 : gM), Sm M M1 → R v M1 → Q (some (.int v)) M1) : Cn X (d + 4) mc ms kX8_ask [.ref a0, .int (x1)] M Q := by
  have ih := ulX8_ask (X := X) (d := d) (mc := mc) (ms := ms) (Q := Q) (N := N) (K := K) (R := R) N
  unfold pX8_ask pX8_ask_0 at H
  refine g_meth rfl rfl (Nat.le_of_ble_eq_true rfl) rfl ?_
  refine g_aload_n 0 1 dX8_ask_0 rfl rfl ?_
  refine g_callV (mc1 := 0) (ms1 := 0) (b := a0) (rest := []) (av := []) kX8_collectPossible 4 dX8_ask_1 rfl rfl mbX8_294 imX8_collectPossible seX8_collectPossible gcl8.1 s0.1 (Nat.le_of_ble_eq_true rfl) (Nat.zero_le _) (Nat.zero_le _) (uX8_collectPossible (N := N) (K := K) s0 H (fun v1 M1 jj H => ?_))
  have j1 : Sm M M1 := jj
  show Go X (d + 4) mc ms kX8_ask Q 4 [(0, .ref a0), (1, .int (x1))] [.int (v1)] M1 0 0
  refine g_istore_n 5 [(2, .int (v1)), (0, .ref a0), (1, .int (x1))] dX8_ask_4 rfl (Nat.le_of_ble_eq_true rfl) rfl ?_
  refine g_iload_n 0 6 dX8_ask_5 rfl rfl ?_
  refine g_if_eq 18 9 dX8_ask_6 rfl rfl (fun c1 => ?_) (fun c1 => ?_)
  · skip
    replace H := H.1 c1
    refine g_iconst ((-1)) 19 dX8_ask_18 rfl rfl ?_
    exact g_iret dX8_ask_19 rfl (Nat.zero_le _) (Nat.zero_le _) (hR _ _ j1 H)
  · skip
    replace H := H.2 c1
    refine g_iload_n 2 10 dX8_ask_9 rfl rfl ?_
    refine g_if_lt 18 13 dX8_ask_10 rfl rfl (fun c2 => ?_) (fun c2 => ?_)
    · skip
      replace H := H.1 c2
      refine g_iconst ((-1)) 19 dX8_ask_18 rfl rfl ?_
      exact g_iret dX8_ask_19 rfl (Nat.zero_le _) (Nat.zero_le _) (hR _ _ j1 H)
    · skip
      replace H := H.2 c2
      refine g_iload_n 2 14 dX8_ask_13 rfl rfl ?_
      refine g_iconst (1) 15 dX8_ask_14 rfl rfl ?_
      refine g_icmp_le 20 18 dX8_ask_15 rfl rfl (fun c3 => ?_) (fun c3 => ?_)
      · skip
        replace H := H.1 c3
        refine g_aload_n 1 21 dX8_ask_20 rfl rfl ?_
        refine g_getR 24 (a0 + 1) dX8_ask_21 rfl flX8_14 (Sm.k j1 s0.1) (Sm.r j1 s0.2.1) ?_
        refine g_getR 27 ((a0 + 1) + 1) dX8_ask_24 rfl flX8_102 (Sm.k j1 s0.2.2.1.1) (Sm.r j1 s0.2.2.1.2.1) ?_
        refine g_astore_n 28 [(3, .ref ((a0 + 1) + 1)), (2, .int (v1)), (0, .ref a0), (1, .int (x1))] dX8_ask_27 rfl (Nat.le_of_ble_eq_true rfl) rfl ?_
        refine g_iconst (0) 29 dX8_ask_28 rfl rfl ?_
        refine g_istore 31 [(4, .int (0)), (3, .ref ((a0 + 1) + 1)), (2, .int (v1)), (0, .ref a0), (1, .int (x1))] dX8_ask_29 rfl (Nat.le_of_ble_eq_true rfl) rfl ?_
        refine g_bipush (31) 33 dX8_ask_31 rfl rfl ?_
        refine g_istore 35 [(5, .int (31)), (4, .int (0)), (3, .ref ((a0 + 1) + 1)), (2, .int (v1)), (0, .ref a0), (1, .int (x1))] dX8_ask_33 rfl (Nat.le_of_ble_eq_true rfl) rfl ?_
        refine g_iconst (0) 36 dX8_ask_35 rfl rfl ?_
        refine g_istore 38 [(6, .int (0)), (5, .int (31)), (4, .int (0)), (3, .ref ((a0 + 1) + 1)), (2, .int (v1)), (0, .ref a0), (1, .int (x1))] dX8_ask_36 rfl (Nat.le_of_ble_eq_true rfl) rfl ?_
        exact g_sub [5, 6, 4, 3, 2, 1, 0] _ rfl (ih.1 M1 a0 x1 v1 ((a0 + 1) + 1) 0 31 0 0 0 (Ph.sm j1 s0) (St.sm j1 s0.2.2.1.2.2.1) H (fun v M1 j r => hR v M1 (Sm.tr j1 j) r))
      · skip
        replace H := H.2 c3
        refine g_iconst ((-1)) 19 dX8_ask_18 rfl rfl ?_
        exact g_iret dX8_ask_19 rfl (Nat.zero_le _) (Nat.zero_le _) (hR _ _ j1 H)
/-! X0_draft -/
def pX0_draft (N K : Nat) (M : gM) (a0 : Nat) (a1 : Nat) (R : gM → Prop) : Prop := ∀ v1 : Int32, v1 = (fX0_slot M a0 (g_mi M a0 3)) → (vp_in (v1) 17) ∧ pX3_copyFrom N K M (a0 + 3 + 7 * (v1).toNatClampNeg) a1 (fun M1 => R M1)
set_option maxRecDepth 10000 in
theorem uX0_draft {N K : Nat} {X : gX} {d mc ms : Nat} {Q : Option Value → gM → Prop} {M : gM} {a0 : Nat} {a1 : Nat} {R : gM → Prop} (s0 : Hi M a0) (s1 : St M a1) (H : pX0_draft N K M a0 a1 R) (hR : ∀ (M1 : gM), Sm M M1 → R M1 → Q none M1) : Cn X (d + 3) mc ms kX0_draft [.ref a0, .ref a1] M Q := by
  unfold pX0_draft at H
  refine g_meth rfl rfl (Nat.le_of_ble_eq_true rfl) rfl ?_
  refine g_aload_n 0 1 dX0_draft_0 rfl rfl ?_
  refine g_getR 4 (a0 + 1) dX0_draft_1 rfl flX0_13 s0.1 s0.2.1 ?_
  refine g_aload_n 0 5 dX0_draft_4 rfl rfl ?_
  refine g_aload_n 0 6 dX0_draft_5 rfl rfl ?_
  refine g_getI 9 dX0_draft_6 rfl flX0_22 s0.1 ?_
  refine g_callV (mc1 := 0) (ms1 := 0) (b := a0) (rest := [.ref (a0 + 1)]) (av := [.int ((g_mi M a0 3))]) kX0_slot 12 dX0_draft_9 rfl rfl mbX0_26 imX0_slot seX0_slot gcl0.1 s0.1 (Nat.le_of_ble_eq_true rfl) (Nat.zero_le _) (Nat.zero_le _) (tX0_slot s0 ?_)
  show Go X (d + 3) mc ms kX0_draft Q 12 [(0, .ref a0), (1, .ref a1)] [.int ((fX0_slot M a0 (g_mi M a0 3))), .ref (a0 + 1)] M 0 0
  generalize hv1 : (fX0_slot M a0 (g_mi M a0 3)) = v1
  replace H := H v1 hv1.symm
  obtain ⟨b1, H⟩ := H
  refine h_aaloadR (t := 4) 13 (v1).toNatClampNeg dX0_draft_12 rfl rfl s0.2.2.1 (by decide) rfl b1 (s0.2.2.2.2.2 _ (vp_lt b1)).1 ?_
  refine g_astore_n 14 [(2, .ref (a0 + 3 + 7 * (v1).toNatClampNeg)), (0, .ref a0), (1, .ref a1)] dX0_draft_13 rfl (Nat.le_of_ble_eq_true rfl) rfl ?_
  refine g_aload_n 2 15 dX0_draft_14 rfl rfl ?_
  refine g_ifnull 18 dX0_draft_15 rfl ?_
  refine g_aload_n 0 19 dX0_draft_18 rfl rfl ?_
  refine g_ifnull 22 dX0_draft_19 rfl ?_
  refine g_aload_n 0 23 dX0_draft_22 rfl rfl ?_
  refine g_aload_n 2 24 dX0_draft_23 rfl rfl ?_
  refine g_callV (mc1 := 0) (ms1 := 0) (b := (a0 + 3 + 7 * (v1).toNatClampNeg)) (rest := []) (av := [.ref a1]) kX3_copyFrom 27 dX0_draft_24 rfl rfl mbX0_30 imX3_copyFrom seX3_copyFrom gcl3.1 (s0.2.2.2.2.2 _ (vp_lt b1)).2.1 (Nat.le_of_ble_eq_true rfl) (Nat.zero_le _) (Nat.zero_le _) (uX3_copyFrom (N := N) (K := K) (s0.2.2.2.2.2 _ (vp_lt b1)).2 s1 H (fun M1 jj H => ?_))
  have j1 : Sm M M1 := jj
  show Go X (d + 3) mc ms kX0_draft Q 27 [(2, .ref (a0 + 3 + 7 * (v1).toNatClampNeg)), (0, .ref a0), (1, .ref a1)] [] M1 0 0
  exact g_vret dX0_draft_27 rfl (Nat.zero_le _) (Nat.zero_le _) (hR _ j1 H)
/-! X0_takeBack -/
def pX0_takeBack (N K : Nat) (M : gM) (a0 : Nat) (a1 : Nat) (R : Int32 → gM → Prop) : Prop := (((g_mi M a0 3) ≤ 0 → R (-3) M) ∧ (¬ (g_mi M a0 3) ≤ 0 → ∀ v1 : Int32, v1 = (fX0_slot M a0 ((g_mi M a0 3) - 1)) → (vp_in (v1) 17) ∧ ∀ M1 : gM, M1 = (g_wi M a0 3 ((g_mi M a0 3) - 1)) → pX3_copyFrom N K M1 a1 (a0 + 3 + 7 * (v1).toNatClampNeg) (fun M2 => ∀ v2 : Int32, v2 = (fX0_slot M2 a0 (g_mi M2 a0 3)) → (vp_in (v2) 17) ∧ R (g_mi M2 (a0 + 2) (v2).toNatClampNeg) M2)))
set_option maxRecDepth 10000 in
theorem uX0_takeBack {N K : Nat} {X : gX} {d mc ms : Nat} {Q : Option Value → gM → Prop} {M : gM} {a0 : Nat} {a1 : Nat} {R : Int32 → gM → Prop} (s0 : Hi M a0) (s1 : St M a1) (H : pX0_takeBack N K M a0 a1 R) (hR : ∀ (v : Int32) (M1 : gM), Sm M M1 → R v M1 → Q (some (.int v)) M1) : Cn X (d + 3) mc ms kX0_takeBack [.ref a0, .ref a1] M Q := by
  unfold pX0_takeBack at H
  refine g_meth rfl rfl (Nat.le_of_ble_eq_true rfl) rfl ?_
  refine g_aload_n 0 1 dX0_takeBack_0 rfl rfl ?_
  refine g_getI 4 dX0_takeBack_1 rfl flX0_22 s0.1 ?_
  refine g_if_le 25 7 dX0_takeBack_4 rfl rfl (fun c1 => ?_) (fun c1 => ?_)
  · skip
    replace H := H.1 c1
    refine g_null 26 dX0_takeBack_25 rfl ?_
    refine g_astore_nN 27 [(2, .null), (0, .ref a0), (1, .ref a1)] dX0_takeBack_26 rfl (Nat.le_of_ble_eq_true rfl) rfl ?_
    refine g_aload_nN 0 28 dX0_takeBack_27 rfl rfl ?_
    refine g_ifnonnullN 31 dX0_takeBack_28 rfl ?_
    refine g_bipush ((-3)) 33 dX0_takeBack_31 rfl rfl ?_
    exact g_iret dX0_takeBack_33 rfl (Nat.zero_le _) (Nat.zero_le _) (hR _ _ Sm.rf H)
  · skip
    replace H := H.2 c1
    refine g_aload_n 0 8 dX0_takeBack_7 rfl rfl ?_
    refine g_getR 11 (a0 + 1) dX0_takeBack_8 rfl flX0_13 s0.1 s0.2.1 ?_
    refine g_aload_n 0 12 dX0_takeBack_11 rfl rfl ?_
    refine g_aload_n 0 13 dX0_takeBack_12 rfl rfl ?_
    refine g_getI 16 dX0_takeBack_13 rfl flX0_22 s0.1 ?_
    refine g_iconst (1) 17 dX0_takeBack_16 rfl rfl ?_
    refine g_isub 18 dX0_takeBack_17 rfl ?_
    refine g_callV (mc1 := 0) (ms1 := 0) (b := a0) (rest := [.ref (a0 + 1)]) (av := [.int (((g_mi M a0 3) - 1))]) kX0_slot 21 dX0_takeBack_18 rfl rfl mbX0_26 imX0_slot seX0_slot gcl0.1 s0.1 (Nat.le_of_ble_eq_true rfl) (Nat.zero_le _) (Nat.zero_le _) (tX0_slot s0 ?_)
    show Go X (d + 3) mc ms kX0_takeBack Q 21 [(0, .ref a0), (1, .ref a1)] [.int ((fX0_slot M a0 ((g_mi M a0 3) - 1))), .ref (a0 + 1)] M 0 0
    generalize hv1 : (fX0_slot M a0 ((g_mi M a0 3) - 1)) = v1
    replace H := H v1 hv1.symm
    obtain ⟨b1, H⟩ := H
    refine h_aaloadR (t := 4) 22 (v1).toNatClampNeg dX0_takeBack_21 rfl rfl s0.2.2.1 (by decide) rfl b1 (s0.2.2.2.2.2 _ (vp_lt b1)).1 ?_
    refine g_goto 26 dX0_takeBack_22 rfl ?_
    refine g_astore_n 27 [(2, .ref (a0 + 3 + 7 * (v1).toNatClampNeg)), (0, .ref a0), (1, .ref a1)] dX0_takeBack_26 rfl (Nat.le_of_ble_eq_true rfl) rfl ?_
    refine g_aload_n 0 28 dX0_takeBack_27 rfl rfl ?_
    refine g_ifnonnull 34 dX0_takeBack_28 rfl ?_
    refine g_aload_n 1 35 dX0_takeBack_34 rfl rfl ?_
    refine g_dup 36 dX0_takeBack_35 rfl rfl ?_
    refine g_getI 39 dX0_takeBack_36 rfl flX0_22 s0.1 ?_
    refine g_iconst (1) 40 dX0_takeBack_39 rfl rfl ?_
    refine g_isub 41 dX0_takeBack_40 rfl ?_
    refine g_putI 44 dX0_takeBack_41 rfl flX0_22 s0.1 ?_
    generalize hM1 : (g_wi M a0 3 ((g_mi M a0 3) - 1)) = M1
    have j1 : Sm M M1 := by rw [← hM1]; exact (Sm.wi Sm.rf)
    replace H := H M1 hM1.symm
    refine g_aload_n 2 45 dX0_takeBack_44 rfl rfl ?_
    refine g_aload_n 0 46 dX0_takeBack_45 rfl rfl ?_
    refine g_callV (mc1 := 0) (ms1 := 0) (b := a1) (rest := []) (av := [.ref (a0 + 3 + 7 * (v1).toNatClampNeg)]) kX3_copyFrom 49 dX0_takeBack_46 rfl rfl mbX0_30 imX3_copyFrom seX3_copyFrom gcl3.1 (Sm.k j1 s1.1) (Nat.le_of_ble_eq_true rfl) (Nat.zero_le _) (Nat.zero_le _) (uX3_copyFrom (N := N) (K := K) (St.sm j1 s1) (St.sm j1 (s0.2.2.2.2.2 _ (vp_lt b1)).2) H (fun M2 jj H => ?_))
    have j2 : Sm M M2 := Sm.tr j1 jj
    show Go X (d + 3) mc ms kX0_takeBack Q 49 [(2, .ref (a0 + 3 + 7 * (v1).toNatClampNeg)), (0, .ref a0), (1, .ref a1)] [] M2 0 0
    refine g_aload_n 1 50 dX0_takeBack_49 rfl rfl ?_
    refine g_getR 53 (a0 + 2) dX0_takeBack_50 rfl flX0_17 (Sm.k j2 s0.1) (Sm.r j2 s0.2.2.2.1) ?_
    refine g_aload_n 1 54 dX0_takeBack_53 rfl rfl ?_
    refine g_aload_n 1 55 dX0_takeBack_54 rfl rfl ?_
    refine g_getI 58 dX0_takeBack_55 rfl flX0_22 (Sm.k j2 s0.1) ?_
    refine g_callV (mc1 := 0) (ms1 := 0) (b := a0) (rest := [.ref (a0 + 2)]) (av := [.int ((g_mi M2 a0 3))]) kX0_slot 61 dX0_takeBack_58 rfl rfl mbX0_26 imX0_slot seX0_slot gcl0.1 (Sm.k j2 s0.1) (Nat.le_of_ble_eq_true rfl) (Nat.zero_le _) (Nat.zero_le _) (tX0_slot (Hi.sm j2 s0) ?_)
    show Go X (d + 3) mc ms kX0_takeBack Q 61 [(2, .ref (a0 + 3 + 7 * (v1).toNatClampNeg)), (0, .ref a0), (1, .ref a1)] [.int ((fX0_slot M2 a0 (g_mi M2 a0 3))), .ref (a0 + 2)] M2 0 0
    generalize hv2 : (fX0_slot M2 a0 (g_mi M2 a0 3)) = v2
    replace H := H v2 hv2.symm
    obtain ⟨b2, H⟩ := H
    refine h_iaload 62 (v2).toNatClampNeg dX0_takeBack_61 rfl rfl (Sm.k j2 s0.2.2.2.2.1) b2 ?_
    exact g_iret dX0_takeBack_62 rfl (Nat.zero_le _) (Nat.zero_le _) (hR _ _ j2 H)
