/-! X0_clear -/
def pX0_clear (N K : Nat) (M : gM) (a0 : Nat) (R : gM → Prop) : Prop := ∀ M1 : gM, M1 = (g_wi M a0 3 0) → R M1
set_option maxRecDepth 10000 in
theorem uX0_clear {N K : Nat} {X : gX} {d mc ms : Nat} {Q : Option Value → gM → Prop} {M : gM} {a0 : Nat} {R : gM → Prop} (s0 : Hi M a0) (H : pX0_clear N K M a0 R) (hR : ∀ (M1 : gM), Sm M M1 → R M1 → Q none M1) : Cn X d mc ms kX0_clear [.ref a0] M Q := by
  unfold pX0_clear at H
  refine g_meth rfl rfl (Nat.le_of_ble_eq_true rfl) rfl ?_
  refine g_aload_n 0 1 dX0_clear_0 rfl rfl ?_
  refine g_iconst (0) 2 dX0_clear_1 rfl rfl ?_
  refine g_putI 5 dX0_clear_2 rfl flX0_22 s0.1 ?_
  generalize hM1 : (g_wi M a0 3 0) = M1
  have j1 : Sm M M1 := by rw [← hM1]; exact (Sm.wi Sm.rf)
  replace H := H M1 hM1.symm
  exact g_vret dX0_clear_5 rfl (Nat.zero_le _) (Nat.zero_le _) (hR _ j1 H)
/-! X8_accept -/
def pX8_accept (N K : Nat) (M : gM) (a0 : Nat) (x1 : Int32) (R : Int32 → gM → Prop) : Prop := ∀ M1 : gM, M1 = (g_wi M a0 16 0) → R x1 M1
set_option maxRecDepth 10000 in
theorem uX8_accept {N K : Nat} {X : gX} {d mc ms : Nat} {Q : Option Value → gM → Prop} {M : gM} {a0 : Nat} {x1 : Int32} {R : Int32 → gM → Prop} (s0 : Ph M a0) (H : pX8_accept N K M a0 x1 R) (hR : ∀ (v : Int32) (M1 : gM), Sm M M1 → R v M1 → Q (some (.int v)) M1) : Cn X d mc ms kX8_accept [.ref a0, .int (x1)] M Q := by
  unfold pX8_accept at H
  refine g_meth rfl rfl (Nat.le_of_ble_eq_true rfl) rfl ?_
  refine g_aload_n 0 1 dX8_accept_0 rfl rfl ?_
  refine g_iconst (0) 2 dX8_accept_1 rfl rfl ?_
  refine g_putI 5 dX8_accept_2 rfl flX8_338 s0.1 ?_
  generalize hM1 : (g_wi M a0 16 0) = M1
  have j1 : Sm M M1 := by rw [← hM1]; exact (Sm.wi Sm.rf)
  replace H := H M1 hM1.symm
  refine g_iload_n 1 6 dX8_accept_5 rfl rfl ?_
  exact g_iret dX8_accept_6 rfl (Nat.zero_le _) (Nat.zero_le _) (hR _ _ j1 H)
/-! X8_refuse -/
def pX8_refuse (N K : Nat) (M : gM) (a0 : Nat) (x1 : Int32) (R : Int32 → gM → Prop) : Prop := ∀ M1 : gM, M1 = (g_wi M a0 16 x1) → ((x1 = (-5) → ∀ M2 : gM, M2 = (g_wi M1 (a0 + 304) 3 ((g_mi M1 (a0 + 304) 3) + 1)) → R x1 M2) ∧ (¬ x1 = (-5) → ((x1 = (-4) → ∀ M3 : gM, M3 = (g_wi M1 (a0 + 304) 4 ((g_mi M1 (a0 + 304) 4) + 1)) → R x1 M3) ∧ (¬ x1 = (-4) → ((x1 = (-3) → ∀ M4 : gM, M4 = (g_wi M1 (a0 + 304) 2 ((g_mi M1 (a0 + 304) 2) + 1)) → R x1 M4) ∧ (¬ x1 = (-3) → ((x1 = (-2) → ∀ M5 : gM, M5 = (g_wi M1 (a0 + 304) 1 ((g_mi M1 (a0 + 304) 1) + 1)) → R x1 M5) ∧ (¬ x1 = (-2) → ((x1 = (-1) → ∀ M6 : gM, M6 = (g_wi M1 (a0 + 304) 0 ((g_mi M1 (a0 + 304) 0) + 1)) → R x1 M6) ∧ (¬ x1 = (-1) → ∀ M7 : gM, M7 = (g_wi M1 (a0 + 304) 4 ((g_mi M1 (a0 + 304) 4) + 1)) → R x1 M7))))))))))
set_option maxRecDepth 10000 in
theorem uX8_refuse {N K : Nat} {X : gX} {d mc ms : Nat} {Q : Option Value → gM → Prop} {M : gM} {a0 : Nat} {x1 : Int32} {R : Int32 → gM → Prop} (s0 : Ph M a0) (H : pX8_refuse N K M a0 x1 R) (hR : ∀ (v : Int32) (M1 : gM), Sm M M1 → R v M1 → Q (some (.int v)) M1) : Cn X d mc ms kX8_refuse [.ref a0, .int (x1)] M Q := by
  unfold pX8_refuse at H
  refine g_meth rfl rfl (Nat.le_of_ble_eq_true rfl) rfl ?_
  refine g_aload_n 0 1 dX8_refuse_0 rfl rfl ?_
  refine g_iload_n 1 2 dX8_refuse_1 rfl rfl ?_
  refine g_putI 5 dX8_refuse_2 rfl flX8_338 s0.1 ?_
  generalize hM1 : (g_wi M a0 16 x1) = M1
  have j1 : Sm M M1 := by rw [← hM1]; exact (Sm.wi Sm.rf)
  replace H := H M1 hM1.symm
  refine g_iload_n 1 6 dX8_refuse_5 rfl rfl ?_
  by_cases c1 : x1 = (-5)
  · refine h_tabIn ((-5)) 79 dX8_refuse_6 c1 (by decide) (by decide) rfl rfl ?_
    replace H := H.1 c1
    refine g_aload_n 0 80 dX8_refuse_79 rfl rfl ?_
    refine g_getR 83 (a0 + 304) dX8_refuse_80 rfl flX8_78 (Sm.k j1 s0.1) (Sm.r j1 s0.2.2.2.2.2.2.2.2.2.2.2.2.2.2.2.2.2.2.2.2.2.2.2.1) ?_
    refine g_iconst (3) 84 dX8_refuse_83 rfl rfl ?_
    refine g_dup2 85 dX8_refuse_84 rfl rfl rfl ?_
    refine h_iaload 86 3 dX8_refuse_85 rfl rfl (Sm.k j1 s0.2.2.2.2.2.2.2.2.2.2.2.2.2.2.2.2.2.2.2.2.2.2.2.2.1) (vp_lit rfl) ?_
    refine g_iconst (1) 87 dX8_refuse_86 rfl rfl ?_
    refine g_iadd 88 dX8_refuse_87 rfl ?_
    refine h_iastore 89 3 dX8_refuse_88 rfl rfl (Sm.k j1 s0.2.2.2.2.2.2.2.2.2.2.2.2.2.2.2.2.2.2.2.2.2.2.2.2.1) (vp_lit rfl) ?_
    generalize hM2 : (g_wi M1 (a0 + 304) 3 ((g_mi M1 (a0 + 304) 3) + 1)) = M2
    have j2 : Sm M M2 := by rw [← hM2]; exact (Sm.wi j1)
    replace H := H M2 hM2.symm
    refine g_goto 102 dX8_refuse_89 rfl ?_
    refine g_iload_n 1 103 dX8_refuse_102 rfl rfl ?_
    exact g_iret dX8_refuse_103 rfl (Nat.zero_le _) (Nat.zero_le _) (hR _ _ j2 H)
  replace H := H.2 c1
  by_cases c2 : x1 = (-4)
  · refine h_tabIn ((-4)) 92 dX8_refuse_6 c2 (by decide) (by decide) rfl rfl ?_
    replace H := H.1 c2
    refine g_aload_n 0 93 dX8_refuse_92 rfl rfl ?_
    refine g_getR 96 (a0 + 304) dX8_refuse_93 rfl flX8_78 (Sm.k j1 s0.1) (Sm.r j1 s0.2.2.2.2.2.2.2.2.2.2.2.2.2.2.2.2.2.2.2.2.2.2.2.1) ?_
    refine g_iconst (4) 97 dX8_refuse_96 rfl rfl ?_
    refine g_dup2 98 dX8_refuse_97 rfl rfl rfl ?_
    refine h_iaload 99 4 dX8_refuse_98 rfl rfl (Sm.k j1 s0.2.2.2.2.2.2.2.2.2.2.2.2.2.2.2.2.2.2.2.2.2.2.2.2.1) (vp_lit rfl) ?_
    refine g_iconst (1) 100 dX8_refuse_99 rfl rfl ?_
    refine g_iadd 101 dX8_refuse_100 rfl ?_
    refine h_iastore 102 4 dX8_refuse_101 rfl rfl (Sm.k j1 s0.2.2.2.2.2.2.2.2.2.2.2.2.2.2.2.2.2.2.2.2.2.2.2.2.1) (vp_lit rfl) ?_
    generalize hM3 : (g_wi M1 (a0 + 304) 4 ((g_mi M1 (a0 + 304) 4) + 1)) = M3
    have j3 : Sm M M3 := by rw [← hM3]; exact (Sm.wi j1)
    replace H := H M3 hM3.symm
    refine g_iload_n 1 103 dX8_refuse_102 rfl rfl ?_
    exact g_iret dX8_refuse_103 rfl (Nat.zero_le _) (Nat.zero_le _) (hR _ _ j3 H)
  replace H := H.2 c2
  by_cases c3 : x1 = (-3)
  · refine h_tabIn ((-3)) 66 dX8_refuse_6 c3 (by decide) (by decide) rfl rfl ?_
    replace H := H.1 c3
    refine g_aload_n 0 67 dX8_refuse_66 rfl rfl ?_
    refine g_getR 70 (a0 + 304) dX8_refuse_67 rfl flX8_78 (Sm.k j1 s0.1) (Sm.r j1 s0.2.2.2.2.2.2.2.2.2.2.2.2.2.2.2.2.2.2.2.2.2.2.2.1) ?_
    refine g_iconst (2) 71 dX8_refuse_70 rfl rfl ?_
    refine g_dup2 72 dX8_refuse_71 rfl rfl rfl ?_
    refine h_iaload 73 2 dX8_refuse_72 rfl rfl (Sm.k j1 s0.2.2.2.2.2.2.2.2.2.2.2.2.2.2.2.2.2.2.2.2.2.2.2.2.1) (vp_lit rfl) ?_
    refine g_iconst (1) 74 dX8_refuse_73 rfl rfl ?_
    refine g_iadd 75 dX8_refuse_74 rfl ?_
    refine h_iastore 76 2 dX8_refuse_75 rfl rfl (Sm.k j1 s0.2.2.2.2.2.2.2.2.2.2.2.2.2.2.2.2.2.2.2.2.2.2.2.2.1) (vp_lit rfl) ?_
    generalize hM4 : (g_wi M1 (a0 + 304) 2 ((g_mi M1 (a0 + 304) 2) + 1)) = M4
    have j4 : Sm M M4 := by rw [← hM4]; exact (Sm.wi j1)
    replace H := H M4 hM4.symm
    refine g_goto 102 dX8_refuse_76 rfl ?_
    refine g_iload_n 1 103 dX8_refuse_102 rfl rfl ?_
    exact g_iret dX8_refuse_103 rfl (Nat.zero_le _) (Nat.zero_le _) (hR _ _ j4 H)
  replace H := H.2 c3
  by_cases c4 : x1 = (-2)
  · refine h_tabIn ((-2)) 53 dX8_refuse_6 c4 (by decide) (by decide) rfl rfl ?_
    replace H := H.1 c4
    refine g_aload_n 0 54 dX8_refuse_53 rfl rfl ?_
    refine g_getR 57 (a0 + 304) dX8_refuse_54 rfl flX8_78 (Sm.k j1 s0.1) (Sm.r j1 s0.2.2.2.2.2.2.2.2.2.2.2.2.2.2.2.2.2.2.2.2.2.2.2.1) ?_
    refine g_iconst (1) 58 dX8_refuse_57 rfl rfl ?_
    refine g_dup2 59 dX8_refuse_58 rfl rfl rfl ?_
    refine h_iaload 60 1 dX8_refuse_59 rfl rfl (Sm.k j1 s0.2.2.2.2.2.2.2.2.2.2.2.2.2.2.2.2.2.2.2.2.2.2.2.2.1) (vp_lit rfl) ?_
    refine g_iconst (1) 61 dX8_refuse_60 rfl rfl ?_
    refine g_iadd 62 dX8_refuse_61 rfl ?_
    refine h_iastore 63 1 dX8_refuse_62 rfl rfl (Sm.k j1 s0.2.2.2.2.2.2.2.2.2.2.2.2.2.2.2.2.2.2.2.2.2.2.2.2.1) (vp_lit rfl) ?_
    generalize hM5 : (g_wi M1 (a0 + 304) 1 ((g_mi M1 (a0 + 304) 1) + 1)) = M5
    have j5 : Sm M M5 := by rw [← hM5]; exact (Sm.wi j1)
    replace H := H M5 hM5.symm
    refine g_goto 102 dX8_refuse_63 rfl ?_
    refine g_iload_n 1 103 dX8_refuse_102 rfl rfl ?_
    exact g_iret dX8_refuse_103 rfl (Nat.zero_le _) (Nat.zero_le _) (hR _ _ j5 H)
  replace H := H.2 c4
  by_cases c5 : x1 = (-1)
  · refine h_tabIn ((-1)) 40 dX8_refuse_6 c5 (by decide) (by decide) rfl rfl ?_
    replace H := H.1 c5
    refine g_aload_n 0 41 dX8_refuse_40 rfl rfl ?_
    refine g_getR 44 (a0 + 304) dX8_refuse_41 rfl flX8_78 (Sm.k j1 s0.1) (Sm.r j1 s0.2.2.2.2.2.2.2.2.2.2.2.2.2.2.2.2.2.2.2.2.2.2.2.1) ?_
    refine g_iconst (0) 45 dX8_refuse_44 rfl rfl ?_
    refine g_dup2 46 dX8_refuse_45 rfl rfl rfl ?_
    refine h_iaload 47 0 dX8_refuse_46 rfl rfl (Sm.k j1 s0.2.2.2.2.2.2.2.2.2.2.2.2.2.2.2.2.2.2.2.2.2.2.2.2.1) (vp_lit rfl) ?_
    refine g_iconst (1) 48 dX8_refuse_47 rfl rfl ?_
    refine g_iadd 49 dX8_refuse_48 rfl ?_
    refine h_iastore 50 0 dX8_refuse_49 rfl rfl (Sm.k j1 s0.2.2.2.2.2.2.2.2.2.2.2.2.2.2.2.2.2.2.2.2.2.2.2.2.1) (vp_lit rfl) ?_
    generalize hM6 : (g_wi M1 (a0 + 304) 0 ((g_mi M1 (a0 + 304) 0) + 1)) = M6
    have j6 : Sm M M6 := by rw [← hM6]; exact (Sm.wi j1)
    replace H := H M6 hM6.symm
    refine g_goto 102 dX8_refuse_50 rfl ?_
    refine g_iload_n 1 103 dX8_refuse_102 rfl rfl ?_
    exact g_iret dX8_refuse_103 rfl (Nat.zero_le _) (Nat.zero_le _) (hR _ _ j6 H)
  replace H := H.2 c5
  have tc1 := i_neT c1
  rw [show (((-5) : Int32)).toInt = (-5) from rfl] at tc1
  have tc2 := i_neT c2
  rw [show (((-4) : Int32)).toInt = (-4) from rfl] at tc2
  have tc3 := i_neT c3
  rw [show (((-3) : Int32)).toInt = (-3) from rfl] at tc3
  have tc4 := i_neT c4
  rw [show (((-2) : Int32)).toInt = (-2) from rfl] at tc4
  have tc5 := i_neT c5
  rw [show (((-1) : Int32)).toInt = (-1) from rfl] at tc5
  refine g_tableOut 92 dX8_refuse_6 (by omega) rfl ?_
  refine g_aload_n 0 93 dX8_refuse_92 rfl rfl ?_
  refine g_getR 96 (a0 + 304) dX8_refuse_93 rfl flX8_78 (Sm.k j1 s0.1) (Sm.r j1 s0.2.2.2.2.2.2.2.2.2.2.2.2.2.2.2.2.2.2.2.2.2.2.2.1) ?_
  refine g_iconst (4) 97 dX8_refuse_96 rfl rfl ?_
  refine g_dup2 98 dX8_refuse_97 rfl rfl rfl ?_
  refine h_iaload 99 4 dX8_refuse_98 rfl rfl (Sm.k j1 s0.2.2.2.2.2.2.2.2.2.2.2.2.2.2.2.2.2.2.2.2.2.2.2.2.1) (vp_lit rfl) ?_
  refine g_iconst (1) 100 dX8_refuse_99 rfl rfl ?_
  refine g_iadd 101 dX8_refuse_100 rfl ?_
  refine h_iastore 102 4 dX8_refuse_101 rfl rfl (Sm.k j1 s0.2.2.2.2.2.2.2.2.2.2.2.2.2.2.2.2.2.2.2.2.2.2.2.2.1) (vp_lit rfl) ?_
  generalize hM7 : (g_wi M1 (a0 + 304) 4 ((g_mi M1 (a0 + 304) 4) + 1)) = M7
  have j7 : Sm M M7 := by rw [← hM7]; exact (Sm.wi j1)
  replace H := H M7 hM7.symm
  refine g_iload_n 1 103 dX8_refuse_102 rfl rfl ?_
  exact g_iret dX8_refuse_103 rfl (Nat.zero_le _) (Nat.zero_le _) (hR _ _ j7 H)
/-! X4_tellLaw -/
def pX4_tellLaw (N K : Nat) (M : gM) (a0 : Nat) (a1 : Nat) (x2 : Int32) (R : gM → Prop) : Prop := ∀ M1 : gM, M1 = (g_wi M (a0 + 1) 3 x2) → ∀ M2 : gM, M2 = (g_wi M1 (a0 + 1) 6 (g_mi M1 (a1 + 2) 0)) → ∀ M3 : gM, M3 = (g_wi M2 (a0 + 1) 4 (g_mi M2 (a1 + 2) 2)) → R M3
set_option maxRecDepth 10000 in
theorem uX4_tellLaw {N K : Nat} {X : gX} {d mc ms : Nat} {Q : Option Value → gM → Prop} {M : gM} {a0 : Nat} {a1 : Nat} {x2 : Int32} {R : gM → Prop} (s0 : Su M a0) (s1 : St M a1) (H : pX4_tellLaw N K M a0 a1 x2 R) (hR : ∀ (M1 : gM), Sm M M1 → R M1 → Q none M1) : Cn X d mc ms kX4_tellLaw [.ref a0, .ref a1, .int (x2)] M Q := by
  unfold pX4_tellLaw at H
  refine g_meth rfl rfl (Nat.le_of_ble_eq_true rfl) rfl ?_
  refine g_aload_n 0 1 dX4_tellLaw_0 rfl rfl ?_
  refine g_getR 4 (a0 + 1) dX4_tellLaw_1 rfl flX4_9 s0.1 s0.2.1 ?_
  refine g_iconst (3) 5 dX4_tellLaw_4 rfl rfl ?_
  refine g_iload_n 2 6 dX4_tellLaw_5 rfl rfl ?_
  refine h_iastore 7 3 dX4_tellLaw_6 rfl rfl s0.2.2.1 (vp_lit rfl) ?_
  generalize hM1 : (g_wi M (a0 + 1) 3 x2) = M1
  have j1 : Sm M M1 := by rw [← hM1]; exact (Sm.wi Sm.rf)
  replace H := H M1 hM1.symm
  refine g_aload_n 0 8 dX4_tellLaw_7 rfl rfl ?_
  refine g_getR 11 (a0 + 1) dX4_tellLaw_8 rfl flX4_9 (Sm.k j1 s0.1) (Sm.r j1 s0.2.1) ?_
  refine g_bipush (6) 13 dX4_tellLaw_11 rfl rfl ?_
  refine g_aload_n 1 14 dX4_tellLaw_13 rfl rfl ?_
  refine g_getR 17 (a1 + 2) dX4_tellLaw_14 rfl flX4_50 (Sm.k j1 s1.1) (Sm.r j1 s1.2.2.2.1) ?_
  refine g_iconst (0) 18 dX4_tellLaw_17 rfl rfl ?_
  refine h_iaload 19 0 dX4_tellLaw_18 rfl rfl (Sm.k j1 s1.2.2.2.2.1) (vp_lit rfl) ?_
  refine h_iastore 20 6 dX4_tellLaw_19 rfl rfl (Sm.k j1 s0.2.2.1) (vp_lit rfl) ?_
  generalize hM2 : (g_wi M1 (a0 + 1) 6 (g_mi M1 (a1 + 2) 0)) = M2
  have j2 : Sm M M2 := by rw [← hM2]; exact (Sm.wi j1)
  replace H := H M2 hM2.symm
  refine g_aload_n 0 21 dX4_tellLaw_20 rfl rfl ?_
  refine g_getR 24 (a0 + 1) dX4_tellLaw_21 rfl flX4_9 (Sm.k j2 s0.1) (Sm.r j2 s0.2.1) ?_
  refine g_iconst (4) 25 dX4_tellLaw_24 rfl rfl ?_
  refine g_aload_n 1 26 dX4_tellLaw_25 rfl rfl ?_
  refine g_getR 29 (a1 + 2) dX4_tellLaw_26 rfl flX4_50 (Sm.k j2 s1.1) (Sm.r j2 s1.2.2.2.1) ?_
  refine g_iconst (2) 30 dX4_tellLaw_29 rfl rfl ?_
  refine h_iaload 31 2 dX4_tellLaw_30 rfl rfl (Sm.k j2 s1.2.2.2.2.1) (vp_lit rfl) ?_
  refine h_iastore 32 4 dX4_tellLaw_31 rfl rfl (Sm.k j2 s0.2.2.1) (vp_lit rfl) ?_
  generalize hM3 : (g_wi M2 (a0 + 1) 4 (g_mi M2 (a1 + 2) 2)) = M3
  have j3 : Sm M M3 := by rw [← hM3]; exact (Sm.wi j2)
  replace H := H M3 hM3.symm
  exact g_vret dX4_tellLaw_32 rfl (Nat.zero_le _) (Nat.zero_le _) (hR _ j3 H)
/-! X6_clear -/
def pX6_clear (N K : Nat) (M : gM) (a0 : Nat) (n0 : Nat) (m0 : Nat) (R : gM → Prop) : Prop := ∀ M1 : gM, M1 = (g_wi M a0 6 0) → ∀ M2 : gM, M2 = (g_wi M1 a0 7 0) → R M2
set_option maxRecDepth 10000 in
theorem uX6_clear {N K : Nat} {X : gX} {d mc ms : Nat} {Q : Option Value → gM → Prop} {M : gM} {a0 : Nat} {n0 m0 : Nat} {R : gM → Prop} (s0 : Tx M a0 n0 m0) (H : pX6_clear N K M a0 n0 m0 R) (hR : ∀ (M1 : gM), Sm M M1 → R M1 → Q none M1) : Cn X d mc ms kX6_clear [.ref a0] M Q := by
  unfold pX6_clear at H
  refine g_meth rfl rfl (Nat.le_of_ble_eq_true rfl) rfl ?_
  refine g_aload_n 0 1 dX6_clear_0 rfl rfl ?_
  refine g_iconst (0) 2 dX6_clear_1 rfl rfl ?_
  refine g_putI 5 dX6_clear_2 rfl flX6_36 s0.1 ?_
  generalize hM1 : (g_wi M a0 6 0) = M1
  have j1 : Sm M M1 := by rw [← hM1]; exact (Sm.wi Sm.rf)
  replace H := H M1 hM1.symm
  refine g_aload_n 0 6 dX6_clear_5 rfl rfl ?_
  refine g_iconst (0) 7 dX6_clear_6 rfl rfl ?_
  refine g_putI 10 dX6_clear_7 rfl flX6_40 (Sm.k j1 s0.1) ?_
  generalize hM2 : (g_wi M1 a0 7 0) = M2
  have j2 : Sm M M2 := by rw [← hM2]; exact (Sm.wi j1)
  replace H := H M2 hM2.symm
  exact g_vret dX6_clear_10 rfl (Nat.zero_le _) (Nat.zero_le _) (hR _ j2 H)
/-! X6_put -/
def pX6_put (N K : Nat) (M : gM) (a0 : Nat) (n0 : Nat) (m0 : Nat) (x1 : Int32) (x2 : Int32) (R : Int32 → gM → Prop) : Prop := (((g_mi M a0 7) < (Int32.ofNat m0) → (vp_in ((g_mi M a0 7)) m0) ∧ ∀ M1 : gM, M1 = (g_wi M (a0 + 5) ((g_mi M a0 7)).toNatClampNeg x1) → (vp_in ((g_mi M1 a0 7)) m0) ∧ ∀ M2 : gM, M2 = (g_wi M1 (a0 + 6) ((g_mi M1 a0 7)).toNatClampNeg x2) → ∀ M3 : gM, M3 = (g_wi M2 a0 7 ((g_mi M2 a0 7) + 1)) → R ((g_mi M3 a0 7) - 1) M3) ∧ (¬ (g_mi M a0 7) < (Int32.ofNat m0) → R (-1) M))
set_option maxRecDepth 10000 in
theorem uX6_put {N K : Nat} {X : gX} {d mc ms : Nat} {Q : Option Value → gM → Prop} {M : gM} {a0 : Nat} {n0 m0 : Nat} {x1 : Int32} {x2 : Int32} {R : Int32 → gM → Prop} (s0 : Tx M a0 n0 m0) (H : pX6_put N K M a0 n0 m0 x1 x2 R) (hR : ∀ (v : Int32) (M1 : gM), Sm M M1 → R v M1 → Q (some (.int v)) M1) : Cn X d mc ms kX6_put [.ref a0, .int (x1), .int (x2)] M Q := by
  unfold pX6_put at H
  refine g_meth rfl rfl (Nat.le_of_ble_eq_true rfl) rfl ?_
  refine g_aload_n 0 1 dX6_put_0 rfl rfl ?_
  refine g_getI 4 dX6_put_1 rfl flX6_40 s0.1 ?_
  refine g_aload_n 0 5 dX6_put_4 rfl rfl ?_
  refine g_getR 8 (a0 + 5) dX6_put_5 rfl flX6_30 s0.1 s0.2.2.2.2.2.2.2.2.2.1 ?_
  refine g_alen (t := 0) 9 dX6_put_8 rfl s0.2.2.2.2.2.2.2.2.2.2.1 (by decide) rfl ?_
  refine g_icmp_lt 14 12 dX6_put_9 rfl rfl (fun c1 => ?_) (fun c1 => ?_)
  · skip
    replace H := H.1 c1
    refine g_aload_n 0 15 dX6_put_14 rfl rfl ?_
    refine g_getR 18 (a0 + 5) dX6_put_15 rfl flX6_30 s0.1 s0.2.2.2.2.2.2.2.2.2.1 ?_
    refine g_aload_n 0 19 dX6_put_18 rfl rfl ?_
    refine g_getI 22 dX6_put_19 rfl flX6_40 s0.1 ?_
    refine g_iload_n 1 23 dX6_put_22 rfl rfl ?_
    obtain ⟨b1, H⟩ := H
    refine h_iastore 24 ((g_mi M a0 7)).toNatClampNeg dX6_put_23 rfl rfl s0.2.2.2.2.2.2.2.2.2.2.1 b1 ?_
    generalize hM1 : (g_wi M (a0 + 5) ((g_mi M a0 7)).toNatClampNeg x1) = M1
    have j1 : Sm M M1 := by rw [← hM1]; exact (Sm.wi Sm.rf)
    replace H := H M1 hM1.symm
    refine g_aload_n 0 25 dX6_put_24 rfl rfl ?_
    refine g_getR 28 (a0 + 6) dX6_put_25 rfl flX6_33 (Sm.k j1 s0.1) (Sm.r j1 s0.2.2.2.2.2.2.2.2.2.2.2.1) ?_
    refine g_aload_n 0 29 dX6_put_28 rfl rfl ?_
    refine g_getI 32 dX6_put_29 rfl flX6_40 (Sm.k j1 s0.1) ?_
    refine g_iload_n 2 33 dX6_put_32 rfl rfl ?_
    obtain ⟨b2, H⟩ := H
    refine h_iastore 34 ((g_mi M1 a0 7)).toNatClampNeg dX6_put_33 rfl rfl (Sm.k j1 s0.2.2.2.2.2.2.2.2.2.2.2.2) b2 ?_
    generalize hM2 : (g_wi M1 (a0 + 6) ((g_mi M1 a0 7)).toNatClampNeg x2) = M2
    have j2 : Sm M M2 := by rw [← hM2]; exact (Sm.wi j1)
    replace H := H M2 hM2.symm
    refine g_aload_n 0 35 dX6_put_34 rfl rfl ?_
    refine g_dup 36 dX6_put_35 rfl rfl ?_
    refine g_getI 39 dX6_put_36 rfl flX6_40 (Sm.k j2 s0.1) ?_
    refine g_iconst (1) 40 dX6_put_39 rfl rfl ?_
    refine g_iadd 41 dX6_put_40 rfl ?_
    refine g_putI 44 dX6_put_41 rfl flX6_40 (Sm.k j2 s0.1) ?_
    generalize hM3 : (g_wi M2 a0 7 ((g_mi M2 a0 7) + 1)) = M3
    have j3 : Sm M M3 := by rw [← hM3]; exact (Sm.wi j2)
    replace H := H M3 hM3.symm
    refine g_aload_n 0 45 dX6_put_44 rfl rfl ?_
    refine g_getI 48 dX6_put_45 rfl flX6_40 (Sm.k j3 s0.1) ?_
    refine g_iconst (1) 49 dX6_put_48 rfl rfl ?_
    refine g_isub 50 dX6_put_49 rfl ?_
    exact g_iret dX6_put_50 rfl (Nat.zero_le _) (Nat.zero_le _) (hR _ _ j3 H)
  · skip
    replace H := H.2 c1
    refine g_iconst ((-1)) 13 dX6_put_12 rfl rfl ?_
    exact g_iret dX6_put_13 rfl (Nat.zero_le _) (Nat.zero_le _) (hR _ _ Sm.rf H)
/-! X6_jumpToHere -/
def pX6_jumpToHere (N K : Nat) (M : gM) (a0 : Nat) (n0 : Nat) (m0 : Nat) (x1 : Int32) (R : gM → Prop) : Prop := ((x1 < 0 → R M) ∧ (¬ x1 < 0 → (((g_mi M a0 7) ≤ x1 → R M) ∧ (¬ (g_mi M a0 7) ≤ x1 → (vp_in (x1) m0) ∧ ∀ M1 : gM, M1 = (g_wi M (a0 + 6) (x1).toNatClampNeg (g_mi M a0 7)) → R M1))))
set_option maxRecDepth 10000 in
theorem uX6_jumpToHere {N K : Nat} {X : gX} {d mc ms : Nat} {Q : Option Value → gM → Prop} {M : gM} {a0 : Nat} {n0 m0 : Nat} {x1 : Int32} {R : gM → Prop} (s0 : Tx M a0 n0 m0) (H : pX6_jumpToHere N K M a0 n0 m0 x1 R) (hR : ∀ (M1 : gM), Sm M M1 → R M1 → Q none M1) : Cn X d mc ms kX6_jumpToHere [.ref a0, .int (x1)] M Q := by
  unfold pX6_jumpToHere at H
  refine g_meth rfl rfl (Nat.le_of_ble_eq_true rfl) rfl ?_
  refine g_iload_n 1 1 dX6_jumpToHere_0 rfl rfl ?_
  refine g_if_lt 22 4 dX6_jumpToHere_1 rfl rfl (fun c1 => ?_) (fun c1 => ?_)
  · skip
    replace H := H.1 c1
    exact g_vret dX6_jumpToHere_22 rfl (Nat.zero_le _) (Nat.zero_le _) (hR _ Sm.rf H)
  · skip
    replace H := H.2 c1
    refine g_iload_n 1 5 dX6_jumpToHere_4 rfl rfl ?_
    refine g_aload_n 0 6 dX6_jumpToHere_5 rfl rfl ?_
    refine g_getI 9 dX6_jumpToHere_6 rfl flX6_40 s0.1 ?_
    refine g_icmp_ge 22 12 dX6_jumpToHere_9 rfl rfl (fun c2 => ?_) (fun c2 => ?_)
    · skip
      replace H := H.1 c2
      exact g_vret dX6_jumpToHere_22 rfl (Nat.zero_le _) (Nat.zero_le _) (hR _ Sm.rf H)
    · skip
      replace H := H.2 c2
      refine g_aload_n 0 13 dX6_jumpToHere_12 rfl rfl ?_
      refine g_getR 16 (a0 + 6) dX6_jumpToHere_13 rfl flX6_33 s0.1 s0.2.2.2.2.2.2.2.2.2.2.2.1 ?_
      refine g_iload_n 1 17 dX6_jumpToHere_16 rfl rfl ?_
      refine g_aload_n 0 18 dX6_jumpToHere_17 rfl rfl ?_
      refine g_getI 21 dX6_jumpToHere_18 rfl flX6_40 s0.1 ?_
      obtain ⟨b1, H⟩ := H
      refine h_iastore 22 (x1).toNatClampNeg dX6_jumpToHere_21 rfl rfl s0.2.2.2.2.2.2.2.2.2.2.2.2 b1 ?_
      generalize hM1 : (g_wi M (a0 + 6) (x1).toNatClampNeg (g_mi M a0 7)) = M1
      have j1 : Sm M M1 := by rw [← hM1]; exact (Sm.wi Sm.rf)
      replace H := H M1 hM1.symm
      exact g_vret dX6_jumpToHere_22 rfl (Nat.zero_le _) (Nat.zero_le _) (hR _ j1 H)
/-! X2_pass -/
def pX2_pass (N K : Nat) (M : gM) (a0 : Nat) (R : gM → Prop) : Prop := ((400 ≤ (g_mi M a0 10) → R M) ∧ (¬ 400 ≤ (g_mi M a0 10) → (vp_in ((g_mi M a0 10)) 401) ∧ (((g_mi M (a0 + 11) ((g_mi M a0 10)).toNatClampNeg) = 24 → R M) ∧ (¬ (g_mi M (a0 + 11) ((g_mi M a0 10)).toNatClampNeg) = 24 → ∀ M1 : gM, M1 = (g_wi M a0 10 ((g_mi M a0 10) + 1)) → R M1))))
set_option maxRecDepth 10000 in
theorem uX2_pass {N K : Nat} {X : gX} {d mc ms : Nat} {Q : Option Value → gM → Prop} {M : gM} {a0 : Nat} {R : gM → Prop} (s0 : Re M a0) (H : pX2_pass N K M a0 R) (hR : ∀ (M1 : gM), Sm M M1 → R M1 → Q none M1) : Cn X d mc ms kX2_pass [.ref a0] M Q := by
  unfold pX2_pass at H
  refine g_meth rfl rfl (Nat.le_of_ble_eq_true rfl) rfl ?_
  refine g_aload_n 0 1 dX2_pass_0 rfl rfl ?_
  refine g_getI 4 dX2_pass_1 rfl flX2_50 s0.1 ?_
  refine g_sipush (400) 7 dX2_pass_4 rfl rfl ?_
  refine g_icmp_ge 34 10 dX2_pass_7 rfl rfl (fun c1 => ?_) (fun c1 => ?_)
  · skip
    replace H := H.1 c1
    exact g_vret dX2_pass_34 rfl (Nat.zero_le _) (Nat.zero_le _) (hR _ Sm.rf H)
  · skip
    replace H := H.2 c1
    refine g_aload_n 0 11 dX2_pass_10 rfl rfl ?_
    refine g_getR 14 (a0 + 11) dX2_pass_11 rfl flX2_35 s0.1 s0.2.2.2.2.2.2.2.2.2.1 ?_
    refine g_aload_n 0 15 dX2_pass_14 rfl rfl ?_
    refine g_getI 18 dX2_pass_15 rfl flX2_50 s0.1 ?_
    obtain ⟨b1, H⟩ := H
    refine h_iaload 19 ((g_mi M a0 10)).toNatClampNeg dX2_pass_18 rfl rfl s0.2.2.2.2.2.2.2.2.2.2.1 b1 ?_
    refine g_bipush (24) 21 dX2_pass_19 rfl rfl ?_
    refine g_icmp_eq 34 24 dX2_pass_21 rfl rfl (fun c2 => ?_) (fun c2 => ?_)
    · skip
      replace H := H.1 c2
      exact g_vret dX2_pass_34 rfl (Nat.zero_le _) (Nat.zero_le _) (hR _ Sm.rf H)
    · skip
      replace H := H.2 c2
      refine g_aload_n 0 25 dX2_pass_24 rfl rfl ?_
      refine g_dup 26 dX2_pass_25 rfl rfl ?_
      refine g_getI 29 dX2_pass_26 rfl flX2_50 s0.1 ?_
      refine g_iconst (1) 30 dX2_pass_29 rfl rfl ?_
      refine g_iadd 31 dX2_pass_30 rfl ?_
      refine g_putI 34 dX2_pass_31 rfl flX2_50 s0.1 ?_
      generalize hM1 : (g_wi M a0 10 ((g_mi M a0 10) + 1)) = M1
      have j1 : Sm M M1 := by rw [← hM1]; exact (Sm.wi Sm.rf)
      replace H := H M1 hM1.symm
      exact g_vret dX2_pass_34 rfl (Nat.zero_le _) (Nat.zero_le _) (hR _ j1 H)
/-! X2_fail -/
def pX2_fail (N K : Nat) (M : gM) (a0 : Nat) (R : Int32 → gM → Prop) : Prop := (vp_in ((g_mi M a0 10)) 401) ∧ ∀ M1 : gM, M1 = (g_wi M a0 6 (g_mi M (a0 + 12) ((g_mi M a0 10)).toNatClampNeg)) → R 0 M1
set_option maxRecDepth 10000 in
theorem uX2_fail {N K : Nat} {X : gX} {d mc ms : Nat} {Q : Option Value → gM → Prop} {M : gM} {a0 : Nat} {R : Int32 → gM → Prop} (s0 : Re M a0) (H : pX2_fail N K M a0 R) (hR : ∀ (v : Int32) (M1 : gM), Sm M M1 → R v M1 → Q (some (.int v)) M1) : Cn X d mc ms kX2_fail [.ref a0] M Q := by
  unfold pX2_fail at H
  refine g_meth rfl rfl (Nat.le_of_ble_eq_true rfl) rfl ?_
  refine g_aload_n 0 1 dX2_fail_0 rfl rfl ?_
  refine g_aload_n 0 2 dX2_fail_1 rfl rfl ?_
  refine g_getR 5 (a0 + 12) dX2_fail_2 rfl flX2_38 s0.1 s0.2.2.2.2.2.2.2.2.2.2.2.1 ?_
  refine g_aload_n 0 6 dX2_fail_5 rfl rfl ?_
  refine g_getI 9 dX2_fail_6 rfl flX2_50 s0.1 ?_
  obtain ⟨b1, H⟩ := H
  refine h_iaload 10 ((g_mi M a0 10)).toNatClampNeg dX2_fail_9 rfl rfl s0.2.2.2.2.2.2.2.2.2.2.2.2.1 b1 ?_
  refine g_putI 13 dX2_fail_10 rfl flX2_31 s0.1 ?_
  generalize hM1 : (g_wi M a0 6 (g_mi M (a0 + 12) ((g_mi M a0 10)).toNatClampNeg)) = M1
  have j1 : Sm M M1 := by rw [← hM1]; exact (Sm.wi Sm.rf)
  replace H := H M1 hM1.symm
  refine g_iconst (0) 14 dX2_fail_13 rfl rfl ?_
  exact g_zret dX2_fail_14 rfl (by decide) (Nat.zero_le _) (Nat.zero_le _) (hR _ _ j1 H)
/-! X2_passMark -/
def pX2_passMark (N K : Nat) (M : gM) (a0 : Nat) (x1 : Int32) (R : Int32 → gM → Prop) : Prop := (EX2_isMark M a0 x1) ∧ ∀ v1 : Int32, v1 = (fX2_isMark M a0 x1) → ((¬ v1 = 0 → pX2_pass N K M a0 (fun M1 => R 1 M1)) ∧ (v1 = 0 → pX2_fail N K M a0 (fun v2 M2 => (v2 = 0 ∨ v2 = 1) ∧ R v2 M2)))
set_option maxRecDepth 10000 in
theorem uX2_passMark {N K : Nat} {X : gX} {d mc ms : Nat} {Q : Option Value → gM → Prop} {M : gM} {a0 : Nat} {x1 : Int32} {R : Int32 → gM → Prop} (s0 : Re M a0) (H : pX2_passMark N K M a0 x1 R) (hR : ∀ (v : Int32) (M1 : gM), Sm M M1 → R v M1 → Q (some (.int v)) M1) : Cn X (d + 1) mc ms kX2_passMark [.ref a0, .int (x1)] M Q := by
  unfold pX2_passMark at H
  refine g_meth rfl rfl (Nat.le_of_ble_eq_true rfl) rfl ?_
  refine g_aload_n 0 1 dX2_passMark_0 rfl rfl ?_
  refine g_iload_n 1 2 dX2_passMark_1 rfl rfl ?_
  obtain ⟨b1, H⟩ := H
  refine g_callV (mc1 := 0) (ms1 := 0) (b := a0) (rest := []) (av := [.int (x1)]) kX2_isMark 5 dX2_passMark_2 rfl rfl mbX2_152 imX2_isMark seX2_isMark gcl2.1 s0.1 (Nat.le_of_ble_eq_true rfl) (Nat.zero_le _) (Nat.zero_le _) (tX2_isMark s0 b1 ?_)
  show Go X (d + 1) mc ms kX2_passMark Q 5 [(0, .ref a0), (1, .int (x1))] [.int ((fX2_isMark M a0 x1))] M 0 0
  generalize hv1 : (fX2_isMark M a0 x1) = v1
  replace H := H v1 hv1.symm
  refine g_if_ne 13 8 dX2_passMark_5 rfl rfl (fun c1 => ?_) (fun c1 => ?_)
  · skip
    replace H := H.1 c1
    refine g_aload_n 0 14 dX2_passMark_13 rfl rfl ?_
    refine g_callV (mc1 := 0) (ms1 := 0) (b := a0) (rest := []) (av := []) kX2_pass 17 dX2_passMark_14 rfl rfl mbX2_111 imX2_pass seX2_pass gcl2.1 s0.1 (Nat.le_of_ble_eq_true rfl) (Nat.zero_le _) (Nat.zero_le _) (uX2_pass (N := N) (K := K) s0 H (fun M1 jj H => ?_))
    have j1 : Sm M M1 := jj
    show Go X (d + 1) mc ms kX2_passMark Q 17 [(0, .ref a0), (1, .int (x1))] [] M1 0 0
    refine g_iconst (1) 18 dX2_passMark_17 rfl rfl ?_
    exact g_zret dX2_passMark_18 rfl (by decide) (Nat.zero_le _) (Nat.zero_le _) (hR _ _ j1 H)
  · skip
    replace H := H.2 c1
    refine g_aload_n 0 9 dX2_passMark_8 rfl rfl ?_
    refine g_callV (mc1 := 0) (ms1 := 0) (b := a0) (rest := []) (av := []) kX2_fail 12 dX2_passMark_9 rfl rfl mbX2_74 imX2_fail seX2_fail gcl2.1 s0.1 (Nat.le_of_ble_eq_true rfl) (Nat.zero_le _) (Nat.zero_le _) (uX2_fail (N := N) (K := K) s0 H (fun v2 M2 jj H => ?_))
    have j2 : Sm M M2 := jj
    show Go X (d + 1) mc ms kX2_passMark Q 12 [(0, .ref a0), (1, .int (x1))] [.int (v2)] M2 0 0
    obtain ⟨b2, H⟩ := H
    exact g_zret dX2_passMark_12 rfl b2 (Nat.zero_le _) (Nat.zero_le _) (hR _ _ j2 H)
/-! X9_refuses -/
def pX9_refuses (N K : Nat) (M : gM) (a0 : Nat) (x1 : Int32) (R : Int32 → gM → Prop) : Prop := ∀ M1 : gM, M1 = (g_wi M a0 0 x1) → (vp_in (((-x1))) 7) ∧ ∀ M2 : gM, M2 = (g_wi M1 (a0 + 1) (((-x1))).toNatClampNeg ((g_mi M1 (a0 + 1) (((-x1))).toNatClampNeg) + 1)) → R x1 M2
set_option maxRecDepth 10000 in
theorem uX9_refuses {N K : Nat} {X : gX} {d mc ms : Nat} {Q : Option Value → gM → Prop} {M : gM} {a0 : Nat} {x1 : Int32} {R : Int32 → gM → Prop} (s0 : Mo M a0) (H : pX9_refuses N K M a0 x1 R) (hR : ∀ (v : Int32) (M1 : gM), Sm M M1 → R v M1 → Q (some (.int v)) M1) : Cn X d mc ms kX9_refuses [.ref a0, .int (x1)] M Q := by
  unfold pX9_refuses at H
  refine g_meth rfl rfl (Nat.le_of_ble_eq_true rfl) rfl ?_
  refine g_aload_n 0 1 dX9_refuses_0 rfl rfl ?_
  refine g_iload_n 1 2 dX9_refuses_1 rfl rfl ?_
  refine g_putI 5 dX9_refuses_2 rfl flX9_3 s0.1 ?_
  generalize hM1 : (g_wi M a0 0 x1) = M1
  have j1 : Sm M M1 := by rw [← hM1]; exact (Sm.wi Sm.rf)
  replace H := H M1 hM1.symm
  refine g_aload_n 0 6 dX9_refuses_5 rfl rfl ?_
  refine g_getR 9 (a0 + 1) dX9_refuses_6 rfl flX9_7 (Sm.k j1 s0.1) (Sm.r j1 s0.2.1) ?_
  refine g_iload_n 1 10 dX9_refuses_9 rfl rfl ?_
  refine g_ineg 11 dX9_refuses_10 rfl ?_
  refine g_dup2 12 dX9_refuses_11 rfl rfl rfl ?_
  obtain ⟨b1, H⟩ := H
  refine h_iaload 13 (((-x1))).toNatClampNeg dX9_refuses_12 rfl rfl (Sm.k j1 s0.2.2.1) b1 ?_
  refine g_iconst (1) 14 dX9_refuses_13 rfl rfl ?_
  refine g_iadd 15 dX9_refuses_14 rfl ?_
  refine h_iastore 16 (((-x1))).toNatClampNeg dX9_refuses_15 rfl rfl (Sm.k j1 s0.2.2.1) b1 ?_
  generalize hM2 : (g_wi M1 (a0 + 1) (((-x1))).toNatClampNeg ((g_mi M1 (a0 + 1) (((-x1))).toNatClampNeg) + 1)) = M2
  have j2 : Sm M M2 := by rw [← hM2]; exact (Sm.wi j1)
  replace H := H M2 hM2.symm
  refine g_iload_n 1 17 dX9_refuses_16 rfl rfl ?_
  exact g_iret dX9_refuses_17 rfl (Nat.zero_le _) (Nat.zero_le _) (hR _ _ j2 H)
/-! X9_good0 -/
def pX9_good0 (N K : Nat) (M : gM) (a0 : Nat) (x1 : Int32) (R : Int32 → gM → Prop) : Prop := ∀ M1 : gM, M1 = (g_wi M a0 0 0) → R x1 M1
set_option maxRecDepth 10000 in
theorem uX9_good0 {N K : Nat} {X : gX} {d mc ms : Nat} {Q : Option Value → gM → Prop} {M : gM} {a0 : Nat} {x1 : Int32} {R : Int32 → gM → Prop} (s0 : Mo M a0) (H : pX9_good0 N K M a0 x1 R) (hR : ∀ (v : Int32) (M1 : gM), Sm M M1 → R v M1 → Q (some (.int v)) M1) : Cn X d mc ms kX9_good0 [.ref a0, .int (x1)] M Q := by
  unfold pX9_good0 at H
  refine g_meth rfl rfl (Nat.le_of_ble_eq_true rfl) rfl ?_
  refine g_aload_n 0 1 dX9_good0_0 rfl rfl ?_
  refine g_iconst (0) 2 dX9_good0_1 rfl rfl ?_
  refine g_putI 5 dX9_good0_2 rfl flX9_3 s0.1 ?_
  generalize hM1 : (g_wi M a0 0 0) = M1
  have j1 : Sm M M1 := by rw [← hM1]; exact (Sm.wi Sm.rf)
  replace H := H M1 hM1.symm
  refine g_iload_n 1 6 dX9_good0_5 rfl rfl ?_
  exact g_iret dX9_good0_6 rfl (Nat.zero_le _) (Nat.zero_le _) (hR _ _ j1 H)
/-! X9_settled -/
def pX9_settled (N K : Nat) (M : gM) (a0 : Nat) (x1 : Int32) (R : Int32 → gM → Prop) : Prop := ∀ M1 : gM, M1 = (g_wi M a0 38 0) → pX9_good0 N K M1 a0 x1 (fun v1 M2 => R v1 M2)
set_option maxRecDepth 10000 in
theorem uX9_settled {N K : Nat} {X : gX} {d mc ms : Nat} {Q : Option Value → gM → Prop} {M : gM} {a0 : Nat} {x1 : Int32} {R : Int32 → gM → Prop} (s0 : Mo M a0) (H : pX9_settled N K M a0 x1 R) (hR : ∀ (v : Int32) (M1 : gM), Sm M M1 → R v M1 → Q (some (.int v)) M1) : Cn X (d + 1) mc ms kX9_settled [.ref a0, .int (x1)] M Q := by
  unfold pX9_settled at H
  refine g_meth rfl rfl (Nat.le_of_ble_eq_true rfl) rfl ?_
  refine g_aload_n 0 1 dX9_settled_0 rfl rfl ?_
  refine g_iconst (0) 2 dX9_settled_1 rfl rfl ?_
  refine g_putI 5 dX9_settled_2 rfl flX9_11 s0.1 ?_
  generalize hM1 : (g_wi M a0 38 0) = M1
  have j1 : Sm M M1 := by rw [← hM1]; exact (Sm.wi Sm.rf)
  replace H := H M1 hM1.symm
  refine g_aload_n 0 6 dX9_settled_5 rfl rfl ?_
  refine g_iload_n 1 7 dX9_settled_6 rfl rfl ?_
  refine g_callV (mc1 := 0) (ms1 := 0) (b := a0) (rest := []) (av := [.int (x1)]) kX9_good0 10 dX9_settled_7 rfl rfl mbX9_14 imX9_good0 seX9_good0 gcl9.1 (Sm.k j1 s0.1) (Nat.le_of_ble_eq_true rfl) (Nat.zero_le _) (Nat.zero_le _) (uX9_good0 (N := N) (K := K) (Mo.sm j1 s0) H (fun v1 M2 jj H => ?_))
  have j2 : Sm M M2 := Sm.tr j1 jj
  show Go X (d + 1) mc ms kX9_settled Q 10 [(0, .ref a0), (1, .int (x1))] [.int (v1)] M2 0 0
  exact g_iret dX9_settled_10 rfl (Nat.zero_le _) (Nat.zero_le _) (hR _ _ j2 H)
/-! X9_faults -/
def pX9_faults (N K : Nat) (M : gM) (a0 : Nat) (R : gM → Prop) : Prop := ∀ v1 : Int32, v1 = (fX9_fine M a0) → ((v1 = 0 → R M) ∧ (¬ v1 = 0 → (vp_in ((g_mi M a0 19)) 401) ∧ ∀ M1 : gM, M1 = (g_wi M a0 21 (g_mi M (a0 + 11) ((g_mi M a0 19)).toNatClampNeg)) → R M1))
set_option maxRecDepth 10000 in
theorem uX9_faults {N K : Nat} {X : gX} {d mc ms : Nat} {Q : Option Value → gM → Prop} {M : gM} {a0 : Nat} {R : gM → Prop} (s0 : Mo M a0) (H : pX9_faults N K M a0 R) (hR : ∀ (M1 : gM), Sm M M1 → R M1 → Q none M1) : Cn X (d + 1) mc ms kX9_faults [.ref a0] M Q := by
  unfold pX9_faults at H
  refine g_meth rfl rfl (Nat.le_of_ble_eq_true rfl) rfl ?_
  refine g_aload_n 0 1 dX9_faults_0 rfl rfl ?_
  refine g_callV (mc1 := 0) (ms1 := 0) (b := a0) (rest := []) (av := []) kX9_fine 4 dX9_faults_1 rfl rfl mbX9_182 imX9_fine seX9_fine gcl9.1 s0.1 (Nat.le_of_ble_eq_true rfl) (Nat.zero_le _) (Nat.zero_le _) (tX9_fine s0 ?_)
  show Go X (d + 1) mc ms kX9_faults Q 4 [(0, .ref a0)] [.int ((fX9_fine M a0))] M 0 0
  generalize hv1 : (fX9_fine M a0) = v1
  replace H := H v1 hv1.symm
  refine g_if_eq 20 7 dX9_faults_4 rfl rfl (fun c1 => ?_) (fun c1 => ?_)
  · skip
    replace H := H.1 c1
    exact g_vret dX9_faults_20 rfl (Nat.zero_le _) (Nat.zero_le _) (hR _ Sm.rf H)
  · skip
    replace H := H.2 c1
    refine g_aload_n 0 8 dX9_faults_7 rfl rfl ?_
    refine g_aload_n 0 9 dX9_faults_8 rfl rfl ?_
    refine g_getR 12 (a0 + 11) dX9_faults_9 rfl flX9_60 s0.1 s0.2.2.2.2.2.2.2.2.2.2.2.2.2.2.2.2.2.2.2.2.2.1 ?_
    refine g_aload_n 0 13 dX9_faults_12 rfl rfl ?_
    refine g_getI 16 dX9_faults_13 rfl flX9_186 s0.1 ?_
    obtain ⟨b1, H⟩ := H
    refine h_iaload 17 ((g_mi M a0 19)).toNatClampNeg dX9_faults_16 rfl rfl s0.2.2.2.2.2.2.2.2.2.2.2.2.2.2.2.2.2.2.2.2.2.2.1 b1 ?_
    refine g_putI 20 dX9_faults_17 rfl flX9_179 s0.1 ?_
    generalize hM1 : (g_wi M a0 21 (g_mi M (a0 + 11) ((g_mi M a0 19)).toNatClampNeg)) = M1
    have j1 : Sm M M1 := by rw [← hM1]; exact (Sm.wi Sm.rf)
    replace H := H M1 hM1.symm
    exact g_vret dX9_faults_20 rfl (Nat.zero_le _) (Nat.zero_le _) (hR _ j1 H)
/-! X9_takes0 -/
def pX9_takes0 (N K : Nat) (M : gM) (a0 : Nat) (x1 : Int32) (R : Int32 → gM → Prop) : Prop := ∀ v1 : Int32, v1 = (fX9_fine M a0) → ((v1 = 0 → R 0 M) ∧ (¬ v1 = 0 → (vp_in ((g_mi M a0 19)) 401) ∧ ((¬ (g_mi M (a0 + 9) ((g_mi M a0 19)).toNatClampNeg) = x1 → R 0 M) ∧ ((g_mi M (a0 + 9) ((g_mi M a0 19)).toNatClampNeg) = x1 → ∀ M1 : gM, M1 = (g_wi M a0 19 ((g_mi M a0 19) + 1)) → R 1 M1))))
set_option maxRecDepth 10000 in
theorem uX9_takes0 {N K : Nat} {X : gX} {d mc ms : Nat} {Q : Option Value → gM → Prop} {M : gM} {a0 : Nat} {x1 : Int32} {R : Int32 → gM → Prop} (s0 : Mo M a0) (H : pX9_takes0 N K M a0 x1 R) (hR : ∀ (v : Int32) (M1 : gM), Sm M M1 → R v M1 → Q (some (.int v)) M1) : Cn X (d + 1) mc ms kX9_takes0 [.ref a0, .int (x1)] M Q := by
  unfold pX9_takes0 at H
  refine g_meth rfl rfl (Nat.le_of_ble_eq_true rfl) rfl ?_
  refine g_aload_n 0 1 dX9_takes0_0 rfl rfl ?_
  refine g_callV (mc1 := 0) (ms1 := 0) (b := a0) (rest := []) (av := []) kX9_fine 4 dX9_takes0_1 rfl rfl mbX9_182 imX9_fine seX9_fine gcl9.1 s0.1 (Nat.le_of_ble_eq_true rfl) (Nat.zero_le _) (Nat.zero_le _) (tX9_fine s0 ?_)
  show Go X (d + 1) mc ms kX9_takes0 Q 4 [(0, .ref a0), (1, .int (x1))] [.int ((fX9_fine M a0))] M 0 0
  generalize hv1 : (fX9_fine M a0) = v1
  replace H := H v1 hv1.symm
  refine g_if_eq 24 7 dX9_takes0_4 rfl rfl (fun c1 => ?_) (fun c1 => ?_)
  · skip
    replace H := H.1 c1
    refine g_iconst (0) 25 dX9_takes0_24 rfl rfl ?_
    refine g_istore_n 26 [(2, .int (0)), (0, .ref a0), (1, .int (x1))] dX9_takes0_25 rfl (Nat.le_of_ble_eq_true rfl) rfl ?_
    refine g_iload_n 0 27 dX9_takes0_26 rfl rfl ?_
    refine g_if_eq 40 30 dX9_takes0_27 rfl rfl (fun _ => ?_) (fun q => absurd q (by decide))
    refine g_iload_n 0 41 dX9_takes0_40 rfl rfl ?_
    exact g_zret dX9_takes0_41 rfl (by decide) (Nat.zero_le _) (Nat.zero_le _) (hR _ _ Sm.rf H)
  · skip
    replace H := H.2 c1
    refine g_aload_n 0 8 dX9_takes0_7 rfl rfl ?_
    refine g_getR 11 (a0 + 9) dX9_takes0_8 rfl flX9_54 s0.1 s0.2.2.2.2.2.2.2.2.2.2.2.2.2.2.2.2.2.1 ?_
    refine g_aload_n 0 12 dX9_takes0_11 rfl rfl ?_
    refine g_getI 15 dX9_takes0_12 rfl flX9_186 s0.1 ?_
    obtain ⟨b1, H⟩ := H
    refine h_iaload 16 ((g_mi M a0 19)).toNatClampNeg dX9_takes0_15 rfl rfl s0.2.2.2.2.2.2.2.2.2.2.2.2.2.2.2.2.2.2.1 b1 ?_
    refine g_iload_n 1 17 dX9_takes0_16 rfl rfl ?_
    refine g_icmp_ne 24 20 dX9_takes0_17 rfl rfl (fun c2 => ?_) (fun c2 => ?_)
    · skip
      replace H := H.1 c2
      refine g_iconst (0) 25 dX9_takes0_24 rfl rfl ?_
      refine g_istore_n 26 [(2, .int (0)), (0, .ref a0), (1, .int (x1))] dX9_takes0_25 rfl (Nat.le_of_ble_eq_true rfl) rfl ?_
      refine g_iload_n 0 27 dX9_takes0_26 rfl rfl ?_
      refine g_if_eq 40 30 dX9_takes0_27 rfl rfl (fun _ => ?_) (fun q => absurd q (by decide))
      refine g_iload_n 0 41 dX9_takes0_40 rfl rfl ?_
      exact g_zret dX9_takes0_41 rfl (by decide) (Nat.zero_le _) (Nat.zero_le _) (hR _ _ Sm.rf H)
    · skip
      replace H := H.2 c2
      refine g_iconst (1) 21 dX9_takes0_20 rfl rfl ?_
      refine g_goto 25 dX9_takes0_21 rfl ?_
      refine g_istore_n 26 [(2, .int (1)), (0, .ref a0), (1, .int (x1))] dX9_takes0_25 rfl (Nat.le_of_ble_eq_true rfl) rfl ?_
      refine g_iload_n 0 27 dX9_takes0_26 rfl rfl ?_
      refine g_if_eq 40 30 dX9_takes0_27 rfl rfl (fun q => absurd q (by decide)) (fun _ => ?_)
      refine g_aload_n 1 31 dX9_takes0_30 rfl rfl ?_
      refine g_dup 32 dX9_takes0_31 rfl rfl ?_
      refine g_getI 35 dX9_takes0_32 rfl flX9_186 s0.1 ?_
      refine g_iconst (1) 36 dX9_takes0_35 rfl rfl ?_
      refine g_iadd 37 dX9_takes0_36 rfl ?_
      refine g_putI 40 dX9_takes0_37 rfl flX9_186 s0.1 ?_
      generalize hM1 : (g_wi M a0 19 ((g_mi M a0 19) + 1)) = M1
      have j1 : Sm M M1 := by rw [← hM1]; exact (Sm.wi Sm.rf)
      replace H := H M1 hM1.symm
      refine g_iload_n 0 41 dX9_takes0_40 rfl rfl ?_
      exact g_zret dX9_takes0_41 rfl (by decide) (Nat.zero_le _) (Nat.zero_le _) (hR _ _ j1 H)
/-! X9_must -/
def pX9_must (N K : Nat) (M : gM) (a0 : Nat) (x1 : Int32) (R : gM → Prop) : Prop := pX9_takes0 N K M a0 x1 (fun v1 M1 => ((¬ v1 = 0 → R M1) ∧ (v1 = 0 → pX9_faults N K M1 a0 (fun M2 => R M2))))
set_option maxRecDepth 10000 in
theorem uX9_must {N K : Nat} {X : gX} {d mc ms : Nat} {Q : Option Value → gM → Prop} {M : gM} {a0 : Nat} {x1 : Int32} {R : gM → Prop} (s0 : Mo M a0) (H : pX9_must N K M a0 x1 R) (hR : ∀ (M1 : gM), Sm M M1 → R M1 → Q none M1) : Cn X (d + 2) mc ms kX9_must [.ref a0, .int (x1)] M Q := by
  unfold pX9_must at H
  refine g_meth rfl rfl (Nat.le_of_ble_eq_true rfl) rfl ?_
  refine g_aload_n 0 1 dX9_must_0 rfl rfl ?_
  refine g_iload_n 1 2 dX9_must_1 rfl rfl ?_
  refine g_callV (mc1 := 0) (ms1 := 0) (b := a0) (rest := []) (av := [.int (x1)]) kX9_takes0 5 dX9_must_2 rfl rfl mbX9_189 imX9_takes0 seX9_takes0 gcl9.1 s0.1 (Nat.le_of_ble_eq_true rfl) (Nat.zero_le _) (Nat.zero_le _) (uX9_takes0 (N := N) (K := K) s0 H (fun v1 M1 jj H => ?_))
  have j1 : Sm M M1 := jj
  show Go X (d + 2) mc ms kX9_must Q 5 [(0, .ref a0), (1, .int (x1))] [.int (v1)] M1 0 0
  refine g_if_ne 12 8 dX9_must_5 rfl rfl (fun c1 => ?_) (fun c1 => ?_)
  · skip
    replace H := H.1 c1
    exact g_vret dX9_must_12 rfl (Nat.zero_le _) (Nat.zero_le _) (hR _ j1 H)
  · skip
    replace H := H.2 c1
    refine g_aload_n 0 9 dX9_must_8 rfl rfl ?_
    refine g_callV (mc1 := 0) (ms1 := 0) (b := a0) (rest := []) (av := []) kX9_faults 12 dX9_must_9 rfl rfl mbX9_192 imX9_faults seX9_faults gcl9.1 (Sm.k j1 s0.1) (Nat.le_of_ble_eq_true rfl) (Nat.zero_le _) (Nat.zero_le _) (uX9_faults (N := N) (K := K) (Mo.sm j1 s0) H (fun M2 jj H => ?_))
    have j2 : Sm M M2 := Sm.tr j1 jj
    show Go X (d + 2) mc ms kX9_must Q 12 [(0, .ref a0), (1, .int (x1))] [] M2 0 0
    exact g_vret dX9_must_12 rfl (Nat.zero_le _) (Nat.zero_le _) (hR _ j2 H)
/-! X9_leaf -/
def pX9_leaf (N K : Nat) (M : gM) (a0 : Nat) (R : gM → Prop) : Prop := ((¬ (g_mi M a0 20) = 50 → ∀ M1 : gM, M1 = (g_wi M a0 20 ((g_mi M a0 20) + 1)) → ∀ v1 : Int32, v1 = (fX9_fine M1 a0) → ((v1 = 0 → R M1) ∧ (¬ v1 = 0 → ∀ M2 : gM, M2 = (g_wi M1 a0 19 ((g_mi M1 a0 19) + 1)) → R M2))) ∧ ((g_mi M a0 20) = 50 → pX9_faults N K M a0 (fun M3 => ∀ M4 : gM, M4 = (g_wi M3 a0 20 ((g_mi M3 a0 20) + 1)) → ∀ v2 : Int32, v2 = (fX9_fine M4 a0) → ((v2 = 0 → R M4) ∧ (¬ v2 = 0 → ∀ M5 : gM, M5 = (g_wi M4 a0 19 ((g_mi M4 a0 19) + 1)) → R M5)))))
set_option maxRecDepth 10000 in
theorem uX9_leaf {N K : Nat} {X : gX} {d mc ms : Nat} {Q : Option Value → gM → Prop} {M : gM} {a0 : Nat} {R : gM → Prop} (s0 : Mo M a0) (H : pX9_leaf N K M a0 R) (hR : ∀ (M1 : gM), Sm M M1 → R M1 → Q none M1) : Cn X (d + 2) mc ms kX9_leaf [.ref a0] M Q := by
  unfold pX9_leaf at H
  refine g_meth rfl rfl (Nat.le_of_ble_eq_true rfl) rfl ?_
  refine g_aload_n 0 1 dX9_leaf_0 rfl rfl ?_
  refine g_getI 4 dX9_leaf_1 rfl flX9_195 s0.1 ?_
  refine g_bipush (50) 6 dX9_leaf_4 rfl rfl ?_
  refine g_icmp_ne 13 9 dX9_leaf_6 rfl rfl (fun c1 => ?_) (fun c1 => ?_)
  · skip
    replace H := H.1 c1
    refine g_aload_n 0 14 dX9_leaf_13 rfl rfl ?_
    refine g_dup 15 dX9_leaf_14 rfl rfl ?_
    refine g_getI 18 dX9_leaf_15 rfl flX9_195 s0.1 ?_
    refine g_iconst (1) 19 dX9_leaf_18 rfl rfl ?_
    refine g_iadd 20 dX9_leaf_19 rfl ?_
    refine g_putI 23 dX9_leaf_20 rfl flX9_195 s0.1 ?_
    generalize hM1 : (g_wi M a0 20 ((g_mi M a0 20) + 1)) = M1
    have j1 : Sm M M1 := by rw [← hM1]; exact (Sm.wi Sm.rf)
    replace H := H M1 hM1.symm
    refine g_aload_n 0 24 dX9_leaf_23 rfl rfl ?_
    refine g_callV (mc1 := 0) (ms1 := 0) (b := a0) (rest := []) (av := []) kX9_fine 27 dX9_leaf_24 rfl rfl mbX9_182 imX9_fine seX9_fine gcl9.1 (Sm.k j1 s0.1) (Nat.le_of_ble_eq_true rfl) (Nat.zero_le _) (Nat.zero_le _) (tX9_fine (Mo.sm j1 s0) ?_)
    show Go X (d + 2) mc ms kX9_leaf Q 27 [(0, .ref a0)] [.int ((fX9_fine M1 a0))] M1 0 0
    generalize hv1 : (fX9_fine M1 a0) = v1
    replace H := H v1 hv1.symm
    refine g_if_eq 40 30 dX9_leaf_27 rfl rfl (fun c2 => ?_) (fun c2 => ?_)
    · skip
      replace H := H.1 c2
      exact g_vret dX9_leaf_40 rfl (Nat.zero_le _) (Nat.zero_le _) (hR _ j1 H)
    · skip
      replace H := H.2 c2
      refine g_aload_n 0 31 dX9_leaf_30 rfl rfl ?_
      refine g_dup 32 dX9_leaf_31 rfl rfl ?_
      refine g_getI 35 dX9_leaf_32 rfl flX9_186 (Sm.k j1 s0.1) ?_
      refine g_iconst (1) 36 dX9_leaf_35 rfl rfl ?_
      refine g_iadd 37 dX9_leaf_36 rfl ?_
      refine g_putI 40 dX9_leaf_37 rfl flX9_186 (Sm.k j1 s0.1) ?_
      generalize hM2 : (g_wi M1 a0 19 ((g_mi M1 a0 19) + 1)) = M2
      have j2 : Sm M M2 := by rw [← hM2]; exact (Sm.wi j1)
      replace H := H M2 hM2.symm
      exact g_vret dX9_leaf_40 rfl (Nat.zero_le _) (Nat.zero_le _) (hR _ j2 H)
  · skip
    replace H := H.2 c1
    refine g_aload_n 0 10 dX9_leaf_9 rfl rfl ?_
    refine g_callV (mc1 := 0) (ms1 := 0) (b := a0) (rest := []) (av := []) kX9_faults 13 dX9_leaf_10 rfl rfl mbX9_192 imX9_faults seX9_faults gcl9.1 s0.1 (Nat.le_of_ble_eq_true rfl) (Nat.zero_le _) (Nat.zero_le _) (uX9_faults (N := N) (K := K) s0 H (fun M3 jj H => ?_))
    have j3 : Sm M M3 := jj
    show Go X (d + 2) mc ms kX9_leaf Q 13 [(0, .ref a0)] [] M3 0 0
    refine g_aload_n 0 14 dX9_leaf_13 rfl rfl ?_
    refine g_dup 15 dX9_leaf_14 rfl rfl ?_
    refine g_getI 18 dX9_leaf_15 rfl flX9_195 (Sm.k j3 s0.1) ?_
    refine g_iconst (1) 19 dX9_leaf_18 rfl rfl ?_
    refine g_iadd 20 dX9_leaf_19 rfl ?_
    refine g_putI 23 dX9_leaf_20 rfl flX9_195 (Sm.k j3 s0.1) ?_
    generalize hM4 : (g_wi M3 a0 20 ((g_mi M3 a0 20) + 1)) = M4
    have j4 : Sm M M4 := by rw [← hM4]; exact (Sm.wi j3)
    replace H := H M4 hM4.symm
    refine g_aload_n 0 24 dX9_leaf_23 rfl rfl ?_
    refine g_callV (mc1 := 0) (ms1 := 0) (b := a0) (rest := []) (av := []) kX9_fine 27 dX9_leaf_24 rfl rfl mbX9_182 imX9_fine seX9_fine gcl9.1 (Sm.k j4 s0.1) (Nat.le_of_ble_eq_true rfl) (Nat.zero_le _) (Nat.zero_le _) (tX9_fine (Mo.sm j4 s0) ?_)
    show Go X (d + 2) mc ms kX9_leaf Q 27 [(0, .ref a0)] [.int ((fX9_fine M4 a0))] M4 0 0
    generalize hv2 : (fX9_fine M4 a0) = v2
    replace H := H v2 hv2.symm
    refine g_if_eq 40 30 dX9_leaf_27 rfl rfl (fun c3 => ?_) (fun c3 => ?_)
    · skip
      replace H := H.1 c3
      exact g_vret dX9_leaf_40 rfl (Nat.zero_le _) (Nat.zero_le _) (hR _ j4 H)
    · skip
      replace H := H.2 c3
      refine g_aload_n 0 31 dX9_leaf_30 rfl rfl ?_
      refine g_dup 32 dX9_leaf_31 rfl rfl ?_
      refine g_getI 35 dX9_leaf_32 rfl flX9_186 (Sm.k j4 s0.1) ?_
      refine g_iconst (1) 36 dX9_leaf_35 rfl rfl ?_
      refine g_iadd 37 dX9_leaf_36 rfl ?_
      refine g_putI 40 dX9_leaf_37 rfl flX9_186 (Sm.k j4 s0.1) ?_
      generalize hM5 : (g_wi M4 a0 19 ((g_mi M4 a0 19) + 1)) = M5
      have j5 : Sm M M5 := by rw [← hM5]; exact (Sm.wi j4)
      replace H := H M5 hM5.symm
      exact g_vret dX9_leaf_40 rfl (Nat.zero_le _) (Nat.zero_le _) (hR _ j5 H)
/-! X9_mustNumber -/
def pX9_mustNumber (N K : Nat) (M : gM) (a0 : Nat) (x1 : Int32) (x2 : Int32) (R : gM → Prop) : Prop := ∀ v1 : Int32, v1 = (fX9_fine M a0) → ((v1 = 0 → ∀ v2 : Int32, v2 = (fX9_fine M a0) → ((v2 = 0 → R M) ∧ (¬ v2 = 0 → ∀ M1 : gM, M1 = (g_wi M a0 19 ((g_mi M a0 19) + 1)) → R M1))) ∧ (¬ v1 = 0 → (vp_in ((g_mi M a0 19)) 401) ∧ ((¬ (g_mi M (a0 + 9) ((g_mi M a0 19)).toNatClampNeg) = 50 → pX9_faults N K M a0 (fun M2 => ∀ v3 : Int32, v3 = (fX9_fine M2 a0) → ((v3 = 0 → R M2) ∧ (¬ v3 = 0 → ∀ M3 : gM, M3 = (g_wi M2 a0 19 ((g_mi M2 a0 19) + 1)) → R M3)))) ∧ ((g_mi M (a0 + 9) ((g_mi M a0 19)).toNatClampNeg) = 50 → ∀ v4 : Int32, v4 = (fX9_lies (g_mi M (a0 + 10) ((g_mi M a0 19)).toNatClampNeg) x1 x2) → ((¬ v4 = 0 → ∀ v5 : Int32, v5 = (fX9_fine M a0) → ((v5 = 0 → R M) ∧ (¬ v5 = 0 → ∀ M4 : gM, M4 = (g_wi M a0 19 ((g_mi M a0 19) + 1)) → R M4))) ∧ (v4 = 0 → pX9_faults N K M a0 (fun M5 => ∀ v6 : Int32, v6 = (fX9_fine M5 a0) → ((v6 = 0 → R M5) ∧ (¬ v6 = 0 → ∀ M6 : gM, M6 = (g_wi M5 a0 19 ((g_mi M5 a0 19) + 1)) → R M6)))))))))
set_option maxRecDepth 10000 in
theorem uX9_mustNumber {N K : Nat} {X : gX} {d mc ms : Nat} {Q : Option Value → gM → Prop} {M : gM} {a0 : Nat} {x1 : Int32} {x2 : Int32} {R : gM → Prop} (s0 : Mo M a0) (H : pX9_mustNumber N K M a0 x1 x2 R) (hR : ∀ (M1 : gM), Sm M M1 → R M1 → Q none M1) : Cn X (d + 2) mc ms kX9_mustNumber [.ref a0, .int (x1), .int (x2)] M Q := by
  unfold pX9_mustNumber at H
  refine g_meth rfl rfl (Nat.le_of_ble_eq_true rfl) rfl ?_
  refine g_aload_n 0 1 dX9_mustNumber_0 rfl rfl ?_
  refine g_callV (mc1 := 0) (ms1 := 0) (b := a0) (rest := []) (av := []) kX9_fine 4 dX9_mustNumber_1 rfl rfl mbX9_182 imX9_fine seX9_fine gcl9.1 s0.1 (Nat.le_of_ble_eq_true rfl) (Nat.zero_le _) (Nat.zero_le _) (tX9_fine s0 ?_)
  show Go X (d + 2) mc ms kX9_mustNumber Q 4 [(0, .ref a0), (1, .int (x1)), (2, .int (x2))] [.int ((fX9_fine M a0))] M 0 0
  generalize hv1 : (fX9_fine M a0) = v1
  replace H := H v1 hv1.symm
  refine g_if_eq 42 7 dX9_mustNumber_4 rfl rfl (fun c1 => ?_) (fun c1 => ?_)
  · skip
    replace H := H.1 c1
    refine g_aload_n 0 43 dX9_mustNumber_42 rfl rfl ?_
    refine g_callV (mc1 := 0) (ms1 := 0) (b := a0) (rest := []) (av := []) kX9_fine 46 dX9_mustNumber_43 rfl rfl mbX9_182 imX9_fine seX9_fine gcl9.1 s0.1 (Nat.le_of_ble_eq_true rfl) (Nat.zero_le _) (Nat.zero_le _) (tX9_fine s0 ?_)
    show Go X (d + 2) mc ms kX9_mustNumber Q 46 [(0, .ref a0), (1, .int (x1)), (2, .int (x2))] [.int ((fX9_fine M a0))] M 0 0
    generalize hv2 : (fX9_fine M a0) = v2
    replace H := H v2 hv2.symm
    refine g_if_eq 59 49 dX9_mustNumber_46 rfl rfl (fun c2 => ?_) (fun c2 => ?_)
    · skip
      replace H := H.1 c2
      exact g_vret dX9_mustNumber_59 rfl (Nat.zero_le _) (Nat.zero_le _) (hR _ Sm.rf H)
    · skip
      replace H := H.2 c2
      refine g_aload_n 0 50 dX9_mustNumber_49 rfl rfl ?_
      refine g_dup 51 dX9_mustNumber_50 rfl rfl ?_
      refine g_getI 54 dX9_mustNumber_51 rfl flX9_186 s0.1 ?_
      refine g_iconst (1) 55 dX9_mustNumber_54 rfl rfl ?_
      refine g_iadd 56 dX9_mustNumber_55 rfl ?_
      refine g_putI 59 dX9_mustNumber_56 rfl flX9_186 s0.1 ?_
      generalize hM1 : (g_wi M a0 19 ((g_mi M a0 19) + 1)) = M1
      have j1 : Sm M M1 := by rw [← hM1]; exact (Sm.wi Sm.rf)
      replace H := H M1 hM1.symm
      exact g_vret dX9_mustNumber_59 rfl (Nat.zero_le _) (Nat.zero_le _) (hR _ j1 H)
  · skip
    replace H := H.2 c1
    refine g_aload_n 0 8 dX9_mustNumber_7 rfl rfl ?_
    refine g_getR 11 (a0 + 9) dX9_mustNumber_8 rfl flX9_54 s0.1 s0.2.2.2.2.2.2.2.2.2.2.2.2.2.2.2.2.2.1 ?_
    refine g_aload_n 0 12 dX9_mustNumber_11 rfl rfl ?_
    refine g_getI 15 dX9_mustNumber_12 rfl flX9_186 s0.1 ?_
    obtain ⟨b1, H⟩ := H
    refine h_iaload 16 ((g_mi M a0 19)).toNatClampNeg dX9_mustNumber_15 rfl rfl s0.2.2.2.2.2.2.2.2.2.2.2.2.2.2.2.2.2.2.1 b1 ?_
    refine g_bipush (50) 18 dX9_mustNumber_16 rfl rfl ?_
    refine g_icmp_ne 38 21 dX9_mustNumber_18 rfl rfl (fun c3 => ?_) (fun c3 => ?_)
    · skip
      replace H := H.1 c3
      refine g_aload_n 0 39 dX9_mustNumber_38 rfl rfl ?_
      refine g_callV (mc1 := 0) (ms1 := 0) (b := a0) (rest := []) (av := []) kX9_faults 42 dX9_mustNumber_39 rfl rfl mbX9_192 imX9_faults seX9_faults gcl9.1 s0.1 (Nat.le_of_ble_eq_true rfl) (Nat.zero_le _) (Nat.zero_le _) (uX9_faults (N := N) (K := K) s0 H (fun M2 jj H => ?_))
      have j2 : Sm M M2 := jj
      show Go X (d + 2) mc ms kX9_mustNumber Q 42 [(0, .ref a0), (1, .int (x1)), (2, .int (x2))] [] M2 0 0
      refine g_aload_n 0 43 dX9_mustNumber_42 rfl rfl ?_
      refine g_callV (mc1 := 0) (ms1 := 0) (b := a0) (rest := []) (av := []) kX9_fine 46 dX9_mustNumber_43 rfl rfl mbX9_182 imX9_fine seX9_fine gcl9.1 (Sm.k j2 s0.1) (Nat.le_of_ble_eq_true rfl) (Nat.zero_le _) (Nat.zero_le _) (tX9_fine (Mo.sm j2 s0) ?_)
      show Go X (d + 2) mc ms kX9_mustNumber Q 46 [(0, .ref a0), (1, .int (x1)), (2, .int (x2))] [.int ((fX9_fine M2 a0))] M2 0 0
      generalize hv3 : (fX9_fine M2 a0) = v3
      replace H := H v3 hv3.symm
      refine g_if_eq 59 49 dX9_mustNumber_46 rfl rfl (fun c4 => ?_) (fun c4 => ?_)
      · skip
        replace H := H.1 c4
        exact g_vret dX9_mustNumber_59 rfl (Nat.zero_le _) (Nat.zero_le _) (hR _ j2 H)
      · skip
        replace H := H.2 c4
        refine g_aload_n 0 50 dX9_mustNumber_49 rfl rfl ?_
        refine g_dup 51 dX9_mustNumber_50 rfl rfl ?_
        refine g_getI 54 dX9_mustNumber_51 rfl flX9_186 (Sm.k j2 s0.1) ?_
        refine g_iconst (1) 55 dX9_mustNumber_54 rfl rfl ?_
        refine g_iadd 56 dX9_mustNumber_55 rfl ?_
        refine g_putI 59 dX9_mustNumber_56 rfl flX9_186 (Sm.k j2 s0.1) ?_
        generalize hM3 : (g_wi M2 a0 19 ((g_mi M2 a0 19) + 1)) = M3
        have j3 : Sm M M3 := by rw [← hM3]; exact (Sm.wi j2)
        replace H := H M3 hM3.symm
        exact g_vret dX9_mustNumber_59 rfl (Nat.zero_le _) (Nat.zero_le _) (hR _ j3 H)
    · skip
      replace H := H.2 c3
      refine g_aload_n 0 22 dX9_mustNumber_21 rfl rfl ?_
      refine g_getR 25 (a0 + 10) dX9_mustNumber_22 rfl flX9_57 s0.1 s0.2.2.2.2.2.2.2.2.2.2.2.2.2.2.2.2.2.2.2.1 ?_
      refine g_aload_n 0 26 dX9_mustNumber_25 rfl rfl ?_
      refine g_getI 29 dX9_mustNumber_26 rfl flX9_186 s0.1 ?_
      refine h_iaload 30 ((g_mi M a0 19)).toNatClampNeg dX9_mustNumber_29 rfl rfl s0.2.2.2.2.2.2.2.2.2.2.2.2.2.2.2.2.2.2.2.2.1 b1 ?_
      refine g_iload_n 1 31 dX9_mustNumber_30 rfl rfl ?_
      refine g_iload_n 2 32 dX9_mustNumber_31 rfl rfl ?_
      refine g_callS (mc1 := 0) (ms1 := 0) (rest := []) (av := [.int ((g_mi M (a0 + 10) ((g_mi M a0 19)).toNatClampNeg)), .int (x1), .int (x2)]) kX9_lies 35 dX9_mustNumber_32 rfl rfl mbX9_18 smX9_lies (Nat.le_of_ble_eq_true rfl) (Nat.zero_le _) (Nat.zero_le _) (tX9_lies  ?_)
      show Go X (d + 2) mc ms kX9_mustNumber Q 35 [(0, .ref a0), (1, .int (x1)), (2, .int (x2))] [.int ((fX9_lies (g_mi M (a0 + 10) ((g_mi M a0 19)).toNatClampNeg) x1 x2))] M 0 0
      generalize hv4 : (fX9_lies (g_mi M (a0 + 10) ((g_mi M a0 19)).toNatClampNeg) x1 x2) = v4
      replace H := H v4 hv4.symm
      refine g_if_ne 42 38 dX9_mustNumber_35 rfl rfl (fun c5 => ?_) (fun c5 => ?_)
      · skip
        replace H := H.1 c5
        refine g_aload_n 0 43 dX9_mustNumber_42 rfl rfl ?_
        refine g_callV (mc1 := 0) (ms1 := 0) (b := a0) (rest := []) (av := []) kX9_fine 46 dX9_mustNumber_43 rfl rfl mbX9_182 imX9_fine seX9_fine gcl9.1 s0.1 (Nat.le_of_ble_eq_true rfl) (Nat.zero_le _) (Nat.zero_le _) (tX9_fine s0 ?_)
        show Go X (d + 2) mc ms kX9_mustNumber Q 46 [(0, .ref a0), (1, .int (x1)), (2, .int (x2))] [.int ((fX9_fine M a0))] M 0 0
        generalize hv5 : (fX9_fine M a0) = v5
        replace H := H v5 hv5.symm
        refine g_if_eq 59 49 dX9_mustNumber_46 rfl rfl (fun c6 => ?_) (fun c6 => ?_)
        · skip
          replace H := H.1 c6
          exact g_vret dX9_mustNumber_59 rfl (Nat.zero_le _) (Nat.zero_le _) (hR _ Sm.rf H)
        · skip
          replace H := H.2 c6
          refine g_aload_n 0 50 dX9_mustNumber_49 rfl rfl ?_
          refine g_dup 51 dX9_mustNumber_50 rfl rfl ?_
          refine g_getI 54 dX9_mustNumber_51 rfl flX9_186 s0.1 ?_
          refine g_iconst (1) 55 dX9_mustNumber_54 rfl rfl ?_
          refine g_iadd 56 dX9_mustNumber_55 rfl ?_
          refine g_putI 59 dX9_mustNumber_56 rfl flX9_186 s0.1 ?_
          generalize hM4 : (g_wi M a0 19 ((g_mi M a0 19) + 1)) = M4
          have j4 : Sm M M4 := by rw [← hM4]; exact (Sm.wi Sm.rf)
          replace H := H M4 hM4.symm
          exact g_vret dX9_mustNumber_59 rfl (Nat.zero_le _) (Nat.zero_le _) (hR _ j4 H)
      · skip
        replace H := H.2 c5
        refine g_aload_n 0 39 dX9_mustNumber_38 rfl rfl ?_
        refine g_callV (mc1 := 0) (ms1 := 0) (b := a0) (rest := []) (av := []) kX9_faults 42 dX9_mustNumber_39 rfl rfl mbX9_192 imX9_faults seX9_faults gcl9.1 s0.1 (Nat.le_of_ble_eq_true rfl) (Nat.zero_le _) (Nat.zero_le _) (uX9_faults (N := N) (K := K) s0 H (fun M5 jj H => ?_))
        have j5 : Sm M M5 := jj
        show Go X (d + 2) mc ms kX9_mustNumber Q 42 [(0, .ref a0), (1, .int (x1)), (2, .int (x2))] [] M5 0 0
        refine g_aload_n 0 43 dX9_mustNumber_42 rfl rfl ?_
        refine g_callV (mc1 := 0) (ms1 := 0) (b := a0) (rest := []) (av := []) kX9_fine 46 dX9_mustNumber_43 rfl rfl mbX9_182 imX9_fine seX9_fine gcl9.1 (Sm.k j5 s0.1) (Nat.le_of_ble_eq_true rfl) (Nat.zero_le _) (Nat.zero_le _) (tX9_fine (Mo.sm j5 s0) ?_)
        show Go X (d + 2) mc ms kX9_mustNumber Q 46 [(0, .ref a0), (1, .int (x1)), (2, .int (x2))] [.int ((fX9_fine M5 a0))] M5 0 0
        generalize hv6 : (fX9_fine M5 a0) = v6
        replace H := H v6 hv6.symm
        refine g_if_eq 59 49 dX9_mustNumber_46 rfl rfl (fun c7 => ?_) (fun c7 => ?_)
        · skip
          replace H := H.1 c7
          exact g_vret dX9_mustNumber_59 rfl (Nat.zero_le _) (Nat.zero_le _) (hR _ j5 H)
        · skip
          replace H := H.2 c7
          refine g_aload_n 0 50 dX9_mustNumber_49 rfl rfl ?_
          refine g_dup 51 dX9_mustNumber_50 rfl rfl ?_
          refine g_getI 54 dX9_mustNumber_51 rfl flX9_186 (Sm.k j5 s0.1) ?_
          refine g_iconst (1) 55 dX9_mustNumber_54 rfl rfl ?_
          refine g_iadd 56 dX9_mustNumber_55 rfl ?_
          refine g_putI 59 dX9_mustNumber_56 rfl flX9_186 (Sm.k j5 s0.1) ?_
          generalize hM6 : (g_wi M5 a0 19 ((g_mi M5 a0 19) + 1)) = M6
          have j6 : Sm M M6 := by rw [← hM6]; exact (Sm.wi j5)
          replace H := H M6 hM6.symm
          exact g_vret dX9_mustNumber_59 rfl (Nat.zero_le _) (Nat.zero_le _) (hR _ j6 H)
/-! X9_passes0 -/
def pX9_passes0 (N K : Nat) (M : gM) (a0 : Nat) (x1 : Int32) (R : Int32 → gM → Prop) : Prop := (EX9_codeAt M a0 (g_mi M a0 22)) ∧ ∀ v1 : Int32, v1 = (fX9_codeAt M a0 (g_mi M a0 22)) → ((¬ v1 = x1 → R 0 M) ∧ (v1 = x1 → ∀ M1 : gM, M1 = (g_wi M a0 22 ((g_mi M a0 22) + 1)) → R 1 M1))
set_option maxRecDepth 10000 in
theorem uX9_passes0 {N K : Nat} {X : gX} {d mc ms : Nat} {Q : Option Value → gM → Prop} {M : gM} {a0 : Nat} {x1 : Int32} {R : Int32 → gM → Prop} (s0 : Mo M a0) (H : pX9_passes0 N K M a0 x1 R) (hR : ∀ (v : Int32) (M1 : gM), Sm M M1 → R v M1 → Q (some (.int v)) M1) : Cn X (d + 1) mc ms kX9_passes0 [.ref a0, .int (x1)] M Q := by
  unfold pX9_passes0 at H
  refine g_meth rfl rfl (Nat.le_of_ble_eq_true rfl) rfl ?_
  refine g_aload_n 0 1 dX9_passes0_0 rfl rfl ?_
  refine g_aload_n 0 2 dX9_passes0_1 rfl rfl ?_
  refine g_getI 5 dX9_passes0_2 rfl flX9_269 s0.1 ?_
  obtain ⟨b1, H⟩ := H
  refine g_callV (mc1 := 0) (ms1 := 0) (b := a0) (rest := []) (av := [.int ((g_mi M a0 22))]) kX9_codeAt 8 dX9_passes0_5 rfl rfl mbX9_272 imX9_codeAt seX9_codeAt gcl9.1 s0.1 (Nat.le_of_ble_eq_true rfl) (Nat.zero_le _) (Nat.zero_le _) (tX9_codeAt s0 b1 ?_)
  show Go X (d + 1) mc ms kX9_passes0 Q 8 [(0, .ref a0), (1, .int (x1))] [.int ((fX9_codeAt M a0 (g_mi M a0 22)))] M 0 0
  generalize hv1 : (fX9_codeAt M a0 (g_mi M a0 22)) = v1
  replace H := H v1 hv1.symm
  refine g_iload_n 1 9 dX9_passes0_8 rfl rfl ?_
  refine g_icmp_ne 16 12 dX9_passes0_9 rfl rfl (fun c1 => ?_) (fun c1 => ?_)
  · skip
    replace H := H.1 c1
    refine g_iconst (0) 17 dX9_passes0_16 rfl rfl ?_
    refine g_istore_n 18 [(2, .int (0)), (0, .ref a0), (1, .int (x1))] dX9_passes0_17 rfl (Nat.le_of_ble_eq_true rfl) rfl ?_
    refine g_iload_n 0 19 dX9_passes0_18 rfl rfl ?_
    refine g_if_eq 32 22 dX9_passes0_19 rfl rfl (fun _ => ?_) (fun q => absurd q (by decide))
    refine g_iload_n 0 33 dX9_passes0_32 rfl rfl ?_
    exact g_zret dX9_passes0_33 rfl (by decide) (Nat.zero_le _) (Nat.zero_le _) (hR _ _ Sm.rf H)
  · skip
    replace H := H.2 c1
    refine g_iconst (1) 13 dX9_passes0_12 rfl rfl ?_
    refine g_goto 17 dX9_passes0_13 rfl ?_
    refine g_istore_n 18 [(2, .int (1)), (0, .ref a0), (1, .int (x1))] dX9_passes0_17 rfl (Nat.le_of_ble_eq_true rfl) rfl ?_
    refine g_iload_n 0 19 dX9_passes0_18 rfl rfl ?_
    refine g_if_eq 32 22 dX9_passes0_19 rfl rfl (fun q => absurd q (by decide)) (fun _ => ?_)
    refine g_aload_n 1 23 dX9_passes0_22 rfl rfl ?_
    refine g_dup 24 dX9_passes0_23 rfl rfl ?_
    refine g_getI 27 dX9_passes0_24 rfl flX9_269 s0.1 ?_
    refine g_iconst (1) 28 dX9_passes0_27 rfl rfl ?_
    refine g_iadd 29 dX9_passes0_28 rfl ?_
    refine g_putI 32 dX9_passes0_29 rfl flX9_269 s0.1 ?_
    generalize hM1 : (g_wi M a0 22 ((g_mi M a0 22) + 1)) = M1
    have j1 : Sm M M1 := by rw [← hM1]; exact (Sm.wi Sm.rf)
    replace H := H M1 hM1.symm
    refine g_iload_n 0 33 dX9_passes0_32 rfl rfl ?_
    exact g_zret dX9_passes0_33 rfl (by decide) (Nat.zero_le _) (Nat.zero_le _) (hR _ _ j1 H)
/-! X9_bounded -/
def pX9_bounded (N K : Nat) (M : gM) (a0 : Nat) (y1 : Int64) (x3 : Int32) (R : Int64 → gM → Prop) : Prop := ((x3 = 0 → (((g_mi M a0 24) = 0 → R y1 M) ∧ (¬ (g_mi M a0 24) = 0 → R 0 M))) ∧ (¬ x3 = 0 → ((0 < (lg_cmp y1 1000000000) → ∀ M1 : gM, M1 = (g_wi M a0 24 1) → (((g_mi M1 a0 24) = 0 → R y1 M1) ∧ (¬ (g_mi M1 a0 24) = 0 → R 0 M1))) ∧ (¬ 0 < (lg_cmp y1 1000000000) → ((0 ≤ (lg_cmp y1 (-1000000000)) → (((g_mi M a0 24) = 0 → R y1 M) ∧ (¬ (g_mi M a0 24) = 0 → R 0 M))) ∧ (¬ 0 ≤ (lg_cmp y1 (-1000000000)) → ∀ M2 : gM, M2 = (g_wi M a0 24 1) → (((g_mi M2 a0 24) = 0 → R y1 M2) ∧ (¬ (g_mi M2 a0 24) = 0 → R 0 M2))))))))
set_option maxRecDepth 10000 in
theorem uX9_bounded {N K : Nat} {X : gX} {d mc ms : Nat} {Q : Option Value → gM → Prop} {M : gM} {a0 : Nat} {y1 : Int64} {x3 : Int32} {R : Int64 → gM → Prop} (s0 : Mo M a0) (H : pX9_bounded N K M a0 y1 x3 R) (hR : ∀ (v : Int64) (M1 : gM), Sm M M1 → R v M1 → Q (some (.long v)) M1) : Cn X d mc ms kX9_bounded [.ref a0, .long (y1), .int (x3)] M Q := by
  unfold pX9_bounded at H
  refine g_meth rfl rfl (Nat.le_of_ble_eq_true rfl) rfl ?_
  refine g_iload_n 2 1 dX9_bounded_0 rfl rfl ?_
  refine g_if_eq 25 4 dX9_bounded_1 rfl rfl (fun c1 => ?_) (fun c1 => ?_)
  · skip
    replace H := H.1 c1
    refine g_aload_n 0 26 dX9_bounded_25 rfl rfl ?_
    refine g_getI 29 dX9_bounded_26 rfl flX9_279 s0.1 ?_
    refine g_if_eq 36 32 dX9_bounded_29 rfl rfl (fun c2 => ?_) (fun c2 => ?_)
    · skip
      replace H := H.1 c2
      refine g_lload_n 1 37 dX9_bounded_36 rfl rfl ?_
      exact g_lret dX9_bounded_37 rfl (Nat.zero_le _) (Nat.zero_le _) (hR _ _ Sm.rf H)
    · skip
      replace H := H.2 c2
      refine g_lconst (0) 33 dX9_bounded_32 rfl rfl ?_
      refine g_goto 37 dX9_bounded_33 rfl ?_
      exact g_lret dX9_bounded_37 rfl (Nat.zero_le _) (Nat.zero_le _) (hR _ _ Sm.rf H)
  · skip
    replace H := H.2 c1
    refine g_lload_n 1 5 dX9_bounded_4 rfl rfl ?_
    refine g_ldc2 (1000000000) 8 dX9_bounded_5 rfl q6_36 ?_
    refine g_lcmp 9 dX9_bounded_8 rfl ?_
    refine g_if_gt 20 12 dX9_bounded_9 rfl rfl (fun c3 => ?_) (fun c3 => ?_)
    · skip
      replace H := H.1 c3
      refine g_aload_n 0 21 dX9_bounded_20 rfl rfl ?_
      refine g_iconst (1) 22 dX9_bounded_21 rfl rfl ?_
      refine g_putZ 25 dX9_bounded_22 rfl flX9_279 s0.1 (by decide) ?_
      generalize hM1 : (g_wi M a0 24 1) = M1
      have j1 : Sm M M1 := by rw [← hM1]; exact (Sm.wi Sm.rf)
      replace H := H M1 hM1.symm
      refine g_aload_n 0 26 dX9_bounded_25 rfl rfl ?_
      refine g_getI 29 dX9_bounded_26 rfl flX9_279 (Sm.k j1 s0.1) ?_
      refine g_if_eq 36 32 dX9_bounded_29 rfl rfl (fun c4 => ?_) (fun c4 => ?_)
      · skip
        replace H := H.1 c4
        refine g_lload_n 1 37 dX9_bounded_36 rfl rfl ?_
        exact g_lret dX9_bounded_37 rfl (Nat.zero_le _) (Nat.zero_le _) (hR _ _ j1 H)
      · skip
        replace H := H.2 c4
        refine g_lconst (0) 33 dX9_bounded_32 rfl rfl ?_
        refine g_goto 37 dX9_bounded_33 rfl ?_
        exact g_lret dX9_bounded_37 rfl (Nat.zero_le _) (Nat.zero_le _) (hR _ _ j1 H)
    · skip
      replace H := H.2 c3
      refine g_lload_n 1 13 dX9_bounded_12 rfl rfl ?_
      refine g_ldc2 ((-1000000000)) 16 dX9_bounded_13 rfl q6_37 ?_
      refine g_lcmp 17 dX9_bounded_16 rfl ?_
      refine g_if_ge 25 20 dX9_bounded_17 rfl rfl (fun c5 => ?_) (fun c5 => ?_)
      · skip
        replace H := H.1 c5
        refine g_aload_n 0 26 dX9_bounded_25 rfl rfl ?_
        refine g_getI 29 dX9_bounded_26 rfl flX9_279 s0.1 ?_
        refine g_if_eq 36 32 dX9_bounded_29 rfl rfl (fun c6 => ?_) (fun c6 => ?_)
        · skip
          replace H := H.1 c6
          refine g_lload_n 1 37 dX9_bounded_36 rfl rfl ?_
          exact g_lret dX9_bounded_37 rfl (Nat.zero_le _) (Nat.zero_le _) (hR _ _ Sm.rf H)
        · skip
          replace H := H.2 c6
          refine g_lconst (0) 33 dX9_bounded_32 rfl rfl ?_
          refine g_goto 37 dX9_bounded_33 rfl ?_
          exact g_lret dX9_bounded_37 rfl (Nat.zero_le _) (Nat.zero_le _) (hR _ _ Sm.rf H)
      · skip
        replace H := H.2 c5
        refine g_aload_n 0 21 dX9_bounded_20 rfl rfl ?_
        refine g_iconst (1) 22 dX9_bounded_21 rfl rfl ?_
        refine g_putZ 25 dX9_bounded_22 rfl flX9_279 s0.1 (by decide) ?_
        generalize hM2 : (g_wi M a0 24 1) = M2
        have j2 : Sm M M2 := by rw [← hM2]; exact (Sm.wi Sm.rf)
        replace H := H M2 hM2.symm
        refine g_aload_n 0 26 dX9_bounded_25 rfl rfl ?_
        refine g_getI 29 dX9_bounded_26 rfl flX9_279 (Sm.k j2 s0.1) ?_
        refine g_if_eq 36 32 dX9_bounded_29 rfl rfl (fun c7 => ?_) (fun c7 => ?_)
        · skip
          replace H := H.1 c7
          refine g_lload_n 1 37 dX9_bounded_36 rfl rfl ?_
          exact g_lret dX9_bounded_37 rfl (Nat.zero_le _) (Nat.zero_le _) (hR _ _ j2 H)
        · skip
          replace H := H.2 c7
          refine g_lconst (0) 33 dX9_bounded_32 rfl rfl ?_
          refine g_goto 37 dX9_bounded_33 rfl ?_
          exact g_lret dX9_bounded_37 rfl (Nat.zero_le _) (Nat.zero_le _) (hR _ _ j2 H)
/-! X9_setsAsked -/
def pX9_setsAsked (N K : Nat) (M : gM) (a0 : Nat) (x1 : Int32) (x2 : Int32) (x3 : Int32) (x4 : Int32) (x5 : Int32) (R : gM → Prop) : Prop := ∀ M1 : gM, M1 = (g_wi M (a0 + 12) 0 x1) → ∀ M2 : gM, M2 = (g_wi M1 (a0 + 12) 1 x2) → ∀ M3 : gM, M3 = (g_wi M2 (a0 + 12) 2 x3) → ∀ M4 : gM, M4 = (g_wi M3 (a0 + 12) 3 x4) → ∀ M5 : gM, M5 = (g_wi M4 (a0 + 12) 4 (g_mi M4 (a0 + 2) 201)) → ∀ M6 : gM, M6 = (g_wi M5 (a0 + 12) 5 x5) → ∀ M7 : gM, M7 = (g_wi M6 (a0 + 12) 6 (g_mi M6 (a0 + 2) 187)) → R M7
set_option maxRecDepth 10000 in
theorem uX9_setsAsked {N K : Nat} {X : gX} {d mc ms : Nat} {Q : Option Value → gM → Prop} {M : gM} {a0 : Nat} {x1 : Int32} {x2 : Int32} {x3 : Int32} {x4 : Int32} {x5 : Int32} {R : gM → Prop} (s0 : Mo M a0) (H : pX9_setsAsked N K M a0 x1 x2 x3 x4 x5 R) (hR : ∀ (M1 : gM), Sm M M1 → R M1 → Q none M1) : Cn X d mc ms kX9_setsAsked [.ref a0, .int (x1), .int (x2), .int (x3), .int (x4), .int (x5)] M Q := by
  unfold pX9_setsAsked at H
  refine g_meth rfl rfl (Nat.le_of_ble_eq_true rfl) rfl ?_
  refine g_aload_n 0 1 dX9_setsAsked_0 rfl rfl ?_
  refine g_getR 4 (a0 + 12) dX9_setsAsked_1 rfl flX9_63 s0.1 s0.2.2.2.2.2.2.2.2.2.2.2.2.2.2.2.2.2.2.2.2.2.2.2.1 ?_
  refine g_iconst (0) 5 dX9_setsAsked_4 rfl rfl ?_
  refine g_iload_n 1 6 dX9_setsAsked_5 rfl rfl ?_
  refine h_iastore 7 0 dX9_setsAsked_6 rfl rfl s0.2.2.2.2.2.2.2.2.2.2.2.2.2.2.2.2.2.2.2.2.2.2.2.2.1 (vp_lit rfl) ?_
  generalize hM1 : (g_wi M (a0 + 12) 0 x1) = M1
  have j1 : Sm M M1 := by rw [← hM1]; exact (Sm.wi Sm.rf)
  replace H := H M1 hM1.symm
  refine g_aload_n 0 8 dX9_setsAsked_7 rfl rfl ?_
  refine g_getR 11 (a0 + 12) dX9_setsAsked_8 rfl flX9_63 (Sm.k j1 s0.1) (Sm.r j1 s0.2.2.2.2.2.2.2.2.2.2.2.2.2.2.2.2.2.2.2.2.2.2.2.1) ?_
  refine g_iconst (1) 12 dX9_setsAsked_11 rfl rfl ?_
  refine g_iload_n 2 13 dX9_setsAsked_12 rfl rfl ?_
  refine h_iastore 14 1 dX9_setsAsked_13 rfl rfl (Sm.k j1 s0.2.2.2.2.2.2.2.2.2.2.2.2.2.2.2.2.2.2.2.2.2.2.2.2.1) (vp_lit rfl) ?_
  generalize hM2 : (g_wi M1 (a0 + 12) 1 x2) = M2
  have j2 : Sm M M2 := by rw [← hM2]; exact (Sm.wi j1)
  replace H := H M2 hM2.symm
  refine g_aload_n 0 15 dX9_setsAsked_14 rfl rfl ?_
  refine g_getR 18 (a0 + 12) dX9_setsAsked_15 rfl flX9_63 (Sm.k j2 s0.1) (Sm.r j2 s0.2.2.2.2.2.2.2.2.2.2.2.2.2.2.2.2.2.2.2.2.2.2.2.1) ?_
  refine g_iconst (2) 19 dX9_setsAsked_18 rfl rfl ?_
  refine g_iload_n 3 20 dX9_setsAsked_19 rfl rfl ?_
  refine h_iastore 21 2 dX9_setsAsked_20 rfl rfl (Sm.k j2 s0.2.2.2.2.2.2.2.2.2.2.2.2.2.2.2.2.2.2.2.2.2.2.2.2.1) (vp_lit rfl) ?_
  generalize hM3 : (g_wi M2 (a0 + 12) 2 x3) = M3
  have j3 : Sm M M3 := by rw [← hM3]; exact (Sm.wi j2)
  replace H := H M3 hM3.symm
  refine g_aload_n 0 22 dX9_setsAsked_21 rfl rfl ?_
  refine g_getR 25 (a0 + 12) dX9_setsAsked_22 rfl flX9_63 (Sm.k j3 s0.1) (Sm.r j3 s0.2.2.2.2.2.2.2.2.2.2.2.2.2.2.2.2.2.2.2.2.2.2.2.1) ?_
  refine g_iconst (3) 26 dX9_setsAsked_25 rfl rfl ?_
  refine g_iload 4 28 dX9_setsAsked_26 rfl rfl ?_
  refine h_iastore 29 3 dX9_setsAsked_28 rfl rfl (Sm.k j3 s0.2.2.2.2.2.2.2.2.2.2.2.2.2.2.2.2.2.2.2.2.2.2.2.2.1) (vp_lit rfl) ?_
  generalize hM4 : (g_wi M3 (a0 + 12) 3 x4) = M4
  have j4 : Sm M M4 := by rw [← hM4]; exact (Sm.wi j3)
  replace H := H M4 hM4.symm
  refine g_aload_n 0 30 dX9_setsAsked_29 rfl rfl ?_
  refine g_getR 33 (a0 + 12) dX9_setsAsked_30 rfl flX9_63 (Sm.k j4 s0.1) (Sm.r j4 s0.2.2.2.2.2.2.2.2.2.2.2.2.2.2.2.2.2.2.2.2.2.2.2.1) ?_
  refine g_iconst (4) 34 dX9_setsAsked_33 rfl rfl ?_
  refine g_aload_n 0 35 dX9_setsAsked_34 rfl rfl ?_
  refine g_getR 38 (a0 + 2) dX9_setsAsked_35 rfl flX9_28 (Sm.k j4 s0.1) (Sm.r j4 s0.2.2.2.1) ?_
  refine g_sipush (201) 41 dX9_setsAsked_38 rfl rfl ?_
  refine h_iaload 42 201 dX9_setsAsked_41 rfl rfl (Sm.k j4 s0.2.2.2.2.1) (vp_lit rfl) ?_
  refine h_iastore 43 4 dX9_setsAsked_42 rfl rfl (Sm.k j4 s0.2.2.2.2.2.2.2.2.2.2.2.2.2.2.2.2.2.2.2.2.2.2.2.2.1) (vp_lit rfl) ?_
  generalize hM5 : (g_wi M4 (a0 + 12) 4 (g_mi M4 (a0 + 2) 201)) = M5
  have j5 : Sm M M5 := by rw [← hM5]; exact (Sm.wi j4)
  replace H := H M5 hM5.symm
  refine g_aload_n 0 44 dX9_setsAsked_43 rfl rfl ?_
  refine g_getR 47 (a0 + 12) dX9_setsAsked_44 rfl flX9_63 (Sm.k j5 s0.1) (Sm.r j5 s0.2.2.2.2.2.2.2.2.2.2.2.2.2.2.2.2.2.2.2.2.2.2.2.1) ?_
  refine g_iconst (5) 48 dX9_setsAsked_47 rfl rfl ?_
  refine g_iload 5 50 dX9_setsAsked_48 rfl rfl ?_
  refine h_iastore 51 5 dX9_setsAsked_50 rfl rfl (Sm.k j5 s0.2.2.2.2.2.2.2.2.2.2.2.2.2.2.2.2.2.2.2.2.2.2.2.2.1) (vp_lit rfl) ?_
  generalize hM6 : (g_wi M5 (a0 + 12) 5 x5) = M6
  have j6 : Sm M M6 := by rw [← hM6]; exact (Sm.wi j5)
  replace H := H M6 hM6.symm
  refine g_aload_n 0 52 dX9_setsAsked_51 rfl rfl ?_
  refine g_getR 55 (a0 + 12) dX9_setsAsked_52 rfl flX9_63 (Sm.k j6 s0.1) (Sm.r j6 s0.2.2.2.2.2.2.2.2.2.2.2.2.2.2.2.2.2.2.2.2.2.2.2.1) ?_
  refine g_bipush (6) 57 dX9_setsAsked_55 rfl rfl ?_
  refine g_aload_n 0 58 dX9_setsAsked_57 rfl rfl ?_
  refine g_getR 61 (a0 + 2) dX9_setsAsked_58 rfl flX9_28 (Sm.k j6 s0.1) (Sm.r j6 s0.2.2.2.1) ?_
  refine g_sipush (187) 64 dX9_setsAsked_61 rfl rfl ?_
  refine h_iaload 65 187 dX9_setsAsked_64 rfl rfl (Sm.k j6 s0.2.2.2.2.1) (vp_lit rfl) ?_
  refine h_iastore 66 6 dX9_setsAsked_65 rfl rfl (Sm.k j6 s0.2.2.2.2.2.2.2.2.2.2.2.2.2.2.2.2.2.2.2.2.2.2.2.2.1) (vp_lit rfl) ?_
  generalize hM7 : (g_wi M6 (a0 + 12) 6 (g_mi M6 (a0 + 2) 187)) = M7
  have j7 : Sm M M7 := by rw [← hM7]; exact (Sm.wi j6)
  replace H := H M7 hM7.symm
  exact g_vret dX9_setsAsked_66 rfl (Nat.zero_le _) (Nat.zero_le _) (hR _ j7 H)
/-! X9_draws -/
def pX9_draws (N K : Nat) (M : gM) (a0 : Nat) (x1 : Int32) (R : Int32 → gM → Prop) : Prop := ∀ M1 : gM, M1 = (g_wi M a0 49 (((l_rm ((1103 * (((g_mi M a0 49) : Int32).toInt64)) + 12345) 1000003) : Int64).toInt32)) → (¬ (x1 : Int32) = 0) ∧ R (i_rm (g_mi M1 a0 49) x1) M1
set_option maxRecDepth 10000 in
theorem uX9_draws {N K : Nat} {X : gX} {d mc ms : Nat} {Q : Option Value → gM → Prop} {M : gM} {a0 : Nat} {x1 : Int32} {R : Int32 → gM → Prop} (s0 : Mo M a0) (H : pX9_draws N K M a0 x1 R) (hR : ∀ (v : Int32) (M1 : gM), Sm M M1 → R v M1 → Q (some (.int v)) M1) : Cn X d mc ms kX9_draws [.ref a0, .int (x1)] M Q := by
  unfold pX9_draws at H
  refine g_meth rfl rfl (Nat.le_of_ble_eq_true rfl) rfl ?_
  refine g_aload_n 0 1 dX9_draws_0 rfl rfl ?_
  refine g_ldc2 (1103) 4 dX9_draws_1 rfl q7_187 ?_
  refine g_aload_n 0 5 dX9_draws_4 rfl rfl ?_
  refine g_getI 8 dX9_draws_5 rfl flX9_476 s0.1 ?_
  refine g_i2l 9 dX9_draws_8 rfl ?_
  refine g_lmul 10 dX9_draws_9 rfl ?_
  refine g_ldc2 (12345) 13 dX9_draws_10 rfl q7_188 ?_
  refine g_ladd 14 dX9_draws_13 rfl ?_
  refine g_ldc2 (1000003) 17 dX9_draws_14 rfl q7_189 ?_
  refine h_lrem 18 dX9_draws_17 rfl (by decide) ?_
  refine g_l2i 19 dX9_draws_18 rfl ?_
  refine g_putI 22 dX9_draws_19 rfl flX9_476 s0.1 ?_
  generalize hM1 : (g_wi M a0 49 (((l_rm ((1103 * (((g_mi M a0 49) : Int32).toInt64)) + 12345) 1000003) : Int64).toInt32)) = M1
  have j1 : Sm M M1 := by rw [← hM1]; exact (Sm.wi Sm.rf)
  replace H := H M1 hM1.symm
  refine g_aload_n 0 23 dX9_draws_22 rfl rfl ?_
  refine g_getI 26 dX9_draws_23 rfl flX9_476 (Sm.k j1 s0.1) ?_
  refine g_iload_n 1 27 dX9_draws_26 rfl rfl ?_
  obtain ⟨b1, H⟩ := H
  refine h_irem 28 dX9_draws_27 rfl b1 ?_
  exact g_iret dX9_draws_28 rfl (Nat.zero_le _) (Nat.zero_le _) (hR _ _ j1 H)
/-! X9_goodOr -/
def pX9_goodOr (N K : Nat) (M : gM) (a0 : Nat) (x1 : Int32) (R : Int32 → gM → Prop) : Prop := ((0 ≤ x1 → pX9_good0 N K M a0 x1 (fun v1 M1 => R v1 M1)) ∧ (¬ 0 ≤ x1 → pX9_refuses N K M a0 x1 (fun v2 M2 => R v2 M2)))
set_option maxRecDepth 10000 in
theorem uX9_goodOr {N K : Nat} {X : gX} {d mc ms : Nat} {Q : Option Value → gM → Prop} {M : gM} {a0 : Nat} {x1 : Int32} {R : Int32 → gM → Prop} (s0 : Mo M a0) (H : pX9_goodOr N K M a0 x1 R) (hR : ∀ (v : Int32) (M1 : gM), Sm M M1 → R v M1 → Q (some (.int v)) M1) : Cn X (d + 1) mc ms kX9_goodOr [.ref a0, .int (x1)] M Q := by
  unfold pX9_goodOr at H
  refine g_meth rfl rfl (Nat.le_of_ble_eq_true rfl) rfl ?_
  refine g_iload_n 1 1 dX9_goodOr_0 rfl rfl ?_
  refine g_if_ge 12 4 dX9_goodOr_1 rfl rfl (fun c1 => ?_) (fun c1 => ?_)
  · skip
    replace H := H.1 c1
    refine g_aload_n 0 13 dX9_goodOr_12 rfl rfl ?_
    refine g_iload_n 1 14 dX9_goodOr_13 rfl rfl ?_
    refine g_callV (mc1 := 0) (ms1 := 0) (b := a0) (rest := []) (av := [.int (x1)]) kX9_good0 17 dX9_goodOr_14 rfl rfl mbX9_14 imX9_good0 seX9_good0 gcl9.1 s0.1 (Nat.le_of_ble_eq_true rfl) (Nat.zero_le _) (Nat.zero_le _) (uX9_good0 (N := N) (K := K) s0 H (fun v1 M1 jj H => ?_))
    have j1 : Sm M M1 := jj
    show Go X (d + 1) mc ms kX9_goodOr Q 17 [(0, .ref a0), (1, .int (x1))] [.int (v1)] M1 0 0
    exact g_iret dX9_goodOr_17 rfl (Nat.zero_le _) (Nat.zero_le _) (hR _ _ j1 H)
  · skip
    replace H := H.2 c1
    refine g_aload_n 0 5 dX9_goodOr_4 rfl rfl ?_
    refine g_iload_n 1 6 dX9_goodOr_5 rfl rfl ?_
    refine g_callV (mc1 := 0) (ms1 := 0) (b := a0) (rest := []) (av := [.int (x1)]) kX9_refuses 9 dX9_goodOr_6 rfl rfl mbX9_103 imX9_refuses seX9_refuses gcl9.1 s0.1 (Nat.le_of_ble_eq_true rfl) (Nat.zero_le _) (Nat.zero_le _) (uX9_refuses (N := N) (K := K) s0 H (fun v2 M2 jj H => ?_))
    have j2 : Sm M M2 := jj
    show Go X (d + 1) mc ms kX9_goodOr Q 9 [(0, .ref a0), (1, .int (x1))] [.int (v2)] M2 0 0
    refine g_goto 17 dX9_goodOr_9 rfl ?_
    exact g_iret dX9_goodOr_17 rfl (Nat.zero_le _) (Nat.zero_le _) (hR _ _ j2 H)
/-! J7_fill_d0a16 -/
def pJ7_fill_d0a16_0 (N K : Nat) (kp : Nat → gM → Nat → Nat → Int64 → Int32 → Int32 → Prop) (R : gM → Prop) (M : gM) (a0 : Nat) (n0 : Nat) (y1 : Int64) : Prop := kp 0 M a0 n0 y1 0 (Int32.ofNat n0)
def pJ7_fill_d0a16_6 (N K : Nat) (kp : Nat → gM → Nat → Nat → Int64 → Int32 → Int32 → Prop) (R : gM → Prop) (M : gM) (a0 : Nat) (n0 : Nat) (y1 : Int64) (x3 : Int32) (x4 : Int32) : Prop := ((x4 ≤ x3 → R M) ∧ (¬ x4 ≤ x3 → (vp_in (x3) n0) ∧ ∀ M1 : gM, M1 = (g_wl M a0 (x3).toNatClampNeg y1) → kp 0 M1 a0 n0 y1 (x3 + 1) x4))
def qJ7_fill_d0a16 (N K : Nat) (R : gM → Prop) : Nat → Nat → gM → Nat → Nat → Int64 → Int32 → Int32 → Prop
  | 0, _, _, _, _, _, _, _ => False
  | n + 1, _, M, a0, n0, y1, x3, x4 => pJ7_fill_d0a16_6 N K (qJ7_fill_d0a16 N K R n) R M a0 n0 y1 x3 x4
def pJ7_fill_d0a16 (N K : Nat) (M : gM) (a0 : Nat) (n0 : Nat) (y1 : Int64) (R : gM → Prop) : Prop := pJ7_fill_d0a16_0 N K (qJ7_fill_d0a16 N K R N) R M a0 n0 y1
def ULJ7_fill_d0a16 (X : gX) (d mc ms : Nat) (Q : Option Value → gM → Prop) (N K : Nat) (R : gM → Prop) (n : Nat) : Prop := (∀ (M : gM) (a0 : Nat) (n0 : Nat) (y1 : Int64) (x3 : Int32) (x4 : Int32), g_kd M a0 = some (103, n0) → qJ7_fill_d0a16 N K R n 0 M a0 n0 y1 x3 x4 → (∀ (M1 : gM), Sl M M1 → R M1 → Q none M1) → Go X d mc ms kJ7_fill_d0a16 Q 6 [(0, .ref a0), (1, .long (y1)), (3, .int (x3)), (4, .int (x4))] [] M 0 0)
set_option maxRecDepth 10000 in
theorem ulJ7_fill_d0a16 {X : gX} {d mc ms : Nat} {Q : Option Value → gM → Prop} {N K : Nat} {R : gM → Prop} : ∀ n : Nat, ULJ7_fill_d0a16 X d mc ms Q N K R n := by
  intro n
  induction n with
  | zero => exact fun _ _ _ _ _ _ _ h _ => h.elim
  | succ n ih =>
    intro M a0 n0 y1 x3 x4 s0 H hR
    rw [qJ7_fill_d0a16] at H
    unfold pJ7_fill_d0a16_6 at H
    refine g_iload_n 2 7 dJ7_fill_d0a16_6 rfl rfl ?_
    refine g_iload 3 9 dJ7_fill_d0a16_7 rfl rfl ?_
    refine g_icmp_ge 22 12 dJ7_fill_d0a16_9 rfl rfl (fun c1 => ?_) (fun c1 => ?_)
    · skip
      replace H := H.1 c1
      exact g_vret dJ7_fill_d0a16_22 rfl (Nat.zero_le _) (Nat.zero_le _) (hR _ Sl.rf H)
    · skip
      replace H := H.2 c1
      refine g_aload_n 0 13 dJ7_fill_d0a16_12 rfl rfl ?_
      refine g_iload_n 2 14 dJ7_fill_d0a16_13 rfl rfl ?_
      refine g_lload_n 1 15 dJ7_fill_d0a16_14 rfl rfl ?_
      obtain ⟨b1, H⟩ := H
      refine h_lastore 16 (x3).toNatClampNeg dJ7_fill_d0a16_15 rfl rfl s0 b1 ?_
      generalize hM1 : (g_wl M a0 (x3).toNatClampNeg y1) = M1
      have j1 : Sl M M1 := by rw [← hM1]; exact (Sl.wl Sl.rf)
      replace H := H M1 hM1.symm
      refine g_iinc _ 2 19 [(3, .int ((x3 + 1))), (0, .ref a0), (1, .long (y1)), (4, .int (x4))] dJ7_fill_d0a16_16 rfl rfl rfl (Nat.le_of_ble_eq_true rfl) rfl ?_
      refine g_goto 6 dJ7_fill_d0a16_19 rfl ?_
      exact g_sub [1, 2, 0, 3] _ rfl (ih M1 a0 n0 y1 (x3 + 1) x4 (Sl.k j1 s0) H (fun M1 j r => hR M1 (Sl.tr j1 j) r))
set_option maxRecDepth 10000 in
theorem uJ7_fill_d0a16 {N K : Nat} {X : gX} {d mc ms : Nat} {Q : Option Value → gM → Prop} {M : gM} {a0 n0 : Nat} {y1 : Int64} {R : gM → Prop} (s0 : g_kd M a0 = some (103, n0)) (H : pJ7_fill_d0a16 N K M a0 n0 y1 R) (hR : ∀ (M1 : gM), Sl M M1 → R M1 → Q none M1) : Cn X d mc ms kJ7_fill_d0a16 [.ref a0, .long (y1)] M Q := by
  have ih := ulJ7_fill_d0a16 (X := X) (d := d) (mc := mc) (ms := ms) (Q := Q) (N := N) (K := K) (R := R) N
  unfold pJ7_fill_d0a16 pJ7_fill_d0a16_0 at H
  refine g_meth rfl rfl (Nat.le_of_ble_eq_true rfl) rfl ?_
  refine g_iconst (0) 1 dJ7_fill_d0a16_0 rfl rfl ?_
  refine g_istore_n 2 [(3, .int (0)), (0, .ref a0), (1, .long (y1))] dJ7_fill_d0a16_1 rfl (Nat.le_of_ble_eq_true rfl) rfl ?_
  refine g_aload_n 1 3 dJ7_fill_d0a16_2 rfl rfl ?_
  refine g_alenL 4 dJ7_fill_d0a16_3 rfl s0 rfl ?_
  refine g_istore 6 [(4, .int ((Int32.ofNat n0))), (3, .int (0)), (0, .ref a0), (1, .long (y1))] dJ7_fill_d0a16_4 rfl (Nat.le_of_ble_eq_true rfl) rfl ?_
  exact g_sub [2, 3, 1, 0] _ rfl (ih M a0 n0 y1 0 (Int32.ofNat n0) s0 H (fun M1 j r => hR M1 j r))
/-! X5_hadKey -/
def pX5_hadKey_0 (N K : Nat) (kp : Nat → gM → Nat → Int32 → Int32 → Prop) (R : Int32 → Prop) (M : gM) (a0 : Nat) (x1 : Int32) : Prop := kp 0 M a0 x1 0
def pX5_hadKey_2 (N K : Nat) (kp : Nat → gM → Nat → Int32 → Int32 → Prop) (R : Int32 → Prop) (M : gM) (a0 : Nat) (x1 : Int32) (x2 : Int32) : Prop := (((g_mi M a0 4) ≤ x2 → R 0) ∧ (¬ (g_mi M a0 4) ≤ x2 → (vp_in (x2) 30) ∧ ((¬ (g_mi M (a0 + 1) (x2).toNatClampNeg) = x1 → kp 0 M a0 x1 (x2 + 1)) ∧ ((g_mi M (a0 + 1) (x2).toNatClampNeg) = x1 → R 1))))
def qX5_hadKey (N K : Nat) (R : Int32 → Prop) : Nat → Nat → gM → Nat → Int32 → Int32 → Prop
  | 0, _, _, _, _, _ => False
  | n + 1, _, M, a0, x1, x2 => pX5_hadKey_2 N K (qX5_hadKey N K R n) R M a0 x1 x2
def pX5_hadKey (N K : Nat) (M : gM) (a0 : Nat) (x1 : Int32) (R : Int32 → Prop) : Prop := pX5_hadKey_0 N K (qX5_hadKey N K R N) R M a0 x1
def ULX5_hadKey (X : gX) (d mc ms : Nat) (Q : Option Value → gM → Prop) (N K : Nat) (R : Int32 → Prop) (n : Nat) : Prop := (∀ (M : gM) (a0 : Nat) (x1 : Int32) (x2 : Int32), Tb M a0 → qX5_hadKey N K R n 0 M a0 x1 x2 → (∀ (v : Int32), R v → Q (some (.int v)) M) → Go X d mc ms kX5_hadKey Q 2 [(0, .ref a0), (1, .int (x1)), (2, .int (x2))] [] M 0 0)
set_option maxRecDepth 10000 in
theorem ulX5_hadKey {X : gX} {d mc ms : Nat} {Q : Option Value → gM → Prop} {N K : Nat} {R : Int32 → Prop} : ∀ n : Nat, ULX5_hadKey X d mc ms Q N K R n := by
  intro n
  induction n with
  | zero => exact fun _ _ _ _ _ h _ => h.elim
  | succ n ih =>
    intro M a0 x1 x2 s0 H hR
    rw [qX5_hadKey] at H
    unfold pX5_hadKey_2 at H
    refine g_iload_n 2 3 dX5_hadKey_2 rfl rfl ?_
    refine g_aload_n 0 4 dX5_hadKey_3 rfl rfl ?_
    refine g_getI 7 dX5_hadKey_4 rfl flX5_35 s0.1 ?_
    refine g_icmp_ge 28 10 dX5_hadKey_7 rfl rfl (fun c1 => ?_) (fun c1 => ?_)
    · skip
      replace H := H.1 c1
      refine g_iconst (0) 29 dX5_hadKey_28 rfl rfl ?_
      exact g_zret dX5_hadKey_29 rfl (by decide) (Nat.zero_le _) (Nat.zero_le _) (hR _ H)
    · skip
      replace H := H.2 c1
      refine g_aload_n 0 11 dX5_hadKey_10 rfl rfl ?_
      refine g_getR 14 (a0 + 1) dX5_hadKey_11 rfl flX5_9 s0.1 s0.2.1 ?_
      refine g_iload_n 2 15 dX5_hadKey_14 rfl rfl ?_
      obtain ⟨b1, H⟩ := H
      refine h_iaload 16 (x2).toNatClampNeg dX5_hadKey_15 rfl rfl s0.2.2.1 b1 ?_
      refine g_iload_n 1 17 dX5_hadKey_16 rfl rfl ?_
      refine g_icmp_ne 22 20 dX5_hadKey_17 rfl rfl (fun c2 => ?_) (fun c2 => ?_)
      · skip
        replace H := H.1 c2
        refine g_iinc _ 2 25 [(2, .int ((x2 + 1))), (0, .ref a0), (1, .int (x1))] dX5_hadKey_22 rfl rfl rfl (Nat.le_of_ble_eq_true rfl) rfl ?_
        refine g_goto 2 dX5_hadKey_25 rfl ?_
        exact g_sub [1, 2, 0] _ rfl (ih M a0 x1 (x2 + 1) s0 H (fun v r => hR v r))
      · skip
        replace H := H.2 c2
        refine g_iconst (1) 21 dX5_hadKey_20 rfl rfl ?_
        exact g_zret dX5_hadKey_21 rfl (by decide) (Nat.zero_le _) (Nat.zero_le _) (hR _ H)
set_option maxRecDepth 10000 in
theorem uX5_hadKey {N K : Nat} {X : gX} {d mc ms : Nat} {Q : Option Value → gM → Prop} {M : gM} {a0 : Nat} {x1 : Int32} {R : Int32 → Prop} (s0 : Tb M a0) (H : pX5_hadKey N K M a0 x1 R) (hR : ∀ (v : Int32), R v → Q (some (.int v)) M) : Cn X d mc ms kX5_hadKey [.ref a0, .int (x1)] M Q := by
  have ih := ulX5_hadKey (X := X) (d := d) (mc := mc) (ms := ms) (Q := Q) (N := N) (K := K) (R := R) N
  unfold pX5_hadKey pX5_hadKey_0 at H
  refine g_meth rfl rfl (Nat.le_of_ble_eq_true rfl) rfl ?_
  refine g_iconst (0) 1 dX5_hadKey_0 rfl rfl ?_
  refine g_istore_n 2 [(2, .int (0)), (0, .ref a0), (1, .int (x1))] dX5_hadKey_1 rfl (Nat.le_of_ble_eq_true rfl) rfl ?_
  exact g_sub [1, 2, 0] _ rfl (ih M a0 x1 0 s0 H (fun v r => hR v r))
/-! X5_ownVertex -/
def pX5_ownVertex_0 (N K : Nat) (kp : Nat → gM → Nat → Int32 → Int32 → Int32 → Prop) (R : Int32 → Prop) (M : gM) (a0 : Nat) (x1 : Int32) : Prop := kp 0 M a0 x1 0 0
def pX5_ownVertex_4 (N K : Nat) (kp : Nat → gM → Nat → Int32 → Int32 → Int32 → Prop) (R : Int32 → Prop) (M : gM) (a0 : Nat) (x1 : Int32) (x2 : Int32) (x3 : Int32) : Prop := ((3 ≤ x3 → (EX8_vertexOf M x1 (i_rm x2 3) (g_mi M a0 6) (g_mi M a0 5)) ∧ ∀ v1 : Int32, v1 = (fX8_vertexOf x1 (i_rm x2 3) (g_mi M a0 6) (g_mi M a0 5)) → R v1) ∧ (¬ 3 ≤ x3 → (EX8_vertexOf M x1 x3 (g_mi M a0 6) (g_mi M a0 5)) ∧ ∀ v2 : Int32, v2 = (fX8_vertexOf x1 x3 (g_mi M a0 6) (g_mi M a0 5)) → (vp_in (v2) 60) ∧ kp 0 M a0 x1 (x2 + (g_mi M (a0 + 2) (v2).toNatClampNeg)) (x3 + 1)))
def qX5_ownVertex (N K : Nat) (R : Int32 → Prop) : Nat → Nat → gM → Nat → Int32 → Int32 → Int32 → Prop
  | 0, _, _, _, _, _, _ => False
  | n + 1, _, M, a0, x1, x2, x3 => pX5_ownVertex_4 N K (qX5_ownVertex N K R n) R M a0 x1 x2 x3
def pX5_ownVertex (N K : Nat) (M : gM) (a0 : Nat) (x1 : Int32) (R : Int32 → Prop) : Prop := pX5_ownVertex_0 N K (qX5_ownVertex N K R N) R M a0 x1
def ULX5_ownVertex (X : gX) (d mc ms : Nat) (Q : Option Value → gM → Prop) (N K : Nat) (R : Int32 → Prop) (n : Nat) : Prop := (∀ (M : gM) (a0 : Nat) (x1 : Int32) (x2 : Int32) (x3 : Int32), Tb M a0 → qX5_ownVertex N K R n 0 M a0 x1 x2 x3 → (∀ (v : Int32), R v → Q (some (.int v)) M) → Go X (d + 1) mc ms kX5_ownVertex Q 4 [(0, .ref a0), (1, .int (x1)), (2, .int (x2)), (3, .int (x3))] [] M 0 0)
set_option maxRecDepth 10000 in
theorem ulX5_ownVertex {X : gX} {d mc ms : Nat} {Q : Option Value → gM → Prop} {N K : Nat} {R : Int32 → Prop} : ∀ n : Nat, ULX5_ownVertex X d mc ms Q N K R n := by
  intro n
  induction n with
  | zero => exact fun _ _ _ _ _ _ h _ => h.elim
  | succ n ih =>
    intro M a0 x1 x2 x3 s0 H hR
    rw [qX5_ownVertex] at H
    unfold pX5_ownVertex_4 at H
    refine g_iload_n 3 5 dX5_ownVertex_4 rfl rfl ?_
    refine g_iconst (3) 6 dX5_ownVertex_5 rfl rfl ?_
    refine g_icmp_ge 36 9 dX5_ownVertex_6 rfl rfl (fun c1 => ?_) (fun c1 => ?_)
    · skip
      replace H := H.1 c1
      refine g_iload_n 1 37 dX5_ownVertex_36 rfl rfl ?_
      refine g_iload_n 2 38 dX5_ownVertex_37 rfl rfl ?_
      refine g_iconst (3) 39 dX5_ownVertex_38 rfl rfl ?_
      refine h_irem 40 dX5_ownVertex_39 rfl (by decide) ?_
      refine g_aload_n 0 41 dX5_ownVertex_40 rfl rfl ?_
      refine g_getI 44 dX5_ownVertex_41 rfl flX5_38 s0.1 ?_
      refine g_aload_n 0 45 dX5_ownVertex_44 rfl rfl ?_
      refine g_getI 48 dX5_ownVertex_45 rfl flX5_21 s0.1 ?_
      obtain ⟨b1, H⟩ := H
      refine g_callSN (mc1 := 0) (ms1 := 0) (rest := []) (av := [.int (x1), .int ((i_rm x2 3)), .int ((g_mi M a0 6)), .int ((g_mi M a0 5))]) kX8_vertexOf 51 dX5_ownVertex_48 rfl rfl mbX5_77 smX8_vertexOf (Nat.le_of_ble_eq_true rfl) (Nat.zero_le _) (Nat.zero_le _) (tX8_vertexOf b1 ?_)
      show Go X (d + 1) mc ms kX5_ownVertex Q 51 [(0, .ref a0), (1, .int (x1)), (2, .int (x2)), (3, .int (x3))] [.int ((fX8_vertexOf x1 (i_rm x2 3) (g_mi M a0 6) (g_mi M a0 5)))] M 0 0
      generalize hv1 : (fX8_vertexOf x1 (i_rm x2 3) (g_mi M a0 6) (g_mi M a0 5)) = v1
      replace H := H v1 hv1.symm
      exact g_iret dX5_ownVertex_51 rfl (Nat.zero_le _) (Nat.zero_le _) (hR _ H)
    · skip
      replace H := H.2 c1
      refine g_iload_n 2 10 dX5_ownVertex_9 rfl rfl ?_
      refine g_aload_n 0 11 dX5_ownVertex_10 rfl rfl ?_
      refine g_getR 14 (a0 + 2) dX5_ownVertex_11 rfl flX5_15 s0.1 s0.2.2.2.1 ?_
      refine g_iload_n 1 15 dX5_ownVertex_14 rfl rfl ?_
      refine g_iload_n 3 16 dX5_ownVertex_15 rfl rfl ?_
      refine g_aload_n 0 17 dX5_ownVertex_16 rfl rfl ?_
      refine g_getI 20 dX5_ownVertex_17 rfl flX5_38 s0.1 ?_
      refine g_aload_n 0 21 dX5_ownVertex_20 rfl rfl ?_
      refine g_getI 24 dX5_ownVertex_21 rfl flX5_21 s0.1 ?_
      obtain ⟨b2, H⟩ := H
      refine g_callSN (mc1 := 0) (ms1 := 0) (rest := [.ref (a0 + 2), .int (x2)]) (av := [.int (x1), .int (x3), .int ((g_mi M a0 6)), .int ((g_mi M a0 5))]) kX8_vertexOf 27 dX5_ownVertex_24 rfl rfl mbX5_77 smX8_vertexOf (Nat.le_of_ble_eq_true rfl) (Nat.zero_le _) (Nat.zero_le _) (tX8_vertexOf b2 ?_)
      show Go X (d + 1) mc ms kX5_ownVertex Q 27 [(0, .ref a0), (1, .int (x1)), (2, .int (x2)), (3, .int (x3))] [.int ((fX8_vertexOf x1 x3 (g_mi M a0 6) (g_mi M a0 5))), .ref (a0 + 2), .int (x2)] M 0 0
      generalize hv2 : (fX8_vertexOf x1 x3 (g_mi M a0 6) (g_mi M a0 5)) = v2
      replace H := H v2 hv2.symm
      obtain ⟨b3, H⟩ := H
      refine h_iaload 28 (v2).toNatClampNeg dX5_ownVertex_27 rfl rfl s0.2.2.2.2.1 b3 ?_
      refine g_iadd 29 dX5_ownVertex_28 rfl ?_
      refine g_istore_n 30 [(2, .int ((x2 + (g_mi M (a0 + 2) (v2).toNatClampNeg)))), (0, .ref a0), (1, .int (x1)), (3, .int (x3))] dX5_ownVertex_29 rfl (Nat.le_of_ble_eq_true rfl) rfl ?_
      refine g_iinc _ 3 33 [(3, .int ((x3 + 1))), (2, .int ((x2 + (g_mi M (a0 + 2) (v2).toNatClampNeg)))), (0, .ref a0), (1, .int (x1))] dX5_ownVertex_30 rfl rfl rfl (Nat.le_of_ble_eq_true rfl) rfl ?_
      refine g_goto 4 dX5_ownVertex_33 rfl ?_
      exact g_sub [2, 3, 1, 0] _ rfl (ih M a0 x1 (x2 + (g_mi M (a0 + 2) (v2).toNatClampNeg)) (x3 + 1) s0 H (fun v r => hR v r))
set_option maxRecDepth 10000 in
theorem uX5_ownVertex {N K : Nat} {X : gX} {d mc ms : Nat} {Q : Option Value → gM → Prop} {M : gM} {a0 : Nat} {x1 : Int32} {R : Int32 → Prop} (s0 : Tb M a0) (H : pX5_ownVertex N K M a0 x1 R) (hR : ∀ (v : Int32), R v → Q (some (.int v)) M) : Cn X (d + 1) mc ms kX5_ownVertex [.ref a0, .int (x1)] M Q := by
  have ih := ulX5_ownVertex (X := X) (d := d) (mc := mc) (ms := ms) (Q := Q) (N := N) (K := K) (R := R) N
  unfold pX5_ownVertex pX5_ownVertex_0 at H
  refine g_meth rfl rfl (Nat.le_of_ble_eq_true rfl) rfl ?_
  refine g_iconst (0) 1 dX5_ownVertex_0 rfl rfl ?_
  refine g_istore_n 2 [(2, .int (0)), (0, .ref a0), (1, .int (x1))] dX5_ownVertex_1 rfl (Nat.le_of_ble_eq_true rfl) rfl ?_
  refine g_iconst (0) 3 dX5_ownVertex_2 rfl rfl ?_
  refine g_istore_n 4 [(3, .int (0)), (2, .int (0)), (0, .ref a0), (1, .int (x1))] dX5_ownVertex_3 rfl (Nat.le_of_ble_eq_true rfl) rfl ?_
  exact g_sub [2, 3, 1, 0] _ rfl (ih M a0 x1 0 0 s0 H (fun v r => hR v r))
/-! X5_signsBelow -/
def pX5_signsBelow_0 (N K : Nat) (kp : Nat → gM → Nat → Int32 → Int32 → Int32 → Prop) (R : Int32 → Prop) (M : gM) (a0 : Nat) (x1 : Int32) : Prop := kp 0 M a0 x1 0 0
def pX5_signsBelow_4 (N K : Nat) (kp : Nat → gM → Nat → Int32 → Int32 → Int32 → Prop) (R : Int32 → Prop) (M : gM) (a0 : Nat) (x1 : Int32) (x2 : Int32) (x3 : Int32) : Prop := ((x1 ≤ x3 → R x2) ∧ (¬ x1 ≤ x3 → (((3 * (g_mi M a0 5)) ≤ x3 → R x2) ∧ (¬ (3 * (g_mi M a0 5)) ≤ x3 → (vp_in (x3) 60) ∧ (((g_mi M (a0 + 2) (x3).toNatClampNeg) = 3 → kp 0 M a0 x1 x2 (x3 + 1)) ∧ (¬ (g_mi M (a0 + 2) (x3).toNatClampNeg) = 3 → kp 0 M a0 x1 (x2 + 1) (x3 + 1)))))))
def qX5_signsBelow (N K : Nat) (R : Int32 → Prop) : Nat → Nat → gM → Nat → Int32 → Int32 → Int32 → Prop
  | 0, _, _, _, _, _, _ => False
  | n + 1, _, M, a0, x1, x2, x3 => pX5_signsBelow_4 N K (qX5_signsBelow N K R n) R M a0 x1 x2 x3
def pX5_signsBelow (N K : Nat) (M : gM) (a0 : Nat) (x1 : Int32) (R : Int32 → Prop) : Prop := pX5_signsBelow_0 N K (qX5_signsBelow N K R N) R M a0 x1
def ULX5_signsBelow (X : gX) (d mc ms : Nat) (Q : Option Value → gM → Prop) (N K : Nat) (R : Int32 → Prop) (n : Nat) : Prop := (∀ (M : gM) (a0 : Nat) (x1 : Int32) (x2 : Int32) (x3 : Int32), Tb M a0 → qX5_signsBelow N K R n 0 M a0 x1 x2 x3 → (∀ (v : Int32), R v → Q (some (.int v)) M) → Go X d mc ms kX5_signsBelow Q 4 [(0, .ref a0), (1, .int (x1)), (2, .int (x2)), (3, .int (x3))] [] M 0 0)
set_option maxRecDepth 10000 in
theorem ulX5_signsBelow {X : gX} {d mc ms : Nat} {Q : Option Value → gM → Prop} {N K : Nat} {R : Int32 → Prop} : ∀ n : Nat, ULX5_signsBelow X d mc ms Q N K R n := by
  intro n
  induction n with
  | zero => exact fun _ _ _ _ _ _ h _ => h.elim
  | succ n ih =>
    intro M a0 x1 x2 x3 s0 H hR
    rw [qX5_signsBelow] at H
    unfold pX5_signsBelow_4 at H
    refine g_iload_n 3 5 dX5_signsBelow_4 rfl rfl ?_
    refine g_iload_n 1 6 dX5_signsBelow_5 rfl rfl ?_
    refine g_icmp_ge 38 9 dX5_signsBelow_6 rfl rfl (fun c1 => ?_) (fun c1 => ?_)
    · skip
      replace H := H.1 c1
      refine g_iload_n 2 39 dX5_signsBelow_38 rfl rfl ?_
      exact g_iret dX5_signsBelow_39 rfl (Nat.zero_le _) (Nat.zero_le _) (hR _ H)
    · skip
      replace H := H.2 c1
      refine g_iload_n 3 10 dX5_signsBelow_9 rfl rfl ?_
      refine g_iconst (3) 11 dX5_signsBelow_10 rfl rfl ?_
      refine g_aload_n 0 12 dX5_signsBelow_11 rfl rfl ?_
      refine g_getI 15 dX5_signsBelow_12 rfl flX5_21 s0.1 ?_
      refine g_imul 16 dX5_signsBelow_15 rfl ?_
      refine g_icmp_ge 38 19 dX5_signsBelow_16 rfl rfl (fun c2 => ?_) (fun c2 => ?_)
      · skip
        replace H := H.1 c2
        refine g_iload_n 2 39 dX5_signsBelow_38 rfl rfl ?_
        exact g_iret dX5_signsBelow_39 rfl (Nat.zero_le _) (Nat.zero_le _) (hR _ H)
      · skip
        replace H := H.2 c2
        refine g_aload_n 0 20 dX5_signsBelow_19 rfl rfl ?_
        refine g_getR 23 (a0 + 2) dX5_signsBelow_20 rfl flX5_15 s0.1 s0.2.2.2.1 ?_
        refine g_iload_n 3 24 dX5_signsBelow_23 rfl rfl ?_
        obtain ⟨b1, H⟩ := H
        refine h_iaload 25 (x3).toNatClampNeg dX5_signsBelow_24 rfl rfl s0.2.2.2.2.1 b1 ?_
        refine g_iconst (3) 26 dX5_signsBelow_25 rfl rfl ?_
        refine g_icmp_eq 32 29 dX5_signsBelow_26 rfl rfl (fun c3 => ?_) (fun c3 => ?_)
        · skip
          replace H := H.1 c3
          refine g_iinc _ 3 35 [(3, .int ((x3 + 1))), (0, .ref a0), (1, .int (x1)), (2, .int (x2))] dX5_signsBelow_32 rfl rfl rfl (Nat.le_of_ble_eq_true rfl) rfl ?_
          refine g_goto 4 dX5_signsBelow_35 rfl ?_
          exact g_sub [1, 2, 3, 0] _ rfl (ih M a0 x1 x2 (x3 + 1) s0 H (fun v r => hR v r))
        · skip
          replace H := H.2 c3
          refine g_iinc _ 2 32 [(2, .int ((x2 + 1))), (0, .ref a0), (1, .int (x1)), (3, .int (x3))] dX5_signsBelow_29 rfl rfl rfl (Nat.le_of_ble_eq_true rfl) rfl ?_
          refine g_iinc _ 3 35 [(3, .int ((x3 + 1))), (2, .int ((x2 + 1))), (0, .ref a0), (1, .int (x1))] dX5_signsBelow_32 rfl rfl rfl (Nat.le_of_ble_eq_true rfl) rfl ?_
          refine g_goto 4 dX5_signsBelow_35 rfl ?_
          exact g_sub [2, 3, 1, 0] _ rfl (ih M a0 x1 (x2 + 1) (x3 + 1) s0 H (fun v r => hR v r))
set_option maxRecDepth 10000 in
theorem uX5_signsBelow {N K : Nat} {X : gX} {d mc ms : Nat} {Q : Option Value → gM → Prop} {M : gM} {a0 : Nat} {x1 : Int32} {R : Int32 → Prop} (s0 : Tb M a0) (H : pX5_signsBelow N K M a0 x1 R) (hR : ∀ (v : Int32), R v → Q (some (.int v)) M) : Cn X d mc ms kX5_signsBelow [.ref a0, .int (x1)] M Q := by
  have ih := ulX5_signsBelow (X := X) (d := d) (mc := mc) (ms := ms) (Q := Q) (N := N) (K := K) (R := R) N
  unfold pX5_signsBelow pX5_signsBelow_0 at H
  refine g_meth rfl rfl (Nat.le_of_ble_eq_true rfl) rfl ?_
  refine g_iconst (0) 1 dX5_signsBelow_0 rfl rfl ?_
  refine g_istore_n 2 [(2, .int (0)), (0, .ref a0), (1, .int (x1))] dX5_signsBelow_1 rfl (Nat.le_of_ble_eq_true rfl) rfl ?_
  refine g_iconst (0) 3 dX5_signsBelow_2 rfl rfl ?_
  refine g_istore_n 4 [(3, .int (0)), (2, .int (0)), (0, .ref a0), (1, .int (x1))] dX5_signsBelow_3 rfl (Nat.le_of_ble_eq_true rfl) rfl ?_
  exact g_sub [2, 3, 1, 0] _ rfl (ih M a0 x1 0 0 s0 H (fun v r => hR v r))
/-! X5_placeOf -/
def pX5_placeOf_0 (N K : Nat) (kp : Nat → gM → Nat → Int32 → Int32 → Int32 → Prop) (R : Int32 → Prop) (M : gM) (a0 : Nat) (x1 : Int32) : Prop := kp 0 M a0 x1 0 0
def pX5_placeOf_4 (N K : Nat) (kp : Nat → gM → Nat → Int32 → Int32 → Int32 → Prop) (R : Int32 → Prop) (M : gM) (a0 : Nat) (x1 : Int32) (x2 : Int32) (x3 : Int32) : Prop := ((3 ≤ x3 → (((g_mi M a0 4) ≤ 0 → R 0) ∧ (¬ (g_mi M a0 4) ≤ 0 → (¬ ((g_mi M a0 4) : Int32) = 0) ∧ R (i_rm x2 (g_mi M a0 4))))) ∧ (¬ 3 ≤ x3 → (EX8_vertexOf M x1 x3 (g_mi M a0 6) (g_mi M a0 5)) ∧ ∀ v1 : Int32, v1 = (fX8_vertexOf x1 x3 (g_mi M a0 6) (g_mi M a0 5)) → (vp_in (v1) 60) ∧ kp 0 M a0 x1 (x2 + (g_mi M (a0 + 3) (v1).toNatClampNeg)) (x3 + 1)))
def qX5_placeOf (N K : Nat) (R : Int32 → Prop) : Nat → Nat → gM → Nat → Int32 → Int32 → Int32 → Prop
  | 0, _, _, _, _, _, _ => False
  | n + 1, _, M, a0, x1, x2, x3 => pX5_placeOf_4 N K (qX5_placeOf N K R n) R M a0 x1 x2 x3
def pX5_placeOf (N K : Nat) (M : gM) (a0 : Nat) (x1 : Int32) (R : Int32 → Prop) : Prop := pX5_placeOf_0 N K (qX5_placeOf N K R N) R M a0 x1
def ULX5_placeOf (X : gX) (d mc ms : Nat) (Q : Option Value → gM → Prop) (N K : Nat) (R : Int32 → Prop) (n : Nat) : Prop := (∀ (M : gM) (a0 : Nat) (x1 : Int32) (x2 : Int32) (x3 : Int32), Tb M a0 → qX5_placeOf N K R n 0 M a0 x1 x2 x3 → (∀ (v : Int32), R v → Q (some (.int v)) M) → Go X (d + 1) mc ms kX5_placeOf Q 4 [(0, .ref a0), (1, .int (x1)), (2, .int (x2)), (3, .int (x3))] [] M 0 0)
set_option maxRecDepth 10000 in
theorem ulX5_placeOf {X : gX} {d mc ms : Nat} {Q : Option Value → gM → Prop} {N K : Nat} {R : Int32 → Prop} : ∀ n : Nat, ULX5_placeOf X d mc ms Q N K R n := by
  intro n
  induction n with
  | zero => exact fun _ _ _ _ _ _ h _ => h.elim
  | succ n ih =>
    intro M a0 x1 x2 x3 s0 H hR
    rw [qX5_placeOf] at H
    unfold pX5_placeOf_4 at H
    refine g_iload_n 3 5 dX5_placeOf_4 rfl rfl ?_
    refine g_iconst (3) 6 dX5_placeOf_5 rfl rfl ?_
    refine g_icmp_ge 36 9 dX5_placeOf_6 rfl rfl (fun c1 => ?_) (fun c1 => ?_)
    · skip
      replace H := H.1 c1
      refine g_aload_n 0 37 dX5_placeOf_36 rfl rfl ?_
      refine g_getI 40 dX5_placeOf_37 rfl flX5_35 s0.1 ?_
      refine g_if_le 52 43 dX5_placeOf_40 rfl rfl (fun c2 => ?_) (fun c2 => ?_)
      · skip
        replace H := H.1 c2
        refine g_iconst (0) 53 dX5_placeOf_52 rfl rfl ?_
        exact g_iret dX5_placeOf_53 rfl (Nat.zero_le _) (Nat.zero_le _) (hR _ H)
      · skip
        replace H := H.2 c2
        refine g_iload_n 2 44 dX5_placeOf_43 rfl rfl ?_
        refine g_aload_n 0 45 dX5_placeOf_44 rfl rfl ?_
        refine g_getI 48 dX5_placeOf_45 rfl flX5_35 s0.1 ?_
        obtain ⟨b1, H⟩ := H
        refine h_irem 49 dX5_placeOf_48 rfl b1 ?_
        refine g_goto 53 dX5_placeOf_49 rfl ?_
        exact g_iret dX5_placeOf_53 rfl (Nat.zero_le _) (Nat.zero_le _) (hR _ H)
    · skip
      replace H := H.2 c1
      refine g_iload_n 2 10 dX5_placeOf_9 rfl rfl ?_
      refine g_aload_n 0 11 dX5_placeOf_10 rfl rfl ?_
      refine g_getR 14 (a0 + 3) dX5_placeOf_11 rfl flX5_18 s0.1 s0.2.2.2.2.2.1 ?_
      refine g_iload_n 1 15 dX5_placeOf_14 rfl rfl ?_
      refine g_iload_n 3 16 dX5_placeOf_15 rfl rfl ?_
      refine g_aload_n 0 17 dX5_placeOf_16 rfl rfl ?_
      refine g_getI 20 dX5_placeOf_17 rfl flX5_38 s0.1 ?_
      refine g_aload_n 0 21 dX5_placeOf_20 rfl rfl ?_
      refine g_getI 24 dX5_placeOf_21 rfl flX5_21 s0.1 ?_
      obtain ⟨b2, H⟩ := H
      refine g_callSN (mc1 := 0) (ms1 := 0) (rest := [.ref (a0 + 3), .int (x2)]) (av := [.int (x1), .int (x3), .int ((g_mi M a0 6)), .int ((g_mi M a0 5))]) kX8_vertexOf 27 dX5_placeOf_24 rfl rfl mbX5_77 smX8_vertexOf (Nat.le_of_ble_eq_true rfl) (Nat.zero_le _) (Nat.zero_le _) (tX8_vertexOf b2 ?_)
      show Go X (d + 1) mc ms kX5_placeOf Q 27 [(0, .ref a0), (1, .int (x1)), (2, .int (x2)), (3, .int (x3))] [.int ((fX8_vertexOf x1 x3 (g_mi M a0 6) (g_mi M a0 5))), .ref (a0 + 3), .int (x2)] M 0 0
      generalize hv1 : (fX8_vertexOf x1 x3 (g_mi M a0 6) (g_mi M a0 5)) = v1
      replace H := H v1 hv1.symm
      obtain ⟨b3, H⟩ := H
      refine h_iaload 28 (v1).toNatClampNeg dX5_placeOf_27 rfl rfl s0.2.2.2.2.2.2 b3 ?_
      refine g_iadd 29 dX5_placeOf_28 rfl ?_
      refine g_istore_n 30 [(2, .int ((x2 + (g_mi M (a0 + 3) (v1).toNatClampNeg)))), (0, .ref a0), (1, .int (x1)), (3, .int (x3))] dX5_placeOf_29 rfl (Nat.le_of_ble_eq_true rfl) rfl ?_
      refine g_iinc _ 3 33 [(3, .int ((x3 + 1))), (2, .int ((x2 + (g_mi M (a0 + 3) (v1).toNatClampNeg)))), (0, .ref a0), (1, .int (x1))] dX5_placeOf_30 rfl rfl rfl (Nat.le_of_ble_eq_true rfl) rfl ?_
      refine g_goto 4 dX5_placeOf_33 rfl ?_
      exact g_sub [2, 3, 1, 0] _ rfl (ih M a0 x1 (x2 + (g_mi M (a0 + 3) (v1).toNatClampNeg)) (x3 + 1) s0 H (fun v r => hR v r))
set_option maxRecDepth 10000 in
theorem uX5_placeOf {N K : Nat} {X : gX} {d mc ms : Nat} {Q : Option Value → gM → Prop} {M : gM} {a0 : Nat} {x1 : Int32} {R : Int32 → Prop} (s0 : Tb M a0) (H : pX5_placeOf N K M a0 x1 R) (hR : ∀ (v : Int32), R v → Q (some (.int v)) M) : Cn X (d + 1) mc ms kX5_placeOf [.ref a0, .int (x1)] M Q := by
  have ih := ulX5_placeOf (X := X) (d := d) (mc := mc) (ms := ms) (Q := Q) (N := N) (K := K) (R := R) N
  unfold pX5_placeOf pX5_placeOf_0 at H
  refine g_meth rfl rfl (Nat.le_of_ble_eq_true rfl) rfl ?_
  refine g_iconst (0) 1 dX5_placeOf_0 rfl rfl ?_
  refine g_istore_n 2 [(2, .int (0)), (0, .ref a0), (1, .int (x1))] dX5_placeOf_1 rfl (Nat.le_of_ble_eq_true rfl) rfl ?_
  refine g_iconst (0) 3 dX5_placeOf_2 rfl rfl ?_
  refine g_istore_n 4 [(3, .int (0)), (2, .int (0)), (0, .ref a0), (1, .int (x1))] dX5_placeOf_3 rfl (Nat.le_of_ble_eq_true rfl) rfl ?_
  exact g_sub [2, 3, 1, 0] _ rfl (ih M a0 x1 0 0 s0 H (fun v r => hR v r))
/-! X5_numberOf -/
def pX5_numberOf (N K : Nat) (M : gM) (a0 : Nat) (x1 : Int32) (R : Int32 → Prop) : Prop := (((g_mi M a0 3) = 0 → R (-1)) ∧ (¬ (g_mi M a0 3) = 0 → pX5_ownVertex N K M a0 x1 (fun v1 => pX5_signsBelow N K M a0 v1 (fun v2 => R v2))))
set_option maxRecDepth 10000 in
theorem uX5_numberOf {N K : Nat} {X : gX} {d mc ms : Nat} {Q : Option Value → gM → Prop} {M : gM} {a0 : Nat} {x1 : Int32} {R : Int32 → Prop} (s0 : Tb M a0) (H : pX5_numberOf N K M a0 x1 R) (hR : ∀ (v : Int32), R v → Q (some (.int v)) M) : Cn X (d + 2) mc ms kX5_numberOf [.ref a0, .int (x1)] M Q := by
  unfold pX5_numberOf at H
  refine g_meth rfl rfl (Nat.le_of_ble_eq_true rfl) rfl ?_
  refine g_aload_n 0 1 dX5_numberOf_0 rfl rfl ?_
  refine g_getI 4 dX5_numberOf_1 rfl flX5_25 s0.1 ?_
  refine g_if_eq 19 7 dX5_numberOf_4 rfl rfl (fun c1 => ?_) (fun c1 => ?_)
  · skip
    replace H := H.1 c1
    refine g_iconst ((-1)) 20 dX5_numberOf_19 rfl rfl ?_
    exact g_iret dX5_numberOf_20 rfl (Nat.zero_le _) (Nat.zero_le _) (hR _ H)
  · skip
    replace H := H.2 c1
    refine g_aload_n 0 8 dX5_numberOf_7 rfl rfl ?_
    refine g_aload_n 0 9 dX5_numberOf_8 rfl rfl ?_
    refine g_iload_n 1 10 dX5_numberOf_9 rfl rfl ?_
    refine g_callV (mc1 := 0) (ms1 := 0) (b := a0) (rest := [.ref a0]) (av := [.int (x1)]) kX5_ownVertex 13 dX5_numberOf_10 rfl rfl mbX5_81 imX5_ownVertex seX5_ownVertex gcl5.1 s0.1 (Nat.le_of_ble_eq_true rfl) (Nat.zero_le _) (Nat.zero_le _) (uX5_ownVertex (N := N) (K := K) s0 H (fun v1 H => ?_))
    show Go X (d + 2) mc ms kX5_numberOf Q 13 [(0, .ref a0), (1, .int (x1))] [.int (v1), .ref a0] M 0 0
    refine g_callV (mc1 := 0) (ms1 := 0) (b := a0) (rest := []) (av := [.int (v1)]) kX5_signsBelow 16 dX5_numberOf_13 rfl rfl mbX5_85 imX5_signsBelow seX5_signsBelow gcl5.1 s0.1 (Nat.le_of_ble_eq_true rfl) (Nat.zero_le _) (Nat.zero_le _) (uX5_signsBelow (N := N) (K := K) s0 H (fun v2 H => ?_))
    show Go X (d + 2) mc ms kX5_numberOf Q 16 [(0, .ref a0), (1, .int (x1))] [.int (v2)] M 0 0
    refine g_goto 20 dX5_numberOf_16 rfl ?_
    exact g_iret dX5_numberOf_20 rfl (Nat.zero_le _) (Nat.zero_le _) (hR _ H)
/-! X5_packed -/
def pX5_packed_0 (N K : Nat) (kp : Nat → gM → Nat → Int32 → Int32 → Int32 → Prop) (R : Int32 → Prop) (M : gM) (a0 : Nat) (x1 : Int32) : Prop := ((x1 < 0 → R (-1)) ∧ (¬ x1 < 0 → ((60 ≤ x1 → R (-1)) ∧ (¬ 60 ≤ x1 → (EX5_signAt M a0 (4 * x1)) ∧ ∀ v1 : Int32, v1 = (fX5_signAt M a0 (4 * x1)) → ((¬ v1 = (-1) → kp 0 M a0 x1 0 3) ∧ (v1 = (-1) → R (-1)))))))
def pX5_packed_27 (N K : Nat) (kp : Nat → gM → Nat → Int32 → Int32 → Int32 → Prop) (R : Int32 → Prop) (M : gM) (a0 : Nat) (x1 : Int32) (x2 : Int32) (x3 : Int32) : Prop := ((x3 < 0 → R x2) ∧ (¬ x3 < 0 → (EX5_signAt M a0 ((4 * x1) + x3)) ∧ ∀ v1 : Int32, v1 = (fX5_signAt M a0 ((4 * x1) + x3)) → ((¬ v1 = (-1) → kp 0 M a0 x1 ((x2 * 4) + v1) (x3 + (-1))) ∧ (v1 = (-1) → kp 0 M a0 x1 ((x2 * 4) + 3) (x3 + (-1))))))
def qX5_packed (N K : Nat) (R : Int32 → Prop) : Nat → Nat → gM → Nat → Int32 → Int32 → Int32 → Prop
  | 0, _, _, _, _, _, _ => False
  | n + 1, _, M, a0, x1, x2, x3 => pX5_packed_27 N K (qX5_packed N K R n) R M a0 x1 x2 x3
def pX5_packed (N K : Nat) (M : gM) (a0 : Nat) (x1 : Int32) (R : Int32 → Prop) : Prop := pX5_packed_0 N K (qX5_packed N K R N) R M a0 x1
def ULX5_packed (X : gX) (d mc ms : Nat) (Q : Option Value → gM → Prop) (N K : Nat) (R : Int32 → Prop) (n : Nat) : Prop := (∀ (M : gM) (a0 : Nat) (x1 : Int32) (x2 : Int32) (x3 : Int32), Tb M a0 → qX5_packed N K R n 0 M a0 x1 x2 x3 → (∀ (v : Int32), R v → Q (some (.int v)) M) → Go X (d + 1) mc ms kX5_packed Q 27 [(0, .ref a0), (1, .int (x1)), (2, .int (x2)), (3, .int (x3))] [] M 0 0)
set_option maxRecDepth 10000 in
theorem ulX5_packed {X : gX} {d mc ms : Nat} {Q : Option Value → gM → Prop} {N K : Nat} {R : Int32 → Prop} : ∀ n : Nat, ULX5_packed X d mc ms Q N K R n := by
  intro n
  induction n with
  | zero => exact fun _ _ _ _ _ _ h _ => h.elim
  | succ n ih =>
    intro M a0 x1 x2 x3 s0 H hR
    rw [qX5_packed] at H
    unfold pX5_packed_27 at H
    refine g_iload_n 3 28 dX5_packed_27 rfl rfl ?_
    refine g_if_lt 65 31 dX5_packed_28 rfl rfl (fun c1 => ?_) (fun c1 => ?_)
    · skip
      replace H := H.1 c1
      refine g_iload_n 2 66 dX5_packed_65 rfl rfl ?_
      exact g_iret dX5_packed_66 rfl (Nat.zero_le _) (Nat.zero_le _) (hR _ H)
    · skip
      replace H := H.2 c1
      refine g_aload_n 0 32 dX5_packed_31 rfl rfl ?_
      refine g_iconst (4) 33 dX5_packed_32 rfl rfl ?_
      refine g_iload_n 1 34 dX5_packed_33 rfl rfl ?_
      refine g_imul 35 dX5_packed_34 rfl ?_
      refine g_iload_n 3 36 dX5_packed_35 rfl rfl ?_
      refine g_iadd 37 dX5_packed_36 rfl ?_
      obtain ⟨b1, H⟩ := H
      refine g_callV (mc1 := 0) (ms1 := 0) (b := a0) (rest := []) (av := [.int (((4 * x1) + x3))]) kX5_signAt 40 dX5_packed_37 rfl rfl mbX5_88 imX5_signAt seX5_signAt gcl5.1 s0.1 (Nat.le_of_ble_eq_true rfl) (Nat.zero_le _) (Nat.zero_le _) (tX5_signAt s0 b1 ?_)
      show Go X (d + 1) mc ms kX5_packed Q 40 [(0, .ref a0), (1, .int (x1)), (2, .int (x2)), (3, .int (x3))] [.int ((fX5_signAt M a0 ((4 * x1) + x3)))] M 0 0
      generalize hv1 : (fX5_signAt M a0 ((4 * x1) + x3)) = v1
      replace H := H v1 hv1.symm
      refine g_istore 42 [(4, .int (v1)), (0, .ref a0), (1, .int (x1)), (2, .int (x2)), (3, .int (x3))] dX5_packed_40 rfl (Nat.le_of_ble_eq_true rfl) rfl ?_
      refine g_iload_n 3 43 dX5_packed_42 rfl rfl ?_
      refine g_iconst (4) 44 dX5_packed_43 rfl rfl ?_
      refine g_imul 45 dX5_packed_44 rfl ?_
      refine g_iload 0 47 dX5_packed_45 rfl rfl ?_
      refine g_iconst ((-1)) 48 dX5_packed_47 rfl rfl ?_
      refine g_icmp_ne 55 51 dX5_packed_48 rfl rfl (fun c2 => ?_) (fun c2 => ?_)
      · skip
        replace H := H.1 c2
        refine g_iload 0 57 dX5_packed_55 rfl rfl ?_
        refine g_iadd 58 dX5_packed_57 rfl ?_
        refine g_istore_n 59 [(2, .int (((x2 * 4) + v1))), (4, .int (v1)), (0, .ref a0), (1, .int (x1)), (3, .int (x3))] dX5_packed_58 rfl (Nat.le_of_ble_eq_true rfl) rfl ?_
        refine g_iinc _ 4 62 [(3, .int ((x3 + (-1)))), (2, .int (((x2 * 4) + v1))), (4, .int (v1)), (0, .ref a0), (1, .int (x1))] dX5_packed_59 rfl rfl rfl (Nat.le_of_ble_eq_true rfl) rfl ?_
        refine g_goto 27 dX5_packed_62 rfl ?_
        exact g_sub [3, 4, 1, 0] _ rfl (ih M a0 x1 ((x2 * 4) + v1) (x3 + (-1)) s0 H (fun v r => hR v r))
      · skip
        replace H := H.2 c2
        refine g_iconst (3) 52 dX5_packed_51 rfl rfl ?_
        refine g_goto 57 dX5_packed_52 rfl ?_
        refine g_iadd 58 dX5_packed_57 rfl ?_
        refine g_istore_n 59 [(2, .int (((x2 * 4) + 3))), (4, .int (v1)), (0, .ref a0), (1, .int (x1)), (3, .int (x3))] dX5_packed_58 rfl (Nat.le_of_ble_eq_true rfl) rfl ?_
        refine g_iinc _ 4 62 [(3, .int ((x3 + (-1)))), (2, .int (((x2 * 4) + 3))), (4, .int (v1)), (0, .ref a0), (1, .int (x1))] dX5_packed_59 rfl rfl rfl (Nat.le_of_ble_eq_true rfl) rfl ?_
        refine g_goto 27 dX5_packed_62 rfl ?_
        exact g_sub [3, 4, 1, 0] _ rfl (ih M a0 x1 ((x2 * 4) + 3) (x3 + (-1)) s0 H (fun v r => hR v r))
set_option maxRecDepth 10000 in
theorem uX5_packed {N K : Nat} {X : gX} {d mc ms : Nat} {Q : Option Value → gM → Prop} {M : gM} {a0 : Nat} {x1 : Int32} {R : Int32 → Prop} (s0 : Tb M a0) (H : pX5_packed N K M a0 x1 R) (hR : ∀ (v : Int32), R v → Q (some (.int v)) M) : Cn X (d + 1) mc ms kX5_packed [.ref a0, .int (x1)] M Q := by
  have ih := ulX5_packed (X := X) (d := d) (mc := mc) (ms := ms) (Q := Q) (N := N) (K := K) (R := R) N
  unfold pX5_packed pX5_packed_0 at H
  refine g_meth rfl rfl (Nat.le_of_ble_eq_true rfl) rfl ?_
  refine g_iload_n 1 1 dX5_packed_0 rfl rfl ?_
  refine g_if_lt 21 4 dX5_packed_1 rfl rfl (fun c1 => ?_) (fun c1 => ?_)
  · skip
    replace H := H.1 c1
    refine g_iconst ((-1)) 22 dX5_packed_21 rfl rfl ?_
    exact g_iret dX5_packed_22 rfl (Nat.zero_le _) (Nat.zero_le _) (hR _ H)
  · skip
    replace H := H.2 c1
    refine g_iload_n 1 5 dX5_packed_4 rfl rfl ?_
    refine g_bipush (60) 7 dX5_packed_5 rfl rfl ?_
    refine g_icmp_ge 21 10 dX5_packed_7 rfl rfl (fun c2 => ?_) (fun c2 => ?_)
    · skip
      replace H := H.1 c2
      refine g_iconst ((-1)) 22 dX5_packed_21 rfl rfl ?_
      exact g_iret dX5_packed_22 rfl (Nat.zero_le _) (Nat.zero_le _) (hR _ H)
    · skip
      replace H := H.2 c2
      refine g_aload_n 0 11 dX5_packed_10 rfl rfl ?_
      refine g_iconst (4) 12 dX5_packed_11 rfl rfl ?_
      refine g_iload_n 1 13 dX5_packed_12 rfl rfl ?_
      refine g_imul 14 dX5_packed_13 rfl ?_
      obtain ⟨b1, H⟩ := H
      refine g_callV (mc1 := 0) (ms1 := 0) (b := a0) (rest := []) (av := [.int ((4 * x1))]) kX5_signAt 17 dX5_packed_14 rfl rfl mbX5_88 imX5_signAt seX5_signAt gcl5.1 s0.1 (Nat.le_of_ble_eq_true rfl) (Nat.zero_le _) (Nat.zero_le _) (tX5_signAt s0 b1 ?_)
      show Go X (d + 1) mc ms kX5_packed Q 17 [(0, .ref a0), (1, .int (x1))] [.int ((fX5_signAt M a0 (4 * x1)))] M 0 0
      generalize hv1 : (fX5_signAt M a0 (4 * x1)) = v1
      replace H := H v1 hv1.symm
      refine g_iconst ((-1)) 18 dX5_packed_17 rfl rfl ?_
      refine g_icmp_ne 23 21 dX5_packed_18 rfl rfl (fun c3 => ?_) (fun c3 => ?_)
      · skip
        replace H := H.1 c3
        refine g_iconst (0) 24 dX5_packed_23 rfl rfl ?_
        refine g_istore_n 25 [(2, .int (0)), (0, .ref a0), (1, .int (x1))] dX5_packed_24 rfl (Nat.le_of_ble_eq_true rfl) rfl ?_
        refine g_iconst (3) 26 dX5_packed_25 rfl rfl ?_
        refine g_istore_n 27 [(3, .int (3)), (2, .int (0)), (0, .ref a0), (1, .int (x1))] dX5_packed_26 rfl (Nat.le_of_ble_eq_true rfl) rfl ?_
        exact g_sub [2, 3, 1, 0] _ rfl (ih M a0 x1 0 3 s0 H (fun v r => hR v r))
      · skip
        replace H := H.2 c3
        refine g_iconst ((-1)) 22 dX5_packed_21 rfl rfl ?_
        exact g_iret dX5_packed_22 rfl (Nat.zero_le _) (Nat.zero_le _) (hR _ H)
/-! X1_leastFree -/
def pX1_leastFree_0 (N K : Nat) (kp : Nat → gM → Nat → Int32 → Int32 → Int32 → Prop) (R : Int32 → Prop) (M : gM) (a0 : Nat) (x1 : Int32) : Prop := kp 0 M a0 x1 (-1) 0
def pX1_leastFree_4 (N K : Nat) (kp : Nat → gM → Nat → Int32 → Int32 → Int32 → Prop) (R : Int32 → Prop) (M : gM) (a0 : Nat) (x1 : Int32) (x2 : Int32) (x3 : Int32) : Prop := ((x1 ≤ x3 → R x2) ∧ (¬ x1 ≤ x3 → (vp_in (x3) 60) ∧ ((¬ (g_mi M (a0 + 4) (x3).toNatClampNeg) = 1 → kp 0 M a0 x1 x2 (x3 + 1)) ∧ ((g_mi M (a0 + 4) (x3).toNatClampNeg) = 1 → ((x2 = (-1) → kp 0 M a0 x1 x3 (x3 + 1)) ∧ (¬ x2 = (-1) → (vp_in (x2) 60) ∧ (((g_mi M (a0 + 6) (x2).toNatClampNeg) ≤ (g_mi M (a0 + 6) (x3).toNatClampNeg) → kp 0 M a0 x1 x2 (x3 + 1)) ∧ (¬ (g_mi M (a0 + 6) (x2).toNatClampNeg) ≤ (g_mi M (a0 + 6) (x3).toNatClampNeg) → kp 0 M a0 x1 x3 (x3 + 1)))))))))
def qX1_leastFree (N K : Nat) (R : Int32 → Prop) : Nat → Nat → gM → Nat → Int32 → Int32 → Int32 → Prop
  | 0, _, _, _, _, _, _ => False
  | n + 1, _, M, a0, x1, x2, x3 => pX1_leastFree_4 N K (qX1_leastFree N K R n) R M a0 x1 x2 x3
def pX1_leastFree (N K : Nat) (M : gM) (a0 : Nat) (x1 : Int32) (R : Int32 → Prop) : Prop := pX1_leastFree_0 N K (qX1_leastFree N K R N) R M a0 x1
def ULX1_leastFree (X : gX) (d mc ms : Nat) (Q : Option Value → gM → Prop) (N K : Nat) (R : Int32 → Prop) (n : Nat) : Prop := (∀ (M : gM) (a0 : Nat) (x1 : Int32) (x2 : Int32) (x3 : Int32), Pe M a0 → qX1_leastFree N K R n 0 M a0 x1 x2 x3 → (∀ (v : Int32), R v → Q (some (.int v)) M) → Go X d mc ms kX1_leastFree Q 4 [(0, .ref a0), (1, .int (x1)), (2, .int (x2)), (3, .int (x3))] [] M 0 0)
set_option maxRecDepth 10000 in
theorem ulX1_leastFree {X : gX} {d mc ms : Nat} {Q : Option Value → gM → Prop} {N K : Nat} {R : Int32 → Prop} : ∀ n : Nat, ULX1_leastFree X d mc ms Q N K R n := by
  intro n
  induction n with
  | zero => exact fun _ _ _ _ _ _ h _ => h.elim
  | succ n ih =>
    intro M a0 x1 x2 x3 s0 H hR
    rw [qX1_leastFree] at H
    unfold pX1_leastFree_4 at H
    refine g_iload_n 3 5 dX1_leastFree_4 rfl rfl ?_
    refine g_iload_n 1 6 dX1_leastFree_5 rfl rfl ?_
    refine g_icmp_ge 47 9 dX1_leastFree_6 rfl rfl (fun c1 => ?_) (fun c1 => ?_)
    · skip
      replace H := H.1 c1
      refine g_iload_n 2 48 dX1_leastFree_47 rfl rfl ?_
      exact g_iret dX1_leastFree_48 rfl (Nat.zero_le _) (Nat.zero_le _) (hR _ H)
    · skip
      replace H := H.2 c1
      refine g_aload_n 0 10 dX1_leastFree_9 rfl rfl ?_
      refine g_getR 13 (a0 + 4) dX1_leastFree_10 rfl flX1_21 s0.1 s0.2.2.2.2.2.2.2.1 ?_
      refine g_iload_n 3 14 dX1_leastFree_13 rfl rfl ?_
      obtain ⟨b1, H⟩ := H
      refine h_iaload 15 (x3).toNatClampNeg dX1_leastFree_14 rfl rfl s0.2.2.2.2.2.2.2.2.1 b1 ?_
      refine g_iconst (1) 16 dX1_leastFree_15 rfl rfl ?_
      refine g_icmp_ne 41 19 dX1_leastFree_16 rfl rfl (fun c2 => ?_) (fun c2 => ?_)
      · skip
        replace H := H.1 c2
        refine g_iinc _ 3 44 [(3, .int ((x3 + 1))), (0, .ref a0), (1, .int (x1)), (2, .int (x2))] dX1_leastFree_41 rfl rfl rfl (Nat.le_of_ble_eq_true rfl) rfl ?_
        refine g_goto 4 dX1_leastFree_44 rfl ?_
        exact g_sub [1, 2, 3, 0] _ rfl (ih M a0 x1 x2 (x3 + 1) s0 H (fun v r => hR v r))
      · skip
        replace H := H.2 c2
        refine g_iload_n 2 20 dX1_leastFree_19 rfl rfl ?_
        refine g_iconst ((-1)) 21 dX1_leastFree_20 rfl rfl ?_
        refine g_icmp_eq 39 24 dX1_leastFree_21 rfl rfl (fun c3 => ?_) (fun c3 => ?_)
        · skip
          replace H := H.1 c3
          refine g_iload_n 3 40 dX1_leastFree_39 rfl rfl ?_
          refine g_istore_n 41 [(2, .int (x3)), (0, .ref a0), (1, .int (x1)), (3, .int (x3))] dX1_leastFree_40 rfl (Nat.le_of_ble_eq_true rfl) rfl ?_
          refine g_iinc _ 3 44 [(3, .int ((x3 + 1))), (2, .int (x3)), (0, .ref a0), (1, .int (x1))] dX1_leastFree_41 rfl rfl rfl (Nat.le_of_ble_eq_true rfl) rfl ?_
          refine g_goto 4 dX1_leastFree_44 rfl ?_
          exact g_sub [2, 3, 1, 0] _ rfl (ih M a0 x1 x3 (x3 + 1) s0 H (fun v r => hR v r))
        · skip
          replace H := H.2 c3
          refine g_aload_n 0 25 dX1_leastFree_24 rfl rfl ?_
          refine g_getR 28 (a0 + 6) dX1_leastFree_25 rfl flX1_27 s0.1 s0.2.2.2.2.2.2.2.2.2.2.2.1 ?_
          refine g_iload_n 3 29 dX1_leastFree_28 rfl rfl ?_
          refine h_iaload 30 (x3).toNatClampNeg dX1_leastFree_29 rfl rfl s0.2.2.2.2.2.2.2.2.2.2.2.2.1 b1 ?_
          refine g_aload_n 0 31 dX1_leastFree_30 rfl rfl ?_
          refine g_getR 34 (a0 + 6) dX1_leastFree_31 rfl flX1_27 s0.1 s0.2.2.2.2.2.2.2.2.2.2.2.1 ?_
          refine g_iload_n 2 35 dX1_leastFree_34 rfl rfl ?_
          obtain ⟨b2, H⟩ := H
          refine h_iaload 36 (x2).toNatClampNeg dX1_leastFree_35 rfl rfl s0.2.2.2.2.2.2.2.2.2.2.2.2.1 b2 ?_
          refine g_icmp_ge 41 39 dX1_leastFree_36 rfl rfl (fun c4 => ?_) (fun c4 => ?_)
          · skip
            replace H := H.1 c4
            refine g_iinc _ 3 44 [(3, .int ((x3 + 1))), (0, .ref a0), (1, .int (x1)), (2, .int (x2))] dX1_leastFree_41 rfl rfl rfl (Nat.le_of_ble_eq_true rfl) rfl ?_
            refine g_goto 4 dX1_leastFree_44 rfl ?_
            exact g_sub [1, 2, 3, 0] _ rfl (ih M a0 x1 x2 (x3 + 1) s0 H (fun v r => hR v r))
          · skip
            replace H := H.2 c4
            refine g_iload_n 3 40 dX1_leastFree_39 rfl rfl ?_
            refine g_istore_n 41 [(2, .int (x3)), (0, .ref a0), (1, .int (x1)), (3, .int (x3))] dX1_leastFree_40 rfl (Nat.le_of_ble_eq_true rfl) rfl ?_
            refine g_iinc _ 3 44 [(3, .int ((x3 + 1))), (2, .int (x3)), (0, .ref a0), (1, .int (x1))] dX1_leastFree_41 rfl rfl rfl (Nat.le_of_ble_eq_true rfl) rfl ?_
            refine g_goto 4 dX1_leastFree_44 rfl ?_
            exact g_sub [2, 3, 1, 0] _ rfl (ih M a0 x1 x3 (x3 + 1) s0 H (fun v r => hR v r))
set_option maxRecDepth 10000 in
theorem uX1_leastFree {N K : Nat} {X : gX} {d mc ms : Nat} {Q : Option Value → gM → Prop} {M : gM} {a0 : Nat} {x1 : Int32} {R : Int32 → Prop} (s0 : Pe M a0) (H : pX1_leastFree N K M a0 x1 R) (hR : ∀ (v : Int32), R v → Q (some (.int v)) M) : Cn X d mc ms kX1_leastFree [.ref a0, .int (x1)] M Q := by
  have ih := ulX1_leastFree (X := X) (d := d) (mc := mc) (ms := ms) (Q := Q) (N := N) (K := K) (R := R) N
  unfold pX1_leastFree pX1_leastFree_0 at H
  refine g_meth rfl rfl (Nat.le_of_ble_eq_true rfl) rfl ?_
  refine g_iconst ((-1)) 1 dX1_leastFree_0 rfl rfl ?_
  refine g_istore_n 2 [(2, .int ((-1))), (0, .ref a0), (1, .int (x1))] dX1_leastFree_1 rfl (Nat.le_of_ble_eq_true rfl) rfl ?_
  refine g_iconst (0) 3 dX1_leastFree_2 rfl rfl ?_
  refine g_istore_n 4 [(3, .int (0)), (2, .int ((-1))), (0, .ref a0), (1, .int (x1))] dX1_leastFree_3 rfl (Nat.le_of_ble_eq_true rfl) rfl ?_
  exact g_sub [2, 3, 1, 0] _ rfl (ih M a0 x1 (-1) 0 s0 H (fun v r => hR v r))
/-! X1_letGo -/
def pX1_letGo_0 (N K : Nat) (kp : Nat → gM → Nat → Int32 → Int32 → Int32 → Prop) (R : Int32 → gM → Prop) (M : gM) (a0 : Nat) (x1 : Int32) (x2 : Int32) : Prop := kp 0 M a0 x1 x2 0
def pX1_letGo_5 (N K : Nat) (kp : Nat → gM → Nat → Int32 → Int32 → Int32 → Prop) (R : Int32 → gM → Prop) (M : gM) (a0 : Nat) (x1 : Int32) (x3 : Int32) (x4 : Int32) : Prop := ((3 ≤ x4 → R x3 M) ∧ (¬ 3 ≤ x4 → (vp_in (((3 * x1) + x4)) 90) ∧ (vp_in ((g_mi M (a0 + 1) (((3 * x1) + x4)).toNatClampNeg)) 60) ∧ ∀ M1 : gM, M1 = (g_wi M (a0 + 4) ((g_mi M (a0 + 1) (((3 * x1) + x4)).toNatClampNeg)).toNatClampNeg ((g_mi M (a0 + 4) ((g_mi M (a0 + 1) (((3 * x1) + x4)).toNatClampNeg)).toNatClampNeg) - 1)) → (vp_in ((g_mi M (a0 + 1) (((3 * x1) + x4)).toNatClampNeg)) 60) ∧ ∀ M2 : gM, M2 = (g_wi M1 (a0 + 5) ((g_mi M (a0 + 1) (((3 * x1) + x4)).toNatClampNeg)).toNatClampNeg ((g_mi M1 (a0 + 5) ((g_mi M (a0 + 1) (((3 * x1) + x4)).toNatClampNeg)).toNatClampNeg) ^^^ x1)) → (vp_in ((g_mi M (a0 + 1) (((3 * x1) + x4)).toNatClampNeg)) 60) ∧ ((¬ (g_mi M2 (a0 + 4) ((g_mi M (a0 + 1) (((3 * x1) + x4)).toNatClampNeg)).toNatClampNeg) = 1 → kp 0 M2 a0 x1 x3 (x4 + 1)) ∧ ((g_mi M2 (a0 + 4) ((g_mi M (a0 + 1) (((3 * x1) + x4)).toNatClampNeg)).toNatClampNeg) = 1 → ((63 ≤ x3 → kp 0 M2 a0 x1 x3 (x4 + 1)) ∧ (¬ 63 ≤ x3 → (vp_in (x3) 63) ∧ ∀ M3 : gM, M3 = (g_wi M2 (a0 + 7) (x3).toNatClampNeg (g_mi M (a0 + 1) (((3 * x1) + x4)).toNatClampNeg)) → kp 0 M3 a0 x1 (x3 + 1) (x4 + 1)))))))
def qX1_letGo (N K : Nat) (R : Int32 → gM → Prop) : Nat → Nat → gM → Nat → Int32 → Int32 → Int32 → Prop
  | 0, _, _, _, _, _, _ => False
  | n + 1, _, M, a0, x1, x3, x4 => pX1_letGo_5 N K (qX1_letGo N K R n) R M a0 x1 x3 x4
def pX1_letGo (N K : Nat) (M : gM) (a0 : Nat) (x1 : Int32) (x2 : Int32) (R : Int32 → gM → Prop) : Prop := pX1_letGo_0 N K (qX1_letGo N K R N) R M a0 x1 x2
def ULX1_letGo (X : gX) (d mc ms : Nat) (Q : Option Value → gM → Prop) (N K : Nat) (R : Int32 → gM → Prop) (n : Nat) : Prop := (∀ (M : gM) (a0 : Nat) (x1 : Int32) (x3 : Int32) (x4 : Int32), Pe M a0 → qX1_letGo N K R n 0 M a0 x1 x3 x4 → (∀ (v : Int32) (M1 : gM), Sm M M1 → R v M1 → Q (some (.int v)) M1) → Go X d mc ms kX1_letGo Q 5 [(0, .ref a0), (1, .int (x1)), (3, .int (x3)), (4, .int (x4))] [] M 0 0)
set_option maxRecDepth 10000 in
theorem ulX1_letGo {X : gX} {d mc ms : Nat} {Q : Option Value → gM → Prop} {N K : Nat} {R : Int32 → gM → Prop} : ∀ n : Nat, ULX1_letGo X d mc ms Q N K R n := by
  intro n
  induction n with
  | zero => exact fun _ _ _ _ _ _ h _ => h.elim
  | succ n ih =>
    intro M a0 x1 x3 x4 s0 H hR
    rw [qX1_letGo] at H
    unfold pX1_letGo_5 at H
    refine g_iload 3 7 dX1_letGo_5 rfl rfl ?_
    refine g_iconst (3) 8 dX1_letGo_7 rfl rfl ?_
    refine g_icmp_ge 83 11 dX1_letGo_8 rfl rfl (fun c1 => ?_) (fun c1 => ?_)
    · skip
      replace H := H.1 c1
      refine g_iload_n 2 84 dX1_letGo_83 rfl rfl ?_
      exact g_iret dX1_letGo_84 rfl (Nat.zero_le _) (Nat.zero_le _) (hR _ _ Sm.rf H)
    · skip
      replace H := H.2 c1
      refine g_aload_n 0 12 dX1_letGo_11 rfl rfl ?_
      refine g_getR 15 (a0 + 1) dX1_letGo_12 rfl flX1_9 s0.1 s0.2.1 ?_
      refine g_iconst (3) 16 dX1_letGo_15 rfl rfl ?_
      refine g_iload_n 1 17 dX1_letGo_16 rfl rfl ?_
      refine g_imul 18 dX1_letGo_17 rfl ?_
      refine g_iload 3 20 dX1_letGo_18 rfl rfl ?_
      refine g_iadd 21 dX1_letGo_20 rfl ?_
      obtain ⟨b1, H⟩ := H
      refine h_iaload 22 (((3 * x1) + x4)).toNatClampNeg dX1_letGo_21 rfl rfl s0.2.2.1 b1 ?_
      refine g_istore 24 [(5, .int ((g_mi M (a0 + 1) (((3 * x1) + x4)).toNatClampNeg))), (0, .ref a0), (1, .int (x1)), (3, .int (x3)), (4, .int (x4))] dX1_letGo_22 rfl (Nat.le_of_ble_eq_true rfl) rfl ?_
      refine g_aload_n 1 25 dX1_letGo_24 rfl rfl ?_
      refine g_getR 28 (a0 + 4) dX1_letGo_25 rfl flX1_21 s0.1 s0.2.2.2.2.2.2.2.1 ?_
      refine g_iload 0 30 dX1_letGo_28 rfl rfl ?_
      refine g_dup2 31 dX1_letGo_30 rfl rfl rfl ?_
      obtain ⟨b2, H⟩ := H
      refine h_iaload 32 ((g_mi M (a0 + 1) (((3 * x1) + x4)).toNatClampNeg)).toNatClampNeg dX1_letGo_31 rfl rfl s0.2.2.2.2.2.2.2.2.1 b2 ?_
      refine g_iconst (1) 33 dX1_letGo_32 rfl rfl ?_
      refine g_isub 34 dX1_letGo_33 rfl ?_
      refine h_iastore 35 ((g_mi M (a0 + 1) (((3 * x1) + x4)).toNatClampNeg)).toNatClampNeg dX1_letGo_34 rfl rfl s0.2.2.2.2.2.2.2.2.1 b2 ?_
      generalize hM1 : (g_wi M (a0 + 4) ((g_mi M (a0 + 1) (((3 * x1) + x4)).toNatClampNeg)).toNatClampNeg ((g_mi M (a0 + 4) ((g_mi M (a0 + 1) (((3 * x1) + x4)).toNatClampNeg)).toNatClampNeg) - 1)) = M1
      have j1 : Sm M M1 := by rw [← hM1]; exact (Sm.wi Sm.rf)
      replace H := H M1 hM1.symm
      refine g_aload_n 1 36 dX1_letGo_35 rfl rfl ?_
      refine g_getR 39 (a0 + 5) dX1_letGo_36 rfl flX1_24 (Sm.k j1 s0.1) (Sm.r j1 s0.2.2.2.2.2.2.2.2.2.1) ?_
      refine g_iload 0 41 dX1_letGo_39 rfl rfl ?_
      refine g_dup2 42 dX1_letGo_41 rfl rfl rfl ?_
      obtain ⟨b3, H⟩ := H
      refine h_iaload 43 ((g_mi M (a0 + 1) (((3 * x1) + x4)).toNatClampNeg)).toNatClampNeg dX1_letGo_42 rfl rfl (Sm.k j1 s0.2.2.2.2.2.2.2.2.2.2.1) b3 ?_
      refine g_iload_n 2 44 dX1_letGo_43 rfl rfl ?_
      refine g_ixor 45 dX1_letGo_44 rfl ?_
      refine h_iastore 46 ((g_mi M (a0 + 1) (((3 * x1) + x4)).toNatClampNeg)).toNatClampNeg dX1_letGo_45 rfl rfl (Sm.k j1 s0.2.2.2.2.2.2.2.2.2.2.1) b3 ?_
      generalize hM2 : (g_wi M1 (a0 + 5) ((g_mi M (a0 + 1) (((3 * x1) + x4)).toNatClampNeg)).toNatClampNeg ((g_mi M1 (a0 + 5) ((g_mi M (a0 + 1) (((3 * x1) + x4)).toNatClampNeg)).toNatClampNeg) ^^^ x1)) = M2
      have j2 : Sm M M2 := by rw [← hM2]; exact (Sm.wi j1)
      replace H := H M2 hM2.symm
      refine g_aload_n 1 47 dX1_letGo_46 rfl rfl ?_
      refine g_getR 50 (a0 + 4) dX1_letGo_47 rfl flX1_21 (Sm.k j2 s0.1) (Sm.r j2 s0.2.2.2.2.2.2.2.1) ?_
      refine g_iload 0 52 dX1_letGo_50 rfl rfl ?_
      obtain ⟨b4, H⟩ := H
      refine h_iaload 53 ((g_mi M (a0 + 1) (((3 * x1) + x4)).toNatClampNeg)).toNatClampNeg dX1_letGo_52 rfl rfl (Sm.k j2 s0.2.2.2.2.2.2.2.2.1) b4 ?_
      refine g_iconst (1) 54 dX1_letGo_53 rfl rfl ?_
      refine g_icmp_ne 77 57 dX1_letGo_54 rfl rfl (fun c2 => ?_) (fun c2 => ?_)
      · skip
        replace H := H.1 c2
        refine g_iinc _ 4 80 [(4, .int ((x4 + 1))), (5, .int ((g_mi M (a0 + 1) (((3 * x1) + x4)).toNatClampNeg))), (0, .ref a0), (1, .int (x1)), (3, .int (x3))] dX1_letGo_77 rfl rfl rfl (Nat.le_of_ble_eq_true rfl) rfl ?_
        refine g_goto 5 dX1_letGo_80 rfl ?_
        exact g_sub [2, 3, 4, 0] _ rfl (ih M2 a0 x1 x3 (x4 + 1) (Pe.sm j2 s0) H (fun v M1 j r => hR v M1 (Sm.tr j2 j) r))
      · skip
        replace H := H.2 c2
        refine g_iload_n 3 58 dX1_letGo_57 rfl rfl ?_
        refine g_aload_n 1 59 dX1_letGo_58 rfl rfl ?_
        refine g_getR 62 (a0 + 7) dX1_letGo_59 rfl flX1_30 (Sm.k j2 s0.1) (Sm.r j2 s0.2.2.2.2.2.2.2.2.2.2.2.2.2.1) ?_
        refine g_alen (t := 0) 63 dX1_letGo_62 rfl (Sm.k j2 s0.2.2.2.2.2.2.2.2.2.2.2.2.2.2.1) (by decide) rfl ?_
        refine g_icmp_ge 77 66 dX1_letGo_63 rfl rfl (fun c3 => ?_) (fun c3 => ?_)
        · skip
          replace H := H.1 c3
          refine g_iinc _ 4 80 [(4, .int ((x4 + 1))), (5, .int ((g_mi M (a0 + 1) (((3 * x1) + x4)).toNatClampNeg))), (0, .ref a0), (1, .int (x1)), (3, .int (x3))] dX1_letGo_77 rfl rfl rfl (Nat.le_of_ble_eq_true rfl) rfl ?_
          refine g_goto 5 dX1_letGo_80 rfl ?_
          exact g_sub [2, 3, 4, 0] _ rfl (ih M2 a0 x1 x3 (x4 + 1) (Pe.sm j2 s0) H (fun v M1 j r => hR v M1 (Sm.tr j2 j) r))
        · skip
          replace H := H.2 c3
          refine g_aload_n 1 67 dX1_letGo_66 rfl rfl ?_
          refine g_getR 70 (a0 + 7) dX1_letGo_67 rfl flX1_30 (Sm.k j2 s0.1) (Sm.r j2 s0.2.2.2.2.2.2.2.2.2.2.2.2.2.1) ?_
          refine g_iload_n 3 71 dX1_letGo_70 rfl rfl ?_
          refine g_iload 0 73 dX1_letGo_71 rfl rfl ?_
          obtain ⟨b5, H⟩ := H
          refine h_iastore 74 (x3).toNatClampNeg dX1_letGo_73 rfl rfl (Sm.k j2 s0.2.2.2.2.2.2.2.2.2.2.2.2.2.2.1) b5 ?_
          generalize hM3 : (g_wi M2 (a0 + 7) (x3).toNatClampNeg (g_mi M (a0 + 1) (((3 * x1) + x4)).toNatClampNeg)) = M3
          have j3 : Sm M M3 := by rw [← hM3]; exact (Sm.wi j2)
          replace H := H M3 hM3.symm
          refine g_iinc _ 3 77 [(3, .int ((x3 + 1))), (5, .int ((g_mi M (a0 + 1) (((3 * x1) + x4)).toNatClampNeg))), (0, .ref a0), (1, .int (x1)), (4, .int (x4))] dX1_letGo_74 rfl rfl rfl (Nat.le_of_ble_eq_true rfl) rfl ?_
          refine g_iinc _ 4 80 [(4, .int ((x4 + 1))), (3, .int ((x3 + 1))), (5, .int ((g_mi M (a0 + 1) (((3 * x1) + x4)).toNatClampNeg))), (0, .ref a0), (1, .int (x1))] dX1_letGo_77 rfl rfl rfl (Nat.le_of_ble_eq_true rfl) rfl ?_
          refine g_goto 5 dX1_letGo_80 rfl ?_
          exact g_sub [3, 4, 1, 0] _ rfl (ih M3 a0 x1 (x3 + 1) (x4 + 1) (Pe.sm j3 s0) H (fun v M1 j r => hR v M1 (Sm.tr j3 j) r))
set_option maxRecDepth 10000 in
theorem uX1_letGo {N K : Nat} {X : gX} {d mc ms : Nat} {Q : Option Value → gM → Prop} {M : gM} {a0 : Nat} {x1 : Int32} {x2 : Int32} {R : Int32 → gM → Prop} (s0 : Pe M a0) (H : pX1_letGo N K M a0 x1 x2 R) (hR : ∀ (v : Int32) (M1 : gM), Sm M M1 → R v M1 → Q (some (.int v)) M1) : Cn X d mc ms kX1_letGo [.ref a0, .int (x1), .int (x2)] M Q := by
  have ih := ulX1_letGo (X := X) (d := d) (mc := mc) (ms := ms) (Q := Q) (N := N) (K := K) (R := R) N
  unfold pX1_letGo pX1_letGo_0 at H
  refine g_meth rfl rfl (Nat.le_of_ble_eq_true rfl) rfl ?_
  refine g_iload_n 2 1 dX1_letGo_0 rfl rfl ?_
  refine g_istore_n 2 [(3, .int (x2)), (0, .ref a0), (1, .int (x1)), (2, .int (x2))] dX1_letGo_1 rfl (Nat.le_of_ble_eq_true rfl) rfl ?_
  refine g_iconst (0) 3 dX1_letGo_2 rfl rfl ?_
  refine g_istore 5 [(4, .int (0)), (3, .int (x2)), (0, .ref a0), (1, .int (x1)), (2, .int (x2))] dX1_letGo_3 rfl (Nat.le_of_ble_eq_true rfl) rfl ?_
  exact g_sub [2, 3, 1, 0] _ rfl (ih M a0 x1 x2 0 s0 H (fun v M1 j r => hR v M1 j r))
/-! X1_lay -/
def pX1_lay_0 (N K : Nat) (kp : Nat → gM → Nat → Nat → Int32 → Int32 → Int32 → Int32 → Prop) (R : gM → Prop) (M : gM) (a0 : Nat) (a1 : Nat) (x2 : Int32) (x3 : Int32) : Prop := (EJ7_fill_53178 N M (a0 + 4) 60 0) ∧ ∀ M1 : gM, M1 = (mJ7_fill_53178 N M (a0 + 4) 60 0) → (EJ7_fill_53178 N M1 (a0 + 5) 60 0) ∧ ∀ M2 : gM, M2 = (mJ7_fill_53178 N M1 (a0 + 5) 60 0) → kp 0 M2 a0 a1 x2 x3 0 0
def pX1_lay_19 (N K : Nat) (kp : Nat → gM → Nat → Nat → Int32 → Int32 → Int32 → Int32 → Prop) (R : gM → Prop) (M : gM) (a0 : Nat) (a1 : Nat) (x2 : Int32) (x3 : Int32) (x4 : Int32) : Prop := (((g_mi M a1 3) ≤ x4 → R M) ∧ (¬ (g_mi M a1 3) ≤ x4 → kp 1 M a0 a1 x2 x3 x4 0))
def pX1_lay_31 (N K : Nat) (kp : Nat → gM → Nat → Nat → Int32 → Int32 → Int32 → Int32 → Prop) (R : gM → Prop) (M : gM) (a0 : Nat) (a1 : Nat) (x2 : Int32) (x3 : Int32) (x4 : Int32) (x5 : Int32) : Prop := ((3 ≤ x5 → kp 0 M a0 a1 x2 x3 (x4 + 1) 0) ∧ (¬ 3 ≤ x5 → (vp_in (x4) 30) ∧ (EX8_vertexOf M (g_mi M (a1 + 1) (x4).toNatClampNeg) x5 x2 x3) ∧ ∀ v1 : Int32, v1 = (fX8_vertexOf (g_mi M (a1 + 1) (x4).toNatClampNeg) x5 x2 x3) → (vp_in (((3 * x4) + x5)) 90) ∧ ∀ M1 : gM, M1 = (g_wi M (a0 + 1) (((3 * x4) + x5)).toNatClampNeg v1) → (vp_in (v1) 60) ∧ ∀ M2 : gM, M2 = (g_wi M1 (a0 + 4) (v1).toNatClampNeg ((g_mi M1 (a0 + 4) (v1).toNatClampNeg) + 1)) → (vp_in (v1) 60) ∧ ∀ M3 : gM, M3 = (g_wi M2 (a0 + 5) (v1).toNatClampNeg ((g_mi M2 (a0 + 5) (v1).toNatClampNeg) ^^^ x4)) → kp 1 M3 a0 a1 x2 x3 x4 (x5 + 1)))
def qX1_lay (N K : Nat) (R : gM → Prop) : Nat → Nat → gM → Nat → Nat → Int32 → Int32 → Int32 → Int32 → Prop
  | 0, _, _, _, _, _, _, _, _ => False
  | n + 1, h, M, a0, a1, x2, x3, x4, x5 => if h = 0 then pX1_lay_19 N K (qX1_lay N K R n) R M a0 a1 x2 x3 x4 else pX1_lay_31 N K (qX1_lay N K R n) R M a0 a1 x2 x3 x4 x5
def pX1_lay (N K : Nat) (M : gM) (a0 : Nat) (a1 : Nat) (x2 : Int32) (x3 : Int32) (R : gM → Prop) : Prop := pX1_lay_0 N K (qX1_lay N K R N) R M a0 a1 x2 x3
def ULX1_lay (X : gX) (d mc ms : Nat) (Q : Option Value → gM → Prop) (N K : Nat) (R : gM → Prop) (n : Nat) : Prop := (∀ (M : gM) (a0 : Nat) (a1 : Nat) (x2 : Int32) (x3 : Int32) (x4 : Int32) (x5 : Int32), Pe M a0 → St M a1 → qX1_lay N K R n 0 M a0 a1 x2 x3 x4 x5 → (∀ (M1 : gM), Sm M M1 → R M1 → Q none M1) → Go X (d + 1) mc ms kX1_lay Q 19 [(0, .ref a0), (1, .ref a1), (2, .int (x2)), (3, .int (x3)), (4, .int (x4))] [] M 0 0) ∧ (∀ (M : gM) (a0 : Nat) (a1 : Nat) (x2 : Int32) (x3 : Int32) (x4 : Int32) (x5 : Int32), Pe M a0 → St M a1 → qX1_lay N K R n 1 M a0 a1 x2 x3 x4 x5 → (∀ (M1 : gM), Sm M M1 → R M1 → Q none M1) → Go X (d + 1) mc ms kX1_lay Q 31 [(0, .ref a0), (1, .ref a1), (2, .int (x2)), (3, .int (x3)), (4, .int (x4)), (5, .int (x5))] [] M 0 0)
set_option maxRecDepth 10000 in
theorem ulX1_lay {X : gX} {d mc ms : Nat} {Q : Option Value → gM → Prop} {N K : Nat} {R : gM → Prop} : ∀ n : Nat, ULX1_lay X d mc ms Q N K R n := by
  intro n
  induction n with
  | zero => exact ⟨fun _ _ _ _ _ _ _ _ _ h _ => h.elim, fun _ _ _ _ _ _ _ _ _ h _ => h.elim⟩
  | succ n ih =>
    refine ⟨?_, ?_⟩
    · intro M a0 a1 x2 x3 x4 x5 s0 s1 H hR
      rw [qX1_lay, if_pos (show (0 : Nat) = 0 from rfl)] at H
      unfold pX1_lay_19 at H
      refine g_iload 4 21 dX1_lay_19 rfl rfl ?_
      refine g_aload_n 1 22 dX1_lay_21 rfl rfl ?_
      refine g_getI 25 dX1_lay_22 rfl flX1_37 s1.1 ?_
      refine g_icmp_ge 102 28 dX1_lay_25 rfl rfl (fun c1 => ?_) (fun c1 => ?_)
      · skip
        replace H := H.1 c1
        exact g_vret dX1_lay_102 rfl (Nat.zero_le _) (Nat.zero_le _) (hR _ Sm.rf H)
      · skip
        replace H := H.2 c1
        refine g_iconst (0) 29 dX1_lay_28 rfl rfl ?_
        refine g_istore 31 [(5, .int (0)), (0, .ref a0), (1, .ref a1), (2, .int (x2)), (3, .int (x3)), (4, .int (x4))] dX1_lay_29 rfl (Nat.le_of_ble_eq_true rfl) rfl ?_
        exact g_sub [1, 2, 3, 4, 5, 0] _ rfl (ih.2 M a0 a1 x2 x3 x4 0 s0 s1 H (fun M1 j r => hR M1 j r))
    · intro M a0 a1 x2 x3 x4 x5 s0 s1 H hR
      rw [qX1_lay, if_neg (show ¬ (1 : Nat) = 0 by decide)] at H
      unfold pX1_lay_31 at H
      refine g_iload 5 33 dX1_lay_31 rfl rfl ?_
      refine g_iconst (3) 34 dX1_lay_33 rfl rfl ?_
      refine g_icmp_ge 96 37 dX1_lay_34 rfl rfl (fun c1 => ?_) (fun c1 => ?_)
      · skip
        replace H := H.1 c1
        refine g_iinc _ 4 99 [(4, .int ((x4 + 1))), (0, .ref a0), (1, .ref a1), (2, .int (x2)), (3, .int (x3)), (5, .int (x5))] dX1_lay_96 rfl rfl rfl (Nat.le_of_ble_eq_true rfl) rfl ?_
        refine g_goto 19 dX1_lay_99 rfl ?_
        exact g_sub [1, 2, 3, 4, 0] _ rfl (ih.1 M a0 a1 x2 x3 (x4 + 1) 0 s0 s1 H (fun M1 j r => hR M1 j r))
      · skip
        replace H := H.2 c1
        refine g_aload_n 1 38 dX1_lay_37 rfl rfl ?_
        refine g_getR 41 (a1 + 1) dX1_lay_38 rfl flX1_77 s1.1 s1.2.1 ?_
        refine g_iload 4 43 dX1_lay_41 rfl rfl ?_
        obtain ⟨b1, H⟩ := H
        refine h_iaload 44 (x4).toNatClampNeg dX1_lay_43 rfl rfl s1.2.2.1 b1 ?_
        refine g_iload 5 46 dX1_lay_44 rfl rfl ?_
        refine g_iload_n 2 47 dX1_lay_46 rfl rfl ?_
        refine g_iload_n 3 48 dX1_lay_47 rfl rfl ?_
        obtain ⟨b2, H⟩ := H
        refine g_callSN (mc1 := 0) (ms1 := 0) (rest := []) (av := [.int ((g_mi M (a1 + 1) (x4).toNatClampNeg)), .int (x5), .int (x2), .int (x3)]) kX8_vertexOf 51 dX1_lay_48 rfl rfl mbX1_80 smX8_vertexOf (Nat.le_of_ble_eq_true rfl) (Nat.zero_le _) (Nat.zero_le _) (tX8_vertexOf b2 ?_)
        show Go X (d + 1) mc ms kX1_lay Q 51 [(0, .ref a0), (1, .ref a1), (2, .int (x2)), (3, .int (x3)), (4, .int (x4)), (5, .int (x5))] [.int ((fX8_vertexOf (g_mi M (a1 + 1) (x4).toNatClampNeg) x5 x2 x3))] M 0 0
        generalize hv1 : (fX8_vertexOf (g_mi M (a1 + 1) (x4).toNatClampNeg) x5 x2 x3) = v1
        replace H := H v1 hv1.symm
        refine g_istore 53 [(6, .int (v1)), (0, .ref a0), (1, .ref a1), (2, .int (x2)), (3, .int (x3)), (4, .int (x4)), (5, .int (x5))] dX1_lay_51 rfl (Nat.le_of_ble_eq_true rfl) rfl ?_
        refine g_aload_n 1 54 dX1_lay_53 rfl rfl ?_
        refine g_getR 57 (a0 + 1) dX1_lay_54 rfl flX1_9 s0.1 s0.2.1 ?_
        refine g_iconst (3) 58 dX1_lay_57 rfl rfl ?_
        refine g_iload 5 60 dX1_lay_58 rfl rfl ?_
        refine g_imul 61 dX1_lay_60 rfl ?_
        refine g_iload 6 63 dX1_lay_61 rfl rfl ?_
        refine g_iadd 64 dX1_lay_63 rfl ?_
        refine g_iload 0 66 dX1_lay_64 rfl rfl ?_
        obtain ⟨b3, H⟩ := H
        refine h_iastore 67 (((3 * x4) + x5)).toNatClampNeg dX1_lay_66 rfl rfl s0.2.2.1 b3 ?_
        generalize hM1 : (g_wi M (a0 + 1) (((3 * x4) + x5)).toNatClampNeg v1) = M1
        have j1 : Sm M M1 := by rw [← hM1]; exact (Sm.wi Sm.rf)
        replace H := H M1 hM1.symm
        refine g_aload_n 1 68 dX1_lay_67 rfl rfl ?_
        refine g_getR 71 (a0 + 4) dX1_lay_68 rfl flX1_21 (Sm.k j1 s0.1) (Sm.r j1 s0.2.2.2.2.2.2.2.1) ?_
        refine g_iload 0 73 dX1_lay_71 rfl rfl ?_
        refine g_dup2 74 dX1_lay_73 rfl rfl rfl ?_
        obtain ⟨b4, H⟩ := H
        refine h_iaload 75 (v1).toNatClampNeg dX1_lay_74 rfl rfl (Sm.k j1 s0.2.2.2.2.2.2.2.2.1) b4 ?_
        refine g_iconst (1) 76 dX1_lay_75 rfl rfl ?_
        refine g_iadd 77 dX1_lay_76 rfl ?_
        refine h_iastore 78 (v1).toNatClampNeg dX1_lay_77 rfl rfl (Sm.k j1 s0.2.2.2.2.2.2.2.2.1) b4 ?_
        generalize hM2 : (g_wi M1 (a0 + 4) (v1).toNatClampNeg ((g_mi M1 (a0 + 4) (v1).toNatClampNeg) + 1)) = M2
        have j2 : Sm M M2 := by rw [← hM2]; exact (Sm.wi j1)
        replace H := H M2 hM2.symm
        refine g_aload_n 1 79 dX1_lay_78 rfl rfl ?_
        refine g_getR 82 (a0 + 5) dX1_lay_79 rfl flX1_24 (Sm.k j2 s0.1) (Sm.r j2 s0.2.2.2.2.2.2.2.2.2.1) ?_
        refine g_iload 0 84 dX1_lay_82 rfl rfl ?_
        refine g_dup2 85 dX1_lay_84 rfl rfl rfl ?_
        obtain ⟨b5, H⟩ := H
        refine h_iaload 86 (v1).toNatClampNeg dX1_lay_85 rfl rfl (Sm.k j2 s0.2.2.2.2.2.2.2.2.2.2.1) b5 ?_
        refine g_iload 5 88 dX1_lay_86 rfl rfl ?_
        refine g_ixor 89 dX1_lay_88 rfl ?_
        refine h_iastore 90 (v1).toNatClampNeg dX1_lay_89 rfl rfl (Sm.k j2 s0.2.2.2.2.2.2.2.2.2.2.1) b5 ?_
        generalize hM3 : (g_wi M2 (a0 + 5) (v1).toNatClampNeg ((g_mi M2 (a0 + 5) (v1).toNatClampNeg) ^^^ x4)) = M3
        have j3 : Sm M M3 := by rw [← hM3]; exact (Sm.wi j2)
        replace H := H M3 hM3.symm
        refine g_iinc _ 6 93 [(5, .int ((x5 + 1))), (6, .int (v1)), (0, .ref a0), (1, .ref a1), (2, .int (x2)), (3, .int (x3)), (4, .int (x4))] dX1_lay_90 rfl rfl rfl (Nat.le_of_ble_eq_true rfl) rfl ?_
        refine g_goto 31 dX1_lay_93 rfl ?_
        exact g_sub [2, 3, 4, 5, 6, 0] _ rfl (ih.2 M3 a0 a1 x2 x3 x4 (x5 + 1) (Pe.sm j3 s0) (St.sm j3 s1) H (fun M1 j r => hR M1 (Sm.tr j3 j) r))
set_option maxRecDepth 10000 in
theorem uX1_lay {N K : Nat} {X : gX} {d mc ms : Nat} {Q : Option Value → gM → Prop} {M : gM} {a0 : Nat} {a1 : Nat} {x2 : Int32} {x3 : Int32} {R : gM → Prop} (s0 : Pe M a0) (s1 : St M a1) (H : pX1_lay N K M a0 a1 x2 x3 R) (hR : ∀ (M1 : gM), Sm M M1 → R M1 → Q none M1) : Cn X (d + 1) mc ms kX1_lay [.ref a0, .ref a1, .int (x2), .int (x3)] M Q := by
  have ih := ulX1_lay (X := X) (d := d) (mc := mc) (ms := ms) (Q := Q) (N := N) (K := K) (R := R) N
  unfold pX1_lay pX1_lay_0 at H
  refine g_meth rfl rfl (Nat.le_of_ble_eq_true rfl) rfl ?_
  refine g_aload_n 0 1 dX1_lay_0 rfl rfl ?_
  refine g_getR 4 (a0 + 4) dX1_lay_1 rfl flX1_21 s0.1 s0.2.2.2.2.2.2.2.1 ?_
  refine g_iconst (0) 5 dX1_lay_4 rfl rfl ?_
  obtain ⟨b1, H⟩ := H
  refine g_callS (mc1 := 0) (ms1 := 0) (rest := []) (av := [.ref (a0 + 4), .int (0)]) kJ7_fill_53178 8 dX1_lay_5 rfl rfl mbX1_71 smJ7_fill_53178 (Nat.le_of_ble_eq_true rfl) (Nat.zero_le _) (Nat.zero_le _) (tJ7_fill_53178 (N := N) s0.2.2.2.2.2.2.2.2.1 b1 ?_)
  show Go X (d + 1) mc ms kX1_lay Q 8 [(0, .ref a0), (1, .ref a1), (2, .int (x2)), (3, .int (x3))] [] (mJ7_fill_53178 N M (a0 + 4) 60 0) 0 0
  generalize hM1 : (mJ7_fill_53178 N M (a0 + 4) 60 0) = M1
  have j1 : Sm M M1 := by rw [← hM1]; exact (Sm.tr Sm.rf jJ7_fill_53178)
  replace H := H M1 hM1.symm
  refine g_aload_n 0 9 dX1_lay_8 rfl rfl ?_
  refine g_getR 12 (a0 + 5) dX1_lay_9 rfl flX1_24 (Sm.k j1 s0.1) (Sm.r j1 s0.2.2.2.2.2.2.2.2.2.1) ?_
  refine g_iconst (0) 13 dX1_lay_12 rfl rfl ?_
  obtain ⟨b2, H⟩ := H
  refine g_callS (mc1 := 0) (ms1 := 0) (rest := []) (av := [.ref (a0 + 5), .int (0)]) kJ7_fill_53178 16 dX1_lay_13 rfl rfl mbX1_71 smJ7_fill_53178 (Nat.le_of_ble_eq_true rfl) (Nat.zero_le _) (Nat.zero_le _) (tJ7_fill_53178 (N := N) (Sm.k j1 s0.2.2.2.2.2.2.2.2.2.2.1) b2 ?_)
  show Go X (d + 1) mc ms kX1_lay Q 16 [(0, .ref a0), (1, .ref a1), (2, .int (x2)), (3, .int (x3))] [] (mJ7_fill_53178 N M1 (a0 + 5) 60 0) 0 0
  generalize hM2 : (mJ7_fill_53178 N M1 (a0 + 5) 60 0) = M2
  have j2 : Sm M M2 := by rw [← hM2]; exact (Sm.tr j1 jJ7_fill_53178)
  replace H := H M2 hM2.symm
  refine g_iconst (0) 17 dX1_lay_16 rfl rfl ?_
  refine g_istore 19 [(4, .int (0)), (0, .ref a0), (1, .ref a1), (2, .int (x2)), (3, .int (x3))] dX1_lay_17 rfl (Nat.le_of_ble_eq_true rfl) rfl ?_
  exact g_sub [1, 2, 3, 4, 0] _ rfl (ih.1 M2 a0 a1 x2 x3 0 0 (Pe.sm j2 s0) (St.sm j2 s1) H (fun M1 j r => hR M1 (Sm.tr j2 j) r))
/-! X7_fitsSeen -/
def pX7_fitsSeen_0 (N K : Nat) (kp : Nat → gM → Nat → Int32 → Int32 → Prop) (R : Int32 → Prop) (M : gM) (a0 : Nat) (x1 : Int32) : Prop := kp 0 M a0 x1 0
def pX7_fitsSeen_2 (N K : Nat) (kp : Nat → gM → Nat → Int32 → Int32 → Prop) (R : Int32 → Prop) (M : gM) (a0 : Nat) (x1 : Int32) (x2 : Int32) : Prop := (((g_mi M a0 4) ≤ x2 → R 1) ∧ (¬ (g_mi M a0 4) ≤ x2 → (vp_in (x2) 6) ∧ (EX3_keyHas M (a0 + 1) x1 (g_mi M (a0 + 8) (x2).toNatClampNeg)) ∧ ∀ v1 : Int32, v1 = (fX3_keyHas M (a0 + 1) x1 (g_mi M (a0 + 8) (x2).toNatClampNeg)) → ((¬ (g_mi M (a0 + 9) (x2).toNatClampNeg) = 1 → ((v1 = 0 → kp 0 M a0 x1 (x2 + 1)) ∧ (¬ v1 = 0 → R 0))) ∧ ((g_mi M (a0 + 9) (x2).toNatClampNeg) = 1 → ((v1 = 1 → kp 0 M a0 x1 (x2 + 1)) ∧ (¬ v1 = 1 → R 0))))))
def qX7_fitsSeen (N K : Nat) (R : Int32 → Prop) : Nat → Nat → gM → Nat → Int32 → Int32 → Prop
  | 0, _, _, _, _, _ => False
  | n + 1, _, M, a0, x1, x2 => pX7_fitsSeen_2 N K (qX7_fitsSeen N K R n) R M a0 x1 x2
def pX7_fitsSeen (N K : Nat) (M : gM) (a0 : Nat) (x1 : Int32) (R : Int32 → Prop) : Prop := pX7_fitsSeen_0 N K (qX7_fitsSeen N K R N) R M a0 x1
def ULX7_fitsSeen (X : gX) (d mc ms : Nat) (Q : Option Value → gM → Prop) (N K : Nat) (R : Int32 → Prop) (n : Nat) : Prop := (∀ (M : gM) (a0 : Nat) (x1 : Int32) (x2 : Int32), Wh M a0 → qX7_fitsSeen N K R n 0 M a0 x1 x2 → (∀ (v : Int32), R v → Q (some (.int v)) M) → Go X (d + 2) mc ms kX7_fitsSeen Q 2 [(0, .ref a0), (1, .int (x1)), (2, .int (x2))] [] M 0 0)
set_option maxRecDepth 10000 in
theorem ulX7_fitsSeen {X : gX} {d mc ms : Nat} {Q : Option Value → gM → Prop} {N K : Nat} {R : Int32 → Prop} : ∀ n : Nat, ULX7_fitsSeen X d mc ms Q N K R n := by
  intro n
  induction n with
  | zero => exact fun _ _ _ _ _ h _ => h.elim
  | succ n ih =>
    intro M a0 x1 x2 s0 H hR
    rw [qX7_fitsSeen] at H
    unfold pX7_fitsSeen_2 at H
    refine g_iload_n 2 3 dX7_fitsSeen_2 rfl rfl ?_
    refine g_aload_n 0 4 dX7_fitsSeen_3 rfl rfl ?_
    refine g_getI 7 dX7_fitsSeen_4 rfl flX7_39 s0.1 ?_
    refine g_icmp_ge 50 10 dX7_fitsSeen_7 rfl rfl (fun c1 => ?_) (fun c1 => ?_)
    · skip
      replace H := H.1 c1
      refine g_iconst (1) 51 dX7_fitsSeen_50 rfl rfl ?_
      exact g_zret dX7_fitsSeen_51 rfl (by decide) (Nat.zero_le _) (Nat.zero_le _) (hR _ H)
    · skip
      replace H := H.2 c1
      refine g_aload_n 0 11 dX7_fitsSeen_10 rfl rfl ?_
      refine g_getR 14 (a0 + 1) dX7_fitsSeen_11 rfl flX7_12 s0.1 s0.2.1 ?_
      refine g_iload_n 1 15 dX7_fitsSeen_14 rfl rfl ?_
      refine g_aload_n 0 16 dX7_fitsSeen_15 rfl rfl ?_
      refine g_getR 19 (a0 + 8) dX7_fitsSeen_16 rfl flX7_18 s0.1 s0.2.2.2.1 ?_
      refine g_iload_n 2 20 dX7_fitsSeen_19 rfl rfl ?_
      obtain ⟨b1, H⟩ := H
      refine h_iaload 21 (x2).toNatClampNeg dX7_fitsSeen_20 rfl rfl s0.2.2.2.2.1 b1 ?_
      obtain ⟨b2, H⟩ := H
      refine g_callV (mc1 := 0) (ms1 := 0) (b := (a0 + 1)) (rest := []) (av := [.int (x1), .int ((g_mi M (a0 + 8) (x2).toNatClampNeg))]) kX3_keyHas 24 dX7_fitsSeen_21 rfl rfl mbX7_45 imX3_keyHas seX3_keyHas gcl3.1 s0.2.2.1.1 (Nat.le_of_ble_eq_true rfl) (Nat.zero_le _) (Nat.zero_le _) (tX3_keyHas s0.2.2.1 b2 ?_)
      show Go X (d + 2) mc ms kX7_fitsSeen Q 24 [(0, .ref a0), (1, .int (x1)), (2, .int (x2))] [.int ((fX3_keyHas M (a0 + 1) x1 (g_mi M (a0 + 8) (x2).toNatClampNeg)))] M 0 0
      generalize hv1 : (fX3_keyHas M (a0 + 1) x1 (g_mi M (a0 + 8) (x2).toNatClampNeg)) = v1
      replace H := H v1 hv1.symm
      refine g_aload_n 0 25 dX7_fitsSeen_24 rfl rfl ?_
      refine g_getR 28 (a0 + 9) dX7_fitsSeen_25 rfl flX7_22 s0.1 s0.2.2.2.2.2.1 ?_
      refine g_iload_n 2 29 dX7_fitsSeen_28 rfl rfl ?_
      refine h_iaload 30 (x2).toNatClampNeg dX7_fitsSeen_29 rfl rfl s0.2.2.2.2.2.2.1 b1 ?_
      refine g_iconst (1) 31 dX7_fitsSeen_30 rfl rfl ?_
      refine g_icmp_ne 38 34 dX7_fitsSeen_31 rfl rfl (fun c2 => ?_) (fun c2 => ?_)
      · skip
        replace H := H.1 c2
        refine g_iconst (0) 39 dX7_fitsSeen_38 rfl rfl ?_
        refine g_icmp_eq 44 42 dX7_fitsSeen_39 rfl rfl (fun c3 => ?_) (fun c3 => ?_)
        · skip
          replace H := H.1 c3
          refine g_iinc _ 2 47 [(2, .int ((x2 + 1))), (0, .ref a0), (1, .int (x1))] dX7_fitsSeen_44 rfl rfl rfl (Nat.le_of_ble_eq_true rfl) rfl ?_
          refine g_goto 2 dX7_fitsSeen_47 rfl ?_
          exact g_sub [1, 2, 0] _ rfl (ih M a0 x1 (x2 + 1) s0 H (fun v r => hR v r))
        · skip
          replace H := H.2 c3
          refine g_iconst (0) 43 dX7_fitsSeen_42 rfl rfl ?_
          exact g_zret dX7_fitsSeen_43 rfl (by decide) (Nat.zero_le _) (Nat.zero_le _) (hR _ H)
      · skip
        replace H := H.2 c2
        refine g_iconst (1) 35 dX7_fitsSeen_34 rfl rfl ?_
        refine g_goto 39 dX7_fitsSeen_35 rfl ?_
        refine g_icmp_eq 44 42 dX7_fitsSeen_39 rfl rfl (fun c4 => ?_) (fun c4 => ?_)
        · skip
          replace H := H.1 c4
          refine g_iinc _ 2 47 [(2, .int ((x2 + 1))), (0, .ref a0), (1, .int (x1))] dX7_fitsSeen_44 rfl rfl rfl (Nat.le_of_ble_eq_true rfl) rfl ?_
          refine g_goto 2 dX7_fitsSeen_47 rfl ?_
          exact g_sub [1, 2, 0] _ rfl (ih M a0 x1 (x2 + 1) s0 H (fun v r => hR v r))
        · skip
          replace H := H.2 c4
          refine g_iconst (0) 43 dX7_fitsSeen_42 rfl rfl ?_
          exact g_zret dX7_fitsSeen_43 rfl (by decide) (Nat.zero_le _) (Nat.zero_le _) (hR _ H)
set_option maxRecDepth 10000 in
theorem uX7_fitsSeen {N K : Nat} {X : gX} {d mc ms : Nat} {Q : Option Value → gM → Prop} {M : gM} {a0 : Nat} {x1 : Int32} {R : Int32 → Prop} (s0 : Wh M a0) (H : pX7_fitsSeen N K M a0 x1 R) (hR : ∀ (v : Int32), R v → Q (some (.int v)) M) : Cn X (d + 2) mc ms kX7_fitsSeen [.ref a0, .int (x1)] M Q := by
  have ih := ulX7_fitsSeen (X := X) (d := d) (mc := mc) (ms := ms) (Q := Q) (N := N) (K := K) (R := R) N
  unfold pX7_fitsSeen pX7_fitsSeen_0 at H
  refine g_meth rfl rfl (Nat.le_of_ble_eq_true rfl) rfl ?_
  refine g_iconst (0) 1 dX7_fitsSeen_0 rfl rfl ?_
  refine g_istore_n 2 [(2, .int (0)), (0, .ref a0), (1, .int (x1))] dX7_fitsSeen_1 rfl (Nat.le_of_ble_eq_true rfl) rfl ?_
  exact g_sub [1, 2, 0] _ rfl (ih M a0 x1 0 s0 H (fun v r => hR v r))
/-! X9_feed -/
def pX9_feed_0 (N K : Nat) (kp : Nat → gM → Nat → Int32 → Prop) (R : Int32 → gM → Prop) (M : gM) (a0 : Nat) (x1 : Int32) (x2 : Int32) (x3 : Int32) (x4 : Int32) (x5 : Int32) : Prop := ((((g_mi M a0 13) + 20) ≤ 400 → ∀ M1 : gM, M1 = (g_wi M (a0 + 8) 0 x1) → ∀ M2 : gM, M2 = (g_wi M1 (a0 + 8) 1 x2) → ∀ M3 : gM, M3 = (g_wi M2 (a0 + 8) 2 x3) → ∀ M4 : gM, M4 = (g_wi M3 (a0 + 8) 3 x4) → ∀ M5 : gM, M5 = (g_wi M4 (a0 + 8) 4 x5) → kp 0 M5 a0 0) ∧ (¬ ((g_mi M a0 13) + 20) ≤ 400 → R (-1) M))
def pX9_feed_55 (N K : Nat) (kp : Nat → gM → Nat → Int32 → Prop) (R : Int32 → gM → Prop) (M : gM) (a0 : Nat) (x6 : Int32) : Prop := ((20 ≤ x6 → ∀ M1 : gM, M1 = (g_wi M a0 13 ((g_mi M a0 13) + 20)) → R (g_mi M1 a0 13) M1) ∧ (¬ 20 ≤ x6 → (vp_in ((x6 / 4)) 5) ∧ (vp_in (((g_mi M a0 13) + x6)) 400) ∧ (narrow .byte (.int (((((g_mi M (a0 + 8) ((x6 / 4)).toNatClampNeg) >>> ((24 - (8 * (i_rm x6 4))) &&& 31)) : Int32).toInt8.toInt32))) = .int (((((g_mi M (a0 + 8) ((x6 / 4)).toNatClampNeg) >>> ((24 - (8 * (i_rm x6 4))) &&& 31)) : Int32).toInt8.toInt32))) ∧ ∀ M2 : gM, M2 = (g_wi M (a0 + 7) (((g_mi M a0 13) + x6)).toNatClampNeg ((((g_mi M (a0 + 8) ((x6 / 4)).toNatClampNeg) >>> ((24 - (8 * (i_rm x6 4))) &&& 31)) : Int32).toInt8.toInt32)) → kp 0 M2 a0 (x6 + 1)))
def qX9_feed (N K : Nat) (R : Int32 → gM → Prop) : Nat → Nat → gM → Nat → Int32 → Prop
  | 0, _, _, _, _ => False
  | n + 1, _, M, a0, x6 => pX9_feed_55 N K (qX9_feed N K R n) R M a0 x6
def pX9_feed (N K : Nat) (M : gM) (a0 : Nat) (x1 : Int32) (x2 : Int32) (x3 : Int32) (x4 : Int32) (x5 : Int32) (R : Int32 → gM → Prop) : Prop := pX9_feed_0 N K (qX9_feed N K R N) R M a0 x1 x2 x3 x4 x5
def ULX9_feed (X : gX) (d mc ms : Nat) (Q : Option Value → gM → Prop) (N K : Nat) (R : Int32 → gM → Prop) (n : Nat) : Prop := (∀ (M : gM) (a0 : Nat) (x6 : Int32), Mo M a0 → qX9_feed N K R n 0 M a0 x6 → (∀ (v : Int32) (M1 : gM), Sm M M1 → R v M1 → Q (some (.int v)) M1) → Go X d mc ms kX9_feed Q 55 [(0, .ref a0), (6, .int (x6))] [] M 0 0)
set_option maxRecDepth 10000 in
theorem ulX9_feed {X : gX} {d mc ms : Nat} {Q : Option Value → gM → Prop} {N K : Nat} {R : Int32 → gM → Prop} : ∀ n : Nat, ULX9_feed X d mc ms Q N K R n := by
  intro n
  induction n with
  | zero => exact fun _ _ _ _ h _ => h.elim
  | succ n ih =>
    intro M a0 x6 s0 H hR
    rw [qX9_feed] at H
    unfold pX9_feed_55 at H
    refine g_iload 1 57 dX9_feed_55 rfl rfl ?_
    refine g_bipush (20) 59 dX9_feed_57 rfl rfl ?_
    refine g_icmp_ge 101 62 dX9_feed_59 rfl rfl (fun c1 => ?_) (fun c1 => ?_)
    · skip
      replace H := H.1 c1
      refine g_aload_n 0 102 dX9_feed_101 rfl rfl ?_
      refine g_dup 103 dX9_feed_102 rfl rfl ?_
      refine g_getI 106 dX9_feed_103 rfl flX9_157 s0.1 ?_
      refine g_bipush (20) 108 dX9_feed_106 rfl rfl ?_
      refine g_iadd 109 dX9_feed_108 rfl ?_
      refine g_putI 112 dX9_feed_109 rfl flX9_157 s0.1 ?_
      generalize hM1 : (g_wi M a0 13 ((g_mi M a0 13) + 20)) = M1
      have j1 : Sm M M1 := by rw [← hM1]; exact (Sm.wi Sm.rf)
      replace H := H M1 hM1.symm
      refine g_aload_n 0 113 dX9_feed_112 rfl rfl ?_
      refine g_getI 116 dX9_feed_113 rfl flX9_157 (Sm.k j1 s0.1) ?_
      exact g_iret dX9_feed_116 rfl (Nat.zero_le _) (Nat.zero_le _) (hR _ _ j1 H)
    · skip
      replace H := H.2 c1
      refine g_aload_n 0 63 dX9_feed_62 rfl rfl ?_
      refine g_getR 66 (a0 + 7) dX9_feed_63 rfl flX9_45 s0.1 s0.2.2.2.2.2.2.2.2.2.2.2.2.2.1 ?_
      refine g_aload_n 0 67 dX9_feed_66 rfl rfl ?_
      refine g_getI 70 dX9_feed_67 rfl flX9_157 s0.1 ?_
      refine g_iload 1 72 dX9_feed_70 rfl rfl ?_
      refine g_iadd 73 dX9_feed_72 rfl ?_
      refine g_aload_n 0 74 dX9_feed_73 rfl rfl ?_
      refine g_getR 77 (a0 + 8) dX9_feed_74 rfl flX9_48 s0.1 s0.2.2.2.2.2.2.2.2.2.2.2.2.2.2.2.1 ?_
      refine g_iload 1 79 dX9_feed_77 rfl rfl ?_
      refine g_iconst (4) 80 dX9_feed_79 rfl rfl ?_
      refine g_idiv 81 dX9_feed_80 rfl (by decide) ?_
      obtain ⟨b1, H⟩ := H
      refine h_iaload 82 ((x6 / 4)).toNatClampNeg dX9_feed_81 rfl rfl s0.2.2.2.2.2.2.2.2.2.2.2.2.2.2.2.2.1 b1 ?_
      refine g_bipush (24) 84 dX9_feed_82 rfl rfl ?_
      refine g_bipush (8) 86 dX9_feed_84 rfl rfl ?_
      refine g_iload 1 88 dX9_feed_86 rfl rfl ?_
      refine g_iconst (4) 89 dX9_feed_88 rfl rfl ?_
      refine h_irem 90 dX9_feed_89 rfl (by decide) ?_
      refine g_imul 91 dX9_feed_90 rfl ?_
      refine g_isub 92 dX9_feed_91 rfl ?_
      refine g_ishr 93 dX9_feed_92 rfl ?_
      refine g_i2b 94 dX9_feed_93 rfl ?_
      obtain ⟨b2, H⟩ := H
      obtain ⟨b3, H⟩ := H
      refine h_bastore 95 (((g_mi M a0 13) + x6)).toNatClampNeg dX9_feed_94 rfl rfl s0.2.2.2.2.2.2.2.2.2.2.2.2.2.2.1 b2 b3 ?_
      generalize hM2 : (g_wi M (a0 + 7) (((g_mi M a0 13) + x6)).toNatClampNeg ((((g_mi M (a0 + 8) ((x6 / 4)).toNatClampNeg) >>> ((24 - (8 * (i_rm x6 4))) &&& 31)) : Int32).toInt8.toInt32)) = M2
      have j2 : Sm M M2 := by rw [← hM2]; exact (Sm.wi Sm.rf)
      replace H := H M2 hM2.symm
      refine g_iinc _ 1 98 [(6, .int ((x6 + 1))), (0, .ref a0)] dX9_feed_95 rfl rfl rfl (Nat.le_of_ble_eq_true rfl) rfl ?_
      refine g_goto 55 dX9_feed_98 rfl ?_
      exact g_sub [1, 0] _ rfl (ih M2 a0 (x6 + 1) (Mo.sm j2 s0) H (fun v M1 j r => hR v M1 (Sm.tr j2 j) r))
set_option maxRecDepth 10000 in
theorem uX9_feed {N K : Nat} {X : gX} {d mc ms : Nat} {Q : Option Value → gM → Prop} {M : gM} {a0 : Nat} {x1 : Int32} {x2 : Int32} {x3 : Int32} {x4 : Int32} {x5 : Int32} {R : Int32 → gM → Prop} (s0 : Mo M a0) (H : pX9_feed N K M a0 x1 x2 x3 x4 x5 R) (hR : ∀ (v : Int32) (M1 : gM), Sm M M1 → R v M1 → Q (some (.int v)) M1) : Cn X d mc ms kX9_feed [.ref a0, .int (x1), .int (x2), .int (x3), .int (x4), .int (x5)] M Q := by
  have ih := ulX9_feed (X := X) (d := d) (mc := mc) (ms := ms) (Q := Q) (N := N) (K := K) (R := R) N
  unfold pX9_feed pX9_feed_0 at H
  refine g_meth rfl rfl (Nat.le_of_ble_eq_true rfl) rfl ?_
  refine g_aload_n 0 1 dX9_feed_0 rfl rfl ?_
  refine g_getI 4 dX9_feed_1 rfl flX9_157 s0.1 ?_
  refine g_bipush (20) 6 dX9_feed_4 rfl rfl ?_
  refine g_iadd 7 dX9_feed_6 rfl ?_
  refine g_sipush (400) 10 dX9_feed_7 rfl rfl ?_
  refine g_icmp_le 15 13 dX9_feed_10 rfl rfl (fun c1 => ?_) (fun c1 => ?_)
  · skip
    replace H := H.1 c1
    refine g_aload_n 0 16 dX9_feed_15 rfl rfl ?_
    refine g_getR 19 (a0 + 8) dX9_feed_16 rfl flX9_48 s0.1 s0.2.2.2.2.2.2.2.2.2.2.2.2.2.2.2.1 ?_
    refine g_iconst (0) 20 dX9_feed_19 rfl rfl ?_
    refine g_iload_n 1 21 dX9_feed_20 rfl rfl ?_
    refine h_iastore 22 0 dX9_feed_21 rfl rfl s0.2.2.2.2.2.2.2.2.2.2.2.2.2.2.2.2.1 (vp_lit rfl) ?_
    generalize hM1 : (g_wi M (a0 + 8) 0 x1) = M1
    have j1 : Sm M M1 := by rw [← hM1]; exact (Sm.wi Sm.rf)
    replace H := H M1 hM1.symm
    refine g_aload_n 0 23 dX9_feed_22 rfl rfl ?_
    refine g_getR 26 (a0 + 8) dX9_feed_23 rfl flX9_48 (Sm.k j1 s0.1) (Sm.r j1 s0.2.2.2.2.2.2.2.2.2.2.2.2.2.2.2.1) ?_
    refine g_iconst (1) 27 dX9_feed_26 rfl rfl ?_
    refine g_iload_n 2 28 dX9_feed_27 rfl rfl ?_
    refine h_iastore 29 1 dX9_feed_28 rfl rfl (Sm.k j1 s0.2.2.2.2.2.2.2.2.2.2.2.2.2.2.2.2.1) (vp_lit rfl) ?_
    generalize hM2 : (g_wi M1 (a0 + 8) 1 x2) = M2
    have j2 : Sm M M2 := by rw [← hM2]; exact (Sm.wi j1)
    replace H := H M2 hM2.symm
    refine g_aload_n 0 30 dX9_feed_29 rfl rfl ?_
    refine g_getR 33 (a0 + 8) dX9_feed_30 rfl flX9_48 (Sm.k j2 s0.1) (Sm.r j2 s0.2.2.2.2.2.2.2.2.2.2.2.2.2.2.2.1) ?_
    refine g_iconst (2) 34 dX9_feed_33 rfl rfl ?_
    refine g_iload_n 3 35 dX9_feed_34 rfl rfl ?_
    refine h_iastore 36 2 dX9_feed_35 rfl rfl (Sm.k j2 s0.2.2.2.2.2.2.2.2.2.2.2.2.2.2.2.2.1) (vp_lit rfl) ?_
    generalize hM3 : (g_wi M2 (a0 + 8) 2 x3) = M3
    have j3 : Sm M M3 := by rw [← hM3]; exact (Sm.wi j2)
    replace H := H M3 hM3.symm
    refine g_aload_n 0 37 dX9_feed_36 rfl rfl ?_
    refine g_getR 40 (a0 + 8) dX9_feed_37 rfl flX9_48 (Sm.k j3 s0.1) (Sm.r j3 s0.2.2.2.2.2.2.2.2.2.2.2.2.2.2.2.1) ?_
    refine g_iconst (3) 41 dX9_feed_40 rfl rfl ?_
    refine g_iload 4 43 dX9_feed_41 rfl rfl ?_
    refine h_iastore 44 3 dX9_feed_43 rfl rfl (Sm.k j3 s0.2.2.2.2.2.2.2.2.2.2.2.2.2.2.2.2.1) (vp_lit rfl) ?_
    generalize hM4 : (g_wi M3 (a0 + 8) 3 x4) = M4
    have j4 : Sm M M4 := by rw [← hM4]; exact (Sm.wi j3)
    replace H := H M4 hM4.symm
    refine g_aload_n 0 45 dX9_feed_44 rfl rfl ?_
    refine g_getR 48 (a0 + 8) dX9_feed_45 rfl flX9_48 (Sm.k j4 s0.1) (Sm.r j4 s0.2.2.2.2.2.2.2.2.2.2.2.2.2.2.2.1) ?_
    refine g_iconst (4) 49 dX9_feed_48 rfl rfl ?_
    refine g_iload 5 51 dX9_feed_49 rfl rfl ?_
    refine h_iastore 52 4 dX9_feed_51 rfl rfl (Sm.k j4 s0.2.2.2.2.2.2.2.2.2.2.2.2.2.2.2.2.1) (vp_lit rfl) ?_
    generalize hM5 : (g_wi M4 (a0 + 8) 4 x5) = M5
    have j5 : Sm M M5 := by rw [← hM5]; exact (Sm.wi j4)
    replace H := H M5 hM5.symm
    refine g_iconst (0) 53 dX9_feed_52 rfl rfl ?_
    refine g_istore 55 [(6, .int (0)), (0, .ref a0), (1, .int (x1)), (2, .int (x2)), (3, .int (x3)), (4, .int (x4)), (5, .int (x5))] dX9_feed_53 rfl (Nat.le_of_ble_eq_true rfl) rfl ?_
    exact g_sub [1, 0] _ rfl (ih M5 a0 0 (Mo.sm j5 s0) H (fun v M1 j r => hR v M1 (Sm.tr j5 j) r))
  · skip
    replace H := H.2 c1
    refine g_iconst ((-1)) 14 dX9_feed_13 rfl rfl ?_
    exact g_iret dX9_feed_14 rfl (Nat.zero_le _) (Nat.zero_le _) (hR _ _ Sm.rf H)
/-! X9_wordOf -/
def pX9_wordOf_0 (N K : Nat) (kp : Nat → gM → Nat → Int32 → Int32 → Int32 → Int32 → Int32 → Int32 → Int32 → Prop) (R : Int32 → Prop) (M : gM) (a0 : Nat) (x1 : Int32) (x2 : Int32) : Prop := kp 0 M a0 x1 x2 1 0 0 0 0
def pX9_wordOf_5 (N K : Nat) (kp : Nat → gM → Nat → Int32 → Int32 → Int32 → Int32 → Int32 → Int32 → Int32 → Prop) (R : Int32 → Prop) (M : gM) (a0 : Nat) (x1 : Int32) (x2 : Int32) (x3 : Int32) (x4 : Int32) : Prop := ((113 ≤ x4 → R 0) ∧ (¬ 113 ≤ x4 → kp 1 M a0 x1 x2 x3 x4 0 0 0))
def pX9_wordOf_18 (N K : Nat) (kp : Nat → gM → Nat → Int32 → Int32 → Int32 → Int32 → Int32 → Int32 → Int32 → Prop) (R : Int32 → Prop) (M : gM) (a0 : Nat) (x1 : Int32) (x2 : Int32) (x3 : Int32) (x4 : Int32) (x5 : Int32) : Prop := (vp_in ((x4 + x5)) 113) ∧ (((g_mi M (a0 + 6) ((x4 + x5)).toNatClampNeg) = 32 → ((¬ x5 = (x2 - x1) → kp 2 M a0 x1 x2 x3 x4 x5 0 0) ∧ (x5 = (x2 - x1) → kp 2 M a0 x1 x2 x3 x4 x5 1 0))) ∧ (¬ (g_mi M (a0 + 6) ((x4 + x5)).toNatClampNeg) = 32 → kp 1 M a0 x1 x2 x3 x4 (x5 + 1) 0 0))
def pX9_wordOf_57 (N K : Nat) (kp : Nat → gM → Nat → Int32 → Int32 → Int32 → Int32 → Int32 → Int32 → Int32 → Prop) (R : Int32 → Prop) (M : gM) (a0 : Nat) (x1 : Int32) (x2 : Int32) (x3 : Int32) (x4 : Int32) (x5 : Int32) (x6 : Int32) (x7 : Int32) : Prop := ((x5 ≤ x7 → ((x6 = 0 → kp 0 M a0 x1 x2 (x3 + 1) (x4 + (x5 + 1)) 0 0 0) ∧ (¬ x6 = 0 → R x3))) ∧ (¬ x5 ≤ x7 → ((x6 = 0 → kp 0 M a0 x1 x2 (x3 + 1) (x4 + (x5 + 1)) 0 0 0) ∧ (¬ x6 = 0 → (vp_in ((x4 + x7)) 113) ∧ (vp_in ((x1 + x7)) 400) ∧ ((¬ (g_mi M (a0 + 6) ((x4 + x7)).toNatClampNeg) = (g_mi M (a0 + 7) ((x1 + x7)).toNatClampNeg) → kp 2 M a0 x1 x2 x3 x4 x5 0 (x7 + 1)) ∧ ((g_mi M (a0 + 6) ((x4 + x7)).toNatClampNeg) = (g_mi M (a0 + 7) ((x1 + x7)).toNatClampNeg) → kp 2 M a0 x1 x2 x3 x4 x5 1 (x7 + 1)))))))
def qX9_wordOf (N K : Nat) (R : Int32 → Prop) : Nat → Nat → gM → Nat → Int32 → Int32 → Int32 → Int32 → Int32 → Int32 → Int32 → Prop
  | 0, _, _, _, _, _, _, _, _, _, _ => False
  | n + 1, h, M, a0, x1, x2, x3, x4, x5, x6, x7 => if h = 0 then pX9_wordOf_5 N K (qX9_wordOf N K R n) R M a0 x1 x2 x3 x4 else if h = 1 then pX9_wordOf_18 N K (qX9_wordOf N K R n) R M a0 x1 x2 x3 x4 x5 else pX9_wordOf_57 N K (qX9_wordOf N K R n) R M a0 x1 x2 x3 x4 x5 x6 x7
def pX9_wordOf (N K : Nat) (M : gM) (a0 : Nat) (x1 : Int32) (x2 : Int32) (R : Int32 → Prop) : Prop := pX9_wordOf_0 N K (qX9_wordOf N K R N) R M a0 x1 x2
def ULX9_wordOf (X : gX) (d mc ms : Nat) (Q : Option Value → gM → Prop) (N K : Nat) (R : Int32 → Prop) (n : Nat) : Prop := (∀ (M : gM) (a0 : Nat) (x1 : Int32) (x2 : Int32) (x3 : Int32) (x4 : Int32) (x5 : Int32) (x6 : Int32) (x7 : Int32), Mo M a0 → qX9_wordOf N K R n 0 M a0 x1 x2 x3 x4 x5 x6 x7 → (∀ (v : Int32), R v → Q (some (.int v)) M) → Go X d mc ms kX9_wordOf Q 5 [(0, .ref a0), (1, .int (x1)), (2, .int (x2)), (3, .int (x3)), (4, .int (x4))] [] M 0 0) ∧ (∀ (M : gM) (a0 : Nat) (x1 : Int32) (x2 : Int32) (x3 : Int32) (x4 : Int32) (x5 : Int32) (x6 : Int32) (x7 : Int32), Mo M a0 → qX9_wordOf N K R n 1 M a0 x1 x2 x3 x4 x5 x6 x7 → (∀ (v : Int32), R v → Q (some (.int v)) M) → Go X d mc ms kX9_wordOf Q 18 [(0, .ref a0), (1, .int (x1)), (2, .int (x2)), (3, .int (x3)), (4, .int (x4)), (5, .int (x5))] [] M 0 0) ∧ (∀ (M : gM) (a0 : Nat) (x1 : Int32) (x2 : Int32) (x3 : Int32) (x4 : Int32) (x5 : Int32) (x6 : Int32) (x7 : Int32), Mo M a0 → qX9_wordOf N K R n 2 M a0 x1 x2 x3 x4 x5 x6 x7 → (∀ (v : Int32), R v → Q (some (.int v)) M) → Go X d mc ms kX9_wordOf Q 57 [(0, .ref a0), (1, .int (x1)), (2, .int (x2)), (3, .int (x3)), (4, .int (x4)), (5, .int (x5)), (6, .int (x6)), (7, .int (x7))] [] M 0 0)
set_option maxRecDepth 10000 in
theorem ulX9_wordOf {X : gX} {d mc ms : Nat} {Q : Option Value → gM → Prop} {N K : Nat} {R : Int32 → Prop} : ∀ n : Nat, ULX9_wordOf X d mc ms Q N K R n := by
  intro n
  induction n with
  | zero => exact ⟨fun _ _ _ _ _ _ _ _ _ _ h _ => h.elim, fun _ _ _ _ _ _ _ _ _ _ h _ => h.elim, fun _ _ _ _ _ _ _ _ _ _ h _ => h.elim⟩
  | succ n ih =>
    refine ⟨?_, ?_, ?_⟩
    · intro M a0 x1 x2 x3 x4 x5 x6 x7 s0 H hR
      rw [qX9_wordOf, if_pos (show (0 : Nat) = 0 from rfl)] at H
      unfold pX9_wordOf_5 at H
      refine g_iload 4 7 dX9_wordOf_5 rfl rfl ?_
      refine g_aload_n 0 8 dX9_wordOf_7 rfl rfl ?_
      refine g_getR 11 (a0 + 6) dX9_wordOf_8 rfl flX9_41 s0.1 s0.2.2.2.2.2.2.2.2.2.2.2.1 ?_
      refine g_alen (t := 1) 12 dX9_wordOf_11 rfl s0.2.2.2.2.2.2.2.2.2.2.2.2.1 (by decide) rfl ?_
      refine g_icmp_ge 126 15 dX9_wordOf_12 rfl rfl (fun c1 => ?_) (fun c1 => ?_)
      · skip
        replace H := H.1 c1
        refine g_iconst (0) 127 dX9_wordOf_126 rfl rfl ?_
        exact g_iret dX9_wordOf_127 rfl (Nat.zero_le _) (Nat.zero_le _) (hR _ H)
      · skip
        replace H := H.2 c1
        refine g_iconst (0) 16 dX9_wordOf_15 rfl rfl ?_
        refine g_istore 18 [(5, .int (0)), (0, .ref a0), (1, .int (x1)), (2, .int (x2)), (3, .int (x3)), (4, .int (x4))] dX9_wordOf_16 rfl (Nat.le_of_ble_eq_true rfl) rfl ?_
        exact g_sub [1, 2, 3, 4, 5, 0] _ rfl (ih.2.1 M a0 x1 x2 x3 x4 0 0 0 s0 H (fun v r => hR v r))
    · intro M a0 x1 x2 x3 x4 x5 x6 x7 s0 H hR
      rw [qX9_wordOf, if_neg (show ¬ (1 : Nat) = 0 by decide), if_pos (show (1 : Nat) = 1 from rfl)] at H
      unfold pX9_wordOf_18 at H
      refine g_aload_n 0 19 dX9_wordOf_18 rfl rfl ?_
      refine g_getR 22 (a0 + 6) dX9_wordOf_19 rfl flX9_41 s0.1 s0.2.2.2.2.2.2.2.2.2.2.2.1 ?_
      refine g_iload 4 24 dX9_wordOf_22 rfl rfl ?_
      refine g_iload 5 26 dX9_wordOf_24 rfl rfl ?_
      refine g_iadd 27 dX9_wordOf_26 rfl ?_
      obtain ⟨b1, H⟩ := H
      refine h_baload 28 ((x4 + x5)).toNatClampNeg dX9_wordOf_27 rfl rfl s0.2.2.2.2.2.2.2.2.2.2.2.2.1 b1 ?_
      refine g_bipush (32) 30 dX9_wordOf_28 rfl rfl ?_
      refine g_icmp_eq 39 33 dX9_wordOf_30 rfl rfl (fun c1 => ?_) (fun c1 => ?_)
      · skip
        replace H := H.1 c1
        refine g_iload 5 41 dX9_wordOf_39 rfl rfl ?_
        refine g_iload_n 2 42 dX9_wordOf_41 rfl rfl ?_
        refine g_iload_n 1 43 dX9_wordOf_42 rfl rfl ?_
        refine g_isub 44 dX9_wordOf_43 rfl ?_
        refine g_icmp_ne 51 47 dX9_wordOf_44 rfl rfl (fun c2 => ?_) (fun c2 => ?_)
        · skip
          replace H := H.1 c2
          refine g_iconst (0) 52 dX9_wordOf_51 rfl rfl ?_
          refine g_istore 54 [(6, .int (0)), (0, .ref a0), (1, .int (x1)), (2, .int (x2)), (3, .int (x3)), (4, .int (x4)), (5, .int (x5))] dX9_wordOf_52 rfl (Nat.le_of_ble_eq_true rfl) rfl ?_
          refine g_iconst (0) 55 dX9_wordOf_54 rfl rfl ?_
          refine g_istore 57 [(7, .int (0)), (6, .int (0)), (0, .ref a0), (1, .int (x1)), (2, .int (x2)), (3, .int (x3)), (4, .int (x4)), (5, .int (x5))] dX9_wordOf_55 rfl (Nat.le_of_ble_eq_true rfl) rfl ?_
          exact g_sub [2, 3, 4, 5, 6, 7, 1, 0] _ rfl (ih.2.2 M a0 x1 x2 x3 x4 x5 0 0 s0 H (fun v r => hR v r))
        · skip
          replace H := H.2 c2
          refine g_iconst (1) 48 dX9_wordOf_47 rfl rfl ?_
          refine g_goto 52 dX9_wordOf_48 rfl ?_
          refine g_istore 54 [(6, .int (1)), (0, .ref a0), (1, .int (x1)), (2, .int (x2)), (3, .int (x3)), (4, .int (x4)), (5, .int (x5))] dX9_wordOf_52 rfl (Nat.le_of_ble_eq_true rfl) rfl ?_
          refine g_iconst (0) 55 dX9_wordOf_54 rfl rfl ?_
          refine g_istore 57 [(7, .int (0)), (6, .int (1)), (0, .ref a0), (1, .int (x1)), (2, .int (x2)), (3, .int (x3)), (4, .int (x4)), (5, .int (x5))] dX9_wordOf_55 rfl (Nat.le_of_ble_eq_true rfl) rfl ?_
          exact g_sub [2, 3, 4, 5, 6, 7, 1, 0] _ rfl (ih.2.2 M a0 x1 x2 x3 x4 x5 1 0 s0 H (fun v r => hR v r))
      · skip
        replace H := H.2 c1
        refine g_iinc _ 5 36 [(5, .int ((x5 + 1))), (0, .ref a0), (1, .int (x1)), (2, .int (x2)), (3, .int (x3)), (4, .int (x4))] dX9_wordOf_33 rfl rfl rfl (Nat.le_of_ble_eq_true rfl) rfl ?_
        refine g_goto 18 dX9_wordOf_36 rfl ?_
        exact g_sub [1, 2, 3, 4, 5, 0] _ rfl (ih.2.1 M a0 x1 x2 x3 x4 (x5 + 1) 0 0 s0 H (fun v r => hR v r))
    · intro M a0 x1 x2 x3 x4 x5 x6 x7 s0 H hR
      rw [qX9_wordOf, if_neg (show ¬ (2 : Nat) = 0 by decide), if_neg (show ¬ (2 : Nat) = 1 by decide)] at H
      unfold pX9_wordOf_57 at H
      refine g_iload 7 59 dX9_wordOf_57 rfl rfl ?_
      refine g_iload 5 61 dX9_wordOf_59 rfl rfl ?_
      refine g_icmp_ge 104 64 dX9_wordOf_61 rfl rfl (fun c1 => ?_) (fun c1 => ?_)
      · skip
        replace H := H.1 c1
        refine g_iload 6 106 dX9_wordOf_104 rfl rfl ?_
        refine g_if_eq 111 109 dX9_wordOf_106 rfl rfl (fun c2 => ?_) (fun c2 => ?_)
        · skip
          replace H := H.1 c2
          refine g_iload 4 113 dX9_wordOf_111 rfl rfl ?_
          refine g_iload 5 115 dX9_wordOf_113 rfl rfl ?_
          refine g_iconst (1) 116 dX9_wordOf_115 rfl rfl ?_
          refine g_iadd 117 dX9_wordOf_116 rfl ?_
          refine g_iadd 118 dX9_wordOf_117 rfl ?_
          refine g_istore 120 [(4, .int ((x4 + (x5 + 1)))), (0, .ref a0), (1, .int (x1)), (2, .int (x2)), (3, .int (x3)), (5, .int (x5)), (6, .int (x6)), (7, .int (x7))] dX9_wordOf_118 rfl (Nat.le_of_ble_eq_true rfl) rfl ?_
          refine g_iinc _ 4 123 [(3, .int ((x3 + 1))), (4, .int ((x4 + (x5 + 1)))), (0, .ref a0), (1, .int (x1)), (2, .int (x2)), (5, .int (x5)), (6, .int (x6)), (7, .int (x7))] dX9_wordOf_120 rfl rfl rfl (Nat.le_of_ble_eq_true rfl) rfl ?_
          refine g_goto 5 dX9_wordOf_123 rfl ?_
          exact g_sub [2, 3, 4, 0, 1] _ rfl (ih.1 M a0 x1 x2 (x3 + 1) (x4 + (x5 + 1)) 0 0 0 s0 H (fun v r => hR v r))
        · skip
          replace H := H.2 c2
          refine g_iload_n 3 110 dX9_wordOf_109 rfl rfl ?_
          exact g_iret dX9_wordOf_110 rfl (Nat.zero_le _) (Nat.zero_le _) (hR _ H)
      · skip
        replace H := H.2 c1
        refine g_iload 6 66 dX9_wordOf_64 rfl rfl ?_
        refine g_if_eq 104 69 dX9_wordOf_66 rfl rfl (fun c3 => ?_) (fun c3 => ?_)
        · skip
          replace H := H.1 c3
          refine g_iload 6 106 dX9_wordOf_104 rfl rfl ?_
          refine g_if_eq 111 109 dX9_wordOf_106 rfl rfl (fun _ => ?_) (fun q => absurd c3 q)
          refine g_iload 4 113 dX9_wordOf_111 rfl rfl ?_
          refine g_iload 5 115 dX9_wordOf_113 rfl rfl ?_
          refine g_iconst (1) 116 dX9_wordOf_115 rfl rfl ?_
          refine g_iadd 117 dX9_wordOf_116 rfl ?_
          refine g_iadd 118 dX9_wordOf_117 rfl ?_
          refine g_istore 120 [(4, .int ((x4 + (x5 + 1)))), (0, .ref a0), (1, .int (x1)), (2, .int (x2)), (3, .int (x3)), (5, .int (x5)), (6, .int (x6)), (7, .int (x7))] dX9_wordOf_118 rfl (Nat.le_of_ble_eq_true rfl) rfl ?_
          refine g_iinc _ 4 123 [(3, .int ((x3 + 1))), (4, .int ((x4 + (x5 + 1)))), (0, .ref a0), (1, .int (x1)), (2, .int (x2)), (5, .int (x5)), (6, .int (x6)), (7, .int (x7))] dX9_wordOf_120 rfl rfl rfl (Nat.le_of_ble_eq_true rfl) rfl ?_
          refine g_goto 5 dX9_wordOf_123 rfl ?_
          exact g_sub [2, 3, 4, 0, 1] _ rfl (ih.1 M a0 x1 x2 (x3 + 1) (x4 + (x5 + 1)) 0 0 0 s0 H (fun v r => hR v r))
        · skip
          replace H := H.2 c3
          refine g_aload_n 0 70 dX9_wordOf_69 rfl rfl ?_
          refine g_getR 73 (a0 + 6) dX9_wordOf_70 rfl flX9_41 s0.1 s0.2.2.2.2.2.2.2.2.2.2.2.1 ?_
          refine g_iload 4 75 dX9_wordOf_73 rfl rfl ?_
          refine g_iload 7 77 dX9_wordOf_75 rfl rfl ?_
          refine g_iadd 78 dX9_wordOf_77 rfl ?_
          obtain ⟨b1, H⟩ := H
          refine h_baload 79 ((x4 + x7)).toNatClampNeg dX9_wordOf_78 rfl rfl s0.2.2.2.2.2.2.2.2.2.2.2.2.1 b1 ?_
          refine g_aload_n 0 80 dX9_wordOf_79 rfl rfl ?_
          refine g_getR 83 (a0 + 7) dX9_wordOf_80 rfl flX9_45 s0.1 s0.2.2.2.2.2.2.2.2.2.2.2.2.2.1 ?_
          refine g_iload_n 1 84 dX9_wordOf_83 rfl rfl ?_
          refine g_iload 7 86 dX9_wordOf_84 rfl rfl ?_
          refine g_iadd 87 dX9_wordOf_86 rfl ?_
          obtain ⟨b2, H⟩ := H
          refine h_baload 88 ((x1 + x7)).toNatClampNeg dX9_wordOf_87 rfl rfl s0.2.2.2.2.2.2.2.2.2.2.2.2.2.2.1 b2 ?_
          refine g_icmp_ne 95 91 dX9_wordOf_88 rfl rfl (fun c4 => ?_) (fun c4 => ?_)
          · skip
            replace H := H.1 c4
            refine g_iconst (0) 96 dX9_wordOf_95 rfl rfl ?_
            refine g_istore 98 [(6, .int (0)), (0, .ref a0), (1, .int (x1)), (2, .int (x2)), (3, .int (x3)), (4, .int (x4)), (5, .int (x5)), (7, .int (x7))] dX9_wordOf_96 rfl (Nat.le_of_ble_eq_true rfl) rfl ?_
            refine g_iinc _ 7 101 [(7, .int ((x7 + 1))), (6, .int (0)), (0, .ref a0), (1, .int (x1)), (2, .int (x2)), (3, .int (x3)), (4, .int (x4)), (5, .int (x5))] dX9_wordOf_98 rfl rfl rfl (Nat.le_of_ble_eq_true rfl) rfl ?_
            refine g_goto 57 dX9_wordOf_101 rfl ?_
            exact g_sub [2, 3, 4, 5, 6, 7, 1, 0] _ rfl (ih.2.2 M a0 x1 x2 x3 x4 x5 0 (x7 + 1) s0 H (fun v r => hR v r))
          · skip
            replace H := H.2 c4
            refine g_iconst (1) 92 dX9_wordOf_91 rfl rfl ?_
            refine g_goto 96 dX9_wordOf_92 rfl ?_
            refine g_istore 98 [(6, .int (1)), (0, .ref a0), (1, .int (x1)), (2, .int (x2)), (3, .int (x3)), (4, .int (x4)), (5, .int (x5)), (7, .int (x7))] dX9_wordOf_96 rfl (Nat.le_of_ble_eq_true rfl) rfl ?_
            refine g_iinc _ 7 101 [(7, .int ((x7 + 1))), (6, .int (1)), (0, .ref a0), (1, .int (x1)), (2, .int (x2)), (3, .int (x3)), (4, .int (x4)), (5, .int (x5))] dX9_wordOf_98 rfl rfl rfl (Nat.le_of_ble_eq_true rfl) rfl ?_
            refine g_goto 57 dX9_wordOf_101 rfl ?_
            exact g_sub [2, 3, 4, 5, 6, 7, 1, 0] _ rfl (ih.2.2 M a0 x1 x2 x3 x4 x5 1 (x7 + 1) s0 H (fun v r => hR v r))
set_option maxRecDepth 10000 in
theorem uX9_wordOf {N K : Nat} {X : gX} {d mc ms : Nat} {Q : Option Value → gM → Prop} {M : gM} {a0 : Nat} {x1 : Int32} {x2 : Int32} {R : Int32 → Prop} (s0 : Mo M a0) (H : pX9_wordOf N K M a0 x1 x2 R) (hR : ∀ (v : Int32), R v → Q (some (.int v)) M) : Cn X d mc ms kX9_wordOf [.ref a0, .int (x1), .int (x2)] M Q := by
  have ih := ulX9_wordOf (X := X) (d := d) (mc := mc) (ms := ms) (Q := Q) (N := N) (K := K) (R := R) N
  unfold pX9_wordOf pX9_wordOf_0 at H
  refine g_meth rfl rfl (Nat.le_of_ble_eq_true rfl) rfl ?_
  refine g_iconst (1) 1 dX9_wordOf_0 rfl rfl ?_
  refine g_istore_n 2 [(3, .int (1)), (0, .ref a0), (1, .int (x1)), (2, .int (x2))] dX9_wordOf_1 rfl (Nat.le_of_ble_eq_true rfl) rfl ?_
  refine g_iconst (0) 3 dX9_wordOf_2 rfl rfl ?_
  refine g_istore 5 [(4, .int (0)), (3, .int (1)), (0, .ref a0), (1, .int (x1)), (2, .int (x2))] dX9_wordOf_3 rfl (Nat.le_of_ble_eq_true rfl) rfl ?_
  exact g_sub [2, 3, 4, 1, 0] _ rfl (ih.1 M a0 x1 x2 1 0 0 0 0 s0 H (fun v r => hR v r))
/-! X9_few -/
def pX9_few_0 (N K : Nat) (kp : Nat → gM → Nat → Int32 → Int32 → Int32 → Int32 → Int64 → Int32 → Prop) (R : Int64 → gM → Prop) (M : gM) (a0 : Nat) (x1 : Int32) (x2 : Int32) : Prop := ∀ v1 : Int32, v1 = (fX9_lies x1 1 20) → ((v1 = 0 → R (-1) M) ∧ (¬ v1 = 0 → ∀ v2 : Int32, v2 = (fX9_lies x2 0 99) → ((¬ v2 = 0 → kp 0 M a0 x1 x2 0 0 0 0) ∧ (v2 = 0 → R (-1) M))))
def pX9_few_26 (N K : Nat) (kp : Nat → gM → Nat → Int32 → Int32 → Int32 → Int32 → Int64 → Int32 → Prop) (R : Int64 → gM → Prop) (M : gM) (a0 : Nat) (x1 : Int32) (x2 : Int32) (x3 : Int32) : Prop := ((20 < x3 → kp 1 M a0 x1 x2 0 0 0 0) ∧ (¬ 20 < x3 → ((¬ x3 = 0 → (vp_in (x3) 21) ∧ ∀ M1 : gM, M1 = (g_wl M (a0 + 21) (x3).toNatClampNeg 0) → kp 0 M1 a0 x1 x2 (x3 + 1) 0 0 0) ∧ (x3 = 0 → (vp_in (x3) 21) ∧ ∀ M2 : gM, M2 = (g_wl M (a0 + 21) (x3).toNatClampNeg 1000000000000) → kp 0 M2 a0 x1 x2 (x3 + 1) 0 0 0))))
def pX9_few_57 (N K : Nat) (kp : Nat → gM → Nat → Int32 → Int32 → Int32 → Int32 → Int64 → Int32 → Prop) (R : Int64 → gM → Prop) (M : gM) (a0 : Nat) (x1 : Int32) (x2 : Int32) (x3 : Int32) : Prop := ((x2 ≤ x3 → kp 3 M a0 x1 0 0 0 0 0) ∧ (¬ x2 ≤ x3 → kp 2 M a0 x1 x2 x3 (x1 - 1) 0 0))
def pX9_few_67 (N K : Nat) (kp : Nat → gM → Nat → Int32 → Int32 → Int32 → Int32 → Int64 → Int32 → Prop) (R : Int64 → gM → Prop) (M : gM) (a0 : Nat) (x1 : Int32) (x2 : Int32) (x3 : Int32) (x4 : Int32) : Prop := ((x4 < 0 → kp 1 M a0 x1 x2 (x3 + 1) 0 0 0) ∧ (¬ x4 < 0 → (vp_in ((x4 + 1)) 21) ∧ (vp_in (x4) 21) ∧ ∀ M1 : gM, M1 = (g_wl M (a0 + 21) ((x4 + 1)).toNatClampNeg ((g_ml M (a0 + 21) ((x4 + 1)).toNatClampNeg) + (((g_ml M (a0 + 21) (x4).toNatClampNeg) * (((g_mi M (a0 + 2) 200) : Int32).toInt64)) / 10))) → (vp_in (x4) 21) ∧ ∀ M2 : gM, M2 = (g_wl M1 (a0 + 21) (x4).toNatClampNeg (((g_ml M1 (a0 + 21) (x4).toNatClampNeg) * (((10 - (g_mi M1 (a0 + 2) 200)) : Int32).toInt64)) / 10)) → kp 2 M2 a0 x1 x2 x3 (x4 + (-1)) 0 0))
def pX9_few_153 (N K : Nat) (kp : Nat → gM → Nat → Int32 → Int32 → Int32 → Int32 → Int64 → Int32 → Prop) (R : Int64 → gM → Prop) (M : gM) (a0 : Nat) (x1 : Int32) (y3 : Int64) (x5 : Int32) : Prop := ((x1 ≤ x5 → R y3 M) ∧ (¬ x1 ≤ x5 → (vp_in (x5) 21) ∧ kp 3 M a0 x1 0 0 0 (y3 + (g_ml M (a0 + 21) (x5).toNatClampNeg)) (x5 + 1)))
def qX9_few (N K : Nat) (R : Int64 → gM → Prop) : Nat → Nat → gM → Nat → Int32 → Int32 → Int32 → Int32 → Int64 → Int32 → Prop
  | 0, _, _, _, _, _, _, _, _, _ => False
  | n + 1, h, M, a0, x1, x2, x3, x4, y3, x5 => if h = 0 then pX9_few_26 N K (qX9_few N K R n) R M a0 x1 x2 x3 else if h = 1 then pX9_few_57 N K (qX9_few N K R n) R M a0 x1 x2 x3 else if h = 2 then pX9_few_67 N K (qX9_few N K R n) R M a0 x1 x2 x3 x4 else pX9_few_153 N K (qX9_few N K R n) R M a0 x1 y3 x5
def pX9_few (N K : Nat) (M : gM) (a0 : Nat) (x1 : Int32) (x2 : Int32) (R : Int64 → gM → Prop) : Prop := pX9_few_0 N K (qX9_few N K R N) R M a0 x1 x2
def ULX9_few (X : gX) (d mc ms : Nat) (Q : Option Value → gM → Prop) (N K : Nat) (R : Int64 → gM → Prop) (n : Nat) : Prop := (∀ (M : gM) (a0 : Nat) (x1 : Int32) (x2 : Int32) (x3 : Int32) (x4 : Int32) (y3 : Int64) (x5 : Int32), Mo M a0 → qX9_few N K R n 0 M a0 x1 x2 x3 x4 y3 x5 → (∀ (v : Int64) (M1 : gM), Sl M M1 → R v M1 → Q (some (.long v)) M1) → Go X (d + 1) mc ms kX9_few Q 26 [(0, .ref a0), (1, .int (x1)), (2, .int (x2)), (3, .int (x3))] [] M 0 0) ∧ (∀ (M : gM) (a0 : Nat) (x1 : Int32) (x2 : Int32) (x3 : Int32) (x4 : Int32) (y3 : Int64) (x5 : Int32), Mo M a0 → qX9_few N K R n 1 M a0 x1 x2 x3 x4 y3 x5 → (∀ (v : Int64) (M1 : gM), Sl M M1 → R v M1 → Q (some (.long v)) M1) → Go X (d + 1) mc ms kX9_few Q 57 [(0, .ref a0), (1, .int (x1)), (2, .int (x2)), (3, .int (x3))] [] M 0 0) ∧ (∀ (M : gM) (a0 : Nat) (x1 : Int32) (x2 : Int32) (x3 : Int32) (x4 : Int32) (y3 : Int64) (x5 : Int32), Mo M a0 → qX9_few N K R n 2 M a0 x1 x2 x3 x4 y3 x5 → (∀ (v : Int64) (M1 : gM), Sl M M1 → R v M1 → Q (some (.long v)) M1) → Go X (d + 1) mc ms kX9_few Q 67 [(0, .ref a0), (1, .int (x1)), (2, .int (x2)), (3, .int (x3)), (4, .int (x4))] [] M 0 0) ∧ (∀ (M : gM) (a0 : Nat) (x1 : Int32) (x2 : Int32) (x3 : Int32) (x4 : Int32) (y3 : Int64) (x5 : Int32), Mo M a0 → qX9_few N K R n 3 M a0 x1 x2 x3 x4 y3 x5 → (∀ (v : Int64) (M1 : gM), Sl M M1 → R v M1 → Q (some (.long v)) M1) → Go X (d + 1) mc ms kX9_few Q 153 [(0, .ref a0), (1, .int (x1)), (3, .long (y3)), (5, .int (x5))] [] M 0 0)
set_option maxRecDepth 10000 in
theorem ulX9_few {X : gX} {d mc ms : Nat} {Q : Option Value → gM → Prop} {N K : Nat} {R : Int64 → gM → Prop} : ∀ n : Nat, ULX9_few X d mc ms Q N K R n := by
  intro n
  induction n with
  | zero => exact ⟨fun _ _ _ _ _ _ _ _ _ h _ => h.elim, fun _ _ _ _ _ _ _ _ _ h _ => h.elim, fun _ _ _ _ _ _ _ _ _ h _ => h.elim, fun _ _ _ _ _ _ _ _ _ h _ => h.elim⟩
  | succ n ih =>
    refine ⟨?_, ?_, ?_, ?_⟩
    · intro M a0 x1 x2 x3 x4 y3 x5 s0 H hR
      rw [qX9_few, if_pos (show (0 : Nat) = 0 from rfl)] at H
      unfold pX9_few_26 at H
      refine g_iload_n 3 27 dX9_few_26 rfl rfl ?_
      refine g_bipush (20) 29 dX9_few_27 rfl rfl ?_
      refine g_icmp_gt 55 32 dX9_few_29 rfl rfl (fun c1 => ?_) (fun c1 => ?_)
      · skip
        replace H := H.1 c1
        refine g_iconst (0) 56 dX9_few_55 rfl rfl ?_
        refine g_istore_n 57 [(3, .int (0)), (0, .ref a0), (1, .int (x1)), (2, .int (x2))] dX9_few_56 rfl (Nat.le_of_ble_eq_true rfl) rfl ?_
        exact g_sub [1, 2, 3, 0] _ rfl (ih.2.1 M a0 x1 x2 0 0 0 0 s0 H (fun v M1 j r => hR v M1 j r))
      · skip
        replace H := H.2 c1
        refine g_aload_n 0 33 dX9_few_32 rfl rfl ?_
        refine g_getR 36 (a0 + 21) dX9_few_33 rfl flX9_90 s0.1 s0.2.2.2.2.2.2.2.2.2.2.2.2.2.2.2.2.2.2.2.2.2.2.2.2.2.2.2.2.2.2.2.2.2.2.2.2.2.2.2.2.2.1 ?_
        refine g_iload_n 3 37 dX9_few_36 rfl rfl ?_
        refine g_iload_n 3 38 dX9_few_37 rfl rfl ?_
        refine g_if_ne 47 41 dX9_few_38 rfl rfl (fun c2 => ?_) (fun c2 => ?_)
        · skip
          replace H := H.1 c2
          refine g_lconst (0) 48 dX9_few_47 rfl rfl ?_
          obtain ⟨b1, H⟩ := H
          refine h_lastore 49 (x3).toNatClampNeg dX9_few_48 rfl rfl s0.2.2.2.2.2.2.2.2.2.2.2.2.2.2.2.2.2.2.2.2.2.2.2.2.2.2.2.2.2.2.2.2.2.2.2.2.2.2.2.2.2.2.1 b1 ?_
          generalize hM1 : (g_wl M (a0 + 21) (x3).toNatClampNeg 0) = M1
          have j1 : Sl M M1 := by rw [← hM1]; exact (Sl.wl Sl.rf)
          replace H := H M1 hM1.symm
          refine g_iinc _ 3 52 [(3, .int ((x3 + 1))), (0, .ref a0), (1, .int (x1)), (2, .int (x2))] dX9_few_49 rfl rfl rfl (Nat.le_of_ble_eq_true rfl) rfl ?_
          refine g_goto 26 dX9_few_52 rfl ?_
          exact g_sub [1, 2, 3, 0] _ rfl (ih.1 M1 a0 x1 x2 (x3 + 1) 0 0 0 (Mo.sl j1 s0) H (fun v M1 j r => hR v M1 (Sl.tr j1 j) r))
        · skip
          replace H := H.2 c2
          refine g_ldc2 (1000000000000) 44 dX9_few_41 rfl q7_141 ?_
          refine g_goto 48 dX9_few_44 rfl ?_
          obtain ⟨b2, H⟩ := H
          refine h_lastore 49 (x3).toNatClampNeg dX9_few_48 rfl rfl s0.2.2.2.2.2.2.2.2.2.2.2.2.2.2.2.2.2.2.2.2.2.2.2.2.2.2.2.2.2.2.2.2.2.2.2.2.2.2.2.2.2.2.1 b2 ?_
          generalize hM2 : (g_wl M (a0 + 21) (x3).toNatClampNeg 1000000000000) = M2
          have j2 : Sl M M2 := by rw [← hM2]; exact (Sl.wl Sl.rf)
          replace H := H M2 hM2.symm
          refine g_iinc _ 3 52 [(3, .int ((x3 + 1))), (0, .ref a0), (1, .int (x1)), (2, .int (x2))] dX9_few_49 rfl rfl rfl (Nat.le_of_ble_eq_true rfl) rfl ?_
          refine g_goto 26 dX9_few_52 rfl ?_
          exact g_sub [1, 2, 3, 0] _ rfl (ih.1 M2 a0 x1 x2 (x3 + 1) 0 0 0 (Mo.sl j2 s0) H (fun v M1 j r => hR v M1 (Sl.tr j2 j) r))
    · intro M a0 x1 x2 x3 x4 y3 x5 s0 H hR
      rw [qX9_few, if_neg (show ¬ (1 : Nat) = 0 by decide), if_pos (show (1 : Nat) = 1 from rfl)] at H
      unfold pX9_few_57 at H
      refine g_iload_n 3 58 dX9_few_57 rfl rfl ?_
      refine g_iload_n 2 59 dX9_few_58 rfl rfl ?_
      refine g_icmp_ge 148 62 dX9_few_59 rfl rfl (fun c1 => ?_) (fun c1 => ?_)
      · skip
        replace H := H.1 c1
        refine g_lconst (0) 149 dX9_few_148 rfl rfl ?_
        refine g_lstore_n 150 [(3, .long (0)), (0, .ref a0), (1, .int (x1)), (2, .int (x2))] dX9_few_149 rfl (Nat.le_of_ble_eq_true rfl) rfl ?_
        refine g_iconst (0) 151 dX9_few_150 rfl rfl ?_
        refine g_istore 153 [(5, .int (0)), (3, .long (0)), (0, .ref a0), (1, .int (x1)), (2, .int (x2))] dX9_few_151 rfl (Nat.le_of_ble_eq_true rfl) rfl ?_
        exact g_sub [2, 3, 1, 0] _ rfl (ih.2.2.2 M a0 x1 0 0 0 0 0 s0 H (fun v M1 j r => hR v M1 j r))
      · skip
        replace H := H.2 c1
        refine g_iload_n 1 63 dX9_few_62 rfl rfl ?_
        refine g_iconst (1) 64 dX9_few_63 rfl rfl ?_
        refine g_isub 65 dX9_few_64 rfl ?_
        refine g_istore 67 [(4, .int ((x1 - 1))), (0, .ref a0), (1, .int (x1)), (2, .int (x2)), (3, .int (x3))] dX9_few_65 rfl (Nat.le_of_ble_eq_true rfl) rfl ?_
        exact g_sub [1, 2, 3, 4, 0] _ rfl (ih.2.2.1 M a0 x1 x2 x3 (x1 - 1) 0 0 s0 H (fun v M1 j r => hR v M1 j r))
    · intro M a0 x1 x2 x3 x4 y3 x5 s0 H hR
      rw [qX9_few, if_neg (show ¬ (2 : Nat) = 0 by decide), if_neg (show ¬ (2 : Nat) = 1 by decide), if_pos (show (2 : Nat) = 2 from rfl)] at H
      unfold pX9_few_67 at H
      refine g_iload 4 69 dX9_few_67 rfl rfl ?_
      refine g_if_lt 142 72 dX9_few_69 rfl rfl (fun c1 => ?_) (fun c1 => ?_)
      · skip
        replace H := H.1 c1
        refine g_iinc _ 3 145 [(3, .int ((x3 + 1))), (0, .ref a0), (1, .int (x1)), (2, .int (x2)), (4, .int (x4))] dX9_few_142 rfl rfl rfl (Nat.le_of_ble_eq_true rfl) rfl ?_
        refine g_goto 57 dX9_few_145 rfl ?_
        exact g_sub [1, 2, 3, 0] _ rfl (ih.2.1 M a0 x1 x2 (x3 + 1) 0 0 0 s0 H (fun v M1 j r => hR v M1 j r))
      · skip
        replace H := H.2 c1
        refine g_aload_n 0 73 dX9_few_72 rfl rfl ?_
        refine g_getR 76 (a0 + 21) dX9_few_73 rfl flX9_90 s0.1 s0.2.2.2.2.2.2.2.2.2.2.2.2.2.2.2.2.2.2.2.2.2.2.2.2.2.2.2.2.2.2.2.2.2.2.2.2.2.2.2.2.2.1 ?_
        refine g_iload 4 78 dX9_few_76 rfl rfl ?_
        refine g_iconst (1) 79 dX9_few_78 rfl rfl ?_
        refine g_iadd 80 dX9_few_79 rfl ?_
        refine g_dup2 81 dX9_few_80 rfl rfl rfl ?_
        obtain ⟨b1, H⟩ := H
        refine h_laload 82 ((x4 + 1)).toNatClampNeg dX9_few_81 rfl rfl s0.2.2.2.2.2.2.2.2.2.2.2.2.2.2.2.2.2.2.2.2.2.2.2.2.2.2.2.2.2.2.2.2.2.2.2.2.2.2.2.2.2.2.1 b1 ?_
        refine g_aload_n 0 83 dX9_few_82 rfl rfl ?_
        refine g_getR 86 (a0 + 21) dX9_few_83 rfl flX9_90 s0.1 s0.2.2.2.2.2.2.2.2.2.2.2.2.2.2.2.2.2.2.2.2.2.2.2.2.2.2.2.2.2.2.2.2.2.2.2.2.2.2.2.2.2.1 ?_
        refine g_iload 4 88 dX9_few_86 rfl rfl ?_
        obtain ⟨b2, H⟩ := H
        refine h_laload 89 (x4).toNatClampNeg dX9_few_88 rfl rfl s0.2.2.2.2.2.2.2.2.2.2.2.2.2.2.2.2.2.2.2.2.2.2.2.2.2.2.2.2.2.2.2.2.2.2.2.2.2.2.2.2.2.2.1 b2 ?_
        refine g_aload_n 0 90 dX9_few_89 rfl rfl ?_
        refine g_getR 93 (a0 + 2) dX9_few_90 rfl flX9_28 s0.1 s0.2.2.2.1 ?_
        refine g_sipush (200) 96 dX9_few_93 rfl rfl ?_
        refine h_iaload 97 200 dX9_few_96 rfl rfl s0.2.2.2.2.1 (vp_lit rfl) ?_
        refine g_i2l 98 dX9_few_97 rfl ?_
        refine g_lmul 99 dX9_few_98 rfl ?_
        refine g_ldc2 (10) 102 dX9_few_99 rfl q7_142 ?_
        refine g_ldiv 103 dX9_few_102 rfl (by decide) ?_
        refine g_ladd 104 dX9_few_103 rfl ?_
        refine h_lastore 105 ((x4 + 1)).toNatClampNeg dX9_few_104 rfl rfl s0.2.2.2.2.2.2.2.2.2.2.2.2.2.2.2.2.2.2.2.2.2.2.2.2.2.2.2.2.2.2.2.2.2.2.2.2.2.2.2.2.2.2.1 b1 ?_
        generalize hM1 : (g_wl M (a0 + 21) ((x4 + 1)).toNatClampNeg ((g_ml M (a0 + 21) ((x4 + 1)).toNatClampNeg) + (((g_ml M (a0 + 21) (x4).toNatClampNeg) * (((g_mi M (a0 + 2) 200) : Int32).toInt64)) / 10))) = M1
        have j1 : Sl M M1 := by rw [← hM1]; exact (Sl.wl Sl.rf)
        replace H := H M1 hM1.symm
        refine g_aload_n 0 106 dX9_few_105 rfl rfl ?_
        refine g_getR 109 (a0 + 21) dX9_few_106 rfl flX9_90 (Sl.k j1 s0.1) (Sl.r j1 s0.2.2.2.2.2.2.2.2.2.2.2.2.2.2.2.2.2.2.2.2.2.2.2.2.2.2.2.2.2.2.2.2.2.2.2.2.2.2.2.2.2.1) ?_
        refine g_iload 4 111 dX9_few_109 rfl rfl ?_
        refine g_aload_n 0 112 dX9_few_111 rfl rfl ?_
        refine g_getR 115 (a0 + 21) dX9_few_112 rfl flX9_90 (Sl.k j1 s0.1) (Sl.r j1 s0.2.2.2.2.2.2.2.2.2.2.2.2.2.2.2.2.2.2.2.2.2.2.2.2.2.2.2.2.2.2.2.2.2.2.2.2.2.2.2.2.2.1) ?_
        refine g_iload 4 117 dX9_few_115 rfl rfl ?_
        obtain ⟨b3, H⟩ := H
        refine h_laload 118 (x4).toNatClampNeg dX9_few_117 rfl rfl (Sl.k j1 s0.2.2.2.2.2.2.2.2.2.2.2.2.2.2.2.2.2.2.2.2.2.2.2.2.2.2.2.2.2.2.2.2.2.2.2.2.2.2.2.2.2.2.1) b3 ?_
        refine g_bipush (10) 120 dX9_few_118 rfl rfl ?_
        refine g_aload_n 0 121 dX9_few_120 rfl rfl ?_
        refine g_getR 124 (a0 + 2) dX9_few_121 rfl flX9_28 (Sl.k j1 s0.1) (Sl.r j1 s0.2.2.2.1) ?_
        refine g_sipush (200) 127 dX9_few_124 rfl rfl ?_
        refine h_iaload 128 200 dX9_few_127 rfl rfl (Sl.k j1 s0.2.2.2.2.1) (vp_lit rfl) ?_
        refine g_isub 129 dX9_few_128 rfl ?_
        refine g_i2l 130 dX9_few_129 rfl ?_
        refine g_lmul 131 dX9_few_130 rfl ?_
        refine g_ldc2 (10) 134 dX9_few_131 rfl q7_142 ?_
        refine g_ldiv 135 dX9_few_134 rfl (by decide) ?_
        refine h_lastore 136 (x4).toNatClampNeg dX9_few_135 rfl rfl (Sl.k j1 s0.2.2.2.2.2.2.2.2.2.2.2.2.2.2.2.2.2.2.2.2.2.2.2.2.2.2.2.2.2.2.2.2.2.2.2.2.2.2.2.2.2.2.1) b3 ?_
        generalize hM2 : (g_wl M1 (a0 + 21) (x4).toNatClampNeg (((g_ml M1 (a0 + 21) (x4).toNatClampNeg) * (((10 - (g_mi M1 (a0 + 2) 200)) : Int32).toInt64)) / 10)) = M2
        have j2 : Sl M M2 := by rw [← hM2]; exact (Sl.wl j1)
        replace H := H M2 hM2.symm
        refine g_iinc _ 4 139 [(4, .int ((x4 + (-1)))), (0, .ref a0), (1, .int (x1)), (2, .int (x2)), (3, .int (x3))] dX9_few_136 rfl rfl rfl (Nat.le_of_ble_eq_true rfl) rfl ?_
        refine g_goto 67 dX9_few_139 rfl ?_
        exact g_sub [1, 2, 3, 4, 0] _ rfl (ih.2.2.1 M2 a0 x1 x2 x3 (x4 + (-1)) 0 0 (Mo.sl j2 s0) H (fun v M1 j r => hR v M1 (Sl.tr j2 j) r))
    · intro M a0 x1 x2 x3 x4 y3 x5 s0 H hR
      rw [qX9_few, if_neg (show ¬ (3 : Nat) = 0 by decide), if_neg (show ¬ (3 : Nat) = 1 by decide), if_neg (show ¬ (3 : Nat) = 2 by decide)] at H
      unfold pX9_few_153 at H
      refine g_iload 3 155 dX9_few_153 rfl rfl ?_
      refine g_iload_n 1 156 dX9_few_155 rfl rfl ?_
      refine g_icmp_ge 175 159 dX9_few_156 rfl rfl (fun c1 => ?_) (fun c1 => ?_)
      · skip
        replace H := H.1 c1
        refine g_lload_n 2 176 dX9_few_175 rfl rfl ?_
        exact g_lret dX9_few_176 rfl (Nat.zero_le _) (Nat.zero_le _) (hR _ _ Sl.rf H)
      · skip
        replace H := H.2 c1
        refine g_lload_n 2 160 dX9_few_159 rfl rfl ?_
        refine g_aload_n 0 161 dX9_few_160 rfl rfl ?_
        refine g_getR 164 (a0 + 21) dX9_few_161 rfl flX9_90 s0.1 s0.2.2.2.2.2.2.2.2.2.2.2.2.2.2.2.2.2.2.2.2.2.2.2.2.2.2.2.2.2.2.2.2.2.2.2.2.2.2.2.2.2.1 ?_
        refine g_iload 3 166 dX9_few_164 rfl rfl ?_
        obtain ⟨b1, H⟩ := H
        refine h_laload 167 (x5).toNatClampNeg dX9_few_166 rfl rfl s0.2.2.2.2.2.2.2.2.2.2.2.2.2.2.2.2.2.2.2.2.2.2.2.2.2.2.2.2.2.2.2.2.2.2.2.2.2.2.2.2.2.2.1 b1 ?_
        refine g_ladd 168 dX9_few_167 rfl ?_
        refine g_lstore_n 169 [(3, .long ((y3 + (g_ml M (a0 + 21) (x5).toNatClampNeg)))), (0, .ref a0), (1, .int (x1)), (5, .int (x5))] dX9_few_168 rfl (Nat.le_of_ble_eq_true rfl) rfl ?_
        refine g_iinc _ 3 172 [(5, .int ((x5 + 1))), (3, .long ((y3 + (g_ml M (a0 + 21) (x5).toNatClampNeg)))), (0, .ref a0), (1, .int (x1))] dX9_few_169 rfl rfl rfl (Nat.le_of_ble_eq_true rfl) rfl ?_
        refine g_goto 153 dX9_few_172 rfl ?_
        exact g_sub [2, 3, 1, 0] _ rfl (ih.2.2.2 M a0 x1 0 0 0 (y3 + (g_ml M (a0 + 21) (x5).toNatClampNeg)) (x5 + 1) s0 H (fun v M1 j r => hR v M1 j r))
set_option maxRecDepth 10000 in
theorem uX9_few {N K : Nat} {X : gX} {d mc ms : Nat} {Q : Option Value → gM → Prop} {M : gM} {a0 : Nat} {x1 : Int32} {x2 : Int32} {R : Int64 → gM → Prop} (s0 : Mo M a0) (H : pX9_few N K M a0 x1 x2 R) (hR : ∀ (v : Int64) (M1 : gM), Sl M M1 → R v M1 → Q (some (.long v)) M1) : Cn X (d + 1) mc ms kX9_few [.ref a0, .int (x1), .int (x2)] M Q := by
  have ih := ulX9_few (X := X) (d := d) (mc := mc) (ms := ms) (Q := Q) (N := N) (K := K) (R := R) N
  unfold pX9_few pX9_few_0 at H
  refine g_meth rfl rfl (Nat.le_of_ble_eq_true rfl) rfl ?_
  refine g_iload_n 1 1 dX9_few_0 rfl rfl ?_
  refine g_iconst (1) 2 dX9_few_1 rfl rfl ?_
  refine g_bipush (20) 4 dX9_few_2 rfl rfl ?_
  refine g_callS (mc1 := 0) (ms1 := 0) (rest := []) (av := [.int (x1), .int (1), .int (20)]) kX9_lies 7 dX9_few_4 rfl rfl mbX9_18 smX9_lies (Nat.le_of_ble_eq_true rfl) (Nat.zero_le _) (Nat.zero_le _) (tX9_lies  ?_)
  show Go X (d + 1) mc ms kX9_few Q 7 [(0, .ref a0), (1, .int (x1)), (2, .int (x2))] [.int ((fX9_lies x1 1 20))] M 0 0
  generalize hv1 : (fX9_lies x1 1 20) = v1
  replace H := H v1 hv1.symm
  refine g_if_eq 20 10 dX9_few_7 rfl rfl (fun c1 => ?_) (fun c1 => ?_)
  · skip
    replace H := H.1 c1
    refine g_ldc2 ((-1)) 23 dX9_few_20 rfl q7_140 ?_
    exact g_lret dX9_few_23 rfl (Nat.zero_le _) (Nat.zero_le _) (hR _ _ Sl.rf H)
  · skip
    replace H := H.2 c1
    refine g_iload_n 2 11 dX9_few_10 rfl rfl ?_
    refine g_iconst (0) 12 dX9_few_11 rfl rfl ?_
    refine g_bipush (99) 14 dX9_few_12 rfl rfl ?_
    refine g_callS (mc1 := 0) (ms1 := 0) (rest := []) (av := [.int (x2), .int (0), .int (99)]) kX9_lies 17 dX9_few_14 rfl rfl mbX9_18 smX9_lies (Nat.le_of_ble_eq_true rfl) (Nat.zero_le _) (Nat.zero_le _) (tX9_lies  ?_)
    show Go X (d + 1) mc ms kX9_few Q 17 [(0, .ref a0), (1, .int (x1)), (2, .int (x2))] [.int ((fX9_lies x2 0 99))] M 0 0
    generalize hv2 : (fX9_lies x2 0 99) = v2
    replace H := H v2 hv2.symm
    refine g_if_ne 24 20 dX9_few_17 rfl rfl (fun c2 => ?_) (fun c2 => ?_)
    · skip
      replace H := H.1 c2
      refine g_iconst (0) 25 dX9_few_24 rfl rfl ?_
      refine g_istore_n 26 [(3, .int (0)), (0, .ref a0), (1, .int (x1)), (2, .int (x2))] dX9_few_25 rfl (Nat.le_of_ble_eq_true rfl) rfl ?_
      exact g_sub [1, 2, 3, 0] _ rfl (ih.1 M a0 x1 x2 0 0 0 0 s0 H (fun v M1 j r => hR v M1 j r))
    · skip
      replace H := H.2 c2
      refine g_ldc2 ((-1)) 23 dX9_few_20 rfl q7_140 ?_
      exact g_lret dX9_few_23 rfl (Nat.zero_le _) (Nat.zero_le _) (hR _ _ Sl.rf H)
/-! X1_coreSize -/
def pX1_coreSize_0 (N K : Nat) (kp : Nat → gM → Nat → Nat → Int32 → Int32 → Int32 → Int32 → Prop) (R : Int32 → gM → Prop) (M : gM) (a0 : Nat) (a1 : Nat) (x2 : Int32) (x3 : Int32) : Prop := pX1_lay N K M a0 a1 x2 x3 (fun M1 => kp 0 M1 a0 a1 x3 0 0 0)
def pX1_coreSize_13 (N K : Nat) (kp : Nat → gM → Nat → Nat → Int32 → Int32 → Int32 → Int32 → Prop) (R : Int32 → gM → Prop) (M : gM) (a0 : Nat) (a1 : Nat) (x3 : Int32) (x4 : Int32) (x5 : Int32) : Prop := (((3 * x3) ≤ x5 → kp 1 M a0 0 0 x4 (g_mi M a1 3) 0) ∧ (¬ (3 * x3) ≤ x5 → ((60 ≤ x5 → kp 1 M a0 0 0 x4 (g_mi M a1 3) 0) ∧ (¬ 60 ≤ x5 → (vp_in (x5) 60) ∧ ((¬ (g_mi M (a0 + 4) (x5).toNatClampNeg) = 1 → kp 0 M a0 a1 x3 x4 (x5 + 1) 0) ∧ ((g_mi M (a0 + 4) (x5).toNatClampNeg) = 1 → (vp_in (x4) 63) ∧ ∀ M1 : gM, M1 = (g_wi M (a0 + 7) (x4).toNatClampNeg x5) → kp 0 M1 a0 a1 x3 (x4 + 1) (x5 + 1) 0))))))
def pX1_coreSize_66 (N K : Nat) (kp : Nat → gM → Nat → Nat → Int32 → Int32 → Int32 → Int32 → Prop) (R : Int32 → gM → Prop) (M : gM) (a0 : Nat) (x4 : Int32) (x5 : Int32) (x6 : Int32) : Prop := ((x4 ≤ x6 → R x5 M) ∧ (¬ x4 ≤ x6 → ((60 ≤ x6 → R x5 M) ∧ (¬ 60 ≤ x6 → (vp_in (x6) 63) ∧ (vp_in ((g_mi M (a0 + 7) (x6).toNatClampNeg)) 60) ∧ ((¬ (g_mi M (a0 + 4) ((g_mi M (a0 + 7) (x6).toNatClampNeg)).toNatClampNeg) = 1 → kp 1 M a0 0 0 x4 x5 (x6 + 1)) ∧ ((g_mi M (a0 + 4) ((g_mi M (a0 + 7) (x6).toNatClampNeg)).toNatClampNeg) = 1 → pX1_letGo N K M a0 (g_mi M (a0 + 5) ((g_mi M (a0 + 7) (x6).toNatClampNeg)).toNatClampNeg) x4 (fun v1 M1 => kp 1 M1 a0 0 0 v1 (x5 + (-1)) (x6 + 1))))))))
def qX1_coreSize (N K : Nat) (R : Int32 → gM → Prop) : Nat → Nat → gM → Nat → Nat → Int32 → Int32 → Int32 → Int32 → Prop
  | 0, _, _, _, _, _, _, _, _ => False
  | n + 1, h, M, a0, a1, x3, x4, x5, x6 => if h = 0 then pX1_coreSize_13 N K (qX1_coreSize N K R n) R M a0 a1 x3 x4 x5 else pX1_coreSize_66 N K (qX1_coreSize N K R n) R M a0 x4 x5 x6
def pX1_coreSize (N K : Nat) (M : gM) (a0 : Nat) (a1 : Nat) (x2 : Int32) (x3 : Int32) (R : Int32 → gM → Prop) : Prop := pX1_coreSize_0 N K (qX1_coreSize N K R N) R M a0 a1 x2 x3
def ULX1_coreSize (X : gX) (d mc ms : Nat) (Q : Option Value → gM → Prop) (N K : Nat) (R : Int32 → gM → Prop) (n : Nat) : Prop := (∀ (M : gM) (a0 : Nat) (a1 : Nat) (x3 : Int32) (x4 : Int32) (x5 : Int32) (x6 : Int32), Pe M a0 → St M a1 → qX1_coreSize N K R n 0 M a0 a1 x3 x4 x5 x6 → (∀ (v : Int32) (M1 : gM), Sm M M1 → R v M1 → Q (some (.int v)) M1) → Go X (d + 2) mc ms kX1_coreSize Q 13 [(0, .ref a0), (1, .ref a1), (3, .int (x3)), (4, .int (x4)), (5, .int (x5))] [] M 0 0) ∧ (∀ (M : gM) (a0 : Nat) (a1 : Nat) (x3 : Int32) (x4 : Int32) (x5 : Int32) (x6 : Int32), Pe M a0 → qX1_coreSize N K R n 1 M a0 a1 x3 x4 x5 x6 → (∀ (v : Int32) (M1 : gM), Sm M M1 → R v M1 → Q (some (.int v)) M1) → Go X (d + 2) mc ms kX1_coreSize Q 66 [(0, .ref a0), (4, .int (x4)), (5, .int (x5)), (6, .int (x6))] [] M 0 0)
set_option maxRecDepth 10000 in
theorem ulX1_coreSize {X : gX} {d mc ms : Nat} {Q : Option Value → gM → Prop} {N K : Nat} {R : Int32 → gM → Prop} : ∀ n : Nat, ULX1_coreSize X d mc ms Q N K R n := by
  intro n
  induction n with
  | zero => exact ⟨fun _ _ _ _ _ _ _ _ _ h _ => h.elim, fun _ _ _ _ _ _ _ _ h _ => h.elim⟩
  | succ n ih =>
    refine ⟨?_, ?_⟩
    · intro M a0 a1 x3 x4 x5 x6 s0 s1 H hR
      rw [qX1_coreSize, if_pos (show (0 : Nat) = 0 from rfl)] at H
      unfold pX1_coreSize_13 at H
      refine g_iload 4 15 dX1_coreSize_13 rfl rfl ?_
      refine g_iconst (3) 16 dX1_coreSize_15 rfl rfl ?_
      refine g_iload_n 2 17 dX1_coreSize_16 rfl rfl ?_
      refine g_imul 18 dX1_coreSize_17 rfl ?_
      refine g_icmp_ge 57 21 dX1_coreSize_18 rfl rfl (fun c1 => ?_) (fun c1 => ?_)
      · skip
        replace H := H.1 c1
        refine g_aload_n 1 58 dX1_coreSize_57 rfl rfl ?_
        refine g_getI 61 dX1_coreSize_58 rfl flX1_37 s1.1 ?_
        refine g_istore 63 [(5, .int ((g_mi M a1 3))), (0, .ref a0), (1, .ref a1), (3, .int (x3)), (4, .int (x4))] dX1_coreSize_61 rfl (Nat.le_of_ble_eq_true rfl) rfl ?_
        refine g_iconst (0) 64 dX1_coreSize_63 rfl rfl ?_
        refine g_istore 66 [(6, .int (0)), (5, .int ((g_mi M a1 3))), (0, .ref a0), (1, .ref a1), (3, .int (x3)), (4, .int (x4))] dX1_coreSize_64 rfl (Nat.le_of_ble_eq_true rfl) rfl ?_
        exact g_sub [2, 5, 1, 0] _ rfl (ih.2 M a0 0 0 x4 (g_mi M a1 3) 0 s0 H (fun v M1 j r => hR v M1 j r))
      · skip
        replace H := H.2 c1
        refine g_iload 4 23 dX1_coreSize_21 rfl rfl ?_
        refine g_bipush (60) 25 dX1_coreSize_23 rfl rfl ?_
        refine g_icmp_ge 57 28 dX1_coreSize_25 rfl rfl (fun c2 => ?_) (fun c2 => ?_)
        · skip
          replace H := H.1 c2
          refine g_aload_n 1 58 dX1_coreSize_57 rfl rfl ?_
          refine g_getI 61 dX1_coreSize_58 rfl flX1_37 s1.1 ?_
          refine g_istore 63 [(5, .int ((g_mi M a1 3))), (0, .ref a0), (1, .ref a1), (3, .int (x3)), (4, .int (x4))] dX1_coreSize_61 rfl (Nat.le_of_ble_eq_true rfl) rfl ?_
          refine g_iconst (0) 64 dX1_coreSize_63 rfl rfl ?_
          refine g_istore 66 [(6, .int (0)), (5, .int ((g_mi M a1 3))), (0, .ref a0), (1, .ref a1), (3, .int (x3)), (4, .int (x4))] dX1_coreSize_64 rfl (Nat.le_of_ble_eq_true rfl) rfl ?_
          exact g_sub [2, 5, 1, 0] _ rfl (ih.2 M a0 0 0 x4 (g_mi M a1 3) 0 s0 H (fun v M1 j r => hR v M1 j r))
        · skip
          replace H := H.2 c2
          refine g_aload_n 0 29 dX1_coreSize_28 rfl rfl ?_
          refine g_getR 32 (a0 + 4) dX1_coreSize_29 rfl flX1_21 s0.1 s0.2.2.2.2.2.2.2.1 ?_
          refine g_iload 4 34 dX1_coreSize_32 rfl rfl ?_
          obtain ⟨b1, H⟩ := H
          refine h_iaload 35 (x5).toNatClampNeg dX1_coreSize_34 rfl rfl s0.2.2.2.2.2.2.2.2.1 b1 ?_
          refine g_iconst (1) 36 dX1_coreSize_35 rfl rfl ?_
          refine g_icmp_ne 51 39 dX1_coreSize_36 rfl rfl (fun c3 => ?_) (fun c3 => ?_)
          · skip
            replace H := H.1 c3
            refine g_iinc _ 4 54 [(5, .int ((x5 + 1))), (0, .ref a0), (1, .ref a1), (3, .int (x3)), (4, .int (x4))] dX1_coreSize_51 rfl rfl rfl (Nat.le_of_ble_eq_true rfl) rfl ?_
            refine g_goto 13 dX1_coreSize_54 rfl ?_
            exact g_sub [1, 2, 3, 4, 0] _ rfl (ih.1 M a0 a1 x3 x4 (x5 + 1) 0 s0 s1 H (fun v M1 j r => hR v M1 j r))
          · skip
            replace H := H.2 c3
            refine g_aload_n 0 40 dX1_coreSize_39 rfl rfl ?_
            refine g_getR 43 (a0 + 7) dX1_coreSize_40 rfl flX1_30 s0.1 s0.2.2.2.2.2.2.2.2.2.2.2.2.2.1 ?_
            refine g_iload 3 45 dX1_coreSize_43 rfl rfl ?_
            refine g_iload 4 47 dX1_coreSize_45 rfl rfl ?_
            obtain ⟨b2, H⟩ := H
            refine h_iastore 48 (x4).toNatClampNeg dX1_coreSize_47 rfl rfl s0.2.2.2.2.2.2.2.2.2.2.2.2.2.2.1 b2 ?_
            generalize hM1 : (g_wi M (a0 + 7) (x4).toNatClampNeg x5) = M1
            have j1 : Sm M M1 := by rw [← hM1]; exact (Sm.wi Sm.rf)
            replace H := H M1 hM1.symm
            refine g_iinc _ 3 51 [(4, .int ((x4 + 1))), (0, .ref a0), (1, .ref a1), (3, .int (x3)), (5, .int (x5))] dX1_coreSize_48 rfl rfl rfl (Nat.le_of_ble_eq_true rfl) rfl ?_
            refine g_iinc _ 4 54 [(5, .int ((x5 + 1))), (4, .int ((x4 + 1))), (0, .ref a0), (1, .ref a1), (3, .int (x3))] dX1_coreSize_51 rfl rfl rfl (Nat.le_of_ble_eq_true rfl) rfl ?_
            refine g_goto 13 dX1_coreSize_54 rfl ?_
            exact g_sub [2, 3, 4, 1, 0] _ rfl (ih.1 M1 a0 a1 x3 (x4 + 1) (x5 + 1) 0 (Pe.sm j1 s0) (St.sm j1 s1) H (fun v M1 j r => hR v M1 (Sm.tr j1 j) r))
    · intro M a0 a1 x3 x4 x5 x6 s0 H hR
      rw [qX1_coreSize, if_neg (show ¬ (1 : Nat) = 0 by decide)] at H
      unfold pX1_coreSize_66 at H
      refine g_iload 3 68 dX1_coreSize_66 rfl rfl ?_
      refine g_iload 1 70 dX1_coreSize_68 rfl rfl ?_
      refine g_icmp_ge 124 73 dX1_coreSize_70 rfl rfl (fun c1 => ?_) (fun c1 => ?_)
      · skip
        replace H := H.1 c1
        refine g_iload 2 126 dX1_coreSize_124 rfl rfl ?_
        exact g_iret dX1_coreSize_126 rfl (Nat.zero_le _) (Nat.zero_le _) (hR _ _ Sm.rf H)
      · skip
        replace H := H.2 c1
        refine g_iload 3 75 dX1_coreSize_73 rfl rfl ?_
        refine g_bipush (60) 77 dX1_coreSize_75 rfl rfl ?_
        refine g_icmp_ge 124 80 dX1_coreSize_77 rfl rfl (fun c2 => ?_) (fun c2 => ?_)
        · skip
          replace H := H.1 c2
          refine g_iload 2 126 dX1_coreSize_124 rfl rfl ?_
          exact g_iret dX1_coreSize_126 rfl (Nat.zero_le _) (Nat.zero_le _) (hR _ _ Sm.rf H)
        · skip
          replace H := H.2 c2
          refine g_aload_n 0 81 dX1_coreSize_80 rfl rfl ?_
          refine g_getR 84 (a0 + 7) dX1_coreSize_81 rfl flX1_30 s0.1 s0.2.2.2.2.2.2.2.2.2.2.2.2.2.1 ?_
          refine g_iload 3 86 dX1_coreSize_84 rfl rfl ?_
          obtain ⟨b1, H⟩ := H
          refine h_iaload 87 (x6).toNatClampNeg dX1_coreSize_86 rfl rfl s0.2.2.2.2.2.2.2.2.2.2.2.2.2.2.1 b1 ?_
          refine g_istore 89 [(7, .int ((g_mi M (a0 + 7) (x6).toNatClampNeg))), (0, .ref a0), (4, .int (x4)), (5, .int (x5)), (6, .int (x6))] dX1_coreSize_87 rfl (Nat.le_of_ble_eq_true rfl) rfl ?_
          refine g_aload_n 1 90 dX1_coreSize_89 rfl rfl ?_
          refine g_getR 93 (a0 + 4) dX1_coreSize_90 rfl flX1_21 s0.1 s0.2.2.2.2.2.2.2.1 ?_
          refine g_iload 0 95 dX1_coreSize_93 rfl rfl ?_
          obtain ⟨b2, H⟩ := H
          refine h_iaload 96 ((g_mi M (a0 + 7) (x6).toNatClampNeg)).toNatClampNeg dX1_coreSize_95 rfl rfl s0.2.2.2.2.2.2.2.2.1 b2 ?_
          refine g_iconst (1) 97 dX1_coreSize_96 rfl rfl ?_
          refine g_icmp_ne 118 100 dX1_coreSize_97 rfl rfl (fun c3 => ?_) (fun c3 => ?_)
          · skip
            replace H := H.1 c3
            refine g_iinc _ 4 121 [(6, .int ((x6 + 1))), (7, .int ((g_mi M (a0 + 7) (x6).toNatClampNeg))), (0, .ref a0), (4, .int (x4)), (5, .int (x5))] dX1_coreSize_118 rfl rfl rfl (Nat.le_of_ble_eq_true rfl) rfl ?_
            refine g_goto 66 dX1_coreSize_121 rfl ?_
            exact g_sub [2, 3, 4, 0] _ rfl (ih.2 M a0 0 0 x4 x5 (x6 + 1) s0 H (fun v M1 j r => hR v M1 j r))
          · skip
            replace H := H.2 c3
            refine g_aload_n 1 101 dX1_coreSize_100 rfl rfl ?_
            refine g_aload_n 1 102 dX1_coreSize_101 rfl rfl ?_
            refine g_getR 105 (a0 + 5) dX1_coreSize_102 rfl flX1_24 s0.1 s0.2.2.2.2.2.2.2.2.2.1 ?_
            refine g_iload 0 107 dX1_coreSize_105 rfl rfl ?_
            refine h_iaload 108 ((g_mi M (a0 + 7) (x6).toNatClampNeg)).toNatClampNeg dX1_coreSize_107 rfl rfl s0.2.2.2.2.2.2.2.2.2.2.1 b2 ?_
            refine g_iload 2 110 dX1_coreSize_108 rfl rfl ?_
            refine g_callV (mc1 := 0) (ms1 := 0) (b := a0) (rest := []) (av := [.int ((g_mi M (a0 + 5) ((g_mi M (a0 + 7) (x6).toNatClampNeg)).toNatClampNeg)), .int (x4)]) kX1_letGo 113 dX1_coreSize_110 rfl rfl mbX1_51 imX1_letGo seX1_letGo gcl1.1 s0.1 (Nat.le_of_ble_eq_true rfl) (Nat.zero_le _) (Nat.zero_le _) (uX1_letGo (N := N) (K := K) s0 H (fun v1 M1 jj H => ?_))
            have j1 : Sm M M1 := jj
            show Go X (d + 2) mc ms kX1_coreSize Q 113 [(7, .int ((g_mi M (a0 + 7) (x6).toNatClampNeg))), (0, .ref a0), (4, .int (x4)), (5, .int (x5)), (6, .int (x6))] [.int (v1)] M1 0 0
            refine g_istore 115 [(4, .int (v1)), (7, .int ((g_mi M (a0 + 7) (x6).toNatClampNeg))), (0, .ref a0), (5, .int (x5)), (6, .int (x6))] dX1_coreSize_113 rfl (Nat.le_of_ble_eq_true rfl) rfl ?_
            refine g_iinc _ 3 118 [(5, .int ((x5 + (-1)))), (4, .int (v1)), (7, .int ((g_mi M (a0 + 7) (x6).toNatClampNeg))), (0, .ref a0), (6, .int (x6))] dX1_coreSize_115 rfl rfl rfl (Nat.le_of_ble_eq_true rfl) rfl ?_
            refine g_iinc _ 4 121 [(6, .int ((x6 + 1))), (5, .int ((x5 + (-1)))), (4, .int (v1)), (7, .int ((g_mi M (a0 + 7) (x6).toNatClampNeg))), (0, .ref a0)] dX1_coreSize_118 rfl rfl rfl (Nat.le_of_ble_eq_true rfl) rfl ?_
            refine g_goto 66 dX1_coreSize_121 rfl ?_
            exact g_sub [4, 2, 1, 0] _ rfl (ih.2 M1 a0 0 0 v1 (x5 + (-1)) (x6 + 1) (Pe.sm j1 s0) H (fun v M1 j r => hR v M1 (Sm.tr j1 j) r))
set_option maxRecDepth 10000 in
theorem uX1_coreSize {N K : Nat} {X : gX} {d mc ms : Nat} {Q : Option Value → gM → Prop} {M : gM} {a0 : Nat} {a1 : Nat} {x2 : Int32} {x3 : Int32} {R : Int32 → gM → Prop} (s0 : Pe M a0) (s1 : St M a1) (H : pX1_coreSize N K M a0 a1 x2 x3 R) (hR : ∀ (v : Int32) (M1 : gM), Sm M M1 → R v M1 → Q (some (.int v)) M1) : Cn X (d + 2) mc ms kX1_coreSize [.ref a0, .ref a1, .int (x2), .int (x3)] M Q := by
  have ih := ulX1_coreSize (X := X) (d := d) (mc := mc) (ms := ms) (Q := Q) (N := N) (K := K) (R := R) N
  unfold pX1_coreSize pX1_coreSize_0 at H
  refine g_meth rfl rfl (Nat.le_of_ble_eq_true rfl) rfl ?_
  refine g_aload_n 0 1 dX1_coreSize_0 rfl rfl ?_
  refine g_aload_n 1 2 dX1_coreSize_1 rfl rfl ?_
  refine g_iload_n 2 3 dX1_coreSize_2 rfl rfl ?_
  refine g_iload_n 3 4 dX1_coreSize_3 rfl rfl ?_
  refine g_callV (mc1 := 0) (ms1 := 0) (b := a0) (rest := []) (av := [.ref a1, .int (x2), .int (x3)]) kX1_lay 7 dX1_coreSize_4 rfl rfl mbX1_47 imX1_lay seX1_lay gcl1.1 s0.1 (Nat.le_of_ble_eq_true rfl) (Nat.zero_le _) (Nat.zero_le _) (uX1_lay (N := N) (K := K) s0 s1 H (fun M1 jj H => ?_))
  have j1 : Sm M M1 := jj
  show Go X (d + 2) mc ms kX1_coreSize Q 7 [(0, .ref a0), (1, .ref a1), (2, .int (x2)), (3, .int (x3))] [] M1 0 0
  refine g_iconst (0) 8 dX1_coreSize_7 rfl rfl ?_
  refine g_istore 10 [(4, .int (0)), (0, .ref a0), (1, .ref a1), (2, .int (x2)), (3, .int (x3))] dX1_coreSize_8 rfl (Nat.le_of_ble_eq_true rfl) rfl ?_
  refine g_iconst (0) 11 dX1_coreSize_10 rfl rfl ?_
  refine g_istore 13 [(5, .int (0)), (4, .int (0)), (0, .ref a0), (1, .ref a1), (2, .int (x2)), (3, .int (x3))] dX1_coreSize_11 rfl (Nat.le_of_ble_eq_true rfl) rfl ?_
  exact g_sub [2, 3, 5, 1, 0] _ rfl (ih.1 M1 a0 a1 x3 0 0 0 (Pe.sm j1 s0) (St.sm j1 s1) H (fun v M1 j r => hR v M1 (Sm.tr j1 j) r))
/-! X0_keep -/
def pX0_keep (N K : Nat) (M : gM) (a0 : Nat) (x1 : Int32) (R : gM → Prop) : Prop := ∀ v1 : Int32, v1 = (fX0_slot M a0 (g_mi M a0 3)) → (vp_in (v1) 17) ∧ ∀ M1 : gM, M1 = (g_wi M (a0 + 2) (v1).toNatClampNeg x1) → ((16 ≤ (g_mi M1 a0 3) → ∀ v2 : Int32, v2 = (fX0_slot M1 a0 1) → ∀ M2 : gM, M2 = (g_wi M1 a0 2 v2) → R M2) ∧ (¬ 16 ≤ (g_mi M1 a0 3) → ∀ M3 : gM, M3 = (g_wi M1 a0 3 ((g_mi M1 a0 3) + 1)) → R M3))
set_option maxRecDepth 10000 in
theorem uX0_keep {N K : Nat} {X : gX} {d mc ms : Nat} {Q : Option Value → gM → Prop} {M : gM} {a0 : Nat} {x1 : Int32} {R : gM → Prop} (s0 : Hi M a0) (H : pX0_keep N K M a0 x1 R) (hR : ∀ (M1 : gM), Sm M M1 → R M1 → Q none M1) : Cn X (d + 1) mc ms kX0_keep [.ref a0, .int (x1)] M Q := by
  unfold pX0_keep at H
  refine g_meth rfl rfl (Nat.le_of_ble_eq_true rfl) rfl ?_
  refine g_aload_n 0 1 dX0_keep_0 rfl rfl ?_
  refine g_getR 4 (a0 + 2) dX0_keep_1 rfl flX0_17 s0.1 s0.2.2.2.1 ?_
  refine g_aload_n 0 5 dX0_keep_4 rfl rfl ?_
  refine g_aload_n 0 6 dX0_keep_5 rfl rfl ?_
  refine g_getI 9 dX0_keep_6 rfl flX0_22 s0.1 ?_
  refine g_callV (mc1 := 0) (ms1 := 0) (b := a0) (rest := [.ref (a0 + 2)]) (av := [.int ((g_mi M a0 3))]) kX0_slot 12 dX0_keep_9 rfl rfl mbX0_26 imX0_slot seX0_slot gcl0.1 s0.1 (Nat.le_of_ble_eq_true rfl) (Nat.zero_le _) (Nat.zero_le _) (tX0_slot s0 ?_)
  show Go X (d + 1) mc ms kX0_keep Q 12 [(0, .ref a0), (1, .int (x1))] [.int ((fX0_slot M a0 (g_mi M a0 3))), .ref (a0 + 2)] M 0 0
  generalize hv1 : (fX0_slot M a0 (g_mi M a0 3)) = v1
  replace H := H v1 hv1.symm
  refine g_iload_n 1 13 dX0_keep_12 rfl rfl ?_
  obtain ⟨b1, H⟩ := H
  refine h_iastore 14 (v1).toNatClampNeg dX0_keep_13 rfl rfl s0.2.2.2.2.1 b1 ?_
  generalize hM1 : (g_wi M (a0 + 2) (v1).toNatClampNeg x1) = M1
  have j1 : Sm M M1 := by rw [← hM1]; exact (Sm.wi Sm.rf)
  replace H := H M1 hM1.symm
  refine g_aload_n 0 15 dX0_keep_14 rfl rfl ?_
  refine g_getI 18 dX0_keep_15 rfl flX0_22 (Sm.k j1 s0.1) ?_
  refine g_bipush (16) 20 dX0_keep_18 rfl rfl ?_
  refine g_icmp_ge 36 23 dX0_keep_20 rfl rfl (fun c1 => ?_) (fun c1 => ?_)
  · skip
    replace H := H.1 c1
    refine g_aload_n 0 37 dX0_keep_36 rfl rfl ?_
    refine g_aload_n 0 38 dX0_keep_37 rfl rfl ?_
    refine g_iconst (1) 39 dX0_keep_38 rfl rfl ?_
    refine g_callV (mc1 := 0) (ms1 := 0) (b := a0) (rest := [.ref a0]) (av := [.int (1)]) kX0_slot 42 dX0_keep_39 rfl rfl mbX0_26 imX0_slot seX0_slot gcl0.1 (Sm.k j1 s0.1) (Nat.le_of_ble_eq_true rfl) (Nat.zero_le _) (Nat.zero_le _) (tX0_slot (Hi.sm j1 s0) ?_)
    show Go X (d + 1) mc ms kX0_keep Q 42 [(0, .ref a0), (1, .int (x1))] [.int ((fX0_slot M1 a0 1)), .ref a0] M1 0 0
    generalize hv2 : (fX0_slot M1 a0 1) = v2
    replace H := H v2 hv2.symm
    refine g_putI 45 dX0_keep_42 rfl flX0_34 (Sm.k j1 s0.1) ?_
    generalize hM2 : (g_wi M1 a0 2 v2) = M2
    have j2 : Sm M M2 := by rw [← hM2]; exact (Sm.wi j1)
    replace H := H M2 hM2.symm
    exact g_vret dX0_keep_45 rfl (Nat.zero_le _) (Nat.zero_le _) (hR _ j2 H)
  · skip
    replace H := H.2 c1
    refine g_aload_n 0 24 dX0_keep_23 rfl rfl ?_
    refine g_dup 25 dX0_keep_24 rfl rfl ?_
    refine g_getI 28 dX0_keep_25 rfl flX0_22 (Sm.k j1 s0.1) ?_
    refine g_iconst (1) 29 dX0_keep_28 rfl rfl ?_
    refine g_iadd 30 dX0_keep_29 rfl ?_
    refine g_putI 33 dX0_keep_30 rfl flX0_22 (Sm.k j1 s0.1) ?_
    generalize hM3 : (g_wi M1 a0 3 ((g_mi M1 a0 3) + 1)) = M3
    have j3 : Sm M M3 := by rw [← hM3]; exact (Sm.wi j1)
    replace H := H M3 hM3.symm
    refine g_goto 45 dX0_keep_33 rfl ?_
    exact g_vret dX0_keep_45 rfl (Nat.zero_le _) (Nat.zero_le _) (hR _ j3 H)
/-! X1_leavesNone -/
def pX1_leavesNone (N K : Nat) (M : gM) (a0 : Nat) (a1 : Nat) (x2 : Int32) (x3 : Int32) (R : Int32 → gM → Prop) : Prop := (((3 * x3) < (g_mi M a1 3) → R 0 M) ∧ (¬ (3 * x3) < (g_mi M a1 3) → pX1_coreSize N K M a0 a1 x2 x3 (fun v1 M1 => ((¬ v1 = 0 → R 0 M1) ∧ (v1 = 0 → R 1 M1)))))
set_option maxRecDepth 10000 in
theorem uX1_leavesNone {N K : Nat} {X : gX} {d mc ms : Nat} {Q : Option Value → gM → Prop} {M : gM} {a0 : Nat} {a1 : Nat} {x2 : Int32} {x3 : Int32} {R : Int32 → gM → Prop} (s0 : Pe M a0) (s1 : St M a1) (H : pX1_leavesNone N K M a0 a1 x2 x3 R) (hR : ∀ (v : Int32) (M1 : gM), Sm M M1 → R v M1 → Q (some (.int v)) M1) : Cn X (d + 3) mc ms kX1_leavesNone [.ref a0, .ref a1, .int (x2), .int (x3)] M Q := by
  unfold pX1_leavesNone at H
  refine g_meth rfl rfl (Nat.le_of_ble_eq_true rfl) rfl ?_
  refine g_aload_n 1 1 dX1_leavesNone_0 rfl rfl ?_
  refine g_getI 4 dX1_leavesNone_1 rfl flX1_37 s1.1 ?_
  refine g_iconst (3) 5 dX1_leavesNone_4 rfl rfl ?_
  refine g_iload_n 3 6 dX1_leavesNone_5 rfl rfl ?_
  refine g_imul 7 dX1_leavesNone_6 rfl ?_
  refine g_icmp_gt 24 10 dX1_leavesNone_7 rfl rfl (fun c1 => ?_) (fun c1 => ?_)
  · skip
    replace H := H.1 c1
    refine g_iconst (0) 25 dX1_leavesNone_24 rfl rfl ?_
    exact g_zret dX1_leavesNone_25 rfl (by decide) (Nat.zero_le _) (Nat.zero_le _) (hR _ _ Sm.rf H)
  · skip
    replace H := H.2 c1
    refine g_aload_n 0 11 dX1_leavesNone_10 rfl rfl ?_
    refine g_aload_n 1 12 dX1_leavesNone_11 rfl rfl ?_
    refine g_iload_n 2 13 dX1_leavesNone_12 rfl rfl ?_
    refine g_iload_n 3 14 dX1_leavesNone_13 rfl rfl ?_
    refine g_callV (mc1 := 0) (ms1 := 0) (b := a0) (rest := []) (av := [.ref a1, .int (x2), .int (x3)]) kX1_coreSize 17 dX1_leavesNone_14 rfl rfl mbX1_43 imX1_coreSize seX1_coreSize gcl1.1 s0.1 (Nat.le_of_ble_eq_true rfl) (Nat.zero_le _) (Nat.zero_le _) (uX1_coreSize (N := N) (K := K) s0 s1 H (fun v1 M1 jj H => ?_))
    have j1 : Sm M M1 := jj
    show Go X (d + 3) mc ms kX1_leavesNone Q 17 [(0, .ref a0), (1, .ref a1), (2, .int (x2)), (3, .int (x3))] [.int (v1)] M1 0 0
    refine g_if_ne 24 20 dX1_leavesNone_17 rfl rfl (fun c2 => ?_) (fun c2 => ?_)
    · skip
      replace H := H.1 c2
      refine g_iconst (0) 25 dX1_leavesNone_24 rfl rfl ?_
      exact g_zret dX1_leavesNone_25 rfl (by decide) (Nat.zero_le _) (Nat.zero_le _) (hR _ _ j1 H)
    · skip
      replace H := H.2 c2
      refine g_iconst (1) 21 dX1_leavesNone_20 rfl rfl ?_
      refine g_goto 25 dX1_leavesNone_21 rfl ?_
      exact g_zret dX1_leavesNone_25 rfl (by decide) (Nat.zero_le _) (Nat.zero_le _) (hR _ _ j1 H)
/-! X2_append -/
def pX2_append_0 (N K : Nat) (kp : Nat → gM → Nat → Int32 → Int32 → Prop) (R : gM → Prop) (M : gM) (a0 : Nat) (x1 : Int32) : Prop := kp 0 M a0 x1 24
def pX2_append_3 (N K : Nat) (kp : Nat → gM → Nat → Int32 → Int32 → Prop) (R : gM → Prop) (M : gM) (a0 : Nat) (x1 : Int32) (x2 : Int32) : Prop := ((x2 < 0 → R M) ∧ (¬ x2 < 0 → ((400 ≤ (g_mi M a0 5) → R M) ∧ (¬ 400 ≤ (g_mi M a0 5) → (vp_in ((g_mi M a0 5)) 400) ∧ ∀ M1 : gM, M1 = (g_wi M (a0 + 1) ((g_mi M a0 5)).toNatClampNeg (((((x1 : Int32).toUInt32 >>> ((x2 : Int32).toUInt32 &&& Int32.toUInt32 31)).toInt32)) &&& 255)) → ∀ M2 : gM, M2 = (g_wi M1 a0 5 ((g_mi M1 a0 5) + 1)) → kp 0 M2 a0 x1 (x2 + (-8))))))
def qX2_append (N K : Nat) (R : gM → Prop) : Nat → Nat → gM → Nat → Int32 → Int32 → Prop
  | 0, _, _, _, _, _ => False
  | n + 1, _, M, a0, x1, x2 => pX2_append_3 N K (qX2_append N K R n) R M a0 x1 x2
def pX2_append (N K : Nat) (M : gM) (a0 : Nat) (x1 : Int32) (R : gM → Prop) : Prop := pX2_append_0 N K (qX2_append N K R N) R M a0 x1
def ULX2_append (X : gX) (d mc ms : Nat) (Q : Option Value → gM → Prop) (N K : Nat) (R : gM → Prop) (n : Nat) : Prop := (∀ (M : gM) (a0 : Nat) (x1 : Int32) (x2 : Int32), Re M a0 → qX2_append N K R n 0 M a0 x1 x2 → (∀ (M1 : gM), Sm M M1 → R M1 → Q none M1) → Go X d mc ms kX2_append Q 3 [(0, .ref a0), (1, .int (x1)), (2, .int (x2))] [] M 0 0)
set_option maxRecDepth 10000 in
theorem ulX2_append {X : gX} {d mc ms : Nat} {Q : Option Value → gM → Prop} {N K : Nat} {R : gM → Prop} : ∀ n : Nat, ULX2_append X d mc ms Q N K R n := by
  intro n
  induction n with
  | zero => exact fun _ _ _ _ _ h _ => h.elim
  | succ n ih =>
    intro M a0 x1 x2 s0 H hR
    rw [qX2_append] at H
    unfold pX2_append_3 at H
    refine g_iload_n 2 4 dX2_append_3 rfl rfl ?_
    refine g_if_lt 49 7 dX2_append_4 rfl rfl (fun c1 => ?_) (fun c1 => ?_)
    · skip
      replace H := H.1 c1
      exact g_vret dX2_append_49 rfl (Nat.zero_le _) (Nat.zero_le _) (hR _ Sm.rf H)
    · skip
      replace H := H.2 c1
      refine g_aload_n 0 8 dX2_append_7 rfl rfl ?_
      refine g_getI 11 dX2_append_8 rfl flX2_44 s0.1 ?_
      refine g_sipush (400) 14 dX2_append_11 rfl rfl ?_
      refine g_icmp_ge 49 17 dX2_append_14 rfl rfl (fun c2 => ?_) (fun c2 => ?_)
      · skip
        replace H := H.1 c2
        exact g_vret dX2_append_49 rfl (Nat.zero_le _) (Nat.zero_le _) (hR _ Sm.rf H)
      · skip
        replace H := H.2 c2
        refine g_aload_n 0 18 dX2_append_17 rfl rfl ?_
        refine g_getR 21 (a0 + 1) dX2_append_18 rfl flX2_9 s0.1 s0.2.1 ?_
        refine g_aload_n 0 22 dX2_append_21 rfl rfl ?_
        refine g_getI 25 dX2_append_22 rfl flX2_44 s0.1 ?_
        refine g_iload_n 1 26 dX2_append_25 rfl rfl ?_
        refine g_iload_n 2 27 dX2_append_26 rfl rfl ?_
        refine g_iushr 28 dX2_append_27 rfl ?_
        refine g_sipush (255) 31 dX2_append_28 rfl rfl ?_
        refine g_iand 32 dX2_append_31 rfl ?_
        obtain ⟨b1, H⟩ := H
        refine h_iastore 33 ((g_mi M a0 5)).toNatClampNeg dX2_append_32 rfl rfl s0.2.2.1 b1 ?_
        generalize hM1 : (g_wi M (a0 + 1) ((g_mi M a0 5)).toNatClampNeg (((((x1 : Int32).toUInt32 >>> ((x2 : Int32).toUInt32 &&& Int32.toUInt32 31)).toInt32)) &&& 255)) = M1
        have j1 : Sm M M1 := by rw [← hM1]; exact (Sm.wi Sm.rf)
        replace H := H M1 hM1.symm
        refine g_aload_n 0 34 dX2_append_33 rfl rfl ?_
        refine g_dup 35 dX2_append_34 rfl rfl ?_
        refine g_getI 38 dX2_append_35 rfl flX2_44 (Sm.k j1 s0.1) ?_
        refine g_iconst (1) 39 dX2_append_38 rfl rfl ?_
        refine g_iadd 40 dX2_append_39 rfl ?_
        refine g_putI 43 dX2_append_40 rfl flX2_44 (Sm.k j1 s0.1) ?_
        generalize hM2 : (g_wi M1 a0 5 ((g_mi M1 a0 5) + 1)) = M2
        have j2 : Sm M M2 := by rw [← hM2]; exact (Sm.wi j1)
        replace H := H M2 hM2.symm
        refine g_iinc _ 2 46 [(2, .int ((x2 + (-8)))), (0, .ref a0), (1, .int (x1))] dX2_append_43 rfl rfl rfl (Nat.le_of_ble_eq_true rfl) rfl ?_
        refine g_goto 3 dX2_append_46 rfl ?_
        exact g_sub [1, 2, 0] _ rfl (ih M2 a0 x1 (x2 + (-8)) (Re.sm j2 s0) H (fun M1 j r => hR M1 (Sm.tr j2 j) r))
set_option maxRecDepth 10000 in
theorem uX2_append {N K : Nat} {X : gX} {d mc ms : Nat} {Q : Option Value → gM → Prop} {M : gM} {a0 : Nat} {x1 : Int32} {R : gM → Prop} (s0 : Re M a0) (H : pX2_append N K M a0 x1 R) (hR : ∀ (M1 : gM), Sm M M1 → R M1 → Q none M1) : Cn X d mc ms kX2_append [.ref a0, .int (x1)] M Q := by
  have ih := ulX2_append (X := X) (d := d) (mc := mc) (ms := ms) (Q := Q) (N := N) (K := K) (R := R) N
  unfold pX2_append pX2_append_0 at H
  refine g_meth rfl rfl (Nat.le_of_ble_eq_true rfl) rfl ?_
  refine g_bipush (24) 2 dX2_append_0 rfl rfl ?_
  refine g_istore_n 3 [(2, .int (24)), (0, .ref a0), (1, .int (x1))] dX2_append_2 rfl (Nat.le_of_ble_eq_true rfl) rfl ?_
  exact g_sub [1, 2, 0] _ rfl (ih M a0 x1 24 s0 H (fun M1 j r => hR M1 j r))
/-! X2_numberBetween -/
def pX2_numberBetween_0 (N K : Nat) (kp : Nat → gM → Nat → Int32 → Int32 → Int32 → Prop) (R : Int32 → Prop) (M : gM) (a0 : Nat) (x1 : Int32) (x2 : Int32) : Prop := kp 0 M a0 x2 0 x1
def pX2_numberBetween_5 (N K : Nat) (kp : Nat → gM → Nat → Int32 → Int32 → Int32 → Prop) (R : Int32 → Prop) (M : gM) (a0 : Nat) (x2 : Int32) (x3 : Int32) (x4 : Int32) : Prop := ((x2 ≤ x4 → R x3) ∧ (¬ x2 ≤ x4 → (vp_in (x4) 400) ∧ kp 0 M a0 x2 (i_min (((x3 * 10) + (g_mi M (a0 + 1) (x4).toNatClampNeg)) - 48) 1001) (x4 + 1)))
def qX2_numberBetween (N K : Nat) (R : Int32 → Prop) : Nat → Nat → gM → Nat → Int32 → Int32 → Int32 → Prop
  | 0, _, _, _, _, _, _ => False
  | n + 1, _, M, a0, x2, x3, x4 => pX2_numberBetween_5 N K (qX2_numberBetween N K R n) R M a0 x2 x3 x4
def pX2_numberBetween (N K : Nat) (M : gM) (a0 : Nat) (x1 : Int32) (x2 : Int32) (R : Int32 → Prop) : Prop := pX2_numberBetween_0 N K (qX2_numberBetween N K R N) R M a0 x1 x2
def ULX2_numberBetween (X : gX) (d mc ms : Nat) (Q : Option Value → gM → Prop) (N K : Nat) (R : Int32 → Prop) (n : Nat) : Prop := (∀ (M : gM) (a0 : Nat) (x2 : Int32) (x3 : Int32) (x4 : Int32), Re M a0 → qX2_numberBetween N K R n 0 M a0 x2 x3 x4 → (∀ (v : Int32), R v → Q (some (.int v)) M) → Go X (d + 1) mc ms kX2_numberBetween Q 5 [(0, .ref a0), (2, .int (x2)), (3, .int (x3)), (4, .int (x4))] [] M 0 0)
set_option maxRecDepth 10000 in
theorem ulX2_numberBetween {X : gX} {d mc ms : Nat} {Q : Option Value → gM → Prop} {N K : Nat} {R : Int32 → Prop} : ∀ n : Nat, ULX2_numberBetween X d mc ms Q N K R n := by
  intro n
  induction n with
  | zero => exact fun _ _ _ _ _ _ h _ => h.elim
  | succ n ih =>
    intro M a0 x2 x3 x4 s0 H hR
    rw [qX2_numberBetween] at H
    unfold pX2_numberBetween_5 at H
    refine g_iload 3 7 dX2_numberBetween_5 rfl rfl ?_
    refine g_iload_n 1 8 dX2_numberBetween_7 rfl rfl ?_
    refine g_icmp_ge 39 11 dX2_numberBetween_8 rfl rfl (fun c1 => ?_) (fun c1 => ?_)
    · skip
      replace H := H.1 c1
      refine g_iload_n 2 40 dX2_numberBetween_39 rfl rfl ?_
      exact g_iret dX2_numberBetween_40 rfl (Nat.zero_le _) (Nat.zero_le _) (hR _ H)
    · skip
      replace H := H.2 c1
      refine g_iload_n 2 12 dX2_numberBetween_11 rfl rfl ?_
      refine g_bipush (10) 14 dX2_numberBetween_12 rfl rfl ?_
      refine g_imul 15 dX2_numberBetween_14 rfl ?_
      refine g_aload_n 0 16 dX2_numberBetween_15 rfl rfl ?_
      refine g_getR 19 (a0 + 1) dX2_numberBetween_16 rfl flX2_9 s0.1 s0.2.1 ?_
      refine g_iload 3 21 dX2_numberBetween_19 rfl rfl ?_
      obtain ⟨b1, H⟩ := H
      refine h_iaload 22 (x4).toNatClampNeg dX2_numberBetween_21 rfl rfl s0.2.2.1 b1 ?_
      refine g_iadd 23 dX2_numberBetween_22 rfl ?_
      refine g_bipush (48) 25 dX2_numberBetween_23 rfl rfl ?_
      refine g_isub 26 dX2_numberBetween_25 rfl ?_
      refine g_sipush (1001) 29 dX2_numberBetween_26 rfl rfl ?_
      refine h_min 32 dX2_numberBetween_29 rfl mbX2_100 smJ9_min_7cf53 (Nat.le_of_ble_eq_true rfl) (Nat.zero_le _) (Nat.zero_le _) ?_
      refine g_istore_n 33 [(3, .int ((i_min (((x3 * 10) + (g_mi M (a0 + 1) (x4).toNatClampNeg)) - 48) 1001))), (0, .ref a0), (2, .int (x2)), (4, .int (x4))] dX2_numberBetween_32 rfl (Nat.le_of_ble_eq_true rfl) rfl ?_
      refine g_iinc _ 3 36 [(4, .int ((x4 + 1))), (3, .int ((i_min (((x3 * 10) + (g_mi M (a0 + 1) (x4).toNatClampNeg)) - 48) 1001))), (0, .ref a0), (2, .int (x2))] dX2_numberBetween_33 rfl rfl rfl (Nat.le_of_ble_eq_true rfl) rfl ?_
      refine g_goto 5 dX2_numberBetween_36 rfl ?_
      exact g_sub [2, 3, 1, 0] _ rfl (ih M a0 x2 (i_min (((x3 * 10) + (g_mi M (a0 + 1) (x4).toNatClampNeg)) - 48) 1001) (x4 + 1) s0 H (fun v r => hR v r))
set_option maxRecDepth 10000 in
theorem uX2_numberBetween {N K : Nat} {X : gX} {d mc ms : Nat} {Q : Option Value → gM → Prop} {M : gM} {a0 : Nat} {x1 : Int32} {x2 : Int32} {R : Int32 → Prop} (s0 : Re M a0) (H : pX2_numberBetween N K M a0 x1 x2 R) (hR : ∀ (v : Int32), R v → Q (some (.int v)) M) : Cn X (d + 1) mc ms kX2_numberBetween [.ref a0, .int (x1), .int (x2)] M Q := by
  have ih := ulX2_numberBetween (X := X) (d := d) (mc := mc) (ms := ms) (Q := Q) (N := N) (K := K) (R := R) N
  unfold pX2_numberBetween pX2_numberBetween_0 at H
  refine g_meth rfl rfl (Nat.le_of_ble_eq_true rfl) rfl ?_
  refine g_iconst (0) 1 dX2_numberBetween_0 rfl rfl ?_
  refine g_istore_n 2 [(3, .int (0)), (0, .ref a0), (1, .int (x1)), (2, .int (x2))] dX2_numberBetween_1 rfl (Nat.le_of_ble_eq_true rfl) rfl ?_
  refine g_iload_n 2 3 dX2_numberBetween_2 rfl rfl ?_
  refine g_istore 5 [(4, .int (x1)), (3, .int (0)), (0, .ref a0), (1, .int (x1)), (2, .int (x2))] dX2_numberBetween_3 rfl (Nat.le_of_ble_eq_true rfl) rfl ?_
  exact g_sub [2, 4, 1, 0] _ rfl (ih M a0 x2 0 x1 s0 H (fun v r => hR v r))
/-! X2_readTimes -/
def pX2_readTimes (N K : Nat) (M : gM) (a0 : Nat) (x1 : Int32) (R : Int32 → gM → Prop) : Prop := pX2_pass N K M a0 (fun M1 => (vp_in ((g_mi M1 a0 10)) 401) ∧ (((g_mi M1 (a0 + 13) ((g_mi M1 a0 10)).toNatClampNeg) < 1 → pX2_fail N K M1 a0 (fun v1 M2 => (v1 = 0 ∨ v1 = 1) ∧ R v1 M2)) ∧ (¬ (g_mi M1 (a0 + 13) ((g_mi M1 a0 10)).toNatClampNeg) < 1 → (((g_mi M1 (a0 + 13) ((g_mi M1 a0 10)).toNatClampNeg) ≤ 20 → (vp_in (x1) 12) ∧ ∀ M3 : gM, M3 = (g_wi M1 ((a0 + 2) + 2) (x1).toNatClampNeg (g_mi M1 (a0 + 13) ((g_mi M1 a0 10)).toNatClampNeg)) → pX2_pass N K M3 a0 (fun M4 => R 1 M4)) ∧ (¬ (g_mi M1 (a0 + 13) ((g_mi M1 a0 10)).toNatClampNeg) ≤ 20 → pX2_fail N K M1 a0 (fun v2 M5 => (v2 = 0 ∨ v2 = 1) ∧ R v2 M5))))))
set_option maxRecDepth 10000 in
theorem uX2_readTimes {N K : Nat} {X : gX} {d mc ms : Nat} {Q : Option Value → gM → Prop} {M : gM} {a0 : Nat} {x1 : Int32} {R : Int32 → gM → Prop} (s0 : Re M a0) (H : pX2_readTimes N K M a0 x1 R) (hR : ∀ (v : Int32) (M1 : gM), Sm M M1 → R v M1 → Q (some (.int v)) M1) : Cn X (d + 1) mc ms kX2_readTimes [.ref a0, .int (x1)] M Q := by
  unfold pX2_readTimes at H
  refine g_meth rfl rfl (Nat.le_of_ble_eq_true rfl) rfl ?_
  refine g_aload_n 0 1 dX2_readTimes_0 rfl rfl ?_
  refine g_callV (mc1 := 0) (ms1 := 0) (b := a0) (rest := []) (av := []) kX2_pass 4 dX2_readTimes_1 rfl rfl mbX2_111 imX2_pass seX2_pass gcl2.1 s0.1 (Nat.le_of_ble_eq_true rfl) (Nat.zero_le _) (Nat.zero_le _) (uX2_pass (N := N) (K := K) s0 H (fun M1 jj H => ?_))
  have j1 : Sm M M1 := jj
  show Go X (d + 1) mc ms kX2_readTimes Q 4 [(0, .ref a0), (1, .int (x1))] [] M1 0 0
  refine g_aload_n 0 5 dX2_readTimes_4 rfl rfl ?_
  refine g_getR 8 (a0 + 13) dX2_readTimes_5 rfl flX2_41 (Sm.k j1 s0.1) (Sm.r j1 s0.2.2.2.2.2.2.2.2.2.2.2.2.2.1) ?_
  refine g_aload_n 0 9 dX2_readTimes_8 rfl rfl ?_
  refine g_getI 12 dX2_readTimes_9 rfl flX2_50 (Sm.k j1 s0.1) ?_
  obtain ⟨b1, H⟩ := H
  refine h_iaload 13 ((g_mi M1 a0 10)).toNatClampNeg dX2_readTimes_12 rfl rfl (Sm.k j1 s0.2.2.2.2.2.2.2.2.2.2.2.2.2.2) b1 ?_
  refine g_iconst (1) 14 dX2_readTimes_13 rfl rfl ?_
  refine g_icmp_lt 31 17 dX2_readTimes_14 rfl rfl (fun c1 => ?_) (fun c1 => ?_)
  · skip
    replace H := H.1 c1
    refine g_aload_n 0 32 dX2_readTimes_31 rfl rfl ?_
    refine g_callV (mc1 := 0) (ms1 := 0) (b := a0) (rest := []) (av := []) kX2_fail 35 dX2_readTimes_32 rfl rfl mbX2_74 imX2_fail seX2_fail gcl2.1 (Sm.k j1 s0.1) (Nat.le_of_ble_eq_true rfl) (Nat.zero_le _) (Nat.zero_le _) (uX2_fail (N := N) (K := K) (Re.sm j1 s0) H (fun v1 M2 jj H => ?_))
    have j2 : Sm M M2 := Sm.tr j1 jj
    show Go X (d + 1) mc ms kX2_readTimes Q 35 [(0, .ref a0), (1, .int (x1))] [.int (v1)] M2 0 0
    obtain ⟨b2, H⟩ := H
    exact g_zret dX2_readTimes_35 rfl b2 (Nat.zero_le _) (Nat.zero_le _) (hR _ _ j2 H)
  · skip
    replace H := H.2 c1
    refine g_aload_n 0 18 dX2_readTimes_17 rfl rfl ?_
    refine g_getR 21 (a0 + 13) dX2_readTimes_18 rfl flX2_41 (Sm.k j1 s0.1) (Sm.r j1 s0.2.2.2.2.2.2.2.2.2.2.2.2.2.1) ?_
    refine g_aload_n 0 22 dX2_readTimes_21 rfl rfl ?_
    refine g_getI 25 dX2_readTimes_22 rfl flX2_50 (Sm.k j1 s0.1) ?_
    refine h_iaload 26 ((g_mi M1 a0 10)).toNatClampNeg dX2_readTimes_25 rfl rfl (Sm.k j1 s0.2.2.2.2.2.2.2.2.2.2.2.2.2.2) b1 ?_
    refine g_bipush (20) 28 dX2_readTimes_26 rfl rfl ?_
    refine g_icmp_le 36 31 dX2_readTimes_28 rfl rfl (fun c2 => ?_) (fun c2 => ?_)
    · skip
      replace H := H.1 c2
      refine g_aload_n 0 37 dX2_readTimes_36 rfl rfl ?_
      refine g_getR 40 (a0 + 2) dX2_readTimes_37 rfl flX2_20 (Sm.k j1 s0.1) (Sm.r j1 s0.2.2.2.1) ?_
      refine g_getR 43 ((a0 + 2) + 2) dX2_readTimes_40 rfl flX2_117 (Sm.k j1 s0.2.2.2.2.1.1) (Sm.r j1 s0.2.2.2.2.1.2.2.2.1) ?_
      refine g_iload_n 1 44 dX2_readTimes_43 rfl rfl ?_
      refine g_aload_n 0 45 dX2_readTimes_44 rfl rfl ?_
      refine g_getR 48 (a0 + 13) dX2_readTimes_45 rfl flX2_41 (Sm.k j1 s0.1) (Sm.r j1 s0.2.2.2.2.2.2.2.2.2.2.2.2.2.1) ?_
      refine g_aload_n 0 49 dX2_readTimes_48 rfl rfl ?_
      refine g_getI 52 dX2_readTimes_49 rfl flX2_50 (Sm.k j1 s0.1) ?_
      refine h_iaload 53 ((g_mi M1 a0 10)).toNatClampNeg dX2_readTimes_52 rfl rfl (Sm.k j1 s0.2.2.2.2.2.2.2.2.2.2.2.2.2.2) b1 ?_
      obtain ⟨b3, H⟩ := H
      refine h_iastore 54 (x1).toNatClampNeg dX2_readTimes_53 rfl rfl (Sm.k j1 s0.2.2.2.2.1.2.2.2.2.1) b3 ?_
      generalize hM3 : (g_wi M1 ((a0 + 2) + 2) (x1).toNatClampNeg (g_mi M1 (a0 + 13) ((g_mi M1 a0 10)).toNatClampNeg)) = M3
      have j3 : Sm M M3 := by rw [← hM3]; exact (Sm.wi j1)
      replace H := H M3 hM3.symm
      refine g_aload_n 0 55 dX2_readTimes_54 rfl rfl ?_
      refine g_callV (mc1 := 0) (ms1 := 0) (b := a0) (rest := []) (av := []) kX2_pass 58 dX2_readTimes_55 rfl rfl mbX2_111 imX2_pass seX2_pass gcl2.1 (Sm.k j3 s0.1) (Nat.le_of_ble_eq_true rfl) (Nat.zero_le _) (Nat.zero_le _) (uX2_pass (N := N) (K := K) (Re.sm j3 s0) H (fun M4 jj H => ?_))
      have j4 : Sm M M4 := Sm.tr j3 jj
      show Go X (d + 1) mc ms kX2_readTimes Q 58 [(0, .ref a0), (1, .int (x1))] [] M4 0 0
      refine g_iconst (1) 59 dX2_readTimes_58 rfl rfl ?_
      exact g_zret dX2_readTimes_59 rfl (by decide) (Nat.zero_le _) (Nat.zero_le _) (hR _ _ j4 H)
    · skip
      replace H := H.2 c2
      refine g_aload_n 0 32 dX2_readTimes_31 rfl rfl ?_
      refine g_callV (mc1 := 0) (ms1 := 0) (b := a0) (rest := []) (av := []) kX2_fail 35 dX2_readTimes_32 rfl rfl mbX2_74 imX2_fail seX2_fail gcl2.1 (Sm.k j1 s0.1) (Nat.le_of_ble_eq_true rfl) (Nat.zero_le _) (Nat.zero_le _) (uX2_fail (N := N) (K := K) (Re.sm j1 s0) H (fun v2 M5 jj H => ?_))
      have j5 : Sm M M5 := Sm.tr j1 jj
      show Go X (d + 1) mc ms kX2_readTimes Q 35 [(0, .ref a0), (1, .int (x1))] [.int (v2)] M5 0 0
      obtain ⟨b4, H⟩ := H
      exact g_zret dX2_readTimes_35 rfl b4 (Nat.zero_le _) (Nat.zero_le _) (hR _ _ j5 H)
/-! X2_readLookup -/
def pX2_readLookup (N K : Nat) (M : gM) (a0 : Nat) (x1 : Int32) (R : Int32 → gM → Prop) : Prop := pX2_pass N K M a0 (fun M1 => ((x1 = 0 → (vp_in ((g_mi M1 a0 10)) 401) ∧ (((g_mi M1 (a0 + 13) ((g_mi M1 a0 10)).toNatClampNeg) < 0 → pX2_fail N K M1 a0 (fun v1 M2 => (v1 = 0 ∨ v1 = 1) ∧ R v1 M2)) ∧ (¬ (g_mi M1 (a0 + 13) ((g_mi M1 a0 10)).toNatClampNeg) < 0 → ((999 < (g_mi M1 (a0 + 13) ((g_mi M1 a0 10)).toNatClampNeg) → pX2_fail N K M1 a0 (fun v2 M3 => (v2 = 0 ∨ v2 = 1) ∧ R v2 M3)) ∧ (¬ 999 < (g_mi M1 (a0 + 13) ((g_mi M1 a0 10)).toNatClampNeg) → (((g_mi M1 a0 4) < 50 → (vp_in ((g_mi M1 a0 4)) 50) ∧ ∀ M4 : gM, M4 = (g_wi M1 (a0 + 9) ((g_mi M1 a0 4)).toNatClampNeg (g_mi M1 (a0 + 13) ((g_mi M1 a0 10)).toNatClampNeg)) → (vp_in ((g_mi M4 a0 4)) 50) ∧ (x1 = 0 ∨ x1 = 1) ∧ ∀ M5 : gM, M5 = (g_wi M4 (a0 + 10) ((g_mi M4 a0 4)).toNatClampNeg x1) → pX6_put N K M5 (a0 + 2) 12 460 2 (10 + (g_mi M5 a0 4)) (fun v3 M6 => ∀ M7 : gM, M7 = (g_wi M6 a0 4 ((g_mi M6 a0 4) + 1)) → pX2_pass N K M7 a0 (fun M8 => R 1 M8))) ∧ (¬ (g_mi M1 a0 4) < 50 → pX2_fail N K M1 a0 (fun v4 M9 => (v4 = 0 ∨ v4 = 1) ∧ R v4 M9)))))))) ∧ (¬ x1 = 0 → (vp_in ((g_mi M1 a0 10)) 401) ∧ (((g_mi M1 (a0 + 13) ((g_mi M1 a0 10)).toNatClampNeg) < 0 → pX2_fail N K M1 a0 (fun v5 M10 => (v5 = 0 ∨ v5 = 1) ∧ R v5 M10)) ∧ (¬ (g_mi M1 (a0 + 13) ((g_mi M1 a0 10)).toNatClampNeg) < 0 → ((59 < (g_mi M1 (a0 + 13) ((g_mi M1 a0 10)).toNatClampNeg) → pX2_fail N K M1 a0 (fun v6 M11 => (v6 = 0 ∨ v6 = 1) ∧ R v6 M11)) ∧ (¬ 59 < (g_mi M1 (a0 + 13) ((g_mi M1 a0 10)).toNatClampNeg) → (((g_mi M1 a0 4) < 50 → (vp_in ((g_mi M1 a0 4)) 50) ∧ ∀ M12 : gM, M12 = (g_wi M1 (a0 + 9) ((g_mi M1 a0 4)).toNatClampNeg (g_mi M1 (a0 + 13) ((g_mi M1 a0 10)).toNatClampNeg)) → (vp_in ((g_mi M12 a0 4)) 50) ∧ (x1 = 0 ∨ x1 = 1) ∧ ∀ M13 : gM, M13 = (g_wi M12 (a0 + 10) ((g_mi M12 a0 4)).toNatClampNeg x1) → pX6_put N K M13 (a0 + 2) 12 460 2 (10 + (g_mi M13 a0 4)) (fun v7 M14 => ∀ M15 : gM, M15 = (g_wi M14 a0 4 ((g_mi M14 a0 4) + 1)) → pX2_pass N K M15 a0 (fun M16 => R 1 M16))) ∧ (¬ (g_mi M1 a0 4) < 50 → pX2_fail N K M1 a0 (fun v8 M17 => (v8 = 0 ∨ v8 = 1) ∧ R v8 M17))))))))))
set_option maxRecDepth 10000 in
theorem uX2_readLookup {N K : Nat} {X : gX} {d mc ms : Nat} {Q : Option Value → gM → Prop} {M : gM} {a0 : Nat} {x1 : Int32} {R : Int32 → gM → Prop} (s0 : Re M a0) (H : pX2_readLookup N K M a0 x1 R) (hR : ∀ (v : Int32) (M1 : gM), Sm M M1 → R v M1 → Q (some (.int v)) M1) : Cn X (d + 1) mc ms kX2_readLookup [.ref a0, .int (x1)] M Q := by
  unfold pX2_readLookup at H
  refine g_meth rfl rfl (Nat.le_of_ble_eq_true rfl) rfl ?_
  refine g_aload_n 0 1 dX2_readLookup_0 rfl rfl ?_
  refine g_callV (mc1 := 0) (ms1 := 0) (b := a0) (rest := []) (av := []) kX2_pass 4 dX2_readLookup_1 rfl rfl mbX2_111 imX2_pass seX2_pass gcl2.1 s0.1 (Nat.le_of_ble_eq_true rfl) (Nat.zero_le _) (Nat.zero_le _) (uX2_pass (N := N) (K := K) s0 H (fun M1 jj H => ?_))
  have j1 : Sm M M1 := jj
  show Go X (d + 1) mc ms kX2_readLookup Q 4 [(0, .ref a0), (1, .int (x1))] [] M1 0 0
  refine g_iload_n 1 5 dX2_readLookup_4 rfl rfl ?_
  refine g_if_eq 13 8 dX2_readLookup_5 rfl rfl (fun c1 => ?_) (fun c1 => ?_)
  · skip
    replace H := H.1 c1
    refine g_sipush (999) 16 dX2_readLookup_13 rfl rfl ?_
    refine g_istore_n 17 [(2, .int (999)), (0, .ref a0), (1, .int (x1))] dX2_readLookup_16 rfl (Nat.le_of_ble_eq_true rfl) rfl ?_
    refine g_aload_n 1 18 dX2_readLookup_17 rfl rfl ?_
    refine g_getR 21 (a0 + 13) dX2_readLookup_18 rfl flX2_41 (Sm.k j1 s0.1) (Sm.r j1 s0.2.2.2.2.2.2.2.2.2.2.2.2.2.1) ?_
    refine g_aload_n 1 22 dX2_readLookup_21 rfl rfl ?_
    refine g_getI 25 dX2_readLookup_22 rfl flX2_50 (Sm.k j1 s0.1) ?_
    obtain ⟨b1, H⟩ := H
    refine h_iaload 26 ((g_mi M1 a0 10)).toNatClampNeg dX2_readLookup_25 rfl rfl (Sm.k j1 s0.2.2.2.2.2.2.2.2.2.2.2.2.2.2) b1 ?_
    refine g_if_lt 51 29 dX2_readLookup_26 rfl rfl (fun c2 => ?_) (fun c2 => ?_)
    · skip
      replace H := H.1 c2
      refine g_aload_n 1 52 dX2_readLookup_51 rfl rfl ?_
      refine g_callV (mc1 := 0) (ms1 := 0) (b := a0) (rest := []) (av := []) kX2_fail 55 dX2_readLookup_52 rfl rfl mbX2_74 imX2_fail seX2_fail gcl2.1 (Sm.k j1 s0.1) (Nat.le_of_ble_eq_true rfl) (Nat.zero_le _) (Nat.zero_le _) (uX2_fail (N := N) (K := K) (Re.sm j1 s0) H (fun v1 M2 jj H => ?_))
      have j2 : Sm M M2 := Sm.tr j1 jj
      show Go X (d + 1) mc ms kX2_readLookup Q 55 [(2, .int (999)), (0, .ref a0), (1, .int (x1))] [.int (v1)] M2 0 0
      obtain ⟨b2, H⟩ := H
      exact g_zret dX2_readLookup_55 rfl b2 (Nat.zero_le _) (Nat.zero_le _) (hR _ _ j2 H)
    · skip
      replace H := H.2 c2
      refine g_aload_n 1 30 dX2_readLookup_29 rfl rfl ?_
      refine g_getR 33 (a0 + 13) dX2_readLookup_30 rfl flX2_41 (Sm.k j1 s0.1) (Sm.r j1 s0.2.2.2.2.2.2.2.2.2.2.2.2.2.1) ?_
      refine g_aload_n 1 34 dX2_readLookup_33 rfl rfl ?_
      refine g_getI 37 dX2_readLookup_34 rfl flX2_50 (Sm.k j1 s0.1) ?_
      refine h_iaload 38 ((g_mi M1 a0 10)).toNatClampNeg dX2_readLookup_37 rfl rfl (Sm.k j1 s0.2.2.2.2.2.2.2.2.2.2.2.2.2.2) b1 ?_
      refine g_iload_n 0 39 dX2_readLookup_38 rfl rfl ?_
      refine g_icmp_gt 51 42 dX2_readLookup_39 rfl rfl (fun c3 => ?_) (fun c3 => ?_)
      · skip
        replace H := H.1 c3
        refine g_aload_n 1 52 dX2_readLookup_51 rfl rfl ?_
        refine g_callV (mc1 := 0) (ms1 := 0) (b := a0) (rest := []) (av := []) kX2_fail 55 dX2_readLookup_52 rfl rfl mbX2_74 imX2_fail seX2_fail gcl2.1 (Sm.k j1 s0.1) (Nat.le_of_ble_eq_true rfl) (Nat.zero_le _) (Nat.zero_le _) (uX2_fail (N := N) (K := K) (Re.sm j1 s0) H (fun v2 M3 jj H => ?_))
        have j3 : Sm M M3 := Sm.tr j1 jj
        show Go X (d + 1) mc ms kX2_readLookup Q 55 [(2, .int (999)), (0, .ref a0), (1, .int (x1))] [.int (v2)] M3 0 0
        obtain ⟨b3, H⟩ := H
        exact g_zret dX2_readLookup_55 rfl b3 (Nat.zero_le _) (Nat.zero_le _) (hR _ _ j3 H)
      · skip
        replace H := H.2 c3
        refine g_aload_n 1 43 dX2_readLookup_42 rfl rfl ?_
        refine g_getI 46 dX2_readLookup_43 rfl flX2_56 (Sm.k j1 s0.1) ?_
        refine g_bipush (50) 48 dX2_readLookup_46 rfl rfl ?_
        refine g_icmp_lt 56 51 dX2_readLookup_48 rfl rfl (fun c4 => ?_) (fun c4 => ?_)
        · skip
          replace H := H.1 c4
          refine g_aload_n 1 57 dX2_readLookup_56 rfl rfl ?_
          refine g_getR 60 (a0 + 9) dX2_readLookup_57 rfl flX2_24 (Sm.k j1 s0.1) (Sm.r j1 s0.2.2.2.2.2.1) ?_
          refine g_aload_n 1 61 dX2_readLookup_60 rfl rfl ?_
          refine g_getI 64 dX2_readLookup_61 rfl flX2_56 (Sm.k j1 s0.1) ?_
          refine g_aload_n 1 65 dX2_readLookup_64 rfl rfl ?_
          refine g_getR 68 (a0 + 13) dX2_readLookup_65 rfl flX2_41 (Sm.k j1 s0.1) (Sm.r j1 s0.2.2.2.2.2.2.2.2.2.2.2.2.2.1) ?_
          refine g_aload_n 1 69 dX2_readLookup_68 rfl rfl ?_
          refine g_getI 72 dX2_readLookup_69 rfl flX2_50 (Sm.k j1 s0.1) ?_
          refine h_iaload 73 ((g_mi M1 a0 10)).toNatClampNeg dX2_readLookup_72 rfl rfl (Sm.k j1 s0.2.2.2.2.2.2.2.2.2.2.2.2.2.2) b1 ?_
          obtain ⟨b4, H⟩ := H
          refine h_iastore 74 ((g_mi M1 a0 4)).toNatClampNeg dX2_readLookup_73 rfl rfl (Sm.k j1 s0.2.2.2.2.2.2.1) b4 ?_
          generalize hM4 : (g_wi M1 (a0 + 9) ((g_mi M1 a0 4)).toNatClampNeg (g_mi M1 (a0 + 13) ((g_mi M1 a0 10)).toNatClampNeg)) = M4
          have j4 : Sm M M4 := by rw [← hM4]; exact (Sm.wi j1)
          replace H := H M4 hM4.symm
          refine g_aload_n 1 75 dX2_readLookup_74 rfl rfl ?_
          refine g_getR 78 (a0 + 10) dX2_readLookup_75 rfl flX2_27 (Sm.k j4 s0.1) (Sm.r j4 s0.2.2.2.2.2.2.2.1) ?_
          refine g_aload_n 1 79 dX2_readLookup_78 rfl rfl ?_
          refine g_getI 82 dX2_readLookup_79 rfl flX2_56 (Sm.k j4 s0.1) ?_
          refine g_iload_n 2 83 dX2_readLookup_82 rfl rfl ?_
          obtain ⟨b5, H⟩ := H
          obtain ⟨b6, H⟩ := H
          refine h_zastore 84 ((g_mi M4 a0 4)).toNatClampNeg dX2_readLookup_83 rfl rfl (Sm.k j4 s0.2.2.2.2.2.2.2.2.1) b5 b6 ?_
          generalize hM5 : (g_wi M4 (a0 + 10) ((g_mi M4 a0 4)).toNatClampNeg x1) = M5
          have j5 : Sm M M5 := by rw [← hM5]; exact (Sm.wi j4)
          replace H := H M5 hM5.symm
          refine g_aload_n 1 85 dX2_readLookup_84 rfl rfl ?_
          refine g_getR 88 (a0 + 2) dX2_readLookup_85 rfl flX2_20 (Sm.k j5 s0.1) (Sm.r j5 s0.2.2.2.1) ?_
          refine g_iconst (2) 89 dX2_readLookup_88 rfl rfl ?_
          refine g_bipush (10) 91 dX2_readLookup_89 rfl rfl ?_
          refine g_aload_n 1 92 dX2_readLookup_91 rfl rfl ?_
          refine g_getI 95 dX2_readLookup_92 rfl flX2_56 (Sm.k j5 s0.1) ?_
          refine g_iadd 96 dX2_readLookup_95 rfl ?_
          refine g_callV (mc1 := 0) (ms1 := 0) (b := (a0 + 2)) (rest := []) (av := [.int (2), .int ((10 + (g_mi M5 a0 4)))]) kX6_put 99 dX2_readLookup_96 rfl rfl mbX2_124 imX6_put seX6_put gcl6.1 (Sm.k j5 s0.2.2.2.2.1.1) (Nat.le_of_ble_eq_true rfl) (Nat.zero_le _) (Nat.zero_le _) (uX6_put (N := N) (K := K) (Tx.sm j5 s0.2.2.2.2.1) H (fun v3 M6 jj H => ?_))
          have j6 : Sm M M6 := Sm.tr j5 jj
          show Go X (d + 1) mc ms kX2_readLookup Q 99 [(2, .int (999)), (0, .ref a0), (1, .int (x1))] [.int (v3)] M6 0 0
          refine g_pop 100 dX2_readLookup_99 rfl rfl ?_
          refine g_aload_n 1 101 dX2_readLookup_100 rfl rfl ?_
          refine g_dup 102 dX2_readLookup_101 rfl rfl ?_
          refine g_getI 105 dX2_readLookup_102 rfl flX2_56 (Sm.k j6 s0.1) ?_
          refine g_iconst (1) 106 dX2_readLookup_105 rfl rfl ?_
          refine g_iadd 107 dX2_readLookup_106 rfl ?_
          refine g_putI 110 dX2_readLookup_107 rfl flX2_56 (Sm.k j6 s0.1) ?_
          generalize hM7 : (g_wi M6 a0 4 ((g_mi M6 a0 4) + 1)) = M7
          have j7 : Sm M M7 := by rw [← hM7]; exact (Sm.wi j6)
          replace H := H M7 hM7.symm
          refine g_aload_n 1 111 dX2_readLookup_110 rfl rfl ?_
          refine g_callV (mc1 := 0) (ms1 := 0) (b := a0) (rest := []) (av := []) kX2_pass 114 dX2_readLookup_111 rfl rfl mbX2_111 imX2_pass seX2_pass gcl2.1 (Sm.k j7 s0.1) (Nat.le_of_ble_eq_true rfl) (Nat.zero_le _) (Nat.zero_le _) (uX2_pass (N := N) (K := K) (Re.sm j7 s0) H (fun M8 jj H => ?_))
          have j8 : Sm M M8 := Sm.tr j7 jj
          show Go X (d + 1) mc ms kX2_readLookup Q 114 [(2, .int (999)), (0, .ref a0), (1, .int (x1))] [] M8 0 0
          refine g_iconst (1) 115 dX2_readLookup_114 rfl rfl ?_
          exact g_zret dX2_readLookup_115 rfl (by decide) (Nat.zero_le _) (Nat.zero_le _) (hR _ _ j8 H)
        · skip
          replace H := H.2 c4
          refine g_aload_n 1 52 dX2_readLookup_51 rfl rfl ?_
          refine g_callV (mc1 := 0) (ms1 := 0) (b := a0) (rest := []) (av := []) kX2_fail 55 dX2_readLookup_52 rfl rfl mbX2_74 imX2_fail seX2_fail gcl2.1 (Sm.k j1 s0.1) (Nat.le_of_ble_eq_true rfl) (Nat.zero_le _) (Nat.zero_le _) (uX2_fail (N := N) (K := K) (Re.sm j1 s0) H (fun v4 M9 jj H => ?_))
          have j9 : Sm M M9 := Sm.tr j1 jj
          show Go X (d + 1) mc ms kX2_readLookup Q 55 [(2, .int (999)), (0, .ref a0), (1, .int (x1))] [.int (v4)] M9 0 0
          obtain ⟨b7, H⟩ := H
          exact g_zret dX2_readLookup_55 rfl b7 (Nat.zero_le _) (Nat.zero_le _) (hR _ _ j9 H)
  · skip
    replace H := H.2 c1
    refine g_bipush (59) 10 dX2_readLookup_8 rfl rfl ?_
    refine g_goto 16 dX2_readLookup_10 rfl ?_
    refine g_istore_n 17 [(2, .int (59)), (0, .ref a0), (1, .int (x1))] dX2_readLookup_16 rfl (Nat.le_of_ble_eq_true rfl) rfl ?_
    refine g_aload_n 1 18 dX2_readLookup_17 rfl rfl ?_
    refine g_getR 21 (a0 + 13) dX2_readLookup_18 rfl flX2_41 (Sm.k j1 s0.1) (Sm.r j1 s0.2.2.2.2.2.2.2.2.2.2.2.2.2.1) ?_
    refine g_aload_n 1 22 dX2_readLookup_21 rfl rfl ?_
    refine g_getI 25 dX2_readLookup_22 rfl flX2_50 (Sm.k j1 s0.1) ?_
    obtain ⟨b8, H⟩ := H
    refine h_iaload 26 ((g_mi M1 a0 10)).toNatClampNeg dX2_readLookup_25 rfl rfl (Sm.k j1 s0.2.2.2.2.2.2.2.2.2.2.2.2.2.2) b8 ?_
    refine g_if_lt 51 29 dX2_readLookup_26 rfl rfl (fun c5 => ?_) (fun c5 => ?_)
    · skip
      replace H := H.1 c5
      refine g_aload_n 1 52 dX2_readLookup_51 rfl rfl ?_
      refine g_callV (mc1 := 0) (ms1 := 0) (b := a0) (rest := []) (av := []) kX2_fail 55 dX2_readLookup_52 rfl rfl mbX2_74 imX2_fail seX2_fail gcl2.1 (Sm.k j1 s0.1) (Nat.le_of_ble_eq_true rfl) (Nat.zero_le _) (Nat.zero_le _) (uX2_fail (N := N) (K := K) (Re.sm j1 s0) H (fun v5 M10 jj H => ?_))
      have j10 : Sm M M10 := Sm.tr j1 jj
      show Go X (d + 1) mc ms kX2_readLookup Q 55 [(2, .int (59)), (0, .ref a0), (1, .int (x1))] [.int (v5)] M10 0 0
      obtain ⟨b9, H⟩ := H
      exact g_zret dX2_readLookup_55 rfl b9 (Nat.zero_le _) (Nat.zero_le _) (hR _ _ j10 H)
    · skip
      replace H := H.2 c5
      refine g_aload_n 1 30 dX2_readLookup_29 rfl rfl ?_
      refine g_getR 33 (a0 + 13) dX2_readLookup_30 rfl flX2_41 (Sm.k j1 s0.1) (Sm.r j1 s0.2.2.2.2.2.2.2.2.2.2.2.2.2.1) ?_
      refine g_aload_n 1 34 dX2_readLookup_33 rfl rfl ?_
      refine g_getI 37 dX2_readLookup_34 rfl flX2_50 (Sm.k j1 s0.1) ?_
      refine h_iaload 38 ((g_mi M1 a0 10)).toNatClampNeg dX2_readLookup_37 rfl rfl (Sm.k j1 s0.2.2.2.2.2.2.2.2.2.2.2.2.2.2) b8 ?_
      refine g_iload_n 0 39 dX2_readLookup_38 rfl rfl ?_
      refine g_icmp_gt 51 42 dX2_readLookup_39 rfl rfl (fun c6 => ?_) (fun c6 => ?_)
      · skip
        replace H := H.1 c6
        refine g_aload_n 1 52 dX2_readLookup_51 rfl rfl ?_
        refine g_callV (mc1 := 0) (ms1 := 0) (b := a0) (rest := []) (av := []) kX2_fail 55 dX2_readLookup_52 rfl rfl mbX2_74 imX2_fail seX2_fail gcl2.1 (Sm.k j1 s0.1) (Nat.le_of_ble_eq_true rfl) (Nat.zero_le _) (Nat.zero_le _) (uX2_fail (N := N) (K := K) (Re.sm j1 s0) H (fun v6 M11 jj H => ?_))
        have j11 : Sm M M11 := Sm.tr j1 jj
        show Go X (d + 1) mc ms kX2_readLookup Q 55 [(2, .int (59)), (0, .ref a0), (1, .int (x1))] [.int (v6)] M11 0 0
        obtain ⟨b10, H⟩ := H
        exact g_zret dX2_readLookup_55 rfl b10 (Nat.zero_le _) (Nat.zero_le _) (hR _ _ j11 H)
      · skip
        replace H := H.2 c6
        refine g_aload_n 1 43 dX2_readLookup_42 rfl rfl ?_
        refine g_getI 46 dX2_readLookup_43 rfl flX2_56 (Sm.k j1 s0.1) ?_
        refine g_bipush (50) 48 dX2_readLookup_46 rfl rfl ?_
        refine g_icmp_lt 56 51 dX2_readLookup_48 rfl rfl (fun c7 => ?_) (fun c7 => ?_)
        · skip
          replace H := H.1 c7
          refine g_aload_n 1 57 dX2_readLookup_56 rfl rfl ?_
          refine g_getR 60 (a0 + 9) dX2_readLookup_57 rfl flX2_24 (Sm.k j1 s0.1) (Sm.r j1 s0.2.2.2.2.2.1) ?_
          refine g_aload_n 1 61 dX2_readLookup_60 rfl rfl ?_
          refine g_getI 64 dX2_readLookup_61 rfl flX2_56 (Sm.k j1 s0.1) ?_
          refine g_aload_n 1 65 dX2_readLookup_64 rfl rfl ?_
          refine g_getR 68 (a0 + 13) dX2_readLookup_65 rfl flX2_41 (Sm.k j1 s0.1) (Sm.r j1 s0.2.2.2.2.2.2.2.2.2.2.2.2.2.1) ?_
          refine g_aload_n 1 69 dX2_readLookup_68 rfl rfl ?_
          refine g_getI 72 dX2_readLookup_69 rfl flX2_50 (Sm.k j1 s0.1) ?_
          refine h_iaload 73 ((g_mi M1 a0 10)).toNatClampNeg dX2_readLookup_72 rfl rfl (Sm.k j1 s0.2.2.2.2.2.2.2.2.2.2.2.2.2.2) b8 ?_
          obtain ⟨b11, H⟩ := H
          refine h_iastore 74 ((g_mi M1 a0 4)).toNatClampNeg dX2_readLookup_73 rfl rfl (Sm.k j1 s0.2.2.2.2.2.2.1) b11 ?_
          generalize hM12 : (g_wi M1 (a0 + 9) ((g_mi M1 a0 4)).toNatClampNeg (g_mi M1 (a0 + 13) ((g_mi M1 a0 10)).toNatClampNeg)) = M12
          have j12 : Sm M M12 := by rw [← hM12]; exact (Sm.wi j1)
          replace H := H M12 hM12.symm
          refine g_aload_n 1 75 dX2_readLookup_74 rfl rfl ?_
          refine g_getR 78 (a0 + 10) dX2_readLookup_75 rfl flX2_27 (Sm.k j12 s0.1) (Sm.r j12 s0.2.2.2.2.2.2.2.1) ?_
          refine g_aload_n 1 79 dX2_readLookup_78 rfl rfl ?_
          refine g_getI 82 dX2_readLookup_79 rfl flX2_56 (Sm.k j12 s0.1) ?_
          refine g_iload_n 2 83 dX2_readLookup_82 rfl rfl ?_
          obtain ⟨b12, H⟩ := H
          obtain ⟨b13, H⟩ := H
          refine h_zastore 84 ((g_mi M12 a0 4)).toNatClampNeg dX2_readLookup_83 rfl rfl (Sm.k j12 s0.2.2.2.2.2.2.2.2.1) b12 b13 ?_
          generalize hM13 : (g_wi M12 (a0 + 10) ((g_mi M12 a0 4)).toNatClampNeg x1) = M13
          have j13 : Sm M M13 := by rw [← hM13]; exact (Sm.wi j12)
          replace H := H M13 hM13.symm
          refine g_aload_n 1 85 dX2_readLookup_84 rfl rfl ?_
          refine g_getR 88 (a0 + 2) dX2_readLookup_85 rfl flX2_20 (Sm.k j13 s0.1) (Sm.r j13 s0.2.2.2.1) ?_
          refine g_iconst (2) 89 dX2_readLookup_88 rfl rfl ?_
          refine g_bipush (10) 91 dX2_readLookup_89 rfl rfl ?_
          refine g_aload_n 1 92 dX2_readLookup_91 rfl rfl ?_
          refine g_getI 95 dX2_readLookup_92 rfl flX2_56 (Sm.k j13 s0.1) ?_
          refine g_iadd 96 dX2_readLookup_95 rfl ?_
          refine g_callV (mc1 := 0) (ms1 := 0) (b := (a0 + 2)) (rest := []) (av := [.int (2), .int ((10 + (g_mi M13 a0 4)))]) kX6_put 99 dX2_readLookup_96 rfl rfl mbX2_124 imX6_put seX6_put gcl6.1 (Sm.k j13 s0.2.2.2.2.1.1) (Nat.le_of_ble_eq_true rfl) (Nat.zero_le _) (Nat.zero_le _) (uX6_put (N := N) (K := K) (Tx.sm j13 s0.2.2.2.2.1) H (fun v7 M14 jj H => ?_))
          have j14 : Sm M M14 := Sm.tr j13 jj
          show Go X (d + 1) mc ms kX2_readLookup Q 99 [(2, .int (59)), (0, .ref a0), (1, .int (x1))] [.int (v7)] M14 0 0
          refine g_pop 100 dX2_readLookup_99 rfl rfl ?_
          refine g_aload_n 1 101 dX2_readLookup_100 rfl rfl ?_
          refine g_dup 102 dX2_readLookup_101 rfl rfl ?_
          refine g_getI 105 dX2_readLookup_102 rfl flX2_56 (Sm.k j14 s0.1) ?_
          refine g_iconst (1) 106 dX2_readLookup_105 rfl rfl ?_
          refine g_iadd 107 dX2_readLookup_106 rfl ?_
          refine g_putI 110 dX2_readLookup_107 rfl flX2_56 (Sm.k j14 s0.1) ?_
          generalize hM15 : (g_wi M14 a0 4 ((g_mi M14 a0 4) + 1)) = M15
          have j15 : Sm M M15 := by rw [← hM15]; exact (Sm.wi j14)
          replace H := H M15 hM15.symm
          refine g_aload_n 1 111 dX2_readLookup_110 rfl rfl ?_
          refine g_callV (mc1 := 0) (ms1 := 0) (b := a0) (rest := []) (av := []) kX2_pass 114 dX2_readLookup_111 rfl rfl mbX2_111 imX2_pass seX2_pass gcl2.1 (Sm.k j15 s0.1) (Nat.le_of_ble_eq_true rfl) (Nat.zero_le _) (Nat.zero_le _) (uX2_pass (N := N) (K := K) (Re.sm j15 s0) H (fun M16 jj H => ?_))
          have j16 : Sm M M16 := Sm.tr j15 jj
          show Go X (d + 1) mc ms kX2_readLookup Q 114 [(2, .int (59)), (0, .ref a0), (1, .int (x1))] [] M16 0 0
          refine g_iconst (1) 115 dX2_readLookup_114 rfl rfl ?_
          exact g_zret dX2_readLookup_115 rfl (by decide) (Nat.zero_le _) (Nat.zero_le _) (hR _ _ j16 H)
        · skip
          replace H := H.2 c7
          refine g_aload_n 1 52 dX2_readLookup_51 rfl rfl ?_
          refine g_callV (mc1 := 0) (ms1 := 0) (b := a0) (rest := []) (av := []) kX2_fail 55 dX2_readLookup_52 rfl rfl mbX2_74 imX2_fail seX2_fail gcl2.1 (Sm.k j1 s0.1) (Nat.le_of_ble_eq_true rfl) (Nat.zero_le _) (Nat.zero_le _) (uX2_fail (N := N) (K := K) (Re.sm j1 s0) H (fun v8 M17 jj H => ?_))
          have j17 : Sm M M17 := Sm.tr j1 jj
          show Go X (d + 1) mc ms kX2_readLookup Q 55 [(2, .int (59)), (0, .ref a0), (1, .int (x1))] [.int (v8)] M17 0 0
          obtain ⟨b14, H⟩ := H
          exact g_zret dX2_readLookup_55 rfl b14 (Nat.zero_le _) (Nat.zero_le _) (hR _ _ j17 H)
