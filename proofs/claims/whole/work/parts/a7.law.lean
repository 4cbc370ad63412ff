/-! law(): over the reading as a weakest precondition. -/
theorem uX8_law {N K : Nat} {X : gX} {d : Nat} {Q : Option Value → gM → Prop} {M : gM} {a0 b : Nat} {R2 : Int32 → gM → Prop} (s0 : Ph M a0) (hb : g_nx M = b) (hlt : ∀ c, g_kd M c ≠ none → c < b)
    (hE : ¬ 6 ≤ g_mi M (a0 + 1) 5 → pX2_read N K M (a0 + 282) 0 R2)
    (hS : ∀ v1 M1, ¬ 6 ≤ g_mi M (a0 + 1) 5 → Sm M M1 → R2 v1 M1 → ¬ v1 = 0 → ∃ (n m : Nat) (x y v : Int32), g_mi M1 (a0 + 282 + 2) 6 = x ∧ g_mi M1 (a0 + 282 + 2) 7 = y ∧ g_mi M1 (a0 + 1) 5 = v ∧ (x.toNatClampNeg = n ∧ y.toNatClampNeg = m ∧ ¬ x < 0 ∧ ¬ y < 0 ∧ n ≤ 12 ∧ m ≤ 460 ∧ vp_in v 6) ∧ ∀ M2, Fr b M1 M2 → g_nx M2 = b + 7 → Tx M2 b n m → TxC M1 M2 (a0 + 282 + 2) b n m x y → g_mi M2 (a0 + 1) 5 = v → Q (some (.int (fX8_accept a0 (v + 1 - 1)))) (mX8_accept (g_wi (g_wr M2 (a0 + 1 + 10) v.toNatClampNeg (some b)) (a0 + 1) 5 (v + 1)) a0 (v + 1 - 1)))
    (hQ1 : 6 ≤ g_mi M (a0 + 1) 5 → Q (some (.int (fX8_refuse a0 (-5)))) (mX8_refuse (g_wi M (a0 + 282) 5 0) a0 (-5)))
    (hQ2 : ∀ v1 M1, ¬ 6 ≤ g_mi M (a0 + 1) 5 → Sm M M1 → R2 v1 M1 → v1 = 0 → Q (some (.int (fX8_refuse a0 (-6)))) (mX8_refuse M1 a0 (-6))) : Cn X (d + K + 7) 7 976 kX8_law [.ref a0] M Q := by
  refine g_meth rfl rfl (Nat.le_of_ble_eq_true rfl) rfl ?_
  refine g_aload_n 0 1 dX8_law_0 rfl rfl ?_
  refine g_getR 4 (a0 + 1) dX8_law_1 rfl flX8_14 s0.1 s0.2.1 ?_
  refine g_getI 7 dX8_law_4 rfl flX8_175 s0.2.2.1.1 ?_
  refine g_bipush (6) 9 dX8_law_7 rfl rfl ?_
  refine g_icmp_lt 27 12 dX8_law_9 rfl rfl (fun c1 => ?_) (fun c1 => ?_)
  · have c2 : ¬ 6 ≤ g_mi M (a0 + 1) 5 := fun q => (Int32.not_lt.mpr q) c1
    refine g_aload_n 0 28 dX8_law_27 rfl rfl ?_
    refine g_getR 31 (a0 + 282) dX8_law_28 rfl flX8_61 s0.1 s0.2.2.2.2.2.2.2.2.2.2.2.2.2.2.2.2.2.1 ?_
    refine g_iconst (0) 32 dX8_law_31 rfl rfl ?_
    refine g_callV (mc1 := 0) (ms1 := 0) (b := a0 + 282) (rest := []) (av := [.int (0)]) kX2_read 35 dX8_law_32 rfl rfl mbX8_178 imX2_read seX2_read gcl2.1 s0.2.2.2.2.2.2.2.2.2.2.2.2.2.2.2.2.2.2.1.1 (Nat.le_of_ble_eq_true rfl) (Nat.zero_le _) (Nat.zero_le _) (uX2_read (N := N) (K := K) s0.2.2.2.2.2.2.2.2.2.2.2.2.2.2.2.2.2.2.1 (hE c2) (fun v1 M1 j1 r1 => ?_))
    show Go X (d + K + 6 + 1) 7 976 kX8_law Q 35 [(0, .ref a0)] [.int v1] M1 0 0
    have s1 : Ph M1 a0 := Ph.sm j1 s0
    refine g_if_ne 45 38 dX8_law_35 rfl rfl (fun c3 => ?_) (fun c3 => ?_)
    · obtain ⟨n, m, x, y, v, hx, hy, hv, ⟨e1, e2, e3, e4, e5, e6, e7⟩, hQ3⟩ := hS v1 M1 c2 j1 r1 c3
      have hb1 : g_nx M1 = b := by rw [j1.2.2.1]; exact hb
      have hlt1 : ∀ c, g_kd M1 c ≠ none → c < b := fun c hc => hlt c (by rw [← j1.1]; exact hc)
      refine g_aload_n 0 46 dX8_law_45 rfl rfl ?_
      refine g_getR 49 (a0 + 1) dX8_law_46 rfl flX8_14 s1.1 s1.2.1 ?_
      refine g_getR 52 (a0 + 1 + 10) dX8_law_49 rfl flX8_182 s1.2.2.1.1 s1.2.2.1.2.2.2.2.2.2.2.1 ?_
      refine g_aload_n 0 53 dX8_law_52 rfl rfl ?_
      refine g_getR 56 (a0 + 1) dX8_law_53 rfl flX8_14 s1.1 s1.2.1 ?_
      refine g_getI 59 dX8_law_56 rfl flX8_175 s1.2.2.1.1 ?_
      rw [hv]
      refine g_aload_n 0 60 dX8_law_59 rfl rfl ?_
      refine g_getR 63 (a0 + 282) dX8_law_60 rfl flX8_61 s1.1 s1.2.2.2.2.2.2.2.2.2.2.2.2.2.2.2.2.2.1 ?_
      refine g_getR 66 (a0 + 282 + 2) dX8_law_63 rfl flX8_186 s1.2.2.2.2.2.2.2.2.2.2.2.2.2.2.2.2.2.2.1.1 s1.2.2.2.2.2.2.2.2.2.2.2.2.2.2.2.2.2.2.1.2.2.2.1 ?_
      refine g_callV (mc1 := 7) (ms1 := 4 * n + 2 * m + 8) (b := a0 + 282 + 2) (rest := [.int v, .ref (a0 + 1 + 10)]) (av := []) kX6_trimmed 69 dX8_law_66 rfl rfl mbX8_189 imX6_trimmed seX6_trimmed gcl6.1 s1.2.2.2.2.2.2.2.2.2.2.2.2.2.2.2.2.2.2.1.2.2.2.2.1.1 (Nat.le_of_ble_eq_true rfl) (Nat.le_of_ble_eq_true rfl) (by omega) (Cn.cd (d1 := d + K + 4 + 2) (by omega) (tX6_trimmed s1.2.2.2.2.2.2.2.2.2.2.2.2.2.2.2.2.2.2.1.2.2.2.2.1 hlt1 hb1 hx hy e1 e2 e3 e4 (by omega) (by omega) e5 e6 ?_))
      intro M2 hF hn2 ht hc
      show Go X (d + K + 6 + 1) 7 976 kX8_law Q 69 [(0, .ref a0)] [.ref b, .int v, .ref (a0 + 1 + 10)] M2 7 (0 + (4 * n + 2 * m + 8))
      have hq : Sq M1 M2 := Sq.fr hF hlt1 (by rw [hb1, hn2]; omega)
      have s2 : Ph M2 a0 := Ph.sq hq s1
      have hv2 : g_mi M2 (a0 + 1) 5 = v := by
        rw [← hv]
        exact congrFun (hF (a0 + 1) (hlt1 (a0 + 1) (by rw [s1.2.2.1.1]; simp))).2.2.1 5
      refine g_aastore (t := 5) 70 dX8_law_69 rfl s2.2.2.1.2.2.2.2.2.2.2.2 (by decide) rfl ht.1 gcl6.1 e7 ?_
      have s3 : Ph (g_wr M2 (a0 + 1 + 10) v.toNatClampNeg (some b)) a0 := Ph.sq (Sq.wr s2.2.2.1.2.2.2.2.2.2.2.2) s2
      have hv3 : g_mi (g_wr M2 (a0 + 1 + 10) v.toNatClampNeg (some b)) (a0 + 1) 5 = v := hv2
      have hq3 := hQ3 M2 hF hn2 ht hc hv2
      generalize g_wr M2 (a0 + 1 + 10) v.toNatClampNeg (some b) = M3 at s3 hv3 hq3 ⊢
      refine g_aload_n 0 71 dX8_law_70 rfl rfl ?_
      refine g_getR 74 (a0 + 1) dX8_law_71 rfl flX8_14 s3.1 s3.2.1 ?_
      refine g_dup 75 dX8_law_74 rfl rfl ?_
      refine g_getI 78 dX8_law_75 rfl flX8_175 s3.2.2.1.1 ?_
      rw [hv3]
      refine g_iconst (1) 79 dX8_law_78 rfl rfl ?_
      refine g_iadd 80 dX8_law_79 rfl ?_
      refine g_putI 83 dX8_law_80 rfl flX8_175 s3.2.2.1.1 ?_
      refine g_aload_n 0 84 dX8_law_83 rfl rfl ?_
      refine g_aload_n 0 85 dX8_law_84 rfl rfl ?_
      refine g_getR 88 (a0 + 1) dX8_law_85 rfl flX8_14 s3.1 s3.2.1 ?_
      refine g_getI 91 dX8_law_88 rfl flX8_175 s3.2.2.1.1 ?_
      rw [show g_mi (g_wi M3 (a0 + 1) 5 (v + 1)) (a0 + 1) 5 = v + 1 from by rw [mi_wi, if_pos ⟨rfl, rfl⟩]]
      refine g_iconst (1) 92 dX8_law_91 rfl rfl ?_
      refine g_isub 93 dX8_law_92 rfl ?_
      refine g_callV (mc1 := 0) (ms1 := 0) (b := a0) (rest := []) (av := [.int (v + 1 - 1)]) kX8_accept 96 dX8_law_93 rfl rfl mbX8_155 imX8_accept seX8_accept gcl8.1 s3.1 (Nat.le_of_ble_eq_true rfl) (Nat.le_of_ble_eq_true rfl) (by omega) (tX8_accept (Ph.sm (Sm.wi Sm.rf) s3) ?_)
      exact g_iret dX8_law_96 rfl (Nat.le_of_ble_eq_true rfl) (by omega) hq3
    · refine g_aload_n 0 39 dX8_law_38 rfl rfl ?_
      refine g_bipush (-6) 41 dX8_law_39 rfl rfl ?_
      refine g_callV (mc1 := 0) (ms1 := 0) (b := a0) (rest := []) (av := [.int (-6)]) kX8_refuse 44 dX8_law_41 rfl rfl mbX8_146 imX8_refuse seX8_refuse gcl8.1 s1.1 (Nat.le_of_ble_eq_true rfl) (Nat.zero_le _) (Nat.zero_le _) (tX8_refuse s1 ?_)
      exact g_iret dX8_law_44 rfl (Nat.zero_le _) (Nat.zero_le _) (hQ2 v1 M1 c2 j1 r1 c3)
  · have c2 : 6 ≤ g_mi M (a0 + 1) 5 := Int32.not_lt.mp c1
    refine g_aload_n 0 13 dX8_law_12 rfl rfl ?_
    refine g_getR 16 (a0 + 282) dX8_law_13 rfl flX8_61 s0.1 s0.2.2.2.2.2.2.2.2.2.2.2.2.2.2.2.2.2.1 ?_
    refine g_iconst (0) 17 dX8_law_16 rfl rfl ?_
    refine g_putI 20 dX8_law_17 rfl flX8_158 s0.2.2.2.2.2.2.2.2.2.2.2.2.2.2.2.2.2.2.1.1 ?_
    refine g_aload_n 0 21 dX8_law_20 rfl rfl ?_
    refine g_bipush (-5) 23 dX8_law_21 rfl rfl ?_
    refine g_callV (mc1 := 0) (ms1 := 0) (b := a0) (rest := []) (av := [.int (-5)]) kX8_refuse 26 dX8_law_23 rfl rfl mbX8_146 imX8_refuse seX8_refuse gcl8.1 s0.1 (Nat.le_of_ble_eq_true rfl) (Nat.zero_le _) (Nat.zero_le _) (tX8_refuse (Ph.sm (Sm.wi Sm.rf) s0) ?_)
    exact g_iret dX8_law_26 rfl (Nat.zero_le _) (Nat.zero_le _) (hQ1 c2)
