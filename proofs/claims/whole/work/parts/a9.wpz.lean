/-! X9_goesAlong, once more -/
def pZ9_goesAlong_179 (N K : Nat) (R : gM → Prop) (M : gM) (a0 : Nat) : Prop := ∀ M1 : gM, M1 = (g_wi M a0 22 ((g_mi M a0 22) + 1)) → R M1
def pZ9_goesAlong_156 (N K : Nat) (R : gM → Prop) (M : gM) (a0 : Nat) : Prop := (((g_mi M a0 45) = 0 → ∀ M1 : gM, M1 = (g_wi M a0 45 0) → pZ9_goesAlong_179 N K R M1 a0) ∧ (¬ (g_mi M a0 45) = 0 → ((¬ (g_mi M a0 24) = 0 → ∀ M2 : gM, M2 = (g_wi M a0 45 0) → pZ9_goesAlong_179 N K R M2 a0) ∧ ((g_mi M a0 24) = 0 → ∀ M3 : gM, M3 = (g_wi M a0 45 1) → pZ9_goesAlong_179 N K R M3 a0))))
def pZ9_goesAlong_126 (N K : Nat) (R : gM → Prop) (M : gM) (a0 : Nat) (x2 : Int32) : Prop := ∀ M1 : gM, M1 = (g_wi M a0 24 0) → pX9_passes0 N K M1 a0 3 (fun v1 M2 => Sm M1 M2 → ((v1 = 0 → ∀ M3 : gM, M3 = (g_wi M2 a0 45 1) → pZ9_goesAlong_156 N K R M3 a0) ∧ (¬ v1 = 0 → pX9_testOf N K M2 a0 x2 (fun v2 M4 => Sm M2 M4 → ((v2 = 0 → ∀ M5 : gM, M5 = (g_wi M4 a0 45 0) → pZ9_goesAlong_156 N K R M5 a0) ∧ (¬ v2 = 0 → ∀ M6 : gM, M6 = (g_wi M4 a0 45 1) → pZ9_goesAlong_156 N K R M6 a0))))))
def pZ9_goesAlong_85 (N K : Nat) (R : gM → Prop) (M : gM) (a0 : Nat) (x2 : Int32) : Prop := ∀ M1 : gM, M1 = (g_wi M a0 42 1) → pX9_passes0 N K M1 a0 22 (fun v1 M2 => Sm M1 M2 → ((v1 = 0 → pZ9_goesAlong_126 N K R M2 a0 x2) ∧ (¬ v1 = 0 → (vp_in ((3012 + (g_mi M2 a0 22))) 5812) ∧ ∀ M3 : gM, M3 = (g_wi M2 a0 42 (g_mi M2 (a0 + 2) ((3012 + (g_mi M2 a0 22))).toNatClampNeg)) → ∀ M4 : gM, M4 = (g_wi M3 a0 22 ((g_mi M3 a0 22) + 1)) → pZ9_goesAlong_126 N K R M4 a0 x2)))
def pZ9_goesAlong_69 (N K : Nat) (R : gM → Prop) (M : gM) (a0 : Nat) (x2 : Int32) : Prop := ((¬ (g_mi M a0 24) = 0 → ∀ M1 : gM, M1 = (g_wi M a0 44 0) → pZ9_goesAlong_85 N K R M1 a0 x2) ∧ ((g_mi M a0 24) = 0 → ∀ M2 : gM, M2 = (g_wi M a0 44 1) → pZ9_goesAlong_85 N K R M2 a0 x2))
def pZ9_goesAlong (N K : Nat) (M : gM) (a0 : Nat) (x1 : Int32) (x2 : Int32) (R : gM → Prop) : Prop := ∀ M1 : gM, M1 = (g_wi M a0 25 1) → ∀ M2 : gM, M2 = (g_wi M1 a0 23 x1) → ∀ M3 : gM, M3 = (g_wi M2 a0 22 (g_mi M2 a0 41)) → (EX9_codeAt M3 a0 (g_mi M3 a0 22)) ∧ ∀ v1 : Int32, v1 = (fX9_codeAt M3 a0 (g_mi M3 a0 22)) → ∀ M4 : gM, M4 = (g_wi M3 a0 43 v1) → ∀ M5 : gM, M5 = (g_wi M4 a0 22 ((g_mi M4 a0 22) + 1)) → ∀ M6 : gM, M6 = (g_wi M5 a0 24 0) → ((¬ (g_mi M6 a0 43) = 21 → pX9_sumOf N K M6 a0 x2 (fun v2 M7 => Sm M6 M7 → ∀ M8 : gM, M8 = (g_wl M7 (a0 + 22) 0 v2) → pZ9_goesAlong_69 N K R M8 a0 x2)) ∧ ((g_mi M6 a0 43) = 21 → ∀ M9 : gM, M9 = (g_wl M6 (a0 + 22) 0 0) → pZ9_goesAlong_69 N K R M9 a0 x2))
set_option maxRecDepth 10000 in
theorem uxZ9_goesAlong_179 {N K : Nat} {X : gX} {d mc ms : Nat} {Q : Option Value → gM → Prop} {R : gM → Prop} {M : gM} {a0 : Nat} (s0 : Mo M a0) (H : pZ9_goesAlong_179 N K R M a0) (hR : ∀ (M1 : gM), Sl M M1 → R M1 → Q none M1) : Go X (d + K + 7) mc ms kX9_goesAlong Q 179 [(0, .ref a0)] [] M 0 0 := by
  unfold pZ9_goesAlong_179 at H
  refine g_aload_n 0 180 dX9_goesAlong_179 rfl rfl ?_
  refine g_dup 181 dX9_goesAlong_180 rfl rfl ?_
  refine g_getI 184 dX9_goesAlong_181 rfl flX9_269 s0.1 ?_
  refine g_iconst (1) 185 dX9_goesAlong_184 rfl rfl ?_
  refine g_iadd 186 dX9_goesAlong_185 rfl ?_
  refine g_putI 189 dX9_goesAlong_186 rfl flX9_269 s0.1 ?_
  generalize hM1 : (g_wi M a0 22 ((g_mi M a0 22) + 1)) = M1
  have j1 : Sm M M1 := by rw [← hM1]; exact (Sm.wi Sm.rf)
  replace H := H M1 hM1.symm
  exact g_vret dX9_goesAlong_189 rfl (Nat.zero_le _) (Nat.zero_le _) (hR _ (Sm.l j1) H)
set_option maxRecDepth 10000 in
theorem uxZ9_goesAlong_156 {N K : Nat} {X : gX} {d mc ms : Nat} {Q : Option Value → gM → Prop} {R : gM → Prop} {M : gM} {a0 : Nat} (s0 : Mo M a0) (H : pZ9_goesAlong_156 N K R M a0) (hR : ∀ (M1 : gM), Sl M M1 → R M1 → Q none M1) : Go X (d + K + 7) mc ms kX9_goesAlong Q 156 [(0, .ref a0)] [] M 0 0 := by
  unfold pZ9_goesAlong_156 at H
  refine g_aload_n 0 157 dX9_goesAlong_156 rfl rfl ?_
  refine g_aload_n 0 158 dX9_goesAlong_157 rfl rfl ?_
  refine g_getI 161 dX9_goesAlong_158 rfl flX9_458 s0.1 ?_
  refine g_if_eq 175 164 dX9_goesAlong_161 rfl rfl (fun c1 => ?_) (fun c1 => ?_)
  · skip
    replace H := H.1 c1
    refine g_iconst (0) 176 dX9_goesAlong_175 rfl rfl ?_
    refine g_putZ 179 dX9_goesAlong_176 rfl flX9_458 s0.1 (by decide) ?_
    generalize hM1 : (g_wi M a0 45 0) = M1
    have j1 : Sm M M1 := by rw [← hM1]; exact (Sm.wi Sm.rf)
    replace H := H M1 hM1.symm
    exact uxZ9_goesAlong_179 (N := N) (K := K) (Mo.sm j1 s0) H (fun M1 j r => hR M1 (Sl.tr (Sm.l j1) j) r)
  · skip
    replace H := H.2 c1
    refine g_aload_n 0 165 dX9_goesAlong_164 rfl rfl ?_
    refine g_getI 168 dX9_goesAlong_165 rfl flX9_279 s0.1 ?_
    refine g_if_ne 175 171 dX9_goesAlong_168 rfl rfl (fun c2 => ?_) (fun c2 => ?_)
    · skip
      replace H := H.1 c2
      refine g_iconst (0) 176 dX9_goesAlong_175 rfl rfl ?_
      refine g_putZ 179 dX9_goesAlong_176 rfl flX9_458 s0.1 (by decide) ?_
      generalize hM2 : (g_wi M a0 45 0) = M2
      have j2 : Sm M M2 := by rw [← hM2]; exact (Sm.wi Sm.rf)
      replace H := H M2 hM2.symm
      exact uxZ9_goesAlong_179 (N := N) (K := K) (Mo.sm j2 s0) H (fun M1 j r => hR M1 (Sl.tr (Sm.l j2) j) r)
    · skip
      replace H := H.2 c2
      refine g_iconst (1) 172 dX9_goesAlong_171 rfl rfl ?_
      refine g_goto 176 dX9_goesAlong_172 rfl ?_
      refine g_putZ 179 dX9_goesAlong_176 rfl flX9_458 s0.1 (by decide) ?_
      generalize hM3 : (g_wi M a0 45 1) = M3
      have j3 : Sm M M3 := by rw [← hM3]; exact (Sm.wi Sm.rf)
      replace H := H M3 hM3.symm
      exact uxZ9_goesAlong_179 (N := N) (K := K) (Mo.sm j3 s0) H (fun M1 j r => hR M1 (Sl.tr (Sm.l j3) j) r)
set_option maxRecDepth 10000 in
theorem uxZ9_goesAlong_126 {N K : Nat} {X : gX} {d mc ms : Nat} {Q : Option Value → gM → Prop} {R : gM → Prop} {M : gM} {a0 : Nat} {x2 : Int32} (s0 : Mo M a0) (H : pZ9_goesAlong_126 N K R M a0 x2) (hR : ∀ (M1 : gM), Sl M M1 → R M1 → Q none M1) : Go X (d + K + 7) mc ms kX9_goesAlong Q 126 [(0, .ref a0), (2, .int (x2))] [] M 0 0 := by
  unfold pZ9_goesAlong_126 at H
  refine g_aload_n 0 127 dX9_goesAlong_126 rfl rfl ?_
  refine g_iconst (0) 128 dX9_goesAlong_127 rfl rfl ?_
  refine g_putZ 131 dX9_goesAlong_128 rfl flX9_279 s0.1 (by decide) ?_
  generalize hM1 : (g_wi M a0 24 0) = M1
  have j1 : Sm M M1 := by rw [← hM1]; exact (Sm.wi Sm.rf)
  replace H := H M1 hM1.symm
  refine g_aload_n 0 132 dX9_goesAlong_131 rfl rfl ?_
  refine g_aload_n 0 133 dX9_goesAlong_132 rfl rfl ?_
  refine g_iconst (3) 134 dX9_goesAlong_133 rfl rfl ?_
  refine g_callV (mc1 := 0) (ms1 := 0) (b := a0) (rest := [.ref a0]) (av := [.int (3)]) kX9_passes0 137 dX9_goesAlong_134 rfl rfl mbX9_293 imX9_passes0 seX9_passes0 gcl9.1 (Sm.k j1 s0.1) (Nat.le_of_ble_eq_true rfl) (Nat.zero_le _) (Nat.zero_le _) (uX9_passes0 (N := N) (K := K) (Mo.sm j1 s0) H (fun v1 M2 jj H => ?_))
  replace H := H jj
  have j2 : Sm M M2 := Sm.tr j1 jj
  show Go X (d + K + 7) mc ms kX9_goesAlong Q 137 [(0, .ref a0), (2, .int (x2))] [.int (v1), .ref a0] M2 0 0
  refine g_if_eq 148 140 dX9_goesAlong_137 rfl rfl (fun c1 => ?_) (fun c1 => ?_)
  · skip
    replace H := H.1 c1
    refine g_iconst (1) 149 dX9_goesAlong_148 rfl rfl ?_
    refine g_goto 153 dX9_goesAlong_149 rfl ?_
    refine g_putZ 156 dX9_goesAlong_153 rfl flX9_458 (Sm.k j2 s0.1) (by decide) ?_
    generalize hM3 : (g_wi M2 a0 45 1) = M3
    have j3 : Sm M M3 := by rw [← hM3]; exact (Sm.wi j2)
    replace H := H M3 hM3.symm
    exact g_sub [0] _ rfl (uxZ9_goesAlong_156 (N := N) (K := K) (Mo.sm j3 s0) H (fun M1 j r => hR M1 (Sl.tr (Sm.l j3) j) r))
  · skip
    replace H := H.2 c1
    refine g_aload_n 0 141 dX9_goesAlong_140 rfl rfl ?_
    refine g_iload_n 1 142 dX9_goesAlong_141 rfl rfl ?_
    refine g_callV (mc1 := 0) (ms1 := 0) (b := a0) (rest := [.ref a0]) (av := [.int (x2)]) kX9_testOf 145 dX9_goesAlong_142 rfl rfl mbX9_323 imX9_testOf seX9_testOf gcl9.1 (Sm.k j2 s0.1) (Nat.le_of_ble_eq_true rfl) (Nat.zero_le _) (Nat.zero_le _) (uX9_testOf (N := N) (K := K) (Mo.sm j2 s0) H (fun v2 M4 jj H => ?_))
    replace H := H jj
    have j4 : Sm M M4 := Sm.tr j2 jj
    show Go X (d + K + 7) mc ms kX9_goesAlong Q 145 [(0, .ref a0), (2, .int (x2))] [.int (v2), .ref a0] M4 0 0
    refine g_if_eq 152 148 dX9_goesAlong_145 rfl rfl (fun c2 => ?_) (fun c2 => ?_)
    · skip
      replace H := H.1 c2
      refine g_iconst (0) 153 dX9_goesAlong_152 rfl rfl ?_
      refine g_putZ 156 dX9_goesAlong_153 rfl flX9_458 (Sm.k j4 s0.1) (by decide) ?_
      generalize hM5 : (g_wi M4 a0 45 0) = M5
      have j5 : Sm M M5 := by rw [← hM5]; exact (Sm.wi j4)
      replace H := H M5 hM5.symm
      exact g_sub [0] _ rfl (uxZ9_goesAlong_156 (N := N) (K := K) (Mo.sm j5 s0) H (fun M1 j r => hR M1 (Sl.tr (Sm.l j5) j) r))
    · skip
      replace H := H.2 c2
      refine g_iconst (1) 149 dX9_goesAlong_148 rfl rfl ?_
      refine g_goto 153 dX9_goesAlong_149 rfl ?_
      refine g_putZ 156 dX9_goesAlong_153 rfl flX9_458 (Sm.k j4 s0.1) (by decide) ?_
      generalize hM6 : (g_wi M4 a0 45 1) = M6
      have j6 : Sm M M6 := by rw [← hM6]; exact (Sm.wi j4)
      replace H := H M6 hM6.symm
      exact g_sub [0] _ rfl (uxZ9_goesAlong_156 (N := N) (K := K) (Mo.sm j6 s0) H (fun M1 j r => hR M1 (Sl.tr (Sm.l j6) j) r))
set_option maxRecDepth 10000 in
theorem uxZ9_goesAlong_85 {N K : Nat} {X : gX} {d mc ms : Nat} {Q : Option Value → gM → Prop} {R : gM → Prop} {M : gM} {a0 : Nat} {x2 : Int32} (s0 : Mo M a0) (H : pZ9_goesAlong_85 N K R M a0 x2) (hR : ∀ (M1 : gM), Sl M M1 → R M1 → Q none M1) : Go X (d + K + 7) mc ms kX9_goesAlong Q 85 [(0, .ref a0), (2, .int (x2))] [] M 0 0 := by
  unfold pZ9_goesAlong_85 at H
  refine g_aload_n 0 86 dX9_goesAlong_85 rfl rfl ?_
  refine g_iconst (1) 87 dX9_goesAlong_86 rfl rfl ?_
  refine g_putI 90 dX9_goesAlong_87 rfl flX9_455 s0.1 ?_
  generalize hM1 : (g_wi M a0 42 1) = M1
  have j1 : Sm M M1 := by rw [← hM1]; exact (Sm.wi Sm.rf)
  replace H := H M1 hM1.symm
  refine g_aload_n 0 91 dX9_goesAlong_90 rfl rfl ?_
  refine g_bipush (22) 93 dX9_goesAlong_91 rfl rfl ?_
  refine g_callV (mc1 := 0) (ms1 := 0) (b := a0) (rest := []) (av := [.int (22)]) kX9_passes0 96 dX9_goesAlong_93 rfl rfl mbX9_293 imX9_passes0 seX9_passes0 gcl9.1 (Sm.k j1 s0.1) (Nat.le_of_ble_eq_true rfl) (Nat.zero_le _) (Nat.zero_le _) (uX9_passes0 (N := N) (K := K) (Mo.sm j1 s0) H (fun v1 M2 jj H => ?_))
  replace H := H jj
  have j2 : Sm M M2 := Sm.tr j1 jj
  show Go X (d + K + 7) mc ms kX9_goesAlong Q 96 [(0, .ref a0), (2, .int (x2))] [.int (v1)] M2 0 0
  refine g_if_eq 126 99 dX9_goesAlong_96 rfl rfl (fun c1 => ?_) (fun c1 => ?_)
  · skip
    replace H := H.1 c1
    exact uxZ9_goesAlong_126 (N := N) (K := K) (Mo.sm j2 s0) H (fun M1 j r => hR M1 (Sl.tr (Sm.l j2) j) r)
  · skip
    replace H := H.2 c1
    refine g_aload_n 0 100 dX9_goesAlong_99 rfl rfl ?_
    refine g_aload_n 0 101 dX9_goesAlong_100 rfl rfl ?_
    refine g_getR 104 (a0 + 2) dX9_goesAlong_101 rfl flX9_28 (Sm.k j2 s0.1) (Sm.r j2 s0.2.2.2.1) ?_
    refine g_sipush (3012) 107 dX9_goesAlong_104 rfl rfl ?_
    refine g_aload_n 0 108 dX9_goesAlong_107 rfl rfl ?_
    refine g_getI 111 dX9_goesAlong_108 rfl flX9_269 (Sm.k j2 s0.1) ?_
    refine g_iadd 112 dX9_goesAlong_111 rfl ?_
    obtain ⟨b1, H⟩ := H
    refine h_iaload 113 ((3012 + (g_mi M2 a0 22))).toNatClampNeg dX9_goesAlong_112 rfl rfl (Sm.k j2 s0.2.2.2.2.1) b1 ?_
    refine g_putI 116 dX9_goesAlong_113 rfl flX9_455 (Sm.k j2 s0.1) ?_
    generalize hM3 : (g_wi M2 a0 42 (g_mi M2 (a0 + 2) ((3012 + (g_mi M2 a0 22))).toNatClampNeg)) = M3
    have j3 : Sm M M3 := by rw [← hM3]; exact (Sm.wi j2)
    replace H := H M3 hM3.symm
    refine g_aload_n 0 117 dX9_goesAlong_116 rfl rfl ?_
    refine g_dup 118 dX9_goesAlong_117 rfl rfl ?_
    refine g_getI 121 dX9_goesAlong_118 rfl flX9_269 (Sm.k j3 s0.1) ?_
    refine g_iconst (1) 122 dX9_goesAlong_121 rfl rfl ?_
    refine g_iadd 123 dX9_goesAlong_122 rfl ?_
    refine g_putI 126 dX9_goesAlong_123 rfl flX9_269 (Sm.k j3 s0.1) ?_
    generalize hM4 : (g_wi M3 a0 22 ((g_mi M3 a0 22) + 1)) = M4
    have j4 : Sm M M4 := by rw [← hM4]; exact (Sm.wi j3)
    replace H := H M4 hM4.symm
    exact uxZ9_goesAlong_126 (N := N) (K := K) (Mo.sm j4 s0) H (fun M1 j r => hR M1 (Sl.tr (Sm.l j4) j) r)
set_option maxRecDepth 10000 in
theorem uxZ9_goesAlong_69 {N K : Nat} {X : gX} {d mc ms : Nat} {Q : Option Value → gM → Prop} {R : gM → Prop} {M : gM} {a0 : Nat} {x2 : Int32} (s0 : Mo M a0) (H : pZ9_goesAlong_69 N K R M a0 x2) (hR : ∀ (M1 : gM), Sl M M1 → R M1 → Q none M1) : Go X (d + K + 7) mc ms kX9_goesAlong Q 69 [(0, .ref a0), (2, .int (x2))] [] M 0 0 := by
  unfold pZ9_goesAlong_69 at H
  refine g_aload_n 0 70 dX9_goesAlong_69 rfl rfl ?_
  refine g_aload_n 0 71 dX9_goesAlong_70 rfl rfl ?_
  refine g_getI 74 dX9_goesAlong_71 rfl flX9_279 s0.1 ?_
  refine g_if_ne 81 77 dX9_goesAlong_74 rfl rfl (fun c1 => ?_) (fun c1 => ?_)
  · skip
    replace H := H.1 c1
    refine g_iconst (0) 82 dX9_goesAlong_81 rfl rfl ?_
    refine g_putZ 85 dX9_goesAlong_82 rfl flX9_452 s0.1 (by decide) ?_
    generalize hM1 : (g_wi M a0 44 0) = M1
    have j1 : Sm M M1 := by rw [← hM1]; exact (Sm.wi Sm.rf)
    replace H := H M1 hM1.symm
    exact uxZ9_goesAlong_85 (N := N) (K := K) (Mo.sm j1 s0) H (fun M1 j r => hR M1 (Sl.tr (Sm.l j1) j) r)
  · skip
    replace H := H.2 c1
    refine g_iconst (1) 78 dX9_goesAlong_77 rfl rfl ?_
    refine g_goto 82 dX9_goesAlong_78 rfl ?_
    refine g_putZ 85 dX9_goesAlong_82 rfl flX9_452 s0.1 (by decide) ?_
    generalize hM2 : (g_wi M a0 44 1) = M2
    have j2 : Sm M M2 := by rw [← hM2]; exact (Sm.wi Sm.rf)
    replace H := H M2 hM2.symm
    exact uxZ9_goesAlong_85 (N := N) (K := K) (Mo.sm j2 s0) H (fun M1 j r => hR M1 (Sl.tr (Sm.l j2) j) r)
set_option maxRecDepth 10000 in
theorem uZ9_goesAlong {N K : Nat} {X : gX} {d mc ms : Nat} {Q : Option Value → gM → Prop} {M : gM} {a0 : Nat} {x1 : Int32} {x2 : Int32} {R : gM → Prop} (s0 : Mo M a0) (H : pZ9_goesAlong N K M a0 x1 x2 R) (hR : ∀ (M1 : gM), Sl M M1 → R M1 → Q none M1) : Cn X (d + K + 7) mc ms kX9_goesAlong [.ref a0, .int (x1), .int (x2)] M Q := by
  unfold pZ9_goesAlong at H
  refine g_meth rfl rfl (Nat.le_of_ble_eq_true rfl) rfl ?_
  refine g_aload_n 0 1 dX9_goesAlong_0 rfl rfl ?_
  refine g_iconst (1) 2 dX9_goesAlong_1 rfl rfl ?_
  refine g_putZ 5 dX9_goesAlong_2 rfl flX9_299 s0.1 (by decide) ?_
  generalize hM1 : (g_wi M a0 25 1) = M1
  have j1 : Sm M M1 := by rw [← hM1]; exact (Sm.wi Sm.rf)
  replace H := H M1 hM1.symm
  refine g_aload_n 0 6 dX9_goesAlong_5 rfl rfl ?_
  refine g_iload_n 1 7 dX9_goesAlong_6 rfl rfl ?_
  refine g_putI 10 dX9_goesAlong_7 rfl flX9_266 (Sm.k j1 s0.1) ?_
  generalize hM2 : (g_wi M1 a0 23 x1) = M2
  have j2 : Sm M M2 := by rw [← hM2]; exact (Sm.wi j1)
  replace H := H M2 hM2.symm
  refine g_aload_n 0 11 dX9_goesAlong_10 rfl rfl ?_
  refine g_aload_n 0 12 dX9_goesAlong_11 rfl rfl ?_
  refine g_getI 15 dX9_goesAlong_12 rfl flX9_440 (Sm.k j2 s0.1) ?_
  refine g_putI 18 dX9_goesAlong_15 rfl flX9_269 (Sm.k j2 s0.1) ?_
  generalize hM3 : (g_wi M2 a0 22 (g_mi M2 a0 41)) = M3
  have j3 : Sm M M3 := by rw [← hM3]; exact (Sm.wi j2)
  replace H := H M3 hM3.symm
  refine g_aload_n 0 19 dX9_goesAlong_18 rfl rfl ?_
  refine g_aload_n 0 20 dX9_goesAlong_19 rfl rfl ?_
  refine g_aload_n 0 21 dX9_goesAlong_20 rfl rfl ?_
  refine g_getI 24 dX9_goesAlong_21 rfl flX9_269 (Sm.k j3 s0.1) ?_
  obtain ⟨b1, H⟩ := H
  refine g_callV (mc1 := 0) (ms1 := 0) (b := a0) (rest := [.ref a0]) (av := [.int ((g_mi M3 a0 22))]) kX9_codeAt 27 dX9_goesAlong_24 rfl rfl mbX9_272 imX9_codeAt seX9_codeAt gcl9.1 (Sm.k j3 s0.1) (Nat.le_of_ble_eq_true rfl) (Nat.zero_le _) (Nat.zero_le _) (tX9_codeAt (Mo.sm j3 s0) b1 ?_)
  show Go X (d + K + 7) mc ms kX9_goesAlong Q 27 [(0, .ref a0), (1, .int (x1)), (2, .int (x2))] [.int ((fX9_codeAt M3 a0 (g_mi M3 a0 22))), .ref a0] M3 0 0
  generalize hv1 : (fX9_codeAt M3 a0 (g_mi M3 a0 22)) = v1
  replace H := H v1 hv1.symm
  refine g_putI 30 dX9_goesAlong_27 rfl flX9_449 (Sm.k j3 s0.1) ?_
  generalize hM4 : (g_wi M3 a0 43 v1) = M4
  have j4 : Sm M M4 := by rw [← hM4]; exact (Sm.wi j3)
  replace H := H M4 hM4.symm
  refine g_aload_n 0 31 dX9_goesAlong_30 rfl rfl ?_
  refine g_dup 32 dX9_goesAlong_31 rfl rfl ?_
  refine g_getI 35 dX9_goesAlong_32 rfl flX9_269 (Sm.k j4 s0.1) ?_
  refine g_iconst (1) 36 dX9_goesAlong_35 rfl rfl ?_
  refine g_iadd 37 dX9_goesAlong_36 rfl ?_
  refine g_putI 40 dX9_goesAlong_37 rfl flX9_269 (Sm.k j4 s0.1) ?_
  generalize hM5 : (g_wi M4 a0 22 ((g_mi M4 a0 22) + 1)) = M5
  have j5 : Sm M M5 := by rw [← hM5]; exact (Sm.wi j4)
  replace H := H M5 hM5.symm
  refine g_aload_n 0 41 dX9_goesAlong_40 rfl rfl ?_
  refine g_iconst (0) 42 dX9_goesAlong_41 rfl rfl ?_
  refine g_putZ 45 dX9_goesAlong_42 rfl flX9_279 (Sm.k j5 s0.1) (by decide) ?_
  generalize hM6 : (g_wi M5 a0 24 0) = M6
  have j6 : Sm M M6 := by rw [← hM6]; exact (Sm.wi j5)
  replace H := H M6 hM6.symm
  refine g_aload_n 0 46 dX9_goesAlong_45 rfl rfl ?_
  refine g_getR 49 (a0 + 22) dX9_goesAlong_46 rfl flX9_97 (Sm.k j6 s0.1) (Sm.r j6 s0.2.2.2.2.2.2.2.2.2.2.2.2.2.2.2.2.2.2.2.2.2.2.2.2.2.2.2.2.2.2.2.2.2.2.2.2.2.2.2.2.2.2.2.1) ?_
  refine g_iconst (0) 50 dX9_goesAlong_49 rfl rfl ?_
  refine g_aload_n 0 51 dX9_goesAlong_50 rfl rfl ?_
  refine g_getI 54 dX9_goesAlong_51 rfl flX9_449 (Sm.k j6 s0.1) ?_
  refine g_bipush (21) 56 dX9_goesAlong_54 rfl rfl ?_
  refine g_icmp_ne 63 59 dX9_goesAlong_56 rfl rfl (fun c1 => ?_) (fun c1 => ?_)
  · skip
    replace H := H.1 c1
    refine g_aload_n 0 64 dX9_goesAlong_63 rfl rfl ?_
    refine g_iload_n 2 65 dX9_goesAlong_64 rfl rfl ?_
    refine g_callV (mc1 := 0) (ms1 := 0) (b := a0) (rest := [.int (0), .ref (a0 + 22)]) (av := [.int (x2)]) kX9_sumOf 68 dX9_goesAlong_65 rfl rfl mbX9_296 imX9_sumOf seX9_sumOf gcl9.1 (Sm.k j6 s0.1) (Nat.le_of_ble_eq_true rfl) (Nat.zero_le _) (Nat.zero_le _) (uX9_sumOf (N := N) (K := K) (Mo.sm j6 s0) H (fun v2 M7 jj H => ?_))
    replace H := H jj
    have j7 : Sm M M7 := Sm.tr j6 jj
    show Go X (d + K + 7) mc ms kX9_goesAlong Q 68 [(0, .ref a0), (1, .int (x1)), (2, .int (x2))] [.long (v2), .int (0), .ref (a0 + 22)] M7 0 0
    refine h_lastore 69 0 dX9_goesAlong_68 rfl rfl (Sm.k j7 s0.2.2.2.2.2.2.2.2.2.2.2.2.2.2.2.2.2.2.2.2.2.2.2.2.2.2.2.2.2.2.2.2.2.2.2.2.2.2.2.2.2.2.2.2.1) (vp_lit rfl) ?_
    generalize hM8 : (g_wl M7 (a0 + 22) 0 v2) = M8
    have j8 : Sl M M8 := by rw [← hM8]; exact (Sl.wl (Sm.l j7))
    replace H := H M8 hM8.symm
    exact g_sub [0, 2] _ rfl (uxZ9_goesAlong_69 (N := N) (K := K) (Mo.sl j8 s0) H (fun M1 j r => hR M1 (Sl.tr j8 j) r))
  · skip
    replace H := H.2 c1
    refine g_lconst (0) 60 dX9_goesAlong_59 rfl rfl ?_
    refine g_goto 68 dX9_goesAlong_60 rfl ?_
    refine h_lastore 69 0 dX9_goesAlong_68 rfl rfl (Sm.k j6 s0.2.2.2.2.2.2.2.2.2.2.2.2.2.2.2.2.2.2.2.2.2.2.2.2.2.2.2.2.2.2.2.2.2.2.2.2.2.2.2.2.2.2.2.2.1) (vp_lit rfl) ?_
    generalize hM9 : (g_wl M6 (a0 + 22) 0 0) = M9
    have j9 : Sl M M9 := by rw [← hM9]; exact (Sl.wl (Sm.l j6))
    replace H := H M9 hM9.symm
    exact g_sub [0, 2] _ rfl (uxZ9_goesAlong_69 (N := N) (K := K) (Mo.sl j9 s0) H (fun M1 j r => hR M1 (Sl.tr j9 j) r))
/-! X9_runs, once more -/
def pZ9_runs_0 (N K : Nat) (kp : Nat → gM → Nat → Int32 → Int32 → Int32 → Int32 → Prop) (R : Int32 → gM → Prop) (M : gM) (a0 : Nat) (x1 : Int32) : Prop := pZ9_goesAlong N K M a0 x1 0 (fun M1 => kp 0 M1 a0 x1 (g_mi M1 a0 42) (g_mi M1 a0 22) 0)
def pZ9_runs_19 (N K : Nat) (kp : Nat → gM → Nat → Int32 → Int32 → Int32 → Int32 → Prop) (R : Int32 → gM → Prop) (M : gM) (a0 : Nat) (x1 : Int32) (x2 : Int32) (x3 : Int32) (x4 : Int32) : Prop := ((x2 ≤ x4 → ∀ M1 : gM, M1 = (g_wi M a0 41 x3) → R 1 M1) ∧ (¬ x2 ≤ x4 → pZ9_goesAlong N K M a0 x1 1 (fun M2 => ((¬ (g_mi M2 a0 45) = 0 → (((g_mi M2 a0 44) = 0 → R 0 M2) ∧ (¬ (g_mi M2 a0 44) = 0 → pX9_obeys N K M2 a0 (fun v1 M3 => ((0 ≤ v1 → ∀ M4 : gM, M4 = (g_wi M3 a0 27 ((g_mi M3 a0 27) + 1)) → kp 0 M4 a0 x1 x2 x3 (x4 + 1)) ∧ (¬ 0 ≤ v1 → R 0 M3)))))) ∧ ((g_mi M2 a0 45) = 0 → kp 0 M2 a0 x1 x2 x3 (x4 + 1))))))
def qZ9_runs (N K : Nat) (R : Int32 → gM → Prop) : Nat → Nat → gM → Nat → Int32 → Int32 → Int32 → Int32 → Prop
  | 0, _, _, _, _, _, _, _ => False
  | n + 1, _, M, a0, x1, x2, x3, x4 => pZ9_runs_19 N K (qZ9_runs N K R n) R M a0 x1 x2 x3 x4
def pZ9_runs (N K : Nat) (M : gM) (a0 : Nat) (x1 : Int32) (R : Int32 → gM → Prop) : Prop := pZ9_runs_0 N K (qZ9_runs N K R N) R M a0 x1
def ULZ9_runs (X : gX) (d mc ms : Nat) (Q : Option Value → gM → Prop) (N K : Nat) (R : Int32 → gM → Prop) (n : Nat) : Prop := (∀ (M : gM) (a0 : Nat) (x1 : Int32) (x2 : Int32) (x3 : Int32) (x4 : Int32), Mo M a0 → qZ9_runs N K R n 0 M a0 x1 x2 x3 x4 → (∀ (v : Int32) (M1 : gM), Sl M M1 → R v M1 → Q (some (.int v)) M1) → Go X (d + K + 13) mc ms kX9_runs Q 19 [(0, .ref a0), (1, .int (x1)), (2, .int (x2)), (3, .int (x3)), (4, .int (x4))] [] M 0 0)
set_option maxRecDepth 10000 in
theorem ulZ9_runs {X : gX} {d mc ms : Nat} {Q : Option Value → gM → Prop} {N K : Nat} {R : Int32 → gM → Prop} : ∀ n : Nat, ULZ9_runs X d mc ms Q N K R n := by
  intro n
  induction n with
  | zero => exact fun _ _ _ _ _ _ _ h _ => h.elim
  | succ n ih =>
    intro M a0 x1 x2 x3 x4 s0 H hR
    rw [qZ9_runs] at H
    unfold pZ9_runs_19 at H
    refine g_iload 4 21 dX9_runs_19 rfl rfl ?_
    refine g_iload_n 2 22 dX9_runs_21 rfl rfl ?_
    refine g_icmp_ge 73 25 dX9_runs_22 rfl rfl (fun c1 => ?_) (fun c1 => ?_)
    · skip
      replace H := H.1 c1
      refine g_aload_n 0 74 dX9_runs_73 rfl rfl ?_
      refine g_iload_n 3 75 dX9_runs_74 rfl rfl ?_
      refine g_putI 78 dX9_runs_75 rfl flX9_440 s0.1 ?_
      generalize hM1 : (g_wi M a0 41 x3) = M1
      have j1 : Sm M M1 := by rw [← hM1]; exact (Sm.wi Sm.rf)
      replace H := H M1 hM1.symm
      refine g_iconst (1) 79 dX9_runs_78 rfl rfl ?_
      exact g_zret dX9_runs_79 rfl (by decide) (Nat.zero_le _) (Nat.zero_le _) (hR _ _ (Sm.l j1) H)
    · skip
      replace H := H.2 c1
      refine g_aload_n 0 26 dX9_runs_25 rfl rfl ?_
      refine g_iload_n 1 27 dX9_runs_26 rfl rfl ?_
      refine g_iconst (1) 28 dX9_runs_27 rfl rfl ?_
      refine g_callV (mc1 := 0) (ms1 := 0) (b := a0) (rest := []) (av := [.int (x1), .int (1)]) kX9_goesAlong 31 dX9_runs_28 rfl rfl mbX9_467 imX9_goesAlong seX9_goesAlong gcl9.1 s0.1 (Nat.le_of_ble_eq_true rfl) (Nat.zero_le _) (Nat.zero_le _) (Cn.cd (show d + 5 + K + 7 = d + K + 12 by omega) (uZ9_goesAlong (d := d + 5) (N := N) (K := K) s0 H (fun M2 jj H => ?_)))
      have j2 : Sl M M2 := jj
      show Go X (d + K + 13) mc ms kX9_runs Q 31 [(0, .ref a0), (1, .int (x1)), (2, .int (x2)), (3, .int (x3)), (4, .int (x4))] [] M2 0 0
      refine g_aload_n 0 32 dX9_runs_31 rfl rfl ?_
      refine g_getI 35 dX9_runs_32 rfl flX9_458 (Sl.k j2 s0.1) ?_
      refine g_if_ne 41 38 dX9_runs_35 rfl rfl (fun c2 => ?_) (fun c2 => ?_)
      · skip
        replace H := H.1 c2
        refine g_aload_n 0 42 dX9_runs_41 rfl rfl ?_
        refine g_getI 45 dX9_runs_42 rfl flX9_452 (Sl.k j2 s0.1) ?_
        refine g_if_eq 55 48 dX9_runs_45 rfl rfl (fun c3 => ?_) (fun c3 => ?_)
        · skip
          replace H := H.1 c3
          refine g_iconst (0) 56 dX9_runs_55 rfl rfl ?_
          exact g_zret dX9_runs_56 rfl (by decide) (Nat.zero_le _) (Nat.zero_le _) (hR _ _ j2 H)
        · skip
          replace H := H.2 c3
          refine g_aload_n 0 49 dX9_runs_48 rfl rfl ?_
          refine g_callV (mc1 := 0) (ms1 := 0) (b := a0) (rest := []) (av := []) kX9_obeys 52 dX9_runs_49 rfl rfl mbX9_471 imX9_obeys seX9_obeys gcl9.1 (Sl.k j2 s0.1) (Nat.le_of_ble_eq_true rfl) (Nat.zero_le _) (Nat.zero_le _) (uX9_obeys (N := N) (K := K) (Mo.sl j2 s0) H (fun v1 M3 jj H => ?_))
          have j3 : Sl M M3 := Sl.tr j2 (Sm.l jj)
          show Go X (d + K + 13) mc ms kX9_runs Q 52 [(0, .ref a0), (1, .int (x1)), (2, .int (x2)), (3, .int (x3)), (4, .int (x4))] [.int (v1)] M3 0 0
          refine g_if_ge 57 55 dX9_runs_52 rfl rfl (fun c4 => ?_) (fun c4 => ?_)
          · skip
            replace H := H.1 c4
            refine g_aload_n 0 58 dX9_runs_57 rfl rfl ?_
            refine g_dup 59 dX9_runs_58 rfl rfl ?_
            refine g_getI 62 dX9_runs_59 rfl flX9_305 (Sl.k j3 s0.1) ?_
            refine g_iconst (1) 63 dX9_runs_62 rfl rfl ?_
            refine g_iadd 64 dX9_runs_63 rfl ?_
            refine g_putI 67 dX9_runs_64 rfl flX9_305 (Sl.k j3 s0.1) ?_
            generalize hM4 : (g_wi M3 a0 27 ((g_mi M3 a0 27) + 1)) = M4
            have j4 : Sl M M4 := by rw [← hM4]; exact (Sl.wi j3)
            replace H := H M4 hM4.symm
            refine g_iinc _ 4 70 [(4, .int ((x4 + 1))), (0, .ref a0), (1, .int (x1)), (2, .int (x2)), (3, .int (x3))] dX9_runs_67 rfl rfl rfl (Nat.le_of_ble_eq_true rfl) rfl ?_
            refine g_goto 19 dX9_runs_70 rfl ?_
            exact g_sub [1, 2, 3, 4, 0] _ rfl (ih M4 a0 x1 x2 x3 (x4 + 1) (Mo.sl j4 s0) H (fun v M1 j r => hR v M1 (Sl.tr j4 j) r))
          · skip
            replace H := H.2 c4
            refine g_iconst (0) 56 dX9_runs_55 rfl rfl ?_
            exact g_zret dX9_runs_56 rfl (by decide) (Nat.zero_le _) (Nat.zero_le _) (hR _ _ j3 H)
      · skip
        replace H := H.2 c2
        refine g_goto 67 dX9_runs_38 rfl ?_
        refine g_iinc _ 4 70 [(4, .int ((x4 + 1))), (0, .ref a0), (1, .int (x1)), (2, .int (x2)), (3, .int (x3))] dX9_runs_67 rfl rfl rfl (Nat.le_of_ble_eq_true rfl) rfl ?_
        refine g_goto 19 dX9_runs_70 rfl ?_
        exact g_sub [1, 2, 3, 4, 0] _ rfl (ih M2 a0 x1 x2 x3 (x4 + 1) (Mo.sl j2 s0) H (fun v M1 j r => hR v M1 (Sl.tr j2 j) r))
set_option maxRecDepth 10000 in
theorem uZ9_runs {N K : Nat} {X : gX} {d mc ms : Nat} {Q : Option Value → gM → Prop} {M : gM} {a0 : Nat} {x1 : Int32} {R : Int32 → gM → Prop} (s0 : Mo M a0) (H : pZ9_runs N K M a0 x1 R) (hR : ∀ (v : Int32) (M1 : gM), Sl M M1 → R v M1 → Q (some (.int v)) M1) : Cn X (d + K + 13) mc ms kX9_runs [.ref a0, .int (x1)] M Q := by
  have ih := ulZ9_runs (X := X) (d := d) (mc := mc) (ms := ms) (Q := Q) (N := N) (K := K) (R := R) N
  unfold pZ9_runs pZ9_runs_0 at H
  refine g_meth rfl rfl (Nat.le_of_ble_eq_true rfl) rfl ?_
  refine g_aload_n 0 1 dX9_runs_0 rfl rfl ?_
  refine g_iload_n 1 2 dX9_runs_1 rfl rfl ?_
  refine g_iconst (0) 3 dX9_runs_2 rfl rfl ?_
  refine g_callV (mc1 := 0) (ms1 := 0) (b := a0) (rest := []) (av := [.int (x1), .int (0)]) kX9_goesAlong 6 dX9_runs_3 rfl rfl mbX9_467 imX9_goesAlong seX9_goesAlong gcl9.1 s0.1 (Nat.le_of_ble_eq_true rfl) (Nat.zero_le _) (Nat.zero_le _) (Cn.cd (show d + 5 + K + 7 = d + K + 12 by omega) (uZ9_goesAlong (d := d + 5) (N := N) (K := K) s0 H (fun M1 jj H => ?_)))
  have j1 : Sl M M1 := jj
  show Go X (d + K + 13) mc ms kX9_runs Q 6 [(0, .ref a0), (1, .int (x1))] [] M1 0 0
  refine g_aload_n 0 7 dX9_runs_6 rfl rfl ?_
  refine g_getI 10 dX9_runs_7 rfl flX9_455 (Sl.k j1 s0.1) ?_
  refine g_istore_n 11 [(2, .int ((g_mi M1 a0 42))), (0, .ref a0), (1, .int (x1))] dX9_runs_10 rfl (Nat.le_of_ble_eq_true rfl) rfl ?_
  refine g_aload_n 1 12 dX9_runs_11 rfl rfl ?_
  refine g_getI 15 dX9_runs_12 rfl flX9_269 (Sl.k j1 s0.1) ?_
  refine g_istore_n 16 [(3, .int ((g_mi M1 a0 22))), (2, .int ((g_mi M1 a0 42))), (0, .ref a0), (1, .int (x1))] dX9_runs_15 rfl (Nat.le_of_ble_eq_true rfl) rfl ?_
  refine g_iconst (0) 17 dX9_runs_16 rfl rfl ?_
  refine g_istore 19 [(4, .int (0)), (3, .int ((g_mi M1 a0 22))), (2, .int ((g_mi M1 a0 42))), (0, .ref a0), (1, .int (x1))] dX9_runs_17 rfl (Nat.le_of_ble_eq_true rfl) rfl ?_
  exact g_sub [3, 4, 2, 1, 0] _ rfl (ih M1 a0 x1 (g_mi M1 a0 42) (g_mi M1 a0 22) 0 (Mo.sl j1 s0) H (fun v M1 j r => hR v M1 (Sl.tr j1 j) r))
/-! X9_orders, once more -/
def pZ9_orders_0 (N K : Nat) (kp : Nat → gM → Nat → Int32 → Int32 → Int32 → Int32 → Prop) (R : Int32 → gM → Prop) (M : gM) (a0 : Nat) : Prop := ∀ M1 : gM, M1 = (g_wi M a0 40 (-1)) → pX9_readsAs N K M1 a0 1 (fun v1 M2 => ((¬ v1 = 0 → pX9_laysAside N K M2 a0 1 (fun M3 => kp 0 M3 a0 0 0 0 0)) ∧ (v1 = 0 → pX9_refuses N K M2 a0 (-6) (fun v2 M4 => R v2 M4))))
def pZ9_orders_27 (N K : Nat) (kp : Nat → gM → Nat → Int32 → Int32 → Int32 → Int32 → Prop) (R : Int32 → gM → Prop) (M : gM) (a0 : Nat) (x1 : Int32) : Prop := ((3024 ≤ x1 → pX9_lays N K M a0 6 (fun M1 => ∀ M2 : gM, M2 = (g_wi M1 a0 27 0) → ∀ M3 : gM, M3 = (g_wi M2 a0 28 (-1)) → ∀ M4 : gM, M4 = (g_wi M3 a0 41 2400) → kp 1 M4 a0 (g_mi M a0 38) ((g_mi M4 a0 41) + (g_mi M4 (a0 + 2) 211)) 0 0)) ∧ (¬ 3024 ≤ x1 → (vp_in (x1) 3024) ∧ ∀ M5 : gM, M5 = (g_wi M (a0 + 20) (x1).toNatClampNeg (g_mi M (a0 + 19) (x1).toNatClampNeg)) → kp 0 M5 a0 (x1 + 1) 0 0 0))
def pZ9_orders_96 (N K : Nat) (kp : Nat → gM → Nat → Int32 → Int32 → Int32 → Int32 → Prop) (R : Int32 → gM → Prop) (M : gM) (a0 : Nat) (x1 : Int32) (x2 : Int32) (x3 : Int32) : Prop := ((x2 ≤ (g_mi M a0 41) → pX9_good0 N K M a0 (g_mi M a0 27) (fun v1 M1 => R v1 M1)) ∧ (¬ x2 ≤ (g_mi M a0 41) → pZ9_runs N K M a0 x2 (fun v2 M2 => ((v2 = 0 → pX9_takesBack N K M2 a0 1 (fun M3 => kp 2 M3 a0 x1 0 x3 0)) ∧ (¬ v2 = 0 → kp 1 M2 a0 x1 x2 (x3 + 1) 0)))))
def pZ9_orders_123 (N K : Nat) (kp : Nat → gM → Nat → Int32 → Int32 → Int32 → Int32 → Prop) (R : Int32 → gM → Prop) (M : gM) (a0 : Nat) (x1 : Int32) (x3 : Int32) (x4 : Int32) : Prop := ((3024 ≤ x4 → ∀ M1 : gM, M1 = (g_wi M a0 38 x1) → ∀ M2 : gM, M2 = (g_wi M1 a0 40 x3) → pX9_refuses N K M2 a0 (-3) (fun v1 M3 => R v1 M3)) ∧ (¬ 3024 ≤ x4 → (vp_in (x4) 3024) ∧ ∀ M4 : gM, M4 = (g_wi M (a0 + 19) (x4).toNatClampNeg (g_mi M (a0 + 20) (x4).toNatClampNeg)) → kp 2 M4 a0 x1 0 x3 (x4 + 1)))
def qZ9_orders (N K : Nat) (R : Int32 → gM → Prop) : Nat → Nat → gM → Nat → Int32 → Int32 → Int32 → Int32 → Prop
  | 0, _, _, _, _, _, _, _ => False
  | n + 1, h, M, a0, x1, x2, x3, x4 => if h = 0 then pZ9_orders_27 N K (qZ9_orders N K R n) R M a0 x1 else if h = 1 then pZ9_orders_96 N K (qZ9_orders N K R n) R M a0 x1 x2 x3 else pZ9_orders_123 N K (qZ9_orders N K R n) R M a0 x1 x3 x4
def pZ9_orders (N K : Nat) (M : gM) (a0 : Nat) (R : Int32 → gM → Prop) : Prop := pZ9_orders_0 N K (qZ9_orders N K R N) R M a0
def ULZ9_orders (X : gX) (d mc ms : Nat) (Q : Option Value → gM → Prop) (N K : Nat) (R : Int32 → gM → Prop) (n : Nat) : Prop := (∀ (M : gM) (a0 : Nat) (x1 : Int32) (x2 : Int32) (x3 : Int32) (x4 : Int32), Mo M a0 → qZ9_orders N K R n 0 M a0 x1 x2 x3 x4 → (∀ (v : Int32) (M1 : gM), Sl M M1 → R v M1 → Q (some (.int v)) M1) → Go X (d + K + 14) mc ms kX9_orders Q 27 [(0, .ref a0), (1, .int (x1))] [] M 0 0) ∧ (∀ (M : gM) (a0 : Nat) (x1 : Int32) (x2 : Int32) (x3 : Int32) (x4 : Int32), Mo M a0 → qZ9_orders N K R n 1 M a0 x1 x2 x3 x4 → (∀ (v : Int32) (M1 : gM), Sl M M1 → R v M1 → Q (some (.int v)) M1) → Go X (d + K + 14) mc ms kX9_orders Q 96 [(0, .ref a0), (1, .int (x1)), (2, .int (x2)), (3, .int (x3))] [] M 0 0) ∧ (∀ (M : gM) (a0 : Nat) (x1 : Int32) (x2 : Int32) (x3 : Int32) (x4 : Int32), Mo M a0 → qZ9_orders N K R n 2 M a0 x1 x2 x3 x4 → (∀ (v : Int32) (M1 : gM), Sl M M1 → R v M1 → Q (some (.int v)) M1) → Go X (d + K + 14) mc ms kX9_orders Q 123 [(0, .ref a0), (1, .int (x1)), (3, .int (x3)), (4, .int (x4))] [] M 0 0)
set_option maxRecDepth 10000 in
theorem ulZ9_orders {X : gX} {d mc ms : Nat} {Q : Option Value → gM → Prop} {N K : Nat} {R : Int32 → gM → Prop} : ∀ n : Nat, ULZ9_orders X d mc ms Q N K R n := by
  intro n
  induction n with
  | zero => exact ⟨fun _ _ _ _ _ _ _ h _ => h.elim, fun _ _ _ _ _ _ _ h _ => h.elim, fun _ _ _ _ _ _ _ h _ => h.elim⟩
  | succ n ih =>
    refine ⟨?_, ?_, ?_⟩
    · intro M a0 x1 x2 x3 x4 s0 H hR
      rw [qZ9_orders, if_pos (show (0 : Nat) = 0 from rfl)] at H
      unfold pZ9_orders_27 at H
      refine g_iload_n 1 28 dX9_orders_27 rfl rfl ?_
      refine g_sipush (3024) 31 dX9_orders_28 rfl rfl ?_
      refine g_icmp_ge 52 34 dX9_orders_31 rfl rfl (fun c1 => ?_) (fun c1 => ?_)
      · skip
        replace H := H.1 c1
        refine g_aload_n 0 53 dX9_orders_52 rfl rfl ?_
        refine g_getI 56 dX9_orders_53 rfl flX9_11 s0.1 ?_
        refine g_istore_n 57 [(1, .int ((g_mi M a0 38))), (0, .ref a0)] dX9_orders_56 rfl (Nat.le_of_ble_eq_true rfl) rfl ?_
        refine g_aload_n 1 58 dX9_orders_57 rfl rfl ?_
        refine g_bipush (6) 60 dX9_orders_58 rfl rfl ?_
        refine g_callV (mc1 := 0) (ms1 := 0) (b := a0) (rest := []) (av := [.int (6)]) kX9_lays 63 dX9_orders_60 rfl rfl mbX9_260 imX9_lays seX9_lays gcl9.1 s0.1 (Nat.le_of_ble_eq_true rfl) (Nat.zero_le _) (Nat.zero_le _) (uX9_lays (N := N) (K := K) s0 H (fun M1 jj H => ?_))
        have j1 : Sm M M1 := jj
        show Go X (d + K + 14) mc ms kX9_orders Q 63 [(1, .int ((g_mi M a0 38))), (0, .ref a0)] [] M1 0 0
        refine g_aload_n 1 64 dX9_orders_63 rfl rfl ?_
        refine g_iconst (0) 65 dX9_orders_64 rfl rfl ?_
        refine g_putI 68 dX9_orders_65 rfl flX9_305 (Sm.k j1 s0.1) ?_
        generalize hM2 : (g_wi M1 a0 27 0) = M2
        have j2 : Sm M M2 := by rw [← hM2]; exact (Sm.wi j1)
        replace H := H M2 hM2.symm
        refine g_aload_n 1 69 dX9_orders_68 rfl rfl ?_
        refine g_iconst ((-1)) 70 dX9_orders_69 rfl rfl ?_
        refine g_putI 73 dX9_orders_70 rfl flX9_308 (Sm.k j2 s0.1) ?_
        generalize hM3 : (g_wi M2 a0 28 (-1)) = M3
        have j3 : Sm M M3 := by rw [← hM3]; exact (Sm.wi j2)
        replace H := H M3 hM3.symm
        refine g_aload_n 1 74 dX9_orders_73 rfl rfl ?_
        refine g_sipush (2400) 77 dX9_orders_74 rfl rfl ?_
        refine g_putI 80 dX9_orders_77 rfl flX9_440 (Sm.k j3 s0.1) ?_
        generalize hM4 : (g_wi M3 a0 41 2400) = M4
        have j4 : Sm M M4 := by rw [← hM4]; exact (Sm.wi j3)
        replace H := H M4 hM4.symm
        refine g_aload_n 1 81 dX9_orders_80 rfl rfl ?_
        refine g_getI 84 dX9_orders_81 rfl flX9_440 (Sm.k j4 s0.1) ?_
        refine g_aload_n 1 85 dX9_orders_84 rfl rfl ?_
        refine g_getR 88 (a0 + 2) dX9_orders_85 rfl flX9_28 (Sm.k j4 s0.1) (Sm.r j4 s0.2.2.2.1) ?_
        refine g_sipush (211) 91 dX9_orders_88 rfl rfl ?_
        refine h_iaload 92 211 dX9_orders_91 rfl rfl (Sm.k j4 s0.2.2.2.2.1) (vp_lit rfl) ?_
        refine g_iadd 93 dX9_orders_92 rfl ?_
        refine g_istore_n 94 [(2, .int (((g_mi M4 a0 41) + (g_mi M4 (a0 + 2) 211)))), (1, .int ((g_mi M a0 38))), (0, .ref a0)] dX9_orders_93 rfl (Nat.le_of_ble_eq_true rfl) rfl ?_
        refine g_iconst (0) 95 dX9_orders_94 rfl rfl ?_
        refine g_istore_n 96 [(3, .int (0)), (2, .int (((g_mi M4 a0 41) + (g_mi M4 (a0 + 2) 211)))), (1, .int ((g_mi M a0 38))), (0, .ref a0)] dX9_orders_95 rfl (Nat.le_of_ble_eq_true rfl) rfl ?_
        exact g_sub [3, 2, 1, 0] _ rfl (ih.2.1 M4 a0 (g_mi M a0 38) ((g_mi M4 a0 41) + (g_mi M4 (a0 + 2) 211)) 0 0 (Mo.sm j4 s0) H (fun v M1 j r => hR v M1 (Sl.tr (Sm.l j4) j) r))
      · skip
        replace H := H.2 c1
        refine g_aload_n 0 35 dX9_orders_34 rfl rfl ?_
        refine g_getR 38 (a0 + 20) dX9_orders_35 rfl flX9_87 s0.1 s0.2.2.2.2.2.2.2.2.2.2.2.2.2.2.2.2.2.2.2.2.2.2.2.2.2.2.2.2.2.2.2.2.2.2.2.2.2.2.2.1 ?_
        refine g_iload_n 1 39 dX9_orders_38 rfl rfl ?_
        refine g_aload_n 0 40 dX9_orders_39 rfl rfl ?_
        refine g_getR 43 (a0 + 19) dX9_orders_40 rfl flX9_84 s0.1 s0.2.2.2.2.2.2.2.2.2.2.2.2.2.2.2.2.2.2.2.2.2.2.2.2.2.2.2.2.2.2.2.2.2.2.2.2.2.1 ?_
        refine g_iload_n 1 44 dX9_orders_43 rfl rfl ?_
        obtain ⟨b1, H⟩ := H
        refine h_iaload 45 (x1).toNatClampNeg dX9_orders_44 rfl rfl s0.2.2.2.2.2.2.2.2.2.2.2.2.2.2.2.2.2.2.2.2.2.2.2.2.2.2.2.2.2.2.2.2.2.2.2.2.2.2.1 b1 ?_
        refine h_iastore 46 (x1).toNatClampNeg dX9_orders_45 rfl rfl s0.2.2.2.2.2.2.2.2.2.2.2.2.2.2.2.2.2.2.2.2.2.2.2.2.2.2.2.2.2.2.2.2.2.2.2.2.2.2.2.2.1 b1 ?_
        generalize hM5 : (g_wi M (a0 + 20) (x1).toNatClampNeg (g_mi M (a0 + 19) (x1).toNatClampNeg)) = M5
        have j5 : Sm M M5 := by rw [← hM5]; exact (Sm.wi Sm.rf)
        replace H := H M5 hM5.symm
        refine g_iinc _ 1 49 [(1, .int ((x1 + 1))), (0, .ref a0)] dX9_orders_46 rfl rfl rfl (Nat.le_of_ble_eq_true rfl) rfl ?_
        refine g_goto 27 dX9_orders_49 rfl ?_
        exact g_sub [1, 0] _ rfl (ih.1 M5 a0 (x1 + 1) 0 0 0 (Mo.sm j5 s0) H (fun v M1 j r => hR v M1 (Sl.tr (Sm.l j5) j) r))
    · intro M a0 x1 x2 x3 x4 s0 H hR
      rw [qZ9_orders, if_neg (show ¬ (1 : Nat) = 0 by decide), if_pos (show (1 : Nat) = 1 from rfl)] at H
      unfold pZ9_orders_96 at H
      refine g_aload_n 0 97 dX9_orders_96 rfl rfl ?_
      refine g_getI 100 dX9_orders_97 rfl flX9_440 s0.1 ?_
      refine g_iload_n 2 101 dX9_orders_100 rfl rfl ?_
      refine g_icmp_ge 174 104 dX9_orders_101 rfl rfl (fun c1 => ?_) (fun c1 => ?_)
      · skip
        replace H := H.1 c1
        refine g_aload_n 0 175 dX9_orders_174 rfl rfl ?_
        refine g_aload_n 0 176 dX9_orders_175 rfl rfl ?_
        refine g_getI 179 dX9_orders_176 rfl flX9_305 s0.1 ?_
        refine g_callV (mc1 := 0) (ms1 := 0) (b := a0) (rest := []) (av := [.int ((g_mi M a0 27))]) kX9_good0 182 dX9_orders_179 rfl rfl mbX9_14 imX9_good0 seX9_good0 gcl9.1 s0.1 (Nat.le_of_ble_eq_true rfl) (Nat.zero_le _) (Nat.zero_le _) (uX9_good0 (N := N) (K := K) s0 H (fun v1 M1 jj H => ?_))
        have j1 : Sm M M1 := jj
        show Go X (d + K + 14) mc ms kX9_orders Q 182 [(0, .ref a0), (1, .int (x1)), (2, .int (x2)), (3, .int (x3))] [.int (v1)] M1 0 0
        exact g_iret dX9_orders_182 rfl (Nat.zero_le _) (Nat.zero_le _) (hR _ _ (Sm.l j1) H)
      · skip
        replace H := H.2 c1
        refine g_aload_n 0 105 dX9_orders_104 rfl rfl ?_
        refine g_iload_n 2 106 dX9_orders_105 rfl rfl ?_
        refine g_callV (mc1 := 0) (ms1 := 0) (b := a0) (rest := []) (av := [.int (x2)]) kX9_runs 109 dX9_orders_106 rfl rfl mbX9_443 imX9_runs seX9_runs gcl9.1 s0.1 (Nat.le_of_ble_eq_true rfl) (Nat.zero_le _) (Nat.zero_le _) (uZ9_runs (N := N) (K := K) s0 H (fun v2 M2 jj H => ?_))
        have j2 : Sl M M2 := jj
        show Go X (d + K + 14) mc ms kX9_orders Q 109 [(0, .ref a0), (1, .int (x1)), (2, .int (x2)), (3, .int (x3))] [.int (v2)] M2 0 0
        refine g_if_eq 115 112 dX9_orders_109 rfl rfl (fun c2 => ?_) (fun c2 => ?_)
        · skip
          replace H := H.1 c2
          refine g_aload_n 0 116 dX9_orders_115 rfl rfl ?_
          refine g_iconst (1) 117 dX9_orders_116 rfl rfl ?_
          refine g_callV (mc1 := 0) (ms1 := 0) (b := a0) (rest := []) (av := [.int (1)]) kX9_takesBack 120 dX9_orders_117 rfl rfl mbX9_446 imX9_takesBack seX9_takesBack gcl9.1 (Sl.k j2 s0.1) (Nat.le_of_ble_eq_true rfl) (Nat.zero_le _) (Nat.zero_le _) (uX9_takesBack (N := N) (K := K) (Mo.sl j2 s0) H (fun M3 jj H => ?_))
          have j3 : Sl M M3 := Sl.tr j2 (Sm.l jj)
          show Go X (d + K + 14) mc ms kX9_orders Q 120 [(0, .ref a0), (1, .int (x1)), (2, .int (x2)), (3, .int (x3))] [] M3 0 0
          refine g_iconst (0) 121 dX9_orders_120 rfl rfl ?_
          refine g_istore 123 [(4, .int (0)), (0, .ref a0), (1, .int (x1)), (2, .int (x2)), (3, .int (x3))] dX9_orders_121 rfl (Nat.le_of_ble_eq_true rfl) rfl ?_
          exact g_sub [1, 2, 4, 0] _ rfl (ih.2.2 M3 a0 x1 0 x3 0 (Mo.sl j3 s0) H (fun v M1 j r => hR v M1 (Sl.tr j3 j) r))
        · skip
          replace H := H.2 c2
          refine g_goto 168 dX9_orders_112 rfl ?_
          refine g_iinc _ 3 171 [(3, .int ((x3 + 1))), (0, .ref a0), (1, .int (x1)), (2, .int (x2))] dX9_orders_168 rfl rfl rfl (Nat.le_of_ble_eq_true rfl) rfl ?_
          refine g_goto 96 dX9_orders_171 rfl ?_
          exact g_sub [1, 2, 3, 0] _ rfl (ih.2.1 M2 a0 x1 x2 (x3 + 1) 0 (Mo.sl j2 s0) H (fun v M1 j r => hR v M1 (Sl.tr j2 j) r))
    · intro M a0 x1 x2 x3 x4 s0 H hR
      rw [qZ9_orders, if_neg (show ¬ (2 : Nat) = 0 by decide), if_neg (show ¬ (2 : Nat) = 1 by decide)] at H
      unfold pZ9_orders_123 at H
      refine g_iload 3 125 dX9_orders_123 rfl rfl ?_
      refine g_sipush (3024) 128 dX9_orders_125 rfl rfl ?_
      refine g_icmp_ge 151 131 dX9_orders_128 rfl rfl (fun c1 => ?_) (fun c1 => ?_)
      · skip
        replace H := H.1 c1
        refine g_aload_n 0 152 dX9_orders_151 rfl rfl ?_
        refine g_iload_n 1 153 dX9_orders_152 rfl rfl ?_
        refine g_putI 156 dX9_orders_153 rfl flX9_11 s0.1 ?_
        generalize hM1 : (g_wi M a0 38 x1) = M1
        have j1 : Sm M M1 := by rw [← hM1]; exact (Sm.wi Sm.rf)
        replace H := H M1 hM1.symm
        refine g_aload_n 0 157 dX9_orders_156 rfl rfl ?_
        refine g_iload_n 2 158 dX9_orders_157 rfl rfl ?_
        refine g_putI 161 dX9_orders_158 rfl flX9_94 (Sm.k j1 s0.1) ?_
        generalize hM2 : (g_wi M1 a0 40 x3) = M2
        have j2 : Sm M M2 := by rw [← hM2]; exact (Sm.wi j1)
        replace H := H M2 hM2.symm
        refine g_aload_n 0 162 dX9_orders_161 rfl rfl ?_
        refine g_bipush ((-3)) 164 dX9_orders_162 rfl rfl ?_
        refine g_callV (mc1 := 0) (ms1 := 0) (b := a0) (rest := []) (av := [.int ((-3))]) kX9_refuses 167 dX9_orders_164 rfl rfl mbX9_103 imX9_refuses seX9_refuses gcl9.1 (Sm.k j2 s0.1) (Nat.le_of_ble_eq_true rfl) (Nat.zero_le _) (Nat.zero_le _) (uX9_refuses (N := N) (K := K) (Mo.sm j2 s0) H (fun v1 M3 jj H => ?_))
        have j3 : Sm M M3 := Sm.tr j2 jj
        show Go X (d + K + 14) mc ms kX9_orders Q 167 [(0, .ref a0), (1, .int (x1)), (3, .int (x3)), (4, .int (x4))] [.int (v1)] M3 0 0
        exact g_iret dX9_orders_167 rfl (Nat.zero_le _) (Nat.zero_le _) (hR _ _ (Sm.l j3) H)
      · skip
        replace H := H.2 c1
        refine g_aload_n 0 132 dX9_orders_131 rfl rfl ?_
        refine g_getR 135 (a0 + 19) dX9_orders_132 rfl flX9_84 s0.1 s0.2.2.2.2.2.2.2.2.2.2.2.2.2.2.2.2.2.2.2.2.2.2.2.2.2.2.2.2.2.2.2.2.2.2.2.2.2.1 ?_
        refine g_iload 3 137 dX9_orders_135 rfl rfl ?_
        refine g_aload_n 0 138 dX9_orders_137 rfl rfl ?_
        refine g_getR 141 (a0 + 20) dX9_orders_138 rfl flX9_87 s0.1 s0.2.2.2.2.2.2.2.2.2.2.2.2.2.2.2.2.2.2.2.2.2.2.2.2.2.2.2.2.2.2.2.2.2.2.2.2.2.2.2.1 ?_
        refine g_iload 3 143 dX9_orders_141 rfl rfl ?_
        obtain ⟨b1, H⟩ := H
        refine h_iaload 144 (x4).toNatClampNeg dX9_orders_143 rfl rfl s0.2.2.2.2.2.2.2.2.2.2.2.2.2.2.2.2.2.2.2.2.2.2.2.2.2.2.2.2.2.2.2.2.2.2.2.2.2.2.2.2.1 b1 ?_
        refine h_iastore 145 (x4).toNatClampNeg dX9_orders_144 rfl rfl s0.2.2.2.2.2.2.2.2.2.2.2.2.2.2.2.2.2.2.2.2.2.2.2.2.2.2.2.2.2.2.2.2.2.2.2.2.2.2.1 b1 ?_
        generalize hM4 : (g_wi M (a0 + 19) (x4).toNatClampNeg (g_mi M (a0 + 20) (x4).toNatClampNeg)) = M4
        have j4 : Sm M M4 := by rw [← hM4]; exact (Sm.wi Sm.rf)
        replace H := H M4 hM4.symm
        refine g_iinc _ 3 148 [(4, .int ((x4 + 1))), (0, .ref a0), (1, .int (x1)), (3, .int (x3))] dX9_orders_145 rfl rfl rfl (Nat.le_of_ble_eq_true rfl) rfl ?_
        refine g_goto 123 dX9_orders_148 rfl ?_
        exact g_sub [1, 2, 3, 0] _ rfl (ih.2.2 M4 a0 x1 0 x3 (x4 + 1) (Mo.sm j4 s0) H (fun v M1 j r => hR v M1 (Sl.tr (Sm.l j4) j) r))
set_option maxRecDepth 10000 in
theorem uZ9_orders {N K : Nat} {X : gX} {d mc ms : Nat} {Q : Option Value → gM → Prop} {M : gM} {a0 : Nat} {R : Int32 → gM → Prop} (s0 : Mo M a0) (H : pZ9_orders N K M a0 R) (hR : ∀ (v : Int32) (M1 : gM), Sl M M1 → R v M1 → Q (some (.int v)) M1) : Cn X (d + K + 14) mc ms kX9_orders [.ref a0] M Q := by
  have ih := ulZ9_orders (X := X) (d := d) (mc := mc) (ms := ms) (Q := Q) (N := N) (K := K) (R := R) N
  unfold pZ9_orders pZ9_orders_0 at H
  refine g_meth rfl rfl (Nat.le_of_ble_eq_true rfl) rfl ?_
  refine g_aload_n 0 1 dX9_orders_0 rfl rfl ?_
  refine g_iconst ((-1)) 2 dX9_orders_1 rfl rfl ?_
  refine g_putI 5 dX9_orders_2 rfl flX9_94 s0.1 ?_
  generalize hM1 : (g_wi M a0 40 (-1)) = M1
  have j1 : Sm M M1 := by rw [← hM1]; exact (Sm.wi Sm.rf)
  replace H := H M1 hM1.symm
  refine g_aload_n 0 6 dX9_orders_5 rfl rfl ?_
  refine g_iconst (1) 7 dX9_orders_6 rfl rfl ?_
  refine g_callV (mc1 := 0) (ms1 := 0) (b := a0) (rest := []) (av := [.int (1)]) kX9_readsAs 10 dX9_orders_7 rfl rfl mbX9_256 imX9_readsAs seX9_readsAs gcl9.1 (Sm.k j1 s0.1) (Nat.le_of_ble_eq_true rfl) (Nat.zero_le _) (Nat.zero_le _) (Cn.cd (show d + 5 + K + 8 = d + K + 13 by omega) (uX9_readsAs (d := d + 5) (N := N) (K := K) (Mo.sm j1 s0) H (fun v1 M2 jj H => ?_)))
  have j2 : Sm M M2 := Sm.tr j1 jj
  show Go X (d + K + 14) mc ms kX9_orders Q 10 [(0, .ref a0)] [.int (v1)] M2 0 0
  refine g_if_ne 20 13 dX9_orders_10 rfl rfl (fun c1 => ?_) (fun c1 => ?_)
  · skip
    replace H := H.1 c1
    refine g_aload_n 0 21 dX9_orders_20 rfl rfl ?_
    refine g_iconst (1) 22 dX9_orders_21 rfl rfl ?_
    refine g_callV (mc1 := 0) (ms1 := 0) (b := a0) (rest := []) (av := [.int (1)]) kX9_laysAside 25 dX9_orders_22 rfl rfl mbX9_365 imX9_laysAside seX9_laysAside gcl9.1 (Sm.k j2 s0.1) (Nat.le_of_ble_eq_true rfl) (Nat.zero_le _) (Nat.zero_le _) (uX9_laysAside (N := N) (K := K) (Mo.sm j2 s0) H (fun M3 jj H => ?_))
    have j3 : Sm M M3 := Sm.tr j2 jj
    show Go X (d + K + 14) mc ms kX9_orders Q 25 [(0, .ref a0)] [] M3 0 0
    refine g_iconst (0) 26 dX9_orders_25 rfl rfl ?_
    refine g_istore_n 27 [(1, .int (0)), (0, .ref a0)] dX9_orders_26 rfl (Nat.le_of_ble_eq_true rfl) rfl ?_
    exact g_sub [1, 0] _ rfl (ih.1 M3 a0 0 0 0 0 (Mo.sm j3 s0) H (fun v M1 j r => hR v M1 (Sl.tr (Sm.l j3) j) r))
  · skip
    replace H := H.2 c1
    refine g_aload_n 0 14 dX9_orders_13 rfl rfl ?_
    refine g_bipush ((-6)) 16 dX9_orders_14 rfl rfl ?_
    refine g_callV (mc1 := 0) (ms1 := 0) (b := a0) (rest := []) (av := [.int ((-6))]) kX9_refuses 19 dX9_orders_16 rfl rfl mbX9_103 imX9_refuses seX9_refuses gcl9.1 (Sm.k j2 s0.1) (Nat.le_of_ble_eq_true rfl) (Nat.zero_le _) (Nat.zero_le _) (uX9_refuses (N := N) (K := K) (Mo.sm j2 s0) H (fun v2 M4 jj H => ?_))
    have j4 : Sm M M4 := Sm.tr j2 jj
    show Go X (d + K + 14) mc ms kX9_orders Q 19 [(0, .ref a0)] [.int (v2)] M4 0 0
    exact g_iret dX9_orders_19 rfl (Nat.zero_le _) (Nat.zero_le _) (hR _ _ (Sm.l j4) H)
